/-! the reference's table of states: its slots -/
theorem st_IL (σ : st_T) (a k : Nat) (v : Int64) (b j : Nat) : st_I (pt_L σ a k v) b j = st_I σ b j := rfl
theorem st_LI (σ : st_T) (a k : Nat) (v : Int32) (b j : Nat) : st_L (pt_I σ a k v) b j = st_L σ b j := rfl
section RT
variable {γ : ga_T} {σ : st_T} {π : Nat → Nat → Nat} {N c : Nat} {M : List (Nat × Int64)}
/-- the slots hold the numbers under k of the states f, each where it is looked for -/
def Su_ (π : Nat → Nat → Nat) (N : Nat) (sl f : Nat → Nat) (k : Nat) : Prop := (∀ s, s < N → sl s ≤ k) ∧ (∀ s s', s < N → s' < N → sl s = sl s' → sl s ≠ 0 → s = s') ∧
  ∀ i, i < k → ∃ q, q < N ∧ sl (π (f i) q) = i + 1 ∧ ∀ q', q' < q → sl (π (f i) q') ≠ 0
def Sq_ (π : Nat → Nat → Nat) (sl f : Nat → Nat) (w q : Nat) : Prop := sl (π w q) = 0 ∨ f (sl (π w q) - 1) = w
theorem su_find (hex : ∀ w s, s < N → ∃ q, q < N ∧ π w q = s) {sl f : Nat → Nat} {k : Nat} (h1 : Su_ π N sl f k) (h2 : k < N) (w : Nat) : ∃ q, q < N ∧ Sq_ π sl f w q ∧ ∀ q', q' < q → ¬ Sq_ π sl f w q' := by
  have y : ∃ s, s < N ∧ sl s = 0 := by
    by_cases y : ∃ s, s < N ∧ sl s = 0
    · exact y
    · have y1 : ∀ s, s < N → sl s ≠ 0 := fun s z1 z2 => y ⟨s, z1, z2⟩
      have y2 := ph_ k N (fun s => sl s - 1) (fun i z => by
        have y3 := y1 i z
        have y4 := h1.1 i z
        show sl i - 1 < k
        omega) (fun i j z1 z2 z3 => by
        have y3 := y1 i z1
        have y4 := y1 j z2
        exact h1.2.1 i j z1 z2 (by
          have y5 : sl i - 1 = sl j - 1 := z3
          omega) y3)
      omega
  obtain ⟨s, y1, y2⟩ := y
  obtain ⟨q, y3, y4⟩ := hex w s y1
  obtain ⟨q0, z1, z2, z3⟩ := ls_ (Sq_ π sl f w) q (Or.inl (by rw [y4]; exact y2))
  exact ⟨q0, by omega, z2, z3⟩
theorem su_out {sl f : Nat → Nat} {k w q : Nat} (h1 : Su_ π N sl f k) (h2 : sl (π w q) = 0) (h3 : ∀ q', q' < q → ¬ Sq_ π sl f w q') : ∀ i, i < k → f i ≠ w := by
  intro i z1 z2
  obtain ⟨q1, y1, y2, y3⟩ := h1.2.2 i z1
  rw [z2] at y2 y3
  by_cases y : q1 < q
  · refine h3 q1 y (Or.inr ?_)
    rw [y2]
    exact z2
  · by_cases y4 : q < q1
    · exact y3 q y4 h2
    · rw [show q1 = q by omega] at y2
      omega
theorem su_put {sl f : Nat → Nat} {k q : Nat} (h1 : Su_ π N sl f k) (h2 : sl (π (f k) q) = 0) (h3 : ∀ q', q' < q → ¬ Sq_ π sl f (f k) q') (h4 : q < N) : Su_ π N (fun s => if s = π (f k) q then k + 1 else sl s) f (k + 1) := by
  refine ⟨fun s z => ?_, fun s s' z1 z2 z3 z4 => ?_, fun i z => ?_⟩
  · have y := h1.1 s z
    dsimp only
    split
    · omega
    · omega
  · dsimp only at z3 z4
    have y1 := h1.1 s z1
    have y2 := h1.1 s' z2
    by_cases y : s = π (f k) q
    · by_cases x : s' = π (f k) q
      · rw [y, x]
      · rw [if_pos y, if_neg x] at z3
        omega
    · by_cases x : s' = π (f k) q
      · rw [if_neg y, if_pos x] at z3
        omega
      · rw [if_neg y, if_neg x] at z3
        rw [if_neg y] at z4
        exact h1.2.1 s s' z1 z2 z3 z4
  · by_cases y : i < k
    · obtain ⟨q1, y1, y2, y3⟩ := h1.2.2 i y
      refine ⟨q1, y1, ?_, fun q' y4 => ?_⟩
      · dsimp only
        rw [if_neg (fun x => by rw [x, h2] at y2; omega)]
        exact y2
      · dsimp only
        split
        · omega
        · exact y3 q' y4
    · have y1 : i = k := by omega
      subst y1
      refine ⟨q, h4, if_pos rfl, fun q' y4 => ?_⟩
      dsimp only
      split
      · omega
      · exact fun y5 => h3 q' y4 (Or.inl y5)
theorem su_0 (f : Nat → Nat) : Su_ π N (fun _ => 0) f 0 := ⟨fun _ _ => Nat.le_refl _, fun _ _ _ _ _ z => absurd rfl z, fun i z => absurd z (Nat.not_lt_zero i)⟩
theorem su_cg (hlt : ∀ w q, π w q < N) {sl sl' f f' : Nat → Nat} {k : Nat} (h1 : Su_ π N sl f k) (h2 : ∀ s, s < N → sl' s = sl s) (h3 : ∀ i, i < k → f' i = f i) : Su_ π N sl' f' k := by
  refine ⟨fun s z => by rw [h2 s z]; exact h1.1 s z, fun s s' z1 z2 z3 z4 => ?_, fun i z => ?_⟩
  · rw [h2 s z1, h2 s' z2] at z3
    rw [h2 s z1] at z4
    exact h1.2.1 s s' z1 z2 z3 z4
  · obtain ⟨q, y1, y2, y3⟩ := h1.2.2 i z
    rw [h3 i z]
    exact ⟨q, y1, by rw [h2 _ (hlt _ _)]; exact y2, fun q' y4 => by rw [h2 _ (hlt _ _)]; exact y3 q' y4⟩
/-- where the reference looks -/
def rx_ (w : Nat) : Int32 := ((((lN w * (6364136223846793005 : Int64)).toUInt64 >>> ((40 : Int32).toInt64.toUInt64 &&& Int64.toUInt64 63)).toInt64).toInt32) &&& (65535 : Int32)
def rh_ (w : Nat) : Nat := (rx_ w).toNatClampNeg
theorem rm3_ (x : Int32) : x &&& (65535 : Int32) = i_ ((x.toBitVec.toNat % 2 ^ 16 : Nat) : Int) := by
  have y := i_low x (e := 16) (by decide)
  rw [show i_ ((2 ^ 16 : Nat) : Int) - (1 : Int32) = (65535 : Int32) by decide] at y
  exact y
theorem rh_eq (w : Nat) : rh_ w < 65536 ∧ rx_ w = i_ (rh_ w : Int) := by
  unfold rh_
  unfold rx_
  rw [rm3_]
  generalize ((((lN w * (6364136223846793005 : Int64)).toUInt64 >>> ((40 : Int32).toInt64.toUInt64 &&& Int64.toUInt64 63)).toInt64).toInt32).toBitVec.toNat = m
  have p3 := Nat.mod_lt m (show 0 < 2 ^ 16 by decide)
  rw [i_cl (by omega), Int.toNat_natCast]
  exact ⟨p3, rfl⟩
def rp_ (w q : Nat) : Nat := (rh_ w + q) % 65536
theorem rp_lt (w q : Nat) : rp_ w q < 65536 := Nat.mod_lt _ (by decide)
theorem rp_ex (w s : Nat) (y : s < 65536) : ∃ q, q < 65536 ∧ rp_ w q = s := by
  have y1 := (rh_eq w).1
  by_cases y2 : rh_ w ≤ s
  · refine ⟨s - rh_ w, by omega, ?_⟩
    unfold rp_
    rw [show rh_ w + (s - rh_ w) = s by omega, Nat.mod_eq_of_lt y]
  · refine ⟨s + 65536 - rh_ w, by omega, ?_⟩
    unfold rp_
    rw [show rh_ w + (s + 65536 - rh_ w) = s + 65536 by omega, Nat.add_mod_right, Nat.mod_eq_of_lt y]
theorem rp_next (w q : Nat) : (i_ (rp_ w q : Int) + (1 : Int32)) &&& (65535 : Int32) = i_ (rp_ w (q + 1) : Int) := by
  have p3 := rp_lt w q
  rw [rm3_, k1_, i_add, show ((rp_ w q : Nat) : Int) + 1 = ((rp_ w q + 1 : Nat) : Int) by omega, i_bv, BitVec.toNat_ofNat, Nat.mod_eq_of_lt (show rp_ w q + 1 < 2 ^ 32 by omega)]
  unfold rp_
  rw [show (2 : Nat) ^ 16 = 65536 from rfl, Nat.mod_add_mod, Nat.add_assoc]
theorem rp_0 (w : Nat) : rx_ w = i_ (rp_ w 0 : Int) := by
  unfold rp_
  rw [(rh_eq w).2, Nat.add_zero, Nat.mod_eq_of_lt (rh_eq w).1]
/-- the table holds the list -/
def Ri_ (σ : st_T) (M : List (Nat × Int64)) (c : Nat) : Prop := st_I σ 185 39 = i_ (M.length : Int) ∧ st_I σ 185 40 = i_ (c : Int) ∧ ∀ i x, M[i]? = some x → st_L σ 204 i = lN x.1 ∧ st_L σ 205 i = x.2 ∧ x.1 < 9223372036854775808
def Rz_ (σ : st_T) (c : Nat) (sl : Nat → Nat) : Prop := ∀ p, p < 65536 → (sl p = 0 → ∃ z : Int, z < c ∧ 0 ≤ z ∧ st_I σ 207 p = i_ z) ∧ (sl p ≠ 0 → st_I σ 207 p = i_ (c : Int) ∧ st_I σ 206 p = i_ ((sl p - 1 : Nat) : Int))
def Rk_ (σ : st_T) (M : List (Nat × Int64)) (c : Nat) : Prop := c < 1073741824 ∧ M.length ≤ 65535 ∧ Ri_ σ M c ∧ (∃ sl, Rz_ σ c sl ∧ Su_ rp_ 65536 sl (wa_ M) M.length) ∧ Nd_ M
theorem l_rslot (zw : Wd σ) (hc : c < 1073741824) (hM : M.length ≤ 65535) (zT : Ri_ σ M c) {sl : Nat → Nat} {w q : Nat} (g : Nat → Nat) (g1 : ∀ i, g i < 65536) (g2 : ∀ i, (i_ (g i : Int) + (1 : Int32)) &&& (65535 : Int32) = i_ (g (i + 1) : Int)) (z1 : Rz_ σ c sl) (z2 : ∀ s, s < 65536 → sl s ≤ M.length) (z4 : w < 9223372036854775808) (z6 : sl (g q) = 0 ∨ wa_ M (sl (g q) - 1) = w) (z7 : ∀ q', q' < q → ¬ (sl (g q') = 0 ∨ wa_ M (sl (g q') - 1) = w)) {Q : rs_T → st_T → Prop} (zQ : Q (.inl (some (.int (i_ (g q : Int))))) σ) :
    ∀ j i : Nat, j + i = q → vv_ γ m_X12_slotOf 0 17 [(0, .ref 185), (1, .long (lN w)), (5, .int (i_ (g i : Int)))] [] σ Q := by
  intro j
  induction j with
  | zero =>
    intro i zi
    have zi : i = q := by omega
    subst zi
    have y3 := g1 i
    have y4 := z2 _ y3
    have y5 := z1 _ y3
    refine g_X12_slotOf_17 zw ?_
    unfold p_X12_slotOf_17
    rw [i_cl (by omega), Int.toNat_natCast, zT.2.1]
    refine ⟨i_in (by omega) (by omega) (by omega), fun z => ?_, fun _ => zQ⟩
    have y6 : sl (g i) ≠ 0 := fun e => by
      obtain ⟨x, x1, x2, x3⟩ := y5.1 e
      rw [x3, i_eq (by omega) (by omega)] at z
      omega
    rw [(y5.2 y6).2]
    refine ⟨i_in (by omega) (by omega) (by omega), i_in (by omega) (by omega) (by omega), ?_⟩
    obtain ⟨x, hx⟩ : ∃ x, M[sl (g i) - 1]? = some x := ⟨_, List.getElem?_eq_getElem (by omega)⟩
    rw [i_cl (by omega), Int.toNat_natCast, (zT.2.2 _ _ hx).1]
    rcases z6 with y7 | y7
    · exact absurd y7 y6
    · rw [wa_eq hx] at y7
      rw [y7]
      exact ⟨fun _ => zQ, fun z => absurd rfl z⟩
  | succ j ih =>
    intro i zi
    have y3 := g1 i
    have y9 := ih (i + 1) (by omega)
    have y4 := z2 _ y3
    have y5 := z1 _ y3
    have y8 := z7 i (by omega)
    have y6 : sl (g i) ≠ 0 := fun e => y8 (Or.inl e)
    refine g_X12_slotOf_17 zw ?_
    unfold p_X12_slotOf_17
    rw [i_cl (by omega), Int.toNat_natCast, zT.2.1]
    refine ⟨i_in (by omega) (by omega) (by omega), fun z => ?_, fun z => absurd (y5.2 y6).1 z⟩
    rw [(y5.2 y6).2]
    refine ⟨i_in (by omega) (by omega) (by omega), i_in (by omega) (by omega) (by omega), ?_⟩
    obtain ⟨x, hx⟩ : ∃ x, M[sl (g i) - 1]? = some x := ⟨_, List.getElem?_eq_getElem (by omega)⟩
    have y10 := (zT.2.2 _ _ hx).2.2
    rw [i_cl (by omega), Int.toNat_natCast, (zT.2.2 _ _ hx).1, lN_inj (Nat.lt_trans y10 (by decide)) (Nat.lt_trans z4 (by decide))]
    refine ⟨fun z => absurd (Or.inr (by rw [wa_eq hx]; exact z)) y8, fun z => ?_⟩
    rw [g2 i]
    exact y9
theorem c_rslot (zw : Wd σ) (zT : Rk_ σ M c) {w : Nat} (z4 : w < 9223372036854775808) {sl : Nat → Nat} (z1 : Rz_ σ c sl) (z2 : Su_ rp_ 65536 sl (wa_ M) M.length) :
    ∃ s : Nat, s < 65536 ∧ fn_ γ m_X12_slotOf 0 [.ref 185, .long (lN w)] σ (.int (i_ (s : Int))) σ ∧
      ((sl s = 0 ∧ (∀ i, i < M.length → wa_ M i ≠ w) ∧ ∀ f : Nat → Nat, (∀ i, i < M.length → f i = wa_ M i) → f M.length = w → Su_ rp_ 65536 (fun j => if j = s then M.length + 1 else sl j) f (M.length + 1)) ∨ (1 ≤ sl s ∧ sl s ≤ M.length ∧ wa_ M (sl s - 1) = w)) := by
  obtain ⟨hc, hM, zI, -, hN⟩ := zT
  obtain ⟨q, y1, y2, y3⟩ := su_find rp_ex z2 (show M.length < 65536 by omega) w
  refine ⟨rp_ w q, rp_lt w q, fn_q (fun Q zQ => e_X12_slotOf zw ?_), ?_⟩
  · unfold p_X12_slotOf_0
    have y6 := l_rslot (γ := γ) zw hc hM zI (rp_ w) (rp_lt w) (rp_next w) z1 z2.1 z4 y2 y3 zQ q 0 (by omega)
    rw [← rp_0 w] at y6
    exact y6
  · by_cases y : sl (rp_ w q) = 0
    · refine Or.inl ⟨y, su_out z2 y y3, fun f f1 f2 => ?_⟩
      subst f2
      refine su_put (su_cg rp_lt z2 (fun _ _ => rfl) f1) y (fun q' z6 z7 => y3 q' z6 ?_) y1
      rcases z7 with z7 | z7
      · exact Or.inl z7
      · by_cases z8 : sl (rp_ (f M.length) q') = 0
        · exact Or.inl z8
        · refine Or.inr ?_
          have z9 := z2.1 _ (rp_lt (f M.length) q')
          rw [f1 _ (by omega)] at z7
          exact z7
    · refine Or.inr ⟨Nat.pos_of_ne_zero y, z2.1 _ (rp_lt w q), ?_⟩
      rcases y2 with y2 | y2
      · exact absurd y2 y
      · exact y2
def dT_ (a k : Nat) : Prop := (204 ≤ a ∧ a ≤ 207) ∨ (a = 185 ∧ k = 39)
/-- a state is looked up, or laid: its number -/
theorem c_rstateOf (zw : Wd σ) (zT : Rk_ σ M c) {w : Nat} (z4 : w < 9223372036854775808) (hroom : (∀ i, i < M.length → wa_ M i ≠ w) → M.length + 1 ≤ 65535) :
    ∃ (s : st_T) (M' : List (Nat × Int64)) (j : Nat) (y : Int64), fn_ γ m_X12_stateOf 1 [.ref 185, .long (lN w)] σ (.int (i_ (j : Int))) s ∧ Rk_ s M' c ∧ ro_ dT_ σ s ∧ M'[j]? = some (w, y) ∧
      ((M' = M ∧ ∀ i, i < j → wa_ M i ≠ w) ∨ (M' = M ++ [(w, 0)] ∧ y = 0 ∧ j = M.length ∧ ∀ i, i < M.length → wa_ M i ≠ w)) := by
  obtain ⟨hc, hM, zI, ⟨sl, z1, z2⟩, hN⟩ := id zT
  obtain ⟨p, p1, p2, p3⟩ := c_rslot (γ := γ) zw zT z4 z1 z2
  obtain ⟨i1, i2, i3⟩ := id zI
  rcases p3 with ⟨e1, e2, e3⟩ | ⟨e1, e2, e3⟩
  · have hr := hroom e2
    have f1 := e3 (wa_ (M ++ [(w, 0)])) (fun i z => wa_app z) wa_last
    obtain ⟨x, x1, x2, x3⟩ := (z1 p p1).1 e1
    refine ⟨pt_I (pt_L (pt_L (pt_I (pt_I σ 207 p (i_ (c : Int))) 206 p (i_ (M.length : Int))) 204 M.length (lN w)) 205 M.length 0) 185 39 (i_ ((M.length + 1 : Nat) : Int)), M ++ [(w, 0)], M.length, 0, fn_q (fun Q zQ => e_X12_stateOf zw ?_), ⟨hc, by rw [List.length_append]; exact hr, ⟨?_, ?_, fun i y z => ?_⟩, ⟨fun j => if j = p then M.length + 1 else sl j, fun j zj => ⟨fun h => ?_, fun h => ?_⟩, ?_⟩, fun i j a1 a2 a3 => ?_⟩, ?_, ?_, Or.inr ⟨rfl, rfl, rfl, e2⟩⟩
    · unfold p_X12_stateOf_0
      refine ⟨_, σ, zw, p2, ?_⟩
      rw [i_cl (by omega), Int.toNat_natCast, i2, x3]
      refine ⟨i_in (by omega) (by omega) (by omega), fun z => ?_, fun _ => ⟨i_in (by omega) (by omega) (by omega), i_in (by omega) (by omega) (by omega), ?_, ?_, i_in (by omega) (by omega) (by omega), ?_⟩⟩
      · rw [i_eq (by omega) (by omega)] at z
        omega
      · rw [i1]
        exact i_in (by omega) (by omega) (by omega)
      · rw [i1]
        exact i_in (by omega) (by omega) (by omega)
      · rw [i1, st_sI, i_cl (by omega), Int.toNat_natCast, k1_, i_add, show (M.length : Int) + 1 = ((M.length + 1 : Nat) : Int) by omega]
        exact zQ
    · rw [List.length_append]
      exact st_sI _ _ _ _
    · exact i2
    · by_cases y0 : i < M.length
      · rw [List.getElem?_append_left y0] at z
        obtain ⟨k1, k2, k3⟩ := i3 i y z
        refine ⟨?_, ?_, k3⟩
        · show (if 204 = 205 ∧ i = M.length then (0 : Int64) else if 204 = 204 ∧ i = M.length then lN w else st_L σ 204 i) = _
          rw [if_neg (by omega), if_neg (by omega)]
          exact k1
        · show (if 205 = 205 ∧ i = M.length then (0 : Int64) else if 205 = 204 ∧ i = M.length then lN w else st_L σ 205 i) = _
          rw [if_neg (by omega), if_neg (by omega)]
          exact k2
      · have y1 := (List.getElem?_eq_some_iff.mp z).1
        rw [List.length_append] at y1
        have y2 : i = M.length := by
          simp at y1
          omega
        subst y2
        rw [List.getElem?_append_right (Nat.le_refl _), Nat.sub_self] at z
        have z : some (w, (0 : Int64)) = some y := z
        rw [← Option.some.inj z]
        refine ⟨?_, ?_, z4⟩
        · show (if 204 = 205 ∧ M.length = M.length then (0 : Int64) else if 204 = 204 ∧ M.length = M.length then lN w else st_L σ 204 M.length) = _
          rw [if_neg (by omega), if_pos ⟨rfl, rfl⟩]
        · show (if 205 = 205 ∧ M.length = M.length then (0 : Int64) else _) = _
          rw [if_pos ⟨rfl, rfl⟩]
    · dsimp only at h
      by_cases ej : j = p
      · rw [if_pos ej] at h
        omega
      · rw [if_neg ej] at h
        obtain ⟨a, a1, a2, a3⟩ := (z1 j zj).1 h
        refine ⟨a, a1, a2, ?_⟩
        rw [st_pI, if_neg (by omega), st_IL, st_IL, st_pI, if_neg (by omega), st_pI, if_neg (by omega)]
        exact a3
    · dsimp only at h ⊢
      by_cases ej : j = p
      · rw [if_pos ej]
        refine ⟨?_, ?_⟩
        · rw [st_pI, if_neg (by omega), st_IL, st_IL, st_pI, if_neg (by omega), st_pI, if_pos ⟨rfl, ej⟩]
        · rw [st_pI, if_neg (by omega), st_IL, st_IL, st_pI, if_pos ⟨rfl, ej⟩]
          rfl
      · rw [if_neg ej] at h ⊢
        obtain ⟨a1, a2⟩ := (z1 j zj).2 h
        refine ⟨?_, ?_⟩
        · rw [st_pI, if_neg (by omega), st_IL, st_IL, st_pI, if_neg (by omega), st_pI, if_neg (by omega)]
          exact a1
        · rw [st_pI, if_neg (by omega), st_IL, st_IL, st_pI, if_neg (by omega), st_pI, if_neg (by omega)]
          exact a2
    · rw [List.length_append]
      exact f1
    · rw [List.length_append] at a1 a2
      have b1 : i ≤ M.length := by
        simp at a1
        omega
      have b2 : j ≤ M.length := by
        simp at a2
        omega
      by_cases y1 : i = M.length
      · by_cases y2 : j = M.length
        · omega
        · rw [y1, wa_last, wa_app (by omega)] at a3
          exact absurd a3.symm (e2 j (by omega))
      · by_cases y2 : j = M.length
        · rw [y2, wa_last, wa_app (by omega)] at a3
          exact absurd a3 (e2 i (by omega))
        · rw [wa_app (by omega), wa_app (by omega)] at a3
          exact hN i j (by omega) (by omega) a3
    · exact ro_I (ro_L (ro_L (ro_I (ro_I ro_rf (Or.inl ⟨by decide, by decide⟩)) (Or.inl ⟨by decide, by decide⟩)) (Or.inl ⟨by decide, by decide⟩)) (Or.inl ⟨by decide, by decide⟩)) (Or.inr ⟨rfl, rfl⟩)
    · rw [List.getElem?_append_right (Nat.le_refl _), Nat.sub_self]
      rfl
  · obtain ⟨x, hx⟩ : ∃ x, M[sl p - 1]? = some x := ⟨_, List.getElem?_eq_getElem (by omega)⟩
    obtain ⟨a1, a2⟩ := (z1 p p1).2 (by omega)
    have hxw : x.1 = w := by rw [← wa_eq hx]; exact e3
    refine ⟨σ, M, sl p - 1, x.2, fn_q (fun Q zQ => e_X12_stateOf zw ?_), zT, ro_rf, by rw [hx, ← hxw], Or.inl ⟨rfl, fun i zi e => ?_⟩⟩
    · unfold p_X12_stateOf_0
      refine ⟨_, σ, zw, p2, ?_⟩
      rw [i_cl (by omega), Int.toNat_natCast, i2, a1, a2]
      exact ⟨i_in (by omega) (by omega) (by omega), fun _ => ⟨i_in (by omega) (by omega) (by omega), zQ⟩, fun z => absurd rfl z⟩
    · have := hN i (sl p - 1) (by omega) (by omega) (by rw [e, e3])
      omega
end RT
