/-! the table of states: where a state is looked for -/
section TB
theorem ph_ : ∀ (m n : Nat) (f : Nat → Nat), (∀ i, i < n → f i < m) → (∀ i j, i < n → j < n → f i = f j → i = j) → n ≤ m := by
  intro m
  induction m with
  | zero =>
    intro n f q1 _
    cases n with
    | zero => exact Nat.le_refl _
    | succ k => exact absurd (q1 0 (Nat.succ_pos k)) (Nat.not_lt_zero _)
  | succ m ih =>
    intro n f q1 q2
    cases n with
    | zero => exact Nat.zero_le _
    | succ k =>
      refine Nat.succ_le_succ (ih k (fun i => if f i = m then f k else f i) (fun i z => ?_) (fun i j z1 z2 z3 => ?_))
      · have y1 := q1 i (by omega)
        have y2 := q1 k (by omega)
        by_cases y : f i = m
        · rw [if_pos y]
          have y3 : f k ≠ m := fun e => by
            have y4 := q2 i k (by omega) (by omega) (by omega)
            omega
          omega
        · rw [if_neg y]
          omega
      · apply q2 i j (by omega) (by omega)
        by_cases y : f i = m
        · by_cases x : f j = m
          · omega
          · rw [if_pos y, if_neg x] at z3
            have y4 := q2 k j (by omega) (by omega) z3
            omega
        · by_cases x : f j = m
          · rw [if_neg y, if_pos x] at z3
            have y4 := q2 i k (by omega) (by omega) z3
            omega
          · rw [if_neg y, if_neg x] at z3
            exact z3
theorem ls_ (P : Nat → Prop) : ∀ n, P n → ∃ k, k ≤ n ∧ P k ∧ ∀ j, j < k → ¬ P j := by
  intro n
  induction n using Nat.strongRecOn with
  | _ n ih =>
    intro q
    by_cases y : ∃ j, j < n ∧ P j
    · obtain ⟨j, y1, y2⟩ := y
      obtain ⟨k, z1, z2, z3⟩ := ih j y1 y2
      exact ⟨k, by omega, z2, z3⟩
    · exact ⟨n, Nat.le_refl _, q, fun j y1 y2 => y ⟨j, y1, y2⟩⟩
theorem i_low (x : Int32) {e : Nat} (q : e ≤ 30) : x &&& (i_ ((2 ^ e : Nat) : Int) - (1 : Int32)) = i_ ((x.toBitVec.toNat % 2 ^ e : Nat) : Int) := by
  have p1 := Nat.two_pow_pos e
  have p2 : 2 ^ e ≤ 2 ^ 30 := Nat.pow_le_pow_right (by decide) q
  rw [i_lit 1, i_sub, show ((2 ^ e : Nat) : Int) - 1 = ((2 ^ e - 1 : Nat) : Int) by omega]
  apply Int32.toBitVec_inj.mp
  apply BitVec.eq_of_toNat_eq
  have p3 := Nat.mod_lt x.toBitVec.toNat p1
  rw [Int32.toBitVec_and, i_bv, i_bv, BitVec.toNat_and, BitVec.toNat_ofNat, BitVec.toNat_ofNat, Nat.mod_eq_of_lt (show 2 ^ e - 1 < 2 ^ 32 by omega), Nat.and_two_pow_sub_one_eq_mod, Nat.mod_eq_of_lt (show x.toBitVec.toNat % 2 ^ e < 2 ^ 32 by omega)]
def hx_ (w : Nat) (e : Nat) : Int32 := (((lN w * (-7046029254386353131 : Int64)).toUInt64 >>> ((36 : Int32).toInt64.toUInt64 &&& Int64.toUInt64 63)).toInt64).toInt32 &&& (i_ ((2 ^ e : Nat) : Int) - (1 : Int32))
def hs_ (w e : Nat) : Nat := (hx_ w e).toNatClampNeg
theorem hs_eq (w : Nat) {e : Nat} (q : e ≤ 30) : hs_ w e < 2 ^ e ∧ hx_ w e = i_ (hs_ w e : Int) := by
  have p1 := Nat.two_pow_pos e
  have p2 : 2 ^ e ≤ 2 ^ 30 := Nat.pow_le_pow_right (by decide) q
  unfold hs_
  unfold hx_
  rw [i_low _ q]
  generalize (((lN w * (-7046029254386353131 : Int64)).toUInt64 >>> ((36 : Int32).toInt64.toUInt64 &&& Int64.toUInt64 63)).toInt64).toInt32.toBitVec.toNat = m
  have p3 := Nat.mod_lt m p1
  rw [i_cl (by omega), Int.toNat_natCast]
  exact ⟨p3, rfl⟩
/-- the probe -/
def pr_ (w e q : Nat) : Nat := (hs_ w e + q) % 2 ^ e
theorem pr_lt (w e q : Nat) : pr_ w e q < 2 ^ e := Nat.mod_lt _ (Nat.two_pow_pos e)
theorem pr_ex (w e : Nat) (q : e ≤ 30) {s : Nat} (y : s < 2 ^ e) : ∃ q, q < 2 ^ e ∧ pr_ w e q = s := by
  have y1 := (hs_eq w q).1
  by_cases y2 : hs_ w e ≤ s
  · refine ⟨s - hs_ w e, by omega, ?_⟩
    unfold pr_
    rw [show hs_ w e + (s - hs_ w e) = s by omega, Nat.mod_eq_of_lt y]
  · refine ⟨s + 2 ^ e - hs_ w e, by omega, ?_⟩
    unfold pr_
    rw [show hs_ w e + (s + 2 ^ e - hs_ w e) = s + 2 ^ e by omega, Nat.add_mod_right, Nat.mod_eq_of_lt y]
theorem pr_next (w e q : Nat) (y : e ≤ 30) : (i_ (pr_ w e q : Int) + (1 : Int32)) &&& (i_ ((2 ^ e : Nat) : Int) - (1 : Int32)) = i_ (pr_ w e (q + 1) : Int) := by
  have p2 : 2 ^ e ≤ 2 ^ 30 := Nat.pow_le_pow_right (by decide) y
  have p3 := pr_lt w e q
  rw [i_low _ y, i_lit 1, i_add, show ((pr_ w e q : Nat) : Int) + 1 = ((pr_ w e q + 1 : Nat) : Int) by omega, i_bv, BitVec.toNat_ofNat, Nat.mod_eq_of_lt (show pr_ w e q + 1 < 2 ^ 32 by omega)]
  unfold pr_
  rw [Nat.mod_add_mod, Nat.add_assoc]
theorem pr_0 (w : Nat) {e : Nat} (y : e ≤ 30) : hx_ w e = i_ (pr_ w e 0 : Int) := by
  unfold pr_
  rw [(hs_eq w y).2, Nat.add_zero, Nat.mod_eq_of_lt (hs_eq w y).1]
/-- the slots hold the numbers under k of the states f, each where it is looked for -/
def Sv_ (sl f : Nat → Nat) (e k : Nat) : Prop := (∀ s, s < 2 ^ e → sl s ≤ k) ∧ (∀ s s', s < 2 ^ e → s' < 2 ^ e → sl s = sl s' → sl s ≠ 0 → s = s') ∧
  ∀ i, i < k → ∃ q, q < 2 ^ e ∧ sl (pr_ (f i) e q) = i + 1 ∧ ∀ q', q' < q → sl (pr_ (f i) e q') ≠ 0
def St_ (sl f : Nat → Nat) (e w q : Nat) : Prop := sl (pr_ w e q) = 0 ∨ f (sl (pr_ w e q) - 1) = w
theorem sv_find {sl f : Nat → Nat} {e k : Nat} (h1 : Sv_ sl f e k) (h2 : k < 2 ^ e) (h3 : e ≤ 30) (w : Nat) : ∃ q, q < 2 ^ e ∧ St_ sl f e w q ∧ ∀ q', q' < q → ¬ St_ sl f e w q' := by
  have y : ∃ s, s < 2 ^ e ∧ sl s = 0 := by
    by_cases y : ∃ s, s < 2 ^ e ∧ sl s = 0
    · exact y
    · have y1 : ∀ s, s < 2 ^ e → sl s ≠ 0 := fun s z1 z2 => y ⟨s, z1, z2⟩
      have y2 := ph_ k (2 ^ e) (fun s => sl s - 1) (fun i z => by
        have y3 := y1 i z
        have y4 := h1.1 i z
        show sl i - 1 < k
        omega) (fun i j z1 z2 z3 => by
        have y3 := y1 i z1
        have y4 := y1 j z2
        exact h1.2.1 i j z1 z2 (by
          have y5 : sl i - 1 = sl j - 1 := z3
          omega) y3)
      omega
  obtain ⟨s, y1, y2⟩ := y
  obtain ⟨q, y3, y4⟩ := pr_ex w e h3 y1
  obtain ⟨q0, z1, z2, z3⟩ := ls_ (St_ sl f e w) q (Or.inl (by rw [y4]; exact y2))
  exact ⟨q0, by omega, z2, z3⟩
theorem sv_out {sl f : Nat → Nat} {e k w q : Nat} (h1 : Sv_ sl f e k) (h2 : sl (pr_ w e q) = 0) (h3 : ∀ q', q' < q → ¬ St_ sl f e w q') : ∀ i, i < k → f i ≠ w := by
  intro i z1 z2
  obtain ⟨q1, y1, y2, y3⟩ := h1.2.2 i z1
  rw [z2] at y2 y3
  by_cases y : q1 < q
  · refine h3 q1 y (Or.inr ?_)
    rw [y2]
    exact z2
  · by_cases y4 : q < q1
    · exact y3 q y4 h2
    · rw [show q1 = q by omega] at y2
      omega
theorem sv_put {sl f : Nat → Nat} {e k q : Nat} (h1 : Sv_ sl f e k) (h2 : sl (pr_ (f k) e q) = 0) (h3 : ∀ q', q' < q → ¬ St_ sl f e (f k) q') (h4 : q < 2 ^ e) : Sv_ (fun s => if s = pr_ (f k) e q then k + 1 else sl s) f e (k + 1) := by
  refine ⟨fun s z => ?_, fun s s' z1 z2 z3 z4 => ?_, fun i z => ?_⟩
  · have y := h1.1 s z
    dsimp only
    split
    · omega
    · omega
  · dsimp only at z3 z4
    have y1 := h1.1 s z1
    have y2 := h1.1 s' z2
    by_cases y : s = pr_ (f k) e q
    · by_cases x : s' = pr_ (f k) e q
      · rw [y, x]
      · rw [if_pos y, if_neg x] at z3
        omega
    · by_cases x : s' = pr_ (f k) e q
      · rw [if_neg y, if_pos x] at z3
        omega
      · rw [if_neg y, if_neg x] at z3
        rw [if_neg y] at z4
        exact h1.2.1 s s' z1 z2 z3 z4
  · by_cases y : i < k
    · obtain ⟨q1, y1, y2, y3⟩ := h1.2.2 i y
      refine ⟨q1, y1, ?_, fun q' y4 => ?_⟩
      · dsimp only
        rw [if_neg (fun x => by rw [x, h2] at y2; omega)]
        exact y2
      · dsimp only
        split
        · omega
        · exact y3 q' y4
    · have y1 : i = k := by omega
      subst y1
      refine ⟨q, h4, if_pos rfl, fun q' y4 => ?_⟩
      dsimp only
      split
      · omega
      · exact fun y5 => h3 q' y4 (Or.inl y5)
theorem sv_0 (f : Nat → Nat) (e : Nat) : Sv_ (fun _ => 0) f e 0 := ⟨fun _ _ => Nat.le_refl _, fun _ _ _ _ _ z => absurd rfl z, fun i z => absurd z (Nat.not_lt_zero i)⟩
theorem sv_cg {sl sl' f f' : Nat → Nat} {e k : Nat} (h1 : Sv_ sl f e k) (h2 : ∀ s, s < 2 ^ e → sl' s = sl s) (h3 : ∀ i, i < k → f' i = f i) : Sv_ sl' f' e k := by
  refine ⟨fun s z => by rw [h2 s z]; exact h1.1 s z, fun s s' z1 z2 z3 z4 => ?_, fun i z => ?_⟩
  · rw [h2 s z1, h2 s' z2] at z3
    rw [h2 s z1] at z4
    exact h1.2.1 s s' z1 z2 z3 z4
  · obtain ⟨q, y1, y2, y3⟩ := h1.2.2 i z
    rw [h3 i z]
    exact ⟨q, y1, by rw [h2 _ (pr_lt _ _ _)]; exact y2, fun q' y4 => by rw [h2 _ (pr_lt _ _ _)]; exact y3 q' y4⟩
end TB
