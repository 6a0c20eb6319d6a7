/-! the table of states: its arrays, where a state's slot is -/
section SL
variable {γ : ga_T} {σ σ1 : st_T} {L : List (Nat × Int64)} {b0 b1 b2 n0 n2 e : Nat}
/-- the cell of a handle is the same -/
def eh_ (σ σ1 : st_T) (b : Nat) : Prop := (∀ j, st_I σ1 b j = st_I σ b j) ∧ (∀ j, st_L σ1 b j = st_L σ b j) ∧ (∀ j, st_R σ1 b j = st_R σ b j) ∧ st_S σ1 b = st_S σ b
theorem eh_rf (b : Nat) : eh_ σ σ b := ⟨fun _ => rfl, fun _ => rfl, fun _ => rfl, rfl⟩
theorem eh_tr {σ2 : st_T} {b : Nat} (h : eh_ σ σ1 b) (k : eh_ σ1 σ2 b) : eh_ σ σ2 b := ⟨fun j => (k.1 j).trans (h.1 j), fun j => (k.2.1 j).trans (h.2.1 j), fun j => (k.2.2.1 j).trans (h.2.2.1 j), k.2.2.2.trans h.2.2.2⟩
theorem eh_I {a b k : Nat} {v : Int32} (h : b ≠ a) : eh_ σ (pt_I σ a k v) b := ⟨fun _ => if_neg (fun z => h z.1), fun _ => rfl, fun _ => rfl, rfl⟩
theorem eh_L {a b k : Nat} {v : Int64} (h : b ≠ a) : eh_ σ (pt_L σ a k v) b := ⟨fun _ => rfl, fun _ => if_neg (fun z => h z.1), fun _ => rfl, rfl⟩
theorem eh_R {a b k : Nat} {v : Option Nat} (h : b ≠ a) : eh_ σ (pt_R σ a k v) b := ⟨fun _ => rfl, fun _ => rfl, fun _ => if_neg (fun z => h z.1), rfl⟩
theorem eh_N {b κ len z : Nat} (h : b < st_n σ) : eh_ σ (pt_N σ κ len z) b := ⟨fun _ => if_neg (by omega), fun _ => if_neg (by omega), fun _ => if_neg (by omega), if_neg (by omega)⟩
theorem eh_V {a b : Nat} {f : Nat → Int64} (h : b ≠ a) : eh_ σ (pt_V σ a f) b := ⟨fun _ => rfl, fun _ => if_neg h, fun _ => rfl, rfl⟩
theorem eh_W {a b : Nat} {f : Nat → Int32} (h : b ≠ a) : eh_ σ (pt_W σ a f) b := ⟨fun _ => if_neg h, fun _ => rfl, fun _ => rfl, rfl⟩
theorem st_pV (σ : st_T) (a : Nat) (f : Nat → Int64) (b j : Nat) : st_L (pt_V σ a f) b j = if b = a then f j else st_L σ b j := rfl
theorem st_pW (σ : st_T) (a : Nat) (f : Nat → Int32) (b j : Nat) : st_I (pt_W σ a f) b j = if b = a then f j else st_I σ b j := rfl
def ha_ (σ : st_T) (b : Nat) : Prop := ((149 ≤ b ∧ b ≤ 151) ∨ 220 ≤ b) ∧ b < st_n σ
/-- the arrays of the table, and the states that they hold -/
def Ta_ (σ : st_T) (L : List (Nat × Int64)) (b0 b1 b2 n0 n2 e : Nat) : Prop :=
  (st_R σ 148 0 = some b0 ∧ st_R σ 148 1 = some b1 ∧ st_R σ 148 2 = some b2) ∧ (st_S σ b0 = (22, n0) ∧ st_S σ b1 = (22, n0) ∧ st_S σ b2 = (21, n2)) ∧
  (b0 ≠ b1 ∧ ha_ σ b0 ∧ ha_ σ b1 ∧ ha_ σ b2) ∧ (st_I σ 148 3 = i_ ((2 ^ e : Nat) : Int) ∧ st_I σ 148 4 = i_ (L.length : Int)) ∧
  (9 ≤ e ∧ e ≤ 20 ∧ 2 ^ e ≤ n2 ∧ n2 ≤ 1048576 ∧ 2 ^ e ≤ 2 * n0 ∧ n0 ≤ 524288 ∧ L.length ≤ n0) ∧
  ∀ i x, L[i]? = some x → st_L σ b0 i = lN x.1 ∧ st_L σ b1 i = x.2 ∧ x.1 < 9223372036854775808
def wa_ (L : List (Nat × Int64)) (i : Nat) : Nat := ((L[i]?).getD (0, 0)).1
theorem wa_eq {i : Nat} {x : Nat × Int64} (h : L[i]? = some x) : wa_ L i = x.1 := by
  unfold wa_
  rw [h]
  rfl
theorem ta_ne (h : Ta_ σ L b0 b1 b2 n0 n2 e) : b2 ≠ b0 ∧ b2 ≠ b1 ∧ b0 ≠ 148 ∧ b1 ≠ 148 ∧ b2 ≠ 148 := by
  obtain ⟨-, ⟨h1, h2, h3⟩, ⟨-, h4, h5, h6⟩, -⟩ := h
  refine ⟨fun z => ?_, fun z => ?_, fun z => ?_, fun z => ?_, fun z => ?_⟩
  · rw [z, h1] at h3
    exact absurd (show (22 : Nat) = 21 from congrArg Prod.fst h3) (by decide)
  · rw [z, h2] at h3
    exact absurd (show (22 : Nat) = 21 from congrArg Prod.fst h3) (by decide)
  · have y := h4.1
    omega
  · have y := h5.1
    omega
  · have y := h6.1
    omega
theorem ta_len (h : Ta_ σ L b0 b1 b2 n0 n2 e) : L.length ≤ 524288 ∧ n0 ≤ 524288 ∧ n2 ≤ 1048576 ∧ 2 ^ e ≤ n2 := by
  obtain ⟨-, -, -, -, h, -⟩ := h
  omega
theorem c_tsize (zw : Wd σ) (zT : Ta_ σ L b0 b1 b2 n0 n2 e) : fn_ γ m_X9_size 0 [.ref 148] σ (.int (i_ (L.length : Int))) σ := by
  refine fn_q (fun Q zQ => e_X9_size zw ?_)
  unfold p_X9_size_0
  rw [zT.2.2.2.1.2]
  exact zQ
theorem c_stateAt (zw : Wd σ) (zT : Ta_ σ L b0 b1 b2 n0 n2 e) {i : Nat} {x : Nat × Int64} (q : L[i]? = some x) : fn_ γ m_X9_stateAt 0 [.ref 148, .int (i_ (i : Int))] σ (.long (lN x.1)) σ := by
  have y := (List.getElem?_eq_some_iff.mp q).1
  have y1 := ta_len zT
  obtain ⟨⟨h1, -, -⟩, ⟨h2, -, -⟩, -, ⟨-, h3⟩, h4, h5⟩ := zT
  refine fn_q (fun Q zQ => e_X9_stateAt zw ?_)
  unfold p_X9_stateAt_0
  rw [h3]
  simp (disch := omega) only [i_lit, i_lt, i_le]
  refine ⟨fun z => by omega, fun _ => ⟨fun z => by omega, fun _ => ⟨b0, h1, n0, h2, ?_⟩⟩⟩
  rw [i_nat]
  simp (disch := omega) only [i_le, i_in_iff, i_cl, Int.toNat_natCast]
  refine ⟨fun z => by omega, fun _ => ⟨by omega, ?_⟩⟩
  rw [(h5 i x q).1]
  exact zQ
theorem c_waysAt (zw : Wd σ) (zT : Ta_ σ L b0 b1 b2 n0 n2 e) {i : Nat} {x : Nat × Int64} (q : L[i]? = some x) : fn_ γ m_X9_waysAt 0 [.ref 148, .int (i_ (i : Int))] σ (.long x.2) σ := by
  have y := (List.getElem?_eq_some_iff.mp q).1
  have y1 := ta_len zT
  obtain ⟨⟨-, h1, -⟩, ⟨-, h2, -⟩, -, ⟨-, h3⟩, h4, h5⟩ := zT
  refine fn_q (fun Q zQ => e_X9_waysAt zw ?_)
  unfold p_X9_waysAt_0
  rw [h3]
  simp (disch := omega) only [i_lit, i_lt, i_le]
  refine ⟨fun z => by omega, fun _ => ⟨fun z => by omega, fun _ => ⟨b1, h1, n0, h2, ?_⟩⟩⟩
  rw [i_nat]
  simp (disch := omega) only [i_le, i_in_iff, i_cl, Int.toNat_natCast]
  refine ⟨fun z => by omega, fun _ => ⟨by omega, ?_⟩⟩
  rw [(h5 i x q).2.1]
  exact zQ
theorem lN_inj {a b : Nat} (q1 : a < 2 ^ 64) (q2 : b < 2 ^ 64) : (lN a = lN b) = (a = b) := by
  refine propext ⟨fun z => ?_, fun z => by rw [z]⟩
  have y : (lN a).toBitVec.toNat = (lN b).toBitVec.toNat := by rw [z]
  rw [l_bv, l_bv, BitVec.toNat_ofNat, BitVec.toNat_ofNat, Nat.mod_eq_of_lt q1, Nat.mod_eq_of_lt q2] at y
  exact y
/-- the slots -/
def Sl_ (σ : st_T) (b2 e : Nat) (sl : Nat → Nat) : Prop := ∀ s, s < 2 ^ e → st_I σ b2 s = i_ (sl s : Int)
theorem l_slotOf (zw : Wd σ) (zT : Ta_ σ L b0 b1 b2 n0 n2 e) {sl : Nat → Nat} {k w q : Nat} (g : Nat → Nat) (g1 : ∀ i, g i < 2 ^ e) (g2 : ∀ i, (i_ (g i : Int) + (1 : Int32)) &&& (i_ ((2 ^ e : Nat) : Int) - (1 : Int32)) = i_ (g (i + 1) : Int)) (z1 : Sl_ σ b2 e sl) (z2 : Sv_ sl (wa_ L) e k) (z3 : k ≤ L.length) (z4 : w < 9223372036854775808) (z5 : q < 2 ^ e) (z6 : sl (g q) = 0 ∨ wa_ L (sl (g q) - 1) = w) (z7 : ∀ q', q' < q → ¬ (sl (g q') = 0 ∨ wa_ L (sl (g q') - 1) = w)) {Q : rs_T → st_T → Prop} (zQ : Q (.inl (some (.int (i_ (g q : Int))))) σ) :
    ∀ j i : Nat, j + i = q → vv_ γ m_X9_slotOf 1 23 [(0, .ref 148), (1, .long (lN w)), (5, .int (i_ (g i : Int))), (6, .int (i_ (i : Int)))] [] σ Q := by
  have y1 := ta_len zT
  have y2 := zT.2.2.2.2.1
  intro j
  induction j with
  | zero =>
    intro i zi
    have zi : i = q := by omega
    subst zi
    have y3 := g1 i
    refine g_X9_slotOf_23 zw ?_
    unfold p_X9_slotOf_23
    rw [zT.2.2.2.1.1]
    simp (disch := omega) only [i_lit, i_le]
    refine ⟨fun z => by omega, fun _ => ⟨b2, zT.1.2.2, n2, zT.2.1.2.2, ?_⟩⟩
    rw [i_nat]
    have y4 := z2.1 _ y3
    simp (disch := omega) only [i_le, i_in_iff, i_cl, Int.toNat_natCast]
    rw [z1 _ y3]
    simp (disch := omega) only [i_eq, i_sub]
    refine ⟨fun z => by omega, fun _ => ⟨by omega, fun _ => zQ, fun z => ⟨by omega, ?_⟩⟩⟩
    have y5 : sl (g i) - 1 < L.length := by omega
    obtain ⟨x, hx⟩ : ∃ x, L[sl (g i) - 1]? = some x := ⟨_, List.getElem?_eq_getElem y5⟩
    have y6 := c_stateAt (γ := γ) zw zT hx
    rw [show ((sl (g i) : Int) - 1) = ((sl (g i) - 1 : Nat) : Int) by omega]
    refine ⟨_, _, zw, y6, ?_⟩
    rcases z6 with y7 | y7
    · omega
    · rw [wa_eq hx] at y7
      rw [y7]
      exact ⟨fun _ => zQ, fun z => absurd rfl z⟩
  | succ j ih =>
    intro i zi
    have y3 := g1 i
    have y9 := ih (i + 1) (by omega)
    refine g_X9_slotOf_23 zw ?_
    unfold p_X9_slotOf_23
    rw [zT.2.2.2.1.1]
    simp (disch := omega) only [i_lit, i_le]
    refine ⟨fun z => by omega, fun _ => ⟨b2, zT.1.2.2, n2, zT.2.1.2.2, ?_⟩⟩
    rw [i_nat]
    have y4 := z2.1 _ y3
    have y8 := z7 i (by omega)
    simp (disch := omega) only [i_le, i_in_iff, i_cl, Int.toNat_natCast]
    rw [z1 _ y3]
    simp (disch := omega) only [i_eq, i_sub]
    refine ⟨fun z => by omega, fun _ => ⟨by omega, fun z => absurd (Or.inl (by omega)) y8, fun z => ⟨by omega, ?_⟩⟩⟩
    have y5 : sl (g i) - 1 < L.length := by omega
    obtain ⟨x, hx⟩ : ∃ x, L[sl (g i) - 1]? = some x := ⟨_, List.getElem?_eq_getElem y5⟩
    have y6 := c_stateAt (γ := γ) zw zT hx
    rw [show ((sl (g i) : Int) - 1) = ((sl (g i) - 1 : Nat) : Int) by omega]
    have y10 := (zT.2.2.2.2.2 _ _ hx).2.2
    refine ⟨_, _, zw, y6, ?_⟩
    rw [lN_inj (Nat.lt_trans y10 (by decide)) (Nat.lt_trans z4 (by decide))]
    refine ⟨fun z => absurd (Or.inr (by rw [wa_eq hx]; exact z)) y8, fun z => ?_⟩
    rw [zT.2.2.2.1.1, ← i_lit 1, g2 i, i_lit 1, i_add]
    rw [show ((i + 1 : Nat) : Int) = (i : Int) + 1 by omega] at y9
    exact y9
theorem c_slotOf (zw : Wd σ) (zT : Ta_ σ L b0 b1 b2 n0 n2 e) {sl : Nat → Nat} {k w : Nat} (z1 : Sl_ σ b2 e sl) (z2 : Sv_ sl (wa_ L) e k) (z3 : k ≤ L.length) (z4 : w < 9223372036854775808) (z5 : k < 2 ^ e) :
    ∃ q, q < 2 ^ e ∧ St_ sl (wa_ L) e w q ∧ (∀ q', q' < q → ¬ St_ sl (wa_ L) e w q') ∧ fn_ γ m_X9_slotOf 1 [.ref 148, .long (lN w)] σ (.int (i_ (pr_ w e q : Int))) σ := by
  have y2 := zT.2.2.2.2.1
  obtain ⟨q, y3, y4, y5⟩ := sv_find z2 z5 (by omega) w
  refine ⟨q, y3, y4, y5, fn_q (fun Q zQ => e_X9_slotOf zw ?_)⟩
  unfold p_X9_slotOf_0
  rw [zT.2.2.2.1.1]
  have y6 := l_slotOf (γ := γ) zw zT (pr_ w e) (pr_lt w e) (fun i => pr_next w e i (by omega)) z1 z2 z3 z4 y3 y4 y5 zQ q 0 (by omega)
  rw [← pr_0 w (by omega)] at y6
  rw [i_lit 0]
  exact y6
theorem c_slot (zw : Wd σ) (zT : Ta_ σ L b0 b1 b2 n0 n2 e) {sl : Nat → Nat} {k w : Nat} (z1 : Sl_ σ b2 e sl) (z2 : Sv_ sl (wa_ L) e k) (z3 : k ≤ L.length) (z4 : w < 9223372036854775808) (z5 : k < 2 ^ e) :
    ∃ s : Nat, s < 2 ^ e ∧ fn_ γ m_X9_slotOf 1 [.ref 148, .long (lN w)] σ (.int (i_ (s : Int))) σ ∧
      ((sl s = 0 ∧ (∀ i, i < k → wa_ L i ≠ w) ∧ ∀ f : Nat → Nat, (∀ i, i < k → f i = wa_ L i) → f k = w → Sv_ (fun j => if j = s then k + 1 else sl j) f e (k + 1)) ∨ (1 ≤ sl s ∧ sl s ≤ k ∧ wa_ L (sl s - 1) = w)) := by
  obtain ⟨q, y1, y2, y3, y4⟩ := c_slotOf (γ := γ) zw zT z1 z2 z3 z4 z5
  refine ⟨pr_ w e q, pr_lt w e q, y4, ?_⟩
  by_cases y : sl (pr_ w e q) = 0
  · refine Or.inl ⟨y, sv_out z2 y y3, fun f f1 f2 => ?_⟩
    subst f2
    refine sv_put (sv_cg z2 (fun _ _ => rfl) f1) y (fun q' z6 z7 => y3 q' z6 ?_) y1
    rcases z7 with z7 | z7
    · exact Or.inl z7
    · by_cases z8 : sl (pr_ (f k) e q') = 0
      · exact Or.inl z8
      · refine Or.inr ?_
        have z9 := z2.1 _ (pr_lt (f k) e q')
        rw [f1 _ (by omega)] at z7
        exact z7
  · refine Or.inr ⟨Nat.pos_of_ne_zero y, z2.1 _ (pr_lt w e q), ?_⟩
    rcases y2 with y2 | y2
    · exact absurd y2 y
    · exact y2
end SL
