/-! the class's parser: its state, what fails, what is expected -/
section PA
variable {γ : ga_T} {σ σ1 : st_T} {B : Nat → Int} {n k : Nat}
abbrev qs_T : Type := Nat × pq_T × Nat
def Pc_ (σ : st_T) (B : Nat → Int) (n : Nat) (S : qs_T) : Prop := Wd σ ∧ At_ σ B n S.1 ∧ Pq_ σ 137 S.2.1 ∧ Nv_ S.2.1 ∧ st_I σ 142 3 = i_ (S.2.2 : Int) ∧ S.2.2 ≤ 16 ∧ st_I σ 142 2 = i_ 0
def yf_ (σ σ1 : st_T) : Prop := (∀ b, b < 137 ∨ 146 < b → eh_ σ σ1 b) ∧ st_n σ1 = st_n σ ∧ st_c σ1 = st_c σ ∧ st_u σ1 = st_u σ
theorem yf_rf : yf_ σ σ := ⟨fun b _ => eh_rf b, rfl, rfl, rfl⟩
theorem yf_tr {σ2 : st_T} (h : yf_ σ σ1) (k : yf_ σ1 σ2) : yf_ σ σ2 := ⟨fun b z => eh_tr (h.1 b z) (k.1 b z), k.2.1.trans h.2.1, k.2.2.1.trans h.2.2.1, k.2.2.2.trans h.2.2.2⟩
theorem yf_I {b j : Nat} {v : Int32} (h : 137 ≤ b ∧ b ≤ 146) : yf_ σ (pt_I σ b j v) := ⟨fun c z => eh_I (by omega), rfl, rfl, rfl⟩
theorem yf_gq (h : gq_ 137 σ σ1) : yf_ σ σ1 := ⟨fun b z => h.1 b (by omega), h.2⟩
def Wk_ (σ : st_T) : Prop := Wd σ ∧ ∃ c, c ≤ 32 ∧ st_I σ 137 7 = i_ ((c : Nat) : Int)
theorem pc_wk {S : qs_T} (h : Pc_ σ B n S) : Wk_ σ := ⟨h.1, S.2.1.2.2.length, by have y := h.2.2.1.2.2.1; omega, h.2.2.1.2.2.2.1⟩
theorem wk_I {j : Nat} {v : Int32} (h : Wk_ σ) : Wk_ (pt_I σ 142 j v) := ⟨h.1, by
  obtain ⟨c, h1, h2⟩ := h.2
  exact ⟨c, h1, by rw [st_pI, if_neg (by omega)]; exact h2⟩⟩
theorem pc_I {S : qs_T} (h : Pc_ σ B n S) {j : Nat} (hj : 4 ≤ j) (v : Int32) : Pc_ (pt_I σ 142 j v) B n S := by
  obtain ⟨h1, h2, h3, h4, h5, h6⟩ := h
  exact ⟨h1, at_eh h2 (eh_I (by decide)) (eh_I (by decide)) (eh_I (by decide)) (eh_I (by decide)), pq_eh h3 (eh_I (by decide)) (eh_I (by decide)) (eh_I (by decide)) (eh_I (by decide)) (eh_I (by decide)), h4, by rw [st_pI, if_neg (by omega)]; exact h5, h6.1, by rw [st_pI, if_neg (by omega)]; exact h6.2⟩
def er_ (B : Nat → Int) (n k : Nat) (e : Nat) : Nat := 8 * tq_ B n k + e
/-- the end of a reading: its state, or an error -/
def Po_ (σ : st_T) (B : Nat → Int) (n : Nat) (r : qs_T ⊕ Nat) (v : Int32) (s : st_T) : Prop := yf_ σ s ∧ ((v = i_ 1 ∧ ∃ S, r = .inl S ∧ Pc_ s B n S) ∨ (v = i_ 0 ∧ ∃ e, r = .inr e ∧ st_I s 142 2 = i_ ((e : Nat) : Int) ∧ Wk_ s))
theorem po_tr {r : qs_T ⊕ Nat} {v : Int32} {s : st_T} (h : yf_ σ σ1) (k : Po_ σ1 B n r v s) : Po_ σ B n r v s := ⟨yf_tr h k.1, k.2⟩
theorem c_fail {S : qs_T} (h : Pc_ σ B n S) (e : Nat) : ∃ s, fn_ γ m_X6_fail 1 [.ref 142, .int (i_ (e : Int))] σ (.int (i_ 0)) s ∧ Wd s ∧ Po_ σ B n (.inr (er_ B n S.1 e)) (i_ 0) s ∧ (∀ j, j ≠ 2 → st_I s 142 j = st_I σ 142 j) := by
  refine ⟨pt_I σ 142 2 (i_ (er_ B n S.1 e : Int)), fn_q (fun Q zQ => e_X6_fail h.1 ?_), h.1, ⟨yf_I (by decide), Or.inr ⟨rfl, _, rfl, st_sI _ _ _ _, wk_I (pc_wk h)⟩⟩, fun j zj => by rw [st_pI, if_neg (by omega)]⟩
  unfold p_X6_fail_0
  refine ⟨_, σ, h.1, c_start0 h.1 h.2.1, ?_⟩
  have e1 : (8 : Int32) * i_ (tq_ B n S.1 : Int) + i_ (e : Int) = i_ (er_ B n S.1 e : Int) := by
    rw [i_lit 8, i_mul, i_add]
    rfl
  rw [e1]
  exact zQ
theorem pc_adv {S : qs_T} (h : Pc_ σ B n S) (hs : csg_ B n S.1 ≠ 0) : ∃ σ1, fw_ γ m_X10_advance 1 [.ref 143] σ σ1 ∧ Wd σ1 ∧ Pc_ σ1 B n (S.1 + 1, S.2) ∧ yf_ σ σ1 ∧ (∀ j, st_I σ1 142 j = st_I σ 142 j) := by
  obtain ⟨h1, h2, h3, h4, h5, h6⟩ := h
  obtain ⟨a1, a2⟩ := c_advance (γ := γ) h1 h2 hs
  exact ⟨_, a1, h1, ⟨h1, a2, pq_eh h3 (eh_I (by decide)) (eh_I (by decide)) (eh_I (by decide)) (eh_I (by decide)) (eh_I (by decide)), h4, by rw [st_pI, if_neg (by omega)]; exact h5, h6.1, by rw [st_pI, if_neg (by omega)]; exact h6.2⟩, yf_I (by decide), fun j => by rw [st_pI, if_neg (by omega)]⟩
def xp_ (B : Nat → Int) (n c : Nat) (S : qs_T) : qs_T ⊕ Nat := if csg_ B n S.1 = c then .inl (S.1 + 1, S.2) else .inr (er_ B n S.1 1)
theorem c_expect {S : qs_T} (h : Pc_ σ B n S) {c : Nat} (hc : 0 < c ∧ c < 21) : ∃ v s, fn_ γ m_X6_expect 2 [.ref 142, .ref c] σ (.int v) s ∧ Wd s ∧ Po_ σ B n (xp_ B n c S) v s ∧ (∀ j, j ≠ 2 → st_I s 142 j = st_I σ 142 j) := by
  by_cases y : csg_ B n S.1 = c
  · obtain ⟨σ1, a1, a2, a3, a4, a5⟩ := pc_adv (γ := γ) h (by omega)
    refine ⟨i_ 1, σ1, fn_q (fun Q zQ => e_X6_expect h.1 ?_), a2, ⟨a4, Or.inl ⟨rfl, _, if_pos y, a3⟩⟩, fun j _ => a5 j⟩
    unfold p_X6_expect_0
    exact ⟨_, σ, h.1, c_sign h.1 h.2.1, csg_21, hc.2, fun _ => ⟨σ1, a2, a1, zQ⟩, fun z => absurd y z⟩
  · obtain ⟨s, a1, a2, a3, a4⟩ := c_fail (γ := γ) h 1
    refine ⟨i_ 0, s, fn_q (fun Q zQ => e_X6_expect h.1 ?_), a2, ?_, a4⟩
    · unfold p_X6_expect_0
      exact ⟨_, σ, h.1, c_sign h.1 h.2.1, csg_21, hc.2, fun z => absurd z y, fun _ => ⟨_, s, a2, a1, Or.inl rfl, zQ⟩⟩
    · rw [show xp_ B n c S = .inr (er_ B n S.1 1) from if_neg y]
      exact a3
def vl_ (B : Nat → Int) (n : Nat) (S : qs_T) : qs_T ⊕ Nat := if csg_ B n S.1 = 4 then (if tnu_ B n S.1 ≤ 3 then .inl S else .inr (er_ B n S.1 2)) else .inr (er_ B n S.1 1)
theorem c_isValue {S : qs_T} (h : Pc_ σ B n S) : ∃ v s, fn_ γ m_X6_isValue 2 [.ref 142] σ (.int v) s ∧ Wd s ∧ Po_ σ B n (vl_ B n S) v s ∧ (∀ j, j ≠ 2 → st_I s 142 j = st_I σ 142 j) := by
  by_cases y : csg_ B n S.1 = 4
  · obtain ⟨b1, b2, b3⟩ := c_num4 (γ := γ) h.1 h.2.1 y
    by_cases y2 : tnu_ B n S.1 ≤ 3
    · refine ⟨i_ 1, σ, fn_q (fun Q zQ => e_X6_isValue h.1 ?_), h.1, ⟨yf_rf, Or.inl ⟨rfl, S, by unfold vl_; rw [if_pos y, if_pos y2], h⟩⟩, fun j _ => rfl⟩
      unfold p_X6_isValue_0
      refine ⟨_, σ, h.1, c_sign h.1 h.2.1, csg_21, fun _ => ⟨_, σ, h.1, b1, ?_⟩, fun z => absurd y z⟩
      simp (disch := omega) only [i_lit, i_le]
      exact ⟨fun _ => zQ, fun z => absurd y2 z⟩
    · obtain ⟨s, a1, a2, a3, a4⟩ := c_fail (γ := γ) h 2
      refine ⟨i_ 0, s, fn_q (fun Q zQ => e_X6_isValue h.1 ?_), a2, ?_, a4⟩
      · unfold p_X6_isValue_0
        refine ⟨_, σ, h.1, c_sign h.1 h.2.1, csg_21, fun _ => ⟨_, σ, h.1, b1, ?_⟩, fun z => absurd y z⟩
        simp (disch := omega) only [i_lit, i_le]
        exact ⟨fun z => absurd z y2, fun _ => ⟨_, s, a2, a1, fun _ => zQ, fun z => absurd rfl z⟩⟩
      · rw [show vl_ B n S = .inr (er_ B n S.1 2) by unfold vl_; rw [if_pos y, if_neg y2]]
        exact a3
  · obtain ⟨s, a1, a2, a3, a4⟩ := c_fail (γ := γ) h 1
    refine ⟨i_ 0, s, fn_q (fun Q zQ => e_X6_isValue h.1 ?_), a2, ?_, a4⟩
    · unfold p_X6_isValue_0
      exact ⟨_, σ, h.1, c_sign h.1 h.2.1, csg_21, fun z => absurd z y, fun _ => ⟨_, s, a2, a1, Or.inl rfl, zQ⟩⟩
    · rw [show vl_ B n S = .inr (er_ B n S.1 1) from if_neg y]
      exact a3
theorem c_isPassed {S : qs_T} (h : Pc_ σ B n S) {c : Nat} (hc : 0 < c ∧ c < 21) : ∃ s, fn_ γ m_X6_isPassed 2 [.ref 142, .ref c] σ (.int (i_ (if csg_ B n S.1 = c then 1 else 0))) s ∧ Wd s ∧ yf_ σ s ∧ Pc_ s B n (if csg_ B n S.1 = c then (S.1 + 1, S.2) else S) := by
  by_cases y : csg_ B n S.1 = c
  · obtain ⟨σ1, a1, a2, a3, a4, a5⟩ := pc_adv (γ := γ) h (by omega)
    rw [if_pos y, if_pos y]
    refine ⟨σ1, fn_q (fun Q zQ => e_X6_isPassed h.1 ?_), a2, a4, a3⟩
    unfold p_X6_isPassed_0
    exact ⟨_, σ, h.1, c_sign h.1 h.2.1, csg_21, hc.2, fun _ => ⟨σ1, a2, a1, zQ⟩, fun z => absurd y z⟩
  · rw [if_neg y, if_neg y]
    refine ⟨σ, fn_q (fun Q zQ => e_X6_isPassed h.1 ?_), h.1, yf_rf, h⟩
    unfold p_X6_isPassed_0
    exact ⟨_, σ, h.1, c_sign h.1 h.2.1, csg_21, hc.2, fun z => absurd z y, fun _ => zQ⟩
/-- the kind of instruction that a sign begins -/
def kd_ (c : Nat) : Int := if c = 7 then 0 else if c = 8 then 1 else if c = 9 then 2 else if c = 10 then 3 else -1
theorem c_kindOf {S : qs_T} (h : Pc_ σ B n S) : fn_ γ m_X6_kindOfInstruction 1 [.ref 142] σ (.int (i_ (kd_ (csg_ B n S.1)))) σ := fn_q (fun Q zQ => e_X6_kindOfInstruction h.1 (by
  unfold p_X6_kindOfInstruction_0
  refine ⟨_, σ, h.1, c_sign h.1 h.2.1, csg_21, fun z => ?_, fun z => ⟨csg_21, fun z2 => ?_, fun z2 => ⟨csg_21, fun z3 => ?_, fun z3 => ⟨csg_21, fun z4 => ?_, fun z4 => ?_⟩⟩⟩⟩
  · exact qi_ zQ (by unfold kd_; rw [if_pos z])
  · exact qi_ zQ (by unfold kd_; rw [if_neg z, if_pos z2])
  · exact qi_ zQ (by unfold kd_; rw [if_neg z, if_neg z2, if_pos z3])
  · exact qi_ zQ (by unfold kd_; rw [if_neg z, if_neg z2, if_neg z3, if_pos z4])
  · exact qi_ zQ (by unfold kd_; rw [if_neg z, if_neg z2, if_neg z3, if_neg z4])))
/-- how many accesses there are, by threads -/
def acs_ (p : pr_T) : Nat → Nat
  | 0 => 0
  | t + 1 => acs_ p t + ct_ (fun i => decide (pp_ p i 0 = (t : Nat) ∧ pp_ p i 1 ≠ 3)) (pN_ p)
theorem acs_le (p : pr_T) : ∀ t, acs_ p t ≤ t * pN_ p
  | 0 => Nat.zero_le _
  | t + 1 => by
    have y := acs_le p t
    have z := ct_le (fun i => decide (pp_ p i 0 = (t : Nat) ∧ pp_ p i 1 ≠ 3)) (pN_ p)
    unfold acs_
    rw [Nat.add_mul]
    omega
theorem c_accesses {a : Nat} {p : pr_T} (zha : is_pg a) (zw : Wd σ) (zR : Rp_ σ a p) : fn_ γ m_X7_accesses 2 [.ref a] σ (.int (i_ (acs_ p (pT_ p) : Int))) σ := by
  have r5 := zR.2.2.1
  have r1 := zR.1.1
  have r2 := zR.1.2.1
  refine fn_q (fun Q zQ => e_X7_accesses zha zw ?_)
  unfold p_X7_accesses_0
  have key : ∀ k t : Nat, k + t = pT_ p → vv_ γ m_X7_accesses 2 4 [(0, .ref a), (1, .int (i_ (acs_ p t : Int))), (2, .int (i_ (t : Int)))] [] σ Q := by
    intro k
    induction k with
    | zero =>
      intro t zt
      have zt : t = pT_ p := by omega
      subst zt
      refine g_X7_accesses_4 zha zw ?_
      unfold p_X7_accesses_4
      rw [r5]
      exact ⟨fun _ => zQ, fun z => absurd (Int32.le_refl _) z⟩
    | succ k ih =>
      intro t zt
      have y := ih (t + 1) (by omega)
      rw [show ((t + 1 : Nat) : Int) = (t : Int) + 1 by omega, ← i_add, ← i_lit 1] at y
      refine g_X7_accesses_4 zha zw ?_
      unfold p_X7_accesses_4
      rw [r5]
      simp (disch := omega) only [i_le]
      refine ⟨fun z => by omega, fun _ => ⟨_, σ, zw, c_accessesOf zha zw zR (by omega), ?_⟩⟩
      rw [i_add]
      exact y
  exact key (pT_ p) 0 rfl
/-- no further instruction of this kind -/
def full_ (p : pr_T) (t : Nat) (kd : Int) : Bool := decide (7 ≤ ct_ (fun i => decide (pp_ p i 0 = (t : Nat))) (pN_ p) ∨ 10 ≤ pN_ p ∨ (kd ≠ 3 ∧ (4 ≤ ct_ (fun i => decide (pp_ p i 0 = (t : Nat) ∧ pp_ p i 1 ≠ 3)) (pN_ p) ∨ 8 ≤ acs_ p (pT_ p))))
theorem c_isFull {S : qs_T} (h : Pc_ σ B n S) {t : Nat} (ht : t < 4) {kd : Int} (hk : 0 ≤ kd ∧ kd ≤ 3) : fn_ γ m_X6_isFull 3 [.ref 142, .int (i_ (t : Int)), .int (i_ kd)] σ (.int (i_ (if full_ S.2.1.1 t kd = true then 1 else 0))) σ := fn_q (fun Q zQ => e_X6_isFull h.1 (by
  have zR := h.2.2.1.1
  have b1 := zR.1.1
  have b2 := zR.1.2.1
  have c1 := ct_le (fun i => decide (pp_ S.2.1.1 i 0 = (t : Nat))) (pN_ S.2.1.1)
  have c2 := ct_le (fun i => decide (pp_ S.2.1.1 i 0 = (t : Nat) ∧ pp_ S.2.1.1 i 1 ≠ 3)) (pN_ S.2.1.1)
  have c3 : acs_ S.2.1.1 (pT_ S.2.1.1) ≤ 40 := Nat.le_trans (acs_le _ _) (Nat.mul_le_mul b2 b1)
  have hl : ∀ b, full_ S.2.1.1 t kd = b → Q (.inl (some (.int (i_ (if b = true then 1 else 0))))) σ := fun b e => e ▸ zQ
  unfold full_ at hl
  unfold p_X6_isFull_0
  refine ⟨_, σ, h.1, c_sizeOf (Or.inr rfl) h.1 zR (by omega), ?_⟩
  simp (disch := omega) only [i_lit, i_le]
  refine ⟨fun z => hl true (decide_eq_true (by omega)), fun z => ⟨_, σ, h.1, c_size (Or.inr rfl) h.1 zR, ?_⟩⟩
  simp (disch := omega) only [i_lt, i_eq]
  refine ⟨fun z2 => ⟨fun z3 => hl false (decide_eq_false (by omega)), fun z3 => ⟨_, σ, h.1, c_accessesOf (Or.inr rfl) h.1 zR (by omega), ?_⟩⟩, fun z2 => hl true (decide_eq_true (by omega))⟩
  simp (disch := omega) only [i_le]
  refine ⟨fun z4 => hl true (decide_eq_true (by omega)), fun z4 => ⟨_, σ, h.1, c_accesses (Or.inr rfl) h.1 zR, ?_⟩⟩
  simp (disch := omega) only [i_lt]
  exact ⟨fun z5 => hl false (decide_eq_false (by omega)), fun z5 => hl true (decide_eq_true (by omega))⟩))
end PA
