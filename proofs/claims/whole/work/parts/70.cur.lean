/-! tokens: the one that the class stands on -/
section CU
variable {γ : ga_T} {σ σ1 : st_T} {B : Nat → Int} {n k : Nat}
def csg_ (B : Nat → Int) (n k : Nat) : Nat := if tq_ B n k < n then tsg_ B n (tq_ B n k) else 0
/-- the class stands on token k -/
def At_ (σ : st_T) (B : Nat → Int) (n k : Nat) : Prop := n ≤ 600 ∧ Tok_ σ B n 601 ∧ st_I σ 143 4 = i_ (n : Int) ∧ st_I σ 143 6 = i_ (k : Int) ∧ (∀ u, u < k → tq_ B n u < n)
theorem at_le (h : At_ σ B n k) : k ≤ 600 := by
  rcases tq_ge (B := B) (n := n) k with y | y
  · cases k with
    | zero => exact Nat.zero_le _
    | succ k =>
      have z := h.2.2.2.2 k (Nat.lt_succ_self k)
      rcases tq_ge (B := B) (n := n) k with y2 | y2
      · omega
      · have y3 := h.1
        omega
  · have z := tq_le (B := B) (n := n) k
    have y3 := h.1
    omega
theorem at_eh (h : At_ σ B n k) (h1 : eh_ σ σ1 143) (h2 : eh_ σ σ1 144) (h3 : eh_ σ σ1 145) (h4 : eh_ σ σ1 146) : At_ σ1 B n k := by
  obtain ⟨a1, a2, a3, a4, a5⟩ := h
  refine ⟨a1, fun t zt zu => ?_, by rw [h1.1]; exact a3, by rw [h1.1]; exact a4, a5⟩
  rw [h3.1, h2.2.2.1, h4.2.1]
  exact a2 t zt zu
theorem csg_21 : csg_ B n k < 21 := by
  unfold csg_
  split
  · exact tsg_21 _
  · decide
theorem c_sign (zw : Wd σ) (h : At_ σ B n k) : fn_ γ m_X10_sign 0 [.ref 143] σ (.ref (csg_ B n k)) σ := fn_q (fun Q zQ => e_X10_sign zw (by
  have y := at_le h
  obtain ⟨a1, a2, a3, a4, a5⟩ := h
  obtain ⟨b1, b2, b3⟩ := a2 k (by omega) a5
  unfold p_X10_sign_0
  rw [a4]
  simp (disch := omega) only [i_lit, i_lt, i_in_iff, i_cl, Int.toNat_natCast]
  refine ⟨fun z => by omega, fun _ => ⟨by omega, ?_⟩⟩
  rw [b2]
  refine ⟨fun z => (by cases z), fun b3 e => ?_⟩
  rw [← Option.some.inj e]
  exact zQ))
theorem c_start0 (zw : Wd σ) (h : At_ σ B n k) : fn_ γ m_X10_start 0 [.ref 143] σ (.int (i_ (tq_ B n k : Int))) σ := fn_q (fun Q zQ => e_X10_start zw (by
  have y := at_le h
  obtain ⟨a1, a2, a3, a4, a5⟩ := h
  obtain ⟨b1, b2, b3⟩ := a2 k (by omega) a5
  unfold p_X10_start_0
  rw [a4]
  simp (disch := omega) only [i_lit, i_lt, i_in_iff, i_cl, Int.toNat_natCast]
  refine ⟨fun z => by omega, fun _ => ⟨by omega, ?_⟩⟩
  rw [b1]
  exact zQ))
theorem c_name (zw : Wd σ) (h : At_ σ B n k) (h2 : tq_ B n k < n) : fn_ γ m_X10_name 0 [.ref 143] σ (.long (tvl_ B n (tq_ B n k))) σ := fn_q (fun Q zQ => e_X10_name zw (by
  have y := at_le h
  obtain ⟨a1, a2, a3, a4, a5⟩ := h
  obtain ⟨b1, b2, b3⟩ := a2 k (by omega) a5
  unfold p_X10_name_0
  rw [a4]
  simp (disch := omega) only [i_lit, i_lt, i_in_iff, i_cl, Int.toNat_natCast]
  refine ⟨fun z => by omega, fun _ => ⟨by omega, ?_⟩⟩
  rw [b3 h2]
  exact zQ))
theorem c_number (zw : Wd σ) (h : At_ σ B n k) (h2 : tq_ B n k < n) : fn_ γ m_X10_number 1 [.ref 143] σ (.int (tvl_ B n (tq_ B n k)).toInt32) σ := fn_q (fun Q zQ => e_X10_number zw (by
  unfold p_X10_number_0
  exact ⟨tvl_ B n (tq_ B n k), σ, zw, c_name zw h h2, zQ⟩))
theorem csg_n (h : csg_ B n k ≠ 0) : tq_ B n k < n := by
  unfold csg_ at h
  by_cases y : tq_ B n k < n
  · exact y
  · rw [if_neg y] at h
    exact absurd rfl h
theorem c_advance (zw : Wd σ) (h : At_ σ B n k) (h2 : csg_ B n k ≠ 0) : fw_ γ m_X10_advance 1 [.ref 143] σ (pt_I σ 143 6 (i_ ((k + 1 : Nat) : Int))) ∧ At_ (pt_I σ 143 6 (i_ ((k + 1 : Nat) : Int))) B n (k + 1) := by
  refine ⟨fw_q (fun Q zQ => e_X10_advance zw ?_), ?_⟩
  · unfold p_X10_advance_0
    refine ⟨csg_ B n k, σ, zw, c_sign zw h, csg_21, fun z => absurd z h2, fun _ => ?_⟩
    rw [h.2.2.2.1, i_lit 1, i_add]
    exact zQ
  · have y := csg_n h2
    obtain ⟨a1, a2, a3, a4, a5⟩ := h
    refine ⟨a1, a2, by rw [st_pI, if_neg (by omega)]; exact a3, st_sI _ _ _ _, fun u zu => ?_⟩
    by_cases z : u = k
    · rw [z]; exact y
    · exact a5 u (by omega)
end CU
