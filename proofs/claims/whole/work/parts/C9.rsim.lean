/-! the reference: simple queries -/
section RX
variable {γ : ga_T} {σ s : st_T} {A A' : ca_T} {c m : Nat} {z y : Int} {e : String → Nat}
theorem c_rf000 (zw : Wd σ) : fn_ γ m_X12_fails 0 [.ref 185, .int (0 : Int32), .int (0 : Int32), .int (0 : Int32)] σ (.int (0 : Int32)) (pt_I σ 185 0 (i_ 0)) := c_rfails zw (a := false) (b := false) (d := false)
theorem c_rf100 (zw : Wd σ) : fn_ γ m_X12_fails 0 [.ref 185, .int (1 : Int32), .int (0 : Int32), .int (0 : Int32)] σ (.int (1 : Int32)) (pt_I σ 185 0 (i_ 1)) := c_rfails zw (a := true) (b := false) (d := false)
theorem c_rf010 (zw : Wd σ) : fn_ γ m_X12_fails 0 [.ref 185, .int (0 : Int32), .int (1 : Int32), .int (0 : Int32)] σ (.int (1 : Int32)) (pt_I σ 185 0 (i_ 2)) := c_rfails zw (a := false) (b := true) (d := false)
theorem c_rf110 (zw : Wd σ) : fn_ γ m_X12_fails 0 [.ref 185, .int (1 : Int32), .int (1 : Int32), .int (0 : Int32)] σ (.int (1 : Int32)) (pt_I σ 185 0 (i_ 1)) := c_rfails zw (a := true) (b := true) (d := false)
theorem ra_0 (h : Jr_ σ A c) {r' : rs_T} {v : Value} (hr : r' = .inl (some v)) : Re2_ σ A c e r' (.inl (some v)) (pt_I σ 185 0 (i_ 0)) := by
  refine ⟨v, rfl, c, th_jr h _, by omega, ro_up (th_I _) (fun a k z => by unfold dM_; omega), ?_⟩
  rw [hr]
  exact ⟨rfl, st_sI _ _ _ _⟩
def eO_ : String → Nat := tcd_ 0 1 2 2
def eN_ : String → Nat := tcd_ 0 0 1 0
theorem r_threadCount (h : Jr_ σ A c) : Ra_ γ m_X12_threadCount 0 [.ref 185] σ A c e (ri_ (pT_ (aP_ A).1)) := by
  refine ra_of (e_X12_threadCount h.1 ?_)
  unfold p_X12_threadCount_0
  rw [h.2.2.2.1.1.2.2.1]
  exact ra_0 h rfl
theorem r_locationCount (h : Jr_ σ A c) : Ra_ γ m_X12_locationCount 0 [.ref 185] σ A c e (ri_ (pL_ (aP_ A).1)) := by
  refine ra_of (e_X12_locationCount h.1 ?_)
  unfold p_X12_locationCount_0
  rw [h.2.2.2.1.1.2.2.2.1]
  exact ra_0 h rfl
theorem r_instructionCount (h : Jr_ σ A c) : Ra_ γ m_X12_instructionCount 0 [.ref 185] σ A c e (ri_ (pN_ (aP_ A).1)) := by
  refine ra_of (e_X12_instructionCount h.1 ?_)
  unfold p_X12_instructionCount_0
  rw [h.2.2.2.1.1.2.1]
  exact ra_0 h rfl
theorem r_bufferLength (h : Jr_ σ A c) : Ra_ γ m_X12_bufferLength 0 [.ref 185] σ A c e (ri_ (an2_ A)) := by
  refine ra_of (e_X12_bufferLength h.1 ?_)
  unfold p_X12_bufferLength_0
  rw [h.2.2.1.2.1]
  exact ra_0 h rfl
theorem r_instruction (h : Jr_ σ A c) (q1 : -2147483648 ≤ z ∧ z < 2147483648) (q2 : -2147483648 ≤ y ∧ y < 2147483648) : Ra_ γ m_X12_instruction 2 [.ref 185, .int (i_ z), .int (i_ y)] σ A c eO_ (im_ A z (fun i => ri_ (pp_ (aP_ A).1 i y))) := by
  have zN := h.2.2.2.1.1
  have hi := c_risInstr (γ := γ) h.1 zN q1
  refine ra_of (e_X12_instruction h.1 ?_)
  unfold p_X12_instruction_0
  by_cases u : 0 ≤ z ∧ z < pN_ (aP_ A).1
  · rw [decide_eq_true u] at hi
    refine ⟨_, σ, h.1, hi, fun y => absurd y (by decide), fun _ => ⟨_, _, (show Wd (pt_I σ 185 0 _) from h.1), c_rf000 h.1, fun _ => ?_, fun y => absurd rfl y⟩⟩
    obtain ⟨i, rfl⟩ : ∃ i : Nat, z = i := ⟨z.toNat, by omega⟩
    have w : Wd (pt_I σ 185 0 (i_ 0)) := h.1
    have im : im_ A (i : Int) (fun i => ri_ (pp_ (aP_ A).1 i y)) = ri_ (pp_ (aP_ A).1 i y) := by
      unfold im_
      rw [if_pos u, Int.toNat_natCast]
    refine ⟨_, _, w, c_risIn w q2 (a := 0) (b := 5) (by omega) (by omega), fun v => ?_, fun v => ?_⟩
    · have v2 : ¬ (0 ≤ y ∧ y ≤ 5) := fun v2 => by
        rw [if_pos (by rw [decide_eq_true_eq]; exact v2)] at v
        exact absurd v (by decide)
      have e1 : pp_ (aP_ A).1 i y = -1 := by
        unfold pp_
        rw [if_neg (by omega)]
      rw [show (-1 : Int32) = i_ (-1) by decide]
      exact ra_0 h (im.trans (by rw [e1]; rfl))
    · have v2 : 0 ≤ y ∧ y ≤ 5 := by
        by_cases v2 : 0 ≤ y ∧ y ≤ 5
        · exact v2
        · rw [if_neg (by rw [decide_eq_true_eq]; exact v2)] at v
          exact absurd rfl v
      obtain ⟨k, rfl⟩ : ∃ k : Nat, y = k := ⟨y.toNat, by omega⟩
      have e1 : pp_ (aP_ A).1 i k = pC_ (aP_ A).1 i k := by
        unfold pp_
        rw [if_pos (by omega)]
        rfl
      exact ⟨_, _, w, c_rof w (th_nr zN _) (by omega) (by omega), ra_0 h (im.trans (by rw [e1]; rfl))⟩
  · rw [decide_eq_false u] at hi
    exact ⟨_, σ, h.1, hi, fun _ => ⟨_, _, (show Wd (pt_I σ 185 0 _) from h.1), c_rf100 h.1, fun y => absurd y (by decide), fun _ => re_fail h (if_neg u) tcd_2 _⟩, fun y => absurd rfl y⟩
theorem r_outputByte (h : Jr_ σ A c) (hO : (aO_ A).length ≤ 320) (q1 : -2147483648 ≤ z ∧ z < 2147483648) : Ra_ γ m_X12_outputByte 1 [.ref 185, .int (i_ z)] σ A c eN_ (if 0 ≤ z ∧ z < (aO_ A).length then ri_ ((aO_ A)[z.toNat]?.getD 0) else nse_) := by
  obtain ⟨o1, o2⟩ := h.2.2.2.2.1
  have hi := c_risIn (γ := γ) h.1 q1 (a := 0) (b := ((aO_ A).length : Int) - 1) (by omega) (by omega)
  refine ra_of (e_X12_outputByte h.1 ?_)
  unfold p_X12_outputByte_0
  rw [o1, show i_ ((aO_ A).length : Int) - (1 : Int32) = i_ (((aO_ A).length : Int) - 1) by rw [k1_, i_sub]]
  by_cases u : 0 ≤ z ∧ z < (aO_ A).length
  · rw [decide_eq_true (show 0 ≤ z ∧ z ≤ ((aO_ A).length : Int) - 1 by omega)] at hi
    refine ⟨_, σ, h.1, hi, fun y => absurd y (by decide), fun _ => ⟨_, _, (show Wd (pt_I σ 185 0 _) from h.1), c_rf000 h.1, fun _ => ?_, fun y => absurd rfl y⟩⟩
    obtain ⟨i, rfl⟩ : ∃ i : Nat, z = i := ⟨z.toNat, by omega⟩
    obtain ⟨x, hx⟩ : ∃ x, (aO_ A)[i]? = some x := ⟨_, List.getElem?_eq_getElem (by omega)⟩
    rw [i_cl q1, Int.toNat_natCast]
    refine ⟨i_in (by omega) (by omega) (by omega), ?_⟩
    rw [if_pos u, hx, st_pI, if_neg (by omega), o2 i x hx]
    exact ra_0 h rfl
  · rw [decide_eq_false (show ¬ (0 ≤ z ∧ z ≤ ((aO_ A).length : Int) - 1) by omega)] at hi
    exact ⟨_, σ, h.1, hi, fun _ => ⟨_, _, (show Wd (pt_I σ 185 0 _) from h.1), c_rf100 h.1, fun y => absurd y (by decide), fun _ => re_fail h (if_neg u) tcd_3 _⟩, fun y => absurd rfl y⟩
theorem r_step (h : Jr_ σ A c) (q1 : -2147483648 ≤ z ∧ z < 2147483648) : Ra_ γ m_X12_step 1 [.ref 185, .int (i_ z)] σ A c e (ri_ (sta_ (ev_ A) z)) := by
  have he := h.2.2.2.2.2.2
  have w : Wd (pt_I σ 185 0 (i_ 0)) := h.1
  refine ra_of (e_X12_step h.1 ?_)
  unfold p_X12_step_0
  unfold ev_
  cases eE : aE_ A with
  | none =>
    rw [eE] at he
    have he : st_I σ 185 47 = i_ 0 := he
    rw [he]
    refine ⟨fun _ => ?_, fun y => absurd rfl y⟩
    refine ra_0 h ?_
    have e1 : sta_ (([], fun _ => 0, []) : ex_T) z = -1 := by
      unfold sta_
      split <;> rfl
    show ri_ (sta_ (([], fun _ => 0, []) : ex_T) z) = _
    rw [e1]
    rfl
  | some x =>
    rw [eE] at he
    obtain ⟨he, ⟨h1, h2, h3⟩, -⟩ := he
    rw [he, h1, show i_ (x.1.length : Int) - (1 : Int32) = i_ ((x.1.length : Int) - 1) by rw [k1_, i_sub]]
    refine ⟨fun y => absurd y (by decide), fun _ => ⟨_, _, w, c_risIn w q1 (a := 0) (b := (x.1.length : Int) - 1) (by omega) (by omega), fun v => ?_, fun v => ?_⟩⟩
    · have v2 : ¬ (0 ≤ z ∧ z ≤ (x.1.length : Int) - 1) := fun v2 => by
        rw [if_pos (by rw [decide_eq_true_eq]; exact v2)] at v
        exact absurd v (by decide)
      have e1 : sta_ x z = -1 := by
        unfold sta_
        by_cases u1 : 0 ≤ z
        · rw [if_pos u1, List.getElem?_eq_none (by omega)]
        · rw [if_neg u1]
      rw [show (-1 : Int32) = i_ (-1) by decide]
      exact ra_0 h (by show ri_ _ = _; rw [e1]; rfl)
    · have v2 : 0 ≤ z ∧ z ≤ (x.1.length : Int) - 1 := by
        by_cases v2 : 0 ≤ z ∧ z ≤ (x.1.length : Int) - 1
        · exact v2
        · rw [if_neg (by rw [decide_eq_true_eq]; exact v2)] at v
          exact absurd rfl v
      obtain ⟨i, rfl⟩ : ∃ i : Nat, z = i := ⟨z.toNat, by omega⟩
      obtain ⟨q, hq⟩ : ∃ q, x.1[i]? = some q := ⟨_, List.getElem?_eq_getElem (by omega)⟩
      rw [i_cl q1, Int.toNat_natCast, st_pI, if_neg (by omega), h3 i q hq]
      refine ⟨i_in (by omega) (by omega) (by omega), ra_0 h ?_⟩
      have e1 : sta_ x (i : Int) = ((10 * q.1 + q.2 : Nat) : Int) := by
        unfold sta_
        rw [if_pos (by omega), Int.toNat_natCast, hq]
      show ri_ _ = _
      rw [e1]
      rfl
end RX
