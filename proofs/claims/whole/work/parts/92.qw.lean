/-! queries of the class: buffers, races, gaps, the program, the explanation, bytes -/
section QW
variable {γ : ga_T} {σ : st_T} {A : ca_T} {R : rt_T}
theorem c_greatestBuffer (h : J_ σ A R) {z y : Int} (q1 : -2147483648 ≤ z ∧ z < 2147483648) (q2 : -2147483648 ≤ y ∧ y < 2147483648) : Ans_ γ m_X11_greatestBuffer 9 [.ref 128, .int (i_ z), .int (i_ y)] σ R A (mq_ z (fun m => if 0 ≤ y ∧ y < pT_ (aP_ A).1 then (if m = 0 then ri_ 0 else ri_ ((mb_ (aP_ A).1 y (pN_ (aP_ A).1)).1)) else ioo_)) := by
  have w := h.1.1
  refine am_ h q1 (fun m hm e hf => ?_) (fun Q s zs zf zQ => e_X11_greatestBuffer h.1.1 (by
    unfold p_X11_greatestBuffer_0
    exact Or.inr ⟨s, zs, zf, zQ⟩))
  subst e
  have b1 := h.2.1.1.1.1.2.1
  by_cases hy : 0 ≤ y ∧ y < pT_ (aP_ A).1
  · rw [if_pos hy]
    refine an0_ h (fun Q zQ => e_X11_greatestBuffer w ?_)
    unfold p_X11_greatestBuffer_0
    refine Or.inl ⟨σ, w, hf, ?_⟩
    simp (disch := omega) only [i_lit, i_lt]
    refine ⟨fun z => by omega, fun _ => ⟨_, σ, w, c_threads (Or.inl rfl) w h.2.1.1.1, ?_⟩⟩
    simp (disch := omega) only [i_lit, i_lt, i_eq]
    refine ⟨fun _ => ⟨fun z => ?_, fun z => ?_⟩, fun z => by omega⟩
    · rw [if_pos (by omega)] at zQ
      exact zQ
    · rw [if_neg (by omega)] at zQ
      exact ⟨_, σ, w, c_mostBuf (Or.inl rfl) w h.2.1.1.1 q2, zQ⟩
  · rw [if_neg hy]
    refine anX_ h (fun Q zQ => e_X11_greatestBuffer w ?_)
    unfold p_X11_greatestBuffer_0
    refine Or.inl ⟨σ, w, hf, ?_⟩
    simp (disch := omega) only [i_lit, i_lt]
    refine ⟨fun _ => zQ, fun _ => ⟨_, σ, w, c_threads (Or.inl rfl) w h.2.1.1.1, ?_⟩⟩
    simp (disch := omega) only [i_lit, i_lt, i_eq]
    exact ⟨fun z => by omega, fun _ => zQ⟩
theorem c_isRace (h : J_ σ A R) {z y : Int} (q1 : -2147483648 ≤ z ∧ z < 2147483648) (q2 : -2147483648 ≤ y ∧ y < 2147483648) : Ans_ γ m_X11_isRace 9 [.ref 128, .int (i_ z), .int (i_ y)] σ R A (im_ A z (fun i => im_ A y (fun j => rb_ (ir_ (aP_ A).1 i j)))) := by
  have w := h.1.1
  refine ai_ h q1 (fun i hi e hf => ?_) (fun Q s zs zf zQ => e_X11_isRace w (by
    unfold p_X11_isRace_0
    exact Or.inr ⟨s, zs, zf, zQ⟩)) (fun _ => rfl)
  subst e
  refine ai_ h q2 (fun j hj e hf2 => ?_) (fun Q s zs zf zQ => e_X11_isRace w (by
    unfold p_X11_isRace_0
    exact Or.inl ⟨σ, w, hf, Or.inr ⟨s, zs, zf, zQ⟩⟩)) (fun _ => rfl)
  subst e
  refine an0_ h (fun Q zQ => e_X11_isRace w ?_)
  unfold p_X11_isRace_0
  refine Or.inl ⟨σ, w, hf, Or.inl ⟨σ, w, hf2, _, σ, w, c_isRacing (Or.inl rfl) w h.2.1.1.1 q1 q2, ?_, zQ⟩⟩
  split
  · exact Or.inr rfl
  · exact Or.inl rfl
/-- races of an instruction with later ones before j, of instructions before i with all later ones -/
def rj_ (p : pr_T) (i j : Nat) : Nat := ct_ (fun v => decide (i < v) && ir_ p i v) j
def rcs_ (p : pr_T) : Nat → Nat
  | 0 => 0
  | i + 1 => rcs_ p i + rj_ p i (pN_ p)
theorem rj_0 (p : pr_T) (i : Nat) : ∀ j, j ≤ i + 1 → rj_ p i j = 0 := by
  intro j
  induction j with
  | zero => intro _; rfl
  | succ j ih =>
    intro z
    show rj_ p i j + _ = 0
    rw [ih (by omega)]
    show 0 + (if (decide (i < j) && ir_ p i j) = true then 1 else 0) = 0
    rw [decide_eq_false (show ¬ i < j by omega), Bool.false_and, if_neg (by decide)]
theorem c_raceCount (h : J_ σ A R) : Ans_ γ m_X11_raceCount 2 [.ref 128] σ R A (ri_ (rcs_ (aP_ A).1 (pN_ (aP_ A).1))) := by
  have w := h.1.1
  have b0 := h.2.1.1.1.1.1
  have zR := h.2.1.1.1
  refine an0_ h (fun Q zQ => e_X11_raceCount w ?_)
  unfold p_X11_raceCount_0
  generalize (aP_ A).1 = p at b0 zR zQ ⊢
  have inner : ∀ i : Nat, i < pN_ p → vv_ γ m_X11_raceCount 2 4 [(0, .ref 128), (1, .int (i_ (rcs_ p (i + 1) : Nat))), (2, .int (i_ ((i + 1 : Nat) : Int)))] [] σ Q → ∀ k j : Nat, k + j = pN_ p → i < j → vv_ γ m_X11_raceCount 2 19 [(0, .ref 128), (1, .int (i_ ((rcs_ p i + rj_ p i j : Nat) : Int))), (2, .int (i_ (i : Int))), (3, .int (i_ (j : Int)))] [] σ Q := by
    intro i hi hQ k
    induction k with
    | zero =>
      intro j zj zij
      refine g_X11_raceCount_19 w ?_
      unfold p_X11_raceCount_19
      refine ⟨_, σ, w, c_size (Or.inl rfl) w zR, ?_⟩
      simp (disch := omega) only [i_le]
      refine ⟨fun _ => ?_, fun z => by omega⟩
      rw [i_lit 1, i_add, show j = pN_ p by omega]
      exact hQ
    | succ k ih =>
      intro j zj zij
      refine g_X11_raceCount_19 w ?_
      unfold p_X11_raceCount_19
      refine ⟨_, σ, w, c_size (Or.inl rfl) w zR, ?_⟩
      simp (disch := omega) only [i_le]
      refine ⟨fun z => by omega, fun _ => ⟨_, σ, w, c_isRacing (Or.inl rfl) w zR (by omega) (by omega), ?_⟩⟩
      have ih1 := ih (j + 1) (by omega) (by omega)
      rw [show rj_ p i (j + 1) = rj_ p i j + (if (decide (i < j) && ir_ p i j) = true then 1 else 0) from rfl, decide_eq_true zij, Bool.true_and] at ih1
      simp only [i_lit, i_add]
      by_cases u : ir_ p i j = true
      · rw [if_pos u] at ih1
        rw [if_pos u]
        exact ⟨fun y => absurd y (by decide), fun _ => ih1⟩
      · rw [if_neg u] at ih1
        rw [if_neg u]
        exact ⟨fun _ => ih1, fun y => absurd rfl y⟩
  have outer : ∀ k i : Nat, k + i = pN_ p → vv_ γ m_X11_raceCount 2 4 [(0, .ref 128), (1, .int (i_ (rcs_ p i : Nat))), (2, .int (i_ (i : Int)))] [] σ Q := by
    intro k
    induction k with
    | zero =>
      intro i zi
      refine g_X11_raceCount_4 w ?_
      unfold p_X11_raceCount_4
      refine ⟨_, σ, w, c_size (Or.inl rfl) w zR, ?_⟩
      simp (disch := omega) only [i_le]
      refine ⟨fun _ => ?_, fun z => by omega⟩
      rw [show i = pN_ p by omega]
      exact zQ
    | succ k ih =>
      intro i zi
      refine g_X11_raceCount_4 w ?_
      unfold p_X11_raceCount_4
      refine ⟨_, σ, w, c_size (Or.inl rfl) w zR, ?_⟩
      simp (disch := omega) only [i_le]
      refine ⟨fun z => by omega, fun _ => ?_⟩
      have y := inner i (by omega) (ih (i + 1) (by omega)) k (i + 1) (by omega) (by omega)
      rw [rj_0 p i (i + 1) (Nat.le_refl _)] at y
      rw [i_lit 1, i_add]
      exact y
  exact outer (pN_ p) 0 (by omega)
theorem c_gapCount (h : J_ σ A R) : Ans_ γ m_X11_gapCount 3 [.ref 128] σ R A (ri_ (ct_ (gb_ (aP_ A).1) (pN_ (aP_ A).1))) := an0_ h (fun Q zQ => e_X11_gapCount h.1.1 ⟨_, σ, h.1.1, c_gaps (Or.inl rfl) h.1.1 h.2.1.1.1, zQ⟩)
theorem c_gapBefore (h : J_ σ A R) {z : Int} (q1 : -2147483648 ≤ z ∧ z < 2147483648) : Ans_ γ m_X11_gapBefore 3 [.ref 128, .int (i_ z)] σ R A (ri_ (pl_ (gb_ (aP_ A).1) z (pN_ (aP_ A).1) 0)) := an0_ h (fun Q zQ => e_X11_gapBefore h.1.1 ⟨_, σ, h.1.1, c_placeOfGap (Or.inl rfl) h.1.1 h.2.1.1.1 q1, zQ⟩)
theorem c_threadCount (h : J_ σ A R) : Ans_ γ m_X11_threadCount 1 [.ref 128] σ R A (ri_ (pT_ (aP_ A).1)) := an0_ h (fun Q zQ => e_X11_threadCount h.1.1 ⟨_, σ, h.1.1, c_threads (Or.inl rfl) h.1.1 h.2.1.1.1, zQ⟩)
theorem c_locationCount (h : J_ σ A R) : Ans_ γ m_X11_locationCount 1 [.ref 128] σ R A (ri_ (pL_ (aP_ A).1)) := an0_ h (fun Q zQ => e_X11_locationCount h.1.1 ⟨_, σ, h.1.1, c_locations (Or.inl rfl) h.1.1 h.2.1.1.1, zQ⟩)
theorem c_instructionCount (h : J_ σ A R) : Ans_ γ m_X11_instructionCount 1 [.ref 128] σ R A (ri_ (pN_ (aP_ A).1)) := an0_ h (fun Q zQ => e_X11_instructionCount h.1.1 ⟨_, σ, h.1.1, c_size (Or.inl rfl) h.1.1 h.2.1.1.1, zQ⟩)
theorem c_instruction (h : J_ σ A R) {z y : Int} (q1 : -2147483648 ≤ z ∧ z < 2147483648) (q2 : -2147483648 ≤ y ∧ y < 2147483648) : Ans_ γ m_X11_instruction 9 [.ref 128, .int (i_ z), .int (i_ y)] σ R A (im_ A z (fun i => ri_ (pp_ (aP_ A).1 i y))) := by
  refine ai_ h q1 (fun i hi e hf => ?_) (fun Q s zs zf zQ => e_X11_instruction h.1.1 (by
    unfold p_X11_instruction_0
    exact Or.inr ⟨s, zs, zf, zQ⟩)) (fun _ => rfl)
  subst e
  refine an0_ h (fun Q zQ => e_X11_instruction h.1.1 ?_)
  unfold p_X11_instruction_0
  exact Or.inl ⟨σ, h.1.1, hf, _, σ, h.1.1, c_property (Or.inl rfl) h.1.1 h.2.1.1.1 q1 q2, zQ⟩
/-- the explanation that stands -/
def ev_ (A : ca_T) : ex_T := match aE_ A with
  | some e => e
  | none => ([], fun _ => 0, [])
theorem ep_xp (h : Ep_ σ (aE_ A)) : ∃ o, Xp_ σ ((ev_ A).1, o, (ev_ A).2.2) ∧ (st_I σ 181 6 = i_ 1 → o = (ev_ A).2.1) ∧ (st_I σ 181 6 = i_ (if (aE_ A).isSome = true then 1 else 0)) := by
  unfold ev_
  cases hE : aE_ A with
  | none =>
    rw [hE] at h
    obtain ⟨k1, o, k2⟩ := h
    exact ⟨o, k2, fun z => absurd (k1.symm.trans z) (by decide), k1⟩
  | some e =>
    rw [hE] at h
    exact ⟨e.2.1, h.2, fun _ => rfl, h.1⟩
theorem c_step (h : J_ σ A R) {z : Int} (q1 : -2147483648 ≤ z ∧ z < 2147483648) : Ans_ γ m_X11_step 1 [.ref 128, .int (i_ z)] σ R A (ri_ (sta_ (ev_ A) z)) := by
  obtain ⟨o, k1, -, -⟩ := ep_xp h.2.2.1.2.2
  exact an0_ h (fun Q zQ => e_X11_step h.1.1 ⟨_, σ, h.1.1, c_stepAt h.1.1 k1 q1, zQ⟩)
theorem c_writtenBy (h : J_ σ A R) {z y : Int} (q1 : -2147483648 ≤ z ∧ z < 2147483648) (q2 : -2147483648 ≤ y ∧ y < 2147483648) : Ans_ γ m_X11_writtenBy 9 [.ref 128, .int (i_ z), .int (i_ y)] σ R A (lm_ A z (fun l => ri_ (wat_ (aP_ A).1 l y 0 (ev_ A).2.2))) := by
  obtain ⟨o, k1, -, -⟩ := ep_xp h.2.2.1.2.2
  refine al2_ h q1 (fun i hi e hf => ?_) (fun Q s zs zf zQ => e_X11_writtenBy h.1.1 (by
    unfold p_X11_writtenBy_0
    exact Or.inr ⟨s, zs, zf, zQ⟩))
  subst e
  refine an0_ h (fun Q zQ => e_X11_writtenBy h.1.1 ?_)
  unfold p_X11_writtenBy_0
  exact Or.inl ⟨σ, h.1.1, hf, _, σ, h.1.1, c_writerAt h.1.1 h.2.1.1.1 k1 q1 q2, zQ⟩
theorem c_readsFrom (h : J_ σ A R) {z : Int} (q1 : -2147483648 ≤ z ∧ z < 2147483648) : Ans_ γ m_X11_readsFrom 9 [.ref 128, .int (i_ z)] σ R A (im_ A z (fun i => if pC_ (aP_ A).1 i 3 = -1 ∨ aE_ A = none then nse_ else ri_ ((ev_ A).2.1 i))) := by
  obtain ⟨o, k1, k2, k3⟩ := ep_xp h.2.2.1.2.2
  refine ai_ h q1 (fun i hi e hf => ?_) (fun Q s zs zf zQ => e_X11_readsFrom h.1.1 (by
    unfold p_X11_readsFrom_0
    exact Or.inr ⟨s, zs, zf, zQ⟩)) (fun _ => rfl)
  subst e
  have w := h.1.1
  have b0 := h.2.1.1.1.1.1
  have b3 := h.2.1.1.1.1.2.2.2.2 i 3
  have pr := c_property (γ := γ) (Or.inl rfl) w h.2.1.1.1 (z := i) (k := 3) (by omega) (by omega)
  have ep : pp_ (aP_ A).1 i 3 = pC_ (aP_ A).1 i 3 := by
    unfold pp_
    rw [if_pos (by omega), Int.toNat_natCast]
    rfl
  rw [ep] at pr
  have hx : st_I σ 181 6 = 0 ∨ st_I σ 181 6 = 1 := by
    rw [k3]
    cases aE_ A with
    | none => exact Or.inl rfl
    | some e => exact Or.inr rfl
  by_cases c : pC_ (aP_ A).1 i 3 = -1
  · rw [if_pos (Or.inl c)]
    refine anX_ h (fun Q zQ => e_X11_readsFrom w ?_)
    unfold p_X11_readsFrom_0
    refine Or.inl ⟨σ, w, hf, _, σ, w, pr, ?_⟩
    simp (disch := omega) only [i_lit, i_neg, i_eq]
    exact ⟨fun _ => zQ, fun z => absurd c z⟩
  · cases hE : aE_ A with
    | none =>
      rw [if_pos (Or.inr rfl)]
      refine anX_ h (fun Q zQ => e_X11_readsFrom w ?_)
      unfold p_X11_readsFrom_0
      refine Or.inl ⟨σ, w, hf, _, σ, w, pr, ?_⟩
      simp (disch := omega) only [i_lit, i_neg, i_eq]
      rw [hE] at k3
      refine ⟨fun z => absurd z c, fun _ => ⟨_, σ, w, c_xpresent w hx, fun _ => zQ, fun z => absurd k3 z⟩⟩
    | some e =>
      rw [if_neg (by
        rintro (z | z)
        · exact c z
        · cases z)]
      refine an0_ h (fun Q zQ => e_X11_readsFrom w ?_)
      unfold p_X11_readsFrom_0
      refine Or.inl ⟨σ, w, hf, _, σ, w, pr, ?_⟩
      simp (disch := omega) only [i_lit, i_neg, i_eq]
      rw [hE] at k3
      have k4 := k2 k3
      have y := c_originOf (γ := γ) w k1 (i := i) (by omega)
      rw [k4] at y
      refine ⟨fun z => absurd z c, fun _ => ⟨_, σ, w, c_xpresent w hx, fun z => absurd (k3.symm.trans z) (show ¬ i_ 1 = i_ 0 by decide), fun _ => ⟨_, σ, w, y, zQ⟩⟩⟩
theorem c_outputByte (h : J_ σ A R) {z : Int} (q1 : -2147483648 ≤ z ∧ z < 2147483648) : Ans_ γ m_X11_outputByte 8 [.ref 128, .int (i_ z)] σ R A (if 0 ≤ z ∧ z < (aO_ A).length then ri_ ((aO_ A)[z.toNat]?.getD 0) else nse_) := by
  have w := h.1.1
  obtain ⟨x1, x2, x3⟩ := h.2.2.1.1
  have el : fn_ γ m_X5_length 0 [.ref 130] σ (.int (i_ ((aO_ A).length : Int))) σ := fn_q (fun Q zQ => e_X5_length w (by
    unfold p_X5_length_0
    rw [x2]
    exact zQ))
  by_cases hz : 0 ≤ z ∧ z < (aO_ A).length
  · rw [if_pos hz]
    obtain ⟨c, rfl⟩ : ∃ c : Nat, z = c := ⟨z.toNat, by omega⟩
    rw [Int.toNat_natCast]
    have hc : c < (aO_ A).length := by omega
    have e1 := x3 c (aO_ A)[c] (List.getElem?_eq_getElem hc)
    have eb : fn_ γ m_X5_byteAt 0 [.ref 130, .int (i_ (c : Int))] σ (.int (i_ (aO_ A)[c])) σ := fn_q (fun Q zQ => e_X5_byteAt w (by
      unfold p_X5_byteAt_0
      simp (disch := omega) only [i_lit, i_lt, i_le, i_in_iff, i_cl, Int.toNat_natCast]
      rw [e1]
      exact ⟨fun z => by omega, fun _ => ⟨fun z => by omega, fun _ => ⟨by omega, zQ⟩⟩⟩))
    refine an0_ h (fun Q zQ => e_X11_outputByte w ?_)
    unfold p_X11_outputByte_0
    simp (disch := omega) only [i_lit, i_lt]
    rw [List.getElem?_eq_getElem hc] at zQ
    refine ⟨fun z => by omega, fun _ => ⟨_, σ, w, el, ?_⟩⟩
    simp (disch := omega) only [i_lit, i_lt]
    exact ⟨fun _ => ⟨_, σ, w, eb, zQ⟩, fun z => by omega⟩
  · rw [if_neg hz]
    refine anX_ h (fun Q zQ => e_X11_outputByte w ?_)
    unfold p_X11_outputByte_0
    simp (disch := omega) only [i_lit, i_lt]
    refine ⟨fun _ => zQ, fun _ => ⟨_, σ, w, el, ?_⟩⟩
    simp (disch := omega) only [i_lit, i_lt]
    exact ⟨fun z => by omega, fun _ => zQ⟩
end QW
