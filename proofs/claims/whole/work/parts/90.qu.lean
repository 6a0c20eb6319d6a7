/-! queries of the class over outcomes -/
section QU
variable {γ : ga_T} {σ : st_T} {A : ca_T} {R : rt_T}
theorem kk_len {f : fk_T} {σ1 : st_T} {m : Nat} (k : Kk_ σ1 m (aP_ A) f) : (O_ A m).length ≤ 131072 := Nat.le_trans k.1.2.2.1 k.1.1.2.2.2
theorem c_outcomeCount (h : J_ σ A R) (hb : Bq_ (aP_ A).1) {z : Int} (q1 : -2147483648 ≤ z ∧ z < 2147483648) : Ans_ γ m_X11_outcomeCount 9 [.ref 128, .int (i_ z)] σ R A (mq_ z (fun m => ri_ (O_ A m).length)) := by
  refine am_ h q1 (fun m hm e hf => ?_) (fun Q s zs zf zQ => e_X11_outcomeCount h.1.1 (by
    unfold p_X11_outcomeCount_0
    exact Or.inr ⟨s, zs, zf, zQ⟩))
  subst e
  obtain ⟨σ1, R1, f1, f2, f3, f4, -, -⟩ := c_findings (γ := γ) h hb hm
  refine ⟨σ1, R1, sq_ (fun Q zQ => e_X11_outcomeCount h.1.1 ?_), f2, co_1 f3⟩
  unfold p_X11_outcomeCount_0
  exact Or.inl ⟨σ, h.1.1, hf, _, σ1, f2.1.1, f1, fa_fi m, _, σ1, f2.1.1, c_fsize (fa_fi m) f2.1.1 f4.1, zQ⟩
theorem c_outcome (h : J_ σ A R) (hb : Bq_ (aP_ A).1) {z y : Int} (q1 : -2147483648 ≤ z ∧ z < 2147483648) (q2 : -2147483648 ≤ y ∧ y < 2147483648) : Ans_ γ m_X11_outcome 9 [.ref 128, .int (i_ z), .int (i_ y)] σ R A (mq_ z (fun m => ri_ (cf_ (O_ A m) y))) := by
  refine am_ h q1 (fun m hm e hf => ?_) (fun Q s zs zf zQ => e_X11_outcome h.1.1 (by
    unfold p_X11_outcome_0
    exact Or.inr ⟨s, zs, zf, zQ⟩))
  subst e
  obtain ⟨σ1, R1, f1, f2, f3, f4, -, -⟩ := c_findings (γ := γ) h hb hm
  refine ⟨σ1, R1, sq_ (fun Q zQ => e_X11_outcome h.1.1 ?_), f2, co_1 f3⟩
  unfold p_X11_outcome_0
  exact Or.inl ⟨σ, h.1.1, hf, _, σ1, f2.1.1, f1, fa_fi m, _, σ1, f2.1.1, c_codeAt (fa_fi m) f2.1.1 f4.1 q2, zQ⟩
theorem fp_rng (L : List (Nat × Int64)) (c : Int) (hL : L.length ≤ 131072) : -1 ≤ fp_ L c ∧ fp_ L c < 131072 := by
  unfold fp_
  cases e : L.findIdx? (fun q => decide ((q.1 : Int) = c)) with
  | none => exact ⟨Int.le_refl _, by decide⟩
  | some i =>
    have y := (List.findIdx?_eq_some_iff_getElem.mp e).1
    show -1 ≤ (i : Int) ∧ (i : Int) < 131072
    omega
theorem c_hasOutcome (h : J_ σ A R) (hb : Bq_ (aP_ A).1) {z y : Int} (q1 : -2147483648 ≤ z ∧ z < 2147483648) (q2 : -2147483648 ≤ y ∧ y < 2147483648) : Ans_ γ m_X11_hasOutcome 9 [.ref 128, .int (i_ z), .int (i_ y)] σ R A (mq_ z (fun m => rb_ (decide (fp_ (O_ A m) y ≠ -1)))) := by
  refine am_ h q1 (fun m hm e hf => ?_) (fun Q s zs zf zQ => e_X11_hasOutcome h.1.1 (by
    unfold p_X11_hasOutcome_0
    exact Or.inr ⟨s, zs, zf, zQ⟩))
  subst e
  obtain ⟨σ1, R1, f1, f2, f3, f4, -, -⟩ := c_findings (γ := γ) h hb hm
  refine ⟨σ1, R1, sq_ (fun Q zQ => e_X11_hasOutcome h.1.1 ?_), f2, co_1 f3⟩
  have y9 := fp_rng (O_ A m) y (kk_len f4)
  unfold p_X11_hasOutcome_0
  refine Or.inl ⟨σ, h.1.1, hf, _, σ1, f2.1.1, f1, fa_fi m, _, σ1, f2.1.1, c_placeOf (fa_fi m) f2.1.1 f4.1 ocs_so q2, ?_⟩
  change ((i_ (fp_ (O_ A m) y) = -1 → _) ∧ (¬ i_ (fp_ (O_ A m) y) = -1 → _))
  simp (disch := omega) only [i_lit, i_neg, i_eq]
  refine ⟨fun z => ?_, fun z => ?_⟩
  · rw [decide_eq_false (by omega)] at zQ
    exact zQ
  · rw [decide_eq_true z] at zQ
    exact zQ
theorem c_stateCount (h : J_ σ A R) (hb : Bq_ (aP_ A).1) {z : Int} (q1 : -2147483648 ≤ z ∧ z < 2147483648) : Ans_ γ m_X11_stateCount 9 [.ref 128, .int (i_ z)] σ R A (mq_ z (fun m => ri_ ((bf_ (aP_ A).1 m (F0_ (aP_ A).1)).length))) := by
  refine am_ h q1 (fun m hm e hf => ?_) (fun Q s zs zf zQ => e_X11_stateCount h.1.1 (by
    unfold p_X11_stateCount_0
    exact Or.inr ⟨s, zs, zf, zQ⟩))
  subst e
  obtain ⟨σ1, R1, f1, f2, f3, f4, -, -⟩ := c_findings (γ := γ) h hb hm
  refine ⟨σ1, R1, sq_ (fun Q zQ => e_X11_stateCount h.1.1 ?_), f2, co_1 f3⟩
  have e := c_fstates (γ := γ) (fa_fi m) f2.1.1
  rw [f4.2] at e
  unfold p_X11_stateCount_0
  exact Or.inl ⟨σ, h.1.1, hf, _, σ1, f2.1.1, f1, fa_fi m, _, σ1, f2.1.1, e, zQ⟩
theorem c_executionsWith (h : J_ σ A R) (hb : Bq_ (aP_ A).1) {z y : Int} (q1 : -2147483648 ≤ z ∧ z < 2147483648) (q2 : -2147483648 ≤ y ∧ y < 2147483648) : Ans_ γ m_X11_executionsWith 9 [.ref 128, .int (i_ z), .int (i_ y)] σ R A (mq_ z (fun m => .inl (some (.long (we_ (O_ A m) (fp_ (O_ A m) y)))))) := by
  refine am_ h q1 (fun m hm e hf => ?_) (fun Q s zs zf zQ => e_X11_executionsWith h.1.1 (by
    unfold p_X11_executionsWith_0
    exact Or.inr ⟨s, zs, zf, zQ⟩))
  subst e
  obtain ⟨σ1, R1, f1, f2, f3, f4, -, -⟩ := c_findings (γ := γ) h hb hm
  refine ⟨σ1, R1, sq_ (fun Q zQ => e_X11_executionsWith h.1.1 ?_), f2, co_1 f3⟩
  have y9 := fp_rng (O_ A m) y (kk_len f4)
  unfold p_X11_executionsWith_0
  exact Or.inl ⟨σ, h.1.1, hf, _, σ1, f2.1.1, f1, fa_fi m, _, σ1, f2.1.1, c_placeOf (fa_fi m) f2.1.1 f4.1 ocs_so q2, fa_fi m, _, σ1, f2.1.1, c_execAt (fa_fi m) f2.1.1 f4.1 (by show -2147483648 ≤ fp_ (O_ A m) y ∧ fp_ (O_ A m) y < 2147483648; omega), zQ⟩
theorem take_s {α : Type} {L : List α} {i : Nat} {q : α} (h : L[i]? = some q) : L.take (i + 1) = L.take i ++ [q] := by
  rw [List.take_add_one, h]
  rfl
theorem c_extra (h : J_ σ A R) (hb : Bq_ (aP_ A).1) {z y : Int} (q1 : -2147483648 ≤ z ∧ z < 2147483648) (q2 : -2147483648 ≤ y ∧ y < 2147483648) : Ans_ γ m_X11_extraOutcomes 9 [.ref 128, .int (i_ z), .int (i_ y)] σ R A (mq_ z (fun m => mq_ y (fun k => ri_ ((O_ A m).countP (fun q => decide (fp_ (O_ A k) q.1 = -1)))))) := by
  refine am_ h q1 (fun m hm e hf => ?_) (fun Q s zs zf zQ => e_X11_extraOutcomes h.1.1 (by
    unfold p_X11_extraOutcomes_0
    exact Or.inr ⟨s, zs, zf, zQ⟩))
  subst e
  refine am_ h q2 (fun k hk e hf2 => ?_) (fun Q s zs zf zQ => e_X11_extraOutcomes h.1.1 (by
    unfold p_X11_extraOutcomes_0
    exact Or.inl ⟨σ, h.1.1, hf, Or.inr ⟨s, zs, zf, zQ⟩⟩))
  subst e
  obtain ⟨σ1, R1, f1, f2, f3, f4, f5, -⟩ := c_findings (γ := γ) h hb hm
  obtain ⟨σ2, R2, g1, g2, g3, g4, -, g6⟩ := c_findings (γ := γ) f2 hb hk
  have f6 := kk_of g2 hm (g6 m hm f5)
  have w := g2.1.1
  refine ⟨σ2, R2, sq_ (fun Q zQ => e_X11_extraOutcomes h.1.1 ?_), g2, co_1 (co_tr f3 g3)⟩
  unfold p_X11_extraOutcomes_0
  refine Or.inl ⟨σ, h.1.1, hf, Or.inl ⟨σ, h.1.1, hf2, _, σ1, f2.1.1, f1, _, σ2, w, g1, ?_⟩⟩
  have F1 : Fl_ σ2 (fa_ m) (rf_ R2 m) (O_ A m) := f6.1
  have F2 : Fl_ σ2 (fa_ k) (rf_ R2 k) (O_ A k) := g4.1
  have n1 : (O_ A m).length ≤ 131072 := kk_len f6
  have n2 : (O_ A k).length ≤ 131072 := kk_len g4
  have so2 : So_ (O_ A k) := ocs_so
  generalize O_ A m = L at F1 n1 zQ ⊢
  generalize O_ A k = L2 at F2 n2 so2 zQ ⊢
  have key : ∀ v i : Nat, v + i = L.length → vv_ γ m_X11_extraOutcomes 9 29 [(3, .ref (fa_ m)), (4, .ref (fa_ k)), (5, .int (i_ ((L.take i).countP (fun q => decide (fp_ L2 q.1 = -1)) : Nat))), (6, .int (i_ (i : Int)))] [] σ2 Q := by
    intro v
    induction v with
    | zero =>
      intro i zi
      refine g_X11_extraOutcomes_29 w ?_
      unfold p_X11_extraOutcomes_29
      refine ⟨fa_fi m, _, σ2, w, c_fsize (fa_fi m) w F1, ?_⟩
      simp (disch := omega) only [i_le]
      refine ⟨fun _ => ?_, fun z => by omega⟩
      rw [List.take_of_length_le (by omega)]
      exact zQ
    | succ v ih =>
      intro i zi
      refine g_X11_extraOutcomes_29 w ?_
      unfold p_X11_extraOutcomes_29
      refine ⟨fa_fi m, _, σ2, w, c_fsize (fa_fi m) w F1, ?_⟩
      simp (disch := omega) only [i_le]
      obtain ⟨q, hq⟩ : ∃ q, L[i]? = some q := ⟨_, List.getElem?_eq_getElem (by omega)⟩
      have y1 := c_codeAt (γ := γ) (fa_fi m) w F1 (z := i) (by omega)
      rw [cf_at hq] at y1
      have y3 := (F1.2.2.2 _ _ hq).2.2
      have y9 := fp_rng L2 q.1 n2
      have ih1 := ih (i + 1) (by omega)
      rw [take_s hq, List.countP_append, List.countP_singleton] at ih1
      refine ⟨fun z => by omega, fun _ => ⟨fa_fi m, _, σ2, w, y1, fa_fi k, _, σ2, w, c_placeOf (fa_fi k) w F2 so2 (by omega), ?_⟩⟩
      simp (disch := omega) only [i_lit, i_neg, i_eq, i_add]
      refine ⟨fun z => ?_, fun z => ?_⟩
      · rw [if_pos (by rw [decide_eq_true_eq]; exact z)] at ih1
        exact ih1
      · rw [if_neg (by rw [decide_eq_true_eq]; exact z)] at ih1
        exact ih1
  exact key L.length 0 (by omega)
theorem c_executionCount (h : J_ σ A R) (hb : Bq_ (aP_ A).1) {z : Int} (q1 : -2147483648 ≤ z ∧ z < 2147483648) : Ans_ γ m_X11_executionCount 9 [.ref 128, .int (i_ z)] σ R A (mq_ z (fun m => .inl (some (.long ((O_ A m).foldl (fun a q => a + q.2) 0))))) := by
  refine am_ h q1 (fun m hm e hf => ?_) (fun Q s zs zf zQ => e_X11_executionCount h.1.1 (by
    unfold p_X11_executionCount_0
    exact Or.inr ⟨s, zs, zf, zQ⟩))
  subst e
  obtain ⟨σ1, R1, f1, f2, f3, f4, -, -⟩ := c_findings (γ := γ) h hb hm
  have w := f2.1.1
  refine ⟨σ1, R1, sq_ (fun Q zQ => e_X11_executionCount h.1.1 ?_), f2, co_1 f3⟩
  unfold p_X11_executionCount_0
  refine Or.inl ⟨σ, h.1.1, hf, _, σ1, w, f1, ?_⟩
  have F1 : Fl_ σ1 (fa_ m) (rf_ R1 m) (O_ A m) := f4.1
  have n1 : (O_ A m).length ≤ 131072 := kk_len f4
  generalize O_ A m = L at F1 n1 zQ ⊢
  have key : ∀ v i : Nat, v + i = L.length → vv_ γ m_X11_executionCount 9 16 [(2, .ref (fa_ m)), (3, .long ((L.take i).foldl (fun a q => a + q.2) 0)), (5, .int (i_ (i : Int)))] [] σ1 Q := by
    intro v
    induction v with
    | zero =>
      intro i zi
      refine g_X11_executionCount_16 w ?_
      unfold p_X11_executionCount_16
      refine ⟨fa_fi m, _, σ1, w, c_fsize (fa_fi m) w F1, ?_⟩
      simp (disch := omega) only [i_le]
      refine ⟨fun _ => ?_, fun z => by omega⟩
      rw [List.take_of_length_le (by omega)]
      exact zQ
    | succ v ih =>
      intro i zi
      refine g_X11_executionCount_16 w ?_
      unfold p_X11_executionCount_16
      refine ⟨fa_fi m, _, σ1, w, c_fsize (fa_fi m) w F1, ?_⟩
      simp (disch := omega) only [i_le]
      obtain ⟨q, hq⟩ : ∃ q, L[i]? = some q := ⟨_, List.getElem?_eq_getElem (by omega)⟩
      have y1 := c_execAt (γ := γ) (fa_fi m) w F1 (z := i) (by omega)
      rw [we_at hq] at y1
      have ih1 := ih (i + 1) (by omega)
      rw [take_s hq, List.foldl_append] at ih1
      refine ⟨fun z => by omega, fun _ => ⟨fa_fi m, _, σ1, w, y1, ?_⟩⟩
      rw [i_lit 1, i_add]
      exact ih1
  exact key L.length 0 (by omega)
end QU
