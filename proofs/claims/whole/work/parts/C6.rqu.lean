/-! the reference: queries over outcomes -/
section RQ
variable {γ : ga_T} {σ s : st_T} {A : ca_T} {c m : Nat} {z y : Int} {L : List (Nat × Int64)}
def eI_ : String → Nat := tcd_ 1 0 0 0
def eJ_ : String → Nat := tcd_ 1 0 0 9
theorem mq_no {f : Nat → rs_T} (h : ¬ (0 ≤ z ∧ z < 3)) : mq_ z f = .inr "java/lang/IllegalArgumentException" := if_neg h
theorem mq_yes {f : Nat → rs_T} {m : Nat} (hm : m < 3) : mq_ (m : Int) f = f m := by
  unfold mq_
  rw [if_pos (by omega), Int.toNat_natCast]
theorem ri_eq (n : Nat) : ri_ n = .inl (some (.int (i_ (n : Int)))) := rfl
theorem r_outcomeCount (h : Jr_ σ A c) (hc : c < 1073741822) (zP : Wp_ (aP_ A).1) (hb : Bz_ (aP_ A).1) (q1 : -2147483648 ≤ z ∧ z < 2147483648) : Ra_ γ m_X12_outcomeCount 7 [.ref 185, .int (i_ z)] σ A c eI_ (mq_ z (fun m => ri_ (O_ A m).length)) := by
  refine ra_of (e_X12_outcomeCount h.1 ?_)
  unfold p_X12_outcomeCount_0
  refine rq1_ h.1 q1 (fun hz => ?_) (fun hz => re_fail h (mq_no hz) tcd_1 _)
  obtain ⟨m, rfl⟩ : ∃ m : Nat, z = m := ⟨z.toNat, by omega⟩
  have hm : m < 3 := by omega
  obtain ⟨s, f1, k⟩ := c_rw0 (γ := γ) h hc zP hm hb
  refine ⟨s, k.2.2.1.1, f1, ?_⟩
  rw [k.2.2.2.2]
  exact rw_ans0 k (mq_yes hm)
theorem r_stateCount (h : Jr_ σ A c) (hc : c < 1073741822) (zP : Wp_ (aP_ A).1) (hb : Bz_ (aP_ A).1) (q1 : -2147483648 ≤ z ∧ z < 2147483648) : Ra_ γ m_X12_stateCount 7 [.ref 185, .int (i_ z)] σ A c eI_ (mq_ z (fun m => ri_ ((bf_ (aP_ A).1 m (F0_ (aP_ A).1)).length))) := by
  refine ra_of (e_X12_stateCount h.1 ?_)
  unfold p_X12_stateCount_0
  refine rq1_ h.1 q1 (fun hz => ?_) (fun hz => re_fail h (mq_no hz) tcd_1 _)
  obtain ⟨m, rfl⟩ : ∃ m : Nat, z = m := ⟨z.toNat, by omega⟩
  have hm : m < 3 := by omega
  obtain ⟨s, f1, k⟩ := c_rw0 (γ := γ) h hc zP hm hb
  refine ⟨s, k.2.2.1.1, f1, ?_⟩
  rw [rf_mn zP hm hb k.1]
  exact rw_ans0 k (mq_yes hm)
/-- the rows of the outcomes -/
theorem oc_at (o : Oc_ s L) {i : Nat} {q : Nat × Int64} (h : L[i]? = some q) : st_I s 208 i = i_ (q.1 : Int) ∧ st_L s 210 i = q.2 ∧ q.1 < 4194304 ∧ i < 65536 := by
  obtain ⟨a, b, d⟩ := o.2 i q h
  have y := (List.getElem?_eq_some_iff.mp h).1
  have z := o.1
  exact ⟨a, b, d, by omega⟩
theorem r_outcome (h : Jr_ σ A c) (hc : c < 1073741822) (zP : Wp_ (aP_ A).1) (hb : Bz_ (aP_ A).1) (q1 : -2147483648 ≤ z ∧ z < 2147483648) (q2 : -2147483648 ≤ y ∧ y < 2147483648) : Ra_ γ m_X12_outcome 7 [.ref 185, .int (i_ z), .int (i_ y)] σ A c eI_ (mq_ z (fun m => ri_ (cf_ (O_ A m) y))) := by
  refine ra_of (e_X12_outcome h.1 ?_)
  unfold p_X12_outcome_0
  refine rq1_ h.1 q1 (fun hz => ?_) (fun hz => re_fail h (mq_no hz) tcd_1 _)
  obtain ⟨m, rfl⟩ : ∃ m : Nat, z = m := ⟨z.toNat, by omega⟩
  have hm : m < 3 := by omega
  obtain ⟨s, f1, k⟩ := c_rw0 (γ := γ) h hc zP hm hb
  have w := k.2.2.1.1
  have o := k.2.2.2.1
  have hO := o.1
  refine ⟨s, w, f1, ?_⟩
  rw [k.2.2.2.2, show (-1 : Int32) = i_ (-1) by decide, k1_, i_sub, k0_]
  refine ⟨_, s, w, c_risIn w q2 (a := 0) (b := ((O_ A m).length : Int) - 1) (by omega) (by omega), fun u => ?_, fun u => ?_⟩
  · have e : cf_ (O_ A m) y = -1 := by
      unfold cf_
      by_cases u1 : 0 ≤ y
      · rw [if_pos u1]
        have u2 : ¬ (0 ≤ y ∧ y ≤ ((O_ A m).length : Int) - 1) := fun u2 => by
          rw [if_pos (by rw [decide_eq_true_eq]; exact u2)] at u
          exact absurd u (by decide)
        rw [List.getElem?_eq_none (by omega)]
      · rw [if_neg u1]
    exact rw_ans0 k ((mq_yes hm).trans (by show ri_ _ = _; rw [e]; rfl))
  · have u2 : 0 ≤ y ∧ y ≤ ((O_ A m).length : Int) - 1 := by
      by_cases u2 : 0 ≤ y ∧ y ≤ ((O_ A m).length : Int) - 1
      · exact u2
      · rw [if_neg (by rw [decide_eq_true_eq]; exact u2)] at u
        exact absurd rfl u
    obtain ⟨j, rfl⟩ : ∃ j : Nat, y = j := ⟨y.toNat, by omega⟩
    obtain ⟨q, hq⟩ : ∃ q, (O_ A m)[j]? = some q := ⟨_, List.getElem?_eq_getElem (by omega)⟩
    obtain ⟨a, b, d, g⟩ := oc_at o hq
    rw [i_cl q2, Int.toNat_natCast, a]
    refine ⟨i_in (by omega) (by omega) (by omega), rw_ans0 k ((mq_yes hm).trans (by show ri_ _ = _; rw [cf_at hq]; rfl))⟩
theorem we_m1 (L : List (Nat × Int64)) : we_ L (-1) = 0 := rfl
theorem fp_lt {j : Nat} (hj : fp_ L y = j) : j < L.length := by
  unfold fp_ at hj
  cases e : L.findIdx? (fun q => decide ((q.1 : Int) = y)) with
  | none =>
    rw [e] at hj
    have hj : (-1 : Int) = j := hj
    omega
  | some i =>
    rw [e] at hj
    have hj : (i : Int) = j := hj
    have := (List.findIdx?_eq_some_iff_getElem.mp e).1
    omega
theorem c_rfind (zw : Wd s) (o : Oc_ s L) (hl : st_I s 185 44 = i_ (L.length : Int)) (q2 : -2147483648 ≤ y ∧ y < 2147483648) : fn_ γ m_X12_find 0 [.ref 185, .int (i_ y)] s (.int (i_ (fp_ L y))) s := by
  have hO := o.1
  refine fn_q (fun Q zQ => e_X12_find zw ?_)
  unfold p_X12_find_0
  have key : ∀ v i : Nat, v + i = L.length → (∀ j, j < i → ∀ q, L[j]? = some q → (q.1 : Int) ≠ y) → vv_ γ m_X12_find 0 2 [(0, .ref 185), (1, .int (i_ y)), (2, .int (i_ (i : Int)))] [] s Q := by
    intro v
    induction v with
    | zero =>
      intro i zi hj
      refine g_X12_find_2 zw ?_
      unfold p_X12_find_2
      rw [hl]
      refine ⟨fun _ => ?_, fun u => ?_⟩
      · have e : fp_ L y = -1 := by
          refine fp_no (fun j zj => ?_)
          have y1 := hj j (by omega) _ (List.getElem?_eq_getElem zj)
          rw [wa_eq (List.getElem?_eq_getElem zj)]
          exact y1
        rw [e] at zQ
        rw [show (-1 : Int32) = i_ (-1) by decide]
        exact zQ
      · rw [i_le (by omega) (by omega)] at u
        omega
    | succ v ih =>
      intro i zi hj
      obtain ⟨q, hq⟩ : ∃ q, L[i]? = some q := ⟨_, List.getElem?_eq_getElem (by omega)⟩
      obtain ⟨a, b, d, g⟩ := oc_at o hq
      refine g_X12_find_2 zw ?_
      unfold p_X12_find_2
      rw [hl, i_cl (by omega), Int.toNat_natCast, a, i_eq (by omega) q2]
      refine ⟨fun u => ?_, fun _ => ⟨i_in (by omega) (by omega) (by omega), fun u => ?_, fun u => ?_⟩⟩
      · rw [i_le (by omega) (by omega)] at u
        omega
      · have e : fp_ L y = i := by
          unfold fp_
          have e1 : L.findIdx? (fun q => decide ((q.1 : Int) = y)) = some i := by
            have hi : i < L.length := by omega
            refine List.findIdx?_eq_some_iff_getElem.mpr ⟨hi, ?_, fun j zj => ?_⟩
            · rw [List.getElem?_eq_getElem hi] at hq
              rw [Option.some.inj hq]
              exact decide_eq_true u
            · have y1 := hj j zj _ (List.getElem?_eq_getElem (by omega))
              rw [decide_eq_true_eq]
              exact y1
          rw [e1]
        rw [e] at zQ
        exact zQ
      · have z1 := ih (i + 1) (by omega) (fun j zj q' hq' => by
          by_cases e : j = i
          · rw [e, hq] at hq'
            rw [← Option.some.inj hq']
            exact u
          · exact hj j (by omega) q' hq')
        rw [show ((i + 1 : Nat) : Int) = (i : Int) + 1 by omega, ← i_add, ← i_lit 1] at z1
        exact z1
  rw [k0_]
  exact key L.length 0 (by omega) (fun j zj => absurd zj (Nat.not_lt_zero j))
theorem r_hasOutcome (h : Jr_ σ A c) (hc : c < 1073741822) (zP : Wp_ (aP_ A).1) (hb : Bz_ (aP_ A).1) (q1 : -2147483648 ≤ z ∧ z < 2147483648) (q2 : -2147483648 ≤ y ∧ y < 2147483648) : Ra_ γ m_X12_hasOutcome 7 [.ref 185, .int (i_ z), .int (i_ y)] σ A c eI_ (mq_ z (fun m => rb_ (decide (fp_ (O_ A m) y ≠ -1)))) := by
  refine ra_of (e_X12_hasOutcome h.1 ?_)
  unfold p_X12_hasOutcome_0
  refine rq1_ h.1 q1 (fun hz => ?_) (fun hz => re_fail h (mq_no hz) tcd_1 _)
  obtain ⟨m, rfl⟩ : ∃ m : Nat, z = m := ⟨z.toNat, by omega⟩
  have hm : m < 3 := by omega
  obtain ⟨s, f1, k⟩ := c_rw0 (γ := γ) h hc zP hm hb
  have w := k.2.2.1.1
  have hO := k.2.2.2.1.1
  have y9 := fp_rng (O_ A m) y (by omega)
  refine ⟨s, w, f1, _, s, w, c_rfind w k.2.2.2.1 k.2.2.2.2 q2, ?_⟩
  rw [show (-1 : Int32) = i_ (-1) by decide, i_eq (by omega) (by omega)]
  refine ⟨fun u => ?_, fun u => ?_⟩
  · refine rw_ans0 k ((mq_yes hm).trans ?_)
    show rb_ (decide (fp_ (O_ A m) y ≠ -1)) = _
    rw [decide_eq_false (fun n => n u)]
    rfl
  · refine rw_ans0 k ((mq_yes hm).trans ?_)
    show rb_ (decide (fp_ (O_ A m) y ≠ -1)) = _
    rw [decide_eq_true u]
    rfl
theorem r_executionsWith (h : Jr_ σ A c) (hc : c < 1073741822) (zP : Wp_ (aP_ A).1) (hb : Bz_ (aP_ A).1) (q1 : -2147483648 ≤ z ∧ z < 2147483648) (q2 : -2147483648 ≤ y ∧ y < 2147483648) : Ra_ γ m_X12_executionsWith 7 [.ref 185, .int (i_ z), .int (i_ y)] σ A c eJ_ (mq_ z (fun m => .inl (some (.long (we_ (O_ A m) (fp_ (O_ A m) y)))))) := by
  refine ra_of (e_X12_executionsWith h.1 ?_)
  unfold p_X12_executionsWith_0
  refine rq1_ h.1 q1 (fun hz => ?_) (fun hz => re_failL h (mq_no hz) tcd_1 _)
  obtain ⟨m, rfl⟩ : ∃ m : Nat, z = m := ⟨z.toNat, by omega⟩
  have hm : m < 3 := by omega
  obtain ⟨s, f1, k⟩ := c_rw0 (γ := γ) h hc zP hm hb
  have w := k.2.2.1.1
  have o := k.2.2.2.1
  have hO := o.1
  have y9 := fp_rng (O_ A m) y (by omega)
  have ff := c_rfind (γ := γ) w o k.2.2.2.2 q2
  refine ⟨s, w, f1, _, s, w, ff, ?_⟩
  rw [show (-1 : Int32) = i_ (-1) by decide, i_eq (by omega) (by omega)]
  refine ⟨fun u => ?_, fun u => ⟨_, s, w, ff, ?_⟩⟩
  · refine rw_ans0 k ((mq_yes hm).trans ?_)
    show (.inl (some (.long (we_ (O_ A m) (fp_ (O_ A m) y)))) : rs_T) = _
    rw [u, we_m1]
  · obtain ⟨j, hj⟩ : ∃ j : Nat, fp_ (O_ A m) y = j := ⟨(fp_ (O_ A m) y).toNat, by omega⟩
    have hjl : j < (O_ A m).length := fp_lt hj
    obtain ⟨q, hq⟩ : ∃ q, (O_ A m)[j]? = some q := ⟨_, List.getElem?_eq_getElem hjl⟩
    obtain ⟨a, b, d, g⟩ := oc_at o hq
    rw [hj, i_cl (by omega), Int.toNat_natCast, b]
    refine ⟨i_in (by omega) (by omega) (by omega), rw_ans0 k ((mq_yes hm).trans ?_)⟩
    show (.inl (some (.long (we_ (O_ A m) (fp_ (O_ A m) y)))) : rs_T) = _
    rw [hj, we_at hq]
theorem r_executionCount (h : Jr_ σ A c) (hc : c < 1073741822) (zP : Wp_ (aP_ A).1) (hb : Bz_ (aP_ A).1) (q1 : -2147483648 ≤ z ∧ z < 2147483648) : Ra_ γ m_X12_executionCount 7 [.ref 185, .int (i_ z)] σ A c eJ_ (mq_ z (fun m => .inl (some (.long ((O_ A m).foldl (fun a q => a + q.2) 0))))) := by
  refine ra_of (e_X12_executionCount h.1 ?_)
  unfold p_X12_executionCount_0
  refine rq1_ h.1 q1 (fun hz => ?_) (fun hz => re_failL h (mq_no hz) tcd_1 _)
  obtain ⟨m, rfl⟩ : ∃ m : Nat, z = m := ⟨z.toNat, by omega⟩
  have hm : m < 3 := by omega
  obtain ⟨s, f1, k⟩ := c_rw0 (γ := γ) h hc zP hm hb
  have w := k.2.2.1.1
  have o := k.2.2.2.1
  have hO := o.1
  refine ⟨s, w, f1, ?_⟩
  have fin := rw_ans0 (e := eJ_) k (r' := mq_ (m : Int) (fun m => .inl (some (.long ((O_ A m).foldl (fun a q => a + q.2) 0))))) (mq_yes hm)
  have hl := k.2.2.2.2
  generalize O_ A m = L at o hO hl fin
  have key : ∀ v i : Nat, v + i = L.length → vv_ γ m_X12_executionCount 7 26 [(0, .ref 185), (2, .long ((L.take i).foldl (fun a q => a + q.2) 0)), (4, .int (i_ (i : Int)))] [] s (Re2_ σ A c eJ_ (mq_ (m : Int) (fun m => .inl (some (.long ((O_ A m).foldl (fun a q => a + q.2) 0)))))) := by
    intro v
    induction v with
    | zero =>
      intro i zi
      refine g_X12_executionCount_26 w ?_
      unfold p_X12_executionCount_26
      rw [hl]
      refine ⟨fun _ => ?_, fun u => ?_⟩
      · rw [List.take_of_length_le (by omega)]
        exact fin
      · rw [i_le (by omega) (by omega)] at u
        omega
    | succ v ih =>
      intro i zi
      obtain ⟨q, hq⟩ : ∃ q, L[i]? = some q := ⟨_, List.getElem?_eq_getElem (by omega)⟩
      obtain ⟨a, b, d, g⟩ := oc_at o hq
      have ih1 := ih (i + 1) (by omega)
      rw [take_s hq, List.foldl_append, show ((i + 1 : Nat) : Int) = (i : Int) + 1 by omega, ← i_add, ← i_lit 1] at ih1
      refine g_X12_executionCount_26 w ?_
      unfold p_X12_executionCount_26
      rw [hl, i_cl (by omega), Int.toNat_natCast, b]
      refine ⟨fun u => ?_, fun _ => ⟨i_in (by omega) (by omega) (by omega), ih1⟩⟩
      rw [i_le (by omega) (by omega)] at u
      omega
  rw [k0_]
  exact key L.length 0 (by omega)
end RQ
