/-! the reference: queries over conditions and values -/
section RW
variable {γ : ga_T} {σ s : st_T} {A : ca_T} {c m : Nat} {z y : Int} {L : List (Nat × Int64)} {P : pq_T}
theorem oc_dP {s1 : st_T} (r : ro_ dP_ s s1) (o : Oc_ s L) : Oc_ s1 L := ⟨o.1, fun i q hq => by
  obtain ⟨a, b, d⟩ := o.2 i q hq
  exact ⟨(r.2 _ _ (fun y => by unfold dP_ at y; omega)).1.trans a, (r.2 _ _ (fun y => by unfold dP_ at y; omega)).2.trans b, d⟩⟩
theorem dP_W : ∀ a k, dP_ a k → dW_ a k ∧ ¬ (a = 185 ∧ (k = 0 ∨ k = 40)) ∧ a ≠ 207 := fun a k h => by
  unfold dP_ at h
  unfold dW_
  omega
theorem hl_dP {s1 : st_T} {n : Int32} (r : ro_ dP_ s s1) (h : st_I s 185 44 = n) : st_I s1 185 44 = n := (r.2 _ _ (fun y => by unfold dP_ at y; omega)).1.trans h
/-- a good condition -/
def Gc_ (P : pq_T) : Prop := ∃ e, e ≤ 1 ∧ ug_ (cb_ P.1) P.2.2 0 e
theorem c_rholds2 (zw : Wd s) (h : Rq_ s P) (g : Gc_ P) {c : Nat} (zc : c < 4194304) : ∃ s2, fn_ γ m_X12_holds 2 [.ref 185, .int (i_ (c : Int))] s (.int (b2_ (uf_ c P.2.2))) s2 ∧ ro_ dP_ s s2 := by
  obtain ⟨e, e1, e2⟩ := g
  exact c_rholds zw h e2 e1 zc
theorem b2_0 {x : Bool} : (b2_ x = (0 : Int32)) = (x = false) := by
  cases x
  · exact propext ⟨fun _ => rfl, fun _ => rfl⟩
  · exact propext ⟨fun y => absurd y (by decide), fun y => by cases y⟩
theorem r_fulfils (h : Jr_ σ A c) (g : Gc_ (aP_ A)) (q1 : -2147483648 ≤ z ∧ z < 2147483648) : Ra_ γ m_X12_fulfils 3 [.ref 185, .int (i_ z)] σ A c eI_ (rb_ (decide (0 ≤ z ∧ z < 2 ^ cb_ (aP_ A).1) && uf_ z.toNat (aP_ A).2.2)) := by
  have k := th_jr h (i_ 0)
  have w := k.1
  have hq := k.2.2.2.1
  have zN := hq.1
  have b1 := zN.1.2.1
  have b2 := zN.1.2.2.1
  have b3 : cb_ (aP_ A).1 ≤ 22 := by unfold cb_; omega
  have fin : ∀ (s : st_T) (b : Bool), ro_ dP_ (pt_I σ 185 0 (i_ 0)) s → (decide (0 ≤ z ∧ z < 2 ^ cb_ (aP_ A).1) && uf_ z.toNat (aP_ A).2.2) = b → Re2_ σ A c eI_ (rb_ (decide (0 ≤ z ∧ z < 2 ^ cb_ (aP_ A).1) && uf_ z.toNat (aP_ A).2.2)) (.inl (some (.int (if b = true then 1 else 0)))) s := fun s b r hb => by
    refine ⟨_, rfl, c, ⟨ro_wd r w, rt0_cg (fun a j u => (r.2 a j (fun y => by unfold dP_ at y; omega)).1) k.2.1, jm_ro r (fun a j u _ _ => (dP_W a j u).1) k.2.2⟩, by omega, ro_tr (ro_up (th_I _) (fun a k z => by unfold dM_; omega)) (ro_up r (fun a j u => dW_M (dP_W a j u).1)), ?_⟩
    rw [hb]
    refine ⟨?_, ?_⟩
    · cases b <;> rfl
    · rw [(r.2 185 0 (fun y => by unfold dP_ at y; omega)).1]
      exact st_sI _ _ _ _
  refine ra_of (e_X12_fulfils h.1 ?_)
  unfold p_X12_fulfils_0
  rw [k0_, i_lt q1 (by omega)]
  refine ⟨fun u => fin _ false ro_rf (by rw [decide_eq_false (by omega), Bool.false_and]), fun u => ⟨_, _, w, c_rdigits w zN, ?_⟩⟩
  obtain ⟨n, rfl⟩ : ∃ n : Nat, z = n := ⟨z.toNat, by omega⟩
  rw [Int.toNat_natCast] at fin ⊢
  have ec : cb_ (aP_ A).1 = 2 * (2 * pT_ (aP_ A).1 + pL_ (aP_ A).1) := rfl
  have e2 : ((n : Int) < 2 ^ cb_ (aP_ A).1) ↔ n < 2 ^ cb_ (aP_ A).1 := by
    rw [show (2 : Int) ^ cb_ (aP_ A).1 = ((2 ^ cb_ (aP_ A).1 : Nat) : Int) by rw [Int.natCast_pow]; rfl]
    omega
  rw [k2_, i_mul, show (2 : Int) * ((2 * pT_ (aP_ A).1 + pL_ (aP_ A).1 : Nat) : Int) = ((cb_ (aP_ A).1 : Nat) : Int) by rw [ec]; omega, show (1 : Int64) = lN 1 from rfl, l_shl (by omega) (by rw [Nat.one_mul]; exact Nat.pow_lt_pow_right (by decide) (by omega)), Nat.one_mul, l_int (by omega)]
  have hp2 : 2 ^ cb_ (aP_ A).1 ≤ 2 ^ 22 := Nat.pow_le_pow_right (by decide) b3
  rw [pk_lLE (by omega) (by omega)]
  refine ⟨fun v => fin _ false ro_rf (by rw [decide_eq_false (fun h => by have := e2.mp h.2; omega), Bool.false_and]), fun v => ?_⟩
  obtain ⟨s2, f1, f2⟩ := c_rholds2 (γ := γ) w hq g (c := n) (by omega)
  refine ⟨_, s2, ro_wd f2 w, f1, ?_⟩
  have e3 : decide (0 ≤ (n : Int) ∧ (n : Int) < 2 ^ cb_ (aP_ A).1) = true := decide_eq_true ⟨by omega, e2.mpr (by omega)⟩
  rw [← k0_, b2_0]
  refine ⟨fun u => fin s2 false f2 (by rw [e3, u]; rfl), fun u => ?_⟩
  have u : uf_ n (aP_ A).2.2 = true := by
    cases e : uf_ n (aP_ A).2.2 with
    | true => rfl
    | false => exact absurd e u
  exact fin s2 true f2 (by rw [e3, u]; rfl)
theorem c_rmatches (zw : Wd s) (o : Oc_ s L) (hl : st_I s 185 44 = i_ (L.length : Int)) (h : Rq_ s P) (g : Gc_ P) : ∃ s2, fn_ γ m_X12_matches 3 [.ref 185] s (.int (i_ (L.countP (fun q => uf_ q.1 P.2.2) : Int))) s2 ∧ ro_ dP_ s s2 := by
  have hO := o.1
  have key : ∀ v i : Nat, v + i = L.length → ∀ s1, ro_ dP_ s s1 → vv_ γ m_X12_matches 3 4 [(0, .ref 185), (1, .int (i_ ((L.take i).countP (fun q => uf_ q.1 P.2.2) : Int))), (2, .int (i_ (i : Int)))] [] s1 (fun r q => ∃ v, r = .inl (some v) ∧ v = .int (i_ (L.countP (fun q => uf_ q.1 P.2.2) : Int)) ∧ ro_ dP_ s q) := by
    intro v
    induction v with
    | zero =>
      intro i zi s1 r
      refine g_X12_matches_4 (ro_wd r zw) ?_
      unfold p_X12_matches_4
      rw [hl_dP r hl]
      refine ⟨fun _ => ⟨_, rfl, by rw [List.take_of_length_le (by omega)], r⟩, fun u => ?_⟩
      rw [i_le (by omega) (by omega)] at u
      omega
    | succ v ih =>
      intro i zi s1 r
      obtain ⟨q, hq⟩ : ∃ q, L[i]? = some q := ⟨_, List.getElem?_eq_getElem (by omega)⟩
      obtain ⟨a, b, d, g6⟩ := oc_at (oc_dP r o) hq
      have w1 := ro_wd r zw
      obtain ⟨s2, f1, f2⟩ := c_rholds2 (γ := γ) w1 (rq_dP r h) g d
      have ih1 := ih (i + 1) (by omega) s2 (ro_tr r f2)
      rw [take_s hq, List.countP_append, List.countP_singleton, show ((i + 1 : Nat) : Int) = (i : Int) + 1 by omega, ← i_add, ← i_lit 1] at ih1
      refine g_X12_matches_4 w1 ?_
      unfold p_X12_matches_4
      rw [hl_dP r hl, i_cl (by omega), Int.toNat_natCast, a]
      refine ⟨fun u => ?_, fun _ => ⟨i_in (by omega) (by omega) (by omega), _, s2, ro_wd f2 w1, f1, ?_⟩⟩
      · rw [i_le (by omega) (by omega)] at u
        omega
      · rw [b2_0]
        refine ⟨fun u => ?_, fun u => ?_⟩
        · rw [if_neg (by rw [u]; decide)] at ih1
          rw [k0_, i_add, Int.add_zero]
          exact ih1
        · rw [if_pos (by cases e : uf_ q.1 P.2.2 with | true => rfl | false => exact absurd e u)] at ih1
          rw [show i_ ((L.take i).countP (fun q => uf_ q.1 P.2.2) : Int) + (1 : Int32) = i_ (((L.take i).countP (fun q => uf_ q.1 P.2.2) + 1 : Nat) : Int) by rw [k1_, i_add]; exact congrArg i_ (by omega)]
          exact ih1
  have key2 : sp_ γ m_X12_matches 3 [.ref 185] s (fun r q => ∃ v, r = .inl (some v) ∧ v = .int (i_ (L.countP (fun q => uf_ q.1 P.2.2) : Int)) ∧ ro_ dP_ s q) := by
    refine e_X12_matches zw ?_
    unfold p_X12_matches_0
    rw [k0_]
    exact key L.length 0 (by omega) s ro_rf
  obtain ⟨v, s2, f1, rfl, f2⟩ := fn_of key2
  exact ⟨s2, f1, f2⟩
theorem r_matchCount (h : Jr_ σ A c) (hc : c < 1073741822) (zP : Wp_ (aP_ A).1) (g : Gc_ (aP_ A)) (hb : Bz_ (aP_ A).1) (q1 : -2147483648 ≤ z ∧ z < 2147483648) : Ra_ γ m_X12_matchCount 7 [.ref 185, .int (i_ z)] σ A c eI_ (mq_ z (fun m => ri_ ((O_ A m).countP (fun q => uf_ q.1 (aP_ A).2.2)))) := by
  refine ra_of (e_X12_matchCount h.1 ?_)
  unfold p_X12_matchCount_0
  refine rq1_ h.1 q1 (fun hz => ?_) (fun hz => re_fail h (mq_no hz) tcd_1 _)
  obtain ⟨m, rfl⟩ : ∃ m : Nat, z = m := ⟨z.toNat, by omega⟩
  have hm : m < 3 := by omega
  obtain ⟨s, f1, k⟩ := c_rw0 (γ := γ) h hc zP hm hb
  have w := k.2.2.1.1
  obtain ⟨s2, g1, g2⟩ := c_rmatches (γ := γ) w k.2.2.2.1 k.2.2.2.2 k.2.2.1.2.2.2.1 g
  exact ⟨s, w, f1, _, s2, ro_wd g2 w, g1, rw_ans k dP_W g2 (mq_yes hm)⟩
theorem l_rfirst (w : Wd s) (o : Oc_ s L) (hl : st_I s 185 44 = i_ (L.length : Int)) (hq0 : Rq_ s P) (g : Gc_ P) {Q : rs_T → st_T → Prop} (zQ : ∀ s2, ro_ dP_ s s2 → Q (.inl (some (.int (i_ (ftm_ L P.2.2))))) s2) : vv_ γ m_X12_firstMatch 7 23 [(0, .ref 185), (2, .int (0 : Int32))] [] s Q := by
  have hO := o.1
  have key : ∀ v i : Nat, v + i = L.length → L.find? (fun q => uf_ q.1 P.2.2) = (L.drop i).find? (fun q => uf_ q.1 P.2.2) → ∀ s1, ro_ dP_ s s1 → vv_ γ m_X12_firstMatch 7 23 [(0, .ref 185), (2, .int (i_ (i : Int)))] [] s1 Q := by
    intro v
    induction v with
    | zero =>
      intro i zi e s1 r
      refine g_X12_firstMatch_23 (ro_wd r w) ?_
      unfold p_X12_firstMatch_23
      rw [hl_dP r hl]
      refine ⟨fun _ => ?_, fun u => ?_⟩
      · rw [List.drop_eq_nil_of_le (by omega)] at e
        have e3 : ftm_ L P.2.2 = -1 := by
          unfold ftm_
          rw [e]
          rfl
        have z := zQ s1 r
        rw [e3] at z
        exact z
      · rw [i_le (by omega) (by omega)] at u
        omega
    | succ v ih =>
      intro i zi e s1 r
      obtain ⟨q, hq⟩ : ∃ q, L[i]? = some q := ⟨_, List.getElem?_eq_getElem (by omega)⟩
      obtain ⟨a, b, d, g6⟩ := oc_at (oc_dP r o) hq
      have w1 := ro_wd r w
      obtain ⟨s2, f1, f2⟩ := c_rholds2 (γ := γ) w1 (rq_dP r hq0) g d
      have e2 := fm_cons hq e
      refine g_X12_firstMatch_23 w1 ?_
      unfold p_X12_firstMatch_23
      have vi : vp_in (i_ (i : Int)) 65536 := i_in (by omega) (by omega) (by omega)
      rw [hl_dP r hl, i_cl (by omega), Int.toNat_natCast, a]
      refine ⟨fun u => ?_, fun _ => ⟨vi, _, s2, ro_wd f2 w1, f1, ?_⟩⟩
      · rw [i_le (by omega) (by omega)] at u
        omega
      · rw [b2_0]
        refine ⟨fun u => ?_, fun u => ⟨vi, ?_⟩⟩
        · rw [if_neg (by rw [u]; decide)] at e2
          have ih1 := ih (i + 1) (by omega) e2 s2 (ro_tr r f2)
          rw [show ((i + 1 : Nat) : Int) = (i : Int) + 1 by omega, ← i_add, ← i_lit 1] at ih1
          exact ih1
        · rw [if_pos (by cases e : uf_ q.1 P.2.2 with | true => rfl | false => exact absurd e u)] at e2
          rw [(oc_at (oc_dP (ro_tr r f2) o) hq).1]
          have e3 : ftm_ L P.2.2 = q.1 := by
            unfold ftm_
            rw [e2]
          have z := zQ s2 (ro_tr r f2)
          rw [e3] at z
          exact z
  rw [k0_]
  exact key L.length 0 (by omega) rfl s ro_rf
theorem r_firstMatch (h : Jr_ σ A c) (hc : c < 1073741822) (zP : Wp_ (aP_ A).1) (g : Gc_ (aP_ A)) (hb : Bz_ (aP_ A).1) (q1 : -2147483648 ≤ z ∧ z < 2147483648) : Ra_ γ m_X12_firstMatch 7 [.ref 185, .int (i_ z)] σ A c eI_ (mq_ z (fun m => ri_ (ftm_ (O_ A m) (aP_ A).2.2))) := by
  refine ra_of (e_X12_firstMatch h.1 ?_)
  unfold p_X12_firstMatch_0
  refine rq1_ h.1 q1 (fun hz => ?_) (fun hz => re_fail h (mq_no hz) tcd_1 _)
  obtain ⟨m, rfl⟩ : ∃ m : Nat, z = m := ⟨z.toNat, by omega⟩
  have hm : m < 3 := by omega
  obtain ⟨s, f1, k⟩ := c_rw0 (γ := γ) h hc zP hm hb
  have w := k.2.2.1.1
  exact ⟨s, w, f1, l_rfirst w k.2.2.2.1 k.2.2.2.2 k.2.2.1.2.2.2.1 g (fun s2 r => rw_ans k dP_W r (mq_yes hm))⟩
/-- what the queries of two arguments begin with -/
theorem rq2_ {b : Bool} {BODY K2 : st_T → Prop} (zw : Wd σ) (h1 : (0 ≤ z ∧ z < 3) → b = false → BODY (pt_I σ 185 0 (i_ 0))) (h2 : ¬ (0 ≤ z ∧ z < 3) → K2 (pt_I σ 185 0 (i_ 1))) (h3 : (0 ≤ z ∧ z < 3) → b = true → K2 (pt_I σ 185 0 (i_ 2))) :
    ∃ (v6 : Int32) (s4 : st_T), Wd s4 ∧ fn_ γ m_X12_fails 0 [.ref 185, .int (if decide (¬ (0 ≤ z ∧ z < 3)) = true then 1 else 0), .int (if b = true then 1 else 0), .int (0 : Int32)] σ (.int v6) s4 ∧
    (v6 = (0 : Int32) → BODY s4) ∧ (¬ v6 = (0 : Int32) → K2 s4) := by
  have f := c_rfails (γ := γ) zw (a := decide (¬ (0 ≤ z ∧ z < 3))) (b := b) (d := false)
  by_cases u : 0 ≤ z ∧ z < 3
  · have e1 : decide (¬ (0 ≤ z ∧ z < 3)) = false := decide_eq_false (fun y => y u)
    rw [e1] at f ⊢
    cases b with
    | false => exact ⟨_, _, (show Wd (pt_I σ 185 0 _) from zw), f, fun _ => h1 u rfl, fun y => absurd rfl y⟩
    | true => exact ⟨_, _, (show Wd (pt_I σ 185 0 _) from zw), f, fun y => absurd y (by decide), fun _ => h3 u rfl⟩
  · have e1 : decide (¬ (0 ≤ z ∧ z < 3)) = true := decide_eq_true u
    rw [e1] at f ⊢
    exact ⟨_, _, (show Wd (pt_I σ 185 0 _) from zw), f, fun y => absurd y (by cases b <;> decide), fun _ => h2 u⟩
def eL_ : String → Nat := tcd_ 1 2 3 0
theorem eL_9 : eL_ "" ≠ 9 := by decide
theorem ioo_2 {f : Nat → rs_T} {n : Nat} {r : Nat → rs_T} (hz : 0 ≤ z ∧ z < 3) (hf : f z.toNat = if 0 ≤ y ∧ y < n then r y.toNat else ioo_) (hy : ¬ (0 ≤ y ∧ y < n)) : mq_ z f = .inr "java/lang/IndexOutOfBoundsException" := by
  unfold mq_
  rw [if_pos hz, hf, if_neg hy]
  rfl
theorem r_finalValues (h : Jr_ σ A c) (hc : c < 1073741822) (zP : Wp_ (aP_ A).1) (hb : Bz_ (aP_ A).1) (q1 : -2147483648 ≤ z ∧ z < 2147483648) (q2 : -2147483648 ≤ y ∧ y < 2147483648) : Ra_ γ m_X12_finalValues 7 [.ref 185, .int (i_ z), .int (i_ y)] σ A c eL_ (mq_ z (fun m => lm_ A y (fun l => ri_ (vo_ (O_ A m) (2 * (pL_ (aP_ A).1 - 1 - l)))))) := by
  have zN := h.2.2.2.1.1
  have b2 := zN.1.2.2.1
  have bT := zN.1.2.1
  refine ra_of (e_X12_finalValues h.1 ?_)
  unfold p_X12_finalValues_0
  refine ⟨_, σ, h.1, c_risNo h.1 q1, ?_⟩
  rw [zN.2.2.2.1, k1_, i_sub]
  have ei : decide ((0 : Int) ≤ y ∧ y ≤ (pL_ (aP_ A).1 : Int) - 1) = decide (0 ≤ y ∧ y < pL_ (aP_ A).1) := decide_eq_decide.mpr (by omega)
  have hi := c_risIn (γ := γ) h.1 q2 (a := 0) (b := (pL_ (aP_ A).1 : Int) - 1) (by omega) (by omega)
  rw [ei] at hi
  rw [← k1_]
  have body : (0 ≤ z ∧ z < 3) → 0 ≤ y ∧ y < pL_ (aP_ A).1 → ∃ s12, Wd s12 ∧ fw_ γ m_X12_outcomesOf 6 [.ref 185, .int (i_ z)] (pt_I σ 185 0 (i_ 0)) s12 ∧
      vv_ γ m_X12_finalValues 7 46 [(0, .ref 185), (2, .int (i_ y)), (3, .int (0 : Int32)), (4, .int (0 : Int32))] [] s12 (Re2_ σ A c eL_ (mq_ z (fun m => lm_ A y (fun l => ri_ (vo_ (O_ A m) (2 * (pL_ (aP_ A).1 - 1 - l))))))) := fun hz hy => by
    obtain ⟨m, rfl⟩ : ∃ m : Nat, z = m := ⟨z.toNat, by omega⟩
    obtain ⟨l, rfl⟩ : ∃ l : Nat, y = l := ⟨y.toNat, by omega⟩
    have hm : m < 3 := by omega
    obtain ⟨s, f1, k⟩ := c_rw0 (γ := γ) h hc zP hm hb
    have w := k.2.2.1.1
    refine ⟨s, w, f1, ?_⟩
    have zN1 := k.2.2.1.2.2.2.1.1
    have fin := rw_ans0 (e := eL_) k (r' := mq_ (m : Int) (fun m => lm_ A (l : Int) (fun l => ri_ (vo_ (O_ A m) (2 * (pL_ (aP_ A).1 - 1 - l)))))) (v := .int (i_ (vo_ (O_ A m) (2 * (pL_ (aP_ A).1 - 1 - l)) : Int))) ((mq_yes hm).trans (by
      unfold lm_
      rw [if_pos hy, Int.toNat_natCast]
      rfl))
    have o := k.2.2.2.1
    have hl := k.2.2.2.2
    have hO := o.1
    generalize O_ A m = L at o hl hO fin
    have key : ∀ v i : Nat, v + i = L.length → vv_ γ m_X12_finalValues 7 46 [(0, .ref 185), (2, .int (i_ (l : Int))), (3, .int (i_ (vo_ (L.take i) (2 * (pL_ (aP_ A).1 - 1 - l)) : Int))), (4, .int (i_ (i : Int)))] [] s (Re2_ σ A c eL_ (mq_ (m : Int) (fun m => lm_ A (l : Int) (fun l => ri_ (vo_ (O_ A m) (2 * (pL_ (aP_ A).1 - 1 - l))))))) := by
      intro v
      induction v with
      | zero =>
        intro i zi
        refine g_X12_finalValues_46 w ?_
        unfold p_X12_finalValues_46
        rw [hl]
        refine ⟨fun _ => ?_, fun u => ?_⟩
        · rw [List.take_of_length_le (by omega)]
          exact fin
        · rw [i_le (by omega) (by omega)] at u
          omega
      | succ v ih =>
        intro i zi
        obtain ⟨q, hq⟩ : ∃ q, L[i]? = some q := ⟨_, List.getElem?_eq_getElem (by omega)⟩
        obtain ⟨a, b, d, g6⟩ := oc_at o hq
        have ih1 := ih (i + 1) (by omega)
        refine g_X12_finalValues_46 w ?_
        unfold p_X12_finalValues_46
        have dg := c_rdigit (γ := γ) (c := q.1) w zN1 (d := 2 * pT_ (aP_ A).1 + l) (by omega) (by omega)
        rw [show 2 * (2 * pT_ (aP_ A).1 + pL_ (aP_ A).1 - 1 - (2 * pT_ (aP_ A).1 + l)) = 2 * (pL_ (aP_ A).1 - 1 - l) by omega] at dg
        rw [hl, i_cl (by omega), Int.toNat_natCast, a, zN1.2.2.1, show (2 : Int32) * i_ (pT_ (aP_ A).1 : Int) + i_ (l : Int) = i_ ((2 * pT_ (aP_ A).1 + l : Nat) : Int) by rw [k2_, i_mul, i_add]; exact congrArg i_ (by omega)]
        refine ⟨fun u => ?_, fun _ => ⟨i_in (by omega) (by omega) (by omega), _, s, w, dg, ?_⟩⟩
        · rw [i_le (by omega) (by omega)] at u
          omega
        · have b2 := Nat.mod_lt (q.1 / 2 ^ (2 * (pL_ (aP_ A).1 - 1 - l))) (show 0 < 4 by decide)
          have b3 : 2 ^ (q.1 / 2 ^ (2 * (pL_ (aP_ A).1 - 1 - l)) % 4) < 2 ^ 4 := Nat.pow_lt_pow_right (by decide) b2
          have b4 := vo_16 (L.take i) (2 * (pL_ (aP_ A).1 - 1 - l))
          have e2 : vo_ (L.take (i + 1)) (2 * (pL_ (aP_ A).1 - 1 - l)) = vo_ (L.take i) (2 * (pL_ (aP_ A).1 - 1 - l)) ||| 2 ^ (q.1 / 2 ^ (2 * (pL_ (aP_ A).1 - 1 - l)) % 4) := by
            unfold vo_
            rw [List.take_add_one, hq, List.foldl_append]
            rfl
          rw [show (31 : Int32) = i_ 31 from rfl, show (1 : Int32) <<< (i_ ((q.1 / 2 ^ (2 * (pL_ (aP_ A).1 - 1 - l)) % 4 : Nat) : Int) &&& i_ 31) = i_ ((2 ^ (q.1 / 2 ^ (2 * (pL_ (aP_ A).1 - 1 - l)) % 4) : Nat) : Int) by rw [show (1 : Int32) = i_ ((1 : Nat) : Int) from rfl, i_shl (by omega) (by omega), Nat.one_mul], i_or (by omega) (by omega), ← e2]
          rw [show ((i + 1 : Nat) : Int) = (i : Int) + 1 by omega, ← i_add, ← i_lit 1] at ih1
          exact ih1
    rw [k0_]
    exact key L.length 0 (by omega)
  have fl1 : ∀ (v : Int32), ¬ (0 ≤ z ∧ z < 3) → Re2_ σ A c eL_ (mq_ z (fun m => lm_ A y (fun l => ri_ (vo_ (O_ A m) (2 * (pL_ (aP_ A).1 - 1 - l)))))) (.inl (some (.int v))) (pt_I σ 185 0 (i_ 1)) := fun v hz => re_failV (e := eL_) (k := 1) h (mq_no hz) tcd_1 (Or.inl ⟨v, rfl, eL_9⟩)
  refine ⟨_, σ, h.1, hi, fun u => ?_, fun u => ?_⟩
  · have hy : ¬ (0 ≤ y ∧ y < pL_ (aP_ A).1) := fun hy => by
      rw [if_pos (by rw [decide_eq_true_eq]; exact hy)] at u
      exact absurd u (by decide)
    exact rq2_ (b := true) h.1 (fun _ y => by cases y) (fun hz => fl1 _ hz) (fun hz _ => re_fail h (ioo_2 (n := pL_ (aP_ A).1) (r := fun l => ri_ (vo_ (O_ A z.toNat) (2 * (pL_ (aP_ A).1 - 1 - l)))) hz rfl hy) tcd_2 _)
  · have hy : 0 ≤ y ∧ y < pL_ (aP_ A).1 := by
      by_cases hy : 0 ≤ y ∧ y < pL_ (aP_ A).1
      · exact hy
      · rw [if_neg (by rw [decide_eq_true_eq]; exact hy)] at u
        exact absurd rfl u
    exact rq2_ (b := false) h.1 (fun hz _ => body hz hy) (fun hz => fl1 _ hz) (fun _ y => by cases y)
end RW
