/-! queries of the class: conditions, values, races, gaps -/
section QV
variable {γ : ga_T} {σ : st_T} {A : ca_T} {R : rt_T}
theorem pg_ful (h : J_ σ A R) {c : Nat} (hc : c < 4194304) : fn_ γ m_X7_isFulfilledBy 0 [.ref 132, .int (i_ (c : Int))] σ (.int (i_ (if uf_ c (aP_ A).2.2 = true then 1 else 0))) σ := by
  obtain ⟨e, e1, e2⟩ := h.2.1.2.2.2
  have b1 := h.2.1.1.1.1.2.1
  have b2 := h.2.1.1.1.1.2.2.1
  exact c_isFul (Or.inl rfl) h.1.1 (pq_cx h.2.1.1) e2 e1 (by unfold cb_; omega) hc
theorem c_fulfils (h : J_ σ A R) {z : Int} (q1 : -2147483648 ≤ z ∧ z < 2147483648) : Ans_ γ m_X11_fulfils 1 [.ref 128, .int (i_ z)] σ R A (rb_ (decide (0 ≤ z ∧ z < 2 ^ cb_ (aP_ A).1) && uf_ z.toNat (aP_ A).2.2)) := by
  have w := h.1.1
  have b1 := h.2.1.1.1.1.2.1
  have b2 := h.2.1.1.1.1.2.2.1
  have b3 : cb_ (aP_ A).1 ≤ 22 := by unfold cb_; omega
  refine an0_ h (fun Q zQ => e_X11_fulfils w ?_)
  unfold p_X11_fulfils_0
  simp (disch := omega) only [i_lit, i_lt]
  refine ⟨fun y => ?_, fun y => ⟨_, σ, w, c_codeBits (Or.inl rfl) w h.2.1.1.1, ?_⟩⟩
  · rw [decide_eq_false (by omega), Bool.false_and] at zQ
    exact zQ
  · obtain ⟨c, rfl⟩ : ∃ c : Nat, z = c := ⟨z.toNat, by omega⟩
    rw [Int.toNat_natCast] at zQ
    have d := Nat.div_le_self c (2 ^ cb_ (aP_ A).1)
    rw [show i_ (OfNat.ofNat 31) = i_ 31 from rfl, i_shr (by omega) (by omega)]
    generalize hD : c / 2 ^ cb_ (aP_ A).1 = D at d ⊢
    rw [i_eq (by omega) (by decide)]
    have hp := Nat.two_pow_pos (cb_ (aP_ A).1)
    have hp2 : 2 ^ cb_ (aP_ A).1 ≤ 2 ^ 22 := Nat.pow_le_pow_right (by decide) b3
    have e : (D : Int) = 0 ↔ c < 2 ^ cb_ (aP_ A).1 := by
      rw [← Nat.div_eq_zero_iff_lt hp, hD]
      omega
    have e2 : ((c : Int) < 2 ^ cb_ (aP_ A).1) ↔ c < 2 ^ cb_ (aP_ A).1 := by
      rw [show (2 : Int) ^ cb_ (aP_ A).1 = ((2 ^ cb_ (aP_ A).1 : Nat) : Int) by rw [Int.natCast_pow]; rfl]
      omega
    generalize 2 ^ cb_ (aP_ A).1 = n at *
    refine ⟨fun y2 => ?_, fun y2 => ?_⟩
    · have y3 := e.mp y2
      rw [decide_eq_true (show (0 : Int) ≤ c ∧ (c : Int) < 2 ^ cb_ (aP_ A).1 from ⟨by omega, e2.mpr y3⟩), Bool.true_and] at zQ
      refine ⟨_, σ, w, pg_ful h (by omega), ?_⟩
      by_cases u : uf_ c (aP_ A).2.2 = true
      · rw [u] at zQ
        rw [if_pos u]
        exact ⟨fun y => absurd y (by decide), fun _ => zQ⟩
      · rw [Bool.eq_false_iff.mpr u] at zQ
        rw [if_neg u]
        exact ⟨fun _ => zQ, fun y => absurd rfl y⟩
    · rw [decide_eq_false (fun y3 => y2 (e.mpr (e2.mp y3.2))), Bool.false_and] at zQ
      exact zQ
theorem c_matchCount (h : J_ σ A R) (hb : Bq_ (aP_ A).1) {z : Int} (q1 : -2147483648 ≤ z ∧ z < 2147483648) : Ans_ γ m_X11_matchCount 9 [.ref 128, .int (i_ z)] σ R A (mq_ z (fun m => ri_ ((O_ A m).countP (fun q => uf_ q.1 (aP_ A).2.2)))) := by
  refine am_ h q1 (fun m hm e hf => ?_) (fun Q s zs zf zQ => e_X11_matchCount h.1.1 (by
    unfold p_X11_matchCount_0
    exact Or.inr ⟨s, zs, zf, zQ⟩))
  subst e
  obtain ⟨σ1, R1, f1, f2, f3, f4, -, -⟩ := c_findings (γ := γ) h hb hm
  have w := f2.1.1
  refine ⟨σ1, R1, sq_ (fun Q zQ => e_X11_matchCount h.1.1 ?_), f2, co_1 f3⟩
  unfold p_X11_matchCount_0
  refine Or.inl ⟨σ, h.1.1, hf, _, σ1, w, f1, ?_⟩
  have F1 : Fl_ σ1 (fa_ m) (rf_ R1 m) (O_ A m) := f4.1
  have n1 : (O_ A m).length ≤ 131072 := kk_len f4
  have ful : ∀ c : Nat, c < 4194304 → fn_ γ m_X7_isFulfilledBy 0 [.ref 132, .int (i_ (c : Int))] σ1 (.int (i_ (if uf_ c (aP_ A).2.2 = true then 1 else 0))) σ1 := fun c zc => pg_ful f2 zc
  generalize O_ A m = L at F1 n1 zQ ⊢
  have key : ∀ v i : Nat, v + i = L.length → vv_ γ m_X11_matchCount 9 16 [(0, .ref 128), (2, .ref (fa_ m)), (3, .int (i_ ((L.take i).countP (fun q => uf_ q.1 (aP_ A).2.2) : Nat))), (4, .int (i_ (i : Int)))] [] σ1 Q := by
    intro v
    induction v with
    | zero =>
      intro i zi
      refine g_X11_matchCount_16 w ?_
      unfold p_X11_matchCount_16
      refine ⟨fa_fi m, _, σ1, w, c_fsize (fa_fi m) w F1, ?_⟩
      simp (disch := omega) only [i_le]
      refine ⟨fun _ => ?_, fun z => by omega⟩
      rw [List.take_of_length_le (by omega)]
      exact zQ
    | succ v ih =>
      intro i zi
      refine g_X11_matchCount_16 w ?_
      unfold p_X11_matchCount_16
      refine ⟨fa_fi m, _, σ1, w, c_fsize (fa_fi m) w F1, ?_⟩
      simp (disch := omega) only [i_le]
      obtain ⟨q, hq⟩ : ∃ q, L[i]? = some q := ⟨_, List.getElem?_eq_getElem (by omega)⟩
      have y1 := c_codeAt (γ := γ) (fa_fi m) w F1 (z := i) (by omega)
      rw [cf_at hq] at y1
      have y3 := (F1.2.2.2 _ _ hq).2.2
      have ih1 := ih (i + 1) (by omega)
      rw [take_s hq, List.countP_append, List.countP_singleton] at ih1
      refine ⟨fun z => by omega, fun _ => ⟨fa_fi m, _, σ1, w, y1, _, σ1, w, ful q.1 y3, ?_⟩⟩
      simp only [i_lit, i_add]
      by_cases u : uf_ q.1 (aP_ A).2.2 = true
      · rw [if_pos u] at ih1
        rw [if_pos u]
        exact ⟨fun y => absurd y (by decide), fun _ => ih1⟩
      · rw [if_neg u] at ih1
        rw [if_neg u]
        exact ⟨fun _ => ih1, fun y => absurd rfl y⟩
  exact key L.length 0 (by omega)
theorem fm_cons {f : Nat × Int64 → Bool} {L : List (Nat × Int64)} {i : Nat} {q : Nat × Int64} (hq : L[i]? = some q) (h : L.find? f = (L.drop i).find? f) : L.find? f = if f q = true then some q else (L.drop (i + 1)).find? f := by
  obtain ⟨hl, e⟩ := List.getElem?_eq_some_iff.mp hq
  rw [h, List.drop_eq_getElem_cons hl, e, List.find?_cons]
  by_cases u : f q = true
  · rw [u, if_pos rfl]
  · rw [Bool.eq_false_iff.mpr u, if_neg (by decide)]
def ftm_ (L : List (Nat × Int64)) (C : List Int) : Int := match L.find? (fun q => uf_ q.1 C) with
  | some q => (q.1 : Int)
  | none => -1
theorem l_firstMatch {σ1 : st_T} (w : Wd σ1) {m : Nat} {f : fk_T} {L : List (Nat × Int64)} {C : List Int} (F1 : Fl_ σ1 (fa_ m) f L) (n1 : L.length ≤ 131072) (ful : ∀ c : Nat, c < 4194304 → fn_ γ m_X7_isFulfilledBy 0 [.ref 132, .int (i_ (c : Int))] σ1 (.int (i_ (if uf_ c C = true then 1 else 0))) σ1) {Q : rs_T → st_T → Prop} (zQ : Q (ri_ (ftm_ L C)) σ1) : vv_ γ m_X11_firstMatch 9 13 [(0, .ref 128), (2, .ref (fa_ m)), (3, .int (i_ ((0 : Nat) : Int)))] [] σ1 Q := by
  unfold ftm_ at zQ
  have key : ∀ v i : Nat, v + i = L.length → L.find? (fun q => uf_ q.1 C) = (L.drop i).find? (fun q => uf_ q.1 C) → vv_ γ m_X11_firstMatch 9 13 [(0, .ref 128), (2, .ref (fa_ m)), (3, .int (i_ (i : Int)))] [] σ1 Q := by
    intro v
    induction v with
    | zero =>
      intro i zi e
      refine g_X11_firstMatch_13 w ?_
      unfold p_X11_firstMatch_13
      refine ⟨fa_fi m, _, σ1, w, c_fsize (fa_fi m) w F1, ?_⟩
      simp (disch := omega) only [i_le, i_lit, i_neg]
      refine ⟨fun _ => ?_, fun z => by omega⟩
      rw [List.drop_eq_nil_of_le (by omega)] at e
      rw [e] at zQ
      exact zQ
    | succ v ih =>
      intro i zi e
      refine g_X11_firstMatch_13 w ?_
      unfold p_X11_firstMatch_13
      refine ⟨fa_fi m, _, σ1, w, c_fsize (fa_fi m) w F1, ?_⟩
      simp (disch := omega) only [i_le]
      obtain ⟨q, hq⟩ : ∃ q, L[i]? = some q := ⟨_, List.getElem?_eq_getElem (by omega)⟩
      have y1 := c_codeAt (γ := γ) (fa_fi m) w F1 (z := i) (by omega)
      rw [cf_at hq] at y1
      have y3 := (F1.2.2.2 _ _ hq).2.2
      have ih1 := ih (i + 1) (by omega)
      have e2 := fm_cons hq e
      refine ⟨fun z => by omega, fun _ => ⟨fa_fi m, _, σ1, w, y1, _, σ1, w, ful q.1 y3, ?_⟩⟩
      simp only [i_lit, i_add]
      by_cases u : uf_ q.1 C = true
      · rw [if_pos u] at e2
        rw [if_pos u]
        rw [e2] at zQ
        exact ⟨fun y => absurd y (by decide), fun _ => ⟨fa_fi m, _, σ1, w, y1, zQ⟩⟩
      · rw [if_neg u] at e2
        rw [if_neg u]
        exact ⟨fun _ => ih1 e2, fun y => absurd rfl y⟩
  exact key L.length 0 (by omega) rfl
theorem c_firstMatch (h : J_ σ A R) (hb : Bq_ (aP_ A).1) {z : Int} (q1 : -2147483648 ≤ z ∧ z < 2147483648) : Ans_ γ m_X11_firstMatch 9 [.ref 128, .int (i_ z)] σ R A (mq_ z (fun m => ri_ (ftm_ (O_ A m) (aP_ A).2.2))) := by
  refine am_ h q1 (fun m hm e hf => ?_) (fun Q s zs zf zQ => e_X11_firstMatch h.1.1 (by
    unfold p_X11_firstMatch_0
    exact Or.inr ⟨s, zs, zf, zQ⟩))
  subst e
  obtain ⟨σ1, R1, f1, f2, f3, f4, -, -⟩ := c_findings (γ := γ) h hb hm
  have w := f2.1.1
  refine ⟨σ1, R1, sq_ (fun Q zQ => e_X11_firstMatch h.1.1 ?_), f2, co_1 f3⟩
  unfold p_X11_firstMatch_0
  refine Or.inl ⟨σ, h.1.1, hf, _, σ1, w, f1, ?_⟩
  have F1 : Fl_ σ1 (fa_ m) (rf_ R1 m) (O_ A m) := f4.1
  have n1 : (O_ A m).length ≤ 131072 := kk_len f4
  have ful : ∀ c : Nat, c < 4194304 → fn_ γ m_X7_isFulfilledBy 0 [.ref 132, .int (i_ (c : Int))] σ1 (.int (i_ (if uf_ c (aP_ A).2.2 = true then 1 else 0))) σ1 := fun c zc => pg_ful f2 zc
  exact l_firstMatch w F1 n1 ful zQ
theorem c_finalValues (h : J_ σ A R) (hb : Bq_ (aP_ A).1) {z y : Int} (q1 : -2147483648 ≤ z ∧ z < 2147483648) (q2 : -2147483648 ≤ y ∧ y < 2147483648) : Ans_ γ m_X11_finalValues 9 [.ref 128, .int (i_ z), .int (i_ y)] σ R A (mq_ z (fun m => lm_ A y (fun l => ri_ (vo_ (O_ A m) (2 * (pL_ (aP_ A).1 - 1 - l)))))) := by
  refine am_ h q1 (fun m hm e hf => ?_) (fun Q s zs zf zQ => e_X11_finalValues h.1.1 (by
    unfold p_X11_finalValues_0
    exact Or.inr ⟨s, zs, zf, zQ⟩))
  subst e
  refine al2_ h q2 (fun l hl e hf2 => ?_) (fun Q s zs zf zQ => e_X11_finalValues h.1.1 (by
    unfold p_X11_finalValues_0
    exact Or.inl ⟨σ, h.1.1, hf, Or.inr ⟨s, zs, zf, zQ⟩⟩))
  subst e
  obtain ⟨σ1, R1, f1, f2, f3, f4, -, -⟩ := c_findings (γ := γ) h hb hm
  have w := f2.1.1
  have b2 := h.2.1.1.1.1.2.2.1
  refine ⟨σ1, R1, sq_ (fun Q zQ => e_X11_finalValues h.1.1 ?_), f2, co_1 f3⟩
  unfold p_X11_finalValues_0
  have e1 := c_locationShift (γ := γ) (Or.inl rfl) w f2.2.1.1.1 (l := (l : Int))
  rw [show (2 * ((pL_ (aP_ A).1 : Int) - 1 - l)) = ((2 * (pL_ (aP_ A).1 - 1 - l) : Nat) : Int) by omega] at e1
  exact Or.inl ⟨σ, h.1.1, hf, Or.inl ⟨σ, h.1.1, hf2, _, σ1, w, f1, _, σ1, w, e1, fa_fi m, _, σ1, w, c_valuesAt (fa_fi m) w f4.1 (by omega), zQ⟩⟩
theorem c_readValues (h : J_ σ A R) (hb : Bq_ (aP_ A).1) {z y : Int} (q1 : -2147483648 ≤ z ∧ z < 2147483648) (q2 : -2147483648 ≤ y ∧ y < 2147483648) : Ans_ γ m_X11_readValues 9 [.ref 128, .int (i_ z), .int (i_ y)] σ R A (mq_ z (fun m => im_ A y (fun i => if pC_ (aP_ A).1 i 3 = -1 then nse_ else ri_ (vo_ (O_ A m) (cb_ (aP_ A).1 - 2 * (2 * (pC_ (aP_ A).1 i 0).toNat + (pC_ (aP_ A).1 i 3).toNat + 1)))))) := by
  refine am_ h q1 (fun m hm e hf => ?_) (fun Q s zs zf zQ => e_X11_readValues h.1.1 (by
    unfold p_X11_readValues_0
    exact Or.inr ⟨s, zs, zf, zQ⟩))
  subst e
  refine ai_ h q2 (fun i hi e hf2 => ?_) (fun Q s zs zf zQ => e_X11_readValues h.1.1 (by
    unfold p_X11_readValues_0
    exact Or.inl ⟨σ, h.1.1, hf, Or.inr ⟨s, zs, zf, zQ⟩⟩)) (fun _ => rfl)
  subst e
  have w0 := h.1.1
  have b0 := h.2.1.1.1.1.1
  have b1 := h.2.1.1.1.1.2.1
  have b2 := h.2.1.1.1.1.2.2.1
  have b3 := h.2.1.1.1.1.2.2.2.2 i 3
  have W := (h.2.1.2.1).2.1 i hi
  have pr := c_property (γ := γ) (Or.inl rfl) w0 h.2.1.1.1 (z := i) (k := 3) (by omega) (by omega)
  have ep : ∀ k : Nat, k < 6 → pp_ (aP_ A).1 i k = pC_ (aP_ A).1 i k := fun k hk => by
    unfold pp_
    rw [if_pos (by omega), Int.toNat_natCast, Int.toNat_natCast]
  rw [show (3 : Int) = ((3 : Nat) : Int) from rfl, ep 3 (by decide)] at pr
  by_cases e3 : pC_ (aP_ A).1 i 3 = -1
  · rw [if_pos e3]
    refine anX_ h (fun Q zQ => e_X11_readValues w0 ?_)
    unfold p_X11_readValues_0
    refine Or.inl ⟨σ, h.1.1, hf, Or.inl ⟨σ, h.1.1, hf2, _, σ, w0, pr, ?_⟩⟩
    simp (disch := omega) only [i_lit, i_neg, i_eq]
    exact ⟨fun _ => zQ, fun z => absurd e3 z⟩
  · rw [if_neg e3]
    obtain ⟨σ1, R1, f1, f2, f3, f4, -, -⟩ := c_findings (γ := γ) h hb hm
    have w := f2.1.1
    refine ⟨σ1, R1, sq_ (fun Q zQ => e_X11_readValues h.1.1 ?_), f2, co_1 f3⟩
    unfold p_X11_readValues_0
    refine Or.inl ⟨σ, h.1.1, hf, Or.inl ⟨σ, h.1.1, hf2, _, σ, w0, pr, ?_⟩⟩
    simp (disch := omega) only [i_lit, i_neg, i_eq]
    have pr0 := c_property (γ := γ) (Or.inl rfl) w f2.2.1.1.1 (z := i) (k := 0) (by omega) (by omega)
    rw [show (0 : Int) = ((0 : Nat) : Int) from rfl, ep 0 (by decide)] at pr0
    have k3 : pC_ (aP_ A).1 i 1 = 1 ∨ pC_ (aP_ A).1 i 1 = 2 := by
      have y1 := h.2.1.1.1.1.2.2.2.2 i 1
      have y2 := W.2.2.2.2.2.2.1
      have y3 := W.2.2.2.1
      have y4 := W.2.2.1
      by_cases c0 : pC_ (aP_ A).1 i 1 = 0
      · exact absurd (y2 c0) e3
      · by_cases c3 : pC_ (aP_ A).1 i 1 = 3
        · exact absurd (y3 c3).2.1 e3
        · omega
    have t3 := W.2.2.2.2.2.1 k3
    have t0 := W.1
    have t1 := W.2.1
    have e1 := c_registerShift (γ := γ) (Or.inl rfl) w f2.2.1.1.1 (t := pC_ (aP_ A).1 i 0) (r := pC_ (aP_ A).1 i 3)
    rw [show ((cb_ (aP_ A).1 : Int) - 2 * (2 * pC_ (aP_ A).1 i 0 + pC_ (aP_ A).1 i 3 + 1)) = ((cb_ (aP_ A).1 - 2 * (2 * (pC_ (aP_ A).1 i 0).toNat + (pC_ (aP_ A).1 i 3).toNat + 1) : Nat) : Int) by unfold cb_; omega] at e1
    exact ⟨fun z => absurd z e3, fun _ => ⟨_, σ1, w, f1, _, σ1, w, pr0, _, σ1, w, e1, fa_fi m, _, σ1, w, c_valuesAt (fa_fi m) w f4.1 (by unfold cb_; omega), zQ⟩⟩
end QV
