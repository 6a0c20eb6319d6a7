/-! the reference: findLocation -/
section FI
variable {γ : ga_T} {σ σ1 s : st_T} {n k i t c : Nat} {A : ca_T} {e : String → Nat} {P : pq_T}
theorem l_cpy2 {Q : rs_T → st_T → Prop} (zQ : ∀ s, Wd s → ro_ (fun a _ => a = 188) σ s → (∀ j, j < 174 → st_I s 188 j = st_I σ 187 j) → vv_ γ m_X12_copies 0 29 [(0, .ref 185), (1, .int (0 : Int32))] [] s Q) :
    ∀ (d j : Nat) (s : st_T), d + j = 174 → Wd s → ro_ (fun a _ => a = 188) σ s → (∀ v, v < j → st_I s 188 v = st_I σ 187 v) → vv_ γ m_X12_copies 0 2 [(0, .ref 185), (1, .int (i_ (j : Int)))] [] s Q := by
  intro d
  induction d with
  | zero =>
    intro j s hj w r a
    have hj : j = 174 := by omega
    subst hj
    refine g_X12_copies_2 w ?_
    unfold p_X12_copies_2
    exact ⟨fun _ => zQ s w r a, fun y => absurd (show (174 : Int32) ≤ i_ ((174 : Nat) : Int) by decide) y⟩
  | succ d ih =>
    intro j s hj w r a
    refine g_X12_copies_2 w ?_
    unfold p_X12_copies_2
    refine ⟨fun y => ?_, fun _ => ?_⟩
    · rw [k174_, i_le (by omega) (by omega)] at y
      omega
    · rw [k1_, i_add, i_cl (by omega), Int.toNat_natCast]
      refine ⟨i_in (by omega) (by omega) (by omega), i_in (by omega) (by omega) (by omega), ih (j + 1) (pt_I s 188 j (st_I s 187 j)) (by omega) w (ro_I r rfl) (fun v hv => ?_)⟩
      rw [st_pI]
      by_cases c : v = j
      · rw [if_pos ⟨rfl, c⟩, c]
        exact (r.2 187 j (fun y => by omega)).1
      · rw [if_neg (by omega)]
        exact a v (by omega)
theorem l_cpy29 {Q : rs_T → st_T → Prop} (zQ : ∀ s, Wd s → ro_ (fun a _ => a = 192) σ s → (∀ j, j < 24 → st_I s 192 j = st_I σ 190 j) → vv_ γ m_X12_copies 0 55 [(0, .ref 185), (1, .int (0 : Int32))] [] s Q) :
    ∀ (d j : Nat) (s : st_T), d + j = 24 → Wd s → ro_ (fun a _ => a = 192) σ s → (∀ v, v < j → st_I s 192 v = st_I σ 190 v) → vv_ γ m_X12_copies 0 29 [(0, .ref 185), (1, .int (i_ (j : Int)))] [] s Q := by
  intro d
  induction d with
  | zero =>
    intro j s hj w r a
    have hj : j = 24 := by omega
    subst hj
    refine g_X12_copies_29 w ?_
    unfold p_X12_copies_29
    exact ⟨fun _ => zQ s w r a, fun y => absurd (show (24 : Int32) ≤ i_ ((24 : Nat) : Int) by decide) y⟩
  | succ d ih =>
    intro j s hj w r a
    refine g_X12_copies_29 w ?_
    unfold p_X12_copies_29
    refine ⟨fun y => ?_, fun _ => ?_⟩
    · rw [show (24 : Int32) = i_ 24 by decide, i_le (by omega) (by omega)] at y
      omega
    · rw [k1_, i_add, i_cl (by omega), Int.toNat_natCast]
      refine ⟨i_in (by omega) (by omega) (by omega), i_in (by omega) (by omega) (by omega), ih (j + 1) (pt_I s 192 j (st_I s 190 j)) (by omega) w (ro_I r rfl) (fun v hv => ?_)⟩
      rw [st_pI]
      by_cases c : v = j
      · rw [if_pos ⟨rfl, c⟩, c]
        exact (r.2 190 j (fun y => by omega)).1
      · rw [if_neg (by omega)]
        exact a v (by omega)
theorem l_cpy55 {Q : rs_T → st_T → Prop} (zQ : ∀ s, Wd s → ro_ (fun a _ => a = 193) σ s → (∀ j, j < 3 → st_I s 193 j = st_I σ 191 j) → Q (.inl none) s) :
    ∀ (d j : Nat) (s : st_T), d + j = 3 → Wd s → ro_ (fun a _ => a = 193) σ s → (∀ v, v < j → st_I s 193 v = st_I σ 191 v) → vv_ γ m_X12_copies 0 55 [(0, .ref 185), (1, .int (i_ (j : Int)))] [] s Q := by
  intro d
  induction d with
  | zero =>
    intro j s hj w r a
    have hj : j = 3 := by omega
    subst hj
    refine g_X12_copies_55 w ?_
    unfold p_X12_copies_55
    exact ⟨fun _ => zQ s w r a, fun y => absurd (show (3 : Int32) ≤ i_ ((3 : Nat) : Int) by decide) y⟩
  | succ d ih =>
    intro j s hj w r a
    refine g_X12_copies_55 w ?_
    unfold p_X12_copies_55
    refine ⟨fun y => ?_, fun _ => ?_⟩
    · rw [k3_, i_le (by omega) (by omega)] at y
      omega
    · rw [k1_, i_add, i_cl (by omega), Int.toNat_natCast]
      refine ⟨i_in (by omega) (by omega) (by omega), i_in (by omega) (by omega) (by omega), ih (j + 1) (pt_I s 193 j (st_I s 191 j)) (by omega) w (ro_I r rfl) (fun v hv => ?_)⟩
      rw [st_pI]
      by_cases c : v = j
      · rw [if_pos ⟨rfl, c⟩, c]
        exact (r.2 191 j (fun y => by omega)).1
      · rw [if_neg (by omega)]
        exact a v (by omega)
theorem c_rcopies (zw : Wd σ) : ∃ s, fw_ γ m_X12_copies 0 [.ref 185] σ s ∧ (Wd s ∧ ro_ (fun a _ => a = 188 ∨ a = 192 ∨ a = 193) σ s ∧ (∀ j, j < 174 → st_I s 188 j = st_I σ 187 j) ∧ (∀ j, j < 24 → st_I s 192 j = st_I σ 190 j) ∧ (∀ j, j < 3 → st_I s 193 j = st_I σ 191 j)) := by
  refine fw_of (P := fun s => Wd s ∧ ro_ (fun a _ => a = 188 ∨ a = 192 ∨ a = 193) σ s ∧ (∀ j, j < 174 → st_I s 188 j = st_I σ 187 j) ∧ (∀ j, j < 24 → st_I s 192 j = st_I σ 190 j) ∧ (∀ j, j < 3 → st_I s 193 j = st_I σ 191 j)) (e_X12_copies zw ?_)
  unfold p_X12_copies_0
  refine l_cpy2 (σ := σ) (fun s5 w5 r5 c5 => ?_) 174 0 σ rfl zw ro_rf (fun v hv => by omega)
  refine l_cpy29 (σ := s5) (fun s6 w6 r6 c6 => ?_) 24 0 s5 rfl w5 ro_rf (fun v hv => by omega)
  refine l_cpy55 (σ := s6) (fun s7 w7 r7 c7 => ?_) 3 0 s6 rfl w6 ro_rf (fun v hv => by omega)
  refine ⟨rfl, w7, ro_tr (ro_tr (ro_up r5 (fun a k y => Or.inl y)) (ro_up r6 (fun a k y => Or.inr (Or.inl y)))) (ro_up r7 (fun a k y => Or.inr (Or.inr y))), fun j hj => ?_, fun j hj => ?_, fun j hj => ?_⟩
  · exact (r7.2 188 j (fun y => by omega)).1.trans ((r6.2 188 j (fun y => by omega)).1.trans (c5 j hj))
  · exact (r7.2 192 j (fun y => by omega)).1.trans ((c6 j hj).trans (r5.2 190 j (fun y => by omega)).1)
  · exact (c7 j hj).trans ((r6.2 191 j (fun y => by omega)).1.trans (r5.2 191 j (fun y => by omega)).1)
theorem lnm_no (hN : Nv_ P) {l : List Int} (h : ¬ Nam_ l) : lnm_ P l = -1 := by
  unfold lnm_
  rcases pl_spec (fun i => decide (P.2.1 i = l)) (pL_ P.1) 0 0 with e | ⟨j, -, -, e2, e3⟩
  · exact e
  · rw [decide_eq_true_eq] at e3
    exact absurd (by rw [← e3]; exact hN j (by omega)) h
theorem r_findLocation (h : Jr_ σ A c) (hN : Nv_ (aP_ A)) (hB : ∀ i, i < an2_ A → -128 ≤ aB_ A i ∧ aB_ A i < 128) : Ra_ γ m_X12_findLocation 1 [.ref 185] σ (aB_ A, 0, A.2.2) c e (ri_ (fdl_ A)) := by
  have bf0 := sS_bf h hB
  have w0 : Wd (sS_ σ (an2_ A)) := h.1
  have st := c_rstarts (γ := γ) h
  have r0 : ro_ dSt_ σ (sS_ σ (an2_ A)) := sS_ro
  have e2 : st_I (sS_ σ (an2_ A)) 185 2 = 0 := by
    unfold sS_
    rw [st_pI, if_neg (by omega), st_sI]
  have e0 : st_I (sS_ σ (an2_ A)) 185 0 = i_ 0 := by
    unfold sS_
    rw [st_pI, if_neg (by omega), st_pI, if_neg (by omega), st_pI, if_neg (by omega), st_sI]
    rfl
  refine ra_of (e_X12_findLocation h.1 ?_)
  unfold p_X12_findLocation_0
  generalize sS_ σ (an2_ A) = s0 at bf0 w0 st r0 e2 e0
  obtain ⟨-, O, ⟨⟨b1, b2, b3⟩, q, ⟨o1, o2⟩, ⟨cc1, cc2⟩, ex⟩⟩ := h
  obtain ⟨⟨q0, q1, q2, q3, q4, q5⟩, qn, -, -, -⟩ := id q
  obtain ⟨s1, f1, f2, f3, f4, f5, f6⟩ := c_rcopies (γ := γ) w0
  have bL := q0.2.2.1
  have bf1 : Bf_ s1 (aB_ A) (an2_ A) := bf_ro f3 (fun a k y z => by omega) bf0
  have D : ro_ (fun a k => dSt_ a k ∨ a = 188 ∨ a = 192 ∨ a = 193) σ s1 := ro_tr (ro_up r0 (fun a k y => Or.inl y)) (ro_up f3 (fun a k y => Or.inr y))
  have nm := c_rnamed (γ := γ) (P := aP_ A) (q := 0) (u := an2_ A) f2 bf1 ⟨hN, bL, (f4 2 (by decide)).trans ((r0.2 187 2 (fun y => by unfold dSt_ at y; omega)).1.trans q3), fun l zl => ⟨(f6 l (by omega)).trans ((r0.2 191 l (fun y => by unfold dSt_ at y; omega)).1.trans (qn l zl).1), fun k x hx => by
    have n8 := (hN l zl).1
    have lk := (List.getElem?_eq_some_iff.mp hx).1
    exact (f5 _ (by omega)).trans ((r0.2 190 _ (fun y => by unfold dSt_ at y; omega)).1.trans ((qn l zl).2 k x hx))⟩⟩ (by omega)
  rw [← bf1.2.1] at nm
  refine ⟨s0, w0, st, s1, f2, f1, _, s1, f2, nm, ?_⟩
  have g : ∀ a k, ¬ (dSt_ a k ∨ a = 188 ∨ a = 192 ∨ a = 193) → st_I s1 a k = st_I σ a k := fun a k z => (D.2 a k z).1
  refine ⟨_, rfl, c, ⟨f2, rt0_cg (fun a k z => g a k (by unfold dSt_; omega)) O, ⟨Nat.zero_le _, (f3.2 185 2 (fun y => by omega)).1.trans e2, fun k hk => absurd hk (Nat.not_lt_zero k)⟩, rq_cg (fun a k z => g a k (by unfold dSt_; omega)) q, ⟨(g _ _ (by unfold dSt_; omega)).trans o1, fun k z y => (g _ _ (by unfold dSt_; omega)).trans (o2 k z y)⟩, ⟨(g _ _ (by unfold dSt_; omega)).trans cc1, krr_cg (fun k => g _ _ (by unfold dSt_; omega)) _ _ cc2⟩, re_cg (fun a k z => g a k (by unfold dSt_; omega)) ex⟩, by omega, ro_up D (fun a k y => by unfold dSt_ at y; unfold dM_; omega), ?_, (f3.2 185 0 (fun y => by omega)).1.trans e0⟩
  unfold fdl_
  have el : (List.range (an2_ A)).map (fun j => aB_ A (0 + j)) = bs_ (aB_ A) (an2_ A) := by
    unfold bs_
    exact List.map_congr_left (fun j _ => by rw [Nat.zero_add])
  rw [el]
  split
  · rfl
  · next hc =>
    rw [lnm_no hN]
    intro hn
    apply hc
    have ll : (bs_ (aB_ A) (an2_ A)).length = an2_ A := by
      rw [← el, List.length_map, List.length_range]
    refine ⟨by rw [← ll]; exact hn.1, List.all_eq_true.mpr (fun x hx => ?_)⟩
    unfold isl_
    rw [decide_eq_true_eq]
    exact hn.2.2 x hx
end FI
