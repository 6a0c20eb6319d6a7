/-! the reference reads: threads -/
section TH
variable {γ : ga_T} {σ σ1 s : st_T} {B : Nat → Int} {n k i t : Nat} {z : Int} {P : pq_T} {S S2 : qs_T} {p : pr_T}
theorem xp_S2 {c : Nat} (h : xp_ B n c S = .inl S2) : S2.2 = S.2 := by
  unfold xp_ at h
  split at h
  · rw [← Sum.inl.inj h]
  · cases h
theorem ins_pai {kd : Int} (h : ins_ B n t kd S = .inl S2) : ∃ l g c x, S2.2.1 = pai_ S.2.1 kd l g c x ∧ S2.2.2 = S.2.2 := by
  unfold ins_ at h
  split at h
  · cases h
  · have e1 : ∀ (g : Int) (S3 : qs_T), (if kd = 1 ∨ kd = 2 then rtg_ B n t (S.1 + 1, S.2) else .inl (-1, (S.1 + 1, S.2)) : (Int × qs_T) ⊕ Nat) = .inl (g, S3) → S3.2 = S.2 := fun g S3 e => by
      split at e
      · unfold rtg_ at e
        split at e
        · split at e
          · cases e
          · rw [← (Prod.mk.inj (Sum.inl.inj e)).2]
        · cases e
      · rw [← (Prod.mk.inj (Sum.inl.inj e)).2]
    generalize (if kd = 1 ∨ kd = 2 then rtg_ B n t (S.1 + 1, S.2) else .inl (-1, (S.1 + 1, S.2)) : (Int × qs_T) ⊕ Nat) = x1 at h e1
    cases x1 with
    | inr e => cases h
    | inl q =>
      obtain ⟨g, S3⟩ := q
      have e1 := e1 g S3 rfl
      have e2 : ∀ (l : Int) (S4 : qs_T), (if kd = 3 then .inl (-1, S3) else rlo_ B n S3 : (Int × qs_T) ⊕ Nat) = .inl (l, S4) → S4.2 = S.2 := fun l S4 e => by
        split at e
        · rw [← (Prod.mk.inj (Sum.inl.inj e)).2]
          exact e1
        · unfold rlo_ at e
          split at e
          · split at e
            · cases e
            · rw [← (Prod.mk.inj (Sum.inl.inj e)).2]
              exact e1
          · cases e
      have h : (match (if kd = 3 then .inl (-1, S3) else rlo_ B n S3 : (Int × qs_T) ⊕ Nat) with | .inr e => (.inr e : qs_T ⊕ Nat) | .inl (l, S4) => match (if kd = 0 ∨ kd = 2 then rva_ B n t S4 else .inl ((-1, -1), S4) : ((Int × Int) × qs_T) ⊕ Nat) with | .inr e => (.inr e : qs_T ⊕ Nat) | .inl (x, S5) => match xp_ B n 15 S5 with | .inr e => (.inr e : qs_T ⊕ Nat) | .inl S6 => (.inl (S6.1, pai_ S6.2.1 kd l g x.1 x.2, S6.2.2) : qs_T ⊕ Nat)) = .inl S2 := h
      generalize (if kd = 3 then .inl (-1, S3) else rlo_ B n S3 : (Int × qs_T) ⊕ Nat) = x2 at h e2
      cases x2 with
      | inr e => cases h
      | inl q =>
        obtain ⟨l, S4⟩ := q
        have e2 := e2 l S4 rfl
        have e3 : ∀ (x : Int × Int) (S5 : qs_T), (if kd = 0 ∨ kd = 2 then rva_ B n t S4 else .inl ((-1, -1), S4) : ((Int × Int) × qs_T) ⊕ Nat) = .inl (x, S5) → S5.2 = S.2 := fun x S5 e => by
          split at e
          · unfold rva_ at e
            split at e
            · split at e
              · rw [← (Prod.mk.inj (Sum.inl.inj e)).2]
                exact e2
              · cases e
            · cases ev : vl_ B n S4 with
              | inr e9 =>
                rw [ev] at e
                cases e
              | inl S9 =>
                rw [ev] at e
                rw [← (Prod.mk.inj (Sum.inl.inj e)).2]
                exact e2
          · rw [← (Prod.mk.inj (Sum.inl.inj e)).2]
            exact e2
        have h : (match (if kd = 0 ∨ kd = 2 then rva_ B n t S4 else .inl ((-1, -1), S4) : ((Int × Int) × qs_T) ⊕ Nat) with | .inr e => (.inr e : qs_T ⊕ Nat) | .inl (x, S5) => match xp_ B n 15 S5 with | .inr e => (.inr e : qs_T ⊕ Nat) | .inl S6 => (.inl (S6.1, pai_ S6.2.1 kd l g x.1 x.2, S6.2.2) : qs_T ⊕ Nat)) = .inl S2 := h
        generalize (if kd = 0 ∨ kd = 2 then rva_ B n t S4 else .inl ((-1, -1), S4) : ((Int × Int) × qs_T) ⊕ Nat) = x3 at h e3
        cases x3 with
        | inr e => cases h
        | inl q =>
          obtain ⟨x, S5⟩ := q
          have e3 := e3 x S5 rfl
          have h : (match xp_ B n 15 S5 with | .inr e => (.inr e : qs_T ⊕ Nat) | .inl S6 => (.inl (S6.1, pai_ S6.2.1 kd l g x.1 x.2, S6.2.2) : qs_T ⊕ Nat)) = .inl S2 := h
          cases e4 : xp_ B n 15 S5 with
          | inr e =>
            rw [e4] at h
            cases h
          | inl S6 =>
            rw [e4] at h
            have h : (.inl (S6.1, pai_ S6.2.1 kd l g x.1 x.2, S6.2.2) : qs_T ⊕ Nat) = .inl S2 := h
            have e5 := xp_S2 e4
            refine ⟨l, g, x.1, x.2, ?_, ?_⟩
            · rw [← Sum.inl.inj h]
              show pai_ S6.2.1 kd l g x.1 x.2 = _
              rw [e5, e3]
            · rw [← Sum.inl.inj h]
              show S6.2.2 = _
              rw [e5, e3]
theorem cti_pai {kd l g c x : Int} (hT : 0 < pT_ P.1) : cti_ (pai_ P kd l g c x).1 ((pT_ P.1 - 1 : Nat) : Int) false = cti_ P.1 ((pT_ P.1 - 1 : Nat) : Int) false + 1 := by
  have e : ∀ j, pC_ (pai_ P kd l g c x).1 j 0 = if j = pN_ P.1 then (pT_ P.1 : Int) - 1 else pC_ P.1 j 0 := fun j => by
    show upd_ (pC_ P.1) (pN_ P.1) (rw6_ ((pT_ P.1 : Int) - 1) kd l g c x) j 0 = _
    unfold upd_
    split
    · rfl
    · rfl
  show ct_ _ (pN_ P.1 + 1) = _
  rw [ct_s]
  congr 1
  · refine ct_cg (fun j hj => ?_)
    rw [e j, if_neg (by omega)]
    show (_ && (true || _)) = (_ && (true || _))
    rw [Bool.true_or, Bool.true_or]
  · rw [e (pN_ P.1), if_pos rfl, decide_eq_true (show (pT_ P.1 : Int) - 1 = ((pT_ P.1 - 1 : Nat) : Int) by omega)]
    show (if ((_ || true) && (true || _)) = true then 1 else 0) = 1
    rw [Bool.or_true, Bool.true_or, Bool.and_true]
    rfl
theorem l_rinsts {σ0 : st_T} {t : Nat} {r0 : qs_T ⊕ Nat} : ∀ (f : Nat) (S : qs_T) (s : st_T), Rpc_ s B n S → ro_ dV_ σ0 s → Wx_ S.2.1 → pT_ S.2.1.1 = t + 1 → 8 ≤ cti_ S.2.1.1 (t : Int) false + f → r0 = itl_ B n t f S →
    vv_ γ m_X12_readsThread 18 39 [(0, .ref 185)] [] s (fun r s => ∃ v, r = .inl (some v) ∧ Rpo_ σ0 B n r0 v s) := by
  intro f
  induction f with
  | zero =>
    intro S s h r W hT hc _
    have hB := W.1.1.2.1
    have := (full_c W.1 (t := t) (kd := 0) (by omega)).2.1
    omega
  | succ f ih =>
    intro S s h r W hT hc er
    have w := h.1.1
    refine g_X12_readsThread_39 w ?_
    unfold p_X12_readsThread_39
    refine ⟨_, s, w, c_kindNow h.1, ?_⟩
    have kr := kd_rg (csg_ B n S.1)
    rw [itl_] at er
    rw [show (-1 : Int32) = i_ (-1) by decide, i_eq (by omega) (by omega)]
    refine ⟨fun y => ?_, fun y => ?_⟩
    · rw [if_pos y] at er
      exact ⟨_, rfl, w, r, Or.inl ⟨rfl, S, er, h⟩⟩
    · rw [if_neg y] at er
      obtain ⟨v, s5, f1, f2⟩ := c_rinst (γ := γ) h W (by omega) y
      rw [h.2.2.2.1.2.1, k1_, i_sub]
      have et : pT_ S.2.1.1 - 1 = t := by omega
      rw [et] at f2
      rcases f2.2.2 with ⟨rfl, S2, g1, g2⟩ | ⟨rfl, e, g1, g2⟩
      · rw [g1] at er
        have W2 := ins_w (B := B) (n := n) (S := S) (S2 := S2) (kd := kd_ (csg_ B n S.1)) (by omega) (by omega) W (by rw [et]; exact g1)
        obtain ⟨l, g, c, x, q1, q2⟩ := ins_pai g1
        refine ⟨_, s5, f2.1, f1, fun z => absurd z (by decide), fun _ => ih S2 s5 g2 (ro_tr r f2.2.1) W2.1 (by rw [W2.2]; exact hT) ?_ er⟩
        rw [q1]
        have ec := cti_pai (P := S.2.1) (kd := kd_ (csg_ B n S.1)) (l := l) (g := g) (c := c) (x := x) (by omega)
        rw [et] at ec
        rw [ec]
        omega
      · rw [g1] at er f2
        have er : r0 = .inr e := er
        refine ⟨_, s5, f2.1, f1, fun _ => ⟨_, rfl, ?_⟩, fun z => absurd rfl z⟩
        rw [er]
        exact rpo_tr r f2
theorem bp_pat (h : Bp_ P.1) (hT : pT_ P.1 < 4) : Bp_ (pat_ P).1 := ⟨h.1, hT, h.2.2⟩
theorem wx_pat (W : Wx_ P) (hT : pT_ P.1 < 4) : Wx_ (pat_ P) := ⟨wp_addT W.1 hT, W.2.1, W.2.2⟩
theorem c_rthr (h : Rpc_ σ B n S) (hs : csg_ B n S.1 = 6) (W : Wx_ S.2.1) : ∃ v s, fn_ γ m_X12_readsThread 18 [.ref 185] σ v s ∧ Rpo_ σ B n (thr_ B n S) v s := by
  obtain ⟨r0, er0⟩ : ∃ r0, r0 = thr_ B n S := ⟨_, rfl⟩
  rw [← er0]
  suffices key : sp_ γ m_X12_readsThread 18 [.ref 185] σ (fun r s => ∃ v, r = .inl (some v) ∧ Rpo_ σ B n r0 v s) from fn_of key
  obtain ⟨hp, hB, hNm, hR, hD, hU, h21, h195, h22⟩ := id h
  have b4 := hB.2.1
  refine e_X12_readsThread hp.1 ?_
  unfold p_X12_readsThread_0
  rw [hR.2.1, show (4 : Int32) = i_ 4 by decide, i_eq (by omega) (by omega)]
  refine ⟨fun y => ?_, fun y => ?_⟩
  · obtain ⟨s, f1, f2⟩ := c_rbad (γ := γ) hp (e := 5) (by decide) (Or.inr (by rw [hs]; decide)) r0 (by rw [er0]; unfold thr_; rw [if_pos (by omega)])
    exact ⟨_, s, f2.1, f1, Or.inl rfl, _, rfl, f2⟩
  · have hT : pT_ S.2.1.1 < 4 := by omega
    have er : r0 = (match xp_ B n 15 (S.1 + 1, pat_ S.2.1, S.2.2) with | .inr e => .inr e | .inl S2 => itl_ B n (pT_ S.2.1.1) 8 S2) := by
      rw [er0]
      unfold thr_
      rw [if_neg (by omega)]
      rfl
    obtain ⟨s1, a1, a2, a3, a4⟩ := c_rgo2 (γ := γ) hp (by rw [hs]; decide)
    obtain ⟨e1, e2, e3, e4, e5, e6, e7, e8⟩ := dft_F a3 h.2
    have h0 := W.2.2
    refine ⟨s1, a2, a1, ?_⟩
    rw [e3.2.1, k1_, i_add]
    have F : Rpc_ (pt_I s1 188 1 (i_ ((pT_ S.2.1.1 : Int) + 1))) B n (S.1 + 1, pat_ S.2.1, S.2.2) := by
      refine ⟨ptk_ro (D := fun a k => a = 188 ∧ k = 1) (ro_I ro_rf ⟨rfl, rfl⟩) (fun a k y z => by omega) a4, bp_pat e1 hT, e2, ⟨?_, ?_, ?_, fun l zl => ?_, fun i k zi zk => ?_⟩, fun l zl => ?_, e5, ?_, fun k x hx => ?_, ?_⟩
      · rw [st_pI, if_neg (by omega)]
        exact e3.1
      · exact st_sI _ _ _ _
      · rw [st_pI, if_neg (by omega)]
        exact e3.2.2.1
      · rw [st_pI, if_neg (by omega)]
        exact e3.2.2.2.1 l zl
      · rw [st_pI, if_neg (by omega)]
        exact e3.2.2.2.2 i k zi zk
      · exact ⟨by rw [st_pI, if_neg (by omega)]; exact (e4 l zl).1, fun k x hx => by rw [st_pI, if_neg (by omega)]; exact (e4 l zl).2 k x hx⟩
      · rw [st_pI, if_neg (by omega)]
        exact e6
      · have hx : S.2.1.2.2[k]? = some x := hx
        rw [h0] at hx
        cases hx
      · rw [st_pI, if_neg (by omega)]
        exact e8
    obtain ⟨v, s4, k1, k2⟩ := c_rends (γ := γ) F
    have rV : ro_ dV_ σ (pt_I s1 188 1 (i_ ((pT_ S.2.1.1 : Int) + 1))) := ro_I (ro_up a3 (fun a k => dF_V)) (Or.inl rfl)
    rcases k2.2.2 with ⟨rfl, S2, g1, g2⟩ | ⟨rfl, e, g1, g2⟩
    · rw [g1] at er
      have q2 := xp_S2 g1
      refine ⟨_, s4, k2.1, k1, fun y => absurd y (by decide), fun _ => l_rinsts 8 S2 s4 g2 (ro_tr rV k2.2.1) ?_ ?_ (by omega) er⟩
      · rw [q2]
        exact wx_pat W hT
      · rw [q2]
        rfl
    · rw [g1] at er k2
      have er : r0 = .inr e := er
      refine ⟨_, s4, k2.1, k1, fun _ => ⟨_, rfl, ?_⟩, fun y => absurd rfl y⟩
      rw [er]
      exact rpo_tr rV k2
end TH
