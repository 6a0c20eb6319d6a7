/-! the reference reads: the whole text -/
section PG2
variable {γ : ga_T} {σ σ1 s : st_T} {B : Nat → Int} {n k i t : Nat} {z : Int} {P : pq_T} {S S2 : qs_T} {p : pr_T}
theorem Rd_det {w d : Nat} {r r2 : qs_T ⊕ Nat} (h : Rd_ B n w d S r) (h2 : Rd_ B n w d S r2) : r = r2 := by
  obtain ⟨f, h⟩ := h
  obtain ⟨f2, h2⟩ := h2
  have a := rd_up h f2
  have b := rd_up h2 f
  rw [Nat.add_comm f2 f, a] at b
  exact Option.some.inj b
theorem PR_det {r r2 : qs_T ⊕ Nat} (h : PR_ B n r) (h2 : PR_ B n r2) : r = r2 := by
  rcases h with ⟨e, a, b⟩ | ⟨S1, a, h⟩
  · rcases h2 with ⟨e2, a2, b2⟩ | ⟨S12, a2, h2⟩
    · rw [b, b2]
      rw [a] at a2
      exact congrArg Sum.inr (Sum.inr.inj a2)
    · rw [a] at a2
      cases a2
  · rcases h2 with ⟨e2, a2, b2⟩ | ⟨S12, a2, h2⟩
    · rw [a] at a2
      cases a2
    · rw [a] at a2
      cases a2
      rcases h with ⟨e, a, b⟩ | ⟨S2, a, h⟩
      · rcases h2 with ⟨e2, a2, b2⟩ | ⟨S22, a2, h2⟩
        · rw [b, b2]
          rw [a] at a2
          exact congrArg Sum.inr (Sum.inr.inj a2)
        · rw [a] at a2
          cases a2
      · rcases h2 with ⟨e2, a2, b2⟩ | ⟨S22, a2, h2⟩
        · rw [a] at a2
          cases a2
        · rw [a] at a2
          cases a2
          rcases h with ⟨c, h⟩ | ⟨c, h⟩
          · rcases h2 with ⟨c2, h2⟩ | ⟨c2, h2⟩
            · exact h.trans h2.symm
            · exact absurd c2 c
          · rcases h2 with ⟨c2, h2⟩ | ⟨c2, h2⟩
            · exact absurd c c2
            · rcases h with ⟨e, a, b⟩ | ⟨S3, a, h⟩
              · rcases h2 with ⟨e2, a2, b2⟩ | ⟨S32, a2, h2⟩
                · rw [b, b2]
                  exact Rd_det a a2
                · cases Rd_det a a2
              · rcases h2 with ⟨e2, a2, b2⟩ | ⟨S32, a2, h2⟩
                · cases Rd_det a a2
                · cases Rd_det a a2
                  rcases h with ⟨e, a, b⟩ | ⟨S4, a, h⟩
                  · rcases h2 with ⟨e2, a2, b2⟩ | ⟨S42, a2, h2⟩
                    · rw [b, b2]
                      rw [a] at a2
                      exact congrArg Sum.inr (Sum.inr.inj a2)
                    · rw [a] at a2
                      cases a2
                  · rcases h2 with ⟨e2, a2, b2⟩ | ⟨S42, a2, h2⟩
                    · rw [a] at a2
                      cases a2
                    · rw [a] at a2
                      cases a2
                      exact h.trans h2.symm
theorem dec_pal (h : dec_ B n S = .inl S2) : pL_ S2.2.1.1 = pL_ S.2.1.1 + 1 ∧ pT_ S2.2.1.1 = pT_ S.2.1.1 := by
  unfold dec_ at h
  split at h
  · cases h
  · split at h
    · cases h
    · split at h
      · cases h
      · cases ev : vl_ B n (S.1 + 2, S.2) with
        | inr e =>
          rw [ev] at h
          cases h
        | inl S9 =>
          rw [ev] at h
          have h : xp_ B n 15 (S.1 + 3, pal_ S.2.1 (tby_ B n (S.1 + 1)) (tnu_ B n (S.1 + 2)), S.2.2) = .inl S2 := h
          rw [xp_S2 h]
          exact ⟨rfl, rfl⟩
theorem thr_pT (hW : Wx_ S.2.1) (h : thr_ B n S = .inl S2) : pT_ S2.2.1.1 = pT_ S.2.1.1 + 1 := by
  unfold thr_ at h
  split at h
  · cases h
  · next y =>
    cases ex : xp_ B n 15 (S.1 + 1, pat_ S.2.1, S.2.2) with
    | inr e =>
      rw [ex] at h
      cases h
    | inl S9 =>
      rw [ex] at h
      have h : itl_ B n (pT_ S.2.1.1) 8 S9 = .inl S2 := h
      have e9 := xp_S2 ex
      have eT : pT_ S9.2.1.1 = pT_ S.2.1.1 + 1 := by
        rw [e9]
        rfl
      have y2 := (itl_w (B := B) (n := n) 8 S9 S2 (by omega) (by rw [e9]; exact wx_pat hW (by omega)) (by rw [eT]; exact h)).2
      rw [y2, eT]
theorem l_rprog18 {K : (qs_T ⊕ Nat) → Prop} : ∀ (f : Nat) (S : qs_T) (s : st_T), pT_ S.2.1.1 + f = 5 → Rpc_ s B n S → ro_ dV_ σ s → Wx_ S.2.1 → (∀ e, thl_ B n f S = .inr e → K (.inr e)) →
    (∀ S2, thl_ B n f S = .inl S2 → (∀ r, csg_ B n S2.1 ≠ 11 → PE_ B n S2 r → K r) ∧ (csg_ B n S2.1 = 11 → (∀ e, Rd_ B n 1 0 (S2.1 + 1, S2.2) (.inr e) → K (.inr e)) ∧ ∀ S3, Rd_ B n 1 0 (S2.1 + 1, S2.2) (.inl S3) → (∀ e, xp_ B n 15 S3 = .inr e → K (.inr e)) ∧ ∀ S4, xp_ B n 15 S3 = .inl S4 → ∀ r, PE_ B n S4 r → K r)) →
    vv_ γ m_X12_readsProgram 61 18 [(0, .ref 185)] [] s (QR_ σ B n K) := by
  intro f
  induction f with
  | zero =>
    intro S s hf h r W _ _
    have := h.2.1.2.1
    omega
  | succ f ih =>
    intro S s hf h r W ke kl
    have w := h.1.1
    have sgT := kb_34.2.2.2.2.2.1
    have sgE := kb_34.2.2.2.2.2.2.1
    refine g_X12_readsProgram_18 w ?_
    unfold p_X12_readsProgram_18
    refine ⟨_, s, w, c_risText h.1 (by decide) (c := 6) (by decide) sgT, ?_⟩
    rw [thl_] at ke kl
    by_cases c6 : csg_ B n S.1 = 6
    · rw [if_pos c6] at ke kl
      rw [decide_eq_true c6]
      refine ⟨fun y => absurd y (by decide), fun _ => ?_⟩
      obtain ⟨v, s5, f1, f2⟩ := c_rthr (γ := γ) h c6 W
      rcases f2.2.2 with ⟨rfl, S2, g1, g2⟩ | ⟨rfl, e, g1, g2⟩
      · rw [g1] at ke kl
        have pT := thr_pT W g1
        exact ⟨1, s5, f2.1, f1, fun y => absurd y (by decide), fun _ => ih S2 s5 (by omega) g2 (ro_tr r f2.2.1) (thr_w W g1) ke kl⟩
      · rw [g1] at ke f2
        exact ⟨0, s5, f2.1, f1, fun _ => ⟨_, rfl, _, ke e rfl, rpo_tr r f2⟩, fun y => absurd rfl y⟩
    · rw [if_neg c6] at ke kl
      rw [decide_eq_false c6]
      obtain ⟨k1, k2⟩ := kl S rfl
      refine ⟨fun _ => ⟨_, s, w, c_risText h.1 (by decide) (c := 11) (by decide) sgE, ?_⟩, fun y => absurd rfl y⟩
      -- the end of the text
      have fin : ∀ (S4 : qs_T) (s : st_T), Rpc_ s B n S4 → ro_ dV_ σ s → (∀ r, PE_ B n S4 r → K r) →
          (((st_I s 185 14) = (0 : Int32) → QR_ σ B n K (.inl (some (.int (1 : Int32)))) s) ∧
          (¬ (st_I s 185 14) = (0 : Int32) → ∃ (v12 : Int32) (s10 : st_T), Wd s10 ∧ fn_ γ m_X12_bad 0 [.ref 185, .int (1 : Int32)] s (.int v12) s10 ∧ (v12 = (0 : Int32) → QR_ σ B n K (.inl (some (.int (0 : Int32)))) s10) ∧ (¬ v12 = (0 : Int32) → QR_ σ B n K (.inl (some (.int (1 : Int32)))) s10))) := by
        intro S4 s h4 r4 k4
        obtain ⟨-, -, g3, -, -⟩ := pt_g h4.1
        have c21 := csg_21 (B := B) (n := n) (k := S4.1)
        have so := (sso_2 c21).2.2.2.2.2
        have sr := sso_rg (csg_ B n S4.1)
        rw [g3, k0_, i_eq (by omega) (by omega)]
        refine ⟨fun y => ⟨_, rfl, _, k4 (.inl S4) (by unfold PE_; rw [if_pos (so.mp y)]), h4.1.1, r4, Or.inl ⟨rfl, S4, rfl, h4⟩⟩, fun y => ?_⟩
        have nc : ¬ csg_ B n S4.1 = 0 := fun e => y (so.mpr e)
        obtain ⟨s2, f1, f2⟩ := c_rbad (γ := γ) h4.1 (e := 1) (by decide) (Or.inl rfl) _ rfl
        exact ⟨0, s2, f2.1, f1, fun _ => ⟨_, rfl, _, k4 (.inr (er_ B n S4.1 1)) (by unfold PE_; rw [if_neg nc]), rpo_tr r4 f2⟩, fun y => absurd rfl y⟩
      by_cases c11 : csg_ B n S.1 = 11
      · obtain ⟨k3, k4⟩ := k2 c11
        rw [decide_eq_true c11]
        refine ⟨fun y => absurd y (by decide), fun _ => ?_⟩
        obtain ⟨s1, a1, a2, a3, a4⟩ := c_rgo2 (γ := γ) h.1 (by rw [c11]; decide)
        have r1 := ro_tr r (ro_up a3 (fun a k => dF_V))
        obtain ⟨v, s2, rr, f1, f2, f3⟩ := c_rcond0 (γ := γ) (S.1 + 1, S.2) s1 ⟨a4, dft_F a3 h.2⟩ W.1
        refine ⟨s1, a2, a1, ?_⟩
        rcases f3.2.2 with ⟨rfl, S3, g1, g2⟩ | ⟨rfl, e, g1, g2⟩
        · rw [g1] at f2
          obtain ⟨k5, k6⟩ := k4 S3 f2
          have r2 := ro_tr r1 f3.2.1
          obtain ⟨v, s3, e1, e2⟩ := c_rends (γ := γ) g2
          refine ⟨1, s2, f3.1, f1, fun y => absurd y (by decide), fun _ => ?_⟩
          rcases e2.2.2 with ⟨rfl, S4, q1, q2⟩ | ⟨rfl, e, q1, q2⟩
          · exact ⟨1, s3, e2.1, e1, fun y => absurd y (by decide), fun _ => fin S4 s3 q2 (ro_tr r2 e2.2.1) (k6 S4 q1)⟩
          · rw [q1] at e2
            exact ⟨0, s3, e2.1, e1, fun _ => ⟨_, rfl, _, k5 e q1, rpo_tr r2 e2⟩, fun y => absurd rfl y⟩
        · rw [g1] at f2 f3
          exact ⟨0, s2, f3.1, f1, fun _ => ⟨_, rfl, _, k3 e f2, rpo_tr r1 f3⟩, fun y => absurd rfl y⟩
      · rw [decide_eq_false c11]
        exact ⟨fun _ => fin S s h r (fun rr => k1 rr c11), fun y => absurd rfl y⟩
theorem l_rprog0 {K : (qs_T ⊕ Nat) → Prop} : ∀ (f : Nat) (S : qs_T) (s : st_T), pL_ S.2.1.1 + f = 4 → pT_ S.2.1.1 = 0 → Rpc_ s B n S → ro_ dV_ σ s → Wx_ S.2.1 → (∀ e, lcl_ B n f S = .inr e → K (.inr e)) →
    (∀ S1, lcl_ B n f S = .inl S1 → (∀ e, thl_ B n 5 S1 = .inr e → K (.inr e)) ∧ ∀ S2, thl_ B n 5 S1 = .inl S2 → (∀ r, csg_ B n S2.1 ≠ 11 → PE_ B n S2 r → K r) ∧ (csg_ B n S2.1 = 11 → (∀ e, Rd_ B n 1 0 (S2.1 + 1, S2.2) (.inr e) → K (.inr e)) ∧ ∀ S3, Rd_ B n 1 0 (S2.1 + 1, S2.2) (.inl S3) → (∀ e, xp_ B n 15 S3 = .inr e → K (.inr e)) ∧ ∀ S4, xp_ B n 15 S3 = .inl S4 → ∀ r, PE_ B n S4 r → K r)) →
    p_X12_readsProgram_0 γ s (QR_ σ B n K) := by
  intro f
  induction f with
  | zero =>
    intro S s hf hT h r W _ _
    have := h.2.1.2.2.1
    omega
  | succ f ih =>
    intro S s hf hT h r W ke kl
    have w := h.1.1
    have sgL := kb_34.2.2.2.2.1
    unfold p_X12_readsProgram_0
    refine ⟨_, s, w, c_risText h.1 (by decide) (c := 5) (by decide) sgL, ?_⟩
    rw [lcl_] at ke kl
    by_cases c5 : csg_ B n S.1 = 5
    · rw [if_pos c5] at ke kl
      rw [decide_eq_true c5]
      refine ⟨fun y => absurd y (by decide), fun _ => ?_⟩
      obtain ⟨v, s5, f1, f2⟩ := c_rdecl (γ := γ) h c5 W.2.2
      rcases f2.2.2 with ⟨rfl, S2, g1, g2⟩ | ⟨rfl, e, g1, g2⟩
      · rw [g1] at ke kl
        obtain ⟨pL, pT⟩ := dec_pal g1
        exact ⟨1, s5, f2.1, f1, fun y => absurd y (by decide), fun _ => g_X12_readsProgram_0 f2.1 (ih S2 s5 (by omega) (by omega) g2 (ro_tr r f2.2.1) (dec_w W g1) ke kl)⟩
      · rw [g1] at ke f2
        exact ⟨0, s5, f2.1, f1, fun _ => ⟨_, rfl, _, ke e rfl, rpo_tr r f2⟩, fun y => absurd rfl y⟩
    · rw [if_neg c5] at ke kl
      rw [decide_eq_false c5]
      obtain ⟨k1, k2⟩ := kl S rfl
      exact ⟨fun _ => l_rprog18 5 S s (by omega) h r W k1 k2, fun y => absurd rfl y⟩
theorem c_rprog (h : Rpc_ σ B n (0, P0_, 0)) : ∃ v s r, fn_ γ m_X12_readsProgram 61 [.ref 185] σ v s ∧ PR_ B n r ∧ Rpo_ σ B n r v s := by
  refine qr_of (e_X12_readsProgram h.1.1 (l_rprog0 4 (0, P0_, 0) σ rfl rfl h ro_rf w_P0 (fun e he => Or.inl ⟨e, he, rfl⟩) (fun S1 h1 => ⟨fun e he => Or.inr ⟨S1, h1, Or.inl ⟨e, he, rfl⟩⟩, fun S2 h2 => ?_⟩)))
  refine ⟨fun r c hr => Or.inr ⟨S1, h1, Or.inr ⟨S2, h2, Or.inl ⟨c, hr⟩⟩⟩, fun c => ⟨fun e he => Or.inr ⟨S1, h1, Or.inr ⟨S2, h2, Or.inr ⟨c, Or.inl ⟨e, he, rfl⟩⟩⟩⟩, fun S3 h3 => ?_⟩⟩
  refine ⟨fun e he => Or.inr ⟨S1, h1, Or.inr ⟨S2, h2, Or.inr ⟨c, Or.inr ⟨S3, h3, Or.inl ⟨e, he, rfl⟩⟩⟩⟩⟩, fun S4 h4 r hr => Or.inr ⟨S1, h1, Or.inr ⟨S2, h2, Or.inr ⟨c, Or.inr ⟨S3, h3, Or.inr ⟨S4, h4, hr⟩⟩⟩⟩⟩⟩
end PG2
