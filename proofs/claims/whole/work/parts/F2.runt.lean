/-! the reference reads: conditions -/
section UN
variable {γ : ga_T} {σ σ1 s : st_T} {B : Nat → Int} {n k i t : Nat} {z : Int} {P : pq_T} {S S2 : qs_T} {p : pr_T}
def RUC_ (γ : ga_T) (B : Nat → Int) (n d D : Nat) : Prop := ∀ (S : qs_T) (s : st_T), Rpc_ s B n S → Wp_ S.2.1.1 → ∃ v s2 r, fn_ γ m_X12_readsUnit D [.ref 185, .int (i_ (d : Int))] s v s2 ∧ Rd_ B n 0 d S r ∧ Rpo_ s B n r v s2
def RBC_ (γ : ga_T) (B : Nat → Int) (n d D : Nat) : Prop := ∀ (S : qs_T) (s : st_T), Rpc_ s B n S → Wp_ S.2.1.1 → ∃ v s2 r, fn_ γ m_X12_readsBoth D [.ref 185, .int (i_ (d : Int))] s v s2 ∧ Rd_ B n 2 d S r ∧ Rpo_ s B n r v s2
def RCC_ (γ : ga_T) (B : Nat → Int) (n d D : Nat) : Prop := ∀ (S : qs_T) (s : st_T), Rpc_ s B n S → Wp_ S.2.1.1 → ∃ v s2 r, fn_ γ m_X12_readsCondition D [.ref 185, .int (i_ (d : Int))] s v s2 ∧ Rd_ B n 1 d S r ∧ Rpo_ s B n r v s2
/-- how such a reading ends -/
def QR_ (σ : st_T) (B : Nat → Int) (n : Nat) (K : (qs_T ⊕ Nat) → Prop) : rs_T → st_T → Prop := fun r s => ∃ v, r = .inl (some v) ∧ ∃ rr, K rr ∧ Rpo_ σ B n rr v s
theorem qr_of {μ : mr_T} {D : Nat} {as : List Value} {K : (qs_T ⊕ Nat) → Prop} (h : sp_ γ μ D as σ (QR_ σ B n K)) : ∃ v s r, fn_ γ μ D as σ v s ∧ K r ∧ Rpo_ σ B n r v s := by
  obtain ⟨v, s, f, rr, h1, h2⟩ := fn_of (P := fun v s => ∃ rr, K rr ∧ Rpo_ σ B n rr v s) h
  exact ⟨v, s, rr, f, h1, h2⟩
theorem c_rboth {d D : Nat} (hD : 41 ≤ D) (hU : RUC_ γ B n d D) : RBC_ γ B n d (D + 1) := by
  intro S0 σ h0 W0
  have sg := kb_34.2.2.2.2.2.2.2.2.1
  have loop : ∀ (m : Nat) (S : qs_T) (s : st_T), 17 ≤ S.2.2 + m → Rpc_ s B n S → Wp_ S.2.1.1 → ro_ dV_ σ s → (∀ rr, Rd_ B n 4 d S rr → Rd_ B n 2 d S0 rr) → vv_ γ m_X12_readsBoth (D + 1) 10 [(0, .ref 185), (1, .int (i_ (d : Int)))] [] s (QR_ σ B n (Rd_ B n 2 d S0)) := by
    intro m
    induction m with
    | zero =>
      intro S s hm h W r K
      have := h.2.2.2.2.2.1.2
      omega
    | succ m ih =>
      intro S s hm h W r K
      have w := h.1.1
      refine g_X12_readsBoth_10 (by omega) w ?_
      unfold p_X12_readsBoth_10
      refine ⟨_, s, w, c_risText h.1 (by decide) (c := 13) (by decide) sg, ?_⟩
      by_cases c : csg_ B n S.1 = 13
      · rw [decide_eq_true c]
        refine ⟨fun y => absurd y (by decide), fun _ => ?_⟩
        obtain ⟨s1, a1, a2, a3, a4⟩ := c_rgo2 (γ := γ) h.1 (by rw [c]; decide)
        obtain ⟨v, s2, rr, f1, f2, f3⟩ := hU (S.1 + 1, S.2) s1 ⟨a4, dft_F a3 h.2⟩ W
        have rV := ro_tr r (ro_up a3 (fun a k => dF_V))
        have hl := h.2.2.2.2.2.1.1
        rcases f3.2.2 with ⟨rfl, S2, g1, g2⟩ | ⟨rfl, e, g1, g2⟩
        · rw [g1] at f2
          obtain ⟨p1, p2, -, p4, p5⟩ := Rd_post (by decide) f2
          have p1 : S2.2.1.1 = S.2.1.1 := p1
          have p4 : S.2.2 + 1 ≤ S2.2.2 := p4
          have p5 : S2.2.1.2.2.length + 2 * S.2.2 + 1 ≤ S.2.1.2.2.length + 2 * S2.2.2 := p5
          obtain ⟨s3, t1, t2, t3, t4⟩ := c_rtells (γ := γ) g2 (u := -2) (x := -1) (by omega) (by
            unfold tru_
            rw [if_neg (by decide), if_pos rfl])
          exact ⟨s1, a2, a1, 1, s2, f3.1, f1, fun y => absurd y (by decide), fun _ => ⟨s3, t2, t1, ih (S2.1, pac_ S2.2.1 (-2), S2.2.2) s3 (by show 17 ≤ S2.2.2 + m; omega) t4 (by
            show Wp_ S2.2.1.1
            rw [p1]
            exact W) (ro_tr (ro_tr rV f3.2.1) t3) (fun rr hr => K rr (Rd_4 c f2 hr))⟩⟩
        · rw [g1] at f2 f3
          exact ⟨s1, a2, a1, 0, s2, f3.1, f1, fun _ => ⟨_, rfl, _, K _ (Rd_4e c f2), rpo_tr rV f3⟩, fun y => absurd rfl y⟩
      · rw [decide_eq_false c]
        exact ⟨fun _ => ⟨_, rfl, _, K _ (Rd_40 c), w, r, Or.inl ⟨rfl, S, rfl, h⟩⟩, fun y => absurd rfl y⟩
  refine qr_of (e_X12_readsBoth (by omega) h0.1.1 ?_)
  unfold p_X12_readsBoth_0
  obtain ⟨v, s2, rr, f1, f2, f3⟩ := hU S0 σ h0 W0
  rcases f3.2.2 with ⟨rfl, S2, g1, g2⟩ | ⟨rfl, e, g1, g2⟩
  · rw [g1] at f2
    have p1 := (Rd_post (by decide) f2).1
    exact ⟨1, s2, f3.1, f1, fun y => absurd y (by decide), fun _ => loop 17 S2 s2 (by omega) g2 (by rw [p1]; exact W0) f3.2.1 (fun rr hr => Rd_2 f2 hr)⟩
  · rw [g1] at f2 f3
    exact ⟨0, s2, f3.1, f1, fun _ => ⟨_, rfl, _, Rd_2e f2, f3⟩, fun y => absurd rfl y⟩
theorem c_rcond {d D : Nat} (hD : 41 ≤ D) (hU : RBC_ γ B n d D) : RCC_ γ B n d (D + 1) := by
  intro S0 σ h0 W0
  have sg := kb_34.2.2.2.2.2.2.2.1
  have loop : ∀ (m : Nat) (S : qs_T) (s : st_T), 17 ≤ S.2.2 + m → Rpc_ s B n S → Wp_ S.2.1.1 → ro_ dV_ σ s → (∀ rr, Rd_ B n 3 d S rr → Rd_ B n 1 d S0 rr) → vv_ γ m_X12_readsCondition (D + 1) 10 [(0, .ref 185), (1, .int (i_ (d : Int)))] [] s (QR_ σ B n (Rd_ B n 1 d S0)) := by
    intro m
    induction m with
    | zero =>
      intro S s hm h W r K
      have := h.2.2.2.2.2.1.2
      omega
    | succ m ih =>
      intro S s hm h W r K
      have w := h.1.1
      refine g_X12_readsCondition_10 (by omega) w ?_
      unfold p_X12_readsCondition_10
      refine ⟨_, s, w, c_risText h.1 (by decide) (c := 12) (by decide) sg, ?_⟩
      by_cases c : csg_ B n S.1 = 12
      · rw [decide_eq_true c]
        refine ⟨fun y => absurd y (by decide), fun _ => ?_⟩
        obtain ⟨s1, a1, a2, a3, a4⟩ := c_rgo2 (γ := γ) h.1 (by rw [c]; decide)
        obtain ⟨v, s2, rr, f1, f2, f3⟩ := hU (S.1 + 1, S.2) s1 ⟨a4, dft_F a3 h.2⟩ W
        have rV := ro_tr r (ro_up a3 (fun a k => dF_V))
        have hl := h.2.2.2.2.2.1.1
        rcases f3.2.2 with ⟨rfl, S2, g1, g2⟩ | ⟨rfl, e, g1, g2⟩
        · rw [g1] at f2
          obtain ⟨p1, p2, -, p4, p5⟩ := Rd_post (by decide) f2
          have p1 : S2.2.1.1 = S.2.1.1 := p1
          have p4 : S.2.2 + 1 ≤ S2.2.2 := p4
          have p5 : S2.2.1.2.2.length + 2 * S.2.2 + 1 ≤ S.2.1.2.2.length + 2 * S2.2.2 := p5
          obtain ⟨s3, t1, t2, t3, t4⟩ := c_rtells (γ := γ) g2 (u := -3) (x := -2) (by omega) (by
            unfold tru_
            rw [if_neg (by decide), if_neg (by decide), if_pos rfl])
          exact ⟨s1, a2, a1, 1, s2, f3.1, f1, fun y => absurd y (by decide), fun _ => ⟨s3, t2, t1, ih (S2.1, pac_ S2.2.1 (-3), S2.2.2) s3 (by show 17 ≤ S2.2.2 + m; omega) t4 (by
            show Wp_ S2.2.1.1
            rw [p1]
            exact W) (ro_tr (ro_tr rV f3.2.1) t3) (fun rr hr => K rr (Rd_3 c f2 hr))⟩⟩
        · rw [g1] at f2 f3
          exact ⟨s1, a2, a1, 0, s2, f3.1, f1, fun _ => ⟨_, rfl, _, K _ (Rd_3e c f2), rpo_tr rV f3⟩, fun y => absurd rfl y⟩
      · rw [decide_eq_false c]
        exact ⟨fun _ => ⟨_, rfl, _, K _ (Rd_30 c), w, r, Or.inl ⟨rfl, S, rfl, h⟩⟩, fun y => absurd rfl y⟩
  refine qr_of (e_X12_readsCondition (by omega) h0.1.1 ?_)
  unfold p_X12_readsCondition_0
  obtain ⟨v, s2, rr, f1, f2, f3⟩ := hU S0 σ h0 W0
  rcases f3.2.2 with ⟨rfl, S2, g1, g2⟩ | ⟨rfl, e, g1, g2⟩
  · rw [g1] at f2
    have p1 := (Rd_post (by decide) f2).1
    exact ⟨1, s2, f3.1, f1, fun y => absurd y (by decide), fun _ => loop 17 S2 s2 (by omega) g2 (by rw [p1]; exact W0) f3.2.1 (fun rr hr => Rd_1 f2 hr)⟩
  · rw [g1] at f2 f3
    exact ⟨0, s2, f3.1, f1, fun _ => ⟨_, rfl, _, Rd_1e f2, f3⟩, fun y => absurd rfl y⟩
/-- a unit -/
theorem c_runit {d D : Nat} (hD : 41 ≤ D) (hd : d ≤ 5) (hU : d ≤ 4 → RUC_ γ B n (d + 1) D) (hC : d ≤ 4 → RCC_ γ B n (d + 1) D) : RUC_ γ B n d (D + 1) := by
  intro S σ h W
  have hp := h.1
  have w := hp.1
  obtain ⟨g1, g2, g3, g4, g5⟩ := pt_g hp
  obtain ⟨hB, hNm, hR, hDn, hUn, h21, h195, h22⟩ := id h.2
  have b4 := hB.2.1
  have b3 := hB.2.2.1
  have c21 := csg_21 (B := B) (n := n) (k := S.1)
  have so := sso_2 c21
  have sr := sso_rg (csg_ B n S.1)
  have tN := c_risText (γ := γ) hp (a := 43) (c := 14) (by decide) (by decide) kb_34.2.2.2.2.2.2.2.2.2
  have tP := c_risSym (γ := γ) hp (c := 19) (x := 40) (by decide) (by decide) sg_sym.2.2.2.2.1
  have nm := c_risName (γ := γ) hp
  have bn := lnm_bd S.2.1 (tby_ B n S.1) b3
  have badq : ∀ (e : Nat), e ≤ 5 → (e = 1 ∨ csg_ B n S.1 ≠ 1) → Rd_ B n 0 d S (.inr (er_ B n S.1 e)) → ∃ (v : Int32) (s : st_T), Wd s ∧ fn_ γ m_X12_bad 0 [.ref 185, .int (i_ (e : Int))] σ (.int v) s ∧ (v = 0 ∨ v = 1) ∧ QR_ σ B n (Rd_ B n 0 d S) (.inl (some (.int v))) s := fun e he h1 hr => by
    obtain ⟨s, f1, f2⟩ := c_rbad (γ := γ) hp (e := e) he h1 _ rfl
    exact ⟨0, s, f2.1, f1, Or.inl rfl, _, rfl, _, hr, f2⟩
  obtain ⟨bN, ebN⟩ : ∃ bN : Bool, bN = decide (csg_ B n S.1 = 14) := ⟨_, rfl⟩
  obtain ⟨bP, ebP⟩ : ∃ bP : Bool, bP = decide (csg_ B n S.1 = 19) := ⟨_, rfl⟩
  rw [← ebN] at tN
  rw [← ebP] at tP
  -- from 112 on
  have g112 : U0_ B n S → ∀ l4 : Int, (csg_ B n S.1 = 3 → l4 = lnm_ S.2.1 (tby_ B n S.1)) → vv_ γ m_X12_readsUnit (D + 1) 112 [(0, .ref 185), (1, .int (i_ (d : Int))), (2, .int (if bN = true then (1 : Int32) else 0)), (3, .int (if bP = true then (1 : Int32) else 0)), (4, .int (i_ l4))] [] σ (QR_ σ B n (Rd_ B n 0 d S)) := by
    intro hU0 l4 hl4
    refine g_X12_readsUnit_112 (by omega) w ?_
    unfold p_X12_readsUnit_112
    have n1 : csg_ B n S.1 ≠ 1 := fun e => hU0.1 (by rw [e]; decide)
    have n0 : csg_ B n S.1 ≠ 0 := fun e => hU0.1 (by rw [e]; decide)
    have nc : csg_ B n S.1 = 14 ∨ csg_ B n S.1 = 19 ∨ csg_ B n S.1 = 4 ∨ csg_ B n S.1 = 3 := by
      have := hU0.1
      omega
    rw [show (4 : Int32) < i_ (d : Int) ↔ (4 : Int) < (d : Int) by rw [show (4 : Int32) = i_ 4 by decide, i_lt (by omega) (by omega)], h22]
    refine ⟨fun y => badq 5 (by decide) (Or.inr n1) (Rd_0m hU0 (Or.inl (by omega))), fun y => ⟨fun y2 => ?_, fun y2 => ?_⟩⟩
    · rw [k16_, i_eq (by omega) (by omega)] at y2
      exact badq 5 (by decide) (Or.inr n1) (Rd_0m hU0 (Or.inr (by omega)))
    · rw [k16_, i_eq (by omega) (by omega)] at y2
      have u16 := hUn.2
      have c4 : ¬ (4 < d ∨ 16 ≤ S.2.2) := by omega
      have hd4 : d ≤ 4 := by omega
      obtain ⟨s1, es1⟩ : ∃ s1, s1 = pt_I σ 185 22 (i_ ((S.2.2 + 1 : Nat) : Int)) := ⟨_, rfl⟩
      have r1 : ro_ dV_ σ s1 := by rw [es1]; exact ro_I ro_rf dV_22
      have h1 : Rpc_ s1 B n (S.1, S.2.1, S.2.2 + 1) := by
        have o : ∀ a k, ¬ (a = 185 ∧ k = 22) → st_I s1 a k = st_I σ a k := fun a k z => by rw [es1, st_pI, if_neg z]
        refine ⟨by rw [es1]; exact ptk_ro (D := fun a k => a = 185 ∧ k = 22) (ro_I ro_rf ⟨rfl, rfl⟩) (fun a k y z => by omega) hp, hB, hNm, nrow_cg (fun k => o _ _ (by omega)) hR, fun l zl => ⟨(o _ _ (by omega)).trans (hDn l zl).1, fun k x hx => (o _ _ (by omega)).trans ((hDn l zl).2 k x hx)⟩, ⟨by have := hUn.1; show S.2.1.2.2.length ≤ 2 * (S.2.2 + 1); omega, by show S.2.2 + 1 ≤ 16; omega⟩, (o _ _ (by omega)).trans h21, fun k x hx => (o _ _ (by omega)).trans (h195 k x hx), by rw [es1]; exact st_sI _ _ _ _⟩
      have w1 : Wd s1 := h1.1.1
      -- from 163 on
      have g163 : ∀ (l5 : Int), (csg_ B n S.1 = 4 → l5 = tnu_ B n S.1) → vv_ γ m_X12_readsUnit (D + 1) 163 [(0, .ref 185), (1, .int (i_ (d : Int))), (2, .int (if bN = true then (1 : Int32) else 0)), (3, .int (if bP = true then (1 : Int32) else 0)), (4, .int (i_ l4)), (5, .int (i_ l5)), (6, .int (if csg_ B n S.1 = 4 then (1 : Int32) else 0))] [] s1 (QR_ σ B n (Rd_ B n 0 d S)) := by
        intro l5 hl5
        refine g_X12_readsUnit_163 (by omega) w1 ?_
        unfold p_X12_readsUnit_163
        obtain ⟨s2, a1, a2, a3, a4⟩ := c_rgo2 (γ := γ) h1.1 n0
        have h2 : Rpc_ s2 B n (S.1 + 1, S.2.1, S.2.2 + 1) := ⟨a4, dft_F a3 h1.2⟩
        have r2 : ro_ dV_ σ s2 := ro_tr r1 (ro_up a3 (fun a k => dF_V))
        have hUn1 := hUn.1
        have e188 : st_I s2 188 1 = i_ (pT_ S.2.1.1 : Int) := h2.2.2.2.1.2.1
        refine ⟨s2, a2, a1, ?_⟩
        rcases nc with c | c | c | c
        · -- not
          have eb1 : bN = true := by rw [ebN]; exact decide_eq_true c
          rw [eb1]
          refine ⟨fun y => absurd y (by decide), fun _ => ?_⟩
          obtain ⟨v, s3, rr, f1, f2, f3⟩ := hU hd4 (S.1 + 1, S.2.1, S.2.2 + 1) s2 h2 W
          rw [show (1 : Int32) = i_ 1 by decide, i_add]
          rcases f3.2.2 with ⟨rfl, S2, q1, q2⟩ | ⟨rfl, e, q1, q2⟩
          · rw [q1] at f2
            obtain ⟨p1, p2, -, p4, p5⟩ := Rd_post (by decide) f2
            have p4 : S.2.2 + 1 + 1 ≤ S2.2.2 := p4
            have p5 : S2.2.1.2.2.length + 2 * (S.2.2 + 1) + 1 ≤ S.2.1.2.2.length + 2 * S2.2.2 := p5
            obtain ⟨s4, t1, t2, t3, t4⟩ := c_rtells (γ := γ) q2 (u := -1) (x := -3) (by omega) (by
              unfold tru_
              rw [if_pos rfl])
            exact ⟨1, s3, f3.1, f1, fun y => absurd y (by decide), fun _ => ⟨s4, t2, t1, _, rfl, _, Rd_0n hU0 c4 c f2, t2, ro_tr (ro_tr r2 f3.2.1) t3, Or.inl ⟨rfl, _, rfl, t4⟩⟩⟩
          · rw [q1] at f2 f3
            exact ⟨0, s3, f3.1, f1, fun _ => ⟨_, rfl, _, Rd_0ne hU0 c4 c f2, rpo_tr r2 f3⟩, fun y => absurd rfl y⟩
        · -- parentheses
          have eb1 : bN = false := by rw [ebN]; exact decide_eq_false (by omega)
          have eb2 : bP = true := by rw [ebP]; exact decide_eq_true c
          rw [eb1, eb2]
          refine ⟨fun _ => ⟨fun y => absurd y (by decide), fun _ => ?_⟩, fun y => absurd rfl y⟩
          obtain ⟨v, s3, rr, f1, f2, f3⟩ := hC hd4 (S.1 + 1, S.2.1, S.2.2 + 1) s2 h2 W
          rw [show (1 : Int32) = i_ 1 by decide, i_add]
          rcases f3.2.2 with ⟨rfl, S2, q1, q2⟩ | ⟨rfl, e, q1, q2⟩
          · rw [q1] at f2
            have cp := c_risSym (γ := γ) q2.1 (c := 20) (x := 41) (by decide) (by decide) sg_sym.2.2.2.2.2
            refine ⟨1, s3, f3.1, f1, fun y => absurd y (by decide), fun _ => ⟨_, s3, f3.1, cp, ?_⟩⟩
            by_cases c20 : csg_ B n S2.1 = 20
            · rw [decide_eq_true c20]
              obtain ⟨s4, b1, b2, b3, b4⟩ := c_rgo2 (γ := γ) q2.1 (by rw [c20]; decide)
              refine ⟨fun y => absurd y (by decide), fun _ => ⟨s4, b2, b1, _, rfl, _, Rd_0p hU0 c4 c f2, b2, ro_tr (ro_tr r2 f3.2.1) (ro_up b3 (fun a k => dF_V)), Or.inl ⟨rfl, (S2.1 + 1, S2.2), ?_, b4, dft_F b3 q2.2⟩⟩⟩
              unfold xp_
              rw [if_pos c20]
            · rw [decide_eq_false c20]
              obtain ⟨s4, b1, b2⟩ := c_rbad (γ := γ) q2.1 (e := 1) (by decide) (Or.inl rfl) (xp_ B n 20 S2) (by unfold xp_; rw [if_neg c20])
              exact ⟨fun _ => ⟨0, s4, b2.1, b1, Or.inl rfl, _, rfl, _, Rd_0p hU0 c4 c f2, rpo_tr (ro_tr r2 f3.2.1) b2⟩, fun y => absurd rfl y⟩
          · rw [q1] at f2 f3
            exact ⟨0, s3, f3.1, f1, fun _ => ⟨_, rfl, _, Rd_0pe hU0 c4 c f2, rpo_tr r2 f3⟩, fun y => absurd rfl y⟩
        · -- a register
          have eb1 : bN = false := by rw [ebN]; exact decide_eq_false (by omega)
          have eb2 : bP = false := by rw [ebP]; exact decide_eq_false (by omega)
          have l5e := hl5 c
          have tn := nv_3 (B := B) (n := n) (k := S.1) c
          have tT : tnu_ B n S.1 < pT_ S.2.1.1 := by
            by_cases y : tnu_ B n S.1 < pT_ S.2.1.1
            · exact y
            · exact absurd ⟨c, y⟩ hU0.2.1
          obtain ⟨T, hT⟩ : ∃ T : Nat, tnu_ B n S.1 = T := ⟨(tnu_ B n S.1).toNat, by omega⟩
          have rd := Rd_0c hU0 c4 (Or.inl c)
          rw [eb1, eb2, if_pos c]
          refine ⟨fun _ => ⟨fun _ => ⟨fun y => absurd y (by decide), fun _ => ?_⟩, fun y => absurd rfl y⟩, fun y => absurd rfl y⟩
          have c2 := c_risSym (γ := γ) a4 (c := 16) (x := 58) (by decide) (by decide) sg_sym.2.1
          refine ⟨_, s2, a2, c2, ?_⟩
          have ec : cmp_ B n (S.1, S.2.1, S.2.2 + 1) = (match xp_ B n 16 (S.1 + 1, S.2.1, S.2.2 + 1) with
              | .inr e => (.inr e : qs_T ⊕ Nat)
              | .inl S2 => if csg_ B n S2.1 ≠ 2 then .inr (er_ B n S2.1 1)
                else if itg_ S.2.1.1 (tnu_ B n S.1) (tnu_ B n S2.1) = true then cmt_ B n ((cb_ S.2.1.1 : Int) - 2 * (2 * tnu_ B n S.1 + tnu_ B n S2.1 + 1)).toNat (S2.1 + 1, S2.2)
                else .inr (er_ B n S2.1 4)) := by
            unfold cmp_
            rw [if_neg (show ¬ csg_ B n S.1 = 3 by omega)]
            rfl
          by_cases c16 : csg_ B n (S.1 + 1) = 16
          · rw [decide_eq_true c16]
            refine ⟨fun y => absurd y (by decide), fun _ => ?_⟩
            have ex : xp_ B n 16 (S.1 + 1, S.2.1, S.2.2 + 1) = .inl (S.1 + 1 + 1, S.2.1, S.2.2 + 1) := by
              unfold xp_
              rw [if_pos c16]
            rw [ex] at ec
            have ec : cmp_ B n (S.1, S.2.1, S.2.2 + 1) = if csg_ B n (S.1 + 1 + 1) ≠ 2 then .inr (er_ B n (S.1 + 1 + 1) 1)
                else if itg_ S.2.1.1 (tnu_ B n S.1) (tnu_ B n (S.1 + 1 + 1)) = true then cmt_ B n ((cb_ S.2.1.1 : Int) - 2 * (2 * tnu_ B n S.1 + tnu_ B n (S.1 + 1 + 1) + 1)).toNat (S.1 + 1 + 1 + 1, S.2.1, S.2.2 + 1)
                else .inr (er_ B n (S.1 + 1 + 1) 4) := ec
            obtain ⟨s3, b1, b2, b3, b4⟩ := c_rgo2 (γ := γ) a4 (by rw [c16]; decide)
            have b4 : Ptk_ s3 B n (S.1 + 1 + 1) := b4
            have h3 : Dft_ s3 S.2.1 (S.2.2 + 1) := dft_F b3 h2.2
            have r3 := ro_tr r2 (ro_up b3 (fun a k => dF_V))
            obtain ⟨-, -, k3, -, k5⟩ := pt_g b4
            have d21 := csg_21 (B := B) (n := n) (k := S.1 + 1 + 1)
            have sd := (sso_2 d21).2.1
            have sr2 := sso_rg (csg_ B n (S.1 + 1 + 1))
            refine ⟨s3, b2, b1, ?_⟩
            rw [k3, k3_, i_eq (by omega) (by omega)]
            refine ⟨fun y => ?_, fun y => ?_⟩
            · have d2 := sd.mp y
              have rn := tnu2 d2
              obtain ⟨R, hRg⟩ : ∃ R : Nat, tnu_ B n (S.1 + 1 + 1) = R := ⟨(tnu_ B n (S.1 + 1 + 1)).toNat, by omega⟩
              rw [if_neg (fun z => z d2)] at ec
              rw [l5e, hT]
              have it := c_ritg (γ := γ) (t := T) (r := tnu_ B n (S.1 + 1 + 1)) b2 hB h3.2.2.1 (by omega) rn
              rw [hT] at ec
              rw [k5 d2]
              refine ⟨_, s3, b2, it, ?_⟩
              cases eI : itg_ S.2.1.1 (T : Int) (tnu_ B n (S.1 + 1 + 1)) with
              | false =>
                rw [if_neg (by rw [eI]; decide)] at ec
                obtain ⟨s4, e1, e2⟩ := c_rbad (γ := γ) b4 (e := 4) (by decide) (Or.inr (by rw [d2]; decide)) _ ec
                exact ⟨fun _ => ⟨0, s4, e2.1, e1, Or.inl rfl, _, rfl, _, rd, rpo_tr r3 e2⟩, fun y => absurd rfl y⟩
              | true =>
                rw [if_pos eI] at ec
                obtain ⟨s4, e1, e2, e3, e4⟩ := c_rgo2 (γ := γ) b4 (by rw [d2]; decide)
                obtain ⟨s', hs'⟩ : ∃ s' : Nat, s' + (2 * T + R) + 1 = 2 * pT_ S.2.1.1 + pL_ S.2.1.1 := ⟨2 * pT_ S.2.1.1 + pL_ S.2.1.1 - (2 * T + R + 1), by omega⟩
                have e5 : ((cb_ S.2.1.1 : Int) - 2 * (2 * (T : Int) + tnu_ B n (S.1 + 1 + 1) + 1)).toNat = 2 * s' := by
                  have : cb_ S.2.1.1 = 2 * (2 * pT_ S.2.1.1 + pL_ S.2.1.1) := rfl
                  rw [hRg]
                  omega
                rw [e5] at ec
                obtain ⟨v, s5, m1, m2⟩ := c_rcmpr (γ := γ) (σ := s4) (S := (S.1 + 1 + 1 + 1, S.2.1, S.2.2 + 1)) ⟨e4, dft_F e3 h3⟩ (by show S.2.1.2.2.length + 1 ≤ 2 * (S.2.2 + 1); omega) hs'
                rw [← ec] at m2
                refine ⟨fun y => absurd y (by decide), fun _ => ⟨s4, e2, e1, ?_⟩⟩
                rw [k5 d2, hRg, k2_, i_mul, i_add, show (2 : Int) * (T : Int) + (R : Int) = ((2 * T + R : Nat) : Int) by omega]
                rcases m2.2.2 with ⟨rfl, -⟩ | ⟨rfl, -⟩
                · exact ⟨1, s5, m2.1, m1, Or.inr rfl, _, rfl, _, rd, rpo_tr (ro_tr r3 (ro_up e3 (fun a k => dF_V))) m2⟩
                · exact ⟨0, s5, m2.1, m1, Or.inl rfl, _, rfl, _, rd, rpo_tr (ro_tr r3 (ro_up e3 (fun a k => dF_V))) m2⟩
            · rw [if_pos (fun z => y (sd.mpr z))] at ec
              obtain ⟨s4, e1, e2⟩ := c_rbad (γ := γ) b4 (e := 1) (by decide) (Or.inl rfl) _ ec
              exact ⟨0, s4, e2.1, e1, Or.inl rfl, _, rfl, _, rd, rpo_tr r3 e2⟩
          · rw [decide_eq_false c16]
            have ex : xp_ B n 16 (S.1 + 1, S.2.1, S.2.2 + 1) = .inr (er_ B n (S.1 + 1) 1) := by
              unfold xp_
              rw [if_neg c16]
            rw [ex] at ec
            obtain ⟨s4, e1, e2⟩ := c_rbad (γ := γ) a4 (e := 1) (by decide) (Or.inl rfl) _ ec
            exact ⟨fun _ => ⟨0, s4, e2.1, e1, Or.inl rfl, _, rfl, _, rd, rpo_tr r2 e2⟩, fun y => absurd rfl y⟩
        · -- a location
          have eb1 : bN = false := by rw [ebN]; exact decide_eq_false (by omega)
          have eb2 : bP = false := by rw [ebP]; exact decide_eq_false (by omega)
          have cl : lnm_ S.2.1 (tby_ B n S.1) ≠ -1 := fun e => hU0.2.2 ⟨c, e⟩
          have lr := lnm_rng cl
          obtain ⟨L, hL⟩ : ∃ L : Nat, lnm_ S.2.1 (tby_ B n S.1) = L := ⟨(lnm_ S.2.1 (tby_ B n S.1)).toNat, by omega⟩
          have rd := Rd_0c hU0 c4 (Or.inr c)
          rw [eb1, eb2, if_neg (show ¬ csg_ B n S.1 = 4 by omega)]
          refine ⟨fun _ => ⟨fun _ => ⟨fun _ => ?_, fun y => absurd rfl y⟩, fun y => absurd rfl y⟩, fun y => absurd rfl y⟩
          obtain ⟨s', hs'⟩ : ∃ s' : Nat, s' + (2 * pT_ S.2.1.1 + L) + 1 = 2 * pT_ S.2.1.1 + pL_ S.2.1.1 := ⟨pL_ S.2.1.1 - 1 - L, by omega⟩
          obtain ⟨v, s5, m1, m2⟩ := c_rcmpr (γ := γ) (σ := s2) (S := (S.1 + 1, S.2.1, S.2.2 + 1)) h2 (by show S.2.1.2.2.length + 1 ≤ 2 * (S.2.2 + 1); omega) hs'
          have ec : cmp_ B n (S.1, S.2.1, S.2.2 + 1) = cmt_ B n (2 * s') (S.1 + 1, S.2.1, S.2.2 + 1) := by
            unfold cmp_
            rw [if_pos c]
            show cmt_ B n (2 * ((pL_ S.2.1.1 : Int) - 1 - lnm_ S.2.1 (tby_ B n S.1))).toNat _ = _
            rw [hL, show (2 * ((pL_ S.2.1.1 : Int) - 1 - (L : Int))).toNat = 2 * s' by omega]
          rw [← ec] at m2
          rw [hl4 c, hL, e188, k2_, i_mul, i_add, show (2 : Int) * (pT_ S.2.1.1 : Int) + (L : Int) = ((2 * pT_ S.2.1.1 + L : Nat) : Int) by omega]
          rcases m2.2.2 with ⟨rfl, -⟩ | ⟨rfl, -⟩
          · exact ⟨1, s5, m2.1, m1, Or.inr rfl, _, rfl, _, rd, rpo_tr r2 m2⟩
          · exact ⟨0, s5, m2.1, m1, Or.inl rfl, _, rfl, _, rd, rpo_tr r2 m2⟩
      have q163 : ∀ v : Int32, (csg_ B n S.1 = 4 → v = i_ (tnu_ B n S.1)) → vv_ γ m_X12_readsUnit (D + 1) 163 [(0, .ref 185), (1, .int (i_ (d : Int))), (2, .int (if bN = true then (1 : Int32) else 0)), (3, .int (if bP = true then (1 : Int32) else 0)), (4, .int (i_ l4)), (5, .int v), (6, .int (if csg_ B n S.1 = 4 then (1 : Int32) else 0))] [] s1 (QR_ σ B n (Rd_ B n 0 d S)) := fun v hv => by
        have y := g163 v.toInt (fun c => by
          rw [hv c]
          have := nv_3 (B := B) (n := n) (k := S.1) c
          exact i_to (by omega) (by omega))
        rw [show i_ v.toInt = v from Int32.ofInt_toInt v] at y
        exact y
      rw [g3, show (4 : Int32) = i_ 4 by decide, i_eq (by omega) (by omega), k1_, i_add, show (S.2.2 : Int) + 1 = ((S.2.2 + 1 : Nat) : Int) by omega, ← es1]
      refine ⟨fun y => ?_, fun y => ?_⟩
      · have q := q163 (st_I σ 185 15) g4
        rw [if_pos (so.2.2.1.mp y)] at q
        exact q
      · have q := q163 (st_I σ 185 15) g4
        rw [if_neg (fun z => y (so.2.2.1.mpr z))] at q
        exact q
  -- from 70 on
  have g70 : ¬ (csg_ B n S.1 ≠ 14 ∧ csg_ B n S.1 ≠ 19 ∧ csg_ B n S.1 ≠ 4 ∧ csg_ B n S.1 ≠ 3) → ¬ (csg_ B n S.1 = 4 ∧ ¬ tnu_ B n S.1 < pT_ S.2.1.1) → vv_ γ m_X12_readsUnit (D + 1) 70 [(0, .ref 185), (1, .int (i_ (d : Int))), (2, .int (if bN = true then (1 : Int32) else 0)), (3, .int (if bP = true then (1 : Int32) else 0))] [] σ (QR_ σ B n (Rd_ B n 0 d S)) := by
    intro u1 u2
    refine g_X12_readsUnit_70 (by omega) w ?_
    unfold p_X12_readsUnit_70
    refine ⟨_, σ, w, nm, ?_⟩
    by_cases c3 : csg_ B n S.1 = 3
    · rw [decide_eq_true c3]
      refine ⟨fun y => absurd y (by decide), fun _ => ?_⟩
      obtain ⟨t1, t2, t3, t4, t5, -⟩ := tok_let (Or.inl c3)
      have tb := tby_te t1
      have te := te_le (B := B) (n := n) (k := S.1)
      have nn := c_rnamed (γ := γ) (P := S.2.1) (q := tq_ B n S.1) (u := te_ B n S.1 - tq_ B n S.1) w hp.2.1 ⟨hNm, b3, hR.2.2.1, hDn⟩ (by omega)
      rw [← tb] at nn
      have e12 : (st_I σ 185 12) - (st_I σ 185 13) = i_ ((te_ B n S.1 - tq_ B n S.1 : Nat) : Int) := by
        rw [g1, g2, i_sub]
        exact congrArg i_ (by omega)
      rw [e12, g2]
      refine ⟨_, σ, w, nn, ?_⟩
      rw [show (-1 : Int32) = i_ (-1) by decide, i_eq (by omega) (by omega)]
      exact ⟨fun y => badq 4 (by decide) (Or.inr (by rw [c3]; decide)) (Rd_0l ⟨c3, y⟩), fun y => g112 ⟨u1, u2, fun z => y z.2⟩ _ (fun _ => rfl)⟩
    · rw [decide_eq_false c3]
      exact ⟨fun _ => g112 ⟨u1, u2, fun z => c3 z.1⟩ 0 (fun z => absurd z c3), fun y => absurd rfl y⟩
  have g43 : ¬ (csg_ B n S.1 ≠ 14 ∧ csg_ B n S.1 ≠ 19 ∧ csg_ B n S.1 ≠ 4 ∧ csg_ B n S.1 ≠ 3) → vv_ γ m_X12_readsUnit (D + 1) 43 [(0, .ref 185), (1, .int (i_ (d : Int))), (2, .int (if bN = true then (1 : Int32) else 0)), (3, .int (if bP = true then (1 : Int32) else 0))] [] σ (QR_ σ B n (Rd_ B n 0 d S)) := by
    intro u1
    refine g_X12_readsUnit_43 (by omega) w ?_
    unfold p_X12_readsUnit_43
    rw [g3, show (4 : Int32) = i_ 4 by decide, i_eq (by omega) (by omega)]
    refine ⟨fun y => ?_, fun y => g70 u1 (fun z => y (so.2.2.1.mpr z.1))⟩
    have c := so.2.2.1.mp y
    have tn := nv_3 (B := B) (n := n) (k := S.1) c
    rw [g4 c, hR.2.1, i_lt (by omega) (by omega)]
    exact ⟨fun y2 => g70 u1 (fun z => z.2 y2), fun y2 => badq 2 (by decide) (Or.inr (by rw [c]; decide)) (Rd_0t ⟨c, y2⟩)⟩
  refine qr_of (e_X12_readsUnit (by omega) w ?_)
  unfold p_X12_readsUnit_0
  refine ⟨_, σ, w, tN, _, σ, w, tP, ?_⟩
  rw [g3, show (4 : Int32) = i_ 4 by decide, i_eq (by omega) (by omega)]
  refine ⟨fun y => ⟨fun y2 => ⟨fun y3 => g43 (fun z => z.2.2.1 (so.2.2.1.mp y3)), fun y3 => ⟨_, σ, w, nm, ?_⟩⟩, fun y2 => ?_⟩, fun y => ?_⟩
  · by_cases c3 : csg_ B n S.1 = 3
    · rw [decide_eq_true c3]
      exact ⟨fun z => absurd z (by decide), fun _ => g43 (fun z => z.2.2.2 c3)⟩
    · rw [decide_eq_false c3]
      refine ⟨fun _ => badq 1 (by decide) (Or.inl rfl) (Rd_0s ⟨fun z => ?_, fun z => ?_, fun z => y3 (so.2.2.1.mpr z), c3⟩), fun z => absurd rfl z⟩
      · rw [ebN, decide_eq_true z] at y
        exact absurd y (by decide)
      · rw [ebP, decide_eq_true z] at y2
        exact absurd y2 (by decide)
  · refine g43 (fun z => y2 ?_)
    rw [ebP, decide_eq_false z.2.1]
    rfl
  · refine g43 (fun z => y ?_)
    rw [ebN, decide_eq_false z.1]
    rfl
theorem c_runits : ∀ (j d D : Nat), j + d = 5 → 41 + 3 * j ≤ D → RUC_ γ B n d (D + 1) := by
  intro j
  induction j with
  | zero =>
    intro d D hj hD
    exact c_runit (by omega) (by omega) (fun z => by omega) (fun z => by omega)
  | succ j ih =>
    intro d D hj hD
    have u := fun D' h => ih (d + 1) D' (by omega) h
    refine c_runit (by omega) (by omega) (fun _ => ?_) (fun _ => ?_)
    · obtain ⟨D', rfl⟩ : ∃ D', D = D' + 1 := ⟨D - 1, by omega⟩
      exact u D' (by omega)
    · obtain ⟨D', rfl⟩ : ∃ D', D = D' + 3 := ⟨D - 3, by omega⟩
      exact c_rcond (D := D' + 2) (by omega) (c_rboth (D := D' + 1) (by omega) (u D' (by omega)))
theorem c_rcond0 : RCC_ γ B n 0 60 := c_rcond (D := 59) (by decide) (c_rboth (D := 58) (by decide) (c_runits 5 0 57 rfl (by decide)))
end UN
