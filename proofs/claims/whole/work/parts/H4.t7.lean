/-! what is laid, and the program: the same outcomes (T7) -/
section T7
variable {p : pr_T} {G m t w c : Nat} {z : Int} {S S' S2 S2' S0 S0' : gs_T} {F : Nat → Bool}
theorem fl_at (zP : Wp_ p) (hz : Zk_ p z) {i : Nat} (hi : i < pN_ p) (e : (i : Int) = z) : fl_n p G i = 0 := by
  by_cases c : fl_n p G i = 0
  · exact c
  · have := (gb_in zP (by omega) (fl_gb c)).2.2.1
    exact absurd (hz i hi e) this
theorem sm_pos (h : Sm_ p G z S S') (t : Nat) : gB0_ p t + sP_ S t ≤ gB0_ p (t + 1) := by
  have y := h.1.2.1 t
  have y : sP_ S t ≤ gB0_ p (t + 1) - gB0_ p t := y
  have := gB_m (p := p) t
  omega
/-- what is left out is gone through -/
theorem sm_z (zP : Wp_ p) (hz : Zk_ p z) (hF : ∀ i, i < pN_ p → F i = Fl_z p G z i) (h : Sm_ p G z S S') (q1 : t < 4) (hi : gB0_ p t + sP_ S t < gB0_ p (t + 1)) (e : ((gB0_ p t + sP_ S t : Nat) : Int) = z) :
    ∃ S1, gt_ (gcl_ p m F) S t 0 = some S1 ∧ Sm_ p G z S1 S' ∧ sP_ S1 = un_ (sP_ S) t (sP_ S t + 1) ∧ sW_ S1 = sW_ S ∧ S1 = gxb_ (gcl_ p m F) S t (gB0_ p t + sP_ S t) := by
  have gN := gB_le (p := p) (t + 1)
  have iN : gB0_ p t + sP_ S t < pN_ p := by omega
  have k3 := hz _ iN e
  have f0 := fl_at (G := G) zP hz iN e
  have hT : t < pT_ p := by
    by_cases c : t < pT_ p
    · exact c
    · have e1 := gB_T zP (show pT_ p ≤ t by omega)
      omega
  have fF : F (gB0_ p t + sP_ S t) = false := by
    rw [hF _ iN]
    unfold Fl_z
    rw [decide_eq_false_iff_not]
    omega
  have gx : gx_ (gcl_ p m F) S t = some (gxb_ (gcl_ p m F) S t (gB0_ p t + sP_ S t)) := gx_b (by rw [gl_c]; omega) (fun y => by
    have y1 : F (gB0_ p t + sP_ S t) = true := y.1
    rw [fF] at y1
    cases y1)
  have eb : gxb_ (gcl_ p m F) S t (gB0_ p t + sP_ S t) = (un_ (sP_ S) t (sP_ S t + 1), sR_ S, sM_ S, sW_ S) := by
    have d1 : gC_ (gcl_ p m F) (gB0_ p t + sP_ S t) 1 = 3 := k3
    unfold gxb_
    rw [d1, if_neg (by decide), if_neg (by decide), if_neg (by decide)]
  obtain ⟨v, hR, hM, hW, hp⟩ := id h
  refine ⟨_, gx, ⟨vg_x zP v hT gx, ?_, ?_, ?_, fun u hu => ?_⟩, ?_, ?_, rfl⟩
  · rw [eb]
    exact hR
  · rw [eb]
    exact hM
  · rw [eb]
    exact hW
  · rw [eb]
    show sP_ S' u + Ln_ p G z (gB0_ p u) = Ln_ p G z (gB0_ p u + un_ (sP_ S) t (sP_ S t + 1) u) ∨ (fl_n p G (gB0_ p u + un_ (sP_ S) t (sP_ S t + 1) u) ≠ 0 ∧ gB0_ p u + un_ (sP_ S) t (sP_ S t + 1) u < gB0_ p (u + 1) ∧ sP_ S' u + Ln_ p G z (gB0_ p u) = Ln_ p G z (gB0_ p u + un_ (sP_ S) t (sP_ S t + 1) u) + 1 ∧ drn_ p S u)
    by_cases c : u = t
    · subst c
      rw [show un_ (sP_ S) u (sP_ S u + 1) u = sP_ S u + 1 from if_pos rfl, ← Nat.add_assoc]
      have ls := Ln_s p G z (gB0_ p u + sP_ S u)
      rw [if_pos e, f0] at ls
      rcases hp u hu with y | ⟨y, -⟩
      · exact Or.inl (by omega)
      · exact absurd f0 y
    · rw [show un_ (sP_ S) t (sP_ S t + 1) u = sP_ S u from if_neg c]
      exact hp u hu
  · rw [eb]
    rfl
  · rw [eb]
    rfl
theorem sm_nz (zP : Wp_ p) (hz : Zk_ p z) (hF : ∀ i, i < pN_ p → F i = Fl_z p G z i) (h : Sm_ p G z S S') :
    ∃ S1, (Rc_ (gcl_ p m F) S0 S → Rc_ (gcl_ p m F) S0 S1) ∧ Sm_ p G z S1 S' ∧ ∀ t, t < 4 → gB0_ p t + sP_ S1 t = gB0_ p (t + 1) ∨ ((gB0_ p t + sP_ S1 t : Nat) : Int) ≠ z := by
  by_cases c : ∃ t, t < 4 ∧ gB0_ p t + sP_ S t < gB0_ p (t + 1) ∧ ((gB0_ p t + sP_ S t : Nat) : Int) = z
  · obtain ⟨t, c1, c2, c3⟩ := c
    obtain ⟨S1, e1, e2, e3, -, -⟩ := sm_z (m := m) zP hz hF h c1 c2 c3
    refine ⟨S1, fun r => rc_s r c1 (by decide) e1, e2, fun u hu => ?_⟩
    rw [e3]
    by_cases c : u = t
    · subst c
      rw [show un_ (sP_ S) u (sP_ S u + 1) u = sP_ S u + 1 from if_pos rfl]
      exact Or.inr (by omega)
    · rw [show un_ (sP_ S) t (sP_ S t + 1) u = sP_ S u from if_neg c]
      by_cases c4 : ((gB0_ p u + sP_ S u : Nat) : Int) = z
      · have hu2 := sm_pos h u
        by_cases c5 : gB0_ p u + sP_ S u = gB0_ p (u + 1)
        · exact Or.inl c5
        · exact absurd (gB_un (p := p) (t := t) (u := u) (i := gB0_ p u + sP_ S u) (by omega) (by omega) (by omega) (by omega)) (fun y => c y.symm)
      · exact Or.inr c4
  · refine ⟨S, fun r => r, h, fun t ht => ?_⟩
    have hu2 := sm_pos h t
    by_cases c5 : gB0_ p t + sP_ S t = gB0_ p (t + 1)
    · exact Or.inl c5
    · exact Or.inr (fun y => c ⟨t, ht, by omega, y⟩)
theorem Fl_2 {i : Nat} (hzi : (i : Int) ≠ z) (f0 : fl_n p G i = 0) : Fl_z p G z i = decide (2 ≤ pC_ p i 1) := by
  unfold Fl_z
  exact decide_eq_decide.mpr ⟨fun y => (y.resolve_left (fun y => y f0)).1, fun y => Or.inr ⟨y, hzi⟩⟩
/-- a laid fence is gone through -/
theorem sm_f (h : Sm_ p G z S S') (q1 : t < 4) (hi : gB0_ p t + sP_ S t < gB0_ p (t + 1)) (f1 : fl_n p G (gB0_ p t + sP_ S t) ≠ 0) (hp : sP_ S' t + Ln_ p G z (gB0_ p t) = Ln_ p G z (gB0_ p t + sP_ S t)) (hd : drn_ p S t) :
    Sm_ p G z S (gxb_ (gly_ p G z m) S' t (Ln_ p G z (gB0_ p t + sP_ S t))) ∧ gxb_ (gly_ p G z m) S' t (Ln_ p G z (gB0_ p t + sP_ S t)) = (un_ (sP_ S') t (sP_ S' t + 1), sR_ S', sM_ S', sW_ S') := by
  have gN := gB_le (p := p) (t + 1)
  have c3 := lay_C3 (G := G) (z := z) (m := m) (i := gB0_ p t + sP_ S t) (by omega) f1
  have eb : gxb_ (gly_ p G z m) S' t (Ln_ p G z (gB0_ p t + sP_ S t)) = (un_ (sP_ S') t (sP_ S' t + 1), sR_ S', sM_ S', sW_ S') := by
    unfold gxb_
    rw [c3, if_neg (by decide), if_neg (by decide), if_neg (by decide)]
  refine ⟨?_, eb⟩
  rw [eb]
  obtain ⟨v, hR, hM, hW, hp2⟩ := id h
  refine ⟨v, hR, hM, hW, fun u hu => ?_⟩
  show un_ (sP_ S') t (sP_ S' t + 1) u + Ln_ p G z (gB0_ p u) = _ ∨ (_ ∧ _ ∧ un_ (sP_ S') t (sP_ S' t + 1) u + Ln_ p G z (gB0_ p u) = _ ∧ _)
  by_cases c : u = t
  · subst c
    rw [show un_ (sP_ S') u (sP_ S' u + 1) u = sP_ S' u + 1 from if_pos rfl]
    exact Or.inr ⟨f1, hi, by omega, hd⟩
  · rw [show un_ (sP_ S') t (sP_ S' t + 1) u = sP_ S' u from if_neg c]
    exact hp2 u hu
theorem map_none {α β : Type} {f : α → β} {o : Option α} : o.map f = none ↔ o = none := by
  cases o with
  | none => exact ⟨fun _ => rfl, fun _ => rfl⟩
  | some x =>
    constructor
    · intro y
      cases y
    · intro y
      cases y
/-- a step of what is laid -/
theorem sm_fw (zP : Wp_ p) (hz : Zk_ p z) (hF : ∀ i, i < pN_ p → F i = Fl_z p G z i) (h : Sm_ p G z S S') (q1 : t < 4) (q2 : w < 4) (e : gt_ (gly_ p G z m) S' t w = some S2') :
    ∃ S2, (Rc_ (gcl_ p m F) S0 S → Rc_ (gcl_ p m F) S0 S2) ∧ Sm_ p G z S2 S2' := by
  by_cases w0 : w = 0
  · subst w0
    obtain ⟨S1, r1, h1, h2⟩ := sm_nz (m := m) (S0 := S0) zP hz hF h
    have e : gx_ (gly_ p G z m) S' t = some S2' := e
    obtain ⟨z1, z2⟩ := gx_eq (by rw [e]; exact fun y => by cases y)
    have eb := gx_b z1 z2
    rw [e] at eb
    have eb := Option.some.inj eb
    rw [lay_l] at z1
    rw [lay_B] at z2 eb
    have hp := h1.2.2.2.2 t q1
    have hu := sm_pos h1 t
    obtain ⟨i, ei⟩ : ∃ i, i = gB0_ p t + sP_ S1 t := ⟨_, rfl⟩
    have hi : i < gB0_ p (t + 1) := by
      by_cases c : i = gB0_ p (t + 1)
      · exfalso
        rw [← ei, c] at hp
        rcases hp with hp | ⟨-, hp, -⟩ <;> omega
      · omega
    have hzi : (i : Int) ≠ z := by
      rcases h2 t q1 with y | y
      · omega
      · rw [ei]
        exact y
    have gN := gB_le (p := p) (t + 1)
    have iN : i < pN_ p := by omega
    have ga := sm_ga (m := m) (F := F) hz h1 t
    rw [← ei] at hp
    rcases hp with hp | ⟨f1, -, hp, hd⟩
    · by_cases f0 : fl_n p G i = 0
      · have el : la_ p G z i = Ln_ p G z (gB0_ p t) + sP_ S' t := by
          unfold la_
          omega
        rw [← el] at z2 eb
        have gx : gx_ (gcl_ p m F) S1 t = some (gxb_ (gcl_ p m F) S1 t i) := by
          rw [ei]
          refine gx_b (by rw [gl_c]; omega) (fun y => z2 ⟨?_, ?_⟩)
          · rw [lay_K, lay_C iN hzi, ← Fl_2 hzi f0, ← hF i iN, ei]
            exact y.1
          · rw [ga]
            exact fun y2 => y.2 (map_none.mp y2)
        refine ⟨_, fun r => rc_s (w := 0) (r1 r) q1 (by decide) gx, ?_⟩
        rw [eb]
        exact sm_x zP hz h1 q1 ei hi hzi (by omega)
      · have el : Ln_ p G z i = Ln_ p G z (gB0_ p t) + sP_ S' t := by omega
        rw [← el] at z2 eb
        have hd : drn_ p S1 t := by
          refine (drn_ga (m := m) (F := F)).mp ?_
          refine Classical.byContradiction (fun y => z2 ⟨?_, ?_⟩)
          · rw [lay_K, lay_C3 iN f0]
            rfl
          · rw [ga]
            exact fun y2 => y (map_none.mp y2)
        refine ⟨S1, r1, ?_⟩
        rw [eb, ei]
        exact (sm_f h1 q1 (by omega) (by rw [← ei]; exact f0) (by rw [← ei]; exact hp) hd).1
    · have el : la_ p G z i = Ln_ p G z (gB0_ p t) + sP_ S' t := by
        have := fl_n1 (p := p) (G := G) (i := i)
        unfold la_
        omega
      rw [← el] at eb
      have gx : gx_ (gcl_ p m F) S1 t = some (gxb_ (gcl_ p m F) S1 t i) := by
        rw [ei]
        exact gx_b (by rw [gl_c]; omega) (fun y => y.2 (drn_ga.mpr hd))
      refine ⟨_, fun r => rc_s (w := 0) (r1 r) q1 (by decide) gx, ?_⟩
      rw [eb]
      exact sm_x zP hz h1 q1 ei hi hzi (by omega)
  · unfold gt_ at e
    rw [if_neg w0] at e
    obtain ⟨n', y1, -⟩ := gc_sum e
    rw [sm_gn (F := F) hz h] at y1
    cases en : gn_ (gcl_ p m F) S t (w - 1) with
    | none =>
      rw [en] at y1
      cases y1
    | some n =>
      obtain ⟨X, X', x1, x2, x3⟩ := sm_c zP hz h q1 en
      rw [e] at x2
      rw [Option.some.inj x2]
      refine ⟨X, fun r => rc_s r q1 q2 (show gt_ (gcl_ p m F) S t w = some X from ?_), x3⟩
      unfold gt_
      rw [if_neg w0]
      exact x1
/-- a step of the program -/
theorem sm_bw (zP : Wp_ p) (hz : Zk_ p z) (hF : ∀ i, i < pN_ p → F i = Fl_z p G z i) (h : Sm_ p G z S S') (q1 : t < 4) (q2 : w < 4) (e : gt_ (gcl_ p m F) S t w = some S2) :
    ∃ S2', (Rc_ (gly_ p G z m) S0 S' → Rc_ (gly_ p G z m) S0 S2') ∧ Sm_ p G z S2 S2' := by
  by_cases w0 : w = 0
  · subst w0
    have e : gx_ (gcl_ p m F) S t = some S2 := e
    obtain ⟨z1, z2⟩ := gx_eq (by rw [e]; exact fun y => by cases y)
    have eb := gx_b z1 z2
    rw [e] at eb
    have eb := Option.some.inj eb
    rw [gl_c] at z1
    have eb : S2 = gxb_ (gcl_ p m F) S t (gB0_ p t + sP_ S t) := eb
    have z2 : ¬ (F (gB0_ p t + sP_ S t) = true ∧ ga1_ (gcl_ p m F) S t ≠ none) := z2
    have hp := h.2.2.2.2 t q1
    obtain ⟨i, ei⟩ : ∃ i, i = gB0_ p t + sP_ S t := ⟨_, rfl⟩
    have hi : i < gB0_ p (t + 1) := by omega
    have gN := gB_le (p := p) (t + 1)
    have iN : i < pN_ p := by omega
    have ga := sm_ga (m := m) (F := F) hz h t
    by_cases hzi : (i : Int) = z
    · obtain ⟨S1, -, e2, -, -, e4⟩ := sm_z (m := m) zP hz hF h q1 (by omega) (by rw [← ei]; exact hzi)
      rw [eb, ← e4]
      exact ⟨S', fun r => r, e2⟩
    · rw [← ei] at hp z2 eb
      obtain ⟨s1, s2⟩ := seg_to (p := p) (G := G) (z := z) t hzi (by omega) hi
      rw [hF i iN] at z2
      rcases hp with hp | ⟨f1, -, hp, hd⟩
      · by_cases f0 : fl_n p G i = 0
        · have el : la_ p G z i = Ln_ p G z (gB0_ p t) + sP_ S' t := by
            unfold la_
            omega
          have gx : gx_ (gly_ p G z m) S' t = some (gxb_ (gly_ p G z m) S' t (la_ p G z i)) := by
            rw [el]
            refine gx_b (by rw [lay_l]; omega) (fun y => z2 ⟨?_, ?_⟩)
            · rw [lay_B, ← el, lay_K, lay_C iN hzi] at y
              rw [Fl_2 hzi f0]
              exact y.1
            · intro y2
              refine y.2 ?_
              rw [ga, y2]
              rfl
          refine ⟨_, fun r => rc_s (w := 0) r q1 (by decide) gx, ?_⟩
          rw [eb]
          exact sm_x zP hz h q1 ei hi hzi (by omega)
        · have f9 := fl_n1 (p := p) (G := G) (i := i)
          have hd : drn_ p S t := by
            refine (drn_ga (m := m) (F := F)).mp (Classical.byContradiction (fun y => z2 ⟨?_, y⟩))
            unfold Fl_z
            exact decide_eq_true (Or.inl f0)
          obtain ⟨k1, k2⟩ := sm_f (m := m) h q1 (by omega) (by rw [← ei]; exact f0) (by rw [← ei]; exact hp) hd
          rw [← ei] at k1 k2
          have lla : la_ p G z i = Ln_ p G z i + 1 := by
            unfold la_
            omega
          have g1 : gx_ (gly_ p G z m) S' t = some (gxb_ (gly_ p G z m) S' t (Ln_ p G z i)) := by
            rw [show Ln_ p G z i = Ln_ p G z (gB0_ p t) + sP_ S' t by omega]
            refine gx_b (by rw [lay_l]; omega) (fun y => y.2 ?_)
            rw [ga, (drn_ga (m := m) (F := F)).mpr hd]
            rfl
          have eP : sP_ (gxb_ (gly_ p G z m) S' t (Ln_ p G z i)) t = sP_ S' t + 1 := by
            rw [k2]
            exact if_pos rfl
          have ga2 := sm_ga (m := m) (F := F) hz k1 t
          have g2 : gx_ (gly_ p G z m) (gxb_ (gly_ p G z m) S' t (Ln_ p G z i)) t = some (gxb_ (gly_ p G z m) (gxb_ (gly_ p G z m) S' t (Ln_ p G z i)) t (la_ p G z i)) := by
            have y := gx_b (g := gly_ p G z m) (S := gxb_ (gly_ p G z m) S' t (Ln_ p G z i)) (t := t) (by rw [lay_l, eP]; omega) (fun y => y.2 (by rw [ga2, (drn_ga (m := m) (F := F)).mpr hd]; rfl))
            rw [lay_B, eP, show Ln_ p G z (gB0_ p t) + (sP_ S' t + 1) = la_ p G z i by omega] at y
            exact y
          refine ⟨_, fun r => rc_s (w := 0) (rc_s (w := 0) r q1 (by decide) g1) q1 (by decide) g2, ?_⟩
          rw [eb]
          exact sm_x zP hz k1 q1 ei hi hzi (by rw [eP]; omega)
      · have el : la_ p G z i = Ln_ p G z (gB0_ p t) + sP_ S' t := by
          have := fl_n1 (p := p) (G := G) (i := i)
          unfold la_
          omega
        have gx : gx_ (gly_ p G z m) S' t = some (gxb_ (gly_ p G z m) S' t (la_ p G z i)) := by
          rw [el]
          refine gx_b (by rw [lay_l]; omega) (fun y => y.2 ?_)
          rw [ga, (drn_ga (m := m) (F := F)).mpr hd]
          rfl
        refine ⟨_, fun r => rc_s (w := 0) r q1 (by decide) gx, ?_⟩
        rw [eb]
        exact sm_x zP hz h q1 ei hi hzi (by omega)
  · unfold gt_ at e
    rw [if_neg w0] at e
    obtain ⟨n, y1, -⟩ := gc_sum e
    obtain ⟨X, X', x1, x2, x3⟩ := sm_c zP hz h q1 y1
    rw [e] at x1
    rw [Option.some.inj x1]
    refine ⟨X', fun r => rc_s r q1 q2 (show gt_ (gly_ p G z m) S' t w = some X' from ?_), x3⟩
    unfold gt_
    rw [if_neg w0]
    exact x2
end T7
