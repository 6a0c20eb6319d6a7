/-! what is laid, and the program: the same steps (T7) -/
section SI
variable {p : pr_T} {G m t w c : Nat} {z : Int} {S S' S2 S2' S0 : gs_T} {F : Nat → Bool}
/-- where a program's instruction waits -/
def Fl_z (p : pr_T) (G : Nat) (z : Int) (i : Nat) : Bool := decide (fl_n p G i ≠ 0 ∨ (2 ≤ pC_ p i 1 ∧ (i : Int) ≠ z))
/-- what is left out is a fence -/
def Zk_ (p : pr_T) (z : Int) : Prop := ∀ i, i < pN_ p → (i : Int) = z → pC_ p i 1 = 3
def drn_ (p : pr_T) (S : gs_T) (t : Nat) : Prop := ∀ j, gB0_ p t ≤ j → j < gB0_ p (t + 1) → sW_ S j = false
/-- the two machines' states -/
def Sm_ (p : pr_T) (G : Nat) (z : Int) (S S' : gs_T) : Prop := Vg_ p S ∧ sR_ S' = sR_ S ∧ sM_ S' = sM_ S ∧ sW_ S' = Wm_ p G z (sW_ S) ∧
  ∀ t, t < 4 → sP_ S' t + Ln_ p G z (gB0_ p t) = Ln_ p G z (gB0_ p t + sP_ S t) ∨ (fl_n p G (gB0_ p t + sP_ S t) ≠ 0 ∧ gB0_ p t + sP_ S t < gB0_ p (t + 1) ∧ sP_ S' t + Ln_ p G z (gB0_ p t) = Ln_ p G z (gB0_ p t + sP_ S t) + 1 ∧ drn_ p S t)
theorem gB_m (t : Nat) : gB0_ p t ≤ gB0_ p (t + 1) := ct_imp _ (fun i _ h => by
  rw [decide_eq_true_eq] at h ⊢
  omega)
theorem gB_mm {t u : Nat} (h : t ≤ u) : gB0_ p t ≤ gB0_ p u := by
  induction u with
  | zero =>
    have : t = 0 := by omega
    subst this
    exact Nat.le_refl _
  | succ u ih =>
    by_cases e : t = u + 1
    · subst e
      exact Nat.le_refl _
    · exact Nat.le_trans (ih (by omega)) (gB_m u)
theorem gB_un {t u i : Nat} (h1 : gB0_ p t ≤ i) (h2 : i < gB0_ p (t + 1)) (h3 : gB0_ p u ≤ i) (h4 : i < gB0_ p (u + 1)) : t = u := by
  by_cases c : t < u
  · have := gB_mm (p := p) (show t + 1 ≤ u from c)
    omega
  · by_cases c2 : u < t
    · have := gB_mm (p := p) (show u + 1 ≤ t from c2)
      omega
    · omega
theorem lay_C {i : Nat} (hi : i < pN_ p) (hz : (i : Int) ≠ z) (k : Nat) : gC_ (gly_ p G z m) (la_ p G z i) k = pC_ p i k := by
  show lc0_ p (ly_ p G z (pN_ p)) (la_ p G z i) k = pC_ p i k
  rw [lc0_at (ly_get hi hz)]
  unfold itc_
  rw [if_neg (by omega), Int.toNat_natCast]
theorem lay_C3 {i : Nat} (hi : i < pN_ p) (h : fl_n p G i ≠ 0) : gC_ (gly_ p G z m) (Ln_ p G z i) 1 = 3 := by
  show lc0_ p (ly_ p G z (pN_ p)) (Ln_ p G z i) 1 = 3
  rw [lc0_at (ly_getf hi h)]
  rfl
theorem lay_K (n : Nat) : gK_ (gly_ p G z m) n = decide (2 ≤ gC_ (gly_ p G z m) n 1) := rfl
theorem lay_l (t : Nat) : gl_ (gly_ p G z m) t = Ln_ p G z (gB0_ p (t + 1)) - Ln_ p G z (gB0_ p t) := rfl
theorem lay_B (t : Nat) : gB_ (gly_ p G z m) t = Ln_ p G z (gB0_ p t) := rfl
theorem vg_z (hz : Zk_ p z) (v : Vg_ p S) {i : Nat} (h : sW_ S i = true) : i < pN_ p ∧ (i : Int) ≠ z ∧ pC_ p i 1 = 0 := by
  obtain ⟨h1, h2⟩ := v.2.2 i h
  refine ⟨h1, fun e => ?_, h2⟩
  have := hz i h1 e
  omega
theorem sm_ga (hz : Zk_ p z) (h : Sm_ p G z S S') (t : Nat) : ga1_ (gly_ p G z m) S' t = (ga1_ (gcl_ p m F) S t).map (la_ p G z) := by
  obtain ⟨v, -, -, hW, -⟩ := h
  unfold ga1_
  rw [hW]
  exact cor1 (fun i h1 h2 => wm_at h1 h2) (fun n hn => by
    obtain ⟨i, i1, i2, i3, -⟩ := wm_inv hn
    exact ⟨i, i1, i2, i3⟩) (fun i hi => ⟨(vg_z hz v hi).1, (vg_z hz v hi).2.1⟩) (gB_m t)
theorem sm_p1 (hz : Zk_ p z) (h : Sm_ p G z S S') (l : Int) : (∀ i, i < pN_ p → (i : Int) ≠ z → (sW_ S' (la_ p G z i) && decide (gC_ (gly_ p G z m) (la_ p G z i) 2 = l)) = (sW_ S i && decide (gC_ (gcl_ p m F) i 2 = l))) ∧ (∀ n, (sW_ S' n && decide (gC_ (gly_ p G z m) n 2 = l)) = true → ∃ i, i < pN_ p ∧ (i : Int) ≠ z ∧ n = la_ p G z i) ∧ ∀ i, (sW_ S i && decide (gC_ (gcl_ p m F) i 2 = l)) = true → i < pN_ p ∧ (i : Int) ≠ z := by
  obtain ⟨v, -, -, hW, -⟩ := h
  refine ⟨fun i h1 h2 => ?_, fun n hn => ?_, fun i hi => ?_⟩
  · rw [hW, wm_at h1 h2, lay_C h1 h2]
    rfl
  · rw [Bool.and_eq_true] at hn
    obtain ⟨i, i1, i2, i3, -⟩ := wm_inv (by rw [← hW]; exact hn.1)
    exact ⟨i, i1, i2, i3⟩
  · rw [Bool.and_eq_true] at hi
    exact ⟨(vg_z hz v hi.1).1, (vg_z hz v hi.1).2.1⟩
theorem sm_gw1 (hz : Zk_ p z) (h : Sm_ p G z S S') (t : Nat) (l : Int) : gw1_ (gly_ p G z m) S' t l = (gw1_ (gcl_ p m F) S t l).map (la_ p G z) := by
  obtain ⟨a, b, c⟩ := sm_p1 (m := m) (F := F) hz h l
  exact cor1 a b c (gB_m t)
theorem sm_gw2 (hz : Zk_ p z) (h : Sm_ p G z S S') (t : Nat) (l : Int) : gw2_ (gly_ p G z m) S' t l = (gw2_ (gcl_ p m F) S t l).map (la_ p G z) := by
  obtain ⟨a, b, c⟩ := sm_p1 (m := m) (F := F) hz h l
  exact cor2 a b c (gB_m t)
theorem sm_gn (hz : Zk_ p z) (h : Sm_ p G z S S') (t l : Nat) : gn_ (gly_ p G z m) S' t l = (gn_ (gcl_ p m F) S t l).map (la_ p G z) := by
  have v := h.1
  unfold gn_
  rw [sm_gw1 (F := F) hz h, sm_ga (F := F) hz h]
  cases e : gw1_ (gcl_ p m F) S t l with
  | none => rfl
  | some n =>
    have e3 := ((f1_some _ _ _).mp e).2.2.1
    rw [Bool.and_eq_true] at e3
    have n3 := vg_z hz v e3.1
    show (if m = 1 ∧ (ga1_ (gcl_ p m F) S t).map (la_ p G z) ≠ some (la_ p G z n) then none else some (la_ p G z n)) = (if m = 1 ∧ ga1_ (gcl_ p m F) S t ≠ some n then none else some n).map (la_ p G z)
    have iff : ((ga1_ (gcl_ p m F) S t).map (la_ p G z) = some (la_ p G z n)) ↔ ga1_ (gcl_ p m F) S t = some n := by
      cases e4 : ga1_ (gcl_ p m F) S t with
      | none =>
        constructor
        · intro y
          cases y
        · intro y
          cases y
      | some j =>
        have j3 := vg_z hz v ((f1_some _ _ _).mp e4).2.2.1
        constructor
        · intro y
          rw [la_inj j3.2.1 n3.2.1 (Option.some.inj y)]
        · intro y
          rw [Option.some.inj y]
          rfl
    by_cases c : m = 1 ∧ ga1_ (gcl_ p m F) S t ≠ some n
    · rw [if_pos c, if_pos ⟨c.1, fun y => c.2 (iff.mp y)⟩]
      rfl
    · rw [if_neg c, if_neg (fun y => c ⟨y.1, fun y2 => y.2 (iff.mpr y2)⟩)]
      rfl
theorem sm_gv (h : Sm_ p G z S S') {i : Nat} (hi : i < pN_ p) (hz : (i : Int) ≠ z) : gv_ (gly_ p G z m) S' t (la_ p G z i) = gv_ (gcl_ p m F) S t i := by
  unfold gv_
  rw [lay_C hi hz, lay_C hi hz, h.2.1]
  rfl
theorem drn_ga : ga1_ (gcl_ p m F) S t = none ↔ drn_ p S t := by
  unfold ga1_
  rw [f1_none]
  have := gB_m (p := p) t
  constructor
  · intro h j j1 j2
    exact h j j1 (by show j < gB0_ p t + (gB0_ p (t + 1) - gB0_ p t); omega)
  · intro h j j1 j2
    have j2 : j < gB0_ p t + (gB0_ p (t + 1) - gB0_ p t) := j2
    exact h j j1 (by omega)
theorem gl_c (t : Nat) : gl_ (gcl_ p m F) t = gB0_ p (t + 1) - gB0_ p t := rfl
/-- an instruction is executed on both sides -/
theorem sm_x (zP : Wp_ p) (hz : Zk_ p z) (h : Sm_ p G z S S') (q1 : t < 4) {i : Nat} (ei : i = gB0_ p t + sP_ S t) (hi : i < gB0_ p (t + 1)) (hzi : (i : Int) ≠ z) (hp : sP_ S' t + Ln_ p G z (gB0_ p t) = la_ p G z i) : Sm_ p G z (gxb_ (gcl_ p m F) S t i) (gxb_ (gly_ p G z m) S' t (la_ p G z i)) := by
  have gN := gB_le (p := p) (t + 1)
  have iN : i < pN_ p := by omega
  have hT : t < pT_ p := by
    by_cases c : t < pT_ p
    · exact c
    · have e1 := gB_T zP (show pT_ p ≤ t by omega)
      omega
  have gx0 : gx_ (gcl_ p m (fun _ => false)) S t = some (gxb_ (gcl_ p m (fun _ => false)) S t (gB0_ p t + sP_ S t)) := gx_b (by rw [gl_c]; omega) (fun y => by cases y.1)
  have v2 : Vg_ p (gxb_ (gcl_ p m F) S t i) := by
    rw [ei]
    exact vg_x zP h.1 hT gx0
  have c1 := lay_C (G := G) (m := m) iN hzi 1
  have c2 := lay_C (G := G) (m := m) iN hzi 2
  have c3 := lay_C (G := G) (m := m) iN hzi 3
  have d1 : gC_ (gcl_ p m F) i 1 = pC_ p i 1 := rfl
  have d2 : gC_ (gcl_ p m F) i 2 = pC_ p i 2 := rfl
  have d3 : gC_ (gcl_ p m F) i 3 = pC_ p i 3 := rfl
  have gv := sm_gv (m := m) (t := t) (F := F) h iN hzi
  have gw := sm_gw2 (m := m) (F := F) hz h t (pC_ p i 2)
  have gm : gm_ (gly_ p G z m) = m := rfl
  have gm2 : gm_ (gcl_ p m F) = m := rfl
  obtain ⟨v, hR, hM, hW, hp2⟩ := id h
  have pos : ∀ (X X' : gs_T), sP_ X = un_ (sP_ S) t (sP_ S t + 1) → sP_ X' = un_ (sP_ S') t (sP_ S' t + 1) → (∀ j, sW_ X j = true → j = i ∨ sW_ S j = true) → ∀ u, u < 4 → sP_ X' u + Ln_ p G z (gB0_ p u) = Ln_ p G z (gB0_ p u + sP_ X u) ∨ (fl_n p G (gB0_ p u + sP_ X u) ≠ 0 ∧ gB0_ p u + sP_ X u < gB0_ p (u + 1) ∧ sP_ X' u + Ln_ p G z (gB0_ p u) = Ln_ p G z (gB0_ p u + sP_ X u) + 1 ∧ drn_ p X u) := by
    intro X X' e1 e2 e3 u hu
    rw [e1, e2]
    by_cases c : u = t
    · subst c
      have a1 : un_ (sP_ S) u (sP_ S u + 1) u = sP_ S u + 1 := if_pos rfl
      have a2 : un_ (sP_ S') u (sP_ S' u + 1) u = sP_ S' u + 1 := if_pos rfl
      have a3 : gB0_ p u + (sP_ S u + 1) = i + 1 := by omega
      rw [a1, a2, a3, la_s hzi]
      exact Or.inl (by omega)
    · have a1 : un_ (sP_ S) t (sP_ S t + 1) u = sP_ S u := if_neg c
      have a2 : un_ (sP_ S') t (sP_ S' t + 1) u = sP_ S' u := if_neg c
      rw [a1, a2]
      rcases hp2 u hu with y | ⟨y1, y2, y3, y4⟩
      · exact Or.inl y
      · refine Or.inr ⟨y1, y2, y3, fun j j1 j2 => ?_⟩
        cases e : sW_ X j with
        | false => rfl
        | true =>
          rcases e3 j e with e4 | e4
          · exact absurd (gB_un (p := p) (i := i) (by omega) hi (by omega) (by omega)) (fun y => c y.symm)
          · rw [y4 j j1 j2] at e4
            cases e4
  refine ⟨v2, ?_⟩
  clear v2 gx0
  unfold gxb_
  rw [c1, c2, c3, d1, d2, d3, gm, gm2]
  by_cases k0 : pC_ p i 1 = 0
  · rw [if_pos k0, if_pos k0]
    by_cases m0 : m = 0
    · rw [if_pos m0, if_pos m0]
      refine ⟨hR, ?_, hW, pos _ _ rfl rfl (fun j hj => Or.inr hj)⟩
      show un_ (sM_ S') _ _ = un_ (sM_ S) _ _
      rw [hM, gv]
    · rw [if_neg m0, if_neg m0]
      refine ⟨hR, hM, ?_, pos _ _ rfl rfl (fun j hj => ?_)⟩
      · show ub_ (sW_ S') (la_ p G z i) true = Wm_ p G z (ub_ (sW_ S) i true)
        rw [wm_ub iN hzi, hW]
      · have hj : (if j = i then true else sW_ S j) = true := hj
        by_cases c : j = i
        · exact Or.inl c
        · rw [if_neg c] at hj
          exact Or.inr hj
  · rw [if_neg k0, if_neg k0]
    by_cases k1 : pC_ p i 1 = 1
    · rw [if_pos k1, if_pos k1, gw]
      refine ⟨?_, hM, hW, pos _ _ rfl rfl (fun j hj => Or.inr hj)⟩
      show un_ (sR_ S') _ _ = un_ (sR_ S) _ _
      rw [hR]
      cases e : gw2_ (gcl_ p m F) S t (pC_ p i 2) with
      | none =>
        show un_ _ _ (sM_ S' _) = un_ _ _ (sM_ S _)
        rw [hM]
      | some j =>
        have e3 := ((f2_some _ _ _).mp e).2.2.1
        rw [Bool.and_eq_true] at e3
        have j3 := vg_z hz v e3.1
        show un_ _ _ (gv_ (gly_ p G z m) S' t (la_ p G z j)) = un_ _ _ (gv_ (gcl_ p m F) S t j)
        rw [sm_gv (F := F) h j3.1 j3.2.1]
    · rw [if_neg k1, if_neg k1]
      by_cases k2 : pC_ p i 1 = 2
      · rw [if_pos k2, if_pos k2]
        refine ⟨?_, ?_, hW, pos _ _ rfl rfl (fun j hj => Or.inr hj)⟩
        · show un_ (sR_ S') _ (sM_ S' _) = un_ (sR_ S) _ (sM_ S _)
          rw [hR, hM]
        · show un_ (sM_ S') _ _ = un_ (sM_ S) _ _
          rw [hM, gv]
      · rw [if_neg k2, if_neg k2]
        exact ⟨hR, hM, hW, pos _ _ rfl rfl (fun j hj => Or.inr hj)⟩
/-- a store leaves on both sides -/
theorem sm_c (zP : Wp_ p) (hz : Zk_ p z) (h : Sm_ p G z S S') (q1 : t < 4) {l n : Nat} (e : gn_ (gcl_ p m F) S t l = some n) : ∃ S2 S2', gc_ (gcl_ p m F) S t l = some S2 ∧ gc_ (gly_ p G z m) S' t l = some S2' ∧ Sm_ p G z S2 S2' := by
  have e' := sm_gn (m := m) (F := F) hz h t l
  rw [e] at e'
  obtain ⟨n1, n2, n3, n4⟩ := gn_sum e
  have j3 := vg_z hz h.1 n3
  have gv := sm_gv (m := m) (t := t) (F := F) h j3.1 j3.2.1
  have n4 : pC_ p n 2 = l := n4
  have n2 : n < gB0_ p t + (gB0_ p (t + 1) - gB0_ p t) := n2
  have n1 : gB0_ p t ≤ n := n1
  have lL := ((zP.2.1 n j3.1).2.2.2.2.1 (by omega)).2
  obtain ⟨v, hR, hM, hW, hp⟩ := id h
  have g1 : gc_ (gcl_ p m F) S t l = some (sP_ S, sR_ S, un_ (sM_ S) l (gv_ (gcl_ p m F) S t n), ub_ (sW_ S) n false) := by
    unfold gc_
    rw [e]
  have g2 : gc_ (gly_ p G z m) S' t l = some (sP_ S', sR_ S', un_ (sM_ S') l (gv_ (gly_ p G z m) S' t (la_ p G z n)), ub_ (sW_ S') (la_ p G z n) false) := by
    unfold gc_
    rw [e']
    rfl
  refine ⟨_, _, g1, g2, vg_c zP v (by omega) g1, hR, ?_, ?_, fun u hu => ?_⟩
  · show un_ (sM_ S') l _ = un_ (sM_ S) l _
    rw [hM, gv]
  · show ub_ (sW_ S') (la_ p G z n) false = Wm_ p G z (ub_ (sW_ S) n false)
    rw [wm_ub j3.1 j3.2.1, hW]
  · rcases hp u hu with y | ⟨y1, y2, y3, y4⟩
    · exact Or.inl y
    · refine Or.inr ⟨y1, y2, y3, fun j j1 j2 => ?_⟩
      show (if j = n then false else sW_ S j) = false
      split
      · rfl
      · exact y4 j j1 j2
end SI
