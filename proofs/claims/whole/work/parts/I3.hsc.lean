/-! how many states (T2): a store leaves; all that is reached has a history -/
section HC
variable {g : gm_T} {K t u n m l j a b c : Nat} {S S2 S0 : gs_T} {w : Nat → List Nat} {τ : Nat → Nat}
theorem gn_gw1 {l : Nat} (e : gn_ g S t l = some n) : gw1_ g S t (l : Int) = some n := by
  unfold gn_ at e
  cases k : gw1_ g S t (l : Int) with
  | none =>
    rw [k] at e
    cases e
  | some j =>
    rw [k] at e
    dsimp only at e
    split at e
    · cases e
    · exact e
/-- the first that waits is no later than any that waits -/
theorem thw_min (hg : Gw_ g K) (v : Vr_ g K S) (q1 : t < 4) (h1 : gB_ g t ≤ j) (h2 : j < gB_ g (t + 1)) (hw : sW_ S j = true) (h3 : gC_ g j 2 = (l : Int)) : thw_ g S t l ≤ j := by
  obtain ⟨k1, k2, k3⟩ := gk_ hg q1
  cases e : gw1_ g S t (l : Int) with
  | none =>
    have y := (f1_none _ _ _).mp e j h1 (by omega)
    rw [hw, decide_eq_true h3] at y
    cases y
  | some i =>
    obtain ⟨-, -, -, -, -, -, a7⟩ := gw1_ex hg v q1 e
    rw [thw_some e]
    by_cases d : j < i
    · have y := a7 j h1 d h3
      rw [hw] at y
      cases y
    · omega
set_option maxHeartbeats 4000000 in
theorem hq_c {l0 : Nat} (hg : Gw_ g K) (h : Hgw_ g K S0 S w τ c) (q1 : t < 4) (q2 : l0 < 3) (e : gc_ g S t l0 = some S2) : ∃ w', Hgw_ g K S0 S2 w' τ c := by
  have v := hq_vr h
  have v2 := vr_step (w := l0 + 1) hg v q1 (by omega) (show gt_ g S t (l0 + 1) = some S2 by
    unfold gt_
    rw [if_neg (by omega), Nat.add_sub_cancel]
    exact e)
  obtain ⟨k1, k2, k3⟩ := gk_ hg q1
  cases en : gn_ g S t l0 with
  | none =>
    unfold gc_ at e
    rw [en] at e
    cases e
  | some n =>
    have eS : S2 = (sP_ S, sR_ S, un_ (sM_ S) l0 (gv_ g S t n), ub_ (sW_ S) n false) := by
      unfold gc_ at e
      rw [en] at e
      exact (Option.some.inj e).symm
    have g1 := gn_gw1 en
    obtain ⟨n1, n2, n3, n4, n5, n6, n7⟩ := gw1_ex hg v q1 g1
    have tn0 : thw_ g S t l0 = n := thw_some g1
    have eP : sP_ S2 = sP_ S := by rw [eS]; rfl
    have eR : sR_ S2 = sR_ S := by rw [eS]; rfl
    have eM : sM_ S2 = un_ (sM_ S) l0 (gv_ g S t n) := by rw [eS]; rfl
    have wj : ∀ j, j ≠ n → sW_ S2 j = sW_ S j := fun j hj => by
      rw [eS]
      exact if_neg hj
    have wn : sW_ S2 n = false := by
      rw [eS]
      exact if_pos rfl
    have ex : ∀ u j, exd_ g S2 u j → exd_ g S u j := fun u j y => by
      unfold exd_ at y ⊢
      rw [eP] at y
      exact y
    have hR : ∀ u j, u < 4 → exd_ g S u j → gC_ g j 5 ≠ -1 → sR_ S2 (2 * u + (gC_ g j 5).toNat) = sR_ S (2 * u + (gC_ g j 5).toNat) := fun u j _ _ _ => by rw [eR]
    have th0 : ∀ u l, u < 4 → (u ≠ t ∨ l ≠ l0) → thw_ g S2 u l = thw_ g S u l := fun u l hu hd => by
      obtain ⟨m1, m2, m3⟩ := gk_ hg hu
      have eg : gw1_ g S2 u (l : Int) = gw1_ g S u (l : Int) := by
        unfold gw1_
        exact f1_cg _ _ (fun j j1 j2 => by
          by_cases d : j = n
          · subst d
            have := seg_un hg hu q1 (n := j) ⟨j1, by omega⟩ ⟨n1, n6⟩
            rw [decide_eq_false (show ¬ gC_ g j 2 = (l : Int) by omega), Bool.and_false, Bool.and_false]
          · rw [wj j d])
      unfold thw_
      rw [eg, eP]
    have b2 := thw_le (l := l0) hg v2 q1
    rw [eP] at b2
    have tgt : n < thw_ g S2 t l0 := by
      cases e1 : gw1_ g S2 t (l0 : Int) with
      | none =>
        rw [thw_none e1, eP]
        exact n2
      | some i =>
        obtain ⟨a1, a2, a3, a4, a5, a6, a7⟩ := gw1_ex hg v2 q1 e1
        rw [thw_some e1]
        by_cases d : i = n
        · rw [d, wn] at a3
          cases a3
        · rw [wj i d] at a3
          by_cases d2 : i < n
          · have y := n7 i a1 d2 a5
            rw [a3] at y
            cases y
          · omega
    have hX0 : ∀ l, l ≠ l0 → acw_ g l (thw_ g S t l) (thw_ g S2 t l) = [] := fun l hl => by
      rw [th0 t l q1 (Or.inr hl)]
      exact acw_nil (Nat.le_refl _)
    have hXm : ∀ l x, x ∈ acw_ g l (thw_ g S t l) (thw_ g S2 t l) → gB_ g t ≤ x ∧ x < gB_ g (t + 1) := fun l x hx => by
      have b := thw_le (l := l) hg v q1
      have b3 := thw_le (l := l) hg v2 q1
      rw [eP] at b3
      have hP := v.2.2.2.1 t q1
      obtain ⟨⟨x1, x2⟩, -⟩ := acw_mem.mp hx
      omega
    have le2 : ∀ l, thw_ g S t l ≤ thw_ g S2 t l := fun l => by
      by_cases d : l = l0
      · subst d
        omega
      · rw [th0 t l q1 (Or.inr d)]
        exact Nat.le_refl _
    have wex : ∀ l j, l < 3 → j ∈ w l → ∃ u, u < 4 ∧ exd_ g S u j := fun l j hl hj => by
      obtain ⟨u, u1, u2, -⟩ := w_ex hg h hl hj
      exact ⟨u, u1, u2⟩
    have vex : ∀ l u j, l < 3 → u < 4 → j ∈ vw_ g S u l (w l) → ∃ u, u < 4 ∧ exd_ g S u j := fun l u j hl hu hj => by
      obtain ⟨u, u1, u2, -⟩ := vw_ex hg h hl hu hj
      exact ⟨u, u1, u2⟩
    have old : ∀ (u j l : Nat), u < 4 → l < 3 → exd_ g S u j → (gC_ g j 1 = 1 ∨ gC_ g j 1 = 2) → gC_ g j 2 = (l : Int) → lw_ g (bef_ j (vw_ g S2 u l (w l ++ acw_ g l (thw_ g S t l) (thw_ g S2 t l)))) = lw_ g (bef_ j (vw_ g S u l (w l))) := fun u j l hu hl hj hk h2 => by
      by_cases d : u = t
      · subst d
        have e1 : vw_ g S2 u l (w l ++ acw_ g l (thw_ g S u l) (thw_ g S2 u l)) = vw_ g S u l (w l) := by
          have b3 := thw_le (l := l) hg v2 q1
          rw [eP] at b3
          unfold vw_
          rw [eP, List.append_assoc, ← acw_app (le2 l) b3.2]
        rw [e1]
      · have y := vw_src (X := acw_ g l (thw_ g S t l) (thw_ g S2 t l)) hg h hl hu hj hk h2 (fun x hx y => by
          have z := hXm l x hx
          rw [y] at z
          exact d (seg_un hg hu q1 (n := j) ⟨hj.1, (seg_e hg v hu hj).1⟩ z))
        unfold vw_ at y ⊢
        rw [th0 u l hu (Or.inl d), eP]
        exact y
    refine ⟨fun l => w l ++ acw_ g l (thw_ g S t l) (thw_ g S2 t l), v2, ?_, ?_, ?_, ?_, ?_, ?_, ?_, ?_, ?_, ?_⟩
    · intro l u hl hu
      show (w l ++ acw_ g l (thw_ g S t l) (thw_ g S2 t l)).filter (inT_ g u) = _
      have b := thw_le (l := l) hg v q1
      rw [List.filter_append, hq_wf h l u hl hu]
      by_cases d : u = t
      · subst d
        have e1 : (acw_ g l (thw_ g S u l) (thw_ g S2 u l)).filter (inT_ g u) = acw_ g l (thw_ g S u l) (thw_ g S2 u l) := List.filter_eq_self.mpr (fun x hx => inT_iff.mpr (hXm l x hx))
        rw [e1]
        exact (acw_app b.1 (le2 l)).symm
      · have e1 : (acw_ g l (thw_ g S t l) (thw_ g S2 t l)).filter (inT_ g u) = [] := List.filter_eq_nil_iff.mpr (fun x hx y => d (seg_un hg hu q1 (n := x) (inT_iff.mp y) (hXm l x hx)))
        rw [e1, List.append_nil, th0 u l hu (Or.inl d)]
    · intro l x hl hx
      rcases List.mem_append.mp hx with y | y
      · exact hq_wi h l x hl y
      · exact ⟨t, q1, inT_iff.mpr (hXm l x y)⟩
    · intro l hl
      show sM_ S2 l = mvl_ g S0 S2 (w l ++ acw_ g l (thw_ g S t l) (thw_ g S2 t l)) l
      by_cases d : l = l0
      · subst d
        have ac : ac_ g l n = true := decide_eq_true ⟨by omega, n5⟩
        have e1 : lw_ g (w l ++ acw_ g l (thw_ g S t l) (thw_ g S2 t l)) = some n := by
          rw [tn0, acw_cons ac tgt, show w l ++ n :: acw_ g l (n + 1) (thw_ g S2 t l) = (w l ++ [n]) ++ acw_ g l (n + 1) (thw_ g S2 t l) by simp, lw_no (fun k hk => ?_), lw_one (decide_eq_true (Or.inl n4))]
          obtain ⟨⟨x1, x2⟩, x3⟩ := acw_mem.mp hk
          have x4 := (of_decide_eq_true x3).2
          have xx : exd_ g S t k := ⟨by omega, by omega⟩
          have sx := seg_e hg v q1 xx
          cases hh : wr_ g k with
          | false => rfl
          | true =>
            exfalso
            rcases of_decide_eq_true hh with y | y
            · have y1 := (hq_ff h t k l q1 hl xx y x4).mpr (by omega)
              have y2 := thw_min (l := l) hg v2 q1 xx.1 sx.1 (by rw [wj k (by omega)]; exact y1) x4
              omega
            · have := hq_dr h t n k q1 n1 n3 xx (by omega)
              omega
        unfold mvl_
        rw [e1, eM]
        show un_ (sM_ S) l (gv_ g S t n) l = vlw_ g S2 n
        rw [vlw_st hR hg v q1 ⟨n1, n2⟩]
        unfold vlw_
        rw [thd_at hg q1 n1 n6]
        exact if_pos rfl
      · rw [hX0 l d, List.append_nil, eM, mvl_st hR hg v (fun j hj => wex l j hl hj), ← hq_mem h l hl]
        exact if_neg d
    · intro u j l hu hl hj hk h2
      show sR_ S2 (2 * u + (gC_ g j 3).toNat) = mvl_ g S0 S2 (bef_ j (vw_ g S2 u l (w l ++ acw_ g l (thw_ g S t l) (thw_ g S2 t l)))) l
      have hj := ex u j hj
      rw [eR, hq_reg h u j l hu hl hj hk h2, mvl_lw (old u j l hu hl hj hk h2)]
      exact (mvl_st hR hg v (fun x hx => vex l u x hl hu (bef_sub hx))).symm
    · intro u j hu hj
      exact hq_tc h u j hu (ex u j hj)
    · intro u j j' hu hj hj' hlt
      exact hq_tp h u j j' hu (ex u j hj) (ex u j' hj') hlt
    · intro u j l x hu hl hj hk h2 hx
      have hx : lw_ g (bef_ j (vw_ g S2 u l (w l ++ acw_ g l (thw_ g S t l) (thw_ g S2 t l)))) = some x := hx
      rw [old u j l hu hl (ex u j hj) hk h2] at hx
      exact hq_ts h u j l x hu hl (ex u j hj) hk h2 hx
    · intro u r hu hr hno
      rw [eR]
      refine hq_un h u r hu hr (fun j hj hk => hno j ?_ hk)
      unfold exd_ at hj ⊢
      rw [eP]
      exact hj
    · intro u j l hu hl hj k0 h2
      have hj := ex u j hj
      by_cases d : u ≠ t ∨ l ≠ l0
      · have jn : j ≠ n := fun y => by
          subst y
          rcases d with d | d
          · exact d (seg_un hg hu q1 (n := j) ⟨hj.1, (seg_e hg v hu hj).1⟩ ⟨n1, n6⟩)
          · omega
        rw [wj j jn, th0 u l hu d]
        exact hq_ff h u j l hu hl hj k0 h2
      · have d1 : u = t := Classical.byContradiction (fun y => d (Or.inl y))
        have d2 : l = l0 := Classical.byContradiction (fun y => d (Or.inr y))
        subst d1
        subst d2
        by_cases jn : j = n
        · subst jn
          rw [wn]
          constructor
          · intro y
            cases y
          · intro y
            omega
        · rw [wj j jn, hq_ff h u j l hu hl hj k0 h2, tn0]
          constructor
          · intro y
            have y1 := (hq_ff h u j l hu hl hj k0 h2).mpr (by omega)
            exact thw_min (l := l) hg v2 hu hj.1 (seg_e hg v hu hj).1 (by rw [wj j jn]; exact y1) h2
          · intro y
            omega
    · intro u i j hu hi hwi hj hij
      have d : i ≠ n := fun y => by
        rw [y, wn] at hwi
        cases hwi
      rw [wj i d] at hwi
      exact hq_dr h u i j hu hi hwi (ex u j hj) hij
theorem hq_0 (v : Vr_ g K S0) (hP : ∀ t, sP_ S0 t = 0) (hR : ∀ q, sR_ S0 q = 0) : Hgw_ g K S0 S0 (fun _ => []) (fun _ => 0) 0 := by
  have nx : ∀ t n, ¬ exd_ g S0 t n := fun t n y => by
    unfold exd_ at y
    rw [hP] at y
    omega
  have nW : ∀ n, sW_ S0 n = false := fun n => by
    cases e : sW_ S0 n with
    | false => rfl
    | true =>
      obtain ⟨-, -, -, t, -, h1, h2⟩ := v.2.2.2.2 n e
      exact absurd ⟨h1, h2⟩ (nx t n)
  have th : ∀ t l, thw_ g S0 t l = gB_ g t := fun t l => by
    have e : gw1_ g S0 t (l : Int) = none := (f1_none _ _ _).mpr (fun j _ _ => by rw [nW j, Bool.false_and])
    rw [thw_none e, hP]
    rfl
  refine ⟨v, fun l t _ _ => ?_, fun l n _ h => ?_, fun l _ => rfl, fun t n l _ _ h => absurd h (nx t n), fun t n _ h => absurd h (nx t n), fun t n n' _ h => absurd h (nx t n), fun t n l j _ _ h => absurd h (nx t n), fun t r _ _ _ => hR _, fun t n l _ _ h => absurd h (nx t n), fun t j n _ _ h => ?_⟩
  · rw [th, acw_nil (Nat.le_refl _)]
    rfl
  · cases h
  · rw [nW j] at h
    cases h
theorem hq_all (hg : Gw_ g K) (U : Un_ g) (v : Vr_ g K S0) (hP : ∀ t, sP_ S0 t = 0) (hR : ∀ q, sR_ S0 q = 0) (h : Rc_ g S0 S) : ∃ w τ c, Hgw_ g K S0 S w τ c :=
  h (fun S => ∃ w τ c, Hgw_ g K S0 S w τ c) ⟨_, _, _, hq_0 v hP hR⟩ (fun X t v Y ⟨w, τ, c, hx⟩ z1 z2 z3 => by
    unfold gt_ at z3
    split at z3
    · exact hq_x hg U hx z1 z3
    · obtain ⟨w', y⟩ := hq_c hg hx z1 (by omega) z3
      exact ⟨w', τ, c, y⟩)
end HC
