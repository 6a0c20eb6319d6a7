/-! how many states (T2): positions and words determine the state -/
section HU
variable {g : gm_T} {K t u n m l j c c' G : Nat} {z : Int} {p : pr_T} {S S' S0 : gs_T} {w w' : Nat → List Nat} {τ τ' : Nat → Nat}
theorem thw_eq (hg : Gw_ g K) (h : Hgw_ g K S0 S w τ c) (h' : Hgw_ g K S0 S' w' τ' c') (eP : sP_ S = sP_ S') (ew : ∀ l, l < 3 → w l = w' l) (q1 : t < 4) (hl : l < 3) : thw_ g S t l = thw_ g S' t l := by
  have v := hq_vr h
  have v' := hq_vr h'
  have b := thw_le (l := l) hg v q1
  have b' := thw_le (l := l) hg v' q1
  have e : acw_ g l (gB_ g t) (thw_ g S t l) = acw_ g l (gB_ g t) (thw_ g S' t l) := by
    rw [← hq_wf h l t hl q1, ← hq_wf h' l t hl q1, ew l hl]
  have key : ∀ (X Y : gs_T), Vr_ g K X → gB_ g t ≤ thw_ g X t l → thw_ g Y t l ≤ gB_ g t + sP_ X t → acw_ g l (gB_ g t) (thw_ g X t l) = acw_ g l (gB_ g t) (thw_ g Y t l) → ¬ thw_ g X t l < thw_ g Y t l := fun X Y vX b1 b2 e y => by
    obtain ⟨-, -, y3, y4⟩ := thw_lt hg vX q1 (show thw_ g X t l < gB_ g t + sP_ X t by omega)
    have m1 : thw_ g X t l ∈ acw_ g l (gB_ g t) (thw_ g Y t l) := acw_mem.mpr ⟨⟨b1, y⟩, decide_eq_true ⟨by omega, y4⟩⟩
    rw [← e] at m1
    have := (acw_mem.mp m1).1.2
    omega
  have k1 := key S S' v b.1 (by rw [eP]; exact b'.2) e
  have k2 := key S' S v' b'.1 (by rw [← eP]; exact b.2) e.symm
  omega
theorem hq_W (hg : Gw_ g K) (h : Hgw_ g K S0 S w τ c) (h' : Hgw_ g K S0 S' w' τ' c') (eP : sP_ S = sP_ S') (ew : ∀ l, l < 3 → w l = w' l) (hn : sW_ S n = true) : sW_ S' n = true := by
  obtain ⟨k1, k2, -, u, u1, u2, u3⟩ := (hq_vr h).2.2.2.2 n hn
  obtain ⟨-, b2, b3, -⟩ := hg.2.2.2.2.2.2.2.1 n k1
  have b3 := b3 (by omega)
  obtain ⟨l, hl⟩ : ∃ l : Nat, gC_ g n 2 = l := ⟨(gC_ g n 2).toNat, by omega⟩
  have y := (hq_ff h u n l u1 (by omega) ⟨u2, u3⟩ k2 hl).mp hn
  rw [thw_eq hg h h' eP ew u1 (by omega)] at y
  exact (hq_ff h' u n l u1 (by omega) ⟨u2, by rw [← eP]; exact u3⟩ k2 hl).mpr y
theorem hq_R (hg : Gw_ g K) (U : Un_ g) (h : Hgw_ g K S0 S w τ c) (h' : Hgw_ g K S0 S' w' τ' c') (eP : sP_ S = sP_ S') (ew : ∀ l, l < 3 → w l = w' l) : ∀ (k t n : Nat), t < 4 → exd_ g S t n → (gC_ g n 1 = 1 ∨ gC_ g n 1 = 2) → τ n < k → sR_ S (2 * t + (gC_ g n 3).toNat) = sR_ S' (2 * t + (gC_ g n 3).toNat)
  | 0, _, _, _, _, _, hk => absurd hk (Nat.not_lt_zero _)
  | k + 1, t, n, q1, hx, hr, hk => by
    have v := hq_vr h
    have sn := seg_e hg v q1 hx
    obtain ⟨-, b2, b3, -⟩ := hg.2.2.2.2.2.2.2.1 n sn.2
    have b3 := b3 (by omega)
    obtain ⟨l, hl⟩ : ∃ l : Nat, gC_ g n 2 = l := ⟨(gC_ g n 2).toNat, by omega⟩
    have l3 : l < 3 := by omega
    have hx' : exd_ g S' t n := by
      unfold exd_ at hx ⊢
      rw [← eP]
      exact hx
    have ev : vw_ g S' t l (w' l) = vw_ g S t l (w l) := by
      unfold vw_
      rw [← thw_eq hg h h' eP ew q1 l3, ← eP, ew l l3]
    rw [hq_reg h t n l q1 l3 hx hr hl, hq_reg h' t n l q1 l3 hx' hr hl, ev]
    unfold mvl_
    cases e : lw_ g (bef_ n (vw_ g S t l (w l))) with
    | none => rfl
    | some j =>
      dsimp only
      have ts := hq_ts h t n l j q1 l3 hx hr hl e
      obtain ⟨u, u1, u2, -⟩ := vw_ex hg h l3 q1 (bef_sub (lw_mem e).1)
      have sj := seg_e hg v u1 u2
      have et := thd_at hg u1 u2.1 sj.1
      unfold vlw_ gv_
      rw [et]
      by_cases c5 : gC_ g j 5 = -1
      · rw [if_pos c5, if_pos c5]
      · rw [if_neg c5, if_neg c5]
        obtain ⟨n', a1, a2, a3, a4⟩ := U.2 u j u1 u2.1 sj.1 c5
        have x' : exd_ g S u n' := ⟨a1, by have := u2.2; omega⟩
        have tp := hq_tp h u n' j u1 x' u2 a2
        rw [← a4]
        exact hq_R hg U h h' eP ew k u n' u1 x' a3 (by omega)
theorem hq_uq (hg : Gw_ g K) (U : Un_ g) (h : Hgw_ g K S0 S w τ c) (h' : Hgw_ g K S0 S' w' τ' c') (eP : sP_ S = sP_ S') (ew : ∀ l, l < 3 → w l = w' l) : S = S' := by
  have v := hq_vr h
  have v' := hq_vr h'
  have eW : sW_ S = sW_ S' := funext (fun n => by
    cases e1 : sW_ S n <;> cases e2 : sW_ S' n
    · rfl
    · have := hq_W hg h' h eP.symm (fun l hl => (ew l hl).symm) e2
      rw [e1] at this
      cases this
    · have := hq_W hg h h' eP ew e1
      rw [e2] at this
      cases this
    · rfl)
  have eR : sR_ S = sR_ S' := funext (fun q => by
    by_cases hq : q < 8
    · obtain ⟨t, r, t4, r2, rfl⟩ : ∃ t r, t < 4 ∧ r < 2 ∧ q = 2 * t + r := ⟨q / 2, q % 2, by omega, by omega, by omega⟩
      by_cases d : ∃ n, exd_ g S t n ∧ (gC_ g n 1 = 1 ∨ gC_ g n 1 = 2) ∧ gC_ g n 3 = (r : Int)
      · obtain ⟨n, d1, d2, d3⟩ := d
        have y := hq_R hg U h h' eP ew (τ n + 1) t n t4 d1 d2 (Nat.lt_succ_self _)
        rw [d3, Int.toNat_natCast] at y
        exact y
      · rw [hq_un h t r t4 r2 (fun n n1 n2 n3 => d ⟨n, n1, n2, n3⟩), hq_un h' t r t4 r2 (fun n n1 n2 n3 => d ⟨n, by
          unfold exd_ at n1 ⊢
          rw [eP]
          exact n1, n2, n3⟩)]
    · rw [(v.2.1 q).2 (by omega), (v'.2.1 q).2 (by omega)])
  have eM : sM_ S = sM_ S' := funext (fun l => by
    by_cases hl : l < 3
    · rw [hq_mem h l hl, hq_mem h' l hl, ← ew l hl]
      unfold mvl_
      cases lw_ g (w l) with
      | none => rfl
      | some j =>
        dsimp only
        unfold vlw_ gv_
        rw [eR]
    · rw [(v.2.2.1 l).2 (by omega), (v'.2.2.1 l).2 (by omega)])
  show (sP_ S, sR_ S, sM_ S, sW_ S) = (sP_ S', sR_ S', sM_ S', sW_ S')
  rw [eP, eR, eM, eW]
/-- what is laid keeps the rule of registers -/
theorem lay_inv (hg : Gw_ (gly_ p G z m) (Kl_ p G z)) (q1 : t < 4) (h1 : gB_ (gly_ p G z m) t ≤ n) (h2 : n < gB_ (gly_ p G z m) (t + 1)) : (∀ k, k = 5 → gC_ (gly_ p G z m) n 1 = 3 ∧ gC_ (gly_ p G z m) n k = -1) ∨ ∃ i, i < pN_ p ∧ (i : Int) ≠ z ∧ n = la_ p G z i ∧ gB0_ p t ≤ i ∧ i < gB0_ p (t + 1) ∧ ∀ k, gC_ (gly_ p G z m) n k = pC_ p i k := by
  obtain ⟨k1, k2, -⟩ := gk_ hg q1
  have hn : n < (ly_ p G z (pN_ p)).length := Nat.lt_of_lt_of_le h2 k2
  have hx := List.getElem?_eq_getElem hn
  revert hx
  generalize (ly_ p G z (pN_ p))[n] = y
  intro hx
  rcases ly_inv _ _ _ hx with e | ⟨i, i1, i2, i3, i4⟩
  · left
    intro k hk
    have c := fun k => lc0_at (p := p) hx k
    rw [e] at c
    refine ⟨(c 1).trans rfl, (c k).trans ?_⟩
    rw [hk]
    rfl
  · right
    subst i4
    obtain ⟨s1, s2⟩ := seg_of (p := p) (G := G) (z := z) t i2 h1 h2
    exact ⟨i, i1, i2, rfl, s1, s2, fun k => lay_C i1 i2 k⟩
theorem un_ly (zP : Wp_ p) (hm : m < 3) (hz : Zk_ p z) : Un_ (gly_ p G z m) := by
  have hg := gw_ly (G := G) (z := z) zP hm
  refine ⟨fun t n n' q1 h1 h2 h1' h2' k k' e => ?_, fun t n q1 h1 h2 h5 => ?_⟩
  · rcases lay_inv hg q1 h1 h2 with y | ⟨i, i1, i2, i3, i4, i5, i6⟩
    · have := (y 5 rfl).1
      omega
    · rcases lay_inv hg q1 h1' h2' with y | ⟨j, j1, j2, j3, j4, j5, j6⟩
      · have := (y 5 rfl).1
        omega
      · rw [i6] at k e
        rw [j6] at k' e
        have ti := (gB_th zP i1).mpr ⟨i4, i5⟩
        have tj := (gB_th zP j1).mpr ⟨j4, j5⟩
        have ci := ((zP.2.1 i i1).2.2.2.2.2.1 k).1
        have := zP.2.2.2.1 i j i1 j1 (by rw [ti, tj]) e (by omega)
        rw [i3, j3, this]
  · rcases lay_inv hg q1 h1 h2 with y | ⟨i, i1, i2, i3, i4, i5, i6⟩
    · exact absurd (y 5 rfl).2 h5
    · rw [i6] at h5
      obtain ⟨j, j1, j2, j3⟩ := zP.2.2.2.2.1 i i1 h5
      have jN : j < pN_ p := by omega
      have ti := (gB_th zP i1).mpr ⟨i4, i5⟩
      obtain ⟨s1, s2⟩ := (gB_th (t := t) zP jN).mp (by rw [j2]; exact ti)
      have J := zP.2.1 j jN
      have j0 := J.2.2.1
      have jb := zP.1.2.2.2.2 j 1
      have k3 : pC_ p j 1 ≠ 3 := fun y => h5 (by rw [← j3]; exact (J.2.2.2.1 y).2.1)
      have k0 : pC_ p j 1 ≠ 0 := fun y => h5 (by rw [← j3]; exact J.2.2.2.2.2.2.1 y)
      have jz : (j : Int) ≠ z := fun y => k3 (hz j jN y)
      have kk : pC_ p j 1 = 1 ∨ pC_ p j 1 = 2 := by omega
      refine ⟨la_ p G z j, (seg_to (p := p) (G := G) (z := z) t jz s1 s2).1, ?_, ?_, ?_⟩
      · rw [i3]
        exact la_lt jz j1
      · rw [lay_C jN jz]
        exact kk
      · rw [lay_C jN jz, i6]
        exact j3
end HU
