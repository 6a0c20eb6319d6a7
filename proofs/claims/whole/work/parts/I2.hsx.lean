/-! how many states (T2): an item is executed -/
section HX
variable {g : gm_T} {K t u n m l j a b c : Nat} {S S2 S0 : gs_T} {w : Nat → List Nat} {τ : Nat → Nat}
theorem nw_0 (v : Vr_ g K S) (hm : gm_ g = 0) (j : Nat) : sW_ S j = false := by
  cases e : sW_ S j with
  | false => rfl
  | true => exact absurd hm (v.2.2.2.2 j e).2.2.1
theorem thw_0 (hg : Gw_ g K) (v : Vr_ g K S) (q1 : t < 4) (hN : ∀ j, gB_ g t ≤ j → j < gB_ g (t + 1) → sW_ S j = false) : gw1_ g S t (l : Int) = none := by
  obtain ⟨k1, k2, k3⟩ := gk_ hg q1
  refine (f1_none _ _ _).mpr (fun j j1 j2 => ?_)
  rw [hN j j1 (by omega), Bool.false_and]
/-- where events end, after an item is executed -/
theorem thw_x (hg : Gw_ g K) (v : Vr_ g K S) (q1 : t < 4) (hn : n = gB_ g t + sP_ S t) (hn2 : n < gB_ g (t + 1)) (ePt : sP_ S2 t = sP_ S t + 1) (wj : ∀ j, j ≠ n → sW_ S2 j = sW_ S j) (nW : sW_ S n = false) (l : Nat) :
    (thw_ g S2 t l = thw_ g S t l ∧ thw_ g S t l ≤ n ∧ (thw_ g S t l = n → sW_ S2 n = true ∧ gC_ g n 2 = (l : Int))) ∨ (thw_ g S t l = n ∧ thw_ g S2 t l = n + 1 ∧ gw1_ g S t (l : Int) = none ∧ ¬ (sW_ S2 n = true ∧ gC_ g n 2 = (l : Int))) := by
  obtain ⟨k1, k2, k3⟩ := gk_ hg q1
  cases e : gw1_ g S t (l : Int) with
  | some j =>
    obtain ⟨h1, h2, h3, h4, h5, h6, h7⟩ := gw1_ex hg v q1 e
    have jn : j < n := by omega
    have e2 : gw1_ g S2 t (l : Int) = some j := by
      refine (f1_some _ _ _).mpr ⟨h1, by omega, ?_, fun i i1 i2 => ?_⟩
      · rw [wj j (by omega), h3, decide_eq_true h5]
        rfl
      · rw [wj i (by omega)]
        by_cases d : gC_ g i 2 = (l : Int)
        · rw [h7 i i1 i2 d, Bool.false_and]
        · rw [decide_eq_false d, Bool.and_false]
    rw [thw_some e, thw_some e2]
    exact Or.inl ⟨rfl, by omega, fun y => by omega⟩
  | none =>
    have hN := (f1_none _ _ _).mp e
    rw [thw_none e]
    by_cases d : sW_ S2 n = true ∧ gC_ g n 2 = (l : Int)
    · have e2 : gw1_ g S2 t (l : Int) = some n := by
        refine (f1_some _ _ _).mpr ⟨by omega, by omega, ?_, fun i i1 i2 => ?_⟩
        · rw [d.1, decide_eq_true d.2]
          rfl
        · rw [wj i (by omega)]
          exact hN i i1 (by omega)
      rw [thw_some e2]
      exact Or.inl ⟨hn, by omega, fun _ => d⟩
    · have e2 : gw1_ g S2 t (l : Int) = none := by
        refine (f1_none _ _ _).mpr (fun i i1 i2 => ?_)
        by_cases d2 : i = n
        · subst d2
          cases k : sW_ S2 i with
          | false => rfl
          | true =>
            rw [Bool.true_and]
            exact decide_eq_false (fun y => d ⟨k, y⟩)
        · rw [wj i d2]
          exact hN i i1 i2
      rw [thw_none e2, ePt]
      exact Or.inr ⟨hn.symm, by omega, rfl, d⟩
set_option maxHeartbeats 4000000 in
theorem hq_x (hg : Gw_ g K) (U : Un_ g) (h : Hgw_ g K S0 S w τ c) (q1 : t < 4) (e : gx_ g S t = some S2) : ∃ w' τ' c', Hgw_ g K S0 S2 w' τ' c' := by
  have v := hq_vr h
  have v2 := vr_step (w := 0) hg v q1 (by decide) (show gt_ g S t 0 = some S2 from e)
  obtain ⟨z1, z2⟩ := gx_eq (by rw [e]; exact fun y => by cases y)
  have eb := gx_b z1 z2
  rw [e] at eb
  have eb := Option.some.inj eb
  obtain ⟨k1, k2, k3⟩ := gk_ hg q1
  have nW0 := nw_n hg v q1 z1
  obtain ⟨n, en⟩ : ∃ n, n = gB_ g t + sP_ S t := ⟨_, rfl⟩
  rw [← en] at eb z2 nW0
  have eP : sP_ S2 = un_ (sP_ S) t (sP_ S t + 1) := by
    rw [eb]
    exact gxb_P _ _ _ _
  have ePt : sP_ S2 t = sP_ S t + 1 := by
    rw [eP]
    exact if_pos rfl
  have ePu : ∀ u, u ≠ t → sP_ S2 u = sP_ S u := fun u hu => by
    rw [eP]
    exact if_neg hu
  have n4 : n < gB_ g (t + 1) := by omega
  have hK : gK_ g n = decide (2 ≤ gC_ g n 1) := hg.2.2.2.2.1 n
  obtain ⟨kk, kl, kl2, kr, kr2, -, -, kc⟩ := hg.2.2.2.2.2.2.2.1 n (by omega)
  have hW : (sW_ S2 = sW_ S ∧ (gC_ g n 1 = 0 → gm_ g = 0)) ∨ (sW_ S2 = ub_ (sW_ S) n true ∧ gC_ g n 1 = 0 ∧ gm_ g ≠ 0) := by
    by_cases k0 : gC_ g n 1 = 0
    · by_cases m0 : gm_ g = 0
      · refine Or.inl ⟨?_, fun _ => m0⟩
        rw [eb]
        unfold gxb_
        rw [if_pos k0, if_pos m0]
        rfl
      · refine Or.inr ⟨?_, k0, m0⟩
        rw [eb]
        unfold gxb_
        rw [if_pos k0, if_neg m0]
        rfl
    · refine Or.inl ⟨?_, fun y => absurd y k0⟩
      rw [eb]
      unfold gxb_
      rw [if_neg k0]
      repeat (first | rfl | split)
  have wj : ∀ j, j ≠ n → sW_ S2 j = sW_ S j := fun j hj => by
    rcases hW with y | y
    · rw [y.1]
    · rw [y.1]
      exact if_neg hj
  have hRR : sR_ S2 = sR_ S ∨ ∃ x, sR_ S2 = un_ (sR_ S) (2 * t + (gC_ g n 3).toNat) x ∧ (gC_ g n 1 = 1 ∨ gC_ g n 1 = 2) := by
    rw [eb]
    unfold gxb_
    by_cases k0 : gC_ g n 1 = 0
    · rw [if_pos k0]
      split
      · exact Or.inl rfl
      · exact Or.inl rfl
    · rw [if_neg k0]
      by_cases k1 : gC_ g n 1 = 1
      · rw [if_pos k1]
        exact Or.inr ⟨_, rfl, Or.inl k1⟩
      · rw [if_neg k1]
        by_cases k2 : gC_ g n 1 = 2
        · rw [if_pos k2]
          exact Or.inr ⟨_, rfl, Or.inr k2⟩
        · rw [if_neg k2]
          exact Or.inl rfl
  have exd2 : ∀ u j, exd_ g S2 u j → exd_ g S u j ∨ (u = t ∧ j = n) := fun u j y => by
    unfold exd_ at y ⊢
    by_cases d : u = t
    · subst d
      rw [ePt] at y
      by_cases d2 : j = n
      · exact Or.inr ⟨rfl, d2⟩
      · exact Or.inl ⟨y.1, by omega⟩
    · rw [ePu u d] at y
      exact Or.inl y
  have exd1 : ∀ u j, exd_ g S u j → exd_ g S2 u j := fun u j y => by
    unfold exd_ at y ⊢
    by_cases d : u = t
    · subst d
      rw [ePt]
      omega
    · rw [ePu u d]
      exact y
  have exn : exd_ g S2 t n := ⟨by omega, by rw [ePt]; omega⟩
  have nex : ∀ u, u < 4 → ¬ exd_ g S u n := fun u hu y => by
    have := seg_un hg q1 hu (n := n) ⟨by omega, n4⟩ ⟨y.1, (seg_e hg v hu y).1⟩
    subst this
    unfold exd_ at y
    omega
  -- registers
  have hreg : ∀ u (r : Int), u < 4 → 0 ≤ r → r ≤ 1 → (u = t → (gC_ g n 1 = 1 ∨ gC_ g n 1 = 2) → r ≠ gC_ g n 3) → sR_ S2 (2 * u + r.toNat) = sR_ S (2 * u + r.toNat) := fun u r hu r0 r1 hne => by
    rcases hRR with y | ⟨x, y, y2⟩
    · rw [y]
    · rw [y]
      have := kr2 y2
      refine if_neg (fun y3 => ?_)
      have e1 : u = t := by omega
      exact hne e1 y2 (by omega)
  have hR : ∀ u j, u < 4 → exd_ g S u j → gC_ g j 5 ≠ -1 → sR_ S2 (2 * u + (gC_ g j 5).toNat) = sR_ S (2 * u + (gC_ g j 5).toNat) := fun u j hu hj h5 => by
    have sj := seg_e hg v hu hj
    have c5 := (hg.2.2.2.2.2.2.2.1 j sj.2).2.2.2.2.2.2.2
    refine hreg u _ hu (by omega) (by omega) (fun d k y => ?_)
    subst d
    obtain ⟨n', a1, a2, a3, a4⟩ := U.2 u j hu hj.1 sj.1 h5
    have e1 := U.1 u n' n hu a1 (by have := sj.1; omega) (by omega) n4 a3 k (by rw [a4, y])
    have := hj.2
    omega
  have hR3 : ∀ u j, u < 4 → exd_ g S u j → (gC_ g j 1 = 1 ∨ gC_ g j 1 = 2) → sR_ S2 (2 * u + (gC_ g j 3).toNat) = sR_ S (2 * u + (gC_ g j 3).toNat) := fun u j hu hj hk => by
    have sj := seg_e hg v hu hj
    obtain ⟨-, -, -, c3, c32, -⟩ := hg.2.2.2.2.2.2.2.1 j sj.2
    refine hreg u _ hu (c32 hk) c3.2 (fun d k y => ?_)
    subst d
    have e1 := U.1 u j n hu hj.1 sj.1 (by omega) n4 hk k y
    have := hj.2
    omega
  -- where events end
  have th0 : ∀ u l, u < 4 → u ≠ t → thw_ g S2 u l = thw_ g S u l := fun u l hu hut => by
    obtain ⟨m1, m2, m3⟩ := gk_ hg hu
    have eg : gw1_ g S2 u (l : Int) = gw1_ g S u (l : Int) := by
      unfold gw1_
      exact f1_cg _ _ (fun j j1 j2 => by
        rw [wj j (fun y => hut (seg_un hg hu q1 (n := j) ⟨j1, by omega⟩ ⟨by omega, by omega⟩))])
    unfold thw_
    rw [eg, ePu u hut]
  have th1 := fun l => thw_x (S2 := S2) hg v q1 en n4 ePt wj nW0 l
  have hX : ∀ l : Nat, acw_ g l (thw_ g S t l) (thw_ g S2 t l) = [] ∨ (acw_ g l (thw_ g S t l) (thw_ g S2 t l) = [n] ∧ ac_ g l n = true ∧ gw1_ g S t (l : Int) = none ∧ ¬ (sW_ S2 n = true ∧ gC_ g n 2 = (l : Int))) := fun l => by
    rcases th1 l with ⟨y1, -, -⟩ | ⟨y1, y2, y3, y4⟩
    · rw [y1]
      exact Or.inl (acw_nil (Nat.le_refl _))
    · rw [y1, y2]
      cases d : ac_ g l n with
      | true => exact Or.inr ⟨acw_one d, rfl, y3, y4⟩
      | false => exact Or.inl (acw_no d)
  have hX1 : ∀ l : Nat, gw1_ g S t (l : Int) = none → sW_ S2 n = false → ac_ g l n = true → acw_ g l (thw_ g S t l) (thw_ g S2 t l) = [n] := fun l y1 y2 y3 => by
    rcases th1 l with ⟨-, -, x3⟩ | ⟨x1, x2, -, -⟩
    · have := (x3 (by rw [thw_none y1]; exact en.symm)).1
      rw [y2] at this
      cases this
    · rw [x1, x2]
      exact acw_one y3
  have vwt : ∀ l, vw_ g S2 t l (w l ++ acw_ g l (thw_ g S t l) (thw_ g S2 t l)) = vw_ g S t l (w l) ++ acw_ g l n (n + 1) := fun l => by
    unfold vw_
    rw [ePt, show gB_ g t + (sP_ S t + 1) = n + 1 by omega, ← en]
    rcases th1 l with ⟨y1, y2, -⟩ | ⟨y1, y2, -, -⟩
    · rw [y1, acw_nil (Nat.le_refl _), List.append_nil, acw_app (b := n) (c := n + 1) y2 (by omega), List.append_assoc]
    · rw [y1, y2, acw_nil (Nat.le_refl (n + 1)), List.append_nil, acw_nil (Nat.le_refl n), List.append_nil]
  have wex : ∀ l j, l < 3 → j ∈ w l → ∃ u, u < 4 ∧ exd_ g S u j := fun l j hl hj => by
    obtain ⟨u, u1, u2, -⟩ := w_ex hg h hl hj
    exact ⟨u, u1, u2⟩
  have vex : ∀ l u j, l < 3 → u < 4 → j ∈ vw_ g S u l (w l) → ∃ u, u < 4 ∧ exd_ g S u j := fun l u j hl hu hj => by
    obtain ⟨u, u1, u2, -⟩ := vw_ex hg h hl hu hj
    exact ⟨u, u1, u2⟩
  have tn : thd_ g n = t := thd_at hg q1 (by omega) n4
  have memw : ∀ l, l < 3 → mvl_ g S0 S2 (w l) l = sM_ S l := fun l hl => by
    rw [mvl_st hR hg v (fun j hj => wex l j hl hj), hq_mem h l hl]
  -- what earlier loads read
  have old : ∀ (u j l : Nat), u < 4 → l < 3 → exd_ g S u j → (gC_ g j 1 = 1 ∨ gC_ g j 1 = 2) → gC_ g j 2 = (l : Int) → lw_ g (bef_ j (vw_ g S2 u l (w l ++ acw_ g l (thw_ g S t l) (thw_ g S2 t l)))) = lw_ g (bef_ j (vw_ g S u l (w l))) := fun u j l hu hl hj hk h2 => by
    by_cases d : u = t
    · subst d
      rw [vwt, bef_in (vw_in hg h hl hu hj (decide_eq_true ⟨by omega, h2⟩))]
    · have y := vw_src (X := acw_ g l (thw_ g S t l) (thw_ g S2 t l)) hg h hl hu hj hk h2 (fun x hx => by
        rcases hX l with y | ⟨y, -⟩
        · rw [y] at hx
          cases hx
        · rw [y] at hx
          have := List.mem_singleton.mp hx
          intro y2
          rw [this] at y2
          rw [← y2] at hj
          exact nex u hu hj)
      unfold vw_ at y ⊢
      rw [th0 u l hu d, ePu u d]
      exact y
  -- the new one
  have nvw : ∀ l, l < 3 → ac_ g l n = true → bef_ n (vw_ g S2 t l (w l ++ acw_ g l (thw_ g S t l) (thw_ g S2 t l))) = vw_ g S t l (w l) := fun l hl hac => by
    rw [vwt, acw_one hac, bef_out (fun y => by
      obtain ⟨u, u1, u2⟩ := vex l t n hl q1 y
      exact nex u u1 u2), bef_self, List.append_nil]
  have drain : 2 ≤ gC_ g n 1 → ∀ l : Nat, gw1_ g S t (l : Int) = none := fun y l => by
    have ga : ga1_ g S t = none := Classical.byContradiction (fun y2 => z2 ⟨by rw [hK]; exact decide_eq_true y, y2⟩)
    have ga := (f1_none _ _ _).mp ga
    exact thw_0 hg v q1 (fun j j1 j2 => ga j j1 (by omega))
  refine ⟨fun l => w l ++ acw_ g l (thw_ g S t l) (thw_ g S2 t l), fun j => if j = n then c else τ j, c + 1, v2, ?_, ?_, ?_, ?_, ?_, ?_, ?_, ?_, ?_, ?_⟩
  · intro l u hl hu
    show (w l ++ acw_ g l (thw_ g S t l) (thw_ g S2 t l)).filter (inT_ g u) = _
    have b := thw_le (l := l) hg v q1
    rw [List.filter_append, hq_wf h l u hl hu]
    by_cases d : u = t
    · subst d
      have e1 : (acw_ g l (thw_ g S u l) (thw_ g S2 u l)).filter (inT_ g u) = acw_ g l (thw_ g S u l) (thw_ g S2 u l) := List.filter_eq_self.mpr (fun x hx => by
        obtain ⟨⟨x1, x2⟩, -⟩ := acw_mem.mp hx
        refine inT_iff.mpr ⟨by omega, ?_⟩
        rcases th1 l with ⟨y1, y2, -⟩ | ⟨y1, y2, -, -⟩ <;> omega)
      rw [e1]
      refine (acw_app b.1 ?_).symm
      rcases th1 l with ⟨y1, y2, -⟩ | ⟨y1, y2, -, -⟩ <;> omega
    · have e1 : (acw_ g l (thw_ g S t l) (thw_ g S2 t l)).filter (inT_ g u) = [] := List.filter_eq_nil_iff.mpr (fun x hx y => by
        rcases hX l with k | ⟨k, -⟩
        · rw [k] at hx
          cases hx
        · rw [k] at hx
          rw [List.mem_singleton.mp hx] at y
          exact d (seg_un hg hu q1 (n := n) (inT_iff.mp y) ⟨by omega, n4⟩))
      rw [e1, List.append_nil, th0 u l hu d]
  · intro l x hl hx
    rcases List.mem_append.mp hx with y | y
    · exact hq_wi h l x hl y
    · rcases hX l with k | ⟨k, -⟩
      · rw [k] at y
        cases y
      · rw [k] at y
        rw [List.mem_singleton.mp y]
        exact ⟨t, q1, inT_iff.mpr ⟨by omega, n4⟩⟩
  · intro l hl
    show sM_ S2 l = mvl_ g S0 S2 (w l ++ acw_ g l (thw_ g S t l) (thw_ g S2 t l)) l
    by_cases k0 : gC_ g n 1 = 0
    · have b2 := kl2 (by omega)
      by_cases m0 : gm_ g = 0
      · have eM : sM_ S2 = un_ (sM_ S) (gC_ g n 2).toNat (gv_ g S t n) := by
          rw [eb]
          unfold gxb_
          rw [if_pos k0, if_pos m0]
          rfl
        have eR : sR_ S2 = sR_ S := by
          rw [eb]
          unfold gxb_
          rw [if_pos k0, if_pos m0]
          rfl
        have w2 : sW_ S2 n = false := nw_0 v2 m0 n
        by_cases d : gC_ g n 2 = (l : Int)
        · rw [hX1 l (thw_0 hg v q1 (fun j _ _ => nw_0 v m0 j)) w2 (decide_eq_true ⟨by omega, d⟩)]
          unfold mvl_
          rw [lw_one (decide_eq_true (Or.inl k0)), eM]
          show un_ (sM_ S) (gC_ g n 2).toNat (gv_ g S t n) l = vlw_ g S2 n
          unfold vlw_ gv_
          rw [tn, eR, d, Int.toNat_natCast]
          exact if_pos rfl
        · have eX : acw_ g l (thw_ g S t l) (thw_ g S2 t l) = [] := by
            rcases hX l with y | ⟨-, y, -⟩
            · exact y
            · exact absurd (of_decide_eq_true y).2 d
          rw [eX, List.append_nil, memw l hl, eM]
          exact if_neg (by omega)
      · have eM : sM_ S2 = sM_ S := by
          rw [eb]
          unfold gxb_
          rw [if_pos k0, if_neg m0]
          rfl
        have w2 : sW_ S2 n = true := by
          rcases hW with y | y
          · exact absurd (y.2 k0) m0
          · rw [y.1]
            exact if_pos rfl
        have eX : acw_ g l (thw_ g S t l) (thw_ g S2 t l) = [] := by
          rcases hX l with y | ⟨-, y, -, y4⟩
          · exact y
          · exact absurd ⟨w2, (of_decide_eq_true y).2⟩ y4
        rw [eX, List.append_nil, memw l hl, eM]
    · by_cases k2 : gC_ g n 1 = 2
      · have b2 := kl2 (by omega)
        have b3 := kr2 (Or.inr k2)
        have eM : sM_ S2 = un_ (sM_ S) (gC_ g n 2).toNat (gv_ g S t n) := by
          rw [eb]
          unfold gxb_
          rw [if_neg k0, if_neg (by omega), if_pos k2]
          rfl
        have w2 : sW_ S2 n = false := by
          rcases hW with y | y
          · rw [y.1]
            exact nW0
          · exact absurd y.2.1 k0
        by_cases d : gC_ g n 2 = (l : Int)
        · rw [hX1 l (drain (by omega) l) w2 (decide_eq_true ⟨by omega, d⟩)]
          unfold mvl_
          rw [lw_one (decide_eq_true (Or.inr k2)), eM]
          show un_ (sM_ S) (gC_ g n 2).toNat (gv_ g S t n) l = vlw_ g S2 n
          unfold vlw_ gv_
          rw [tn, d, Int.toNat_natCast]
          refine Eq.trans (if_pos rfl) ?_
          by_cases c5 : gC_ g n 5 = -1
          · rw [if_pos c5, if_pos c5]
          · rw [if_neg c5, if_neg c5]
            refine (hreg t _ q1 (by omega) (by omega) (fun _ _ y => ?_)).symm
            obtain ⟨n', a1, a2, a3, a4⟩ := U.2 t n q1 (by omega) n4 c5
            have := U.1 t n' n q1 a1 (by omega) (by omega) n4 a3 (Or.inr k2) (by rw [a4, y])
            omega
        · have eX : acw_ g l (thw_ g S t l) (thw_ g S2 t l) = [] := by
            rcases hX l with y | ⟨-, y, -⟩
            · exact y
            · exact absurd (of_decide_eq_true y).2 d
          rw [eX, List.append_nil, memw l hl, eM]
          exact if_neg (by omega)
      · have eM : sM_ S2 = sM_ S := by
          rw [eb]
          unfold gxb_
          rw [if_neg k0]
          by_cases k1 : gC_ g n 1 = 1
          · rw [if_pos k1]
            rfl
          · rw [if_neg k1, if_neg k2]
            rfl
        rw [eM, ← memw l hl]
        refine mvl_lw ?_
        rcases hX l with y | ⟨y, -⟩
        · rw [y, List.append_nil]
        · rw [y]
          refine (lw_no (fun x hx => ?_)).symm
          rw [List.mem_singleton.mp hx]
          exact decide_eq_false (by omega)
  · intro u j l hu hl hj hk h2
    show sR_ S2 (2 * u + (gC_ g j 3).toNat) = mvl_ g S0 S2 (bef_ j (vw_ g S2 u l (w l ++ acw_ g l (thw_ g S t l) (thw_ g S2 t l)))) l
    rcases exd2 u j hj with hj | ⟨rfl, rfl⟩
    · rw [hR3 u j hu hj hk, hq_reg h u j l hu hl hj hk h2, mvl_lw (old u j l hu hl hj hk h2)]
      exact (mvl_st hR hg v (fun x hx => vex l u x hl hu (bef_sub hx))).symm
    · have hac : ac_ g l j = true := decide_eq_true ⟨by omega, h2⟩
      rw [nvw l hl hac]
      have nnw : gw1_ g S u (l : Int) = none → mvl_ g S0 S2 (vw_ g S u l (w l)) l = sM_ S l := fun y => by
        have e1 : vw_ g S u l (w l) = w l := by
          unfold vw_
          rw [thw_none y, acw_nil (Nat.le_refl _), List.append_nil]
        rw [e1, memw l hl]
      rcases hk with hk | hk
      · have eR : sR_ S2 = un_ (sR_ S) (2 * u + (gC_ g j 3).toNat) (match gw2_ g S u (gC_ g j 2) with | some i => gv_ g S u i | none => sM_ S (gC_ g j 2).toNat) := by
          rw [eb]
          unfold gxb_
          rw [if_neg (by omega), if_pos hk]
          rfl
        rw [eR, h2, Int.toNat_natCast]
        refine Eq.trans (if_pos rfl) ?_
        cases ew : gw2_ g S u (l : Int) with
        | none =>
          dsimp only
          refine (nnw ?_).symm
          have y := (f2_none _ _ _).mp ew
          exact (f1_none _ _ _).mpr y
        | some i =>
          dsimp only
          obtain ⟨i1, i2, i3, i4⟩ := (f2_some _ _ _).mp ew
          rw [Bool.and_eq_true, decide_eq_true_eq] at i3
          obtain ⟨-, ik, -, u', u1, u2, u3⟩ := v.2.2.2.2 i i3.1
          have hu' := v.2.2.2.1 u' u1
          obtain ⟨m1, m2, m3⟩ := gk_ hg u1
          have := seg_un hg hu u1 (n := i) ⟨i1, by omega⟩ ⟨u2, by omega⟩
          subst this
          have tl : thw_ g S u l ≤ i ∧ ∀ k, thw_ g S u l ≤ k → exd_ g S u k → gC_ g k 2 = (l : Int) → gC_ g k 1 = 2 → False := by
            cases e1 : gw1_ g S u (l : Int) with
            | none =>
              have y := (f1_none _ _ _).mp e1 i i1 i2
              rw [i3.1, decide_eq_true i3.2] at y
              cases y
            | some a =>
              obtain ⟨a1, a2, a3, a4, a5, a6, a7⟩ := gw1_ex hg v hu e1
              rw [thw_some e1]
              refine ⟨?_, fun k k1 k2 k3 k4 => ?_⟩
              · by_cases d : i < a
                · have y := a7 i i1 d i3.2
                  rw [i3.1] at y
                  cases y
                · omega
              · by_cases d : a = k
                · rw [d] at a4
                  omega
                · have := hq_dr h u a k hu a1 a3 k2 (by omega)
                  omega
          have hlw : lw_ g (vw_ g S u l (w l)) = some i := by
            unfold vw_
            refine lw_acw (acw_mem.mpr ⟨⟨tl.1, u3⟩, decide_eq_true ⟨by omega, i3.2⟩⟩) (decide_eq_true (Or.inl ik)) (fun k hk1 hk2 => ?_)
            obtain ⟨⟨x1, x2⟩, x3⟩ := acw_mem.mp hk1
            have x4 := (of_decide_eq_true x3).2
            have xx : exd_ g S u k := ⟨by have := (thw_le (l := l) hg v hu).1; omega, x2⟩
            rcases of_decide_eq_true hk2 with x5 | x5
            · by_cases d : i < k
              · have y := (hq_ff h u k l hu hl xx x5 x4).mpr x1
                have y2 := i4 k d (by omega)
                rw [y, decide_eq_true x4] at y2
                cases y2
              · omega
            · exact (tl.2 k x1 xx x4 x5).elim
          unfold mvl_
          rw [hlw]
          show gv_ g S u i = vlw_ g S2 i
          rw [vlw_st hR hg v hu ⟨i1, u3⟩]
          unfold vlw_
          rw [thd_at hg hu i1 (by omega)]
      · have eR : sR_ S2 = un_ (sR_ S) (2 * u + (gC_ g j 3).toNat) (sM_ S (gC_ g j 2).toNat) := by
          rw [eb]
          unfold gxb_
          rw [if_neg (by omega), if_neg (by omega), if_pos hk]
          rfl
        rw [eR, h2, Int.toNat_natCast]
        refine Eq.trans (if_pos rfl) ?_
        exact (nnw (drain (by omega) l)).symm
  · intro u j hu hj
    show (if j = n then c else τ j) < c + 1
    rcases exd2 u j hj with hj | ⟨-, rfl⟩
    · have := hq_tc h u j hu hj
      split <;> omega
    · rw [if_pos rfl]
      omega
  · intro u j j' hu hj hj' hlt
    show (if j = n then c else τ j) < (if j' = n then c else τ j')
    rcases exd2 u j hj with hj | ⟨e1, e2⟩
    · have jn : j ≠ n := fun y => nex u hu (by rw [← y]; exact hj)
      rw [if_neg jn]
      rcases exd2 u j' hj' with hj' | ⟨e1, e2⟩
      · have jn' : j' ≠ n := fun y => nex u hu (by rw [← y]; exact hj')
        rw [if_neg jn']
        exact hq_tp h u j j' hu hj hj' hlt
      · rw [if_pos e2]
        exact hq_tc h u j hu hj
    · exfalso
      subst e1
      have := hj'.2
      rw [ePt] at this
      omega
  · intro u j l x hu hl hj hk h2 hx
    have hx : lw_ g (bef_ j (vw_ g S2 u l (w l ++ acw_ g l (thw_ g S t l) (thw_ g S2 t l)))) = some x := hx
    show (if x = n then c else τ x) < (if j = n then c else τ j)
    rcases exd2 u j hj with hj | ⟨e1, e2⟩
    · have jn : j ≠ n := fun y => nex u hu (by rw [← y]; exact hj)
      rw [old u j l hu hl hj hk h2] at hx
      obtain ⟨u', u1, u2⟩ := vex l u x hl hu (bef_sub (lw_mem hx).1)
      rw [if_neg jn, if_neg (fun y => nex u' u1 (by rw [← y]; exact u2))]
      exact hq_ts h u j l x hu hl hj hk h2 hx
    · subst e1
      subst e2
      rw [nvw l hl (decide_eq_true ⟨by omega, h2⟩)] at hx
      obtain ⟨u', u1, u2⟩ := vex l u x hl hu (lw_mem hx).1
      rw [if_pos rfl, if_neg (fun y => nex u' u1 (by rw [← y]; exact u2))]
      exact hq_tc h u' x u1 u2
  · intro u r hu hr hno
    have y := hq_un h u r hu hr (fun j hj hk => hno j (exd1 u j hj) hk)
    rw [← y]
    have z := hreg u (r : Int) hu (by omega) (by omega) (fun d k => by
      subst d
      exact fun y => hno n exn k y.symm)
    rw [Int.toNat_natCast] at z
    exact z
  · intro u j l hu hl hj k0 h2
    rcases exd2 u j hj with hj | ⟨e1, e2⟩
    · have jn : j ≠ n := fun y => nex u hu (by rw [← y]; exact hj)
      rw [wj j jn, hq_ff h u j l hu hl hj k0 h2]
      by_cases d : u = t
      · subst d
        have := hj.2
        rcases th1 l with ⟨y1, -, -⟩ | ⟨y1, y2, -, -⟩
        · rw [y1]
        · rw [y1, y2]
          constructor <;> intro y <;> omega
      · rw [th0 u l hu d]
    · subst e1
      subst e2
      rcases hW with y | y
      · have m0 := y.2 k0
        rw [nw_0 v2 m0 j]
        have e1 : gw1_ g S2 u (l : Int) = none := thw_0 hg v2 hu (fun j _ _ => nw_0 v2 m0 j)
        rw [thw_none e1, ePt]
        constructor
        · intro y
          cases y
        · intro y
          omega
      · have w2 : sW_ S2 j = true := by
          rw [y.1]
          exact if_pos rfl
        rw [w2]
        refine ⟨fun _ => ?_, fun _ => rfl⟩
        rcases th1 l with ⟨y1, y2, -⟩ | ⟨-, -, -, y4⟩
        · omega
        · exact absurd ⟨w2, h2⟩ y4
  · intro u i j hu hi hwi hj hij
    by_cases d : i = n
    · exfalso
      subst d
      have sj := seg_e hg v2 hu hj
      have := seg_un hg q1 hu (n := i) ⟨by omega, n4⟩ ⟨hi, by omega⟩
      subst this
      have := hj.2
      rw [ePt] at this
      omega
    · rw [wj i d] at hwi
      rcases exd2 u j hj with hj | ⟨e1, e2⟩
      · exact hq_dr h u i j hu hi hwi hj hij
      · subst e1
        subst e2
        by_cases k : gC_ g j 1 < 2
        · exact k
        · exfalso
          have ga : ga1_ g S u = none := Classical.byContradiction (fun y2 => z2 ⟨by rw [hK]; exact decide_eq_true (by omega), y2⟩)
          have y := (f1_none _ _ _).mp ga i hi (by omega)
          rw [hwi] at y
          cases y
end HX
