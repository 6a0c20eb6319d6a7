/-! how many states (T2): what a step leaves as it was -/
section HS
variable {g : gm_T} {K t u n m l j a b c : Nat} {S S2 S0 : gs_T} {w : Nat → List Nat} {τ : Nat → Nat} {X : List Nat}
theorem gw1_ex (hg : Gw_ g K) (v : Vr_ g K S) (q1 : t < 4) {l : Int} (e : gw1_ g S t l = some j) : gB_ g t ≤ j ∧ j < gB_ g t + sP_ S t ∧ sW_ S j = true ∧ gC_ g j 1 = 0 ∧ gC_ g j 2 = l ∧ j < gB_ g (t + 1) ∧ ∀ i, gB_ g t ≤ i → i < j → gC_ g i 2 = l → sW_ S i = false := by
  obtain ⟨e1, e2, e3, e4⟩ := (f1_some _ _ _).mp e
  rw [Bool.and_eq_true, decide_eq_true_eq] at e3
  obtain ⟨-, k0, -, u, u1, u2, u3⟩ := v.2.2.2.2 j e3.1
  obtain ⟨k1, k2, k3⟩ := gk_ hg q1
  obtain ⟨m1, m2, m3⟩ := gk_ hg u1
  have hu := v.2.2.2.1 u u1
  have := seg_un hg q1 u1 (n := j) ⟨e1, by omega⟩ ⟨u2, by omega⟩
  subst this
  refine ⟨e1, u3, e3.1, k0, e3.2, by omega, fun i i1 i2 i3 => ?_⟩
  have y := e4 i i1 i2
  rw [i3, decide_eq_true rfl, Bool.and_true] at y
  exact y
theorem thw_le (hg : Gw_ g K) (v : Vr_ g K S) (q1 : t < 4) : gB_ g t ≤ thw_ g S t l ∧ thw_ g S t l ≤ gB_ g t + sP_ S t := by
  unfold thw_
  cases e : gw1_ g S t (l : Int) with
  | none => exact ⟨Nat.le_add_right _ _, Nat.le_refl _⟩
  | some j =>
    obtain ⟨h1, h2, -⟩ := gw1_ex hg v q1 e
    exact ⟨h1, by show j ≤ _; omega⟩
/-- where events end before all is executed, a store waits -/
theorem thw_lt (hg : Gw_ g K) (v : Vr_ g K S) (q1 : t < 4) (h : thw_ g S t l < gB_ g t + sP_ S t) : gw1_ g S t (l : Int) = some (thw_ g S t l) ∧ sW_ S (thw_ g S t l) = true ∧ gC_ g (thw_ g S t l) 1 = 0 ∧ gC_ g (thw_ g S t l) 2 = (l : Int) := by
  cases e : gw1_ g S t (l : Int) with
  | none =>
    unfold thw_ at h
    rw [e] at h
    exact absurd h (Nat.lt_irrefl _)
  | some j =>
    have et : thw_ g S t l = j := by
      unfold thw_
      rw [e]
    rw [et]
    obtain ⟨-, -, h3, h4, h5, -⟩ := gw1_ex hg v q1 e
    exact ⟨rfl, h3, h4, h5⟩
theorem thw_none (h : gw1_ g S t (l : Int) = none) : thw_ g S t l = gB_ g t + sP_ S t := by
  unfold thw_
  rw [h]
theorem thw_some (h : gw1_ g S t (l : Int) = some j) : thw_ g S t l = j := by
  unfold thw_
  rw [h]
theorem seg_e (hg : Gw_ g K) (v : Vr_ g K S) (q1 : t < 4) (h : exd_ g S t n) : n < gB_ g (t + 1) ∧ n < K := by
  have hP := v.2.2.2.1 t q1
  obtain ⟨k1, k2, k3⟩ := gk_ hg q1
  unfold exd_ at h
  omega
theorem exd_un (hg : Gw_ g K) (v : Vr_ g K S) (q1 : t < 4) (q2 : u < 4) (h : exd_ g S t n) (h2 : exd_ g S u n) : t = u := seg_un hg q1 q2 ⟨h.1, (seg_e hg v q1 h).1⟩ ⟨h2.1, (seg_e hg v q2 h2).1⟩
theorem w_ex (hg : Gw_ g K) (h : Hgw_ g K S0 S w τ c) (hl : l < 3) (hn : n ∈ w l) : ∃ t, t < 4 ∧ exd_ g S t n ∧ n < thw_ g S t l ∧ ac_ g l n = true := by
  obtain ⟨t, t4, ht⟩ := hq_wi h l n hl hn
  have y : n ∈ (w l).filter (inT_ g t) := List.mem_filter.mpr ⟨hn, ht⟩
  rw [hq_wf h l t hl t4] at y
  obtain ⟨⟨y1, y2⟩, y3⟩ := acw_mem.mp y
  have z := thw_le (l := l) hg (hq_vr h) t4
  exact ⟨t, t4, ⟨y1, by omega⟩, y2, y3⟩
theorem w_in (h : Hgw_ g K S0 S w τ c) (hl : l < 3) (q1 : t < 4) (h1 : gB_ g t ≤ n) (h2 : n < thw_ g S t l) (h3 : ac_ g l n = true) : n ∈ w l := by
  have y : n ∈ acw_ g l (gB_ g t) (thw_ g S t l) := acw_mem.mpr ⟨⟨h1, h2⟩, h3⟩
  rw [← hq_wf h l t hl q1] at y
  exact (List.mem_filter.mp y).1
theorem vw_ex (hg : Gw_ g K) (h : Hgw_ g K S0 S w τ c) (hl : l < 3) (q1 : t < 4) (hj : j ∈ vw_ g S t l (w l)) : ∃ u, u < 4 ∧ exd_ g S u j ∧ ac_ g l j = true := by
  rcases List.mem_append.mp hj with y | y
  · obtain ⟨u, u4, u1, -, u3⟩ := w_ex hg h hl y
    exact ⟨u, u4, u1, u3⟩
  · obtain ⟨⟨y1, y2⟩, y3⟩ := acw_mem.mp y
    have z := thw_le (l := l) hg (hq_vr h) q1
    exact ⟨t, q1, ⟨by omega, y2⟩, y3⟩
theorem vw_in (hg : Gw_ g K) (h : Hgw_ g K S0 S w τ c) (hl : l < 3) (q1 : t < 4) (hx : exd_ g S t n) (h3 : ac_ g l n = true) : n ∈ vw_ g S t l (w l) := by
  have z := thw_le (l := l) hg (hq_vr h) q1
  by_cases d : n < thw_ g S t l
  · exact List.mem_append.mpr (Or.inl (w_in h hl q1 hx.1 d h3))
  · exact List.mem_append.mpr (Or.inr (acw_mem.mpr ⟨⟨by omega, hx.2⟩, h3⟩))
/-- another thread's events do not change what a load read -/
theorem vw_src (hg : Gw_ g K) (h : Hgw_ g K S0 S w τ c) (hl : l < 3) (q1 : u < 4) (hx : exd_ g S u n) (hr : gC_ g n 1 = 1 ∨ gC_ g n 1 = 2) (h2 : gC_ g n 2 = (l : Int)) (hX : ∀ x, x ∈ X → x ≠ n) :
    lw_ g (bef_ n ((w l ++ X) ++ acw_ g l (thw_ g S u l) (gB_ g u + sP_ S u))) = lw_ g (bef_ n (vw_ g S u l (w l))) := by
  have v := hq_vr h
  have z := thw_le (l := l) hg v q1
  have hac : ac_ g l n = true := decide_eq_true ⟨by omega, h2⟩
  unfold vw_
  by_cases d : n ∈ w l
  · rw [bef_in (List.mem_append.mpr (Or.inl d)), bef_in d, bef_in d]
  · have d2 : ¬ n < thw_ g S u l := fun y => d (w_in h hl q1 hx.1 y hac)
    have hlt : thw_ g S u l < gB_ g u + sP_ S u := by have := hx.2; omega
    obtain ⟨g1, g2, g3, g4⟩ := thw_lt hg v q1 hlt
    have ej : ac_ g l (thw_ g S u l) = true := decide_eq_true ⟨by omega, g4⟩
    have nj : thw_ g S u l ≠ n := fun y => by
      rw [y] at g3
      omega
    rw [bef_out (A := w l ++ X) (fun y => (List.mem_append.mp y).elim d (fun y => hX n y rfl)), bef_out d, lw_app (A := w l ++ X), lw_app (A := w l) (B := bef_ n (acw_ g l (thw_ g S u l) (gB_ g u + sP_ S u))), acw_cons ej hlt]
    have y : ∃ k, lw_ g (bef_ n (thw_ g S u l :: acw_ g l (thw_ g S u l + 1) (gB_ g u + sP_ S u))) = some k := by
      unfold bef_
      rw [List.takeWhile_cons, decide_eq_true nj, if_pos rfl]
      unfold lw_
      rw [List.filter_cons_of_pos (p := wr_ g) (decide_eq_true (Or.inl g3))]
      exact ⟨_, List.getLast?_cons⟩
    obtain ⟨k, hk⟩ := y
    rw [hk]
    rfl
/-- values stay -/
theorem vlw_st (hR : ∀ u j, u < 4 → exd_ g S u j → gC_ g j 5 ≠ -1 → sR_ S2 (2 * u + (gC_ g j 5).toNat) = sR_ S (2 * u + (gC_ g j 5).toNat)) (hg : Gw_ g K) (v : Vr_ g K S) (q1 : u < 4) (hx : exd_ g S u j) : vlw_ g S2 j = vlw_ g S j := by
  have et := thd_at hg q1 hx.1 (seg_e hg v q1 hx).1
  unfold vlw_ gv_
  rw [et]
  by_cases d : gC_ g j 5 = -1
  · rw [if_pos d, if_pos d]
  · rw [if_neg d, if_neg d]
    exact hR u j q1 hx d
theorem mvl_st {L : List Nat} (hR : ∀ u j, u < 4 → exd_ g S u j → gC_ g j 5 ≠ -1 → sR_ S2 (2 * u + (gC_ g j 5).toNat) = sR_ S (2 * u + (gC_ g j 5).toNat)) (hg : Gw_ g K) (v : Vr_ g K S) (hL : ∀ j, j ∈ L → ∃ u, u < 4 ∧ exd_ g S u j) : mvl_ g S0 S2 L l = mvl_ g S0 S L l := by
  unfold mvl_
  cases e : lw_ g L with
  | none => rfl
  | some j =>
    obtain ⟨u, u4, hu⟩ := hL j (lw_mem e).1
    exact vlw_st hR hg v u4 hu
theorem mvl_lw {A B : List Nat} (h : lw_ g A = lw_ g B) : mvl_ g S0 S A l = mvl_ g S0 S B l := by
  unfold mvl_
  rw [h]
end HS
