/-! the reference explains an outcome -/
section RX5
variable {γ : ga_T} {σ s s0 : st_T} {A A' : ca_T} {p : pr_T} {K t w c m : Nat} {z y : Int} {S S0 S2 : gs_T} {e : ex_T} {F : Nat → Bool}
theorem gt_t1 (zP : Wp_ p) (hm : m < 3) (q1 : t < 4) : gt_ (gly_ p 0 (-1) m) S t w = gt_ (gcl_ p m (F0_ p)) S t w := by
  have hg := gw_ly (G := 0) (z := -1) zP hm
  obtain ⟨k1, k2, k3⟩ := gk_ hg q1
  rw [kl_0] at k2
  exact gt_cg (N := pN_ p) gly_0B rfl (fun n hn k => gly_0C hn k) (fun n hn => gly_0K zP hn) (by omega)
theorem gt_no1 (zP : Wp_ p) (h : Vb_ p m S) (q1 : t < 4) (q2 : w < 4) (z3 : pT_ p ≤ t ∨ 1 + pL_ p ≤ w) : gt_ (gly_ p 0 (-1) m) S t w = none := by
  rcases z3 with z3 | z3
  · have l0 := gly_T (G := 0) (z := -1) (m := m) zP z3
    have e1 : ga1_ (gly_ p 0 (-1) m) S t = none := by
      unfold ga1_
      rw [l0]
      rfl
    unfold gt_
    split
    · exact gx_n (Or.inl (by omega))
    · exact gc_none e1 _
  · unfold gt_
    rw [if_neg (by omega)]
    have e1 : gw1_ (gly_ p 0 (-1) m) S t ((w - 1 : Nat) : Int) = none := by
      cases e : gw1_ (gly_ p 0 (-1) m) S t ((w - 1 : Nat) : Int) with
      | none => rfl
      | some j =>
        obtain ⟨j1, j2, j3, -⟩ := gw1_in h.1 e
        have y := gly_L (m := m) zP j1 (by omega)
        omega
    unfold gc_ gn_
    rw [e1]
theorem xs_t1 (zP : Wp_ p) (hm : m < 3) (q1 : t < 4) (q : gt_ (gly_ p 0 (-1) m) S t w = some S2) : xs_ p (gly_ p 0 (-1) m) S (t, w) e = xs_ p (gcl_ p m (F0_ p)) S (t, w) e := by
  have hg := gw_ly (G := 0) (z := -1) zP hm
  obtain ⟨k1, k2, k3⟩ := gk_ hg q1
  rw [kl_0] at k2
  have eg : ∀ l : Int, gw2_ (gly_ p 0 (-1) m) S t l = gw2_ (gcl_ p m (F0_ p)) S t l := fun l => by
    unfold gw2_
    rw [← gly_0l, ← gly_0B]
    exact f2_cg _ _ (fun j j1 j2 => by rw [gly_0C (show j < pN_ p by omega)])
  have ea : ga1_ (gly_ p 0 (-1) m) S t = ga1_ (gcl_ p m (F0_ p)) S t := by
    unfold ga1_
    rw [← gly_0l, ← gly_0B]
  have en : ∀ l : Nat, gn_ (gly_ p 0 (-1) m) S t l = gn_ (gcl_ p m (F0_ p)) S t l := fun l => by
    have e1 : gw1_ (gly_ p 0 (-1) m) S t l = gw1_ (gcl_ p m (F0_ p)) S t l := by
      unfold gw1_
      rw [← gly_0l, ← gly_0B]
      exact f1_cg _ _ (fun j j1 j2 => by rw [gly_0C (show j < pN_ p by omega)])
    unfold gn_
    rw [e1, ea]
    rfl
  unfold xs_
  dsimp only
  by_cases y0 : w = 0
  · subst y0
    have q : gx_ (gly_ p 0 (-1) m) S t = some S2 := q
    obtain ⟨z1, -⟩ := gx_eq (by rw [q]; exact fun y => by cases y)
    have hn : gB_ (gly_ p 0 (-1) m) t + sP_ S t < pN_ p := by omega
    rw [if_pos rfl, if_pos rfl, eg, ← gly_0B, gly_0C hn, gly_0C hn]
    rfl
  · rw [if_neg y0, if_neg y0, en]
theorem xs_w2 (p : pr_T) (g : gm_T) (S : gs_T) (q : Nat × Nat) (e : ex_T) : (xs_ p g S q e).2.2.length ≤ e.2.2.length + 1 := by
  unfold xs_
  by_cases c : q.2 = 0
  · rw [if_pos c]
    by_cases c2 : gC_ g (gB_ g q.1 + sP_ S q.1) 1 = 2 ∨ (gC_ g (gB_ g q.1 + sP_ S q.1) 1 = 0 ∧ gm_ g = 0)
    · rw [if_pos c2]
      show (e.2.2 ++ [_]).length ≤ _
      rw [List.length_append]
      exact Nat.le_refl _
    · rw [if_neg c2]
      exact Nat.le_succ _
  · rw [if_neg c]
    cases gn_ g S q.1 (q.2 - 1) with
    | none => exact Nat.le_succ _
    | some n =>
      show (e.2.2 ++ [n]).length ≤ _
      rw [List.length_append]
      exact Nat.le_refl _
theorem lp_ld {g : gm_T} {cd : Nat} : ∀ (r : List (Nat × Nat)) (S : gs_T), Lp_ p g cd S r → Ld_ p g cd S
  | [], _, h => ld_fin h.1 h.2
  | _ :: r, _, h => by
    obtain ⟨-, l2, l3, ⟨S2, l4, l5⟩, -, -⟩ := h
    exact ld_step l2 l3 l4 (lp_ld r S2 l5)
/-- the path is walked -/
theorem l_walk {cd : Nat} {Q : rs_T → st_T → Prop} (zP : Wp_ p) (hm : m < 3) (zM : Mr_ s0 (gly_ p 0 (-1) m) (Kl_ p 0 (-1))) (hb : Br_ (gly_ p 0 (-1) m) (Kl_ p 0 (-1)) (s0k_ p (pL_ p))) (zT : Rk_ s0 (wq_ (gly_ p 0 (-1) m) (Kl_ p 0 (-1)) (br_ (gly_ p 0 (-1) m) (Kl_ p 0 (-1)) (s0k_ p (pL_ p)))) c) (hI : ∀ n, n < Kl_ p 0 (-1) → st_I s0 201 n = i_ (n : Int)) :
    ∀ (r : List (Nat × Nat)) (S : gs_T) (e : ex_T) (s : st_T), Vb_ p m S → Rl_ (gly_ p 0 (-1) m) (Kl_ p 0 (-1)) (s0k_ p (pL_ p)) S → Lp_ p (gcl_ p m (F0_ p)) cd S r → Wd s → ro_ dZ_ s0 s → Ls_ s (gly_ p 0 (-1) m) (Kl_ p 0 (-1)) (s0k_ p (pL_ p)) (Ld_ p (gcl_ p m (F0_ p)) cd) 0 → st_I s 185 47 = i_ 1 → Xt_ s p (gly_ p 0 (-1) m) S e → e.1.length + r.length ≤ 18 → e.2.2.length ≤ e.1.length →
      (∀ s2 Sf, Wd s2 → ro_ dZ_ s0 s2 → st_I s2 185 47 = i_ 1 → rf2_ (gly_ p 0 (-1) m) (Kl_ p 0 (-1)) Sf = true → Xt_ s2 p (gly_ p 0 (-1) m) Sf (xr_ p (gcl_ p m (F0_ p)) S e r) → Q (.inl (some (.int (st_I s2 185 53)))) s2) →
      vv_ γ m_X12_explain 7 226 [(0, .ref 185), (3, .long (lN (kr_ (gly_ p 0 (-1) m) (Kl_ p 0 (-1)) S)))] [] s Q := by
  have hg := zM.1
  have b := zP.1.1
  have bT := zP.1.2.1
  have bL := zP.1.2.2.1
  have h0 := (vb_0 (m := m) zP hm).1
  intro r
  induction r with
  | nil =>
    intro S e s hv hr hL w ro ls h47 X h1 h2 zQ
    refine g_X12_explain_226 w ?_
    unfold p_X12_explain_226
    have ef : rf2_ (gly_ p 0 (-1) m) (Kl_ p 0 (-1)) S = true := by
      rw [rf2_fi zP hv]
      exact hL.1
    refine ⟨_, s, w, c_rfinal w (mr_dZ ro zM) hv.1, fun y => ?_, fun _ => zQ s S w ro h47 ef X⟩
    rw [if_pos ef] at y
    exact absurd y (by decide)
  | cons q r ih =>
    intro S e s hv hr hL w ro ls h47 X h1 h2 zQ
    obtain ⟨t, v⟩ := q
    obtain ⟨l1, l2, l3, ⟨S2, l4, l5⟩, l6, l7⟩ := hL
    have l2 : t < pT_ p := l2
    have l3 : v ≤ pL_ p := l3
    have l4 : gt_ (gcl_ p m (F0_ p)) S t v = some S2 := l4
    have h1 : e.1.length + (r.length + 1) ≤ 18 := h1
    have g4 : gt_ (gly_ p 0 (-1) m) S t v = some S2 := (gt_t1 zP hm (by omega)).trans l4
    have ef : rf2_ (gly_ p 0 (-1) m) (Kl_ p 0 (-1)) S = false := by
      rw [rf2_fi zP hv]
      exact l1
    have ldS2 : Ld_ p (gcl_ p m (F0_ p)) cd S2 := lp_ld r S2 l5
    obtain ⟨s2, f2, w2, X2, r2⟩ := c_rleast (γ := γ) (LD := Ld_ p (gcl_ p m (F0_ p)) cd) (e := e) w (mr_dZ ro zM) h0 hb (rk_dZ ro zT) ls hr (show t < 4 by omega) (show v < 4 by omega) g4 ldS2 (fun u v2 S3 y1 y2 y3 => by
        by_cases c : v2 ≤ pL_ p
        · rw [gt_t1 zP hm (by omega)] at y3
          exact l6 u v2 S3 y1 c y3
        · rw [gt_no1 zP hv (by omega) y2 (Or.inr (by omega))] at y3
          cases y3) (fun v2 S3 y1 y3 => by
        rw [gt_t1 zP hm (by omega)] at y3
        exact l7 v2 S3 y1 y3) kl_0 b (fun n hn => by
        rw [zI_ ro (by omega)]
        exact hI n hn) (fun n hn k => gly_0C (by rw [kl_0] at hn; exact hn) k) X (by omega) (by omega)
    have hv2 := vb_step zP hm hv (show t < 4 by omega) (show v < 4 by omega) g4
    have hr2 := rl_step hg h0 hb hr (show t < 4 by omega) (show v < 4 by omega) g4
    rw [xs_t1 zP hm (by omega) g4] at X2
    have el := xs_len zP l4 e
    have el2 := xs_w2 p (gcl_ p m (F0_ p)) S (t, v) e
    have el1 : (xs_ p (gcl_ p m (F0_ p)) S (t, v) e).1.length = e.1.length + 1 := by
      rw [el, List.length_append]
      rfl
    have ex : xr_ p (gcl_ p m (F0_ p)) S e ((t, v) :: r) = xr_ p (gcl_ p m (F0_ p)) S2 (xs_ p (gcl_ p m (F0_ p)) S (t, v) e) r := by
      show (match gt_ (gcl_ p m (F0_ p)) S t v with | some S2 => xr_ p (gcl_ p m (F0_ p)) S2 (xs_ p (gcl_ p m (F0_ p)) S (t, v) e) r | none => e) = _
      rw [l4]
    rw [ex] at zQ
    refine g_X12_explain_226 w ?_
    unfold p_X12_explain_226
    refine ⟨_, s, w, c_rfinal w (mr_dZ ro zM) hv.1, fun _ => ⟨_, s2, w2, f2, ?_⟩, fun y => ?_⟩
    · refine ih S2 _ s2 hv2 hr2 l5 w2 (ro_tr ro (ro_up r2 (fun a k y => y.elim dS_Z dKx_Z))) (ls_cg (fun j _ => (r2.2 217 j (fun y => by
        rcases y with y | y
        · have := dS_q y
          omega
        · have := dKx_q y
          omega)).1) ls) ?_ X2 (by omega) (by omega) zQ
      rw [(r2.2 185 47 (fun y => by
        rcases y with y | y
        · have := dS_q y
          omega
        · have := dKx_q y
          omega)).1]
      exact h47
    · rw [if_neg (by rw [ef]; exact fun y => by cases y)] at y
      exact absurd rfl y
end RX5
