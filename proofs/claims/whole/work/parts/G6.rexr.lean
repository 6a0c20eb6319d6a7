/-! the reference: explain (T9) -/
section RX6
variable {γ : ga_T} {σ s s0 : st_T} {A A' : ca_T} {p : pr_T} {K t w c m : Nat} {z y : Int} {S S0 S2 : gs_T} {e : ex_T} {F : Nat → Bool}
/-- where all is done -/
theorem dn_all {g : gm_T} (hg : Gw_ g K) (h : rf2_ g K S = true) {i : Nat} (hi : i < K) : dn_ g S i := by
  obtain ⟨h1, -⟩ := rf2_iff.mp h
  obtain ⟨-, b0, b4, bm, -⟩ := id hg
  have y0 := bm 0 (by decide)
  have y1 := bm 1 (by decide)
  have y2 := bm 2 (by decide)
  have y3 := bm 3 (by decide)
  simp only [Nat.zero_add, Nat.reduceAdd] at y0 y1 y2 y3
  have x0 := h1 0 (by decide)
  have x1 := h1 1 (by decide)
  have x2 := h1 2 (by decide)
  have x3 := h1 3 (by decide)
  obtain ⟨g0, -⟩ := gk_ hg (show 0 < 4 by decide)
  obtain ⟨g1, -⟩ := gk_ hg (show 1 < 4 by decide)
  obtain ⟨g2, -⟩ := gk_ hg (show 2 < 4 by decide)
  obtain ⟨g3, -⟩ := gk_ hg (show 3 < 4 by decide)
  simp only [Nat.zero_add, Nat.reduceAdd] at g0 g1 g2 g3
  by_cases c1 : i < gB_ g 1
  · exact ⟨0, by decide, by omega, by omega⟩
  · by_cases c2 : i < gB_ g 2
    · exact ⟨1, by decide, by omega, by omega⟩
    · by_cases c3 : i < gB_ g 3
      · exact ⟨2, by decide, by omega, by omega⟩
      · exact ⟨3, by decide, by omega, by omega⟩
theorem wt_0 (f : ∀ l, l < 3 → st_I s 215 l = i_ 0 ∧ st_I s 216 l = i_ (-1)) : Wt_ s p [] := fun l hl => ⟨(f l hl).1, (f l hl).2, fun k n h => by cases h⟩
/-- the explanation's rows, as the data have them -/
theorem jr_ex (j : Jr_ s0 A c) (w : Wd s) (r : ro_ dZ_ s0 s) (h47 : st_I s 185 47 = i_ 1) (hx : Rx_ s (aP_ A).1 e) : Jr_ s (aB_ A, an2_ A, aP_ A, aO_ A, aC_ A, some e) c := by
  obtain ⟨-, t0, ⟨b1, b2, b3⟩, q, ⟨o1, o2⟩, ⟨c1, c2⟩, -⟩ := j
  refine ⟨w, rt0_cg (fun a k z => zI_ r (by omega)) t0, ⟨b1, (zI_ r (by omega)).trans b2, fun k z => (zI_ r (by omega)).trans (b3 k z)⟩, rq_cg (fun a k z => zI_ r (by omega)) q, ⟨(zI_ r (by omega)).trans o1, fun k z y => ?_⟩, ⟨(zI_ r (by omega)).trans c1, krr_cg (fun k => zI_ r (by omega)) _ _ c2⟩, h47, hx⟩
  rw [zI_ r (by omega)]
  exact o2 k z y
/-- leading on, a step at a time -/
theorem ld_iff (zP : Wp_ p) (hm : m < 3) (hv : Vb_ p m S) {cd : Nat} : Ld_ p (gcl_ p m (F0_ p)) cd S ↔ (FC_ p (gly_ p 0 (-1) m) (Kl_ p 0 (-1)) cd S ∨ ∃ t w S2, t < 4 ∧ w < 4 ∧ gt_ (gly_ p 0 (-1) m) S t w = some S2 ∧ Ld_ p (gcl_ p m (F0_ p)) cd S2) := by
  have bT := zP.1.2.1
  have bL := zP.1.2.2.1
  have ec := rc_cc zP.1 (cD_r hv.1 (pT_ p))
  constructor
  · intro h
    rcases ld_cases zP (vb_vg zP hv) h with ⟨h1, h2⟩ | ⟨-, t, w, S2, h1, h2, h3, h4⟩
    · exact Or.inl ⟨(rf2_fi zP hv).trans h1, by rw [← ec]; exact h2⟩
    · exact Or.inr ⟨t, w, S2, by omega, by omega, by rw [gt_t1 zP hm (by omega)]; exact h3, h4⟩
  · rintro (⟨h1, h2⟩ | ⟨t, w, S2, h1, h2, h3, h4⟩)
    · rw [rf2_fi zP hv] at h1
      exact ld_fin h1 (by rw [ec]; exact h2)
    · by_cases c : pT_ p ≤ t ∨ 1 + pL_ p ≤ w
      · rw [gt_no1 zP hv h1 h2 c] at h3
        cases h3
      · rw [gt_t1 zP hm h1] at h3
        exact ld_step (by omega) (by omega) h3 h4
theorem xr_len (zP : Wp_ p) {cd : Nat} : ∀ (r : List (Nat × Nat)) (S : gs_T) (e : ex_T), Lp_ p (gcl_ p m F) cd S r → (xr_ p (gcl_ p m F) S e r).1 = e.1 ++ r
  | [], _, e, _ => (List.append_nil _).symm
  | (t, w) :: r, S, e, h => by
    obtain ⟨-, l2, l3, ⟨S2, l4, l5⟩, -, -⟩ := h
    have l4 : gt_ (gcl_ p m F) S t w = some S2 := l4
    show (match gt_ (gcl_ p m F) S t w with | some S2 => xr_ p (gcl_ p m F) S2 (xs_ p (gcl_ p m F) S (t, w) e) r | none => e).1 = _
    rw [l4]
    dsimp only
    rw [xr_len zP r S2 _ l5, xs_len zP l4, List.append_assoc]
    rfl
theorem r_explain (h : Jr_ σ A c) (hc : c < 1073741822) (zP : Wp_ (aP_ A).1) (hb : Bz_ (aP_ A).1) (q1 : -2147483648 ≤ z ∧ z < 2147483648) (q2 : -2147483648 ≤ y ∧ y < 2147483648)
    (hA : (A' = A ∧ ¬ (0 ≤ z ∧ z < 3 ∧ fp_ (O_ A z.toNat) y ≠ -1)) ∨ ((0 ≤ z ∧ z < 3 ∧ fp_ (O_ A z.toNat) y ≠ -1) ∧ ∃ r O, Lp_ (aP_ A).1 (gcl_ (aP_ A).1 z.toNat (F0_ (aP_ A).1)) y.toNat (s0k_ (aP_ A).1 (pL_ (aP_ A).1)) r ∧ A' = (aB_ A, an2_ A, aP_ A, aO_ A, aC_ A, some (xr_ (aP_ A).1 (gcl_ (aP_ A).1 z.toNat (F0_ (aP_ A).1)) (s0k_ (aP_ A).1 (pL_ (aP_ A).1)) ([], O, []) r))))
    (hE : ∀ e, aE_ A' = some e → e.1.length ≤ 18 ∧ e.2.2.length ≤ 8) : Ra_ γ m_X12_explain 7 [.ref 185, .int (i_ z), .int (i_ y)] σ A' c eI_ (mq_ z (fun m => if fp_ (O_ A m) y = -1 then ri_ (-1) else ri_ (ev_ A').1.length)) := by
  refine ra_of (e_X12_explain h.1 ?_)
  unfold p_X12_explain_0
  have hA0 : ¬ (0 ≤ z ∧ z < 3 ∧ fp_ (O_ A z.toNat) y ≠ -1) → A' = A := fun n => by
    rcases hA with ⟨e, -⟩ | ⟨e, -⟩
    · exact e
    · exact absurd e n
  refine rq1_ h.1 q1 (fun hz => ?_) (fun hz => ?_)
  · obtain ⟨m, rfl⟩ : ∃ m : Nat, z = m := ⟨z.toNat, by omega⟩
    have hm : m < 3 := by omega
    obtain ⟨s, f1, k⟩ := c_rw0 (γ := γ) h hc zP hm hb
    have w := k.2.2.1.1
    have o := k.2.2.2.1
    have cf := c_rfind (γ := γ) w o k.2.2.2.2 q2
    have fr := fp_rng (O_ A m) y (Nat.le_trans o.1 (by decide))
    refine ⟨s, w, f1, _, s, w, cf, fun u => ?_, fun u => ?_⟩
    · have u2 : fp_ (O_ A m) y = -1 := by
        rw [km1_, i_eq (by omega) (by omega)] at u
        exact u
      have eA : A' = A := hA0 (fun n => n.2.2 (by rw [Int.toNat_natCast]; exact u2))
      rw [eA]
      refine rw_ans0 k ((mq_yes hm).trans ?_)
      rw [if_pos u2]
      rfl
    · have u2 : fp_ (O_ A m) y ≠ -1 := fun u2 => u (by rw [u2]; rfl)
      rcases hA with ⟨-, n⟩ | ⟨-, r, O, hL, hA2⟩
      · exact absurd ⟨hz.1, hz.2, by rw [Int.toNat_natCast]; exact u2⟩ n
      · rw [Int.toNat_natCast] at hL hA2
        obtain ⟨cd, e1, e2, -⟩ := ocs_ld (show fp_ (ocs_ (aP_ A).1 m (F0_ (aP_ A).1)) y ≠ -1 from u2)
        subst e1
        rw [Int.toNat_natCast] at hL
        have el := xr_len zP r _ ([], O, []) hL
        obtain ⟨z18, z8⟩ := hE (xr_ (aP_ A).1 (gcl_ (aP_ A).1 m (F0_ (aP_ A).1)) (s0k_ (aP_ A).1 (pL_ (aP_ A).1)) ([], O, []) r) (by rw [hA2]; rfl)
        have lr : r.length ≤ 18 := by
          rw [el] at z18
          exact z18
        obtain ⟨⟨-, zT, zM, -, -⟩, zN, zL⟩ := k.1
        have hB := bz_0 hb hm
        have v0 := vb_0 (m := m) zP hm
        have hg := zM.1
        have al := vb_bn zP hm (kr_ (gly_ (aP_ A).1 0 (-1) m) (Kl_ (aP_ A).1 0 (-1))) 65535
        have hI : ∀ n, n < Kl_ (aP_ A).1 0 (-1) → st_I s 201 n = i_ (n : Int) := fun n hn => by
          rw [kl_0] at hn
          exact (zL n _ ((ly_0 (pN_ (aP_ A).1)).2 n hn)).1
        have e39 : st_I s 185 39 = i_ ((br_ (gly_ (aP_ A).1 0 (-1) m) (Kl_ (aP_ A).1 0 (-1)) (s0k_ (aP_ A).1 (pL_ (aP_ A).1))).length : Int) := by
          rw [zT.2.2.1.1]
          unfold wq_
          rw [List.length_map]
        rw [e39, k1_, i_sub]
        -- the rows of the explanation are empty
        have lp : ∀ k2 l : Nat, l + k2 = 3 → ∀ s', Wd s' → ro_ dZ_ s s' → Ls_ s' (gly_ (aP_ A).1 0 (-1) m) (Kl_ (aP_ A).1 0 (-1)) (s0k_ (aP_ A).1 (pL_ (aP_ A).1)) (Ld_ (aP_ A).1 (gcl_ (aP_ A).1 m (F0_ (aP_ A).1)) cd) 0 → st_I s' 185 47 = i_ 1 → st_I s' 185 53 = i_ 0 → (∀ j, j < l → st_I s' 215 j = i_ 0 ∧ st_I s' 216 j = i_ (-1)) →
            vv_ γ m_X12_explain 7 196 [(0, .ref 185), (3, .int (i_ (l : Int)))] [] s' (Re2_ σ A' c eI_ (mq_ (m : Int) (fun m => if fp_ (O_ A m) (cd : Int) = -1 then ri_ (-1) else ri_ (ev_ A').1.length))) := by
          intro k2
          induction k2 with
          | zero =>
            intro l zl s' w' r' ls h47 h53 hj
            have zl : l = 3 := by omega
            subst zl
            refine g_X12_explain_196 w' ?_
            unfold p_X12_explain_196
            refine ⟨fun _ => ⟨_, s', w', c_rfirst w' hg (nr_ro r' (fun k z => by unfold dZ_ at z; omega) zN), ?_⟩, fun y => absurd (by decide) y⟩
            refine l_walk (γ := γ) zP hm zM hB zT hI r _ ([], O, []) s' v0 (rl_0 hg v0.1) hL w' r' ls h47 ⟨⟨h53, fun i q hq => by cases hq⟩, fun i _ _ ⟨u, _, u2, u3⟩ => ?_, wt_0 hj⟩ (by show 0 + r.length ≤ 18; omega) (Nat.le_refl _) (fun s2 Sf w2 r2 h2 hf X2 => ?_)
            · have u3 : i < gB_ (gly_ (aP_ A).1 0 (-1) m) u + 0 := u3
              omega
            · obtain ⟨⟨x1, x2⟩, x3, x4⟩ := X2
              have hx : Rx_ s2 (aP_ A).1 (xr_ (aP_ A).1 (gcl_ (aP_ A).1 m (F0_ (aP_ A).1)) (s0k_ (aP_ A).1 (pL_ (aP_ A).1)) ([], O, []) r) := ⟨⟨x1, z18, x2⟩, fun i z1 z2 => x3 i z1 z2 (dn_all hg hf (by rw [kl_0]; exact z1)), z8, fun l hl => ⟨(x4 l hl).1, (x4 l hl).2.2⟩⟩
              have j2 := jr_ex k.2.2.1 w2 r2 h2 hx
              rw [← hA2] at j2
              refine ⟨_, rfl, c + 1, j2, by omega, ro_tr (ro_tr (ro_up (th_I _) (fun a k z => by unfold dM_; omega)) (ro_up k.2.1 (fun a j y => dW_M (dR_W y)))) (ro_up r2 (fun a j y => by unfold dZ_ at y; unfold dM_; omega)), ?_⟩
              rw [mq_yes hm, if_neg u2]
              refine ⟨?_, ?_⟩
              · have ee : ev_ A' = xr_ (aP_ A).1 (gcl_ (aP_ A).1 m (F0_ (aP_ A).1)) (s0k_ (aP_ A).1 (pL_ (aP_ A).1)) ([], O, []) r := by
                  rw [hA2]
                  rfl
                rw [x1, ee]
              · rw [zI_ r2 (by omega), dRn_0 k.2.1]
                exact st_sI _ _ _ _
          | succ k2 ih =>
            intro l zl s' w' r' ls h47 h53 hj
            refine g_X12_explain_196 w' ?_
            unfold p_X12_explain_196
            have nl : ¬ (3 : Int32) ≤ i_ (l : Int) := by
              rw [k3_, i_le (by omega) (by omega)]
              omega
            have el : i_ (l : Int) + (1 : Int32) = i_ ((l + 1 : Nat) : Int) := by
              rw [k1_, i_add]
              rfl
            rw [el, i_cl (a := (l : Int)) (by omega), Int.toNat_natCast]
            refine ⟨fun y => absurd y nl, fun _ => ⟨i_in (by omega) (by omega) (by omega), i_in (by omega) (by omega) (by omega), ih (l + 1) (by omega) _ (show Wd (pt_I (pt_I s' 215 l 0) 216 l (-1)) from w') (ro_I (ro_I r' (show dZ_ _ _ by unfold dZ_; omega)) (show dZ_ _ _ by unfold dZ_; omega)) (ls_cg (fun j _ => by rw [st_pI, if_neg (by omega), st_pI, if_neg (by omega)]) ls) ?_ ?_ (fun j hj2 => ?_)⟩⟩
            · rw [st_pI, if_neg (by omega), st_pI, if_neg (by omega)]
              exact h47
            · rw [st_pI, if_neg (by omega), st_pI, if_neg (by omega)]
              exact h53
            · by_cases cj : j = l
              · subst cj
                refine ⟨?_, st_sI _ _ _ _⟩
                rw [st_pI, if_neg (by omega)]
                exact st_sI _ _ _ _
              · obtain ⟨y1, y2⟩ := hj j (by omega)
                refine ⟨?_, ?_⟩
                · rw [st_pI, if_neg (by omega), st_pI, if_neg (by omega)]
                  exact y1
                · rw [st_pI, if_neg (by omega), st_pI, if_neg (by omega)]
                  exact y2
        refine l_leads (γ := γ) (LD := Ld_ (aP_ A).1 (gcl_ (aP_ A).1 m (F0_ (aP_ A).1)) cd) zM zN v0.1 hB zT e2 (fun S hr => ?_) (fun s1 w1 r1 ls => ?_) _ (Nat.le_refl _) s w ro_rf (fun j x z1 z2 => ?_)
        · obtain ⟨q, hq, hq2⟩ := hr
          unfold br_ at hq
          have := al q hq
          rw [hq2] at this
          exact ld_iff zP hm this
        · exact lp 3 0 rfl _ (show Wd (pt_I (pt_I s1 185 47 1) 185 53 0) from w1) (ro_I (ro_I r1 (show dZ_ _ _ by unfold dZ_; omega)) (show dZ_ _ _ by unfold dZ_; omega)) (ls_cg (fun j _ => by rw [st_pI, if_neg (by omega), st_pI, if_neg (by omega)]) ls) (by
            rw [st_pI, if_neg (by omega)]
            exact st_sI _ _ _ _) (st_sI _ _ _ _) (fun j hj => absurd hj (Nat.not_lt_zero j))
        · exact absurd (List.getElem?_eq_some_iff.mp z2).1 (by omega)
  · rw [hA0 (fun n => hz ⟨n.1, n.2.1⟩)]
    exact re_fail h (mq_no hz) tcd_1 _
end RX6
