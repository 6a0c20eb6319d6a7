/-! the reference's explanation: a step -/
section RQ
variable {γ : ga_T} {σ s s1 : st_T} {p : pr_T} {g : gm_T} {K t w n k l m : Nat} {S S2 : gs_T} {e : ex_T} {W : List Nat}
theorem xt_end {x1 s2 : st_T} {q : Nat × Nat} {O : Nat → Int} {W2 : List Nat} (h1 : st_I x1 185 53 = i_ ((e.1.length + 1 : Nat) : Int)) (h2 : st_I x1 212 e.1.length = i_ ((10 * q.1 + q.2 : Nat) : Int)) (h3 : ∀ i, i < e.1.length → st_I x1 212 i = st_I s 212 i) (a2 : ∀ i q, e.1[i]? = some q → st_I s 212 i = i_ ((10 * q.1 + q.2 : Nat) : Int))
    (h4 : ∀ i, i < pN_ p → (pC_ p i 1 = 1 ∨ pC_ p i 1 = 2) → dn_ g S2 i → st_I x1 213 i = i_ (O i)) (r : ro_ dKy_ x1 s2) (hW : Wt_ s2 p W2) : Xt_ s2 p g S2 (e.1 ++ [q], O, W2) := by
  have f : ∀ a k, (a < 214) → st_I s2 a k = st_I x1 a k := fun a k z => (r.2 a k (fun y => by unfold dKy_ at y; omega)).1
  refine ⟨⟨?_, fun i x hx => ?_⟩, fun i z1 z2 z3 => (f _ _ (by decide)).trans (h4 i z1 z2 z3), hW⟩
  · rw [f _ _ (by decide), h1]
    show _ = i_ ((e.1 ++ [q]).length : Int)
    rw [List.length_append]
    rfl
  · have hx : (e.1 ++ [q])[i]? = some x := hx
    rw [f _ _ (by decide)]
    by_cases z : i < e.1.length
    · rw [List.getElem?_append_left z] at hx
      rw [h3 i z]
      exact a2 i x hx
    · have z2 := (List.getElem?_eq_some_iff.mp hx).1
      rw [List.length_append, List.length_singleton] at z2
      have z3 : i = e.1.length := by omega
      subst z3
      rw [List.getElem?_append_right (Nat.le_refl _), Nat.sub_self] at hx
      have hx : some q = some x := hx
      rw [h2, Option.some.inj hx]
set_option maxRecDepth 20000 in
theorem c_rtakes (zw : Wd s) (zM : Mr_ s g K) (hK : K = pN_ p) (hN : pN_ p ≤ 10) (hI : ∀ n, n < K → st_I s 201 n = i_ (n : Int)) (hC : ∀ n, n < K → ∀ k, gC_ g n k = pC_ p n k) (q1 : t < 4) (q2 : w < 4) (q : gt_ g S t w = some S2) (x0 : w = 0 → st_I s 185 33 = i_ ((gB_ g t + sP_ S t : Nat) : Int) ∧ st_I s 185 34 = i_ (so_ g S t)) (x1 : w ≠ 0 → ∃ n, gn_ g S t (w - 1) = some n ∧ st_I s 185 33 = i_ (n : Int)) (X : Xt_ s p g S e) (he : e.1.length < 40) (hW : e.2.2.length < 40) :
    ∃ s2, fw_ γ m_X12_takes 1 [.ref 185, .int (i_ (t : Int)), .int (i_ (w : Int))] s s2 ∧ Wd s2 ∧ Xt_ s2 p g S2 (xs_ p g S (t, w) e) ∧ ro_ dKx_ s s2 := by
  obtain ⟨⟨a1, a2⟩, a3, a4⟩ := X
  obtain ⟨hg, hm, hB, hI2⟩ := id zM
  have hm3 := hg.2.2.2.2.2.2.1
  obtain ⟨g1, g2, g3⟩ := gk_ hg q1
  suffices h : sp_ γ m_X12_takes 1 [.ref 185, .int (i_ (t : Int)), .int (i_ (w : Int))] s (fun r s2 => r = .inl none ∧ (Wd s2 ∧ Xt_ s2 p g S2 (xs_ p g S (t, w) e) ∧ ro_ dKx_ s s2)) from fw_of h
  have zQ : ∀ s2, Wd s2 → Xt_ s2 p g S2 (xs_ p g S (t, w) e) → ro_ dKx_ s s2 → (fun (r : rs_T) s2 => r = .inl none ∧ (Wd s2 ∧ Xt_ s2 p g S2 (xs_ p g S (t, w) e) ∧ ro_ dKx_ s s2)) (.inl none) s2 := fun s2 a b d => ⟨rfl, a, b, d⟩
  revert zQ
  generalize (fun (r : rs_T) s2 => r = .inl none ∧ (Wd s2 ∧ Xt_ s2 p g S2 (xs_ p g S (t, w) e) ∧ ro_ dKx_ s s2)) = Q
  intro zQ
  refine e_X12_takes zw ?_
  unfold p_X12_takes_0
  have ec : ((10 : Int32) * i_ (t : Int)) + i_ (w : Int) = i_ ((10 * t + w : Nat) : Int) := by
    rw [k10_, i_mul, i_add]
    rfl
  have el : i_ (e.1.length : Int) + (1 : Int32) = i_ ((e.1.length + 1 : Nat) : Int) := by
    rw [k1_, i_add]
    rfl
  rw [a1, ec, el, i_cl (a := (e.1.length : Int)) (by omega), Int.toNat_natCast]
  have wA : Wd (pt_I (pt_I s 212 e.1.length (i_ ((10 * t + w : Nat) : Int))) 185 53 (i_ ((e.1.length + 1 : Nat) : Int))) := zw
  have rA : ro_ dKx_ s (pt_I (pt_I s 212 e.1.length (i_ ((10 * t + w : Nat) : Int))) 185 53 (i_ ((e.1.length + 1 : Nat) : Int))) := ro_I (ro_I ro_rf (show dKx_ _ _ by unfold dKx_; omega)) (show dKx_ _ _ by unfold dKx_; omega)
  have iA : ∀ a k, st_I (pt_I (pt_I s 212 e.1.length (i_ ((10 * t + w : Nat) : Int))) 185 53 (i_ ((e.1.length + 1 : Nat) : Int))) a k = if a = 185 ∧ k = 53 then i_ ((e.1.length + 1 : Nat) : Int) else if a = 212 ∧ k = e.1.length then i_ ((10 * t + w : Nat) : Int) else st_I s a k := fun a k => rfl
  revert wA rA iA
  generalize pt_I (pt_I s 212 e.1.length (i_ ((10 * t + w : Nat) : Int))) 185 53 (i_ ((e.1.length + 1 : Nat) : Int)) = sA
  intro wA rA iA
  have wtA : ∀ (o : Int32) (n : Nat), Wt_ (pt_I sA 213 n o) p e.2.2 := fun o n => wt_cg (fun a k z1 z2 => by rw [st_pI, if_neg (by omega), iA, if_neg (by omega), if_neg (by omega)]) a4
  have wtA0 : Wt_ sA p e.2.2 := wt_cg (fun a k z1 z2 => by rw [iA, if_neg (by omega), if_neg (by omega)]) a4
  by_cases y0 : w = 0
  · subst y0
    obtain ⟨x33, x34⟩ := x0 rfl
    clear x0 x1
    have q : gx_ g S t = some S2 := q
    obtain ⟨z1, z2⟩ := gx_eq (by rw [q]; exact fun y => by cases y)
    have eb := gx_b z1 z2
    rw [q] at eb
    have eb := Option.some.inj eb
    have hP : ∀ u, sP_ S2 u = if u = t then sP_ S t + 1 else sP_ S u := fun u => by
      rw [eb, gxb_P]
      rfl
    obtain ⟨n, hn⟩ : ∃ n, n = gB_ g t + sP_ S t := ⟨_, rfl⟩
    have nK : n < K := by omega
    have dn2 : ∀ i, dn_ g S2 i → i = n ∨ dn_ g S i := fun i ⟨u, u1, u2, u3⟩ => by
      rw [hP] at u3
      by_cases c : u = t
      · subst c
        rw [if_pos rfl] at u3
        by_cases c2 : i = n
        · exact Or.inl c2
        · exact Or.inr ⟨u, u1, u2, by omega⟩
      · rw [if_neg c] at u3
        exact Or.inr ⟨u, u1, u2, u3⟩
    obtain ⟨i1, i2, -⟩ := hI2 n nK
    obtain ⟨b1, b2, b3, -⟩ := hg.2.2.2.2.2.2.2.1 n nK
    rw [← hn] at x33 eb
    have hK2 : gK_ g n = decide (2 ≤ gC_ g n 1) := hg.2.2.2.2.1 n
    have i9 := hI n nK
    rw [hC n nK] at i1 i2 b1 b2 b3 hK2
    rw [hC n nK] at b3
    rw [x33, x34, i_cl (a := (n : Int)) (by omega), Int.toNat_natCast, i1, i2, i9, hm, i_cl (a := (n : Int)) (by omega), Int.toNat_natCast]
    have vi : vp_in (i_ (n : Int)) 40 := i_in (by omega) (by omega) (by omega)
    have ex : xs_ p g S (t, 0) e = (e.1 ++ [(t, 0)], if pC_ p n 1 = 1 ∨ pC_ p n 1 = 2 then (fun i => if i = n then (match gw2_ g S t (pC_ p n 2) with | some j => (j : Int) | none => ltw_ p e.2.2 (pC_ p n 2)) else e.2.1 i) else e.2.1, if pC_ p n 1 = 2 ∨ (pC_ p n 1 = 0 ∧ gm_ g = 0) then e.2.2 ++ [n] else e.2.2) := by
      unfold xs_
      dsimp only
      rw [if_pos rfl, ← hn, hC n nK, hC n nK]
      rfl
    have eso : so_ g S t = if pC_ p n 1 = 1 then (match gw2_ g S t (pC_ p n 2) with | some j => (j : Int) | none => -2) else if pC_ p n 1 = 2 then -2 else -1 := by
      unfold so_
      rw [← hn, hC n nK, hC n nK]
      rfl
    rw [ex] at zQ
    refine ⟨i_in (by omega) (by omega) (by omega), fun _ => ?_, fun y => absurd (Int32.le_refl _) y⟩
    -- where nothing is read
    have tl := fun (x1 : st_T) (w1 : Wd x1) (hW1 : Wt_ x1 p e.2.2) (Q : rs_T → st_T → Prop) => tk_tail (γ := γ) (Q := Q) w1 (show n < pN_ p by omega) hN (kd := pC_ p n 1) (mo := gm_ g) b1 hm3 (fun h => by have := b3 (by omega); omega) hW1 (by omega)
    by_cases c0 : pC_ p n 1 = 1 ∨ pC_ p n 1 = 2
    · rw [if_pos c0] at zQ
      cases gw : gw2_ g S t (pC_ p n 2) with
      | none =>
        rw [gw] at zQ
        have es : so_ g S t = -2 := by
          rw [eso, gw]
          rcases c0 with c0 | c0
          · rw [if_pos c0]
          · rw [if_neg (by omega), if_pos c0]
        obtain ⟨l, hl⟩ : ∃ l : Nat, pC_ p n 2 = l := ⟨(pC_ p n 2).toNat, by have := b3 (by omega); omega⟩
        have hl3 : l < 3 := by omega
        rw [es, km1_, show (-2 : Int32) = i_ (-2) by decide, i_eq (by omega) (by omega), hl, i_cl (a := (l : Int)) (by omega), Int.toNat_natCast, (a4 l hl3).2.1, ← hl]
        refine ⟨fun y => absurd y (by decide), fun _ => ⟨vi, fun _ => ⟨vi, by rw [hl]; exact i_in (by omega) (by omega) (by omega), i_in (by omega) (by omega) (by omega), tl _ (show Wd (pt_I sA 213 n _) from wA) (wtA _ n) Q (fun s2 w2 r2 h2 => zQ s2 w2 ?_ ?_)⟩, fun y => absurd rfl y⟩⟩
        · refine xt_end (x1 := pt_I sA 213 n (i_ (ltw_ p e.2.2 (pC_ p n 2)))) (s := s) (q := (t, 0)) ?_ ?_ (fun i hi => ?_) a2 (fun i z1 z2 z3 => ?_) r2 h2
          · rw [st_pI, if_neg (by omega), iA, if_pos ⟨rfl, rfl⟩]
          · rw [st_pI, if_neg (by omega), iA, if_neg (by omega), if_pos ⟨rfl, rfl⟩]
          · rw [st_pI, if_neg (by omega), iA, if_neg (by omega), if_neg (by omega)]
          · rw [st_pI]
            by_cases c : i = n
            · rw [if_pos ⟨rfl, c⟩, if_pos c]
            · rw [if_neg (fun y => c y.2), if_neg c, iA, if_neg (by omega), if_neg (by omega)]
              exact a3 i z1 z2 ((dn2 i z3).resolve_left c)
        · exact ro_tr (ro_I rA (show dKx_ _ _ by unfold dKx_; omega)) (ro_up r2 (fun a k y => by unfold dKy_ at y; unfold dKx_; omega))
      | some j =>
        rw [gw] at zQ
        obtain ⟨j1, j2, -, -⟩ := (f2_some _ _ _).mp gw
        have k1 : pC_ p n 1 = 1 := by
          rcases c0 with c0 | c0
          · exact c0
          · exfalso
            rw [c0] at hK2
            have ga : ga1_ g S t = none := Classical.byContradiction (fun y => z2 ⟨by rw [← hn]; exact hK2, y⟩)
            have ga := (f1_none _ _ _).mp ga
            obtain ⟨-, -, j3, -⟩ := (f2_some _ _ _).mp gw
            rw [ga j j1 j2] at j3
            cases j3
        have es : so_ g S t = j := by
          rw [eso, gw, if_pos k1]
        have jK : j < K := by omega
        rw [es, km1_, show (-2 : Int32) = i_ (-2) by decide, i_eq (by omega) (by omega), i_eq (by omega) (by omega), i_cl (a := (j : Int)) (by omega), Int.toNat_natCast, hI j jK]
        refine ⟨fun y => absurd y (by omega), fun _ => ⟨vi, fun y => absurd y (by omega), fun _ => ⟨i_in (by omega) (by omega) (by omega), i_in (by omega) (by omega) (by omega), tl _ (show Wd (pt_I sA 213 n _) from wA) (wtA _ n) Q (fun s2 w2 r2 h2 => zQ s2 w2 ?_ ?_)⟩⟩⟩
        · refine xt_end (x1 := pt_I sA 213 n (i_ (j : Int))) (s := s) (q := (t, 0)) ?_ ?_ (fun i hi => ?_) a2 (fun i z1 z2 z3 => ?_) r2 h2
          · rw [st_pI, if_neg (by omega), iA, if_pos ⟨rfl, rfl⟩]
          · rw [st_pI, if_neg (by omega), iA, if_neg (by omega), if_pos ⟨rfl, rfl⟩]
          · rw [st_pI, if_neg (by omega), iA, if_neg (by omega), if_neg (by omega)]
          · rw [st_pI]
            by_cases c : i = n
            · rw [if_pos ⟨rfl, c⟩, if_pos c]
            · rw [if_neg (fun y => c y.2), if_neg c, iA, if_neg (by omega), if_neg (by omega)]
              exact a3 i z1 z2 ((dn2 i z3).resolve_left c)
        · exact ro_tr (ro_I rA (show dKx_ _ _ by unfold dKx_; omega)) (ro_up r2 (fun a k y => by unfold dKy_ at y; unfold dKx_; omega))
    · rw [if_neg c0] at zQ
      have es : so_ g S t = -1 := by
        rw [eso, if_neg (by omega), if_neg (by omega)]
      rw [es, km1_]
      refine ⟨fun _ => tl _ wA wtA0 Q (fun s2 w2 r2 h2 => zQ s2 w2 ?_ ?_), fun y => absurd rfl y⟩
      · refine xt_end (x1 := sA) (s := s) (q := (t, 0)) ?_ ?_ (fun i hi => ?_) a2 (fun i z1 z2 z3 => ?_) r2 h2
        · rw [iA, if_pos ⟨rfl, rfl⟩]
        · rw [iA, if_neg (by omega), if_pos ⟨rfl, rfl⟩]
        · rw [iA, if_neg (by omega), if_neg (by omega)]
        · rw [iA, if_neg (by omega), if_neg (by omega)]
          exact a3 i z1 z2 ((dn2 i z3).resolve_left (fun c => c0 (by rw [← c]; exact z2)))
      · exact ro_tr rA (ro_up r2 (fun a k y => by unfold dKy_ at y; unfold dKx_; omega))
  · obtain ⟨n, gn, x33⟩ := x1 y0
    clear x0 x1
    have q : gc_ g S t (w - 1) = some S2 := by
      unfold gt_ at q
      rw [if_neg y0] at q
      exact q
    obtain ⟨n', y1, y2, -, -⟩ := gc_sum q
    obtain ⟨n1, n2, n3, n4⟩ := gn_sum gn
    have nK : n < K := by omega
    obtain ⟨i1, i2, -⟩ := hI2 n nK
    have i9 := hI n nK
    rw [hC n nK] at i2 n4
    rw [x33, i_cl (a := (n : Int)) (by omega), Int.toNat_natCast, i2, i9, n4]
    have ex : xs_ p g S (t, w) e = (e.1 ++ [(t, w)], e.2.1, e.2.2 ++ [n]) := by
      unfold xs_
      dsimp only
      rw [if_neg y0, gn]
    rw [ex] at zQ
    have lw := wlf_le (p := p) e.2.2 (w - 1)
    have f := c_rwrites (γ := γ) wA (l := w - 1) (by omega) (k := (wlf_ p (w - 1) e.2.2).length) (by omega) (wtA0 (w - 1) (by omega)).1 (i_ (n : Int))
    have wt := wt_w (p := p) (n := n) wtA0 (by omega) n4 (by omega) (by omega)
    refine ⟨i_in (by omega) (by omega) (by omega), fun y => ?_, fun _ => ⟨i_in (by omega) (by omega) (by omega), i_in (by omega) (by omega) (by omega), _, ro_wd (wrt_ro _) wA, f, zQ _ (ro_wd (wrt_ro _) wA) ?_ ?_⟩⟩
    · rw [k0_, i_le (by omega) (by omega)] at y
      omega
    · refine xt_end (x1 := sA) (s := s) (q := (t, w)) ?_ ?_ (fun i hi => ?_) a2 (fun i z1 z2 z3 => ?_) (wrt_ro _) wt
      · rw [iA, if_pos ⟨rfl, rfl⟩]
      · rw [iA, if_neg (by omega), if_pos ⟨rfl, rfl⟩]
      · rw [iA, if_neg (by omega), if_neg (by omega)]
      · rw [iA, if_neg (by omega), if_neg (by omega)]
        obtain ⟨u, u1, u2, u3⟩ := z3
        rw [y2] at u3
        exact a3 i z1 z2 ⟨u, u1, u2, u3⟩
    · exact ro_tr rA (ro_up (wrt_ro _) (fun a k y => by unfold dKy_ at y; unfold dKx_; omega))
end RQ
