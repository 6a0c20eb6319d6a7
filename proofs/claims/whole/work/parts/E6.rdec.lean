/-! the reference reads: small numbers, declarations -/
section DC
variable {γ : ga_T} {σ σ1 s : st_T} {B : Nat → Int} {n k i : Nat} {z : Int} {P : pq_T} {S : qs_T}
theorem ptk_ro {D : Nat → Nat → Prop} (r : ro_ D σ s) (hD : ∀ a k, D a k → ¬ (a = 186 ∨ (a = 185 ∧ 11 ≤ k ∧ k ≤ 15))) (h : Ptk_ σ B n k) : Ptk_ s B n k := by
  have o : ∀ k, 11 ≤ k → k ≤ 15 → st_I s 185 k = st_I σ 185 k := fun k z1 z2 => (r.2 _ _ (fun y => hD _ _ y (Or.inr ⟨rfl, z1, z2⟩))).1
  obtain ⟨w, b, t1, t2, t3, t4, t5⟩ := h
  exact ⟨ro_wd r w, bf_ro r (fun a k y z => hD a k y (by omega)) b, (o 12 (by decide) (by decide)).trans t1, (o 13 (by decide) (by decide)).trans t2, (o 14 (by decide) (by decide)).trans t3, fun a b => (o 15 (by decide) (by decide)).trans (t4 a b), fun a b => (o 15 (by decide) (by decide)).trans (t5 a b)⟩
theorem nv_3 (h4 : csg_ B n k = 4) : 0 ≤ tnu_ B n k ∧ tnu_ B n k < 100 := by
  obtain ⟨h1, h2, h3, h5, h6⟩ := csg_4 h4
  have tr := tst_rg (B := B) h1
  have al : ∀ j, tq_ B n k ≤ j → j < tst_ B n (tq_ B n k) → 48 ≤ B j ∧ B j ≤ 57 := fun j z1 z2 => by
    have y := ru_all (fun i => isd_ (B i)) (n - tq_ B n k) (tq_ B n k) j z1 (by rw [← h6]; exact z2)
    have y : isd_ (B j) = true := y
    unfold isd_ at y
    rw [decide_eq_true_eq] at y
    exact y
  have a0 := al (tq_ B n k) (Nat.le_refl _) tr.1
  unfold tnu_
  rw [if_pos h4]
  unfold nv_
  by_cases c1 : tst_ B n (tq_ B n k) - tq_ B n k = 0
  · omega
  · rw [if_neg c1]
    by_cases c2 : tst_ B n (tq_ B n k) - tq_ B n k = 1
    · rw [if_pos c2]
      omega
    · rw [if_neg c2]
      have a1 := al (tq_ B n k + 1) (by omega) (by omega)
      omega
/-- a small number is put into the draft -/
theorem c_rsmall (h : Ptk_ σ B n S.1) (hi : i < 174) : (csg_ B n S.1 = 4 ∧ tnu_ B n S.1 ≤ 3 ∧ vl_ B n S = .inl S ∧ ∃ s, fn_ γ m_X12_readsSmall 3 [.ref 185, .int (i_ (i : Int))] σ (.int 1) s ∧ Ptk_ s B n (S.1 + 1) ∧ ro_ (fun a k => dF_ a k ∨ (a = 188 ∧ k = i)) σ s ∧ st_I s 188 i = i_ (tnu_ B n S.1)) ∨
    ∃ e s, vl_ B n S = .inr e ∧ fn_ γ m_X12_readsSmall 3 [.ref 185, .int (i_ (i : Int))] σ (.int 0) s ∧ Rpo_ σ B n (.inr e) (.int 0) s := by
  obtain ⟨g1, g2, g3, g4, -⟩ := pt_g h
  have c21 := csg_21 (B := B) (n := n) (k := S.1)
  have s4 := (sso_2 c21).2.2.1
  have sr := sso_rg (csg_ B n S.1)
  by_cases c4 : csg_ B n S.1 = 4
  · have b := nv_3 c4
    by_cases c3 : tnu_ B n S.1 ≤ 3
    · left
      have h1 : Ptk_ (pt_I σ 188 i (i_ (tnu_ B n S.1))) B n S.1 := ptk_ro (D := fun a k => a = 188 ∧ k = i) (ro_I ro_rf ⟨rfl, rfl⟩) (fun a k y z => by omega) h
      obtain ⟨s, f1, f2, f3, f4⟩ := c_rgo2 (γ := γ) h1 (by rw [c4]; decide)
      refine ⟨c4, c3, by unfold vl_; rw [if_pos c4, if_pos c3], s, fn_q (fun Q zQ => e_X12_readsSmall h.1 ?_), f4, ro_tr (ro_I ro_rf (Or.inr ⟨rfl, rfl⟩)) (ro_up f3 (fun a k y => Or.inl y)), ?_⟩
      · unfold p_X12_readsSmall_0
        rw [g3, g4 c4, show (4 : Int32) = i_ 4 by decide, k3_, i_le (by omega) (by omega), i_cl (by omega), Int.toNat_natCast]
        exact ⟨fun _ => ⟨fun _ => ⟨i_in (by omega) (by omega) (by omega), s, f2, f1, zQ⟩, fun y => absurd c3 y⟩, fun y => absurd (congrArg i_ (s4.mpr c4)) y⟩
      · rw [(f3.2 188 i (fun y => by unfold dF_ at y; omega)).1]
        exact st_sI _ _ _ _
    · right
      obtain ⟨s, f1, f2⟩ := c_rbad (γ := γ) h (e := 2) (by decide) (Or.inr (by rw [c4]; decide)) (.inr (er_ B n S.1 2)) rfl
      refine ⟨_, s, by unfold vl_; rw [if_pos c4, if_neg c3], fn_q (fun Q zQ => e_X12_readsSmall h.1 ?_), f2⟩
      unfold p_X12_readsSmall_0
      rw [g3, g4 c4, show (4 : Int32) = i_ 4 by decide, k3_, i_le (by omega) (by omega)]
      exact ⟨fun _ => ⟨fun y => absurd y c3, fun _ => ⟨_, s, f2.1, f1, Or.inl rfl, zQ⟩⟩, fun y => absurd (congrArg i_ (s4.mpr c4)) y⟩
  · right
    obtain ⟨s, f1, f2⟩ := c_rbad (γ := γ) h (e := 1) (by decide) (Or.inl rfl) (.inr (er_ B n S.1 1)) rfl
    refine ⟨_, s, by unfold vl_; rw [if_neg c4], fn_q (fun Q zQ => e_X12_readsSmall h.1 ?_), f2⟩
    unfold p_X12_readsSmall_0
    rw [g3, show (4 : Int32) = i_ 4 by decide, i_eq (by omega) (by omega)]
    exact ⟨fun y => absurd (s4.mp y) c4, fun _ => ⟨_, s, f2.1, f1, Or.inl rfl, zQ⟩⟩
theorem tby_te (h : tq_ B n k < n) : tby_ B n k = (List.range (te_ B n k - tq_ B n k)).map (fun j => B (tq_ B n k + j)) := by
  unfold tby_ te_
  rw [if_pos h]
theorem lnm_bd (P : pq_T) (l : List Int) (h : pL_ P.1 ≤ 3) : -1 ≤ lnm_ P l ∧ lnm_ P l ≤ 2 := by
  by_cases e : lnm_ P l = -1
  · omega
  · have := lnm_rng e
    omega
theorem bp_pal {l : List Int} {v : Int} (h : Bp_ P.1) (hL : pL_ P.1 < 3) (hv : 0 ≤ v ∧ v ≤ 3) : Bp_ (pal_ P l v).1 := ⟨h.1, h.2.1, hL, fun j => by
  show 0 ≤ upd_ (pI_ P.1) (pL_ P.1) v j ∧ upd_ (pI_ P.1) (pL_ P.1) v j ≤ 3
  unfold upd_
  split
  · exact hv
  · exact h.2.2.2.1 j, h.2.2.2.2⟩
theorem nv_pal {l : List Int} {v : Int} (h : Nv_ P) (hl : Nam_ l) : Nv_ (pal_ P l v) := fun i zi => by
  have zi : i < pL_ P.1 + 1 := zi
  show Nam_ (upd_ P.2.1 (pL_ P.1) l i)
  unfold upd_
  split
  · exact hl
  · exact h i (by omega)
theorem c_rdecl (h : Rpc_ σ B n S) (hs : csg_ B n S.1 = 5) (h0 : S.2.1.2.2 = []) : ∃ v s, fn_ γ m_X12_readsLocation 16 [.ref 185] σ v s ∧ Rpo_ σ B n (dec_ B n S) v s := by
  have key : sp_ γ m_X12_readsLocation 16 [.ref 185] σ (fun r s => ∃ v, r = .inl (some v) ∧ Rpo_ σ B n (dec_ B n S) v s) := by
    obtain ⟨hp, hB, hN, hR, hD, hU, h21, h195, h22⟩ := id h
    have b3 := hB.2.2.1
    have b10 := hB.1
    refine e_X12_readsLocation h.1.1 ?_
    unfold p_X12_readsLocation_0
    rw [hR.2.2.1, k3_, i_eq (by omega) (by omega)]
    refine ⟨fun y => ?_, fun y => ?_⟩
    · obtain ⟨s, f1, f2⟩ := c_rbad (γ := γ) hp (e := 5) (by decide) (Or.inr (by rw [hs]; decide)) (dec_ B n S) (by unfold dec_; rw [if_pos (by omega)])
      exact ⟨_, s, f2.1, f1, Or.inl rfl, _, rfl, f2⟩
    · have hL : pL_ S.2.1.1 < 3 := by omega
      have dec1 : dec_ B n S = if csg_ B n (S.1 + 1) ≠ 3 then .inr (er_ B n (S.1 + 1) 1) else if lnm_ S.2.1 (tby_ B n (S.1 + 1)) ≠ -1 then .inr (er_ B n (S.1 + 1) 3) else match vl_ B n (S.1 + 2, S.2) with
          | .inl _ => xp_ B n 15 (S.1 + 3, pal_ S.2.1 (tby_ B n (S.1 + 1)) (tnu_ B n (S.1 + 2)), S.2.2)
          | .inr e => .inr e := by
        unfold dec_
        rw [if_neg (by omega)]
        rfl
      obtain ⟨s1, a1, a2, a3, a4⟩ := c_rgo2 (γ := γ) hp (by rw [hs]; decide)
      have D1 := dft_F a3 h.2
      obtain ⟨g1, g2, g3, -, -⟩ := pt_g a4
      refine ⟨s1, a2, a1, _, s1, a2, c_risName a4, ?_⟩
      by_cases c3 : csg_ B n (S.1 + 1) = 3
      · rw [if_neg (fun z => z c3)] at dec1
        rw [decide_eq_true c3]
        refine ⟨fun z => absurd z (by decide), fun _ => ?_⟩
        obtain ⟨t1, t2, t3, t4, t5, -⟩ := tok_let (Or.inl c3)
        have tb := tby_te t1
        have te := te_le (B := B) (n := n) (k := S.1 + 1)
        have h6 := hp.2.1.1
        have nm := c_rnamed (γ := γ) (P := S.2.1) (q := tq_ B n (S.1 + 1)) (u := te_ B n (S.1 + 1) - tq_ B n (S.1 + 1)) a2 a4.2.1 ⟨hN, b3, D1.2.2.1.2.2.1, D1.2.2.2.1⟩ (by omega)
        rw [← tb] at nm
        have bn := lnm_bd S.2.1 (tby_ B n (S.1 + 1)) b3
        rw [g1, g2, i_sub, show (te_ B n (S.1 + 1) : Int) - (tq_ B n (S.1 + 1) : Int) = ((te_ B n (S.1 + 1) - tq_ B n (S.1 + 1) : Nat) : Int) by omega]
        refine ⟨_, s1, a2, nm, ?_⟩
        rw [g1, g2, i_sub, show (te_ B n (S.1 + 1) : Int) - (tq_ B n (S.1 + 1) : Int) = ((te_ B n (S.1 + 1) - tq_ B n (S.1 + 1) : Nat) : Int) by omega, D1.2.2.1.2.2.1, show (-1 : Int32) = i_ (-1) by decide, i_eq (by omega) (by omega)]
        refine ⟨fun z => ⟨i_in (by omega) (by omega) (by omega), ?_⟩, fun z => ?_⟩
        · rw [if_neg (fun y => y z)] at dec1
          rw [i_cl (by omega), Int.toNat_natCast]
          obtain ⟨u, hu⟩ : ∃ u, u = te_ B n (S.1 + 1) - tq_ B n (S.1 + 1) := ⟨_, rfl⟩
          obtain ⟨q, hq⟩ : ∃ q, q = tq_ B n (S.1 + 1) := ⟨_, rfl⟩
          rw [← hu] at tb ⊢
          obtain ⟨L, hL2⟩ : ∃ L, L = pL_ S.2.1.1 := ⟨_, rfl⟩
          rw [← hL2]
          have loop : ∀ (d j : Nat) (s : st_T), d + j = u → ro_ (fun a k => (a = 193 ∧ k = L) ∨ (a = 192 ∧ 8 * L ≤ k ∧ k < 8 * L + 8)) s1 s → st_I s 193 L = i_ (u : Int) → (∀ v, v < j → st_I s 192 (8 * L + v) = i_ (B (q + v))) → vv_ γ m_X12_readsLocation 16 84 [(0, .ref 185), (1, .int (i_ (L : Int))), (2, .int (i_ (j : Int)))] [] s (fun r s => ∃ v, r = .inl (some v) ∧ Rpo_ σ B n (dec_ B n S) v s) := by
            intro d
            induction d with
            | zero =>
              intro j s hj r e193 e192
              have hj : j = u := by omega
              subst hj
              have P2 : Ptk_ s B n (S.1 + 1) := ptk_ro r (fun a k y z => by omega) a4
              obtain ⟨k1, k2, -, -, -⟩ := pt_g P2
              obtain ⟨s2, d1, d2, d3, d4⟩ := c_rgo2 (γ := γ) P2 (by rw [c3]; decide)
              refine g_X12_readsLocation_84 P2.1 ?_
              unfold p_X12_readsLocation_84
              rw [k1, k2, i_sub, i_le (by omega) (by omega), k3_, i_add]
              refine ⟨fun _ => ⟨s2, d2, d1, ?_⟩, fun y => by omega⟩
              have hs3 := c_rsmall (γ := γ) (S := (S.1 + 2, S.2)) (i := 3 + L) d4 (by omega)
              rw [show ((3 + L : Nat) : Int) = 3 + (L : Int) by omega] at hs3
              have rr : ro_ dV_ σ s2 := ro_tr (ro_tr (ro_up a3 (fun a k => dF_V)) (ro_up r (fun a k y => by unfold dV_; omega))) (ro_up d3 (fun a k => dF_V))
              rcases hs3 with ⟨v1, v2, v3, s3, f1, f2, f3, f4⟩ | ⟨e, s3, v1, f1, f2⟩
              · rw [v3] at dec1
                have dec1 : dec_ B n S = xp_ B n 15 (S.1 + 3, pal_ S.2.1 (tby_ B n (S.1 + 1)) (tnu_ B n (S.1 + 2)), S.2.2) := dec1
                have bt := nv_3 (B := B) (n := n) (k := S.1 + 2) v1
                refine ⟨_, s3, f2.1, f1, fun y => absurd y (by decide), fun _ => ?_⟩
                have all : ro_ (fun a k => dF_ a k ∨ (a = 188 ∧ k = 3 + L) ∨ (a = 193 ∧ k = L) ∨ (a = 192 ∧ 8 * L ≤ k ∧ k < 8 * L + 8)) σ s3 := ro_tr (ro_tr (ro_tr (ro_up a3 (fun a k y => Or.inl y)) (ro_up r (fun a k y => Or.inr (Or.inr y)))) (ro_up d3 (fun a k y => Or.inl y))) (ro_up f3 (fun a k y => by
                  rcases y with y | y
                  · exact Or.inl y
                  · exact Or.inr (Or.inl y)))
                have o : ∀ a k, ¬ (dF_ a k ∨ (a = 188 ∧ k = 3 + L) ∨ (a = 193 ∧ k = L) ∨ (a = 192 ∧ 8 * L ≤ k ∧ k < 8 * L + 8)) → st_I s3 a k = st_I σ a k := fun a k z => (all.2 a k z).1
                have o8 : ∀ k, k ≠ 3 + L → st_I s3 188 k = st_I σ 188 k := fun k z => o _ _ (fun y => by unfold dF_ at y; omega)
                have l3 : ∀ (a k : Nat), 190 ≤ a → st_I s3 a k = st_I s a k := fun a k z => (f3.2 a k (fun y => by unfold dF_ at y; omega)).1.trans (d3.2 a k (fun y => by unfold dF_ at y; omega)).1
                rw [o8 2 (by omega), hR.2.2.1, k1_, i_add]
                have F : Rpc_ (pt_I s3 188 2 (i_ ((pL_ S.2.1.1 : Int) + 1))) B n (S.1 + 3, pal_ S.2.1 (tby_ B n (S.1 + 1)) (tnu_ B n (S.1 + 2)), S.2.2) := by
                  refine ⟨ptk_ro (D := fun a k => a = 188 ∧ k = 2) (ro_I ro_rf ⟨rfl, rfl⟩) (fun a k y z => by omega) f2, bp_pal hB hL ⟨bt.1, v2⟩, nv_pal hN (csg_3 c3).2, ⟨?_, ?_, ?_, fun l zl => ?_, fun i k zi zk => ?_⟩, fun l zl => ?_, hU, ?_, fun k x hx => ?_, ?_⟩
                  · rw [st_pI, if_neg (by omega)]
                    exact (o8 0 (by omega)).trans hR.1
                  · rw [st_pI, if_neg (by omega)]
                    exact (o8 1 (by omega)).trans hR.2.1
                  · exact st_sI _ _ _ _
                  · have zl : l < pL_ S.2.1.1 + 1 := zl
                    rw [st_pI, if_neg (by omega)]
                    show _ = i_ (upd_ (pI_ S.2.1.1) (pL_ S.2.1.1) (tnu_ B n (S.1 + 2)) l)
                    unfold upd_
                    by_cases c : l = pL_ S.2.1.1
                    · rw [if_pos c, Nat.zero_add, c, ← hL2]
                      exact f4
                    · rw [if_neg c, o8 (0 + 3 + l) (by omega)]
                      exact hR.2.2.2.1 l (by omega)
                  · have zi : i < pN_ S.2.1.1 := zi
                    rw [st_pI, if_neg (by omega), o8 _ (by omega)]
                    exact hR.2.2.2.2 i k zi zk
                  · have zl : l < pL_ S.2.1.1 + 1 := zl
                    show st_I _ 193 l = i_ ((upd_ S.2.1.2.1 (pL_ S.2.1.1) (tby_ B n (S.1 + 1)) l).length : Int) ∧ ∀ k x, (upd_ S.2.1.2.1 (pL_ S.2.1.1) (tby_ B n (S.1 + 1)) l)[k]? = some x → _
                    unfold upd_
                    by_cases c : l = pL_ S.2.1.1
                    · rw [if_pos c, tb, List.length_map, List.length_range]
                      refine ⟨?_, fun k x hx => ?_⟩
                      · rw [st_pI, if_neg (by omega), c, ← hL2, l3 193 L (by decide)]
                        exact e193
                      · rw [List.getElem?_map] at hx
                        have ku : k < j := by
                          by_cases y : k < j
                          · exact y
                          · rw [List.getElem?_eq_none (by rw [List.length_range]; omega)] at hx
                            cases hx
                        rw [List.getElem?_range ku] at hx
                        have hx := Option.some.inj hx
                        rw [st_pI, if_neg (by omega), c, ← hL2, l3 192 _ (by decide), e192 k ku, ← hx, hq]
                    · rw [if_neg c]
                      obtain ⟨y1, y2⟩ := hD l (by omega)
                      have n8 := (hN l (by omega)).1
                      refine ⟨?_, fun k x hx => ?_⟩
                      · rw [st_pI, if_neg (by omega), o 193 l (fun y => by unfold dF_ at y; omega)]
                        exact y1
                      · have kl := (List.getElem?_eq_some_iff.mp hx).1
                        rw [st_pI, if_neg (by omega), o 192 _ (fun y => by unfold dF_ at y; omega)]
                        exact y2 k x hx
                  · rw [st_pI, if_neg (by omega), o 185 21 (fun y => by unfold dF_ at y; omega)]
                    exact h21
                  · have hx : S.2.1.2.2[k]? = some x := hx
                    rw [h0] at hx
                    cases hx
                  · rw [st_pI, if_neg (by omega), o 185 22 (fun y => by unfold dF_ at y; omega)]
                    exact h22
                obtain ⟨v, s4, k1, k2⟩ := c_rends (γ := γ) F
                rw [← dec1] at k2
                have rV : ro_ dV_ σ (pt_I s3 188 2 (i_ ((pL_ S.2.1.1 : Int) + 1))) := ro_I (ro_up all (fun a k y => by unfold dF_ at y; unfold dV_; omega)) (Or.inl rfl)
                rcases k2.2.2 with ⟨rfl, k3⟩ | ⟨rfl, k3⟩
                · exact ⟨_, s4, k2.1, k1, Or.inr rfl, _, rfl, rpo_tr rV k2⟩
                · exact ⟨_, s4, k2.1, k1, Or.inl rfl, _, rfl, rpo_tr rV k2⟩
              · rw [v1] at dec1
                have dec1 : dec_ B n S = .inr e := dec1
                rw [← dec1] at f2
                exact ⟨_, s3, f2.1, f1, fun _ => ⟨_, rfl, rpo_tr rr f2⟩, fun y => absurd rfl y⟩
            | succ d ih =>
              intro j s hj r e193 e192
              have P2 : Ptk_ s B n (S.1 + 1) := ptk_ro r (fun a k y z => by omega) a4
              obtain ⟨k1, k2, -, -, -⟩ := pt_g P2
              have lj := t5 (q + j) (by omega) (by omega)
              have bj := (h.1.2.1.2.2 (q + j) (by omega)).2
              unfold isl_ at lj
              rw [decide_eq_true_eq] at lj
              refine g_X12_readsLocation_84 P2.1 ?_
              unfold p_X12_readsLocation_84
              rw [k1, k2, i_sub, i_le (by omega) (by omega), k8_, k1_, i_mul, i_add, i_add, i_add, i_cl (by omega), i_cl (by omega), ← hq, show ((q : Int) + (j : Int)).toNat = q + j by omega, show ((8 : Int) * (L : Int) + (j : Int)).toNat = 8 * L + j by omega, (P2.2.1.2.2 (q + j) (by omega)).1, show B (q + j) % 256 = B (q + j) by omega]
              refine ⟨fun y => by omega, fun _ => ⟨i_in (by omega) (by omega) (by omega), i_in (by omega) (by omega) (by omega), ?_⟩⟩
              refine ih (j + 1) (pt_I s 192 (8 * L + j) (i_ (B (q + j)))) (by omega) (ro_I r (Or.inr ⟨rfl, by omega, by omega⟩)) (by rw [st_pI, if_neg (by omega)]; exact e193) (fun v hv => ?_)
              rw [st_pI]
              by_cases c : v = j
              · rw [if_pos ⟨rfl, by omega⟩, c]
              · rw [if_neg (by omega)]
                exact e192 v (by omega)
          exact loop u 0 _ rfl (ro_I ro_rf (Or.inl ⟨rfl, rfl⟩)) (st_sI _ _ _ _) (fun v hv => by omega)
        · rw [if_pos z] at dec1
          obtain ⟨s, f1, f2⟩ := c_rbad (γ := γ) a4 (e := 3) (by decide) (Or.inr (by rw [c3]; decide)) (dec_ B n S) dec1
          exact ⟨_, s, f2.1, f1, Or.inl rfl, _, rfl, rpo_tr (ro_up a3 (fun a k => dF_V)) f2⟩
      · rw [if_pos c3] at dec1
        rw [decide_eq_false c3]
        obtain ⟨s, f1, f2⟩ := c_rbad (γ := γ) a4 (e := 1) (by decide) (Or.inl rfl) (dec_ B n S) dec1
        exact ⟨fun _ => ⟨_, s, f2.1, f1, Or.inl rfl, _, rfl, rpo_tr (ro_up a3 (fun a k => dF_V)) f2⟩, fun y => absurd rfl y⟩
  exact fn_of key
end DC
