/-! the reference: insertFence, removeFence, undo -/
section RI
variable {γ : ga_T} {σ σ1 s : st_T} {A A' : ca_T} {c m n : Nat} {z y : Int} {e : String → Nat} {p : pr_T}
def eI3_ : String → Nat := tcd_ 0 1 0 2
theorem nr_row (h : Nr_ σ p) : Nrow_ σ 187 0 p := ⟨h.2.1, h.2.2.1, h.2.2.2.1, fun l zl => by rw [Nat.zero_add]; exact h.2.2.2.2.1 l zl, fun i k zi zk => by rw [Nat.zero_add]; exact h.2.2.2.2.2 i k zi zk⟩
/-- cells move up, a fence is put in -/
theorem l_insert (zw : Wd σ) (zN : Nr_ σ p) (hN : pN_ p < 10) {i t : Nat} (hi : i ≤ pN_ p) (ht : t < 4) (zB : Bp_ (ppf_ p i t)) : ∃ s, (Nr_ s (ppf_ p i t) ∧ ro_ (fun a _ => a = 187) σ s ∧ Wd s) ∧
    ∀ Q : rs_T → st_T → Prop, Q (.inl (some (.int (i_ (i : Int))))) s → vv_ γ m_X12_insertFence 4 142 [(0, .ref 185), (2, .int (i_ (i : Int))), (4, .int (i_ (t : Int))), (5, .int (i_ ((6 * pN_ p + 11 : Nat) : Int)))] [] σ Q := by
  have up : ∀ (k l : Nat) (s : st_T), l = 6 * i + 11 + k → l ≤ 6 * pN_ p + 11 → Wd s → ro_ (fun a k => a = 187 ∧ 12 ≤ k) σ s → (∀ j, j ≤ l → st_I s 187 j = st_I σ 187 j) → (∀ j, l < j → j ≤ 6 * pN_ p + 11 → st_I s 187 j = st_I σ 187 (j - 6)) →
      ∃ s1, (Wd s1 ∧ ro_ (fun a k => a = 187 ∧ (k = 0 ∨ 12 ≤ k)) σ s1 ∧ st_I s1 187 0 = i_ ((pN_ p + 1 : Nat) : Int) ∧ (∀ j, 6 ≤ j → j ≤ 6 * i + 11 → st_I s1 187 j = st_I σ 187 j) ∧ ∀ j, 6 * i + 11 < j → j ≤ 6 * pN_ p + 11 → st_I s1 187 j = st_I σ 187 (j - 6)) ∧
        ∀ Q : rs_T → st_T → Prop, vv_ γ m_X12_insertFence 4 192 [(0, .ref 185), (2, .int (i_ (i : Int))), (4, .int (i_ (t : Int))), (5, .int (0 : Int32))] [] s1 Q → vv_ γ m_X12_insertFence 4 142 [(0, .ref 185), (2, .int (i_ (i : Int))), (4, .int (i_ (t : Int))), (5, .int (i_ (l : Int)))] [] s Q := by
    intro k
    induction k with
    | zero =>
      intro l s hl hl2 w r a b
      have e0 : st_I s 187 0 = i_ (pN_ p : Int) := (a 0 (by omega)).trans zN.2.1
      refine ⟨pt_I s 187 0 (i_ ((pN_ p + 1 : Nat) : Int)), ⟨w, ro_I (ro_up r (fun a k y => ⟨y.1, Or.inr y.2⟩)) ⟨rfl, Or.inl rfl⟩, st_sI _ _ _ _, fun j z1 z2 => by rw [st_pI, if_neg (by omega)]; exact a j (by omega), fun j z1 z2 => by rw [st_pI, if_neg (by omega)]; exact b j (by omega) z2⟩, fun Q zQ => g_X12_insertFence_142 w ?_⟩
      unfold p_X12_insertFence_142
      rw [e0, k1_, k6_, i_add, i_mul, i_add, i_add]
      refine ⟨fun _ => zQ, fun y => absurd ?_ y⟩
      rw [i_lt (by omega) (by omega)]
      omega
    | succ k ih =>
      intro l s hl hl2 w r a b
      obtain ⟨s1, f, g⟩ := ih (l - 1) (pt_I s 187 l (st_I s 187 (l - 6))) (by omega) (by omega) w (ro_I r ⟨rfl, by omega⟩) (fun j zj => by rw [st_pI, if_neg (by omega)]; exact a j (by omega)) (fun j z1 z2 => by
        rw [st_pI]
        by_cases e : j = l
        · rw [if_pos ⟨rfl, e⟩, e]
          exact a _ (by omega)
        · rw [if_neg (by omega)]
          exact b j (by omega) z2)
      refine ⟨s1, f, fun Q zQ => g_X12_insertFence_142 w ?_⟩
      unfold p_X12_insertFence_142
      rw [km1_, k1_, k6_, i_add, i_mul, i_add, i_sub, i_add, i_cl (by omega), i_cl (by omega), Int.toNat_natCast, show ((l : Int) - 6).toNat = l - 6 by omega, show (l : Int) + -1 = ((l - 1 : Nat) : Int) by omega]
      refine ⟨fun y => ?_, fun _ => ⟨i_in (by omega) (by omega) (by omega), i_in (by omega) (by omega) (by omega), g Q zQ⟩⟩
      rw [i_lt (by omega) (by omega)] at y
      omega
  obtain ⟨s1, ⟨a1, a2, a3, a4, a5⟩, g1⟩ := up (6 * pN_ p - 6 * i) (6 * pN_ p + 11) σ (by omega) (by omega) zw ro_rf (fun _ _ => rfl) (fun j z1 z2 => by omega)
  have fill : ∀ (k l : Nat) (s : st_T), k + l = 6 → Wd s → ro_ (fun a k => a = 187 ∧ 6 + 6 * i ≤ k ∧ k < 12 + 6 * i) s1 s → (∀ j, j < l → st_I s 187 (6 + 6 * i + j) = i_ (-1)) →
      ∃ s2, (Wd s2 ∧ ro_ (fun a k => a = 187 ∧ 6 + 6 * i ≤ k ∧ k < 12 + 6 * i) s1 s2 ∧ ∀ j, j < 6 → st_I s2 187 (6 + 6 * i + j) = i_ (rw6_ t 3 (-1) (-1) (-1) (-1) j)) ∧
        ∀ Q : rs_T → st_T → Prop, Q (.inl (some (.int (i_ (i : Int))))) s2 → vv_ γ m_X12_insertFence 4 192 [(0, .ref 185), (2, .int (i_ (i : Int))), (4, .int (i_ (t : Int))), (5, .int (i_ (l : Int)))] [] s Q := by
    intro k
    induction k with
    | zero =>
      intro l s hl w r a
      have hl : l = 6 := by omega
      subst hl
      refine ⟨pt_I (pt_I s 187 (6 + 6 * i + 0) (i_ (t : Int))) 187 (6 + 6 * i + 1) (i_ 3), ⟨w, ro_I (ro_I r ⟨rfl, by omega⟩) ⟨rfl, by omega⟩, fun j zj => ?_⟩, fun Q zQ => g_X12_insertFence_192 w ?_⟩
      · rw [st_pI]
        unfold rw6_
        by_cases e1 : j = 1
        · rw [if_pos ⟨rfl, by omega⟩, if_neg (by omega), if_pos e1]
        · rw [if_neg (by omega), st_pI]
          by_cases e0 : j = 0
          · rw [if_pos ⟨rfl, by omega⟩, if_pos e0]
          · rw [if_neg (by omega), if_neg e0, if_neg e1, a j zj]
            split
            · rfl
            · split
              · rfl
              · split
                · rfl
                · split <;> rfl
      · unfold p_X12_insertFence_192
        rw [k0_, k1_, k3_, k6_, i_mul, i_add, i_add, i_add, i_cl (by omega), i_cl (by omega), show ((6 : Int) + 6 * (i : Int) + 0).toNat = 6 + 6 * i + 0 by omega, show ((6 : Int) + 6 * (i : Int) + 1).toNat = 6 + 6 * i + 1 by omega]
        refine ⟨fun _ => ⟨i_in (by omega) (by omega) (by omega), i_in (by omega) (by omega) (by omega), zQ⟩, fun y => absurd ?_ y⟩
        rw [i_le (by omega) (by omega)]
        omega
    | succ k ih =>
      intro l s hl w r a
      obtain ⟨s2, f, g⟩ := ih (l + 1) (pt_I s 187 (6 + 6 * i + l) (i_ (-1))) (by omega) w (ro_I r ⟨rfl, by omega⟩) (fun j zj => by
        rw [st_pI]
        by_cases e : j = l
        · rw [if_pos ⟨rfl, by omega⟩]
        · rw [if_neg (by omega)]
          exact a j (by omega))
      refine ⟨s2, f, fun Q zQ => g_X12_insertFence_192 w ?_⟩
      unfold p_X12_insertFence_192
      refine ⟨fun y => ?_, fun _ => ?_⟩
      · rw [k6_, i_le (by omega) (by omega)] at y
        omega
      · rw [km1_, k6_, k1_, i_mul, i_add, i_add, i_add, i_cl (by omega), show ((6 : Int) + 6 * (i : Int) + (l : Int)).toNat = 6 + 6 * i + l by omega]
        exact ⟨i_in (by omega) (by omega) (by omega), g Q zQ⟩
  obtain ⟨s2, ⟨b1, b2, b3⟩, g2⟩ := fill 6 0 s1 rfl a1 ro_rf (fun j zj => by omega)
  have o : ∀ k, ¬ (6 + 6 * i ≤ k ∧ k < 12 + 6 * i) → st_I s2 187 k = st_I s1 187 k := fun k z => (b2.2 187 k (fun y => z y.2)).1
  have o1 : ∀ k, ¬ (k = 0 ∨ 12 ≤ k) → st_I s1 187 k = st_I σ 187 k := fun k z => (a2.2 187 k (fun y => z y.2)).1
  have bp := zN.1
  refine ⟨s2, ⟨⟨zB, (o 0 (by omega)).trans a3, (o 1 (by omega)).trans ((o1 1 (by omega)).trans zN.2.2.1), (o 2 (by omega)).trans ((o1 2 (by omega)).trans zN.2.2.2.1), fun l zl => ?_, fun i' k zi zk => ?_⟩, ro_tr (ro_up a2 (fun a k y => y.1)) (ro_up b2 (fun a k y => y.1)), b1⟩, fun Q zQ => g1 Q (g2 Q zQ)⟩
  · have zl : l < pL_ p := zl
    have h3 := bp.2.2.1
    exact (o _ (by omega)).trans ((o1 _ (by omega)).trans (zN.2.2.2.2.1 l zl))
  · have zi : i' < pN_ p + 1 := zi
    by_cases e1 : i' < i
    · rw [pf_lt e1, o _ (by omega), a4 _ (by omega) (by omega)]
      exact zN.2.2.2.2.2 i' k (by omega) zk
    · by_cases e2 : i' = i
      · rw [e2, pf_eq]
        exact b3 k zk
      · rw [pf_gt (by omega), o _ (by omega), a5 _ (by omega) (by omega), show 6 + 6 * i' + k - 6 = 6 + 6 * (i' - 1) + k by omega]
        exact zN.2.2.2.2.2 (i' - 1) k (by omega) zk
theorem rem_nr (k : Rr_ (pt_I σ 185 0 (i_ 0)) n s) (h : Nr_ σ p) : Nr_ s p := nr_ro k.2.1 (fun k y => by unfold dK_ at y; omega) (th_nr h _)
theorem re_pt {v : Int32} {r r' : rs_T} (h : Re2_ (pt_I σ 185 0 v) A' c e r r' s) : Re2_ σ A' c e r r' s := by
  obtain ⟨v1, h1, c1, h2, h3, h4, h5⟩ := h
  exact ⟨v1, h1, c1, h2, h3, ro_tr (ro_up (th_I _) (fun a k z => by unfold dM_; omega)) h4, h5⟩
theorem r_insertFence (h : Jr_ σ A c) (zP : Wp_ (aP_ A).1) (hv : Hv_ (aP_ A).1 (aC_ A)) (h8 : (aC_ A).length ≤ 8) (q1 : -2147483648 ≤ z ∧ z < 2147483648) : Ra_ γ m_X12_insertFence 4 [.ref 185, .int (i_ z)] σ (inr_ A z).2 c eI3_ (inr_ A z).1 := by
  have zN := h.2.2.2.1.1
  have b0 := zN.1.1
  have b5 := zN.1.2.2.2.2
  have w : Wd (pt_I σ 185 0 (i_ 0)) := h.1
  have w2 : ∀ v, Wd (pt_I (pt_I σ 185 0 (i_ 0)) 185 0 v) := fun _ => h.1
  have zN0 : Nr_ (pt_I σ 185 0 (i_ 0)) (aP_ A).1 := th_nr zN _
  have n0 : st_I (pt_I σ 185 0 (i_ 0)) 187 0 = i_ (pN_ (aP_ A).1 : Int) := zN0.2.1
  have F1 : Re2_ σ A c eI3_ ioo_ (.inl (some (.int 0))) (pt_I (pt_I σ 185 0 (i_ 0)) 185 0 (i_ 1)) := re_pt (re_fail (th_jr h _) rfl (k := 1) tcd_2 _)
  have F2 : Re2_ σ A c eI3_ ise_ (.inl (some (.int 0))) (pt_I (pt_I σ 185 0 (i_ 0)) 185 0 (i_ 2)) := re_pt (re_fail (th_jr h _) rfl (k := 2) tcd_4 _)
  refine ra_of (e_X12_insertFence h.1 ?_)
  unfold p_X12_insertFence_0 inr_
  dsimp only
  rcases pl_spec (gb_ (aP_ A).1) (pN_ (aP_ A).1) 0 z with e1 | ⟨i, e1, e2, e3, e4⟩
  · rw [e1, if_pos rfl]
    have key : vv_ γ m_X12_insertFence 4 24 [(0, .ref 185), (2, .int (-1 : Int32)), (3, .int (0 : Int32)), (4, .int (0 : Int32))] [] (pt_I σ 185 0 (i_ 0)) (Re2_ σ A c eI3_ ioo_) := by
      refine g_X12_insertFence_24 w ?_
      unfold p_X12_insertFence_24
      rw [n0]
      refine ⟨fun _ => ⟨fun _ => ⟨fun y => absurd y (by decide), fun _ => ⟨fun _ => ⟨_, _, w2 _, c_rf110 w, fun y => absurd y (by decide), fun _ => F1⟩, fun _ => ⟨_, _, w2 _, c_rf100 w, fun y => absurd y (by decide), fun _ => F1⟩⟩⟩, fun y => absurd rfl y⟩,
        fun _ => ⟨fun _ => ⟨fun _ => ⟨fun y => absurd y (by decide), fun _ => ⟨fun _ => ⟨_, _, w2 _, c_rf110 w, fun y => absurd y (by decide), fun _ => F1⟩, fun _ => ⟨_, _, w2 _, c_rf100 w, fun y => absurd y (by decide), fun _ => F1⟩⟩⟩, fun y => absurd rfl y⟩, fun y => absurd rfl y⟩⟩
    refine ⟨fun y => ?_, fun _ => key⟩
    rw [k0_, i_le (by omega) (by omega)] at y
    have ga := c_rgapAt (γ := γ) w zN0 (z := z) ⟨y, q1.2⟩
    rw [e1] at ga
    exact ⟨_, _, w, ga, key⟩
  · have z0 : 0 ≤ z := by
      by_cases y : 0 ≤ z
      · exact y
      · rw [pl_neg _ _ _ _ (by omega)] at e1
        omega
    have ga := c_rgapAt (γ := γ) w zN0 (z := z) ⟨z0, q1.2⟩
    rw [e1] at ga
    have hi : i < pN_ (aP_ A).1 := by omega
    have Wi := zP.2.1 i hi
    have t0 := Wi.1
    have t1 := Wi.2.1
    have b1 := zN.1.2.1
    obtain ⟨t, et⟩ : ∃ t : Nat, pC_ (aP_ A).1 i 0 = t := ⟨(pC_ (aP_ A).1 i 0).toNat, by omega⟩
    have csl : szt_ (aP_ A).1 t ≤ pN_ (aP_ A).1 := ct_le _ _
    have cs7 : szt_ (aP_ A).1 t ≤ 7 := zP.2.2.2.2.2.1 t
    have ne : ¬ i_ (i : Int) = -1 := by
      rw [km1_, i_eq (by omega) (by decide)]
      omega
    have loop : ∀ Q : rs_T → st_T → Prop, vv_ γ m_X12_insertFence 4 24 [(0, .ref 185), (2, .int (i_ (i : Int))), (3, .int (i_ (szt_ (aP_ A).1 t : Int))), (4, .int (i_ (pN_ (aP_ A).1 : Int)))] [] (pt_I σ 185 0 (i_ 0)) Q →
        ∀ (k j : Nat), k + j = pN_ (aP_ A).1 → vv_ γ m_X12_insertFence 4 24 [(0, .ref 185), (2, .int (i_ (i : Int))), (3, .int (i_ (ct_ (fun i => decide (pC_ (aP_ A).1 i 0 = (t : Int))) j : Int))), (4, .int (i_ (j : Int)))] [] (pt_I σ 185 0 (i_ 0)) Q := by
      intro Q hQ k
      induction k with
      | zero =>
        intro j hj
        have hj : j = pN_ (aP_ A).1 := by omega
        subst hj
        exact hQ
      | succ k ih =>
        intro j hj
        have y := ih (j + 1) (by omega)
        rw [ct_] at y
        have cl := ct_le (fun i => decide (pC_ (aP_ A).1 i 0 = (t : Int))) j
        have r1 := c_rof (γ := γ) (i := j) (k := 0) w zN0 (by omega) (by decide)
        have r2 := c_rof (γ := γ) (i := i) (k := 0) w zN0 hi (by decide)
        have bj := b5 j 0
        refine g_X12_insertFence_24 w ?_
        unfold p_X12_insertFence_24
        rw [n0]
        refine ⟨fun y => by rw [i_le (by omega) (by omega)] at y; omega, fun _ => ⟨fun y => absurd y ne, fun _ => ⟨_, _, w, r1, _, _, w, r2, fun v => ?_, fun v => ?_⟩⟩⟩
        · rw [et, i_eq (by omega) (by omega)] at v
          rw [if_pos (by rw [decide_eq_true_eq]; exact v)] at y
          rw [k1_, i_add, i_add]
          exact y
        · rw [et, i_eq (by omega) (by omega)] at v
          rw [if_neg (by rw [decide_eq_true_eq]; exact v)] at y
          rw [k1_, k0_, i_add, i_add]
          exact y
    rw [e1, if_neg (by omega), Int.toNat_natCast, et]
    refine ⟨fun _ => ⟨_, _, w, ga, ?_⟩, fun y => absurd (by rw [k0_, i_le (by omega) (by omega)]; exact z0) y⟩
    refine loop _ ?_ (pN_ (aP_ A).1) 0 rfl
    refine g_X12_insertFence_24 w ?_
    unfold p_X12_insertFence_24
    rw [n0]
    refine ⟨fun _ => ⟨fun y => absurd y ne, fun _ => ?_⟩, fun y => absurd (Int32.le_refl _) y⟩
    rw [k7_, k10_, i_eq (by omega) (by omega), i_eq (by omega) (by omega)]
    by_cases cc : 7 ≤ szt_ (aP_ A).1 t ∨ 10 ≤ pN_ (aP_ A).1
    · rw [if_pos cc]
      exact ⟨fun _ => ⟨_, _, w2 _, c_rf010 w, fun y => absurd y (by decide), fun _ => F2⟩, fun y => ⟨fun _ => ⟨_, _, w2 _, c_rf010 w, fun y => absurd y (by decide), fun _ => F2⟩, fun y2 => by omega⟩⟩
    · rw [if_neg cc, Int.toNat_natCast]
      refine ⟨fun y => by omega, fun _ => ⟨fun y => by omega, fun _ => ⟨_, _, w2 _, c_rf000 w, fun _ => ?_, fun y => absurd rfl y⟩⟩⟩
      have hs : pt_I (pt_I σ 185 0 (i_ 0)) 185 0 (i_ 0) = pt_I σ 185 0 (i_ 0) := by
        refine Prod.ext (funext (fun a => funext (fun k => ?_))) rfl
        show (if _ then _ else if _ then _ else _) = (if _ then _ else _)
        split <;> rfl
      rw [hs]
      obtain ⟨s1, f1, k1⟩ := c_remembers (γ := γ) (n := (aC_ A).length) w h8 (by rw [st_pI, if_neg (by omega)]; exact h.2.2.2.2.2.1.1)
      have zN1 := rem_nr k1 zN
      have W2 : Wp_ (ppf_ (aP_ A).1 i t) := wp_ins zP (by omega) (by omega) (by omega) (fun j hj => by rw [← et]; exact zP.2.2.1 j i (by omega) hi) (fun j h1 h2 => by rw [← et]; exact zP.2.2.1 i j h1 h2) (show szt_ (aP_ A).1 t < 7 by omega)
      obtain ⟨s2, ⟨l1, l2, l3⟩, l4⟩ := l_insert (γ := γ) k1.1 zN1 (by omega) (i := i) (t := t) (by omega) (by omega) W2.1
      obtain ⟨m1, m2, m3⟩ := jr_mut h hv h8 k1 l1 l2 l3 rfl rfl (q := i * 8 + 4) (by
        unfold cu_
        rw [if_pos (by omega), show (i * 8 + 4) / 8 = i by omega]
        exact pd_pf i t)
      have r2 := c_rof (γ := γ) (i := i) (k := 0) k1.1 zN1 hi (by decide)
      rw [et] at r2
      refine ⟨s1, k1.1, f1, _, s1, k1.1, r2, ?_⟩
      rw [zN1.2.1, k1_, k6_, i_add, i_mul, i_add, i_sub, show (6 : Int) + 6 * ((pN_ (aP_ A).1 : Int) + 1) - 1 = ((6 * pN_ (aP_ A).1 + 11 : Nat) : Int) by omega]
      exact l4 _ ⟨_, rfl, c, m1, by omega, m2, rfl, m3⟩
end RI
