/-! the reference: removeFence, undo -/
section RD
variable {γ : ga_T} {σ σ1 s : st_T} {A A' : ca_T} {c m n : Nat} {z y : Int} {e : String → Nat} {p : pr_T}
/-- cells move down -/
theorem l_remove (zw : Wd σ) (zN : Nr_ σ p) {i : Nat} (hi : i < pN_ p) (zB : Bp_ (ppd_ p i)) : ∃ s, (Nr_ s (ppd_ p i) ∧ ro_ (fun a _ => a = 187) σ s ∧ Wd s) ∧
    ∀ Q : rs_T → st_T → Prop, Q (.inl (some (.int (i_ ((pN_ p : Int) - 1))))) s → vv_ γ m_X12_removeFence 3 58 [(0, .ref 185), (2, .int (i_ ((6 + 6 * i : Nat) : Int)))] [] (pt_I σ 187 0 (i_ ((pN_ p : Int) - 1))) Q := by
  have b0 := zN.1.1
  have dn : ∀ (k l : Nat) (s : st_T), l + k = 6 * pN_ p → 6 + 6 * i ≤ l → Wd s → ro_ (fun a k => a = 187 ∧ (k = 0 ∨ 6 ≤ k)) σ s → st_I s 187 0 = i_ ((pN_ p : Int) - 1) → (∀ j, 6 + 6 * i ≤ j → j < l → st_I s 187 j = st_I σ 187 (j + 6)) → (∀ j, 0 < j → (j < 6 + 6 * i ∨ l ≤ j) → st_I s 187 j = st_I σ 187 j) →
      ∃ s1, (Wd s1 ∧ ro_ (fun a k => a = 187 ∧ (k = 0 ∨ 6 ≤ k)) σ s1 ∧ st_I s1 187 0 = i_ ((pN_ p : Int) - 1) ∧ (∀ j, 6 + 6 * i ≤ j → j < 6 * pN_ p → st_I s1 187 j = st_I σ 187 (j + 6)) ∧ ∀ j, 0 < j → j < 6 + 6 * i → st_I s1 187 j = st_I σ 187 j) ∧
        ∀ Q : rs_T → st_T → Prop, Q (.inl (some (.int (i_ ((pN_ p : Int) - 1))))) s1 → vv_ γ m_X12_removeFence 3 58 [(0, .ref 185), (2, .int (i_ (l : Int)))] [] s Q := by
    intro k
    induction k with
    | zero =>
      intro l s hl h2 w r a b d
      refine ⟨s, ⟨w, r, a, fun j z1 z2 => b j z1 (by omega), fun j z1 z2 => d j z1 (Or.inl z2)⟩, fun Q zQ => g_X12_removeFence_58 w ?_⟩
      unfold p_X12_removeFence_58
      rw [a, k6_, i_mul, i_add]
      refine ⟨fun _ => zQ, fun y => absurd ?_ y⟩
      rw [i_le (by omega) (by omega)]
      omega
    | succ k ih =>
      intro l s hl h2 w r a b d
      obtain ⟨s1, f, g⟩ := ih (l + 1) (pt_I s 187 l (st_I s 187 (l + 6))) (by omega) (by omega) w (ro_I r ⟨rfl, by omega⟩) (by rw [st_pI, if_neg (by omega)]; exact a) (fun j z1 z2 => by
        rw [st_pI]
        by_cases e : j = l
        · rw [if_pos ⟨rfl, e⟩, e]
          exact d _ (by omega) (Or.inr (by omega))
        · rw [if_neg (by omega)]
          exact b j z1 (by omega)) (fun j z1 z2 => by rw [st_pI, if_neg (by omega)]; exact d j z1 (by omega))
      refine ⟨s1, f, fun Q zQ => g_X12_removeFence_58 w ?_⟩
      unfold p_X12_removeFence_58
      rw [a, k6_, k1_, i_mul, i_add, i_add, i_add, i_cl (by omega), i_cl (by omega), Int.toNat_natCast, show ((l : Int) + 6).toNat = l + 6 by omega]
      refine ⟨fun y => ?_, fun _ => ⟨i_in (by omega) (by omega) (by omega), i_in (by omega) (by omega) (by omega), g Q zQ⟩⟩
      rw [i_le (by omega) (by omega)] at y
      omega
  obtain ⟨s1, ⟨a1, a2, a3, a4, a5⟩, g1⟩ := dn (6 * pN_ p - (6 + 6 * i)) (6 + 6 * i) (pt_I σ 187 0 (i_ ((pN_ p : Int) - 1))) (by omega) (by omega) zw (ro_I ro_rf ⟨rfl, Or.inl rfl⟩) (st_sI _ _ _ _) (fun j z1 z2 => by omega) (fun j z1 z2 => by rw [st_pI, if_neg (by omega)])
  have bp := zN.1
  have e0 : ((pN_ (ppd_ p i) : Nat) : Int) = (pN_ p : Int) - 1 := by
    show ((pN_ p - 1 : Nat) : Int) = _
    omega
  refine ⟨s1, ⟨⟨zB, by rw [e0]; exact a3, (a5 1 (by omega) (by omega)).trans zN.2.2.1, (a5 2 (by omega) (by omega)).trans zN.2.2.2.1, fun l zl => ?_, fun i' k zi zk => ?_⟩, ro_up a2 (fun a k y => y.1), a1⟩, g1⟩
  · have zl : l < pL_ p := zl
    have h3 := bp.2.2.1
    exact (a5 _ (by omega) (by omega)).trans (zN.2.2.2.2.1 l zl)
  · have zi : i' < pN_ p - 1 := zi
    by_cases e1 : i' < i
    · rw [pd_lt e1, a5 _ (by omega) (by omega)]
      exact zN.2.2.2.2.2 i' k (by omega) zk
    · rw [pd_ge (by omega), a4 _ (by omega) (by omega), show 6 + 6 * i' + k + 6 = 6 + 6 * (i' + 1) + k by omega]
      exact zN.2.2.2.2.2 (i' + 1) k (by omega) zk
theorem pt_pt (σ : st_T) (a k : Nat) (u v : Int32) : pt_I (pt_I σ a k u) a k v = pt_I σ a k v := by
  refine Prod.ext (funext (fun b => funext (fun j => ?_))) rfl
  show (if _ then _ else if _ then _ else _) = (if _ then _ else _)
  split <;> rfl
theorem r_removeFence (h : Jr_ σ A c) (zP : Wp_ (aP_ A).1) (hv : Hv_ (aP_ A).1 (aC_ A)) (hc : Cn_ (aP_ A).1) (h8 : (aC_ A).length ≤ 8) (q1 : -2147483648 ≤ z ∧ z < 2147483648) : Ra_ γ m_X12_removeFence 3 [.ref 185, .int (i_ z)] σ (rmr_ A z).2 c eO_ (rmr_ A z).1 := by
  have zN := h.2.2.2.1.1
  have b0 := zN.1.1
  have b1 := zN.1.2.1
  have w : Wd (pt_I σ 185 0 (i_ 0)) := h.1
  have w2 : ∀ v, Wd (pt_I σ 185 0 v) := fun _ => h.1
  have hi := c_risInstr (γ := γ) h.1 zN q1
  have hf := c_risFence (γ := γ) h.1 zN q1
  refine ra_of (e_X12_removeFence h.1 ?_)
  unfold p_X12_removeFence_0 rmr_
  dsimp only
  by_cases u : 0 ≤ z ∧ z < pN_ (aP_ A).1
  · rw [decide_eq_true u] at hi
    rw [if_pos u]
    obtain ⟨i, rfl⟩ : ∃ i : Nat, z = i := ⟨z.toNat, by omega⟩
    rw [Int.toNat_natCast] at hf ⊢
    refine ⟨_, σ, h.1, hi, fun y => absurd y (by decide), fun _ => ⟨_, σ, h.1, hf, ?_⟩⟩
    by_cases e3 : pC_ (aP_ A).1 i 1 = 3
    · rw [if_pos e3, if_pos (by rw [decide_eq_true_eq]; exact ⟨u.1, u.2, e3⟩)]
      have hi : i < pN_ (aP_ A).1 := by omega
      have Wi := zP.2.1 i hi
      have t0 := Wi.1
      have t1 := Wi.2.1
      obtain ⟨t, et⟩ : ∃ t : Nat, pC_ (aP_ A).1 i 0 = t := ⟨(pC_ (aP_ A).1 i 0).toNat, by omega⟩
      rw [et, Int.toNat_natCast]
      have W2 := wp_del zP hi e3
      obtain ⟨s1, f1, k1⟩ := c_remembers (γ := γ) (n := (aC_ A).length) w h8 (by rw [st_pI, if_neg (by omega)]; exact h.2.2.2.2.2.1.1)
      have zN1 := rem_nr k1 zN
      obtain ⟨s2, ⟨l1, l2, l3⟩, l4⟩ := l_remove (γ := γ) k1.1 zN1 hi W2.1
      obtain ⟨m1, m2, m3⟩ := jr_mut h hv h8 k1 l1 l2 l3 rfl rfl (q := i * 8 + t) (by
        unfold cu_
        rw [if_neg (by omega), show (i * 8 + t) / 8 = i by omega, show (i * 8 + t) % 4 = t by omega]
        exact pf_pd zP hc hi et e3)
      refine ⟨fun y => absurd y (by decide), fun _ => ⟨_, _, w2 _, c_rf000 h.1, fun _ => ⟨s1, k1.1, f1, ?_⟩, fun y => absurd rfl y⟩⟩
      rw [zN1.2.1, k1_, k6_, i_sub, i_mul, i_add, show (6 : Int) + 6 * (i : Int) = ((6 + 6 * i : Nat) : Int) by omega]
      exact l4 _ ⟨_, rfl, c, m1, by omega, m2, rfl, m3⟩
    · rw [if_neg e3, if_neg (by rw [decide_eq_true_eq]; exact fun y => e3 y.2.2)]
      exact ⟨fun _ => ⟨_, _, w2 _, c_rf010 h.1, fun y => absurd y (by decide), fun _ => re_fail h rfl tcd_3 _⟩, fun y => absurd rfl y⟩
  · rw [decide_eq_false u] at hi
    rw [if_neg (by rw [decide_eq_true_eq]; exact fun y => u ⟨y.1, y.2.1⟩)] at hf
    rw [if_neg u]
    exact ⟨_, σ, h.1, hi, fun _ => ⟨_, σ, h.1, hf, fun _ => ⟨_, _, w2 _, c_rf110 h.1, fun y => absurd y (by decide), fun _ => re_fail h rfl tcd_2 _⟩, fun y => absurd rfl y⟩, fun y => absurd rfl y⟩
theorem r_undo (h : Jr_ σ A c) (hv : Hv_ (aP_ A).1 (aC_ A)) (h8 : (aC_ A).length ≤ 8) : Ra_ γ m_X12_undo 0 [.ref 185] σ (udr_ A).2 c e (udr_ A).1 := by
  have e10 := h.2.2.2.2.2.1.1
  have ck := h.2.2.2.2.2.1.2
  refine ra_of (e_X12_undo h.1 ?_)
  unfold p_X12_undo_0 udr_
  rw [e10]
  unfold Hv_ at hv
  have hl : (aC_ A).reverse.length = (aC_ A).length := List.length_reverse
  cases hC : (aC_ A).reverse with
  | nil =>
    rw [hC] at hl
    have hl : (0 : Nat) = (aC_ A).length := hl
    rw [← hl]
    exact ⟨fun _ => ra_0 h rfl, fun y => absurd rfl y⟩
  | cons q r =>
    rw [hC] at hl hv ck
    have hl : r.length + 1 = (aC_ A).length := hl
    have bp := hv.2.2.1.1
    rw [← hl, k0_, k1_, i_sub, show ((r.length + 1 : Nat) : Int) - 1 = (r.length : Int) by omega]
    refine ⟨fun y => ?_, fun _ => ?_⟩
    · rw [i_eq (by omega) (by omega)] at y
      omega
    · obtain ⟨t, et⟩ : ∃ t, t = pt_I (pt_I σ 185 0 (i_ 0)) 185 10 (i_ (r.length : Int)) := ⟨_, rfl⟩
      rw [← et]
      have wt : Wd t := by rw [et]; exact h.1
      have t0 : st_I t 185 0 = i_ 0 := by rw [et, st_pI, if_neg (by omega), st_sI]
      have t10 : st_I t 185 10 = i_ (r.length : Int) := by rw [et, st_sI]
      have rt : ro_ (fun a k => a = 185 ∧ (k = 0 ∨ k = 10)) σ t := by
        rw [et]
        exact ro_I (ro_I ro_rf ⟨rfl, Or.inl rfl⟩) ⟨rfl, Or.inr rfl⟩
      have t9 : ∀ k, st_I t 189 k = st_I σ 189 k := fun k => (rt.2 189 k (fun y => by omega)).1
      have key : ∀ (k l : Nat) (s : st_T), k + l = 174 → Wd s → ro_ (fun a _ => a = 187) t s → (∀ j, j < l → st_I s 187 j = st_I σ 189 (174 * r.length + j)) → vv_ γ m_X12_undo 0 26 [(0, .ref 185), (1, .int (i_ (l : Int)))] [] s (Re2_ σ (aB_ A, an2_ A, (cu_ (aP_ A).1 q, (aP_ A).2), aO_ A, r.reverse, none) c e (ri_ (r.length : Int))) := by
        intro k
        induction k with
        | zero =>
          intro l s hl2 w r1 a
          have hl2 : l = 174 := by omega
          subst hl2
          have s10 : st_I s 185 10 = i_ (r.length : Int) := (r1.2 185 10 (fun y => by omega)).1.trans t10
          refine g_X12_undo_26 w ?_
          unfold p_X12_undo_26
          refine ⟨fun _ => ?_, fun y => absurd (show (174 : Int32) ≤ i_ ((174 : Nat) : Int) by decide) y⟩
          rw [s10]
          have D : ro_ (fun a k => a = 187 ∨ (a = 185 ∧ (k = 0 ∨ k = 10 ∨ k = 47))) σ (pt_I s 185 47 (0 : Int32)) := ro_I (ro_tr (ro_up rt (fun a k y => Or.inr ⟨y.1, by omega⟩)) (ro_up r1 (fun a k y => Or.inl y))) (Or.inr ⟨rfl, by omega⟩)
          have g : ∀ a k, ¬ (a = 187 ∨ (a = 185 ∧ (k = 0 ∨ k = 10 ∨ k = 47))) → st_I (pt_I s 185 47 (0 : Int32)) a k = st_I σ a k := fun a k z => (D.2 a k z).1
          obtain ⟨-, o, ⟨⟨b1, b2, b3⟩, ⟨q1, q2, q3, q4, q5⟩, ⟨o1, o2⟩, ⟨c1, c2⟩, e⟩⟩ := h
          have g7 : ∀ j, j < 174 → st_I (pt_I s 185 47 (0 : Int32)) 187 j = st_I σ 189 (174 * r.length + j) := fun j zj => by
            rw [st_pI, if_neg (by omega)]
            exact a j zj
          obtain ⟨n1, n2, n3, n4, n5⟩ := ck.1
          have b10 := bp.1
          have b3' := bp.2.2.1
          have TL := cu_TL (p := (aP_ A).1) q
          refine ⟨_, rfl, c, ⟨w, rt0_cg (fun a k z => g a k (by omega)) o, ⟨b1, (g _ _ (by omega)).trans b2, fun k z => (g _ _ (by omega)).trans (b3 k z)⟩, ⟨⟨bp, (g7 0 (by omega)).trans n1, (g7 1 (by omega)).trans n2, (g7 2 (by omega)).trans n3, fun l zl => ?_, fun i k zi zk => ?_⟩, fun l zl => ?_, q3, (g _ _ (by omega)).trans q4, fun k u y => ?_⟩, ⟨(g _ _ (by omega)).trans o1, fun k z y => (g _ _ (by omega)).trans (o2 k z y)⟩, ⟨?_, ?_⟩, ?_⟩, by omega, ro_up D (fun a k y => by unfold dM_; omega), rfl, ?_⟩
          · have zl : l < pL_ (cu_ (aP_ A).1 q) := zl
            rw [g7 _ (by omega), ← Nat.add_assoc]
            exact n4 l zl
          · have zi : i < pN_ (cu_ (aP_ A).1 q) := zi
            rw [g7 _ (by omega)]
            exact n5 i k zi zk
          · have zl : l < pL_ (cu_ (aP_ A).1 q) := zl
            rw [TL.2] at zl
            exact ⟨(g _ _ (by omega)).trans (q2 l zl).1, fun k x y => (g _ _ (by omega)).trans ((q2 l zl).2 k x y)⟩
          · show _ = i_ (tru_ (2 * pT_ (cu_ (aP_ A).1 q) + pL_ (cu_ (aP_ A).1 q)) u)
            rw [TL.1, TL.2]
            exact (g _ _ (by omega)).trans (q5 k u y)
          · show st_I (pt_I s 185 47 (0 : Int32)) 185 10 = i_ (r.reverse.length : Int)
            rw [List.length_reverse, st_pI, if_neg (by omega)]
            exact s10
          · show Krr_ (pt_I s 185 47 (0 : Int32)) (cu_ (aP_ A).1 q) r.reverse.reverse
            rw [List.reverse_reverse]
            exact krr_cg (fun k => g _ _ (by omega)) _ _ ck.2
          · exact st_sI _ _ _ _
          · rw [st_pI, if_neg (by omega)]
            exact (r1.2 185 0 (fun y => by omega)).1.trans t0
        | succ k ih =>
          intro l s hl2 w r1 a
          have s10 : st_I s 185 10 = i_ (r.length : Int) := (r1.2 185 10 (fun y => by omega)).1.trans t10
          have y := ih (l + 1) (pt_I s 187 l (st_I s 189 (174 * r.length + l))) (by omega) w (ro_I r1 rfl) (fun j zj => by
            rw [st_pI]
            by_cases e : j = l
            · rw [if_pos ⟨rfl, e⟩, e]
              exact (r1.2 189 _ (fun y => by omega)).1.trans (t9 _)
            · rw [if_neg (by omega)]
              exact a j (by omega))
          refine g_X12_undo_26 w ?_
          unfold p_X12_undo_26
          rw [s10, k1_, k174_, i_mul, i_add, i_add, i_cl (by omega), i_cl (by omega), Int.toNat_natCast, show ((174 : Int) * (r.length : Int) + (l : Int)).toNat = 174 * r.length + l by omega]
          refine ⟨fun y => ?_, fun _ => ⟨i_in (by omega) (by omega) (by omega), i_in (by omega) (by omega) (by omega), y⟩⟩
          rw [i_le (by omega) (by omega)] at y
          omega
      exact key 174 0 t rfl wt ro_rf (fun j zj => by omega)
end RD
