/-! how many states (T2): four threads of two accesses at one location; all programs -/
section SPK
variable {p : pr_T} {g : gm_T} {K G m t i X n k x T c0 c1 c2 c3 : Nat} {z : Int} {L : List Nat} {E0 E1 E2 E3 V0 V1 V2 V3 : List (Nat × Nat)} {W0 W1 W2 W3 : List (Nat × Nat × Nat)} {F : Nat → Nat → Nat → Nat → Nat}
theorem m2_m (a : Nat) : m2_ (m2_ a) = m2_ a := by
  unfold m2_
  omega
theorem m2_3 (a : Nat) : m2_ a < 3 := by
  unfold m2_
  omega
theorem Fc_m (T a b c d : Nat) : Fc_ T (m2_ a) (m2_ b) (m2_ c) (m2_ d) = Fc_ T a b c d := by
  unfold Fc_
  rw [m2_m, m2_m, m2_m, m2_m]
theorem Fk_m (f0 f1 f2 f3 : List Bool) (a b c d : Nat) : Fk_ f0 f1 f2 f3 (m2_ a) (m2_ b) (m2_ c) (m2_ d) = Fk_ f0 f1 f2 f3 a b c d := by
  unfold Fk_
  rw [m2_m, m2_m, m2_m, m2_m]
theorem Fk_Fc (h : ck1_ c0 c1 c2 c3 T = true) (a b c d : Nat) : Fk_ (tf2_ c0) (tf2_ c1) (tf2_ c2) (tf2_ c3) a b c d = Fc_ T a b c d := by
  unfold ck1_ at h
  have y := List.all_eq_true.mp h (m2_ a) (List.mem_range.mpr (m2_3 a))
  have y := List.all_eq_true.mp y (m2_ b) (List.mem_range.mpr (m2_3 b))
  have y := List.all_eq_true.mp y (m2_ c) (List.mem_range.mpr (m2_3 c))
  have y := List.all_eq_true.mp y (m2_ d) (List.mem_range.mpr (m2_3 d))
  rw [← Fk_m, ← Fc_m]
  exact Nat.eq_of_beq_eq_true y
def Mk_ (F : Nat → Nat → Nat → Nat → Nat) : Prop := (∀ a a' b c d, a ≤ a' → F a b c d ≤ F a' b c d) ∧ (∀ a b b' c d, b ≤ b' → F a b c d ≤ F a b' c d) ∧ (∀ a b c c' d, c ≤ c' → F a b c d ≤ F a b c' d) ∧ ∀ a b c d d', d ≤ d' → F a b c d ≤ F a b c d'
theorem mono_of {f : Nat → Nat} (h : ∀ a, f a ≤ f (a + 1)) {a a' : Nat} (le : a ≤ a') : f a ≤ f a' := by
  induction a' with
  | zero =>
    rw [show a = 0 by omega]
    exact Nat.le_refl _
  | succ a' ih =>
    by_cases e : a = a' + 1
    · rw [e]
      exact Nat.le_refl _
    · exact Nat.le_trans (ih (by omega)) (h a')
theorem m2_s (a : Nat) : (a < 2 ∧ m2_ a = a ∧ m2_ (a + 1) = a + 1) ∨ (2 ≤ a ∧ m2_ (a + 1) = m2_ a) := by
  unfold m2_
  omega
theorem Fc_mk (h : ck2_ T = true) : Mk_ (Fc_ T) := by
  unfold ck2_ at h
  have q : ∀ a b c d, a < 3 → b < 3 → c < 3 → d < 3 → Fc_ T a b c d ≤ Fc_ T (a + 1) b c d ∧ Fc_ T a b c d ≤ Fc_ T a (b + 1) c d ∧ Fc_ T a b c d ≤ Fc_ T a b (c + 1) d ∧ Fc_ T a b c d ≤ Fc_ T a b c (d + 1) := fun a b c d ha hb hc hd => by
    have y := List.all_eq_true.mp h a (List.mem_range.mpr ha)
    have y := List.all_eq_true.mp y b (List.mem_range.mpr hb)
    have y := List.all_eq_true.mp y c (List.mem_range.mpr hc)
    have y := List.all_eq_true.mp y d (List.mem_range.mpr hd)
    rw [Bool.and_eq_true, Bool.and_eq_true, Bool.and_eq_true] at y
    obtain ⟨⟨⟨y1, y2⟩, y3⟩, y4⟩ := y
    exact ⟨Nat.le_of_ble_eq_true y1, Nat.le_of_ble_eq_true y2, Nat.le_of_ble_eq_true y3, Nat.le_of_ble_eq_true y4⟩
  have e : ∀ a b c d, Fc_ T a b c d = Fc_ T (m2_ a) (m2_ b) (m2_ c) (m2_ d) := fun a b c d => (Fc_m T a b c d).symm
  refine ⟨fun a a' b c d le => mono_of (f := fun a => Fc_ T a b c d) (fun a => ?_) le, fun a b b' c d le => mono_of (f := fun b => Fc_ T a b c d) (fun b => ?_) le, fun a b c c' d le => mono_of (f := fun c => Fc_ T a b c d) (fun c => ?_) le, fun a b c d d' le => mono_of (f := fun d => Fc_ T a b c d) (fun d => ?_) le⟩
  · have y := (q (m2_ a) (m2_ b) (m2_ c) (m2_ d) (m2_3 a) (m2_3 b) (m2_3 c) (m2_3 d)).1
    show Fc_ T a b c d ≤ Fc_ T (a + 1) b c d
    rw [e a, e (a + 1)]
    rcases m2_s a with ⟨s1, s2, s3⟩ | ⟨s1, s2⟩
    · rw [s3, s2]
      rw [s2] at y
      exact y
    · rw [s2]
      exact Nat.le_refl _
  · have y := (q (m2_ a) (m2_ b) (m2_ c) (m2_ d) (m2_3 a) (m2_3 b) (m2_3 c) (m2_3 d)).2.1
    show Fc_ T a b c d ≤ Fc_ T a (b + 1) c d
    rw [e a b, e a (b + 1)]
    rcases m2_s b with ⟨s1, s2, s3⟩ | ⟨s1, s2⟩
    · rw [s3, s2]
      rw [s2] at y
      exact y
    · rw [s2]
      exact Nat.le_refl _
  · have y := (q (m2_ a) (m2_ b) (m2_ c) (m2_ d) (m2_3 a) (m2_3 b) (m2_3 c) (m2_3 d)).2.2.1
    show Fc_ T a b c d ≤ Fc_ T a b (c + 1) d
    rw [e a b c, e a b (c + 1)]
    rcases m2_s c with ⟨s1, s2, s3⟩ | ⟨s1, s2⟩
    · rw [s3, s2]
      rw [s2] at y
      exact y
    · rw [s2]
      exact Nat.le_refl _
  · have y := (q (m2_ a) (m2_ b) (m2_ c) (m2_ d) (m2_3 a) (m2_3 b) (m2_3 c) (m2_3 d)).2.2.2
    show Fc_ T a b c d ≤ Fc_ T a b c (d + 1)
    rw [e a b c d, e a b c (d + 1)]
    rcases m2_s d with ⟨s1, s2, s3⟩ | ⟨s1, s2⟩
    · rw [s3, s2]
      rw [s2] at y
      exact y
    · rw [s2]
      exact Nat.le_refl _
theorem vsk_le (hF : Mk_ F) (h0 : Dm_ E0 V0) (h1 : Dm_ E1 V1) (h2 : Dm_ E2 V2) (h3 : Dm_ E3 V3) : vsk_ F E0 E1 E2 E3 ≤ vsk_ F V0 V1 V2 V3 := by
  unfold vsk_
  refine Nat.le_trans (h0 _ (fun x y hx _ => ?_)) (sumf_le _ (fun a _ => Nat.le_trans (h1 _ (fun x y hx _ => ?_)) (sumf_le _ (fun b _ => Nat.le_trans (h2 _ (fun x y hx _ => ?_)) (sumf_le _ (fun c _ => h3 _ (fun x y hx _ => ?_)))))))
  · exact sumf_le _ (fun b _ => sumf_le _ (fun c _ => sumf_le _ (fun d _ => hF.1 _ _ _ _ _ hx)))
  · exact sumf_le _ (fun c _ => sumf_le _ (fun d _ => hF.2.1 _ _ _ _ _ hx))
  · exact sumf_le _ (fun d _ => hF.2.2.1 _ _ _ _ _ hx)
  · exact hF.2.2.2 _ _ _ _ _ hx
theorem vsk_vk : vsk_ F (exq_ W0) (exq_ W1) (exq_ W2) (exq_ W3) = vk_ F W0 W1 W2 W3 := by
  unfold vsk_ vk_
  rw [sumf_exq]
  refine smw_cg _ (fun a _ => ?_)
  rw [sumf_exq]
  refine smw_cg _ (fun b _ => ?_)
  rw [sumf_exq]
  refine smw_cg _ (fun c _ => ?_)
  rw [sumf_exq]
theorem tl2_t {c : Nat} (hc : c < 4) : tx_ (tl2_ c) = 2 ∧ cnt_ (tl2_ c) 2 = 0 := by
  rcases (show c = 0 ∨ c = 1 ∨ c = 2 ∨ c = 3 by omega) with e | e | e | e <;> subst e <;> exact ⟨rfl, rfl⟩
theorem dm_en2 {c : Nat} (hc : c < 4) (hL : acc_ L = tl2_ c) (hx : exn_ true L ≤ x) : Dm_ (mls_ L [(0, 0)] 0 0) (exq_ (en2_ c x)) := by
  intro f hf
  have y := nrm_le hf L true [(0, 0)] 0 0 (fun _ => rfl)
  have s := (nrm_shp L).1
  rw [hL] at s
  have q := ckd_t
  unfold ckd_ at q
  have q := List.all_eq_true.mp q c (List.mem_range.mpr hc)
  have q := List.all_eq_true.mp q _ s
  have zz : sumf_ f (mls_ (nrm_ true L) [(0, 0)] 0 0) ≤ sumf_ f (exq_ (tw2_ c)) := sumf_cnt _ _ (fun v hv => Nat.le_of_ble_eq_true (List.all_eq_true.mp q v hv))
  obtain ⟨t1, t2⟩ := tl2_t hc
  have e1 : tx_ L = 2 := by
    rw [← t1, ← hL]
    unfold tx_
    rw [cnt_acc L (by decide), cnt_acc L (by decide)]
  have e2 : cnt_ L 2 = 0 := by
    rw [← t2, ← hL, cnt_acc L (by decide)]
  have e3 : sumf_ f (exq_ (en2_ c x)) = sumf_ f (exq_ (tw2_ c)) + x * f (2, 0) := by
    unfold en2_
    rw [sumf_exq, sumf_exq]
    have key : ∀ (W : List (Nat × Nat × Nat)) (f : Nat → Nat → Nat) (v : Nat × Nat × Nat), smw_ f (W ++ [v]) = smw_ f W + v.2.2 * f v.1 v.2.1 := fun W f v => by
      induction W with
      | nil =>
        show v.2.2 * f v.1 v.2.1 + 0 = 0 + _
        omega
      | cons u W ih =>
        show u.2.2 * f u.1 u.2.1 + smw_ f (W ++ [v]) = u.2.2 * f u.1 u.2.1 + smw_ f W + _
        rw [ih]
        omega
    rw [key]
  rw [Nat.zero_add, Nat.zero_add, e1, e2] at y
  rw [e3]
  exact Nat.le_trans y (Nat.add_le_add zz (Nat.mul_le_mul_right _ hx))
theorem code_of (h : ∀ a, a ∈ L → a = 1 ∨ a = 3) (hl : L.length = 2) : ∃ c, c < 4 ∧ tl2_ c = L := by
  match L, h, hl with
  | [a, b], h, _ =>
    rcases h a (by simp) with e | e <;> rcases h b (by simp) with e2 | e2 <;> subst e <;> subst e2
    · exact ⟨0, by decide, rfl⟩
    · exact ⟨2, by decide, rfl⟩
    · exact ⟨1, by decide, rfl⟩
    · exact ⟨3, by decide, rfl⟩
  | [], _, hl => simp at hl
  | [_], _, hl => simp at hl
  | _ :: _ :: _ :: _, _, hl => simp at hl
theorem lbn_1k (h : lbn_ g true X n = 1) : gC_ g n 1 = 0 := by
  unfold lbn_ at h
  by_cases h3 : gC_ g n 1 = 3
  · rw [if_pos h3] at h
    omega
  · rw [if_neg h3] at h
    by_cases h2 : gC_ g n 2 = (X : Int)
    · rw [if_pos h2] at h
      by_cases h0 : gC_ g n 1 = 0
      · exact h0
      · rw [decide_eq_true h0, Bool.and_true, if_pos rfl] at h
        omega
    · rw [if_neg h2] at h
      omega
theorem ftl_acc (hX : ∀ n, gB_ g t ≤ n → n < gB_ g t + k → gC_ g n 1 ≠ 3 → gC_ g n 2 = (X : Int)) : ∀ k', k' ≤ k → (acc_ ((List.range' 0 k').map (fun j => lbn_ g true X (gB_ g t + j)))).map (fun a => decide (a = 1)) = (acw_ g X (gB_ g t) (gB_ g t + k')).map (pnl_ g)
  | 0, _ => by
    rw [Nat.add_zero, acw_nil (Nat.le_refl _)]
    rfl
  | k' + 1, hk => by
    have ih := ftl_acc hX k' (by omega)
    rw [List.range'_1_concat, List.map_append, acc_app, List.map_append, ih, Nat.zero_add, acw_app (b := gB_ g t + k') (c := gB_ g t + (k' + 1)) (by omega) (by omega), List.map_append]
    congr 1
    show (acc_ [lbn_ g true X (gB_ g t + k')]).map (fun a => decide (a = 1)) = (acw_ g X (gB_ g t + k') (gB_ g t + k' + 1)).map (pnl_ g)
    rcases lbn_c (g := g) (fz := true) (X := X) (n := gB_ g t + k') with ⟨e, k3⟩ | ⟨e, ac⟩ | ⟨e, ac, k0⟩ | ⟨e, ac⟩
    · rw [e, acw_no (decide_eq_false (fun y => y.1 k3))]
      rfl
    · have k0 := lbn_1k e
      rw [e, acw_one ac]
      show [true] = [pnl_ g (gB_ g t + k')]
      unfold pnl_
      rw [decide_eq_true k0]
    · rw [e, acw_one ac]
      show [false] = [pnl_ g (gB_ g t + k')]
      unfold pnl_
      rw [decide_eq_false k0]
    · exfalso
      have y := of_decide_eq_false ac
      by_cases h3 : gC_ g (gB_ g t + k') 1 = 3
      · have z := lbn_3 (g := g) (fz := true) (X := X) h3
        omega
      · exact y ⟨h3, hX _ (by omega) (by omega) h3⟩
theorem ckk_of (h0 : c0 ≤ c1) (h1 : c1 ≤ c2) (h2 : c2 ≤ c3) (h3 : c3 < 4) : ckk_ c0 c1 c2 c3 = true := by
  have y : cks_ c3 = true := by
    rcases (show c3 = 0 ∨ c3 = 1 ∨ c3 = 2 ∨ c3 = 3 by omega) with e | e | e | e <;> subst e
    · exact cks_0
    · exact cks_1
    · exact cks_2
    · exact cks_3
  unfold cks_ at y
  have y := List.all_eq_true.mp y c2 (List.mem_range.mpr (by omega))
  have y := List.all_eq_true.mp y c1 (List.mem_range.mpr (by omega))
  exact List.all_eq_true.mp y c0 (List.mem_range.mpr (by omega))
theorem br_spec (zP : Wp_ p) (hm : m < 3) (hz : Zk_ p z) (hs : Spl_ p X) : Br_ (gly_ p G z m) (Kl_ p G z) (s0k_ p (pL_ p)) := by
  have hg := gw_ly (G := G) (z := z) zP hm
  obtain ⟨hX, hn, hloc⟩ := hs
  have n10 := na_10 zP
  have a0 := hn 0 (by decide)
  have a1 := hn 1 (by decide)
  have a2 := hn 2 (by decide)
  have a3 := hn 3 (by decide)
  have lab := fun t => thr_lab (G := G) (m := m) (fz := true) (X := X) zP hz t
  have ncna : ∀ t, t < 4 → nc_ p X t = 2 := fun t ht => by
    rw [← hn t ht]
    have gN := gB_le (p := p) (t + 1)
    refine ct_cgw _ (fun j hj => decide_eq_decide.mpr ⟨fun y => y.1, fun y => ⟨y, hloc _ (by omega) y⟩⟩)
  have codes : ∀ t, t < 4 → ∃ c, c < 4 ∧ tl2_ c = acc_ (lbl_ (gly_ p G z m) true X t) := fun t ht => by
    obtain ⟨-, l2, l3, -, l5⟩ := lab t
    rw [hn t ht] at l2
    rw [ncna t ht] at l3
    refine code_of (fun a ha => ?_) l2
    rcases l5 a ha with e | e | ⟨-, e⟩
    · exact Or.inl e
    · exfalso
      subst e
      have z1 : 0 < cnt_ (acc_ (lbl_ (gly_ p G z m) true X t)) 2 := by
        unfold cnt_
        exact List.length_pos_of_mem (List.mem_filter.mpr ⟨ha, rfl⟩)
      have sum : ∀ (A : List Nat), (∀ a, a ∈ A → a = 1 ∨ a = 2 ∨ a = 3) → A.length = cnt_ A 1 + cnt_ A 2 + cnt_ A 3 := fun A => by
        induction A with
        | nil => intro _; rfl
        | cons b A ih =>
          intro h
          have ih := ih (fun a ha => h a (List.mem_cons_of_mem _ ha))
          rw [List.length_cons, cnt_cons, cnt_cons, cnt_cons, ih]
          rcases h b List.mem_cons_self with e | e | e <;> subst e
          · show _ = (cnt_ A 1 + 1) + (cnt_ A 2 + 0) + (cnt_ A 3 + 0)
            omega
          · show _ = (cnt_ A 1 + 0) + (cnt_ A 2 + 1) + (cnt_ A 3 + 0)
            omega
          · show _ = (cnt_ A 1 + 0) + (cnt_ A 2 + 0) + (cnt_ A 3 + 1)
            omega
      have ss := sum (acc_ (lbl_ (gly_ p G z m) true X t)) (fun a ha => by
        rcases l5 a ha with e | e | ⟨-, e⟩
        · exact Or.inl e
        · exact Or.inr (Or.inl e)
        · exact Or.inr (Or.inr e))
      unfold tx_ at l3
      rw [cnt_acc _ (by decide), cnt_acc _ (by decide), cnt_acc _ (by decide)] at ss
      rw [cnt_acc _ (by decide)] at z1
      omega
    · exact Or.inr e
  have locs : ∀ (l n : Nat), l < 3 → n < Kl_ p G z → gC_ (gly_ p G z m) n 1 ≠ 3 → gC_ (gly_ p G z m) n 2 = (l : Int) → l = X := fun l n _ hn2 h3 h2 => by
    have hn2 : n < (ly_ p G z (pN_ p)).length := hn2
    have hx := List.getElem?_eq_getElem hn2
    revert hx
    generalize (ly_ p G z (pN_ p))[n] = y
    intro hx
    rcases ly_inv _ _ _ hx with e | ⟨i, i1, i2, i3, i4⟩
    · exfalso
      have c := lc0_at (p := p) hx 1
      rw [e] at c
      exact h3 (c.trans rfl)
    · subst i4
      rw [lay_C i1 i2] at h3 h2
      have := hloc i i1 h3
      omega
  have ftl : ∀ t c, t < 4 → tl2_ c = acc_ (lbl_ (gly_ p G z m) true X t) → ftl_ (gly_ p G z m) X t = tf2_ c := fun t c ht hc => by
    obtain ⟨k1, k2, k3⟩ := gk_ hg ht
    have y := ftl_acc (g := gly_ p G z m) (X := X) (t := t) (k := gl_ (gly_ p G z m) t) (fun n n1 n2 h3 => by
      have nK : n < Kl_ p G z := by omega
      have b := hg.2.2.2.2.2.2.2.1 n nK
      have b3 := b.2.2.1 h3
      have b2 := b.2.1
      have := locs (gC_ (gly_ p G z m) n 2).toNat n (by omega) nK h3 (by omega)
      omega) (gl_ (gly_ p G z m) t) (Nat.le_refl _)
    unfold ftl_ tf2_
    rw [hc, ← k1, ← y]
    rfl
  have dm : ∀ t c, c < 4 → tl2_ c = acc_ (lbl_ (gly_ p G z m) true X t) → Dm_ ((CL_ (gly_ p G z m) true X t).map Prod.snd) (exq_ (en2_ c (nfe_ p t))) := fun t c hc he => by
    have e : (CL_ (gly_ p G z m) true X t).map Prod.snd = mls_ (lbl_ (gly_ p G z m) true X t) [(0, 0)] 0 0 := cls_mls _ _ _ _ _
    rw [e]
    exact dm_en2 hc he.symm (lab t).2.2.2.1
  obtain ⟨d0, f0, e0⟩ := codes 0 (by decide)
  obtain ⟨d1, f1, e1⟩ := codes 1 (by decide)
  obtain ⟨d2, f2, e2⟩ := codes 2 (by decide)
  obtain ⟨d3, f3, e3⟩ := codes 3 (by decide)
  obtain ⟨co, cd⟩ : ∃ co : Nat → Nat, ∀ t, t < 4 → co t < 4 ∧ tl2_ (co t) = acc_ (lbl_ (gly_ p G z m) true X t) := ⟨fun t => if t = 0 then d0 else if t = 1 then d1 else if t = 2 then d2 else d3, fun t ht => by
    rcases (show t = 0 ∨ t = 1 ∨ t = 2 ∨ t = 3 by omega) with e | e | e | e <;> subst e
    · exact ⟨f0, e0⟩
    · exact ⟨f1, e1⟩
    · exact ⟨f2, e2⟩
    · exact ⟨f3, e3⟩⟩
  have main := sort4 (P := fun t0 t1 t2 t3 => Pm_ t0 t1 t2 t3 → Br_ (gly_ p G z m) (Kl_ p G z) (s0k_ p (pL_ p))) (fun t => 3 - co t) (fun a b c d h hp => h (by unfold Pm_ at hp ⊢; omega)) (fun a b c d h hp => h (by unfold Pm_ at hp ⊢; omega)) (fun a b c d h hp => h (by unfold Pm_ at hp ⊢; omega)) (fun a b c d h1 h2 h3 hp => by
    obtain ⟨p0, p1, p2, p3, -⟩ := id hp
    obtain ⟨q0, r0⟩ := cd a p0
    obtain ⟨q1, r1⟩ := cd b p1
    obtain ⟨q2, r2⟩ := cd c p2
    obtain ⟨q3, r3⟩ := cd d p3
    refine br_wks hg (un_ly zP hm hz) (vr_0 zP.1 hg) s0_P s0_R hX hp (fun t ht => ?_) locs ?_
    · obtain ⟨q, r⟩ := cd t ht
      rw [ftl t (co t) ht r]
      unfold tf2_
      rw [List.length_map, r, (lab t).2.1, hn t ht]
    · rw [wks_len, ftl a (co a) p0 r0, ftl b (co b) p1 r1, ftl c (co c) p2 r2, ftl d (co d) p3 r3]
      have ck := ckk_of (c0 := co a) (c1 := co b) (c2 := co c) (c3 := co d) (by omega) (by omega) (by omega) q3
      unfold ckk_ at ck
      rw [Bool.and_eq_true, Bool.and_eq_true] at ck
      obtain ⟨⟨ck1, ck2⟩, ck3⟩ := ck
      have eF : Fk_ (tf2_ (co a)) (tf2_ (co b)) (tf2_ (co c)) (tf2_ (co d)) = Fc_ (tkn_ (co a) (co b) (co c) (co d)) := funext (fun i => funext (fun j => funext (fun k => funext (fun l => Fk_Fc ck1 i j k l))))
      rw [eF]
      refine Nat.le_trans (vsk_le (Fc_mk ck2) (dm a (co a) q0 r0) (dm b (co b) q1 r1) (dm c (co c) q2 r2) (dm d (co d) q3 r3)) ?_
      rw [vsk_vk]
      have nf4 : nfe_ p a + nfe_ p b + nfe_ p c + nfe_ p d = nfe_ p 0 + nfe_ p 1 + nfe_ p 2 + nfe_ p 3 := by
        unfold Pm_ at hp
        rcases (show a = 0 ∨ a = 1 ∨ a = 2 ∨ a = 3 by omega) with ea | ea | ea | ea <;> rcases (show b = 0 ∨ b = 1 ∨ b = 2 ∨ b = 3 by omega) with eb | eb | eb | eb <;> rcases (show c = 0 ∨ c = 1 ∨ c = 2 ∨ c = 3 by omega) with ec | ec | ec | ec <;> rcases (show d = 0 ∨ d = 1 ∨ d = 2 ∨ d = 3 by omega) with ed | ed | ed | ed <;> first | omega | (subst ea; subst eb; subst ec; subst ed; omega)
      unfold ck3_ at ck3
      have y := List.all_eq_true.mp ck3 (nfe_ p a) (List.mem_range.mpr (by omega))
      have y := List.all_eq_true.mp y (nfe_ p b) (List.mem_range.mpr (by omega))
      have y := List.all_eq_true.mp y (nfe_ p c) (List.mem_range.mpr (by omega))
      have y := List.all_eq_true.mp y (nfe_ p d) (List.mem_range.mpr (by omega))
      exact Nat.le_of_ble_eq_true y) 0 1 2 3
  exact main (by unfold Pm_; omega)
/-- T2: whatever is laid has at most 65535 states -/
theorem bz_all (zP : Wp_ p) : Bz_ p := fun G m z hm h => by
  have hz : Zk_ p z := by
    rcases h with ⟨-, h⟩ | ⟨-, h1, h2, h3⟩
    · rw [h]
      exact zk_m1
    · obtain ⟨i, rfl⟩ : ∃ i : Nat, z = i := ⟨z.toNat, by omega⟩
      rw [Int.toNat_natCast] at h3
      exact zk_i h3
  by_cases hs : ∃ X, Spl_ p X
  · obtain ⟨X, hs⟩ := hs
    exact br_spec zP hm hz hs
  · exact br_most zP hm hz (fun X y => hs ⟨X, y⟩)
end SPK
