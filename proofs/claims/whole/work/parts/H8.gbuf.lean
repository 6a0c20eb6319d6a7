/-! the greatest buffer (T5) -/
section GF
variable {p : pr_T} {g : gm_T} {K m n t u w k i : Nat} {S S2 X Y S0 : gs_T} {N : List (gs_T × Int64)}
/-- stores that can wait after k items of a thread -/
def cuw_ (g : gm_T) (t : Nat) : Nat → Nat
  | 0 => 0
  | k + 1 => if 2 ≤ gC_ g (gB_ g t + k) 1 then 0 else if gC_ g (gB_ g t + k) 1 = 0 then cuw_ g t k + 1 else cuw_ g t k
def cmw_ (g : gm_T) (t : Nat) : Nat → Nat
  | 0 => 0
  | k + 1 => max (cmw_ g t k) (cuw_ g t (k + 1))
theorem cu_cm {j : Nat} (h : j ≤ k) : cuw_ g t j ≤ cmw_ g t k := by
  induction k with
  | zero =>
    have : j = 0 := by omega
    subst this
    exact Nat.le_refl _
  | succ k ih =>
    by_cases e : j = k + 1
    · subst e
      exact Nat.le_max_right _ _
    · exact Nat.le_trans (ih (by omega)) (Nat.le_max_left _ _)
theorem cm_at (g : gm_T) (t : Nat) : ∀ k, ∃ j, j ≤ k ∧ cuw_ g t j = cmw_ g t k
  | 0 => ⟨0, Nat.le_refl _, rfl⟩
  | k + 1 => by
    obtain ⟨j, j1, j2⟩ := cm_at g t k
    by_cases c : cmw_ g t k ≤ cuw_ g t (k + 1)
    · refine ⟨k + 1, Nat.le_refl _, ?_⟩
      show _ = max (cmw_ g t k) (cuw_ g t (k + 1))
      rw [Nat.max_eq_right c]
    · refine ⟨j, by omega, ?_⟩
      show _ = max (cmw_ g t k) (cuw_ g t (k + 1))
      rw [Nat.max_eq_left (by omega), j2]
theorem ct_cgw {f f' : Nat → Bool} : ∀ n, (∀ j, j < n → f j = f' j) → ct_ f n = ct_ f' n
  | 0, _ => rfl
  | n + 1, h => by
    rw [ct_s, ct_s, ct_cgw n (fun j hj => h j (by omega)), h n (by omega)]
theorem wmn_x (hg : Gw_ g K) (q1 : t < 4) (e : gx_ g S t = some S2) (hm : gm_ g ≠ 0) (hn : sW_ S (gB_ g t + sP_ S t) = false) : wmn_ g S2 t = if 2 ≤ gC_ g (gB_ g t + sP_ S t) 1 then 0 else if gC_ g (gB_ g t + sP_ S t) 1 = 0 then wmn_ g S t + 1 else wmn_ g S t := by
  obtain ⟨z1, z2⟩ := gx_eq (by rw [e]; exact fun y => by cases y)
  have eb := gx_b z1 z2
  rw [e] at eb
  have eb := Option.some.inj eb
  have eP : sP_ S2 t = sP_ S t + 1 := by
    rw [eb, gxb_P]
    exact if_pos rfl
  have hK := hg.2.2.2.2.1 (gB_ g t + sP_ S t)
  unfold wmn_
  rw [eP, ct_s]
  by_cases c0 : gC_ g (gB_ g t + sP_ S t) 1 = 0
  · have eW : sW_ S2 = ub_ (sW_ S) (gB_ g t + sP_ S t) true := by
      rw [eb]
      unfold gxb_
      rw [if_pos c0, if_neg hm]
      rfl
    rw [if_neg (show ¬ 2 ≤ gC_ g (gB_ g t + sP_ S t) 1 by omega), if_pos c0, eW, ct_cgw (f' := fun j => decide (gC_ g (gB_ g t + j) 1 = 0) && sW_ S (gB_ g t + j)) _ (fun j hj => ?_)]
    · rw [decide_eq_true c0, Bool.true_and, show ub_ (sW_ S) (gB_ g t + sP_ S t) true (gB_ g t + sP_ S t) = true from if_pos rfl, if_pos rfl]
    · rw [show ub_ (sW_ S) (gB_ g t + sP_ S t) true (gB_ g t + j) = sW_ S (gB_ g t + j) from if_neg (by omega)]
  · have eW : sW_ S2 = sW_ S := by
      rw [eb]
      unfold gxb_
      rw [if_neg c0]
      repeat (first | rfl | split)
    rw [eW, decide_eq_false c0, Bool.false_and, if_neg (by decide), Nat.add_zero]
    by_cases c2 : 2 ≤ gC_ g (gB_ g t + sP_ S t) 1
    · rw [if_pos c2]
      have ga : ga1_ g S t = none := Classical.byContradiction (fun y => z2 ⟨by rw [hK]; exact decide_eq_true c2, y⟩)
      have ga := (f1_none _ _ _).mp ga
      rw [ct_cgw (f' := fun _ => false) _ (fun j hj => by rw [ga (gB_ g t + j) (by omega) (by omega), Bool.and_false])]
      have z : ∀ n, ct_ (fun _ => false) n = 0 := fun n => by
        induction n with
        | zero => rfl
        | succ n ih =>
          rw [ct_s, ih]
          rfl
      exact z _
    · rw [if_neg c2, if_neg c0]
theorem nw_n (hg : Gw_ g K) (v : Vr_ g K S) (q1 : t < 4) (q2 : sP_ S t < gl_ g t) : sW_ S (gB_ g t + sP_ S t) = false := by
  cases e : sW_ S (gB_ g t + sP_ S t) with
  | false => rfl
  | true =>
    obtain ⟨-, -, -, u, u1, u2, u3⟩ := v.2.2.2.2 _ e
    have hu := v.2.2.2.1 u u1
    obtain ⟨k1, k2, k3⟩ := gk_ hg q1
    obtain ⟨m1, m2, m3⟩ := gk_ hg u1
    have := seg_un hg q1 u1 (n := gB_ g t + sP_ S t) ⟨by omega, by omega⟩ ⟨u2, by omega⟩
    subst this
    omega
/-- no more wait than can -/
theorem wmn_up (hg : Gw_ g K) (hm : gm_ g ≠ 0) (q1 : t < 4) (v : Vr_ g K X) (h : wmn_ g X t ≤ cuw_ g t (sP_ X t)) (qu : u < 4) (e : gt_ g X u w = some Y) : wmn_ g Y t ≤ cuw_ g t (sP_ Y t) := by
  unfold gt_ at e
  split at e
  · have hs := gx_sum e
    have hn := nw_n hg v qu hs.1
    by_cases c : u = t
    · subst c
      have eP : sP_ Y u = sP_ X u + 1 := by
        rw [hs.2.1]
        exact if_pos rfl
      rw [wmn_x hg qu e hm hn, eP]
      show _ ≤ (if 2 ≤ gC_ g (gB_ g u + sP_ X u) 1 then 0 else if gC_ g (gB_ g u + sP_ X u) 1 = 0 then cuw_ g u (sP_ X u) + 1 else cuw_ g u (sP_ X u))
      split
      · exact Nat.le_refl _
      · split <;> omega
    · have eP : sP_ Y t = sP_ X t := by
        rw [hs.2.1]
        exact if_neg (fun y => c y.symm)
      have eW : wmn_ g Y t = wmn_ g X t := by
        unfold wmn_
        rw [eP]
        refine ct_cgw _ (fun j hj => ?_)
        rcases hs.2.2.1 with y | ⟨-, y⟩
        · rw [y]
        · rw [y]
          have hP := v.2.2.2.1 t q1
          obtain ⟨k1, k2, k3⟩ := gk_ hg q1
          obtain ⟨m1, m2, m3⟩ := gk_ hg qu
          rw [show ub_ (sW_ X) (gB_ g u + sP_ X u) true (gB_ g t + j) = sW_ X (gB_ g t + j) from if_neg (fun y => c (seg_un hg qu q1 (n := gB_ g u + sP_ X u) ⟨by omega, by omega⟩ ⟨by omega, by omega⟩))]
      rw [eW, eP]
      exact h
  · obtain ⟨n, -, eP, -, eW⟩ := gc_sum e
    refine Nat.le_trans ?_ (by rw [eP]; exact h)
    unfold wmn_
    rw [eP, eW]
    refine ct_mo (fun j hj hj2 => ?_)
    rw [Bool.and_eq_true] at hj2 ⊢
    refine ⟨hj2.1, ?_⟩
    have y : (if gB_ g t + j = n then false else sW_ X (gB_ g t + j)) = true := hj2.2
    split at y
    · cases y
    · exact y
/-- the first that waits leaves -/
theorem com_ (hg : Gw_ g K) (v : Vr_ g K S) (q1 : t < 4) {n0 : Nat} (e : ga1_ g S t = some n0) : ∃ w S2, w < 4 ∧ gt_ g S t w = some S2 ∧ sP_ S2 = sP_ S ∧ sW_ S2 = ub_ (sW_ S) n0 false ∧ sW_ S n0 = true := by
  obtain ⟨e1, e2, e3, e4⟩ := (f1_some _ _ _).mp e
  obtain ⟨k1, k2, -⟩ := v.2.2.2.2 n0 e3
  obtain ⟨-, b2, b3, -⟩ := hg.2.2.2.2.2.2.2.1 n0 k1
  have b3 := b3 (by omega)
  obtain ⟨l, hl⟩ : ∃ l : Nat, gC_ g n0 2 = l := ⟨(gC_ g n0 2).toNat, by omega⟩
  have y1 : gw1_ g S t (l : Int) = some n0 := by
    refine (f1_some _ _ _).mpr ⟨e1, e2, ?_, fun j j1 j2 => ?_⟩
    · rw [e3, Bool.true_and]
      exact decide_eq_true hl
    · rw [e4 j j1 j2, Bool.false_and]
  have y3 : gn_ g S t l = some n0 := by
    unfold gn_
    rw [y1]
    dsimp only
    rw [e, if_neg (fun y => y.2 rfl)]
  refine ⟨l + 1, _, by omega, (show gt_ g S t (l + 1) = some (sP_ S, sR_ S, un_ (sM_ S) l (gv_ g S t n0), ub_ (sW_ S) n0 false) from ?_), rfl, rfl, e3⟩
  unfold gt_
  rw [if_neg (by omega), Nat.add_sub_cancel]
  unfold gc_
  rw [y3]
theorem drain_ (hg : Gw_ g K) (q1 : t < 4) : ∀ (k : Nat) (S : gs_T), ct_ (sW_ S) K ≤ k → Vr_ g K S → ∃ S2, Rc_ g S S2 ∧ Vr_ g K S2 ∧ sP_ S2 = sP_ S ∧ ga1_ g S2 t = none
  | 0, S, hk, v => by
    refine ⟨S, rc_0, v, rfl, ?_⟩
    cases e : ga1_ g S t with
    | none => rfl
    | some n0 =>
      have e3 := ((f1_some _ _ _).mp e).2.2.1
      have k1 := (v.2.2.2.2 n0 e3).1
      have := ct_one k1 e3
      omega
  | k + 1, S, hk, v => by
    cases e : ga1_ g S t with
    | none => exact ⟨S, rc_0, v, rfl, e⟩
    | some n0 =>
      obtain ⟨w, S2, w4, e2, eP, eW, e3⟩ := com_ hg v q1 e
      have k1 := (v.2.2.2.2 n0 e3).1
      have y := ct_pt (f := sW_ S) (f2 := sW_ S2) (n0 := n0) (N := K) k1 e3 (by rw [eW]; exact if_pos rfl) (fun j zj => by rw [eW]; exact if_neg zj)
      obtain ⟨S3, r1, r2, r3, r4⟩ := drain_ hg q1 k S2 (by omega) (vr_step hg v q1 w4 e2)
      exact ⟨S3, rc_tr (rc_s rc_0 q1 w4 e2) r1, r2, r3.trans eP, r4⟩
/-- as many wait as can -/
theorem wmn_lo (hg : Gw_ g K) (h0 : Vr_ g K S0) (hP0 : sP_ S0 t = 0) (hm : gm_ g ≠ 0) (q1 : t < 4) : ∀ k, k ≤ gl_ g t → ∃ S, Rc_ g S0 S ∧ Vr_ g K S ∧ sP_ S t = k ∧ wmn_ g S t = cuw_ g t k
  | 0, _ => ⟨S0, rc_0, h0, hP0, by
    unfold wmn_
    rw [hP0]
    rfl⟩
  | k + 1, hk => by
    obtain ⟨S, r, v, eP, eW⟩ := wmn_lo hg h0 hP0 hm q1 k (by omega)
    by_cases c2 : 2 ≤ gC_ g (gB_ g t + k) 1
    · obtain ⟨S2, r2, v2, eP2, ga⟩ := drain_ hg q1 (ct_ (sW_ S) K) S (Nat.le_refl _) v
      have eP3 : sP_ S2 t = k := by rw [eP2]; exact eP
      have gx := gx_b (g := g) (S := S2) (t := t) (by omega) (fun y => y.2 ga)
      have w := wmn_x hg q1 gx hm (nw_n hg v2 q1 (by omega))
      refine ⟨_, rc_s (w := 0) (rc_tr r r2) q1 (by decide) gx, vr_step (w := 0) hg v2 q1 (by decide) gx, ?_, ?_⟩
      · rw [gxb_P]
        show (if t = t then _ else _) = _
        rw [if_pos rfl, eP3]
      · rw [w, eP3, if_pos c2]
        show 0 = (if 2 ≤ gC_ g (gB_ g t + k) 1 then 0 else _)
        rw [if_pos c2]
    · have hK := hg.2.2.2.2.1 (gB_ g t + sP_ S t)
      have gx := gx_b (g := g) (S := S) (t := t) (by omega) (fun y => by
        have y1 := y.1
        rw [hK, eP] at y1
        exact c2 (of_decide_eq_true y1))
      have w := wmn_x hg q1 gx hm (nw_n hg v q1 (by omega))
      refine ⟨_, rc_s (w := 0) r q1 (by decide) gx, vr_step (w := 0) hg v q1 (by decide) gx, ?_, ?_⟩
      · rw [gxb_P]
        show (if t = t then _ else _) = _
        rw [if_pos rfl, eP]
      · rw [w, eP, if_neg c2, eW]
        show _ = (if 2 ≤ gC_ g (gB_ g t + k) 1 then 0 else if gC_ g (gB_ g t + k) 1 = 0 then cuw_ g t k + 1 else cuw_ g t k)
        rw [if_neg c2]
theorem gbl_ge : ∀ (N : List (gs_T × Int64)) (a : Nat), a ≤ N.foldl (fun a x => if a < wmn_ g x.1 t then wmn_ g x.1 t else a) a ∧ ∀ x ∈ N, wmn_ g x.1 t ≤ N.foldl (fun a x => if a < wmn_ g x.1 t then wmn_ g x.1 t else a) a
  | [], a => ⟨Nat.le_refl _, fun x h => by cases h⟩
  | x :: N, a => by
    rw [List.foldl_cons]
    obtain ⟨h1, h2⟩ := gbl_ge N (if a < wmn_ g x.1 t then wmn_ g x.1 t else a)
    have y : a ≤ (if a < wmn_ g x.1 t then wmn_ g x.1 t else a) ∧ wmn_ g x.1 t ≤ (if a < wmn_ g x.1 t then wmn_ g x.1 t else a) := by
      split <;> omega
    refine ⟨Nat.le_trans y.1 h1, fun z hz => ?_⟩
    rcases List.mem_cons.mp hz with e | e
    · rw [e]
      exact Nat.le_trans y.2 h1
    · exact h2 z e
theorem gbl_le {B : Nat} : ∀ (N : List (gs_T × Int64)) (a : Nat), a ≤ B → (∀ x ∈ N, wmn_ g x.1 t ≤ B) → N.foldl (fun a x => if a < wmn_ g x.1 t then wmn_ g x.1 t else a) a ≤ B
  | [], a, h, _ => h
  | x :: N, a, h, h2 => by
    rw [List.foldl_cons]
    refine gbl_le N _ ?_ (fun z hz => h2 z (List.mem_cons_of_mem _ hz))
    have := h2 x List.mem_cons_self
    split <;> omega
theorem gbl_cm (zP : Wp_ p) (hm : m < 3) (hb : Bz_ p) (m0 : m ≠ 0) (q1 : t < 4) : gbl_ (gly_ p 0 (-1) m) t (Ms_ p m) = cmw_ (gly_ p 0 (-1) m) t (gl_ (gly_ p 0 (-1) m) t) := by
  have hg := gw_ly (G := 0) (z := -1) zP hm
  have h0 := vr_0 (g := gly_ p 0 (-1) m) (K := Kl_ p 0 (-1)) zP.1 hg
  have hB := bz_0 hb hm
  refine Nat.le_antisymm ?_ ?_
  · refine gbl_le _ 0 (Nat.zero_le _) (fun x hx => ?_)
    have r := (rl_rc hg h0 hB).mp ⟨x, hx, rfl⟩
    have v := rc_vr zP hm r
    have inv := rc_ind (P := fun X => wmn_ (gly_ p 0 (-1) m) X t ≤ cuw_ (gly_ p 0 (-1) m) t (sP_ X t)) r (Nat.le_refl _) (fun X u w Y a1 a2 z1 _ z3 => wmn_up hg m0 q1 (rc_vr zP hm a1) a2 z1 z3)
    exact Nat.le_trans inv (cu_cm (v.2.2.2.1 t q1))
  · obtain ⟨j, j1, j2⟩ := cm_at (gly_ p 0 (-1) m) t (gl_ (gly_ p 0 (-1) m) t)
    obtain ⟨S, r, -, -, e⟩ := wmn_lo hg h0 (show sP_ (s0k_ p (pL_ p)) t = 0 from rfl) m0 q1 j j1
    obtain ⟨x, x1, x2⟩ := (rl_rc hg h0 hB).mpr r
    rw [← j2, ← e, ← x2]
    exact (gbl_ge _ 0).2 x x1
theorem gbl_0 (zP : Wp_ p) : gbl_ (gly_ p 0 (-1) 0) t (Ms_ p 0) = 0 := by
  refine Nat.le_antisymm (gbl_le _ 0 (Nat.le_refl _) (fun x hx => ?_)) (Nat.zero_le _)
  have v := ms_v zP (m := 0) (by decide) x hx
  unfold wmn_
  have z : ∀ n, ct_ (fun j => decide (gC_ (gly_ p 0 (-1) 0) (gB_ (gly_ p 0 (-1) 0) t + j) 1 = 0) && sW_ x.1 (gB_ (gly_ p 0 (-1) 0) t + j)) n = 0 := fun n => by
    induction n with
    | zero => rfl
    | succ n ih =>
      have e : sW_ x.1 (gB_ (gly_ p 0 (-1) 0) t + n) = false := by
        cases e : sW_ x.1 (gB_ (gly_ p 0 (-1) 0) t + n) with
        | false => rfl
        | true => exact absurd rfl (v.2.2.2.2 _ e).2.2.1
      rw [ct_s, ih, e, Bool.and_false]
      rfl
  rw [z]
  exact Nat.le_refl _
theorem mb_cm (zP : Wp_ p) (t : Nat) : ∀ k, k ≤ gl_ (gly_ p 0 (-1) m) t → mb_ p (t : Int) (gB0_ p t + k) = (cmw_ (gly_ p 0 (-1) m) t k, cuw_ (gly_ p 0 (-1) m) t k)
  | 0, _ => by
    have key : ∀ i, i ≤ gB0_ p t → mb_ p (t : Int) i = (0, 0) := by
      intro i
      induction i with
      | zero => intro _; rfl
      | succ i ih =>
        intro hi
        have gN := gB_le (p := p) t
        have e : pp_ p (i : Int) 0 = pC_ p i 0 := pp_in (k := 0) (by omega) (by decide)
        unfold mb_
        rw [e, if_neg ?_]
        · exact ih (by omega)
        · intro y
          have := ((gB_th zP (show i < pN_ p by omega)).mp y).1
          omega
    exact key _ (Nat.le_refl _)
  | k + 1, hk => by
    have ih := mb_cm zP t k (by omega)
    have el : gl_ (gly_ p 0 (-1) m) t = gB0_ p (t + 1) - gB0_ p t := gly_0l t
    rw [el] at hk
    have gN := gB_le (p := p) (t + 1)
    have iN : gB0_ p t + k < pN_ p := by omega
    have e0 : pp_ p ((gB0_ p t + k : Nat) : Int) 0 = pC_ p (gB0_ p t + k) 0 := pp_in (k := 0) iN (by decide)
    have e1 : pp_ p ((gB0_ p t + k : Nat) : Int) 1 = pC_ p (gB0_ p t + k) 1 := pp_in (k := 1) iN (by decide)
    have eB : gB_ (gly_ p 0 (-1) m) t = gB0_ p t := gly_0B t
    have eC : gC_ (gly_ p 0 (-1) m) (gB0_ p t + k) 1 = pC_ p (gB0_ p t + k) 1 := gly_0C iN 1
    have th : pC_ p (gB0_ p t + k) 0 = t := (gB_th zP iN).mpr ⟨by omega, by omega⟩
    have c3 := zP.1.2.2.2.2 (gB0_ p t + k) 1
    have c0 := (zP.2.1 _ iN).2.2.1
    have ecu : cuw_ (gly_ p 0 (-1) m) t (k + 1) = if pC_ p (gB0_ p t + k) 1 = 3 ∨ pC_ p (gB0_ p t + k) 1 = 2 then 0 else if pC_ p (gB0_ p t + k) 1 = 0 then cuw_ (gly_ p 0 (-1) m) t k + 1 else cuw_ (gly_ p 0 (-1) m) t k := by
      show (if 2 ≤ gC_ (gly_ p 0 (-1) m) (gB_ (gly_ p 0 (-1) m) t + k) 1 then 0 else _) = _
      rw [eB, eC]
      by_cases c : 2 ≤ pC_ p (gB0_ p t + k) 1
      · rw [if_pos c, if_pos (by omega)]
      · rw [if_neg c, if_neg (show ¬ (pC_ p (gB0_ p t + k) 1 = 3 ∨ pC_ p (gB0_ p t + k) 1 = 2) by omega)]
    rw [← Nat.add_assoc]
    unfold mb_
    rw [e0, e1, if_pos th, ih, ← ecu]
    rfl
theorem t5_ (zP : Wp_ p) (hm : m < 3) (hb : Bz_ p) (q1 : t < 4) : gbl_ (gly_ p 0 (-1) m) t (Ms_ p m) = if m = 0 then 0 else (mb_ p (t : Int) (pN_ p)).1 := by
  by_cases m0 : m = 0
  · subst m0
    rw [if_pos rfl]
    exact gbl_0 zP
  · rw [if_neg m0, gbl_cm zP hm hb m0 q1]
    have y := mb_cm (m := m) zP t (gl_ (gly_ p 0 (-1) m) t) (Nat.le_refl _)
    have el : gl_ (gly_ p 0 (-1) m) t = gB0_ p (t + 1) - gB0_ p t := gly_0l t
    have gm := gB_m (p := p) t
    have key : ∀ v, gB0_ p (t + 1) + v ≤ pN_ p → mb_ p (t : Int) (gB0_ p (t + 1) + v) = mb_ p (t : Int) (gB0_ p (t + 1)) := by
      intro v
      induction v with
      | zero => intro _; rfl
      | succ v ih =>
        intro hv
        have e : pp_ p ((gB0_ p (t + 1) + v : Nat) : Int) 0 = pC_ p (gB0_ p (t + 1) + v) 0 := pp_in (k := 0) (by omega) (by decide)
        rw [← Nat.add_assoc]
        show (if pp_ p ((gB0_ p (t + 1) + v : Nat) : Int) 0 = (t : Int) then _ else mb_ p (t : Int) (gB0_ p (t + 1) + v)) = _
        rw [e, if_neg ?_]
        · exact ih (by omega)
        · intro y
          have := ((gB_th zP (show gB0_ p (t + 1) + v < pN_ p by omega)).mp y).2
          omega
    have gN := gB_le (p := p) (t + 1)
    have k := key (pN_ p - gB0_ p (t + 1)) (by omega)
    rw [show gB0_ p (t + 1) + (pN_ p - gB0_ p (t + 1)) = pN_ p by omega] at k
    rw [k, ← show gB0_ p t + gl_ (gly_ p 0 (-1) m) t = gB0_ p (t + 1) by omega, y]
end GF
