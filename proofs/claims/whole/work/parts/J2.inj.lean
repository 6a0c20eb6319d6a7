/-! how many states (T2): states have witnesses of their own; a list of all witnesses -/
section IJ
variable {g : gm_T} {fz : Bool} {K t u l X k n c c' : Nat} {S S' S0 : gs_T} {w w' : Nat → List Nat} {τ τ' : Nat → Nat}
theorem inT_thd (hg : Gw_ g K) (q1 : t < 4) (h : ∃ u, u < 4 ∧ inT_ g u n = true) : decide (thd_ g n = t) = inT_ g t n := by
  obtain ⟨u, u4, hu⟩ := h
  have y := inT_iff.mp hu
  rw [thd_at hg u4 y.1 y.2]
  by_cases e : u = t
  · subst e
    rw [hu]
    exact decide_eq_true rfl
  · rw [decide_eq_false e]
    cases k : inT_ g t n with
    | false => rfl
    | true => exact absurd (seg_un hg u4 q1 y (inT_iff.mp k)) e
theorem cnt_map (hg : Gw_ g K) (q1 : t < 4) (A : List Nat) (h : ∀ n, n ∈ A → ∃ u, u < 4 ∧ inT_ g u n = true) : cnt_ (A.map (thd_ g)) t = (A.filter (inT_ g t)).length := by
  unfold cnt_
  rw [List.filter_map, List.length_map]
  congr 1
  exact List.filter_congr (fun n hn => inT_thd hg q1 (h n hn))
theorem cnt_app (A B : List Nat) (t : Nat) : cnt_ (A ++ B) t = cnt_ A t + cnt_ B t := by
  unfold cnt_
  rw [List.filter_append, List.length_append]
theorem thd_4 : thd_ g n < 4 := by
  unfold thd_
  split
  · omega
  · split
    · omega
    · split <;> omega
theorem len_cnt : ∀ (u : List Nat), (∀ x, x ∈ u → x < 4) → u.length = cnt_ u 0 + cnt_ u 1 + cnt_ u 2 + cnt_ u 3
  | [], _ => rfl
  | x :: u, h => by
    have ih := len_cnt u (fun y hy => h y (List.mem_cons_of_mem _ hy))
    have hx := h x List.mem_cons_self
    rw [List.length_cons, cnt_cons, cnt_cons, cnt_cons, cnt_cons, ih]
    rcases (show x = 0 ∨ x = 1 ∨ x = 2 ∨ x = 3 by omega) with e | e | e | e <;> subst e
    · show _ = (cnt_ u 0 + 1) + (cnt_ u 1 + 0) + (cnt_ u 2 + 0) + (cnt_ u 3 + 0)
      omega
    · show _ = (cnt_ u 0 + 0) + (cnt_ u 1 + 1) + (cnt_ u 2 + 0) + (cnt_ u 3 + 0)
      omega
    · show _ = (cnt_ u 0 + 0) + (cnt_ u 1 + 0) + (cnt_ u 2 + 1) + (cnt_ u 3 + 0)
      omega
    · show _ = (cnt_ u 0 + 0) + (cnt_ u 1 + 0) + (cnt_ u 2 + 0) + (cnt_ u 3 + 1)
      omega
theorem mrg_uq (hg : Gw_ g K) : ∀ (A B : List Nat), (∀ n, n ∈ A → ∃ u, u < 4 ∧ inT_ g u n = true) → (∀ n, n ∈ B → ∃ u, u < 4 ∧ inT_ g u n = true) → (∀ t, t < 4 → A.filter (inT_ g t) = B.filter (inT_ g t)) → A.map (thd_ g) = B.map (thd_ g) → A = B
  | [], [], _, _, _, _ => rfl
  | [], b :: B, _, _, _, h => by
    rw [List.map_nil, List.map_cons] at h
    cases h
  | a :: A, [], _, _, _, h => by
    rw [List.map_nil, List.map_cons] at h
    cases h
  | a :: A, b :: B, hA, hB, hf, h => by
    rw [List.map_cons, List.map_cons] at h
    obtain ⟨h1, h2⟩ := List.cons.inj h
    obtain ⟨t, t4, ht⟩ := hA a List.mem_cons_self
    obtain ⟨u, u4, hu⟩ := hB b List.mem_cons_self
    have yt := inT_iff.mp ht
    have yu := inT_iff.mp hu
    rw [thd_at hg t4 yt.1 yt.2, thd_at hg u4 yu.1 yu.2] at h1
    subst h1
    have e := hf t t4
    rw [List.filter_cons_of_pos ht, List.filter_cons_of_pos hu] at e
    obtain ⟨e1, e2⟩ := List.cons.inj e
    subst e1
    rw [mrg_uq hg A B (fun n hn => hA n (List.mem_cons_of_mem _ hn)) (fun n hn => hB n (List.mem_cons_of_mem _ hn)) (fun v hv => by
      have y := hf v hv
      cases k : inT_ g v a with
      | true =>
        rw [List.filter_cons_of_pos k, List.filter_cons_of_pos k] at y
        exact (List.cons.inj y).2
      | false =>
        rw [List.filter_cons_of_neg (by rw [k]; exact fun z => by cases z), List.filter_cons_of_neg (by rw [k]; exact fun z => by cases z)] at y
        exact y) h2]
def wxl_ (X : Nat) (w : Nat → List Nat) : List Nat := if X < 3 then w X else []
def wyp_ (X : Nat) (w : Nat → List Nat) (l : Nat) : List Nat := if l = X then [] else w l
def wyl_ (X : Nat) (w : Nat → List Nat) : List Nat := wyp_ X w 0 ++ (wyp_ X w 1 ++ wyp_ X w 2)
theorem wyp_in (h : Hgw_ g K S0 S w τ c) (hl : l < 3) : ∀ n, n ∈ wyp_ X w l → ∃ u, u < 4 ∧ inT_ g u n = true := fun n hn => by
  unfold wyp_ at hn
  split at hn
  · cases hn
  · exact hq_wi h l n hl hn
theorem cxw_ (hg : Gw_ g K) (h : Hgw_ g K S0 S w τ c) (q1 : t < 4) : cnt_ ((wxl_ X w).map (thd_ g)) t = exk_ g fz S X t px_ (sP_ S t) := by
  have v := hq_vr h
  unfold wxl_
  by_cases hX : X < 3
  · rw [if_pos hX, cnt_map hg q1 _ (fun n hn => hq_wi h X n hX hn), hq_wf h X t hX q1, acw_hl hg v q1]
    refine ct_cgw _ (fun j _ => ?_)
    rw [lbn_px]
  · rw [if_neg hX]
    have z : ∀ k, k ≤ sP_ S t → exk_ g fz S X t px_ k = 0 := fun k => by
      induction k with
      | zero => intro _; rfl
      | succ k ih =>
        intro hk
        have hP := v.2.2.2.1 t q1
        obtain ⟨k1, k2, k3⟩ := gk_ hg q1
        obtain ⟨-, b2, -⟩ := hg.2.2.2.2.2.2.2.1 (gB_ g t + k) (by omega)
        have no : px_ (lbn_ g fz X (gB_ g t + k)) = false := by
          rw [lbn_px]
          exact decide_eq_false (fun y => by omega)
        rw [exk_s, ih (by omega), no, Bool.false_and]
        rfl
    rw [z _ (Nat.le_refl _)]
    rfl
theorem cyw_ (hg : Gw_ g K) (h : Hgw_ g K S0 S w τ c) (q1 : t < 4) : cnt_ ((wyl_ X w).map (thd_ g)) t = exk_ g fz S X t py_ (sP_ S t) := by
  have v := hq_vr h
  have one : ∀ l, l < 3 → cnt_ ((wyp_ X w l).map (thd_ g)) t = if l = X then 0 else ct_ (fun j => ac_ g l (gB_ g t + j) && hpb_ g S t (gB_ g t + j)) (sP_ S t) := fun l hl => by
    rw [cnt_map hg q1 _ (wyp_in h hl)]
    unfold wyp_
    by_cases d : l = X
    · rw [if_pos d, if_pos d]
      rfl
    · rw [if_neg d, if_neg d, hq_wf h l t hl q1, acw_hl hg v q1]
  have key : ∀ k, k ≤ sP_ S t → (if 0 = X then 0 else ct_ (fun j => ac_ g 0 (gB_ g t + j) && hpb_ g S t (gB_ g t + j)) k) + ((if 1 = X then 0 else ct_ (fun j => ac_ g 1 (gB_ g t + j) && hpb_ g S t (gB_ g t + j)) k) + (if 2 = X then 0 else ct_ (fun j => ac_ g 2 (gB_ g t + j) && hpb_ g S t (gB_ g t + j)) k)) = exk_ g fz S X t py_ k := fun k => by
    induction k with
    | zero =>
      intro _
      show (if 0 = X then 0 else 0) + ((if 1 = X then 0 else 0) + (if 2 = X then 0 else 0)) = 0
      rw [ite_self, ite_self, ite_self]
    | succ k ih =>
      intro hk
      have ih := ih (by omega)
      have hP := v.2.2.2.1 t q1
      obtain ⟨k1, k2, k3⟩ := gk_ hg q1
      obtain ⟨b1, b2, b3, -⟩ := hg.2.2.2.2.2.2.2.1 (gB_ g t + k) (by omega)
      have ind : (if 0 = X then 0 else (if (ac_ g 0 (gB_ g t + k) && hpb_ g S t (gB_ g t + k)) = true then 1 else 0)) + ((if 1 = X then 0 else (if (ac_ g 1 (gB_ g t + k) && hpb_ g S t (gB_ g t + k)) = true then 1 else 0)) + (if 2 = X then 0 else (if (ac_ g 2 (gB_ g t + k) && hpb_ g S t (gB_ g t + k)) = true then 1 else 0))) = (if (py_ (lbn_ g fz X (gB_ g t + k)) && hpb_ g S t (gB_ g t + k)) = true then 1 else 0 : Nat) := by
        generalize hpb_ g S t (gB_ g t + k) = hb
        by_cases d : gC_ g (gB_ g t + k) 1 = 3
        · have a : ∀ l : Nat, ac_ g l (gB_ g t + k) = false := fun l => decide_eq_false (fun y => y.1 d)
          rw [a, a, a, lbn_3 d]
          cases hb <;> simp [py_]
        · have b3 := b3 d
          have a : ∀ l : Nat, gC_ g (gB_ g t + k) 2 = (l : Int) → ac_ g l (gB_ g t + k) = true := fun l e => decide_eq_true ⟨d, e⟩
          have a' : ∀ l : Nat, gC_ g (gB_ g t + k) 2 ≠ (l : Int) → ac_ g l (gB_ g t + k) = false := fun l e => decide_eq_false (fun y => e y.2)
          have lb : ∀ l : Nat, gC_ g (gB_ g t + k) 2 = (l : Int) → py_ (lbn_ g fz X (gB_ g t + k)) = !decide (l = X) := fun l e => by
            unfold lbn_
            rw [if_neg d, e]
            by_cases e2 : l = X
            · rw [if_pos (by rw [e2]), decide_eq_true e2]
              split <;> rfl
            · rw [if_neg (by omega), decide_eq_false e2]
              rfl
          have three : gC_ g (gB_ g t + k) 2 = ((0 : Nat) : Int) ∨ gC_ g (gB_ g t + k) 2 = ((1 : Nat) : Int) ∨ gC_ g (gB_ g t + k) 2 = ((2 : Nat) : Int) := by omega
          rcases three with e | e | e
          · rw [a 0 e, a' 1 (by omega), a' 2 (by omega), lb 0 e]
            by_cases e2 : 0 = X <;> cases hb <;> simp [e2]
          · rw [a' 0 (by omega), a 1 e, a' 2 (by omega), lb 1 e]
            by_cases e2 : 1 = X <;> cases hb <;> simp [e2]
          · rw [a' 0 (by omega), a' 1 (by omega), a 2 e, lb 2 e]
            by_cases e2 : 2 = X <;> cases hb <;> simp [e2]
      rw [exk_s, ct_s, ct_s, ct_s, ← ih, ← ind]
      have sp : ∀ (P : Prop) [Decidable P] (x y : Nat), (if P then 0 else x + y) = (if P then 0 else x) + (if P then 0 else y) := fun P _ x y => by
        split <;> rfl
      rw [sp, sp, sp]
      omega
  unfold wyl_
  rw [List.map_append, List.map_append, cnt_app, cnt_app, one 0 (by decide), one 1 (by decide), one 2 (by decide)]
  exact key _ (Nat.le_refl _)
abbrev wt2_T : Type := List Bool × List Bool × List Bool × List Bool × List Nat × List Nat
def wtn_ (g : gm_T) (X : Nat) (S : gs_T) (w : Nat → List Nat) : wt2_T := (bts_ g S 0 (sP_ S 0), bts_ g S 1 (sP_ S 1), bts_ g S 2 (sP_ S 2), bts_ g S 3 (sP_ S 3), (wxl_ X w).map (thd_ g), (wyl_ X w).map (thd_ g))
theorem wtn_in (hg : Gw_ g K) (U : Un_ g) (h : Hgw_ g K S0 S w τ c) (h' : Hgw_ g K S0 S' w' τ' c') (e : wtn_ g X S w = wtn_ g X S' w') : S = S' := by
  have v := hq_vr h
  have v' := hq_vr h'
  unfold wtn_ at e
  obtain ⟨e0, e⟩ := Prod.mk.inj e
  obtain ⟨e1, e⟩ := Prod.mk.inj e
  obtain ⟨e2, e⟩ := Prod.mk.inj e
  obtain ⟨e3, e⟩ := Prod.mk.inj e
  obtain ⟨ex, ey⟩ := Prod.mk.inj e
  have eb : ∀ t, t < 4 → bts_ g S t (sP_ S t) = bts_ g S' t (sP_ S' t) := fun t ht => by
    rcases (show t = 0 ∨ t = 1 ∨ t = 2 ∨ t = 3 by omega) with d | d | d | d <;> subst d
    · exact e0
    · exact e1
    · exact e2
    · exact e3
  have eP4 : ∀ t, t < 4 → sP_ S t = sP_ S' t := fun t ht => by
    have y := congrArg List.length (eb t ht)
    rw [bts_len, bts_len] at y
    exact y
  have eP : sP_ S = sP_ S' := funext (fun t => by
    by_cases ht : t < 4
    · exact eP4 t ht
    · rw [(v.1 t).2 (by omega), (v'.1 t).2 (by omega)])
  have ef : ∀ l t, l < 3 → t < 4 → (w l).filter (inT_ g t) = (w' l).filter (inT_ g t) := fun l t hl ht => by
    rw [hq_wf h l t hl ht, hq_wf h' l t hl ht, acw_hp hg v ht, acw_hp hg v' ht, ← eP4 t ht]
    refine List.filter_congr (fun n hn => ?_)
    have hn := List.mem_range'_1.mp hn
    have y := eb t ht
    rw [← eP4 t ht] at y
    have z := hpb_eq y (j := n - gB_ g t) (by omega)
    rw [show gB_ g t + (n - gB_ g t) = n by omega] at z
    rw [z]
  have el : ∀ l, l < 3 → (w l).length = (w' l).length := fun l hl => by
    have key : ∀ (w : Nat → List Nat), (∀ n, n ∈ w l → ∃ u, u < 4 ∧ inT_ g u n = true) → (w l).length = ((w l).filter (inT_ g 0)).length + ((w l).filter (inT_ g 1)).length + ((w l).filter (inT_ g 2)).length + ((w l).filter (inT_ g 3)).length := fun w hw => by
      have y := len_cnt ((w l).map (thd_ g)) (fun x hx => by
        obtain ⟨n, -, rfl⟩ := List.mem_map.mp hx
        exact thd_4)
      rw [List.length_map, cnt_map hg (by decide) _ hw, cnt_map hg (by decide) _ hw, cnt_map hg (by decide) _ hw, cnt_map hg (by decide) _ hw] at y
      exact y
    rw [key w (fun n hn => hq_wi h l n hl hn), key w' (fun n hn => hq_wi h' l n hl hn), ef l 0 hl (by decide), ef l 1 hl (by decide), ef l 2 hl (by decide), ef l 3 hl (by decide)]
  have elp : ∀ l, l < 3 → (wyp_ X w l).length = (wyp_ X w' l).length := fun l hl => by
    unfold wyp_
    split
    · rfl
    · exact el l hl
  unfold wyl_ at ey
  rw [List.map_append, List.map_append, List.map_append, List.map_append] at ey
  obtain ⟨y0, ey⟩ := List.append_inj ey (by rw [List.length_map, List.length_map, elp 0 (by decide)])
  obtain ⟨y1, y2⟩ := List.append_inj ey (by rw [List.length_map, List.length_map, elp 1 (by decide)])
  have yl : ∀ l, l < 3 → (wyp_ X w l).map (thd_ g) = (wyp_ X w' l).map (thd_ g) := fun l hl => by
    rcases (show l = 0 ∨ l = 1 ∨ l = 2 by omega) with d | d | d <;> subst d
    · exact y0
    · exact y1
    · exact y2
  refine hq_uq hg U h h' eP (fun l hl => mrg_uq hg _ _ (fun n hn => hq_wi h l n hl hn) (fun n hn => hq_wi h' l n hl hn) (fun t ht => ef l t hl ht) ?_)
  by_cases d : l = X
  · subst d
    unfold wxl_ at ex
    rw [if_pos hl, if_pos hl] at ex
    exact ex
  · have z := yl l hl
    unfold wyp_ at z
    rw [if_neg d, if_neg d] at z
    exact z
end IJ
