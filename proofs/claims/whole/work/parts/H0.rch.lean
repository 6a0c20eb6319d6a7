/-! what can be reached; which codes come out -/
section RC
variable {p : pr_T} {g g2 : gm_T} {K t w m G : Nat} {z : Int} {S S0 S2 : gs_T} {F F2 : Nat → Bool}
def Rc_ (g : gm_T) (S0 S : gs_T) : Prop := ∀ P : gs_T → Prop, P S0 → (∀ X t w Y, P X → t < 4 → w < 4 → gt_ g X t w = some Y → P Y) → P S
theorem rc_0 : Rc_ g S0 S0 := fun _ h _ => h
theorem rc_s (h : Rc_ g S0 S) (q1 : t < 4) (q2 : w < 4) (e : gt_ g S t w = some S2) : Rc_ g S0 S2 := fun P h0 hs => hs S t w S2 (h P h0 hs) q1 q2 e
theorem rc_ind {P : gs_T → Prop} (h : Rc_ g S0 S) (h0 : P S0) (hs : ∀ X t w Y, Rc_ g S0 X → P X → t < 4 → w < 4 → gt_ g X t w = some Y → P Y) : P S := (h (fun X => Rc_ g S0 X ∧ P X) ⟨rc_0, h0⟩ (fun X t w Y z z1 z2 z3 => ⟨rc_s z.1 z1 z2 z3, hs X t w Y z.1 z.2 z1 z2 z3⟩)).2
theorem rc_tr (h : Rc_ g S0 S) (k : Rc_ g S S2) : Rc_ g S0 S2 := k (Rc_ g S0) h (fun _ _ _ _ z z1 z2 z3 => rc_s z z1 z2 z3)
/-- the reference finds just what can be reached -/
theorem rl_rc (hg : Gw_ g K) (h0 : Vr_ g K S0) (hb : Br_ g K S0) : Rl_ g K S0 S ↔ Rc_ g S0 S := by
  constructor
  · rintro ⟨q, h1, rfl⟩
    unfold br_ at h1
    exact bn_alP (P := Rc_ g S0) _ rc_0 (fun S t w S2 z z1 z2 z3 => rc_s z z1 z2 z3) 65535 q h1
  · intro h
    exact h (Rl_ g K S0) (rl_0 hg h0) (fun X t w Y z z1 z2 z3 => rl_step hg h0 hb z z1 z2 z3)
theorem gt_noc (zP : Wp_ p) (zV : Vg_ p S) (q : pT_ p ≤ t ∨ pL_ p < w) : gt_ (gcl_ p m F) S t w = none := by
  rcases q with q | q
  · have l0 : gl_ (gcl_ p m F) t = 0 := by
      show gB0_ p (t + 1) - gB0_ p t = 0
      rw [gB_T zP q, gB_T zP (by omega : pT_ p ≤ t + 1), Nat.sub_self]
    have e1 : ga1_ (gcl_ p m F) S t = none := by
      unfold ga1_
      rw [l0]
      rfl
    unfold gt_
    split
    · exact gx_n (Or.inl (by omega))
    · exact gc_none e1 _
  · unfold gt_
    rw [if_neg (by omega)]
    have e1 : gw1_ (gcl_ p m F) S t ((w - 1 : Nat) : Int) = none := by
      refine (f1_none _ _ _).mpr (fun j z1 z2 => ?_)
      cases e : sW_ S j with
      | false => rfl
      | true =>
        obtain ⟨y1, y2⟩ := zV.2.2 j e
        have y3 := ((zP.2.1 j y1).2.2.2.2.1 (by omega)).2
        rw [Bool.true_and, decide_eq_false_iff_not]
        show ¬ pC_ p j 2 = _
        omega
    unfold gc_ gn_
    rw [e1]
theorem rs_rc (zP : Wp_ p) (hb : Bd_ p m F) : Rs_ p m F S ↔ Rc_ (gcl_ p m F) (s0k_ p (pL_ p)) S := by
  have bT := zP.1.2.1
  have bL := zP.1.2.2.1
  constructor
  · rintro ⟨q, h1, rfl⟩
    unfold bf_ at h1
    exact bn_alP (P := Rc_ (gcl_ p m F) (s0k_ p (pL_ p))) _ rc_0 (fun S t w S2 z z1 z2 z3 => rc_s z (by omega) (by omega) z3) 131072 q h1
  · intro h
    refine h (Rs_ p m F) (rs_0 zP) (fun X t w Y z z1 z2 z3 => ?_)
    by_cases c : pT_ p ≤ t ∨ pL_ p < w
    · rw [gt_noc zP (rs_vg zP z) c] at z3
      cases z3
    · exact rs_step zP hb z (by omega) (by omega) z3
theorem rc_vg (zP : Wp_ p) (h : Rc_ (gcl_ p m F) (s0k_ p (pL_ p)) S) : Vg_ p S := by
  refine h (Vg_ p) (vg_0 zP) (fun X t w Y z z1 z2 z3 => ?_)
  by_cases c : pT_ p ≤ t ∨ pL_ p < w
  · rw [gt_noc zP z c] at z3
    cases z3
  · exact vg_step zP z (by omega) (by omega) z3
theorem rc_vr (zP : Wp_ p) (hm : m < 3) (h : Rc_ (gly_ p G z m) (s0k_ p (pL_ p)) S) : Vr_ (gly_ p G z m) (Kl_ p G z) S := h (Vr_ (gly_ p G z m) (Kl_ p G z)) (vr_0 zP.1 (gw_ly zP hm)) (fun _ _ _ _ y z1 z2 z3 => vr_step (gw_ly zP hm) y z1 z2 z3)
theorem rc_vy (zP : Wp_ p) (hm : m < 3) (h : Rc_ (gly_ p G z m) (s0k_ p (pL_ p)) S) : Vy_ p S := by
  refine rc_ind h ⟨fun _ _ => rfl, fun l hl => ?_⟩ (fun X t w Y y1 y2 z1 z2 z3 => vy_step zP hm (rc_vr zP hm y1) y2 z1 z2 z3)
  show (if l < pL_ p then (pI_ p l).toNat else 0) = 0
  rw [if_neg (by omega)]
theorem or_mem (zP : Wp_ p) (hm : m < 3) (hb : Br_ (gly_ p G z m) (Kl_ p G z) (s0k_ p (pL_ p))) {c : Nat} : c ∈ (OR_ p G z m).map Prod.fst ↔ ∃ S, Rc_ (gly_ p G z m) (s0k_ p (pL_ p)) S ∧ rf2_ (gly_ p G z m) (Kl_ p G z) S = true ∧ rc_ p S = c := by
  have hg := gw_ly (G := G) (z := z) zP hm
  have h0 := vr_0 zP.1 hg
  unfold OR_
  rw [List.mem_map]
  constructor
  · rintro ⟨q, h1, rfl⟩
    have h1 := srt_mem.mp h1
    unfold rlr_ at h1
    obtain ⟨x, x1, rfl⟩ := List.mem_map.mp h1
    obtain ⟨x2, x3⟩ := List.mem_filter.mp x1
    exact ⟨x.1, (rl_rc hg h0 hb).mp ⟨x, x2, rfl⟩, x3, rfl⟩
  · rintro ⟨S, h1, h2, rfl⟩
    obtain ⟨x, x1, rfl⟩ := (rl_rc hg h0 hb).mpr h1
    refine ⟨(rc_ p x.1, x.2), srt_mem.mpr ?_, rfl⟩
    unfold rlr_
    exact List.mem_map.mpr ⟨x, List.mem_filter.mpr ⟨x1, h2⟩, rfl⟩
theorem ocs_mem (zP : Wp_ p) (hb : Bd_ p m F) {c : Nat} : c ∈ (ocs_ p m F).map Prod.fst ↔ ∃ S, Rc_ (gcl_ p m F) (s0k_ p (pL_ p)) S ∧ fi_ p S = true ∧ cc_ p S = c := by
  rw [List.mem_map]
  constructor
  · rintro ⟨q, h1, rfl⟩
    obtain ⟨s, h2, h3, h4, -⟩ := rl_mem (srt_mem.mp h1)
    exact ⟨s.1, (rs_rc zP hb).mp ⟨s, h2, rfl⟩, h3, h4⟩
  · rintro ⟨S, h1, h2, rfl⟩
    obtain ⟨x, x1, rfl⟩ := (rs_rc zP hb).mpr h1
    refine ⟨(cc_ p x.1, x.2), srt_mem.mpr ?_, rfl⟩
    unfold rl_
    exact List.mem_map.mpr ⟨x, List.mem_filter.mpr ⟨x1, h2⟩, rfl⟩
theorem so_or (zP : Wp_ p) (hm : m < 3) : So_ (OR_ p G z m) := srt_so (rlr_pw zP hm)
theorem so_pw {L : List (Nat × Int64)} (h : So_ L) : (L.map Prod.fst).Pairwise (fun a b => a < b) := by
  rw [List.pairwise_iff_getElem]
  intro i j hi hj hij
  have hi : i < (L.map Prod.fst).length := hi
  rw [List.length_map] at hi hj
  have y := h i j hij hj
  unfold wa_ at y
  rw [List.getElem?_eq_getElem hi, List.getElem?_eq_getElem hj] at y
  rw [List.getElem_map, List.getElem_map]
  exact y
theorem pwl_eq : ∀ {L M : List Nat}, L.Pairwise (fun a b => a < b) → M.Pairwise (fun a b => a < b) → (∀ c, c ∈ L ↔ c ∈ M) → L = M
  | [], [], _, _, _ => rfl
  | [], b :: M, _, _, h => absurd ((h b).mpr List.mem_cons_self) (by intro y; cases y)
  | a :: L, [], _, _, h => absurd ((h a).mp List.mem_cons_self) (by intro y; cases y)
  | a :: L, b :: M, hL, hM, h => by
    obtain ⟨l1, l2⟩ := List.pairwise_cons.mp hL
    obtain ⟨m1, m2⟩ := List.pairwise_cons.mp hM
    have e : a = b := by
      rcases List.mem_cons.mp ((h a).mp List.mem_cons_self) with y | y
      · exact y
      · rcases List.mem_cons.mp ((h b).mpr List.mem_cons_self) with y2 | y2
        · exact y2.symm
        · have := m1 a y
          have := l1 b y2
          omega
    subst e
    congr 1
    refine pwl_eq l2 m2 (fun c => ⟨fun y => ?_, fun y => ?_⟩)
    · rcases List.mem_cons.mp ((h c).mp (List.mem_cons_of_mem _ y)) with e | e
      · subst e
        exact absurd (l1 c y) (Nat.lt_irrefl _)
      · exact e
    · rcases List.mem_cons.mp ((h c).mpr (List.mem_cons_of_mem _ y)) with e | e
      · subst e
        exact absurd (m1 c y) (Nat.lt_irrefl _)
      · exact e
theorem nd_le : ∀ {L M : List Nat}, L.Pairwise (fun a b => a ≠ b) → (∀ x, x ∈ L → x ∈ M) → L.length ≤ M.length
  | [], _, _, _ => Nat.zero_le _
  | a :: L, M, hL, h => by
    obtain ⟨l1, l2⟩ := List.pairwise_cons.mp hL
    have ha := h a List.mem_cons_self
    have y := nd_le (M := M.erase a) l2 (fun x hx => (List.mem_erase_of_ne (fun e => l1 x hx e.symm)).mpr (h x (List.mem_cons_of_mem _ hx)))
    rw [List.length_erase_of_mem ha] at y
    have z := List.length_pos_of_mem ha
    rw [List.length_cons]
    omega
theorem pwl_len {L M : List Nat} (hL : L.Pairwise (fun a b => a < b)) (hM : M.Pairwise (fun a b => a < b)) (h : ∀ c, c ∈ L → c ∈ M) (e : L.length = M.length) : L = M := by
  refine pwl_eq hL hM (fun c => ⟨h c, fun y => ?_⟩)
  by_cases k : c ∈ L
  · exact k
  · exfalso
    have z := nd_le (L := L) (M := M.erase c) (hL.imp (fun w => Nat.ne_of_lt w)) (fun x hx => (List.mem_erase_of_ne (fun e2 => k (by rw [← e2]; exact hx))).mpr (h x hx))
    rw [List.length_erase_of_mem y] at z
    have := List.length_pos_of_mem y
    omega
end RC
