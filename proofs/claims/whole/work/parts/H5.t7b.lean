/-! T7: the same codes; how many states the class finds -/
section T7B
variable {p : pr_T} {G m t w c n : Nat} {z : Int} {S S' S1 S2 S2' S0 S0' : gs_T} {F : Nat → Bool}
theorem sm_0 (zP : Wp_ p) : Sm_ p G z (s0k_ p (pL_ p)) (s0k_ p (pL_ p)) := by
  refine ⟨vg_0 zP, rfl, rfl, funext (fun n => ?_), fun t _ => Or.inl (Nat.zero_add _)⟩
  show false = Wm_ p G z (fun _ => false) n
  unfold Wm_
  cases (ly_ p G z (pN_ p))[n]? with
  | none => rfl
  | some y => exact (Bool.and_false _).symm
theorem sm_rc1 (zP : Wp_ p) (hz : Zk_ p z) (hF : ∀ i, i < pN_ p → F i = Fl_z p G z i) (h : Rc_ (gly_ p G z m) (s0k_ p (pL_ p)) S') : ∃ S, Rc_ (gcl_ p m F) (s0k_ p (pL_ p)) S ∧ Sm_ p G z S S' :=
  h (fun X => ∃ S, Rc_ (gcl_ p m F) (s0k_ p (pL_ p)) S ∧ Sm_ p G z S X) ⟨_, rc_0, sm_0 zP⟩ (fun X t w Y ⟨S, r, hs⟩ z1 z2 z3 => by
    obtain ⟨S2, f, g⟩ := sm_fw (S0 := s0k_ p (pL_ p)) zP hz hF hs z1 z2 z3
    exact ⟨S2, f r, g⟩)
theorem sm_rc2 (zP : Wp_ p) (hz : Zk_ p z) (hF : ∀ i, i < pN_ p → F i = Fl_z p G z i) (h : Rc_ (gcl_ p m F) (s0k_ p (pL_ p)) S) : ∃ S', Rc_ (gly_ p G z m) (s0k_ p (pL_ p)) S' ∧ Sm_ p G z S S' :=
  h (fun X => ∃ S', Rc_ (gly_ p G z m) (s0k_ p (pL_ p)) S' ∧ Sm_ p G z X S') ⟨_, rc_0, sm_0 zP⟩ (fun X t w Y ⟨S, r, hs⟩ z1 z2 z3 => by
    obtain ⟨S2, f, g⟩ := sm_bw (S0 := s0k_ p (pL_ p)) zP hz hF hs z1 z2 z3
    exact ⟨S2, f r, g⟩)
theorem sm_rc (zP : Wp_ p) (h : Sm_ p G z S S') : rc_ p S' = cc_ p S := by
  rw [rc_cc zP.1 (fun j => cD_lt h.1.1 j)]
  have e : cD_ (pT_ p) S' = cD_ (pT_ p) S := funext (fun j => by
    unfold cD_
    rw [h.2.1, h.2.2.1])
  unfold rc_
  rw [e]
theorem sm_fi1 (zP : Wp_ p) (h : Sm_ p G z S S') (hf : fi_ p S = true) : rf2_ (gly_ p G z m) (Kl_ p G z) S' = true := by
  obtain ⟨f1, f2⟩ := (fi_ifr zP h.1).mp hf
  refine rf2_iff.mpr ⟨fun t ht => ?_, fun n hn => ?_⟩
  · have y := h.2.2.2.2 t ht
    have f : sP_ S t = gB0_ p (t + 1) - gB0_ p t := f1 t ht
    have g := gB_m (p := p) t
    have e : gB0_ p t + sP_ S t = gB0_ p (t + 1) := by omega
    rw [e] at y
    rw [lay_l]
    rcases y with y | ⟨-, y, -⟩ <;> omega
  · rw [h.2.2.2.1]
    cases e : Wm_ p G z (sW_ S) n with
    | false => rfl
    | true =>
      obtain ⟨i, i1, -, -, i4⟩ := wm_inv e
      have := zP.1.1
      rw [f2 i (by omega)] at i4
      cases i4
theorem sm_fi2 (zP : Wp_ p) (hz : Zk_ p z) (h : Sm_ p G z S S') (hn : ∀ t, t < 4 → gB0_ p t + sP_ S t = gB0_ p (t + 1) ∨ ((gB0_ p t + sP_ S t : Nat) : Int) ≠ z) (hf : rf2_ (gly_ p G z m) (Kl_ p G z) S' = true) : fi_ p S = true := by
  obtain ⟨f1, f2⟩ := rf2_iff.mp hf
  refine (fi_ifr zP h.1).mpr ⟨fun t ht => ?_, fun i hi => ?_⟩
  · show sP_ S t = gB0_ p (t + 1) - gB0_ p t
    have e := f1 t ht
    rw [lay_l] at e
    have m1 := gB_m (p := p) t
    have m2 := Ln_mono (p := p) (G := G) (z := z) m1
    have y := h.2.2.2.2 t ht
    have hu := sm_pos h t
    by_cases c : gB0_ p t + sP_ S t = gB0_ p (t + 1)
    · omega
    · exfalso
      have hzi := (hn t ht).resolve_left c
      have s := Ln_mono (p := p) (G := G) (z := z) (show (gB0_ p t + sP_ S t) + 1 ≤ gB0_ p (t + 1) by omega)
      rw [la_s hzi] at s
      unfold la_ at s
      rcases y with y | ⟨y1, -, y3, -⟩ <;> omega
  · cases e : sW_ S i with
    | false => rfl
    | true =>
      exfalso
      obtain ⟨i1, i2, -⟩ := vg_z hz h.1 e
      have y := Ln_mono (p := p) (G := G) (z := z) (show i + 1 ≤ pN_ p from i1)
      rw [la_s i2] at y
      have k := f2 (la_ p G z i) (show la_ p G z i < Ln_ p G z (pN_ p) by omega)
      rw [h.2.2.2.1, wm_at i1 i2, e] at k
      cases k
theorem t7_c (zP : Wp_ p) (hz : Zk_ p z) (hF : ∀ i, i < pN_ p → F i = Fl_z p G z i) : (∃ S', Rc_ (gly_ p G z m) (s0k_ p (pL_ p)) S' ∧ rf2_ (gly_ p G z m) (Kl_ p G z) S' = true ∧ rc_ p S' = c) ↔ ∃ S, Rc_ (gcl_ p m F) (s0k_ p (pL_ p)) S ∧ fi_ p S = true ∧ cc_ p S = c := by
  constructor
  · rintro ⟨S', h1, h2, h3⟩
    obtain ⟨S, r, hs⟩ := sm_rc1 (F := F) zP hz hF h1
    obtain ⟨S1, r1, hs1, hn⟩ := sm_nz (m := m) (S0 := s0k_ p (pL_ p)) zP hz hF hs
    exact ⟨S1, r1 r, sm_fi2 zP hz hs1 hn h2, by rw [← sm_rc zP hs1]; exact h3⟩
  · rintro ⟨S, h1, h2, h3⟩
    obtain ⟨S', r, hs⟩ := sm_rc2 (F := F) zP hz hF h1
    exact ⟨S', r, sm_fi1 zP hs h2, by rw [sm_rc zP hs]; exact h3⟩
/-- distinct things with distinct numbers -/
theorem rel_le {α : Type} {D : α → α → Prop} {Q : α → Nat → Prop} (hq : ∀ x y k, D x y → Q x k → Q y k → False) : ∀ {L : List α} {M : List Nat}, L.Pairwise D → (∀ x, x ∈ L → ∃ k, k ∈ M ∧ Q x k) → L.length ≤ M.length
  | [], _, _, _ => Nat.zero_le _
  | a :: L, M, hL, h => by
    obtain ⟨l1, l2⟩ := List.pairwise_cons.mp hL
    obtain ⟨k, k1, k2⟩ := h a List.mem_cons_self
    have y := rel_le hq (M := M.erase k) l2 (fun x hx => by
      obtain ⟨j, j1, j2⟩ := h x (List.mem_cons_of_mem _ hx)
      exact ⟨j, (List.mem_erase_of_ne (fun e => hq a x k (l1 x hx) k2 (by rw [← e]; exact j2))).mpr j1, j2⟩)
    rw [List.length_erase_of_mem k1] at y
    have z := List.length_pos_of_mem k1
    rw [List.length_cons]
    omega
/-- is a thread past what is left out? -/
def zt_ (p : pr_T) (z : Int) (S : gs_T) (t : Nat) : Bool := decide ((gB0_ p t : Int) ≤ z ∧ z < gB0_ p (t + 1) ∧ z < (gB0_ p t + sP_ S t : Nat))
def zb_ (p : pr_T) (z : Int) (S : gs_T) : Bool := zt_ p z S 0 || zt_ p z S 1 || zt_ p z S 2 || zt_ p z S 3
theorem zb_iff : zb_ p z S = true ↔ ∃ t, t < 4 ∧ zt_ p z S t = true := by
  unfold zb_
  rw [Bool.or_eq_true, Bool.or_eq_true, Bool.or_eq_true]
  constructor
  · rintro (((h | h) | h) | h)
    · exact ⟨0, by decide, h⟩
    · exact ⟨1, by decide, h⟩
    · exact ⟨2, by decide, h⟩
    · exact ⟨3, by decide, h⟩
  · rintro ⟨t, ht, h⟩
    rcases (show t = 0 ∨ t = 1 ∨ t = 2 ∨ t = 3 by omega) with e | e | e | e <;> subst e
    · exact Or.inl (Or.inl (Or.inl h))
    · exact Or.inl (Or.inl (Or.inr h))
    · exact Or.inl (Or.inr h)
    · exact Or.inr h
theorem sm_lt (h1 : Sm_ p G z S1 S') (h2 : Sm_ p G z S2 S') (hb : zb_ p z S1 = zb_ p z S2) (ht : t < 4) (hlt : sP_ S1 t < sP_ S2 t) : False := by
  have u2 := sm_pos h2 t
  by_cases c : ((gB0_ p t + sP_ S1 t : Nat) : Int) ≤ z ∧ z < (gB0_ p t + sP_ S2 t : Nat)
  · have b2 : zb_ p z S2 = true := zb_iff.mpr ⟨t, ht, decide_eq_true ⟨by omega, by omega, c.2⟩⟩
    rw [b2] at hb
    obtain ⟨u, hu, hu2⟩ := zb_iff.mp hb
    obtain ⟨y1, y2, y3⟩ := of_decide_eq_true hu2
    have e := gB_un (p := p) (t := t) (u := u) (i := z.toNat) (by omega) (by omega) (by omega) (by omega)
    subst e
    omega
  · have hz : ((gB0_ p t + sP_ S1 t : Nat) : Int) ≠ z := by omega
    have s := Ln_mono (p := p) (G := G) (z := z) (show (gB0_ p t + sP_ S1 t) + 1 ≤ gB0_ p t + sP_ S2 t by omega)
    rw [la_s hz] at s
    unfold la_ at s
    have a := h1.2.2.2.2 t ht
    have b := h2.2.2.2.2 t ht
    rcases a with a | ⟨a1, -, a3, -⟩ <;> rcases b with b | ⟨b1, -, b3, -⟩ <;> omega
theorem sm_in (zP : Wp_ p) (hz : Zk_ p z) (h1 : Sm_ p G z S1 S') (h2 : Sm_ p G z S2 S') (hb : zb_ p z S1 = zb_ p z S2) : S1 = S2 := by
  have eR : sR_ S1 = sR_ S2 := h1.2.1.symm.trans h2.2.1
  have eM : sM_ S1 = sM_ S2 := h1.2.2.1.symm.trans h2.2.2.1
  have eW : sW_ S1 = sW_ S2 := funext (fun i => by
    by_cases c : i < pN_ p ∧ (i : Int) ≠ z
    · rw [← wm_at (G := G) (W := sW_ S1) c.1 c.2, ← wm_at (G := G) (W := sW_ S2) c.1 c.2, ← h1.2.2.2.1, ← h2.2.2.2.1]
    · have e : ∀ S, Vg_ p S → sW_ S i = false := fun S v => by
        cases e : sW_ S i with
        | false => rfl
        | true => exact absurd ⟨(vg_z hz v e).1, (vg_z hz v e).2.1⟩ c
      rw [e S1 h1.1, e S2 h2.1])
  have eP : sP_ S1 = sP_ S2 := funext (fun t => by
    by_cases ht : t < 4
    · by_cases c : sP_ S1 t < sP_ S2 t
      · exact absurd (sm_lt h1 h2 hb ht c) id
      · by_cases c2 : sP_ S2 t < sP_ S1 t
        · exact absurd (sm_lt h2 h1 hb.symm ht c2) id
        · omega
    · have bT := zP.1.2.1
      have e : ∀ S, Vg_ p S → sP_ S t = 0 := fun S v => by
        have y : sP_ S t ≤ gB0_ p (t + 1) - gB0_ p t := v.2.1 t
        rw [gB_T zP (show pT_ p ≤ t by omega), gB_T zP (show pT_ p ≤ t + 1 by omega)] at y
        omega
      rw [e S1 h1.1, e S2 h2.1])
  show (sP_ S1, sR_ S1, sM_ S1, sW_ S1) = (sP_ S2, sR_ S2, sM_ S2, sW_ S2)
  rw [eP, eR, eM, eW]
theorem bd_z0 (zP : Wp_ p) (hm : m < 3) (hz : Zk_ p z) (hF : ∀ i, i < pN_ p → F i = Fl_z p G z i) {M : List (gs_T × Int64)} (hM : ∀ S, Rc_ (gly_ p G z m) (s0k_ p (pL_ p)) S → ∃ q ∈ M, q.1 = S) (hl : M.length ≤ 65535)
    {L : List (gs_T × Int64)} (al : al_ (Rc_ (gcl_ p m F) (s0k_ p (pL_ p))) L) (nk : L.Pairwise (fun x y => en_ p x.1 ≠ en_ p y.1)) : L.length ≤ 131072 := by
  have hg := gw_ly (G := G) (z := z) zP hm
  have y := rel_le (D := fun x y : gs_T × Int64 => en_ p x.1 ≠ en_ p y.1) (Q := fun x k => ∃ S', Rc_ (gly_ p G z m) (s0k_ p (pL_ p)) S' ∧ Sm_ p G z x.1 S' ∧ k = 2 * kr_ (gly_ p G z m) (Kl_ p G z) S' + (if zb_ p z x.1 = true then 1 else 0)) (fun x y k d ⟨X, x1, x2, x3⟩ ⟨Y, y1, y2, y3⟩ => by
      have eb : zb_ p z x.1 = zb_ p z y.1 := by
        cases e1 : zb_ p z x.1 <;> cases e2 : zb_ p z y.1
        · rfl
        · rw [e1] at x3
          rw [e2] at y3
          simp at x3 y3
          omega
        · rw [e1] at x3
          rw [e2] at y3
          simp at x3 y3
          omega
        · rfl
      rw [eb] at x3
      have ek : kr_ (gly_ p G z m) (Kl_ p G z) X = kr_ (gly_ p G z m) (Kl_ p G z) Y := by omega
      have e : X = Y := cr_eq (kr_cr hg X) (by rw [ek]; exact kr_cr hg Y) (rc_vr zP hm x1) (rc_vr zP hm y1)
      subst e
      exact d (by rw [sm_in zP hz x2 y2 eb])) (L := L) (M := M.map (fun q => 2 * kr_ (gly_ p G z m) (Kl_ p G z) q.1) ++ M.map (fun q => 2 * kr_ (gly_ p G z m) (Kl_ p G z) q.1 + 1)) nk (fun x hx => by
      obtain ⟨S', r, hs⟩ := sm_rc2 (F := F) zP hz hF (al x hx)
      obtain ⟨q, q1, q2⟩ := hM S' r
      refine ⟨_, ?_, S', r, hs, rfl⟩
      rw [← q2, List.mem_append]
      cases e : zb_ p z x.1 with
      | false => exact Or.inl (List.mem_map.mpr ⟨q, q1, rfl⟩)
      | true => exact Or.inr (List.mem_map.mpr ⟨q, q1, rfl⟩))
  rw [List.length_append, List.length_map, List.length_map] at y
  omega
theorem bd_z (zP : Wp_ p) (hm : m < 3) (hz : Zk_ p z) (hF : ∀ i, i < pN_ p → F i = Fl_z p G z i) (hb : Br_ (gly_ p G z m) (Kl_ p G z) (s0k_ p (pL_ p))) : Bd_ p m F := fun n =>
  bd_z0 zP hm hz hF (fun _ h => (rl_rc (gw_ly zP hm) (vr_0 zP.1 (gw_ly zP hm)) hb).mpr h) (hb 65535) (bn_alP (P := Rc_ (gcl_ p m F) (s0k_ p (pL_ p))) (en_ p) rc_0 (fun _ _ _ _ y z1 z2 z3 => rc_s y (by have := zP.1.2.1; omega) (by have := zP.1.2.2.1; omega) z3) n) (nk_bn (en_ p) (gcl_ p m F) (pT_ p) (1 + pL_ p) (s0k_ p (pL_ p)) n)
theorem t7_or (zP : Wp_ p) (hm : m < 3) (hz : Zk_ p z) (hF : ∀ i, i < pN_ p → F i = Fl_z p G z i) (hb : Br_ (gly_ p G z m) (Kl_ p G z) (s0k_ p (pL_ p))) : (OR_ p G z m).map Prod.fst = (ocs_ p m F).map Prod.fst := pwl_eq (so_pw (so_or zP hm)) (so_pw ocs_so) (fun c => by
  rw [or_mem zP hm hb, ocs_mem zP (bd_z zP hm hz hF hb)]
  exact t7_c zP hz hF)
end T7B
