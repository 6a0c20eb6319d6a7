/-! with no fence put in, both machines are one -/
section TO
variable {p : pr_T} {m : Nat} {S S2 : gs_T}
theorem ly_0 : ∀ i, (ly_ p 0 (-1) i).length = i ∧ ∀ n, n < i → (ly_ p 0 (-1) i)[n]? = some (n : Int)
  | 0 => ⟨rfl, fun n h => absurd h (Nat.not_lt_zero n)⟩
  | i + 1 => by
    obtain ⟨h1, h2⟩ := ly_0 i
    have ef : lyf_ p 0 i = [] := by
      unfold lyf_
      rw [Nat.zero_testBit, Bool.and_false]
      rfl
    have ei : lyi_ (-1) i = [(i : Int)] := if_neg (by omega)
    have e : ly_ p 0 (-1) (i + 1) = ly_ p 0 (-1) i ++ [(i : Int)] := by
      show ly_ p 0 (-1) i ++ lyf_ p 0 i ++ lyi_ (-1) i = _
      rw [ef, ei, List.append_nil]
    rw [e, List.length_append]
    refine ⟨by rw [h1]; rfl, fun n hn => ?_⟩
    by_cases y : n < i
    · rw [List.getElem?_append_left (by omega)]
      exact h2 n y
    · have y1 : n = i := by omega
      subst y1
      rw [List.getElem?_append_right (by omega), h1, Nat.sub_self]
      rfl
theorem kl_0 : Kl_ p 0 (-1) = pN_ p := (ly_0 (pN_ p)).1
theorem gly_0B (t : Nat) : gB_ (gly_ p 0 (-1) m) t = gB_ (gcl_ p m (F0_ p)) t := (ly_0 (gB0_ p t)).1
theorem gly_0C {n : Nat} (hn : n < pN_ p) (k : Nat) : gC_ (gly_ p 0 (-1) m) n k = gC_ (gcl_ p m (F0_ p)) n k := by
  show lc0_ p (ly_ p 0 (-1) (pN_ p)) n k = pC_ p n k
  rw [lc0_at ((ly_0 (pN_ p)).2 n hn)]
  unfold itc_
  rw [if_neg (by omega), Int.toNat_natCast]
theorem gly_0K (zP : Wp_ p) {n : Nat} (hn : n < pN_ p) : gK_ (gly_ p 0 (-1) m) n = gK_ (gcl_ p m (F0_ p)) n := by
  have e : lc0_ p (ly_ p 0 (-1) (pN_ p)) n 1 = pC_ p n 1 := gly_0C (m := m) hn 1
  show decide (2 ≤ lc0_ p (ly_ p 0 (-1) (pN_ p)) n 1) = F0_ p n
  rw [e]
  unfold F0_
  have e2 : pp_ p (n : Int) 1 = pC_ p n 1 := ppi1 hn
  have c := zP.1.2.2.2.2 n 1
  rw [e2]
  apply decide_eq_decide.mpr
  omega
/-- the states of both -/
def Vb_ (p : pr_T) (m : Nat) (S : gs_T) : Prop := Vr_ (gly_ p 0 (-1) m) (Kl_ p 0 (-1)) S ∧ Vy_ p S
theorem gly_0l (t : Nat) : gl_ (gly_ p 0 (-1) m) t = gl_ (gcl_ p m (F0_ p)) t := by
  unfold gl_
  rw [gly_0B, gly_0B]
theorem vb_vg (zP : Wp_ p) (h : Vb_ p m S) : Vg_ p S := by
  obtain ⟨⟨h1, h2, h3, h4, h5⟩, y1, y2⟩ := h
  have b := zP.1.1
  have bT := zP.1.2.1
  have hl : ∀ t, t < 4 → sP_ S t ≤ gl_ (gcl_ p m (F0_ p)) t := fun t ht => by
    have y := h4 t ht
    rw [gly_0l] at y
    exact y
  have h8 : ∀ t, sP_ S t ≤ gl_ (gcl_ p m (F0_ p)) t := fun t => by
    by_cases y : t < 4
    · exact hl t y
    · rw [(h1 t).2 (by omega)]
      exact Nat.zero_le _
  refine ⟨⟨fun t => ⟨?_, fun ht => ?_⟩, fun q => ⟨(h2 q).1, fun hq => y1 q hq⟩, fun l => ⟨(h3 l).1, fun hl => y2 l hl⟩, fun n hn => ?_⟩, fun t => h8 t, fun n hn => ?_⟩
  · have y := h8 t
    have y2 := gl_7 (m := m) (F := F0_ p) zP t
    omega
  · have y := h8 t
    rw [gl_T zP ht] at y
    omega
  · rw [Bool.eq_false_iff]
    intro hw
    have y := (h5 n hw).1
    rw [kl_0] at y
    omega
  · obtain ⟨y3, y4, -⟩ := h5 n hn
    rw [kl_0] at y3
    have y5 : gC_ (gly_ p 0 (-1) m) n 1 = pC_ p n 1 := gly_0C y3 1
    rw [y5] at y4
    exact ⟨y3, y4⟩
theorem vb_step {t w : Nat} (zP : Wp_ p) (hm : m < 3) (h : Vb_ p m S) (q1 : t < 4) (q2 : w < 4) (q : gt_ (gly_ p 0 (-1) m) S t w = some S2) : Vb_ p m S2 := ⟨vr_step (gw_ly zP hm) h.1 q1 q2 q, vy_step zP hm h.1 h.2 q1 q2 q⟩
theorem vb_0 (zP : Wp_ p) (hm : m < 3) : Vb_ p m (s0k_ p (pL_ p)) := ⟨vr_0 zP.1 (gw_ly zP hm), fun _ _ => rfl, fun l hl => by
  show (if l < pL_ p then (pI_ p l).toNat else 0) = 0
  rw [if_neg (by omega)]⟩
theorem vb_bn (zP : Wp_ p) (hm : m < 3) (k : gs_T → Nat) : ∀ n, al_ (Vb_ p m) (bn_ k (gly_ p 0 (-1) m) 4 4 (s0k_ p (pL_ p)) n) := bn_alP k (vb_0 zP hm) (fun S t w S2 h z1 z2 z3 => vb_step zP hm h z1 z2 z3)
theorem bn_t1 (zP : Wp_ p) (hm : m < 3) : ∀ n, bn_ (kr_ (gly_ p 0 (-1) m) (Kl_ p 0 (-1))) (gly_ p 0 (-1) m) 4 4 (s0k_ p (pL_ p)) n = bn_ (en_ p) (gcl_ p m (F0_ p)) (pT_ p) (1 + pL_ p) (s0k_ p (pL_ p)) n := by
  have hg := gw_ly (G := 0) (z := -1) zP hm
  have bT := zP.1.2.1
  have bL := zP.1.2.2.1
  refine bn_same (P := Vb_ p m) bT (by omega) (vb_0 zP hm) (fun S t w S2 h z1 z2 z3 => vb_step zP hm h z1 z2 z3) (fun S t w h z1 z2 => ?_) (fun S t w h z1 z2 z3 => ?_) (fun S S' h h' => ?_)
  · obtain ⟨k1, k2, k3⟩ := gk_ hg (show t < 4 by omega)
    rw [kl_0] at k2
    exact gt_cg (N := pN_ p) gly_0B rfl (fun n hn k => gly_0C hn k) (fun n hn => gly_0K zP hn) (by omega)
  · rcases z3 with z3 | z3
    · have l0 := gly_T (G := 0) (z := -1) (m := m) zP z3
      have e1 : ga1_ (gly_ p 0 (-1) m) S t = none := by
        unfold ga1_
        rw [l0]
        rfl
      unfold gt_
      split
      · exact gx_n (Or.inl (by omega))
      · exact gc_none e1 _
    · unfold gt_
      rw [if_neg (by omega)]
      have e1 : gw1_ (gly_ p 0 (-1) m) S t ((w - 1 : Nat) : Int) = none := by
        cases e : gw1_ (gly_ p 0 (-1) m) S t ((w - 1 : Nat) : Int) with
        | none => rfl
        | some j =>
          obtain ⟨j1, j2, j3, -⟩ := gw1_in h.1 e
          have y := gly_L (m := m) zP j1 (by omega)
          omega
      unfold gc_ gn_
      rw [e1]
  · constructor
    · intro e
      rw [cr_eq (kr_cr hg S) (by rw [e]; exact kr_cr hg S') h.1 h'.1]
    · intro e
      rw [cw_eq (en_cw S) (by rw [e]; exact en_cw S') (vb_vg zP h).1 (vb_vg zP h').1 bT bL]
/-- what is found is the same -/
theorem br_t1 (zP : Wp_ p) (hm : m < 3) (hb : Br_ (gly_ p 0 (-1) m) (Kl_ p 0 (-1)) (s0k_ p (pL_ p))) : br_ (gly_ p 0 (-1) m) (Kl_ p 0 (-1)) (s0k_ p (pL_ p)) = bf_ p m (F0_ p) := by
  have h := hb 65535
  rw [bn_t1 zP hm] at h
  unfold br_ bf_
  rw [bn_t1 zP hm]
  have y := bn_stab h (131072 - 65535)
  rw [show 65535 + (131072 - 65535) = 131072 by omega] at y
  exact y.symm
theorem bd_t1 (zP : Wp_ p) (hm : m < 3) (hb : Br_ (gly_ p 0 (-1) m) (Kl_ p 0 (-1)) (s0k_ p (pL_ p))) : Bd_ p m (F0_ p) ∧ (bf_ p m (F0_ p)).length ≤ 65535 := by
  have h : ∀ n, (bn_ (en_ p) (gcl_ p m (F0_ p)) (pT_ p) (1 + pL_ p) (s0k_ p (pL_ p)) n).length ≤ 65535 := fun n => by
    rw [← bn_t1 zP hm]
    exact hb n
  exact ⟨fun n => Nat.le_trans (h n) (by decide), h 131072⟩
/-- final states are the same -/
theorem fi_ifr (zP : Wp_ p) (h : Vg_ p S) : fi_ p S = true ↔ (∀ t, t < 4 → sP_ S t = gl_ (gcl_ p 0 (fun _ => false)) t) ∧ ∀ n, n < 10 → sW_ S n = false := by
  have bT := zP.1.2.1
  rw [fi_iff zP h]
  constructor
  · rintro ⟨h1, h2⟩
    refine ⟨fun t ht => ?_, fun n _ => h2 n⟩
    by_cases y : t < pT_ p
    · exact h1 t y
    · have y1 := h.2.1 t
      rw [gl_T zP (by omega)] at y1 ⊢
      omega
  · rintro ⟨h1, h2⟩
    refine ⟨fun t ht => h1 t (by omega), fun n => ?_⟩
    rw [Bool.eq_false_iff]
    intro hw
    have y := (h.2.2 n hw).1
    have b := zP.1.1
    have z := h2 n (by omega)
    rw [hw] at z
    cases z
theorem rf2_fi (zP : Wp_ p) (h : Vb_ p m S) : rf2_ (gly_ p 0 (-1) m) (Kl_ p 0 (-1)) S = fi_ p S := by
  have hv := vb_vg zP h
  have b := zP.1.1
  have e : rf2_ (gly_ p 0 (-1) m) (Kl_ p 0 (-1)) S = true ↔ fi_ p S = true := by
    rw [rf2_iff, fi_ifr zP hv, kl_0]
    constructor
    · rintro ⟨h1, h2⟩
      refine ⟨fun t ht => (h1 t ht).trans (gly_0l t), fun n hn => ?_⟩
      by_cases y : n < pN_ p
      · exact h2 n y
      · rw [Bool.eq_false_iff]
        intro hw
        exact y (hv.2.2 n hw).1
    · rintro ⟨h1, h2⟩
      exact ⟨fun t ht => (h1 t ht).trans (gly_0l (m := m) t).symm, fun n hn => h2 n (by omega)⟩
  cases e1 : rf2_ (gly_ p 0 (-1) m) (Kl_ p 0 (-1)) S <;> cases e2 : fi_ p S
  · rfl
  · rw [e1, e2] at e
    exact absurd (e.mpr rfl) (by decide)
  · rw [e1, e2] at e
    exact absurd (e.mp rfl) (by decide)
  · rfl
theorem rlr_t1 (zP : Wp_ p) (hm : m < 3) (hb : Br_ (gly_ p 0 (-1) m) (Kl_ p 0 (-1)) (s0k_ p (pL_ p))) : rlr_ (gly_ p 0 (-1) m) (Kl_ p 0 (-1)) p (br_ (gly_ p 0 (-1) m) (Kl_ p 0 (-1)) (s0k_ p (pL_ p))) = rl_ p (bf_ p m (F0_ p)) := by
  have al : al_ (Vb_ p m) (br_ (gly_ p 0 (-1) m) (Kl_ p 0 (-1)) (s0k_ p (pL_ p))) := vb_bn zP hm _ _
  rw [← br_t1 zP hm hb]
  unfold rlr_ rl_
  have e1 : (br_ (gly_ p 0 (-1) m) (Kl_ p 0 (-1)) (s0k_ p (pL_ p))).filter (fun q => rf2_ (gly_ p 0 (-1) m) (Kl_ p 0 (-1)) q.1) = (br_ (gly_ p 0 (-1) m) (Kl_ p 0 (-1)) (s0k_ p (pL_ p))).filter (fun q => fi_ p q.1) :=
    List.filter_congr (fun q hq => rf2_fi zP (al q hq))
  rw [e1]
  refine List.map_congr_left (fun q hq => ?_)
  rw [rc_cc zP.1 (fun j => cD_r (al q (List.mem_filter.mp hq).1).1 _ j)]
end TO
