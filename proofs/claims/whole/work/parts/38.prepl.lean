/-! the machine of the class is prepared: its locations and threads -/
section PQ
variable {γ : ga_T} {σ : st_T} {a : Nat} {p : pr_T}
/-- only the machine may have changed -/
def mf_ (σ σ1 : st_T) : Prop := (∀ b, b < 153 ∨ 163 < b → eh_ σ σ1 b) ∧ st_n σ1 = st_n σ ∧ st_c σ1 = st_c σ ∧ st_u σ1 = st_u σ
theorem mf_rf : mf_ σ σ := ⟨fun b _ => eh_rf b, rfl, rfl, rfl⟩
theorem mf_tr {σ1 σ2 : st_T} (h : mf_ σ σ1) (k : mf_ σ1 σ2) : mf_ σ σ2 := ⟨fun b z => eh_tr (h.1 b z) (k.1 b z), k.2.1.trans h.2.1, k.2.2.1.trans h.2.2.1, k.2.2.2.trans h.2.2.2⟩
theorem mf_I {b k : Nat} {v : Int32} (h : 153 ≤ b ∧ b ≤ 163) : mf_ σ (pt_I σ b k v) := ⟨fun c z => eh_I (by omega), rfl, rfl, rfl⟩
theorem mf_L {b k : Nat} {v : Int64} (h : 153 ≤ b ∧ b ≤ 163) : mf_ σ (pt_L σ b k v) := ⟨fun c z => eh_L (by omega), rfl, rfl, rfl⟩
theorem rp_eh {σ1 : st_T} (h : Rp_ σ a p) (h1 : eh_ σ σ1 a) (h2 : eh_ σ σ1 (a + 2)) (h3 : eh_ σ σ1 (a + 3)) : Rp_ σ1 a p := by
  obtain ⟨y0, y1, y2, y3, y4, y5⟩ := h
  exact ⟨y0, by rw [h1.1]; exact y1, by rw [h1.1]; exact y2, by rw [h1.1]; exact y3, fun l z => by rw [h2.1]; exact y4 l z, fun i k z1 z2 => by rw [h3.1]; exact y5 i k z1 z2⟩
theorem rp_mf {σ1 : st_T} (h : Rp_ σ 132 p) (k : mf_ σ σ1) : Rp_ σ1 132 p := rp_eh h (k.1 132 (Or.inl (by decide))) (k.1 134 (Or.inl (by decide))) (k.1 135 (Or.inl (by decide)))
theorem pg_132 : is_pg 132 := Or.inl rfl
theorem c_initialOf (zha : is_pg a) (zw : Wd σ) (zR : Rp_ σ a p) {l : Nat} (q : l < pL_ p) : fn_ γ m_X7_initialOf 0 [.ref a, .int (i_ (l : Int))] σ (.int (i_ (pI_ p l))) σ := fn_q (fun Q zQ => e_X7_initialOf zha zw (by
  have y := zR.1.2.2.1
  unfold p_X7_initialOf_0
  simp (disch := omega) only [i_lit, i_lt, i_le, i_in_iff, i_cl, Int.toNat_natCast]
  refine ⟨fun z => by omega, fun _ => ⟨fun z => by omega, fun _ => ⟨by omega, ?_⟩⟩⟩
  rw [zR.2.2.2.2.1 l q]
  exact zQ))
def Pl_ (σ s : st_T) (p : pr_T) (k : Nat) : Prop := Wd s ∧ mf_ σ s ∧ (∀ j, st_I s 153 j = st_I σ 153 j) ∧ st_L s 153 13 = lN (en_ p (s0k_ p k)) ∧ ∀ j, j < k → st_I s 163 j = i_ 0
theorem l_prepL (zR : Rp_ σ 132 p) : ∀ k i : Nat, k + i = pL_ p → ∀ s, Pl_ σ s p i → vv_ γ m_X4_prepareLocations 1 7 [(0, .ref 153), (1, .int (i_ (i : Int)))] [] s (fun r s => r = .inl none ∧ Pl_ σ s p (pL_ p)) := by
  have yL := zR.1.2.2.1
  intro k
  induction k with
  | zero =>
    intro i zi s zs
    have zi : i = pL_ p := by omega
    subst zi
    refine g_X4_prepareLocations_7 zs.1 ?_
    unfold p_X4_prepareLocations_7
    exact ⟨_, s, zs.1, c_locations pg_132 zs.1 (rp_mf zR zs.2.1), fun _ => ⟨rfl, zs⟩, fun z => absurd (Int32.le_refl _) z⟩
  | succ k ih =>
    intro i zi s zs
    obtain ⟨w1, w2, w3, w4, w5⟩ := zs
    have yI := zR.1.2.2.2.1 i
    refine g_X4_prepareLocations_7 w1 ?_
    unfold p_X4_prepareLocations_7
    refine ⟨_, s, w1, c_locations pg_132 w1 (rp_mf zR w2), ?_⟩
    simp (disch := omega) only [i_lit, i_le, i_in_iff]
    refine ⟨fun z => by omega, fun _ => ⟨fun z => by omega, fun _ => ⟨by omega, ?_⟩⟩⟩
    rw [i_cl (by omega), Int.toNat_natCast]
    have v1 : Wd (pt_I s 163 i (i_ 0)) := w1
    have v2 : mf_ σ (pt_I s 163 i (i_ 0)) := mf_tr w2 (mf_I (by decide))
    have v3 := rp_mf zR v2
    refine ⟨_, _, v1, c_initialOf pg_132 v1 v3 (by omega), _, _, v1, c_locationShift pg_132 v1 v3, ?_⟩
    have e1 : st_L s 153 13 ||| ((i_ (pI_ p i)).toInt64 <<< ((i_ (2 * ((pL_ p : Int) - 1 - (i : Int)))).toInt64 &&& 63)) = lN (en_ p (s0k_ p (i + 1))) := by
      rw [show pI_ p i = (((pI_ p i).toNat : Nat) : Int) by omega, show 2 * ((pL_ p : Int) - 1 - (i : Int)) = ((2 * (pL_ p - 1 - i) : Nat) : Int) by omega, l_int (by omega)]
      have b1 : (pI_ p i).toNat * 2 ^ (2 * (pL_ p - 1 - i)) < 2 ^ 63 := by
        have y1 : 2 ^ (2 * (pL_ p - 1 - i)) ≤ 2 ^ 4 := Nat.pow_le_pow_right (by decide) (by omega)
        have y2 : (pI_ p i).toNat * 2 ^ (2 * (pL_ p - 1 - i)) ≤ 3 * 2 ^ 4 := Nat.mul_le_mul (by omega) y1
        exact Nat.lt_of_le_of_lt y2 (by decide)
      rw [l_shl (by omega) (Nat.lt_trans b1 (by decide)), w4, l_or (Nat.lt_trans en_63 (by decide)) (Nat.lt_trans b1 (by decide)), s0k_s p zR.1 (by omega)]
    rw [e1, i_add, show ((i : Int) + 1) = ((i + 1 : Nat) : Int) by omega]
    refine ih (i + 1) (by omega) _ ⟨w1, mf_tr v2 (mf_L (by decide)), fun j => ?_, st_sL _ _ _ _, fun j zj => ?_⟩
    · exact w3 j
    · show st_I (pt_I s 163 i (i_ 0)) 163 j = _
      rw [st_pI]
      by_cases y : j = i
      · rw [if_pos ⟨rfl, y⟩]
      · rw [if_neg (fun z => y z.2)]
        exact w5 j (by omega)
theorem c_prepL (zw : Wd σ) (zR : Rp_ σ 132 p) : ∃ σ1, fw_ γ m_X4_prepareLocations 1 [.ref 153] σ σ1 ∧ Pl_ σ σ1 p (pL_ p) := by
  refine fw_of (P := fun s => Pl_ σ s p (pL_ p)) (e_X4_prepareLocations zw ?_)
  unfold p_X4_prepareLocations_0
  refine l_prepL zR (pL_ p) 0 (by omega) _ ⟨zw, mf_L (by decide), fun j => rfl, ?_, fun j zj => absurd zj (Nat.not_lt_zero j)⟩
  rw [st_sL, s0k_0]
  rfl
def Pt_ (σ s : st_T) (p : pr_T) (k : Nat) : Prop := Wd s ∧ mf_ σ s ∧ (∀ j, st_I s 153 j = st_I σ 153 j) ∧ st_L s 153 13 = st_L σ 153 13 ∧ st_L s 153 14 = lN (en_ p (s1k_ p k)) ∧ (∀ j, st_I s 163 j = st_I σ 163 j) ∧
  ∀ t, t < k → st_I s 160 t = i_ (gB0_ p t) ∧ st_I s 161 t = i_ (gl_ (gcl_ p 0 (fun _ => false)) t) ∧ st_I s 162 t = i_ 0
theorem gB_s (zP : Wp_ p) (t : Nat) : gB0_ p t + gl_ (gcl_ p 0 (fun _ => false)) t = gB0_ p (t + 1) := by
  have y := gB_mono zP (Nat.le_succ t)
  show gB0_ p t + (gB0_ p (t + 1) - gB0_ p t) = _
  have y' : gB0_ p t ≤ gB0_ p (t + 1) := y
  omega
theorem sz_gl (zP : Wp_ p) (t : Nat) : ct_ (fun i => decide (pp_ p i 0 = t)) (pN_ p) = gl_ (gcl_ p 0 (fun _ => false)) t := by
  rw [gl_ct zP]
  refine ct_cg (fun i zi => ?_)
  unfold pp_
  rw [if_pos (by omega)]
  rfl
theorem l_prepT (zP : Wp_ p) (zR : Rp_ σ 132 p) : ∀ k i : Nat, k + i = pT_ p → ∀ s, Pt_ σ s p i → vv_ γ m_X4_prepareThreads 2 9 [(0, .ref 153), (1, .int (i_ (gB0_ p i))), (2, .int (i_ (i : Int)))] [] s (fun r s => r = .inl none ∧ Pt_ σ s p (pT_ p)) := by
  have yL := zR.1.2.1
  intro k
  induction k with
  | zero =>
    intro i zi s zs
    have zi : i = pT_ p := by omega
    subst zi
    refine g_X4_prepareThreads_9 zs.1 ?_
    unfold p_X4_prepareThreads_9
    exact ⟨_, s, zs.1, c_threads pg_132 zs.1 (rp_mf zR zs.2.1), fun _ => ⟨rfl, zs⟩, fun z => absurd (Int32.le_refl _) z⟩
  | succ k ih =>
    intro i zi s zs
    obtain ⟨w1, w2, w3, w4, w5, w6, w7⟩ := zs
    have yg : gl_ (gcl_ p 0 (fun _ => false)) i ≤ 7 := gl_7 zP i
    refine g_X4_prepareThreads_9 w1 ?_
    unfold p_X4_prepareThreads_9
    refine ⟨_, s, w1, c_threads pg_132 w1 (rp_mf zR w2), ?_⟩
    simp (disch := omega) only [i_lit, i_le, i_in_iff]
    refine ⟨fun z => by omega, fun _ => ⟨fun z => by omega, fun _ => ⟨by omega, ?_⟩⟩⟩
    rw [i_cl (by omega), Int.toNat_natCast]
    have v1 : Wd (pt_I s 160 i (i_ (gB0_ p i))) := w1
    have v2 : mf_ σ (pt_I s 160 i (i_ (gB0_ p i))) := mf_tr w2 (mf_I (by decide))
    have v3 := c_sizeOf (γ := γ) pg_132 v1 (rp_mf zR v2) (t := (i : Int)) (by omega)
    rw [sz_gl zP] at v3
    refine ⟨_, _, v1, v3, by omega, by omega, by omega, by omega, ?_⟩
    generalize hG : gl_ (gcl_ p 0 (fun _ => false)) i = G at yg v3 ⊢
    have v4 : Wd (pt_I (pt_I (pt_I s 160 i (i_ (gB0_ p i))) 161 i (i_ (G : Int))) 162 i (i_ 0)) := w1
    refine ⟨_, _, v4, c_positionShift v4, ?_⟩
    rw [st_sI]
    have e1 : st_L (pt_I s 160 i (i_ (gB0_ p i))) 153 14 ||| ((i_ (G : Int)).toInt64 <<< ((i_ (32 + 3 * (i : Int))).toInt64 &&& 63)) = lN (en_ p (s1k_ p (i + 1))) := by
      rw [show (32 + 3 * (i : Int)) = ((32 + 3 * i : Nat) : Int) by omega, l_int (by omega)]
      have b1 : G * 2 ^ (32 + 3 * i) < 2 ^ 63 := by
        have y1 : 2 ^ (32 + 3 * i) ≤ 2 ^ 41 := Nat.pow_le_pow_right (by decide) (by omega)
        have y2 : G * 2 ^ (32 + 3 * i) ≤ 7 * 2 ^ 41 := Nat.mul_le_mul yg y1
        exact Nat.lt_of_le_of_lt y2 (by decide)
      rw [l_shl (by omega) (Nat.lt_trans b1 (by decide))]
      show st_L s 153 14 ||| _ = _
      rw [w5, l_or (Nat.lt_trans en_63 (by decide)) (Nat.lt_trans b1 (by decide)), ← hG, s1k_s p zP (by omega)]
    have e2 : st_L (pt_I (pt_I (pt_I s 160 i (i_ (gB0_ p i))) 161 i (i_ (G : Int))) 162 i (i_ 0)) 153 14 = st_L (pt_I s 160 i (i_ (gB0_ p i))) 153 14 := rfl
    rw [e1, i_add, i_add, show ((i : Int) + 1) = ((i + 1 : Nat) : Int) by omega, show ((gB0_ p i : Int) + (G : Int)) = ((gB0_ p (i + 1) : Nat) : Int) by
      have z := gB_s zP i
      omega]
    refine ih (i + 1) (by omega) _ ⟨w1, mf_tr v2 (mf_tr (mf_tr (mf_I (by decide)) (mf_I (by decide))) (mf_L (by decide))), fun j => w3 j, w4, st_sL _ _ _ _, w6, fun t zt => ?_⟩
    by_cases y : t = i
    · subst y
      refine ⟨st_sI _ _ _ _, ?_, ?_⟩
      · rw [hG]
        exact st_sI (pt_I s 160 t (i_ (gB0_ p t))) _ _ _
      · exact st_sI _ 162 t _
    · obtain ⟨x1, x2, x3⟩ := w7 t (by omega)
      refine ⟨?_, ?_, ?_⟩
      · show st_I (pt_I s 160 i (i_ (gB0_ p i))) 160 t = _
        rw [st_pI, if_neg (fun z => y z.2)]
        exact x1
      · show st_I (pt_I s 161 i (i_ (G : Int))) 161 t = _
        rw [st_pI, if_neg (fun z => y z.2)]
        exact x2
      · show st_I (pt_I s 162 i (i_ 0)) 162 t = _
        rw [st_pI, if_neg (fun z => y z.2)]
        exact x3
theorem c_prepT (zP : Wp_ p) (zw : Wd σ) (zR : Rp_ σ 132 p) : ∃ σ1, fw_ γ m_X4_prepareThreads 2 [.ref 153] σ σ1 ∧ Pt_ σ σ1 p (pT_ p) := by
  refine fw_of (P := fun s => Pt_ σ s p (pT_ p)) (e_X4_prepareThreads zw ?_)
  unfold p_X4_prepareThreads_0
  have y := l_prepT (γ := γ) zP zR (pT_ p) 0 (by omega) (pt_L σ 153 14 (0 : Int64)) ⟨zw, mf_L (by decide), fun j => rfl, (by rw [st_pL, if_neg (by decide)]), ?_, fun j => rfl, fun j zj => absurd zj (Nat.not_lt_zero j)⟩
  · rw [gB_0 zP] at y
    exact y
  · rw [st_sL, s1k_0]
    rfl
end PQ
