/-! the machine of the class is prepared: the walk over an instruction, and all of it -/
section PW
variable {γ : ga_T} {σ s : st_T} {p : pr_T}
theorem c_prepI (zP : Wp_ p) (zR : Rp_ σ 132 p) {i : Nat} (zs : Pi_ σ s p i) (q1 : i < pN_ p) : ∃ s1, fw_ γ m_X4_prepareInstruction 2 [.ref 153, .int (i_ (i : Int))] s s1 ∧ Pi_ σ s1 p (i + 1) := by
  have w1 := zs.1
  have w2 := zs.2.1
  have yB := zP.1
  have yc := zP.2.1 i q1
  have yT := yB.2.1
  have yL := yB.2.2.1
  have zr := rp_mf zR w2
  have y0 := yB.2.2.2.2 i 0
  have y1 := yB.2.2.2.2 i 1
  have y2 := yB.2.2.2.2 i 2
  have y3 := yB.2.2.2.2 i 3
  have y4 := yB.2.2.2.2 i 4
  have y5 := yB.2.2.2.2 i 5
  have yN := yB.1
  have prp : ∀ (s' : st_T), Wd s' → mf_ s s' → ∀ k : Nat, k < 6 → fn_ γ m_X7_property 0 [.ref 132, .int (i_ (i : Int)), .int (i_ (k : Int))] s' (.int (i_ (pC_ p i k))) s' := fun s' v1 v2 k hk => by
    have z := c_property (γ := γ) pg_132 v1 (rp_mf zr v2) (z := (i : Int)) (k := (k : Int)) (by omega) (by omega)
    rw [pp_eq q1 _ (by omega), Int.toNat_natCast] at z
    exact z
  refine fw_of (P := fun s1 => Pi_ σ s1 p (i + 1)) (e_X4_prepareInstruction w1 ?_)
  unfold p_X4_prepareInstruction_0
  simp (disch := omega) only [i_lit, i_neg, i_lt, i_in_iff, i_cl, Int.toNat_natCast]
  refine ⟨fun z => by omega, fun _ => ⟨fun _ => ?_, fun z => by omega⟩⟩
  refine ⟨_, s, w1, prp s w1 mf_rf 0 (by decide), _, s, w1, prp s w1 mf_rf 5 (by decide), _, s, w1, prp s w1 mf_rf 1 (by decide), by omega, ?_⟩
  have v1 : Wd (pt_I s 154 i (i_ (pC_ p i 1))) := w1
  have m1 : mf_ s (pt_I s 154 i (i_ (pC_ p i 1))) := mf_I (by decide)
  refine ⟨_, _, v1, prp _ v1 m1 2 (by decide), by omega, ?_⟩
  have v2 : Wd (pt_I (pt_I s 154 i (i_ (pC_ p i 1))) 155 i (i_ (pC_ p i 2))) := w1
  have m2 : mf_ s (pt_I (pt_I s 154 i (i_ (pC_ p i 1))) 155 i (i_ (pC_ p i 2))) := mf_tr m1 (mf_I (by decide))
  refine ⟨_, _, v2, prp _ v2 m2 4 (by decide), by omega, by omega, ?_⟩
  have v3 : Wd (pt_I (pt_I (pt_I s 154 i (i_ (pC_ p i 1))) 155 i (i_ (pC_ p i 2))) 159 i (i_ (pC_ p i 4))) := w1
  have m3 : mf_ s (pt_I (pt_I (pt_I s 154 i (i_ (pC_ p i 1))) 155 i (i_ (pC_ p i 2))) 159 i (i_ (pC_ p i 4))) := mf_tr m2 (mf_I (by decide))
  rw [st_sI]
  refine ⟨_, _, v3, c_locationShift pg_132 v3 (rp_mf zr m3), by omega, ?_⟩
  have v4 : Wd (pt_I (pt_I (pt_I (pt_I s 154 i (i_ (pC_ p i 1))) 155 i (i_ (pC_ p i 2))) 159 i (i_ (pC_ p i 4))) 156 i (i_ (2 * ((pL_ p : Int) - 1 - pC_ p i 2)))) := w1
  have m4 : mf_ s (pt_I (pt_I (pt_I (pt_I s 154 i (i_ (pC_ p i 1))) 155 i (i_ (pC_ p i 2))) 159 i (i_ (pC_ p i 4))) 156 i (i_ (2 * ((pL_ p : Int) - 1 - pC_ p i 2)))) := mf_tr m3 (mf_I (by decide))
  refine ⟨_, _, v4, prp _ v4 m4 3 (by decide), ?_⟩
  refine ⟨_, _, v4, c_registerShift pg_132 v4 (rp_mf zr m4), by omega, ?_⟩
  have h154 : st_I (pt_I (pt_I (pt_I (pt_I s 154 i (i_ (pC_ p i 1))) 155 i (i_ (pC_ p i 2))) 159 i (i_ (pC_ p i 4))) 156 i (i_ (2 * ((pL_ p : Int) - 1 - pC_ p i 2)))) 154 i = i_ (pC_ p i 1) := by
    rw [st_pI, if_neg (by omega), st_pI, if_neg (by omega), st_pI, if_neg (by omega), st_sI]
  have h155 : st_I (pt_I (pt_I (pt_I (pt_I s 154 i (i_ (pC_ p i 1))) 155 i (i_ (pC_ p i 2))) 159 i (i_ (pC_ p i 4))) 156 i (i_ (2 * ((pL_ p : Int) - 1 - pC_ p i 2)))) 155 i = i_ (pC_ p i 2) := by
    rw [st_pI, if_neg (by omega), st_pI, if_neg (by omega), st_sI]
  have h162 : ∀ j, st_I (pt_I (pt_I (pt_I (pt_I s 154 i (i_ (pC_ p i 1))) 155 i (i_ (pC_ p i 2))) 159 i (i_ (pC_ p i 4))) 156 i (i_ (2 * ((pL_ p : Int) - 1 - pC_ p i 2)))) 162 j = st_I s 162 j := fun j => by
    rw [st_pI, if_neg (by omega), st_pI, if_neg (by omega), st_pI, if_neg (by omega), st_pI, if_neg (by omega)]
  have h163 : ∀ j, st_I (pt_I (pt_I (pt_I (pt_I s 154 i (i_ (pC_ p i 1))) 155 i (i_ (pC_ p i 2))) 159 i (i_ (pC_ p i 4))) 156 i (i_ (2 * ((pL_ p : Int) - 1 - pC_ p i 2)))) 163 j = st_I s 163 j := fun j => by
    rw [st_pI, if_neg (by omega), st_pI, if_neg (by omega), st_pI, if_neg (by omega), st_pI, if_neg (by omega)]
  have eB : B6_ s p i = pt_I (pt_I (pt_I (pt_I (pt_I (pt_I s 154 i (i_ (pC_ p i 1))) 155 i (i_ (pC_ p i 2))) 159 i (i_ (pC_ p i 4))) 156 i (i_ (2 * ((pL_ p : Int) - 1 - pC_ p i 2)))) 157 i (i_ ((cb_ p : Int) - 2 * (2 * pC_ p i 0 + pC_ p i 3 + 1)))) 158 i (i_ (if pC_ p i 5 = -1 then -1 else (cb_ p : Int) - 2 * (2 * pC_ p i 0 + pC_ p i 5 + 1))) := rfl
  generalize (pt_I (pt_I (pt_I (pt_I s 154 i (i_ (pC_ p i 1))) 155 i (i_ (pC_ p i 2))) 159 i (i_ (pC_ p i 4))) 156 i (i_ (2 * ((pL_ p : Int) - 1 - pC_ p i 2)))) = S at h154 h155 h162 h163 eB m4 v4 ⊢
  have k0 : (Int.toNat 0) = 0 := rfl
  have pn := pi_no zs
  have ps := fun (q : pC_ p i 1 = 0) => pi_st (t0 := (pC_ p i 0).toNat) (l0 := (pC_ p i 2).toNat) zs q q1 (by omega) (by omega) rfl rfl
  have o1 : pC_ p i 1 = 0 → st_I s 162 (pC_ p i 0).toNat ||| (i_ 1 <<< (i_ (i : Int) &&& i_ 31)) = i_ (bm_ (fun j => decide (j < i + 1) && (decide (pC_ p j 0 = ((pC_ p i 0).toNat : Nat)) && decide (pC_ p j 1 = 0))) (pN_ p)) := fun q => by
    have b1 : 1 * 2 ^ i < 2 ^ 32 := by
      rw [Nat.one_mul]
      exact Nat.pow_lt_pow_right (by decide) (by omega)
    have b2 := i_shl (m := 1) (s := i) (by omega) b1
    rw [show i_ ((1 : Nat) : Int) = i_ 1 from rfl] at b2
    rw [b2, zs.2.2.2.2.2.2.2.1 _ (by omega), i_or (Nat.lt_of_lt_of_le (bm_lt _ _) (Nat.pow_le_pow_right (by decide) (by omega))) b1, Nat.one_mul, bm_sv (f := fun j => decide (pC_ p j 0 = ((pC_ p i 0).toNat : Nat)) && decide (pC_ p j 1 = 0)) (by rw [decide_eq_true q, decide_eq_true (by omega)]; rfl) q1]
  have o2 : pC_ p i 1 = 0 → st_I s 163 (pC_ p i 2).toNat ||| (i_ 1 <<< (i_ (i : Int) &&& i_ 31)) = i_ (bm_ (fun j => decide (j < i + 1) && (decide (pC_ p j 2 = ((pC_ p i 2).toNat : Nat)) && decide (pC_ p j 1 = 0))) (pN_ p)) := fun q => by
    have b1 : 1 * 2 ^ i < 2 ^ 32 := by
      rw [Nat.one_mul]
      exact Nat.pow_lt_pow_right (by decide) (by omega)
    have b2 := i_shl (m := 1) (s := i) (by omega) b1
    rw [show i_ ((1 : Nat) : Int) = i_ 1 from rfl] at b2
    rw [b2, zs.2.2.2.2.2.2.2.2 _ (by omega), i_or (Nat.lt_of_lt_of_le (bm_lt _ _) (Nat.pow_le_pow_right (by decide) (by omega))) b1, Nat.one_mul, bm_sv (f := fun j => decide (pC_ p j 2 = ((pC_ p i 2).toNat : Nat)) && decide (pC_ p j 1 = 0)) (by rw [decide_eq_true q, decide_eq_true (by omega)]; rfl) q1]
  by_cases hsrc : pC_ p i 5 = -1
  · rw [if_pos hsrc] at eB
    rw [eB] at pn ps
    refine ⟨fun _ => ⟨by omega, ?_⟩, fun z => absurd (by rw [show pC_ p i ((5 : Nat)) = -1 from hsrc]) z⟩
    simp (disch := omega) only [h154, h155, i_lt, i_le, i_eq, i_in_iff, i_cl, h162, h163]
    refine ⟨fun z => by omega, fun _ => ⟨fun z => by omega, fun _ => ⟨by omega, fun z => ⟨by omega, fun z1 => by omega, fun z1 => ⟨trivial, pn z1⟩⟩, fun z => ⟨by omega, fun z1 => by omega, fun _ => ⟨by omega, fun z1 => ⟨by omega, by omega, by omega, by omega, by omega, trivial, ?_⟩, fun z1 => ⟨trivial, pn z1⟩⟩⟩⟩⟩⟩
    have z := ps z1
    rw [← o1 z1, ← o2 z1] at z
    exact z
  · rw [if_neg hsrc] at eB
    rw [eB] at pn ps
    refine ⟨fun z => absurd z (fun z => hsrc (by rw [i_eq (by omega) (by omega)] at z; exact z)), fun _ => ?_⟩
    have v5 : Wd (pt_I S 157 i (i_ ((cb_ p : Int) - 2 * (2 * pC_ p i 0 + pC_ p i 3 + 1)))) := v4
    have m5 : mf_ s (pt_I S 157 i (i_ ((cb_ p : Int) - 2 * (2 * pC_ p i 0 + pC_ p i 3 + 1)))) := mf_tr m4 (mf_I (by decide))
    refine ⟨_, _, v5, c_registerShift pg_132 v5 (rp_mf zr m5), by omega, ?_⟩
    have g154 : st_I (pt_I S 157 i (i_ ((cb_ p : Int) - 2 * (2 * pC_ p i 0 + pC_ p i 3 + 1)))) 154 i = i_ (pC_ p i 1) := by
      rw [st_pI, if_neg (by omega)]
      exact h154
    have g155 : st_I (pt_I S 157 i (i_ ((cb_ p : Int) - 2 * (2 * pC_ p i 0 + pC_ p i 3 + 1)))) 155 i = i_ (pC_ p i 2) := by
      rw [st_pI, if_neg (by omega)]
      exact h155
    have g162 : ∀ j, st_I (pt_I S 157 i (i_ ((cb_ p : Int) - 2 * (2 * pC_ p i 0 + pC_ p i 3 + 1)))) 162 j = st_I s 162 j := fun j => by
      rw [st_pI, if_neg (by omega)]
      exact h162 j
    have g163 : ∀ j, st_I (pt_I S 157 i (i_ ((cb_ p : Int) - 2 * (2 * pC_ p i 0 + pC_ p i 3 + 1)))) 163 j = st_I s 163 j := fun j => by
      rw [st_pI, if_neg (by omega)]
      exact h163 j
    simp (disch := omega) only [g154, g155, i_lt, i_le, i_eq, i_in_iff, i_cl, g162, g163]
    refine ⟨fun z => by omega, fun _ => ⟨fun z => by omega, fun _ => ⟨by omega, fun z => ⟨by omega, fun z1 => by omega, fun z1 => ⟨trivial, pn z1⟩⟩, fun z => ⟨by omega, fun z1 => by omega, fun _ => ⟨by omega, fun z1 => ⟨by omega, by omega, by omega, by omega, by omega, trivial, ?_⟩, fun z1 => ⟨trivial, pn z1⟩⟩⟩⟩⟩⟩
    have z := ps z1
    rw [← o1 z1, ← o2 z1] at z
    exact z
theorem l_prep (zP : Wp_ p) (zR : Rp_ σ 132 p) : ∀ k i : Nat, k + i = pN_ p → ∀ s, Pi_ σ s p i → vv_ γ m_X4_prepare 3 20 [(0, .ref 153), (3, .int (i_ (i : Int)))] [] s (fun r s => r = .inl none ∧ Pi_ σ s p (pN_ p)) := by
  have yN := zR.1.1
  intro k
  induction k with
  | zero =>
    intro i zi s zs
    have zi : i = pN_ p := by omega
    subst zi
    refine g_X4_prepare_20 zs.1 ?_
    unfold p_X4_prepare_20
    exact ⟨_, s, zs.1, c_size pg_132 zs.1 (rp_mf zR zs.2.1), fun _ => ⟨rfl, zs⟩, fun z => absurd (Int32.le_refl _) z⟩
  | succ k ih =>
    intro i zi s zs
    obtain ⟨s1, e1, e2⟩ := c_prepI (γ := γ) zP zR zs (by omega)
    refine g_X4_prepare_20 zs.1 ?_
    unfold p_X4_prepare_20
    refine ⟨_, s, zs.1, c_size pg_132 zs.1 (rp_mf zR zs.2.1), ?_⟩
    simp (disch := omega) only [i_le]
    refine ⟨fun z => by omega, fun _ => ⟨s1, e2.1, e1, ?_⟩⟩
    have z := ih (i + 1) (by omega) s1 e2
    rw [show ((i + 1 : Nat) : Int) = (i : Int) + 1 by omega, ← i_add, ← i_lit 1] at z
    exact z
/-- the machine is prepared: its frame, its start and its end -/
theorem c_prepare (zw : Wd σ) (zP : Wp_ p) (zR : Rp_ σ 132 p) {m : Nat} {F : Nat → Bool} (q1 : m < 3) : ∃ σ1, fw_ γ m_X4_prepare 3 [.ref 153, .int (i_ (m : Int)), .int (i_ ((bm_ F 10 : Nat) : Int))] σ σ1 ∧ Wd σ1 ∧ mf_ σ σ1 ∧ Mc_ σ1 p m F ∧
    st_L σ1 153 13 = lN (en_ p (s0k_ p (pL_ p))) ∧ st_L σ1 153 14 = lN (en_ p (s1k_ p (pT_ p))) := by
  have a1 : mf_ σ (pt_I (pt_I σ 153 11 (i_ (m : Int))) 153 12 (i_ ((bm_ F 10 : Nat) : Int))) := mf_tr (mf_I (by decide)) (mf_I (by decide))
  have a2 : Wd (pt_I (pt_I σ 153 11 (i_ (m : Int))) 153 12 (i_ ((bm_ F 10 : Nat) : Int))) := zw
  have a3 : st_I (pt_I (pt_I σ 153 11 (i_ (m : Int))) 153 12 (i_ ((bm_ F 10 : Nat) : Int))) 153 11 = i_ (m : Int) := by
    rw [st_pI, if_neg (by omega), st_sI]
  have a4 : st_I (pt_I (pt_I σ 153 11 (i_ (m : Int))) 153 12 (i_ ((bm_ F 10 : Nat) : Int))) 153 12 = i_ ((bm_ F 10 : Nat) : Int) := st_sI _ _ _ _
  obtain ⟨s1, b1, b2⟩ := c_prepL (γ := γ) a2 (rp_mf zR a1)
  obtain ⟨b3, b4, b5, b6, b7⟩ := b2
  have b8 := mf_tr a1 b4
  obtain ⟨s2, c1, c2⟩ := c_prepT (γ := γ) zP b3 (rp_mf zR b8)
  obtain ⟨c3, c4, c5, c6, c7, c8, c9⟩ := c2
  have c10 := mf_tr b8 c4
  have d0 : Pi_ s2 s2 p 0 := ⟨c3, mf_rf, fun _ => rfl, fun _ => rfl, fun _ => rfl, fun _ => rfl, fun i zi => absurd zi (Nat.not_lt_zero i), fun t zt => by
    rw [(c9 t zt).2.2, bm_F (fun j => by rw [decide_eq_false (Nat.not_lt_zero j), Bool.false_and])]
    rfl, fun l zl => by
    rw [c8, b7 l zl, bm_F (fun j => by rw [decide_eq_false (Nat.not_lt_zero j), Bool.false_and])]
    rfl⟩
  have fin : ∀ s3, Pi_ s2 s3 p (pN_ p) → Wd s3 ∧ mf_ σ s3 ∧ Mc_ s3 p m F ∧ st_L s3 153 13 = lN (en_ p (s0k_ p (pL_ p))) ∧ st_L s3 153 14 = lN (en_ p (s1k_ p (pT_ p))) := fun s3 d => by
    obtain ⟨d1, d2, d3, d4, d5, d6, d7, d8, d9⟩ := d
    refine ⟨d1, mf_tr c10 d2, ⟨q1, ?_, ?_, d7, fun t zt => ⟨?_, ?_, ?_⟩, fun l zl => ?_⟩, ?_, ?_⟩
    · rw [d3, c5, b5, a3]
    · rw [d3, c5, b5, a4]
    · rw [d5]
      exact (c9 t zt).1
    · rw [d6]
      exact (c9 t zt).2.1
    · rw [d8 t zt, bm_cg (fun i zi => by rw [decide_eq_true zi, Bool.true_and])]
    · rw [d9 l zl, bm_cg (fun i zi => by rw [decide_eq_true zi, Bool.true_and])]
    · rw [d4, c6, b6]
    · rw [d4, c7]
  refine fw_of (P := fun s3 => Wd s3 ∧ mf_ σ s3 ∧ Mc_ s3 p m F ∧ st_L s3 153 13 = lN (en_ p (s0k_ p (pL_ p))) ∧ st_L s3 153 14 = lN (en_ p (s1k_ p (pT_ p)))) (e_X4_prepare zw ?_)
  unfold p_X4_prepare_0
  refine ⟨s1, b3, b1, s2, c3, c1, ?_⟩
  have z := l_prep (γ := γ) zP (rp_mf zR c10) (pN_ p) 0 (by omega) s2 d0
  exact vv_up z (fun r s hr => ⟨hr.1, fin s hr.2⟩)
end PW
