section PG
variable {γ : ga_T} {a : Nat} {σ : st_T} {p : pr_T}
theorem c_property (zha : is_pg a) (zw : Wd σ) (zR : Rp_ σ a p) {z k : Int} (q1 : -2147483648 ≤ z ∧ z < 2147483648) (q2 : -2147483648 ≤ k ∧ k < 2147483648) : fn_ γ m_X7_property 0 [.ref a, .int (i_ z), .int (i_ k)] σ (.int (i_ (pp_ p z k))) σ := by
  obtain ⟨⟨r1, r2, r3, -, -⟩, r4, r5, r6, r7, r8⟩ := zR
  refine fn_q (fun Q zQ => ?_)
  refine e_X7_property zha zw ?_
  unfold p_X7_property_0
  rw [r4]
  simp (disch := omega) only [i_lit, i_neg, i_lt, i_le]
  refine ⟨fun z1 => ?_, fun z1 => ⟨fun z2 => ?_, fun z2 => ⟨fun z3 => ?_, fun z3 => ⟨fun z4 => ?_, fun z4 => ?_⟩⟩⟩⟩
  · exact qi_ zQ (by unfold pp_; rw [if_neg (by omega)])
  · exact qi_ zQ (by unfold pp_; rw [if_neg (by omega)])
  · exact qi_ zQ (by unfold pp_; rw [if_neg (by omega)])
  · exact qi_ zQ (by unfold pp_; rw [if_neg (by omega)])
  · simp (disch := omega) only [i_mul, i_add, i_le, i_in_iff, i_cl]
    refine ⟨fun z5 => by omega, fun z5 => ⟨⟨by omega, by omega⟩, ?_⟩⟩
    have e1 := r8 z.toNat k.toNat (by omega) (by omega)
    rw [show (z * 6 + k).toNat = 6 * z.toNat + k.toNat by omega, e1]
    exact qi_ zQ (by unfold pp_; rw [if_pos (by omega)])
theorem l_sizeOf (zha : is_pg a) (zw : Wd σ) (zR : Rp_ σ a p) {t : Int} (q1 : -2147483648 ≤ t ∧ t < 2147483648) {Q : rs_T → st_T → Prop} (zQ : Q (.inl (some (.int (i_ (ct_ (fun i => decide (pp_ p i 0 = t)) (pN_ p)))))) σ) :
    ∀ k i : Nat, k + i = pN_ p → vv_ γ m_X7_sizeOf 1 4 [(0, .ref a), (1, .int (i_ t)), (2, .int (i_ (ct_ (fun i => decide (pp_ p i 0 = t)) i))), (3, .int (i_ i))] [] σ Q := by
  have r4 := zR.2.1
  have r1 := zR.1.1
  intro k
  induction k with
  | zero =>
    intro i zi
    have zi : i = pN_ p := by omega
    subst zi
    refine g_X7_sizeOf_4 zha zw ?_
    unfold p_X7_sizeOf_4
    rw [r4]
    exact ⟨fun _ => zQ, fun z => absurd (Int32.le_refl _) z⟩
  | succ k ih =>
    intro i zi
    have z2 := ih (i + 1) (by omega)
    have b1 := pp_rng zR.1 i 0
    refine g_X7_sizeOf_4 zha zw ?_
    unfold p_X7_sizeOf_4
    rw [r4]
    simp (disch := omega) only [i_lit, i_le]
    refine ⟨fun z => by omega, fun _ => ⟨_, _, zw, c_property zha zw zR (by omega) (by omega), ?_⟩⟩
    simp (disch := omega) only [i_eq, i_add]
    refine ⟨fun z => ?_, fun z => ?_⟩
    · rw [show ct_ (fun i => decide (pp_ p i 0 = t)) (i + 1) = ct_ (fun i => decide (pp_ p i 0 = t)) i + 1 by rw [ct_]; simp [z]] at z2
      exact z2
    · rw [show ct_ (fun i => decide (pp_ p i 0 = t)) (i + 1) = ct_ (fun i => decide (pp_ p i 0 = t)) i by rw [ct_]; simp [z]] at z2
      exact z2
theorem c_sizeOf (zha : is_pg a) (zw : Wd σ) (zR : Rp_ σ a p) {t : Int} (q1 : -2147483648 ≤ t ∧ t < 2147483648) : fn_ γ m_X7_sizeOf 1 [.ref a, .int (i_ t)] σ (.int (i_ (ct_ (fun i => decide (pp_ p i 0 = t)) (pN_ p)))) σ :=
  fn_q (fun Q zQ => e_X7_sizeOf zha zw (l_sizeOf zha zw zR q1 zQ (pN_ p) 0 (by omega)))
theorem l_accessesOf (zha : is_pg a) (zw : Wd σ) (zR : Rp_ σ a p) {t : Int} (q1 : -2147483648 ≤ t ∧ t < 2147483648) {Q : rs_T → st_T → Prop} (zQ : Q (.inl (some (.int (i_ (ct_ (fun i => decide (pp_ p i 0 = t ∧ pp_ p i 1 ≠ 3)) (pN_ p)))))) σ) :
    ∀ k i : Nat, k + i = pN_ p → vv_ γ m_X7_accessesOf 1 4 [(0, .ref a), (1, .int (i_ t)), (2, .int (i_ (ct_ (fun i => decide (pp_ p i 0 = t ∧ pp_ p i 1 ≠ 3)) i))), (3, .int (i_ i))] [] σ Q := by
  have r4 := zR.2.1
  have r1 := zR.1.1
  intro k
  induction k with
  | zero =>
    intro i zi
    have zi : i = pN_ p := by omega
    subst zi
    refine g_X7_accessesOf_4 zha zw ?_
    unfold p_X7_accessesOf_4
    rw [r4]
    exact ⟨fun _ => zQ, fun z => absurd (Int32.le_refl _) z⟩
  | succ k ih =>
    intro i zi
    have z2 := ih (i + 1) (by omega)
    have b1 := pp_rng zR.1 i 0
    have b2 := pp_rng zR.1 i 1
    rw [ct_] at z2
    refine g_X7_accessesOf_4 zha zw ?_
    unfold p_X7_accessesOf_4
    rw [r4]
    simp (disch := omega) only [i_lit, i_le]
    refine ⟨fun z => by omega, fun _ => ⟨_, _, zw, c_property zha zw zR (by omega) (by omega), ?_⟩⟩
    simp (disch := omega) only [i_eq, i_add]
    refine ⟨fun z => ⟨_, _, zw, c_property zha zw zR (by omega) (by omega), ?_⟩, fun z => ?_⟩
    · simp (disch := omega) only [i_eq]
      refine ⟨fun z3 => ?_, fun z3 => ?_⟩
      · rw [if_neg (by simp [z, z3])] at z2
        exact z2
      · rw [if_pos (by simp [z, z3])] at z2
        exact z2
    · rw [if_neg (by simp [z])] at z2
      exact z2
theorem c_accessesOf (zha : is_pg a) (zw : Wd σ) (zR : Rp_ σ a p) {t : Int} (q1 : -2147483648 ≤ t ∧ t < 2147483648) : fn_ γ m_X7_accessesOf 1 [.ref a, .int (i_ t)] σ (.int (i_ (ct_ (fun i => decide (pp_ p i 0 = t ∧ pp_ p i 1 ≠ 3)) (pN_ p)))) σ :=
  fn_q (fun Q zQ => e_X7_accessesOf zha zw (l_accessesOf zha zw zR q1 zQ (pN_ p) 0 (by omega)))
theorem l_isTarget (zha : is_pg a) (zw : Wd σ) (zR : Rp_ σ a p) {t r : Int} (q1 : -2147483648 ≤ t ∧ t < 2147483648) (q2 : -2147483648 ≤ r ∧ r < 2147483648) {Q : rs_T → st_T → Prop} (zQ : Q (.inl (some (.int (if an_ (fun i => decide (pp_ p i 0 = t ∧ pp_ p i 3 = r)) (pN_ p) = true then 1 else 0)))) σ) :
    ∀ k i : Nat, k + i = pN_ p → an_ (fun i => decide (pp_ p i 0 = t ∧ pp_ p i 3 = r)) i = false → vv_ γ m_X7_isTarget 1 2 [(0, .ref a), (1, .int (i_ t)), (2, .int (i_ r)), (3, .int (i_ i))] [] σ Q := by
  have r4 := zR.2.1
  have r1 := zR.1.1
  intro k
  induction k with
  | zero =>
    intro i zi z0
    have zi : i = pN_ p := by omega
    subst zi
    rw [z0] at zQ
    refine g_X7_isTarget_2 zha zw ?_
    unfold p_X7_isTarget_2
    rw [r4]
    exact ⟨fun _ => zQ, fun z => absurd (Int32.le_refl _) z⟩
  | succ k ih =>
    intro i zi z0
    have b1 := pp_rng zR.1 i 0
    have b2 := pp_rng zR.1 i 3
    refine g_X7_isTarget_2 zha zw ?_
    unfold p_X7_isTarget_2
    rw [r4]
    simp (disch := omega) only [i_lit, i_le]
    refine ⟨fun z => by omega, fun _ => ⟨_, _, zw, c_property zha zw zR (by omega) (by omega), ?_⟩⟩
    simp (disch := omega) only [i_eq, i_add]
    refine ⟨fun z => ⟨_, _, zw, c_property zha zw zR (by omega) (by omega), ?_⟩, fun z => ?_⟩
    · simp (disch := omega) only [i_eq]
      refine ⟨fun z3 => ?_, fun z3 => ?_⟩
      · rw [if_pos ((an_iff _ _).mpr ⟨i, by omega, by simp [z, z3]⟩)] at zQ
        exact zQ
      · exact ih (i + 1) (by omega) (by rw [an_, z0]; simp [z, z3])
    · exact ih (i + 1) (by omega) (by rw [an_, z0]; simp [z])
theorem c_isTarget (zha : is_pg a) (zw : Wd σ) (zR : Rp_ σ a p) {t r : Int} (q1 : -2147483648 ≤ t ∧ t < 2147483648) (q2 : -2147483648 ≤ r ∧ r < 2147483648) : fn_ γ m_X7_isTarget 1 [.ref a, .int (i_ t), .int (i_ r)] σ (.int (if an_ (fun i => decide (pp_ p i 0 = t ∧ pp_ p i 3 = r)) (pN_ p) = true then 1 else 0)) σ :=
  fn_q (fun Q zQ => e_X7_isTarget zha zw (l_isTarget zha zw zR q1 q2 zQ (pN_ p) 0 (by omega) rfl))
theorem c_threads (zha : is_pg a) (zw : Wd σ) (zR : Rp_ σ a p) : fn_ γ m_X7_threads 0 [.ref a] σ (.int (i_ (pT_ p))) σ := fn_q (fun Q zQ => e_X7_threads zha zw (by unfold p_X7_threads_0; rw [zR.2.2.1]; exact zQ))
theorem c_locations (zha : is_pg a) (zw : Wd σ) (zR : Rp_ σ a p) : fn_ γ m_X7_locations 0 [.ref a] σ (.int (i_ (pL_ p))) σ := fn_q (fun Q zQ => e_X7_locations zha zw (by unfold p_X7_locations_0; rw [zR.2.2.2.1]; exact zQ))
theorem c_size (zha : is_pg a) (zw : Wd σ) (zR : Rp_ σ a p) : fn_ γ m_X7_size 0 [.ref a] σ (.int (i_ (pN_ p))) σ := fn_q (fun Q zQ => e_X7_size zha zw (by unfold p_X7_size_0; rw [zR.2.1]; exact zQ))
def cb_ (p : pr_T) : Nat := 2 * (2 * pT_ p + pL_ p)
theorem c_codeBits (zha : is_pg a) (zw : Wd σ) (zR : Rp_ σ a p) : fn_ γ m_X7_codeBits 0 [.ref a] σ (.int (i_ (cb_ p))) σ := fn_q (fun Q zQ => e_X7_codeBits zha zw (by
  unfold p_X7_codeBits_0
  rw [zR.2.2.1, zR.2.2.2.1]
  simp only [i_lit, i_mul, i_add]
  exact qi_ zQ (by unfold cb_; omega)))
theorem c_registerShift (zha : is_pg a) (zw : Wd σ) (zR : Rp_ σ a p) {t r : Int} : fn_ γ m_X7_registerShift 1 [.ref a, .int (i_ t), .int (i_ r)] σ (.int (i_ (cb_ p - 2 * (2 * t + r + 1)))) σ := fn_q (fun Q zQ => e_X7_registerShift zha zw (by
  unfold p_X7_registerShift_0
  refine ⟨_, _, zw, c_codeBits zha zw zR, ?_⟩
  simp only [i_lit, i_mul, i_add, i_sub]
  exact zQ))
theorem c_locationShift (zha : is_pg a) (zw : Wd σ) (zR : Rp_ σ a p) {l : Int} : fn_ γ m_X7_locationShift 0 [.ref a, .int (i_ l)] σ (.int (i_ (2 * (pL_ p - 1 - l)))) σ := fn_q (fun Q zQ => e_X7_locationShift zha zw (by
  unfold p_X7_locationShift_0
  rw [zR.2.2.2.1]
  simp only [i_lit, i_mul, i_add, i_sub]
  exact zQ))
/-- a gap lies before an instruction -/
def gb_ (p : pr_T) (i : Nat) : Bool := decide (0 < i ∧ pp_ p (i - 1) 0 = pp_ p i 0 ∧ pp_ p (i - 1) 1 ≠ 3 ∧ pp_ p i 1 ≠ 3)
theorem c_isGapBefore (zha : is_pg a) (zw : Wd σ) (zR : Rp_ σ a p) {i : Nat} (q1 : i < 100) : fn_ γ m_X7_isGapBefore 1 [.ref a, .int (i_ i)] σ (.int (if gb_ p i = true then 1 else 0)) σ := fn_q (fun Q zQ => e_X7_isGapBefore zha zw (by
  have b1 := pp_rng zR.1 i 0
  have b2 := pp_rng zR.1 i 1
  have b3 := pp_rng zR.1 ((i : Int) - 1) 0
  have b4 := pp_rng zR.1 ((i : Int) - 1) 1
  unfold p_X7_isGapBefore_0
  simp (disch := omega) only [i_lit, i_sub, i_le]
  refine ⟨fun z => ?_, fun z => ⟨_, _, zw, c_property zha zw zR (by omega) (by omega), _, _, zw, c_property zha zw zR (by omega) (by omega), ?_⟩⟩
  · rw [if_neg (by unfold gb_; simp; omega)] at zQ
    exact zQ
  · simp (disch := omega) only [i_eq]
    refine ⟨fun z2 => ⟨_, _, zw, c_property zha zw zR (by omega) (by omega), ?_⟩, fun z2 => ?_⟩
    · simp (disch := omega) only [i_eq]
      refine ⟨fun z3 => ?_, fun z3 => ⟨_, _, zw, c_property zha zw zR (by omega) (by omega), ?_⟩⟩
      · rw [if_neg (by unfold gb_; simp [z3])] at zQ
        exact zQ
      · simp (disch := omega) only [i_eq]
        refine ⟨fun z4 => ?_, fun z4 => ?_⟩
        · rw [if_neg (by unfold gb_; simp [z4])] at zQ
          exact zQ
        · rw [if_pos (by unfold gb_; simp [z2, z3, z4]; omega)] at zQ
          exact zQ
    · rw [if_neg (by unfold gb_; simp [z2])] at zQ
      exact zQ))
theorem l_gaps (zha : is_pg a) (zw : Wd σ) (zR : Rp_ σ a p) {Q : rs_T → st_T → Prop} (zQ : Q (.inl (some (.int (i_ (ct_ (gb_ p) (pN_ p)))))) σ) :
    ∀ k i : Nat, k + i = pN_ p → vv_ γ m_X7_gaps 2 4 [(0, .ref a), (1, .int (i_ (ct_ (gb_ p) i))), (2, .int (i_ i))] [] σ Q := by
  have r4 := zR.2.1
  have r1 := zR.1.1
  intro k
  induction k with
  | zero =>
    intro i zi
    have zi : i = pN_ p := by omega
    subst zi
    refine g_X7_gaps_4 zha zw ?_
    unfold p_X7_gaps_4
    rw [r4]
    exact ⟨fun _ => zQ, fun z => absurd (Int32.le_refl _) z⟩
  | succ k ih =>
    intro i zi
    have z2 := ih (i + 1) (by omega)
    rw [ct_] at z2
    refine g_X7_gaps_4 zha zw ?_
    unfold p_X7_gaps_4
    rw [r4]
    simp (disch := omega) only [i_le]
    refine ⟨fun z => by omega, fun _ => ⟨_, _, zw, c_isGapBefore zha zw zR (by omega), ?_⟩⟩
    by_cases z : gb_ p i = true
    · rw [if_pos z] at z2 ⊢
      simp (disch := omega) only [i_lit, i_eq, i_add]
      exact ⟨fun z3 => by omega, fun _ => z2⟩
    · rw [if_neg z] at z2 ⊢
      simp (disch := omega) only [i_lit, i_eq, i_add]
      exact ⟨fun _ => z2, fun z3 => absurd trivial z3⟩
theorem c_gaps (zha : is_pg a) (zw : Wd σ) (zR : Rp_ σ a p) : fn_ γ m_X7_gaps 2 [.ref a] σ (.int (i_ (ct_ (gb_ p) (pN_ p)))) σ :=
  fn_q (fun Q zQ => e_X7_gaps zha zw (l_gaps zha zw zR zQ (pN_ p) 0 (by omega)))
/-- the place that has so many before it: the z-th of the places below n at which f holds, from i on -/
def pl_ (f : Nat → Bool) (z : Int) : Nat → Nat → Int
  | 0, _ => -1
  | k + 1, i => if f i = true then (if z = 0 then i else pl_ f (z - 1) k (i + 1)) else pl_ f z k (i + 1)
theorem l_placeOfGap (zha : is_pg a) (zw : Wd σ) (zR : Rp_ σ a p) {g : Int} (q1 : -2147483648 ≤ g ∧ g < 2147483648) {Q : rs_T → st_T → Prop} :
    ∀ k i : Nat, k + i = pN_ p → ∀ c : Nat, c ≤ i → Q (.inl (some (.int (i_ (pl_ (gb_ p) (g - c) k i))))) σ → vv_ γ m_X7_placeOfGap 2 4 [(0, .ref a), (1, .int (i_ g)), (2, .int (i_ c)), (3, .int (i_ i))] [] σ Q := by
  have r4 := zR.2.1
  have r1 := zR.1.1
  intro k
  induction k with
  | zero =>
    intro i zi c zc zQ
    have zi : i = pN_ p := by omega
    subst zi
    refine g_X7_placeOfGap_4 zha zw ?_
    unfold p_X7_placeOfGap_4
    rw [r4]
    exact ⟨fun _ => zQ, fun z => absurd (Int32.le_refl _) z⟩
  | succ k ih =>
    intro i zi c zc zQ
    refine g_X7_placeOfGap_4 zha zw ?_
    unfold p_X7_placeOfGap_4
    rw [r4]
    simp (disch := omega) only [i_le]
    rw [pl_] at zQ
    refine ⟨fun z => by omega, fun _ => ⟨_, _, zw, c_isGapBefore zha zw zR (by omega), ?_⟩⟩
    by_cases z : gb_ p i = true
    · rw [if_pos z] at zQ ⊢
      simp (disch := omega) only [i_lit, i_eq, i_add]
      refine ⟨fun z3 => by omega, fun _ => ⟨fun z4 => ?_, fun z4 => ?_⟩⟩
      · rw [if_pos (by omega)] at zQ
        exact zQ
      · rw [if_neg (by omega)] at zQ
        refine ih (i + 1) (by omega) (c + 1) (by omega) ?_
        rw [show g - ((c + 1 : Nat) : Int) = g - c - 1 by omega]
        exact zQ
    · rw [if_neg z] at zQ ⊢
      simp (disch := omega) only [i_lit, i_eq, i_add]
      exact ⟨fun _ => ih (i + 1) (by omega) c (by omega) zQ, fun z3 => absurd trivial z3⟩
theorem c_placeOfGap (zha : is_pg a) (zw : Wd σ) (zR : Rp_ σ a p) {g : Int} (q1 : -2147483648 ≤ g ∧ g < 2147483648) : fn_ γ m_X7_placeOfGap 2 [.ref a, .int (i_ g)] σ (.int (i_ (pl_ (gb_ p) g (pN_ p) 0))) σ :=
  fn_q (fun Q zQ => e_X7_placeOfGap zha zw (l_placeOfGap zha zw zR q1 (pN_ p) 0 (by omega) 0 (by omega) (qi_ zQ (by rw [show g - ((0 : Nat) : Int) = g by omega]))))
end PG
