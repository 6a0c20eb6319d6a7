def p_X3_isKnown_0 (γ : ga_T) (a : Nat) (σ : st_T) (Q : rs_T → st_T → Prop) : Prop :=
  ((st_I σ a 4) = 0 ∨ (st_I σ a 4) = 1) ∧
  Q (.inl (some (.int (st_I σ a 4)))) σ
set_option maxRecDepth 10000 in
theorem g_X3_isKnown_0 {γ : ga_T} {a : Nat} {σ : st_T} {Q : rs_T → st_T → Prop} (zha : is_fi a) (zw : Wd σ) (zh : p_X3_isKnown_0 γ a σ Q) : vv_ γ m_X3_isKnown 0 0 [(0, .ref a)] [] σ Q := by
  unfold p_X3_isKnown_0 at zh
  refine vr_aload_n dX3_isKnown_0 rfl rfl ?_
  refine vr_getZ dX3_isKnown_1 fl_LitmusTester_Findings_26 (wC_fi zw zha) rfl ?_
  obtain ⟨zb_1, zh⟩ := zh
  exact vr_zret dX3_isKnown_4 rfl zb_1 zh
theorem e_X3_isKnown {γ : ga_T} {a : Nat} {σ : st_T} {Q : rs_T → st_T → Prop} (zha : is_fi a) (zw : Wd σ) (zh : p_X3_isKnown_0 γ a σ Q) : sp_ γ m_X3_isKnown 0 [.ref a] σ Q := sp_of (pl_X3_isKnown) rfl (Nat.le_of_ble_eq_true rfl) (g_X3_isKnown_0 zha zw zh)
def p_X3_forget_0 (γ : ga_T) (a : Nat) (σ : st_T) (Q : rs_T → st_T → Prop) : Prop :=
  ∃ s1, Wd s1 ∧ fw_ γ m_J7_fill_53178 0 [.ref (a + 3), .int (-1 : Int32)] (pt_I σ a 4 (0 : Int32)) s1 ∧
  Q (.inl none) s1
set_option maxRecDepth 10000 in
theorem g_X3_forget_0 {γ : ga_T} {a : Nat} {σ : st_T} {Q : rs_T → st_T → Prop} (zha : is_fi a) (zw : Wd σ) (zh : p_X3_forget_0 γ a σ Q) : vv_ γ m_X3_forget 1 0 [(0, .ref a)] [] σ Q := by
  unfold p_X3_forget_0 at zh
  refine vr_aload_n dX3_forget_0 rfl rfl ?_
  refine vr_iconst dX3_forget_1 (v := (0 : Int32)) (by decide) ?_
  refine vr_putZ dX3_forget_2 fl_LitmusTester_Findings_26 (wC_fi zw zha) rfl (fz_3_4) (Or.inl rfl) ?_
  refine vr_aload_n dX3_forget_5 rfl rfl ?_
  refine vr_getR dX3_forget_6 fl_LitmusTester_Findings_30 (wC_fi zw zha) (Or.inr ⟨_, rfl⟩) (wR_fi_5 zw zha) ?_
  refine vr_iconst dX3_forget_9 (v := (-1 : Int32)) (by decide) ?_
  obtain ⟨s1, zw1, zf_2, zh⟩ := zh
  refine vc_S (As := [.ref (a + 3), .int (-1 : Int32)]) (rest := []) dX3_forget_10 cS_LitmusTester_Findings_36 rfl rfl (Nat.le_of_ble_eq_true rfl) (Nat.le_of_ble_eq_true rfl) (co_v zf_2 ?_)
  replace zw := zw1
  exact vr_vret dX3_forget_13 rfl zh
theorem e_X3_forget {γ : ga_T} {a : Nat} {σ : st_T} {Q : rs_T → st_T → Prop} (zha : is_fi a) (zw : Wd σ) (zh : p_X3_forget_0 γ a σ Q) : sp_ γ m_X3_forget 1 [.ref a] σ Q := sp_of (pl_X3_forget) rfl (Nat.le_of_ble_eq_true rfl) (g_X3_forget_0 zha zw zh)
def p_X3_keepFenced_0 (γ : ga_T) (a : Nat) (l1 : Int32) (l2 : Int32) (l3 : Int32) (σ : st_T) (Q : rs_T → st_T → Prop) : Prop :=
  (l1 < (0 : Int32) →
    Q (.inl none) σ
  ) ∧ (¬ l1 < (0 : Int32) →
    ((64 : Int32) ≤ l1 →
      Q (.inl none) σ
    ) ∧ (¬ (64 : Int32) ≤ l1 →
      ((64 : Int32) ≤ l1 →
        Q (.inl none) σ
      ) ∧ (¬ (64 : Int32) ≤ l1 →
        vp_in l1 64 ∧
        vp_in l1 64 ∧
        Q (.inl none) (pt_I (pt_I σ (a + 3) l1.toNatClampNeg l2) (a + 4) l1.toNatClampNeg l3)
      )
    )
  )
set_option maxRecDepth 10000 in
theorem g_X3_keepFenced_0 {γ : ga_T} {a : Nat} {l1 : Int32} {l2 : Int32} {l3 : Int32} {σ : st_T} {Q : rs_T → st_T → Prop} (zha : is_fi a) (zw : Wd σ) (zh : p_X3_keepFenced_0 γ a l1 l2 l3 σ Q) : vv_ γ m_X3_keepFenced 0 0 [(0, .ref a), (1, .int l1), (2, .int l2), (3, .int l3)] [] σ Q := by
  unfold p_X3_keepFenced_0 at zh
  refine vr_iload_n dX3_keepFenced_0 rfl rfl ?_
  refine vr_if_lt dX3_keepFenced_1 (tgt := 36) rfl (fun zd_1 => ?_) (fun zd_1 => ?_)
  · replace zh := zh.1 zd_1
    exact vr_vret dX3_keepFenced_36 rfl zh
  · replace zh := zh.2 zd_1
    refine vr_iload_n dX3_keepFenced_4 rfl rfl ?_
    refine vr_aload_n dX3_keepFenced_5 rfl rfl ?_
    refine vr_getR dX3_keepFenced_6 fl_LitmusTester_Findings_30 (wC_fi zw zha) (Or.inr ⟨_, rfl⟩) (wR_fi_5 zw zha) ?_
    refine vr_alen dX3_keepFenced_9 (wS_fi3 zw zha) (Nat.le_of_ble_eq_true rfl) (Nat.le_of_ble_eq_true rfl) (v := (64 : Int32)) (by decide) ?_
    refine vr_ic_ge dX3_keepFenced_10 (tgt := 36) rfl (fun zd_2 => ?_) (fun zd_2 => ?_)
    · replace zh := zh.1 zd_2
      exact vr_vret dX3_keepFenced_36 rfl zh
    · replace zh := zh.2 zd_2
      refine vr_iload_n dX3_keepFenced_13 rfl rfl ?_
      refine vr_aload_n dX3_keepFenced_14 rfl rfl ?_
      refine vr_getR dX3_keepFenced_15 fl_LitmusTester_Findings_33 (wC_fi zw zha) (Or.inr ⟨_, rfl⟩) (wR_fi_6 zw zha) ?_
      refine vr_alen dX3_keepFenced_18 (wS_fi4 zw zha) (Nat.le_of_ble_eq_true rfl) (Nat.le_of_ble_eq_true rfl) (v := (64 : Int32)) (by decide) ?_
      refine vr_ic_ge dX3_keepFenced_19 (tgt := 36) rfl (fun zd_3 => ?_) (fun zd_3 => ?_)
      · replace zh := zh.1 zd_3
        exact vr_vret dX3_keepFenced_36 rfl zh
      · replace zh := zh.2 zd_3
        refine vr_aload_n dX3_keepFenced_22 rfl rfl ?_
        refine vr_getR dX3_keepFenced_23 fl_LitmusTester_Findings_30 (wC_fi zw zha) (Or.inr ⟨_, rfl⟩) (wR_fi_5 zw zha) ?_
        refine vr_iload_n dX3_keepFenced_26 rfl rfl ?_
        refine vr_iload_n dX3_keepFenced_27 rfl rfl ?_
        obtain ⟨zi_4, zh⟩ := zh
        refine vr_iastore dX3_keepFenced_28 (wS_fi3 zw zha) zi_4 ?_
        refine vr_aload_n dX3_keepFenced_29 rfl rfl ?_
        refine vr_getR dX3_keepFenced_30 fl_LitmusTester_Findings_33 (wC_fi zw zha) (Or.inr ⟨_, rfl⟩) (wR_fi_6 zw zha) ?_
        refine vr_iload_n dX3_keepFenced_33 rfl rfl ?_
        refine vr_iload_n dX3_keepFenced_34 rfl rfl ?_
        obtain ⟨zi_5, zh⟩ := zh
        refine vr_iastore dX3_keepFenced_35 (wS_fi4 zw zha) zi_5 ?_
        exact vr_vret dX3_keepFenced_36 rfl zh
theorem e_X3_keepFenced {γ : ga_T} {a : Nat} {l1 : Int32} {l2 : Int32} {l3 : Int32} {σ : st_T} {Q : rs_T → st_T → Prop} (zha : is_fi a) (zw : Wd σ) (zh : p_X3_keepFenced_0 γ a l1 l2 l3 σ Q) : sp_ γ m_X3_keepFenced 0 [.ref a, .int l1, .int l2, .int l3] σ Q := sp_of (pl_X3_keepFenced) rfl (Nat.le_of_ble_eq_true rfl) (g_X3_keepFenced_0 zha zw zh)
def p_X3_fencedOutcomes_0 (γ : ga_T) (a : Nat) (l1 : Int32) (σ : st_T) (Q : rs_T → st_T → Prop) : Prop :=
  (l1 < (0 : Int32) →
    Q (.inl (some (.int (-1 : Int32)))) σ
  ) ∧ (¬ l1 < (0 : Int32) →
    ((64 : Int32) ≤ l1 →
      Q (.inl (some (.int (-1 : Int32)))) σ
    ) ∧ (¬ (64 : Int32) ≤ l1 →
      vp_in l1 64 ∧
      Q (.inl (some (.int (st_I σ (a + 3) l1.toNatClampNeg)))) σ
    )
  )
set_option maxRecDepth 10000 in
theorem g_X3_fencedOutcomes_0 {γ : ga_T} {a : Nat} {l1 : Int32} {σ : st_T} {Q : rs_T → st_T → Prop} (zha : is_fi a) (zw : Wd σ) (zh : p_X3_fencedOutcomes_0 γ a l1 σ Q) : vv_ γ m_X3_fencedOutcomes 0 0 [(0, .ref a), (1, .int l1)] [] σ Q := by
  unfold p_X3_fencedOutcomes_0 at zh
  refine vr_iload_n dX3_fencedOutcomes_0 rfl rfl ?_
  refine vr_if_lt dX3_fencedOutcomes_1 (tgt := 22) rfl (fun zd_1 => ?_) (fun zd_1 => ?_)
  · replace zh := zh.1 zd_1
    refine vr_iconst dX3_fencedOutcomes_22 (v := (-1 : Int32)) (by decide) ?_
    exact vr_iret dX3_fencedOutcomes_23 rfl zh
  · replace zh := zh.2 zd_1
    refine vr_iload_n dX3_fencedOutcomes_4 rfl rfl ?_
    refine vr_aload_n dX3_fencedOutcomes_5 rfl rfl ?_
    refine vr_getR dX3_fencedOutcomes_6 fl_LitmusTester_Findings_30 (wC_fi zw zha) (Or.inr ⟨_, rfl⟩) (wR_fi_5 zw zha) ?_
    refine vr_alen dX3_fencedOutcomes_9 (wS_fi3 zw zha) (Nat.le_of_ble_eq_true rfl) (Nat.le_of_ble_eq_true rfl) (v := (64 : Int32)) (by decide) ?_
    refine vr_ic_ge dX3_fencedOutcomes_10 (tgt := 22) rfl (fun zd_2 => ?_) (fun zd_2 => ?_)
    · replace zh := zh.1 zd_2
      refine vr_iconst dX3_fencedOutcomes_22 (v := (-1 : Int32)) (by decide) ?_
      exact vr_iret dX3_fencedOutcomes_23 rfl zh
    · replace zh := zh.2 zd_2
      refine vr_aload_n dX3_fencedOutcomes_13 rfl rfl ?_
      refine vr_getR dX3_fencedOutcomes_14 fl_LitmusTester_Findings_30 (wC_fi zw zha) (Or.inr ⟨_, rfl⟩) (wR_fi_5 zw zha) ?_
      refine vr_iload_n dX3_fencedOutcomes_17 rfl rfl ?_
      obtain ⟨zi_3, zh⟩ := zh
      refine vr_iaload dX3_fencedOutcomes_18 (wS_fi3 zw zha) zi_3 ?_
      refine vr_goto dX3_fencedOutcomes_19 (tgt := 23) rfl ?_
      exact vr_iret dX3_fencedOutcomes_23 rfl zh
theorem e_X3_fencedOutcomes {γ : ga_T} {a : Nat} {l1 : Int32} {σ : st_T} {Q : rs_T → st_T → Prop} (zha : is_fi a) (zw : Wd σ) (zh : p_X3_fencedOutcomes_0 γ a l1 σ Q) : sp_ γ m_X3_fencedOutcomes 0 [.ref a, .int l1] σ Q := sp_of (pl_X3_fencedOutcomes) rfl (Nat.le_of_ble_eq_true rfl) (g_X3_fencedOutcomes_0 zha zw zh)
def p_X3_fencedMatches_0 (γ : ga_T) (a : Nat) (l1 : Int32) (σ : st_T) (Q : rs_T → st_T → Prop) : Prop :=
  (l1 < (0 : Int32) →
    Q (.inl (some (.int (-1 : Int32)))) σ
  ) ∧ (¬ l1 < (0 : Int32) →
    ((64 : Int32) ≤ l1 →
      Q (.inl (some (.int (-1 : Int32)))) σ
    ) ∧ (¬ (64 : Int32) ≤ l1 →
      vp_in l1 64 ∧
      Q (.inl (some (.int (st_I σ (a + 4) l1.toNatClampNeg)))) σ
    )
  )
set_option maxRecDepth 10000 in
theorem g_X3_fencedMatches_0 {γ : ga_T} {a : Nat} {l1 : Int32} {σ : st_T} {Q : rs_T → st_T → Prop} (zha : is_fi a) (zw : Wd σ) (zh : p_X3_fencedMatches_0 γ a l1 σ Q) : vv_ γ m_X3_fencedMatches 0 0 [(0, .ref a), (1, .int l1)] [] σ Q := by
  unfold p_X3_fencedMatches_0 at zh
  refine vr_iload_n dX3_fencedMatches_0 rfl rfl ?_
  refine vr_if_lt dX3_fencedMatches_1 (tgt := 22) rfl (fun zd_1 => ?_) (fun zd_1 => ?_)
  · replace zh := zh.1 zd_1
    refine vr_iconst dX3_fencedMatches_22 (v := (-1 : Int32)) (by decide) ?_
    exact vr_iret dX3_fencedMatches_23 rfl zh
  · replace zh := zh.2 zd_1
    refine vr_iload_n dX3_fencedMatches_4 rfl rfl ?_
    refine vr_aload_n dX3_fencedMatches_5 rfl rfl ?_
    refine vr_getR dX3_fencedMatches_6 fl_LitmusTester_Findings_33 (wC_fi zw zha) (Or.inr ⟨_, rfl⟩) (wR_fi_6 zw zha) ?_
    refine vr_alen dX3_fencedMatches_9 (wS_fi4 zw zha) (Nat.le_of_ble_eq_true rfl) (Nat.le_of_ble_eq_true rfl) (v := (64 : Int32)) (by decide) ?_
    refine vr_ic_ge dX3_fencedMatches_10 (tgt := 22) rfl (fun zd_2 => ?_) (fun zd_2 => ?_)
    · replace zh := zh.1 zd_2
      refine vr_iconst dX3_fencedMatches_22 (v := (-1 : Int32)) (by decide) ?_
      exact vr_iret dX3_fencedMatches_23 rfl zh
    · replace zh := zh.2 zd_2
      refine vr_aload_n dX3_fencedMatches_13 rfl rfl ?_
      refine vr_getR dX3_fencedMatches_14 fl_LitmusTester_Findings_33 (wC_fi zw zha) (Or.inr ⟨_, rfl⟩) (wR_fi_6 zw zha) ?_
      refine vr_iload_n dX3_fencedMatches_17 rfl rfl ?_
      obtain ⟨zi_3, zh⟩ := zh
      refine vr_iaload dX3_fencedMatches_18 (wS_fi4 zw zha) zi_3 ?_
      refine vr_goto dX3_fencedMatches_19 (tgt := 23) rfl ?_
      exact vr_iret dX3_fencedMatches_23 rfl zh
theorem e_X3_fencedMatches {γ : ga_T} {a : Nat} {l1 : Int32} {σ : st_T} {Q : rs_T → st_T → Prop} (zha : is_fi a) (zw : Wd σ) (zh : p_X3_fencedMatches_0 γ a l1 σ Q) : sp_ γ m_X3_fencedMatches 0 [.ref a, .int l1] σ Q := sp_of (pl_X3_fencedMatches) rfl (Nat.le_of_ble_eq_true rfl) (g_X3_fencedMatches_0 zha zw zh)
def p_X3_size_0 (γ : ga_T) (a : Nat) (σ : st_T) (Q : rs_T → st_T → Prop) : Prop :=
  Q (.inl (some (.int (st_I σ a 2)))) σ
set_option maxRecDepth 10000 in
theorem g_X3_size_0 {γ : ga_T} {a : Nat} {σ : st_T} {Q : rs_T → st_T → Prop} (zha : is_fi a) (zw : Wd σ) (zh : p_X3_size_0 γ a σ Q) : vv_ γ m_X3_size 0 0 [(0, .ref a)] [] σ Q := by
  unfold p_X3_size_0 at zh
  refine vr_aload_n dX3_size_0 rfl rfl ?_
  refine vr_getI dX3_size_1 fl_LitmusTester_Findings_19 (wC_fi zw zha) rfl ?_
  exact vr_iret dX3_size_4 rfl zh
theorem e_X3_size {γ : ga_T} {a : Nat} {σ : st_T} {Q : rs_T → st_T → Prop} (zha : is_fi a) (zw : Wd σ) (zh : p_X3_size_0 γ a σ Q) : sp_ γ m_X3_size 0 [.ref a] σ Q := sp_of (pl_X3_size) rfl (Nat.le_of_ble_eq_true rfl) (g_X3_size_0 zha zw zh)
def p_X3_states_0 (γ : ga_T) (a : Nat) (σ : st_T) (Q : rs_T → st_T → Prop) : Prop :=
  Q (.inl (some (.int (st_I σ a 3)))) σ
set_option maxRecDepth 10000 in
theorem g_X3_states_0 {γ : ga_T} {a : Nat} {σ : st_T} {Q : rs_T → st_T → Prop} (zha : is_fi a) (zw : Wd σ) (zh : p_X3_states_0 γ a σ Q) : vv_ γ m_X3_states 0 0 [(0, .ref a)] [] σ Q := by
  unfold p_X3_states_0 at zh
  refine vr_aload_n dX3_states_0 rfl rfl ?_
  refine vr_getI dX3_states_1 fl_LitmusTester_Findings_23 (wC_fi zw zha) rfl ?_
  exact vr_iret dX3_states_4 rfl zh
theorem e_X3_states {γ : ga_T} {a : Nat} {σ : st_T} {Q : rs_T → st_T → Prop} (zha : is_fi a) (zw : Wd σ) (zh : p_X3_states_0 γ a σ Q) : sp_ γ m_X3_states 0 [.ref a] σ Q := sp_of (pl_X3_states) rfl (Nat.le_of_ble_eq_true rfl) (g_X3_states_0 zha zw zh)
def p_X3_begin_0 (γ : ga_T) (a : Nat) (l1 : Int32) (l2 : Int32) (σ : st_T) (Q : rs_T → st_T → Prop) : Prop :=
  ∃ b1, st_R (pt_I (pt_I (pt_I σ a 2 (0 : Int32)) a 3 l2) a 4 (1 : Int32)) a 0 = some b1 ∧
  ∃ n3, st_S (pt_I (pt_I (pt_I σ a 2 (0 : Int32)) a 3 l2) a 4 (1 : Int32)) b1 = (21, n3) ∧
  ((Int32.ofNat n3) < l1 →
    ¬ ((2 : Int32) * l1) < 0 ∧ ∃ N8, ((2 : Int32) * l1).toNatClampNeg = N8 ∧ N8 * 4 ≤ 536870912 ∧
    ¬ ((2 : Int32) * l1) < 0 ∧ ∃ N15, ((2 : Int32) * l1).toNatClampNeg = N15 ∧ N15 * 8 ≤ 536870912 ∧
    Q (.inl none) (pt_R (pt_N (pt_R (pt_N (pt_I (pt_I (pt_I σ a 2 (0 : Int32)) a 3 l2) a 4 (1 : Int32)) 21 N8 N8) a 0 (some (st_n (pt_I (pt_I (pt_I σ a 2 (0 : Int32)) a 3 l2) a 4 (1 : Int32))))) 22 N15 N15) a 1 (some (st_n (pt_R (pt_N (pt_I (pt_I (pt_I σ a 2 (0 : Int32)) a 3 l2) a 4 (1 : Int32)) 21 N8 N8) a 0 (some (st_n (pt_I (pt_I (pt_I σ a 2 (0 : Int32)) a 3 l2) a 4 (1 : Int32))))))))
  ) ∧ (¬ (Int32.ofNat n3) < l1 →
    ∃ b20, st_R (pt_I (pt_I (pt_I σ a 2 (0 : Int32)) a 3 l2) a 4 (1 : Int32)) a 1 = some b20 ∧
    ∃ n22, st_S (pt_I (pt_I (pt_I σ a 2 (0 : Int32)) a 3 l2) a 4 (1 : Int32)) b20 = (22, n22) ∧
    (l1 ≤ (Int32.ofNat n22) →
      Q (.inl none) (pt_I (pt_I (pt_I σ a 2 (0 : Int32)) a 3 l2) a 4 (1 : Int32))
    ) ∧ (¬ l1 ≤ (Int32.ofNat n22) →
      ¬ ((2 : Int32) * l1) < 0 ∧ ∃ N27, ((2 : Int32) * l1).toNatClampNeg = N27 ∧ N27 * 4 ≤ 536870912 ∧
      ¬ ((2 : Int32) * l1) < 0 ∧ ∃ N34, ((2 : Int32) * l1).toNatClampNeg = N34 ∧ N34 * 8 ≤ 536870912 ∧
      Q (.inl none) (pt_R (pt_N (pt_R (pt_N (pt_I (pt_I (pt_I σ a 2 (0 : Int32)) a 3 l2) a 4 (1 : Int32)) 21 N27 N27) a 0 (some (st_n (pt_I (pt_I (pt_I σ a 2 (0 : Int32)) a 3 l2) a 4 (1 : Int32))))) 22 N34 N34) a 1 (some (st_n (pt_R (pt_N (pt_I (pt_I (pt_I σ a 2 (0 : Int32)) a 3 l2) a 4 (1 : Int32)) 21 N27 N27) a 0 (some (st_n (pt_I (pt_I (pt_I σ a 2 (0 : Int32)) a 3 l2) a 4 (1 : Int32))))))))
    )
  )
set_option maxRecDepth 10000 in
theorem g_X3_begin_0 {γ : ga_T} {a : Nat} {l1 : Int32} {l2 : Int32} {σ : st_T} {Q : rs_T → st_T → Prop} (zha : is_fi a) (zw : Wd σ) (zh : p_X3_begin_0 γ a l1 l2 σ Q) : vv_ γ m_X3_begin 0 0 [(0, .ref a), (1, .int l1), (2, .int l2)] [] σ Q := by
  unfold p_X3_begin_0 at zh
  refine vr_aload_n dX3_begin_0 rfl rfl ?_
  refine vr_iconst dX3_begin_1 (v := (0 : Int32)) (by decide) ?_
  refine vr_putI dX3_begin_2 fl_LitmusTester_Findings_19 (wC_fi zw zha) rfl (fz_3_2) ?_
  refine vr_aload_n dX3_begin_5 rfl rfl ?_
  refine vr_iload_n dX3_begin_6 rfl rfl ?_
  refine vr_putI dX3_begin_7 fl_LitmusTester_Findings_23 (wC_fi zw zha) rfl (fz_3_3) ?_
  refine vr_aload_n dX3_begin_10 rfl rfl ?_
  refine vr_iconst dX3_begin_11 (v := (1 : Int32)) (by decide) ?_
  refine vr_putZ dX3_begin_12 fl_LitmusTester_Findings_26 (wC_fi zw zha) rfl (fz_3_4) (Or.inr rfl) ?_
  refine vr_iload_n dX3_begin_15 rfl rfl ?_
  refine vr_aload_n dX3_begin_16 rfl rfl ?_
  obtain ⟨b1, zb_2, zh⟩ := zh
  refine vr_getR dX3_begin_17 fl_LitmusTester_Findings_11 (wC_fi zw zha) (Or.inr ⟨_, rfl⟩) zb_2 ?_
  obtain ⟨n3, zs_4, zh⟩ := zh
  refine vr_alen dX3_begin_20 zs_4 (Nat.le_of_ble_eq_true rfl) (Nat.le_of_ble_eq_true rfl) (v := (Int32.ofNat n3)) rfl ?_
  refine vr_ic_gt dX3_begin_21 (tgt := 33) rfl (fun zd_5 => ?_) (fun zd_5 => ?_)
  · replace zh := zh.1 zd_5
    refine vr_aload_n dX3_begin_33 rfl rfl ?_
    refine vr_iconst dX3_begin_34 (v := (2 : Int32)) (by decide) ?_
    refine vr_iload_n dX3_begin_35 rfl rfl ?_
    refine vr_imul dX3_begin_36 ?_
    obtain ⟨zn_6, N8, zN_9, zb_7, zh⟩ := zh
    refine vr_newI dX3_begin_37 tw_215 zn_6 zN_9 zb_7 ?_
    replace zw := Wd_N (κ := 21) (len := N8) (z := N8) zw
    replace zw : Wd (pt_N (pt_I (pt_I (pt_I σ a 2 (0 : Int32)) a 3 l2) a 4 (1 : Int32)) 21 N8 N8) := zw
    refine vr_putR dX3_begin_39 fl_LitmusTester_Findings_11 (wC_fi zw zha) (Or.inr ⟨_, rfl⟩) (fun q e => Or.inl (fz_3_0 q e)) ?_
    replace zw := Wd_R (v := some (st_n (pt_I (pt_I (pt_I σ a 2 (0 : Int32)) a 3 l2) a 4 (1 : Int32)))) zw (wN_fi_0 zha)
    replace zw : Wd (pt_R (pt_N (pt_I (pt_I (pt_I σ a 2 (0 : Int32)) a 3 l2) a 4 (1 : Int32)) 21 N8 N8) a 0 (some (st_n (pt_I (pt_I (pt_I σ a 2 (0 : Int32)) a 3 l2) a 4 (1 : Int32))))) := zw
    refine vr_aload_n dX3_begin_42 rfl rfl ?_
    refine vr_iconst dX3_begin_43 (v := (2 : Int32)) (by decide) ?_
    refine vr_iload_n dX3_begin_44 rfl rfl ?_
    refine vr_imul dX3_begin_45 ?_
    obtain ⟨zn_13, N15, zN_16, zb_14, zh⟩ := zh
    refine vr_newJ dX3_begin_46 tw_214 zn_13 zN_16 zb_14 ?_
    replace zw := Wd_N (κ := 22) (len := N15) (z := N15) zw
    replace zw : Wd (pt_N (pt_R (pt_N (pt_I (pt_I (pt_I σ a 2 (0 : Int32)) a 3 l2) a 4 (1 : Int32)) 21 N8 N8) a 0 (some (st_n (pt_I (pt_I (pt_I σ a 2 (0 : Int32)) a 3 l2) a 4 (1 : Int32))))) 22 N15 N15) := zw
    refine vr_putR dX3_begin_48 fl_LitmusTester_Findings_15 (wC_fi zw zha) (Or.inr ⟨_, rfl⟩) (fun q e => Or.inl (fz_3_1 q e)) ?_
    replace zw := Wd_R (v := some (st_n (pt_R (pt_N (pt_I (pt_I (pt_I σ a 2 (0 : Int32)) a 3 l2) a 4 (1 : Int32)) 21 N8 N8) a 0 (some (st_n (pt_I (pt_I (pt_I σ a 2 (0 : Int32)) a 3 l2) a 4 (1 : Int32))))))) zw (wN_fi_1 zha)
    replace zw : Wd (pt_R (pt_N (pt_R (pt_N (pt_I (pt_I (pt_I σ a 2 (0 : Int32)) a 3 l2) a 4 (1 : Int32)) 21 N8 N8) a 0 (some (st_n (pt_I (pt_I (pt_I σ a 2 (0 : Int32)) a 3 l2) a 4 (1 : Int32))))) 22 N15 N15) a 1 (some (st_n (pt_R (pt_N (pt_I (pt_I (pt_I σ a 2 (0 : Int32)) a 3 l2) a 4 (1 : Int32)) 21 N8 N8) a 0 (some (st_n (pt_I (pt_I (pt_I σ a 2 (0 : Int32)) a 3 l2) a 4 (1 : Int32)))))))) := zw
    exact vr_vret dX3_begin_51 rfl zh
  · replace zh := zh.2 zd_5
    refine vr_iload_n dX3_begin_24 rfl rfl ?_
    refine vr_aload_n dX3_begin_25 rfl rfl ?_
    obtain ⟨b20, zb_21, zh⟩ := zh
    refine vr_getR dX3_begin_26 fl_LitmusTester_Findings_15 (wC_fi zw zha) (Or.inr ⟨_, rfl⟩) zb_21 ?_
    obtain ⟨n22, zs_23, zh⟩ := zh
    refine vr_alen dX3_begin_29 zs_23 (Nat.le_of_ble_eq_true rfl) (Nat.le_of_ble_eq_true rfl) (v := (Int32.ofNat n22)) rfl ?_
    refine vr_ic_le dX3_begin_30 (tgt := 51) rfl (fun zd_24 => ?_) (fun zd_24 => ?_)
    · replace zh := zh.1 zd_24
      exact vr_vret dX3_begin_51 rfl zh
    · replace zh := zh.2 zd_24
      refine vr_aload_n dX3_begin_33 rfl rfl ?_
      refine vr_iconst dX3_begin_34 (v := (2 : Int32)) (by decide) ?_
      refine vr_iload_n dX3_begin_35 rfl rfl ?_
      refine vr_imul dX3_begin_36 ?_
      obtain ⟨zn_25, N27, zN_28, zb_26, zh⟩ := zh
      refine vr_newI dX3_begin_37 tw_215 zn_25 zN_28 zb_26 ?_
      replace zw := Wd_N (κ := 21) (len := N27) (z := N27) zw
      replace zw : Wd (pt_N (pt_I (pt_I (pt_I σ a 2 (0 : Int32)) a 3 l2) a 4 (1 : Int32)) 21 N27 N27) := zw
      refine vr_putR dX3_begin_39 fl_LitmusTester_Findings_11 (wC_fi zw zha) (Or.inr ⟨_, rfl⟩) (fun q e => Or.inl (fz_3_0 q e)) ?_
      replace zw := Wd_R (v := some (st_n (pt_I (pt_I (pt_I σ a 2 (0 : Int32)) a 3 l2) a 4 (1 : Int32)))) zw (wN_fi_0 zha)
      replace zw : Wd (pt_R (pt_N (pt_I (pt_I (pt_I σ a 2 (0 : Int32)) a 3 l2) a 4 (1 : Int32)) 21 N27 N27) a 0 (some (st_n (pt_I (pt_I (pt_I σ a 2 (0 : Int32)) a 3 l2) a 4 (1 : Int32))))) := zw
      refine vr_aload_n dX3_begin_42 rfl rfl ?_
      refine vr_iconst dX3_begin_43 (v := (2 : Int32)) (by decide) ?_
      refine vr_iload_n dX3_begin_44 rfl rfl ?_
      refine vr_imul dX3_begin_45 ?_
      obtain ⟨zn_32, N34, zN_35, zb_33, zh⟩ := zh
      refine vr_newJ dX3_begin_46 tw_214 zn_32 zN_35 zb_33 ?_
      replace zw := Wd_N (κ := 22) (len := N34) (z := N34) zw
      replace zw : Wd (pt_N (pt_R (pt_N (pt_I (pt_I (pt_I σ a 2 (0 : Int32)) a 3 l2) a 4 (1 : Int32)) 21 N27 N27) a 0 (some (st_n (pt_I (pt_I (pt_I σ a 2 (0 : Int32)) a 3 l2) a 4 (1 : Int32))))) 22 N34 N34) := zw
      refine vr_putR dX3_begin_48 fl_LitmusTester_Findings_15 (wC_fi zw zha) (Or.inr ⟨_, rfl⟩) (fun q e => Or.inl (fz_3_1 q e)) ?_
      replace zw := Wd_R (v := some (st_n (pt_R (pt_N (pt_I (pt_I (pt_I σ a 2 (0 : Int32)) a 3 l2) a 4 (1 : Int32)) 21 N27 N27) a 0 (some (st_n (pt_I (pt_I (pt_I σ a 2 (0 : Int32)) a 3 l2) a 4 (1 : Int32))))))) zw (wN_fi_1 zha)
      replace zw : Wd (pt_R (pt_N (pt_R (pt_N (pt_I (pt_I (pt_I σ a 2 (0 : Int32)) a 3 l2) a 4 (1 : Int32)) 21 N27 N27) a 0 (some (st_n (pt_I (pt_I (pt_I σ a 2 (0 : Int32)) a 3 l2) a 4 (1 : Int32))))) 22 N34 N34) a 1 (some (st_n (pt_R (pt_N (pt_I (pt_I (pt_I σ a 2 (0 : Int32)) a 3 l2) a 4 (1 : Int32)) 21 N27 N27) a 0 (some (st_n (pt_I (pt_I (pt_I σ a 2 (0 : Int32)) a 3 l2) a 4 (1 : Int32)))))))) := zw
      exact vr_vret dX3_begin_51 rfl zh
theorem e_X3_begin {γ : ga_T} {a : Nat} {l1 : Int32} {l2 : Int32} {σ : st_T} {Q : rs_T → st_T → Prop} (zha : is_fi a) (zw : Wd σ) (zh : p_X3_begin_0 γ a l1 l2 σ Q) : sp_ γ m_X3_begin 0 [.ref a, .int l1, .int l2] σ Q := sp_of (pl_X3_begin) rfl (Nat.le_of_ble_eq_true rfl) (g_X3_begin_0 zha zw zh)
def p_X3_add_0 (γ : ga_T) (a : Nat) (l1 : Int32) (l2 : Int64) (σ : st_T) (Q : rs_T → st_T → Prop) : Prop :=
  ∃ b1, st_R σ a 0 = some b1 ∧
  ∃ n3, st_S σ b1 = (21, n3) ∧
  ((Int32.ofNat n3) ≤ (st_I σ a 2) →
    Q (.inl none) σ
  ) ∧ (¬ (Int32.ofNat n3) ≤ (st_I σ a 2) →
    ∃ b6, st_R σ a 1 = some b6 ∧
    ∃ n8, st_S σ b6 = (22, n8) ∧
    ((Int32.ofNat n8) ≤ (st_I σ a 2) →
      Q (.inl none) σ
    ) ∧ (¬ (Int32.ofNat n8) ≤ (st_I σ a 2) →
      vp_in (st_I σ a 2) n3 ∧
      vp_in (st_I (pt_I σ b1 (st_I σ a 2).toNatClampNeg l1) a 2) n8 ∧
      Q (.inl none) (pt_I (pt_L (pt_I σ b1 (st_I σ a 2).toNatClampNeg l1) b6 (st_I (pt_I σ b1 (st_I σ a 2).toNatClampNeg l1) a 2).toNatClampNeg l2) a 2 ((st_I (pt_I σ b1 (st_I σ a 2).toNatClampNeg l1) a 2) + (1 : Int32)))
    )
  )
set_option maxRecDepth 10000 in
theorem g_X3_add_0 {γ : ga_T} {a : Nat} {l1 : Int32} {l2 : Int64} {σ : st_T} {Q : rs_T → st_T → Prop} (zha : is_fi a) (zw : Wd σ) (zh : p_X3_add_0 γ a l1 l2 σ Q) : vv_ γ m_X3_add 0 0 [(0, .ref a), (1, .int l1), (2, .long l2)] [] σ Q := by
  unfold p_X3_add_0 at zh
  refine vr_aload_n dX3_add_0 rfl rfl ?_
  refine vr_getI dX3_add_1 fl_LitmusTester_Findings_19 (wC_fi zw zha) rfl ?_
  refine vr_aload_n dX3_add_4 rfl rfl ?_
  obtain ⟨b1, zb_2, zh⟩ := zh
  refine vr_getR dX3_add_5 fl_LitmusTester_Findings_11 (wC_fi zw zha) (Or.inr ⟨_, rfl⟩) zb_2 ?_
  obtain ⟨n3, zs_4, zh⟩ := zh
  refine vr_alen dX3_add_8 zs_4 (Nat.le_of_ble_eq_true rfl) (Nat.le_of_ble_eq_true rfl) (v := (Int32.ofNat n3)) rfl ?_
  refine vr_ic_ge dX3_add_9 (tgt := 54) rfl (fun zd_5 => ?_) (fun zd_5 => ?_)
  · replace zh := zh.1 zd_5
    exact vr_vret dX3_add_54 rfl zh
  · replace zh := zh.2 zd_5
    refine vr_aload_n dX3_add_12 rfl rfl ?_
    refine vr_getI dX3_add_13 fl_LitmusTester_Findings_19 (wC_fi zw zha) rfl ?_
    refine vr_aload_n dX3_add_16 rfl rfl ?_
    obtain ⟨b6, zb_7, zh⟩ := zh
    refine vr_getR dX3_add_17 fl_LitmusTester_Findings_15 (wC_fi zw zha) (Or.inr ⟨_, rfl⟩) zb_7 ?_
    obtain ⟨n8, zs_9, zh⟩ := zh
    refine vr_alen dX3_add_20 zs_9 (Nat.le_of_ble_eq_true rfl) (Nat.le_of_ble_eq_true rfl) (v := (Int32.ofNat n8)) rfl ?_
    refine vr_ic_ge dX3_add_21 (tgt := 54) rfl (fun zd_10 => ?_) (fun zd_10 => ?_)
    · replace zh := zh.1 zd_10
      exact vr_vret dX3_add_54 rfl zh
    · replace zh := zh.2 zd_10
      refine vr_aload_n dX3_add_24 rfl rfl ?_
      refine vr_getR dX3_add_25 fl_LitmusTester_Findings_11 (wC_fi zw zha) (Or.inr ⟨_, rfl⟩) zb_2 ?_
      refine vr_aload_n dX3_add_28 rfl rfl ?_
      refine vr_getI dX3_add_29 fl_LitmusTester_Findings_19 (wC_fi zw zha) rfl ?_
      refine vr_iload_n dX3_add_32 rfl rfl ?_
      obtain ⟨zi_11, zh⟩ := zh
      refine vr_iastore dX3_add_33 zs_4 zi_11 ?_
      refine vr_aload_n dX3_add_34 rfl rfl ?_
      refine vr_getR dX3_add_35 fl_LitmusTester_Findings_15 (wC_fi zw zha) (Or.inr ⟨_, rfl⟩) zb_7 ?_
      refine vr_aload_n dX3_add_38 rfl rfl ?_
      refine vr_getI dX3_add_39 fl_LitmusTester_Findings_19 (wC_fi zw zha) rfl ?_
      refine vr_lload_n dX3_add_42 rfl rfl ?_
      obtain ⟨zi_12, zh⟩ := zh
      refine vr_lastore dX3_add_43 zs_9 zi_12 ?_
      refine vr_aload_n dX3_add_44 rfl rfl ?_
      refine vr_dup dX3_add_45 rfl ?_
      refine vr_getI dX3_add_46 fl_LitmusTester_Findings_19 (wC_fi zw zha) rfl ?_
      refine vv_top (w := .int (st_I (pt_I σ b1 (st_I σ a 2).toNatClampNeg l1) a 2)) rfl ?_
      refine vr_iconst dX3_add_49 (v := (1 : Int32)) (by decide) ?_
      refine vr_iadd dX3_add_50 ?_
      refine vr_putI dX3_add_51 fl_LitmusTester_Findings_19 (wC_fi zw zha) rfl (fz_3_2) ?_
      exact vr_vret dX3_add_54 rfl zh
theorem e_X3_add {γ : ga_T} {a : Nat} {l1 : Int32} {l2 : Int64} {σ : st_T} {Q : rs_T → st_T → Prop} (zha : is_fi a) (zw : Wd σ) (zh : p_X3_add_0 γ a l1 l2 σ Q) : sp_ γ m_X3_add 0 [.ref a, .int l1, .long l2] σ Q := sp_of (pl_X3_add) rfl (Nat.le_of_ble_eq_true rfl) (g_X3_add_0 zha zw zh)
def p_X3_sort_0 (γ : ga_T) (a : Nat) (σ : st_T) (Q : rs_T → st_T → Prop) : Prop :=
  ∃ b1, st_R σ a 0 = some b1 ∧
  ∃ n3, st_S σ b1 = (21, n3) ∧
  ∃ b5, st_R σ a 1 = some b5 ∧
  ∃ n7, st_S σ b5 = (22, n7) ∧
  vv_ γ m_X3_sort 1 25 [(0, .ref a), (1, .int (if (if (Int32.ofNat n7) < (Int32.ofNat n3) then (Int32.ofNat n7) else (Int32.ofNat n3)) < (st_I σ a 2) then (if (Int32.ofNat n7) < (Int32.ofNat n3) then (Int32.ofNat n7) else (Int32.ofNat n3)) else (st_I σ a 2))), (2, .int ((if (if (Int32.ofNat n7) < (Int32.ofNat n3) then (Int32.ofNat n7) else (Int32.ofNat n3)) < (st_I σ a 2) then (if (Int32.ofNat n7) < (Int32.ofNat n3) then (Int32.ofNat n7) else (Int32.ofNat n3)) else (st_I σ a 2)) / (2 : Int32)))] [] σ Q
set_option maxRecDepth 10000 in
theorem g_X3_sort_0 {γ : ga_T} {a : Nat} {σ : st_T} {Q : rs_T → st_T → Prop} (zha : is_fi a) (zw : Wd σ) (zh : p_X3_sort_0 γ a σ Q) : vv_ γ m_X3_sort 1 0 [(0, .ref a)] [] σ Q := by
  unfold p_X3_sort_0 at zh
  refine vr_aload_n dX3_sort_0 rfl rfl ?_
  refine vr_getI dX3_sort_1 fl_LitmusTester_Findings_19 (wC_fi zw zha) rfl ?_
  refine vr_aload_n dX3_sort_4 rfl rfl ?_
  obtain ⟨b1, zb_2, zh⟩ := zh
  refine vr_getR dX3_sort_5 fl_LitmusTester_Findings_11 (wC_fi zw zha) (Or.inr ⟨_, rfl⟩) zb_2 ?_
  obtain ⟨n3, zs_4, zh⟩ := zh
  refine vr_alen dX3_sort_8 zs_4 (Nat.le_of_ble_eq_true rfl) (Nat.le_of_ble_eq_true rfl) (v := (Int32.ofNat n3)) rfl ?_
  refine vr_aload_n dX3_sort_9 rfl rfl ?_
  obtain ⟨b5, zb_6, zh⟩ := zh
  refine vr_getR dX3_sort_10 fl_LitmusTester_Findings_15 (wC_fi zw zha) (Or.inr ⟨_, rfl⟩) zb_6 ?_
  obtain ⟨n7, zs_8, zh⟩ := zh
  refine vr_alen dX3_sort_13 zs_8 (Nat.le_of_ble_eq_true rfl) (Nat.le_of_ble_eq_true rfl) (v := (Int32.ofNat n7)) rfl ?_
  refine vr_mmin dX3_sort_14 mm_LitmusTester_Findings_42 (Nat.le_of_ble_eq_true rfl) (Nat.le_of_ble_eq_true rfl) ?_
  refine vr_mmin dX3_sort_17 mm_LitmusTester_Findings_42 (Nat.le_of_ble_eq_true rfl) (Nat.le_of_ble_eq_true rfl) ?_
  refine vr_istore_n dX3_sort_20 rfl (Nat.le_of_ble_eq_true rfl) (vv_eq (ls' := [(0, .ref a), (1, .int (if (if (Int32.ofNat n7) < (Int32.ofNat n3) then (Int32.ofNat n7) else (Int32.ofNat n3)) < (st_I σ a 2) then (if (Int32.ofNat n7) < (Int32.ofNat n3) then (Int32.ofNat n7) else (Int32.ofNat n3)) else (st_I σ a 2)))]) rfl ?_)
  refine vr_iload_n dX3_sort_21 rfl rfl ?_
  refine vr_iconst dX3_sort_22 (v := (2 : Int32)) (by decide) ?_
  refine vr_idiv dX3_sort_23 (by decide) ?_
  refine vr_istore_n dX3_sort_24 rfl (Nat.le_of_ble_eq_true rfl) (vv_eq (ls' := [(0, .ref a), (1, .int (if (if (Int32.ofNat n7) < (Int32.ofNat n3) then (Int32.ofNat n7) else (Int32.ofNat n3)) < (st_I σ a 2) then (if (Int32.ofNat n7) < (Int32.ofNat n3) then (Int32.ofNat n7) else (Int32.ofNat n3)) else (st_I σ a 2))), (2, .int ((if (if (Int32.ofNat n7) < (Int32.ofNat n3) then (Int32.ofNat n7) else (Int32.ofNat n3)) < (st_I σ a 2) then (if (Int32.ofNat n7) < (Int32.ofNat n3) then (Int32.ofNat n7) else (Int32.ofNat n3)) else (st_I σ a 2)) / (2 : Int32)))]) rfl ?_)
  exact vv_sub (ls' := [(0, .ref a), (1, .int (if (if (Int32.ofNat n7) < (Int32.ofNat n3) then (Int32.ofNat n7) else (Int32.ofNat n3)) < (st_I σ a 2) then (if (Int32.ofNat n7) < (Int32.ofNat n3) then (Int32.ofNat n7) else (Int32.ofNat n3)) else (st_I σ a 2))), (2, .int ((if (if (Int32.ofNat n7) < (Int32.ofNat n3) then (Int32.ofNat n7) else (Int32.ofNat n3)) < (st_I σ a 2) then (if (Int32.ofNat n7) < (Int32.ofNat n3) then (Int32.ofNat n7) else (Int32.ofNat n3)) else (st_I σ a 2)) / (2 : Int32)))]) ⟨rfl, rfl, rfl, trivial⟩ zh
theorem e_X3_sort {γ : ga_T} {a : Nat} {σ : st_T} {Q : rs_T → st_T → Prop} (zha : is_fi a) (zw : Wd σ) (zh : p_X3_sort_0 γ a σ Q) : sp_ γ m_X3_sort 1 [.ref a] σ Q := sp_of (pl_X3_sort) rfl (Nat.le_of_ble_eq_true rfl) (g_X3_sort_0 zha zw zh)
def p_X3_sort_25 (γ : ga_T) (a : Nat) (l1 : Int32) (l2 : Int32) (σ : st_T) (Q : rs_T → st_T → Prop) : Prop :=
  (l2 ≤ (0 : Int32) →
    Q (.inl none) σ
  ) ∧ (¬ l2 ≤ (0 : Int32) →
    vv_ γ m_X3_sort 1 31 [(0, .ref a), (1, .int l1), (2, .int l2), (3, .int l2)] [] σ Q
  )
set_option maxRecDepth 10000 in
theorem g_X3_sort_25 {γ : ga_T} {a : Nat} {l1 : Int32} {l2 : Int32} {σ : st_T} {Q : rs_T → st_T → Prop} (zha : is_fi a) (zw : Wd σ) (zh : p_X3_sort_25 γ a l1 l2 σ Q) : vv_ γ m_X3_sort 1 25 [(0, .ref a), (1, .int l1), (2, .int l2)] [] σ Q := by
  unfold p_X3_sort_25 at zh
  refine vr_iload_n dX3_sort_25 rfl rfl ?_
  refine vr_if_le dX3_sort_26 (tgt := 147) rfl (fun zd_1 => ?_) (fun zd_1 => ?_)
  · replace zh := zh.1 zd_1
    exact vr_vret dX3_sort_147 rfl zh
  · replace zh := zh.2 zd_1
    refine vr_iload_n dX3_sort_29 rfl rfl ?_
    refine vr_istore_n dX3_sort_30 rfl (Nat.le_of_ble_eq_true rfl) (vv_eq (ls' := [(0, .ref a), (1, .int l1), (2, .int l2), (3, .int l2)]) rfl ?_)
    exact vv_sub (ls' := [(0, .ref a), (1, .int l1), (2, .int l2), (3, .int l2)]) ⟨rfl, rfl, rfl, rfl, trivial⟩ zh
def p_X3_sort_31 (γ : ga_T) (a : Nat) (l1 : Int32) (l2 : Int32) (l3 : Int32) (σ : st_T) (Q : rs_T → st_T → Prop) : Prop :=
  (l1 ≤ l3 →
    vv_ γ m_X3_sort 1 25 [(0, .ref a), (1, .int l1), (2, .int (l2 / (2 : Int32)))] [] σ Q
  ) ∧ (¬ l1 ≤ l3 →
    ∃ b2, st_R σ a 0 = some b2 ∧
    ∃ n4, st_S σ b2 = (21, n4) ∧
    vp_in l3 n4 ∧
    ∃ b7, st_R σ a 1 = some b7 ∧
    ∃ n9, st_S σ b7 = (22, n9) ∧
    vp_in l3 n9 ∧
    vv_ γ m_X3_sort 1 55 [(0, .ref a), (1, .int l1), (2, .int l2), (3, .int l3), (4, .int (st_I σ b2 l3.toNatClampNeg)), (5, .long (st_L σ b7 l3.toNatClampNeg)), (7, .int l3)] [] σ Q
  )
set_option maxRecDepth 10000 in
theorem g_X3_sort_31 {γ : ga_T} {a : Nat} {l1 : Int32} {l2 : Int32} {l3 : Int32} {σ : st_T} {Q : rs_T → st_T → Prop} (zha : is_fi a) (zw : Wd σ) (zh : p_X3_sort_31 γ a l1 l2 l3 σ Q) : vv_ γ m_X3_sort 1 31 [(0, .ref a), (1, .int l1), (2, .int l2), (3, .int l3)] [] σ Q := by
  unfold p_X3_sort_31 at zh
  refine vr_iload_n dX3_sort_31 rfl rfl ?_
  refine vr_iload_n dX3_sort_32 rfl rfl ?_
  refine vr_ic_ge dX3_sort_33 (tgt := 140) rfl (fun zd_1 => ?_) (fun zd_1 => ?_)
  · replace zh := zh.1 zd_1
    refine vr_iload_n dX3_sort_140 rfl rfl ?_
    refine vr_iconst dX3_sort_141 (v := (2 : Int32)) (by decide) ?_
    refine vr_idiv dX3_sort_142 (by decide) ?_
    refine vr_istore_n dX3_sort_143 rfl (Nat.le_of_ble_eq_true rfl) (vv_eq (ls' := [(0, .ref a), (1, .int l1), (2, .int (l2 / (2 : Int32))), (3, .int l3)]) rfl ?_)
    refine vr_goto dX3_sort_144 (tgt := 25) rfl ?_
    exact vv_sub (ls' := [(0, .ref a), (1, .int l1), (2, .int (l2 / (2 : Int32)))]) ⟨rfl, rfl, rfl, trivial⟩ zh
  · replace zh := zh.2 zd_1
    refine vr_aload_n dX3_sort_36 rfl rfl ?_
    obtain ⟨b2, zb_3, zh⟩ := zh
    refine vr_getR dX3_sort_37 fl_LitmusTester_Findings_11 (wC_fi zw zha) (Or.inr ⟨_, rfl⟩) zb_3 ?_
    refine vr_iload_n dX3_sort_40 rfl rfl ?_
    obtain ⟨n4, zs_5, zh⟩ := zh
    obtain ⟨zi_6, zh⟩ := zh
    refine vr_iaload dX3_sort_41 zs_5 zi_6 ?_
    refine vr_istore dX3_sort_42 (Nat.le_of_ble_eq_true rfl) (vv_eq (ls' := [(0, .ref a), (1, .int l1), (2, .int l2), (3, .int l3), (4, .int (st_I σ b2 l3.toNatClampNeg))]) rfl ?_)
    refine vr_aload_n dX3_sort_44 rfl rfl ?_
    obtain ⟨b7, zb_8, zh⟩ := zh
    refine vr_getR dX3_sort_45 fl_LitmusTester_Findings_15 (wC_fi zw zha) (Or.inr ⟨_, rfl⟩) zb_8 ?_
    refine vr_iload_n dX3_sort_48 rfl rfl ?_
    obtain ⟨n9, zs_10, zh⟩ := zh
    obtain ⟨zi_11, zh⟩ := zh
    refine vr_laload dX3_sort_49 zs_10 zi_11 ?_
    refine vr_lstore dX3_sort_50 (Nat.le_of_ble_eq_true rfl) (vv_eq (ls' := [(0, .ref a), (1, .int l1), (2, .int l2), (3, .int l3), (4, .int (st_I σ b2 l3.toNatClampNeg)), (5, .long (st_L σ b7 l3.toNatClampNeg))]) rfl ?_)
    refine vr_iload_n dX3_sort_52 rfl rfl ?_
    refine vr_istore dX3_sort_53 (Nat.le_of_ble_eq_true rfl) (vv_eq (ls' := [(0, .ref a), (1, .int l1), (2, .int l2), (3, .int l3), (4, .int (st_I σ b2 l3.toNatClampNeg)), (5, .long (st_L σ b7 l3.toNatClampNeg)), (7, .int l3)]) rfl ?_)
    exact vv_sub (ls' := [(0, .ref a), (1, .int l1), (2, .int l2), (3, .int l3), (4, .int (st_I σ b2 l3.toNatClampNeg)), (5, .long (st_L σ b7 l3.toNatClampNeg)), (7, .int l3)]) ⟨rfl, rfl, rfl, rfl, rfl, rfl, rfl, trivial⟩ zh
def p_X3_sort_55 (γ : ga_T) (a : Nat) (l1 : Int32) (l2 : Int32) (l3 : Int32) (l4 : Int32) (l5 : Int64) (l7 : Int32) (σ : st_T) (Q : rs_T → st_T → Prop) : Prop :=
  (l7 < l2 →
    ∃ b2, st_R σ a 0 = some b2 ∧
    ∃ n4, st_S σ b2 = (21, n4) ∧
    vp_in l7 n4 ∧
    ∃ b7, st_R (pt_I σ b2 l7.toNatClampNeg l4) a 1 = some b7 ∧
    ∃ n9, st_S (pt_I σ b2 l7.toNatClampNeg l4) b7 = (22, n9) ∧
    vp_in l7 n9 ∧
    vv_ γ m_X3_sort 1 31 [(0, .ref a), (1, .int l1), (2, .int l2), (3, .int (l3 + 1))] [] (pt_L (pt_I σ b2 l7.toNatClampNeg l4) b7 l7.toNatClampNeg l5) Q
  ) ∧ (¬ l7 < l2 →
    ∃ b12, st_R σ a 0 = some b12 ∧
    ∃ n14, st_S σ b12 = (21, n14) ∧
    vp_in (l7 - l2) n14 ∧
    ((st_I σ b12 (l7 - l2).toNatClampNeg) ≤ l4 →
      vp_in l7 n14 ∧
      ∃ b19, st_R (pt_I σ b12 l7.toNatClampNeg l4) a 1 = some b19 ∧
      ∃ n21, st_S (pt_I σ b12 l7.toNatClampNeg l4) b19 = (22, n21) ∧
      vp_in l7 n21 ∧
      vv_ γ m_X3_sort 1 31 [(0, .ref a), (1, .int l1), (2, .int l2), (3, .int (l3 + 1))] [] (pt_L (pt_I σ b12 l7.toNatClampNeg l4) b19 l7.toNatClampNeg l5) Q
    ) ∧ (¬ (st_I σ b12 (l7 - l2).toNatClampNeg) ≤ l4 →
      vp_in (l7 - l2) n14 ∧
      vp_in l7 n14 ∧
      ∃ b26, st_R (pt_I σ b12 l7.toNatClampNeg (st_I σ b12 (l7 - l2).toNatClampNeg)) a 1 = some b26 ∧
      ∃ n28, st_S (pt_I σ b12 l7.toNatClampNeg (st_I σ b12 (l7 - l2).toNatClampNeg)) b26 = (22, n28) ∧
      vp_in (l7 - l2) n28 ∧
      vp_in l7 n28 ∧
      vv_ γ m_X3_sort 1 55 [(0, .ref a), (1, .int l1), (2, .int l2), (3, .int l3), (4, .int l4), (5, .long l5), (7, .int (l7 - l2))] [] (pt_L (pt_I σ b12 l7.toNatClampNeg (st_I σ b12 (l7 - l2).toNatClampNeg)) b26 l7.toNatClampNeg (st_L σ b26 (l7 - l2).toNatClampNeg)) Q
    )
  )
set_option maxRecDepth 10000 in
theorem g_X3_sort_55 {γ : ga_T} {a : Nat} {l1 : Int32} {l2 : Int32} {l3 : Int32} {l4 : Int32} {l5 : Int64} {l7 : Int32} {σ : st_T} {Q : rs_T → st_T → Prop} (zha : is_fi a) (zw : Wd σ) (zh : p_X3_sort_55 γ a l1 l2 l3 l4 l5 l7 σ Q) : vv_ γ m_X3_sort 1 55 [(0, .ref a), (1, .int l1), (2, .int l2), (3, .int l3), (4, .int l4), (5, .long l5), (7, .int l7)] [] σ Q := by
  unfold p_X3_sort_55 at zh
  refine vr_iload dX3_sort_55 rfl ?_
  refine vr_iload_n dX3_sort_57 rfl rfl ?_
  refine vr_ic_lt dX3_sort_58 (tgt := 116) rfl (fun zd_1 => ?_) (fun zd_1 => ?_)
  · replace zh := zh.1 zd_1
    refine vr_aload_n dX3_sort_116 rfl rfl ?_
    obtain ⟨b2, zb_3, zh⟩ := zh
    refine vr_getR dX3_sort_117 fl_LitmusTester_Findings_11 (wC_fi zw zha) (Or.inr ⟨_, rfl⟩) zb_3 ?_
    refine vr_iload dX3_sort_120 rfl ?_
    refine vr_iload dX3_sort_122 rfl ?_
    obtain ⟨n4, zs_5, zh⟩ := zh
    obtain ⟨zi_6, zh⟩ := zh
    refine vr_iastore dX3_sort_124 zs_5 zi_6 ?_
    refine vr_aload_n dX3_sort_125 rfl rfl ?_
    obtain ⟨b7, zb_8, zh⟩ := zh
    refine vr_getR dX3_sort_126 fl_LitmusTester_Findings_15 (wC_fi zw zha) (Or.inr ⟨_, rfl⟩) zb_8 ?_
    refine vr_iload dX3_sort_129 rfl ?_
    refine vr_lload dX3_sort_131 rfl ?_
    obtain ⟨n9, zs_10, zh⟩ := zh
    obtain ⟨zi_11, zh⟩ := zh
    refine vr_lastore dX3_sort_133 zs_10 zi_11 ?_
    refine vr_iinc dX3_sort_134 (x := l3) (v := (l3 + 1)) rfl (ii_ (by decide)) (Nat.le_of_ble_eq_true rfl) (vv_eq (ls' := [(0, .ref a), (1, .int l1), (2, .int l2), (3, .int (l3 + 1)), (4, .int l4), (5, .long l5), (7, .int l7)]) rfl ?_)
    refine vr_goto dX3_sort_137 (tgt := 31) rfl ?_
    exact vv_sub (ls' := [(0, .ref a), (1, .int l1), (2, .int l2), (3, .int (l3 + 1))]) ⟨rfl, rfl, rfl, rfl, trivial⟩ zh
  · replace zh := zh.2 zd_1
    refine vr_aload_n dX3_sort_61 rfl rfl ?_
    obtain ⟨b12, zb_13, zh⟩ := zh
    refine vr_getR dX3_sort_62 fl_LitmusTester_Findings_11 (wC_fi zw zha) (Or.inr ⟨_, rfl⟩) zb_13 ?_
    refine vr_iload dX3_sort_65 rfl ?_
    refine vr_iload_n dX3_sort_67 rfl rfl ?_
    refine vr_isub dX3_sort_68 ?_
    obtain ⟨n14, zs_15, zh⟩ := zh
    obtain ⟨zi_16, zh⟩ := zh
    refine vr_iaload dX3_sort_69 zs_15 zi_16 ?_
    refine vr_iload dX3_sort_70 rfl ?_
    refine vr_ic_le dX3_sort_72 (tgt := 116) rfl (fun zd_17 => ?_) (fun zd_17 => ?_)
    · replace zh := zh.1 zd_17
      refine vr_aload_n dX3_sort_116 rfl rfl ?_
      refine vr_getR dX3_sort_117 fl_LitmusTester_Findings_11 (wC_fi zw zha) (Or.inr ⟨_, rfl⟩) zb_13 ?_
      refine vr_iload dX3_sort_120 rfl ?_
      refine vr_iload dX3_sort_122 rfl ?_
      obtain ⟨zi_18, zh⟩ := zh
      refine vr_iastore dX3_sort_124 zs_15 zi_18 ?_
      refine vr_aload_n dX3_sort_125 rfl rfl ?_
      obtain ⟨b19, zb_20, zh⟩ := zh
      refine vr_getR dX3_sort_126 fl_LitmusTester_Findings_15 (wC_fi zw zha) (Or.inr ⟨_, rfl⟩) zb_20 ?_
      refine vr_iload dX3_sort_129 rfl ?_
      refine vr_lload dX3_sort_131 rfl ?_
      obtain ⟨n21, zs_22, zh⟩ := zh
      obtain ⟨zi_23, zh⟩ := zh
      refine vr_lastore dX3_sort_133 zs_22 zi_23 ?_
      refine vr_iinc dX3_sort_134 (x := l3) (v := (l3 + 1)) rfl (ii_ (by decide)) (Nat.le_of_ble_eq_true rfl) (vv_eq (ls' := [(0, .ref a), (1, .int l1), (2, .int l2), (3, .int (l3 + 1)), (4, .int l4), (5, .long l5), (7, .int l7)]) rfl ?_)
      refine vr_goto dX3_sort_137 (tgt := 31) rfl ?_
      exact vv_sub (ls' := [(0, .ref a), (1, .int l1), (2, .int l2), (3, .int (l3 + 1))]) ⟨rfl, rfl, rfl, rfl, trivial⟩ zh
    · replace zh := zh.2 zd_17
      refine vr_aload_n dX3_sort_75 rfl rfl ?_
      refine vr_getR dX3_sort_76 fl_LitmusTester_Findings_11 (wC_fi zw zha) (Or.inr ⟨_, rfl⟩) zb_13 ?_
      refine vr_iload dX3_sort_79 rfl ?_
      refine vr_aload_n dX3_sort_81 rfl rfl ?_
      refine vr_getR dX3_sort_82 fl_LitmusTester_Findings_11 (wC_fi zw zha) (Or.inr ⟨_, rfl⟩) zb_13 ?_
      refine vr_iload dX3_sort_85 rfl ?_
      refine vr_iload_n dX3_sort_87 rfl rfl ?_
      refine vr_isub dX3_sort_88 ?_
      obtain ⟨zi_24, zh⟩ := zh
      refine vr_iaload dX3_sort_89 zs_15 zi_24 ?_
      obtain ⟨zi_25, zh⟩ := zh
      refine vr_iastore dX3_sort_90 zs_15 zi_25 ?_
      refine vr_aload_n dX3_sort_91 rfl rfl ?_
      obtain ⟨b26, zb_27, zh⟩ := zh
      refine vr_getR dX3_sort_92 fl_LitmusTester_Findings_15 (wC_fi zw zha) (Or.inr ⟨_, rfl⟩) zb_27 ?_
      refine vr_iload dX3_sort_95 rfl ?_
      refine vr_aload_n dX3_sort_97 rfl rfl ?_
      refine vr_getR dX3_sort_98 fl_LitmusTester_Findings_15 (wC_fi zw zha) (Or.inr ⟨_, rfl⟩) zb_27 ?_
      refine vr_iload dX3_sort_101 rfl ?_
      refine vr_iload_n dX3_sort_103 rfl rfl ?_
      refine vr_isub dX3_sort_104 ?_
      obtain ⟨n28, zs_29, zh⟩ := zh
      obtain ⟨zi_30, zh⟩ := zh
      refine vr_laload dX3_sort_105 zs_29 zi_30 ?_
      refine vv_top (w := .long (st_L σ b26 (l7 - l2).toNatClampNeg)) rfl ?_
      obtain ⟨zi_31, zh⟩ := zh
      refine vr_lastore dX3_sort_106 zs_29 zi_31 ?_
      refine vr_iload dX3_sort_107 rfl ?_
      refine vr_iload_n dX3_sort_109 rfl rfl ?_
      refine vr_isub dX3_sort_110 ?_
      refine vr_istore dX3_sort_111 (Nat.le_of_ble_eq_true rfl) (vv_eq (ls' := [(0, .ref a), (1, .int l1), (2, .int l2), (3, .int l3), (4, .int l4), (5, .long l5), (7, .int (l7 - l2))]) rfl ?_)
      refine vr_goto dX3_sort_113 (tgt := 55) rfl ?_
      exact vv_sub (ls' := [(0, .ref a), (1, .int l1), (2, .int l2), (3, .int l3), (4, .int l4), (5, .long l5), (7, .int (l7 - l2))]) ⟨rfl, rfl, rfl, rfl, rfl, rfl, rfl, trivial⟩ zh
def p_X3_codeAt_0 (γ : ga_T) (a : Nat) (l1 : Int32) (σ : st_T) (Q : rs_T → st_T → Prop) : Prop :=
  (l1 < (0 : Int32) →
    Q (.inl (some (.int (-1 : Int32)))) σ
  ) ∧ (¬ l1 < (0 : Int32) →
    ((st_I σ a 2) ≤ l1 →
      Q (.inl (some (.int (-1 : Int32)))) σ
    ) ∧ (¬ (st_I σ a 2) ≤ l1 →
      ∃ b3, st_R σ a 0 = some b3 ∧
      ∃ n5, st_S σ b3 = (21, n5) ∧
      ((Int32.ofNat n5) ≤ l1 →
        Q (.inl (some (.int (-1 : Int32)))) σ
      ) ∧ (¬ (Int32.ofNat n5) ≤ l1 →
        vp_in l1 n5 ∧
        Q (.inl (some (.int (st_I σ b3 l1.toNatClampNeg)))) σ
      )
    )
  )
set_option maxRecDepth 10000 in
theorem g_X3_codeAt_0 {γ : ga_T} {a : Nat} {l1 : Int32} {σ : st_T} {Q : rs_T → st_T → Prop} (zha : is_fi a) (zw : Wd σ) (zh : p_X3_codeAt_0 γ a l1 σ Q) : vv_ γ m_X3_codeAt 0 0 [(0, .ref a), (1, .int l1)] [] σ Q := by
  unfold p_X3_codeAt_0 at zh
  refine vr_iload_n dX3_codeAt_0 rfl rfl ?_
  refine vr_if_lt dX3_codeAt_1 (tgt := 30) rfl (fun zd_1 => ?_) (fun zd_1 => ?_)
  · replace zh := zh.1 zd_1
    refine vr_iconst dX3_codeAt_30 (v := (-1 : Int32)) (by decide) ?_
    exact vr_iret dX3_codeAt_31 rfl zh
  · replace zh := zh.2 zd_1
    refine vr_iload_n dX3_codeAt_4 rfl rfl ?_
    refine vr_aload_n dX3_codeAt_5 rfl rfl ?_
    refine vr_getI dX3_codeAt_6 fl_LitmusTester_Findings_19 (wC_fi zw zha) rfl ?_
    refine vr_ic_ge dX3_codeAt_9 (tgt := 30) rfl (fun zd_2 => ?_) (fun zd_2 => ?_)
    · replace zh := zh.1 zd_2
      refine vr_iconst dX3_codeAt_30 (v := (-1 : Int32)) (by decide) ?_
      exact vr_iret dX3_codeAt_31 rfl zh
    · replace zh := zh.2 zd_2
      refine vr_iload_n dX3_codeAt_12 rfl rfl ?_
      refine vr_aload_n dX3_codeAt_13 rfl rfl ?_
      obtain ⟨b3, zb_4, zh⟩ := zh
      refine vr_getR dX3_codeAt_14 fl_LitmusTester_Findings_11 (wC_fi zw zha) (Or.inr ⟨_, rfl⟩) zb_4 ?_
      obtain ⟨n5, zs_6, zh⟩ := zh
      refine vr_alen dX3_codeAt_17 zs_6 (Nat.le_of_ble_eq_true rfl) (Nat.le_of_ble_eq_true rfl) (v := (Int32.ofNat n5)) rfl ?_
      refine vr_ic_ge dX3_codeAt_18 (tgt := 30) rfl (fun zd_7 => ?_) (fun zd_7 => ?_)
      · replace zh := zh.1 zd_7
        refine vr_iconst dX3_codeAt_30 (v := (-1 : Int32)) (by decide) ?_
        exact vr_iret dX3_codeAt_31 rfl zh
      · replace zh := zh.2 zd_7
        refine vr_aload_n dX3_codeAt_21 rfl rfl ?_
        refine vr_getR dX3_codeAt_22 fl_LitmusTester_Findings_11 (wC_fi zw zha) (Or.inr ⟨_, rfl⟩) zb_4 ?_
        refine vr_iload_n dX3_codeAt_25 rfl rfl ?_
        obtain ⟨zi_8, zh⟩ := zh
        refine vr_iaload dX3_codeAt_26 zs_6 zi_8 ?_
        refine vr_goto dX3_codeAt_27 (tgt := 31) rfl ?_
        exact vr_iret dX3_codeAt_31 rfl zh
theorem e_X3_codeAt {γ : ga_T} {a : Nat} {l1 : Int32} {σ : st_T} {Q : rs_T → st_T → Prop} (zha : is_fi a) (zw : Wd σ) (zh : p_X3_codeAt_0 γ a l1 σ Q) : sp_ γ m_X3_codeAt 0 [.ref a, .int l1] σ Q := sp_of (pl_X3_codeAt) rfl (Nat.le_of_ble_eq_true rfl) (g_X3_codeAt_0 zha zw zh)
def p_X3_executionsAt_0 (γ : ga_T) (a : Nat) (l1 : Int32) (σ : st_T) (Q : rs_T → st_T → Prop) : Prop :=
  (l1 < (0 : Int32) →
    Q (.inl (some (.long (0 : Int64)))) σ
  ) ∧ (¬ l1 < (0 : Int32) →
    ((st_I σ a 2) ≤ l1 →
      Q (.inl (some (.long (0 : Int64)))) σ
    ) ∧ (¬ (st_I σ a 2) ≤ l1 →
      ∃ b3, st_R σ a 1 = some b3 ∧
      ∃ n5, st_S σ b3 = (22, n5) ∧
      ((Int32.ofNat n5) ≤ l1 →
        Q (.inl (some (.long (0 : Int64)))) σ
      ) ∧ (¬ (Int32.ofNat n5) ≤ l1 →
        vp_in l1 n5 ∧
        Q (.inl (some (.long (st_L σ b3 l1.toNatClampNeg)))) σ
      )
    )
  )
set_option maxRecDepth 10000 in
theorem g_X3_executionsAt_0 {γ : ga_T} {a : Nat} {l1 : Int32} {σ : st_T} {Q : rs_T → st_T → Prop} (zha : is_fi a) (zw : Wd σ) (zh : p_X3_executionsAt_0 γ a l1 σ Q) : vv_ γ m_X3_executionsAt 0 0 [(0, .ref a), (1, .int l1)] [] σ Q := by
  unfold p_X3_executionsAt_0 at zh
  refine vr_iload_n dX3_executionsAt_0 rfl rfl ?_
  refine vr_if_lt dX3_executionsAt_1 (tgt := 30) rfl (fun zd_1 => ?_) (fun zd_1 => ?_)
  · replace zh := zh.1 zd_1
    refine vr_lconst dX3_executionsAt_30 (v := (0 : Int64)) (by decide) ?_
    exact vr_lret dX3_executionsAt_31 rfl zh
  · replace zh := zh.2 zd_1
    refine vr_iload_n dX3_executionsAt_4 rfl rfl ?_
    refine vr_aload_n dX3_executionsAt_5 rfl rfl ?_
    refine vr_getI dX3_executionsAt_6 fl_LitmusTester_Findings_19 (wC_fi zw zha) rfl ?_
    refine vr_ic_ge dX3_executionsAt_9 (tgt := 30) rfl (fun zd_2 => ?_) (fun zd_2 => ?_)
    · replace zh := zh.1 zd_2
      refine vr_lconst dX3_executionsAt_30 (v := (0 : Int64)) (by decide) ?_
      exact vr_lret dX3_executionsAt_31 rfl zh
    · replace zh := zh.2 zd_2
      refine vr_iload_n dX3_executionsAt_12 rfl rfl ?_
      refine vr_aload_n dX3_executionsAt_13 rfl rfl ?_
      obtain ⟨b3, zb_4, zh⟩ := zh
      refine vr_getR dX3_executionsAt_14 fl_LitmusTester_Findings_15 (wC_fi zw zha) (Or.inr ⟨_, rfl⟩) zb_4 ?_
      obtain ⟨n5, zs_6, zh⟩ := zh
      refine vr_alen dX3_executionsAt_17 zs_6 (Nat.le_of_ble_eq_true rfl) (Nat.le_of_ble_eq_true rfl) (v := (Int32.ofNat n5)) rfl ?_
      refine vr_ic_ge dX3_executionsAt_18 (tgt := 30) rfl (fun zd_7 => ?_) (fun zd_7 => ?_)
      · replace zh := zh.1 zd_7
        refine vr_lconst dX3_executionsAt_30 (v := (0 : Int64)) (by decide) ?_
        exact vr_lret dX3_executionsAt_31 rfl zh
      · replace zh := zh.2 zd_7
        refine vr_aload_n dX3_executionsAt_21 rfl rfl ?_
        refine vr_getR dX3_executionsAt_22 fl_LitmusTester_Findings_15 (wC_fi zw zha) (Or.inr ⟨_, rfl⟩) zb_4 ?_
        refine vr_iload_n dX3_executionsAt_25 rfl rfl ?_
        obtain ⟨zi_8, zh⟩ := zh
        refine vr_laload dX3_executionsAt_26 zs_6 zi_8 ?_
        refine vr_goto dX3_executionsAt_27 (tgt := 31) rfl ?_
        exact vr_lret dX3_executionsAt_31 rfl zh
theorem e_X3_executionsAt {γ : ga_T} {a : Nat} {l1 : Int32} {σ : st_T} {Q : rs_T → st_T → Prop} (zha : is_fi a) (zw : Wd σ) (zh : p_X3_executionsAt_0 γ a l1 σ Q) : sp_ γ m_X3_executionsAt 0 [.ref a, .int l1] σ Q := sp_of (pl_X3_executionsAt) rfl (Nat.le_of_ble_eq_true rfl) (g_X3_executionsAt_0 zha zw zh)
def p_X3_placeOf_0 (γ : ga_T) (a : Nat) (l1 : Int32) (σ : st_T) (Q : rs_T → st_T → Prop) : Prop :=
  vv_ γ m_X3_placeOf 1 12 [(0, .ref a), (1, .int l1), (2, .int (0 : Int32)), (3, .int ((st_I σ a 2) - (1 : Int32))), (4, .int (0 : Int32))] [] σ Q
set_option maxRecDepth 10000 in
theorem g_X3_placeOf_0 {γ : ga_T} {a : Nat} {l1 : Int32} {σ : st_T} {Q : rs_T → st_T → Prop} (zha : is_fi a) (zw : Wd σ) (zh : p_X3_placeOf_0 γ a l1 σ Q) : vv_ γ m_X3_placeOf 1 0 [(0, .ref a), (1, .int l1)] [] σ Q := by
  unfold p_X3_placeOf_0 at zh
  refine vr_iconst dX3_placeOf_0 (v := (0 : Int32)) (by decide) ?_
  refine vr_istore_n dX3_placeOf_1 rfl (Nat.le_of_ble_eq_true rfl) (vv_eq (ls' := [(0, .ref a), (1, .int l1), (2, .int (0 : Int32))]) rfl ?_)
  refine vr_aload_n dX3_placeOf_2 rfl rfl ?_
  refine vr_getI dX3_placeOf_3 fl_LitmusTester_Findings_19 (wC_fi zw zha) rfl ?_
  refine vr_iconst dX3_placeOf_6 (v := (1 : Int32)) (by decide) ?_
  refine vr_isub dX3_placeOf_7 ?_
  refine vr_istore_n dX3_placeOf_8 rfl (Nat.le_of_ble_eq_true rfl) (vv_eq (ls' := [(0, .ref a), (1, .int l1), (2, .int (0 : Int32)), (3, .int ((st_I σ a 2) - (1 : Int32)))]) rfl ?_)
  refine vr_iconst dX3_placeOf_9 (v := (0 : Int32)) (by decide) ?_
  refine vr_istore dX3_placeOf_10 (Nat.le_of_ble_eq_true rfl) (vv_eq (ls' := [(0, .ref a), (1, .int l1), (2, .int (0 : Int32)), (3, .int ((st_I σ a 2) - (1 : Int32))), (4, .int (0 : Int32))]) rfl ?_)
  exact vv_sub (ls' := [(0, .ref a), (1, .int l1), (2, .int (0 : Int32)), (3, .int ((st_I σ a 2) - (1 : Int32))), (4, .int (0 : Int32))]) ⟨rfl, rfl, rfl, rfl, rfl, trivial⟩ zh
theorem e_X3_placeOf {γ : ga_T} {a : Nat} {l1 : Int32} {σ : st_T} {Q : rs_T → st_T → Prop} (zha : is_fi a) (zw : Wd σ) (zh : p_X3_placeOf_0 γ a l1 σ Q) : sp_ γ m_X3_placeOf 1 [.ref a, .int l1] σ Q := sp_of (pl_X3_placeOf) rfl (Nat.le_of_ble_eq_true rfl) (g_X3_placeOf_0 zha zw zh)
def p_X3_placeOf_12 (γ : ga_T) (a : Nat) (l1 : Int32) (l2 : Int32) (l3 : Int32) (l4 : Int32) (σ : st_T) (Q : rs_T → st_T → Prop) : Prop :=
  ((32 : Int32) ≤ l4 →
    Q (.inl (some (.int (-1 : Int32)))) σ
  ) ∧ (¬ (32 : Int32) ≤ l4 →
    (l3 < l2 →
      Q (.inl (some (.int (-1 : Int32)))) σ
    ) ∧ (¬ l3 < l2 →
      ∃ (v5 : Int32) (s3 : st_T), Wd s3 ∧ fn_ γ m_X3_codeAt 0 [.ref a, .int ((l2 + l3) / (2 : Int32))] σ (.int v5) s3 ∧
      (v5 = l1 →
        Q (.inl (some (.int ((l2 + l3) / (2 : Int32))))) s3
      ) ∧ (¬ v5 = l1 →
        ∃ (v9 : Int32) (s7 : st_T), Wd s7 ∧ fn_ γ m_X3_codeAt 0 [.ref a, .int ((l2 + l3) / (2 : Int32))] s3 (.int v9) s7 ∧
        (l1 ≤ v9 →
          vv_ γ m_X3_placeOf 1 12 [(0, .ref a), (1, .int l1), (2, .int l2), (3, .int (((l2 + l3) / (2 : Int32)) - (1 : Int32))), (4, .int (l4 + 1))] [] s7 Q
        ) ∧ (¬ l1 ≤ v9 →
          vv_ γ m_X3_placeOf 1 12 [(0, .ref a), (1, .int l1), (2, .int (((l2 + l3) / (2 : Int32)) + (1 : Int32))), (3, .int l3), (4, .int (l4 + 1))] [] s7 Q
        )
      )
    )
  )
set_option maxRecDepth 10000 in
theorem g_X3_placeOf_12 {γ : ga_T} {a : Nat} {l1 : Int32} {l2 : Int32} {l3 : Int32} {l4 : Int32} {σ : st_T} {Q : rs_T → st_T → Prop} (zha : is_fi a) (zw : Wd σ) (zh : p_X3_placeOf_12 γ a l1 l2 l3 l4 σ Q) : vv_ γ m_X3_placeOf 1 12 [(0, .ref a), (1, .int l1), (2, .int l2), (3, .int l3), (4, .int l4)] [] σ Q := by
  unfold p_X3_placeOf_12 at zh
  refine vr_iload dX3_placeOf_12 rfl ?_
  refine vr_bipush dX3_placeOf_14 (v := (32 : Int32)) (by decide) ?_
  refine vr_ic_ge dX3_placeOf_16 (tgt := 73) rfl (fun zd_1 => ?_) (fun zd_1 => ?_)
  · replace zh := zh.1 zd_1
    refine vr_iconst dX3_placeOf_73 (v := (-1 : Int32)) (by decide) ?_
    exact vr_iret dX3_placeOf_74 rfl zh
  · replace zh := zh.2 zd_1
    refine vr_iload_n dX3_placeOf_19 rfl rfl ?_
    refine vr_iload_n dX3_placeOf_20 rfl rfl ?_
    refine vr_ic_gt dX3_placeOf_21 (tgt := 73) rfl (fun zd_2 => ?_) (fun zd_2 => ?_)
    · replace zh := zh.1 zd_2
      refine vr_iconst dX3_placeOf_73 (v := (-1 : Int32)) (by decide) ?_
      exact vr_iret dX3_placeOf_74 rfl zh
    · replace zh := zh.2 zd_2
      refine vr_iload_n dX3_placeOf_24 rfl rfl ?_
      refine vr_iload_n dX3_placeOf_25 rfl rfl ?_
      refine vr_iadd dX3_placeOf_26 ?_
      refine vr_iconst dX3_placeOf_27 (v := (2 : Int32)) (by decide) ?_
      refine vr_idiv dX3_placeOf_28 (by decide) ?_
      refine vr_istore dX3_placeOf_29 (Nat.le_of_ble_eq_true rfl) (vv_eq (ls' := [(0, .ref a), (1, .int l1), (2, .int l2), (3, .int l3), (4, .int l4), (5, .int ((l2 + l3) / (2 : Int32)))]) rfl ?_)
      refine vr_aload_n dX3_placeOf_31 rfl rfl ?_
      refine vr_iload dX3_placeOf_32 rfl ?_
      obtain ⟨v5, s3, zw1, zf_4, zh⟩ := zh
      refine vc_V (As := [.int ((l2 + l3) / (2 : Int32))]) (rest := []) dX3_placeOf_34 cV_LitmusTester_Findings_48 (wC_fi zw zha) rfl rfl (Nat.le_of_ble_eq_true rfl) (Nat.le_of_ble_eq_true rfl) (co_n zf_4 ?_)
      replace zw := zw1
      refine vr_iload_n dX3_placeOf_37 rfl rfl ?_
      refine vr_ic_ne dX3_placeOf_38 (tgt := 44) rfl (fun zd_6 => ?_) (fun zd_6 => ?_)
      · replace zh := zh.2 zd_6
        refine vr_aload_n dX3_placeOf_44 rfl rfl ?_
        refine vr_iload dX3_placeOf_45 rfl ?_
        obtain ⟨v9, s7, zw1, zf_8, zh⟩ := zh
        refine vc_V (As := [.int ((l2 + l3) / (2 : Int32))]) (rest := []) dX3_placeOf_47 cV_LitmusTester_Findings_48 (wC_fi zw zha) rfl rfl (Nat.le_of_ble_eq_true rfl) (Nat.le_of_ble_eq_true rfl) (co_n zf_8 ?_)
        replace zw := zw1
        refine vr_iload_n dX3_placeOf_50 rfl rfl ?_
        refine vr_ic_ge dX3_placeOf_51 (tgt := 62) rfl (fun zd_10 => ?_) (fun zd_10 => ?_)
        · replace zh := zh.1 zd_10
          refine vr_iload dX3_placeOf_62 rfl ?_
          refine vr_iconst dX3_placeOf_64 (v := (1 : Int32)) (by decide) ?_
          refine vr_isub dX3_placeOf_65 ?_
          refine vr_istore_n dX3_placeOf_66 rfl (Nat.le_of_ble_eq_true rfl) (vv_eq (ls' := [(0, .ref a), (1, .int l1), (2, .int l2), (3, .int (((l2 + l3) / (2 : Int32)) - (1 : Int32))), (4, .int l4), (5, .int ((l2 + l3) / (2 : Int32)))]) rfl ?_)
          refine vr_iinc dX3_placeOf_67 (x := l4) (v := (l4 + 1)) rfl (ii_ (by decide)) (Nat.le_of_ble_eq_true rfl) (vv_eq (ls' := [(0, .ref a), (1, .int l1), (2, .int l2), (3, .int (((l2 + l3) / (2 : Int32)) - (1 : Int32))), (4, .int (l4 + 1)), (5, .int ((l2 + l3) / (2 : Int32)))]) rfl ?_)
          refine vr_goto dX3_placeOf_70 (tgt := 12) rfl ?_
          exact vv_sub (ls' := [(0, .ref a), (1, .int l1), (2, .int l2), (3, .int (((l2 + l3) / (2 : Int32)) - (1 : Int32))), (4, .int (l4 + 1))]) ⟨rfl, rfl, rfl, rfl, rfl, trivial⟩ zh
        · replace zh := zh.2 zd_10
          refine vr_iload dX3_placeOf_54 rfl ?_
          refine vr_iconst dX3_placeOf_56 (v := (1 : Int32)) (by decide) ?_
          refine vr_iadd dX3_placeOf_57 ?_
          refine vr_istore_n dX3_placeOf_58 rfl (Nat.le_of_ble_eq_true rfl) (vv_eq (ls' := [(0, .ref a), (1, .int l1), (2, .int (((l2 + l3) / (2 : Int32)) + (1 : Int32))), (3, .int l3), (4, .int l4), (5, .int ((l2 + l3) / (2 : Int32)))]) rfl ?_)
          refine vr_goto dX3_placeOf_59 (tgt := 67) rfl ?_
          refine vr_iinc dX3_placeOf_67 (x := l4) (v := (l4 + 1)) rfl (ii_ (by decide)) (Nat.le_of_ble_eq_true rfl) (vv_eq (ls' := [(0, .ref a), (1, .int l1), (2, .int (((l2 + l3) / (2 : Int32)) + (1 : Int32))), (3, .int l3), (4, .int (l4 + 1)), (5, .int ((l2 + l3) / (2 : Int32)))]) rfl ?_)
          refine vr_goto dX3_placeOf_70 (tgt := 12) rfl ?_
          exact vv_sub (ls' := [(0, .ref a), (1, .int l1), (2, .int (((l2 + l3) / (2 : Int32)) + (1 : Int32))), (3, .int l3), (4, .int (l4 + 1))]) ⟨rfl, rfl, rfl, rfl, rfl, trivial⟩ zh
      · replace zh := zh.1 zd_6
        refine vr_iload dX3_placeOf_41 rfl ?_
        exact vr_iret dX3_placeOf_43 rfl zh
def p_X3_valuesAt_0 (γ : ga_T) (a : Nat) (l1 : Int32) (σ : st_T) (Q : rs_T → st_T → Prop) : Prop :=
  vv_ γ m_X3_valuesAt 1 4 [(0, .ref a), (1, .int l1), (2, .int (0 : Int32)), (3, .int (0 : Int32))] [] σ Q
set_option maxRecDepth 10000 in
theorem g_X3_valuesAt_0 {γ : ga_T} {a : Nat} {l1 : Int32} {σ : st_T} {Q : rs_T → st_T → Prop} (zha : is_fi a) (zw : Wd σ) (zh : p_X3_valuesAt_0 γ a l1 σ Q) : vv_ γ m_X3_valuesAt 1 0 [(0, .ref a), (1, .int l1)] [] σ Q := by
  unfold p_X3_valuesAt_0 at zh
  refine vr_iconst dX3_valuesAt_0 (v := (0 : Int32)) (by decide) ?_
  refine vr_istore_n dX3_valuesAt_1 rfl (Nat.le_of_ble_eq_true rfl) (vv_eq (ls' := [(0, .ref a), (1, .int l1), (2, .int (0 : Int32))]) rfl ?_)
  refine vr_iconst dX3_valuesAt_2 (v := (0 : Int32)) (by decide) ?_
  refine vr_istore_n dX3_valuesAt_3 rfl (Nat.le_of_ble_eq_true rfl) (vv_eq (ls' := [(0, .ref a), (1, .int l1), (2, .int (0 : Int32)), (3, .int (0 : Int32))]) rfl ?_)
  exact vv_sub (ls' := [(0, .ref a), (1, .int l1), (2, .int (0 : Int32)), (3, .int (0 : Int32))]) ⟨rfl, rfl, rfl, rfl, trivial⟩ zh
theorem e_X3_valuesAt {γ : ga_T} {a : Nat} {l1 : Int32} {σ : st_T} {Q : rs_T → st_T → Prop} (zha : is_fi a) (zw : Wd σ) (zh : p_X3_valuesAt_0 γ a l1 σ Q) : sp_ γ m_X3_valuesAt 1 [.ref a, .int l1] σ Q := sp_of (pl_X3_valuesAt) rfl (Nat.le_of_ble_eq_true rfl) (g_X3_valuesAt_0 zha zw zh)
def p_X3_valuesAt_4 (γ : ga_T) (a : Nat) (l1 : Int32) (l2 : Int32) (l3 : Int32) (σ : st_T) (Q : rs_T → st_T → Prop) : Prop :=
  ((st_I σ a 2) ≤ l3 →
    Q (.inl (some (.int l2))) σ
  ) ∧ (¬ (st_I σ a 2) ≤ l3 →
    ∃ (v4 : Int32) (s2 : st_T), Wd s2 ∧ fn_ γ m_X3_codeAt 0 [.ref a, .int l3] σ (.int v4) s2 ∧
    vv_ γ m_X3_valuesAt 1 4 [(0, .ref a), (1, .int l1), (2, .int (l2 ||| ((1 : Int32) <<< (((v4 >>> (l1 &&& 31)) &&& (3 : Int32)) &&& 31)))), (3, .int (l3 + 1))] [] s2 Q
  )
set_option maxRecDepth 10000 in
theorem g_X3_valuesAt_4 {γ : ga_T} {a : Nat} {l1 : Int32} {l2 : Int32} {l3 : Int32} {σ : st_T} {Q : rs_T → st_T → Prop} (zha : is_fi a) (zw : Wd σ) (zh : p_X3_valuesAt_4 γ a l1 l2 l3 σ Q) : vv_ γ m_X3_valuesAt 1 4 [(0, .ref a), (1, .int l1), (2, .int l2), (3, .int l3)] [] σ Q := by
  unfold p_X3_valuesAt_4 at zh
  refine vr_iload_n dX3_valuesAt_4 rfl rfl ?_
  refine vr_aload_n dX3_valuesAt_5 rfl rfl ?_
  refine vr_getI dX3_valuesAt_6 fl_LitmusTester_Findings_19 (wC_fi zw zha) rfl ?_
  refine vr_ic_ge dX3_valuesAt_9 (tgt := 32) rfl (fun zd_1 => ?_) (fun zd_1 => ?_)
  · replace zh := zh.1 zd_1
    refine vr_iload_n dX3_valuesAt_32 rfl rfl ?_
    exact vr_iret dX3_valuesAt_33 rfl zh
  · replace zh := zh.2 zd_1
    refine vr_iload_n dX3_valuesAt_12 rfl rfl ?_
    refine vr_iconst dX3_valuesAt_13 (v := (1 : Int32)) (by decide) ?_
    refine vr_aload_n dX3_valuesAt_14 rfl rfl ?_
    refine vr_iload_n dX3_valuesAt_15 rfl rfl ?_
    obtain ⟨v4, s2, zw1, zf_3, zh⟩ := zh
    refine vc_V (As := [.int l3]) (rest := [.int (1 : Int32), .int l2]) dX3_valuesAt_16 cV_LitmusTester_Findings_48 (wC_fi zw zha) rfl rfl (Nat.le_of_ble_eq_true rfl) (Nat.le_of_ble_eq_true rfl) (co_n zf_3 ?_)
    replace zw := zw1
    refine vr_iload_n dX3_valuesAt_19 rfl rfl ?_
    refine vr_ishr dX3_valuesAt_20 ?_
    refine vr_iconst dX3_valuesAt_21 (v := (3 : Int32)) (by decide) ?_
    refine vr_iand dX3_valuesAt_22 ?_
    refine vr_ishl dX3_valuesAt_23 ?_
    refine vr_ior dX3_valuesAt_24 ?_
    refine vr_istore_n dX3_valuesAt_25 rfl (Nat.le_of_ble_eq_true rfl) (vv_eq (ls' := [(0, .ref a), (1, .int l1), (2, .int (l2 ||| ((1 : Int32) <<< (((v4 >>> (l1 &&& 31)) &&& (3 : Int32)) &&& 31)))), (3, .int l3)]) rfl ?_)
    refine vr_iinc dX3_valuesAt_26 (x := l3) (v := (l3 + 1)) rfl (ii_ (by decide)) (Nat.le_of_ble_eq_true rfl) (vv_eq (ls' := [(0, .ref a), (1, .int l1), (2, .int (l2 ||| ((1 : Int32) <<< (((v4 >>> (l1 &&& 31)) &&& (3 : Int32)) &&& 31)))), (3, .int (l3 + 1))]) rfl ?_)
    refine vr_goto dX3_valuesAt_29 (tgt := 4) rfl ?_
    exact vv_sub (ls' := [(0, .ref a), (1, .int l1), (2, .int (l2 ||| ((1 : Int32) <<< (((v4 >>> (l1 &&& 31)) &&& (3 : Int32)) &&& 31)))), (3, .int (l3 + 1))]) ⟨rfl, rfl, rfl, rfl, trivial⟩ zh
