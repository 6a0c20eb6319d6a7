def p_X4_prepare_0 (γ : ga_T) (l1 : Int32) (l2 : Int32) (σ : st_T) (Q : rs_T → st_T → Prop) : Prop :=
  ∃ s1, Wd s1 ∧ fw_ γ m_X4_prepareLocations 1 [.ref 153] (pt_I (pt_I σ 153 11 l1) 153 12 l2) s1 ∧
  ∃ s3, Wd s3 ∧ fw_ γ m_X4_prepareThreads 2 [.ref 153] s1 s3 ∧
  vv_ γ m_X4_prepare 3 20 [(0, .ref 153), (3, .int (0 : Int32))] [] s3 Q
set_option maxRecDepth 10000 in
theorem g_X4_prepare_0 {γ : ga_T} {l1 : Int32} {l2 : Int32} {σ : st_T} {Q : rs_T → st_T → Prop} (zw : Wd σ) (zh : p_X4_prepare_0 γ l1 l2 σ Q) : vv_ γ m_X4_prepare 3 0 [(0, .ref 153), (1, .int l1), (2, .int l2)] [] σ Q := by
  unfold p_X4_prepare_0 at zh
  refine vr_aload_n dX4_prepare_0 rfl rfl ?_
  refine vr_iload_n dX4_prepare_1 rfl rfl ?_
  refine vr_putI dX4_prepare_2 fl_LitmusTester_Machine_42 (wC_153 zw) rfl (fz_4_11) ?_
  refine vr_aload_n dX4_prepare_5 rfl rfl ?_
  refine vr_iload_n dX4_prepare_6 rfl rfl ?_
  refine vr_putI dX4_prepare_7 fl_LitmusTester_Machine_46 (wC_153 zw) rfl (fz_4_12) ?_
  refine vr_aload_n dX4_prepare_10 rfl rfl ?_
  obtain ⟨s1, zw1, zf_2, zh⟩ := zh
  refine vc_V (As := []) (rest := []) dX4_prepare_11 cV_LitmusTester_Machine_60 (wC_153 zw) rfl rfl (Nat.le_of_ble_eq_true rfl) (Nat.le_of_ble_eq_true rfl) (co_v zf_2 ?_)
  replace zw := zw1
  refine vr_aload_n dX4_prepare_14 rfl rfl ?_
  obtain ⟨s3, zw1, zf_4, zh⟩ := zh
  refine vc_V (As := []) (rest := []) dX4_prepare_15 cV_LitmusTester_Machine_63 (wC_153 zw) rfl rfl (Nat.le_of_ble_eq_true rfl) (Nat.le_of_ble_eq_true rfl) (co_v zf_4 ?_)
  replace zw := zw1
  refine vr_iconst dX4_prepare_18 (v := (0 : Int32)) (by decide) ?_
  refine vr_istore_n dX4_prepare_19 rfl (Nat.le_of_ble_eq_true rfl) (vv_eq (ls' := [(0, .ref 153), (1, .int l1), (2, .int l2), (3, .int (0 : Int32))]) rfl ?_)
  exact vv_sub (ls' := [(0, .ref 153), (3, .int (0 : Int32))]) ⟨rfl, rfl, trivial⟩ zh
theorem e_X4_prepare {γ : ga_T} {l1 : Int32} {l2 : Int32} {σ : st_T} {Q : rs_T → st_T → Prop} (zw : Wd σ) (zh : p_X4_prepare_0 γ l1 l2 σ Q) : sp_ γ m_X4_prepare 3 [.ref 153, .int l1, .int l2] σ Q := sp_of (pl_X4_prepare) rfl (Nat.le_of_ble_eq_true rfl) (g_X4_prepare_0 zw zh)
def p_X4_prepare_20 (γ : ga_T) (l3 : Int32) (σ : st_T) (Q : rs_T → st_T → Prop) : Prop :=
  ∃ (v3 : Int32) (s1 : st_T), Wd s1 ∧ fn_ γ m_X7_size 0 [.ref 132] σ (.int v3) s1 ∧
  (v3 ≤ l3 →
    Q (.inl none) s1
  ) ∧ (¬ v3 ≤ l3 →
    ∃ s5, Wd s5 ∧ fw_ γ m_X4_prepareInstruction 2 [.ref 153, .int l3] s1 s5 ∧
    vv_ γ m_X4_prepare 3 20 [(0, .ref 153), (3, .int (l3 + 1))] [] s5 Q
  )
set_option maxRecDepth 10000 in
theorem g_X4_prepare_20 {γ : ga_T} {l3 : Int32} {σ : st_T} {Q : rs_T → st_T → Prop} (zw : Wd σ) (zh : p_X4_prepare_20 γ l3 σ Q) : vv_ γ m_X4_prepare 3 20 [(0, .ref 153), (3, .int l3)] [] σ Q := by
  unfold p_X4_prepare_20 at zh
  refine vr_iload_n dX4_prepare_20 rfl rfl ?_
  refine vr_aload_n dX4_prepare_21 rfl rfl ?_
  refine vr_getR dX4_prepare_22 fl_LitmusTester_Machine_56 (wC_153 zw) (Or.inl ⟨_, rfl⟩) (wR_153_0 zw) ?_
  obtain ⟨v3, s1, zw1, zf_2, zh⟩ := zh
  refine vc_V (As := []) (rest := [.int l3]) dX4_prepare_25 cV_LitmusTester_Machine_66 (wC_132 zw) rfl rfl (Nat.le_of_ble_eq_true rfl) (Nat.le_of_ble_eq_true rfl) (co_n zf_2 ?_)
  replace zw := zw1
  refine vr_ic_ge dX4_prepare_28 (tgt := 42) rfl (fun zd_4 => ?_) (fun zd_4 => ?_)
  · replace zh := zh.1 zd_4
    exact vr_vret dX4_prepare_42 rfl zh
  · replace zh := zh.2 zd_4
    refine vr_aload_n dX4_prepare_31 rfl rfl ?_
    refine vr_iload_n dX4_prepare_32 rfl rfl ?_
    obtain ⟨s5, zw1, zf_6, zh⟩ := zh
    refine vc_V (As := [.int l3]) (rest := []) dX4_prepare_33 cV_LitmusTester_Machine_72 (wC_153 zw) rfl rfl (Nat.le_of_ble_eq_true rfl) (Nat.le_of_ble_eq_true rfl) (co_v zf_6 ?_)
    replace zw := zw1
    refine vr_iinc dX4_prepare_36 (x := l3) (v := (l3 + 1)) rfl (ii_ (by decide)) (Nat.le_of_ble_eq_true rfl) (vv_eq (ls' := [(0, .ref 153), (3, .int (l3 + 1))]) rfl ?_)
    refine vr_goto dX4_prepare_39 (tgt := 20) rfl ?_
    exact vv_sub (ls' := [(0, .ref 153), (3, .int (l3 + 1))]) ⟨rfl, rfl, trivial⟩ zh
def p_X4_prepareLocations_0 (γ : ga_T) (σ : st_T) (Q : rs_T → st_T → Prop) : Prop :=
  vv_ γ m_X4_prepareLocations 1 7 [(0, .ref 153), (1, .int (0 : Int32))] [] (pt_L σ 153 13 (0 : Int64)) Q
set_option maxRecDepth 10000 in
theorem g_X4_prepareLocations_0 {γ : ga_T} {σ : st_T} {Q : rs_T → st_T → Prop} (zw : Wd σ) (zh : p_X4_prepareLocations_0 γ σ Q) : vv_ γ m_X4_prepareLocations 1 0 [(0, .ref 153)] [] σ Q := by
  unfold p_X4_prepareLocations_0 at zh
  refine vr_aload_n dX4_prepareLocations_0 rfl rfl ?_
  refine vr_lconst dX4_prepareLocations_1 (v := (0 : Int64)) (by decide) ?_
  refine vr_putL dX4_prepareLocations_2 fl_LitmusTester_Machine_49 (wC_153 zw) rfl (fz_4_13) ?_
  refine vr_iconst dX4_prepareLocations_5 (v := (0 : Int32)) (by decide) ?_
  refine vr_istore_n dX4_prepareLocations_6 rfl (Nat.le_of_ble_eq_true rfl) (vv_eq (ls' := [(0, .ref 153), (1, .int (0 : Int32))]) rfl ?_)
  exact vv_sub (ls' := [(0, .ref 153), (1, .int (0 : Int32))]) ⟨rfl, rfl, trivial⟩ zh
theorem e_X4_prepareLocations {γ : ga_T} {σ : st_T} {Q : rs_T → st_T → Prop} (zw : Wd σ) (zh : p_X4_prepareLocations_0 γ σ Q) : sp_ γ m_X4_prepareLocations 1 [.ref 153] σ Q := sp_of (pl_X4_prepareLocations) rfl (Nat.le_of_ble_eq_true rfl) (g_X4_prepareLocations_0 zw zh)
def p_X4_prepareLocations_7 (γ : ga_T) (l1 : Int32) (σ : st_T) (Q : rs_T → st_T → Prop) : Prop :=
  ∃ (v3 : Int32) (s1 : st_T), Wd s1 ∧ fn_ γ m_X7_locations 0 [.ref 132] σ (.int v3) s1 ∧
  (v3 ≤ l1 →
    Q (.inl none) s1
  ) ∧ (¬ v3 ≤ l1 →
    ((3 : Int32) ≤ l1 →
      Q (.inl none) s1
    ) ∧ (¬ (3 : Int32) ≤ l1 →
      vp_in l1 3 ∧
      ∃ (v9 : Int32) (s7 : st_T), Wd s7 ∧ fn_ γ m_X7_initialOf 0 [.ref 132, .int l1] (pt_I s1 163 l1.toNatClampNeg (0 : Int32)) (.int v9) s7 ∧
      ∃ (v12 : Int32) (s10 : st_T), Wd s10 ∧ fn_ γ m_X7_locationShift 0 [.ref 132, .int l1] s7 (.int v12) s10 ∧
      vv_ γ m_X4_prepareLocations 1 7 [(0, .ref 153), (1, .int (l1 + 1))] [] (pt_L s10 153 13 ((st_L s1 153 13) ||| ((v9.toInt64) <<< (v12.toInt64 &&& 63)))) Q
    )
  )
set_option maxRecDepth 10000 in
theorem g_X4_prepareLocations_7 {γ : ga_T} {l1 : Int32} {σ : st_T} {Q : rs_T → st_T → Prop} (zw : Wd σ) (zh : p_X4_prepareLocations_7 γ l1 σ Q) : vv_ γ m_X4_prepareLocations 1 7 [(0, .ref 153), (1, .int l1)] [] σ Q := by
  unfold p_X4_prepareLocations_7 at zh
  refine vr_iload_n dX4_prepareLocations_7 rfl rfl ?_
  refine vr_aload_n dX4_prepareLocations_8 rfl rfl ?_
  refine vr_getR dX4_prepareLocations_9 fl_LitmusTester_Machine_56 (wC_153 zw) (Or.inl ⟨_, rfl⟩) (wR_153_0 zw) ?_
  obtain ⟨v3, s1, zw1, zf_2, zh⟩ := zh
  refine vc_V (As := []) (rest := [.int l1]) dX4_prepareLocations_12 cV_LitmusTester_Machine_76 (wC_132 zw) rfl rfl (Nat.le_of_ble_eq_true rfl) (Nat.le_of_ble_eq_true rfl) (co_n zf_2 ?_)
  replace zw := zw1
  refine vr_ic_ge dX4_prepareLocations_15 (tgt := 63) rfl (fun zd_4 => ?_) (fun zd_4 => ?_)
  · replace zh := zh.1 zd_4
    exact vr_vret dX4_prepareLocations_63 rfl zh
  · replace zh := zh.2 zd_4
    refine vr_iload_n dX4_prepareLocations_18 rfl rfl ?_
    refine vr_iconst dX4_prepareLocations_19 (v := (3 : Int32)) (by decide) ?_
    refine vr_ic_ge dX4_prepareLocations_20 (tgt := 63) rfl (fun zd_5 => ?_) (fun zd_5 => ?_)
    · replace zh := zh.1 zd_5
      exact vr_vret dX4_prepareLocations_63 rfl zh
    · replace zh := zh.2 zd_5
      refine vr_aload_n dX4_prepareLocations_23 rfl rfl ?_
      refine vr_getR dX4_prepareLocations_24 fl_LitmusTester_Machine_39 (wC_153 zw) (Or.inr ⟨_, rfl⟩) (wR_153_10 zw) ?_
      refine vr_iload_n dX4_prepareLocations_27 rfl rfl ?_
      refine vr_iconst dX4_prepareLocations_28 (v := (0 : Int32)) (by decide) ?_
      obtain ⟨zi_6, zh⟩ := zh
      refine vr_iastore dX4_prepareLocations_29 (wS_163 zw) zi_6 ?_
      refine vr_aload_n dX4_prepareLocations_30 rfl rfl ?_
      refine vr_dup dX4_prepareLocations_31 rfl ?_
      refine vr_getL dX4_prepareLocations_32 fl_LitmusTester_Machine_49 (wC_153 zw) rfl ?_
      refine vv_top (w := .long (st_L s1 153 13)) rfl ?_
      refine vr_aload_n dX4_prepareLocations_35 rfl rfl ?_
      refine vr_getR dX4_prepareLocations_36 fl_LitmusTester_Machine_56 (wC_153 zw) (Or.inl ⟨_, rfl⟩) (wR_153_0 zw) ?_
      refine vr_iload_n dX4_prepareLocations_39 rfl rfl ?_
      obtain ⟨v9, s7, zw1, zf_8, zh⟩ := zh
      refine vc_V (As := [.int l1]) (rest := [.long (st_L s1 153 13), .ref 153]) dX4_prepareLocations_40 cV_LitmusTester_Machine_78 (wC_132 zw) rfl rfl (Nat.le_of_ble_eq_true rfl) (Nat.le_of_ble_eq_true rfl) (co_n zf_8 ?_)
      replace zw := zw1
      refine vr_i2l dX4_prepareLocations_43 ?_
      refine vr_aload_n dX4_prepareLocations_44 rfl rfl ?_
      refine vr_getR dX4_prepareLocations_45 fl_LitmusTester_Machine_56 (wC_153 zw) (Or.inl ⟨_, rfl⟩) (wR_153_0 zw) ?_
      refine vr_iload_n dX4_prepareLocations_48 rfl rfl ?_
      obtain ⟨v12, s10, zw1, zf_11, zh⟩ := zh
      refine vc_V (As := [.int l1]) (rest := [.long (v9.toInt64), .long (st_L s1 153 13), .ref 153]) dX4_prepareLocations_49 cV_LitmusTester_Machine_82 (wC_132 zw) rfl rfl (Nat.le_of_ble_eq_true rfl) (Nat.le_of_ble_eq_true rfl) (co_n zf_11 ?_)
      replace zw := zw1
      refine vr_lshl dX4_prepareLocations_52 ?_
      refine vr_lor dX4_prepareLocations_53 ?_
      refine vr_putL dX4_prepareLocations_54 fl_LitmusTester_Machine_49 (wC_153 zw) rfl (fz_4_13) ?_
      refine vr_iinc dX4_prepareLocations_57 (x := l1) (v := (l1 + 1)) rfl (ii_ (by decide)) (Nat.le_of_ble_eq_true rfl) (vv_eq (ls' := [(0, .ref 153), (1, .int (l1 + 1))]) rfl ?_)
      refine vr_goto dX4_prepareLocations_60 (tgt := 7) rfl ?_
      exact vv_sub (ls' := [(0, .ref 153), (1, .int (l1 + 1))]) ⟨rfl, rfl, trivial⟩ zh
def p_X4_prepareThreads_0 (γ : ga_T) (σ : st_T) (Q : rs_T → st_T → Prop) : Prop :=
  vv_ γ m_X4_prepareThreads 2 9 [(0, .ref 153), (1, .int (0 : Int32)), (2, .int (0 : Int32))] [] (pt_L σ 153 14 (0 : Int64)) Q
set_option maxRecDepth 10000 in
theorem g_X4_prepareThreads_0 {γ : ga_T} {σ : st_T} {Q : rs_T → st_T → Prop} (zw : Wd σ) (zh : p_X4_prepareThreads_0 γ σ Q) : vv_ γ m_X4_prepareThreads 2 0 [(0, .ref 153)] [] σ Q := by
  unfold p_X4_prepareThreads_0 at zh
  refine vr_aload_n dX4_prepareThreads_0 rfl rfl ?_
  refine vr_lconst dX4_prepareThreads_1 (v := (0 : Int64)) (by decide) ?_
  refine vr_putL dX4_prepareThreads_2 fl_LitmusTester_Machine_53 (wC_153 zw) rfl (fz_4_14) ?_
  refine vr_iconst dX4_prepareThreads_5 (v := (0 : Int32)) (by decide) ?_
  refine vr_istore_n dX4_prepareThreads_6 rfl (Nat.le_of_ble_eq_true rfl) (vv_eq (ls' := [(0, .ref 153), (1, .int (0 : Int32))]) rfl ?_)
  refine vr_iconst dX4_prepareThreads_7 (v := (0 : Int32)) (by decide) ?_
  refine vr_istore_n dX4_prepareThreads_8 rfl (Nat.le_of_ble_eq_true rfl) (vv_eq (ls' := [(0, .ref 153), (1, .int (0 : Int32)), (2, .int (0 : Int32))]) rfl ?_)
  exact vv_sub (ls' := [(0, .ref 153), (1, .int (0 : Int32)), (2, .int (0 : Int32))]) ⟨rfl, rfl, rfl, trivial⟩ zh
theorem e_X4_prepareThreads {γ : ga_T} {σ : st_T} {Q : rs_T → st_T → Prop} (zw : Wd σ) (zh : p_X4_prepareThreads_0 γ σ Q) : sp_ γ m_X4_prepareThreads 2 [.ref 153] σ Q := sp_of (pl_X4_prepareThreads) rfl (Nat.le_of_ble_eq_true rfl) (g_X4_prepareThreads_0 zw zh)
def p_X4_prepareThreads_9 (γ : ga_T) (l1 : Int32) (l2 : Int32) (σ : st_T) (Q : rs_T → st_T → Prop) : Prop :=
  ∃ (v3 : Int32) (s1 : st_T), Wd s1 ∧ fn_ γ m_X7_threads 0 [.ref 132] σ (.int v3) s1 ∧
  (v3 ≤ l2 →
    Q (.inl none) s1
  ) ∧ (¬ v3 ≤ l2 →
    ((4 : Int32) ≤ l2 →
      Q (.inl none) s1
    ) ∧ (¬ (4 : Int32) ≤ l2 →
      vp_in l2 4 ∧
      ∃ (v9 : Int32) (s7 : st_T), Wd s7 ∧ fn_ γ m_X7_sizeOf 1 [.ref 132, .int l2] (pt_I s1 160 l2.toNatClampNeg l1) (.int v9) s7 ∧
      vp_in l2 4 ∧
      vp_in l2 4 ∧
      vp_in l2 4 ∧
      vp_in l2 4 ∧
      ∃ (v16 : Int32) (s14 : st_T), Wd s14 ∧ fn_ γ m_X4_positionShift 0 [.int l2] (pt_I (pt_I s7 161 l2.toNatClampNeg v9) 162 l2.toNatClampNeg (0 : Int32)) (.int v16) s14 ∧
      vv_ γ m_X4_prepareThreads 2 9 [(0, .ref 153), (1, .int (l1 + (st_I (pt_I s7 161 l2.toNatClampNeg v9) 161 l2.toNatClampNeg))), (2, .int (l2 + 1))] [] (pt_L s14 153 14 ((st_L s7 153 14) ||| (((st_I (pt_I s7 161 l2.toNatClampNeg v9) 161 l2.toNatClampNeg).toInt64) <<< (v16.toInt64 &&& 63)))) Q
    )
  )
set_option maxRecDepth 10000 in
theorem g_X4_prepareThreads_9 {γ : ga_T} {l1 : Int32} {l2 : Int32} {σ : st_T} {Q : rs_T → st_T → Prop} (zw : Wd σ) (zh : p_X4_prepareThreads_9 γ l1 l2 σ Q) : vv_ γ m_X4_prepareThreads 2 9 [(0, .ref 153), (1, .int l1), (2, .int l2)] [] σ Q := by
  unfold p_X4_prepareThreads_9 at zh
  refine vr_iload_n dX4_prepareThreads_9 rfl rfl ?_
  refine vr_aload_n dX4_prepareThreads_10 rfl rfl ?_
  refine vr_getR dX4_prepareThreads_11 fl_LitmusTester_Machine_56 (wC_153 zw) (Or.inl ⟨_, rfl⟩) (wR_153_0 zw) ?_
  obtain ⟨v3, s1, zw1, zf_2, zh⟩ := zh
  refine vc_V (As := []) (rest := [.int l2]) dX4_prepareThreads_14 cV_LitmusTester_Machine_85 (wC_132 zw) rfl rfl (Nat.le_of_ble_eq_true rfl) (Nat.le_of_ble_eq_true rfl) (co_n zf_2 ?_)
  replace zw := zw1
  refine vr_ic_ge dX4_prepareThreads_17 (tgt := 89) rfl (fun zd_4 => ?_) (fun zd_4 => ?_)
  · replace zh := zh.1 zd_4
    exact vr_vret dX4_prepareThreads_89 rfl zh
  · replace zh := zh.2 zd_4
    refine vr_iload_n dX4_prepareThreads_20 rfl rfl ?_
    refine vr_iconst dX4_prepareThreads_21 (v := (4 : Int32)) (by decide) ?_
    refine vr_ic_ge dX4_prepareThreads_22 (tgt := 89) rfl (fun zd_5 => ?_) (fun zd_5 => ?_)
    · replace zh := zh.1 zd_5
      exact vr_vret dX4_prepareThreads_89 rfl zh
    · replace zh := zh.2 zd_5
      refine vr_aload_n dX4_prepareThreads_25 rfl rfl ?_
      refine vr_getR dX4_prepareThreads_26 fl_LitmusTester_Machine_30 (wC_153 zw) (Or.inr ⟨_, rfl⟩) (wR_153_7 zw) ?_
      refine vr_iload_n dX4_prepareThreads_29 rfl rfl ?_
      refine vr_iload_n dX4_prepareThreads_30 rfl rfl ?_
      obtain ⟨zi_6, zh⟩ := zh
      refine vr_iastore dX4_prepareThreads_31 (wS_160 zw) zi_6 ?_
      refine vr_aload_n dX4_prepareThreads_32 rfl rfl ?_
      refine vr_getR dX4_prepareThreads_33 fl_LitmusTester_Machine_33 (wC_153 zw) (Or.inr ⟨_, rfl⟩) (wR_153_8 zw) ?_
      refine vr_iload_n dX4_prepareThreads_36 rfl rfl ?_
      refine vr_aload_n dX4_prepareThreads_37 rfl rfl ?_
      refine vr_getR dX4_prepareThreads_38 fl_LitmusTester_Machine_56 (wC_153 zw) (Or.inl ⟨_, rfl⟩) (wR_153_0 zw) ?_
      refine vr_iload_n dX4_prepareThreads_41 rfl rfl ?_
      obtain ⟨v9, s7, zw1, zf_8, zh⟩ := zh
      refine vc_V (As := [.int l2]) (rest := [.int l2, .ref 161]) dX4_prepareThreads_42 cV_LitmusTester_Machine_88 (wC_132 zw) rfl rfl (Nat.le_of_ble_eq_true rfl) (Nat.le_of_ble_eq_true rfl) (co_n zf_8 ?_)
      replace zw := zw1
      obtain ⟨zi_10, zh⟩ := zh
      refine vr_iastore dX4_prepareThreads_45 (wS_161 zw) zi_10 ?_
      refine vr_aload_n dX4_prepareThreads_46 rfl rfl ?_
      refine vr_getR dX4_prepareThreads_47 fl_LitmusTester_Machine_36 (wC_153 zw) (Or.inr ⟨_, rfl⟩) (wR_153_9 zw) ?_
      refine vr_iload_n dX4_prepareThreads_50 rfl rfl ?_
      refine vr_iconst dX4_prepareThreads_51 (v := (0 : Int32)) (by decide) ?_
      obtain ⟨zi_11, zh⟩ := zh
      refine vr_iastore dX4_prepareThreads_52 (wS_162 zw) zi_11 ?_
      refine vr_iload_n dX4_prepareThreads_53 rfl rfl ?_
      refine vr_aload_n dX4_prepareThreads_54 rfl rfl ?_
      refine vr_getR dX4_prepareThreads_55 fl_LitmusTester_Machine_33 (wC_153 zw) (Or.inr ⟨_, rfl⟩) (wR_153_8 zw) ?_
      refine vr_iload_n dX4_prepareThreads_58 rfl rfl ?_
      obtain ⟨zi_12, zh⟩ := zh
      refine vr_iaload dX4_prepareThreads_59 (wS_161 zw) zi_12 ?_
      refine vv_top (w := .int (st_I (pt_I s7 161 l2.toNatClampNeg v9) 161 l2.toNatClampNeg)) rfl ?_
      refine vr_iadd dX4_prepareThreads_60 ?_
      refine vr_istore_n dX4_prepareThreads_61 rfl (Nat.le_of_ble_eq_true rfl) (vv_eq (ls' := [(0, .ref 153), (1, .int (l1 + (st_I (pt_I s7 161 l2.toNatClampNeg v9) 161 l2.toNatClampNeg))), (2, .int l2)]) rfl ?_)
      refine vr_aload_n dX4_prepareThreads_62 rfl rfl ?_
      refine vr_dup dX4_prepareThreads_63 rfl ?_
      refine vr_getL dX4_prepareThreads_64 fl_LitmusTester_Machine_53 (wC_153 zw) rfl ?_
      refine vv_top (w := .long (st_L s7 153 14)) rfl ?_
      refine vr_aload_n dX4_prepareThreads_67 rfl rfl ?_
      refine vr_getR dX4_prepareThreads_68 fl_LitmusTester_Machine_33 (wC_153 zw) (Or.inr ⟨_, rfl⟩) (wR_153_8 zw) ?_
      refine vr_iload_n dX4_prepareThreads_71 rfl rfl ?_
      obtain ⟨zi_13, zh⟩ := zh
      refine vr_iaload dX4_prepareThreads_72 (wS_161 zw) zi_13 ?_
      refine vv_top (w := .int (st_I (pt_I s7 161 l2.toNatClampNeg v9) 161 l2.toNatClampNeg)) rfl ?_
      refine vr_i2l dX4_prepareThreads_73 ?_
      refine vr_iload_n dX4_prepareThreads_74 rfl rfl ?_
      obtain ⟨v16, s14, zw1, zf_15, zh⟩ := zh
      refine vc_S (As := [.int l2]) (rest := [.long ((st_I (pt_I s7 161 l2.toNatClampNeg v9) 161 l2.toNatClampNeg).toInt64), .long (st_L s7 153 14), .ref 153]) dX4_prepareThreads_75 cS_LitmusTester_Machine_91 rfl rfl (Nat.le_of_ble_eq_true rfl) (Nat.le_of_ble_eq_true rfl) (co_n zf_15 ?_)
      replace zw := zw1
      refine vr_lshl dX4_prepareThreads_78 ?_
      refine vr_lor dX4_prepareThreads_79 ?_
      refine vr_putL dX4_prepareThreads_80 fl_LitmusTester_Machine_53 (wC_153 zw) rfl (fz_4_14) ?_
      refine vr_iinc dX4_prepareThreads_83 (x := l2) (v := (l2 + 1)) rfl (ii_ (by decide)) (Nat.le_of_ble_eq_true rfl) (vv_eq (ls' := [(0, .ref 153), (1, .int (l1 + (st_I (pt_I s7 161 l2.toNatClampNeg v9) 161 l2.toNatClampNeg))), (2, .int (l2 + 1))]) rfl ?_)
      refine vr_goto dX4_prepareThreads_86 (tgt := 9) rfl ?_
      exact vv_sub (ls' := [(0, .ref 153), (1, .int (l1 + (st_I (pt_I s7 161 l2.toNatClampNeg v9) 161 l2.toNatClampNeg))), (2, .int (l2 + 1))]) ⟨rfl, rfl, rfl, trivial⟩ zh
def p_X4_prepareInstruction_0 (γ : ga_T) (l1 : Int32) (σ : st_T) (Q : rs_T → st_T → Prop) : Prop :=
  (l1 < (0 : Int32) →
    Q (.inl none) σ
  ) ∧ (¬ l1 < (0 : Int32) →
    (l1 < (10 : Int32) →
      ∃ (v5 : Int32) (s3 : st_T), Wd s3 ∧ fn_ γ m_X7_property 0 [.ref 132, .int l1, .int (0 : Int32)] σ (.int v5) s3 ∧
      ∃ (v8 : Int32) (s6 : st_T), Wd s6 ∧ fn_ γ m_X7_property 0 [.ref 132, .int l1, .int (5 : Int32)] s3 (.int v8) s6 ∧
      ∃ (v11 : Int32) (s9 : st_T), Wd s9 ∧ fn_ γ m_X7_property 0 [.ref 132, .int l1, .int (1 : Int32)] s6 (.int v11) s9 ∧
      vp_in l1 10 ∧
      ∃ (v15 : Int32) (s13 : st_T), Wd s13 ∧ fn_ γ m_X7_property 0 [.ref 132, .int l1, .int (2 : Int32)] (pt_I s9 154 l1.toNatClampNeg v11) (.int v15) s13 ∧
      vp_in l1 10 ∧
      ∃ (v19 : Int32) (s17 : st_T), Wd s17 ∧ fn_ γ m_X7_property 0 [.ref 132, .int l1, .int (4 : Int32)] (pt_I s13 155 l1.toNatClampNeg v15) (.int v19) s17 ∧
      vp_in l1 10 ∧
      vp_in l1 10 ∧
      ∃ (v24 : Int32) (s22 : st_T), Wd s22 ∧ fn_ γ m_X7_locationShift 0 [.ref 132, .int (st_I s17 155 l1.toNatClampNeg)] (pt_I s17 159 l1.toNatClampNeg v19) (.int v24) s22 ∧
      vp_in l1 10 ∧
      ∃ (v28 : Int32) (s26 : st_T), Wd s26 ∧ fn_ γ m_X7_property 0 [.ref 132, .int l1, .int (3 : Int32)] (pt_I s22 156 l1.toNatClampNeg v24) (.int v28) s26 ∧
      ∃ (v31 : Int32) (s29 : st_T), Wd s29 ∧ fn_ γ m_X7_registerShift 1 [.ref 132, .int v5, .int v28] s26 (.int v31) s29 ∧
      vp_in l1 10 ∧
      (v8 = (-1 : Int32) →
        vp_in l1 10 ∧
        (v5 < (0 : Int32) →
          vp_in l1 10 ∧
          ((st_I s29 154 l1.toNatClampNeg) = (0 : Int32) →
            Q (.inl none) (pt_I (pt_I s29 157 l1.toNatClampNeg v31) 158 l1.toNatClampNeg (-1 : Int32))
          ) ∧ (¬ (st_I s29 154 l1.toNatClampNeg) = (0 : Int32) →
            Q (.inl none) (pt_I (pt_I s29 157 l1.toNatClampNeg v31) 158 l1.toNatClampNeg (-1 : Int32))
          )
        ) ∧ (¬ v5 < (0 : Int32) →
          ((4 : Int32) ≤ v5 →
            vp_in l1 10 ∧
            ((st_I s29 154 l1.toNatClampNeg) = (0 : Int32) →
              Q (.inl none) (pt_I (pt_I s29 157 l1.toNatClampNeg v31) 158 l1.toNatClampNeg (-1 : Int32))
            ) ∧ (¬ (st_I s29 154 l1.toNatClampNeg) = (0 : Int32) →
              Q (.inl none) (pt_I (pt_I s29 157 l1.toNatClampNeg v31) 158 l1.toNatClampNeg (-1 : Int32))
            )
          ) ∧ (¬ (4 : Int32) ≤ v5 →
            vp_in l1 10 ∧
            ((st_I s29 155 l1.toNatClampNeg) < (0 : Int32) →
              vp_in l1 10 ∧
              ((st_I s29 154 l1.toNatClampNeg) = (0 : Int32) →
                Q (.inl none) (pt_I (pt_I s29 157 l1.toNatClampNeg v31) 158 l1.toNatClampNeg (-1 : Int32))
              ) ∧ (¬ (st_I s29 154 l1.toNatClampNeg) = (0 : Int32) →
                Q (.inl none) (pt_I (pt_I s29 157 l1.toNatClampNeg v31) 158 l1.toNatClampNeg (-1 : Int32))
              )
            ) ∧ (¬ (st_I s29 155 l1.toNatClampNeg) < (0 : Int32) →
              vp_in l1 10 ∧
              ((3 : Int32) ≤ (st_I s29 155 l1.toNatClampNeg) →
                vp_in l1 10 ∧
                ((st_I s29 154 l1.toNatClampNeg) = (0 : Int32) →
                  Q (.inl none) (pt_I (pt_I s29 157 l1.toNatClampNeg v31) 158 l1.toNatClampNeg (-1 : Int32))
                ) ∧ (¬ (st_I s29 154 l1.toNatClampNeg) = (0 : Int32) →
                  Q (.inl none) (pt_I (pt_I s29 157 l1.toNatClampNeg v31) 158 l1.toNatClampNeg (-1 : Int32))
                )
              ) ∧ (¬ (3 : Int32) ≤ (st_I s29 155 l1.toNatClampNeg) →
                vp_in l1 10 ∧
                ((st_I s29 154 l1.toNatClampNeg) = (0 : Int32) →
                  vp_in v5 4 ∧
                  vp_in v5 4 ∧
                  vp_in l1 10 ∧
                  vp_in (st_I s29 155 l1.toNatClampNeg) 3 ∧
                  vp_in (st_I s29 155 l1.toNatClampNeg) 3 ∧
                  Q (.inl none) (pt_I (pt_I (pt_I (pt_I s29 157 l1.toNatClampNeg v31) 158 l1.toNatClampNeg (-1 : Int32)) 162 v5.toNatClampNeg ((st_I s29 162 v5.toNatClampNeg) ||| ((1 : Int32) <<< (l1 &&& 31)))) 163 (st_I s29 155 l1.toNatClampNeg).toNatClampNeg ((st_I s29 163 (st_I s29 155 l1.toNatClampNeg).toNatClampNeg) ||| ((1 : Int32) <<< (l1 &&& 31))))
                ) ∧ (¬ (st_I s29 154 l1.toNatClampNeg) = (0 : Int32) →
                  Q (.inl none) (pt_I (pt_I s29 157 l1.toNatClampNeg v31) 158 l1.toNatClampNeg (-1 : Int32))
                )
              )
            )
          )
        )
      ) ∧ (¬ v8 = (-1 : Int32) →
        ∃ (v58 : Int32) (s56 : st_T), Wd s56 ∧ fn_ γ m_X7_registerShift 1 [.ref 132, .int v5, .int v8] (pt_I s29 157 l1.toNatClampNeg v31) (.int v58) s56 ∧
        vp_in l1 10 ∧
        (v5 < (0 : Int32) →
          vp_in l1 10 ∧
          ((st_I s56 154 l1.toNatClampNeg) = (0 : Int32) →
            Q (.inl none) (pt_I s56 158 l1.toNatClampNeg v58)
          ) ∧ (¬ (st_I s56 154 l1.toNatClampNeg) = (0 : Int32) →
            Q (.inl none) (pt_I s56 158 l1.toNatClampNeg v58)
          )
        ) ∧ (¬ v5 < (0 : Int32) →
          ((4 : Int32) ≤ v5 →
            vp_in l1 10 ∧
            ((st_I s56 154 l1.toNatClampNeg) = (0 : Int32) →
              Q (.inl none) (pt_I s56 158 l1.toNatClampNeg v58)
            ) ∧ (¬ (st_I s56 154 l1.toNatClampNeg) = (0 : Int32) →
              Q (.inl none) (pt_I s56 158 l1.toNatClampNeg v58)
            )
          ) ∧ (¬ (4 : Int32) ≤ v5 →
            vp_in l1 10 ∧
            ((st_I s56 155 l1.toNatClampNeg) < (0 : Int32) →
              vp_in l1 10 ∧
              ((st_I s56 154 l1.toNatClampNeg) = (0 : Int32) →
                Q (.inl none) (pt_I s56 158 l1.toNatClampNeg v58)
              ) ∧ (¬ (st_I s56 154 l1.toNatClampNeg) = (0 : Int32) →
                Q (.inl none) (pt_I s56 158 l1.toNatClampNeg v58)
              )
            ) ∧ (¬ (st_I s56 155 l1.toNatClampNeg) < (0 : Int32) →
              vp_in l1 10 ∧
              ((3 : Int32) ≤ (st_I s56 155 l1.toNatClampNeg) →
                vp_in l1 10 ∧
                ((st_I s56 154 l1.toNatClampNeg) = (0 : Int32) →
                  Q (.inl none) (pt_I s56 158 l1.toNatClampNeg v58)
                ) ∧ (¬ (st_I s56 154 l1.toNatClampNeg) = (0 : Int32) →
                  Q (.inl none) (pt_I s56 158 l1.toNatClampNeg v58)
                )
              ) ∧ (¬ (3 : Int32) ≤ (st_I s56 155 l1.toNatClampNeg) →
                vp_in l1 10 ∧
                ((st_I s56 154 l1.toNatClampNeg) = (0 : Int32) →
                  vp_in v5 4 ∧
                  vp_in v5 4 ∧
                  vp_in l1 10 ∧
                  vp_in (st_I s56 155 l1.toNatClampNeg) 3 ∧
                  vp_in (st_I s56 155 l1.toNatClampNeg) 3 ∧
                  Q (.inl none) (pt_I (pt_I (pt_I s56 158 l1.toNatClampNeg v58) 162 v5.toNatClampNeg ((st_I s56 162 v5.toNatClampNeg) ||| ((1 : Int32) <<< (l1 &&& 31)))) 163 (st_I s56 155 l1.toNatClampNeg).toNatClampNeg ((st_I s56 163 (st_I s56 155 l1.toNatClampNeg).toNatClampNeg) ||| ((1 : Int32) <<< (l1 &&& 31))))
                ) ∧ (¬ (st_I s56 154 l1.toNatClampNeg) = (0 : Int32) →
                  Q (.inl none) (pt_I s56 158 l1.toNatClampNeg v58)
                )
              )
            )
          )
        )
      )
    ) ∧ (¬ l1 < (10 : Int32) →
      Q (.inl none) σ
    )
  )
set_option maxRecDepth 10000 in
theorem g_X4_prepareInstruction_0 {γ : ga_T} {l1 : Int32} {σ : st_T} {Q : rs_T → st_T → Prop} (zw : Wd σ) (zh : p_X4_prepareInstruction_0 γ l1 σ Q) : vv_ γ m_X4_prepareInstruction 2 0 [(0, .ref 153), (1, .int l1)] [] σ Q := by
  unfold p_X4_prepareInstruction_0 at zh
  refine vr_iload_n dX4_prepareInstruction_0 rfl rfl ?_
  refine vr_if_lt dX4_prepareInstruction_1 (tgt := 10) rfl (fun zd_1 => ?_) (fun zd_1 => ?_)
  · replace zh := zh.1 zd_1
    exact vr_vret dX4_prepareInstruction_10 rfl zh
  · replace zh := zh.2 zd_1
    refine vr_iload_n dX4_prepareInstruction_4 rfl rfl ?_
    refine vr_bipush dX4_prepareInstruction_5 (v := (10 : Int32)) (by decide) ?_
    refine vr_ic_lt dX4_prepareInstruction_7 (tgt := 11) rfl (fun zd_2 => ?_) (fun zd_2 => ?_)
    · replace zh := zh.1 zd_2
      refine vr_aload_n dX4_prepareInstruction_11 rfl rfl ?_
      refine vr_getR dX4_prepareInstruction_12 fl_LitmusTester_Machine_56 (wC_153 zw) (Or.inl ⟨_, rfl⟩) (wR_153_0 zw) ?_
      refine vr_iload_n dX4_prepareInstruction_15 rfl rfl ?_
      refine vr_iconst dX4_prepareInstruction_16 (v := (0 : Int32)) (by decide) ?_
      obtain ⟨v5, s3, zw1, zf_4, zh⟩ := zh
      refine vc_V (As := [.int l1, .int (0 : Int32)]) (rest := []) dX4_prepareInstruction_17 cV_LitmusTester_Machine_94 (wC_132 zw) rfl rfl (Nat.le_of_ble_eq_true rfl) (Nat.le_of_ble_eq_true rfl) (co_n zf_4 ?_)
      replace zw := zw1
      refine vr_istore_n dX4_prepareInstruction_20 rfl (Nat.le_of_ble_eq_true rfl) (vv_eq (ls' := [(0, .ref 153), (1, .int l1), (2, .int v5)]) rfl ?_)
      refine vr_aload_n dX4_prepareInstruction_21 rfl rfl ?_
      refine vr_getR dX4_prepareInstruction_22 fl_LitmusTester_Machine_56 (wC_153 zw) (Or.inl ⟨_, rfl⟩) (wR_153_0 zw) ?_
      refine vr_iload_n dX4_prepareInstruction_25 rfl rfl ?_
      refine vr_iconst dX4_prepareInstruction_26 (v := (5 : Int32)) (by decide) ?_
      obtain ⟨v8, s6, zw1, zf_7, zh⟩ := zh
      refine vc_V (As := [.int l1, .int (5 : Int32)]) (rest := []) dX4_prepareInstruction_27 cV_LitmusTester_Machine_94 (wC_132 zw) rfl rfl (Nat.le_of_ble_eq_true rfl) (Nat.le_of_ble_eq_true rfl) (co_n zf_7 ?_)
      replace zw := zw1
      refine vr_istore_n dX4_prepareInstruction_30 rfl (Nat.le_of_ble_eq_true rfl) (vv_eq (ls' := [(0, .ref 153), (1, .int l1), (2, .int v5), (3, .int v8)]) rfl ?_)
      refine vr_aload_n dX4_prepareInstruction_31 rfl rfl ?_
      refine vr_getR dX4_prepareInstruction_32 fl_LitmusTester_Machine_11 (wC_153 zw) (Or.inr ⟨_, rfl⟩) (wR_153_1 zw) ?_
      refine vr_iload_n dX4_prepareInstruction_35 rfl rfl ?_
      refine vr_aload_n dX4_prepareInstruction_36 rfl rfl ?_
      refine vr_getR dX4_prepareInstruction_37 fl_LitmusTester_Machine_56 (wC_153 zw) (Or.inl ⟨_, rfl⟩) (wR_153_0 zw) ?_
      refine vr_iload_n dX4_prepareInstruction_40 rfl rfl ?_
      refine vr_iconst dX4_prepareInstruction_41 (v := (1 : Int32)) (by decide) ?_
      obtain ⟨v11, s9, zw1, zf_10, zh⟩ := zh
      refine vc_V (As := [.int l1, .int (1 : Int32)]) (rest := [.int l1, .ref 154]) dX4_prepareInstruction_42 cV_LitmusTester_Machine_94 (wC_132 zw) rfl rfl (Nat.le_of_ble_eq_true rfl) (Nat.le_of_ble_eq_true rfl) (co_n zf_10 ?_)
      replace zw := zw1
      obtain ⟨zi_12, zh⟩ := zh
      refine vr_iastore dX4_prepareInstruction_45 (wS_154 zw) zi_12 ?_
      refine vr_aload_n dX4_prepareInstruction_46 rfl rfl ?_
      refine vr_getR dX4_prepareInstruction_47 fl_LitmusTester_Machine_15 (wC_153 zw) (Or.inr ⟨_, rfl⟩) (wR_153_2 zw) ?_
      refine vr_iload_n dX4_prepareInstruction_50 rfl rfl ?_
      refine vr_aload_n dX4_prepareInstruction_51 rfl rfl ?_
      refine vr_getR dX4_prepareInstruction_52 fl_LitmusTester_Machine_56 (wC_153 zw) (Or.inl ⟨_, rfl⟩) (wR_153_0 zw) ?_
      refine vr_iload_n dX4_prepareInstruction_55 rfl rfl ?_
      refine vr_iconst dX4_prepareInstruction_56 (v := (2 : Int32)) (by decide) ?_
      obtain ⟨v15, s13, zw1, zf_14, zh⟩ := zh
      refine vc_V (As := [.int l1, .int (2 : Int32)]) (rest := [.int l1, .ref 155]) dX4_prepareInstruction_57 cV_LitmusTester_Machine_94 (wC_132 zw) rfl rfl (Nat.le_of_ble_eq_true rfl) (Nat.le_of_ble_eq_true rfl) (co_n zf_14 ?_)
      replace zw := zw1
      obtain ⟨zi_16, zh⟩ := zh
      refine vr_iastore dX4_prepareInstruction_60 (wS_155 zw) zi_16 ?_
      refine vr_aload_n dX4_prepareInstruction_61 rfl rfl ?_
      refine vr_getR dX4_prepareInstruction_62 fl_LitmusTester_Machine_27 (wC_153 zw) (Or.inr ⟨_, rfl⟩) (wR_153_6 zw) ?_
      refine vr_iload_n dX4_prepareInstruction_65 rfl rfl ?_
      refine vr_aload_n dX4_prepareInstruction_66 rfl rfl ?_
      refine vr_getR dX4_prepareInstruction_67 fl_LitmusTester_Machine_56 (wC_153 zw) (Or.inl ⟨_, rfl⟩) (wR_153_0 zw) ?_
      refine vr_iload_n dX4_prepareInstruction_70 rfl rfl ?_
      refine vr_iconst dX4_prepareInstruction_71 (v := (4 : Int32)) (by decide) ?_
      obtain ⟨v19, s17, zw1, zf_18, zh⟩ := zh
      refine vc_V (As := [.int l1, .int (4 : Int32)]) (rest := [.int l1, .ref 159]) dX4_prepareInstruction_72 cV_LitmusTester_Machine_94 (wC_132 zw) rfl rfl (Nat.le_of_ble_eq_true rfl) (Nat.le_of_ble_eq_true rfl) (co_n zf_18 ?_)
      replace zw := zw1
      obtain ⟨zi_20, zh⟩ := zh
      refine vr_iastore dX4_prepareInstruction_75 (wS_159 zw) zi_20 ?_
      refine vr_aload_n dX4_prepareInstruction_76 rfl rfl ?_
      refine vr_getR dX4_prepareInstruction_77 fl_LitmusTester_Machine_18 (wC_153 zw) (Or.inr ⟨_, rfl⟩) (wR_153_3 zw) ?_
      refine vr_iload_n dX4_prepareInstruction_80 rfl rfl ?_
      refine vr_aload_n dX4_prepareInstruction_81 rfl rfl ?_
      refine vr_getR dX4_prepareInstruction_82 fl_LitmusTester_Machine_56 (wC_153 zw) (Or.inl ⟨_, rfl⟩) (wR_153_0 zw) ?_
      refine vr_aload_n dX4_prepareInstruction_85 rfl rfl ?_
      refine vr_getR dX4_prepareInstruction_86 fl_LitmusTester_Machine_15 (wC_153 zw) (Or.inr ⟨_, rfl⟩) (wR_153_2 zw) ?_
      refine vr_iload_n dX4_prepareInstruction_89 rfl rfl ?_
      obtain ⟨zi_21, zh⟩ := zh
      refine vr_iaload dX4_prepareInstruction_90 (wS_155 zw) zi_21 ?_
      refine vv_top (w := .int (st_I s17 155 l1.toNatClampNeg)) rfl ?_
      obtain ⟨v24, s22, zw1, zf_23, zh⟩ := zh
      refine vc_V (As := [.int (st_I s17 155 l1.toNatClampNeg)]) (rest := [.int l1, .ref 156]) dX4_prepareInstruction_91 cV_LitmusTester_Machine_82 (wC_132 zw) rfl rfl (Nat.le_of_ble_eq_true rfl) (Nat.le_of_ble_eq_true rfl) (co_n zf_23 ?_)
      replace zw := zw1
      obtain ⟨zi_25, zh⟩ := zh
      refine vr_iastore dX4_prepareInstruction_94 (wS_156 zw) zi_25 ?_
      refine vr_aload_n dX4_prepareInstruction_95 rfl rfl ?_
      refine vr_getR dX4_prepareInstruction_96 fl_LitmusTester_Machine_21 (wC_153 zw) (Or.inr ⟨_, rfl⟩) (wR_153_4 zw) ?_
      refine vr_iload_n dX4_prepareInstruction_99 rfl rfl ?_
      refine vr_aload_n dX4_prepareInstruction_100 rfl rfl ?_
      refine vr_getR dX4_prepareInstruction_101 fl_LitmusTester_Machine_56 (wC_153 zw) (Or.inl ⟨_, rfl⟩) (wR_153_0 zw) ?_
      refine vr_iload_n dX4_prepareInstruction_104 rfl rfl ?_
      refine vr_aload_n dX4_prepareInstruction_105 rfl rfl ?_
      refine vr_getR dX4_prepareInstruction_106 fl_LitmusTester_Machine_56 (wC_153 zw) (Or.inl ⟨_, rfl⟩) (wR_153_0 zw) ?_
      refine vr_iload_n dX4_prepareInstruction_109 rfl rfl ?_
      refine vr_iconst dX4_prepareInstruction_110 (v := (3 : Int32)) (by decide) ?_
      obtain ⟨v28, s26, zw1, zf_27, zh⟩ := zh
      refine vc_V (As := [.int l1, .int (3 : Int32)]) (rest := [.int v5, .ref 132, .int l1, .ref 157]) dX4_prepareInstruction_111 cV_LitmusTester_Machine_94 (wC_132 zw) rfl rfl (Nat.le_of_ble_eq_true rfl) (Nat.le_of_ble_eq_true rfl) (co_n zf_27 ?_)
      replace zw := zw1
      obtain ⟨v31, s29, zw1, zf_30, zh⟩ := zh
      refine vc_V (As := [.int v5, .int v28]) (rest := [.int l1, .ref 157]) dX4_prepareInstruction_114 cV_LitmusTester_Machine_98 (wC_132 zw) rfl rfl (Nat.le_of_ble_eq_true rfl) (Nat.le_of_ble_eq_true rfl) (co_n zf_30 ?_)
      replace zw := zw1
      obtain ⟨zi_32, zh⟩ := zh
      refine vr_iastore dX4_prepareInstruction_117 (wS_157 zw) zi_32 ?_
      refine vr_aload_n dX4_prepareInstruction_118 rfl rfl ?_
      refine vr_getR dX4_prepareInstruction_119 fl_LitmusTester_Machine_24 (wC_153 zw) (Or.inr ⟨_, rfl⟩) (wR_153_5 zw) ?_
      refine vr_iload_n dX4_prepareInstruction_122 rfl rfl ?_
      refine vr_iload_n dX4_prepareInstruction_123 rfl rfl ?_
      refine vr_iconst dX4_prepareInstruction_124 (v := (-1 : Int32)) (by decide) ?_
      refine vr_ic_ne dX4_prepareInstruction_125 (tgt := 132) rfl (fun zd_33 => ?_) (fun zd_33 => ?_)
      · replace zh := zh.2 zd_33
        refine vr_aload_n dX4_prepareInstruction_132 rfl rfl ?_
        refine vr_getR dX4_prepareInstruction_133 fl_LitmusTester_Machine_56 (wC_153 zw) (Or.inl ⟨_, rfl⟩) (wR_153_0 zw) ?_
        refine vr_iload_n dX4_prepareInstruction_136 rfl rfl ?_
        refine vr_iload_n dX4_prepareInstruction_137 rfl rfl ?_
        obtain ⟨v58, s56, zw1, zf_57, zh⟩ := zh
        refine vc_V (As := [.int v5, .int v8]) (rest := [.int l1, .ref 158]) dX4_prepareInstruction_138 cV_LitmusTester_Machine_98 (wC_132 zw) rfl rfl (Nat.le_of_ble_eq_true rfl) (Nat.le_of_ble_eq_true rfl) (co_n zf_57 ?_)
        replace zw := zw1
        obtain ⟨zi_59, zh⟩ := zh
        refine vr_iastore dX4_prepareInstruction_141 (wS_158 zw) zi_59 ?_
        refine vr_iload_n dX4_prepareInstruction_142 rfl rfl ?_
        refine vr_if_lt dX4_prepareInstruction_143 (tgt := 174) rfl (fun zd_60 => ?_) (fun zd_60 => ?_)
        · replace zh := zh.1 zd_60
          refine vr_iconst dX4_prepareInstruction_174 (v := (0 : Int32)) (by decide) ?_
          refine vr_istore dX4_prepareInstruction_175 (Nat.le_of_ble_eq_true rfl) (vv_eq (ls' := [(0, .ref 153), (1, .int l1), (2, .int v5), (3, .int v8), (4, .int (0 : Int32))]) rfl ?_)
          refine vr_aload_n dX4_prepareInstruction_177 rfl rfl ?_
          refine vr_getR dX4_prepareInstruction_178 fl_LitmusTester_Machine_11 (wC_153 zw) (Or.inr ⟨_, rfl⟩) (wR_153_1 zw) ?_
          refine vr_iload_n dX4_prepareInstruction_181 rfl rfl ?_
          obtain ⟨zi_61, zh⟩ := zh
          refine vr_iaload dX4_prepareInstruction_182 (wS_154 zw) zi_61 ?_
          refine vv_top (w := .int (st_I s56 154 l1.toNatClampNeg)) rfl ?_
          refine vr_if_ne dX4_prepareInstruction_183 (tgt := 220) rfl (fun zd_62 => ?_) (fun zd_62 => ?_)
          · replace zh := zh.2 zd_62
            exact vr_vret dX4_prepareInstruction_220 rfl zh
          · replace zh := zh.1 zd_62
            refine vr_iload dX4_prepareInstruction_186 rfl ?_
            refine vr_if_eq dX4_prepareInstruction_188 (tgt := 220) rfl (fun _ => ?_) (fun c => absurd (by decide) c)
            exact vr_vret dX4_prepareInstruction_220 rfl zh
        · replace zh := zh.2 zd_60
          refine vr_iload_n dX4_prepareInstruction_146 rfl rfl ?_
          refine vr_iconst dX4_prepareInstruction_147 (v := (4 : Int32)) (by decide) ?_
          refine vr_ic_ge dX4_prepareInstruction_148 (tgt := 174) rfl (fun zd_63 => ?_) (fun zd_63 => ?_)
          · replace zh := zh.1 zd_63
            refine vr_iconst dX4_prepareInstruction_174 (v := (0 : Int32)) (by decide) ?_
            refine vr_istore dX4_prepareInstruction_175 (Nat.le_of_ble_eq_true rfl) (vv_eq (ls' := [(0, .ref 153), (1, .int l1), (2, .int v5), (3, .int v8), (4, .int (0 : Int32))]) rfl ?_)
            refine vr_aload_n dX4_prepareInstruction_177 rfl rfl ?_
            refine vr_getR dX4_prepareInstruction_178 fl_LitmusTester_Machine_11 (wC_153 zw) (Or.inr ⟨_, rfl⟩) (wR_153_1 zw) ?_
            refine vr_iload_n dX4_prepareInstruction_181 rfl rfl ?_
            obtain ⟨zi_64, zh⟩ := zh
            refine vr_iaload dX4_prepareInstruction_182 (wS_154 zw) zi_64 ?_
            refine vv_top (w := .int (st_I s56 154 l1.toNatClampNeg)) rfl ?_
            refine vr_if_ne dX4_prepareInstruction_183 (tgt := 220) rfl (fun zd_65 => ?_) (fun zd_65 => ?_)
            · replace zh := zh.2 zd_65
              exact vr_vret dX4_prepareInstruction_220 rfl zh
            · replace zh := zh.1 zd_65
              refine vr_iload dX4_prepareInstruction_186 rfl ?_
              refine vr_if_eq dX4_prepareInstruction_188 (tgt := 220) rfl (fun _ => ?_) (fun c => absurd (by decide) c)
              exact vr_vret dX4_prepareInstruction_220 rfl zh
          · replace zh := zh.2 zd_63
            refine vr_aload_n dX4_prepareInstruction_151 rfl rfl ?_
            refine vr_getR dX4_prepareInstruction_152 fl_LitmusTester_Machine_15 (wC_153 zw) (Or.inr ⟨_, rfl⟩) (wR_153_2 zw) ?_
            refine vr_iload_n dX4_prepareInstruction_155 rfl rfl ?_
            obtain ⟨zi_66, zh⟩ := zh
            refine vr_iaload dX4_prepareInstruction_156 (wS_155 zw) zi_66 ?_
            refine vv_top (w := .int (st_I s56 155 l1.toNatClampNeg)) rfl ?_
            refine vr_if_lt dX4_prepareInstruction_157 (tgt := 174) rfl (fun zd_67 => ?_) (fun zd_67 => ?_)
            · replace zh := zh.1 zd_67
              refine vr_iconst dX4_prepareInstruction_174 (v := (0 : Int32)) (by decide) ?_
              refine vr_istore dX4_prepareInstruction_175 (Nat.le_of_ble_eq_true rfl) (vv_eq (ls' := [(0, .ref 153), (1, .int l1), (2, .int v5), (3, .int v8), (4, .int (0 : Int32))]) rfl ?_)
              refine vr_aload_n dX4_prepareInstruction_177 rfl rfl ?_
              refine vr_getR dX4_prepareInstruction_178 fl_LitmusTester_Machine_11 (wC_153 zw) (Or.inr ⟨_, rfl⟩) (wR_153_1 zw) ?_
              refine vr_iload_n dX4_prepareInstruction_181 rfl rfl ?_
              obtain ⟨zi_68, zh⟩ := zh
              refine vr_iaload dX4_prepareInstruction_182 (wS_154 zw) zi_68 ?_
              refine vv_top (w := .int (st_I s56 154 l1.toNatClampNeg)) rfl ?_
              refine vr_if_ne dX4_prepareInstruction_183 (tgt := 220) rfl (fun zd_69 => ?_) (fun zd_69 => ?_)
              · replace zh := zh.2 zd_69
                exact vr_vret dX4_prepareInstruction_220 rfl zh
              · replace zh := zh.1 zd_69
                refine vr_iload dX4_prepareInstruction_186 rfl ?_
                refine vr_if_eq dX4_prepareInstruction_188 (tgt := 220) rfl (fun _ => ?_) (fun c => absurd (by decide) c)
                exact vr_vret dX4_prepareInstruction_220 rfl zh
            · replace zh := zh.2 zd_67
              refine vr_aload_n dX4_prepareInstruction_160 rfl rfl ?_
              refine vr_getR dX4_prepareInstruction_161 fl_LitmusTester_Machine_15 (wC_153 zw) (Or.inr ⟨_, rfl⟩) (wR_153_2 zw) ?_
              refine vr_iload_n dX4_prepareInstruction_164 rfl rfl ?_
              obtain ⟨zi_70, zh⟩ := zh
              refine vr_iaload dX4_prepareInstruction_165 (wS_155 zw) zi_70 ?_
              refine vv_top (w := .int (st_I s56 155 l1.toNatClampNeg)) rfl ?_
              refine vr_iconst dX4_prepareInstruction_166 (v := (3 : Int32)) (by decide) ?_
              refine vr_ic_ge dX4_prepareInstruction_167 (tgt := 174) rfl (fun zd_71 => ?_) (fun zd_71 => ?_)
              · replace zh := zh.1 zd_71
                refine vr_iconst dX4_prepareInstruction_174 (v := (0 : Int32)) (by decide) ?_
                refine vr_istore dX4_prepareInstruction_175 (Nat.le_of_ble_eq_true rfl) (vv_eq (ls' := [(0, .ref 153), (1, .int l1), (2, .int v5), (3, .int v8), (4, .int (0 : Int32))]) rfl ?_)
                refine vr_aload_n dX4_prepareInstruction_177 rfl rfl ?_
                refine vr_getR dX4_prepareInstruction_178 fl_LitmusTester_Machine_11 (wC_153 zw) (Or.inr ⟨_, rfl⟩) (wR_153_1 zw) ?_
                refine vr_iload_n dX4_prepareInstruction_181 rfl rfl ?_
                obtain ⟨zi_72, zh⟩ := zh
                refine vr_iaload dX4_prepareInstruction_182 (wS_154 zw) zi_72 ?_
                refine vv_top (w := .int (st_I s56 154 l1.toNatClampNeg)) rfl ?_
                refine vr_if_ne dX4_prepareInstruction_183 (tgt := 220) rfl (fun zd_73 => ?_) (fun zd_73 => ?_)
                · replace zh := zh.2 zd_73
                  exact vr_vret dX4_prepareInstruction_220 rfl zh
                · replace zh := zh.1 zd_73
                  refine vr_iload dX4_prepareInstruction_186 rfl ?_
                  refine vr_if_eq dX4_prepareInstruction_188 (tgt := 220) rfl (fun _ => ?_) (fun c => absurd (by decide) c)
                  exact vr_vret dX4_prepareInstruction_220 rfl zh
              · replace zh := zh.2 zd_71
                refine vr_iconst dX4_prepareInstruction_170 (v := (1 : Int32)) (by decide) ?_
                refine vr_goto dX4_prepareInstruction_171 (tgt := 175) rfl ?_
                refine vr_istore dX4_prepareInstruction_175 (Nat.le_of_ble_eq_true rfl) (vv_eq (ls' := [(0, .ref 153), (1, .int l1), (2, .int v5), (3, .int v8), (4, .int (1 : Int32))]) rfl ?_)
                refine vr_aload_n dX4_prepareInstruction_177 rfl rfl ?_
                refine vr_getR dX4_prepareInstruction_178 fl_LitmusTester_Machine_11 (wC_153 zw) (Or.inr ⟨_, rfl⟩) (wR_153_1 zw) ?_
                refine vr_iload_n dX4_prepareInstruction_181 rfl rfl ?_
                obtain ⟨zi_74, zh⟩ := zh
                refine vr_iaload dX4_prepareInstruction_182 (wS_154 zw) zi_74 ?_
                refine vv_top (w := .int (st_I s56 154 l1.toNatClampNeg)) rfl ?_
                refine vr_if_ne dX4_prepareInstruction_183 (tgt := 220) rfl (fun zd_75 => ?_) (fun zd_75 => ?_)
                · replace zh := zh.2 zd_75
                  exact vr_vret dX4_prepareInstruction_220 rfl zh
                · replace zh := zh.1 zd_75
                  refine vr_iload dX4_prepareInstruction_186 rfl ?_
                  refine vr_if_eq dX4_prepareInstruction_188 (tgt := 220) rfl (fun c => absurd c (by decide)) (fun _ => ?_)
                  refine vr_aload_n dX4_prepareInstruction_191 rfl rfl ?_
                  refine vr_getR dX4_prepareInstruction_192 fl_LitmusTester_Machine_36 (wC_153 zw) (Or.inr ⟨_, rfl⟩) (wR_153_9 zw) ?_
                  refine vr_iload_n dX4_prepareInstruction_195 rfl rfl ?_
                  refine vr_dup2 dX4_prepareInstruction_196 rfl rfl ?_
                  obtain ⟨zi_76, zh⟩ := zh
                  refine vr_iaload dX4_prepareInstruction_197 (wS_162 zw) zi_76 ?_
                  refine vv_top (w := .int (st_I s56 162 v5.toNatClampNeg)) rfl ?_
                  refine vr_iconst dX4_prepareInstruction_198 (v := (1 : Int32)) (by decide) ?_
                  refine vr_iload_n dX4_prepareInstruction_199 rfl rfl ?_
                  refine vr_ishl dX4_prepareInstruction_200 ?_
                  refine vr_ior dX4_prepareInstruction_201 ?_
                  obtain ⟨zi_77, zh⟩ := zh
                  refine vr_iastore dX4_prepareInstruction_202 (wS_162 zw) zi_77 ?_
                  refine vr_aload_n dX4_prepareInstruction_203 rfl rfl ?_
                  refine vr_getR dX4_prepareInstruction_204 fl_LitmusTester_Machine_39 (wC_153 zw) (Or.inr ⟨_, rfl⟩) (wR_153_10 zw) ?_
                  refine vr_aload_n dX4_prepareInstruction_207 rfl rfl ?_
                  refine vr_getR dX4_prepareInstruction_208 fl_LitmusTester_Machine_15 (wC_153 zw) (Or.inr ⟨_, rfl⟩) (wR_153_2 zw) ?_
                  refine vr_iload_n dX4_prepareInstruction_211 rfl rfl ?_
                  obtain ⟨zi_78, zh⟩ := zh
                  refine vr_iaload dX4_prepareInstruction_212 (wS_155 zw) zi_78 ?_
                  refine vv_top (w := .int (st_I s56 155 l1.toNatClampNeg)) rfl ?_
                  refine vr_dup2 dX4_prepareInstruction_213 rfl rfl ?_
                  obtain ⟨zi_79, zh⟩ := zh
                  refine vr_iaload dX4_prepareInstruction_214 (wS_163 zw) zi_79 ?_
                  refine vv_top (w := .int (st_I s56 163 (st_I s56 155 l1.toNatClampNeg).toNatClampNeg)) rfl ?_
                  refine vr_iconst dX4_prepareInstruction_215 (v := (1 : Int32)) (by decide) ?_
                  refine vr_iload_n dX4_prepareInstruction_216 rfl rfl ?_
                  refine vr_ishl dX4_prepareInstruction_217 ?_
                  refine vr_ior dX4_prepareInstruction_218 ?_
                  obtain ⟨zi_80, zh⟩ := zh
                  refine vr_iastore dX4_prepareInstruction_219 (wS_163 zw) zi_80 ?_
                  exact vr_vret dX4_prepareInstruction_220 rfl zh
      · replace zh := zh.1 zd_33
        refine vr_iconst dX4_prepareInstruction_128 (v := (-1 : Int32)) (by decide) ?_
        refine vr_goto dX4_prepareInstruction_129 (tgt := 141) rfl ?_
        obtain ⟨zi_34, zh⟩ := zh
        refine vr_iastore dX4_prepareInstruction_141 (wS_158 zw) zi_34 ?_
        refine vr_iload_n dX4_prepareInstruction_142 rfl rfl ?_
        refine vr_if_lt dX4_prepareInstruction_143 (tgt := 174) rfl (fun zd_35 => ?_) (fun zd_35 => ?_)
        · replace zh := zh.1 zd_35
          refine vr_iconst dX4_prepareInstruction_174 (v := (0 : Int32)) (by decide) ?_
          refine vr_istore dX4_prepareInstruction_175 (Nat.le_of_ble_eq_true rfl) (vv_eq (ls' := [(0, .ref 153), (1, .int l1), (2, .int v5), (3, .int v8), (4, .int (0 : Int32))]) rfl ?_)
          refine vr_aload_n dX4_prepareInstruction_177 rfl rfl ?_
          refine vr_getR dX4_prepareInstruction_178 fl_LitmusTester_Machine_11 (wC_153 zw) (Or.inr ⟨_, rfl⟩) (wR_153_1 zw) ?_
          refine vr_iload_n dX4_prepareInstruction_181 rfl rfl ?_
          obtain ⟨zi_36, zh⟩ := zh
          refine vr_iaload dX4_prepareInstruction_182 (wS_154 zw) zi_36 ?_
          refine vv_top (w := .int (st_I s29 154 l1.toNatClampNeg)) rfl ?_
          refine vr_if_ne dX4_prepareInstruction_183 (tgt := 220) rfl (fun zd_37 => ?_) (fun zd_37 => ?_)
          · replace zh := zh.2 zd_37
            exact vr_vret dX4_prepareInstruction_220 rfl zh
          · replace zh := zh.1 zd_37
            refine vr_iload dX4_prepareInstruction_186 rfl ?_
            refine vr_if_eq dX4_prepareInstruction_188 (tgt := 220) rfl (fun _ => ?_) (fun c => absurd (by decide) c)
            exact vr_vret dX4_prepareInstruction_220 rfl zh
        · replace zh := zh.2 zd_35
          refine vr_iload_n dX4_prepareInstruction_146 rfl rfl ?_
          refine vr_iconst dX4_prepareInstruction_147 (v := (4 : Int32)) (by decide) ?_
          refine vr_ic_ge dX4_prepareInstruction_148 (tgt := 174) rfl (fun zd_38 => ?_) (fun zd_38 => ?_)
          · replace zh := zh.1 zd_38
            refine vr_iconst dX4_prepareInstruction_174 (v := (0 : Int32)) (by decide) ?_
            refine vr_istore dX4_prepareInstruction_175 (Nat.le_of_ble_eq_true rfl) (vv_eq (ls' := [(0, .ref 153), (1, .int l1), (2, .int v5), (3, .int v8), (4, .int (0 : Int32))]) rfl ?_)
            refine vr_aload_n dX4_prepareInstruction_177 rfl rfl ?_
            refine vr_getR dX4_prepareInstruction_178 fl_LitmusTester_Machine_11 (wC_153 zw) (Or.inr ⟨_, rfl⟩) (wR_153_1 zw) ?_
            refine vr_iload_n dX4_prepareInstruction_181 rfl rfl ?_
            obtain ⟨zi_39, zh⟩ := zh
            refine vr_iaload dX4_prepareInstruction_182 (wS_154 zw) zi_39 ?_
            refine vv_top (w := .int (st_I s29 154 l1.toNatClampNeg)) rfl ?_
            refine vr_if_ne dX4_prepareInstruction_183 (tgt := 220) rfl (fun zd_40 => ?_) (fun zd_40 => ?_)
            · replace zh := zh.2 zd_40
              exact vr_vret dX4_prepareInstruction_220 rfl zh
            · replace zh := zh.1 zd_40
              refine vr_iload dX4_prepareInstruction_186 rfl ?_
              refine vr_if_eq dX4_prepareInstruction_188 (tgt := 220) rfl (fun _ => ?_) (fun c => absurd (by decide) c)
              exact vr_vret dX4_prepareInstruction_220 rfl zh
          · replace zh := zh.2 zd_38
            refine vr_aload_n dX4_prepareInstruction_151 rfl rfl ?_
            refine vr_getR dX4_prepareInstruction_152 fl_LitmusTester_Machine_15 (wC_153 zw) (Or.inr ⟨_, rfl⟩) (wR_153_2 zw) ?_
            refine vr_iload_n dX4_prepareInstruction_155 rfl rfl ?_
            obtain ⟨zi_41, zh⟩ := zh
            refine vr_iaload dX4_prepareInstruction_156 (wS_155 zw) zi_41 ?_
            refine vv_top (w := .int (st_I s29 155 l1.toNatClampNeg)) rfl ?_
            refine vr_if_lt dX4_prepareInstruction_157 (tgt := 174) rfl (fun zd_42 => ?_) (fun zd_42 => ?_)
            · replace zh := zh.1 zd_42
              refine vr_iconst dX4_prepareInstruction_174 (v := (0 : Int32)) (by decide) ?_
              refine vr_istore dX4_prepareInstruction_175 (Nat.le_of_ble_eq_true rfl) (vv_eq (ls' := [(0, .ref 153), (1, .int l1), (2, .int v5), (3, .int v8), (4, .int (0 : Int32))]) rfl ?_)
              refine vr_aload_n dX4_prepareInstruction_177 rfl rfl ?_
              refine vr_getR dX4_prepareInstruction_178 fl_LitmusTester_Machine_11 (wC_153 zw) (Or.inr ⟨_, rfl⟩) (wR_153_1 zw) ?_
              refine vr_iload_n dX4_prepareInstruction_181 rfl rfl ?_
              obtain ⟨zi_43, zh⟩ := zh
              refine vr_iaload dX4_prepareInstruction_182 (wS_154 zw) zi_43 ?_
              refine vv_top (w := .int (st_I s29 154 l1.toNatClampNeg)) rfl ?_
              refine vr_if_ne dX4_prepareInstruction_183 (tgt := 220) rfl (fun zd_44 => ?_) (fun zd_44 => ?_)
              · replace zh := zh.2 zd_44
                exact vr_vret dX4_prepareInstruction_220 rfl zh
              · replace zh := zh.1 zd_44
                refine vr_iload dX4_prepareInstruction_186 rfl ?_
                refine vr_if_eq dX4_prepareInstruction_188 (tgt := 220) rfl (fun _ => ?_) (fun c => absurd (by decide) c)
                exact vr_vret dX4_prepareInstruction_220 rfl zh
            · replace zh := zh.2 zd_42
              refine vr_aload_n dX4_prepareInstruction_160 rfl rfl ?_
              refine vr_getR dX4_prepareInstruction_161 fl_LitmusTester_Machine_15 (wC_153 zw) (Or.inr ⟨_, rfl⟩) (wR_153_2 zw) ?_
              refine vr_iload_n dX4_prepareInstruction_164 rfl rfl ?_
              obtain ⟨zi_45, zh⟩ := zh
              refine vr_iaload dX4_prepareInstruction_165 (wS_155 zw) zi_45 ?_
              refine vv_top (w := .int (st_I s29 155 l1.toNatClampNeg)) rfl ?_
              refine vr_iconst dX4_prepareInstruction_166 (v := (3 : Int32)) (by decide) ?_
              refine vr_ic_ge dX4_prepareInstruction_167 (tgt := 174) rfl (fun zd_46 => ?_) (fun zd_46 => ?_)
              · replace zh := zh.1 zd_46
                refine vr_iconst dX4_prepareInstruction_174 (v := (0 : Int32)) (by decide) ?_
                refine vr_istore dX4_prepareInstruction_175 (Nat.le_of_ble_eq_true rfl) (vv_eq (ls' := [(0, .ref 153), (1, .int l1), (2, .int v5), (3, .int v8), (4, .int (0 : Int32))]) rfl ?_)
                refine vr_aload_n dX4_prepareInstruction_177 rfl rfl ?_
                refine vr_getR dX4_prepareInstruction_178 fl_LitmusTester_Machine_11 (wC_153 zw) (Or.inr ⟨_, rfl⟩) (wR_153_1 zw) ?_
                refine vr_iload_n dX4_prepareInstruction_181 rfl rfl ?_
                obtain ⟨zi_47, zh⟩ := zh
                refine vr_iaload dX4_prepareInstruction_182 (wS_154 zw) zi_47 ?_
                refine vv_top (w := .int (st_I s29 154 l1.toNatClampNeg)) rfl ?_
                refine vr_if_ne dX4_prepareInstruction_183 (tgt := 220) rfl (fun zd_48 => ?_) (fun zd_48 => ?_)
                · replace zh := zh.2 zd_48
                  exact vr_vret dX4_prepareInstruction_220 rfl zh
                · replace zh := zh.1 zd_48
                  refine vr_iload dX4_prepareInstruction_186 rfl ?_
                  refine vr_if_eq dX4_prepareInstruction_188 (tgt := 220) rfl (fun _ => ?_) (fun c => absurd (by decide) c)
                  exact vr_vret dX4_prepareInstruction_220 rfl zh
              · replace zh := zh.2 zd_46
                refine vr_iconst dX4_prepareInstruction_170 (v := (1 : Int32)) (by decide) ?_
                refine vr_goto dX4_prepareInstruction_171 (tgt := 175) rfl ?_
                refine vr_istore dX4_prepareInstruction_175 (Nat.le_of_ble_eq_true rfl) (vv_eq (ls' := [(0, .ref 153), (1, .int l1), (2, .int v5), (3, .int v8), (4, .int (1 : Int32))]) rfl ?_)
                refine vr_aload_n dX4_prepareInstruction_177 rfl rfl ?_
                refine vr_getR dX4_prepareInstruction_178 fl_LitmusTester_Machine_11 (wC_153 zw) (Or.inr ⟨_, rfl⟩) (wR_153_1 zw) ?_
                refine vr_iload_n dX4_prepareInstruction_181 rfl rfl ?_
                obtain ⟨zi_49, zh⟩ := zh
                refine vr_iaload dX4_prepareInstruction_182 (wS_154 zw) zi_49 ?_
                refine vv_top (w := .int (st_I s29 154 l1.toNatClampNeg)) rfl ?_
                refine vr_if_ne dX4_prepareInstruction_183 (tgt := 220) rfl (fun zd_50 => ?_) (fun zd_50 => ?_)
                · replace zh := zh.2 zd_50
                  exact vr_vret dX4_prepareInstruction_220 rfl zh
                · replace zh := zh.1 zd_50
                  refine vr_iload dX4_prepareInstruction_186 rfl ?_
                  refine vr_if_eq dX4_prepareInstruction_188 (tgt := 220) rfl (fun c => absurd c (by decide)) (fun _ => ?_)
                  refine vr_aload_n dX4_prepareInstruction_191 rfl rfl ?_
                  refine vr_getR dX4_prepareInstruction_192 fl_LitmusTester_Machine_36 (wC_153 zw) (Or.inr ⟨_, rfl⟩) (wR_153_9 zw) ?_
                  refine vr_iload_n dX4_prepareInstruction_195 rfl rfl ?_
                  refine vr_dup2 dX4_prepareInstruction_196 rfl rfl ?_
                  obtain ⟨zi_51, zh⟩ := zh
                  refine vr_iaload dX4_prepareInstruction_197 (wS_162 zw) zi_51 ?_
                  refine vv_top (w := .int (st_I s29 162 v5.toNatClampNeg)) rfl ?_
                  refine vr_iconst dX4_prepareInstruction_198 (v := (1 : Int32)) (by decide) ?_
                  refine vr_iload_n dX4_prepareInstruction_199 rfl rfl ?_
                  refine vr_ishl dX4_prepareInstruction_200 ?_
                  refine vr_ior dX4_prepareInstruction_201 ?_
                  obtain ⟨zi_52, zh⟩ := zh
                  refine vr_iastore dX4_prepareInstruction_202 (wS_162 zw) zi_52 ?_
                  refine vr_aload_n dX4_prepareInstruction_203 rfl rfl ?_
                  refine vr_getR dX4_prepareInstruction_204 fl_LitmusTester_Machine_39 (wC_153 zw) (Or.inr ⟨_, rfl⟩) (wR_153_10 zw) ?_
                  refine vr_aload_n dX4_prepareInstruction_207 rfl rfl ?_
                  refine vr_getR dX4_prepareInstruction_208 fl_LitmusTester_Machine_15 (wC_153 zw) (Or.inr ⟨_, rfl⟩) (wR_153_2 zw) ?_
                  refine vr_iload_n dX4_prepareInstruction_211 rfl rfl ?_
                  obtain ⟨zi_53, zh⟩ := zh
                  refine vr_iaload dX4_prepareInstruction_212 (wS_155 zw) zi_53 ?_
                  refine vv_top (w := .int (st_I s29 155 l1.toNatClampNeg)) rfl ?_
                  refine vr_dup2 dX4_prepareInstruction_213 rfl rfl ?_
                  obtain ⟨zi_54, zh⟩ := zh
                  refine vr_iaload dX4_prepareInstruction_214 (wS_163 zw) zi_54 ?_
                  refine vv_top (w := .int (st_I s29 163 (st_I s29 155 l1.toNatClampNeg).toNatClampNeg)) rfl ?_
                  refine vr_iconst dX4_prepareInstruction_215 (v := (1 : Int32)) (by decide) ?_
                  refine vr_iload_n dX4_prepareInstruction_216 rfl rfl ?_
                  refine vr_ishl dX4_prepareInstruction_217 ?_
                  refine vr_ior dX4_prepareInstruction_218 ?_
                  obtain ⟨zi_55, zh⟩ := zh
                  refine vr_iastore dX4_prepareInstruction_219 (wS_163 zw) zi_55 ?_
                  exact vr_vret dX4_prepareInstruction_220 rfl zh
    · replace zh := zh.2 zd_2
      exact vr_vret dX4_prepareInstruction_10 rfl zh
theorem e_X4_prepareInstruction {γ : ga_T} {l1 : Int32} {σ : st_T} {Q : rs_T → st_T → Prop} (zw : Wd σ) (zh : p_X4_prepareInstruction_0 γ l1 σ Q) : sp_ γ m_X4_prepareInstruction 2 [.ref 153, .int l1] σ Q := sp_of (pl_X4_prepareInstruction) rfl (Nat.le_of_ble_eq_true rfl) (g_X4_prepareInstruction_0 zw zh)
def p_X4_positionShift_0 (γ : ga_T) (l0 : Int32) (σ : st_T) (Q : rs_T → st_T → Prop) : Prop :=
  Q (.inl (some (.int ((32 : Int32) + ((3 : Int32) * l0))))) σ
set_option maxRecDepth 10000 in
theorem g_X4_positionShift_0 {γ : ga_T} {l0 : Int32} {σ : st_T} {Q : rs_T → st_T → Prop} (zw : Wd σ) (zh : p_X4_positionShift_0 γ l0 σ Q) : vv_ γ m_X4_positionShift 0 0 [(0, .int l0)] [] σ Q := by
  unfold p_X4_positionShift_0 at zh
  refine vr_bipush dX4_positionShift_0 (v := (32 : Int32)) (by decide) ?_
  refine vr_iconst dX4_positionShift_2 (v := (3 : Int32)) (by decide) ?_
  refine vr_iload_n dX4_positionShift_3 rfl rfl ?_
  refine vr_imul dX4_positionShift_4 ?_
  refine vr_iadd dX4_positionShift_5 ?_
  exact vr_iret dX4_positionShift_6 rfl zh
theorem e_X4_positionShift {γ : ga_T} {l0 : Int32} {σ : st_T} {Q : rs_T → st_T → Prop} (zw : Wd σ) (zh : p_X4_positionShift_0 γ l0 σ Q) : sp_ γ m_X4_positionShift 0 [.int l0] σ Q := sp_of (pl_X4_positionShift) rfl (Nat.le_of_ble_eq_true rfl) (g_X4_positionShift_0 zw zh)
def p_X4_start_0 (γ : ga_T) (σ : st_T) (Q : rs_T → st_T → Prop) : Prop :=
  Q (.inl (some (.long (st_L σ 153 13)))) σ
set_option maxRecDepth 10000 in
theorem g_X4_start_0 {γ : ga_T} {σ : st_T} {Q : rs_T → st_T → Prop} (zw : Wd σ) (zh : p_X4_start_0 γ σ Q) : vv_ γ m_X4_start 0 0 [(0, .ref 153)] [] σ Q := by
  unfold p_X4_start_0 at zh
  refine vr_aload_n dX4_start_0 rfl rfl ?_
  refine vr_getL dX4_start_1 fl_LitmusTester_Machine_49 (wC_153 zw) rfl ?_
  exact vr_lret dX4_start_4 rfl zh
theorem e_X4_start {γ : ga_T} {σ : st_T} {Q : rs_T → st_T → Prop} (zw : Wd σ) (zh : p_X4_start_0 γ σ Q) : sp_ γ m_X4_start 0 [.ref 153] σ Q := sp_of (pl_X4_start) rfl (Nat.le_of_ble_eq_true rfl) (g_X4_start_0 zw zh)
def p_X4_threads_0 (γ : ga_T) (σ : st_T) (Q : rs_T → st_T → Prop) : Prop :=
  ∃ (v3 : Int32) (s1 : st_T), Wd s1 ∧ fn_ γ m_X7_threads 0 [.ref 132] σ (.int v3) s1 ∧
  Q (.inl (some (.int v3))) s1
set_option maxRecDepth 10000 in
theorem g_X4_threads_0 {γ : ga_T} {σ : st_T} {Q : rs_T → st_T → Prop} (zw : Wd σ) (zh : p_X4_threads_0 γ σ Q) : vv_ γ m_X4_threads 1 0 [(0, .ref 153)] [] σ Q := by
  unfold p_X4_threads_0 at zh
  refine vr_aload_n dX4_threads_0 rfl rfl ?_
  refine vr_getR dX4_threads_1 fl_LitmusTester_Machine_56 (wC_153 zw) (Or.inl ⟨_, rfl⟩) (wR_153_0 zw) ?_
  obtain ⟨v3, s1, zw1, zf_2, zh⟩ := zh
  refine vc_V (As := []) (rest := []) dX4_threads_4 cV_LitmusTester_Machine_85 (wC_132 zw) rfl rfl (Nat.le_of_ble_eq_true rfl) (Nat.le_of_ble_eq_true rfl) (co_n zf_2 ?_)
  replace zw := zw1
  exact vr_iret dX4_threads_7 rfl zh
theorem e_X4_threads {γ : ga_T} {σ : st_T} {Q : rs_T → st_T → Prop} (zw : Wd σ) (zh : p_X4_threads_0 γ σ Q) : sp_ γ m_X4_threads 1 [.ref 153] σ Q := sp_of (pl_X4_threads) rfl (Nat.le_of_ble_eq_true rfl) (g_X4_threads_0 zw zh)
def p_X4_isUnbuffered_0 (γ : ga_T) (σ : st_T) (Q : rs_T → st_T → Prop) : Prop :=
  ((st_I σ 153 11) = (0 : Int32) →
    Q (.inl (some (.int (1 : Int32)))) σ
  ) ∧ (¬ (st_I σ 153 11) = (0 : Int32) →
    Q (.inl (some (.int (0 : Int32)))) σ
  )
set_option maxRecDepth 10000 in
theorem g_X4_isUnbuffered_0 {γ : ga_T} {σ : st_T} {Q : rs_T → st_T → Prop} (zw : Wd σ) (zh : p_X4_isUnbuffered_0 γ σ Q) : vv_ γ m_X4_isUnbuffered 0 0 [(0, .ref 153)] [] σ Q := by
  unfold p_X4_isUnbuffered_0 at zh
  refine vr_aload_n dX4_isUnbuffered_0 rfl rfl ?_
  refine vr_getI dX4_isUnbuffered_1 fl_LitmusTester_Machine_42 (wC_153 zw) rfl ?_
  refine vr_if_ne dX4_isUnbuffered_4 (tgt := 11) rfl (fun zd_1 => ?_) (fun zd_1 => ?_)
  · replace zh := zh.2 zd_1
    refine vr_iconst dX4_isUnbuffered_11 (v := (0 : Int32)) (by decide) ?_
    exact vr_zret dX4_isUnbuffered_12 rfl (Or.inl rfl) zh
  · replace zh := zh.1 zd_1
    refine vr_iconst dX4_isUnbuffered_7 (v := (1 : Int32)) (by decide) ?_
    refine vr_goto dX4_isUnbuffered_8 (tgt := 12) rfl ?_
    exact vr_zret dX4_isUnbuffered_12 rfl (Or.inr rfl) zh
theorem e_X4_isUnbuffered {γ : ga_T} {σ : st_T} {Q : rs_T → st_T → Prop} (zw : Wd σ) (zh : p_X4_isUnbuffered_0 γ σ Q) : sp_ γ m_X4_isUnbuffered 0 [.ref 153] σ Q := sp_of (pl_X4_isUnbuffered) rfl (Nat.le_of_ble_eq_true rfl) (g_X4_isUnbuffered_0 zw zh)
def p_X4_isFinal_0 (γ : ga_T) (l1 : Int64) (σ : st_T) (Q : rs_T → st_T → Prop) : Prop :=
  ((l1 >>> ((22 : Int32).toInt64 &&& 63)) = ((st_L σ 153 14) >>> ((22 : Int32).toInt64 &&& 63)) →
    Q (.inl (some (.int (1 : Int32)))) σ
  ) ∧ (¬ (l1 >>> ((22 : Int32).toInt64 &&& 63)) = ((st_L σ 153 14) >>> ((22 : Int32).toInt64 &&& 63)) →
    Q (.inl (some (.int (0 : Int32)))) σ
  )
set_option maxRecDepth 10000 in
theorem g_X4_isFinal_0 {γ : ga_T} {l1 : Int64} {σ : st_T} {Q : rs_T → st_T → Prop} (zw : Wd σ) (zh : p_X4_isFinal_0 γ l1 σ Q) : vv_ γ m_X4_isFinal 0 0 [(0, .ref 153), (1, .long l1)] [] σ Q := by
  unfold p_X4_isFinal_0 at zh
  refine vr_lload_n dX4_isFinal_0 rfl rfl ?_
  refine vr_bipush dX4_isFinal_1 (v := (22 : Int32)) (by decide) ?_
  refine vr_lshr dX4_isFinal_3 ?_
  refine vr_aload_n dX4_isFinal_4 rfl rfl ?_
  refine vr_getL dX4_isFinal_5 fl_LitmusTester_Machine_53 (wC_153 zw) rfl ?_
  refine vr_bipush dX4_isFinal_8 (v := (22 : Int32)) (by decide) ?_
  refine vr_lshr dX4_isFinal_10 ?_
  refine vr_lcmp dX4_isFinal_11 ?_
  refine vr_if_ne dX4_isFinal_12 (tgt := 19) rfl (fun zd_1 => ?_) (fun zd_1 => ?_)
  · replace zh := zh.2 (fun z => zd_1 ((lg_cmp_eq _ _).mpr z))
    refine vr_iconst dX4_isFinal_19 (v := (0 : Int32)) (by decide) ?_
    exact vr_zret dX4_isFinal_20 rfl (Or.inl rfl) zh
  · replace zh := zh.1 ((lg_cmp_eq _ _).mp zd_1)
    refine vr_iconst dX4_isFinal_15 (v := (1 : Int32)) (by decide) ?_
    refine vr_goto dX4_isFinal_16 (tgt := 20) rfl ?_
    exact vr_zret dX4_isFinal_20 rfl (Or.inr rfl) zh
theorem e_X4_isFinal {γ : ga_T} {l1 : Int64} {σ : st_T} {Q : rs_T → st_T → Prop} (zw : Wd σ) (zh : p_X4_isFinal_0 γ l1 σ Q) : sp_ γ m_X4_isFinal 0 [.ref 153, .long l1] σ Q := sp_of (pl_X4_isFinal) rfl (Nat.le_of_ble_eq_true rfl) (g_X4_isFinal_0 zw zh)
def p_X4_codeOf_0 (γ : ga_T) (l0 : Int64) (σ : st_T) (Q : rs_T → st_T → Prop) : Prop :=
  Q (.inl (some (.int ((l0.toInt32) &&& (4194303 : Int32))))) σ
set_option maxRecDepth 10000 in
theorem g_X4_codeOf_0 {γ : ga_T} {l0 : Int64} {σ : st_T} {Q : rs_T → st_T → Prop} (zw : Wd σ) (zh : p_X4_codeOf_0 γ l0 σ Q) : vv_ γ m_X4_codeOf 0 0 [(0, .long l0)] [] σ Q := by
  unfold p_X4_codeOf_0 at zh
  refine vr_lload_n dX4_codeOf_0 rfl rfl ?_
  refine vr_l2i dX4_codeOf_1 ?_
  refine vr_ldc dX4_codeOf_2 (v := (4194303 : Int32)) tw_1300 ?_
  refine vr_iand dX4_codeOf_4 ?_
  exact vr_iret dX4_codeOf_5 rfl zh
theorem e_X4_codeOf {γ : ga_T} {l0 : Int64} {σ : st_T} {Q : rs_T → st_T → Prop} (zw : Wd σ) (zh : p_X4_codeOf_0 γ l0 σ Q) : sp_ γ m_X4_codeOf 0 [.long l0] σ Q := sp_of (pl_X4_codeOf) rfl (Nat.le_of_ble_eq_true rfl) (g_X4_codeOf_0 zw zh)
def p_X4_waitingOf_0 (γ : ga_T) (l1 : Int64) (l3 : Int32) (σ : st_T) (Q : rs_T → st_T → Prop) : Prop :=
  (l3 < (0 : Int32) →
    Q (.inl (some (.int (0 : Int32)))) σ
  ) ∧ (¬ l3 < (0 : Int32) →
    ((4 : Int32) ≤ l3 →
      Q (.inl (some (.int (0 : Int32)))) σ
    ) ∧ (¬ (4 : Int32) ≤ l3 →
      vp_in l3 4 ∧
      Q (.inl (some (.int (((l1 >>> ((22 : Int32).toInt64 &&& 63)).toInt32) &&& (st_I σ 162 l3.toNatClampNeg))))) σ
    )
  )
set_option maxRecDepth 10000 in
theorem g_X4_waitingOf_0 {γ : ga_T} {l1 : Int64} {l3 : Int32} {σ : st_T} {Q : rs_T → st_T → Prop} (zw : Wd σ) (zh : p_X4_waitingOf_0 γ l1 l3 σ Q) : vv_ γ m_X4_waitingOf 0 0 [(0, .ref 153), (1, .long l1), (3, .int l3)] [] σ Q := by
  unfold p_X4_waitingOf_0 at zh
  refine vr_iload_n dX4_waitingOf_0 rfl rfl ?_
  refine vr_if_lt dX4_waitingOf_1 (tgt := 13) rfl (fun zd_1 => ?_) (fun zd_1 => ?_)
  · replace zh := zh.1 zd_1
    refine vr_iconst dX4_waitingOf_13 (v := (0 : Int32)) (by decide) ?_
    refine vr_istore dX4_waitingOf_14 (Nat.le_of_ble_eq_true rfl) (vv_eq (ls' := [(0, .ref 153), (1, .long l1), (3, .int l3), (4, .int (0 : Int32))]) rfl ?_)
    refine vr_iload dX4_waitingOf_16 rfl ?_
    refine vr_if_eq dX4_waitingOf_18 (tgt := 36) rfl (fun _ => ?_) (fun c => absurd (by decide) c)
    refine vr_iconst dX4_waitingOf_36 (v := (0 : Int32)) (by decide) ?_
    exact vr_iret dX4_waitingOf_37 rfl zh
  · replace zh := zh.2 zd_1
    refine vr_iload_n dX4_waitingOf_4 rfl rfl ?_
    refine vr_iconst dX4_waitingOf_5 (v := (4 : Int32)) (by decide) ?_
    refine vr_ic_ge dX4_waitingOf_6 (tgt := 13) rfl (fun zd_2 => ?_) (fun zd_2 => ?_)
    · replace zh := zh.1 zd_2
      refine vr_iconst dX4_waitingOf_13 (v := (0 : Int32)) (by decide) ?_
      refine vr_istore dX4_waitingOf_14 (Nat.le_of_ble_eq_true rfl) (vv_eq (ls' := [(0, .ref 153), (1, .long l1), (3, .int l3), (4, .int (0 : Int32))]) rfl ?_)
      refine vr_iload dX4_waitingOf_16 rfl ?_
      refine vr_if_eq dX4_waitingOf_18 (tgt := 36) rfl (fun _ => ?_) (fun c => absurd (by decide) c)
      refine vr_iconst dX4_waitingOf_36 (v := (0 : Int32)) (by decide) ?_
      exact vr_iret dX4_waitingOf_37 rfl zh
    · replace zh := zh.2 zd_2
      refine vr_iconst dX4_waitingOf_9 (v := (1 : Int32)) (by decide) ?_
      refine vr_goto dX4_waitingOf_10 (tgt := 14) rfl ?_
      refine vr_istore dX4_waitingOf_14 (Nat.le_of_ble_eq_true rfl) (vv_eq (ls' := [(0, .ref 153), (1, .long l1), (3, .int l3), (4, .int (1 : Int32))]) rfl ?_)
      refine vr_iload dX4_waitingOf_16 rfl ?_
      refine vr_if_eq dX4_waitingOf_18 (tgt := 36) rfl (fun c => absurd c (by decide)) (fun _ => ?_)
      refine vr_lload_n dX4_waitingOf_21 rfl rfl ?_
      refine vr_bipush dX4_waitingOf_22 (v := (22 : Int32)) (by decide) ?_
      refine vr_lshr dX4_waitingOf_24 ?_
      refine vr_l2i dX4_waitingOf_25 ?_
      refine vr_aload_n dX4_waitingOf_26 rfl rfl ?_
      refine vr_getR dX4_waitingOf_27 fl_LitmusTester_Machine_36 (wC_153 zw) (Or.inr ⟨_, rfl⟩) (wR_153_9 zw) ?_
      refine vr_iload_n dX4_waitingOf_30 rfl rfl ?_
      obtain ⟨zi_3, zh⟩ := zh
      refine vr_iaload dX4_waitingOf_31 (wS_162 zw) zi_3 ?_
      refine vr_iand dX4_waitingOf_32 ?_
      refine vr_goto dX4_waitingOf_33 (tgt := 37) rfl ?_
      exact vr_iret dX4_waitingOf_37 rfl zh
theorem e_X4_waitingOf {γ : ga_T} {l1 : Int64} {l3 : Int32} {σ : st_T} {Q : rs_T → st_T → Prop} (zw : Wd σ) (zh : p_X4_waitingOf_0 γ l1 l3 σ Q) : sp_ γ m_X4_waitingOf 0 [.ref 153, .long l1, .int l3] σ Q := sp_of (pl_X4_waitingOf) rfl (Nat.le_of_ble_eq_true rfl) (g_X4_waitingOf_0 zw zh)
def p_X4_waitingFor_0 (γ : ga_T) (l1 : Int64) (l3 : Int32) (l4 : Int32) (σ : st_T) (Q : rs_T → st_T → Prop) : Prop :=
  (l4 < (0 : Int32) →
    Q (.inl (some (.int (0 : Int32)))) σ
  ) ∧ (¬ l4 < (0 : Int32) →
    ((3 : Int32) ≤ l4 →
      Q (.inl (some (.int (0 : Int32)))) σ
    ) ∧ (¬ (3 : Int32) ≤ l4 →
      ∃ (v5 : Int32) (s3 : st_T), Wd s3 ∧ fn_ γ m_X4_waitingOf 0 [.ref 153, .long l1, .int l3] σ (.int v5) s3 ∧
      vp_in l4 3 ∧
      Q (.inl (some (.int (v5 &&& (st_I s3 163 l4.toNatClampNeg))))) s3
    )
  )
set_option maxRecDepth 10000 in
theorem g_X4_waitingFor_0 {γ : ga_T} {l1 : Int64} {l3 : Int32} {l4 : Int32} {σ : st_T} {Q : rs_T → st_T → Prop} (zw : Wd σ) (zh : p_X4_waitingFor_0 γ l1 l3 l4 σ Q) : vv_ γ m_X4_waitingFor 1 0 [(0, .ref 153), (1, .long l1), (3, .int l3), (4, .int l4)] [] σ Q := by
  unfold p_X4_waitingFor_0 at zh
  refine vr_iload dX4_waitingFor_0 rfl ?_
  refine vr_if_lt dX4_waitingFor_2 (tgt := 15) rfl (fun zd_1 => ?_) (fun zd_1 => ?_)
  · replace zh := zh.1 zd_1
    refine vr_iconst dX4_waitingFor_15 (v := (0 : Int32)) (by decide) ?_
    refine vr_istore dX4_waitingFor_16 (Nat.le_of_ble_eq_true rfl) (vv_eq (ls' := [(0, .ref 153), (1, .long l1), (3, .int l3), (4, .int l4), (5, .int (0 : Int32))]) rfl ?_)
    refine vr_iload dX4_waitingFor_18 rfl ?_
    refine vr_if_eq dX4_waitingFor_20 (tgt := 40) rfl (fun _ => ?_) (fun c => absurd (by decide) c)
    refine vr_iconst dX4_waitingFor_40 (v := (0 : Int32)) (by decide) ?_
    exact vr_iret dX4_waitingFor_41 rfl zh
  · replace zh := zh.2 zd_1
    refine vr_iload dX4_waitingFor_5 rfl ?_
    refine vr_iconst dX4_waitingFor_7 (v := (3 : Int32)) (by decide) ?_
    refine vr_ic_ge dX4_waitingFor_8 (tgt := 15) rfl (fun zd_2 => ?_) (fun zd_2 => ?_)
    · replace zh := zh.1 zd_2
      refine vr_iconst dX4_waitingFor_15 (v := (0 : Int32)) (by decide) ?_
      refine vr_istore dX4_waitingFor_16 (Nat.le_of_ble_eq_true rfl) (vv_eq (ls' := [(0, .ref 153), (1, .long l1), (3, .int l3), (4, .int l4), (5, .int (0 : Int32))]) rfl ?_)
      refine vr_iload dX4_waitingFor_18 rfl ?_
      refine vr_if_eq dX4_waitingFor_20 (tgt := 40) rfl (fun _ => ?_) (fun c => absurd (by decide) c)
      refine vr_iconst dX4_waitingFor_40 (v := (0 : Int32)) (by decide) ?_
      exact vr_iret dX4_waitingFor_41 rfl zh
    · replace zh := zh.2 zd_2
      refine vr_iconst dX4_waitingFor_11 (v := (1 : Int32)) (by decide) ?_
      refine vr_goto dX4_waitingFor_12 (tgt := 16) rfl ?_
      refine vr_istore dX4_waitingFor_16 (Nat.le_of_ble_eq_true rfl) (vv_eq (ls' := [(0, .ref 153), (1, .long l1), (3, .int l3), (4, .int l4), (5, .int (1 : Int32))]) rfl ?_)
      refine vr_iload dX4_waitingFor_18 rfl ?_
      refine vr_if_eq dX4_waitingFor_20 (tgt := 40) rfl (fun c => absurd c (by decide)) (fun _ => ?_)
      refine vr_aload_n dX4_waitingFor_23 rfl rfl ?_
      refine vr_lload_n dX4_waitingFor_24 rfl rfl ?_
      refine vr_iload_n dX4_waitingFor_25 rfl rfl ?_
      obtain ⟨v5, s3, zw1, zf_4, zh⟩ := zh
      refine vc_V (As := [.long l1, .int l3]) (rest := []) dX4_waitingFor_26 cV_LitmusTester_Machine_102 (wC_153 zw) rfl rfl (Nat.le_of_ble_eq_true rfl) (Nat.le_of_ble_eq_true rfl) (co_n zf_4 ?_)
      replace zw := zw1
      refine vr_aload_n dX4_waitingFor_29 rfl rfl ?_
      refine vr_getR dX4_waitingFor_30 fl_LitmusTester_Machine_39 (wC_153 zw) (Or.inr ⟨_, rfl⟩) (wR_153_10 zw) ?_
      refine vr_iload dX4_waitingFor_33 rfl ?_
      obtain ⟨zi_6, zh⟩ := zh
      refine vr_iaload dX4_waitingFor_35 (wS_163 zw) zi_6 ?_
      refine vr_iand dX4_waitingFor_36 ?_
      refine vr_goto dX4_waitingFor_37 (tgt := 41) rfl ?_
      exact vr_iret dX4_waitingFor_41 rfl zh
theorem e_X4_waitingFor {γ : ga_T} {l1 : Int64} {l3 : Int32} {l4 : Int32} {σ : st_T} {Q : rs_T → st_T → Prop} (zw : Wd σ) (zh : p_X4_waitingFor_0 γ l1 l3 l4 σ Q) : sp_ γ m_X4_waitingFor 1 [.ref 153, .long l1, .int l3, .int l4] σ Q := sp_of (pl_X4_waitingFor) rfl (Nat.le_of_ble_eq_true rfl) (g_X4_waitingFor_0 zw zh)
def p_X4_next_0 (γ : ga_T) (l1 : Int64) (l3 : Int32) (σ : st_T) (Q : rs_T → st_T → Prop) : Prop :=
  (l3 < (0 : Int32) →
    Q (.inl (some (.int (-1 : Int32)))) σ
  ) ∧ (¬ l3 < (0 : Int32) →
    (l3 < (4 : Int32) →
      ∃ (v5 : Int32) (s3 : st_T), Wd s3 ∧ fn_ γ m_X4_positionShift 0 [.int l3] σ (.int v5) s3 ∧
      vp_in l3 4 ∧
      ((st_I s3 161 l3.toNatClampNeg) ≤ (((l1 >>> (v5.toInt64 &&& 63)).toInt32) &&& (7 : Int32)) →
        Q (.inl (some (.int (-1 : Int32)))) s3
      ) ∧ (¬ (st_I s3 161 l3.toNatClampNeg) ≤ (((l1 >>> (v5.toInt64 &&& 63)).toInt32) &&& (7 : Int32)) →
        vp_in l3 4 ∧
        Q (.inl (some (.int ((st_I s3 160 l3.toNatClampNeg) + (((l1 >>> (v5.toInt64 &&& 63)).toInt32) &&& (7 : Int32)))))) s3
      )
    ) ∧ (¬ l3 < (4 : Int32) →
      Q (.inl (some (.int (-1 : Int32)))) σ
    )
  )
set_option maxRecDepth 10000 in
theorem g_X4_next_0 {γ : ga_T} {l1 : Int64} {l3 : Int32} {σ : st_T} {Q : rs_T → st_T → Prop} (zw : Wd σ) (zh : p_X4_next_0 γ l1 l3 σ Q) : vv_ γ m_X4_next 1 0 [(0, .ref 153), (1, .long l1), (3, .int l3)] [] σ Q := by
  unfold p_X4_next_0 at zh
  refine vr_iload_n dX4_next_0 rfl rfl ?_
  refine vr_if_lt dX4_next_1 (tgt := 9) rfl (fun zd_1 => ?_) (fun zd_1 => ?_)
  · replace zh := zh.1 zd_1
    refine vr_iconst dX4_next_9 (v := (-1 : Int32)) (by decide) ?_
    exact vr_iret dX4_next_10 rfl zh
  · replace zh := zh.2 zd_1
    refine vr_iload_n dX4_next_4 rfl rfl ?_
    refine vr_iconst dX4_next_5 (v := (4 : Int32)) (by decide) ?_
    refine vr_ic_lt dX4_next_6 (tgt := 11) rfl (fun zd_2 => ?_) (fun zd_2 => ?_)
    · replace zh := zh.1 zd_2
      refine vr_lload_n dX4_next_11 rfl rfl ?_
      refine vr_iload_n dX4_next_12 rfl rfl ?_
      obtain ⟨v5, s3, zw1, zf_4, zh⟩ := zh
      refine vc_S (As := [.int l3]) (rest := [.long l1]) dX4_next_13 cS_LitmusTester_Machine_91 rfl rfl (Nat.le_of_ble_eq_true rfl) (Nat.le_of_ble_eq_true rfl) (co_n zf_4 ?_)
      replace zw := zw1
      refine vr_lshr dX4_next_16 ?_
      refine vr_l2i dX4_next_17 ?_
      refine vr_bipush dX4_next_18 (v := (7 : Int32)) (by decide) ?_
      refine vr_iand dX4_next_20 ?_
      refine vr_istore dX4_next_21 (Nat.le_of_ble_eq_true rfl) (vv_eq (ls' := [(0, .ref 153), (1, .long l1), (3, .int l3), (4, .int (((l1 >>> (v5.toInt64 &&& 63)).toInt32) &&& (7 : Int32)))]) rfl ?_)
      refine vr_iload dX4_next_23 rfl ?_
      refine vr_aload_n dX4_next_25 rfl rfl ?_
      refine vr_getR dX4_next_26 fl_LitmusTester_Machine_33 (wC_153 zw) (Or.inr ⟨_, rfl⟩) (wR_153_8 zw) ?_
      refine vr_iload_n dX4_next_29 rfl rfl ?_
      obtain ⟨zi_6, zh⟩ := zh
      refine vr_iaload dX4_next_30 (wS_161 zw) zi_6 ?_
      refine vr_ic_ge dX4_next_31 (tgt := 46) rfl (fun zd_7 => ?_) (fun zd_7 => ?_)
      · replace zh := zh.1 zd_7
        refine vr_iconst dX4_next_46 (v := (-1 : Int32)) (by decide) ?_
        exact vr_iret dX4_next_47 rfl zh
      · replace zh := zh.2 zd_7
        refine vr_aload_n dX4_next_34 rfl rfl ?_
        refine vr_getR dX4_next_35 fl_LitmusTester_Machine_30 (wC_153 zw) (Or.inr ⟨_, rfl⟩) (wR_153_7 zw) ?_
        refine vr_iload_n dX4_next_38 rfl rfl ?_
        obtain ⟨zi_8, zh⟩ := zh
        refine vr_iaload dX4_next_39 (wS_160 zw) zi_8 ?_
        refine vr_iload dX4_next_40 rfl ?_
        refine vr_iadd dX4_next_42 ?_
        refine vr_goto dX4_next_43 (tgt := 47) rfl ?_
        exact vr_iret dX4_next_47 rfl zh
    · replace zh := zh.2 zd_2
      refine vr_iconst dX4_next_9 (v := (-1 : Int32)) (by decide) ?_
      exact vr_iret dX4_next_10 rfl zh
theorem e_X4_next {γ : ga_T} {l1 : Int64} {l3 : Int32} {σ : st_T} {Q : rs_T → st_T → Prop} (zw : Wd σ) (zh : p_X4_next_0 γ l1 l3 σ Q) : sp_ γ m_X4_next 1 [.ref 153, .long l1, .int l3] σ Q := sp_of (pl_X4_next) rfl (Nat.le_of_ble_eq_true rfl) (g_X4_next_0 zw zh)
def p_X4_committed_0 (γ : ga_T) (l1 : Int64) (l3 : Int32) (l4 : Int32) (σ : st_T) (Q : rs_T → st_T → Prop) : Prop :=
  ∃ (v3 : Int32) (s1 : st_T), Wd s1 ∧ fn_ γ m_X4_waitingFor 1 [.ref 153, .long l1, .int l3, .int l4] σ (.int v3) s1 ∧
  ∃ (v6 : Int32) (s4 : st_T), Wd s4 ∧ fn_ γ m_X4_waitingOf 0 [.ref 153, .long l1, .int l3] s1 (.int v6) s4 ∧
  ((st_I s4 153 11) = (1 : Int32) →
    ((v3 &&& (-v3)) = (v6 &&& (-v6)) →
      ((v3 &&& (-v3)) = (0 : Int32) →
        Q (.inl (some (.int (-1 : Int32)))) s4
      ) ∧ (¬ (v3 &&& (-v3)) = (0 : Int32) →
        ∃ (v12 : Int32) (s10 : st_T), Wd s10 ∧ fn_ γ m_J6_bitCount_0f7a4 0 [.int ((v3 &&& (-v3)) - (1 : Int32))] s4 (.int v12) s10 ∧
        Q (.inl (some (.int v12))) s10
      )
    ) ∧ (¬ (v3 &&& (-v3)) = (v6 &&& (-v6)) →
      ((v3 &&& (-v3)) = (0 : Int32) →
        Q (.inl (some (.int (-1 : Int32)))) s4
      ) ∧ (¬ (v3 &&& (-v3)) = (0 : Int32) →
        Q (.inl (some (.int (-1 : Int32)))) s4
      )
    )
  ) ∧ (¬ (st_I s4 153 11) = (1 : Int32) →
    ((v3 &&& (-v3)) = (0 : Int32) →
      Q (.inl (some (.int (-1 : Int32)))) s4
    ) ∧ (¬ (v3 &&& (-v3)) = (0 : Int32) →
      ∃ (v17 : Int32) (s15 : st_T), Wd s15 ∧ fn_ γ m_J6_bitCount_0f7a4 0 [.int ((v3 &&& (-v3)) - (1 : Int32))] s4 (.int v17) s15 ∧
      Q (.inl (some (.int v17))) s15
    )
  )
set_option maxRecDepth 10000 in
theorem g_X4_committed_0 {γ : ga_T} {l1 : Int64} {l3 : Int32} {l4 : Int32} {σ : st_T} {Q : rs_T → st_T → Prop} (zw : Wd σ) (zh : p_X4_committed_0 γ l1 l3 l4 σ Q) : vv_ γ m_X4_committed 2 0 [(0, .ref 153), (1, .long l1), (3, .int l3), (4, .int l4)] [] σ Q := by
  unfold p_X4_committed_0 at zh
  refine vr_aload_n dX4_committed_0 rfl rfl ?_
  refine vr_lload_n dX4_committed_1 rfl rfl ?_
  refine vr_iload_n dX4_committed_2 rfl rfl ?_
  refine vr_iload dX4_committed_3 rfl ?_
  obtain ⟨v3, s1, zw1, zf_2, zh⟩ := zh
  refine vc_V (As := [.long l1, .int l3, .int l4]) (rest := []) dX4_committed_5 cV_LitmusTester_Machine_106 (wC_153 zw) rfl rfl (Nat.le_of_ble_eq_true rfl) (Nat.le_of_ble_eq_true rfl) (co_n zf_2 ?_)
  replace zw := zw1
  refine vr_istore dX4_committed_8 (Nat.le_of_ble_eq_true rfl) (vv_eq (ls' := [(0, .ref 153), (1, .long l1), (3, .int l3), (4, .int l4), (5, .int v3)]) rfl ?_)
  refine vr_iload dX4_committed_10 rfl ?_
  refine vr_iload dX4_committed_12 rfl ?_
  refine vr_ineg dX4_committed_14 ?_
  refine vr_iand dX4_committed_15 ?_
  refine vr_istore dX4_committed_16 (Nat.le_of_ble_eq_true rfl) (vv_eq (ls' := [(0, .ref 153), (1, .long l1), (3, .int l3), (4, .int l4), (5, .int v3), (6, .int (v3 &&& (-v3)))]) rfl ?_)
  refine vr_aload_n dX4_committed_18 rfl rfl ?_
  refine vr_lload_n dX4_committed_19 rfl rfl ?_
  refine vr_iload_n dX4_committed_20 rfl rfl ?_
  obtain ⟨v6, s4, zw1, zf_5, zh⟩ := zh
  refine vc_V (As := [.long l1, .int l3]) (rest := []) dX4_committed_21 cV_LitmusTester_Machine_102 (wC_153 zw) rfl rfl (Nat.le_of_ble_eq_true rfl) (Nat.le_of_ble_eq_true rfl) (co_n zf_5 ?_)
  replace zw := zw1
  refine vr_istore dX4_committed_24 (Nat.le_of_ble_eq_true rfl) (vv_eq (ls' := [(0, .ref 153), (1, .long l1), (3, .int l3), (4, .int l4), (5, .int v3), (6, .int (v3 &&& (-v3))), (7, .int v6)]) rfl ?_)
  refine vr_aload_n dX4_committed_26 rfl rfl ?_
  refine vr_getI dX4_committed_27 fl_LitmusTester_Machine_42 (wC_153 zw) rfl ?_
  refine vr_iconst dX4_committed_30 (v := (1 : Int32)) (by decide) ?_
  refine vr_ic_ne dX4_committed_31 (tgt := 45) rfl (fun zd_7 => ?_) (fun zd_7 => ?_)
  · replace zh := zh.2 zd_7
    refine vr_iconst dX4_committed_45 (v := (1 : Int32)) (by decide) ?_
    refine vr_goto dX4_committed_46 (tgt := 50) rfl ?_
    refine vr_istore dX4_committed_50 (Nat.le_of_ble_eq_true rfl) (vv_eq (ls' := [(0, .ref 153), (1, .long l1), (3, .int l3), (4, .int l4), (5, .int v3), (6, .int (v3 &&& (-v3))), (7, .int v6), (8, .int (1 : Int32))]) rfl ?_)
    refine vr_iload dX4_committed_52 rfl ?_
    refine vr_if_eq dX4_committed_54 (tgt := 72) rfl (fun zd_14 => ?_) (fun zd_14 => ?_)
    · replace zh := zh.1 zd_14
      refine vr_iconst dX4_committed_72 (v := (-1 : Int32)) (by decide) ?_
      exact vr_iret dX4_committed_73 rfl zh
    · replace zh := zh.2 zd_14
      refine vr_iload dX4_committed_57 rfl ?_
      refine vr_if_eq dX4_committed_59 (tgt := 72) rfl (fun c => absurd c (by decide)) (fun _ => ?_)
      refine vr_iload dX4_committed_62 rfl ?_
      refine vr_iconst dX4_committed_64 (v := (1 : Int32)) (by decide) ?_
      refine vr_isub dX4_committed_65 ?_
      obtain ⟨v17, s15, zw1, zf_16, zh⟩ := zh
      refine vc_S (As := [.int ((v3 &&& (-v3)) - (1 : Int32))]) (rest := []) dX4_committed_66 cS_LitmusTester_Machine_110 rfl rfl (Nat.le_of_ble_eq_true rfl) (Nat.le_of_ble_eq_true rfl) (co_n zf_16 ?_)
      replace zw := zw1
      refine vr_goto dX4_committed_69 (tgt := 73) rfl ?_
      exact vr_iret dX4_committed_73 rfl zh
  · replace zh := zh.1 zd_7
    refine vr_iload dX4_committed_34 rfl ?_
    refine vr_iload dX4_committed_36 rfl ?_
    refine vr_iload dX4_committed_38 rfl ?_
    refine vr_ineg dX4_committed_40 ?_
    refine vr_iand dX4_committed_41 ?_
    refine vr_ic_ne dX4_committed_42 (tgt := 49) rfl (fun zd_8 => ?_) (fun zd_8 => ?_)
    · replace zh := zh.2 zd_8
      refine vr_iconst dX4_committed_49 (v := (0 : Int32)) (by decide) ?_
      refine vr_istore dX4_committed_50 (Nat.le_of_ble_eq_true rfl) (vv_eq (ls' := [(0, .ref 153), (1, .long l1), (3, .int l3), (4, .int l4), (5, .int v3), (6, .int (v3 &&& (-v3))), (7, .int v6), (8, .int (0 : Int32))]) rfl ?_)
      refine vr_iload dX4_committed_52 rfl ?_
      refine vr_if_eq dX4_committed_54 (tgt := 72) rfl (fun zd_13 => ?_) (fun zd_13 => ?_)
      · replace zh := zh.1 zd_13
        refine vr_iconst dX4_committed_72 (v := (-1 : Int32)) (by decide) ?_
        exact vr_iret dX4_committed_73 rfl zh
      · replace zh := zh.2 zd_13
        refine vr_iload dX4_committed_57 rfl ?_
        refine vr_if_eq dX4_committed_59 (tgt := 72) rfl (fun _ => ?_) (fun c => absurd (by decide) c)
        refine vr_iconst dX4_committed_72 (v := (-1 : Int32)) (by decide) ?_
        exact vr_iret dX4_committed_73 rfl zh
    · replace zh := zh.1 zd_8
      refine vr_iconst dX4_committed_45 (v := (1 : Int32)) (by decide) ?_
      refine vr_goto dX4_committed_46 (tgt := 50) rfl ?_
      refine vr_istore dX4_committed_50 (Nat.le_of_ble_eq_true rfl) (vv_eq (ls' := [(0, .ref 153), (1, .long l1), (3, .int l3), (4, .int l4), (5, .int v3), (6, .int (v3 &&& (-v3))), (7, .int v6), (8, .int (1 : Int32))]) rfl ?_)
      refine vr_iload dX4_committed_52 rfl ?_
      refine vr_if_eq dX4_committed_54 (tgt := 72) rfl (fun zd_9 => ?_) (fun zd_9 => ?_)
      · replace zh := zh.1 zd_9
        refine vr_iconst dX4_committed_72 (v := (-1 : Int32)) (by decide) ?_
        exact vr_iret dX4_committed_73 rfl zh
      · replace zh := zh.2 zd_9
        refine vr_iload dX4_committed_57 rfl ?_
        refine vr_if_eq dX4_committed_59 (tgt := 72) rfl (fun c => absurd c (by decide)) (fun _ => ?_)
        refine vr_iload dX4_committed_62 rfl ?_
        refine vr_iconst dX4_committed_64 (v := (1 : Int32)) (by decide) ?_
        refine vr_isub dX4_committed_65 ?_
        obtain ⟨v12, s10, zw1, zf_11, zh⟩ := zh
        refine vc_S (As := [.int ((v3 &&& (-v3)) - (1 : Int32))]) (rest := []) dX4_committed_66 cS_LitmusTester_Machine_110 rfl rfl (Nat.le_of_ble_eq_true rfl) (Nat.le_of_ble_eq_true rfl) (co_n zf_11 ?_)
        replace zw := zw1
        refine vr_goto dX4_committed_69 (tgt := 73) rfl ?_
        exact vr_iret dX4_committed_73 rfl zh
theorem e_X4_committed {γ : ga_T} {l1 : Int64} {l3 : Int32} {l4 : Int32} {σ : st_T} {Q : rs_T → st_T → Prop} (zw : Wd σ) (zh : p_X4_committed_0 γ l1 l3 l4 σ Q) : sp_ γ m_X4_committed 2 [.ref 153, .long l1, .int l3, .int l4] σ Q := sp_of (pl_X4_committed) rfl (Nat.le_of_ble_eq_true rfl) (g_X4_committed_0 zw zh)
def p_X4_forwarding_0 (γ : ga_T) (l1 : Int64) (l3 : Int32) (l4 : Int32) (σ : st_T) (Q : rs_T → st_T → Prop) : Prop :=
  ∃ (v3 : Int32) (s1 : st_T), Wd s1 ∧ fn_ γ m_X4_waitingFor 1 [.ref 153, .long l1, .int l3, .int l4] σ (.int v3) s1 ∧
  vv_ γ m_X4_forwarding 2 14 [(5, .int v3), (6, .int (9 : Int32))] [] s1 Q
set_option maxRecDepth 10000 in
theorem g_X4_forwarding_0 {γ : ga_T} {l1 : Int64} {l3 : Int32} {l4 : Int32} {σ : st_T} {Q : rs_T → st_T → Prop} (zw : Wd σ) (zh : p_X4_forwarding_0 γ l1 l3 l4 σ Q) : vv_ γ m_X4_forwarding 2 0 [(0, .ref 153), (1, .long l1), (3, .int l3), (4, .int l4)] [] σ Q := by
  unfold p_X4_forwarding_0 at zh
  refine vr_aload_n dX4_forwarding_0 rfl rfl ?_
  refine vr_lload_n dX4_forwarding_1 rfl rfl ?_
  refine vr_iload_n dX4_forwarding_2 rfl rfl ?_
  refine vr_iload dX4_forwarding_3 rfl ?_
  obtain ⟨v3, s1, zw1, zf_2, zh⟩ := zh
  refine vc_V (As := [.long l1, .int l3, .int l4]) (rest := []) dX4_forwarding_5 cV_LitmusTester_Machine_106 (wC_153 zw) rfl rfl (Nat.le_of_ble_eq_true rfl) (Nat.le_of_ble_eq_true rfl) (co_n zf_2 ?_)
  replace zw := zw1
  refine vr_istore dX4_forwarding_8 (Nat.le_of_ble_eq_true rfl) (vv_eq (ls' := [(0, .ref 153), (1, .long l1), (3, .int l3), (4, .int l4), (5, .int v3)]) rfl ?_)
  refine vr_bipush dX4_forwarding_10 (v := (9 : Int32)) (by decide) ?_
  refine vr_istore dX4_forwarding_12 (Nat.le_of_ble_eq_true rfl) (vv_eq (ls' := [(0, .ref 153), (1, .long l1), (3, .int l3), (4, .int l4), (5, .int v3), (6, .int (9 : Int32))]) rfl ?_)
  exact vv_sub (ls' := [(5, .int v3), (6, .int (9 : Int32))]) ⟨rfl, rfl, trivial⟩ zh
theorem e_X4_forwarding {γ : ga_T} {l1 : Int64} {l3 : Int32} {l4 : Int32} {σ : st_T} {Q : rs_T → st_T → Prop} (zw : Wd σ) (zh : p_X4_forwarding_0 γ l1 l3 l4 σ Q) : sp_ γ m_X4_forwarding 2 [.ref 153, .long l1, .int l3, .int l4] σ Q := sp_of (pl_X4_forwarding) rfl (Nat.le_of_ble_eq_true rfl) (g_X4_forwarding_0 zw zh)
def p_X4_forwarding_14 (γ : ga_T) (l5 : Int32) (l6 : Int32) (σ : st_T) (Q : rs_T → st_T → Prop) : Prop :=
  (l6 < (0 : Int32) →
    Q (.inl (some (.int (-1 : Int32)))) σ
  ) ∧ (¬ l6 < (0 : Int32) →
    (((l5 >>> (l6 &&& 31)) &&& (1 : Int32)) = (0 : Int32) →
      vv_ γ m_X4_forwarding 2 14 [(5, .int l5), (6, .int (l6 + (-1)))] [] σ Q
    ) ∧ (¬ ((l5 >>> (l6 &&& 31)) &&& (1 : Int32)) = (0 : Int32) →
      Q (.inl (some (.int l6))) σ
    )
  )
set_option maxRecDepth 10000 in
theorem g_X4_forwarding_14 {γ : ga_T} {l5 : Int32} {l6 : Int32} {σ : st_T} {Q : rs_T → st_T → Prop} (zw : Wd σ) (zh : p_X4_forwarding_14 γ l5 l6 σ Q) : vv_ γ m_X4_forwarding 2 14 [(5, .int l5), (6, .int l6)] [] σ Q := by
  unfold p_X4_forwarding_14 at zh
  refine vr_iload dX4_forwarding_14 rfl ?_
  refine vr_if_lt dX4_forwarding_16 (tgt := 38) rfl (fun zd_1 => ?_) (fun zd_1 => ?_)
  · replace zh := zh.1 zd_1
    refine vr_iconst dX4_forwarding_38 (v := (-1 : Int32)) (by decide) ?_
    exact vr_iret dX4_forwarding_39 rfl zh
  · replace zh := zh.2 zd_1
    refine vr_iload dX4_forwarding_19 rfl ?_
    refine vr_iload dX4_forwarding_21 rfl ?_
    refine vr_ishr dX4_forwarding_23 ?_
    refine vr_iconst dX4_forwarding_24 (v := (1 : Int32)) (by decide) ?_
    refine vr_iand dX4_forwarding_25 ?_
    refine vr_if_eq dX4_forwarding_26 (tgt := 32) rfl (fun zd_2 => ?_) (fun zd_2 => ?_)
    · replace zh := zh.1 zd_2
      refine vr_iinc dX4_forwarding_32 (x := l6) (v := (l6 + (-1))) rfl (ii_ (by decide)) (Nat.le_of_ble_eq_true rfl) (vv_eq (ls' := [(5, .int l5), (6, .int (l6 + (-1)))]) rfl ?_)
      refine vr_goto dX4_forwarding_35 (tgt := 14) rfl ?_
      exact vv_sub (ls' := [(5, .int l5), (6, .int (l6 + (-1)))]) ⟨rfl, rfl, trivial⟩ zh
    · replace zh := zh.2 zd_2
      refine vr_iload dX4_forwarding_29 rfl ?_
      exact vr_iret dX4_forwarding_31 rfl zh
def p_X4_parts_0 (γ : ga_T) (l1 : Int64) (l3 : Int32) (σ : st_T) (Q : rs_T → st_T → Prop) : Prop :=
  ∃ (v3 : Int32) (s1 : st_T), Wd s1 ∧ fn_ γ m_X4_waitingOf 0 [.ref 153, .long l1, .int l3] σ (.int v3) s1 ∧
  (v3 = (0 : Int32) →
    Q (.inl (some (.int (1 : Int32)))) s1
  ) ∧ (¬ v3 = (0 : Int32) →
    ∃ (v7 : Int32) (s5 : st_T), Wd s5 ∧ fn_ γ m_X7_locations 0 [.ref 132] s1 (.int v7) s5 ∧
    Q (.inl (some (.int ((1 : Int32) + v7)))) s5
  )
set_option maxRecDepth 10000 in
theorem g_X4_parts_0 {γ : ga_T} {l1 : Int64} {l3 : Int32} {σ : st_T} {Q : rs_T → st_T → Prop} (zw : Wd σ) (zh : p_X4_parts_0 γ l1 l3 σ Q) : vv_ γ m_X4_parts 1 0 [(0, .ref 153), (1, .long l1), (3, .int l3)] [] σ Q := by
  unfold p_X4_parts_0 at zh
  refine vr_aload_n dX4_parts_0 rfl rfl ?_
  refine vr_lload_n dX4_parts_1 rfl rfl ?_
  refine vr_iload_n dX4_parts_2 rfl rfl ?_
  obtain ⟨v3, s1, zw1, zf_2, zh⟩ := zh
  refine vc_V (As := [.long l1, .int l3]) (rest := []) dX4_parts_3 cV_LitmusTester_Machine_102 (wC_153 zw) rfl rfl (Nat.le_of_ble_eq_true rfl) (Nat.le_of_ble_eq_true rfl) (co_n zf_2 ?_)
  replace zw := zw1
  refine vr_if_ne dX4_parts_6 (tgt := 13) rfl (fun zd_4 => ?_) (fun zd_4 => ?_)
  · replace zh := zh.2 zd_4
    refine vr_iconst dX4_parts_13 (v := (1 : Int32)) (by decide) ?_
    refine vr_aload_n dX4_parts_14 rfl rfl ?_
    refine vr_getR dX4_parts_15 fl_LitmusTester_Machine_56 (wC_153 zw) (Or.inl ⟨_, rfl⟩) (wR_153_0 zw) ?_
    obtain ⟨v7, s5, zw1, zf_6, zh⟩ := zh
    refine vc_V (As := []) (rest := [.int (1 : Int32)]) dX4_parts_18 cV_LitmusTester_Machine_76 (wC_132 zw) rfl rfl (Nat.le_of_ble_eq_true rfl) (Nat.le_of_ble_eq_true rfl) (co_n zf_6 ?_)
    replace zw := zw1
    refine vr_iadd dX4_parts_21 ?_
    exact vr_iret dX4_parts_22 rfl zh
  · replace zh := zh.1 zd_4
    refine vr_iconst dX4_parts_9 (v := (1 : Int32)) (by decide) ?_
    refine vr_goto dX4_parts_10 (tgt := 22) rfl ?_
    exact vr_iret dX4_parts_22 rfl zh
theorem e_X4_parts {γ : ga_T} {l1 : Int64} {l3 : Int32} {σ : st_T} {Q : rs_T → st_T → Prop} (zw : Wd σ) (zh : p_X4_parts_0 γ l1 l3 σ Q) : sp_ γ m_X4_parts 1 [.ref 153, .long l1, .int l3] σ Q := sp_of (pl_X4_parts) rfl (Nat.le_of_ble_eq_true rfl) (g_X4_parts_0 zw zh)
def p_X4_after_0 (γ : ga_T) (l1 : Int64) (l3 : Int32) (l4 : Int32) (σ : st_T) (Q : rs_T → st_T → Prop) : Prop :=
  (l4 = (0 : Int32) →
    ∃ (v4 : Int32) (s2 : st_T), Wd s2 ∧ fn_ γ m_X4_next 1 [.ref 153, .long l1, .int l3] σ (.int v4) s2 ∧
    (v4 < (0 : Int32) →
      Q (.inl (some (.long (-1 : Int64)))) s2
    ) ∧ (¬ v4 < (0 : Int32) →
      (v4 < (10 : Int32) →
        (l4 = (0 : Int32) →
          ((((st_I s2 153 12) >>> (v4 &&& 31)) &&& (1 : Int32)) = (0 : Int32) →
            ∃ (v11 : Int32) (s9 : st_T), Wd s9 ∧ fn_ γ m_X4_positionShift 0 [.int l3] s2 (.int v11) s9 ∧
            vp_in v4 10 ∧
            (((st_I s9 154 v4.toNatClampNeg).toInt < 0 ∨ 2 < (st_I s9 154 v4.toNatClampNeg).toInt) →
              Q (.inl (some (.long (l1 + ((1 : Int64) <<< (v11.toInt64 &&& 63)))))) s9
            ) ∧
            ((st_I s9 154 v4.toNatClampNeg).toInt = 0 →
              ((st_I s9 153 11) = (0 : Int32) →
                ∃ (v16 : Int32) (s14 : st_T), Wd s14 ∧ fn_ γ m_X4_valueOf 0 [.ref 153, .long l1, .int v4] s9 (.int v16) s14 ∧
                ∃ (v19 : Int64) (s17 : st_T), Wd s17 ∧ fn_ γ m_X4_written 1 [.ref 153, .long (l1 + ((1 : Int64) <<< (v11.toInt64 &&& 63))), .int v4, .int v16] s14 (.long v19) s17 ∧
                Q (.inl (some (.long v19))) s17
              ) ∧ (¬ (st_I s9 153 11) = (0 : Int32) →
                Q (.inl (some (.long ((l1 + ((1 : Int64) <<< (v11.toInt64 &&& 63))) ||| ((1 : Int64) <<< (((22 : Int32) + v4).toInt64 &&& 63)))))) s9
              )
            ) ∧
            ((st_I s9 154 v4.toNatClampNeg).toInt = 1 →
              vp_in v4 10 ∧
              ∃ (v23 : Int32) (s21 : st_T), Wd s21 ∧ fn_ γ m_X4_forwarding 2 [.ref 153, .long l1, .int l3, .int (st_I s9 155 v4.toNatClampNeg)] s9 (.int v23) s21 ∧
              ∃ (v26 : Int64) (s24 : st_T), Wd s24 ∧ fn_ γ m_X4_withRead 1 [.ref 153, .long (l1 + ((1 : Int64) <<< (v11.toInt64 &&& 63))), .int v4, .int v23] s21 (.long v26) s24 ∧
              Q (.inl (some (.long v26))) s24
            ) ∧
            ((st_I s9 154 v4.toNatClampNeg).toInt = 2 →
              ∃ (v29 : Int64) (s27 : st_T), Wd s27 ∧ fn_ γ m_X4_withRead 1 [.ref 153, .long (l1 + ((1 : Int64) <<< (v11.toInt64 &&& 63))), .int v4, .int (-1 : Int32)] s9 (.long v29) s27 ∧
              ∃ (v32 : Int32) (s30 : st_T), Wd s30 ∧ fn_ γ m_X4_valueOf 0 [.ref 153, .long l1, .int v4] s27 (.int v32) s30 ∧
              ∃ (v35 : Int64) (s33 : st_T), Wd s33 ∧ fn_ γ m_X4_written 1 [.ref 153, .long v29, .int v4, .int v32] s30 (.long v35) s33 ∧
              Q (.inl (some (.long v35))) s33
            )
          ) ∧ (¬ (((st_I s2 153 12) >>> (v4 &&& 31)) &&& (1 : Int32)) = (0 : Int32) →
            ∃ (v39 : Int32) (s37 : st_T), Wd s37 ∧ fn_ γ m_X4_waitingOf 0 [.ref 153, .long l1, .int l3] s2 (.int v39) s37 ∧
            (v39 = (0 : Int32) →
              ∃ (v43 : Int32) (s41 : st_T), Wd s41 ∧ fn_ γ m_X4_positionShift 0 [.int l3] s37 (.int v43) s41 ∧
              vp_in v4 10 ∧
              (((st_I s41 154 v4.toNatClampNeg).toInt < 0 ∨ 2 < (st_I s41 154 v4.toNatClampNeg).toInt) →
                Q (.inl (some (.long (l1 + ((1 : Int64) <<< (v43.toInt64 &&& 63)))))) s41
              ) ∧
              ((st_I s41 154 v4.toNatClampNeg).toInt = 0 →
                ((st_I s41 153 11) = (0 : Int32) →
                  ∃ (v48 : Int32) (s46 : st_T), Wd s46 ∧ fn_ γ m_X4_valueOf 0 [.ref 153, .long l1, .int v4] s41 (.int v48) s46 ∧
                  ∃ (v51 : Int64) (s49 : st_T), Wd s49 ∧ fn_ γ m_X4_written 1 [.ref 153, .long (l1 + ((1 : Int64) <<< (v43.toInt64 &&& 63))), .int v4, .int v48] s46 (.long v51) s49 ∧
                  Q (.inl (some (.long v51))) s49
                ) ∧ (¬ (st_I s41 153 11) = (0 : Int32) →
                  Q (.inl (some (.long ((l1 + ((1 : Int64) <<< (v43.toInt64 &&& 63))) ||| ((1 : Int64) <<< (((22 : Int32) + v4).toInt64 &&& 63)))))) s41
                )
              ) ∧
              ((st_I s41 154 v4.toNatClampNeg).toInt = 1 →
                vp_in v4 10 ∧
                ∃ (v55 : Int32) (s53 : st_T), Wd s53 ∧ fn_ γ m_X4_forwarding 2 [.ref 153, .long l1, .int l3, .int (st_I s41 155 v4.toNatClampNeg)] s41 (.int v55) s53 ∧
                ∃ (v58 : Int64) (s56 : st_T), Wd s56 ∧ fn_ γ m_X4_withRead 1 [.ref 153, .long (l1 + ((1 : Int64) <<< (v43.toInt64 &&& 63))), .int v4, .int v55] s53 (.long v58) s56 ∧
                Q (.inl (some (.long v58))) s56
              ) ∧
              ((st_I s41 154 v4.toNatClampNeg).toInt = 2 →
                ∃ (v61 : Int64) (s59 : st_T), Wd s59 ∧ fn_ γ m_X4_withRead 1 [.ref 153, .long (l1 + ((1 : Int64) <<< (v43.toInt64 &&& 63))), .int v4, .int (-1 : Int32)] s41 (.long v61) s59 ∧
                ∃ (v64 : Int32) (s62 : st_T), Wd s62 ∧ fn_ γ m_X4_valueOf 0 [.ref 153, .long l1, .int v4] s59 (.int v64) s62 ∧
                ∃ (v67 : Int64) (s65 : st_T), Wd s65 ∧ fn_ γ m_X4_written 1 [.ref 153, .long v61, .int v4, .int v64] s62 (.long v67) s65 ∧
                Q (.inl (some (.long v67))) s65
              )
            ) ∧ (¬ v39 = (0 : Int32) →
              Q (.inl (some (.long (-1 : Int64)))) s37
            )
          )
        ) ∧ (¬ l4 = (0 : Int32) →
          ∃ (v71 : Int32) (s69 : st_T), Wd s69 ∧ fn_ γ m_X4_valueOf 0 [.ref 153, .long l1, .int v4] s2 (.int v71) s69 ∧
          ∃ (v74 : Int64) (s72 : st_T), Wd s72 ∧ fn_ γ m_X4_written 1 [.ref 153, .long (l1 ^^^ ((1 : Int64) <<< (((22 : Int32) + v4).toInt64 &&& 63))), .int v4, .int v71] s69 (.long v74) s72 ∧
          Q (.inl (some (.long v74))) s72
        )
      ) ∧ (¬ v4 < (10 : Int32) →
        Q (.inl (some (.long (-1 : Int64)))) s2
      )
    )
  ) ∧ (¬ l4 = (0 : Int32) →
    ∃ (v77 : Int32) (s75 : st_T), Wd s75 ∧ fn_ γ m_X4_committed 2 [.ref 153, .long l1, .int l3, .int (l4 - (1 : Int32))] σ (.int v77) s75 ∧
    (v77 < (0 : Int32) →
      Q (.inl (some (.long (-1 : Int64)))) s75
    ) ∧ (¬ v77 < (0 : Int32) →
      (v77 < (10 : Int32) →
        (l4 = (0 : Int32) →
          ((((st_I s75 153 12) >>> (v77 &&& 31)) &&& (1 : Int32)) = (0 : Int32) →
            ∃ (v84 : Int32) (s82 : st_T), Wd s82 ∧ fn_ γ m_X4_positionShift 0 [.int l3] s75 (.int v84) s82 ∧
            vp_in v77 10 ∧
            (((st_I s82 154 v77.toNatClampNeg).toInt < 0 ∨ 2 < (st_I s82 154 v77.toNatClampNeg).toInt) →
              Q (.inl (some (.long (l1 + ((1 : Int64) <<< (v84.toInt64 &&& 63)))))) s82
            ) ∧
            ((st_I s82 154 v77.toNatClampNeg).toInt = 0 →
              ((st_I s82 153 11) = (0 : Int32) →
                ∃ (v89 : Int32) (s87 : st_T), Wd s87 ∧ fn_ γ m_X4_valueOf 0 [.ref 153, .long l1, .int v77] s82 (.int v89) s87 ∧
                ∃ (v92 : Int64) (s90 : st_T), Wd s90 ∧ fn_ γ m_X4_written 1 [.ref 153, .long (l1 + ((1 : Int64) <<< (v84.toInt64 &&& 63))), .int v77, .int v89] s87 (.long v92) s90 ∧
                Q (.inl (some (.long v92))) s90
              ) ∧ (¬ (st_I s82 153 11) = (0 : Int32) →
                Q (.inl (some (.long ((l1 + ((1 : Int64) <<< (v84.toInt64 &&& 63))) ||| ((1 : Int64) <<< (((22 : Int32) + v77).toInt64 &&& 63)))))) s82
              )
            ) ∧
            ((st_I s82 154 v77.toNatClampNeg).toInt = 1 →
              vp_in v77 10 ∧
              ∃ (v96 : Int32) (s94 : st_T), Wd s94 ∧ fn_ γ m_X4_forwarding 2 [.ref 153, .long l1, .int l3, .int (st_I s82 155 v77.toNatClampNeg)] s82 (.int v96) s94 ∧
              ∃ (v99 : Int64) (s97 : st_T), Wd s97 ∧ fn_ γ m_X4_withRead 1 [.ref 153, .long (l1 + ((1 : Int64) <<< (v84.toInt64 &&& 63))), .int v77, .int v96] s94 (.long v99) s97 ∧
              Q (.inl (some (.long v99))) s97
            ) ∧
            ((st_I s82 154 v77.toNatClampNeg).toInt = 2 →
              ∃ (v102 : Int64) (s100 : st_T), Wd s100 ∧ fn_ γ m_X4_withRead 1 [.ref 153, .long (l1 + ((1 : Int64) <<< (v84.toInt64 &&& 63))), .int v77, .int (-1 : Int32)] s82 (.long v102) s100 ∧
              ∃ (v105 : Int32) (s103 : st_T), Wd s103 ∧ fn_ γ m_X4_valueOf 0 [.ref 153, .long l1, .int v77] s100 (.int v105) s103 ∧
              ∃ (v108 : Int64) (s106 : st_T), Wd s106 ∧ fn_ γ m_X4_written 1 [.ref 153, .long v102, .int v77, .int v105] s103 (.long v108) s106 ∧
              Q (.inl (some (.long v108))) s106
            )
          ) ∧ (¬ (((st_I s75 153 12) >>> (v77 &&& 31)) &&& (1 : Int32)) = (0 : Int32) →
            ∃ (v112 : Int32) (s110 : st_T), Wd s110 ∧ fn_ γ m_X4_waitingOf 0 [.ref 153, .long l1, .int l3] s75 (.int v112) s110 ∧
            (v112 = (0 : Int32) →
              ∃ (v116 : Int32) (s114 : st_T), Wd s114 ∧ fn_ γ m_X4_positionShift 0 [.int l3] s110 (.int v116) s114 ∧
              vp_in v77 10 ∧
              (((st_I s114 154 v77.toNatClampNeg).toInt < 0 ∨ 2 < (st_I s114 154 v77.toNatClampNeg).toInt) →
                Q (.inl (some (.long (l1 + ((1 : Int64) <<< (v116.toInt64 &&& 63)))))) s114
              ) ∧
              ((st_I s114 154 v77.toNatClampNeg).toInt = 0 →
                ((st_I s114 153 11) = (0 : Int32) →
                  ∃ (v121 : Int32) (s119 : st_T), Wd s119 ∧ fn_ γ m_X4_valueOf 0 [.ref 153, .long l1, .int v77] s114 (.int v121) s119 ∧
                  ∃ (v124 : Int64) (s122 : st_T), Wd s122 ∧ fn_ γ m_X4_written 1 [.ref 153, .long (l1 + ((1 : Int64) <<< (v116.toInt64 &&& 63))), .int v77, .int v121] s119 (.long v124) s122 ∧
                  Q (.inl (some (.long v124))) s122
                ) ∧ (¬ (st_I s114 153 11) = (0 : Int32) →
                  Q (.inl (some (.long ((l1 + ((1 : Int64) <<< (v116.toInt64 &&& 63))) ||| ((1 : Int64) <<< (((22 : Int32) + v77).toInt64 &&& 63)))))) s114
                )
              ) ∧
              ((st_I s114 154 v77.toNatClampNeg).toInt = 1 →
                vp_in v77 10 ∧
                ∃ (v128 : Int32) (s126 : st_T), Wd s126 ∧ fn_ γ m_X4_forwarding 2 [.ref 153, .long l1, .int l3, .int (st_I s114 155 v77.toNatClampNeg)] s114 (.int v128) s126 ∧
                ∃ (v131 : Int64) (s129 : st_T), Wd s129 ∧ fn_ γ m_X4_withRead 1 [.ref 153, .long (l1 + ((1 : Int64) <<< (v116.toInt64 &&& 63))), .int v77, .int v128] s126 (.long v131) s129 ∧
                Q (.inl (some (.long v131))) s129
              ) ∧
              ((st_I s114 154 v77.toNatClampNeg).toInt = 2 →
                ∃ (v134 : Int64) (s132 : st_T), Wd s132 ∧ fn_ γ m_X4_withRead 1 [.ref 153, .long (l1 + ((1 : Int64) <<< (v116.toInt64 &&& 63))), .int v77, .int (-1 : Int32)] s114 (.long v134) s132 ∧
                ∃ (v137 : Int32) (s135 : st_T), Wd s135 ∧ fn_ γ m_X4_valueOf 0 [.ref 153, .long l1, .int v77] s132 (.int v137) s135 ∧
                ∃ (v140 : Int64) (s138 : st_T), Wd s138 ∧ fn_ γ m_X4_written 1 [.ref 153, .long v134, .int v77, .int v137] s135 (.long v140) s138 ∧
                Q (.inl (some (.long v140))) s138
              )
            ) ∧ (¬ v112 = (0 : Int32) →
              Q (.inl (some (.long (-1 : Int64)))) s110
            )
          )
        ) ∧ (¬ l4 = (0 : Int32) →
          ∃ (v144 : Int32) (s142 : st_T), Wd s142 ∧ fn_ γ m_X4_valueOf 0 [.ref 153, .long l1, .int v77] s75 (.int v144) s142 ∧
          ∃ (v147 : Int64) (s145 : st_T), Wd s145 ∧ fn_ γ m_X4_written 1 [.ref 153, .long (l1 ^^^ ((1 : Int64) <<< (((22 : Int32) + v77).toInt64 &&& 63))), .int v77, .int v144] s142 (.long v147) s145 ∧
          Q (.inl (some (.long v147))) s145
        )
      ) ∧ (¬ v77 < (10 : Int32) →
        Q (.inl (some (.long (-1 : Int64)))) s75
      )
    )
  )
set_option maxRecDepth 10000 in
theorem g_X4_after_0 {γ : ga_T} {l1 : Int64} {l3 : Int32} {l4 : Int32} {σ : st_T} {Q : rs_T → st_T → Prop} (zw : Wd σ) (zh : p_X4_after_0 γ l1 l3 l4 σ Q) : vv_ γ m_X4_after 3 0 [(0, .ref 153), (1, .long l1), (3, .int l3), (4, .int l4)] [] σ Q := by
  unfold p_X4_after_0 at zh
  refine vr_iload dX4_after_0 rfl ?_
  refine vr_if_ne dX4_after_2 (tgt := 14) rfl (fun zd_1 => ?_) (fun zd_1 => ?_)
  · replace zh := zh.2 zd_1
    refine vr_aload_n dX4_after_14 rfl rfl ?_
    refine vr_lload_n dX4_after_15 rfl rfl ?_
    refine vr_iload_n dX4_after_16 rfl rfl ?_
    refine vr_iload dX4_after_17 rfl ?_
    refine vr_iconst dX4_after_19 (v := (1 : Int32)) (by decide) ?_
    refine vr_isub dX4_after_20 ?_
    obtain ⟨v77, s75, zw1, zf_76, zh⟩ := zh
    refine vc_V (As := [.long l1, .int l3, .int (l4 - (1 : Int32))]) (rest := []) dX4_after_21 cV_LitmusTester_Machine_118 (wC_153 zw) rfl rfl (Nat.le_of_ble_eq_true rfl) (Nat.le_of_ble_eq_true rfl) (co_n zf_76 ?_)
    replace zw := zw1
    refine vr_istore dX4_after_24 (Nat.le_of_ble_eq_true rfl) (vv_eq (ls' := [(0, .ref 153), (1, .long l1), (3, .int l3), (4, .int l4), (5, .int v77)]) rfl ?_)
    refine vr_iload dX4_after_26 rfl ?_
    refine vr_if_lt dX4_after_28 (tgt := 38) rfl (fun zd_78 => ?_) (fun zd_78 => ?_)
    · replace zh := zh.1 zd_78
      refine vr_ldc2 dX4_after_38 (v := (-1 : Int64)) tw_1259 ?_
      exact vr_lret dX4_after_41 rfl zh
    · replace zh := zh.2 zd_78
      refine vr_iload dX4_after_31 rfl ?_
      refine vr_bipush dX4_after_33 (v := (10 : Int32)) (by decide) ?_
      refine vr_ic_lt dX4_after_35 (tgt := 42) rfl (fun zd_79 => ?_) (fun zd_79 => ?_)
      · replace zh := zh.1 zd_79
        refine vr_iload dX4_after_42 rfl ?_
        refine vr_if_eq dX4_after_44 (tgt := 70) rfl (fun zd_80 => ?_) (fun zd_80 => ?_)
        · replace zh := zh.1 zd_80
          refine vr_aload_n dX4_after_70 rfl rfl ?_
          refine vr_getI dX4_after_71 fl_LitmusTester_Machine_46 (wC_153 zw) rfl ?_
          refine vr_iload dX4_after_74 rfl ?_
          refine vr_ishr dX4_after_76 ?_
          refine vr_iconst dX4_after_77 (v := (1 : Int32)) (by decide) ?_
          refine vr_iand dX4_after_78 ?_
          refine vr_if_eq dX4_after_79 (tgt := 95) rfl (fun zd_81 => ?_) (fun zd_81 => ?_)
          · replace zh := zh.1 zd_81
            refine vr_lload_n dX4_after_95 rfl rfl ?_
            refine vr_lconst dX4_after_96 (v := (1 : Int64)) (by decide) ?_
            refine vr_iload_n dX4_after_97 rfl rfl ?_
            obtain ⟨v84, s82, zw1, zf_83, zh⟩ := zh
            refine vc_S (As := [.int l3]) (rest := [.long (1 : Int64), .long l1]) dX4_after_98 cS_LitmusTester_Machine_91 rfl rfl (Nat.le_of_ble_eq_true rfl) (Nat.le_of_ble_eq_true rfl) (co_n zf_83 ?_)
            replace zw := zw1
            refine vr_lshl dX4_after_101 ?_
            refine vr_ladd dX4_after_102 ?_
            refine vr_lstore dX4_after_103 (Nat.le_of_ble_eq_true rfl) (vv_eq (ls' := [(0, .ref 153), (1, .long l1), (3, .int l3), (4, .int l4), (5, .int v77), (6, .long (l1 + ((1 : Int64) <<< (v84.toInt64 &&& 63))))]) rfl ?_)
            refine vr_aload_n dX4_after_105 rfl rfl ?_
            refine vr_getR dX4_after_106 fl_LitmusTester_Machine_11 (wC_153 zw) (Or.inr ⟨_, rfl⟩) (wR_153_1 zw) ?_
            refine vr_iload dX4_after_109 rfl ?_
            obtain ⟨zi_85, zh⟩ := zh
            refine vr_iaload dX4_after_111 (wS_154 zw) zi_85 ?_
            by_cases zd_109 : ((st_I s82 154 v77.toNatClampNeg).toInt < 0 ∨ 2 < (st_I s82 154 v77.toNatClampNeg).toInt)
            · replace zh := zh.1 zd_109
              refine vr_tswOut dX4_after_112 (tgt := 221) zd_109 rfl ?_
              refine vr_lload dX4_after_221 rfl ?_
              exact vr_lret dX4_after_223 rfl zh
            replace zh := zh.2
            have zd_109a : ¬ (st_I s82 154 v77.toNatClampNeg).toInt < 0 := fun z => zd_109 (Or.inl z)
            have zd_109b : ¬ 2 < (st_I s82 154 v77.toNatClampNeg).toInt := fun z => zd_109 (Or.inr z)
            by_cases zd_1090 : (st_I s82 154 v77.toNatClampNeg).toInt = 0
            · replace zh := zh.1 zd_1090
              refine vr_tswIn dX4_after_112 (tgt := 140) zd_109a zd_109b (by rw [zd_1090]; rfl) rfl ?_
              refine vr_aload_n dX4_after_140 rfl rfl ?_
              refine vr_getI dX4_after_141 fl_LitmusTester_Machine_42 (wC_153 zw) rfl ?_
              refine vr_if_ne dX4_after_144 (tgt := 165) rfl (fun zd_86 => ?_) (fun zd_86 => ?_)
              · replace zh := zh.2 zd_86
                refine vr_lload dX4_after_165 rfl ?_
                refine vr_lconst dX4_after_167 (v := (1 : Int64)) (by decide) ?_
                refine vr_bipush dX4_after_168 (v := (22 : Int32)) (by decide) ?_
                refine vr_iload dX4_after_170 rfl ?_
                refine vr_iadd dX4_after_172 ?_
                refine vr_lshl dX4_after_173 ?_
                refine vr_lor dX4_after_174 ?_
                exact vr_lret dX4_after_175 rfl zh
              · replace zh := zh.1 zd_86
                refine vr_aload_n dX4_after_147 rfl rfl ?_
                refine vr_lload dX4_after_148 rfl ?_
                refine vr_iload dX4_after_150 rfl ?_
                refine vr_aload_n dX4_after_152 rfl rfl ?_
                refine vr_lload_n dX4_after_153 rfl rfl ?_
                refine vr_iload dX4_after_154 rfl ?_
                obtain ⟨v89, s87, zw1, zf_88, zh⟩ := zh
                refine vc_V (As := [.long l1, .int v77]) (rest := [.int v77, .long (l1 + ((1 : Int64) <<< (v84.toInt64 &&& 63))), .ref 153]) dX4_after_156 cV_LitmusTester_Machine_123 (wC_153 zw) rfl rfl (Nat.le_of_ble_eq_true rfl) (Nat.le_of_ble_eq_true rfl) (co_n zf_88 ?_)
                replace zw := zw1
                obtain ⟨v92, s90, zw1, zf_91, zh⟩ := zh
                refine vc_V (As := [.long (l1 + ((1 : Int64) <<< (v84.toInt64 &&& 63))), .int v77, .int v89]) (rest := []) dX4_after_159 cV_LitmusTester_Machine_126 (wC_153 zw) rfl rfl (Nat.le_of_ble_eq_true rfl) (Nat.le_of_ble_eq_true rfl) (co_n zf_91 ?_)
                replace zw := zw1
                refine vr_goto dX4_after_162 (tgt := 175) rfl ?_
                exact vr_lret dX4_after_175 rfl zh
            replace zh := zh.2
            by_cases zd_1091 : (st_I s82 154 v77.toNatClampNeg).toInt = 1
            · replace zh := zh.1 zd_1091
              refine vr_tswIn dX4_after_112 (tgt := 176) zd_109a zd_109b (by rw [zd_1091]; rfl) rfl ?_
              refine vr_aload_n dX4_after_176 rfl rfl ?_
              refine vr_lload dX4_after_177 rfl ?_
              refine vr_iload dX4_after_179 rfl ?_
              refine vr_aload_n dX4_after_181 rfl rfl ?_
              refine vr_lload_n dX4_after_182 rfl rfl ?_
              refine vr_iload_n dX4_after_183 rfl rfl ?_
              refine vr_aload_n dX4_after_184 rfl rfl ?_
              refine vr_getR dX4_after_185 fl_LitmusTester_Machine_15 (wC_153 zw) (Or.inr ⟨_, rfl⟩) (wR_153_2 zw) ?_
              refine vr_iload dX4_after_188 rfl ?_
              obtain ⟨zi_93, zh⟩ := zh
              refine vr_iaload dX4_after_190 (wS_155 zw) zi_93 ?_
              obtain ⟨v96, s94, zw1, zf_95, zh⟩ := zh
              refine vc_V (As := [.long l1, .int l3, .int (st_I s82 155 v77.toNatClampNeg)]) (rest := [.int v77, .long (l1 + ((1 : Int64) <<< (v84.toInt64 &&& 63))), .ref 153]) dX4_after_191 cV_LitmusTester_Machine_130 (wC_153 zw) rfl rfl (Nat.le_of_ble_eq_true rfl) (Nat.le_of_ble_eq_true rfl) (co_n zf_95 ?_)
              replace zw := zw1
              obtain ⟨v99, s97, zw1, zf_98, zh⟩ := zh
              refine vc_V (As := [.long (l1 + ((1 : Int64) <<< (v84.toInt64 &&& 63))), .int v77, .int v96]) (rest := []) dX4_after_194 cV_LitmusTester_Machine_133 (wC_153 zw) rfl rfl (Nat.le_of_ble_eq_true rfl) (Nat.le_of_ble_eq_true rfl) (co_n zf_98 ?_)
              replace zw := zw1
              exact vr_lret dX4_after_197 rfl zh
            replace zh := zh.2
            have zd_1092 : (st_I s82 154 v77.toNatClampNeg).toInt = 2 := by omega
            replace zh := zh zd_1092
            refine vr_tswIn dX4_after_112 (tgt := 198) zd_109a zd_109b (by rw [zd_1092]; rfl) rfl ?_
            refine vr_aload_n dX4_after_198 rfl rfl ?_
            refine vr_aload_n dX4_after_199 rfl rfl ?_
            refine vr_lload dX4_after_200 rfl ?_
            refine vr_iload dX4_after_202 rfl ?_
            refine vr_iconst dX4_after_204 (v := (-1 : Int32)) (by decide) ?_
            obtain ⟨v102, s100, zw1, zf_101, zh⟩ := zh
            refine vc_V (As := [.long (l1 + ((1 : Int64) <<< (v84.toInt64 &&& 63))), .int v77, .int (-1 : Int32)]) (rest := [.ref 153]) dX4_after_205 cV_LitmusTester_Machine_133 (wC_153 zw) rfl rfl (Nat.le_of_ble_eq_true rfl) (Nat.le_of_ble_eq_true rfl) (co_n zf_101 ?_)
            replace zw := zw1
            refine vr_iload dX4_after_208 rfl ?_
            refine vr_aload_n dX4_after_210 rfl rfl ?_
            refine vr_lload_n dX4_after_211 rfl rfl ?_
            refine vr_iload dX4_after_212 rfl ?_
            obtain ⟨v105, s103, zw1, zf_104, zh⟩ := zh
            refine vc_V (As := [.long l1, .int v77]) (rest := [.int v77, .long v102, .ref 153]) dX4_after_214 cV_LitmusTester_Machine_123 (wC_153 zw) rfl rfl (Nat.le_of_ble_eq_true rfl) (Nat.le_of_ble_eq_true rfl) (co_n zf_104 ?_)
            replace zw := zw1
            obtain ⟨v108, s106, zw1, zf_107, zh⟩ := zh
            refine vc_V (As := [.long v102, .int v77, .int v105]) (rest := []) dX4_after_217 cV_LitmusTester_Machine_126 (wC_153 zw) rfl rfl (Nat.le_of_ble_eq_true rfl) (Nat.le_of_ble_eq_true rfl) (co_n zf_107 ?_)
            replace zw := zw1
            exact vr_lret dX4_after_220 rfl zh
          · replace zh := zh.2 zd_81
            refine vr_aload_n dX4_after_82 rfl rfl ?_
            refine vr_lload_n dX4_after_83 rfl rfl ?_
            refine vr_iload_n dX4_after_84 rfl rfl ?_
            obtain ⟨v112, s110, zw1, zf_111, zh⟩ := zh
            refine vc_V (As := [.long l1, .int l3]) (rest := []) dX4_after_85 cV_LitmusTester_Machine_102 (wC_153 zw) rfl rfl (Nat.le_of_ble_eq_true rfl) (Nat.le_of_ble_eq_true rfl) (co_n zf_111 ?_)
            replace zw := zw1
            refine vr_if_eq dX4_after_88 (tgt := 95) rfl (fun zd_113 => ?_) (fun zd_113 => ?_)
            · replace zh := zh.1 zd_113
              refine vr_lload_n dX4_after_95 rfl rfl ?_
              refine vr_lconst dX4_after_96 (v := (1 : Int64)) (by decide) ?_
              refine vr_iload_n dX4_after_97 rfl rfl ?_
              obtain ⟨v116, s114, zw1, zf_115, zh⟩ := zh
              refine vc_S (As := [.int l3]) (rest := [.long (1 : Int64), .long l1]) dX4_after_98 cS_LitmusTester_Machine_91 rfl rfl (Nat.le_of_ble_eq_true rfl) (Nat.le_of_ble_eq_true rfl) (co_n zf_115 ?_)
              replace zw := zw1
              refine vr_lshl dX4_after_101 ?_
              refine vr_ladd dX4_after_102 ?_
              refine vr_lstore dX4_after_103 (Nat.le_of_ble_eq_true rfl) (vv_eq (ls' := [(0, .ref 153), (1, .long l1), (3, .int l3), (4, .int l4), (5, .int v77), (6, .long (l1 + ((1 : Int64) <<< (v116.toInt64 &&& 63))))]) rfl ?_)
              refine vr_aload_n dX4_after_105 rfl rfl ?_
              refine vr_getR dX4_after_106 fl_LitmusTester_Machine_11 (wC_153 zw) (Or.inr ⟨_, rfl⟩) (wR_153_1 zw) ?_
              refine vr_iload dX4_after_109 rfl ?_
              obtain ⟨zi_117, zh⟩ := zh
              refine vr_iaload dX4_after_111 (wS_154 zw) zi_117 ?_
              by_cases zd_141 : ((st_I s114 154 v77.toNatClampNeg).toInt < 0 ∨ 2 < (st_I s114 154 v77.toNatClampNeg).toInt)
              · replace zh := zh.1 zd_141
                refine vr_tswOut dX4_after_112 (tgt := 221) zd_141 rfl ?_
                refine vr_lload dX4_after_221 rfl ?_
                exact vr_lret dX4_after_223 rfl zh
              replace zh := zh.2
              have zd_141a : ¬ (st_I s114 154 v77.toNatClampNeg).toInt < 0 := fun z => zd_141 (Or.inl z)
              have zd_141b : ¬ 2 < (st_I s114 154 v77.toNatClampNeg).toInt := fun z => zd_141 (Or.inr z)
              by_cases zd_1410 : (st_I s114 154 v77.toNatClampNeg).toInt = 0
              · replace zh := zh.1 zd_1410
                refine vr_tswIn dX4_after_112 (tgt := 140) zd_141a zd_141b (by rw [zd_1410]; rfl) rfl ?_
                refine vr_aload_n dX4_after_140 rfl rfl ?_
                refine vr_getI dX4_after_141 fl_LitmusTester_Machine_42 (wC_153 zw) rfl ?_
                refine vr_if_ne dX4_after_144 (tgt := 165) rfl (fun zd_118 => ?_) (fun zd_118 => ?_)
                · replace zh := zh.2 zd_118
                  refine vr_lload dX4_after_165 rfl ?_
                  refine vr_lconst dX4_after_167 (v := (1 : Int64)) (by decide) ?_
                  refine vr_bipush dX4_after_168 (v := (22 : Int32)) (by decide) ?_
                  refine vr_iload dX4_after_170 rfl ?_
                  refine vr_iadd dX4_after_172 ?_
                  refine vr_lshl dX4_after_173 ?_
                  refine vr_lor dX4_after_174 ?_
                  exact vr_lret dX4_after_175 rfl zh
                · replace zh := zh.1 zd_118
                  refine vr_aload_n dX4_after_147 rfl rfl ?_
                  refine vr_lload dX4_after_148 rfl ?_
                  refine vr_iload dX4_after_150 rfl ?_
                  refine vr_aload_n dX4_after_152 rfl rfl ?_
                  refine vr_lload_n dX4_after_153 rfl rfl ?_
                  refine vr_iload dX4_after_154 rfl ?_
                  obtain ⟨v121, s119, zw1, zf_120, zh⟩ := zh
                  refine vc_V (As := [.long l1, .int v77]) (rest := [.int v77, .long (l1 + ((1 : Int64) <<< (v116.toInt64 &&& 63))), .ref 153]) dX4_after_156 cV_LitmusTester_Machine_123 (wC_153 zw) rfl rfl (Nat.le_of_ble_eq_true rfl) (Nat.le_of_ble_eq_true rfl) (co_n zf_120 ?_)
                  replace zw := zw1
                  obtain ⟨v124, s122, zw1, zf_123, zh⟩ := zh
                  refine vc_V (As := [.long (l1 + ((1 : Int64) <<< (v116.toInt64 &&& 63))), .int v77, .int v121]) (rest := []) dX4_after_159 cV_LitmusTester_Machine_126 (wC_153 zw) rfl rfl (Nat.le_of_ble_eq_true rfl) (Nat.le_of_ble_eq_true rfl) (co_n zf_123 ?_)
                  replace zw := zw1
                  refine vr_goto dX4_after_162 (tgt := 175) rfl ?_
                  exact vr_lret dX4_after_175 rfl zh
              replace zh := zh.2
              by_cases zd_1411 : (st_I s114 154 v77.toNatClampNeg).toInt = 1
              · replace zh := zh.1 zd_1411
                refine vr_tswIn dX4_after_112 (tgt := 176) zd_141a zd_141b (by rw [zd_1411]; rfl) rfl ?_
                refine vr_aload_n dX4_after_176 rfl rfl ?_
                refine vr_lload dX4_after_177 rfl ?_
                refine vr_iload dX4_after_179 rfl ?_
                refine vr_aload_n dX4_after_181 rfl rfl ?_
                refine vr_lload_n dX4_after_182 rfl rfl ?_
                refine vr_iload_n dX4_after_183 rfl rfl ?_
                refine vr_aload_n dX4_after_184 rfl rfl ?_
                refine vr_getR dX4_after_185 fl_LitmusTester_Machine_15 (wC_153 zw) (Or.inr ⟨_, rfl⟩) (wR_153_2 zw) ?_
                refine vr_iload dX4_after_188 rfl ?_
                obtain ⟨zi_125, zh⟩ := zh
                refine vr_iaload dX4_after_190 (wS_155 zw) zi_125 ?_
                obtain ⟨v128, s126, zw1, zf_127, zh⟩ := zh
                refine vc_V (As := [.long l1, .int l3, .int (st_I s114 155 v77.toNatClampNeg)]) (rest := [.int v77, .long (l1 + ((1 : Int64) <<< (v116.toInt64 &&& 63))), .ref 153]) dX4_after_191 cV_LitmusTester_Machine_130 (wC_153 zw) rfl rfl (Nat.le_of_ble_eq_true rfl) (Nat.le_of_ble_eq_true rfl) (co_n zf_127 ?_)
                replace zw := zw1
                obtain ⟨v131, s129, zw1, zf_130, zh⟩ := zh
                refine vc_V (As := [.long (l1 + ((1 : Int64) <<< (v116.toInt64 &&& 63))), .int v77, .int v128]) (rest := []) dX4_after_194 cV_LitmusTester_Machine_133 (wC_153 zw) rfl rfl (Nat.le_of_ble_eq_true rfl) (Nat.le_of_ble_eq_true rfl) (co_n zf_130 ?_)
                replace zw := zw1
                exact vr_lret dX4_after_197 rfl zh
              replace zh := zh.2
              have zd_1412 : (st_I s114 154 v77.toNatClampNeg).toInt = 2 := by omega
              replace zh := zh zd_1412
              refine vr_tswIn dX4_after_112 (tgt := 198) zd_141a zd_141b (by rw [zd_1412]; rfl) rfl ?_
              refine vr_aload_n dX4_after_198 rfl rfl ?_
              refine vr_aload_n dX4_after_199 rfl rfl ?_
              refine vr_lload dX4_after_200 rfl ?_
              refine vr_iload dX4_after_202 rfl ?_
              refine vr_iconst dX4_after_204 (v := (-1 : Int32)) (by decide) ?_
              obtain ⟨v134, s132, zw1, zf_133, zh⟩ := zh
              refine vc_V (As := [.long (l1 + ((1 : Int64) <<< (v116.toInt64 &&& 63))), .int v77, .int (-1 : Int32)]) (rest := [.ref 153]) dX4_after_205 cV_LitmusTester_Machine_133 (wC_153 zw) rfl rfl (Nat.le_of_ble_eq_true rfl) (Nat.le_of_ble_eq_true rfl) (co_n zf_133 ?_)
              replace zw := zw1
              refine vr_iload dX4_after_208 rfl ?_
              refine vr_aload_n dX4_after_210 rfl rfl ?_
              refine vr_lload_n dX4_after_211 rfl rfl ?_
              refine vr_iload dX4_after_212 rfl ?_
              obtain ⟨v137, s135, zw1, zf_136, zh⟩ := zh
              refine vc_V (As := [.long l1, .int v77]) (rest := [.int v77, .long v134, .ref 153]) dX4_after_214 cV_LitmusTester_Machine_123 (wC_153 zw) rfl rfl (Nat.le_of_ble_eq_true rfl) (Nat.le_of_ble_eq_true rfl) (co_n zf_136 ?_)
              replace zw := zw1
              obtain ⟨v140, s138, zw1, zf_139, zh⟩ := zh
              refine vc_V (As := [.long v134, .int v77, .int v137]) (rest := []) dX4_after_217 cV_LitmusTester_Machine_126 (wC_153 zw) rfl rfl (Nat.le_of_ble_eq_true rfl) (Nat.le_of_ble_eq_true rfl) (co_n zf_139 ?_)
              replace zw := zw1
              exact vr_lret dX4_after_220 rfl zh
            · replace zh := zh.2 zd_113
              refine vr_ldc2 dX4_after_91 (v := (-1 : Int64)) tw_1259 ?_
              exact vr_lret dX4_after_94 rfl zh
        · replace zh := zh.2 zd_80
          refine vr_aload_n dX4_after_47 rfl rfl ?_
          refine vr_lload_n dX4_after_48 rfl rfl ?_
          refine vr_lconst dX4_after_49 (v := (1 : Int64)) (by decide) ?_
          refine vr_bipush dX4_after_50 (v := (22 : Int32)) (by decide) ?_
          refine vr_iload dX4_after_52 rfl ?_
          refine vr_iadd dX4_after_54 ?_
          refine vr_lshl dX4_after_55 ?_
          refine vr_lxor dX4_after_56 ?_
          refine vr_iload dX4_after_57 rfl ?_
          refine vr_aload_n dX4_after_59 rfl rfl ?_
          refine vr_lload_n dX4_after_60 rfl rfl ?_
          refine vr_iload dX4_after_61 rfl ?_
          obtain ⟨v144, s142, zw1, zf_143, zh⟩ := zh
          refine vc_V (As := [.long l1, .int v77]) (rest := [.int v77, .long (l1 ^^^ ((1 : Int64) <<< (((22 : Int32) + v77).toInt64 &&& 63))), .ref 153]) dX4_after_63 cV_LitmusTester_Machine_123 (wC_153 zw) rfl rfl (Nat.le_of_ble_eq_true rfl) (Nat.le_of_ble_eq_true rfl) (co_n zf_143 ?_)
          replace zw := zw1
          obtain ⟨v147, s145, zw1, zf_146, zh⟩ := zh
          refine vc_V (As := [.long (l1 ^^^ ((1 : Int64) <<< (((22 : Int32) + v77).toInt64 &&& 63))), .int v77, .int v144]) (rest := []) dX4_after_66 cV_LitmusTester_Machine_126 (wC_153 zw) rfl rfl (Nat.le_of_ble_eq_true rfl) (Nat.le_of_ble_eq_true rfl) (co_n zf_146 ?_)
          replace zw := zw1
          exact vr_lret dX4_after_69 rfl zh
      · replace zh := zh.2 zd_79
        refine vr_ldc2 dX4_after_38 (v := (-1 : Int64)) tw_1259 ?_
        exact vr_lret dX4_after_41 rfl zh
  · replace zh := zh.1 zd_1
    refine vr_aload_n dX4_after_5 rfl rfl ?_
    refine vr_lload_n dX4_after_6 rfl rfl ?_
    refine vr_iload_n dX4_after_7 rfl rfl ?_
    obtain ⟨v4, s2, zw1, zf_3, zh⟩ := zh
    refine vc_V (As := [.long l1, .int l3]) (rest := []) dX4_after_8 cV_LitmusTester_Machine_115 (wC_153 zw) rfl rfl (Nat.le_of_ble_eq_true rfl) (Nat.le_of_ble_eq_true rfl) (co_n zf_3 ?_)
    replace zw := zw1
    refine vr_goto dX4_after_11 (tgt := 24) rfl ?_
    refine vr_istore dX4_after_24 (Nat.le_of_ble_eq_true rfl) (vv_eq (ls' := [(0, .ref 153), (1, .long l1), (3, .int l3), (4, .int l4), (5, .int v4)]) rfl ?_)
    refine vr_iload dX4_after_26 rfl ?_
    refine vr_if_lt dX4_after_28 (tgt := 38) rfl (fun zd_5 => ?_) (fun zd_5 => ?_)
    · replace zh := zh.1 zd_5
      refine vr_ldc2 dX4_after_38 (v := (-1 : Int64)) tw_1259 ?_
      exact vr_lret dX4_after_41 rfl zh
    · replace zh := zh.2 zd_5
      refine vr_iload dX4_after_31 rfl ?_
      refine vr_bipush dX4_after_33 (v := (10 : Int32)) (by decide) ?_
      refine vr_ic_lt dX4_after_35 (tgt := 42) rfl (fun zd_6 => ?_) (fun zd_6 => ?_)
      · replace zh := zh.1 zd_6
        refine vr_iload dX4_after_42 rfl ?_
        refine vr_if_eq dX4_after_44 (tgt := 70) rfl (fun zd_7 => ?_) (fun zd_7 => ?_)
        · replace zh := zh.1 zd_7
          refine vr_aload_n dX4_after_70 rfl rfl ?_
          refine vr_getI dX4_after_71 fl_LitmusTester_Machine_46 (wC_153 zw) rfl ?_
          refine vr_iload dX4_after_74 rfl ?_
          refine vr_ishr dX4_after_76 ?_
          refine vr_iconst dX4_after_77 (v := (1 : Int32)) (by decide) ?_
          refine vr_iand dX4_after_78 ?_
          refine vr_if_eq dX4_after_79 (tgt := 95) rfl (fun zd_8 => ?_) (fun zd_8 => ?_)
          · replace zh := zh.1 zd_8
            refine vr_lload_n dX4_after_95 rfl rfl ?_
            refine vr_lconst dX4_after_96 (v := (1 : Int64)) (by decide) ?_
            refine vr_iload_n dX4_after_97 rfl rfl ?_
            obtain ⟨v11, s9, zw1, zf_10, zh⟩ := zh
            refine vc_S (As := [.int l3]) (rest := [.long (1 : Int64), .long l1]) dX4_after_98 cS_LitmusTester_Machine_91 rfl rfl (Nat.le_of_ble_eq_true rfl) (Nat.le_of_ble_eq_true rfl) (co_n zf_10 ?_)
            replace zw := zw1
            refine vr_lshl dX4_after_101 ?_
            refine vr_ladd dX4_after_102 ?_
            refine vr_lstore dX4_after_103 (Nat.le_of_ble_eq_true rfl) (vv_eq (ls' := [(0, .ref 153), (1, .long l1), (3, .int l3), (4, .int l4), (5, .int v4), (6, .long (l1 + ((1 : Int64) <<< (v11.toInt64 &&& 63))))]) rfl ?_)
            refine vr_aload_n dX4_after_105 rfl rfl ?_
            refine vr_getR dX4_after_106 fl_LitmusTester_Machine_11 (wC_153 zw) (Or.inr ⟨_, rfl⟩) (wR_153_1 zw) ?_
            refine vr_iload dX4_after_109 rfl ?_
            obtain ⟨zi_12, zh⟩ := zh
            refine vr_iaload dX4_after_111 (wS_154 zw) zi_12 ?_
            by_cases zd_36 : ((st_I s9 154 v4.toNatClampNeg).toInt < 0 ∨ 2 < (st_I s9 154 v4.toNatClampNeg).toInt)
            · replace zh := zh.1 zd_36
              refine vr_tswOut dX4_after_112 (tgt := 221) zd_36 rfl ?_
              refine vr_lload dX4_after_221 rfl ?_
              exact vr_lret dX4_after_223 rfl zh
            replace zh := zh.2
            have zd_36a : ¬ (st_I s9 154 v4.toNatClampNeg).toInt < 0 := fun z => zd_36 (Or.inl z)
            have zd_36b : ¬ 2 < (st_I s9 154 v4.toNatClampNeg).toInt := fun z => zd_36 (Or.inr z)
            by_cases zd_360 : (st_I s9 154 v4.toNatClampNeg).toInt = 0
            · replace zh := zh.1 zd_360
              refine vr_tswIn dX4_after_112 (tgt := 140) zd_36a zd_36b (by rw [zd_360]; rfl) rfl ?_
              refine vr_aload_n dX4_after_140 rfl rfl ?_
              refine vr_getI dX4_after_141 fl_LitmusTester_Machine_42 (wC_153 zw) rfl ?_
              refine vr_if_ne dX4_after_144 (tgt := 165) rfl (fun zd_13 => ?_) (fun zd_13 => ?_)
              · replace zh := zh.2 zd_13
                refine vr_lload dX4_after_165 rfl ?_
                refine vr_lconst dX4_after_167 (v := (1 : Int64)) (by decide) ?_
                refine vr_bipush dX4_after_168 (v := (22 : Int32)) (by decide) ?_
                refine vr_iload dX4_after_170 rfl ?_
                refine vr_iadd dX4_after_172 ?_
                refine vr_lshl dX4_after_173 ?_
                refine vr_lor dX4_after_174 ?_
                exact vr_lret dX4_after_175 rfl zh
              · replace zh := zh.1 zd_13
                refine vr_aload_n dX4_after_147 rfl rfl ?_
                refine vr_lload dX4_after_148 rfl ?_
                refine vr_iload dX4_after_150 rfl ?_
                refine vr_aload_n dX4_after_152 rfl rfl ?_
                refine vr_lload_n dX4_after_153 rfl rfl ?_
                refine vr_iload dX4_after_154 rfl ?_
                obtain ⟨v16, s14, zw1, zf_15, zh⟩ := zh
                refine vc_V (As := [.long l1, .int v4]) (rest := [.int v4, .long (l1 + ((1 : Int64) <<< (v11.toInt64 &&& 63))), .ref 153]) dX4_after_156 cV_LitmusTester_Machine_123 (wC_153 zw) rfl rfl (Nat.le_of_ble_eq_true rfl) (Nat.le_of_ble_eq_true rfl) (co_n zf_15 ?_)
                replace zw := zw1
                obtain ⟨v19, s17, zw1, zf_18, zh⟩ := zh
                refine vc_V (As := [.long (l1 + ((1 : Int64) <<< (v11.toInt64 &&& 63))), .int v4, .int v16]) (rest := []) dX4_after_159 cV_LitmusTester_Machine_126 (wC_153 zw) rfl rfl (Nat.le_of_ble_eq_true rfl) (Nat.le_of_ble_eq_true rfl) (co_n zf_18 ?_)
                replace zw := zw1
                refine vr_goto dX4_after_162 (tgt := 175) rfl ?_
                exact vr_lret dX4_after_175 rfl zh
            replace zh := zh.2
            by_cases zd_361 : (st_I s9 154 v4.toNatClampNeg).toInt = 1
            · replace zh := zh.1 zd_361
              refine vr_tswIn dX4_after_112 (tgt := 176) zd_36a zd_36b (by rw [zd_361]; rfl) rfl ?_
              refine vr_aload_n dX4_after_176 rfl rfl ?_
              refine vr_lload dX4_after_177 rfl ?_
              refine vr_iload dX4_after_179 rfl ?_
              refine vr_aload_n dX4_after_181 rfl rfl ?_
              refine vr_lload_n dX4_after_182 rfl rfl ?_
              refine vr_iload_n dX4_after_183 rfl rfl ?_
              refine vr_aload_n dX4_after_184 rfl rfl ?_
              refine vr_getR dX4_after_185 fl_LitmusTester_Machine_15 (wC_153 zw) (Or.inr ⟨_, rfl⟩) (wR_153_2 zw) ?_
              refine vr_iload dX4_after_188 rfl ?_
              obtain ⟨zi_20, zh⟩ := zh
              refine vr_iaload dX4_after_190 (wS_155 zw) zi_20 ?_
              obtain ⟨v23, s21, zw1, zf_22, zh⟩ := zh
              refine vc_V (As := [.long l1, .int l3, .int (st_I s9 155 v4.toNatClampNeg)]) (rest := [.int v4, .long (l1 + ((1 : Int64) <<< (v11.toInt64 &&& 63))), .ref 153]) dX4_after_191 cV_LitmusTester_Machine_130 (wC_153 zw) rfl rfl (Nat.le_of_ble_eq_true rfl) (Nat.le_of_ble_eq_true rfl) (co_n zf_22 ?_)
              replace zw := zw1
              obtain ⟨v26, s24, zw1, zf_25, zh⟩ := zh
              refine vc_V (As := [.long (l1 + ((1 : Int64) <<< (v11.toInt64 &&& 63))), .int v4, .int v23]) (rest := []) dX4_after_194 cV_LitmusTester_Machine_133 (wC_153 zw) rfl rfl (Nat.le_of_ble_eq_true rfl) (Nat.le_of_ble_eq_true rfl) (co_n zf_25 ?_)
              replace zw := zw1
              exact vr_lret dX4_after_197 rfl zh
            replace zh := zh.2
            have zd_362 : (st_I s9 154 v4.toNatClampNeg).toInt = 2 := by omega
            replace zh := zh zd_362
            refine vr_tswIn dX4_after_112 (tgt := 198) zd_36a zd_36b (by rw [zd_362]; rfl) rfl ?_
            refine vr_aload_n dX4_after_198 rfl rfl ?_
            refine vr_aload_n dX4_after_199 rfl rfl ?_
            refine vr_lload dX4_after_200 rfl ?_
            refine vr_iload dX4_after_202 rfl ?_
            refine vr_iconst dX4_after_204 (v := (-1 : Int32)) (by decide) ?_
            obtain ⟨v29, s27, zw1, zf_28, zh⟩ := zh
            refine vc_V (As := [.long (l1 + ((1 : Int64) <<< (v11.toInt64 &&& 63))), .int v4, .int (-1 : Int32)]) (rest := [.ref 153]) dX4_after_205 cV_LitmusTester_Machine_133 (wC_153 zw) rfl rfl (Nat.le_of_ble_eq_true rfl) (Nat.le_of_ble_eq_true rfl) (co_n zf_28 ?_)
            replace zw := zw1
            refine vr_iload dX4_after_208 rfl ?_
            refine vr_aload_n dX4_after_210 rfl rfl ?_
            refine vr_lload_n dX4_after_211 rfl rfl ?_
            refine vr_iload dX4_after_212 rfl ?_
            obtain ⟨v32, s30, zw1, zf_31, zh⟩ := zh
            refine vc_V (As := [.long l1, .int v4]) (rest := [.int v4, .long v29, .ref 153]) dX4_after_214 cV_LitmusTester_Machine_123 (wC_153 zw) rfl rfl (Nat.le_of_ble_eq_true rfl) (Nat.le_of_ble_eq_true rfl) (co_n zf_31 ?_)
            replace zw := zw1
            obtain ⟨v35, s33, zw1, zf_34, zh⟩ := zh
            refine vc_V (As := [.long v29, .int v4, .int v32]) (rest := []) dX4_after_217 cV_LitmusTester_Machine_126 (wC_153 zw) rfl rfl (Nat.le_of_ble_eq_true rfl) (Nat.le_of_ble_eq_true rfl) (co_n zf_34 ?_)
            replace zw := zw1
            exact vr_lret dX4_after_220 rfl zh
          · replace zh := zh.2 zd_8
            refine vr_aload_n dX4_after_82 rfl rfl ?_
            refine vr_lload_n dX4_after_83 rfl rfl ?_
            refine vr_iload_n dX4_after_84 rfl rfl ?_
            obtain ⟨v39, s37, zw1, zf_38, zh⟩ := zh
            refine vc_V (As := [.long l1, .int l3]) (rest := []) dX4_after_85 cV_LitmusTester_Machine_102 (wC_153 zw) rfl rfl (Nat.le_of_ble_eq_true rfl) (Nat.le_of_ble_eq_true rfl) (co_n zf_38 ?_)
            replace zw := zw1
            refine vr_if_eq dX4_after_88 (tgt := 95) rfl (fun zd_40 => ?_) (fun zd_40 => ?_)
            · replace zh := zh.1 zd_40
              refine vr_lload_n dX4_after_95 rfl rfl ?_
              refine vr_lconst dX4_after_96 (v := (1 : Int64)) (by decide) ?_
              refine vr_iload_n dX4_after_97 rfl rfl ?_
              obtain ⟨v43, s41, zw1, zf_42, zh⟩ := zh
              refine vc_S (As := [.int l3]) (rest := [.long (1 : Int64), .long l1]) dX4_after_98 cS_LitmusTester_Machine_91 rfl rfl (Nat.le_of_ble_eq_true rfl) (Nat.le_of_ble_eq_true rfl) (co_n zf_42 ?_)
              replace zw := zw1
              refine vr_lshl dX4_after_101 ?_
              refine vr_ladd dX4_after_102 ?_
              refine vr_lstore dX4_after_103 (Nat.le_of_ble_eq_true rfl) (vv_eq (ls' := [(0, .ref 153), (1, .long l1), (3, .int l3), (4, .int l4), (5, .int v4), (6, .long (l1 + ((1 : Int64) <<< (v43.toInt64 &&& 63))))]) rfl ?_)
              refine vr_aload_n dX4_after_105 rfl rfl ?_
              refine vr_getR dX4_after_106 fl_LitmusTester_Machine_11 (wC_153 zw) (Or.inr ⟨_, rfl⟩) (wR_153_1 zw) ?_
              refine vr_iload dX4_after_109 rfl ?_
              obtain ⟨zi_44, zh⟩ := zh
              refine vr_iaload dX4_after_111 (wS_154 zw) zi_44 ?_
              by_cases zd_68 : ((st_I s41 154 v4.toNatClampNeg).toInt < 0 ∨ 2 < (st_I s41 154 v4.toNatClampNeg).toInt)
              · replace zh := zh.1 zd_68
                refine vr_tswOut dX4_after_112 (tgt := 221) zd_68 rfl ?_
                refine vr_lload dX4_after_221 rfl ?_
                exact vr_lret dX4_after_223 rfl zh
              replace zh := zh.2
              have zd_68a : ¬ (st_I s41 154 v4.toNatClampNeg).toInt < 0 := fun z => zd_68 (Or.inl z)
              have zd_68b : ¬ 2 < (st_I s41 154 v4.toNatClampNeg).toInt := fun z => zd_68 (Or.inr z)
              by_cases zd_680 : (st_I s41 154 v4.toNatClampNeg).toInt = 0
              · replace zh := zh.1 zd_680
                refine vr_tswIn dX4_after_112 (tgt := 140) zd_68a zd_68b (by rw [zd_680]; rfl) rfl ?_
                refine vr_aload_n dX4_after_140 rfl rfl ?_
                refine vr_getI dX4_after_141 fl_LitmusTester_Machine_42 (wC_153 zw) rfl ?_
                refine vr_if_ne dX4_after_144 (tgt := 165) rfl (fun zd_45 => ?_) (fun zd_45 => ?_)
                · replace zh := zh.2 zd_45
                  refine vr_lload dX4_after_165 rfl ?_
                  refine vr_lconst dX4_after_167 (v := (1 : Int64)) (by decide) ?_
                  refine vr_bipush dX4_after_168 (v := (22 : Int32)) (by decide) ?_
                  refine vr_iload dX4_after_170 rfl ?_
                  refine vr_iadd dX4_after_172 ?_
                  refine vr_lshl dX4_after_173 ?_
                  refine vr_lor dX4_after_174 ?_
                  exact vr_lret dX4_after_175 rfl zh
                · replace zh := zh.1 zd_45
                  refine vr_aload_n dX4_after_147 rfl rfl ?_
                  refine vr_lload dX4_after_148 rfl ?_
                  refine vr_iload dX4_after_150 rfl ?_
                  refine vr_aload_n dX4_after_152 rfl rfl ?_
                  refine vr_lload_n dX4_after_153 rfl rfl ?_
                  refine vr_iload dX4_after_154 rfl ?_
                  obtain ⟨v48, s46, zw1, zf_47, zh⟩ := zh
                  refine vc_V (As := [.long l1, .int v4]) (rest := [.int v4, .long (l1 + ((1 : Int64) <<< (v43.toInt64 &&& 63))), .ref 153]) dX4_after_156 cV_LitmusTester_Machine_123 (wC_153 zw) rfl rfl (Nat.le_of_ble_eq_true rfl) (Nat.le_of_ble_eq_true rfl) (co_n zf_47 ?_)
                  replace zw := zw1
                  obtain ⟨v51, s49, zw1, zf_50, zh⟩ := zh
                  refine vc_V (As := [.long (l1 + ((1 : Int64) <<< (v43.toInt64 &&& 63))), .int v4, .int v48]) (rest := []) dX4_after_159 cV_LitmusTester_Machine_126 (wC_153 zw) rfl rfl (Nat.le_of_ble_eq_true rfl) (Nat.le_of_ble_eq_true rfl) (co_n zf_50 ?_)
                  replace zw := zw1
                  refine vr_goto dX4_after_162 (tgt := 175) rfl ?_
                  exact vr_lret dX4_after_175 rfl zh
              replace zh := zh.2
              by_cases zd_681 : (st_I s41 154 v4.toNatClampNeg).toInt = 1
              · replace zh := zh.1 zd_681
                refine vr_tswIn dX4_after_112 (tgt := 176) zd_68a zd_68b (by rw [zd_681]; rfl) rfl ?_
                refine vr_aload_n dX4_after_176 rfl rfl ?_
                refine vr_lload dX4_after_177 rfl ?_
                refine vr_iload dX4_after_179 rfl ?_
                refine vr_aload_n dX4_after_181 rfl rfl ?_
                refine vr_lload_n dX4_after_182 rfl rfl ?_
                refine vr_iload_n dX4_after_183 rfl rfl ?_
                refine vr_aload_n dX4_after_184 rfl rfl ?_
                refine vr_getR dX4_after_185 fl_LitmusTester_Machine_15 (wC_153 zw) (Or.inr ⟨_, rfl⟩) (wR_153_2 zw) ?_
                refine vr_iload dX4_after_188 rfl ?_
                obtain ⟨zi_52, zh⟩ := zh
                refine vr_iaload dX4_after_190 (wS_155 zw) zi_52 ?_
                obtain ⟨v55, s53, zw1, zf_54, zh⟩ := zh
                refine vc_V (As := [.long l1, .int l3, .int (st_I s41 155 v4.toNatClampNeg)]) (rest := [.int v4, .long (l1 + ((1 : Int64) <<< (v43.toInt64 &&& 63))), .ref 153]) dX4_after_191 cV_LitmusTester_Machine_130 (wC_153 zw) rfl rfl (Nat.le_of_ble_eq_true rfl) (Nat.le_of_ble_eq_true rfl) (co_n zf_54 ?_)
                replace zw := zw1
                obtain ⟨v58, s56, zw1, zf_57, zh⟩ := zh
                refine vc_V (As := [.long (l1 + ((1 : Int64) <<< (v43.toInt64 &&& 63))), .int v4, .int v55]) (rest := []) dX4_after_194 cV_LitmusTester_Machine_133 (wC_153 zw) rfl rfl (Nat.le_of_ble_eq_true rfl) (Nat.le_of_ble_eq_true rfl) (co_n zf_57 ?_)
                replace zw := zw1
                exact vr_lret dX4_after_197 rfl zh
              replace zh := zh.2
              have zd_682 : (st_I s41 154 v4.toNatClampNeg).toInt = 2 := by omega
              replace zh := zh zd_682
              refine vr_tswIn dX4_after_112 (tgt := 198) zd_68a zd_68b (by rw [zd_682]; rfl) rfl ?_
              refine vr_aload_n dX4_after_198 rfl rfl ?_
              refine vr_aload_n dX4_after_199 rfl rfl ?_
              refine vr_lload dX4_after_200 rfl ?_
              refine vr_iload dX4_after_202 rfl ?_
              refine vr_iconst dX4_after_204 (v := (-1 : Int32)) (by decide) ?_
              obtain ⟨v61, s59, zw1, zf_60, zh⟩ := zh
              refine vc_V (As := [.long (l1 + ((1 : Int64) <<< (v43.toInt64 &&& 63))), .int v4, .int (-1 : Int32)]) (rest := [.ref 153]) dX4_after_205 cV_LitmusTester_Machine_133 (wC_153 zw) rfl rfl (Nat.le_of_ble_eq_true rfl) (Nat.le_of_ble_eq_true rfl) (co_n zf_60 ?_)
              replace zw := zw1
              refine vr_iload dX4_after_208 rfl ?_
              refine vr_aload_n dX4_after_210 rfl rfl ?_
              refine vr_lload_n dX4_after_211 rfl rfl ?_
              refine vr_iload dX4_after_212 rfl ?_
              obtain ⟨v64, s62, zw1, zf_63, zh⟩ := zh
              refine vc_V (As := [.long l1, .int v4]) (rest := [.int v4, .long v61, .ref 153]) dX4_after_214 cV_LitmusTester_Machine_123 (wC_153 zw) rfl rfl (Nat.le_of_ble_eq_true rfl) (Nat.le_of_ble_eq_true rfl) (co_n zf_63 ?_)
              replace zw := zw1
              obtain ⟨v67, s65, zw1, zf_66, zh⟩ := zh
              refine vc_V (As := [.long v61, .int v4, .int v64]) (rest := []) dX4_after_217 cV_LitmusTester_Machine_126 (wC_153 zw) rfl rfl (Nat.le_of_ble_eq_true rfl) (Nat.le_of_ble_eq_true rfl) (co_n zf_66 ?_)
              replace zw := zw1
              exact vr_lret dX4_after_220 rfl zh
            · replace zh := zh.2 zd_40
              refine vr_ldc2 dX4_after_91 (v := (-1 : Int64)) tw_1259 ?_
              exact vr_lret dX4_after_94 rfl zh
        · replace zh := zh.2 zd_7
          refine vr_aload_n dX4_after_47 rfl rfl ?_
          refine vr_lload_n dX4_after_48 rfl rfl ?_
          refine vr_lconst dX4_after_49 (v := (1 : Int64)) (by decide) ?_
          refine vr_bipush dX4_after_50 (v := (22 : Int32)) (by decide) ?_
          refine vr_iload dX4_after_52 rfl ?_
          refine vr_iadd dX4_after_54 ?_
          refine vr_lshl dX4_after_55 ?_
          refine vr_lxor dX4_after_56 ?_
          refine vr_iload dX4_after_57 rfl ?_
          refine vr_aload_n dX4_after_59 rfl rfl ?_
          refine vr_lload_n dX4_after_60 rfl rfl ?_
          refine vr_iload dX4_after_61 rfl ?_
          obtain ⟨v71, s69, zw1, zf_70, zh⟩ := zh
          refine vc_V (As := [.long l1, .int v4]) (rest := [.int v4, .long (l1 ^^^ ((1 : Int64) <<< (((22 : Int32) + v4).toInt64 &&& 63))), .ref 153]) dX4_after_63 cV_LitmusTester_Machine_123 (wC_153 zw) rfl rfl (Nat.le_of_ble_eq_true rfl) (Nat.le_of_ble_eq_true rfl) (co_n zf_70 ?_)
          replace zw := zw1
          obtain ⟨v74, s72, zw1, zf_73, zh⟩ := zh
          refine vc_V (As := [.long (l1 ^^^ ((1 : Int64) <<< (((22 : Int32) + v4).toInt64 &&& 63))), .int v4, .int v71]) (rest := []) dX4_after_66 cV_LitmusTester_Machine_126 (wC_153 zw) rfl rfl (Nat.le_of_ble_eq_true rfl) (Nat.le_of_ble_eq_true rfl) (co_n zf_73 ?_)
          replace zw := zw1
          exact vr_lret dX4_after_69 rfl zh
      · replace zh := zh.2 zd_6
        refine vr_ldc2 dX4_after_38 (v := (-1 : Int64)) tw_1259 ?_
        exact vr_lret dX4_after_41 rfl zh
theorem e_X4_after {γ : ga_T} {l1 : Int64} {l3 : Int32} {l4 : Int32} {σ : st_T} {Q : rs_T → st_T → Prop} (zw : Wd σ) (zh : p_X4_after_0 γ l1 l3 l4 σ Q) : sp_ γ m_X4_after 3 [.ref 153, .long l1, .int l3, .int l4] σ Q := sp_of (pl_X4_after) rfl (Nat.le_of_ble_eq_true rfl) (g_X4_after_0 zw zh)
def p_X4_isContradicted_0 (γ : ga_T) (l1 : Int64) (l3 : Int64) (l5 : Int32) (l6 : Int32) (σ : st_T) (Q : rs_T → st_T → Prop) : Prop :=
  ∃ (v3 : Int32) (s1 : st_T), Wd s1 ∧ fn_ γ m_X4_next 1 [.ref 153, .long l1, .int l5] σ (.int v3) s1 ∧
  (v3 < (0 : Int32) →
    Q (.inl (some (.int (0 : Int32)))) s1
  ) ∧ (¬ v3 < (0 : Int32) →
    ((10 : Int32) ≤ v3 →
      Q (.inl (some (.int (0 : Int32)))) s1
    ) ∧ (¬ (10 : Int32) ≤ v3 →
      ∃ (v8 : Int32) (s6 : st_T), Wd s6 ∧ fn_ γ m_X4_next 1 [.ref 153, .long l3, .int l5] s1 (.int v8) s6 ∧
      (v8 = v3 →
        Q (.inl (some (.int (0 : Int32)))) s6
      ) ∧ (¬ v8 = v3 →
        vp_in v3 10 ∧
        ((st_I s6 154 v3.toNatClampNeg) = (1 : Int32) →
          vp_in v3 10 ∧
          ((((l3 ^^^ (l6.toInt64)) >>> ((st_I s6 157 v3.toNatClampNeg).toInt64 &&& 63)) &&& (3 : Int64)) = (0 : Int64) →
            Q (.inl (some (.int (0 : Int32)))) s6
          ) ∧ (¬ (((l3 ^^^ (l6.toInt64)) >>> ((st_I s6 157 v3.toNatClampNeg).toInt64 &&& 63)) &&& (3 : Int64)) = (0 : Int64) →
            Q (.inl (some (.int (1 : Int32)))) s6
          )
        ) ∧ (¬ (st_I s6 154 v3.toNatClampNeg) = (1 : Int32) →
          vp_in v3 10 ∧
          ((st_I s6 154 v3.toNatClampNeg) = (2 : Int32) →
            vp_in v3 10 ∧
            ((((l3 ^^^ (l6.toInt64)) >>> ((st_I s6 157 v3.toNatClampNeg).toInt64 &&& 63)) &&& (3 : Int64)) = (0 : Int64) →
              Q (.inl (some (.int (0 : Int32)))) s6
            ) ∧ (¬ (((l3 ^^^ (l6.toInt64)) >>> ((st_I s6 157 v3.toNatClampNeg).toInt64 &&& 63)) &&& (3 : Int64)) = (0 : Int64) →
              Q (.inl (some (.int (1 : Int32)))) s6
            )
          ) ∧ (¬ (st_I s6 154 v3.toNatClampNeg) = (2 : Int32) →
            Q (.inl (some (.int (0 : Int32)))) s6
          )
        )
      )
    )
  )
set_option maxRecDepth 10000 in
theorem g_X4_isContradicted_0 {γ : ga_T} {l1 : Int64} {l3 : Int64} {l5 : Int32} {l6 : Int32} {σ : st_T} {Q : rs_T → st_T → Prop} (zw : Wd σ) (zh : p_X4_isContradicted_0 γ l1 l3 l5 l6 σ Q) : vv_ γ m_X4_isContradicted 2 0 [(0, .ref 153), (1, .long l1), (3, .long l3), (5, .int l5), (6, .int l6)] [] σ Q := by
  unfold p_X4_isContradicted_0 at zh
  refine vr_aload_n dX4_isContradicted_0 rfl rfl ?_
  refine vr_lload_n dX4_isContradicted_1 rfl rfl ?_
  refine vr_iload dX4_isContradicted_2 rfl ?_
  obtain ⟨v3, s1, zw1, zf_2, zh⟩ := zh
  refine vc_V (As := [.long l1, .int l5]) (rest := []) dX4_isContradicted_4 cV_LitmusTester_Machine_115 (wC_153 zw) rfl rfl (Nat.le_of_ble_eq_true rfl) (Nat.le_of_ble_eq_true rfl) (co_n zf_2 ?_)
  replace zw := zw1
  refine vr_istore dX4_isContradicted_7 (Nat.le_of_ble_eq_true rfl) (vv_eq (ls' := [(0, .ref 153), (1, .long l1), (3, .long l3), (5, .int l5), (6, .int l6), (7, .int v3)]) rfl ?_)
  refine vr_iload dX4_isContradicted_9 rfl ?_
  refine vr_if_lt dX4_isContradicted_11 (tgt := 37) rfl (fun zd_4 => ?_) (fun zd_4 => ?_)
  · replace zh := zh.1 zd_4
    refine vr_iconst dX4_isContradicted_37 (v := (0 : Int32)) (by decide) ?_
    refine vr_istore dX4_isContradicted_38 (Nat.le_of_ble_eq_true rfl) (vv_eq (ls' := [(0, .ref 153), (1, .long l1), (3, .long l3), (5, .int l5), (6, .int l6), (7, .int v3), (8, .int (0 : Int32))]) rfl ?_)
    refine vr_iload dX4_isContradicted_40 rfl ?_
    refine vr_if_eq dX4_isContradicted_42 (tgt := 71) rfl (fun _ => ?_) (fun c => absurd (by decide) c)
    refine vr_iconst dX4_isContradicted_71 (v := (0 : Int32)) (by decide) ?_
    refine vr_istore dX4_isContradicted_72 (Nat.le_of_ble_eq_true rfl) (vv_eq (ls' := [(0, .ref 153), (1, .long l1), (3, .long l3), (5, .int l5), (6, .int l6), (7, .int v3), (8, .int (0 : Int32)), (9, .int (0 : Int32))]) rfl ?_)
    refine vr_iload dX4_isContradicted_74 rfl ?_
    refine vr_if_eq dX4_isContradicted_76 (tgt := 105) rfl (fun _ => ?_) (fun c => absurd (by decide) c)
    refine vr_iconst dX4_isContradicted_105 (v := (0 : Int32)) (by decide) ?_
    exact vr_zret dX4_isContradicted_106 rfl (Or.inl rfl) zh
  · replace zh := zh.2 zd_4
    refine vr_iload dX4_isContradicted_14 rfl ?_
    refine vr_bipush dX4_isContradicted_16 (v := (10 : Int32)) (by decide) ?_
    refine vr_ic_ge dX4_isContradicted_18 (tgt := 37) rfl (fun zd_5 => ?_) (fun zd_5 => ?_)
    · replace zh := zh.1 zd_5
      refine vr_iconst dX4_isContradicted_37 (v := (0 : Int32)) (by decide) ?_
      refine vr_istore dX4_isContradicted_38 (Nat.le_of_ble_eq_true rfl) (vv_eq (ls' := [(0, .ref 153), (1, .long l1), (3, .long l3), (5, .int l5), (6, .int l6), (7, .int v3), (8, .int (0 : Int32))]) rfl ?_)
      refine vr_iload dX4_isContradicted_40 rfl ?_
      refine vr_if_eq dX4_isContradicted_42 (tgt := 71) rfl (fun _ => ?_) (fun c => absurd (by decide) c)
      refine vr_iconst dX4_isContradicted_71 (v := (0 : Int32)) (by decide) ?_
      refine vr_istore dX4_isContradicted_72 (Nat.le_of_ble_eq_true rfl) (vv_eq (ls' := [(0, .ref 153), (1, .long l1), (3, .long l3), (5, .int l5), (6, .int l6), (7, .int v3), (8, .int (0 : Int32)), (9, .int (0 : Int32))]) rfl ?_)
      refine vr_iload dX4_isContradicted_74 rfl ?_
      refine vr_if_eq dX4_isContradicted_76 (tgt := 105) rfl (fun _ => ?_) (fun c => absurd (by decide) c)
      refine vr_iconst dX4_isContradicted_105 (v := (0 : Int32)) (by decide) ?_
      exact vr_zret dX4_isContradicted_106 rfl (Or.inl rfl) zh
    · replace zh := zh.2 zd_5
      refine vr_aload_n dX4_isContradicted_21 rfl rfl ?_
      refine vr_lload_n dX4_isContradicted_22 rfl rfl ?_
      refine vr_iload dX4_isContradicted_23 rfl ?_
      obtain ⟨v8, s6, zw1, zf_7, zh⟩ := zh
      refine vc_V (As := [.long l3, .int l5]) (rest := []) dX4_isContradicted_25 cV_LitmusTester_Machine_115 (wC_153 zw) rfl rfl (Nat.le_of_ble_eq_true rfl) (Nat.le_of_ble_eq_true rfl) (co_n zf_7 ?_)
      replace zw := zw1
      refine vr_iload dX4_isContradicted_28 rfl ?_
      refine vr_ic_eq dX4_isContradicted_30 (tgt := 37) rfl (fun zd_9 => ?_) (fun zd_9 => ?_)
      · replace zh := zh.1 zd_9
        refine vr_iconst dX4_isContradicted_37 (v := (0 : Int32)) (by decide) ?_
        refine vr_istore dX4_isContradicted_38 (Nat.le_of_ble_eq_true rfl) (vv_eq (ls' := [(0, .ref 153), (1, .long l1), (3, .long l3), (5, .int l5), (6, .int l6), (7, .int v3), (8, .int (0 : Int32))]) rfl ?_)
        refine vr_iload dX4_isContradicted_40 rfl ?_
        refine vr_if_eq dX4_isContradicted_42 (tgt := 71) rfl (fun _ => ?_) (fun c => absurd (by decide) c)
        refine vr_iconst dX4_isContradicted_71 (v := (0 : Int32)) (by decide) ?_
        refine vr_istore dX4_isContradicted_72 (Nat.le_of_ble_eq_true rfl) (vv_eq (ls' := [(0, .ref 153), (1, .long l1), (3, .long l3), (5, .int l5), (6, .int l6), (7, .int v3), (8, .int (0 : Int32)), (9, .int (0 : Int32))]) rfl ?_)
        refine vr_iload dX4_isContradicted_74 rfl ?_
        refine vr_if_eq dX4_isContradicted_76 (tgt := 105) rfl (fun _ => ?_) (fun c => absurd (by decide) c)
        refine vr_iconst dX4_isContradicted_105 (v := (0 : Int32)) (by decide) ?_
        exact vr_zret dX4_isContradicted_106 rfl (Or.inl rfl) zh
      · replace zh := zh.2 zd_9
        refine vr_iconst dX4_isContradicted_33 (v := (1 : Int32)) (by decide) ?_
        refine vr_goto dX4_isContradicted_34 (tgt := 38) rfl ?_
        refine vr_istore dX4_isContradicted_38 (Nat.le_of_ble_eq_true rfl) (vv_eq (ls' := [(0, .ref 153), (1, .long l1), (3, .long l3), (5, .int l5), (6, .int l6), (7, .int v3), (8, .int (1 : Int32))]) rfl ?_)
        refine vr_iload dX4_isContradicted_40 rfl ?_
        refine vr_if_eq dX4_isContradicted_42 (tgt := 71) rfl (fun c => absurd c (by decide)) (fun _ => ?_)
        refine vr_aload_n dX4_isContradicted_45 rfl rfl ?_
        refine vr_getR dX4_isContradicted_46 fl_LitmusTester_Machine_11 (wC_153 zw) (Or.inr ⟨_, rfl⟩) (wR_153_1 zw) ?_
        refine vr_iload dX4_isContradicted_49 rfl ?_
        obtain ⟨zi_10, zh⟩ := zh
        refine vr_iaload dX4_isContradicted_51 (wS_154 zw) zi_10 ?_
        refine vr_iconst dX4_isContradicted_52 (v := (1 : Int32)) (by decide) ?_
        refine vr_ic_eq dX4_isContradicted_53 (tgt := 67) rfl (fun zd_11 => ?_) (fun zd_11 => ?_)
        · replace zh := zh.1 zd_11
          refine vr_iconst dX4_isContradicted_67 (v := (1 : Int32)) (by decide) ?_
          refine vr_goto dX4_isContradicted_68 (tgt := 72) rfl ?_
          refine vr_istore dX4_isContradicted_72 (Nat.le_of_ble_eq_true rfl) (vv_eq (ls' := [(0, .ref 153), (1, .long l1), (3, .long l3), (5, .int l5), (6, .int l6), (7, .int v3), (8, .int (1 : Int32)), (9, .int (1 : Int32))]) rfl ?_)
          refine vr_iload dX4_isContradicted_74 rfl ?_
          refine vr_if_eq dX4_isContradicted_76 (tgt := 105) rfl (fun c => absurd c (by decide)) (fun _ => ?_)
          refine vr_lload_n dX4_isContradicted_79 rfl rfl ?_
          refine vr_iload dX4_isContradicted_80 rfl ?_
          refine vr_i2l dX4_isContradicted_82 ?_
          refine vr_lxor dX4_isContradicted_83 ?_
          refine vr_aload_n dX4_isContradicted_84 rfl rfl ?_
          refine vr_getR dX4_isContradicted_85 fl_LitmusTester_Machine_21 (wC_153 zw) (Or.inr ⟨_, rfl⟩) (wR_153_4 zw) ?_
          refine vr_iload dX4_isContradicted_88 rfl ?_
          obtain ⟨zi_12, zh⟩ := zh
          refine vr_iaload dX4_isContradicted_90 (wS_157 zw) zi_12 ?_
          refine vr_lshr dX4_isContradicted_91 ?_
          refine vr_ldc2 dX4_isContradicted_92 (v := (3 : Int64)) tw_1271 ?_
          refine vr_land dX4_isContradicted_95 ?_
          refine vr_lconst dX4_isContradicted_96 (v := (0 : Int64)) (by decide) ?_
          refine vr_lcmp dX4_isContradicted_97 ?_
          refine vr_if_eq dX4_isContradicted_98 (tgt := 105) rfl (fun zd_13 => ?_) (fun zd_13 => ?_)
          · replace zh := zh.1 ((lg_cmp_eq _ _).mp zd_13)
            refine vr_iconst dX4_isContradicted_105 (v := (0 : Int32)) (by decide) ?_
            exact vr_zret dX4_isContradicted_106 rfl (Or.inl rfl) zh
          · replace zh := zh.2 (fun z => zd_13 ((lg_cmp_eq _ _).mpr z))
            refine vr_iconst dX4_isContradicted_101 (v := (1 : Int32)) (by decide) ?_
            refine vr_goto dX4_isContradicted_102 (tgt := 106) rfl ?_
            exact vr_zret dX4_isContradicted_106 rfl (Or.inr rfl) zh
        · replace zh := zh.2 zd_11
          refine vr_aload_n dX4_isContradicted_56 rfl rfl ?_
          refine vr_getR dX4_isContradicted_57 fl_LitmusTester_Machine_11 (wC_153 zw) (Or.inr ⟨_, rfl⟩) (wR_153_1 zw) ?_
          refine vr_iload dX4_isContradicted_60 rfl ?_
          obtain ⟨zi_14, zh⟩ := zh
          refine vr_iaload dX4_isContradicted_62 (wS_154 zw) zi_14 ?_
          refine vr_iconst dX4_isContradicted_63 (v := (2 : Int32)) (by decide) ?_
          refine vr_ic_ne dX4_isContradicted_64 (tgt := 71) rfl (fun zd_15 => ?_) (fun zd_15 => ?_)
          · replace zh := zh.2 zd_15
            refine vr_iconst dX4_isContradicted_71 (v := (0 : Int32)) (by decide) ?_
            refine vr_istore dX4_isContradicted_72 (Nat.le_of_ble_eq_true rfl) (vv_eq (ls' := [(0, .ref 153), (1, .long l1), (3, .long l3), (5, .int l5), (6, .int l6), (7, .int v3), (8, .int (1 : Int32)), (9, .int (0 : Int32))]) rfl ?_)
            refine vr_iload dX4_isContradicted_74 rfl ?_
            refine vr_if_eq dX4_isContradicted_76 (tgt := 105) rfl (fun _ => ?_) (fun c => absurd (by decide) c)
            refine vr_iconst dX4_isContradicted_105 (v := (0 : Int32)) (by decide) ?_
            exact vr_zret dX4_isContradicted_106 rfl (Or.inl rfl) zh
          · replace zh := zh.1 zd_15
            refine vr_iconst dX4_isContradicted_67 (v := (1 : Int32)) (by decide) ?_
            refine vr_goto dX4_isContradicted_68 (tgt := 72) rfl ?_
            refine vr_istore dX4_isContradicted_72 (Nat.le_of_ble_eq_true rfl) (vv_eq (ls' := [(0, .ref 153), (1, .long l1), (3, .long l3), (5, .int l5), (6, .int l6), (7, .int v3), (8, .int (1 : Int32)), (9, .int (1 : Int32))]) rfl ?_)
            refine vr_iload dX4_isContradicted_74 rfl ?_
            refine vr_if_eq dX4_isContradicted_76 (tgt := 105) rfl (fun c => absurd c (by decide)) (fun _ => ?_)
            refine vr_lload_n dX4_isContradicted_79 rfl rfl ?_
            refine vr_iload dX4_isContradicted_80 rfl ?_
            refine vr_i2l dX4_isContradicted_82 ?_
            refine vr_lxor dX4_isContradicted_83 ?_
            refine vr_aload_n dX4_isContradicted_84 rfl rfl ?_
            refine vr_getR dX4_isContradicted_85 fl_LitmusTester_Machine_21 (wC_153 zw) (Or.inr ⟨_, rfl⟩) (wR_153_4 zw) ?_
            refine vr_iload dX4_isContradicted_88 rfl ?_
            obtain ⟨zi_16, zh⟩ := zh
            refine vr_iaload dX4_isContradicted_90 (wS_157 zw) zi_16 ?_
            refine vr_lshr dX4_isContradicted_91 ?_
            refine vr_ldc2 dX4_isContradicted_92 (v := (3 : Int64)) tw_1271 ?_
            refine vr_land dX4_isContradicted_95 ?_
            refine vr_lconst dX4_isContradicted_96 (v := (0 : Int64)) (by decide) ?_
            refine vr_lcmp dX4_isContradicted_97 ?_
            refine vr_if_eq dX4_isContradicted_98 (tgt := 105) rfl (fun zd_17 => ?_) (fun zd_17 => ?_)
            · replace zh := zh.1 ((lg_cmp_eq _ _).mp zd_17)
              refine vr_iconst dX4_isContradicted_105 (v := (0 : Int32)) (by decide) ?_
              exact vr_zret dX4_isContradicted_106 rfl (Or.inl rfl) zh
            · replace zh := zh.2 (fun z => zd_17 ((lg_cmp_eq _ _).mpr z))
              refine vr_iconst dX4_isContradicted_101 (v := (1 : Int32)) (by decide) ?_
              refine vr_goto dX4_isContradicted_102 (tgt := 106) rfl ?_
              exact vr_zret dX4_isContradicted_106 rfl (Or.inr rfl) zh
theorem e_X4_isContradicted {γ : ga_T} {l1 : Int64} {l3 : Int64} {l5 : Int32} {l6 : Int32} {σ : st_T} {Q : rs_T → st_T → Prop} (zw : Wd σ) (zh : p_X4_isContradicted_0 γ l1 l3 l5 l6 σ Q) : sp_ γ m_X4_isContradicted 2 [.ref 153, .long l1, .long l3, .int l5, .int l6] σ Q := sp_of (pl_X4_isContradicted) rfl (Nat.le_of_ble_eq_true rfl) (g_X4_isContradicted_0 zw zh)
def p_X4_written_0 (γ : ga_T) (l1 : Int64) (l3 : Int32) (l4 : Int32) (σ : st_T) (Q : rs_T → st_T → Prop) : Prop :=
  (l3 < (0 : Int32) →
    Q (.inl (some (.long l1))) σ
  ) ∧ (¬ l3 < (0 : Int32) →
    ((10 : Int32) ≤ l3 →
      Q (.inl (some (.long l1))) σ
    ) ∧ (¬ (10 : Int32) ≤ l3 →
      vp_in l3 10 ∧
      ∃ (v6 : Int64) (s4 : st_T), Wd s4 ∧ fn_ γ m_X4_withDigit 0 [.long l1, .int (st_I σ 156 l3.toNatClampNeg), .int l4] σ (.long v6) s4 ∧
      Q (.inl (some (.long v6))) s4
    )
  )
set_option maxRecDepth 10000 in
theorem g_X4_written_0 {γ : ga_T} {l1 : Int64} {l3 : Int32} {l4 : Int32} {σ : st_T} {Q : rs_T → st_T → Prop} (zw : Wd σ) (zh : p_X4_written_0 γ l1 l3 l4 σ Q) : vv_ γ m_X4_written 1 0 [(0, .ref 153), (1, .long l1), (3, .int l3), (4, .int l4)] [] σ Q := by
  unfold p_X4_written_0 at zh
  refine vr_iload_n dX4_written_0 rfl rfl ?_
  refine vr_if_lt dX4_written_1 (tgt := 14) rfl (fun zd_1 => ?_) (fun zd_1 => ?_)
  · replace zh := zh.1 zd_1
    refine vr_iconst dX4_written_14 (v := (0 : Int32)) (by decide) ?_
    refine vr_istore dX4_written_15 (Nat.le_of_ble_eq_true rfl) (vv_eq (ls' := [(0, .ref 153), (1, .long l1), (3, .int l3), (4, .int l4), (5, .int (0 : Int32))]) rfl ?_)
    refine vr_iload dX4_written_17 rfl ?_
    refine vr_if_eq dX4_written_19 (tgt := 37) rfl (fun _ => ?_) (fun c => absurd (by decide) c)
    refine vr_lload_n dX4_written_37 rfl rfl ?_
    exact vr_lret dX4_written_38 rfl zh
  · replace zh := zh.2 zd_1
    refine vr_iload_n dX4_written_4 rfl rfl ?_
    refine vr_bipush dX4_written_5 (v := (10 : Int32)) (by decide) ?_
    refine vr_ic_ge dX4_written_7 (tgt := 14) rfl (fun zd_2 => ?_) (fun zd_2 => ?_)
    · replace zh := zh.1 zd_2
      refine vr_iconst dX4_written_14 (v := (0 : Int32)) (by decide) ?_
      refine vr_istore dX4_written_15 (Nat.le_of_ble_eq_true rfl) (vv_eq (ls' := [(0, .ref 153), (1, .long l1), (3, .int l3), (4, .int l4), (5, .int (0 : Int32))]) rfl ?_)
      refine vr_iload dX4_written_17 rfl ?_
      refine vr_if_eq dX4_written_19 (tgt := 37) rfl (fun _ => ?_) (fun c => absurd (by decide) c)
      refine vr_lload_n dX4_written_37 rfl rfl ?_
      exact vr_lret dX4_written_38 rfl zh
    · replace zh := zh.2 zd_2
      refine vr_iconst dX4_written_10 (v := (1 : Int32)) (by decide) ?_
      refine vr_goto dX4_written_11 (tgt := 15) rfl ?_
      refine vr_istore dX4_written_15 (Nat.le_of_ble_eq_true rfl) (vv_eq (ls' := [(0, .ref 153), (1, .long l1), (3, .int l3), (4, .int l4), (5, .int (1 : Int32))]) rfl ?_)
      refine vr_iload dX4_written_17 rfl ?_
      refine vr_if_eq dX4_written_19 (tgt := 37) rfl (fun c => absurd c (by decide)) (fun _ => ?_)
      refine vr_lload_n dX4_written_22 rfl rfl ?_
      refine vr_aload_n dX4_written_23 rfl rfl ?_
      refine vr_getR dX4_written_24 fl_LitmusTester_Machine_18 (wC_153 zw) (Or.inr ⟨_, rfl⟩) (wR_153_3 zw) ?_
      refine vr_iload_n dX4_written_27 rfl rfl ?_
      obtain ⟨zi_3, zh⟩ := zh
      refine vr_iaload dX4_written_28 (wS_156 zw) zi_3 ?_
      refine vr_iload dX4_written_29 rfl ?_
      obtain ⟨v6, s4, zw1, zf_5, zh⟩ := zh
      refine vc_S (As := [.long l1, .int (st_I σ 156 l3.toNatClampNeg), .int l4]) (rest := []) dX4_written_31 cS_LitmusTester_Machine_138 rfl rfl (Nat.le_of_ble_eq_true rfl) (Nat.le_of_ble_eq_true rfl) (co_n zf_5 ?_)
      replace zw := zw1
      refine vr_goto dX4_written_34 (tgt := 38) rfl ?_
      exact vr_lret dX4_written_38 rfl zh
theorem e_X4_written {γ : ga_T} {l1 : Int64} {l3 : Int32} {l4 : Int32} {σ : st_T} {Q : rs_T → st_T → Prop} (zw : Wd σ) (zh : p_X4_written_0 γ l1 l3 l4 σ Q) : sp_ γ m_X4_written 1 [.ref 153, .long l1, .int l3, .int l4] σ Q := sp_of (pl_X4_written) rfl (Nat.le_of_ble_eq_true rfl) (g_X4_written_0 zw zh)
def p_X4_withRead_0 (γ : ga_T) (l1 : Int64) (l3 : Int32) (l4 : Int32) (σ : st_T) (Q : rs_T → st_T → Prop) : Prop :=
  (l3 < (0 : Int32) →
    Q (.inl (some (.long l1))) σ
  ) ∧ (¬ l3 < (0 : Int32) →
    (l3 < (10 : Int32) →
      (l4 = (-1 : Int32) →
        vp_in l3 10 ∧
        vp_in l3 10 ∧
        ∃ (v8 : Int64) (s6 : st_T), Wd s6 ∧ fn_ γ m_X4_withDigit 0 [.long l1, .int (st_I σ 157 l3.toNatClampNeg), .int (((l1 >>> ((st_I σ 156 l3.toNatClampNeg).toInt64 &&& 63)).toInt32) &&& (3 : Int32))] σ (.long v8) s6 ∧
        Q (.inl (some (.long v8))) s6
      ) ∧ (¬ l4 = (-1 : Int32) →
        ∃ (v11 : Int32) (s9 : st_T), Wd s9 ∧ fn_ γ m_X4_valueOf 0 [.ref 153, .long l1, .int l4] σ (.int v11) s9 ∧
        vp_in l3 10 ∧
        ∃ (v15 : Int64) (s13 : st_T), Wd s13 ∧ fn_ γ m_X4_withDigit 0 [.long l1, .int (st_I s9 157 l3.toNatClampNeg), .int v11] s9 (.long v15) s13 ∧
        Q (.inl (some (.long v15))) s13
      )
    ) ∧ (¬ l3 < (10 : Int32) →
      Q (.inl (some (.long l1))) σ
    )
  )
set_option maxRecDepth 10000 in
theorem g_X4_withRead_0 {γ : ga_T} {l1 : Int64} {l3 : Int32} {l4 : Int32} {σ : st_T} {Q : rs_T → st_T → Prop} (zw : Wd σ) (zh : p_X4_withRead_0 γ l1 l3 l4 σ Q) : vv_ γ m_X4_withRead 1 0 [(0, .ref 153), (1, .long l1), (3, .int l3), (4, .int l4)] [] σ Q := by
  unfold p_X4_withRead_0 at zh
  refine vr_iload_n dX4_withRead_0 rfl rfl ?_
  refine vr_if_lt dX4_withRead_1 (tgt := 10) rfl (fun zd_1 => ?_) (fun zd_1 => ?_)
  · replace zh := zh.1 zd_1
    refine vr_lload_n dX4_withRead_10 rfl rfl ?_
    exact vr_lret dX4_withRead_11 rfl zh
  · replace zh := zh.2 zd_1
    refine vr_iload_n dX4_withRead_4 rfl rfl ?_
    refine vr_bipush dX4_withRead_5 (v := (10 : Int32)) (by decide) ?_
    refine vr_ic_lt dX4_withRead_7 (tgt := 12) rfl (fun zd_2 => ?_) (fun zd_2 => ?_)
    · replace zh := zh.1 zd_2
      refine vr_iload dX4_withRead_12 rfl ?_
      refine vr_iconst dX4_withRead_14 (v := (-1 : Int32)) (by decide) ?_
      refine vr_ic_ne dX4_withRead_15 (tgt := 32) rfl (fun zd_3 => ?_) (fun zd_3 => ?_)
      · replace zh := zh.2 zd_3
        refine vr_aload_n dX4_withRead_32 rfl rfl ?_
        refine vr_lload_n dX4_withRead_33 rfl rfl ?_
        refine vr_iload dX4_withRead_34 rfl ?_
        obtain ⟨v11, s9, zw1, zf_10, zh⟩ := zh
        refine vc_V (As := [.long l1, .int l4]) (rest := []) dX4_withRead_36 cV_LitmusTester_Machine_123 (wC_153 zw) rfl rfl (Nat.le_of_ble_eq_true rfl) (Nat.le_of_ble_eq_true rfl) (co_n zf_10 ?_)
        replace zw := zw1
        refine vr_istore dX4_withRead_39 (Nat.le_of_ble_eq_true rfl) (vv_eq (ls' := [(0, .ref 153), (1, .long l1), (3, .int l3), (4, .int l4), (5, .int v11)]) rfl ?_)
        refine vr_lload_n dX4_withRead_41 rfl rfl ?_
        refine vr_aload_n dX4_withRead_42 rfl rfl ?_
        refine vr_getR dX4_withRead_43 fl_LitmusTester_Machine_21 (wC_153 zw) (Or.inr ⟨_, rfl⟩) (wR_153_4 zw) ?_
        refine vr_iload_n dX4_withRead_46 rfl rfl ?_
        obtain ⟨zi_12, zh⟩ := zh
        refine vr_iaload dX4_withRead_47 (wS_157 zw) zi_12 ?_
        refine vr_iload dX4_withRead_48 rfl ?_
        obtain ⟨v15, s13, zw1, zf_14, zh⟩ := zh
        refine vc_S (As := [.long l1, .int (st_I s9 157 l3.toNatClampNeg), .int v11]) (rest := []) dX4_withRead_50 cS_LitmusTester_Machine_138 rfl rfl (Nat.le_of_ble_eq_true rfl) (Nat.le_of_ble_eq_true rfl) (co_n zf_14 ?_)
        replace zw := zw1
        exact vr_lret dX4_withRead_53 rfl zh
      · replace zh := zh.1 zd_3
        refine vr_lload_n dX4_withRead_18 rfl rfl ?_
        refine vr_aload_n dX4_withRead_19 rfl rfl ?_
        refine vr_getR dX4_withRead_20 fl_LitmusTester_Machine_18 (wC_153 zw) (Or.inr ⟨_, rfl⟩) (wR_153_3 zw) ?_
        refine vr_iload_n dX4_withRead_23 rfl rfl ?_
        obtain ⟨zi_4, zh⟩ := zh
        refine vr_iaload dX4_withRead_24 (wS_156 zw) zi_4 ?_
        refine vr_lshr dX4_withRead_25 ?_
        refine vr_l2i dX4_withRead_26 ?_
        refine vr_iconst dX4_withRead_27 (v := (3 : Int32)) (by decide) ?_
        refine vr_iand dX4_withRead_28 ?_
        refine vr_goto dX4_withRead_29 (tgt := 39) rfl ?_
        refine vr_istore dX4_withRead_39 (Nat.le_of_ble_eq_true rfl) (vv_eq (ls' := [(0, .ref 153), (1, .long l1), (3, .int l3), (4, .int l4), (5, .int (((l1 >>> ((st_I σ 156 l3.toNatClampNeg).toInt64 &&& 63)).toInt32) &&& (3 : Int32)))]) rfl ?_)
        refine vr_lload_n dX4_withRead_41 rfl rfl ?_
        refine vr_aload_n dX4_withRead_42 rfl rfl ?_
        refine vr_getR dX4_withRead_43 fl_LitmusTester_Machine_21 (wC_153 zw) (Or.inr ⟨_, rfl⟩) (wR_153_4 zw) ?_
        refine vr_iload_n dX4_withRead_46 rfl rfl ?_
        obtain ⟨zi_5, zh⟩ := zh
        refine vr_iaload dX4_withRead_47 (wS_157 zw) zi_5 ?_
        refine vr_iload dX4_withRead_48 rfl ?_
        obtain ⟨v8, s6, zw1, zf_7, zh⟩ := zh
        refine vc_S (As := [.long l1, .int (st_I σ 157 l3.toNatClampNeg), .int (((l1 >>> ((st_I σ 156 l3.toNatClampNeg).toInt64 &&& 63)).toInt32) &&& (3 : Int32))]) (rest := []) dX4_withRead_50 cS_LitmusTester_Machine_138 rfl rfl (Nat.le_of_ble_eq_true rfl) (Nat.le_of_ble_eq_true rfl) (co_n zf_7 ?_)
        replace zw := zw1
        exact vr_lret dX4_withRead_53 rfl zh
    · replace zh := zh.2 zd_2
      refine vr_lload_n dX4_withRead_10 rfl rfl ?_
      exact vr_lret dX4_withRead_11 rfl zh
theorem e_X4_withRead {γ : ga_T} {l1 : Int64} {l3 : Int32} {l4 : Int32} {σ : st_T} {Q : rs_T → st_T → Prop} (zw : Wd σ) (zh : p_X4_withRead_0 γ l1 l3 l4 σ Q) : sp_ γ m_X4_withRead 1 [.ref 153, .long l1, .int l3, .int l4] σ Q := sp_of (pl_X4_withRead) rfl (Nat.le_of_ble_eq_true rfl) (g_X4_withRead_0 zw zh)
def p_X4_valueOf_0 (γ : ga_T) (l1 : Int64) (l3 : Int32) (σ : st_T) (Q : rs_T → st_T → Prop) : Prop :=
  (l3 < (0 : Int32) →
    Q (.inl (some (.int (0 : Int32)))) σ
  ) ∧ (¬ l3 < (0 : Int32) →
    (l3 < (10 : Int32) →
      vp_in l3 10 ∧
      ((st_I σ 158 l3.toNatClampNeg) = (-1 : Int32) →
        vp_in l3 10 ∧
        Q (.inl (some (.int (st_I σ 159 l3.toNatClampNeg)))) σ
      ) ∧ (¬ (st_I σ 158 l3.toNatClampNeg) = (-1 : Int32) →
        vp_in l3 10 ∧
        Q (.inl (some (.int (((l1 >>> ((st_I σ 158 l3.toNatClampNeg).toInt64 &&& 63)).toInt32) &&& (3 : Int32))))) σ
      )
    ) ∧ (¬ l3 < (10 : Int32) →
      Q (.inl (some (.int (0 : Int32)))) σ
    )
  )
set_option maxRecDepth 10000 in
theorem g_X4_valueOf_0 {γ : ga_T} {l1 : Int64} {l3 : Int32} {σ : st_T} {Q : rs_T → st_T → Prop} (zw : Wd σ) (zh : p_X4_valueOf_0 γ l1 l3 σ Q) : vv_ γ m_X4_valueOf 0 0 [(0, .ref 153), (1, .long l1), (3, .int l3)] [] σ Q := by
  unfold p_X4_valueOf_0 at zh
  refine vr_iload_n dX4_valueOf_0 rfl rfl ?_
  refine vr_if_lt dX4_valueOf_1 (tgt := 10) rfl (fun zd_1 => ?_) (fun zd_1 => ?_)
  · replace zh := zh.1 zd_1
    refine vr_iconst dX4_valueOf_10 (v := (0 : Int32)) (by decide) ?_
    exact vr_iret dX4_valueOf_11 rfl zh
  · replace zh := zh.2 zd_1
    refine vr_iload_n dX4_valueOf_4 rfl rfl ?_
    refine vr_bipush dX4_valueOf_5 (v := (10 : Int32)) (by decide) ?_
    refine vr_ic_lt dX4_valueOf_7 (tgt := 12) rfl (fun zd_2 => ?_) (fun zd_2 => ?_)
    · replace zh := zh.1 zd_2
      refine vr_aload_n dX4_valueOf_12 rfl rfl ?_
      refine vr_getR dX4_valueOf_13 fl_LitmusTester_Machine_24 (wC_153 zw) (Or.inr ⟨_, rfl⟩) (wR_153_5 zw) ?_
      refine vr_iload_n dX4_valueOf_16 rfl rfl ?_
      obtain ⟨zi_3, zh⟩ := zh
      refine vr_iaload dX4_valueOf_17 (wS_158 zw) zi_3 ?_
      refine vr_iconst dX4_valueOf_18 (v := (-1 : Int32)) (by decide) ?_
      refine vr_ic_ne dX4_valueOf_19 (tgt := 31) rfl (fun zd_4 => ?_) (fun zd_4 => ?_)
      · replace zh := zh.2 zd_4
        refine vr_lload_n dX4_valueOf_31 rfl rfl ?_
        refine vr_aload_n dX4_valueOf_32 rfl rfl ?_
        refine vr_getR dX4_valueOf_33 fl_LitmusTester_Machine_24 (wC_153 zw) (Or.inr ⟨_, rfl⟩) (wR_153_5 zw) ?_
        refine vr_iload_n dX4_valueOf_36 rfl rfl ?_
        obtain ⟨zi_6, zh⟩ := zh
        refine vr_iaload dX4_valueOf_37 (wS_158 zw) zi_6 ?_
        refine vr_lshr dX4_valueOf_38 ?_
        refine vr_l2i dX4_valueOf_39 ?_
        refine vr_iconst dX4_valueOf_40 (v := (3 : Int32)) (by decide) ?_
        refine vr_iand dX4_valueOf_41 ?_
        exact vr_iret dX4_valueOf_42 rfl zh
      · replace zh := zh.1 zd_4
        refine vr_aload_n dX4_valueOf_22 rfl rfl ?_
        refine vr_getR dX4_valueOf_23 fl_LitmusTester_Machine_27 (wC_153 zw) (Or.inr ⟨_, rfl⟩) (wR_153_6 zw) ?_
        refine vr_iload_n dX4_valueOf_26 rfl rfl ?_
        obtain ⟨zi_5, zh⟩ := zh
        refine vr_iaload dX4_valueOf_27 (wS_159 zw) zi_5 ?_
        refine vr_goto dX4_valueOf_28 (tgt := 42) rfl ?_
        exact vr_iret dX4_valueOf_42 rfl zh
    · replace zh := zh.2 zd_2
      refine vr_iconst dX4_valueOf_10 (v := (0 : Int32)) (by decide) ?_
      exact vr_iret dX4_valueOf_11 rfl zh
theorem e_X4_valueOf {γ : ga_T} {l1 : Int64} {l3 : Int32} {σ : st_T} {Q : rs_T → st_T → Prop} (zw : Wd σ) (zh : p_X4_valueOf_0 γ l1 l3 σ Q) : sp_ γ m_X4_valueOf 0 [.ref 153, .long l1, .int l3] σ Q := sp_of (pl_X4_valueOf) rfl (Nat.le_of_ble_eq_true rfl) (g_X4_valueOf_0 zw zh)
def p_X4_withDigit_0 (γ : ga_T) (l0 : Int64) (l2 : Int32) (l3 : Int32) (σ : st_T) (Q : rs_T → st_T → Prop) : Prop :=
  Q (.inl (some (.long ((l0 &&& (((3 : Int64) <<< (l2.toInt64 &&& 63)) ^^^ (-1 : Int64))) ||| ((l3.toInt64) <<< (l2.toInt64 &&& 63)))))) σ
set_option maxRecDepth 10000 in
theorem g_X4_withDigit_0 {γ : ga_T} {l0 : Int64} {l2 : Int32} {l3 : Int32} {σ : st_T} {Q : rs_T → st_T → Prop} (zw : Wd σ) (zh : p_X4_withDigit_0 γ l0 l2 l3 σ Q) : vv_ γ m_X4_withDigit 0 0 [(0, .long l0), (2, .int l2), (3, .int l3)] [] σ Q := by
  unfold p_X4_withDigit_0 at zh
  refine vr_lload_n dX4_withDigit_0 rfl rfl ?_
  refine vr_ldc2 dX4_withDigit_1 (v := (3 : Int64)) tw_1271 ?_
  refine vr_iload_n dX4_withDigit_4 rfl rfl ?_
  refine vr_lshl dX4_withDigit_5 ?_
  refine vr_ldc2 dX4_withDigit_6 (v := (-1 : Int64)) tw_1259 ?_
  refine vr_lxor dX4_withDigit_9 ?_
  refine vr_land dX4_withDigit_10 ?_
  refine vr_iload_n dX4_withDigit_11 rfl rfl ?_
  refine vr_i2l dX4_withDigit_12 ?_
  refine vr_iload_n dX4_withDigit_13 rfl rfl ?_
  refine vr_lshl dX4_withDigit_14 ?_
  refine vr_lor dX4_withDigit_15 ?_
  exact vr_lret dX4_withDigit_16 rfl zh
theorem e_X4_withDigit {γ : ga_T} {l0 : Int64} {l2 : Int32} {l3 : Int32} {σ : st_T} {Q : rs_T → st_T → Prop} (zw : Wd σ) (zh : p_X4_withDigit_0 γ l0 l2 l3 σ Q) : sp_ γ m_X4_withDigit 0 [.long l0, .int l2, .int l3] σ Q := sp_of (pl_X4_withDigit) rfl (Nat.le_of_ble_eq_true rfl) (g_X4_withDigit_0 zw zh)
