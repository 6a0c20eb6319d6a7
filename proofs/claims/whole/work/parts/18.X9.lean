def p_X9_clear_0 (γ : ga_T) (σ : st_T) (Q : rs_T → st_T → Prop) : Prop :=
  ∃ s1, Wd s1 ∧ fw_ γ m_X9_useSlots 0 [.ref 148, .int (512 : Int32)] (pt_I σ 148 4 (0 : Int32)) s1 ∧
  Q (.inl none) s1
set_option maxRecDepth 10000 in
theorem g_X9_clear_0 {γ : ga_T} {σ : st_T} {Q : rs_T → st_T → Prop} (zw : Wd σ) (zh : p_X9_clear_0 γ σ Q) : vv_ γ m_X9_clear 1 0 [(0, .ref 148)] [] σ Q := by
  unfold p_X9_clear_0 at zh
  refine vr_aload_n dX9_clear_0 rfl rfl ?_
  refine vr_iconst dX9_clear_1 (v := (0 : Int32)) (by decide) ?_
  refine vr_putI dX9_clear_2 fl_LitmusTester_StateTable_26 (wC_148 zw) rfl (fz_8_4) ?_
  refine vr_aload_n dX9_clear_5 rfl rfl ?_
  refine vr_sipush dX9_clear_6 (v := (512 : Int32)) (by decide) ?_
  obtain ⟨s1, zw1, zf_2, zh⟩ := zh
  refine vc_V (As := [.int (512 : Int32)]) (rest := []) dX9_clear_9 cV_LitmusTester_StateTable_29 (wC_148 zw) rfl rfl (Nat.le_of_ble_eq_true rfl) (Nat.le_of_ble_eq_true rfl) (co_v zf_2 ?_)
  replace zw := zw1
  exact vr_vret dX9_clear_12 rfl zh
theorem e_X9_clear {γ : ga_T} {σ : st_T} {Q : rs_T → st_T → Prop} (zw : Wd σ) (zh : p_X9_clear_0 γ σ Q) : sp_ γ m_X9_clear 1 [.ref 148] σ Q := sp_of (pl_X9_clear) rfl (Nat.le_of_ble_eq_true rfl) (g_X9_clear_0 zw zh)
def p_X9_useSlots_0 (γ : ga_T) (l1 : Int32) (σ : st_T) (Q : rs_T → st_T → Prop) : Prop :=
  ∃ b1, st_R (pt_I σ 148 3 l1) 148 2 = some b1 ∧
  ∃ n3, st_S (pt_I σ 148 3 l1) b1 = (21, n3) ∧
  (l1 ≤ (Int32.ofNat n3) →
    vv_ γ m_X9_useSlots 0 29 [(0, .ref 148), (2, .int (0 : Int32))] [] (pt_I σ 148 3 l1) Q
  ) ∧ (¬ l1 ≤ (Int32.ofNat n3) →
    ¬ l1 < 0 ∧ ∃ N8, l1.toNatClampNeg = N8 ∧ N8 * 4 ≤ 536870912 ∧
    vv_ γ m_X9_useSlots 0 29 [(0, .ref 148), (2, .int (0 : Int32))] [] (pt_R (pt_N (pt_I σ 148 3 l1) 21 N8 N8) 148 2 (some (st_n (pt_I σ 148 3 l1)))) Q
  )
set_option maxRecDepth 10000 in
theorem g_X9_useSlots_0 {γ : ga_T} {l1 : Int32} {σ : st_T} {Q : rs_T → st_T → Prop} (zw : Wd σ) (zh : p_X9_useSlots_0 γ l1 σ Q) : vv_ γ m_X9_useSlots 0 0 [(0, .ref 148), (1, .int l1)] [] σ Q := by
  unfold p_X9_useSlots_0 at zh
  refine vr_aload_n dX9_useSlots_0 rfl rfl ?_
  refine vr_iload_n dX9_useSlots_1 rfl rfl ?_
  refine vr_putI dX9_useSlots_2 fl_LitmusTester_StateTable_22 (wC_148 zw) rfl (fz_8_3) ?_
  refine vr_aload_n dX9_useSlots_5 rfl rfl ?_
  obtain ⟨b1, zb_2, zh⟩ := zh
  refine vr_getR dX9_useSlots_6 fl_LitmusTester_StateTable_18 (wC_148 zw) (Or.inr ⟨_, rfl⟩) zb_2 ?_
  obtain ⟨n3, zs_4, zh⟩ := zh
  refine vr_alen dX9_useSlots_9 zs_4 (Nat.le_of_ble_eq_true rfl) (Nat.le_of_ble_eq_true rfl) (v := (Int32.ofNat n3)) rfl ?_
  refine vr_aload_n dX9_useSlots_10 rfl rfl ?_
  refine vr_getI dX9_useSlots_11 fl_LitmusTester_StateTable_22 (wC_148 zw) rfl ?_
  refine vv_top (w := .int l1) rfl ?_
  refine vr_ic_ge dX9_useSlots_14 (tgt := 27) rfl (fun zd_5 => ?_) (fun zd_5 => ?_)
  · replace zh := zh.1 zd_5
    refine vr_iconst dX9_useSlots_27 (v := (0 : Int32)) (by decide) ?_
    refine vr_istore_n dX9_useSlots_28 rfl (Nat.le_of_ble_eq_true rfl) (vv_eq (ls' := [(0, .ref 148), (1, .int l1), (2, .int (0 : Int32))]) rfl ?_)
    exact vv_sub (ls' := [(0, .ref 148), (2, .int (0 : Int32))]) ⟨rfl, rfl, trivial⟩ zh
  · replace zh := zh.2 zd_5
    refine vr_aload_n dX9_useSlots_17 rfl rfl ?_
    refine vr_aload_n dX9_useSlots_18 rfl rfl ?_
    refine vr_getI dX9_useSlots_19 fl_LitmusTester_StateTable_22 (wC_148 zw) rfl ?_
    refine vv_top (w := .int l1) rfl ?_
    obtain ⟨zn_6, N8, zN_9, zb_7, zh⟩ := zh
    refine vr_newI dX9_useSlots_22 tw_215 zn_6 zN_9 zb_7 ?_
    replace zw := Wd_N (κ := 21) (len := N8) (z := N8) zw
    replace zw : Wd (pt_N (pt_I σ 148 3 l1) 21 N8 N8) := zw
    refine vr_putR dX9_useSlots_24 fl_LitmusTester_StateTable_18 (wC_148 zw) (Or.inr ⟨_, rfl⟩) (fun q e => Or.inl (fz_8_2 q e)) ?_
    replace zw := Wd_R (v := some (st_n (pt_I σ 148 3 l1))) zw (wN_148_2)
    replace zw : Wd (pt_R (pt_N (pt_I σ 148 3 l1) 21 N8 N8) 148 2 (some (st_n (pt_I σ 148 3 l1)))) := zw
    refine vr_iconst dX9_useSlots_27 (v := (0 : Int32)) (by decide) ?_
    refine vr_istore_n dX9_useSlots_28 rfl (Nat.le_of_ble_eq_true rfl) (vv_eq (ls' := [(0, .ref 148), (1, .int l1), (2, .int (0 : Int32))]) rfl ?_)
    exact vv_sub (ls' := [(0, .ref 148), (2, .int (0 : Int32))]) ⟨rfl, rfl, trivial⟩ zh
theorem e_X9_useSlots {γ : ga_T} {l1 : Int32} {σ : st_T} {Q : rs_T → st_T → Prop} (zw : Wd σ) (zh : p_X9_useSlots_0 γ l1 σ Q) : sp_ γ m_X9_useSlots 0 [.ref 148, .int l1] σ Q := sp_of (pl_X9_useSlots) rfl (Nat.le_of_ble_eq_true rfl) (g_X9_useSlots_0 zw zh)
def p_X9_useSlots_29 (γ : ga_T) (l2 : Int32) (σ : st_T) (Q : rs_T → st_T → Prop) : Prop :=
  ((st_I σ 148 3) ≤ l2 →
    Q (.inl none) σ
  ) ∧ (¬ (st_I σ 148 3) ≤ l2 →
    ∃ b2, st_R σ 148 2 = some b2 ∧
    ∃ n4, st_S σ b2 = (21, n4) ∧
    ((Int32.ofNat n4) ≤ l2 →
      Q (.inl none) σ
    ) ∧ (¬ (Int32.ofNat n4) ≤ l2 →
      vp_in l2 n4 ∧
      vv_ γ m_X9_useSlots 0 29 [(0, .ref 148), (2, .int (l2 + 1))] [] (pt_I σ b2 l2.toNatClampNeg (0 : Int32)) Q
    )
  )
set_option maxRecDepth 10000 in
theorem g_X9_useSlots_29 {γ : ga_T} {l2 : Int32} {σ : st_T} {Q : rs_T → st_T → Prop} (zw : Wd σ) (zh : p_X9_useSlots_29 γ l2 σ Q) : vv_ γ m_X9_useSlots 0 29 [(0, .ref 148), (2, .int l2)] [] σ Q := by
  unfold p_X9_useSlots_29 at zh
  refine vr_iload_n dX9_useSlots_29 rfl rfl ?_
  refine vr_aload_n dX9_useSlots_30 rfl rfl ?_
  refine vr_getI dX9_useSlots_31 fl_LitmusTester_StateTable_22 (wC_148 zw) rfl ?_
  refine vr_ic_ge dX9_useSlots_34 (tgt := 59) rfl (fun zd_1 => ?_) (fun zd_1 => ?_)
  · replace zh := zh.1 zd_1
    exact vr_vret dX9_useSlots_59 rfl zh
  · replace zh := zh.2 zd_1
    refine vr_iload_n dX9_useSlots_37 rfl rfl ?_
    refine vr_aload_n dX9_useSlots_38 rfl rfl ?_
    obtain ⟨b2, zb_3, zh⟩ := zh
    refine vr_getR dX9_useSlots_39 fl_LitmusTester_StateTable_18 (wC_148 zw) (Or.inr ⟨_, rfl⟩) zb_3 ?_
    obtain ⟨n4, zs_5, zh⟩ := zh
    refine vr_alen dX9_useSlots_42 zs_5 (Nat.le_of_ble_eq_true rfl) (Nat.le_of_ble_eq_true rfl) (v := (Int32.ofNat n4)) rfl ?_
    refine vr_ic_ge dX9_useSlots_43 (tgt := 59) rfl (fun zd_6 => ?_) (fun zd_6 => ?_)
    · replace zh := zh.1 zd_6
      exact vr_vret dX9_useSlots_59 rfl zh
    · replace zh := zh.2 zd_6
      refine vr_aload_n dX9_useSlots_46 rfl rfl ?_
      refine vr_getR dX9_useSlots_47 fl_LitmusTester_StateTable_18 (wC_148 zw) (Or.inr ⟨_, rfl⟩) zb_3 ?_
      refine vr_iload_n dX9_useSlots_50 rfl rfl ?_
      refine vr_iconst dX9_useSlots_51 (v := (0 : Int32)) (by decide) ?_
      obtain ⟨zi_7, zh⟩ := zh
      refine vr_iastore dX9_useSlots_52 zs_5 zi_7 ?_
      refine vr_iinc dX9_useSlots_53 (x := l2) (v := (l2 + 1)) rfl (ii_ (by decide)) (Nat.le_of_ble_eq_true rfl) (vv_eq (ls' := [(0, .ref 148), (2, .int (l2 + 1))]) rfl ?_)
      refine vr_goto dX9_useSlots_56 (tgt := 29) rfl ?_
      exact vv_sub (ls' := [(0, .ref 148), (2, .int (l2 + 1))]) ⟨rfl, rfl, trivial⟩ zh
def p_X9_size_0 (γ : ga_T) (σ : st_T) (Q : rs_T → st_T → Prop) : Prop :=
  Q (.inl (some (.int (st_I σ 148 4)))) σ
set_option maxRecDepth 10000 in
theorem g_X9_size_0 {γ : ga_T} {σ : st_T} {Q : rs_T → st_T → Prop} (zw : Wd σ) (zh : p_X9_size_0 γ σ Q) : vv_ γ m_X9_size 0 0 [(0, .ref 148)] [] σ Q := by
  unfold p_X9_size_0 at zh
  refine vr_aload_n dX9_size_0 rfl rfl ?_
  refine vr_getI dX9_size_1 fl_LitmusTester_StateTable_26 (wC_148 zw) rfl ?_
  exact vr_iret dX9_size_4 rfl zh
theorem e_X9_size {γ : ga_T} {σ : st_T} {Q : rs_T → st_T → Prop} (zw : Wd σ) (zh : p_X9_size_0 γ σ Q) : sp_ γ m_X9_size 0 [.ref 148] σ Q := sp_of (pl_X9_size) rfl (Nat.le_of_ble_eq_true rfl) (g_X9_size_0 zw zh)
def p_X9_stateAt_0 (γ : ga_T) (l1 : Int32) (σ : st_T) (Q : rs_T → st_T → Prop) : Prop :=
  (l1 < (0 : Int32) →
    Q (.inl (some (.long (-1 : Int64)))) σ
  ) ∧ (¬ l1 < (0 : Int32) →
    ((st_I σ 148 4) ≤ l1 →
      Q (.inl (some (.long (-1 : Int64)))) σ
    ) ∧ (¬ (st_I σ 148 4) ≤ l1 →
      ∃ b3, st_R σ 148 0 = some b3 ∧
      ∃ n5, st_S σ b3 = (22, n5) ∧
      ((Int32.ofNat n5) ≤ l1 →
        Q (.inl (some (.long (-1 : Int64)))) σ
      ) ∧ (¬ (Int32.ofNat n5) ≤ l1 →
        vp_in l1 n5 ∧
        Q (.inl (some (.long (st_L σ b3 l1.toNatClampNeg)))) σ
      )
    )
  )
set_option maxRecDepth 10000 in
theorem g_X9_stateAt_0 {γ : ga_T} {l1 : Int32} {σ : st_T} {Q : rs_T → st_T → Prop} (zw : Wd σ) (zh : p_X9_stateAt_0 γ l1 σ Q) : vv_ γ m_X9_stateAt 0 0 [(0, .ref 148), (1, .int l1)] [] σ Q := by
  unfold p_X9_stateAt_0 at zh
  refine vr_iload_n dX9_stateAt_0 rfl rfl ?_
  refine vr_if_lt dX9_stateAt_1 (tgt := 30) rfl (fun zd_1 => ?_) (fun zd_1 => ?_)
  · replace zh := zh.1 zd_1
    refine vr_ldc2 dX9_stateAt_30 (v := (-1 : Int64)) tw_1209 ?_
    exact vr_lret dX9_stateAt_33 rfl zh
  · replace zh := zh.2 zd_1
    refine vr_iload_n dX9_stateAt_4 rfl rfl ?_
    refine vr_aload_n dX9_stateAt_5 rfl rfl ?_
    refine vr_getI dX9_stateAt_6 fl_LitmusTester_StateTable_26 (wC_148 zw) rfl ?_
    refine vr_ic_ge dX9_stateAt_9 (tgt := 30) rfl (fun zd_2 => ?_) (fun zd_2 => ?_)
    · replace zh := zh.1 zd_2
      refine vr_ldc2 dX9_stateAt_30 (v := (-1 : Int64)) tw_1209 ?_
      exact vr_lret dX9_stateAt_33 rfl zh
    · replace zh := zh.2 zd_2
      refine vr_iload_n dX9_stateAt_12 rfl rfl ?_
      refine vr_aload_n dX9_stateAt_13 rfl rfl ?_
      obtain ⟨b3, zb_4, zh⟩ := zh
      refine vr_getR dX9_stateAt_14 fl_LitmusTester_StateTable_11 (wC_148 zw) (Or.inr ⟨_, rfl⟩) zb_4 ?_
      obtain ⟨n5, zs_6, zh⟩ := zh
      refine vr_alen dX9_stateAt_17 zs_6 (Nat.le_of_ble_eq_true rfl) (Nat.le_of_ble_eq_true rfl) (v := (Int32.ofNat n5)) rfl ?_
      refine vr_ic_ge dX9_stateAt_18 (tgt := 30) rfl (fun zd_7 => ?_) (fun zd_7 => ?_)
      · replace zh := zh.1 zd_7
        refine vr_ldc2 dX9_stateAt_30 (v := (-1 : Int64)) tw_1209 ?_
        exact vr_lret dX9_stateAt_33 rfl zh
      · replace zh := zh.2 zd_7
        refine vr_aload_n dX9_stateAt_21 rfl rfl ?_
        refine vr_getR dX9_stateAt_22 fl_LitmusTester_StateTable_11 (wC_148 zw) (Or.inr ⟨_, rfl⟩) zb_4 ?_
        refine vr_iload_n dX9_stateAt_25 rfl rfl ?_
        obtain ⟨zi_8, zh⟩ := zh
        refine vr_laload dX9_stateAt_26 zs_6 zi_8 ?_
        refine vr_goto dX9_stateAt_27 (tgt := 33) rfl ?_
        exact vr_lret dX9_stateAt_33 rfl zh
theorem e_X9_stateAt {γ : ga_T} {l1 : Int32} {σ : st_T} {Q : rs_T → st_T → Prop} (zw : Wd σ) (zh : p_X9_stateAt_0 γ l1 σ Q) : sp_ γ m_X9_stateAt 0 [.ref 148, .int l1] σ Q := sp_of (pl_X9_stateAt) rfl (Nat.le_of_ble_eq_true rfl) (g_X9_stateAt_0 zw zh)
def p_X9_waysAt_0 (γ : ga_T) (l1 : Int32) (σ : st_T) (Q : rs_T → st_T → Prop) : Prop :=
  (l1 < (0 : Int32) →
    Q (.inl (some (.long (0 : Int64)))) σ
  ) ∧ (¬ l1 < (0 : Int32) →
    ((st_I σ 148 4) ≤ l1 →
      Q (.inl (some (.long (0 : Int64)))) σ
    ) ∧ (¬ (st_I σ 148 4) ≤ l1 →
      ∃ b3, st_R σ 148 1 = some b3 ∧
      ∃ n5, st_S σ b3 = (22, n5) ∧
      ((Int32.ofNat n5) ≤ l1 →
        Q (.inl (some (.long (0 : Int64)))) σ
      ) ∧ (¬ (Int32.ofNat n5) ≤ l1 →
        vp_in l1 n5 ∧
        Q (.inl (some (.long (st_L σ b3 l1.toNatClampNeg)))) σ
      )
    )
  )
set_option maxRecDepth 10000 in
theorem g_X9_waysAt_0 {γ : ga_T} {l1 : Int32} {σ : st_T} {Q : rs_T → st_T → Prop} (zw : Wd σ) (zh : p_X9_waysAt_0 γ l1 σ Q) : vv_ γ m_X9_waysAt 0 0 [(0, .ref 148), (1, .int l1)] [] σ Q := by
  unfold p_X9_waysAt_0 at zh
  refine vr_iload_n dX9_waysAt_0 rfl rfl ?_
  refine vr_if_lt dX9_waysAt_1 (tgt := 30) rfl (fun zd_1 => ?_) (fun zd_1 => ?_)
  · replace zh := zh.1 zd_1
    refine vr_lconst dX9_waysAt_30 (v := (0 : Int64)) (by decide) ?_
    exact vr_lret dX9_waysAt_31 rfl zh
  · replace zh := zh.2 zd_1
    refine vr_iload_n dX9_waysAt_4 rfl rfl ?_
    refine vr_aload_n dX9_waysAt_5 rfl rfl ?_
    refine vr_getI dX9_waysAt_6 fl_LitmusTester_StateTable_26 (wC_148 zw) rfl ?_
    refine vr_ic_ge dX9_waysAt_9 (tgt := 30) rfl (fun zd_2 => ?_) (fun zd_2 => ?_)
    · replace zh := zh.1 zd_2
      refine vr_lconst dX9_waysAt_30 (v := (0 : Int64)) (by decide) ?_
      exact vr_lret dX9_waysAt_31 rfl zh
    · replace zh := zh.2 zd_2
      refine vr_iload_n dX9_waysAt_12 rfl rfl ?_
      refine vr_aload_n dX9_waysAt_13 rfl rfl ?_
      obtain ⟨b3, zb_4, zh⟩ := zh
      refine vr_getR dX9_waysAt_14 fl_LitmusTester_StateTable_15 (wC_148 zw) (Or.inr ⟨_, rfl⟩) zb_4 ?_
      obtain ⟨n5, zs_6, zh⟩ := zh
      refine vr_alen dX9_waysAt_17 zs_6 (Nat.le_of_ble_eq_true rfl) (Nat.le_of_ble_eq_true rfl) (v := (Int32.ofNat n5)) rfl ?_
      refine vr_ic_ge dX9_waysAt_18 (tgt := 30) rfl (fun zd_7 => ?_) (fun zd_7 => ?_)
      · replace zh := zh.1 zd_7
        refine vr_lconst dX9_waysAt_30 (v := (0 : Int64)) (by decide) ?_
        exact vr_lret dX9_waysAt_31 rfl zh
      · replace zh := zh.2 zd_7
        refine vr_aload_n dX9_waysAt_21 rfl rfl ?_
        refine vr_getR dX9_waysAt_22 fl_LitmusTester_StateTable_15 (wC_148 zw) (Or.inr ⟨_, rfl⟩) zb_4 ?_
        refine vr_iload_n dX9_waysAt_25 rfl rfl ?_
        obtain ⟨zi_8, zh⟩ := zh
        refine vr_laload dX9_waysAt_26 zs_6 zi_8 ?_
        refine vr_goto dX9_waysAt_27 (tgt := 31) rfl ?_
        exact vr_lret dX9_waysAt_31 rfl zh
theorem e_X9_waysAt {γ : ga_T} {l1 : Int32} {σ : st_T} {Q : rs_T → st_T → Prop} (zw : Wd σ) (zh : p_X9_waysAt_0 γ l1 σ Q) : sp_ γ m_X9_waysAt 0 [.ref 148, .int l1] σ Q := sp_of (pl_X9_waysAt) rfl (Nat.le_of_ble_eq_true rfl) (g_X9_waysAt_0 zw zh)
def p_X9_slotOf_0 (γ : ga_T) (l1 : Int64) (σ : st_T) (Q : rs_T → st_T → Prop) : Prop :=
  vv_ γ m_X9_slotOf 1 23 [(0, .ref 148), (1, .long l1), (5, .int (((((l1 * (-7046029254386353131 : Int64)).toUInt64 >>> ((36 : Int32).toInt64.toUInt64 &&& Int64.toUInt64 63)).toInt64).toInt32) &&& ((st_I σ 148 3) - (1 : Int32)))), (6, .int (0 : Int32))] [] σ Q
set_option maxRecDepth 10000 in
theorem g_X9_slotOf_0 {γ : ga_T} {l1 : Int64} {σ : st_T} {Q : rs_T → st_T → Prop} (zw : Wd σ) (zh : p_X9_slotOf_0 γ l1 σ Q) : vv_ γ m_X9_slotOf 1 0 [(0, .ref 148), (1, .long l1)] [] σ Q := by
  unfold p_X9_slotOf_0 at zh
  refine vr_lload_n dX9_slotOf_0 rfl rfl ?_
  refine vr_ldc2 dX9_slotOf_1 (v := (-7046029254386353131 : Int64)) tw_1214 ?_
  refine vr_lmul dX9_slotOf_4 ?_
  refine vr_lstore_n dX9_slotOf_5 rfl (Nat.le_of_ble_eq_true rfl) (vv_eq (ls' := [(0, .ref 148), (1, .long l1), (3, .long (l1 * (-7046029254386353131 : Int64)))]) rfl ?_)
  refine vr_lload_n dX9_slotOf_6 rfl rfl ?_
  refine vr_bipush dX9_slotOf_7 (v := (36 : Int32)) (by decide) ?_
  refine vr_lushr dX9_slotOf_9 ?_
  refine vr_l2i dX9_slotOf_10 ?_
  refine vr_aload_n dX9_slotOf_11 rfl rfl ?_
  refine vr_getI dX9_slotOf_12 fl_LitmusTester_StateTable_22 (wC_148 zw) rfl ?_
  refine vr_iconst dX9_slotOf_15 (v := (1 : Int32)) (by decide) ?_
  refine vr_isub dX9_slotOf_16 ?_
  refine vr_iand dX9_slotOf_17 ?_
  refine vr_istore dX9_slotOf_18 (Nat.le_of_ble_eq_true rfl) (vv_eq (ls' := [(0, .ref 148), (1, .long l1), (3, .long (l1 * (-7046029254386353131 : Int64))), (5, .int (((((l1 * (-7046029254386353131 : Int64)).toUInt64 >>> ((36 : Int32).toInt64.toUInt64 &&& Int64.toUInt64 63)).toInt64).toInt32) &&& ((st_I σ 148 3) - (1 : Int32))))]) rfl ?_)
  refine vr_iconst dX9_slotOf_20 (v := (0 : Int32)) (by decide) ?_
  refine vr_istore dX9_slotOf_21 (Nat.le_of_ble_eq_true rfl) (vv_eq (ls' := [(0, .ref 148), (1, .long l1), (3, .long (l1 * (-7046029254386353131 : Int64))), (5, .int (((((l1 * (-7046029254386353131 : Int64)).toUInt64 >>> ((36 : Int32).toInt64.toUInt64 &&& Int64.toUInt64 63)).toInt64).toInt32) &&& ((st_I σ 148 3) - (1 : Int32)))), (6, .int (0 : Int32))]) rfl ?_)
  exact vv_sub (ls' := [(0, .ref 148), (1, .long l1), (5, .int (((((l1 * (-7046029254386353131 : Int64)).toUInt64 >>> ((36 : Int32).toInt64.toUInt64 &&& Int64.toUInt64 63)).toInt64).toInt32) &&& ((st_I σ 148 3) - (1 : Int32)))), (6, .int (0 : Int32))]) ⟨rfl, rfl, rfl, rfl, trivial⟩ zh
theorem e_X9_slotOf {γ : ga_T} {l1 : Int64} {σ : st_T} {Q : rs_T → st_T → Prop} (zw : Wd σ) (zh : p_X9_slotOf_0 γ l1 σ Q) : sp_ γ m_X9_slotOf 1 [.ref 148, .long l1] σ Q := sp_of (pl_X9_slotOf) rfl (Nat.le_of_ble_eq_true rfl) (g_X9_slotOf_0 zw zh)
def p_X9_slotOf_23 (γ : ga_T) (l1 : Int64) (l5 : Int32) (l6 : Int32) (σ : st_T) (Q : rs_T → st_T → Prop) : Prop :=
  ((st_I σ 148 3) ≤ l6 →
    Q (.inl (some (.int l5))) σ
  ) ∧ (¬ (st_I σ 148 3) ≤ l6 →
    ∃ b2, st_R σ 148 2 = some b2 ∧
    ∃ n4, st_S σ b2 = (21, n4) ∧
    ((Int32.ofNat n4) ≤ l5 →
      Q (.inl (some (.int l5))) σ
    ) ∧ (¬ (Int32.ofNat n4) ≤ l5 →
      vp_in l5 n4 ∧
      ((st_I σ b2 l5.toNatClampNeg) = (0 : Int32) →
        Q (.inl (some (.int l5))) σ
      ) ∧ (¬ (st_I σ b2 l5.toNatClampNeg) = (0 : Int32) →
        vp_in l5 n4 ∧
        ∃ (v12 : Int64) (s10 : st_T), Wd s10 ∧ fn_ γ m_X9_stateAt 0 [.ref 148, .int ((st_I σ b2 l5.toNatClampNeg) - (1 : Int32))] σ (.long v12) s10 ∧
        (v12 = l1 →
          Q (.inl (some (.int l5))) s10
        ) ∧ (¬ v12 = l1 →
          vv_ γ m_X9_slotOf 1 23 [(0, .ref 148), (1, .long l1), (5, .int ((l5 + (1 : Int32)) &&& ((st_I s10 148 3) - (1 : Int32)))), (6, .int (l6 + 1))] [] s10 Q
        )
      )
    )
  )
set_option maxRecDepth 10000 in
theorem g_X9_slotOf_23 {γ : ga_T} {l1 : Int64} {l5 : Int32} {l6 : Int32} {σ : st_T} {Q : rs_T → st_T → Prop} (zw : Wd σ) (zh : p_X9_slotOf_23 γ l1 l5 l6 σ Q) : vv_ γ m_X9_slotOf 1 23 [(0, .ref 148), (1, .long l1), (5, .int l5), (6, .int l6)] [] σ Q := by
  unfold p_X9_slotOf_23 at zh
  refine vr_iload dX9_slotOf_23 rfl ?_
  refine vr_aload_n dX9_slotOf_25 rfl rfl ?_
  refine vr_getI dX9_slotOf_26 fl_LitmusTester_StateTable_22 (wC_148 zw) rfl ?_
  refine vr_ic_ge dX9_slotOf_29 (tgt := 92) rfl (fun zd_1 => ?_) (fun zd_1 => ?_)
  · replace zh := zh.1 zd_1
    refine vr_iload dX9_slotOf_92 rfl ?_
    exact vr_iret dX9_slotOf_94 rfl zh
  · replace zh := zh.2 zd_1
    refine vr_iload dX9_slotOf_32 rfl ?_
    refine vr_aload_n dX9_slotOf_34 rfl rfl ?_
    obtain ⟨b2, zb_3, zh⟩ := zh
    refine vr_getR dX9_slotOf_35 fl_LitmusTester_StateTable_18 (wC_148 zw) (Or.inr ⟨_, rfl⟩) zb_3 ?_
    obtain ⟨n4, zs_5, zh⟩ := zh
    refine vr_alen dX9_slotOf_38 zs_5 (Nat.le_of_ble_eq_true rfl) (Nat.le_of_ble_eq_true rfl) (v := (Int32.ofNat n4)) rfl ?_
    refine vr_ic_ge dX9_slotOf_39 (tgt := 92) rfl (fun zd_6 => ?_) (fun zd_6 => ?_)
    · replace zh := zh.1 zd_6
      refine vr_iload dX9_slotOf_92 rfl ?_
      exact vr_iret dX9_slotOf_94 rfl zh
    · replace zh := zh.2 zd_6
      refine vr_aload_n dX9_slotOf_42 rfl rfl ?_
      refine vr_getR dX9_slotOf_43 fl_LitmusTester_StateTable_18 (wC_148 zw) (Or.inr ⟨_, rfl⟩) zb_3 ?_
      refine vr_iload dX9_slotOf_46 rfl ?_
      obtain ⟨zi_7, zh⟩ := zh
      refine vr_iaload dX9_slotOf_48 zs_5 zi_7 ?_
      refine vr_if_eq dX9_slotOf_49 (tgt := 92) rfl (fun zd_8 => ?_) (fun zd_8 => ?_)
      · replace zh := zh.1 zd_8
        refine vr_iload dX9_slotOf_92 rfl ?_
        exact vr_iret dX9_slotOf_94 rfl zh
      · replace zh := zh.2 zd_8
        refine vr_aload_n dX9_slotOf_52 rfl rfl ?_
        refine vr_aload_n dX9_slotOf_53 rfl rfl ?_
        refine vr_getR dX9_slotOf_54 fl_LitmusTester_StateTable_18 (wC_148 zw) (Or.inr ⟨_, rfl⟩) zb_3 ?_
        refine vr_iload dX9_slotOf_57 rfl ?_
        obtain ⟨zi_9, zh⟩ := zh
        refine vr_iaload dX9_slotOf_59 zs_5 zi_9 ?_
        refine vr_iconst dX9_slotOf_60 (v := (1 : Int32)) (by decide) ?_
        refine vr_isub dX9_slotOf_61 ?_
        obtain ⟨v12, s10, zw1, zf_11, zh⟩ := zh
        refine vc_V (As := [.int ((st_I σ b2 l5.toNatClampNeg) - (1 : Int32))]) (rest := []) dX9_slotOf_62 cV_LitmusTester_StateTable_37 (wC_148 zw) rfl rfl (Nat.le_of_ble_eq_true rfl) (Nat.le_of_ble_eq_true rfl) (co_n zf_11 ?_)
        replace zw := zw1
        refine vr_lload_n dX9_slotOf_65 rfl rfl ?_
        refine vr_lcmp dX9_slotOf_66 ?_
        refine vr_if_ne dX9_slotOf_67 (tgt := 73) rfl (fun zd_13 => ?_) (fun zd_13 => ?_)
        · replace zh := zh.2 (fun z => zd_13 ((lg_cmp_eq _ _).mpr z))
          refine vr_iload dX9_slotOf_73 rfl ?_
          refine vr_iconst dX9_slotOf_75 (v := (1 : Int32)) (by decide) ?_
          refine vr_iadd dX9_slotOf_76 ?_
          refine vr_aload_n dX9_slotOf_77 rfl rfl ?_
          refine vr_getI dX9_slotOf_78 fl_LitmusTester_StateTable_22 (wC_148 zw) rfl ?_
          refine vr_iconst dX9_slotOf_81 (v := (1 : Int32)) (by decide) ?_
          refine vr_isub dX9_slotOf_82 ?_
          refine vr_iand dX9_slotOf_83 ?_
          refine vr_istore dX9_slotOf_84 (Nat.le_of_ble_eq_true rfl) (vv_eq (ls' := [(0, .ref 148), (1, .long l1), (5, .int ((l5 + (1 : Int32)) &&& ((st_I s10 148 3) - (1 : Int32)))), (6, .int l6)]) rfl ?_)
          refine vr_iinc dX9_slotOf_86 (x := l6) (v := (l6 + 1)) rfl (ii_ (by decide)) (Nat.le_of_ble_eq_true rfl) (vv_eq (ls' := [(0, .ref 148), (1, .long l1), (5, .int ((l5 + (1 : Int32)) &&& ((st_I s10 148 3) - (1 : Int32)))), (6, .int (l6 + 1))]) rfl ?_)
          refine vr_goto dX9_slotOf_89 (tgt := 23) rfl ?_
          exact vv_sub (ls' := [(0, .ref 148), (1, .long l1), (5, .int ((l5 + (1 : Int32)) &&& ((st_I s10 148 3) - (1 : Int32)))), (6, .int (l6 + 1))]) ⟨rfl, rfl, rfl, rfl, trivial⟩ zh
        · replace zh := zh.1 ((lg_cmp_eq _ _).mp zd_13)
          refine vr_iload dX9_slotOf_70 rfl ?_
          exact vr_iret dX9_slotOf_72 rfl zh
def p_X9_contains_0 (γ : ga_T) (l1 : Int64) (σ : st_T) (Q : rs_T → st_T → Prop) : Prop :=
  ∃ (v3 : Int32) (s1 : st_T), Wd s1 ∧ fn_ γ m_X9_slotOf 1 [.ref 148, .long l1] σ (.int v3) s1 ∧
  (v3 < (0 : Int32) →
    Q (.inl (some (.int (0 : Int32)))) s1
  ) ∧ (¬ v3 < (0 : Int32) →
    ∃ b5, st_R s1 148 2 = some b5 ∧
    ∃ n7, st_S s1 b5 = (21, n7) ∧
    ((Int32.ofNat n7) ≤ v3 →
      Q (.inl (some (.int (0 : Int32)))) s1
    ) ∧ (¬ (Int32.ofNat n7) ≤ v3 →
      vp_in v3 n7 ∧
      ((st_I s1 b5 v3.toNatClampNeg) = (0 : Int32) →
        Q (.inl (some (.int (0 : Int32)))) s1
      ) ∧ (¬ (st_I s1 b5 v3.toNatClampNeg) = (0 : Int32) →
        Q (.inl (some (.int (1 : Int32)))) s1
      )
    )
  )
set_option maxRecDepth 10000 in
theorem g_X9_contains_0 {γ : ga_T} {l1 : Int64} {σ : st_T} {Q : rs_T → st_T → Prop} (zw : Wd σ) (zh : p_X9_contains_0 γ l1 σ Q) : vv_ γ m_X9_contains 2 0 [(0, .ref 148), (1, .long l1)] [] σ Q := by
  unfold p_X9_contains_0 at zh
  refine vr_aload_n dX9_contains_0 rfl rfl ?_
  refine vr_lload_n dX9_contains_1 rfl rfl ?_
  obtain ⟨v3, s1, zw1, zf_2, zh⟩ := zh
  refine vc_V (As := [.long l1]) (rest := []) dX9_contains_2 cV_LitmusTester_StateTable_41 (wC_148 zw) rfl rfl (Nat.le_of_ble_eq_true rfl) (Nat.le_of_ble_eq_true rfl) (co_n zf_2 ?_)
  replace zw := zw1
  refine vr_istore_n dX9_contains_5 rfl (Nat.le_of_ble_eq_true rfl) (vv_eq (ls' := [(0, .ref 148), (1, .long l1), (3, .int v3)]) rfl ?_)
  refine vr_iload_n dX9_contains_6 rfl rfl ?_
  refine vr_if_lt dX9_contains_7 (tgt := 32) rfl (fun zd_4 => ?_) (fun zd_4 => ?_)
  · replace zh := zh.1 zd_4
    refine vr_iconst dX9_contains_32 (v := (0 : Int32)) (by decide) ?_
    exact vr_zret dX9_contains_33 rfl (Or.inl rfl) zh
  · replace zh := zh.2 zd_4
    refine vr_iload_n dX9_contains_10 rfl rfl ?_
    refine vr_aload_n dX9_contains_11 rfl rfl ?_
    obtain ⟨b5, zb_6, zh⟩ := zh
    refine vr_getR dX9_contains_12 fl_LitmusTester_StateTable_18 (wC_148 zw) (Or.inr ⟨_, rfl⟩) zb_6 ?_
    obtain ⟨n7, zs_8, zh⟩ := zh
    refine vr_alen dX9_contains_15 zs_8 (Nat.le_of_ble_eq_true rfl) (Nat.le_of_ble_eq_true rfl) (v := (Int32.ofNat n7)) rfl ?_
    refine vr_ic_ge dX9_contains_16 (tgt := 32) rfl (fun zd_9 => ?_) (fun zd_9 => ?_)
    · replace zh := zh.1 zd_9
      refine vr_iconst dX9_contains_32 (v := (0 : Int32)) (by decide) ?_
      exact vr_zret dX9_contains_33 rfl (Or.inl rfl) zh
    · replace zh := zh.2 zd_9
      refine vr_aload_n dX9_contains_19 rfl rfl ?_
      refine vr_getR dX9_contains_20 fl_LitmusTester_StateTable_18 (wC_148 zw) (Or.inr ⟨_, rfl⟩) zb_6 ?_
      refine vr_iload_n dX9_contains_23 rfl rfl ?_
      obtain ⟨zi_10, zh⟩ := zh
      refine vr_iaload dX9_contains_24 zs_8 zi_10 ?_
      refine vr_if_eq dX9_contains_25 (tgt := 32) rfl (fun zd_11 => ?_) (fun zd_11 => ?_)
      · replace zh := zh.1 zd_11
        refine vr_iconst dX9_contains_32 (v := (0 : Int32)) (by decide) ?_
        exact vr_zret dX9_contains_33 rfl (Or.inl rfl) zh
      · replace zh := zh.2 zd_11
        refine vr_iconst dX9_contains_28 (v := (1 : Int32)) (by decide) ?_
        refine vr_goto dX9_contains_29 (tgt := 33) rfl ?_
        exact vr_zret dX9_contains_33 rfl (Or.inr rfl) zh
theorem e_X9_contains {γ : ga_T} {l1 : Int64} {σ : st_T} {Q : rs_T → st_T → Prop} (zw : Wd σ) (zh : p_X9_contains_0 γ l1 σ Q) : sp_ γ m_X9_contains 2 [.ref 148, .long l1] σ Q := sp_of (pl_X9_contains) rfl (Nat.le_of_ble_eq_true rfl) (g_X9_contains_0 zw zh)
def p_X9_add_0 (γ : ga_T) (l1 : Int64) (l3 : Int64) (σ : st_T) (Q : rs_T → st_T → Prop) : Prop :=
  ∃ s1, Wd s1 ∧ fw_ γ m_X9_makeRoom 2 [.ref 148] σ s1 ∧
  ∃ (v5 : Int32) (s3 : st_T), Wd s3 ∧ fn_ γ m_X9_slotOf 1 [.ref 148, .long l1] s1 (.int v5) s3 ∧
  (v5 < (0 : Int32) →
    Q (.inl none) s3
  ) ∧ (¬ v5 < (0 : Int32) →
    ∃ b7, st_R s3 148 2 = some b7 ∧
    ∃ n9, st_S s3 b7 = (21, n9) ∧
    (v5 < (Int32.ofNat n9) →
      vp_in v5 n9 ∧
      (((st_I s3 b7 v5.toNatClampNeg) - (1 : Int32)) < (0 : Int32) →
        ((1048576 : Int32) ≤ (st_I s3 148 4) →
          Q (.inl none) s3
        ) ∧ (¬ (1048576 : Int32) ≤ (st_I s3 148 4) →
          ∃ b15, st_R s3 148 0 = some b15 ∧
          ∃ n17, st_S s3 b15 = (22, n17) ∧
          ((Int32.ofNat n17) ≤ (st_I s3 148 4) →
            Q (.inl none) s3
          ) ∧ (¬ (Int32.ofNat n17) ≤ (st_I s3 148 4) →
            ∃ b20, st_R s3 148 1 = some b20 ∧
            ∃ n22, st_S s3 b20 = (22, n22) ∧
            ((Int32.ofNat n22) ≤ (st_I s3 148 4) →
              Q (.inl none) s3
            ) ∧ (¬ (Int32.ofNat n22) ≤ (st_I s3 148 4) →
              vp_in (st_I s3 148 4) n17 ∧
              vp_in (st_I s3 148 4) n22 ∧
              vp_in v5 n9 ∧
              Q (.inl none) (pt_I (pt_I (pt_L (pt_L s3 b15 (st_I s3 148 4).toNatClampNeg l1) b20 (st_I s3 148 4).toNatClampNeg l3) 148 4 ((st_I s3 148 4) + (1 : Int32))) b7 v5.toNatClampNeg ((st_I s3 148 4) + (1 : Int32)))
            )
          )
        )
      ) ∧ (¬ ((st_I s3 b7 v5.toNatClampNeg) - (1 : Int32)) < (0 : Int32) →
        ((st_I s3 148 4) ≤ ((st_I s3 b7 v5.toNatClampNeg) - (1 : Int32)) →
          ((1048576 : Int32) ≤ (st_I s3 148 4) →
            Q (.inl none) s3
          ) ∧ (¬ (1048576 : Int32) ≤ (st_I s3 148 4) →
            ∃ b30, st_R s3 148 0 = some b30 ∧
            ∃ n32, st_S s3 b30 = (22, n32) ∧
            ((Int32.ofNat n32) ≤ (st_I s3 148 4) →
              Q (.inl none) s3
            ) ∧ (¬ (Int32.ofNat n32) ≤ (st_I s3 148 4) →
              ∃ b35, st_R s3 148 1 = some b35 ∧
              ∃ n37, st_S s3 b35 = (22, n37) ∧
              ((Int32.ofNat n37) ≤ (st_I s3 148 4) →
                Q (.inl none) s3
              ) ∧ (¬ (Int32.ofNat n37) ≤ (st_I s3 148 4) →
                vp_in (st_I s3 148 4) n32 ∧
                vp_in (st_I s3 148 4) n37 ∧
                vp_in v5 n9 ∧
                Q (.inl none) (pt_I (pt_I (pt_L (pt_L s3 b30 (st_I s3 148 4).toNatClampNeg l1) b35 (st_I s3 148 4).toNatClampNeg l3) 148 4 ((st_I s3 148 4) + (1 : Int32))) b7 v5.toNatClampNeg ((st_I s3 148 4) + (1 : Int32)))
              )
            )
          )
        ) ∧ (¬ (st_I s3 148 4) ≤ ((st_I s3 b7 v5.toNatClampNeg) - (1 : Int32)) →
          ∃ b43, st_R s3 148 1 = some b43 ∧
          ∃ n45, st_S s3 b43 = (22, n45) ∧
          ((Int32.ofNat n45) ≤ ((st_I s3 b7 v5.toNatClampNeg) - (1 : Int32)) →
            ((1048576 : Int32) ≤ (st_I s3 148 4) →
              Q (.inl none) s3
            ) ∧ (¬ (1048576 : Int32) ≤ (st_I s3 148 4) →
              ∃ b49, st_R s3 148 0 = some b49 ∧
              ∃ n51, st_S s3 b49 = (22, n51) ∧
              ((Int32.ofNat n51) ≤ (st_I s3 148 4) →
                Q (.inl none) s3
              ) ∧ (¬ (Int32.ofNat n51) ≤ (st_I s3 148 4) →
                ((Int32.ofNat n45) ≤ (st_I s3 148 4) →
                  Q (.inl none) s3
                ) ∧ (¬ (Int32.ofNat n45) ≤ (st_I s3 148 4) →
                  vp_in (st_I s3 148 4) n51 ∧
                  vp_in (st_I s3 148 4) n45 ∧
                  vp_in v5 n9 ∧
                  Q (.inl none) (pt_I (pt_I (pt_L (pt_L s3 b49 (st_I s3 148 4).toNatClampNeg l1) b43 (st_I s3 148 4).toNatClampNeg l3) 148 4 ((st_I s3 148 4) + (1 : Int32))) b7 v5.toNatClampNeg ((st_I s3 148 4) + (1 : Int32)))
                )
              )
            )
          ) ∧ (¬ (Int32.ofNat n45) ≤ ((st_I s3 b7 v5.toNatClampNeg) - (1 : Int32)) →
            vp_in ((st_I s3 b7 v5.toNatClampNeg) - (1 : Int32)) n45 ∧
            vp_in ((st_I s3 b7 v5.toNatClampNeg) - (1 : Int32)) n45 ∧
            Q (.inl none) (pt_L s3 b43 ((st_I s3 b7 v5.toNatClampNeg) - (1 : Int32)).toNatClampNeg ((st_L s3 b43 ((st_I s3 b7 v5.toNatClampNeg) - (1 : Int32)).toNatClampNeg) + l3))
          )
        )
      )
    ) ∧ (¬ v5 < (Int32.ofNat n9) →
      Q (.inl none) s3
    )
  )
set_option maxRecDepth 10000 in
theorem g_X9_add_0 {γ : ga_T} {l1 : Int64} {l3 : Int64} {σ : st_T} {Q : rs_T → st_T → Prop} (zw : Wd σ) (zh : p_X9_add_0 γ l1 l3 σ Q) : vv_ γ m_X9_add 3 0 [(0, .ref 148), (1, .long l1), (3, .long l3)] [] σ Q := by
  unfold p_X9_add_0 at zh
  refine vr_aload_n dX9_add_0 rfl rfl ?_
  obtain ⟨s1, zw1, zf_2, zh⟩ := zh
  refine vc_V (As := []) (rest := []) dX9_add_1 cV_LitmusTester_StateTable_45 (wC_148 zw) rfl rfl (Nat.le_of_ble_eq_true rfl) (Nat.le_of_ble_eq_true rfl) (co_v zf_2 ?_)
  replace zw := zw1
  refine vr_aload_n dX9_add_4 rfl rfl ?_
  refine vr_lload_n dX9_add_5 rfl rfl ?_
  obtain ⟨v5, s3, zw1, zf_4, zh⟩ := zh
  refine vc_V (As := [.long l1]) (rest := []) dX9_add_6 cV_LitmusTester_StateTable_41 (wC_148 zw) rfl rfl (Nat.le_of_ble_eq_true rfl) (Nat.le_of_ble_eq_true rfl) (co_n zf_4 ?_)
  replace zw := zw1
  refine vr_istore dX9_add_9 (Nat.le_of_ble_eq_true rfl) (vv_eq (ls' := [(0, .ref 148), (1, .long l1), (3, .long l3), (5, .int v5)]) rfl ?_)
  refine vr_iload dX9_add_11 rfl ?_
  refine vr_if_lt dX9_add_13 (tgt := 26) rfl (fun zd_6 => ?_) (fun zd_6 => ?_)
  · replace zh := zh.1 zd_6
    exact vr_vret dX9_add_26 rfl zh
  · replace zh := zh.2 zd_6
    refine vr_iload dX9_add_16 rfl ?_
    refine vr_aload_n dX9_add_18 rfl rfl ?_
    obtain ⟨b7, zb_8, zh⟩ := zh
    refine vr_getR dX9_add_19 fl_LitmusTester_StateTable_18 (wC_148 zw) (Or.inr ⟨_, rfl⟩) zb_8 ?_
    obtain ⟨n9, zs_10, zh⟩ := zh
    refine vr_alen dX9_add_22 zs_10 (Nat.le_of_ble_eq_true rfl) (Nat.le_of_ble_eq_true rfl) (v := (Int32.ofNat n9)) rfl ?_
    refine vr_ic_lt dX9_add_23 (tgt := 27) rfl (fun zd_11 => ?_) (fun zd_11 => ?_)
    · replace zh := zh.1 zd_11
      refine vr_aload_n dX9_add_27 rfl rfl ?_
      refine vr_getR dX9_add_28 fl_LitmusTester_StateTable_18 (wC_148 zw) (Or.inr ⟨_, rfl⟩) zb_8 ?_
      refine vr_iload dX9_add_31 rfl ?_
      obtain ⟨zi_12, zh⟩ := zh
      refine vr_iaload dX9_add_33 zs_10 zi_12 ?_
      refine vr_iconst dX9_add_34 (v := (1 : Int32)) (by decide) ?_
      refine vr_isub dX9_add_35 ?_
      refine vr_istore dX9_add_36 (Nat.le_of_ble_eq_true rfl) (vv_eq (ls' := [(0, .ref 148), (1, .long l1), (3, .long l3), (5, .int v5), (6, .int ((st_I s3 b7 v5.toNatClampNeg) - (1 : Int32)))]) rfl ?_)
      refine vr_iload dX9_add_38 rfl ?_
      refine vr_if_lt dX9_add_40 (tgt := 76) rfl (fun zd_13 => ?_) (fun zd_13 => ?_)
      · replace zh := zh.1 zd_13
        refine vr_aload_n dX9_add_76 rfl rfl ?_
        refine vr_getI dX9_add_77 fl_LitmusTester_StateTable_26 (wC_148 zw) rfl ?_
        refine vr_ldc dX9_add_80 (v := (1048576 : Int32)) tw_1192 ?_
        refine vr_ic_ge dX9_add_82 (tgt := 150) rfl (fun zd_14 => ?_) (fun zd_14 => ?_)
        · replace zh := zh.1 zd_14
          exact vr_vret dX9_add_150 rfl zh
        · replace zh := zh.2 zd_14
          refine vr_aload_n dX9_add_85 rfl rfl ?_
          refine vr_getI dX9_add_86 fl_LitmusTester_StateTable_26 (wC_148 zw) rfl ?_
          refine vr_aload_n dX9_add_89 rfl rfl ?_
          obtain ⟨b15, zb_16, zh⟩ := zh
          refine vr_getR dX9_add_90 fl_LitmusTester_StateTable_11 (wC_148 zw) (Or.inr ⟨_, rfl⟩) zb_16 ?_
          obtain ⟨n17, zs_18, zh⟩ := zh
          refine vr_alen dX9_add_93 zs_18 (Nat.le_of_ble_eq_true rfl) (Nat.le_of_ble_eq_true rfl) (v := (Int32.ofNat n17)) rfl ?_
          refine vr_ic_ge dX9_add_94 (tgt := 150) rfl (fun zd_19 => ?_) (fun zd_19 => ?_)
          · replace zh := zh.1 zd_19
            exact vr_vret dX9_add_150 rfl zh
          · replace zh := zh.2 zd_19
            refine vr_aload_n dX9_add_97 rfl rfl ?_
            refine vr_getI dX9_add_98 fl_LitmusTester_StateTable_26 (wC_148 zw) rfl ?_
            refine vr_aload_n dX9_add_101 rfl rfl ?_
            obtain ⟨b20, zb_21, zh⟩ := zh
            refine vr_getR dX9_add_102 fl_LitmusTester_StateTable_15 (wC_148 zw) (Or.inr ⟨_, rfl⟩) zb_21 ?_
            obtain ⟨n22, zs_23, zh⟩ := zh
            refine vr_alen dX9_add_105 zs_23 (Nat.le_of_ble_eq_true rfl) (Nat.le_of_ble_eq_true rfl) (v := (Int32.ofNat n22)) rfl ?_
            refine vr_ic_ge dX9_add_106 (tgt := 150) rfl (fun zd_24 => ?_) (fun zd_24 => ?_)
            · replace zh := zh.1 zd_24
              exact vr_vret dX9_add_150 rfl zh
            · replace zh := zh.2 zd_24
              refine vr_aload_n dX9_add_109 rfl rfl ?_
              refine vr_getR dX9_add_110 fl_LitmusTester_StateTable_11 (wC_148 zw) (Or.inr ⟨_, rfl⟩) zb_16 ?_
              refine vr_aload_n dX9_add_113 rfl rfl ?_
              refine vr_getI dX9_add_114 fl_LitmusTester_StateTable_26 (wC_148 zw) rfl ?_
              refine vr_lload_n dX9_add_117 rfl rfl ?_
              obtain ⟨zi_25, zh⟩ := zh
              refine vr_lastore dX9_add_118 zs_18 zi_25 ?_
              refine vr_aload_n dX9_add_119 rfl rfl ?_
              refine vr_getR dX9_add_120 fl_LitmusTester_StateTable_15 (wC_148 zw) (Or.inr ⟨_, rfl⟩) zb_21 ?_
              refine vr_aload_n dX9_add_123 rfl rfl ?_
              refine vr_getI dX9_add_124 fl_LitmusTester_StateTable_26 (wC_148 zw) rfl ?_
              refine vv_top (w := .int (st_I s3 148 4)) rfl ?_
              refine vr_lload_n dX9_add_127 rfl rfl ?_
              obtain ⟨zi_26, zh⟩ := zh
              refine vr_lastore dX9_add_128 zs_23 zi_26 ?_
              refine vr_aload_n dX9_add_129 rfl rfl ?_
              refine vr_dup dX9_add_130 rfl ?_
              refine vr_getI dX9_add_131 fl_LitmusTester_StateTable_26 (wC_148 zw) rfl ?_
              refine vv_top (w := .int (st_I s3 148 4)) rfl ?_
              refine vr_iconst dX9_add_134 (v := (1 : Int32)) (by decide) ?_
              refine vr_iadd dX9_add_135 ?_
              refine vr_putI dX9_add_136 fl_LitmusTester_StateTable_26 (wC_148 zw) rfl (fz_8_4) ?_
              refine vr_aload_n dX9_add_139 rfl rfl ?_
              refine vr_getR dX9_add_140 fl_LitmusTester_StateTable_18 (wC_148 zw) (Or.inr ⟨_, rfl⟩) zb_8 ?_
              refine vr_iload dX9_add_143 rfl ?_
              refine vr_aload_n dX9_add_145 rfl rfl ?_
              refine vr_getI dX9_add_146 fl_LitmusTester_StateTable_26 (wC_148 zw) rfl ?_
              refine vv_top (w := .int ((st_I s3 148 4) + (1 : Int32))) rfl ?_
              obtain ⟨zi_27, zh⟩ := zh
              refine vr_iastore dX9_add_149 zs_10 zi_27 ?_
              exact vr_vret dX9_add_150 rfl zh
      · replace zh := zh.2 zd_13
        refine vr_iload dX9_add_43 rfl ?_
        refine vr_aload_n dX9_add_45 rfl rfl ?_
        refine vr_getI dX9_add_46 fl_LitmusTester_StateTable_26 (wC_148 zw) rfl ?_
        refine vr_ic_ge dX9_add_49 (tgt := 76) rfl (fun zd_28 => ?_) (fun zd_28 => ?_)
        · replace zh := zh.1 zd_28
          refine vr_aload_n dX9_add_76 rfl rfl ?_
          refine vr_getI dX9_add_77 fl_LitmusTester_StateTable_26 (wC_148 zw) rfl ?_
          refine vr_ldc dX9_add_80 (v := (1048576 : Int32)) tw_1192 ?_
          refine vr_ic_ge dX9_add_82 (tgt := 150) rfl (fun zd_29 => ?_) (fun zd_29 => ?_)
          · replace zh := zh.1 zd_29
            exact vr_vret dX9_add_150 rfl zh
          · replace zh := zh.2 zd_29
            refine vr_aload_n dX9_add_85 rfl rfl ?_
            refine vr_getI dX9_add_86 fl_LitmusTester_StateTable_26 (wC_148 zw) rfl ?_
            refine vr_aload_n dX9_add_89 rfl rfl ?_
            obtain ⟨b30, zb_31, zh⟩ := zh
            refine vr_getR dX9_add_90 fl_LitmusTester_StateTable_11 (wC_148 zw) (Or.inr ⟨_, rfl⟩) zb_31 ?_
            obtain ⟨n32, zs_33, zh⟩ := zh
            refine vr_alen dX9_add_93 zs_33 (Nat.le_of_ble_eq_true rfl) (Nat.le_of_ble_eq_true rfl) (v := (Int32.ofNat n32)) rfl ?_
            refine vr_ic_ge dX9_add_94 (tgt := 150) rfl (fun zd_34 => ?_) (fun zd_34 => ?_)
            · replace zh := zh.1 zd_34
              exact vr_vret dX9_add_150 rfl zh
            · replace zh := zh.2 zd_34
              refine vr_aload_n dX9_add_97 rfl rfl ?_
              refine vr_getI dX9_add_98 fl_LitmusTester_StateTable_26 (wC_148 zw) rfl ?_
              refine vr_aload_n dX9_add_101 rfl rfl ?_
              obtain ⟨b35, zb_36, zh⟩ := zh
              refine vr_getR dX9_add_102 fl_LitmusTester_StateTable_15 (wC_148 zw) (Or.inr ⟨_, rfl⟩) zb_36 ?_
              obtain ⟨n37, zs_38, zh⟩ := zh
              refine vr_alen dX9_add_105 zs_38 (Nat.le_of_ble_eq_true rfl) (Nat.le_of_ble_eq_true rfl) (v := (Int32.ofNat n37)) rfl ?_
              refine vr_ic_ge dX9_add_106 (tgt := 150) rfl (fun zd_39 => ?_) (fun zd_39 => ?_)
              · replace zh := zh.1 zd_39
                exact vr_vret dX9_add_150 rfl zh
              · replace zh := zh.2 zd_39
                refine vr_aload_n dX9_add_109 rfl rfl ?_
                refine vr_getR dX9_add_110 fl_LitmusTester_StateTable_11 (wC_148 zw) (Or.inr ⟨_, rfl⟩) zb_31 ?_
                refine vr_aload_n dX9_add_113 rfl rfl ?_
                refine vr_getI dX9_add_114 fl_LitmusTester_StateTable_26 (wC_148 zw) rfl ?_
                refine vr_lload_n dX9_add_117 rfl rfl ?_
                obtain ⟨zi_40, zh⟩ := zh
                refine vr_lastore dX9_add_118 zs_33 zi_40 ?_
                refine vr_aload_n dX9_add_119 rfl rfl ?_
                refine vr_getR dX9_add_120 fl_LitmusTester_StateTable_15 (wC_148 zw) (Or.inr ⟨_, rfl⟩) zb_36 ?_
                refine vr_aload_n dX9_add_123 rfl rfl ?_
                refine vr_getI dX9_add_124 fl_LitmusTester_StateTable_26 (wC_148 zw) rfl ?_
                refine vv_top (w := .int (st_I s3 148 4)) rfl ?_
                refine vr_lload_n dX9_add_127 rfl rfl ?_
                obtain ⟨zi_41, zh⟩ := zh
                refine vr_lastore dX9_add_128 zs_38 zi_41 ?_
                refine vr_aload_n dX9_add_129 rfl rfl ?_
                refine vr_dup dX9_add_130 rfl ?_
                refine vr_getI dX9_add_131 fl_LitmusTester_StateTable_26 (wC_148 zw) rfl ?_
                refine vv_top (w := .int (st_I s3 148 4)) rfl ?_
                refine vr_iconst dX9_add_134 (v := (1 : Int32)) (by decide) ?_
                refine vr_iadd dX9_add_135 ?_
                refine vr_putI dX9_add_136 fl_LitmusTester_StateTable_26 (wC_148 zw) rfl (fz_8_4) ?_
                refine vr_aload_n dX9_add_139 rfl rfl ?_
                refine vr_getR dX9_add_140 fl_LitmusTester_StateTable_18 (wC_148 zw) (Or.inr ⟨_, rfl⟩) zb_8 ?_
                refine vr_iload dX9_add_143 rfl ?_
                refine vr_aload_n dX9_add_145 rfl rfl ?_
                refine vr_getI dX9_add_146 fl_LitmusTester_StateTable_26 (wC_148 zw) rfl ?_
                refine vv_top (w := .int ((st_I s3 148 4) + (1 : Int32))) rfl ?_
                obtain ⟨zi_42, zh⟩ := zh
                refine vr_iastore dX9_add_149 zs_10 zi_42 ?_
                exact vr_vret dX9_add_150 rfl zh
        · replace zh := zh.2 zd_28
          refine vr_iload dX9_add_52 rfl ?_
          refine vr_aload_n dX9_add_54 rfl rfl ?_
          obtain ⟨b43, zb_44, zh⟩ := zh
          refine vr_getR dX9_add_55 fl_LitmusTester_StateTable_15 (wC_148 zw) (Or.inr ⟨_, rfl⟩) zb_44 ?_
          obtain ⟨n45, zs_46, zh⟩ := zh
          refine vr_alen dX9_add_58 zs_46 (Nat.le_of_ble_eq_true rfl) (Nat.le_of_ble_eq_true rfl) (v := (Int32.ofNat n45)) rfl ?_
          refine vr_ic_ge dX9_add_59 (tgt := 76) rfl (fun zd_47 => ?_) (fun zd_47 => ?_)
          · replace zh := zh.1 zd_47
            refine vr_aload_n dX9_add_76 rfl rfl ?_
            refine vr_getI dX9_add_77 fl_LitmusTester_StateTable_26 (wC_148 zw) rfl ?_
            refine vr_ldc dX9_add_80 (v := (1048576 : Int32)) tw_1192 ?_
            refine vr_ic_ge dX9_add_82 (tgt := 150) rfl (fun zd_48 => ?_) (fun zd_48 => ?_)
            · replace zh := zh.1 zd_48
              exact vr_vret dX9_add_150 rfl zh
            · replace zh := zh.2 zd_48
              refine vr_aload_n dX9_add_85 rfl rfl ?_
              refine vr_getI dX9_add_86 fl_LitmusTester_StateTable_26 (wC_148 zw) rfl ?_
              refine vr_aload_n dX9_add_89 rfl rfl ?_
              obtain ⟨b49, zb_50, zh⟩ := zh
              refine vr_getR dX9_add_90 fl_LitmusTester_StateTable_11 (wC_148 zw) (Or.inr ⟨_, rfl⟩) zb_50 ?_
              obtain ⟨n51, zs_52, zh⟩ := zh
              refine vr_alen dX9_add_93 zs_52 (Nat.le_of_ble_eq_true rfl) (Nat.le_of_ble_eq_true rfl) (v := (Int32.ofNat n51)) rfl ?_
              refine vr_ic_ge dX9_add_94 (tgt := 150) rfl (fun zd_53 => ?_) (fun zd_53 => ?_)
              · replace zh := zh.1 zd_53
                exact vr_vret dX9_add_150 rfl zh
              · replace zh := zh.2 zd_53
                refine vr_aload_n dX9_add_97 rfl rfl ?_
                refine vr_getI dX9_add_98 fl_LitmusTester_StateTable_26 (wC_148 zw) rfl ?_
                refine vr_aload_n dX9_add_101 rfl rfl ?_
                refine vr_getR dX9_add_102 fl_LitmusTester_StateTable_15 (wC_148 zw) (Or.inr ⟨_, rfl⟩) zb_44 ?_
                refine vr_alen dX9_add_105 zs_46 (Nat.le_of_ble_eq_true rfl) (Nat.le_of_ble_eq_true rfl) (v := (Int32.ofNat n45)) rfl ?_
                refine vr_ic_ge dX9_add_106 (tgt := 150) rfl (fun zd_54 => ?_) (fun zd_54 => ?_)
                · replace zh := zh.1 zd_54
                  exact vr_vret dX9_add_150 rfl zh
                · replace zh := zh.2 zd_54
                  refine vr_aload_n dX9_add_109 rfl rfl ?_
                  refine vr_getR dX9_add_110 fl_LitmusTester_StateTable_11 (wC_148 zw) (Or.inr ⟨_, rfl⟩) zb_50 ?_
                  refine vr_aload_n dX9_add_113 rfl rfl ?_
                  refine vr_getI dX9_add_114 fl_LitmusTester_StateTable_26 (wC_148 zw) rfl ?_
                  refine vr_lload_n dX9_add_117 rfl rfl ?_
                  obtain ⟨zi_55, zh⟩ := zh
                  refine vr_lastore dX9_add_118 zs_52 zi_55 ?_
                  refine vr_aload_n dX9_add_119 rfl rfl ?_
                  refine vr_getR dX9_add_120 fl_LitmusTester_StateTable_15 (wC_148 zw) (Or.inr ⟨_, rfl⟩) zb_44 ?_
                  refine vr_aload_n dX9_add_123 rfl rfl ?_
                  refine vr_getI dX9_add_124 fl_LitmusTester_StateTable_26 (wC_148 zw) rfl ?_
                  refine vv_top (w := .int (st_I s3 148 4)) rfl ?_
                  refine vr_lload_n dX9_add_127 rfl rfl ?_
                  obtain ⟨zi_56, zh⟩ := zh
                  refine vr_lastore dX9_add_128 zs_46 zi_56 ?_
                  refine vr_aload_n dX9_add_129 rfl rfl ?_
                  refine vr_dup dX9_add_130 rfl ?_
                  refine vr_getI dX9_add_131 fl_LitmusTester_StateTable_26 (wC_148 zw) rfl ?_
                  refine vv_top (w := .int (st_I s3 148 4)) rfl ?_
                  refine vr_iconst dX9_add_134 (v := (1 : Int32)) (by decide) ?_
                  refine vr_iadd dX9_add_135 ?_
                  refine vr_putI dX9_add_136 fl_LitmusTester_StateTable_26 (wC_148 zw) rfl (fz_8_4) ?_
                  refine vr_aload_n dX9_add_139 rfl rfl ?_
                  refine vr_getR dX9_add_140 fl_LitmusTester_StateTable_18 (wC_148 zw) (Or.inr ⟨_, rfl⟩) zb_8 ?_
                  refine vr_iload dX9_add_143 rfl ?_
                  refine vr_aload_n dX9_add_145 rfl rfl ?_
                  refine vr_getI dX9_add_146 fl_LitmusTester_StateTable_26 (wC_148 zw) rfl ?_
                  refine vv_top (w := .int ((st_I s3 148 4) + (1 : Int32))) rfl ?_
                  obtain ⟨zi_57, zh⟩ := zh
                  refine vr_iastore dX9_add_149 zs_10 zi_57 ?_
                  exact vr_vret dX9_add_150 rfl zh
          · replace zh := zh.2 zd_47
            refine vr_aload_n dX9_add_62 rfl rfl ?_
            refine vr_getR dX9_add_63 fl_LitmusTester_StateTable_15 (wC_148 zw) (Or.inr ⟨_, rfl⟩) zb_44 ?_
            refine vr_iload dX9_add_66 rfl ?_
            refine vr_dup2 dX9_add_68 rfl rfl ?_
            obtain ⟨zi_58, zh⟩ := zh
            refine vr_laload dX9_add_69 zs_46 zi_58 ?_
            refine vr_lload_n dX9_add_70 rfl rfl ?_
            refine vr_ladd dX9_add_71 ?_
            obtain ⟨zi_59, zh⟩ := zh
            refine vr_lastore dX9_add_72 zs_46 zi_59 ?_
            refine vr_goto dX9_add_73 (tgt := 150) rfl ?_
            exact vr_vret dX9_add_150 rfl zh
    · replace zh := zh.2 zd_11
      exact vr_vret dX9_add_26 rfl zh
theorem e_X9_add {γ : ga_T} {l1 : Int64} {l3 : Int64} {σ : st_T} {Q : rs_T → st_T → Prop} (zw : Wd σ) (zh : p_X9_add_0 γ l1 l3 σ Q) : sp_ γ m_X9_add 3 [.ref 148, .long l1, .long l3] σ Q := sp_of (pl_X9_add) rfl (Nat.le_of_ble_eq_true rfl) (g_X9_add_0 zw zh)
def p_X9_makeRoom_0 (γ : ga_T) (σ : st_T) (Q : rs_T → st_T → Prop) : Prop :=
  ((1048576 : Int32) ≤ (st_I σ 148 4) →
    Q (.inl none) σ
  ) ∧ (¬ (1048576 : Int32) ≤ (st_I σ 148 4) →
    (((st_I σ 148 3) / (2 : Int32)) ≤ (st_I σ 148 4) →
      ∃ b3, st_R σ 148 0 = some b3 ∧
      ∃ n5, st_S σ b3 = (22, n5) ∧
      ((st_I σ 148 4) < (Int32.ofNat n5) →
        ∃ s8, Wd s8 ∧ fw_ γ m_X9_useSlots 0 [.ref 148, .int ((2 : Int32) * (st_I σ 148 3))] σ s8 ∧
        vv_ γ m_X9_makeRoom 2 81 [(0, .ref 148), (1, .int (0 : Int32))] [] s8 Q
      ) ∧ (¬ (st_I σ 148 4) < (Int32.ofNat n5) →
        ∃ (v12 : Nat) (s10 : st_T), Wd s10 ∧ fn_ γ m_J7_copyOf_c38d5 1 [.ref b3, .int ((2 : Int32) * (st_I σ 148 4))] σ (.ref v12) s10 ∧
        ∃ b14, st_R (pt_R s10 148 0 (some v12)) 148 1 = some b14 ∧
        ∃ (v18 : Nat) (s16 : st_T), Wd s16 ∧ fn_ γ m_J7_copyOf_c38d5 1 [.ref b14, .int ((2 : Int32) * (st_I s10 148 4))] (pt_R s10 148 0 (some v12)) (.ref v18) s16 ∧
        ∃ s20, Wd s20 ∧ fw_ γ m_X9_useSlots 0 [.ref 148, .int ((2 : Int32) * (st_I s16 148 3))] (pt_R s16 148 1 (some v18)) s20 ∧
        vv_ γ m_X9_makeRoom 2 81 [(0, .ref 148), (1, .int (0 : Int32))] [] s20 Q
      )
    ) ∧ (¬ ((st_I σ 148 3) / (2 : Int32)) ≤ (st_I σ 148 4) →
      Q (.inl none) σ
    )
  )
set_option maxRecDepth 10000 in
theorem g_X9_makeRoom_0 {γ : ga_T} {σ : st_T} {Q : rs_T → st_T → Prop} (zw : Wd σ) (zh : p_X9_makeRoom_0 γ σ Q) : vv_ γ m_X9_makeRoom 2 0 [(0, .ref 148)] [] σ Q := by
  unfold p_X9_makeRoom_0 at zh
  refine vr_aload_n dX9_makeRoom_0 rfl rfl ?_
  refine vr_getI dX9_makeRoom_1 fl_LitmusTester_StateTable_26 (wC_148 zw) rfl ?_
  refine vr_ldc dX9_makeRoom_4 (v := (1048576 : Int32)) tw_1192 ?_
  refine vr_ic_ge dX9_makeRoom_6 (tgt := 22) rfl (fun zd_1 => ?_) (fun zd_1 => ?_)
  · replace zh := zh.1 zd_1
    exact vr_vret dX9_makeRoom_22 rfl zh
  · replace zh := zh.2 zd_1
    refine vr_aload_n dX9_makeRoom_9 rfl rfl ?_
    refine vr_getI dX9_makeRoom_10 fl_LitmusTester_StateTable_26 (wC_148 zw) rfl ?_
    refine vr_aload_n dX9_makeRoom_13 rfl rfl ?_
    refine vr_getI dX9_makeRoom_14 fl_LitmusTester_StateTable_22 (wC_148 zw) rfl ?_
    refine vr_iconst dX9_makeRoom_17 (v := (2 : Int32)) (by decide) ?_
    refine vr_idiv dX9_makeRoom_18 (by decide) ?_
    refine vr_ic_ge dX9_makeRoom_19 (tgt := 23) rfl (fun zd_2 => ?_) (fun zd_2 => ?_)
    · replace zh := zh.1 zd_2
      refine vr_aload_n dX9_makeRoom_23 rfl rfl ?_
      refine vr_getI dX9_makeRoom_24 fl_LitmusTester_StateTable_26 (wC_148 zw) rfl ?_
      refine vr_aload_n dX9_makeRoom_27 rfl rfl ?_
      obtain ⟨b3, zb_4, zh⟩ := zh
      refine vr_getR dX9_makeRoom_28 fl_LitmusTester_StateTable_11 (wC_148 zw) (Or.inr ⟨_, rfl⟩) zb_4 ?_
      obtain ⟨n5, zs_6, zh⟩ := zh
      refine vr_alen dX9_makeRoom_31 zs_6 (Nat.le_of_ble_eq_true rfl) (Nat.le_of_ble_eq_true rfl) (v := (Int32.ofNat n5)) rfl ?_
      refine vr_ic_lt dX9_makeRoom_32 (tgt := 69) rfl (fun zd_7 => ?_) (fun zd_7 => ?_)
      · replace zh := zh.1 zd_7
        refine vr_aload_n dX9_makeRoom_69 rfl rfl ?_
        refine vr_iconst dX9_makeRoom_70 (v := (2 : Int32)) (by decide) ?_
        refine vr_aload_n dX9_makeRoom_71 rfl rfl ?_
        refine vr_getI dX9_makeRoom_72 fl_LitmusTester_StateTable_22 (wC_148 zw) rfl ?_
        refine vr_imul dX9_makeRoom_75 ?_
        obtain ⟨s8, zw1, zf_9, zh⟩ := zh
        refine vc_V (As := [.int ((2 : Int32) * (st_I σ 148 3))]) (rest := []) dX9_makeRoom_76 cV_LitmusTester_StateTable_29 (wC_148 zw) rfl rfl (Nat.le_of_ble_eq_true rfl) (Nat.le_of_ble_eq_true rfl) (co_v zf_9 ?_)
        replace zw := zw1
        refine vr_iconst dX9_makeRoom_79 (v := (0 : Int32)) (by decide) ?_
        refine vr_istore_n dX9_makeRoom_80 rfl (Nat.le_of_ble_eq_true rfl) (vv_eq (ls' := [(0, .ref 148), (1, .int (0 : Int32))]) rfl ?_)
        exact vv_sub (ls' := [(0, .ref 148), (1, .int (0 : Int32))]) ⟨rfl, rfl, trivial⟩ zh
      · replace zh := zh.2 zd_7
        refine vr_aload_n dX9_makeRoom_35 rfl rfl ?_
        refine vr_aload_n dX9_makeRoom_36 rfl rfl ?_
        refine vr_getR dX9_makeRoom_37 fl_LitmusTester_StateTable_11 (wC_148 zw) (Or.inr ⟨_, rfl⟩) zb_4 ?_
        refine vr_iconst dX9_makeRoom_40 (v := (2 : Int32)) (by decide) ?_
        refine vr_aload_n dX9_makeRoom_41 rfl rfl ?_
        refine vr_getI dX9_makeRoom_42 fl_LitmusTester_StateTable_26 (wC_148 zw) rfl ?_
        refine vr_imul dX9_makeRoom_45 ?_
        obtain ⟨v12, s10, zw1, zf_11, zh⟩ := zh
        refine vc_S (As := [.ref b3, .int ((2 : Int32) * (st_I σ 148 4))]) (rest := [.ref 148]) dX9_makeRoom_46 cS_LitmusTester_StateTable_49 rfl rfl (Nat.le_of_ble_eq_true rfl) (Nat.le_of_ble_eq_true rfl) (co_n zf_11 ?_)
        replace zw := zw1
        refine vr_putR dX9_makeRoom_49 fl_LitmusTester_StateTable_11 (wC_148 zw) (Or.inr ⟨_, rfl⟩) (fun q e => Or.inl (fz_8_0 q e)) ?_
        replace zw := Wd_R (v := some v12) zw (wN_148_0)
        replace zw : Wd (pt_R s10 148 0 (some v12)) := zw
        refine vr_aload_n dX9_makeRoom_52 rfl rfl ?_
        refine vr_aload_n dX9_makeRoom_53 rfl rfl ?_
        obtain ⟨b14, zb_15, zh⟩ := zh
        refine vr_getR dX9_makeRoom_54 fl_LitmusTester_StateTable_15 (wC_148 zw) (Or.inr ⟨_, rfl⟩) zb_15 ?_
        refine vr_iconst dX9_makeRoom_57 (v := (2 : Int32)) (by decide) ?_
        refine vr_aload_n dX9_makeRoom_58 rfl rfl ?_
        refine vr_getI dX9_makeRoom_59 fl_LitmusTester_StateTable_26 (wC_148 zw) rfl ?_
        refine vv_top (w := .int (st_I s10 148 4)) rfl ?_
        refine vr_imul dX9_makeRoom_62 ?_
        obtain ⟨v18, s16, zw1, zf_17, zh⟩ := zh
        refine vc_S (As := [.ref b14, .int ((2 : Int32) * (st_I s10 148 4))]) (rest := [.ref 148]) dX9_makeRoom_63 cS_LitmusTester_StateTable_49 rfl rfl (Nat.le_of_ble_eq_true rfl) (Nat.le_of_ble_eq_true rfl) (co_n zf_17 ?_)
        replace zw := zw1
        refine vr_putR dX9_makeRoom_66 fl_LitmusTester_StateTable_15 (wC_148 zw) (Or.inr ⟨_, rfl⟩) (fun q e => Or.inl (fz_8_1 q e)) ?_
        replace zw := Wd_R (v := some v18) zw (wN_148_1)
        replace zw : Wd (pt_R s16 148 1 (some v18)) := zw
        refine vr_aload_n dX9_makeRoom_69 rfl rfl ?_
        refine vr_iconst dX9_makeRoom_70 (v := (2 : Int32)) (by decide) ?_
        refine vr_aload_n dX9_makeRoom_71 rfl rfl ?_
        refine vr_getI dX9_makeRoom_72 fl_LitmusTester_StateTable_22 (wC_148 zw) rfl ?_
        refine vv_top (w := .int (st_I s16 148 3)) rfl ?_
        refine vr_imul dX9_makeRoom_75 ?_
        obtain ⟨s20, zw1, zf_21, zh⟩ := zh
        refine vc_V (As := [.int ((2 : Int32) * (st_I s16 148 3))]) (rest := []) dX9_makeRoom_76 cV_LitmusTester_StateTable_29 (wC_148 zw) rfl rfl (Nat.le_of_ble_eq_true rfl) (Nat.le_of_ble_eq_true rfl) (co_v zf_21 ?_)
        replace zw := zw1
        refine vr_iconst dX9_makeRoom_79 (v := (0 : Int32)) (by decide) ?_
        refine vr_istore_n dX9_makeRoom_80 rfl (Nat.le_of_ble_eq_true rfl) (vv_eq (ls' := [(0, .ref 148), (1, .int (0 : Int32))]) rfl ?_)
        exact vv_sub (ls' := [(0, .ref 148), (1, .int (0 : Int32))]) ⟨rfl, rfl, trivial⟩ zh
    · replace zh := zh.2 zd_2
      exact vr_vret dX9_makeRoom_22 rfl zh
theorem e_X9_makeRoom {γ : ga_T} {σ : st_T} {Q : rs_T → st_T → Prop} (zw : Wd σ) (zh : p_X9_makeRoom_0 γ σ Q) : sp_ γ m_X9_makeRoom 2 [.ref 148] σ Q := sp_of (pl_X9_makeRoom) rfl (Nat.le_of_ble_eq_true rfl) (g_X9_makeRoom_0 zw zh)
def p_X9_makeRoom_81 (γ : ga_T) (l1 : Int32) (σ : st_T) (Q : rs_T → st_T → Prop) : Prop :=
  ((st_I σ 148 4) ≤ l1 →
    Q (.inl none) σ
  ) ∧ (¬ (st_I σ 148 4) ≤ l1 →
    ∃ (v4 : Int64) (s2 : st_T), Wd s2 ∧ fn_ γ m_X9_stateAt 0 [.ref 148, .int l1] σ (.long v4) s2 ∧
    ∃ (v7 : Int32) (s5 : st_T), Wd s5 ∧ fn_ γ m_X9_slotOf 1 [.ref 148, .long v4] s2 (.int v7) s5 ∧
    (v7 < (0 : Int32) →
      vv_ γ m_X9_makeRoom 2 81 [(0, .ref 148), (1, .int (l1 + 1))] [] s5 Q
    ) ∧ (¬ v7 < (0 : Int32) →
      ∃ b9, st_R s5 148 2 = some b9 ∧
      ∃ n11, st_S s5 b9 = (21, n11) ∧
      ((Int32.ofNat n11) ≤ v7 →
        vv_ γ m_X9_makeRoom 2 81 [(0, .ref 148), (1, .int (l1 + 1))] [] s5 Q
      ) ∧ (¬ (Int32.ofNat n11) ≤ v7 →
        vp_in v7 n11 ∧
        vv_ γ m_X9_makeRoom 2 81 [(0, .ref 148), (1, .int (l1 + 1))] [] (pt_I s5 b9 v7.toNatClampNeg (l1 + (1 : Int32))) Q
      )
    )
  )
set_option maxRecDepth 10000 in
theorem g_X9_makeRoom_81 {γ : ga_T} {l1 : Int32} {σ : st_T} {Q : rs_T → st_T → Prop} (zw : Wd σ) (zh : p_X9_makeRoom_81 γ l1 σ Q) : vv_ γ m_X9_makeRoom 2 81 [(0, .ref 148), (1, .int l1)] [] σ Q := by
  unfold p_X9_makeRoom_81 at zh
  refine vr_iload_n dX9_makeRoom_81 rfl rfl ?_
  refine vr_aload_n dX9_makeRoom_82 rfl rfl ?_
  refine vr_getI dX9_makeRoom_83 fl_LitmusTester_StateTable_26 (wC_148 zw) rfl ?_
  refine vr_ic_ge dX9_makeRoom_86 (tgt := 127) rfl (fun zd_1 => ?_) (fun zd_1 => ?_)
  · replace zh := zh.1 zd_1
    exact vr_vret dX9_makeRoom_127 rfl zh
  · replace zh := zh.2 zd_1
    refine vr_aload_n dX9_makeRoom_89 rfl rfl ?_
    refine vr_aload_n dX9_makeRoom_90 rfl rfl ?_
    refine vr_iload_n dX9_makeRoom_91 rfl rfl ?_
    obtain ⟨v4, s2, zw1, zf_3, zh⟩ := zh
    refine vc_V (As := [.int l1]) (rest := [.ref 148]) dX9_makeRoom_92 cV_LitmusTester_StateTable_37 (wC_148 zw) rfl rfl (Nat.le_of_ble_eq_true rfl) (Nat.le_of_ble_eq_true rfl) (co_n zf_3 ?_)
    replace zw := zw1
    obtain ⟨v7, s5, zw1, zf_6, zh⟩ := zh
    refine vc_V (As := [.long v4]) (rest := []) dX9_makeRoom_95 cV_LitmusTester_StateTable_41 (wC_148 zw) rfl rfl (Nat.le_of_ble_eq_true rfl) (Nat.le_of_ble_eq_true rfl) (co_n zf_6 ?_)
    replace zw := zw1
    refine vr_istore_n dX9_makeRoom_98 rfl (Nat.le_of_ble_eq_true rfl) (vv_eq (ls' := [(0, .ref 148), (1, .int l1), (2, .int v7)]) rfl ?_)
    refine vr_iload_n dX9_makeRoom_99 rfl rfl ?_
    refine vr_if_lt dX9_makeRoom_100 (tgt := 121) rfl (fun zd_8 => ?_) (fun zd_8 => ?_)
    · replace zh := zh.1 zd_8
      refine vr_iinc dX9_makeRoom_121 (x := l1) (v := (l1 + 1)) rfl (ii_ (by decide)) (Nat.le_of_ble_eq_true rfl) (vv_eq (ls' := [(0, .ref 148), (1, .int (l1 + 1)), (2, .int v7)]) rfl ?_)
      refine vr_goto dX9_makeRoom_124 (tgt := 81) rfl ?_
      exact vv_sub (ls' := [(0, .ref 148), (1, .int (l1 + 1))]) ⟨rfl, rfl, trivial⟩ zh
    · replace zh := zh.2 zd_8
      refine vr_iload_n dX9_makeRoom_103 rfl rfl ?_
      refine vr_aload_n dX9_makeRoom_104 rfl rfl ?_
      obtain ⟨b9, zb_10, zh⟩ := zh
      refine vr_getR dX9_makeRoom_105 fl_LitmusTester_StateTable_18 (wC_148 zw) (Or.inr ⟨_, rfl⟩) zb_10 ?_
      obtain ⟨n11, zs_12, zh⟩ := zh
      refine vr_alen dX9_makeRoom_108 zs_12 (Nat.le_of_ble_eq_true rfl) (Nat.le_of_ble_eq_true rfl) (v := (Int32.ofNat n11)) rfl ?_
      refine vr_ic_ge dX9_makeRoom_109 (tgt := 121) rfl (fun zd_13 => ?_) (fun zd_13 => ?_)
      · replace zh := zh.1 zd_13
        refine vr_iinc dX9_makeRoom_121 (x := l1) (v := (l1 + 1)) rfl (ii_ (by decide)) (Nat.le_of_ble_eq_true rfl) (vv_eq (ls' := [(0, .ref 148), (1, .int (l1 + 1)), (2, .int v7)]) rfl ?_)
        refine vr_goto dX9_makeRoom_124 (tgt := 81) rfl ?_
        exact vv_sub (ls' := [(0, .ref 148), (1, .int (l1 + 1))]) ⟨rfl, rfl, trivial⟩ zh
      · replace zh := zh.2 zd_13
        refine vr_aload_n dX9_makeRoom_112 rfl rfl ?_
        refine vr_getR dX9_makeRoom_113 fl_LitmusTester_StateTable_18 (wC_148 zw) (Or.inr ⟨_, rfl⟩) zb_10 ?_
        refine vr_iload_n dX9_makeRoom_116 rfl rfl ?_
        refine vr_iload_n dX9_makeRoom_117 rfl rfl ?_
        refine vr_iconst dX9_makeRoom_118 (v := (1 : Int32)) (by decide) ?_
        refine vr_iadd dX9_makeRoom_119 ?_
        obtain ⟨zi_14, zh⟩ := zh
        refine vr_iastore dX9_makeRoom_120 zs_12 zi_14 ?_
        refine vr_iinc dX9_makeRoom_121 (x := l1) (v := (l1 + 1)) rfl (ii_ (by decide)) (Nat.le_of_ble_eq_true rfl) (vv_eq (ls' := [(0, .ref 148), (1, .int (l1 + 1)), (2, .int v7)]) rfl ?_)
        refine vr_goto dX9_makeRoom_124 (tgt := 81) rfl ?_
        exact vv_sub (ls' := [(0, .ref 148), (1, .int (l1 + 1))]) ⟨rfl, rfl, trivial⟩ zh
