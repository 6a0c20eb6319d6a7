def p_X5_clear_0 (γ : ga_T) (σ : st_T) (Q : rs_T → st_T → Prop) : Prop :=
  Q (.inl none) (pt_I σ 130 1 (0 : Int32))
set_option maxRecDepth 10000 in
theorem g_X5_clear_0 {γ : ga_T} {σ : st_T} {Q : rs_T → st_T → Prop} (zw : Wd σ) (zh : p_X5_clear_0 γ σ Q) : vv_ γ m_X5_clear 0 0 [(0, .ref 130)] [] σ Q := by
  unfold p_X5_clear_0 at zh
  refine vr_aload_n dX5_clear_0 rfl rfl ?_
  refine vr_iconst dX5_clear_1 (v := (0 : Int32)) (by decide) ?_
  refine vr_putI dX5_clear_2 fl_LitmusTester_Output_15 (wC_130 zw) rfl (fz_5_1) ?_
  exact vr_vret dX5_clear_5 rfl zh
theorem e_X5_clear {γ : ga_T} {σ : st_T} {Q : rs_T → st_T → Prop} (zw : Wd σ) (zh : p_X5_clear_0 γ σ Q) : sp_ γ m_X5_clear 0 [.ref 130] σ Q := sp_of (pl_X5_clear) rfl (Nat.le_of_ble_eq_true rfl) (g_X5_clear_0 zw zh)
def p_X5_length_0 (γ : ga_T) (σ : st_T) (Q : rs_T → st_T → Prop) : Prop :=
  Q (.inl (some (.int (st_I σ 130 1)))) σ
set_option maxRecDepth 10000 in
theorem g_X5_length_0 {γ : ga_T} {σ : st_T} {Q : rs_T → st_T → Prop} (zw : Wd σ) (zh : p_X5_length_0 γ σ Q) : vv_ γ m_X5_length 0 0 [(0, .ref 130)] [] σ Q := by
  unfold p_X5_length_0 at zh
  refine vr_aload_n dX5_length_0 rfl rfl ?_
  refine vr_getI dX5_length_1 fl_LitmusTester_Output_15 (wC_130 zw) rfl ?_
  exact vr_iret dX5_length_4 rfl zh
theorem e_X5_length {γ : ga_T} {σ : st_T} {Q : rs_T → st_T → Prop} (zw : Wd σ) (zh : p_X5_length_0 γ σ Q) : sp_ γ m_X5_length 0 [.ref 130] σ Q := sp_of (pl_X5_length) rfl (Nat.le_of_ble_eq_true rfl) (g_X5_length_0 zw zh)
def p_X5_byteAt_0 (γ : ga_T) (l1 : Int32) (σ : st_T) (Q : rs_T → st_T → Prop) : Prop :=
  (l1 < (0 : Int32) →
    Q (.inl (some (.int (-1 : Int32)))) σ
  ) ∧ (¬ l1 < (0 : Int32) →
    ((320 : Int32) ≤ l1 →
      Q (.inl (some (.int (-1 : Int32)))) σ
    ) ∧ (¬ (320 : Int32) ≤ l1 →
      vp_in l1 320 ∧
      Q (.inl (some (.int (st_I σ 131 l1.toNatClampNeg)))) σ
    )
  )
set_option maxRecDepth 10000 in
theorem g_X5_byteAt_0 {γ : ga_T} {l1 : Int32} {σ : st_T} {Q : rs_T → st_T → Prop} (zw : Wd σ) (zh : p_X5_byteAt_0 γ l1 σ Q) : vv_ γ m_X5_byteAt 0 0 [(0, .ref 130), (1, .int l1)] [] σ Q := by
  unfold p_X5_byteAt_0 at zh
  refine vr_iload_n dX5_byteAt_0 rfl rfl ?_
  refine vr_if_lt dX5_byteAt_1 (tgt := 22) rfl (fun zd_1 => ?_) (fun zd_1 => ?_)
  · replace zh := zh.1 zd_1
    refine vr_iconst dX5_byteAt_22 (v := (-1 : Int32)) (by decide) ?_
    exact vr_iret dX5_byteAt_23 rfl zh
  · replace zh := zh.2 zd_1
    refine vr_iload_n dX5_byteAt_4 rfl rfl ?_
    refine vr_aload_n dX5_byteAt_5 rfl rfl ?_
    refine vr_getR dX5_byteAt_6 fl_LitmusTester_Output_9 (wC_130 zw) (Or.inr ⟨_, rfl⟩) (wR_130_0 zw) ?_
    refine vr_alen dX5_byteAt_9 (wS_131 zw) (Nat.le_of_ble_eq_true rfl) (Nat.le_of_ble_eq_true rfl) (v := (320 : Int32)) (by decide) ?_
    refine vr_ic_ge dX5_byteAt_10 (tgt := 22) rfl (fun zd_2 => ?_) (fun zd_2 => ?_)
    · replace zh := zh.1 zd_2
      refine vr_iconst dX5_byteAt_22 (v := (-1 : Int32)) (by decide) ?_
      exact vr_iret dX5_byteAt_23 rfl zh
    · replace zh := zh.2 zd_2
      refine vr_aload_n dX5_byteAt_13 rfl rfl ?_
      refine vr_getR dX5_byteAt_14 fl_LitmusTester_Output_9 (wC_130 zw) (Or.inr ⟨_, rfl⟩) (wR_130_0 zw) ?_
      refine vr_iload_n dX5_byteAt_17 rfl rfl ?_
      obtain ⟨zi_3, zh⟩ := zh
      refine vr_baload dX5_byteAt_18 (Or.inl (wS_131 zw)) zi_3 ?_
      refine vr_goto dX5_byteAt_19 (tgt := 23) rfl ?_
      exact vr_iret dX5_byteAt_23 rfl zh
theorem e_X5_byteAt {γ : ga_T} {l1 : Int32} {σ : st_T} {Q : rs_T → st_T → Prop} (zw : Wd σ) (zh : p_X5_byteAt_0 γ l1 σ Q) : sp_ γ m_X5_byteAt 0 [.ref 130, .int l1] σ Q := sp_of (pl_X5_byteAt) rfl (Nat.le_of_ble_eq_true rfl) (g_X5_byteAt_0 zw zh)
def p_X5_put_0 (γ : ga_T) (l1 : Int32) (σ : st_T) (Q : rs_T → st_T → Prop) : Prop :=
  ((st_I σ 130 1) < (0 : Int32) →
    Q (.inl none) σ
  ) ∧ (¬ (st_I σ 130 1) < (0 : Int32) →
    ((320 : Int32) ≤ (st_I σ 130 1) →
      Q (.inl none) σ
    ) ∧ (¬ (320 : Int32) ≤ (st_I σ 130 1) →
      vp_in (st_I σ 130 1) 320 ∧
      Q (.inl none) (pt_I (pt_I σ 131 (st_I σ 130 1).toNatClampNeg ((l1.toInt8.toInt32).toInt8.toInt32)) 130 1 ((st_I σ 130 1) + (1 : Int32)))
    )
  )
set_option maxRecDepth 10000 in
theorem g_X5_put_0 {γ : ga_T} {l1 : Int32} {σ : st_T} {Q : rs_T → st_T → Prop} (zw : Wd σ) (zh : p_X5_put_0 γ l1 σ Q) : vv_ γ m_X5_put 0 0 [(0, .ref 130), (1, .int l1)] [] σ Q := by
  unfold p_X5_put_0 at zh
  refine vr_aload_n dX5_put_0 rfl rfl ?_
  refine vr_getI dX5_put_1 fl_LitmusTester_Output_15 (wC_130 zw) rfl ?_
  refine vr_if_lt dX5_put_4 (tgt := 40) rfl (fun zd_1 => ?_) (fun zd_1 => ?_)
  · replace zh := zh.1 zd_1
    exact vr_vret dX5_put_40 rfl zh
  · replace zh := zh.2 zd_1
    refine vr_aload_n dX5_put_7 rfl rfl ?_
    refine vr_getI dX5_put_8 fl_LitmusTester_Output_15 (wC_130 zw) rfl ?_
    refine vr_aload_n dX5_put_11 rfl rfl ?_
    refine vr_getR dX5_put_12 fl_LitmusTester_Output_9 (wC_130 zw) (Or.inr ⟨_, rfl⟩) (wR_130_0 zw) ?_
    refine vr_alen dX5_put_15 (wS_131 zw) (Nat.le_of_ble_eq_true rfl) (Nat.le_of_ble_eq_true rfl) (v := (320 : Int32)) (by decide) ?_
    refine vr_ic_ge dX5_put_16 (tgt := 40) rfl (fun zd_2 => ?_) (fun zd_2 => ?_)
    · replace zh := zh.1 zd_2
      exact vr_vret dX5_put_40 rfl zh
    · replace zh := zh.2 zd_2
      refine vr_aload_n dX5_put_19 rfl rfl ?_
      refine vr_getR dX5_put_20 fl_LitmusTester_Output_9 (wC_130 zw) (Or.inr ⟨_, rfl⟩) (wR_130_0 zw) ?_
      refine vr_aload_n dX5_put_23 rfl rfl ?_
      refine vr_getI dX5_put_24 fl_LitmusTester_Output_15 (wC_130 zw) rfl ?_
      refine vr_iload_n dX5_put_27 rfl rfl ?_
      refine vr_i2b dX5_put_28 ?_
      obtain ⟨zi_3, zh⟩ := zh
      refine vr_bastoreB dX5_put_29 (wS_131 zw) zi_3 ?_
      refine vr_aload_n dX5_put_30 rfl rfl ?_
      refine vr_dup dX5_put_31 rfl ?_
      refine vr_getI dX5_put_32 fl_LitmusTester_Output_15 (wC_130 zw) rfl ?_
      refine vv_top (w := .int (st_I σ 130 1)) rfl ?_
      refine vr_iconst dX5_put_35 (v := (1 : Int32)) (by decide) ?_
      refine vr_iadd dX5_put_36 ?_
      refine vr_putI dX5_put_37 fl_LitmusTester_Output_15 (wC_130 zw) rfl (fz_5_1) ?_
      exact vr_vret dX5_put_40 rfl zh
theorem e_X5_put {γ : ga_T} {l1 : Int32} {σ : st_T} {Q : rs_T → st_T → Prop} (zw : Wd σ) (zh : p_X5_put_0 γ l1 σ Q) : sp_ γ m_X5_put 0 [.ref 130, .int l1] σ Q := sp_of (pl_X5_put) rfl (Nat.le_of_ble_eq_true rfl) (g_X5_put_0 zw zh)
def p_X5_putText_0 (γ : ga_T) (l1 : Nat) (σ : st_T) (Q : rs_T → st_T → Prop) : Prop :=
  vv_ γ m_X5_putText 13 2 [(0, .ref 130), (1, .ref (30 + l1)), (2, .int (0 : Int32))] [] σ Q
set_option maxRecDepth 10000 in
theorem g_X5_putText_0 {γ : ga_T} {l1 : Nat} {σ : st_T} {Q : rs_T → st_T → Prop} (zw : Wd σ) (zh : p_X5_putText_0 γ l1 σ Q) : vv_ γ m_X5_putText 13 0 [(0, .ref 130), (1, .ref (30 + l1))] [] σ Q := by
  unfold p_X5_putText_0 at zh
  refine vr_iconst dX5_putText_0 (v := (0 : Int32)) (by decide) ?_
  refine vr_istore_n dX5_putText_1 rfl (Nat.le_of_ble_eq_true rfl) (vv_eq (ls' := [(0, .ref 130), (1, .ref (30 + l1)), (2, .int (0 : Int32))]) rfl ?_)
  exact vv_sub (ls' := [(0, .ref 130), (1, .ref (30 + l1)), (2, .int (0 : Int32))]) ⟨rfl, rfl, rfl, trivial⟩ zh
theorem e_X5_putText {γ : ga_T} {l1 : Nat} {σ : st_T} {Q : rs_T → st_T → Prop} (zw : Wd σ) (zh : p_X5_putText_0 γ l1 σ Q) : sp_ γ m_X5_putText 13 [.ref 130, .ref (30 + l1)] σ Q := sp_of (pl_X5_putText) rfl (Nat.le_of_ble_eq_true rfl) (g_X5_putText_0 zw zh)
def p_X5_putText_2 (γ : ga_T) (l1 : Nat) (l2 : Int32) (σ : st_T) (Q : rs_T → st_T → Prop) : Prop :=
  l1 < 46 ∧
  ∃ (v4 : Int32) (s2 : st_T), Wd s2 ∧ fn_ γ m_J0_length_8abf5 1 [.ref (30 + l1)] σ (.int v4) s2 ∧
  (v4 ≤ l2 →
    Q (.inl none) s2
  ) ∧ (¬ v4 ≤ l2 →
    l1 < 46 ∧
    ∃ (v9 : Int32) (s7 : st_T), Wd s7 ∧ fn_ γ m_J0_charAt_5068e 12 [.ref (30 + l1), .int l2] s2 (.int v9) s7 ∧
    ∃ s10, Wd s10 ∧ fw_ γ m_X5_put 0 [.ref 130, .int v9] s7 s10 ∧
    vv_ γ m_X5_putText 13 2 [(0, .ref 130), (1, .ref (30 + l1)), (2, .int (l2 + 1))] [] s10 Q
  )
set_option maxRecDepth 10000 in
theorem g_X5_putText_2 {γ : ga_T} {l1 : Nat} {l2 : Int32} {σ : st_T} {Q : rs_T → st_T → Prop} (zw : Wd σ) (zh : p_X5_putText_2 γ l1 l2 σ Q) : vv_ γ m_X5_putText 13 2 [(0, .ref 130), (1, .ref (30 + l1)), (2, .int l2)] [] σ Q := by
  unfold p_X5_putText_2 at zh
  refine vr_iload_n dX5_putText_2 rfl rfl ?_
  refine vr_aload_n dX5_putText_3 rfl rfl ?_
  obtain ⟨zx_1, zh⟩ := zh
  obtain ⟨v4, s2, zw1, zf_3, zh⟩ := zh
  refine vc_T (As := []) (rest := [.int l2]) dX5_putText_4 cT_LitmusTester_Output_19 zx_1 rfl rfl (Nat.le_of_ble_eq_true rfl) (Nat.le_of_ble_eq_true rfl) (co_n zf_3 ?_)
  replace zw := zw1
  refine vr_ic_ge dX5_putText_7 (tgt := 25) rfl (fun zd_5 => ?_) (fun zd_5 => ?_)
  · replace zh := zh.1 zd_5
    exact vr_vret dX5_putText_25 rfl zh
  · replace zh := zh.2 zd_5
    refine vr_aload_n dX5_putText_10 rfl rfl ?_
    refine vr_aload_n dX5_putText_11 rfl rfl ?_
    refine vr_iload_n dX5_putText_12 rfl rfl ?_
    obtain ⟨zx_6, zh⟩ := zh
    obtain ⟨v9, s7, zw1, zf_8, zh⟩ := zh
    refine vc_T (As := [.int l2]) (rest := [.ref 130]) dX5_putText_13 cT_LitmusTester_Output_24 zx_6 rfl rfl (Nat.le_of_ble_eq_true rfl) (Nat.le_of_ble_eq_true rfl) (co_n zf_8 ?_)
    replace zw := zw1
    obtain ⟨s10, zw1, zf_11, zh⟩ := zh
    refine vc_V (As := [.int v9]) (rest := []) dX5_putText_16 cV_LitmusTester_Output_28 (wC_130 zw) rfl rfl (Nat.le_of_ble_eq_true rfl) (Nat.le_of_ble_eq_true rfl) (co_v zf_11 ?_)
    replace zw := zw1
    refine vr_iinc dX5_putText_19 (x := l2) (v := (l2 + 1)) rfl (ii_ (by decide)) (Nat.le_of_ble_eq_true rfl) (vv_eq (ls' := [(0, .ref 130), (1, .ref (30 + l1)), (2, .int (l2 + 1))]) rfl ?_)
    refine vr_goto dX5_putText_22 (tgt := 2) rfl ?_
    exact vv_sub (ls' := [(0, .ref 130), (1, .ref (30 + l1)), (2, .int (l2 + 1))]) ⟨rfl, rfl, rfl, trivial⟩ zh
def p_X5_putLine_0 (γ : ga_T) (l1 : Nat) (σ : st_T) (Q : rs_T → st_T → Prop) : Prop :=
  ∃ s1, Wd s1 ∧ fw_ γ m_X5_putText 13 [.ref 130, .ref (30 + l1)] σ s1 ∧
  ∃ s3, Wd s3 ∧ fw_ γ m_X5_put 0 [.ref 130, .int (59 : Int32)] s1 s3 ∧
  Q (.inl none) s3
set_option maxRecDepth 10000 in
theorem g_X5_putLine_0 {γ : ga_T} {l1 : Nat} {σ : st_T} {Q : rs_T → st_T → Prop} (zw : Wd σ) (zh : p_X5_putLine_0 γ l1 σ Q) : vv_ γ m_X5_putLine 14 0 [(0, .ref 130), (1, .ref (30 + l1))] [] σ Q := by
  unfold p_X5_putLine_0 at zh
  refine vr_aload_n dX5_putLine_0 rfl rfl ?_
  refine vr_aload_n dX5_putLine_1 rfl rfl ?_
  obtain ⟨s1, zw1, zf_2, zh⟩ := zh
  refine vc_V (As := [.ref (30 + l1)]) (rest := []) dX5_putLine_2 cV_LitmusTester_Output_32 (wC_130 zw) rfl rfl (Nat.le_of_ble_eq_true rfl) (Nat.le_of_ble_eq_true rfl) (co_v zf_2 ?_)
  replace zw := zw1
  refine vr_aload_n dX5_putLine_5 rfl rfl ?_
  refine vr_bipush dX5_putLine_6 (v := (59 : Int32)) (by decide) ?_
  obtain ⟨s3, zw1, zf_4, zh⟩ := zh
  refine vc_V (As := [.int (59 : Int32)]) (rest := []) dX5_putLine_8 cV_LitmusTester_Output_28 (wC_130 zw) rfl rfl (Nat.le_of_ble_eq_true rfl) (Nat.le_of_ble_eq_true rfl) (co_v zf_4 ?_)
  replace zw := zw1
  exact vr_vret dX5_putLine_11 rfl zh
theorem e_X5_putLine {γ : ga_T} {l1 : Nat} {σ : st_T} {Q : rs_T → st_T → Prop} (zw : Wd σ) (zh : p_X5_putLine_0 γ l1 σ Q) : sp_ γ m_X5_putLine 14 [.ref 130, .ref (30 + l1)] σ Q := sp_of (pl_X5_putLine) rfl (Nat.le_of_ble_eq_true rfl) (g_X5_putLine_0 zw zh)
def p_X5_putName_0 (γ : ga_T) (l1 : Int64) (σ : st_T) (Q : rs_T → st_T → Prop) : Prop :=
  ∃ s1, Wd s1 ∧ fw_ γ m_X5_put 0 [.ref 130, .int (32 : Int32)] σ s1 ∧
  vv_ γ m_X5_putName 1 9 [(0, .ref 130), (1, .long l1), (3, .int (35 : Int32))] [] s1 Q
set_option maxRecDepth 10000 in
theorem g_X5_putName_0 {γ : ga_T} {l1 : Int64} {σ : st_T} {Q : rs_T → st_T → Prop} (zw : Wd σ) (zh : p_X5_putName_0 γ l1 σ Q) : vv_ γ m_X5_putName 1 0 [(0, .ref 130), (1, .long l1)] [] σ Q := by
  unfold p_X5_putName_0 at zh
  refine vr_aload_n dX5_putName_0 rfl rfl ?_
  refine vr_bipush dX5_putName_1 (v := (32 : Int32)) (by decide) ?_
  obtain ⟨s1, zw1, zf_2, zh⟩ := zh
  refine vc_V (As := [.int (32 : Int32)]) (rest := []) dX5_putName_3 cV_LitmusTester_Output_28 (wC_130 zw) rfl rfl (Nat.le_of_ble_eq_true rfl) (Nat.le_of_ble_eq_true rfl) (co_v zf_2 ?_)
  replace zw := zw1
  refine vr_bipush dX5_putName_6 (v := (35 : Int32)) (by decide) ?_
  refine vr_istore_n dX5_putName_8 rfl (Nat.le_of_ble_eq_true rfl) (vv_eq (ls' := [(0, .ref 130), (1, .long l1), (3, .int (35 : Int32))]) rfl ?_)
  exact vv_sub (ls' := [(0, .ref 130), (1, .long l1), (3, .int (35 : Int32))]) ⟨rfl, rfl, rfl, trivial⟩ zh
theorem e_X5_putName {γ : ga_T} {l1 : Int64} {σ : st_T} {Q : rs_T → st_T → Prop} (zw : Wd σ) (zh : p_X5_putName_0 γ l1 σ Q) : sp_ γ m_X5_putName 1 [.ref 130, .long l1] σ Q := sp_of (pl_X5_putName) rfl (Nat.le_of_ble_eq_true rfl) (g_X5_putName_0 zw zh)
def p_X5_putName_9 (γ : ga_T) (l1 : Int64) (l3 : Int32) (σ : st_T) (Q : rs_T → st_T → Prop) : Prop :=
  (l3 < (0 : Int32) →
    Q (.inl none) σ
  ) ∧ (¬ l3 < (0 : Int32) →
    ((((l1 >>> (l3.toInt64 &&& 63)).toInt32) &&& (31 : Int32)) = (0 : Int32) →
      vv_ γ m_X5_putName 1 9 [(0, .ref 130), (1, .long l1), (3, .int (l3 + (-5)))] [] σ Q
    ) ∧ (¬ (((l1 >>> (l3.toInt64 &&& 63)).toInt32) &&& (31 : Int32)) = (0 : Int32) →
      ∃ s3, Wd s3 ∧ fw_ γ m_X5_put 0 [.ref 130, .int (((97 : Int32) + (((l1 >>> (l3.toInt64 &&& 63)).toInt32) &&& (31 : Int32))) - (1 : Int32))] σ s3 ∧
      vv_ γ m_X5_putName 1 9 [(0, .ref 130), (1, .long l1), (3, .int (l3 + (-5)))] [] s3 Q
    )
  )
set_option maxRecDepth 10000 in
theorem g_X5_putName_9 {γ : ga_T} {l1 : Int64} {l3 : Int32} {σ : st_T} {Q : rs_T → st_T → Prop} (zw : Wd σ) (zh : p_X5_putName_9 γ l1 l3 σ Q) : vv_ γ m_X5_putName 1 9 [(0, .ref 130), (1, .long l1), (3, .int l3)] [] σ Q := by
  unfold p_X5_putName_9 at zh
  refine vr_iload_n dX5_putName_9 rfl rfl ?_
  refine vr_if_lt dX5_putName_10 (tgt := 44) rfl (fun zd_1 => ?_) (fun zd_1 => ?_)
  · replace zh := zh.1 zd_1
    exact vr_vret dX5_putName_44 rfl zh
  · replace zh := zh.2 zd_1
    refine vr_lload_n dX5_putName_13 rfl rfl ?_
    refine vr_iload_n dX5_putName_14 rfl rfl ?_
    refine vr_lshr dX5_putName_15 ?_
    refine vr_l2i dX5_putName_16 ?_
    refine vr_bipush dX5_putName_17 (v := (31 : Int32)) (by decide) ?_
    refine vr_iand dX5_putName_19 ?_
    refine vr_istore dX5_putName_20 (Nat.le_of_ble_eq_true rfl) (vv_eq (ls' := [(0, .ref 130), (1, .long l1), (3, .int l3), (4, .int (((l1 >>> (l3.toInt64 &&& 63)).toInt32) &&& (31 : Int32)))]) rfl ?_)
    refine vr_iload dX5_putName_22 rfl ?_
    refine vr_if_eq dX5_putName_24 (tgt := 38) rfl (fun zd_2 => ?_) (fun zd_2 => ?_)
    · replace zh := zh.1 zd_2
      refine vr_iinc dX5_putName_38 (x := l3) (v := (l3 + (-5))) rfl (ii_ (by decide)) (Nat.le_of_ble_eq_true rfl) (vv_eq (ls' := [(0, .ref 130), (1, .long l1), (3, .int (l3 + (-5))), (4, .int (((l1 >>> (l3.toInt64 &&& 63)).toInt32) &&& (31 : Int32)))]) rfl ?_)
      refine vr_goto dX5_putName_41 (tgt := 9) rfl ?_
      exact vv_sub (ls' := [(0, .ref 130), (1, .long l1), (3, .int (l3 + (-5)))]) ⟨rfl, rfl, rfl, trivial⟩ zh
    · replace zh := zh.2 zd_2
      refine vr_aload_n dX5_putName_27 rfl rfl ?_
      refine vr_bipush dX5_putName_28 (v := (97 : Int32)) (by decide) ?_
      refine vr_iload dX5_putName_30 rfl ?_
      refine vr_iadd dX5_putName_32 ?_
      refine vr_iconst dX5_putName_33 (v := (1 : Int32)) (by decide) ?_
      refine vr_isub dX5_putName_34 ?_
      obtain ⟨s3, zw1, zf_4, zh⟩ := zh
      refine vc_V (As := [.int (((97 : Int32) + (((l1 >>> (l3.toInt64 &&& 63)).toInt32) &&& (31 : Int32))) - (1 : Int32))]) (rest := []) dX5_putName_35 cV_LitmusTester_Output_28 (wC_130 zw) rfl rfl (Nat.le_of_ble_eq_true rfl) (Nat.le_of_ble_eq_true rfl) (co_v zf_4 ?_)
      replace zw := zw1
      refine vr_iinc dX5_putName_38 (x := l3) (v := (l3 + (-5))) rfl (ii_ (by decide)) (Nat.le_of_ble_eq_true rfl) (vv_eq (ls' := [(0, .ref 130), (1, .long l1), (3, .int (l3 + (-5))), (4, .int (((l1 >>> (l3.toInt64 &&& 63)).toInt32) &&& (31 : Int32)))]) rfl ?_)
      refine vr_goto dX5_putName_41 (tgt := 9) rfl ?_
      exact vv_sub (ls' := [(0, .ref 130), (1, .long l1), (3, .int (l3 + (-5)))]) ⟨rfl, rfl, rfl, trivial⟩ zh
def p_X5_putRegister_0 (γ : ga_T) (l1 : Int32) (σ : st_T) (Q : rs_T → st_T → Prop) : Prop :=
  (l1 = (-1 : Int32) →
    Q (.inl none) σ
  ) ∧ (¬ l1 = (-1 : Int32) →
    ∃ s2, Wd s2 ∧ fw_ γ m_X5_putText 13 [.ref 130, .ref (30 + 11)] σ s2 ∧
    ∃ s4, Wd s4 ∧ fw_ γ m_X5_put 0 [.ref 130, .int ((48 : Int32) + l1)] s2 s4 ∧
    Q (.inl none) s4
  )
set_option maxRecDepth 10000 in
theorem g_X5_putRegister_0 {γ : ga_T} {l1 : Int32} {σ : st_T} {Q : rs_T → st_T → Prop} (zw : Wd σ) (zh : p_X5_putRegister_0 γ l1 σ Q) : vv_ γ m_X5_putRegister 14 0 [(0, .ref 130), (1, .int l1)] [] σ Q := by
  unfold p_X5_putRegister_0 at zh
  refine vr_iload_n dX5_putRegister_0 rfl rfl ?_
  refine vr_iconst dX5_putRegister_1 (v := (-1 : Int32)) (by decide) ?_
  refine vr_ic_eq dX5_putRegister_2 (tgt := 19) rfl (fun zd_1 => ?_) (fun zd_1 => ?_)
  · replace zh := zh.1 zd_1
    exact vr_vret dX5_putRegister_19 rfl zh
  · replace zh := zh.2 zd_1
    refine vr_aload_n dX5_putRegister_5 rfl rfl ?_
    refine vr_ldcS dX5_putRegister_6 (i := 11) (by decide) rfl rfl ?_
    obtain ⟨s2, zw1, zf_3, zh⟩ := zh
    refine vc_V (As := [.ref (30 + 11)]) (rest := []) dX5_putRegister_8 cV_LitmusTester_Output_32 (wC_130 zw) rfl rfl (Nat.le_of_ble_eq_true rfl) (Nat.le_of_ble_eq_true rfl) (co_v zf_3 ?_)
    replace zw := zw1
    refine vr_aload_n dX5_putRegister_11 rfl rfl ?_
    refine vr_bipush dX5_putRegister_12 (v := (48 : Int32)) (by decide) ?_
    refine vr_iload_n dX5_putRegister_14 rfl rfl ?_
    refine vr_iadd dX5_putRegister_15 ?_
    obtain ⟨s4, zw1, zf_5, zh⟩ := zh
    refine vc_V (As := [.int ((48 : Int32) + l1)]) (rest := []) dX5_putRegister_16 cV_LitmusTester_Output_28 (wC_130 zw) rfl rfl (Nat.le_of_ble_eq_true rfl) (Nat.le_of_ble_eq_true rfl) (co_v zf_5 ?_)
    replace zw := zw1
    exact vr_vret dX5_putRegister_19 rfl zh
theorem e_X5_putRegister {γ : ga_T} {l1 : Int32} {σ : st_T} {Q : rs_T → st_T → Prop} (zw : Wd σ) (zh : p_X5_putRegister_0 γ l1 σ Q) : sp_ γ m_X5_putRegister 14 [.ref 130, .int l1] σ Q := sp_of (pl_X5_putRegister) rfl (Nat.le_of_ble_eq_true rfl) (g_X5_putRegister_0 zw zh)
def p_X5_putNumber_0 (γ : ga_T) (l1 : Int32) (σ : st_T) (Q : rs_T → st_T → Prop) : Prop :=
  (l1 = (-1 : Int32) →
    Q (.inl none) σ
  ) ∧ (¬ l1 = (-1 : Int32) →
    ∃ s2, Wd s2 ∧ fw_ γ m_X5_put 0 [.ref 130, .int (32 : Int32)] σ s2 ∧
    ∃ s4, Wd s4 ∧ fw_ γ m_X5_put 0 [.ref 130, .int ((48 : Int32) + l1)] s2 s4 ∧
    Q (.inl none) s4
  )
set_option maxRecDepth 10000 in
theorem g_X5_putNumber_0 {γ : ga_T} {l1 : Int32} {σ : st_T} {Q : rs_T → st_T → Prop} (zw : Wd σ) (zh : p_X5_putNumber_0 γ l1 σ Q) : vv_ γ m_X5_putNumber 1 0 [(0, .ref 130), (1, .int l1)] [] σ Q := by
  unfold p_X5_putNumber_0 at zh
  refine vr_iload_n dX5_putNumber_0 rfl rfl ?_
  refine vr_iconst dX5_putNumber_1 (v := (-1 : Int32)) (by decide) ?_
  refine vr_ic_eq dX5_putNumber_2 (tgt := 19) rfl (fun zd_1 => ?_) (fun zd_1 => ?_)
  · replace zh := zh.1 zd_1
    exact vr_vret dX5_putNumber_19 rfl zh
  · replace zh := zh.2 zd_1
    refine vr_aload_n dX5_putNumber_5 rfl rfl ?_
    refine vr_bipush dX5_putNumber_6 (v := (32 : Int32)) (by decide) ?_
    obtain ⟨s2, zw1, zf_3, zh⟩ := zh
    refine vc_V (As := [.int (32 : Int32)]) (rest := []) dX5_putNumber_8 cV_LitmusTester_Output_28 (wC_130 zw) rfl rfl (Nat.le_of_ble_eq_true rfl) (Nat.le_of_ble_eq_true rfl) (co_v zf_3 ?_)
    replace zw := zw1
    refine vr_aload_n dX5_putNumber_11 rfl rfl ?_
    refine vr_bipush dX5_putNumber_12 (v := (48 : Int32)) (by decide) ?_
    refine vr_iload_n dX5_putNumber_14 rfl rfl ?_
    refine vr_iadd dX5_putNumber_15 ?_
    obtain ⟨s4, zw1, zf_5, zh⟩ := zh
    refine vc_V (As := [.int ((48 : Int32) + l1)]) (rest := []) dX5_putNumber_16 cV_LitmusTester_Output_28 (wC_130 zw) rfl rfl (Nat.le_of_ble_eq_true rfl) (Nat.le_of_ble_eq_true rfl) (co_v zf_5 ?_)
    replace zw := zw1
    exact vr_vret dX5_putNumber_19 rfl zh
theorem e_X5_putNumber {γ : ga_T} {l1 : Int32} {σ : st_T} {Q : rs_T → st_T → Prop} (zw : Wd σ) (zh : p_X5_putNumber_0 γ l1 σ Q) : sp_ γ m_X5_putNumber 1 [.ref 130, .int l1] σ Q := sp_of (pl_X5_putNumber) rfl (Nat.le_of_ble_eq_true rfl) (g_X5_putNumber_0 zw zh)
def p_X5_putDeclaration_0 (γ : ga_T) (l2 : Int32) (σ : st_T) (Q : rs_T → st_T → Prop) : Prop :=
  ∃ s1, Wd s1 ∧ fw_ γ m_X5_putText 13 [.ref 130, .ref (30 + 12)] σ s1 ∧
  ∃ (v5 : Int64) (s3 : st_T), Wd s3 ∧ fn_ γ m_X7_nameOf 0 [.ref 132, .int l2] s1 (.long v5) s3 ∧
  ∃ s6, Wd s6 ∧ fw_ γ m_X5_putName 1 [.ref 130, .long v5] s3 s6 ∧
  ∃ (v10 : Int32) (s8 : st_T), Wd s8 ∧ fn_ γ m_X7_initialOf 0 [.ref 132, .int l2] s6 (.int v10) s8 ∧
  ∃ s11, Wd s11 ∧ fw_ γ m_X5_putNumber 1 [.ref 130, .int v10] s8 s11 ∧
  ∃ s13, Wd s13 ∧ fw_ γ m_X5_put 0 [.ref 130, .int (59 : Int32)] s11 s13 ∧
  Q (.inl none) s13
set_option maxRecDepth 10000 in
theorem g_X5_putDeclaration_0 {γ : ga_T} {l2 : Int32} {σ : st_T} {Q : rs_T → st_T → Prop} (zw : Wd σ) (zh : p_X5_putDeclaration_0 γ l2 σ Q) : vv_ γ m_X5_putDeclaration 14 0 [(0, .ref 130), (1, .ref 132), (2, .int l2)] [] σ Q := by
  unfold p_X5_putDeclaration_0 at zh
  refine vr_aload_n dX5_putDeclaration_0 rfl rfl ?_
  refine vr_ldcS dX5_putDeclaration_1 (i := 12) (by decide) rfl rfl ?_
  obtain ⟨s1, zw1, zf_2, zh⟩ := zh
  refine vc_V (As := [.ref (30 + 12)]) (rest := []) dX5_putDeclaration_3 cV_LitmusTester_Output_32 (wC_130 zw) rfl rfl (Nat.le_of_ble_eq_true rfl) (Nat.le_of_ble_eq_true rfl) (co_v zf_2 ?_)
  replace zw := zw1
  refine vr_aload_n dX5_putDeclaration_6 rfl rfl ?_
  refine vr_aload_n dX5_putDeclaration_7 rfl rfl ?_
  refine vr_iload_n dX5_putDeclaration_8 rfl rfl ?_
  obtain ⟨v5, s3, zw1, zf_4, zh⟩ := zh
  refine vc_V (As := [.int l2]) (rest := [.ref 130]) dX5_putDeclaration_9 cV_LitmusTester_Output_40 (wC_132 zw) rfl rfl (Nat.le_of_ble_eq_true rfl) (Nat.le_of_ble_eq_true rfl) (co_n zf_4 ?_)
  replace zw := zw1
  obtain ⟨s6, zw1, zf_7, zh⟩ := zh
  refine vc_V (As := [.long v5]) (rest := []) dX5_putDeclaration_12 cV_LitmusTester_Output_46 (wC_130 zw) rfl rfl (Nat.le_of_ble_eq_true rfl) (Nat.le_of_ble_eq_true rfl) (co_v zf_7 ?_)
  replace zw := zw1
  refine vr_aload_n dX5_putDeclaration_15 rfl rfl ?_
  refine vr_aload_n dX5_putDeclaration_16 rfl rfl ?_
  refine vr_iload_n dX5_putDeclaration_17 rfl rfl ?_
  obtain ⟨v10, s8, zw1, zf_9, zh⟩ := zh
  refine vc_V (As := [.int l2]) (rest := [.ref 130]) dX5_putDeclaration_18 cV_LitmusTester_Output_50 (wC_132 zw) rfl rfl (Nat.le_of_ble_eq_true rfl) (Nat.le_of_ble_eq_true rfl) (co_n zf_9 ?_)
  replace zw := zw1
  obtain ⟨s11, zw1, zf_12, zh⟩ := zh
  refine vc_V (As := [.int v10]) (rest := []) dX5_putDeclaration_21 cV_LitmusTester_Output_54 (wC_130 zw) rfl rfl (Nat.le_of_ble_eq_true rfl) (Nat.le_of_ble_eq_true rfl) (co_v zf_12 ?_)
  replace zw := zw1
  refine vr_aload_n dX5_putDeclaration_24 rfl rfl ?_
  refine vr_bipush dX5_putDeclaration_25 (v := (59 : Int32)) (by decide) ?_
  obtain ⟨s13, zw1, zf_14, zh⟩ := zh
  refine vc_V (As := [.int (59 : Int32)]) (rest := []) dX5_putDeclaration_27 cV_LitmusTester_Output_28 (wC_130 zw) rfl rfl (Nat.le_of_ble_eq_true rfl) (Nat.le_of_ble_eq_true rfl) (co_v zf_14 ?_)
  replace zw := zw1
  exact vr_vret dX5_putDeclaration_30 rfl zh
theorem e_X5_putDeclaration {γ : ga_T} {l2 : Int32} {σ : st_T} {Q : rs_T → st_T → Prop} (zw : Wd σ) (zh : p_X5_putDeclaration_0 γ l2 σ Q) : sp_ γ m_X5_putDeclaration 14 [.ref 130, .ref 132, .int l2] σ Q := sp_of (pl_X5_putDeclaration) rfl (Nat.le_of_ble_eq_true rfl) (g_X5_putDeclaration_0 zw zh)
def p_X5_putInstruction_0 (γ : ga_T) (l2 : Int32) (σ : st_T) (Q : rs_T → st_T → Prop) : Prop :=
  ∃ (v3 : Int32) (s1 : st_T), Wd s1 ∧ fn_ γ m_X7_property 0 [.ref 132, .int l2, .int (1 : Int32)] σ (.int v3) s1 ∧
  (v3 = (0 : Int32) →
    ∃ s5, Wd s5 ∧ fw_ γ m_X5_putText 13 [.ref 130, .ref (30 + 13)] s1 s5 ∧
    ∃ (v9 : Int32) (s7 : st_T), Wd s7 ∧ fn_ γ m_X7_property 0 [.ref 132, .int l2, .int (3 : Int32)] s5 (.int v9) s7 ∧
    ∃ s10, Wd s10 ∧ fw_ γ m_X5_putRegister 14 [.ref 130, .int v9] s7 s10 ∧
    (v3 = (3 : Int32) →
      ∃ (v15 : Int32) (s13 : st_T), Wd s13 ∧ fn_ γ m_X7_property 0 [.ref 132, .int l2, .int (4 : Int32)] s10 (.int v15) s13 ∧
      ∃ s16, Wd s16 ∧ fw_ γ m_X5_putNumber 1 [.ref 130, .int v15] s13 s16 ∧
      ∃ (v20 : Int32) (s18 : st_T), Wd s18 ∧ fn_ γ m_X7_property 0 [.ref 132, .int l2, .int (5 : Int32)] s16 (.int v20) s18 ∧
      ∃ s21, Wd s21 ∧ fw_ γ m_X5_putRegister 14 [.ref 130, .int v20] s18 s21 ∧
      ∃ s23, Wd s23 ∧ fw_ γ m_X5_put 0 [.ref 130, .int (59 : Int32)] s21 s23 ∧
      Q (.inl none) s23
    ) ∧ (¬ v3 = (3 : Int32) →
      ∃ (v27 : Int32) (s25 : st_T), Wd s25 ∧ fn_ γ m_X7_property 0 [.ref 132, .int l2, .int (2 : Int32)] s10 (.int v27) s25 ∧
      ∃ (v30 : Int64) (s28 : st_T), Wd s28 ∧ fn_ γ m_X7_nameOf 0 [.ref 132, .int v27] s25 (.long v30) s28 ∧
      ∃ s31, Wd s31 ∧ fw_ γ m_X5_putName 1 [.ref 130, .long v30] s28 s31 ∧
      ∃ (v35 : Int32) (s33 : st_T), Wd s33 ∧ fn_ γ m_X7_property 0 [.ref 132, .int l2, .int (4 : Int32)] s31 (.int v35) s33 ∧
      ∃ s36, Wd s36 ∧ fw_ γ m_X5_putNumber 1 [.ref 130, .int v35] s33 s36 ∧
      ∃ (v40 : Int32) (s38 : st_T), Wd s38 ∧ fn_ γ m_X7_property 0 [.ref 132, .int l2, .int (5 : Int32)] s36 (.int v40) s38 ∧
      ∃ s41, Wd s41 ∧ fw_ γ m_X5_putRegister 14 [.ref 130, .int v40] s38 s41 ∧
      ∃ s43, Wd s43 ∧ fw_ γ m_X5_put 0 [.ref 130, .int (59 : Int32)] s41 s43 ∧
      Q (.inl none) s43
    )
  ) ∧ (¬ v3 = (0 : Int32) →
    (v3 = (1 : Int32) →
      ∃ s46, Wd s46 ∧ fw_ γ m_X5_putText 13 [.ref 130, .ref (30 + 14)] s1 s46 ∧
      ∃ (v50 : Int32) (s48 : st_T), Wd s48 ∧ fn_ γ m_X7_property 0 [.ref 132, .int l2, .int (3 : Int32)] s46 (.int v50) s48 ∧
      ∃ s51, Wd s51 ∧ fw_ γ m_X5_putRegister 14 [.ref 130, .int v50] s48 s51 ∧
      (v3 = (3 : Int32) →
        ∃ (v56 : Int32) (s54 : st_T), Wd s54 ∧ fn_ γ m_X7_property 0 [.ref 132, .int l2, .int (4 : Int32)] s51 (.int v56) s54 ∧
        ∃ s57, Wd s57 ∧ fw_ γ m_X5_putNumber 1 [.ref 130, .int v56] s54 s57 ∧
        ∃ (v61 : Int32) (s59 : st_T), Wd s59 ∧ fn_ γ m_X7_property 0 [.ref 132, .int l2, .int (5 : Int32)] s57 (.int v61) s59 ∧
        ∃ s62, Wd s62 ∧ fw_ γ m_X5_putRegister 14 [.ref 130, .int v61] s59 s62 ∧
        ∃ s64, Wd s64 ∧ fw_ γ m_X5_put 0 [.ref 130, .int (59 : Int32)] s62 s64 ∧
        Q (.inl none) s64
      ) ∧ (¬ v3 = (3 : Int32) →
        ∃ (v68 : Int32) (s66 : st_T), Wd s66 ∧ fn_ γ m_X7_property 0 [.ref 132, .int l2, .int (2 : Int32)] s51 (.int v68) s66 ∧
        ∃ (v71 : Int64) (s69 : st_T), Wd s69 ∧ fn_ γ m_X7_nameOf 0 [.ref 132, .int v68] s66 (.long v71) s69 ∧
        ∃ s72, Wd s72 ∧ fw_ γ m_X5_putName 1 [.ref 130, .long v71] s69 s72 ∧
        ∃ (v76 : Int32) (s74 : st_T), Wd s74 ∧ fn_ γ m_X7_property 0 [.ref 132, .int l2, .int (4 : Int32)] s72 (.int v76) s74 ∧
        ∃ s77, Wd s77 ∧ fw_ γ m_X5_putNumber 1 [.ref 130, .int v76] s74 s77 ∧
        ∃ (v81 : Int32) (s79 : st_T), Wd s79 ∧ fn_ γ m_X7_property 0 [.ref 132, .int l2, .int (5 : Int32)] s77 (.int v81) s79 ∧
        ∃ s82, Wd s82 ∧ fw_ γ m_X5_putRegister 14 [.ref 130, .int v81] s79 s82 ∧
        ∃ s84, Wd s84 ∧ fw_ γ m_X5_put 0 [.ref 130, .int (59 : Int32)] s82 s84 ∧
        Q (.inl none) s84
      )
    ) ∧ (¬ v3 = (1 : Int32) →
      (v3 = (2 : Int32) →
        ∃ s87, Wd s87 ∧ fw_ γ m_X5_putText 13 [.ref 130, .ref (30 + 15)] s1 s87 ∧
        ∃ (v91 : Int32) (s89 : st_T), Wd s89 ∧ fn_ γ m_X7_property 0 [.ref 132, .int l2, .int (3 : Int32)] s87 (.int v91) s89 ∧
        ∃ s92, Wd s92 ∧ fw_ γ m_X5_putRegister 14 [.ref 130, .int v91] s89 s92 ∧
        (v3 = (3 : Int32) →
          ∃ (v97 : Int32) (s95 : st_T), Wd s95 ∧ fn_ γ m_X7_property 0 [.ref 132, .int l2, .int (4 : Int32)] s92 (.int v97) s95 ∧
          ∃ s98, Wd s98 ∧ fw_ γ m_X5_putNumber 1 [.ref 130, .int v97] s95 s98 ∧
          ∃ (v102 : Int32) (s100 : st_T), Wd s100 ∧ fn_ γ m_X7_property 0 [.ref 132, .int l2, .int (5 : Int32)] s98 (.int v102) s100 ∧
          ∃ s103, Wd s103 ∧ fw_ γ m_X5_putRegister 14 [.ref 130, .int v102] s100 s103 ∧
          ∃ s105, Wd s105 ∧ fw_ γ m_X5_put 0 [.ref 130, .int (59 : Int32)] s103 s105 ∧
          Q (.inl none) s105
        ) ∧ (¬ v3 = (3 : Int32) →
          ∃ (v109 : Int32) (s107 : st_T), Wd s107 ∧ fn_ γ m_X7_property 0 [.ref 132, .int l2, .int (2 : Int32)] s92 (.int v109) s107 ∧
          ∃ (v112 : Int64) (s110 : st_T), Wd s110 ∧ fn_ γ m_X7_nameOf 0 [.ref 132, .int v109] s107 (.long v112) s110 ∧
          ∃ s113, Wd s113 ∧ fw_ γ m_X5_putName 1 [.ref 130, .long v112] s110 s113 ∧
          ∃ (v117 : Int32) (s115 : st_T), Wd s115 ∧ fn_ γ m_X7_property 0 [.ref 132, .int l2, .int (4 : Int32)] s113 (.int v117) s115 ∧
          ∃ s118, Wd s118 ∧ fw_ γ m_X5_putNumber 1 [.ref 130, .int v117] s115 s118 ∧
          ∃ (v122 : Int32) (s120 : st_T), Wd s120 ∧ fn_ γ m_X7_property 0 [.ref 132, .int l2, .int (5 : Int32)] s118 (.int v122) s120 ∧
          ∃ s123, Wd s123 ∧ fw_ γ m_X5_putRegister 14 [.ref 130, .int v122] s120 s123 ∧
          ∃ s125, Wd s125 ∧ fw_ γ m_X5_put 0 [.ref 130, .int (59 : Int32)] s123 s125 ∧
          Q (.inl none) s125
        )
      ) ∧ (¬ v3 = (2 : Int32) →
        ∃ s127, Wd s127 ∧ fw_ γ m_X5_putText 13 [.ref 130, .ref (30 + 16)] s1 s127 ∧
        ∃ (v131 : Int32) (s129 : st_T), Wd s129 ∧ fn_ γ m_X7_property 0 [.ref 132, .int l2, .int (3 : Int32)] s127 (.int v131) s129 ∧
        ∃ s132, Wd s132 ∧ fw_ γ m_X5_putRegister 14 [.ref 130, .int v131] s129 s132 ∧
        (v3 = (3 : Int32) →
          ∃ (v137 : Int32) (s135 : st_T), Wd s135 ∧ fn_ γ m_X7_property 0 [.ref 132, .int l2, .int (4 : Int32)] s132 (.int v137) s135 ∧
          ∃ s138, Wd s138 ∧ fw_ γ m_X5_putNumber 1 [.ref 130, .int v137] s135 s138 ∧
          ∃ (v142 : Int32) (s140 : st_T), Wd s140 ∧ fn_ γ m_X7_property 0 [.ref 132, .int l2, .int (5 : Int32)] s138 (.int v142) s140 ∧
          ∃ s143, Wd s143 ∧ fw_ γ m_X5_putRegister 14 [.ref 130, .int v142] s140 s143 ∧
          ∃ s145, Wd s145 ∧ fw_ γ m_X5_put 0 [.ref 130, .int (59 : Int32)] s143 s145 ∧
          Q (.inl none) s145
        ) ∧ (¬ v3 = (3 : Int32) →
          ∃ (v149 : Int32) (s147 : st_T), Wd s147 ∧ fn_ γ m_X7_property 0 [.ref 132, .int l2, .int (2 : Int32)] s132 (.int v149) s147 ∧
          ∃ (v152 : Int64) (s150 : st_T), Wd s150 ∧ fn_ γ m_X7_nameOf 0 [.ref 132, .int v149] s147 (.long v152) s150 ∧
          ∃ s153, Wd s153 ∧ fw_ γ m_X5_putName 1 [.ref 130, .long v152] s150 s153 ∧
          ∃ (v157 : Int32) (s155 : st_T), Wd s155 ∧ fn_ γ m_X7_property 0 [.ref 132, .int l2, .int (4 : Int32)] s153 (.int v157) s155 ∧
          ∃ s158, Wd s158 ∧ fw_ γ m_X5_putNumber 1 [.ref 130, .int v157] s155 s158 ∧
          ∃ (v162 : Int32) (s160 : st_T), Wd s160 ∧ fn_ γ m_X7_property 0 [.ref 132, .int l2, .int (5 : Int32)] s158 (.int v162) s160 ∧
          ∃ s163, Wd s163 ∧ fw_ γ m_X5_putRegister 14 [.ref 130, .int v162] s160 s163 ∧
          ∃ s165, Wd s165 ∧ fw_ γ m_X5_put 0 [.ref 130, .int (59 : Int32)] s163 s165 ∧
          Q (.inl none) s165
        )
      )
    )
  )
set_option maxRecDepth 10000 in
theorem g_X5_putInstruction_0 {γ : ga_T} {l2 : Int32} {σ : st_T} {Q : rs_T → st_T → Prop} (zw : Wd σ) (zh : p_X5_putInstruction_0 γ l2 σ Q) : vv_ γ m_X5_putInstruction 15 0 [(0, .ref 130), (1, .ref 132), (2, .int l2)] [] σ Q := by
  unfold p_X5_putInstruction_0 at zh
  refine vr_aload_n dX5_putInstruction_0 rfl rfl ?_
  refine vr_iload_n dX5_putInstruction_1 rfl rfl ?_
  refine vr_iconst dX5_putInstruction_2 (v := (1 : Int32)) (by decide) ?_
  obtain ⟨v3, s1, zw1, zf_2, zh⟩ := zh
  refine vc_V (As := [.int l2, .int (1 : Int32)]) (rest := []) dX5_putInstruction_3 cV_LitmusTester_Output_57 (wC_132 zw) rfl rfl (Nat.le_of_ble_eq_true rfl) (Nat.le_of_ble_eq_true rfl) (co_n zf_2 ?_)
  replace zw := zw1
  refine vr_istore_n dX5_putInstruction_6 rfl (Nat.le_of_ble_eq_true rfl) (vv_eq (ls' := [(0, .ref 130), (1, .ref 132), (2, .int l2), (3, .int v3)]) rfl ?_)
  refine vr_aload_n dX5_putInstruction_7 rfl rfl ?_
  refine vr_iload_n dX5_putInstruction_8 rfl rfl ?_
  refine vr_if_ne dX5_putInstruction_9 (tgt := 17) rfl (fun zd_4 => ?_) (fun zd_4 => ?_)
  · replace zh := zh.2 zd_4
    refine vr_iload_n dX5_putInstruction_17 rfl rfl ?_
    refine vr_iconst dX5_putInstruction_18 (v := (1 : Int32)) (by decide) ?_
    refine vr_ic_ne dX5_putInstruction_19 (tgt := 27) rfl (fun zd_45 => ?_) (fun zd_45 => ?_)
    · replace zh := zh.2 zd_45
      refine vr_iload_n dX5_putInstruction_27 rfl rfl ?_
      refine vr_iconst dX5_putInstruction_28 (v := (2 : Int32)) (by decide) ?_
      refine vr_ic_ne dX5_putInstruction_29 (tgt := 37) rfl (fun zd_86 => ?_) (fun zd_86 => ?_)
      · replace zh := zh.2 zd_86
        refine vr_ldcS dX5_putInstruction_37 (i := 16) (by decide) rfl rfl ?_
        obtain ⟨s127, zw1, zf_128, zh⟩ := zh
        refine vc_V (As := [.ref (30 + 16)]) (rest := []) dX5_putInstruction_39 cV_LitmusTester_Output_32 (wC_130 zw) rfl rfl (Nat.le_of_ble_eq_true rfl) (Nat.le_of_ble_eq_true rfl) (co_v zf_128 ?_)
        replace zw := zw1
        refine vr_aload_n dX5_putInstruction_42 rfl rfl ?_
        refine vr_aload_n dX5_putInstruction_43 rfl rfl ?_
        refine vr_iload_n dX5_putInstruction_44 rfl rfl ?_
        refine vr_iconst dX5_putInstruction_45 (v := (3 : Int32)) (by decide) ?_
        obtain ⟨v131, s129, zw1, zf_130, zh⟩ := zh
        refine vc_V (As := [.int l2, .int (3 : Int32)]) (rest := [.ref 130]) dX5_putInstruction_46 cV_LitmusTester_Output_57 (wC_132 zw) rfl rfl (Nat.le_of_ble_eq_true rfl) (Nat.le_of_ble_eq_true rfl) (co_n zf_130 ?_)
        replace zw := zw1
        obtain ⟨s132, zw1, zf_133, zh⟩ := zh
        refine vc_V (As := [.int v131]) (rest := []) dX5_putInstruction_49 cV_LitmusTester_Output_69 (wC_130 zw) rfl rfl (Nat.le_of_ble_eq_true rfl) (Nat.le_of_ble_eq_true rfl) (co_v zf_133 ?_)
        replace zw := zw1
        refine vr_iload_n dX5_putInstruction_52 rfl rfl ?_
        refine vr_iconst dX5_putInstruction_53 (v := (3 : Int32)) (by decide) ?_
        refine vr_ic_eq dX5_putInstruction_54 (tgt := 71) rfl (fun zd_134 => ?_) (fun zd_134 => ?_)
        · replace zh := zh.1 zd_134
          refine vr_aload_n dX5_putInstruction_71 rfl rfl ?_
          refine vr_aload_n dX5_putInstruction_72 rfl rfl ?_
          refine vr_iload_n dX5_putInstruction_73 rfl rfl ?_
          refine vr_iconst dX5_putInstruction_74 (v := (4 : Int32)) (by decide) ?_
          obtain ⟨v137, s135, zw1, zf_136, zh⟩ := zh
          refine vc_V (As := [.int l2, .int (4 : Int32)]) (rest := [.ref 130]) dX5_putInstruction_75 cV_LitmusTester_Output_57 (wC_132 zw) rfl rfl (Nat.le_of_ble_eq_true rfl) (Nat.le_of_ble_eq_true rfl) (co_n zf_136 ?_)
          replace zw := zw1
          obtain ⟨s138, zw1, zf_139, zh⟩ := zh
          refine vc_V (As := [.int v137]) (rest := []) dX5_putInstruction_78 cV_LitmusTester_Output_54 (wC_130 zw) rfl rfl (Nat.le_of_ble_eq_true rfl) (Nat.le_of_ble_eq_true rfl) (co_v zf_139 ?_)
          replace zw := zw1
          refine vr_aload_n dX5_putInstruction_81 rfl rfl ?_
          refine vr_aload_n dX5_putInstruction_82 rfl rfl ?_
          refine vr_iload_n dX5_putInstruction_83 rfl rfl ?_
          refine vr_iconst dX5_putInstruction_84 (v := (5 : Int32)) (by decide) ?_
          obtain ⟨v142, s140, zw1, zf_141, zh⟩ := zh
          refine vc_V (As := [.int l2, .int (5 : Int32)]) (rest := [.ref 130]) dX5_putInstruction_85 cV_LitmusTester_Output_57 (wC_132 zw) rfl rfl (Nat.le_of_ble_eq_true rfl) (Nat.le_of_ble_eq_true rfl) (co_n zf_141 ?_)
          replace zw := zw1
          obtain ⟨s143, zw1, zf_144, zh⟩ := zh
          refine vc_V (As := [.int v142]) (rest := []) dX5_putInstruction_88 cV_LitmusTester_Output_69 (wC_130 zw) rfl rfl (Nat.le_of_ble_eq_true rfl) (Nat.le_of_ble_eq_true rfl) (co_v zf_144 ?_)
          replace zw := zw1
          refine vr_aload_n dX5_putInstruction_91 rfl rfl ?_
          refine vr_bipush dX5_putInstruction_92 (v := (59 : Int32)) (by decide) ?_
          obtain ⟨s145, zw1, zf_146, zh⟩ := zh
          refine vc_V (As := [.int (59 : Int32)]) (rest := []) dX5_putInstruction_94 cV_LitmusTester_Output_28 (wC_130 zw) rfl rfl (Nat.le_of_ble_eq_true rfl) (Nat.le_of_ble_eq_true rfl) (co_v zf_146 ?_)
          replace zw := zw1
          exact vr_vret dX5_putInstruction_97 rfl zh
        · replace zh := zh.2 zd_134
          refine vr_aload_n dX5_putInstruction_57 rfl rfl ?_
          refine vr_aload_n dX5_putInstruction_58 rfl rfl ?_
          refine vr_aload_n dX5_putInstruction_59 rfl rfl ?_
          refine vr_iload_n dX5_putInstruction_60 rfl rfl ?_
          refine vr_iconst dX5_putInstruction_61 (v := (2 : Int32)) (by decide) ?_
          obtain ⟨v149, s147, zw1, zf_148, zh⟩ := zh
          refine vc_V (As := [.int l2, .int (2 : Int32)]) (rest := [.ref 132, .ref 130]) dX5_putInstruction_62 cV_LitmusTester_Output_57 (wC_132 zw) rfl rfl (Nat.le_of_ble_eq_true rfl) (Nat.le_of_ble_eq_true rfl) (co_n zf_148 ?_)
          replace zw := zw1
          obtain ⟨v152, s150, zw1, zf_151, zh⟩ := zh
          refine vc_V (As := [.int v149]) (rest := [.ref 130]) dX5_putInstruction_65 cV_LitmusTester_Output_40 (wC_132 zw) rfl rfl (Nat.le_of_ble_eq_true rfl) (Nat.le_of_ble_eq_true rfl) (co_n zf_151 ?_)
          replace zw := zw1
          obtain ⟨s153, zw1, zf_154, zh⟩ := zh
          refine vc_V (As := [.long v152]) (rest := []) dX5_putInstruction_68 cV_LitmusTester_Output_46 (wC_130 zw) rfl rfl (Nat.le_of_ble_eq_true rfl) (Nat.le_of_ble_eq_true rfl) (co_v zf_154 ?_)
          replace zw := zw1
          refine vr_aload_n dX5_putInstruction_71 rfl rfl ?_
          refine vr_aload_n dX5_putInstruction_72 rfl rfl ?_
          refine vr_iload_n dX5_putInstruction_73 rfl rfl ?_
          refine vr_iconst dX5_putInstruction_74 (v := (4 : Int32)) (by decide) ?_
          obtain ⟨v157, s155, zw1, zf_156, zh⟩ := zh
          refine vc_V (As := [.int l2, .int (4 : Int32)]) (rest := [.ref 130]) dX5_putInstruction_75 cV_LitmusTester_Output_57 (wC_132 zw) rfl rfl (Nat.le_of_ble_eq_true rfl) (Nat.le_of_ble_eq_true rfl) (co_n zf_156 ?_)
          replace zw := zw1
          obtain ⟨s158, zw1, zf_159, zh⟩ := zh
          refine vc_V (As := [.int v157]) (rest := []) dX5_putInstruction_78 cV_LitmusTester_Output_54 (wC_130 zw) rfl rfl (Nat.le_of_ble_eq_true rfl) (Nat.le_of_ble_eq_true rfl) (co_v zf_159 ?_)
          replace zw := zw1
          refine vr_aload_n dX5_putInstruction_81 rfl rfl ?_
          refine vr_aload_n dX5_putInstruction_82 rfl rfl ?_
          refine vr_iload_n dX5_putInstruction_83 rfl rfl ?_
          refine vr_iconst dX5_putInstruction_84 (v := (5 : Int32)) (by decide) ?_
          obtain ⟨v162, s160, zw1, zf_161, zh⟩ := zh
          refine vc_V (As := [.int l2, .int (5 : Int32)]) (rest := [.ref 130]) dX5_putInstruction_85 cV_LitmusTester_Output_57 (wC_132 zw) rfl rfl (Nat.le_of_ble_eq_true rfl) (Nat.le_of_ble_eq_true rfl) (co_n zf_161 ?_)
          replace zw := zw1
          obtain ⟨s163, zw1, zf_164, zh⟩ := zh
          refine vc_V (As := [.int v162]) (rest := []) dX5_putInstruction_88 cV_LitmusTester_Output_69 (wC_130 zw) rfl rfl (Nat.le_of_ble_eq_true rfl) (Nat.le_of_ble_eq_true rfl) (co_v zf_164 ?_)
          replace zw := zw1
          refine vr_aload_n dX5_putInstruction_91 rfl rfl ?_
          refine vr_bipush dX5_putInstruction_92 (v := (59 : Int32)) (by decide) ?_
          obtain ⟨s165, zw1, zf_166, zh⟩ := zh
          refine vc_V (As := [.int (59 : Int32)]) (rest := []) dX5_putInstruction_94 cV_LitmusTester_Output_28 (wC_130 zw) rfl rfl (Nat.le_of_ble_eq_true rfl) (Nat.le_of_ble_eq_true rfl) (co_v zf_166 ?_)
          replace zw := zw1
          exact vr_vret dX5_putInstruction_97 rfl zh
      · replace zh := zh.1 zd_86
        refine vr_ldcS dX5_putInstruction_32 (i := 15) (by decide) rfl rfl ?_
        refine vr_goto dX5_putInstruction_34 (tgt := 39) rfl ?_
        obtain ⟨s87, zw1, zf_88, zh⟩ := zh
        refine vc_V (As := [.ref (30 + 15)]) (rest := []) dX5_putInstruction_39 cV_LitmusTester_Output_32 (wC_130 zw) rfl rfl (Nat.le_of_ble_eq_true rfl) (Nat.le_of_ble_eq_true rfl) (co_v zf_88 ?_)
        replace zw := zw1
        refine vr_aload_n dX5_putInstruction_42 rfl rfl ?_
        refine vr_aload_n dX5_putInstruction_43 rfl rfl ?_
        refine vr_iload_n dX5_putInstruction_44 rfl rfl ?_
        refine vr_iconst dX5_putInstruction_45 (v := (3 : Int32)) (by decide) ?_
        obtain ⟨v91, s89, zw1, zf_90, zh⟩ := zh
        refine vc_V (As := [.int l2, .int (3 : Int32)]) (rest := [.ref 130]) dX5_putInstruction_46 cV_LitmusTester_Output_57 (wC_132 zw) rfl rfl (Nat.le_of_ble_eq_true rfl) (Nat.le_of_ble_eq_true rfl) (co_n zf_90 ?_)
        replace zw := zw1
        obtain ⟨s92, zw1, zf_93, zh⟩ := zh
        refine vc_V (As := [.int v91]) (rest := []) dX5_putInstruction_49 cV_LitmusTester_Output_69 (wC_130 zw) rfl rfl (Nat.le_of_ble_eq_true rfl) (Nat.le_of_ble_eq_true rfl) (co_v zf_93 ?_)
        replace zw := zw1
        refine vr_iload_n dX5_putInstruction_52 rfl rfl ?_
        refine vr_iconst dX5_putInstruction_53 (v := (3 : Int32)) (by decide) ?_
        refine vr_ic_eq dX5_putInstruction_54 (tgt := 71) rfl (fun zd_94 => ?_) (fun zd_94 => ?_)
        · replace zh := zh.1 zd_94
          refine vr_aload_n dX5_putInstruction_71 rfl rfl ?_
          refine vr_aload_n dX5_putInstruction_72 rfl rfl ?_
          refine vr_iload_n dX5_putInstruction_73 rfl rfl ?_
          refine vr_iconst dX5_putInstruction_74 (v := (4 : Int32)) (by decide) ?_
          obtain ⟨v97, s95, zw1, zf_96, zh⟩ := zh
          refine vc_V (As := [.int l2, .int (4 : Int32)]) (rest := [.ref 130]) dX5_putInstruction_75 cV_LitmusTester_Output_57 (wC_132 zw) rfl rfl (Nat.le_of_ble_eq_true rfl) (Nat.le_of_ble_eq_true rfl) (co_n zf_96 ?_)
          replace zw := zw1
          obtain ⟨s98, zw1, zf_99, zh⟩ := zh
          refine vc_V (As := [.int v97]) (rest := []) dX5_putInstruction_78 cV_LitmusTester_Output_54 (wC_130 zw) rfl rfl (Nat.le_of_ble_eq_true rfl) (Nat.le_of_ble_eq_true rfl) (co_v zf_99 ?_)
          replace zw := zw1
          refine vr_aload_n dX5_putInstruction_81 rfl rfl ?_
          refine vr_aload_n dX5_putInstruction_82 rfl rfl ?_
          refine vr_iload_n dX5_putInstruction_83 rfl rfl ?_
          refine vr_iconst dX5_putInstruction_84 (v := (5 : Int32)) (by decide) ?_
          obtain ⟨v102, s100, zw1, zf_101, zh⟩ := zh
          refine vc_V (As := [.int l2, .int (5 : Int32)]) (rest := [.ref 130]) dX5_putInstruction_85 cV_LitmusTester_Output_57 (wC_132 zw) rfl rfl (Nat.le_of_ble_eq_true rfl) (Nat.le_of_ble_eq_true rfl) (co_n zf_101 ?_)
          replace zw := zw1
          obtain ⟨s103, zw1, zf_104, zh⟩ := zh
          refine vc_V (As := [.int v102]) (rest := []) dX5_putInstruction_88 cV_LitmusTester_Output_69 (wC_130 zw) rfl rfl (Nat.le_of_ble_eq_true rfl) (Nat.le_of_ble_eq_true rfl) (co_v zf_104 ?_)
          replace zw := zw1
          refine vr_aload_n dX5_putInstruction_91 rfl rfl ?_
          refine vr_bipush dX5_putInstruction_92 (v := (59 : Int32)) (by decide) ?_
          obtain ⟨s105, zw1, zf_106, zh⟩ := zh
          refine vc_V (As := [.int (59 : Int32)]) (rest := []) dX5_putInstruction_94 cV_LitmusTester_Output_28 (wC_130 zw) rfl rfl (Nat.le_of_ble_eq_true rfl) (Nat.le_of_ble_eq_true rfl) (co_v zf_106 ?_)
          replace zw := zw1
          exact vr_vret dX5_putInstruction_97 rfl zh
        · replace zh := zh.2 zd_94
          refine vr_aload_n dX5_putInstruction_57 rfl rfl ?_
          refine vr_aload_n dX5_putInstruction_58 rfl rfl ?_
          refine vr_aload_n dX5_putInstruction_59 rfl rfl ?_
          refine vr_iload_n dX5_putInstruction_60 rfl rfl ?_
          refine vr_iconst dX5_putInstruction_61 (v := (2 : Int32)) (by decide) ?_
          obtain ⟨v109, s107, zw1, zf_108, zh⟩ := zh
          refine vc_V (As := [.int l2, .int (2 : Int32)]) (rest := [.ref 132, .ref 130]) dX5_putInstruction_62 cV_LitmusTester_Output_57 (wC_132 zw) rfl rfl (Nat.le_of_ble_eq_true rfl) (Nat.le_of_ble_eq_true rfl) (co_n zf_108 ?_)
          replace zw := zw1
          obtain ⟨v112, s110, zw1, zf_111, zh⟩ := zh
          refine vc_V (As := [.int v109]) (rest := [.ref 130]) dX5_putInstruction_65 cV_LitmusTester_Output_40 (wC_132 zw) rfl rfl (Nat.le_of_ble_eq_true rfl) (Nat.le_of_ble_eq_true rfl) (co_n zf_111 ?_)
          replace zw := zw1
          obtain ⟨s113, zw1, zf_114, zh⟩ := zh
          refine vc_V (As := [.long v112]) (rest := []) dX5_putInstruction_68 cV_LitmusTester_Output_46 (wC_130 zw) rfl rfl (Nat.le_of_ble_eq_true rfl) (Nat.le_of_ble_eq_true rfl) (co_v zf_114 ?_)
          replace zw := zw1
          refine vr_aload_n dX5_putInstruction_71 rfl rfl ?_
          refine vr_aload_n dX5_putInstruction_72 rfl rfl ?_
          refine vr_iload_n dX5_putInstruction_73 rfl rfl ?_
          refine vr_iconst dX5_putInstruction_74 (v := (4 : Int32)) (by decide) ?_
          obtain ⟨v117, s115, zw1, zf_116, zh⟩ := zh
          refine vc_V (As := [.int l2, .int (4 : Int32)]) (rest := [.ref 130]) dX5_putInstruction_75 cV_LitmusTester_Output_57 (wC_132 zw) rfl rfl (Nat.le_of_ble_eq_true rfl) (Nat.le_of_ble_eq_true rfl) (co_n zf_116 ?_)
          replace zw := zw1
          obtain ⟨s118, zw1, zf_119, zh⟩ := zh
          refine vc_V (As := [.int v117]) (rest := []) dX5_putInstruction_78 cV_LitmusTester_Output_54 (wC_130 zw) rfl rfl (Nat.le_of_ble_eq_true rfl) (Nat.le_of_ble_eq_true rfl) (co_v zf_119 ?_)
          replace zw := zw1
          refine vr_aload_n dX5_putInstruction_81 rfl rfl ?_
          refine vr_aload_n dX5_putInstruction_82 rfl rfl ?_
          refine vr_iload_n dX5_putInstruction_83 rfl rfl ?_
          refine vr_iconst dX5_putInstruction_84 (v := (5 : Int32)) (by decide) ?_
          obtain ⟨v122, s120, zw1, zf_121, zh⟩ := zh
          refine vc_V (As := [.int l2, .int (5 : Int32)]) (rest := [.ref 130]) dX5_putInstruction_85 cV_LitmusTester_Output_57 (wC_132 zw) rfl rfl (Nat.le_of_ble_eq_true rfl) (Nat.le_of_ble_eq_true rfl) (co_n zf_121 ?_)
          replace zw := zw1
          obtain ⟨s123, zw1, zf_124, zh⟩ := zh
          refine vc_V (As := [.int v122]) (rest := []) dX5_putInstruction_88 cV_LitmusTester_Output_69 (wC_130 zw) rfl rfl (Nat.le_of_ble_eq_true rfl) (Nat.le_of_ble_eq_true rfl) (co_v zf_124 ?_)
          replace zw := zw1
          refine vr_aload_n dX5_putInstruction_91 rfl rfl ?_
          refine vr_bipush dX5_putInstruction_92 (v := (59 : Int32)) (by decide) ?_
          obtain ⟨s125, zw1, zf_126, zh⟩ := zh
          refine vc_V (As := [.int (59 : Int32)]) (rest := []) dX5_putInstruction_94 cV_LitmusTester_Output_28 (wC_130 zw) rfl rfl (Nat.le_of_ble_eq_true rfl) (Nat.le_of_ble_eq_true rfl) (co_v zf_126 ?_)
          replace zw := zw1
          exact vr_vret dX5_putInstruction_97 rfl zh
    · replace zh := zh.1 zd_45
      refine vr_ldcS dX5_putInstruction_22 (i := 14) (by decide) rfl rfl ?_
      refine vr_goto dX5_putInstruction_24 (tgt := 39) rfl ?_
      obtain ⟨s46, zw1, zf_47, zh⟩ := zh
      refine vc_V (As := [.ref (30 + 14)]) (rest := []) dX5_putInstruction_39 cV_LitmusTester_Output_32 (wC_130 zw) rfl rfl (Nat.le_of_ble_eq_true rfl) (Nat.le_of_ble_eq_true rfl) (co_v zf_47 ?_)
      replace zw := zw1
      refine vr_aload_n dX5_putInstruction_42 rfl rfl ?_
      refine vr_aload_n dX5_putInstruction_43 rfl rfl ?_
      refine vr_iload_n dX5_putInstruction_44 rfl rfl ?_
      refine vr_iconst dX5_putInstruction_45 (v := (3 : Int32)) (by decide) ?_
      obtain ⟨v50, s48, zw1, zf_49, zh⟩ := zh
      refine vc_V (As := [.int l2, .int (3 : Int32)]) (rest := [.ref 130]) dX5_putInstruction_46 cV_LitmusTester_Output_57 (wC_132 zw) rfl rfl (Nat.le_of_ble_eq_true rfl) (Nat.le_of_ble_eq_true rfl) (co_n zf_49 ?_)
      replace zw := zw1
      obtain ⟨s51, zw1, zf_52, zh⟩ := zh
      refine vc_V (As := [.int v50]) (rest := []) dX5_putInstruction_49 cV_LitmusTester_Output_69 (wC_130 zw) rfl rfl (Nat.le_of_ble_eq_true rfl) (Nat.le_of_ble_eq_true rfl) (co_v zf_52 ?_)
      replace zw := zw1
      refine vr_iload_n dX5_putInstruction_52 rfl rfl ?_
      refine vr_iconst dX5_putInstruction_53 (v := (3 : Int32)) (by decide) ?_
      refine vr_ic_eq dX5_putInstruction_54 (tgt := 71) rfl (fun zd_53 => ?_) (fun zd_53 => ?_)
      · replace zh := zh.1 zd_53
        refine vr_aload_n dX5_putInstruction_71 rfl rfl ?_
        refine vr_aload_n dX5_putInstruction_72 rfl rfl ?_
        refine vr_iload_n dX5_putInstruction_73 rfl rfl ?_
        refine vr_iconst dX5_putInstruction_74 (v := (4 : Int32)) (by decide) ?_
        obtain ⟨v56, s54, zw1, zf_55, zh⟩ := zh
        refine vc_V (As := [.int l2, .int (4 : Int32)]) (rest := [.ref 130]) dX5_putInstruction_75 cV_LitmusTester_Output_57 (wC_132 zw) rfl rfl (Nat.le_of_ble_eq_true rfl) (Nat.le_of_ble_eq_true rfl) (co_n zf_55 ?_)
        replace zw := zw1
        obtain ⟨s57, zw1, zf_58, zh⟩ := zh
        refine vc_V (As := [.int v56]) (rest := []) dX5_putInstruction_78 cV_LitmusTester_Output_54 (wC_130 zw) rfl rfl (Nat.le_of_ble_eq_true rfl) (Nat.le_of_ble_eq_true rfl) (co_v zf_58 ?_)
        replace zw := zw1
        refine vr_aload_n dX5_putInstruction_81 rfl rfl ?_
        refine vr_aload_n dX5_putInstruction_82 rfl rfl ?_
        refine vr_iload_n dX5_putInstruction_83 rfl rfl ?_
        refine vr_iconst dX5_putInstruction_84 (v := (5 : Int32)) (by decide) ?_
        obtain ⟨v61, s59, zw1, zf_60, zh⟩ := zh
        refine vc_V (As := [.int l2, .int (5 : Int32)]) (rest := [.ref 130]) dX5_putInstruction_85 cV_LitmusTester_Output_57 (wC_132 zw) rfl rfl (Nat.le_of_ble_eq_true rfl) (Nat.le_of_ble_eq_true rfl) (co_n zf_60 ?_)
        replace zw := zw1
        obtain ⟨s62, zw1, zf_63, zh⟩ := zh
        refine vc_V (As := [.int v61]) (rest := []) dX5_putInstruction_88 cV_LitmusTester_Output_69 (wC_130 zw) rfl rfl (Nat.le_of_ble_eq_true rfl) (Nat.le_of_ble_eq_true rfl) (co_v zf_63 ?_)
        replace zw := zw1
        refine vr_aload_n dX5_putInstruction_91 rfl rfl ?_
        refine vr_bipush dX5_putInstruction_92 (v := (59 : Int32)) (by decide) ?_
        obtain ⟨s64, zw1, zf_65, zh⟩ := zh
        refine vc_V (As := [.int (59 : Int32)]) (rest := []) dX5_putInstruction_94 cV_LitmusTester_Output_28 (wC_130 zw) rfl rfl (Nat.le_of_ble_eq_true rfl) (Nat.le_of_ble_eq_true rfl) (co_v zf_65 ?_)
        replace zw := zw1
        exact vr_vret dX5_putInstruction_97 rfl zh
      · replace zh := zh.2 zd_53
        refine vr_aload_n dX5_putInstruction_57 rfl rfl ?_
        refine vr_aload_n dX5_putInstruction_58 rfl rfl ?_
        refine vr_aload_n dX5_putInstruction_59 rfl rfl ?_
        refine vr_iload_n dX5_putInstruction_60 rfl rfl ?_
        refine vr_iconst dX5_putInstruction_61 (v := (2 : Int32)) (by decide) ?_
        obtain ⟨v68, s66, zw1, zf_67, zh⟩ := zh
        refine vc_V (As := [.int l2, .int (2 : Int32)]) (rest := [.ref 132, .ref 130]) dX5_putInstruction_62 cV_LitmusTester_Output_57 (wC_132 zw) rfl rfl (Nat.le_of_ble_eq_true rfl) (Nat.le_of_ble_eq_true rfl) (co_n zf_67 ?_)
        replace zw := zw1
        obtain ⟨v71, s69, zw1, zf_70, zh⟩ := zh
        refine vc_V (As := [.int v68]) (rest := [.ref 130]) dX5_putInstruction_65 cV_LitmusTester_Output_40 (wC_132 zw) rfl rfl (Nat.le_of_ble_eq_true rfl) (Nat.le_of_ble_eq_true rfl) (co_n zf_70 ?_)
        replace zw := zw1
        obtain ⟨s72, zw1, zf_73, zh⟩ := zh
        refine vc_V (As := [.long v71]) (rest := []) dX5_putInstruction_68 cV_LitmusTester_Output_46 (wC_130 zw) rfl rfl (Nat.le_of_ble_eq_true rfl) (Nat.le_of_ble_eq_true rfl) (co_v zf_73 ?_)
        replace zw := zw1
        refine vr_aload_n dX5_putInstruction_71 rfl rfl ?_
        refine vr_aload_n dX5_putInstruction_72 rfl rfl ?_
        refine vr_iload_n dX5_putInstruction_73 rfl rfl ?_
        refine vr_iconst dX5_putInstruction_74 (v := (4 : Int32)) (by decide) ?_
        obtain ⟨v76, s74, zw1, zf_75, zh⟩ := zh
        refine vc_V (As := [.int l2, .int (4 : Int32)]) (rest := [.ref 130]) dX5_putInstruction_75 cV_LitmusTester_Output_57 (wC_132 zw) rfl rfl (Nat.le_of_ble_eq_true rfl) (Nat.le_of_ble_eq_true rfl) (co_n zf_75 ?_)
        replace zw := zw1
        obtain ⟨s77, zw1, zf_78, zh⟩ := zh
        refine vc_V (As := [.int v76]) (rest := []) dX5_putInstruction_78 cV_LitmusTester_Output_54 (wC_130 zw) rfl rfl (Nat.le_of_ble_eq_true rfl) (Nat.le_of_ble_eq_true rfl) (co_v zf_78 ?_)
        replace zw := zw1
        refine vr_aload_n dX5_putInstruction_81 rfl rfl ?_
        refine vr_aload_n dX5_putInstruction_82 rfl rfl ?_
        refine vr_iload_n dX5_putInstruction_83 rfl rfl ?_
        refine vr_iconst dX5_putInstruction_84 (v := (5 : Int32)) (by decide) ?_
        obtain ⟨v81, s79, zw1, zf_80, zh⟩ := zh
        refine vc_V (As := [.int l2, .int (5 : Int32)]) (rest := [.ref 130]) dX5_putInstruction_85 cV_LitmusTester_Output_57 (wC_132 zw) rfl rfl (Nat.le_of_ble_eq_true rfl) (Nat.le_of_ble_eq_true rfl) (co_n zf_80 ?_)
        replace zw := zw1
        obtain ⟨s82, zw1, zf_83, zh⟩ := zh
        refine vc_V (As := [.int v81]) (rest := []) dX5_putInstruction_88 cV_LitmusTester_Output_69 (wC_130 zw) rfl rfl (Nat.le_of_ble_eq_true rfl) (Nat.le_of_ble_eq_true rfl) (co_v zf_83 ?_)
        replace zw := zw1
        refine vr_aload_n dX5_putInstruction_91 rfl rfl ?_
        refine vr_bipush dX5_putInstruction_92 (v := (59 : Int32)) (by decide) ?_
        obtain ⟨s84, zw1, zf_85, zh⟩ := zh
        refine vc_V (As := [.int (59 : Int32)]) (rest := []) dX5_putInstruction_94 cV_LitmusTester_Output_28 (wC_130 zw) rfl rfl (Nat.le_of_ble_eq_true rfl) (Nat.le_of_ble_eq_true rfl) (co_v zf_85 ?_)
        replace zw := zw1
        exact vr_vret dX5_putInstruction_97 rfl zh
  · replace zh := zh.1 zd_4
    refine vr_ldcS dX5_putInstruction_12 (i := 13) (by decide) rfl rfl ?_
    refine vr_goto dX5_putInstruction_14 (tgt := 39) rfl ?_
    obtain ⟨s5, zw1, zf_6, zh⟩ := zh
    refine vc_V (As := [.ref (30 + 13)]) (rest := []) dX5_putInstruction_39 cV_LitmusTester_Output_32 (wC_130 zw) rfl rfl (Nat.le_of_ble_eq_true rfl) (Nat.le_of_ble_eq_true rfl) (co_v zf_6 ?_)
    replace zw := zw1
    refine vr_aload_n dX5_putInstruction_42 rfl rfl ?_
    refine vr_aload_n dX5_putInstruction_43 rfl rfl ?_
    refine vr_iload_n dX5_putInstruction_44 rfl rfl ?_
    refine vr_iconst dX5_putInstruction_45 (v := (3 : Int32)) (by decide) ?_
    obtain ⟨v9, s7, zw1, zf_8, zh⟩ := zh
    refine vc_V (As := [.int l2, .int (3 : Int32)]) (rest := [.ref 130]) dX5_putInstruction_46 cV_LitmusTester_Output_57 (wC_132 zw) rfl rfl (Nat.le_of_ble_eq_true rfl) (Nat.le_of_ble_eq_true rfl) (co_n zf_8 ?_)
    replace zw := zw1
    obtain ⟨s10, zw1, zf_11, zh⟩ := zh
    refine vc_V (As := [.int v9]) (rest := []) dX5_putInstruction_49 cV_LitmusTester_Output_69 (wC_130 zw) rfl rfl (Nat.le_of_ble_eq_true rfl) (Nat.le_of_ble_eq_true rfl) (co_v zf_11 ?_)
    replace zw := zw1
    refine vr_iload_n dX5_putInstruction_52 rfl rfl ?_
    refine vr_iconst dX5_putInstruction_53 (v := (3 : Int32)) (by decide) ?_
    refine vr_ic_eq dX5_putInstruction_54 (tgt := 71) rfl (fun zd_12 => ?_) (fun zd_12 => ?_)
    · replace zh := zh.1 zd_12
      refine vr_aload_n dX5_putInstruction_71 rfl rfl ?_
      refine vr_aload_n dX5_putInstruction_72 rfl rfl ?_
      refine vr_iload_n dX5_putInstruction_73 rfl rfl ?_
      refine vr_iconst dX5_putInstruction_74 (v := (4 : Int32)) (by decide) ?_
      obtain ⟨v15, s13, zw1, zf_14, zh⟩ := zh
      refine vc_V (As := [.int l2, .int (4 : Int32)]) (rest := [.ref 130]) dX5_putInstruction_75 cV_LitmusTester_Output_57 (wC_132 zw) rfl rfl (Nat.le_of_ble_eq_true rfl) (Nat.le_of_ble_eq_true rfl) (co_n zf_14 ?_)
      replace zw := zw1
      obtain ⟨s16, zw1, zf_17, zh⟩ := zh
      refine vc_V (As := [.int v15]) (rest := []) dX5_putInstruction_78 cV_LitmusTester_Output_54 (wC_130 zw) rfl rfl (Nat.le_of_ble_eq_true rfl) (Nat.le_of_ble_eq_true rfl) (co_v zf_17 ?_)
      replace zw := zw1
      refine vr_aload_n dX5_putInstruction_81 rfl rfl ?_
      refine vr_aload_n dX5_putInstruction_82 rfl rfl ?_
      refine vr_iload_n dX5_putInstruction_83 rfl rfl ?_
      refine vr_iconst dX5_putInstruction_84 (v := (5 : Int32)) (by decide) ?_
      obtain ⟨v20, s18, zw1, zf_19, zh⟩ := zh
      refine vc_V (As := [.int l2, .int (5 : Int32)]) (rest := [.ref 130]) dX5_putInstruction_85 cV_LitmusTester_Output_57 (wC_132 zw) rfl rfl (Nat.le_of_ble_eq_true rfl) (Nat.le_of_ble_eq_true rfl) (co_n zf_19 ?_)
      replace zw := zw1
      obtain ⟨s21, zw1, zf_22, zh⟩ := zh
      refine vc_V (As := [.int v20]) (rest := []) dX5_putInstruction_88 cV_LitmusTester_Output_69 (wC_130 zw) rfl rfl (Nat.le_of_ble_eq_true rfl) (Nat.le_of_ble_eq_true rfl) (co_v zf_22 ?_)
      replace zw := zw1
      refine vr_aload_n dX5_putInstruction_91 rfl rfl ?_
      refine vr_bipush dX5_putInstruction_92 (v := (59 : Int32)) (by decide) ?_
      obtain ⟨s23, zw1, zf_24, zh⟩ := zh
      refine vc_V (As := [.int (59 : Int32)]) (rest := []) dX5_putInstruction_94 cV_LitmusTester_Output_28 (wC_130 zw) rfl rfl (Nat.le_of_ble_eq_true rfl) (Nat.le_of_ble_eq_true rfl) (co_v zf_24 ?_)
      replace zw := zw1
      exact vr_vret dX5_putInstruction_97 rfl zh
    · replace zh := zh.2 zd_12
      refine vr_aload_n dX5_putInstruction_57 rfl rfl ?_
      refine vr_aload_n dX5_putInstruction_58 rfl rfl ?_
      refine vr_aload_n dX5_putInstruction_59 rfl rfl ?_
      refine vr_iload_n dX5_putInstruction_60 rfl rfl ?_
      refine vr_iconst dX5_putInstruction_61 (v := (2 : Int32)) (by decide) ?_
      obtain ⟨v27, s25, zw1, zf_26, zh⟩ := zh
      refine vc_V (As := [.int l2, .int (2 : Int32)]) (rest := [.ref 132, .ref 130]) dX5_putInstruction_62 cV_LitmusTester_Output_57 (wC_132 zw) rfl rfl (Nat.le_of_ble_eq_true rfl) (Nat.le_of_ble_eq_true rfl) (co_n zf_26 ?_)
      replace zw := zw1
      obtain ⟨v30, s28, zw1, zf_29, zh⟩ := zh
      refine vc_V (As := [.int v27]) (rest := [.ref 130]) dX5_putInstruction_65 cV_LitmusTester_Output_40 (wC_132 zw) rfl rfl (Nat.le_of_ble_eq_true rfl) (Nat.le_of_ble_eq_true rfl) (co_n zf_29 ?_)
      replace zw := zw1
      obtain ⟨s31, zw1, zf_32, zh⟩ := zh
      refine vc_V (As := [.long v30]) (rest := []) dX5_putInstruction_68 cV_LitmusTester_Output_46 (wC_130 zw) rfl rfl (Nat.le_of_ble_eq_true rfl) (Nat.le_of_ble_eq_true rfl) (co_v zf_32 ?_)
      replace zw := zw1
      refine vr_aload_n dX5_putInstruction_71 rfl rfl ?_
      refine vr_aload_n dX5_putInstruction_72 rfl rfl ?_
      refine vr_iload_n dX5_putInstruction_73 rfl rfl ?_
      refine vr_iconst dX5_putInstruction_74 (v := (4 : Int32)) (by decide) ?_
      obtain ⟨v35, s33, zw1, zf_34, zh⟩ := zh
      refine vc_V (As := [.int l2, .int (4 : Int32)]) (rest := [.ref 130]) dX5_putInstruction_75 cV_LitmusTester_Output_57 (wC_132 zw) rfl rfl (Nat.le_of_ble_eq_true rfl) (Nat.le_of_ble_eq_true rfl) (co_n zf_34 ?_)
      replace zw := zw1
      obtain ⟨s36, zw1, zf_37, zh⟩ := zh
      refine vc_V (As := [.int v35]) (rest := []) dX5_putInstruction_78 cV_LitmusTester_Output_54 (wC_130 zw) rfl rfl (Nat.le_of_ble_eq_true rfl) (Nat.le_of_ble_eq_true rfl) (co_v zf_37 ?_)
      replace zw := zw1
      refine vr_aload_n dX5_putInstruction_81 rfl rfl ?_
      refine vr_aload_n dX5_putInstruction_82 rfl rfl ?_
      refine vr_iload_n dX5_putInstruction_83 rfl rfl ?_
      refine vr_iconst dX5_putInstruction_84 (v := (5 : Int32)) (by decide) ?_
      obtain ⟨v40, s38, zw1, zf_39, zh⟩ := zh
      refine vc_V (As := [.int l2, .int (5 : Int32)]) (rest := [.ref 130]) dX5_putInstruction_85 cV_LitmusTester_Output_57 (wC_132 zw) rfl rfl (Nat.le_of_ble_eq_true rfl) (Nat.le_of_ble_eq_true rfl) (co_n zf_39 ?_)
      replace zw := zw1
      obtain ⟨s41, zw1, zf_42, zh⟩ := zh
      refine vc_V (As := [.int v40]) (rest := []) dX5_putInstruction_88 cV_LitmusTester_Output_69 (wC_130 zw) rfl rfl (Nat.le_of_ble_eq_true rfl) (Nat.le_of_ble_eq_true rfl) (co_v zf_42 ?_)
      replace zw := zw1
      refine vr_aload_n dX5_putInstruction_91 rfl rfl ?_
      refine vr_bipush dX5_putInstruction_92 (v := (59 : Int32)) (by decide) ?_
      obtain ⟨s43, zw1, zf_44, zh⟩ := zh
      refine vc_V (As := [.int (59 : Int32)]) (rest := []) dX5_putInstruction_94 cV_LitmusTester_Output_28 (wC_130 zw) rfl rfl (Nat.le_of_ble_eq_true rfl) (Nat.le_of_ble_eq_true rfl) (co_v zf_44 ?_)
      replace zw := zw1
      exact vr_vret dX5_putInstruction_97 rfl zh
theorem e_X5_putInstruction {γ : ga_T} {l2 : Int32} {σ : st_T} {Q : rs_T → st_T → Prop} (zw : Wd σ) (zh : p_X5_putInstruction_0 γ l2 σ Q) : sp_ γ m_X5_putInstruction 15 [.ref 130, .ref 132, .int l2] σ Q := sp_of (pl_X5_putInstruction) rfl (Nat.le_of_ble_eq_true rfl) (g_X5_putInstruction_0 zw zh)
