def p_X11_append_0 (γ : ga_T) (l1 : Int32) (l2 : Int32) (l3 : Int32) (l4 : Int32) (l5 : Int32) (σ : st_T) (Q : rs_T → st_T → Prop) : Prop :=
  ((st_I σ 128 1) ≤ (580 : Int32) →
    ∃ s2, Wd s2 ∧ fw_ γ m_X11_putFourBytes 0 [.ref 128, .int l1] σ s2 ∧
    ∃ s4, Wd s4 ∧ fw_ γ m_X11_putFourBytes 0 [.ref 128, .int l2] s2 s4 ∧
    ∃ s6, Wd s6 ∧ fw_ γ m_X11_putFourBytes 0 [.ref 128, .int l3] s4 s6 ∧
    ∃ s8, Wd s8 ∧ fw_ γ m_X11_putFourBytes 0 [.ref 128, .int l4] s6 s8 ∧
    ∃ s10, Wd s10 ∧ fw_ γ m_X11_putFourBytes 0 [.ref 128, .int l5] s8 s10 ∧
    Q (.inl (some (.int (st_I s10 128 1)))) s10
  ) ∧ (¬ (st_I σ 128 1) ≤ (580 : Int32) →
    Q (.inl (some (.int (-1 : Int32)))) σ
  )
set_option maxRecDepth 10000 in
theorem g_X11_append_0 {γ : ga_T} {l1 : Int32} {l2 : Int32} {l3 : Int32} {l4 : Int32} {l5 : Int32} {σ : st_T} {Q : rs_T → st_T → Prop} (zw : Wd σ) (zh : p_X11_append_0 γ l1 l2 l3 l4 l5 σ Q) : vv_ γ m_X11_append 1 0 [(0, .ref 128), (1, .int l1), (2, .int l2), (3, .int l3), (4, .int l4), (5, .int l5)] [] σ Q := by
  unfold p_X11_append_0 at zh
  refine vr_aload_n dX11_append_0 rfl rfl ?_
  refine vr_getI dX11_append_1 fl_LitmusTester_13 (wC_128 zw) rfl ?_
  refine vr_sipush dX11_append_4 (v := (580 : Int32)) (by decide) ?_
  refine vr_ic_le dX11_append_7 (tgt := 12) rfl (fun zd_1 => ?_) (fun zd_1 => ?_)
  · replace zh := zh.1 zd_1
    refine vr_aload_n dX11_append_12 rfl rfl ?_
    refine vr_iload_n dX11_append_13 rfl rfl ?_
    obtain ⟨s2, zw1, zf_3, zh⟩ := zh
    refine vc_V (As := [.int l1]) (rest := []) dX11_append_14 cV_LitmusTester_79 (wC_128 zw) rfl rfl (Nat.le_of_ble_eq_true rfl) (Nat.le_of_ble_eq_true rfl) (co_v zf_3 ?_)
    replace zw := zw1
    refine vr_aload_n dX11_append_17 rfl rfl ?_
    refine vr_iload_n dX11_append_18 rfl rfl ?_
    obtain ⟨s4, zw1, zf_5, zh⟩ := zh
    refine vc_V (As := [.int l2]) (rest := []) dX11_append_19 cV_LitmusTester_79 (wC_128 zw) rfl rfl (Nat.le_of_ble_eq_true rfl) (Nat.le_of_ble_eq_true rfl) (co_v zf_5 ?_)
    replace zw := zw1
    refine vr_aload_n dX11_append_22 rfl rfl ?_
    refine vr_iload_n dX11_append_23 rfl rfl ?_
    obtain ⟨s6, zw1, zf_7, zh⟩ := zh
    refine vc_V (As := [.int l3]) (rest := []) dX11_append_24 cV_LitmusTester_79 (wC_128 zw) rfl rfl (Nat.le_of_ble_eq_true rfl) (Nat.le_of_ble_eq_true rfl) (co_v zf_7 ?_)
    replace zw := zw1
    refine vr_aload_n dX11_append_27 rfl rfl ?_
    refine vr_iload dX11_append_28 rfl ?_
    obtain ⟨s8, zw1, zf_9, zh⟩ := zh
    refine vc_V (As := [.int l4]) (rest := []) dX11_append_30 cV_LitmusTester_79 (wC_128 zw) rfl rfl (Nat.le_of_ble_eq_true rfl) (Nat.le_of_ble_eq_true rfl) (co_v zf_9 ?_)
    replace zw := zw1
    refine vr_aload_n dX11_append_33 rfl rfl ?_
    refine vr_iload dX11_append_34 rfl ?_
    obtain ⟨s10, zw1, zf_11, zh⟩ := zh
    refine vc_V (As := [.int l5]) (rest := []) dX11_append_36 cV_LitmusTester_79 (wC_128 zw) rfl rfl (Nat.le_of_ble_eq_true rfl) (Nat.le_of_ble_eq_true rfl) (co_v zf_11 ?_)
    replace zw := zw1
    refine vr_aload_n dX11_append_39 rfl rfl ?_
    refine vr_getI dX11_append_40 fl_LitmusTester_13 (wC_128 zw) rfl ?_
    exact vr_iret dX11_append_43 rfl zh
  · replace zh := zh.2 zd_1
    refine vr_iconst dX11_append_10 (v := (-1 : Int32)) (by decide) ?_
    exact vr_iret dX11_append_11 rfl zh
theorem e_X11_append {γ : ga_T} {l1 : Int32} {l2 : Int32} {l3 : Int32} {l4 : Int32} {l5 : Int32} {σ : st_T} {Q : rs_T → st_T → Prop} (zw : Wd σ) (zh : p_X11_append_0 γ l1 l2 l3 l4 l5 σ Q) : sp_ γ m_X11_append 1 [.ref 128, .int l1, .int l2, .int l3, .int l4, .int l5] σ Q := sp_of (pl_X11_append) rfl (Nat.le_of_ble_eq_true rfl) (g_X11_append_0 zw zh)
def p_X11_putFourBytes_0 (γ : ga_T) (l1 : Int32) (σ : st_T) (Q : rs_T → st_T → Prop) : Prop :=
  vv_ γ m_X11_putFourBytes 0 3 [(0, .ref 128), (1, .int l1), (2, .int (24 : Int32))] [] σ Q
set_option maxRecDepth 10000 in
theorem g_X11_putFourBytes_0 {γ : ga_T} {l1 : Int32} {σ : st_T} {Q : rs_T → st_T → Prop} (zw : Wd σ) (zh : p_X11_putFourBytes_0 γ l1 σ Q) : vv_ γ m_X11_putFourBytes 0 0 [(0, .ref 128), (1, .int l1)] [] σ Q := by
  unfold p_X11_putFourBytes_0 at zh
  refine vr_bipush dX11_putFourBytes_0 (v := (24 : Int32)) (by decide) ?_
  refine vr_istore_n dX11_putFourBytes_2 rfl (Nat.le_of_ble_eq_true rfl) (vv_eq (ls' := [(0, .ref 128), (1, .int l1), (2, .int (24 : Int32))]) rfl ?_)
  exact vv_sub (ls' := [(0, .ref 128), (1, .int l1), (2, .int (24 : Int32))]) ⟨rfl, rfl, rfl, trivial⟩ zh
theorem e_X11_putFourBytes {γ : ga_T} {l1 : Int32} {σ : st_T} {Q : rs_T → st_T → Prop} (zw : Wd σ) (zh : p_X11_putFourBytes_0 γ l1 σ Q) : sp_ γ m_X11_putFourBytes 0 [.ref 128, .int l1] σ Q := sp_of (pl_X11_putFourBytes) rfl (Nat.le_of_ble_eq_true rfl) (g_X11_putFourBytes_0 zw zh)
def p_X11_putFourBytes_3 (γ : ga_T) (l1 : Int32) (l2 : Int32) (σ : st_T) (Q : rs_T → st_T → Prop) : Prop :=
  (l2 < (0 : Int32) →
    Q (.inl none) σ
  ) ∧ (¬ l2 < (0 : Int32) →
    ((st_I σ 128 1) < (0 : Int32) →
      vv_ γ m_X11_putFourBytes 0 3 [(0, .ref 128), (1, .int l1), (2, .int (l2 + (-8)))] [] σ Q
    ) ∧ (¬ (st_I σ 128 1) < (0 : Int32) →
      ((600 : Int32) ≤ (st_I σ 128 1) →
        vv_ γ m_X11_putFourBytes 0 3 [(0, .ref 128), (1, .int l1), (2, .int (l2 + (-8)))] [] σ Q
      ) ∧ (¬ (600 : Int32) ≤ (st_I σ 128 1) →
        vp_in (st_I σ 128 1) 600 ∧
        vv_ γ m_X11_putFourBytes 0 3 [(0, .ref 128), (1, .int l1), (2, .int (l2 + (-8)))] [] (pt_I (pt_I σ 129 (st_I σ 128 1).toNatClampNeg ((((l1.toUInt32 >>> (l2.toUInt32 &&& Int32.toUInt32 31)).toInt32).toInt8.toInt32).toInt8.toInt32)) 128 1 ((st_I σ 128 1) + (1 : Int32))) Q
      )
    )
  )
set_option maxRecDepth 10000 in
theorem g_X11_putFourBytes_3 {γ : ga_T} {l1 : Int32} {l2 : Int32} {σ : st_T} {Q : rs_T → st_T → Prop} (zw : Wd σ) (zh : p_X11_putFourBytes_3 γ l1 l2 σ Q) : vv_ γ m_X11_putFourBytes 0 3 [(0, .ref 128), (1, .int l1), (2, .int l2)] [] σ Q := by
  unfold p_X11_putFourBytes_3 at zh
  refine vr_iload_n dX11_putFourBytes_3 rfl rfl ?_
  refine vr_if_lt dX11_putFourBytes_4 (tgt := 55) rfl (fun zd_1 => ?_) (fun zd_1 => ?_)
  · replace zh := zh.1 zd_1
    exact vr_vret dX11_putFourBytes_55 rfl zh
  · replace zh := zh.2 zd_1
    refine vr_aload_n dX11_putFourBytes_7 rfl rfl ?_
    refine vr_getI dX11_putFourBytes_8 fl_LitmusTester_13 (wC_128 zw) rfl ?_
    refine vr_if_lt dX11_putFourBytes_11 (tgt := 49) rfl (fun zd_2 => ?_) (fun zd_2 => ?_)
    · replace zh := zh.1 zd_2
      refine vr_iinc dX11_putFourBytes_49 (x := l2) (v := (l2 + (-8))) rfl (ii_ (by decide)) (Nat.le_of_ble_eq_true rfl) (vv_eq (ls' := [(0, .ref 128), (1, .int l1), (2, .int (l2 + (-8)))]) rfl ?_)
      refine vr_goto dX11_putFourBytes_52 (tgt := 3) rfl ?_
      exact vv_sub (ls' := [(0, .ref 128), (1, .int l1), (2, .int (l2 + (-8)))]) ⟨rfl, rfl, rfl, trivial⟩ zh
    · replace zh := zh.2 zd_2
      refine vr_aload_n dX11_putFourBytes_14 rfl rfl ?_
      refine vr_getI dX11_putFourBytes_15 fl_LitmusTester_13 (wC_128 zw) rfl ?_
      refine vr_aload_n dX11_putFourBytes_18 rfl rfl ?_
      refine vr_getR dX11_putFourBytes_19 fl_LitmusTester_9 (wC_128 zw) (Or.inr ⟨_, rfl⟩) (wR_128_0 zw) ?_
      refine vr_alen dX11_putFourBytes_22 (wS_129 zw) (Nat.le_of_ble_eq_true rfl) (Nat.le_of_ble_eq_true rfl) (v := (600 : Int32)) (by decide) ?_
      refine vr_ic_ge dX11_putFourBytes_23 (tgt := 49) rfl (fun zd_3 => ?_) (fun zd_3 => ?_)
      · replace zh := zh.1 zd_3
        refine vr_iinc dX11_putFourBytes_49 (x := l2) (v := (l2 + (-8))) rfl (ii_ (by decide)) (Nat.le_of_ble_eq_true rfl) (vv_eq (ls' := [(0, .ref 128), (1, .int l1), (2, .int (l2 + (-8)))]) rfl ?_)
        refine vr_goto dX11_putFourBytes_52 (tgt := 3) rfl ?_
        exact vv_sub (ls' := [(0, .ref 128), (1, .int l1), (2, .int (l2 + (-8)))]) ⟨rfl, rfl, rfl, trivial⟩ zh
      · replace zh := zh.2 zd_3
        refine vr_aload_n dX11_putFourBytes_26 rfl rfl ?_
        refine vr_getR dX11_putFourBytes_27 fl_LitmusTester_9 (wC_128 zw) (Or.inr ⟨_, rfl⟩) (wR_128_0 zw) ?_
        refine vr_aload_n dX11_putFourBytes_30 rfl rfl ?_
        refine vr_getI dX11_putFourBytes_31 fl_LitmusTester_13 (wC_128 zw) rfl ?_
        refine vr_iload_n dX11_putFourBytes_34 rfl rfl ?_
        refine vr_iload_n dX11_putFourBytes_35 rfl rfl ?_
        refine vr_iushr dX11_putFourBytes_36 ?_
        refine vr_i2b dX11_putFourBytes_37 ?_
        obtain ⟨zi_4, zh⟩ := zh
        refine vr_bastoreB dX11_putFourBytes_38 (wS_129 zw) zi_4 ?_
        refine vr_aload_n dX11_putFourBytes_39 rfl rfl ?_
        refine vr_dup dX11_putFourBytes_40 rfl ?_
        refine vr_getI dX11_putFourBytes_41 fl_LitmusTester_13 (wC_128 zw) rfl ?_
        refine vv_top (w := .int (st_I σ 128 1)) rfl ?_
        refine vr_iconst dX11_putFourBytes_44 (v := (1 : Int32)) (by decide) ?_
        refine vr_iadd dX11_putFourBytes_45 ?_
        refine vr_putI dX11_putFourBytes_46 fl_LitmusTester_13 (wC_128 zw) rfl (fz_10_1) ?_
        refine vr_iinc dX11_putFourBytes_49 (x := l2) (v := (l2 + (-8))) rfl (ii_ (by decide)) (Nat.le_of_ble_eq_true rfl) (vv_eq (ls' := [(0, .ref 128), (1, .int l1), (2, .int (l2 + (-8)))]) rfl ?_)
        refine vr_goto dX11_putFourBytes_52 (tgt := 3) rfl ?_
        exact vv_sub (ls' := [(0, .ref 128), (1, .int l1), (2, .int (l2 + (-8)))]) ⟨rfl, rfl, rfl, trivial⟩ zh
def p_X11_truncate_0 (γ : ga_T) (l1 : Int32) (σ : st_T) (Q : rs_T → st_T → Prop) : Prop :=
  (l1 < (0 : Int32) →
    Q (.inl (some (.int (0 : Int32)))) σ
  ) ∧ (¬ l1 < (0 : Int32) →
    (l1 ≤ (st_I σ 128 1) →
      Q (.inl (some (.int (1 : Int32)))) (pt_I σ 128 1 l1)
    ) ∧ (¬ l1 ≤ (st_I σ 128 1) →
      Q (.inl (some (.int (0 : Int32)))) σ
    )
  )
set_option maxRecDepth 10000 in
theorem g_X11_truncate_0 {γ : ga_T} {l1 : Int32} {σ : st_T} {Q : rs_T → st_T → Prop} (zw : Wd σ) (zh : p_X11_truncate_0 γ l1 σ Q) : vv_ γ m_X11_truncate 0 0 [(0, .ref 128), (1, .int l1)] [] σ Q := by
  unfold p_X11_truncate_0 at zh
  refine vr_iload_n dX11_truncate_0 rfl rfl ?_
  refine vr_if_lt dX11_truncate_1 (tgt := 12) rfl (fun zd_1 => ?_) (fun zd_1 => ?_)
  · replace zh := zh.1 zd_1
    refine vr_iconst dX11_truncate_12 (v := (0 : Int32)) (by decide) ?_
    exact vr_zret dX11_truncate_13 rfl (Or.inl rfl) zh
  · replace zh := zh.2 zd_1
    refine vr_iload_n dX11_truncate_4 rfl rfl ?_
    refine vr_aload_n dX11_truncate_5 rfl rfl ?_
    refine vr_getI dX11_truncate_6 fl_LitmusTester_13 (wC_128 zw) rfl ?_
    refine vr_ic_le dX11_truncate_9 (tgt := 14) rfl (fun zd_2 => ?_) (fun zd_2 => ?_)
    · replace zh := zh.1 zd_2
      refine vr_aload_n dX11_truncate_14 rfl rfl ?_
      refine vr_iload_n dX11_truncate_15 rfl rfl ?_
      refine vr_putI dX11_truncate_16 fl_LitmusTester_13 (wC_128 zw) rfl (fz_10_1) ?_
      refine vr_iconst dX11_truncate_19 (v := (1 : Int32)) (by decide) ?_
      exact vr_zret dX11_truncate_20 rfl (Or.inr rfl) zh
    · replace zh := zh.2 zd_2
      refine vr_iconst dX11_truncate_12 (v := (0 : Int32)) (by decide) ?_
      exact vr_zret dX11_truncate_13 rfl (Or.inl rfl) zh
theorem e_X11_truncate {γ : ga_T} {l1 : Int32} {σ : st_T} {Q : rs_T → st_T → Prop} (zw : Wd σ) (zh : p_X11_truncate_0 γ l1 σ Q) : sp_ γ m_X11_truncate 0 [.ref 128, .int l1] σ Q := sp_of (pl_X11_truncate) rfl (Nat.le_of_ble_eq_true rfl) (g_X11_truncate_0 zw zh)
def p_X11_bufferLength_0 (γ : ga_T) (σ : st_T) (Q : rs_T → st_T → Prop) : Prop :=
  Q (.inl (some (.int (st_I σ 128 1)))) σ
set_option maxRecDepth 10000 in
theorem g_X11_bufferLength_0 {γ : ga_T} {σ : st_T} {Q : rs_T → st_T → Prop} (zw : Wd σ) (zh : p_X11_bufferLength_0 γ σ Q) : vv_ γ m_X11_bufferLength 0 0 [(0, .ref 128)] [] σ Q := by
  unfold p_X11_bufferLength_0 at zh
  refine vr_aload_n dX11_bufferLength_0 rfl rfl ?_
  refine vr_getI dX11_bufferLength_1 fl_LitmusTester_13 (wC_128 zw) rfl ?_
  exact vr_iret dX11_bufferLength_4 rfl zh
theorem e_X11_bufferLength {γ : ga_T} {σ : st_T} {Q : rs_T → st_T → Prop} (zw : Wd σ) (zh : p_X11_bufferLength_0 γ σ Q) : sp_ γ m_X11_bufferLength 0 [.ref 128] σ Q := sp_of (pl_X11_bufferLength) rfl (Nat.le_of_ble_eq_true rfl) (g_X11_bufferLength_0 zw zh)
def p_X11_define_0 (γ : ga_T) (σ : st_T) (Q : rs_T → st_T → Prop) : Prop :=
  ∃ (v3 : Int32) (s1 : st_T), Wd s1 ∧ fn_ γ m_X6_parse 61 [.ref 142, .int (st_I σ 128 1)] (pt_I σ 128 1 (0 : Int32)) (.int v3) s1 ∧
  (v3 = (0 : Int32) →
    ∃ s5, Wd s5 ∧ fw_ γ m_X7_copyFrom 1 [.ref 132, .ref 137] s1 s5 ∧
    ∃ s7, Wd s7 ∧ fw_ γ m_X0_clear 0 [.ref 179] s5 s7 ∧
    ∃ s9, Wd s9 ∧ fw_ γ m_X11_forgetWhatWasFound 2 [.ref 128] s7 s9 ∧
    ∃ (v13 : Int32) (s11 : st_T), Wd s11 ∧ fn_ γ m_X7_size 0 [.ref 132] s9 (.int v13) s11 ∧
    Q (.inl (some (.int v13))) s11
  ) ∧ (¬ v3 = (0 : Int32) →
    Q (.inl (some (.int (-v3)))) s1
  )
set_option maxRecDepth 10000 in
theorem g_X11_define_0 {γ : ga_T} {σ : st_T} {Q : rs_T → st_T → Prop} (zw : Wd σ) (zh : p_X11_define_0 γ σ Q) : vv_ γ m_X11_define 62 0 [(0, .ref 128)] [] σ Q := by
  unfold p_X11_define_0 at zh
  refine vr_aload_n dX11_define_0 rfl rfl ?_
  refine vr_getI dX11_define_1 fl_LitmusTester_13 (wC_128 zw) rfl ?_
  refine vr_istore_n dX11_define_4 rfl (Nat.le_of_ble_eq_true rfl) (vv_eq (ls' := [(0, .ref 128), (1, .int (st_I σ 128 1))]) rfl ?_)
  refine vr_aload_n dX11_define_5 rfl rfl ?_
  refine vr_iconst dX11_define_6 (v := (0 : Int32)) (by decide) ?_
  refine vr_putI dX11_define_7 fl_LitmusTester_13 (wC_128 zw) rfl (fz_10_1) ?_
  refine vr_aload_n dX11_define_10 rfl rfl ?_
  refine vr_getR dX11_define_11 fl_LitmusTester_39 (wC_128 zw) (Or.inl ⟨_, rfl⟩) (wR_128_5 zw) ?_
  refine vr_iload_n dX11_define_14 rfl rfl ?_
  obtain ⟨v3, s1, zw1, zf_2, zh⟩ := zh
  refine vc_V (As := [.int (st_I σ 128 1)]) (rest := []) dX11_define_15 cV_LitmusTester_83 (wC_142 zw) rfl rfl (Nat.le_of_ble_eq_true rfl) (Nat.le_of_ble_eq_true rfl) (co_n zf_2 ?_)
  replace zw := zw1
  refine vr_istore_n dX11_define_18 rfl (Nat.le_of_ble_eq_true rfl) (vv_eq (ls' := [(0, .ref 128), (1, .int (st_I σ 128 1)), (2, .int v3)]) rfl ?_)
  refine vr_iload_n dX11_define_19 rfl rfl ?_
  refine vr_if_eq dX11_define_20 (tgt := 26) rfl (fun zd_4 => ?_) (fun zd_4 => ?_)
  · replace zh := zh.1 zd_4
    refine vr_aload_n dX11_define_26 rfl rfl ?_
    refine vr_getR dX11_define_27 fl_LitmusTester_27 (wC_128 zw) (Or.inl ⟨_, rfl⟩) (wR_128_3 zw) ?_
    refine vr_aload_n dX11_define_30 rfl rfl ?_
    refine vr_getR dX11_define_31 fl_LitmusTester_31 (wC_128 zw) (Or.inl ⟨_, rfl⟩) (wR_128_4 zw) ?_
    obtain ⟨s5, zw1, zf_6, zh⟩ := zh
    refine vc_V (As := [.ref 137]) (rest := []) dX11_define_34 cV_LitmusTester_87 (wC_132 zw) rfl rfl (Nat.le_of_ble_eq_true rfl) (Nat.le_of_ble_eq_true rfl) (co_v zf_6 ?_)
    replace zw := zw1
    refine vr_aload_n dX11_define_37 rfl rfl ?_
    refine vr_getR dX11_define_38 fl_LitmusTester_68 (wC_128 zw) (Or.inl ⟨_, rfl⟩) (wR_128_10 zw) ?_
    obtain ⟨s7, zw1, zf_8, zh⟩ := zh
    refine vc_V (As := []) (rest := []) dX11_define_41 cV_LitmusTester_90 (wC_179 zw) rfl rfl (Nat.le_of_ble_eq_true rfl) (Nat.le_of_ble_eq_true rfl) (co_v zf_8 ?_)
    replace zw := zw1
    refine vr_aload_n dX11_define_44 rfl rfl ?_
    obtain ⟨s9, zw1, zf_10, zh⟩ := zh
    refine vc_V (As := []) (rest := []) dX11_define_45 cV_LitmusTester_93 (wC_128 zw) rfl rfl (Nat.le_of_ble_eq_true rfl) (Nat.le_of_ble_eq_true rfl) (co_v zf_10 ?_)
    replace zw := zw1
    refine vr_aload_n dX11_define_48 rfl rfl ?_
    refine vr_getR dX11_define_49 fl_LitmusTester_27 (wC_128 zw) (Or.inl ⟨_, rfl⟩) (wR_128_3 zw) ?_
    obtain ⟨v13, s11, zw1, zf_12, zh⟩ := zh
    refine vc_V (As := []) (rest := []) dX11_define_52 cV_LitmusTester_96 (wC_132 zw) rfl rfl (Nat.le_of_ble_eq_true rfl) (Nat.le_of_ble_eq_true rfl) (co_n zf_12 ?_)
    replace zw := zw1
    exact vr_iret dX11_define_55 rfl zh
  · replace zh := zh.2 zd_4
    refine vr_iload_n dX11_define_23 rfl rfl ?_
    refine vr_ineg dX11_define_24 ?_
    exact vr_iret dX11_define_25 rfl zh
theorem e_X11_define {γ : ga_T} {σ : st_T} {Q : rs_T → st_T → Prop} (zw : Wd σ) (zh : p_X11_define_0 γ σ Q) : sp_ γ m_X11_define 62 [.ref 128] σ Q := sp_of (pl_X11_define) rfl (Nat.le_of_ble_eq_true rfl) (g_X11_define_0 zw zh)
def p_X11_forgetWhatWasFound_0 (γ : ga_T) (σ : st_T) (Q : rs_T → st_T → Prop) : Prop :=
  ∃ s1, Wd s1 ∧ fw_ γ m_X3_forget 1 [.ref 164] σ s1 ∧
  ∃ s3, Wd s3 ∧ fw_ γ m_X3_forget 1 [.ref 169] s1 s3 ∧
  ∃ s5, Wd s5 ∧ fw_ γ m_X3_forget 1 [.ref 174] s3 s5 ∧
  ∃ s7, Wd s7 ∧ fw_ γ m_X1_forget 0 [.ref 181] s5 s7 ∧
  Q (.inl none) s7
set_option maxRecDepth 10000 in
theorem g_X11_forgetWhatWasFound_0 {γ : ga_T} {σ : st_T} {Q : rs_T → st_T → Prop} (zw : Wd σ) (zh : p_X11_forgetWhatWasFound_0 γ σ Q) : vv_ γ m_X11_forgetWhatWasFound 2 0 [(0, .ref 128)] [] σ Q := by
  unfold p_X11_forgetWhatWasFound_0 at zh
  refine vr_aload_n dX11_forgetWhatWasFound_0 rfl rfl ?_
  refine vr_getR dX11_forgetWhatWasFound_1 fl_LitmusTester_55 (wC_128 zw) (Or.inl ⟨_, rfl⟩) (wR_128_7 zw) ?_
  obtain ⟨s1, zw1, zf_2, zh⟩ := zh
  refine vc_V (As := []) (rest := []) dX11_forgetWhatWasFound_4 cV_LitmusTester_100 (wC_164 zw) rfl rfl (Nat.le_of_ble_eq_true rfl) (Nat.le_of_ble_eq_true rfl) (co_v zf_2 ?_)
  replace zw := zw1
  refine vr_aload_n dX11_forgetWhatWasFound_7 rfl rfl ?_
  refine vr_getR dX11_forgetWhatWasFound_8 fl_LitmusTester_59 (wC_128 zw) (Or.inl ⟨_, rfl⟩) (wR_128_8 zw) ?_
  obtain ⟨s3, zw1, zf_4, zh⟩ := zh
  refine vc_V (As := []) (rest := []) dX11_forgetWhatWasFound_11 cV_LitmusTester_100 (wC_169 zw) rfl rfl (Nat.le_of_ble_eq_true rfl) (Nat.le_of_ble_eq_true rfl) (co_v zf_4 ?_)
  replace zw := zw1
  refine vr_aload_n dX11_forgetWhatWasFound_14 rfl rfl ?_
  refine vr_getR dX11_forgetWhatWasFound_15 fl_LitmusTester_62 (wC_128 zw) (Or.inl ⟨_, rfl⟩) (wR_128_9 zw) ?_
  obtain ⟨s5, zw1, zf_6, zh⟩ := zh
  refine vc_V (As := []) (rest := []) dX11_forgetWhatWasFound_18 cV_LitmusTester_100 (wC_174 zw) rfl rfl (Nat.le_of_ble_eq_true rfl) (Nat.le_of_ble_eq_true rfl) (co_v zf_6 ?_)
  replace zw := zw1
  refine vr_aload_n dX11_forgetWhatWasFound_21 rfl rfl ?_
  refine vr_getR dX11_forgetWhatWasFound_22 fl_LitmusTester_75 (wC_128 zw) (Or.inl ⟨_, rfl⟩) (wR_128_11 zw) ?_
  obtain ⟨s7, zw1, zf_8, zh⟩ := zh
  refine vc_V (As := []) (rest := []) dX11_forgetWhatWasFound_25 cV_LitmusTester_103 (wC_181 zw) rfl rfl (Nat.le_of_ble_eq_true rfl) (Nat.le_of_ble_eq_true rfl) (co_v zf_8 ?_)
  replace zw := zw1
  exact vr_vret dX11_forgetWhatWasFound_28 rfl zh
theorem e_X11_forgetWhatWasFound {γ : ga_T} {σ : st_T} {Q : rs_T → st_T → Prop} (zw : Wd σ) (zh : p_X11_forgetWhatWasFound_0 γ σ Q) : sp_ γ m_X11_forgetWhatWasFound 2 [.ref 128] σ Q := sp_of (pl_X11_forgetWhatWasFound) rfl (Nat.le_of_ble_eq_true rfl) (g_X11_forgetWhatWasFound_0 zw zh)
def p_X11_threadCount_0 (γ : ga_T) (σ : st_T) (Q : rs_T → st_T → Prop) : Prop :=
  ∃ (v3 : Int32) (s1 : st_T), Wd s1 ∧ fn_ γ m_X7_threads 0 [.ref 132] σ (.int v3) s1 ∧
  Q (.inl (some (.int v3))) s1
set_option maxRecDepth 10000 in
theorem g_X11_threadCount_0 {γ : ga_T} {σ : st_T} {Q : rs_T → st_T → Prop} (zw : Wd σ) (zh : p_X11_threadCount_0 γ σ Q) : vv_ γ m_X11_threadCount 1 0 [(0, .ref 128)] [] σ Q := by
  unfold p_X11_threadCount_0 at zh
  refine vr_aload_n dX11_threadCount_0 rfl rfl ?_
  refine vr_getR dX11_threadCount_1 fl_LitmusTester_27 (wC_128 zw) (Or.inl ⟨_, rfl⟩) (wR_128_3 zw) ?_
  obtain ⟨v3, s1, zw1, zf_2, zh⟩ := zh
  refine vc_V (As := []) (rest := []) dX11_threadCount_4 cV_LitmusTester_104 (wC_132 zw) rfl rfl (Nat.le_of_ble_eq_true rfl) (Nat.le_of_ble_eq_true rfl) (co_n zf_2 ?_)
  replace zw := zw1
  exact vr_iret dX11_threadCount_7 rfl zh
theorem e_X11_threadCount {γ : ga_T} {σ : st_T} {Q : rs_T → st_T → Prop} (zw : Wd σ) (zh : p_X11_threadCount_0 γ σ Q) : sp_ γ m_X11_threadCount 1 [.ref 128] σ Q := sp_of (pl_X11_threadCount) rfl (Nat.le_of_ble_eq_true rfl) (g_X11_threadCount_0 zw zh)
def p_X11_locationCount_0 (γ : ga_T) (σ : st_T) (Q : rs_T → st_T → Prop) : Prop :=
  ∃ (v3 : Int32) (s1 : st_T), Wd s1 ∧ fn_ γ m_X7_locations 0 [.ref 132] σ (.int v3) s1 ∧
  Q (.inl (some (.int v3))) s1
set_option maxRecDepth 10000 in
theorem g_X11_locationCount_0 {γ : ga_T} {σ : st_T} {Q : rs_T → st_T → Prop} (zw : Wd σ) (zh : p_X11_locationCount_0 γ σ Q) : vv_ γ m_X11_locationCount 1 0 [(0, .ref 128)] [] σ Q := by
  unfold p_X11_locationCount_0 at zh
  refine vr_aload_n dX11_locationCount_0 rfl rfl ?_
  refine vr_getR dX11_locationCount_1 fl_LitmusTester_27 (wC_128 zw) (Or.inl ⟨_, rfl⟩) (wR_128_3 zw) ?_
  obtain ⟨v3, s1, zw1, zf_2, zh⟩ := zh
  refine vc_V (As := []) (rest := []) dX11_locationCount_4 cV_LitmusTester_107 (wC_132 zw) rfl rfl (Nat.le_of_ble_eq_true rfl) (Nat.le_of_ble_eq_true rfl) (co_n zf_2 ?_)
  replace zw := zw1
  exact vr_iret dX11_locationCount_7 rfl zh
theorem e_X11_locationCount {γ : ga_T} {σ : st_T} {Q : rs_T → st_T → Prop} (zw : Wd σ) (zh : p_X11_locationCount_0 γ σ Q) : sp_ γ m_X11_locationCount 1 [.ref 128] σ Q := sp_of (pl_X11_locationCount) rfl (Nat.le_of_ble_eq_true rfl) (g_X11_locationCount_0 zw zh)
def p_X11_instructionCount_0 (γ : ga_T) (σ : st_T) (Q : rs_T → st_T → Prop) : Prop :=
  ∃ (v3 : Int32) (s1 : st_T), Wd s1 ∧ fn_ γ m_X7_size 0 [.ref 132] σ (.int v3) s1 ∧
  Q (.inl (some (.int v3))) s1
set_option maxRecDepth 10000 in
theorem g_X11_instructionCount_0 {γ : ga_T} {σ : st_T} {Q : rs_T → st_T → Prop} (zw : Wd σ) (zh : p_X11_instructionCount_0 γ σ Q) : vv_ γ m_X11_instructionCount 1 0 [(0, .ref 128)] [] σ Q := by
  unfold p_X11_instructionCount_0 at zh
  refine vr_aload_n dX11_instructionCount_0 rfl rfl ?_
  refine vr_getR dX11_instructionCount_1 fl_LitmusTester_27 (wC_128 zw) (Or.inl ⟨_, rfl⟩) (wR_128_3 zw) ?_
  obtain ⟨v3, s1, zw1, zf_2, zh⟩ := zh
  refine vc_V (As := []) (rest := []) dX11_instructionCount_4 cV_LitmusTester_96 (wC_132 zw) rfl rfl (Nat.le_of_ble_eq_true rfl) (Nat.le_of_ble_eq_true rfl) (co_n zf_2 ?_)
  replace zw := zw1
  exact vr_iret dX11_instructionCount_7 rfl zh
theorem e_X11_instructionCount {γ : ga_T} {σ : st_T} {Q : rs_T → st_T → Prop} (zw : Wd σ) (zh : p_X11_instructionCount_0 γ σ Q) : sp_ γ m_X11_instructionCount 1 [.ref 128] σ Q := sp_of (pl_X11_instructionCount) rfl (Nat.le_of_ble_eq_true rfl) (g_X11_instructionCount_0 zw zh)
def p_X11_instruction_0 (γ : ga_T) (l1 : Int32) (l2 : Int32) (σ : st_T) (Q : rs_T → st_T → Prop) : Prop :=
  ((
    ∃ s1, Wd s1 ∧ fw_ γ m_X11_requireInstruction 8 [.ref 128, .int l1] σ s1 ∧
    ∃ (v5 : Int32) (s3 : st_T), Wd s3 ∧ fn_ γ m_X7_property 0 [.ref 132, .int l1, .int l2] s1 (.int v5) s3 ∧
    Q (.inl (some (.int v5))) s3
  ) ∨ (
    ∃ s6, Wd s6 ∧ ft_ γ m_X11_requireInstruction 8 [.ref 128, .int l1] σ "java/lang/IndexOutOfBoundsException" s6 ∧
    Q (.inr "java/lang/IndexOutOfBoundsException") s6
  ))
set_option maxRecDepth 10000 in
theorem g_X11_instruction_0 {γ : ga_T} {l1 : Int32} {l2 : Int32} {σ : st_T} {Q : rs_T → st_T → Prop} (zw : Wd σ) (zh : p_X11_instruction_0 γ l1 l2 σ Q) : vv_ γ m_X11_instruction 9 0 [(0, .ref 128), (1, .int l1), (2, .int l2)] [] σ Q := by
  unfold p_X11_instruction_0 at zh
  refine vr_aload_n dX11_instruction_0 rfl rfl ?_
  refine vr_iload_n dX11_instruction_1 rfl rfl ?_
  rcases zh with zh | zh
  · obtain ⟨s1, zw1, zf_2, zh⟩ := zh
    refine vc_V (As := [.int l1]) (rest := []) dX11_instruction_2 cV_LitmusTester_110 (wC_128 zw) rfl rfl (Nat.le_of_ble_eq_true rfl) (Nat.le_of_ble_eq_true rfl) (co_v zf_2 ?_)
    replace zw := zw1
    refine vr_aload_n dX11_instruction_5 rfl rfl ?_
    refine vr_getR dX11_instruction_6 fl_LitmusTester_27 (wC_128 zw) (Or.inl ⟨_, rfl⟩) (wR_128_3 zw) ?_
    refine vr_iload_n dX11_instruction_9 rfl rfl ?_
    refine vr_iload_n dX11_instruction_10 rfl rfl ?_
    obtain ⟨v5, s3, zw1, zf_4, zh⟩ := zh
    refine vc_V (As := [.int l1, .int l2]) (rest := []) dX11_instruction_11 cV_LitmusTester_113 (wC_132 zw) rfl rfl (Nat.le_of_ble_eq_true rfl) (Nat.le_of_ble_eq_true rfl) (co_n zf_4 ?_)
    replace zw := zw1
    exact vr_iret dX11_instruction_14 rfl zh
  · obtain ⟨s6, zw1, zf_7, zh⟩ := zh
    exact vc_V (As := [.int l1]) (rest := []) dX11_instruction_2 cV_LitmusTester_110 (wC_128 zw) rfl rfl (Nat.le_of_ble_eq_true rfl) (Nat.le_of_ble_eq_true rfl) (co_t zf_7 (vt_out rfl zh))
theorem e_X11_instruction {γ : ga_T} {l1 : Int32} {l2 : Int32} {σ : st_T} {Q : rs_T → st_T → Prop} (zw : Wd σ) (zh : p_X11_instruction_0 γ l1 l2 σ Q) : sp_ γ m_X11_instruction 9 [.ref 128, .int l1, .int l2] σ Q := sp_of (pl_X11_instruction) rfl (Nat.le_of_ble_eq_true rfl) (g_X11_instruction_0 zw zh)
def p_X11_requireInstruction_0 (γ : ga_T) (l1 : Int32) (σ : st_T) (Q : rs_T → st_T → Prop) : Prop :=
  (l1 < (0 : Int32) →
    Q (.inr "java/lang/IndexOutOfBoundsException") (pt_X σ 1 6)
  ) ∧ (¬ l1 < (0 : Int32) →
    ∃ (v4 : Int32) (s2 : st_T), Wd s2 ∧ fn_ γ m_X7_size 0 [.ref 132] σ (.int v4) s2 ∧
    (l1 < v4 →
      Q (.inl none) s2
    ) ∧ (¬ l1 < v4 →
      Q (.inr "java/lang/IndexOutOfBoundsException") (pt_X s2 1 6)
    )
  )
set_option maxRecDepth 10000 in
theorem g_X11_requireInstruction_0 {γ : ga_T} {l1 : Int32} {σ : st_T} {Q : rs_T → st_T → Prop} (zw : Wd σ) (zh : p_X11_requireInstruction_0 γ l1 σ Q) : vv_ γ m_X11_requireInstruction 8 0 [(0, .ref 128), (1, .int l1)] [] σ Q := by
  unfold p_X11_requireInstruction_0 at zh
  refine vr_iload_n dX11_requireInstruction_0 rfl rfl ?_
  refine vr_if_lt dX11_requireInstruction_1 (tgt := 15) rfl (fun zd_1 => ?_) (fun zd_1 => ?_)
  · replace zh := zh.1 zd_1
    exact vr_throw dX11_requireInstruction_15 dX11_requireInstruction_18 dX11_requireInstruction_19 dX11_requireInstruction_21 dX11_requireInstruction_24 rfl th_LitmusTester_117_121 (i := 0) (by decide) rfl rfl (Nat.le_of_ble_eq_true rfl) (Nat.le_of_ble_eq_true rfl) zh
  · replace zh := zh.2 zd_1
    refine vr_iload_n dX11_requireInstruction_4 rfl rfl ?_
    refine vr_aload_n dX11_requireInstruction_5 rfl rfl ?_
    refine vr_getR dX11_requireInstruction_6 fl_LitmusTester_27 (wC_128 zw) (Or.inl ⟨_, rfl⟩) (wR_128_3 zw) ?_
    obtain ⟨v4, s2, zw1, zf_3, zh⟩ := zh
    refine vc_V (As := []) (rest := [.int l1]) dX11_requireInstruction_9 cV_LitmusTester_96 (wC_132 zw) rfl rfl (Nat.le_of_ble_eq_true rfl) (Nat.le_of_ble_eq_true rfl) (co_n zf_3 ?_)
    replace zw := zw1
    refine vr_ic_lt dX11_requireInstruction_12 (tgt := 25) rfl (fun zd_5 => ?_) (fun zd_5 => ?_)
    · replace zh := zh.1 zd_5
      exact vr_vret dX11_requireInstruction_25 rfl zh
    · replace zh := zh.2 zd_5
      exact vr_throw dX11_requireInstruction_15 dX11_requireInstruction_18 dX11_requireInstruction_19 dX11_requireInstruction_21 dX11_requireInstruction_24 rfl th_LitmusTester_117_121 (i := 0) (by decide) rfl rfl (Nat.le_of_ble_eq_true rfl) (Nat.le_of_ble_eq_true rfl) zh
theorem e_X11_requireInstruction {γ : ga_T} {l1 : Int32} {σ : st_T} {Q : rs_T → st_T → Prop} (zw : Wd σ) (zh : p_X11_requireInstruction_0 γ l1 σ Q) : sp_ γ m_X11_requireInstruction 8 [.ref 128, .int l1] σ Q := sp_of (pl_X11_requireInstruction) rfl (Nat.le_of_ble_eq_true rfl) (g_X11_requireInstruction_0 zw zh)
def p_X11_findLocation_0 (γ : ga_T) (σ : st_T) (Q : rs_T → st_T → Prop) : Prop :=
  ((st_I σ 128 1) ≤ (8 : Int32) →
    vv_ γ m_X11_findLocation 1 23 [(0, .ref 128), (1, .int (st_I σ 128 1)), (2, .long (0 : Int64)), (4, .int (0 : Int32))] [] (pt_I σ 128 1 (0 : Int32)) Q
  ) ∧ (¬ (st_I σ 128 1) ≤ (8 : Int32) →
    Q (.inl (some (.int (-1 : Int32)))) (pt_I σ 128 1 (0 : Int32))
  )
set_option maxRecDepth 10000 in
theorem g_X11_findLocation_0 {γ : ga_T} {σ : st_T} {Q : rs_T → st_T → Prop} (zw : Wd σ) (zh : p_X11_findLocation_0 γ σ Q) : vv_ γ m_X11_findLocation 1 0 [(0, .ref 128)] [] σ Q := by
  unfold p_X11_findLocation_0 at zh
  refine vr_aload_n dX11_findLocation_0 rfl rfl ?_
  refine vr_getI dX11_findLocation_1 fl_LitmusTester_13 (wC_128 zw) rfl ?_
  refine vr_istore_n dX11_findLocation_4 rfl (Nat.le_of_ble_eq_true rfl) (vv_eq (ls' := [(0, .ref 128), (1, .int (st_I σ 128 1))]) rfl ?_)
  refine vr_aload_n dX11_findLocation_5 rfl rfl ?_
  refine vr_iconst dX11_findLocation_6 (v := (0 : Int32)) (by decide) ?_
  refine vr_putI dX11_findLocation_7 fl_LitmusTester_13 (wC_128 zw) rfl (fz_10_1) ?_
  refine vr_iload_n dX11_findLocation_10 rfl rfl ?_
  refine vr_bipush dX11_findLocation_11 (v := (8 : Int32)) (by decide) ?_
  refine vr_ic_le dX11_findLocation_13 (tgt := 18) rfl (fun zd_1 => ?_) (fun zd_1 => ?_)
  · replace zh := zh.1 zd_1
    refine vr_lconst dX11_findLocation_18 (v := (0 : Int64)) (by decide) ?_
    refine vr_lstore_n dX11_findLocation_19 rfl (Nat.le_of_ble_eq_true rfl) (vv_eq (ls' := [(0, .ref 128), (1, .int (st_I σ 128 1)), (2, .long (0 : Int64))]) rfl ?_)
    refine vr_iconst dX11_findLocation_20 (v := (0 : Int32)) (by decide) ?_
    refine vr_istore dX11_findLocation_21 (Nat.le_of_ble_eq_true rfl) (vv_eq (ls' := [(0, .ref 128), (1, .int (st_I σ 128 1)), (2, .long (0 : Int64)), (4, .int (0 : Int32))]) rfl ?_)
    exact vv_sub (ls' := [(0, .ref 128), (1, .int (st_I σ 128 1)), (2, .long (0 : Int64)), (4, .int (0 : Int32))]) ⟨rfl, rfl, rfl, rfl, trivial⟩ zh
  · replace zh := zh.2 zd_1
    refine vr_iconst dX11_findLocation_16 (v := (-1 : Int32)) (by decide) ?_
    exact vr_iret dX11_findLocation_17 rfl zh
theorem e_X11_findLocation {γ : ga_T} {σ : st_T} {Q : rs_T → st_T → Prop} (zw : Wd σ) (zh : p_X11_findLocation_0 γ σ Q) : sp_ γ m_X11_findLocation 1 [.ref 128] σ Q := sp_of (pl_X11_findLocation) rfl (Nat.le_of_ble_eq_true rfl) (g_X11_findLocation_0 zw zh)
def p_X11_findLocation_23 (γ : ga_T) (l1 : Int32) (l2 : Int64) (l4 : Int32) (σ : st_T) (Q : rs_T → st_T → Prop) : Prop :=
  (l1 ≤ l4 →
    ∃ (v4 : Int32) (s2 : st_T), Wd s2 ∧ fn_ γ m_X7_locationNamed 0 [.ref 132, .long l2] σ (.int v4) s2 ∧
    Q (.inl (some (.int v4))) s2
  ) ∧ (¬ l1 ≤ l4 →
    ((600 : Int32) ≤ l4 →
      ∃ (v8 : Int32) (s6 : st_T), Wd s6 ∧ fn_ γ m_X7_locationNamed 0 [.ref 132, .long l2] σ (.int v8) s6 ∧
      Q (.inl (some (.int v8))) s6
    ) ∧ (¬ (600 : Int32) ≤ l4 →
      vp_in l4 600 ∧
      ∃ (v12 : Int32) (s10 : st_T), Wd s10 ∧ fn_ γ m_X10_isLetter 0 [.int (st_I σ 129 l4.toNatClampNeg)] σ (.int v12) s10 ∧
      (v12 = (0 : Int32) →
        Q (.inl (some (.int (-1 : Int32)))) s10
      ) ∧ (¬ v12 = (0 : Int32) →
        vp_in l4 600 ∧
        ∃ (v17 : Int64) (s15 : st_T), Wd s15 ∧ fn_ γ m_X10_withLetter 0 [.long l2, .int (st_I s10 129 l4.toNatClampNeg)] s10 (.long v17) s15 ∧
        vv_ γ m_X11_findLocation 1 23 [(0, .ref 128), (1, .int l1), (2, .long v17), (4, .int (l4 + 1))] [] s15 Q
      )
    )
  )
set_option maxRecDepth 10000 in
theorem g_X11_findLocation_23 {γ : ga_T} {l1 : Int32} {l2 : Int64} {l4 : Int32} {σ : st_T} {Q : rs_T → st_T → Prop} (zw : Wd σ) (zh : p_X11_findLocation_23 γ l1 l2 l4 σ Q) : vv_ γ m_X11_findLocation 1 23 [(0, .ref 128), (1, .int l1), (2, .long l2), (4, .int l4)] [] σ Q := by
  unfold p_X11_findLocation_23 at zh
  refine vr_iload dX11_findLocation_23 rfl ?_
  refine vr_iload_n dX11_findLocation_25 rfl rfl ?_
  refine vr_ic_ge dX11_findLocation_26 (tgt := 72) rfl (fun zd_1 => ?_) (fun zd_1 => ?_)
  · replace zh := zh.1 zd_1
    refine vr_aload_n dX11_findLocation_72 rfl rfl ?_
    refine vr_getR dX11_findLocation_73 fl_LitmusTester_27 (wC_128 zw) (Or.inl ⟨_, rfl⟩) (wR_128_3 zw) ?_
    refine vr_lload_n dX11_findLocation_76 rfl rfl ?_
    obtain ⟨v4, s2, zw1, zf_3, zh⟩ := zh
    refine vc_V (As := [.long l2]) (rest := []) dX11_findLocation_77 cV_LitmusTester_134 (wC_132 zw) rfl rfl (Nat.le_of_ble_eq_true rfl) (Nat.le_of_ble_eq_true rfl) (co_n zf_3 ?_)
    replace zw := zw1
    exact vr_iret dX11_findLocation_80 rfl zh
  · replace zh := zh.2 zd_1
    refine vr_iload dX11_findLocation_29 rfl ?_
    refine vr_aload_n dX11_findLocation_31 rfl rfl ?_
    refine vr_getR dX11_findLocation_32 fl_LitmusTester_9 (wC_128 zw) (Or.inr ⟨_, rfl⟩) (wR_128_0 zw) ?_
    refine vr_alen dX11_findLocation_35 (wS_129 zw) (Nat.le_of_ble_eq_true rfl) (Nat.le_of_ble_eq_true rfl) (v := (600 : Int32)) (by decide) ?_
    refine vr_ic_ge dX11_findLocation_36 (tgt := 72) rfl (fun zd_5 => ?_) (fun zd_5 => ?_)
    · replace zh := zh.1 zd_5
      refine vr_aload_n dX11_findLocation_72 rfl rfl ?_
      refine vr_getR dX11_findLocation_73 fl_LitmusTester_27 (wC_128 zw) (Or.inl ⟨_, rfl⟩) (wR_128_3 zw) ?_
      refine vr_lload_n dX11_findLocation_76 rfl rfl ?_
      obtain ⟨v8, s6, zw1, zf_7, zh⟩ := zh
      refine vc_V (As := [.long l2]) (rest := []) dX11_findLocation_77 cV_LitmusTester_134 (wC_132 zw) rfl rfl (Nat.le_of_ble_eq_true rfl) (Nat.le_of_ble_eq_true rfl) (co_n zf_7 ?_)
      replace zw := zw1
      exact vr_iret dX11_findLocation_80 rfl zh
    · replace zh := zh.2 zd_5
      refine vr_aload_n dX11_findLocation_39 rfl rfl ?_
      refine vr_getR dX11_findLocation_40 fl_LitmusTester_9 (wC_128 zw) (Or.inr ⟨_, rfl⟩) (wR_128_0 zw) ?_
      refine vr_iload dX11_findLocation_43 rfl ?_
      obtain ⟨zi_9, zh⟩ := zh
      refine vr_baload dX11_findLocation_45 (Or.inl (wS_129 zw)) zi_9 ?_
      obtain ⟨v12, s10, zw1, zf_11, zh⟩ := zh
      refine vc_S (As := [.int (st_I σ 129 l4.toNatClampNeg)]) (rest := []) dX11_findLocation_46 cS_LitmusTester_124 rfl rfl (Nat.le_of_ble_eq_true rfl) (Nat.le_of_ble_eq_true rfl) (co_n zf_11 ?_)
      replace zw := zw1
      refine vr_if_ne dX11_findLocation_49 (tgt := 54) rfl (fun zd_13 => ?_) (fun zd_13 => ?_)
      · replace zh := zh.2 zd_13
        refine vr_lload_n dX11_findLocation_54 rfl rfl ?_
        refine vr_aload_n dX11_findLocation_55 rfl rfl ?_
        refine vr_getR dX11_findLocation_56 fl_LitmusTester_9 (wC_128 zw) (Or.inr ⟨_, rfl⟩) (wR_128_0 zw) ?_
        refine vr_iload dX11_findLocation_59 rfl ?_
        obtain ⟨zi_14, zh⟩ := zh
        refine vr_baload dX11_findLocation_61 (Or.inl (wS_129 zw)) zi_14 ?_
        obtain ⟨v17, s15, zw1, zf_16, zh⟩ := zh
        refine vc_S (As := [.long l2, .int (st_I s10 129 l4.toNatClampNeg)]) (rest := []) dX11_findLocation_62 cS_LitmusTester_130 rfl rfl (Nat.le_of_ble_eq_true rfl) (Nat.le_of_ble_eq_true rfl) (co_n zf_16 ?_)
        replace zw := zw1
        refine vr_lstore_n dX11_findLocation_65 rfl (Nat.le_of_ble_eq_true rfl) (vv_eq (ls' := [(0, .ref 128), (1, .int l1), (2, .long v17), (4, .int l4)]) rfl ?_)
        refine vr_iinc dX11_findLocation_66 (x := l4) (v := (l4 + 1)) rfl (ii_ (by decide)) (Nat.le_of_ble_eq_true rfl) (vv_eq (ls' := [(0, .ref 128), (1, .int l1), (2, .long v17), (4, .int (l4 + 1))]) rfl ?_)
        refine vr_goto dX11_findLocation_69 (tgt := 23) rfl ?_
        exact vv_sub (ls' := [(0, .ref 128), (1, .int l1), (2, .long v17), (4, .int (l4 + 1))]) ⟨rfl, rfl, rfl, rfl, trivial⟩ zh
      · replace zh := zh.1 zd_13
        refine vr_iconst dX11_findLocation_52 (v := (-1 : Int32)) (by decide) ?_
        exact vr_iret dX11_findLocation_53 rfl zh
def p_X11_write_0 (γ : ga_T) (σ : st_T) (Q : rs_T → st_T → Prop) : Prop :=
  ∃ s1, Wd s1 ∧ fw_ γ m_X5_clear 0 [.ref 130] σ s1 ∧
  vv_ γ m_X11_write 16 9 [(0, .ref 128), (1, .int (0 : Int32))] [] s1 Q
set_option maxRecDepth 10000 in
theorem g_X11_write_0 {γ : ga_T} {σ : st_T} {Q : rs_T → st_T → Prop} (zw : Wd σ) (zh : p_X11_write_0 γ σ Q) : vv_ γ m_X11_write 16 0 [(0, .ref 128)] [] σ Q := by
  unfold p_X11_write_0 at zh
  refine vr_aload_n dX11_write_0 rfl rfl ?_
  refine vr_getR dX11_write_1 fl_LitmusTester_20 (wC_128 zw) (Or.inl ⟨_, rfl⟩) (wR_128_2 zw) ?_
  obtain ⟨s1, zw1, zf_2, zh⟩ := zh
  refine vc_V (As := []) (rest := []) dX11_write_4 cV_LitmusTester_138 (wC_130 zw) rfl rfl (Nat.le_of_ble_eq_true rfl) (Nat.le_of_ble_eq_true rfl) (co_v zf_2 ?_)
  replace zw := zw1
  refine vr_iconst dX11_write_7 (v := (0 : Int32)) (by decide) ?_
  refine vr_istore_n dX11_write_8 rfl (Nat.le_of_ble_eq_true rfl) (vv_eq (ls' := [(0, .ref 128), (1, .int (0 : Int32))]) rfl ?_)
  exact vv_sub (ls' := [(0, .ref 128), (1, .int (0 : Int32))]) ⟨rfl, rfl, trivial⟩ zh
theorem e_X11_write {γ : ga_T} {σ : st_T} {Q : rs_T → st_T → Prop} (zw : Wd σ) (zh : p_X11_write_0 γ σ Q) : sp_ γ m_X11_write 16 [.ref 128] σ Q := sp_of (pl_X11_write) rfl (Nat.le_of_ble_eq_true rfl) (g_X11_write_0 zw zh)
def p_X11_write_9 (γ : ga_T) (l1 : Int32) (σ : st_T) (Q : rs_T → st_T → Prop) : Prop :=
  ∃ (v3 : Int32) (s1 : st_T), Wd s1 ∧ fn_ γ m_X7_locations 0 [.ref 132] σ (.int v3) s1 ∧
  (v3 ≤ l1 →
    vv_ γ m_X11_write 16 42 [(0, .ref 128), (1, .int (0 : Int32)), (2, .int (0 : Int32))] [] s1 Q
  ) ∧ (¬ v3 ≤ l1 →
    ∃ s5, Wd s5 ∧ fw_ γ m_X5_putDeclaration 14 [.ref 130, .ref 132, .int l1] s1 s5 ∧
    vv_ γ m_X11_write 16 9 [(0, .ref 128), (1, .int (l1 + 1))] [] s5 Q
  )
set_option maxRecDepth 10000 in
theorem g_X11_write_9 {γ : ga_T} {l1 : Int32} {σ : st_T} {Q : rs_T → st_T → Prop} (zw : Wd σ) (zh : p_X11_write_9 γ l1 σ Q) : vv_ γ m_X11_write 16 9 [(0, .ref 128), (1, .int l1)] [] σ Q := by
  unfold p_X11_write_9 at zh
  refine vr_iload_n dX11_write_9 rfl rfl ?_
  refine vr_aload_n dX11_write_10 rfl rfl ?_
  refine vr_getR dX11_write_11 fl_LitmusTester_27 (wC_128 zw) (Or.inl ⟨_, rfl⟩) (wR_128_3 zw) ?_
  obtain ⟨v3, s1, zw1, zf_2, zh⟩ := zh
  refine vc_V (As := []) (rest := [.int l1]) dX11_write_14 cV_LitmusTester_107 (wC_132 zw) rfl rfl (Nat.le_of_ble_eq_true rfl) (Nat.le_of_ble_eq_true rfl) (co_n zf_2 ?_)
  replace zw := zw1
  refine vr_ic_ge dX11_write_17 (tgt := 38) rfl (fun zd_4 => ?_) (fun zd_4 => ?_)
  · replace zh := zh.1 zd_4
    refine vr_iconst dX11_write_38 (v := (0 : Int32)) (by decide) ?_
    refine vr_istore_n dX11_write_39 rfl (Nat.le_of_ble_eq_true rfl) (vv_eq (ls' := [(0, .ref 128), (1, .int (0 : Int32))]) rfl ?_)
    refine vr_iconst dX11_write_40 (v := (0 : Int32)) (by decide) ?_
    refine vr_istore_n dX11_write_41 rfl (Nat.le_of_ble_eq_true rfl) (vv_eq (ls' := [(0, .ref 128), (1, .int (0 : Int32)), (2, .int (0 : Int32))]) rfl ?_)
    exact vv_sub (ls' := [(0, .ref 128), (1, .int (0 : Int32)), (2, .int (0 : Int32))]) ⟨rfl, rfl, rfl, trivial⟩ zh
  · replace zh := zh.2 zd_4
    refine vr_aload_n dX11_write_20 rfl rfl ?_
    refine vr_getR dX11_write_21 fl_LitmusTester_20 (wC_128 zw) (Or.inl ⟨_, rfl⟩) (wR_128_2 zw) ?_
    refine vr_aload_n dX11_write_24 rfl rfl ?_
    refine vr_getR dX11_write_25 fl_LitmusTester_27 (wC_128 zw) (Or.inl ⟨_, rfl⟩) (wR_128_3 zw) ?_
    refine vr_iload_n dX11_write_28 rfl rfl ?_
    obtain ⟨s5, zw1, zf_6, zh⟩ := zh
    refine vc_V (As := [.ref 132, .int l1]) (rest := []) dX11_write_29 cV_LitmusTester_139 (wC_130 zw) rfl rfl (Nat.le_of_ble_eq_true rfl) (Nat.le_of_ble_eq_true rfl) (co_v zf_6 ?_)
    replace zw := zw1
    refine vr_iinc dX11_write_32 (x := l1) (v := (l1 + 1)) rfl (ii_ (by decide)) (Nat.le_of_ble_eq_true rfl) (vv_eq (ls' := [(0, .ref 128), (1, .int (l1 + 1))]) rfl ?_)
    refine vr_goto dX11_write_35 (tgt := 9) rfl ?_
    exact vv_sub (ls' := [(0, .ref 128), (1, .int (l1 + 1))]) ⟨rfl, rfl, trivial⟩ zh
def p_X11_write_42 (γ : ga_T) (l1 : Int32) (l2 : Int32) (σ : st_T) (Q : rs_T → st_T → Prop) : Prop :=
  ∃ (v3 : Int32) (s1 : st_T), Wd s1 ∧ fn_ γ m_X7_threads 0 [.ref 132] σ (.int v3) s1 ∧
  (v3 ≤ l2 →
    ∃ (v7 : Int32) (s5 : st_T), Wd s5 ∧ fn_ γ m_X5_length 0 [.ref 130] s1 (.int v7) s5 ∧
    Q (.inl (some (.int v7))) s5
  ) ∧ (¬ v3 ≤ l2 →
    ∃ s8, Wd s8 ∧ fw_ γ m_X5_putLine 14 [.ref 130, .ref (30 + 1)] s1 s8 ∧
    ∃ (v12 : Int32) (s10 : st_T), Wd s10 ∧ fn_ γ m_X7_sizeOf 1 [.ref 132, .int l2] s8 (.int v12) s10 ∧
    vv_ γ m_X11_write 16 73 [(0, .ref 128), (1, .int l1), (2, .int l2), (3, .int (l1 + v12))] [] s10 Q
  )
set_option maxRecDepth 10000 in
theorem g_X11_write_42 {γ : ga_T} {l1 : Int32} {l2 : Int32} {σ : st_T} {Q : rs_T → st_T → Prop} (zw : Wd σ) (zh : p_X11_write_42 γ l1 l2 σ Q) : vv_ γ m_X11_write 16 42 [(0, .ref 128), (1, .int l1), (2, .int l2)] [] σ Q := by
  unfold p_X11_write_42 at zh
  refine vr_iload_n dX11_write_42 rfl rfl ?_
  refine vr_aload_n dX11_write_43 rfl rfl ?_
  refine vr_getR dX11_write_44 fl_LitmusTester_27 (wC_128 zw) (Or.inl ⟨_, rfl⟩) (wR_128_3 zw) ?_
  obtain ⟨v3, s1, zw1, zf_2, zh⟩ := zh
  refine vc_V (As := []) (rest := [.int l2]) dX11_write_47 cV_LitmusTester_104 (wC_132 zw) rfl rfl (Nat.le_of_ble_eq_true rfl) (Nat.le_of_ble_eq_true rfl) (co_n zf_2 ?_)
  replace zw := zw1
  refine vr_ic_ge dX11_write_50 (tgt := 102) rfl (fun zd_4 => ?_) (fun zd_4 => ?_)
  · replace zh := zh.1 zd_4
    refine vr_aload_n dX11_write_102 rfl rfl ?_
    refine vr_getR dX11_write_103 fl_LitmusTester_20 (wC_128 zw) (Or.inl ⟨_, rfl⟩) (wR_128_2 zw) ?_
    obtain ⟨v7, s5, zw1, zf_6, zh⟩ := zh
    refine vc_V (As := []) (rest := []) dX11_write_106 cV_LitmusTester_154 (wC_130 zw) rfl rfl (Nat.le_of_ble_eq_true rfl) (Nat.le_of_ble_eq_true rfl) (co_n zf_6 ?_)
    replace zw := zw1
    exact vr_iret dX11_write_109 rfl zh
  · replace zh := zh.2 zd_4
    refine vr_aload_n dX11_write_53 rfl rfl ?_
    refine vr_getR dX11_write_54 fl_LitmusTester_20 (wC_128 zw) (Or.inl ⟨_, rfl⟩) (wR_128_2 zw) ?_
    refine vr_ldcS dX11_write_57 (i := 1) (by decide) rfl rfl ?_
    obtain ⟨s8, zw1, zf_9, zh⟩ := zh
    refine vc_V (As := [.ref (30 + 1)]) (rest := []) dX11_write_59 cV_LitmusTester_145 (wC_130 zw) rfl rfl (Nat.le_of_ble_eq_true rfl) (Nat.le_of_ble_eq_true rfl) (co_v zf_9 ?_)
    replace zw := zw1
    refine vr_iload_n dX11_write_62 rfl rfl ?_
    refine vr_aload_n dX11_write_63 rfl rfl ?_
    refine vr_getR dX11_write_64 fl_LitmusTester_27 (wC_128 zw) (Or.inl ⟨_, rfl⟩) (wR_128_3 zw) ?_
    refine vr_iload_n dX11_write_67 rfl rfl ?_
    obtain ⟨v12, s10, zw1, zf_11, zh⟩ := zh
    refine vc_V (As := [.int l2]) (rest := [.int l1]) dX11_write_68 cV_LitmusTester_148 (wC_132 zw) rfl rfl (Nat.le_of_ble_eq_true rfl) (Nat.le_of_ble_eq_true rfl) (co_n zf_11 ?_)
    replace zw := zw1
    refine vr_iadd dX11_write_71 ?_
    refine vr_istore_n dX11_write_72 rfl (Nat.le_of_ble_eq_true rfl) (vv_eq (ls' := [(0, .ref 128), (1, .int l1), (2, .int l2), (3, .int (l1 + v12))]) rfl ?_)
    exact vv_sub (ls' := [(0, .ref 128), (1, .int l1), (2, .int l2), (3, .int (l1 + v12))]) ⟨rfl, rfl, rfl, rfl, trivial⟩ zh
def p_X11_write_73 (γ : ga_T) (l1 : Int32) (l2 : Int32) (l3 : Int32) (σ : st_T) (Q : rs_T → st_T → Prop) : Prop :=
  (l3 ≤ l1 →
    vv_ γ m_X11_write 16 42 [(0, .ref 128), (1, .int l1), (2, .int (l2 + 1))] [] σ Q
  ) ∧ (¬ l3 ≤ l1 →
    ∃ s2, Wd s2 ∧ fw_ γ m_X5_putInstruction 15 [.ref 130, .ref 132, .int l1] σ s2 ∧
    vv_ γ m_X11_write 16 73 [(0, .ref 128), (1, .int (l1 + 1)), (2, .int l2), (3, .int l3)] [] s2 Q
  )
set_option maxRecDepth 10000 in
theorem g_X11_write_73 {γ : ga_T} {l1 : Int32} {l2 : Int32} {l3 : Int32} {σ : st_T} {Q : rs_T → st_T → Prop} (zw : Wd σ) (zh : p_X11_write_73 γ l1 l2 l3 σ Q) : vv_ γ m_X11_write 16 73 [(0, .ref 128), (1, .int l1), (2, .int l2), (3, .int l3)] [] σ Q := by
  unfold p_X11_write_73 at zh
  refine vr_iload_n dX11_write_73 rfl rfl ?_
  refine vr_iload_n dX11_write_74 rfl rfl ?_
  refine vr_ic_ge dX11_write_75 (tgt := 96) rfl (fun zd_1 => ?_) (fun zd_1 => ?_)
  · replace zh := zh.1 zd_1
    refine vr_iinc dX11_write_96 (x := l2) (v := (l2 + 1)) rfl (ii_ (by decide)) (Nat.le_of_ble_eq_true rfl) (vv_eq (ls' := [(0, .ref 128), (1, .int l1), (2, .int (l2 + 1)), (3, .int l3)]) rfl ?_)
    refine vr_goto dX11_write_99 (tgt := 42) rfl ?_
    exact vv_sub (ls' := [(0, .ref 128), (1, .int l1), (2, .int (l2 + 1))]) ⟨rfl, rfl, rfl, trivial⟩ zh
  · replace zh := zh.2 zd_1
    refine vr_aload_n dX11_write_78 rfl rfl ?_
    refine vr_getR dX11_write_79 fl_LitmusTester_20 (wC_128 zw) (Or.inl ⟨_, rfl⟩) (wR_128_2 zw) ?_
    refine vr_aload_n dX11_write_82 rfl rfl ?_
    refine vr_getR dX11_write_83 fl_LitmusTester_27 (wC_128 zw) (Or.inl ⟨_, rfl⟩) (wR_128_3 zw) ?_
    refine vr_iload_n dX11_write_86 rfl rfl ?_
    obtain ⟨s2, zw1, zf_3, zh⟩ := zh
    refine vc_V (As := [.ref 132, .int l1]) (rest := []) dX11_write_87 cV_LitmusTester_151 (wC_130 zw) rfl rfl (Nat.le_of_ble_eq_true rfl) (Nat.le_of_ble_eq_true rfl) (co_v zf_3 ?_)
    replace zw := zw1
    refine vr_iinc dX11_write_90 (x := l1) (v := (l1 + 1)) rfl (ii_ (by decide)) (Nat.le_of_ble_eq_true rfl) (vv_eq (ls' := [(0, .ref 128), (1, .int (l1 + 1)), (2, .int l2), (3, .int l3)]) rfl ?_)
    refine vr_goto dX11_write_93 (tgt := 73) rfl ?_
    exact vv_sub (ls' := [(0, .ref 128), (1, .int (l1 + 1)), (2, .int l2), (3, .int l3)]) ⟨rfl, rfl, rfl, rfl, trivial⟩ zh
def p_X11_outputByte_0 (γ : ga_T) (l1 : Int32) (σ : st_T) (Q : rs_T → st_T → Prop) : Prop :=
  (l1 < (0 : Int32) →
    Q (.inr "java/util/NoSuchElementException") (pt_X σ 1 6)
  ) ∧ (¬ l1 < (0 : Int32) →
    ∃ (v4 : Int32) (s2 : st_T), Wd s2 ∧ fn_ γ m_X5_length 0 [.ref 130] σ (.int v4) s2 ∧
    (l1 < v4 →
      ∃ (v8 : Int32) (s6 : st_T), Wd s6 ∧ fn_ γ m_X5_byteAt 0 [.ref 130, .int l1] s2 (.int v8) s6 ∧
      Q (.inl (some (.int v8))) s6
    ) ∧ (¬ l1 < v4 →
      Q (.inr "java/util/NoSuchElementException") (pt_X s2 1 6)
    )
  )
set_option maxRecDepth 10000 in
theorem g_X11_outputByte_0 {γ : ga_T} {l1 : Int32} {σ : st_T} {Q : rs_T → st_T → Prop} (zw : Wd σ) (zh : p_X11_outputByte_0 γ l1 σ Q) : vv_ γ m_X11_outputByte 8 0 [(0, .ref 128), (1, .int l1)] [] σ Q := by
  unfold p_X11_outputByte_0 at zh
  refine vr_iload_n dX11_outputByte_0 rfl rfl ?_
  refine vr_if_lt dX11_outputByte_1 (tgt := 15) rfl (fun zd_1 => ?_) (fun zd_1 => ?_)
  · replace zh := zh.1 zd_1
    exact vr_throwN dX11_outputByte_15 dX11_outputByte_18 dX11_outputByte_19 dX11_outputByte_21 dX11_outputByte_24 rfl th_LitmusTester_157_161 (i := 2) (by decide) rfl rfl (Nat.le_of_ble_eq_true rfl) (Nat.le_of_ble_eq_true rfl) zh
  · replace zh := zh.2 zd_1
    refine vr_iload_n dX11_outputByte_4 rfl rfl ?_
    refine vr_aload_n dX11_outputByte_5 rfl rfl ?_
    refine vr_getR dX11_outputByte_6 fl_LitmusTester_20 (wC_128 zw) (Or.inl ⟨_, rfl⟩) (wR_128_2 zw) ?_
    obtain ⟨v4, s2, zw1, zf_3, zh⟩ := zh
    refine vc_V (As := []) (rest := [.int l1]) dX11_outputByte_9 cV_LitmusTester_154 (wC_130 zw) rfl rfl (Nat.le_of_ble_eq_true rfl) (Nat.le_of_ble_eq_true rfl) (co_n zf_3 ?_)
    replace zw := zw1
    refine vr_ic_lt dX11_outputByte_12 (tgt := 25) rfl (fun zd_5 => ?_) (fun zd_5 => ?_)
    · replace zh := zh.1 zd_5
      refine vr_aload_n dX11_outputByte_25 rfl rfl ?_
      refine vr_getR dX11_outputByte_26 fl_LitmusTester_20 (wC_128 zw) (Or.inl ⟨_, rfl⟩) (wR_128_2 zw) ?_
      refine vr_iload_n dX11_outputByte_29 rfl rfl ?_
      obtain ⟨v8, s6, zw1, zf_7, zh⟩ := zh
      refine vc_V (As := [.int l1]) (rest := []) dX11_outputByte_30 cV_LitmusTester_162 (wC_130 zw) rfl rfl (Nat.le_of_ble_eq_true rfl) (Nat.le_of_ble_eq_true rfl) (co_n zf_7 ?_)
      replace zw := zw1
      exact vr_iret dX11_outputByte_33 rfl zh
    · replace zh := zh.2 zd_5
      exact vr_throwN dX11_outputByte_15 dX11_outputByte_18 dX11_outputByte_19 dX11_outputByte_21 dX11_outputByte_24 rfl th_LitmusTester_157_161 (i := 2) (by decide) rfl rfl (Nat.le_of_ble_eq_true rfl) (Nat.le_of_ble_eq_true rfl) zh
theorem e_X11_outputByte {γ : ga_T} {l1 : Int32} {σ : st_T} {Q : rs_T → st_T → Prop} (zw : Wd σ) (zh : p_X11_outputByte_0 γ l1 σ Q) : sp_ γ m_X11_outputByte 8 [.ref 128, .int l1] σ Q := sp_of (pl_X11_outputByte) rfl (Nat.le_of_ble_eq_true rfl) (g_X11_outputByte_0 zw zh)
def p_X11_requireModel_0 (γ : ga_T) (l1 : Int32) (σ : st_T) (Q : rs_T → st_T → Prop) : Prop :=
  (l1 < (0 : Int32) →
    Q (.inr "java/lang/IllegalArgumentException") (pt_X σ 1 6)
  ) ∧ (¬ l1 < (0 : Int32) →
    (l1 < (3 : Int32) →
      Q (.inl none) σ
    ) ∧ (¬ l1 < (3 : Int32) →
      Q (.inr "java/lang/IllegalArgumentException") (pt_X σ 1 6)
    )
  )
set_option maxRecDepth 10000 in
theorem g_X11_requireModel_0 {γ : ga_T} {l1 : Int32} {σ : st_T} {Q : rs_T → st_T → Prop} (zw : Wd σ) (zh : p_X11_requireModel_0 γ l1 σ Q) : vv_ γ m_X11_requireModel 8 0 [(0, .ref 128), (1, .int l1)] [] σ Q := by
  unfold p_X11_requireModel_0 at zh
  refine vr_iload_n dX11_requireModel_0 rfl rfl ?_
  refine vr_if_lt dX11_requireModel_1 (tgt := 9) rfl (fun zd_1 => ?_) (fun zd_1 => ?_)
  · replace zh := zh.1 zd_1
    exact vr_throw dX11_requireModel_9 dX11_requireModel_12 dX11_requireModel_13 dX11_requireModel_15 dX11_requireModel_18 rfl th_LitmusTester_165_169 (i := 3) (by decide) rfl rfl (Nat.le_of_ble_eq_true rfl) (Nat.le_of_ble_eq_true rfl) zh
  · replace zh := zh.2 zd_1
    refine vr_iload_n dX11_requireModel_4 rfl rfl ?_
    refine vr_iconst dX11_requireModel_5 (v := (3 : Int32)) (by decide) ?_
    refine vr_ic_lt dX11_requireModel_6 (tgt := 19) rfl (fun zd_2 => ?_) (fun zd_2 => ?_)
    · replace zh := zh.1 zd_2
      exact vr_vret dX11_requireModel_19 rfl zh
    · replace zh := zh.2 zd_2
      exact vr_throw dX11_requireModel_9 dX11_requireModel_12 dX11_requireModel_13 dX11_requireModel_15 dX11_requireModel_18 rfl th_LitmusTester_165_169 (i := 3) (by decide) rfl rfl (Nat.le_of_ble_eq_true rfl) (Nat.le_of_ble_eq_true rfl) zh
theorem e_X11_requireModel {γ : ga_T} {l1 : Int32} {σ : st_T} {Q : rs_T → st_T → Prop} (zw : Wd σ) (zh : p_X11_requireModel_0 γ l1 σ Q) : sp_ γ m_X11_requireModel 8 [.ref 128, .int l1] σ Q := sp_of (pl_X11_requireModel) rfl (Nat.le_of_ble_eq_true rfl) (g_X11_requireModel_0 zw zh)
def p_X11_kept_0 (γ : ga_T) (l1 : Int32) (σ : st_T) (Q : rs_T → st_T → Prop) : Prop :=
  (l1 = (0 : Int32) →
    Q (.inl (some (.ref 164))) σ
  ) ∧ (¬ l1 = (0 : Int32) →
    (l1 = (1 : Int32) →
      Q (.inl (some (.ref 169))) σ
    ) ∧ (¬ l1 = (1 : Int32) →
      Q (.inl (some (.ref 174))) σ
    )
  )
set_option maxRecDepth 10000 in
theorem g_X11_kept_0 {γ : ga_T} {l1 : Int32} {σ : st_T} {Q : rs_T → st_T → Prop} (zw : Wd σ) (zh : p_X11_kept_0 γ l1 σ Q) : vv_ γ m_X11_kept 0 0 [(0, .ref 128), (1, .int l1)] [] σ Q := by
  unfold p_X11_kept_0 at zh
  refine vr_iload_n dX11_kept_0 rfl rfl ?_
  refine vr_if_ne dX11_kept_1 (tgt := 11) rfl (fun zd_1 => ?_) (fun zd_1 => ?_)
  · replace zh := zh.2 zd_1
    refine vr_iload_n dX11_kept_11 rfl rfl ?_
    refine vr_iconst dX11_kept_12 (v := (1 : Int32)) (by decide) ?_
    refine vr_ic_ne dX11_kept_13 (tgt := 23) rfl (fun zd_2 => ?_) (fun zd_2 => ?_)
    · replace zh := zh.2 zd_2
      refine vr_aload_n dX11_kept_23 rfl rfl ?_
      refine vr_getR dX11_kept_24 fl_LitmusTester_62 (wC_128 zw) (Or.inl ⟨_, rfl⟩) (wR_128_9 zw) ?_
      exact vr_aret dX11_kept_27 rfl (Or.inl ⟨_, rfl⟩) zh
    · replace zh := zh.1 zd_2
      refine vr_aload_n dX11_kept_16 rfl rfl ?_
      refine vr_getR dX11_kept_17 fl_LitmusTester_59 (wC_128 zw) (Or.inl ⟨_, rfl⟩) (wR_128_8 zw) ?_
      refine vr_goto dX11_kept_20 (tgt := 27) rfl ?_
      exact vr_aret dX11_kept_27 rfl (Or.inl ⟨_, rfl⟩) zh
  · replace zh := zh.1 zd_1
    refine vr_aload_n dX11_kept_4 rfl rfl ?_
    refine vr_getR dX11_kept_5 fl_LitmusTester_55 (wC_128 zw) (Or.inl ⟨_, rfl⟩) (wR_128_7 zw) ?_
    refine vr_goto dX11_kept_8 (tgt := 27) rfl ?_
    exact vr_aret dX11_kept_27 rfl (Or.inl ⟨_, rfl⟩) zh
theorem e_X11_kept {γ : ga_T} {l1 : Int32} {σ : st_T} {Q : rs_T → st_T → Prop} (zw : Wd σ) (zh : p_X11_kept_0 γ l1 σ Q) : sp_ γ m_X11_kept 0 [.ref 128, .int l1] σ Q := sp_of (pl_X11_kept) rfl (Nat.le_of_ble_eq_true rfl) (g_X11_kept_0 zw zh)
def p_X11_findings_0 (γ : ga_T) (l1 : Int32) (σ : st_T) (Q : rs_T → st_T → Prop) : Prop :=
  ∃ (v3 : Nat) (s1 : st_T), Wd s1 ∧ fn_ γ m_X11_kept 0 [.ref 128, .int l1] σ (.ref v3) s1 ∧
  is_fi v3 ∧
  ∃ (v7 : Int32) (s5 : st_T), Wd s5 ∧ fn_ γ m_X3_isKnown 0 [.ref v3] s1 (.int v7) s5 ∧
  (v7 = (0 : Int32) →
    ∃ (v11 : Int32) (s9 : st_T), Wd s9 ∧ fn_ γ m_X7_waits 1 [.ref 132] s5 (.int v11) s9 ∧
    ∃ s12, Wd s12 ∧ fw_ γ m_X2_explore 4 [.ref 147, .int l1, .int v11] s9 s12 ∧
    ∃ s14, Wd s14 ∧ fw_ γ m_X2_report 2 [.ref 147, .ref v3] s12 s14 ∧
    Q (.inl (some (.ref v3))) s14
  ) ∧ (¬ v7 = (0 : Int32) →
    Q (.inl (some (.ref v3))) s5
  )
set_option maxRecDepth 10000 in
theorem g_X11_findings_0 {γ : ga_T} {l1 : Int32} {σ : st_T} {Q : rs_T → st_T → Prop} (zw : Wd σ) (zh : p_X11_findings_0 γ l1 σ Q) : vv_ γ m_X11_findings 5 0 [(0, .ref 128), (1, .int l1)] [] σ Q := by
  unfold p_X11_findings_0 at zh
  refine vr_aload_n dX11_findings_0 rfl rfl ?_
  refine vr_iload_n dX11_findings_1 rfl rfl ?_
  obtain ⟨v3, s1, zw1, zf_2, zh⟩ := zh
  refine vc_V (As := [.int l1]) (rest := []) dX11_findings_2 cV_LitmusTester_170 (wC_128 zw) rfl rfl (Nat.le_of_ble_eq_true rfl) (Nat.le_of_ble_eq_true rfl) (co_n zf_2 ?_)
  replace zw := zw1
  refine vr_astore_n dX11_findings_5 rfl (Nat.le_of_ble_eq_true rfl) (vv_eq (ls' := [(0, .ref 128), (1, .int l1), (2, .ref v3)]) rfl ?_)
  refine vr_aload_n dX11_findings_6 rfl rfl ?_
  obtain ⟨zc_4, zh⟩ := zh
  obtain ⟨v7, s5, zw1, zf_6, zh⟩ := zh
  refine vc_V (As := []) (rest := []) dX11_findings_7 cV_LitmusTester_174 (wC_fi zw zc_4) rfl rfl (Nat.le_of_ble_eq_true rfl) (Nat.le_of_ble_eq_true rfl) (co_n zf_6 ?_)
  replace zw := zw1
  refine vr_if_ne dX11_findings_10 (tgt := 36) rfl (fun zd_8 => ?_) (fun zd_8 => ?_)
  · replace zh := zh.2 zd_8
    refine vr_aload_n dX11_findings_36 rfl rfl ?_
    exact vr_aret dX11_findings_37 rfl (Or.inl ⟨_, rfl⟩) zh
  · replace zh := zh.1 zd_8
    refine vr_aload_n dX11_findings_13 rfl rfl ?_
    refine vr_getR dX11_findings_14 fl_LitmusTester_48 (wC_128 zw) (Or.inl ⟨_, rfl⟩) (wR_128_6 zw) ?_
    refine vr_iload_n dX11_findings_17 rfl rfl ?_
    refine vr_aload_n dX11_findings_18 rfl rfl ?_
    refine vr_getR dX11_findings_19 fl_LitmusTester_27 (wC_128 zw) (Or.inl ⟨_, rfl⟩) (wR_128_3 zw) ?_
    obtain ⟨v11, s9, zw1, zf_10, zh⟩ := zh
    refine vc_V (As := []) (rest := [.int l1, .ref 147]) dX11_findings_22 cV_LitmusTester_178 (wC_132 zw) rfl rfl (Nat.le_of_ble_eq_true rfl) (Nat.le_of_ble_eq_true rfl) (co_n zf_10 ?_)
    replace zw := zw1
    obtain ⟨s12, zw1, zf_13, zh⟩ := zh
    refine vc_V (As := [.int l1, .int v11]) (rest := []) dX11_findings_25 cV_LitmusTester_181 (wC_147 zw) rfl rfl (Nat.le_of_ble_eq_true rfl) (Nat.le_of_ble_eq_true rfl) (co_v zf_13 ?_)
    replace zw := zw1
    refine vr_aload_n dX11_findings_28 rfl rfl ?_
    refine vr_getR dX11_findings_29 fl_LitmusTester_48 (wC_128 zw) (Or.inl ⟨_, rfl⟩) (wR_128_6 zw) ?_
    refine vr_aload_n dX11_findings_32 rfl rfl ?_
    obtain ⟨s14, zw1, zf_15, zh⟩ := zh
    refine vc_V (As := [.ref v3]) (rest := []) dX11_findings_33 cV_LitmusTester_185 (wC_147 zw) rfl rfl (Nat.le_of_ble_eq_true rfl) (Nat.le_of_ble_eq_true rfl) (co_v zf_15 ?_)
    replace zw := zw1
    refine vr_aload_n dX11_findings_36 rfl rfl ?_
    exact vr_aret dX11_findings_37 rfl (Or.inl ⟨_, rfl⟩) zh
theorem e_X11_findings {γ : ga_T} {l1 : Int32} {σ : st_T} {Q : rs_T → st_T → Prop} (zw : Wd σ) (zh : p_X11_findings_0 γ l1 σ Q) : sp_ γ m_X11_findings 5 [.ref 128, .int l1] σ Q := sp_of (pl_X11_findings) rfl (Nat.le_of_ble_eq_true rfl) (g_X11_findings_0 zw zh)
def p_X11_outcomeCount_0 (γ : ga_T) (l1 : Int32) (σ : st_T) (Q : rs_T → st_T → Prop) : Prop :=
  ((
    ∃ s1, Wd s1 ∧ fw_ γ m_X11_requireModel 8 [.ref 128, .int l1] σ s1 ∧
    ∃ (v5 : Nat) (s3 : st_T), Wd s3 ∧ fn_ γ m_X11_findings 5 [.ref 128, .int l1] s1 (.ref v5) s3 ∧
    is_fi v5 ∧
    ∃ (v9 : Int32) (s7 : st_T), Wd s7 ∧ fn_ γ m_X3_size 0 [.ref v5] s3 (.int v9) s7 ∧
    Q (.inl (some (.int v9))) s7
  ) ∨ (
    ∃ s10, Wd s10 ∧ ft_ γ m_X11_requireModel 8 [.ref 128, .int l1] σ "java/lang/IllegalArgumentException" s10 ∧
    Q (.inr "java/lang/IllegalArgumentException") s10
  ))
set_option maxRecDepth 10000 in
theorem g_X11_outcomeCount_0 {γ : ga_T} {l1 : Int32} {σ : st_T} {Q : rs_T → st_T → Prop} (zw : Wd σ) (zh : p_X11_outcomeCount_0 γ l1 σ Q) : vv_ γ m_X11_outcomeCount 9 0 [(0, .ref 128), (1, .int l1)] [] σ Q := by
  unfold p_X11_outcomeCount_0 at zh
  refine vr_aload_n dX11_outcomeCount_0 rfl rfl ?_
  refine vr_iload_n dX11_outcomeCount_1 rfl rfl ?_
  rcases zh with zh | zh
  · obtain ⟨s1, zw1, zf_2, zh⟩ := zh
    refine vc_V (As := [.int l1]) (rest := []) dX11_outcomeCount_2 cV_LitmusTester_189 (wC_128 zw) rfl rfl (Nat.le_of_ble_eq_true rfl) (Nat.le_of_ble_eq_true rfl) (co_v zf_2 ?_)
    replace zw := zw1
    refine vr_aload_n dX11_outcomeCount_5 rfl rfl ?_
    refine vr_iload_n dX11_outcomeCount_6 rfl rfl ?_
    obtain ⟨v5, s3, zw1, zf_4, zh⟩ := zh
    refine vc_V (As := [.int l1]) (rest := []) dX11_outcomeCount_7 cV_LitmusTester_192 (wC_128 zw) rfl rfl (Nat.le_of_ble_eq_true rfl) (Nat.le_of_ble_eq_true rfl) (co_n zf_4 ?_)
    replace zw := zw1
    obtain ⟨zc_6, zh⟩ := zh
    obtain ⟨v9, s7, zw1, zf_8, zh⟩ := zh
    refine vc_V (As := []) (rest := []) dX11_outcomeCount_10 cV_LitmusTester_195 (wC_fi zw zc_6) rfl rfl (Nat.le_of_ble_eq_true rfl) (Nat.le_of_ble_eq_true rfl) (co_n zf_8 ?_)
    replace zw := zw1
    exact vr_iret dX11_outcomeCount_13 rfl zh
  · obtain ⟨s10, zw1, zf_11, zh⟩ := zh
    exact vc_V (As := [.int l1]) (rest := []) dX11_outcomeCount_2 cV_LitmusTester_189 (wC_128 zw) rfl rfl (Nat.le_of_ble_eq_true rfl) (Nat.le_of_ble_eq_true rfl) (co_t zf_11 (vt_out rfl zh))
theorem e_X11_outcomeCount {γ : ga_T} {l1 : Int32} {σ : st_T} {Q : rs_T → st_T → Prop} (zw : Wd σ) (zh : p_X11_outcomeCount_0 γ l1 σ Q) : sp_ γ m_X11_outcomeCount 9 [.ref 128, .int l1] σ Q := sp_of (pl_X11_outcomeCount) rfl (Nat.le_of_ble_eq_true rfl) (g_X11_outcomeCount_0 zw zh)
def p_X11_outcome_0 (γ : ga_T) (l1 : Int32) (l2 : Int32) (σ : st_T) (Q : rs_T → st_T → Prop) : Prop :=
  ((
    ∃ s1, Wd s1 ∧ fw_ γ m_X11_requireModel 8 [.ref 128, .int l1] σ s1 ∧
    ∃ (v5 : Nat) (s3 : st_T), Wd s3 ∧ fn_ γ m_X11_findings 5 [.ref 128, .int l1] s1 (.ref v5) s3 ∧
    is_fi v5 ∧
    ∃ (v9 : Int32) (s7 : st_T), Wd s7 ∧ fn_ γ m_X3_codeAt 0 [.ref v5, .int l2] s3 (.int v9) s7 ∧
    Q (.inl (some (.int v9))) s7
  ) ∨ (
    ∃ s10, Wd s10 ∧ ft_ γ m_X11_requireModel 8 [.ref 128, .int l1] σ "java/lang/IllegalArgumentException" s10 ∧
    Q (.inr "java/lang/IllegalArgumentException") s10
  ))
set_option maxRecDepth 10000 in
theorem g_X11_outcome_0 {γ : ga_T} {l1 : Int32} {l2 : Int32} {σ : st_T} {Q : rs_T → st_T → Prop} (zw : Wd σ) (zh : p_X11_outcome_0 γ l1 l2 σ Q) : vv_ γ m_X11_outcome 9 0 [(0, .ref 128), (1, .int l1), (2, .int l2)] [] σ Q := by
  unfold p_X11_outcome_0 at zh
  refine vr_aload_n dX11_outcome_0 rfl rfl ?_
  refine vr_iload_n dX11_outcome_1 rfl rfl ?_
  rcases zh with zh | zh
  · obtain ⟨s1, zw1, zf_2, zh⟩ := zh
    refine vc_V (As := [.int l1]) (rest := []) dX11_outcome_2 cV_LitmusTester_189 (wC_128 zw) rfl rfl (Nat.le_of_ble_eq_true rfl) (Nat.le_of_ble_eq_true rfl) (co_v zf_2 ?_)
    replace zw := zw1
    refine vr_aload_n dX11_outcome_5 rfl rfl ?_
    refine vr_iload_n dX11_outcome_6 rfl rfl ?_
    obtain ⟨v5, s3, zw1, zf_4, zh⟩ := zh
    refine vc_V (As := [.int l1]) (rest := []) dX11_outcome_7 cV_LitmusTester_192 (wC_128 zw) rfl rfl (Nat.le_of_ble_eq_true rfl) (Nat.le_of_ble_eq_true rfl) (co_n zf_4 ?_)
    replace zw := zw1
    refine vr_iload_n dX11_outcome_10 rfl rfl ?_
    obtain ⟨zc_6, zh⟩ := zh
    obtain ⟨v9, s7, zw1, zf_8, zh⟩ := zh
    refine vc_V (As := [.int l2]) (rest := []) dX11_outcome_11 cV_LitmusTester_196 (wC_fi zw zc_6) rfl rfl (Nat.le_of_ble_eq_true rfl) (Nat.le_of_ble_eq_true rfl) (co_n zf_8 ?_)
    replace zw := zw1
    exact vr_iret dX11_outcome_14 rfl zh
  · obtain ⟨s10, zw1, zf_11, zh⟩ := zh
    exact vc_V (As := [.int l1]) (rest := []) dX11_outcome_2 cV_LitmusTester_189 (wC_128 zw) rfl rfl (Nat.le_of_ble_eq_true rfl) (Nat.le_of_ble_eq_true rfl) (co_t zf_11 (vt_out rfl zh))
theorem e_X11_outcome {γ : ga_T} {l1 : Int32} {l2 : Int32} {σ : st_T} {Q : rs_T → st_T → Prop} (zw : Wd σ) (zh : p_X11_outcome_0 γ l1 l2 σ Q) : sp_ γ m_X11_outcome 9 [.ref 128, .int l1, .int l2] σ Q := sp_of (pl_X11_outcome) rfl (Nat.le_of_ble_eq_true rfl) (g_X11_outcome_0 zw zh)
def p_X11_hasOutcome_0 (γ : ga_T) (l1 : Int32) (l2 : Int32) (σ : st_T) (Q : rs_T → st_T → Prop) : Prop :=
  ((
    ∃ s1, Wd s1 ∧ fw_ γ m_X11_requireModel 8 [.ref 128, .int l1] σ s1 ∧
    ∃ (v5 : Nat) (s3 : st_T), Wd s3 ∧ fn_ γ m_X11_findings 5 [.ref 128, .int l1] s1 (.ref v5) s3 ∧
    is_fi v5 ∧
    ∃ (v9 : Int32) (s7 : st_T), Wd s7 ∧ fn_ γ m_X3_placeOf 1 [.ref v5, .int l2] s3 (.int v9) s7 ∧
    (v9 = (-1 : Int32) →
      Q (.inl (some (.int (0 : Int32)))) s7
    ) ∧ (¬ v9 = (-1 : Int32) →
      Q (.inl (some (.int (1 : Int32)))) s7
    )
  ) ∨ (
    ∃ s11, Wd s11 ∧ ft_ γ m_X11_requireModel 8 [.ref 128, .int l1] σ "java/lang/IllegalArgumentException" s11 ∧
    Q (.inr "java/lang/IllegalArgumentException") s11
  ))
set_option maxRecDepth 10000 in
theorem g_X11_hasOutcome_0 {γ : ga_T} {l1 : Int32} {l2 : Int32} {σ : st_T} {Q : rs_T → st_T → Prop} (zw : Wd σ) (zh : p_X11_hasOutcome_0 γ l1 l2 σ Q) : vv_ γ m_X11_hasOutcome 9 0 [(0, .ref 128), (1, .int l1), (2, .int l2)] [] σ Q := by
  unfold p_X11_hasOutcome_0 at zh
  refine vr_aload_n dX11_hasOutcome_0 rfl rfl ?_
  refine vr_iload_n dX11_hasOutcome_1 rfl rfl ?_
  rcases zh with zh | zh
  · obtain ⟨s1, zw1, zf_2, zh⟩ := zh
    refine vc_V (As := [.int l1]) (rest := []) dX11_hasOutcome_2 cV_LitmusTester_189 (wC_128 zw) rfl rfl (Nat.le_of_ble_eq_true rfl) (Nat.le_of_ble_eq_true rfl) (co_v zf_2 ?_)
    replace zw := zw1
    refine vr_aload_n dX11_hasOutcome_5 rfl rfl ?_
    refine vr_iload_n dX11_hasOutcome_6 rfl rfl ?_
    obtain ⟨v5, s3, zw1, zf_4, zh⟩ := zh
    refine vc_V (As := [.int l1]) (rest := []) dX11_hasOutcome_7 cV_LitmusTester_192 (wC_128 zw) rfl rfl (Nat.le_of_ble_eq_true rfl) (Nat.le_of_ble_eq_true rfl) (co_n zf_4 ?_)
    replace zw := zw1
    refine vr_iload_n dX11_hasOutcome_10 rfl rfl ?_
    obtain ⟨zc_6, zh⟩ := zh
    obtain ⟨v9, s7, zw1, zf_8, zh⟩ := zh
    refine vc_V (As := [.int l2]) (rest := []) dX11_hasOutcome_11 cV_LitmusTester_199 (wC_fi zw zc_6) rfl rfl (Nat.le_of_ble_eq_true rfl) (Nat.le_of_ble_eq_true rfl) (co_n zf_8 ?_)
    replace zw := zw1
    refine vr_iconst dX11_hasOutcome_14 (v := (-1 : Int32)) (by decide) ?_
    refine vr_ic_eq dX11_hasOutcome_15 (tgt := 22) rfl (fun zd_10 => ?_) (fun zd_10 => ?_)
    · replace zh := zh.1 zd_10
      refine vr_iconst dX11_hasOutcome_22 (v := (0 : Int32)) (by decide) ?_
      exact vr_zret dX11_hasOutcome_23 rfl (Or.inl rfl) zh
    · replace zh := zh.2 zd_10
      refine vr_iconst dX11_hasOutcome_18 (v := (1 : Int32)) (by decide) ?_
      refine vr_goto dX11_hasOutcome_19 (tgt := 23) rfl ?_
      exact vr_zret dX11_hasOutcome_23 rfl (Or.inr rfl) zh
  · obtain ⟨s11, zw1, zf_12, zh⟩ := zh
    exact vc_V (As := [.int l1]) (rest := []) dX11_hasOutcome_2 cV_LitmusTester_189 (wC_128 zw) rfl rfl (Nat.le_of_ble_eq_true rfl) (Nat.le_of_ble_eq_true rfl) (co_t zf_12 (vt_out rfl zh))
theorem e_X11_hasOutcome {γ : ga_T} {l1 : Int32} {l2 : Int32} {σ : st_T} {Q : rs_T → st_T → Prop} (zw : Wd σ) (zh : p_X11_hasOutcome_0 γ l1 l2 σ Q) : sp_ γ m_X11_hasOutcome 9 [.ref 128, .int l1, .int l2] σ Q := sp_of (pl_X11_hasOutcome) rfl (Nat.le_of_ble_eq_true rfl) (g_X11_hasOutcome_0 zw zh)
def p_X11_extraOutcomes_0 (γ : ga_T) (l1 : Int32) (l2 : Int32) (σ : st_T) (Q : rs_T → st_T → Prop) : Prop :=
  ((
    ∃ s1, Wd s1 ∧ fw_ γ m_X11_requireModel 8 [.ref 128, .int l1] σ s1 ∧
    ((
      ∃ s3, Wd s3 ∧ fw_ γ m_X11_requireModel 8 [.ref 128, .int l2] s1 s3 ∧
      ∃ (v7 : Nat) (s5 : st_T), Wd s5 ∧ fn_ γ m_X11_findings 5 [.ref 128, .int l1] s3 (.ref v7) s5 ∧
      ∃ (v10 : Nat) (s8 : st_T), Wd s8 ∧ fn_ γ m_X11_findings 5 [.ref 128, .int l2] s5 (.ref v10) s8 ∧
      vv_ γ m_X11_extraOutcomes 9 29 [(3, .ref v7), (4, .ref v10), (5, .int (0 : Int32)), (6, .int (0 : Int32))] [] s8 Q
    ) ∨ (
      ∃ s11, Wd s11 ∧ ft_ γ m_X11_requireModel 8 [.ref 128, .int l2] s1 "java/lang/IllegalArgumentException" s11 ∧
      Q (.inr "java/lang/IllegalArgumentException") s11
    ))
  ) ∨ (
    ∃ s13, Wd s13 ∧ ft_ γ m_X11_requireModel 8 [.ref 128, .int l1] σ "java/lang/IllegalArgumentException" s13 ∧
    Q (.inr "java/lang/IllegalArgumentException") s13
  ))
set_option maxRecDepth 10000 in
theorem g_X11_extraOutcomes_0 {γ : ga_T} {l1 : Int32} {l2 : Int32} {σ : st_T} {Q : rs_T → st_T → Prop} (zw : Wd σ) (zh : p_X11_extraOutcomes_0 γ l1 l2 σ Q) : vv_ γ m_X11_extraOutcomes 9 0 [(0, .ref 128), (1, .int l1), (2, .int l2)] [] σ Q := by
  unfold p_X11_extraOutcomes_0 at zh
  refine vr_aload_n dX11_extraOutcomes_0 rfl rfl ?_
  refine vr_iload_n dX11_extraOutcomes_1 rfl rfl ?_
  rcases zh with zh | zh
  · obtain ⟨s1, zw1, zf_2, zh⟩ := zh
    refine vc_V (As := [.int l1]) (rest := []) dX11_extraOutcomes_2 cV_LitmusTester_189 (wC_128 zw) rfl rfl (Nat.le_of_ble_eq_true rfl) (Nat.le_of_ble_eq_true rfl) (co_v zf_2 ?_)
    replace zw := zw1
    refine vr_aload_n dX11_extraOutcomes_5 rfl rfl ?_
    refine vr_iload_n dX11_extraOutcomes_6 rfl rfl ?_
    rcases zh with zh | zh
    · obtain ⟨s3, zw1, zf_4, zh⟩ := zh
      refine vc_V (As := [.int l2]) (rest := []) dX11_extraOutcomes_7 cV_LitmusTester_189 (wC_128 zw) rfl rfl (Nat.le_of_ble_eq_true rfl) (Nat.le_of_ble_eq_true rfl) (co_v zf_4 ?_)
      replace zw := zw1
      refine vr_aload_n dX11_extraOutcomes_10 rfl rfl ?_
      refine vr_iload_n dX11_extraOutcomes_11 rfl rfl ?_
      obtain ⟨v7, s5, zw1, zf_6, zh⟩ := zh
      refine vc_V (As := [.int l1]) (rest := []) dX11_extraOutcomes_12 cV_LitmusTester_192 (wC_128 zw) rfl rfl (Nat.le_of_ble_eq_true rfl) (Nat.le_of_ble_eq_true rfl) (co_n zf_6 ?_)
      replace zw := zw1
      refine vr_astore_n dX11_extraOutcomes_15 rfl (Nat.le_of_ble_eq_true rfl) (vv_eq (ls' := [(0, .ref 128), (1, .int l1), (2, .int l2), (3, .ref v7)]) rfl ?_)
      refine vr_aload_n dX11_extraOutcomes_16 rfl rfl ?_
      refine vr_iload_n dX11_extraOutcomes_17 rfl rfl ?_
      obtain ⟨v10, s8, zw1, zf_9, zh⟩ := zh
      refine vc_V (As := [.int l2]) (rest := []) dX11_extraOutcomes_18 cV_LitmusTester_192 (wC_128 zw) rfl rfl (Nat.le_of_ble_eq_true rfl) (Nat.le_of_ble_eq_true rfl) (co_n zf_9 ?_)
      replace zw := zw1
      refine vr_astore dX11_extraOutcomes_21 (Nat.le_of_ble_eq_true rfl) (vv_eq (ls' := [(0, .ref 128), (1, .int l1), (2, .int l2), (3, .ref v7), (4, .ref v10)]) rfl ?_)
      refine vr_iconst dX11_extraOutcomes_23 (v := (0 : Int32)) (by decide) ?_
      refine vr_istore dX11_extraOutcomes_24 (Nat.le_of_ble_eq_true rfl) (vv_eq (ls' := [(0, .ref 128), (1, .int l1), (2, .int l2), (3, .ref v7), (4, .ref v10), (5, .int (0 : Int32))]) rfl ?_)
      refine vr_iconst dX11_extraOutcomes_26 (v := (0 : Int32)) (by decide) ?_
      refine vr_istore dX11_extraOutcomes_27 (Nat.le_of_ble_eq_true rfl) (vv_eq (ls' := [(0, .ref 128), (1, .int l1), (2, .int l2), (3, .ref v7), (4, .ref v10), (5, .int (0 : Int32)), (6, .int (0 : Int32))]) rfl ?_)
      exact vv_sub (ls' := [(3, .ref v7), (4, .ref v10), (5, .int (0 : Int32)), (6, .int (0 : Int32))]) ⟨rfl, rfl, rfl, rfl, trivial⟩ zh
    · obtain ⟨s11, zw1, zf_12, zh⟩ := zh
      exact vc_V (As := [.int l2]) (rest := []) dX11_extraOutcomes_7 cV_LitmusTester_189 (wC_128 zw) rfl rfl (Nat.le_of_ble_eq_true rfl) (Nat.le_of_ble_eq_true rfl) (co_t zf_12 (vt_out rfl zh))
  · obtain ⟨s13, zw1, zf_14, zh⟩ := zh
    exact vc_V (As := [.int l1]) (rest := []) dX11_extraOutcomes_2 cV_LitmusTester_189 (wC_128 zw) rfl rfl (Nat.le_of_ble_eq_true rfl) (Nat.le_of_ble_eq_true rfl) (co_t zf_14 (vt_out rfl zh))
theorem e_X11_extraOutcomes {γ : ga_T} {l1 : Int32} {l2 : Int32} {σ : st_T} {Q : rs_T → st_T → Prop} (zw : Wd σ) (zh : p_X11_extraOutcomes_0 γ l1 l2 σ Q) : sp_ γ m_X11_extraOutcomes 9 [.ref 128, .int l1, .int l2] σ Q := sp_of (pl_X11_extraOutcomes) rfl (Nat.le_of_ble_eq_true rfl) (g_X11_extraOutcomes_0 zw zh)
def p_X11_extraOutcomes_29 (γ : ga_T) (l3 : Nat) (l4 : Nat) (l5 : Int32) (l6 : Int32) (σ : st_T) (Q : rs_T → st_T → Prop) : Prop :=
  is_fi l3 ∧
  ∃ (v4 : Int32) (s2 : st_T), Wd s2 ∧ fn_ γ m_X3_size 0 [.ref l3] σ (.int v4) s2 ∧
  (v4 ≤ l6 →
    Q (.inl (some (.int l5))) s2
  ) ∧ (¬ v4 ≤ l6 →
    is_fi l3 ∧
    ∃ (v9 : Int32) (s7 : st_T), Wd s7 ∧ fn_ γ m_X3_codeAt 0 [.ref l3, .int l6] s2 (.int v9) s7 ∧
    is_fi l4 ∧
    ∃ (v13 : Int32) (s11 : st_T), Wd s11 ∧ fn_ γ m_X3_placeOf 1 [.ref l4, .int v9] s7 (.int v13) s11 ∧
    (v13 = (-1 : Int32) →
      vv_ γ m_X11_extraOutcomes 9 29 [(3, .ref l3), (4, .ref l4), (5, .int (l5 + 1)), (6, .int (l6 + 1))] [] s11 Q
    ) ∧ (¬ v13 = (-1 : Int32) →
      vv_ γ m_X11_extraOutcomes 9 29 [(3, .ref l3), (4, .ref l4), (5, .int l5), (6, .int (l6 + 1))] [] s11 Q
    )
  )
set_option maxRecDepth 10000 in
theorem g_X11_extraOutcomes_29 {γ : ga_T} {l3 : Nat} {l4 : Nat} {l5 : Int32} {l6 : Int32} {σ : st_T} {Q : rs_T → st_T → Prop} (zw : Wd σ) (zh : p_X11_extraOutcomes_29 γ l3 l4 l5 l6 σ Q) : vv_ γ m_X11_extraOutcomes 9 29 [(3, .ref l3), (4, .ref l4), (5, .int l5), (6, .int l6)] [] σ Q := by
  unfold p_X11_extraOutcomes_29 at zh
  refine vr_iload dX11_extraOutcomes_29 rfl ?_
  refine vr_aload_n dX11_extraOutcomes_31 rfl rfl ?_
  obtain ⟨zc_1, zh⟩ := zh
  obtain ⟨v4, s2, zw1, zf_3, zh⟩ := zh
  refine vc_V (As := []) (rest := [.int l6]) dX11_extraOutcomes_32 cV_LitmusTester_195 (wC_fi zw zc_1) rfl rfl (Nat.le_of_ble_eq_true rfl) (Nat.le_of_ble_eq_true rfl) (co_n zf_3 ?_)
  replace zw := zw1
  refine vr_ic_ge dX11_extraOutcomes_35 (tgt := 62) rfl (fun zd_5 => ?_) (fun zd_5 => ?_)
  · replace zh := zh.1 zd_5
    refine vr_iload dX11_extraOutcomes_62 rfl ?_
    exact vr_iret dX11_extraOutcomes_64 rfl zh
  · replace zh := zh.2 zd_5
    refine vr_aload dX11_extraOutcomes_38 rfl ?_
    refine vr_aload_n dX11_extraOutcomes_40 rfl rfl ?_
    refine vr_iload dX11_extraOutcomes_41 rfl ?_
    obtain ⟨zc_6, zh⟩ := zh
    obtain ⟨v9, s7, zw1, zf_8, zh⟩ := zh
    refine vc_V (As := [.int l6]) (rest := [.ref l4]) dX11_extraOutcomes_43 cV_LitmusTester_196 (wC_fi zw zc_6) rfl rfl (Nat.le_of_ble_eq_true rfl) (Nat.le_of_ble_eq_true rfl) (co_n zf_8 ?_)
    replace zw := zw1
    obtain ⟨zc_10, zh⟩ := zh
    obtain ⟨v13, s11, zw1, zf_12, zh⟩ := zh
    refine vc_V (As := [.int v9]) (rest := []) dX11_extraOutcomes_46 cV_LitmusTester_199 (wC_fi zw zc_10) rfl rfl (Nat.le_of_ble_eq_true rfl) (Nat.le_of_ble_eq_true rfl) (co_n zf_12 ?_)
    replace zw := zw1
    refine vr_iconst dX11_extraOutcomes_49 (v := (-1 : Int32)) (by decide) ?_
    refine vr_ic_ne dX11_extraOutcomes_50 (tgt := 56) rfl (fun zd_14 => ?_) (fun zd_14 => ?_)
    · replace zh := zh.2 zd_14
      refine vr_iinc dX11_extraOutcomes_56 (x := l6) (v := (l6 + 1)) rfl (ii_ (by decide)) (Nat.le_of_ble_eq_true rfl) (vv_eq (ls' := [(3, .ref l3), (4, .ref l4), (5, .int l5), (6, .int (l6 + 1))]) rfl ?_)
      refine vr_goto dX11_extraOutcomes_59 (tgt := 29) rfl ?_
      exact vv_sub (ls' := [(3, .ref l3), (4, .ref l4), (5, .int l5), (6, .int (l6 + 1))]) ⟨rfl, rfl, rfl, rfl, trivial⟩ zh
    · replace zh := zh.1 zd_14
      refine vr_iinc dX11_extraOutcomes_53 (x := l5) (v := (l5 + 1)) rfl (ii_ (by decide)) (Nat.le_of_ble_eq_true rfl) (vv_eq (ls' := [(3, .ref l3), (4, .ref l4), (5, .int (l5 + 1)), (6, .int l6)]) rfl ?_)
      refine vr_iinc dX11_extraOutcomes_56 (x := l6) (v := (l6 + 1)) rfl (ii_ (by decide)) (Nat.le_of_ble_eq_true rfl) (vv_eq (ls' := [(3, .ref l3), (4, .ref l4), (5, .int (l5 + 1)), (6, .int (l6 + 1))]) rfl ?_)
      refine vr_goto dX11_extraOutcomes_59 (tgt := 29) rfl ?_
      exact vv_sub (ls' := [(3, .ref l3), (4, .ref l4), (5, .int (l5 + 1)), (6, .int (l6 + 1))]) ⟨rfl, rfl, rfl, rfl, trivial⟩ zh
def p_X11_fulfils_0 (γ : ga_T) (l1 : Int32) (σ : st_T) (Q : rs_T → st_T → Prop) : Prop :=
  (l1 < (0 : Int32) →
    Q (.inl (some (.int (0 : Int32)))) σ
  ) ∧ (¬ l1 < (0 : Int32) →
    ∃ (v4 : Int32) (s2 : st_T), Wd s2 ∧ fn_ γ m_X7_codeBits 0 [.ref 132] σ (.int v4) s2 ∧
    ((l1 >>> (v4 &&& 31)) = (0 : Int32) →
      ∃ (v8 : Int32) (s6 : st_T), Wd s6 ∧ fn_ γ m_X7_isFulfilledBy 0 [.ref 132, .int l1] s2 (.int v8) s6 ∧
      (v8 = (0 : Int32) →
        Q (.inl (some (.int (0 : Int32)))) s6
      ) ∧ (¬ v8 = (0 : Int32) →
        Q (.inl (some (.int (1 : Int32)))) s6
      )
    ) ∧ (¬ (l1 >>> (v4 &&& 31)) = (0 : Int32) →
      Q (.inl (some (.int (0 : Int32)))) s2
    )
  )
set_option maxRecDepth 10000 in
theorem g_X11_fulfils_0 {γ : ga_T} {l1 : Int32} {σ : st_T} {Q : rs_T → st_T → Prop} (zw : Wd σ) (zh : p_X11_fulfils_0 γ l1 σ Q) : vv_ γ m_X11_fulfils 1 0 [(0, .ref 128), (1, .int l1)] [] σ Q := by
  unfold p_X11_fulfils_0 at zh
  refine vr_iload_n dX11_fulfils_0 rfl rfl ?_
  refine vr_if_lt dX11_fulfils_1 (tgt := 31) rfl (fun zd_1 => ?_) (fun zd_1 => ?_)
  · replace zh := zh.1 zd_1
    refine vr_iconst dX11_fulfils_31 (v := (0 : Int32)) (by decide) ?_
    exact vr_zret dX11_fulfils_32 rfl (Or.inl rfl) zh
  · replace zh := zh.2 zd_1
    refine vr_iload_n dX11_fulfils_4 rfl rfl ?_
    refine vr_aload_n dX11_fulfils_5 rfl rfl ?_
    refine vr_getR dX11_fulfils_6 fl_LitmusTester_27 (wC_128 zw) (Or.inl ⟨_, rfl⟩) (wR_128_3 zw) ?_
    obtain ⟨v4, s2, zw1, zf_3, zh⟩ := zh
    refine vc_V (As := []) (rest := [.int l1]) dX11_fulfils_9 cV_LitmusTester_202 (wC_132 zw) rfl rfl (Nat.le_of_ble_eq_true rfl) (Nat.le_of_ble_eq_true rfl) (co_n zf_3 ?_)
    replace zw := zw1
    refine vr_ishr dX11_fulfils_12 ?_
    refine vr_if_ne dX11_fulfils_13 (tgt := 31) rfl (fun zd_5 => ?_) (fun zd_5 => ?_)
    · replace zh := zh.2 zd_5
      refine vr_iconst dX11_fulfils_31 (v := (0 : Int32)) (by decide) ?_
      exact vr_zret dX11_fulfils_32 rfl (Or.inl rfl) zh
    · replace zh := zh.1 zd_5
      refine vr_aload_n dX11_fulfils_16 rfl rfl ?_
      refine vr_getR dX11_fulfils_17 fl_LitmusTester_27 (wC_128 zw) (Or.inl ⟨_, rfl⟩) (wR_128_3 zw) ?_
      refine vr_iload_n dX11_fulfils_20 rfl rfl ?_
      obtain ⟨v8, s6, zw1, zf_7, zh⟩ := zh
      refine vc_V (As := [.int l1]) (rest := []) dX11_fulfils_21 cV_LitmusTester_205 (wC_132 zw) rfl rfl (Nat.le_of_ble_eq_true rfl) (Nat.le_of_ble_eq_true rfl) (co_n zf_7 ?_)
      replace zw := zw1
      refine vr_if_eq dX11_fulfils_24 (tgt := 31) rfl (fun zd_9 => ?_) (fun zd_9 => ?_)
      · replace zh := zh.1 zd_9
        refine vr_iconst dX11_fulfils_31 (v := (0 : Int32)) (by decide) ?_
        exact vr_zret dX11_fulfils_32 rfl (Or.inl rfl) zh
      · replace zh := zh.2 zd_9
        refine vr_iconst dX11_fulfils_27 (v := (1 : Int32)) (by decide) ?_
        refine vr_goto dX11_fulfils_28 (tgt := 32) rfl ?_
        exact vr_zret dX11_fulfils_32 rfl (Or.inr rfl) zh
theorem e_X11_fulfils {γ : ga_T} {l1 : Int32} {σ : st_T} {Q : rs_T → st_T → Prop} (zw : Wd σ) (zh : p_X11_fulfils_0 γ l1 σ Q) : sp_ γ m_X11_fulfils 1 [.ref 128, .int l1] σ Q := sp_of (pl_X11_fulfils) rfl (Nat.le_of_ble_eq_true rfl) (g_X11_fulfils_0 zw zh)
def p_X11_matchCount_0 (γ : ga_T) (l1 : Int32) (σ : st_T) (Q : rs_T → st_T → Prop) : Prop :=
  ((
    ∃ s1, Wd s1 ∧ fw_ γ m_X11_requireModel 8 [.ref 128, .int l1] σ s1 ∧
    ∃ (v5 : Nat) (s3 : st_T), Wd s3 ∧ fn_ γ m_X11_findings 5 [.ref 128, .int l1] s1 (.ref v5) s3 ∧
    vv_ γ m_X11_matchCount 9 16 [(0, .ref 128), (2, .ref v5), (3, .int (0 : Int32)), (4, .int (0 : Int32))] [] s3 Q
  ) ∨ (
    ∃ s6, Wd s6 ∧ ft_ γ m_X11_requireModel 8 [.ref 128, .int l1] σ "java/lang/IllegalArgumentException" s6 ∧
    Q (.inr "java/lang/IllegalArgumentException") s6
  ))
set_option maxRecDepth 10000 in
theorem g_X11_matchCount_0 {γ : ga_T} {l1 : Int32} {σ : st_T} {Q : rs_T → st_T → Prop} (zw : Wd σ) (zh : p_X11_matchCount_0 γ l1 σ Q) : vv_ γ m_X11_matchCount 9 0 [(0, .ref 128), (1, .int l1)] [] σ Q := by
  unfold p_X11_matchCount_0 at zh
  refine vr_aload_n dX11_matchCount_0 rfl rfl ?_
  refine vr_iload_n dX11_matchCount_1 rfl rfl ?_
  rcases zh with zh | zh
  · obtain ⟨s1, zw1, zf_2, zh⟩ := zh
    refine vc_V (As := [.int l1]) (rest := []) dX11_matchCount_2 cV_LitmusTester_189 (wC_128 zw) rfl rfl (Nat.le_of_ble_eq_true rfl) (Nat.le_of_ble_eq_true rfl) (co_v zf_2 ?_)
    replace zw := zw1
    refine vr_aload_n dX11_matchCount_5 rfl rfl ?_
    refine vr_iload_n dX11_matchCount_6 rfl rfl ?_
    obtain ⟨v5, s3, zw1, zf_4, zh⟩ := zh
    refine vc_V (As := [.int l1]) (rest := []) dX11_matchCount_7 cV_LitmusTester_192 (wC_128 zw) rfl rfl (Nat.le_of_ble_eq_true rfl) (Nat.le_of_ble_eq_true rfl) (co_n zf_4 ?_)
    replace zw := zw1
    refine vr_astore_n dX11_matchCount_10 rfl (Nat.le_of_ble_eq_true rfl) (vv_eq (ls' := [(0, .ref 128), (1, .int l1), (2, .ref v5)]) rfl ?_)
    refine vr_iconst dX11_matchCount_11 (v := (0 : Int32)) (by decide) ?_
    refine vr_istore_n dX11_matchCount_12 rfl (Nat.le_of_ble_eq_true rfl) (vv_eq (ls' := [(0, .ref 128), (1, .int l1), (2, .ref v5), (3, .int (0 : Int32))]) rfl ?_)
    refine vr_iconst dX11_matchCount_13 (v := (0 : Int32)) (by decide) ?_
    refine vr_istore dX11_matchCount_14 (Nat.le_of_ble_eq_true rfl) (vv_eq (ls' := [(0, .ref 128), (1, .int l1), (2, .ref v5), (3, .int (0 : Int32)), (4, .int (0 : Int32))]) rfl ?_)
    exact vv_sub (ls' := [(0, .ref 128), (2, .ref v5), (3, .int (0 : Int32)), (4, .int (0 : Int32))]) ⟨rfl, rfl, rfl, rfl, trivial⟩ zh
  · obtain ⟨s6, zw1, zf_7, zh⟩ := zh
    exact vc_V (As := [.int l1]) (rest := []) dX11_matchCount_2 cV_LitmusTester_189 (wC_128 zw) rfl rfl (Nat.le_of_ble_eq_true rfl) (Nat.le_of_ble_eq_true rfl) (co_t zf_7 (vt_out rfl zh))
theorem e_X11_matchCount {γ : ga_T} {l1 : Int32} {σ : st_T} {Q : rs_T → st_T → Prop} (zw : Wd σ) (zh : p_X11_matchCount_0 γ l1 σ Q) : sp_ γ m_X11_matchCount 9 [.ref 128, .int l1] σ Q := sp_of (pl_X11_matchCount) rfl (Nat.le_of_ble_eq_true rfl) (g_X11_matchCount_0 zw zh)
def p_X11_matchCount_16 (γ : ga_T) (l2 : Nat) (l3 : Int32) (l4 : Int32) (σ : st_T) (Q : rs_T → st_T → Prop) : Prop :=
  is_fi l2 ∧
  ∃ (v4 : Int32) (s2 : st_T), Wd s2 ∧ fn_ γ m_X3_size 0 [.ref l2] σ (.int v4) s2 ∧
  (v4 ≤ l4 →
    Q (.inl (some (.int l3))) s2
  ) ∧ (¬ v4 ≤ l4 →
    is_fi l2 ∧
    ∃ (v9 : Int32) (s7 : st_T), Wd s7 ∧ fn_ γ m_X3_codeAt 0 [.ref l2, .int l4] s2 (.int v9) s7 ∧
    ∃ (v12 : Int32) (s10 : st_T), Wd s10 ∧ fn_ γ m_X7_isFulfilledBy 0 [.ref 132, .int v9] s7 (.int v12) s10 ∧
    (v12 = (0 : Int32) →
      vv_ γ m_X11_matchCount 9 16 [(0, .ref 128), (2, .ref l2), (3, .int l3), (4, .int (l4 + 1))] [] s10 Q
    ) ∧ (¬ v12 = (0 : Int32) →
      vv_ γ m_X11_matchCount 9 16 [(0, .ref 128), (2, .ref l2), (3, .int (l3 + 1)), (4, .int (l4 + 1))] [] s10 Q
    )
  )
set_option maxRecDepth 10000 in
theorem g_X11_matchCount_16 {γ : ga_T} {l2 : Nat} {l3 : Int32} {l4 : Int32} {σ : st_T} {Q : rs_T → st_T → Prop} (zw : Wd σ) (zh : p_X11_matchCount_16 γ l2 l3 l4 σ Q) : vv_ γ m_X11_matchCount 9 16 [(0, .ref 128), (2, .ref l2), (3, .int l3), (4, .int l4)] [] σ Q := by
  unfold p_X11_matchCount_16 at zh
  refine vr_iload dX11_matchCount_16 rfl ?_
  refine vr_aload_n dX11_matchCount_18 rfl rfl ?_
  obtain ⟨zc_1, zh⟩ := zh
  obtain ⟨v4, s2, zw1, zf_3, zh⟩ := zh
  refine vc_V (As := []) (rest := [.int l4]) dX11_matchCount_19 cV_LitmusTester_195 (wC_fi zw zc_1) rfl rfl (Nat.le_of_ble_eq_true rfl) (Nat.le_of_ble_eq_true rfl) (co_n zf_3 ?_)
  replace zw := zw1
  refine vr_ic_ge dX11_matchCount_22 (tgt := 50) rfl (fun zd_5 => ?_) (fun zd_5 => ?_)
  · replace zh := zh.1 zd_5
    refine vr_iload_n dX11_matchCount_50 rfl rfl ?_
    exact vr_iret dX11_matchCount_51 rfl zh
  · replace zh := zh.2 zd_5
    refine vr_aload_n dX11_matchCount_25 rfl rfl ?_
    refine vr_getR dX11_matchCount_26 fl_LitmusTester_27 (wC_128 zw) (Or.inl ⟨_, rfl⟩) (wR_128_3 zw) ?_
    refine vr_aload_n dX11_matchCount_29 rfl rfl ?_
    refine vr_iload dX11_matchCount_30 rfl ?_
    obtain ⟨zc_6, zh⟩ := zh
    obtain ⟨v9, s7, zw1, zf_8, zh⟩ := zh
    refine vc_V (As := [.int l4]) (rest := [.ref 132]) dX11_matchCount_32 cV_LitmusTester_196 (wC_fi zw zc_6) rfl rfl (Nat.le_of_ble_eq_true rfl) (Nat.le_of_ble_eq_true rfl) (co_n zf_8 ?_)
    replace zw := zw1
    obtain ⟨v12, s10, zw1, zf_11, zh⟩ := zh
    refine vc_V (As := [.int v9]) (rest := []) dX11_matchCount_35 cV_LitmusTester_205 (wC_132 zw) rfl rfl (Nat.le_of_ble_eq_true rfl) (Nat.le_of_ble_eq_true rfl) (co_n zf_11 ?_)
    replace zw := zw1
    refine vr_if_eq dX11_matchCount_38 (tgt := 44) rfl (fun zd_13 => ?_) (fun zd_13 => ?_)
    · replace zh := zh.1 zd_13
      refine vr_iinc dX11_matchCount_44 (x := l4) (v := (l4 + 1)) rfl (ii_ (by decide)) (Nat.le_of_ble_eq_true rfl) (vv_eq (ls' := [(0, .ref 128), (2, .ref l2), (3, .int l3), (4, .int (l4 + 1))]) rfl ?_)
      refine vr_goto dX11_matchCount_47 (tgt := 16) rfl ?_
      exact vv_sub (ls' := [(0, .ref 128), (2, .ref l2), (3, .int l3), (4, .int (l4 + 1))]) ⟨rfl, rfl, rfl, rfl, trivial⟩ zh
    · replace zh := zh.2 zd_13
      refine vr_iinc dX11_matchCount_41 (x := l3) (v := (l3 + 1)) rfl (ii_ (by decide)) (Nat.le_of_ble_eq_true rfl) (vv_eq (ls' := [(0, .ref 128), (2, .ref l2), (3, .int (l3 + 1)), (4, .int l4)]) rfl ?_)
      refine vr_iinc dX11_matchCount_44 (x := l4) (v := (l4 + 1)) rfl (ii_ (by decide)) (Nat.le_of_ble_eq_true rfl) (vv_eq (ls' := [(0, .ref 128), (2, .ref l2), (3, .int (l3 + 1)), (4, .int (l4 + 1))]) rfl ?_)
      refine vr_goto dX11_matchCount_47 (tgt := 16) rfl ?_
      exact vv_sub (ls' := [(0, .ref 128), (2, .ref l2), (3, .int (l3 + 1)), (4, .int (l4 + 1))]) ⟨rfl, rfl, rfl, rfl, trivial⟩ zh
def p_X11_firstMatch_0 (γ : ga_T) (l1 : Int32) (σ : st_T) (Q : rs_T → st_T → Prop) : Prop :=
  ((
    ∃ s1, Wd s1 ∧ fw_ γ m_X11_requireModel 8 [.ref 128, .int l1] σ s1 ∧
    ∃ (v5 : Nat) (s3 : st_T), Wd s3 ∧ fn_ γ m_X11_findings 5 [.ref 128, .int l1] s1 (.ref v5) s3 ∧
    vv_ γ m_X11_firstMatch 9 13 [(0, .ref 128), (2, .ref v5), (3, .int (0 : Int32))] [] s3 Q
  ) ∨ (
    ∃ s6, Wd s6 ∧ ft_ γ m_X11_requireModel 8 [.ref 128, .int l1] σ "java/lang/IllegalArgumentException" s6 ∧
    Q (.inr "java/lang/IllegalArgumentException") s6
  ))
set_option maxRecDepth 10000 in
theorem g_X11_firstMatch_0 {γ : ga_T} {l1 : Int32} {σ : st_T} {Q : rs_T → st_T → Prop} (zw : Wd σ) (zh : p_X11_firstMatch_0 γ l1 σ Q) : vv_ γ m_X11_firstMatch 9 0 [(0, .ref 128), (1, .int l1)] [] σ Q := by
  unfold p_X11_firstMatch_0 at zh
  refine vr_aload_n dX11_firstMatch_0 rfl rfl ?_
  refine vr_iload_n dX11_firstMatch_1 rfl rfl ?_
  rcases zh with zh | zh
  · obtain ⟨s1, zw1, zf_2, zh⟩ := zh
    refine vc_V (As := [.int l1]) (rest := []) dX11_firstMatch_2 cV_LitmusTester_189 (wC_128 zw) rfl rfl (Nat.le_of_ble_eq_true rfl) (Nat.le_of_ble_eq_true rfl) (co_v zf_2 ?_)
    replace zw := zw1
    refine vr_aload_n dX11_firstMatch_5 rfl rfl ?_
    refine vr_iload_n dX11_firstMatch_6 rfl rfl ?_
    obtain ⟨v5, s3, zw1, zf_4, zh⟩ := zh
    refine vc_V (As := [.int l1]) (rest := []) dX11_firstMatch_7 cV_LitmusTester_192 (wC_128 zw) rfl rfl (Nat.le_of_ble_eq_true rfl) (Nat.le_of_ble_eq_true rfl) (co_n zf_4 ?_)
    replace zw := zw1
    refine vr_astore_n dX11_firstMatch_10 rfl (Nat.le_of_ble_eq_true rfl) (vv_eq (ls' := [(0, .ref 128), (1, .int l1), (2, .ref v5)]) rfl ?_)
    refine vr_iconst dX11_firstMatch_11 (v := (0 : Int32)) (by decide) ?_
    refine vr_istore_n dX11_firstMatch_12 rfl (Nat.le_of_ble_eq_true rfl) (vv_eq (ls' := [(0, .ref 128), (1, .int l1), (2, .ref v5), (3, .int (0 : Int32))]) rfl ?_)
    exact vv_sub (ls' := [(0, .ref 128), (2, .ref v5), (3, .int (0 : Int32))]) ⟨rfl, rfl, rfl, trivial⟩ zh
  · obtain ⟨s6, zw1, zf_7, zh⟩ := zh
    exact vc_V (As := [.int l1]) (rest := []) dX11_firstMatch_2 cV_LitmusTester_189 (wC_128 zw) rfl rfl (Nat.le_of_ble_eq_true rfl) (Nat.le_of_ble_eq_true rfl) (co_t zf_7 (vt_out rfl zh))
theorem e_X11_firstMatch {γ : ga_T} {l1 : Int32} {σ : st_T} {Q : rs_T → st_T → Prop} (zw : Wd σ) (zh : p_X11_firstMatch_0 γ l1 σ Q) : sp_ γ m_X11_firstMatch 9 [.ref 128, .int l1] σ Q := sp_of (pl_X11_firstMatch) rfl (Nat.le_of_ble_eq_true rfl) (g_X11_firstMatch_0 zw zh)
def p_X11_firstMatch_13 (γ : ga_T) (l2 : Nat) (l3 : Int32) (σ : st_T) (Q : rs_T → st_T → Prop) : Prop :=
  is_fi l2 ∧
  ∃ (v4 : Int32) (s2 : st_T), Wd s2 ∧ fn_ γ m_X3_size 0 [.ref l2] σ (.int v4) s2 ∧
  (v4 ≤ l3 →
    Q (.inl (some (.int (-1 : Int32)))) s2
  ) ∧ (¬ v4 ≤ l3 →
    is_fi l2 ∧
    ∃ (v9 : Int32) (s7 : st_T), Wd s7 ∧ fn_ γ m_X3_codeAt 0 [.ref l2, .int l3] s2 (.int v9) s7 ∧
    ∃ (v12 : Int32) (s10 : st_T), Wd s10 ∧ fn_ γ m_X7_isFulfilledBy 0 [.ref 132, .int v9] s7 (.int v12) s10 ∧
    (v12 = (0 : Int32) →
      vv_ γ m_X11_firstMatch 9 13 [(0, .ref 128), (2, .ref l2), (3, .int (l3 + 1))] [] s10 Q
    ) ∧ (¬ v12 = (0 : Int32) →
      is_fi l2 ∧
      ∃ (v17 : Int32) (s15 : st_T), Wd s15 ∧ fn_ γ m_X3_codeAt 0 [.ref l2, .int l3] s10 (.int v17) s15 ∧
      Q (.inl (some (.int v17))) s15
    )
  )
set_option maxRecDepth 10000 in
theorem g_X11_firstMatch_13 {γ : ga_T} {l2 : Nat} {l3 : Int32} {σ : st_T} {Q : rs_T → st_T → Prop} (zw : Wd σ) (zh : p_X11_firstMatch_13 γ l2 l3 σ Q) : vv_ γ m_X11_firstMatch 9 13 [(0, .ref 128), (2, .ref l2), (3, .int l3)] [] σ Q := by
  unfold p_X11_firstMatch_13 at zh
  refine vr_iload_n dX11_firstMatch_13 rfl rfl ?_
  refine vr_aload_n dX11_firstMatch_14 rfl rfl ?_
  obtain ⟨zc_1, zh⟩ := zh
  obtain ⟨v4, s2, zw1, zf_3, zh⟩ := zh
  refine vc_V (As := []) (rest := [.int l3]) dX11_firstMatch_15 cV_LitmusTester_195 (wC_fi zw zc_1) rfl rfl (Nat.le_of_ble_eq_true rfl) (Nat.le_of_ble_eq_true rfl) (co_n zf_3 ?_)
  replace zw := zw1
  refine vr_ic_ge dX11_firstMatch_18 (tgt := 48) rfl (fun zd_5 => ?_) (fun zd_5 => ?_)
  · replace zh := zh.1 zd_5
    refine vr_iconst dX11_firstMatch_48 (v := (-1 : Int32)) (by decide) ?_
    exact vr_iret dX11_firstMatch_49 rfl zh
  · replace zh := zh.2 zd_5
    refine vr_aload_n dX11_firstMatch_21 rfl rfl ?_
    refine vr_getR dX11_firstMatch_22 fl_LitmusTester_27 (wC_128 zw) (Or.inl ⟨_, rfl⟩) (wR_128_3 zw) ?_
    refine vr_aload_n dX11_firstMatch_25 rfl rfl ?_
    refine vr_iload_n dX11_firstMatch_26 rfl rfl ?_
    obtain ⟨zc_6, zh⟩ := zh
    obtain ⟨v9, s7, zw1, zf_8, zh⟩ := zh
    refine vc_V (As := [.int l3]) (rest := [.ref 132]) dX11_firstMatch_27 cV_LitmusTester_196 (wC_fi zw zc_6) rfl rfl (Nat.le_of_ble_eq_true rfl) (Nat.le_of_ble_eq_true rfl) (co_n zf_8 ?_)
    replace zw := zw1
    obtain ⟨v12, s10, zw1, zf_11, zh⟩ := zh
    refine vc_V (As := [.int v9]) (rest := []) dX11_firstMatch_30 cV_LitmusTester_205 (wC_132 zw) rfl rfl (Nat.le_of_ble_eq_true rfl) (Nat.le_of_ble_eq_true rfl) (co_n zf_11 ?_)
    replace zw := zw1
    refine vr_if_eq dX11_firstMatch_33 (tgt := 42) rfl (fun zd_13 => ?_) (fun zd_13 => ?_)
    · replace zh := zh.1 zd_13
      refine vr_iinc dX11_firstMatch_42 (x := l3) (v := (l3 + 1)) rfl (ii_ (by decide)) (Nat.le_of_ble_eq_true rfl) (vv_eq (ls' := [(0, .ref 128), (2, .ref l2), (3, .int (l3 + 1))]) rfl ?_)
      refine vr_goto dX11_firstMatch_45 (tgt := 13) rfl ?_
      exact vv_sub (ls' := [(0, .ref 128), (2, .ref l2), (3, .int (l3 + 1))]) ⟨rfl, rfl, rfl, trivial⟩ zh
    · replace zh := zh.2 zd_13
      refine vr_aload_n dX11_firstMatch_36 rfl rfl ?_
      refine vr_iload_n dX11_firstMatch_37 rfl rfl ?_
      obtain ⟨zc_14, zh⟩ := zh
      obtain ⟨v17, s15, zw1, zf_16, zh⟩ := zh
      refine vc_V (As := [.int l3]) (rest := []) dX11_firstMatch_38 cV_LitmusTester_196 (wC_fi zw zc_14) rfl rfl (Nat.le_of_ble_eq_true rfl) (Nat.le_of_ble_eq_true rfl) (co_n zf_16 ?_)
      replace zw := zw1
      exact vr_iret dX11_firstMatch_41 rfl zh
def p_X11_stateCount_0 (γ : ga_T) (l1 : Int32) (σ : st_T) (Q : rs_T → st_T → Prop) : Prop :=
  ((
    ∃ s1, Wd s1 ∧ fw_ γ m_X11_requireModel 8 [.ref 128, .int l1] σ s1 ∧
    ∃ (v5 : Nat) (s3 : st_T), Wd s3 ∧ fn_ γ m_X11_findings 5 [.ref 128, .int l1] s1 (.ref v5) s3 ∧
    is_fi v5 ∧
    ∃ (v9 : Int32) (s7 : st_T), Wd s7 ∧ fn_ γ m_X3_states 0 [.ref v5] s3 (.int v9) s7 ∧
    Q (.inl (some (.int v9))) s7
  ) ∨ (
    ∃ s10, Wd s10 ∧ ft_ γ m_X11_requireModel 8 [.ref 128, .int l1] σ "java/lang/IllegalArgumentException" s10 ∧
    Q (.inr "java/lang/IllegalArgumentException") s10
  ))
set_option maxRecDepth 10000 in
theorem g_X11_stateCount_0 {γ : ga_T} {l1 : Int32} {σ : st_T} {Q : rs_T → st_T → Prop} (zw : Wd σ) (zh : p_X11_stateCount_0 γ l1 σ Q) : vv_ γ m_X11_stateCount 9 0 [(0, .ref 128), (1, .int l1)] [] σ Q := by
  unfold p_X11_stateCount_0 at zh
  refine vr_aload_n dX11_stateCount_0 rfl rfl ?_
  refine vr_iload_n dX11_stateCount_1 rfl rfl ?_
  rcases zh with zh | zh
  · obtain ⟨s1, zw1, zf_2, zh⟩ := zh
    refine vc_V (As := [.int l1]) (rest := []) dX11_stateCount_2 cV_LitmusTester_189 (wC_128 zw) rfl rfl (Nat.le_of_ble_eq_true rfl) (Nat.le_of_ble_eq_true rfl) (co_v zf_2 ?_)
    replace zw := zw1
    refine vr_aload_n dX11_stateCount_5 rfl rfl ?_
    refine vr_iload_n dX11_stateCount_6 rfl rfl ?_
    obtain ⟨v5, s3, zw1, zf_4, zh⟩ := zh
    refine vc_V (As := [.int l1]) (rest := []) dX11_stateCount_7 cV_LitmusTester_192 (wC_128 zw) rfl rfl (Nat.le_of_ble_eq_true rfl) (Nat.le_of_ble_eq_true rfl) (co_n zf_4 ?_)
    replace zw := zw1
    obtain ⟨zc_6, zh⟩ := zh
    obtain ⟨v9, s7, zw1, zf_8, zh⟩ := zh
    refine vc_V (As := []) (rest := []) dX11_stateCount_10 cV_LitmusTester_208 (wC_fi zw zc_6) rfl rfl (Nat.le_of_ble_eq_true rfl) (Nat.le_of_ble_eq_true rfl) (co_n zf_8 ?_)
    replace zw := zw1
    exact vr_iret dX11_stateCount_13 rfl zh
  · obtain ⟨s10, zw1, zf_11, zh⟩ := zh
    exact vc_V (As := [.int l1]) (rest := []) dX11_stateCount_2 cV_LitmusTester_189 (wC_128 zw) rfl rfl (Nat.le_of_ble_eq_true rfl) (Nat.le_of_ble_eq_true rfl) (co_t zf_11 (vt_out rfl zh))
theorem e_X11_stateCount {γ : ga_T} {l1 : Int32} {σ : st_T} {Q : rs_T → st_T → Prop} (zw : Wd σ) (zh : p_X11_stateCount_0 γ l1 σ Q) : sp_ γ m_X11_stateCount 9 [.ref 128, .int l1] σ Q := sp_of (pl_X11_stateCount) rfl (Nat.le_of_ble_eq_true rfl) (g_X11_stateCount_0 zw zh)
def p_X11_executionCount_0 (γ : ga_T) (l1 : Int32) (σ : st_T) (Q : rs_T → st_T → Prop) : Prop :=
  ((
    ∃ s1, Wd s1 ∧ fw_ γ m_X11_requireModel 8 [.ref 128, .int l1] σ s1 ∧
    ∃ (v5 : Nat) (s3 : st_T), Wd s3 ∧ fn_ γ m_X11_findings 5 [.ref 128, .int l1] s1 (.ref v5) s3 ∧
    vv_ γ m_X11_executionCount 9 16 [(2, .ref v5), (3, .long (0 : Int64)), (5, .int (0 : Int32))] [] s3 Q
  ) ∨ (
    ∃ s6, Wd s6 ∧ ft_ γ m_X11_requireModel 8 [.ref 128, .int l1] σ "java/lang/IllegalArgumentException" s6 ∧
    Q (.inr "java/lang/IllegalArgumentException") s6
  ))
set_option maxRecDepth 10000 in
theorem g_X11_executionCount_0 {γ : ga_T} {l1 : Int32} {σ : st_T} {Q : rs_T → st_T → Prop} (zw : Wd σ) (zh : p_X11_executionCount_0 γ l1 σ Q) : vv_ γ m_X11_executionCount 9 0 [(0, .ref 128), (1, .int l1)] [] σ Q := by
  unfold p_X11_executionCount_0 at zh
  refine vr_aload_n dX11_executionCount_0 rfl rfl ?_
  refine vr_iload_n dX11_executionCount_1 rfl rfl ?_
  rcases zh with zh | zh
  · obtain ⟨s1, zw1, zf_2, zh⟩ := zh
    refine vc_V (As := [.int l1]) (rest := []) dX11_executionCount_2 cV_LitmusTester_189 (wC_128 zw) rfl rfl (Nat.le_of_ble_eq_true rfl) (Nat.le_of_ble_eq_true rfl) (co_v zf_2 ?_)
    replace zw := zw1
    refine vr_aload_n dX11_executionCount_5 rfl rfl ?_
    refine vr_iload_n dX11_executionCount_6 rfl rfl ?_
    obtain ⟨v5, s3, zw1, zf_4, zh⟩ := zh
    refine vc_V (As := [.int l1]) (rest := []) dX11_executionCount_7 cV_LitmusTester_192 (wC_128 zw) rfl rfl (Nat.le_of_ble_eq_true rfl) (Nat.le_of_ble_eq_true rfl) (co_n zf_4 ?_)
    replace zw := zw1
    refine vr_astore_n dX11_executionCount_10 rfl (Nat.le_of_ble_eq_true rfl) (vv_eq (ls' := [(0, .ref 128), (1, .int l1), (2, .ref v5)]) rfl ?_)
    refine vr_lconst dX11_executionCount_11 (v := (0 : Int64)) (by decide) ?_
    refine vr_lstore_n dX11_executionCount_12 rfl (Nat.le_of_ble_eq_true rfl) (vv_eq (ls' := [(0, .ref 128), (1, .int l1), (2, .ref v5), (3, .long (0 : Int64))]) rfl ?_)
    refine vr_iconst dX11_executionCount_13 (v := (0 : Int32)) (by decide) ?_
    refine vr_istore dX11_executionCount_14 (Nat.le_of_ble_eq_true rfl) (vv_eq (ls' := [(0, .ref 128), (1, .int l1), (2, .ref v5), (3, .long (0 : Int64)), (5, .int (0 : Int32))]) rfl ?_)
    exact vv_sub (ls' := [(2, .ref v5), (3, .long (0 : Int64)), (5, .int (0 : Int32))]) ⟨rfl, rfl, rfl, trivial⟩ zh
  · obtain ⟨s6, zw1, zf_7, zh⟩ := zh
    exact vc_V (As := [.int l1]) (rest := []) dX11_executionCount_2 cV_LitmusTester_189 (wC_128 zw) rfl rfl (Nat.le_of_ble_eq_true rfl) (Nat.le_of_ble_eq_true rfl) (co_t zf_7 (vt_out rfl zh))
theorem e_X11_executionCount {γ : ga_T} {l1 : Int32} {σ : st_T} {Q : rs_T → st_T → Prop} (zw : Wd σ) (zh : p_X11_executionCount_0 γ l1 σ Q) : sp_ γ m_X11_executionCount 9 [.ref 128, .int l1] σ Q := sp_of (pl_X11_executionCount) rfl (Nat.le_of_ble_eq_true rfl) (g_X11_executionCount_0 zw zh)
def p_X11_executionCount_16 (γ : ga_T) (l2 : Nat) (l3 : Int64) (l5 : Int32) (σ : st_T) (Q : rs_T → st_T → Prop) : Prop :=
  is_fi l2 ∧
  ∃ (v4 : Int32) (s2 : st_T), Wd s2 ∧ fn_ γ m_X3_size 0 [.ref l2] σ (.int v4) s2 ∧
  (v4 ≤ l5 →
    Q (.inl (some (.long l3))) s2
  ) ∧ (¬ v4 ≤ l5 →
    is_fi l2 ∧
    ∃ (v9 : Int64) (s7 : st_T), Wd s7 ∧ fn_ γ m_X3_executionsAt 0 [.ref l2, .int l5] s2 (.long v9) s7 ∧
    vv_ γ m_X11_executionCount 9 16 [(2, .ref l2), (3, .long (l3 + v9)), (5, .int (l5 + 1))] [] s7 Q
  )
set_option maxRecDepth 10000 in
theorem g_X11_executionCount_16 {γ : ga_T} {l2 : Nat} {l3 : Int64} {l5 : Int32} {σ : st_T} {Q : rs_T → st_T → Prop} (zw : Wd σ) (zh : p_X11_executionCount_16 γ l2 l3 l5 σ Q) : vv_ γ m_X11_executionCount 9 16 [(2, .ref l2), (3, .long l3), (5, .int l5)] [] σ Q := by
  unfold p_X11_executionCount_16 at zh
  refine vr_iload dX11_executionCount_16 rfl ?_
  refine vr_aload_n dX11_executionCount_18 rfl rfl ?_
  obtain ⟨zc_1, zh⟩ := zh
  obtain ⟨v4, s2, zw1, zf_3, zh⟩ := zh
  refine vc_V (As := []) (rest := [.int l5]) dX11_executionCount_19 cV_LitmusTester_195 (wC_fi zw zc_1) rfl rfl (Nat.le_of_ble_eq_true rfl) (Nat.le_of_ble_eq_true rfl) (co_n zf_3 ?_)
  replace zw := zw1
  refine vr_ic_ge dX11_executionCount_22 (tgt := 40) rfl (fun zd_5 => ?_) (fun zd_5 => ?_)
  · replace zh := zh.1 zd_5
    refine vr_lload_n dX11_executionCount_40 rfl rfl ?_
    exact vr_lret dX11_executionCount_41 rfl zh
  · replace zh := zh.2 zd_5
    refine vr_lload_n dX11_executionCount_25 rfl rfl ?_
    refine vr_aload_n dX11_executionCount_26 rfl rfl ?_
    refine vr_iload dX11_executionCount_27 rfl ?_
    obtain ⟨zc_6, zh⟩ := zh
    obtain ⟨v9, s7, zw1, zf_8, zh⟩ := zh
    refine vc_V (As := [.int l5]) (rest := [.long l3]) dX11_executionCount_29 cV_LitmusTester_211 (wC_fi zw zc_6) rfl rfl (Nat.le_of_ble_eq_true rfl) (Nat.le_of_ble_eq_true rfl) (co_n zf_8 ?_)
    replace zw := zw1
    refine vr_ladd dX11_executionCount_32 ?_
    refine vr_lstore_n dX11_executionCount_33 rfl (Nat.le_of_ble_eq_true rfl) (vv_eq (ls' := [(2, .ref l2), (3, .long (l3 + v9)), (5, .int l5)]) rfl ?_)
    refine vr_iinc dX11_executionCount_34 (x := l5) (v := (l5 + 1)) rfl (ii_ (by decide)) (Nat.le_of_ble_eq_true rfl) (vv_eq (ls' := [(2, .ref l2), (3, .long (l3 + v9)), (5, .int (l5 + 1))]) rfl ?_)
    refine vr_goto dX11_executionCount_37 (tgt := 16) rfl ?_
    exact vv_sub (ls' := [(2, .ref l2), (3, .long (l3 + v9)), (5, .int (l5 + 1))]) ⟨rfl, rfl, rfl, trivial⟩ zh
def p_X11_executionsWith_0 (γ : ga_T) (l1 : Int32) (l2 : Int32) (σ : st_T) (Q : rs_T → st_T → Prop) : Prop :=
  ((
    ∃ s1, Wd s1 ∧ fw_ γ m_X11_requireModel 8 [.ref 128, .int l1] σ s1 ∧
    ∃ (v5 : Nat) (s3 : st_T), Wd s3 ∧ fn_ γ m_X11_findings 5 [.ref 128, .int l1] s1 (.ref v5) s3 ∧
    is_fi v5 ∧
    ∃ (v9 : Int32) (s7 : st_T), Wd s7 ∧ fn_ γ m_X3_placeOf 1 [.ref v5, .int l2] s3 (.int v9) s7 ∧
    is_fi v5 ∧
    ∃ (v13 : Int64) (s11 : st_T), Wd s11 ∧ fn_ γ m_X3_executionsAt 0 [.ref v5, .int v9] s7 (.long v13) s11 ∧
    Q (.inl (some (.long v13))) s11
  ) ∨ (
    ∃ s14, Wd s14 ∧ ft_ γ m_X11_requireModel 8 [.ref 128, .int l1] σ "java/lang/IllegalArgumentException" s14 ∧
    Q (.inr "java/lang/IllegalArgumentException") s14
  ))
set_option maxRecDepth 10000 in
theorem g_X11_executionsWith_0 {γ : ga_T} {l1 : Int32} {l2 : Int32} {σ : st_T} {Q : rs_T → st_T → Prop} (zw : Wd σ) (zh : p_X11_executionsWith_0 γ l1 l2 σ Q) : vv_ γ m_X11_executionsWith 9 0 [(0, .ref 128), (1, .int l1), (2, .int l2)] [] σ Q := by
  unfold p_X11_executionsWith_0 at zh
  refine vr_aload_n dX11_executionsWith_0 rfl rfl ?_
  refine vr_iload_n dX11_executionsWith_1 rfl rfl ?_
  rcases zh with zh | zh
  · obtain ⟨s1, zw1, zf_2, zh⟩ := zh
    refine vc_V (As := [.int l1]) (rest := []) dX11_executionsWith_2 cV_LitmusTester_189 (wC_128 zw) rfl rfl (Nat.le_of_ble_eq_true rfl) (Nat.le_of_ble_eq_true rfl) (co_v zf_2 ?_)
    replace zw := zw1
    refine vr_aload_n dX11_executionsWith_5 rfl rfl ?_
    refine vr_iload_n dX11_executionsWith_6 rfl rfl ?_
    obtain ⟨v5, s3, zw1, zf_4, zh⟩ := zh
    refine vc_V (As := [.int l1]) (rest := []) dX11_executionsWith_7 cV_LitmusTester_192 (wC_128 zw) rfl rfl (Nat.le_of_ble_eq_true rfl) (Nat.le_of_ble_eq_true rfl) (co_n zf_4 ?_)
    replace zw := zw1
    refine vr_astore_n dX11_executionsWith_10 rfl (Nat.le_of_ble_eq_true rfl) (vv_eq (ls' := [(0, .ref 128), (1, .int l1), (2, .int l2), (3, .ref v5)]) rfl ?_)
    refine vr_aload_n dX11_executionsWith_11 rfl rfl ?_
    refine vr_aload_n dX11_executionsWith_12 rfl rfl ?_
    refine vr_iload_n dX11_executionsWith_13 rfl rfl ?_
    obtain ⟨zc_6, zh⟩ := zh
    obtain ⟨v9, s7, zw1, zf_8, zh⟩ := zh
    refine vc_V (As := [.int l2]) (rest := [.ref v5]) dX11_executionsWith_14 cV_LitmusTester_199 (wC_fi zw zc_6) rfl rfl (Nat.le_of_ble_eq_true rfl) (Nat.le_of_ble_eq_true rfl) (co_n zf_8 ?_)
    replace zw := zw1
    obtain ⟨zc_10, zh⟩ := zh
    obtain ⟨v13, s11, zw1, zf_12, zh⟩ := zh
    refine vc_V (As := [.int v9]) (rest := []) dX11_executionsWith_17 cV_LitmusTester_211 (wC_fi zw zc_10) rfl rfl (Nat.le_of_ble_eq_true rfl) (Nat.le_of_ble_eq_true rfl) (co_n zf_12 ?_)
    replace zw := zw1
    exact vr_lret dX11_executionsWith_20 rfl zh
  · obtain ⟨s14, zw1, zf_15, zh⟩ := zh
    exact vc_V (As := [.int l1]) (rest := []) dX11_executionsWith_2 cV_LitmusTester_189 (wC_128 zw) rfl rfl (Nat.le_of_ble_eq_true rfl) (Nat.le_of_ble_eq_true rfl) (co_t zf_15 (vt_out rfl zh))
theorem e_X11_executionsWith {γ : ga_T} {l1 : Int32} {l2 : Int32} {σ : st_T} {Q : rs_T → st_T → Prop} (zw : Wd σ) (zh : p_X11_executionsWith_0 γ l1 l2 σ Q) : sp_ γ m_X11_executionsWith 9 [.ref 128, .int l1, .int l2] σ Q := sp_of (pl_X11_executionsWith) rfl (Nat.le_of_ble_eq_true rfl) (g_X11_executionsWith_0 zw zh)
def p_X11_readValues_0 (γ : ga_T) (l1 : Int32) (l2 : Int32) (σ : st_T) (Q : rs_T → st_T → Prop) : Prop :=
  ((
    ∃ s1, Wd s1 ∧ fw_ γ m_X11_requireModel 8 [.ref 128, .int l1] σ s1 ∧
    ((
      ∃ s3, Wd s3 ∧ fw_ γ m_X11_requireInstruction 8 [.ref 128, .int l2] s1 s3 ∧
      ∃ (v7 : Int32) (s5 : st_T), Wd s5 ∧ fn_ γ m_X7_property 0 [.ref 132, .int l2, .int (3 : Int32)] s3 (.int v7) s5 ∧
      (v7 = (-1 : Int32) →
        Q (.inr "java/util/NoSuchElementException") (pt_X s5 1 6)
      ) ∧ (¬ v7 = (-1 : Int32) →
        ∃ (v11 : Nat) (s9 : st_T), Wd s9 ∧ fn_ γ m_X11_findings 5 [.ref 128, .int l1] s5 (.ref v11) s9 ∧
        ∃ (v14 : Int32) (s12 : st_T), Wd s12 ∧ fn_ γ m_X7_property 0 [.ref 132, .int l2, .int (0 : Int32)] s9 (.int v14) s12 ∧
        ∃ (v17 : Int32) (s15 : st_T), Wd s15 ∧ fn_ γ m_X7_registerShift 1 [.ref 132, .int v14, .int v7] s12 (.int v17) s15 ∧
        is_fi v11 ∧
        ∃ (v21 : Int32) (s19 : st_T), Wd s19 ∧ fn_ γ m_X3_valuesAt 1 [.ref v11, .int v17] s15 (.int v21) s19 ∧
        Q (.inl (some (.int v21))) s19
      )
    ) ∨ (
      ∃ s22, Wd s22 ∧ ft_ γ m_X11_requireInstruction 8 [.ref 128, .int l2] s1 "java/lang/IndexOutOfBoundsException" s22 ∧
      Q (.inr "java/lang/IndexOutOfBoundsException") s22
    ))
  ) ∨ (
    ∃ s24, Wd s24 ∧ ft_ γ m_X11_requireModel 8 [.ref 128, .int l1] σ "java/lang/IllegalArgumentException" s24 ∧
    Q (.inr "java/lang/IllegalArgumentException") s24
  ))
set_option maxRecDepth 10000 in
theorem g_X11_readValues_0 {γ : ga_T} {l1 : Int32} {l2 : Int32} {σ : st_T} {Q : rs_T → st_T → Prop} (zw : Wd σ) (zh : p_X11_readValues_0 γ l1 l2 σ Q) : vv_ γ m_X11_readValues 9 0 [(0, .ref 128), (1, .int l1), (2, .int l2)] [] σ Q := by
  unfold p_X11_readValues_0 at zh
  refine vr_aload_n dX11_readValues_0 rfl rfl ?_
  refine vr_iload_n dX11_readValues_1 rfl rfl ?_
  rcases zh with zh | zh
  · obtain ⟨s1, zw1, zf_2, zh⟩ := zh
    refine vc_V (As := [.int l1]) (rest := []) dX11_readValues_2 cV_LitmusTester_189 (wC_128 zw) rfl rfl (Nat.le_of_ble_eq_true rfl) (Nat.le_of_ble_eq_true rfl) (co_v zf_2 ?_)
    replace zw := zw1
    refine vr_aload_n dX11_readValues_5 rfl rfl ?_
    refine vr_iload_n dX11_readValues_6 rfl rfl ?_
    rcases zh with zh | zh
    · obtain ⟨s3, zw1, zf_4, zh⟩ := zh
      refine vc_V (As := [.int l2]) (rest := []) dX11_readValues_7 cV_LitmusTester_110 (wC_128 zw) rfl rfl (Nat.le_of_ble_eq_true rfl) (Nat.le_of_ble_eq_true rfl) (co_v zf_4 ?_)
      replace zw := zw1
      refine vr_aload_n dX11_readValues_10 rfl rfl ?_
      refine vr_getR dX11_readValues_11 fl_LitmusTester_27 (wC_128 zw) (Or.inl ⟨_, rfl⟩) (wR_128_3 zw) ?_
      refine vr_iload_n dX11_readValues_14 rfl rfl ?_
      refine vr_iconst dX11_readValues_15 (v := (3 : Int32)) (by decide) ?_
      obtain ⟨v7, s5, zw1, zf_6, zh⟩ := zh
      refine vc_V (As := [.int l2, .int (3 : Int32)]) (rest := []) dX11_readValues_16 cV_LitmusTester_113 (wC_132 zw) rfl rfl (Nat.le_of_ble_eq_true rfl) (Nat.le_of_ble_eq_true rfl) (co_n zf_6 ?_)
      replace zw := zw1
      refine vr_istore_n dX11_readValues_19 rfl (Nat.le_of_ble_eq_true rfl) (vv_eq (ls' := [(0, .ref 128), (1, .int l1), (2, .int l2), (3, .int v7)]) rfl ?_)
      refine vr_iload_n dX11_readValues_20 rfl rfl ?_
      refine vr_iconst dX11_readValues_21 (v := (-1 : Int32)) (by decide) ?_
      refine vr_ic_ne dX11_readValues_22 (tgt := 35) rfl (fun zd_8 => ?_) (fun zd_8 => ?_)
      · replace zh := zh.2 zd_8
        refine vr_aload_n dX11_readValues_35 rfl rfl ?_
        refine vr_iload_n dX11_readValues_36 rfl rfl ?_
        obtain ⟨v11, s9, zw1, zf_10, zh⟩ := zh
        refine vc_V (As := [.int l1]) (rest := []) dX11_readValues_37 cV_LitmusTester_192 (wC_128 zw) rfl rfl (Nat.le_of_ble_eq_true rfl) (Nat.le_of_ble_eq_true rfl) (co_n zf_10 ?_)
        replace zw := zw1
        refine vr_aload_n dX11_readValues_40 rfl rfl ?_
        refine vr_getR dX11_readValues_41 fl_LitmusTester_27 (wC_128 zw) (Or.inl ⟨_, rfl⟩) (wR_128_3 zw) ?_
        refine vr_aload_n dX11_readValues_44 rfl rfl ?_
        refine vr_getR dX11_readValues_45 fl_LitmusTester_27 (wC_128 zw) (Or.inl ⟨_, rfl⟩) (wR_128_3 zw) ?_
        refine vr_iload_n dX11_readValues_48 rfl rfl ?_
        refine vr_iconst dX11_readValues_49 (v := (0 : Int32)) (by decide) ?_
        obtain ⟨v14, s12, zw1, zf_13, zh⟩ := zh
        refine vc_V (As := [.int l2, .int (0 : Int32)]) (rest := [.ref 132, .ref v11]) dX11_readValues_50 cV_LitmusTester_113 (wC_132 zw) rfl rfl (Nat.le_of_ble_eq_true rfl) (Nat.le_of_ble_eq_true rfl) (co_n zf_13 ?_)
        replace zw := zw1
        refine vr_iload_n dX11_readValues_53 rfl rfl ?_
        obtain ⟨v17, s15, zw1, zf_16, zh⟩ := zh
        refine vc_V (As := [.int v14, .int v7]) (rest := [.ref v11]) dX11_readValues_54 cV_LitmusTester_217 (wC_132 zw) rfl rfl (Nat.le_of_ble_eq_true rfl) (Nat.le_of_ble_eq_true rfl) (co_n zf_16 ?_)
        replace zw := zw1
        obtain ⟨zc_18, zh⟩ := zh
        obtain ⟨v21, s19, zw1, zf_20, zh⟩ := zh
        refine vc_V (As := [.int v17]) (rest := []) dX11_readValues_57 cV_LitmusTester_220 (wC_fi zw zc_18) rfl rfl (Nat.le_of_ble_eq_true rfl) (Nat.le_of_ble_eq_true rfl) (co_n zf_20 ?_)
        replace zw := zw1
        exact vr_iret dX11_readValues_60 rfl zh
      · replace zh := zh.1 zd_8
        exact vr_throwN dX11_readValues_25 dX11_readValues_28 dX11_readValues_29 dX11_readValues_31 dX11_readValues_34 rfl th_LitmusTester_157_161 (i := 4) (by decide) rfl rfl (Nat.le_of_ble_eq_true rfl) (Nat.le_of_ble_eq_true rfl) zh
    · obtain ⟨s22, zw1, zf_23, zh⟩ := zh
      exact vc_V (As := [.int l2]) (rest := []) dX11_readValues_7 cV_LitmusTester_110 (wC_128 zw) rfl rfl (Nat.le_of_ble_eq_true rfl) (Nat.le_of_ble_eq_true rfl) (co_t zf_23 (vt_out rfl zh))
  · obtain ⟨s24, zw1, zf_25, zh⟩ := zh
    exact vc_V (As := [.int l1]) (rest := []) dX11_readValues_2 cV_LitmusTester_189 (wC_128 zw) rfl rfl (Nat.le_of_ble_eq_true rfl) (Nat.le_of_ble_eq_true rfl) (co_t zf_25 (vt_out rfl zh))
theorem e_X11_readValues {γ : ga_T} {l1 : Int32} {l2 : Int32} {σ : st_T} {Q : rs_T → st_T → Prop} (zw : Wd σ) (zh : p_X11_readValues_0 γ l1 l2 σ Q) : sp_ γ m_X11_readValues 9 [.ref 128, .int l1, .int l2] σ Q := sp_of (pl_X11_readValues) rfl (Nat.le_of_ble_eq_true rfl) (g_X11_readValues_0 zw zh)
def p_X11_finalValues_0 (γ : ga_T) (l1 : Int32) (l2 : Int32) (σ : st_T) (Q : rs_T → st_T → Prop) : Prop :=
  ((
    ∃ s1, Wd s1 ∧ fw_ γ m_X11_requireModel 8 [.ref 128, .int l1] σ s1 ∧
    ((
      ∃ s3, Wd s3 ∧ fw_ γ m_X11_requireLocation 8 [.ref 128, .int l2] s1 s3 ∧
      ∃ (v7 : Nat) (s5 : st_T), Wd s5 ∧ fn_ γ m_X11_findings 5 [.ref 128, .int l1] s3 (.ref v7) s5 ∧
      ∃ (v10 : Int32) (s8 : st_T), Wd s8 ∧ fn_ γ m_X7_locationShift 0 [.ref 132, .int l2] s5 (.int v10) s8 ∧
      is_fi v7 ∧
      ∃ (v14 : Int32) (s12 : st_T), Wd s12 ∧ fn_ γ m_X3_valuesAt 1 [.ref v7, .int v10] s8 (.int v14) s12 ∧
      Q (.inl (some (.int v14))) s12
    ) ∨ (
      ∃ s15, Wd s15 ∧ ft_ γ m_X11_requireLocation 8 [.ref 128, .int l2] s1 "java/lang/IndexOutOfBoundsException" s15 ∧
      Q (.inr "java/lang/IndexOutOfBoundsException") s15
    ))
  ) ∨ (
    ∃ s17, Wd s17 ∧ ft_ γ m_X11_requireModel 8 [.ref 128, .int l1] σ "java/lang/IllegalArgumentException" s17 ∧
    Q (.inr "java/lang/IllegalArgumentException") s17
  ))
set_option maxRecDepth 10000 in
theorem g_X11_finalValues_0 {γ : ga_T} {l1 : Int32} {l2 : Int32} {σ : st_T} {Q : rs_T → st_T → Prop} (zw : Wd σ) (zh : p_X11_finalValues_0 γ l1 l2 σ Q) : vv_ γ m_X11_finalValues 9 0 [(0, .ref 128), (1, .int l1), (2, .int l2)] [] σ Q := by
  unfold p_X11_finalValues_0 at zh
  refine vr_aload_n dX11_finalValues_0 rfl rfl ?_
  refine vr_iload_n dX11_finalValues_1 rfl rfl ?_
  rcases zh with zh | zh
  · obtain ⟨s1, zw1, zf_2, zh⟩ := zh
    refine vc_V (As := [.int l1]) (rest := []) dX11_finalValues_2 cV_LitmusTester_189 (wC_128 zw) rfl rfl (Nat.le_of_ble_eq_true rfl) (Nat.le_of_ble_eq_true rfl) (co_v zf_2 ?_)
    replace zw := zw1
    refine vr_aload_n dX11_finalValues_5 rfl rfl ?_
    refine vr_iload_n dX11_finalValues_6 rfl rfl ?_
    rcases zh with zh | zh
    · obtain ⟨s3, zw1, zf_4, zh⟩ := zh
      refine vc_V (As := [.int l2]) (rest := []) dX11_finalValues_7 cV_LitmusTester_223 (wC_128 zw) rfl rfl (Nat.le_of_ble_eq_true rfl) (Nat.le_of_ble_eq_true rfl) (co_v zf_4 ?_)
      replace zw := zw1
      refine vr_aload_n dX11_finalValues_10 rfl rfl ?_
      refine vr_iload_n dX11_finalValues_11 rfl rfl ?_
      obtain ⟨v7, s5, zw1, zf_6, zh⟩ := zh
      refine vc_V (As := [.int l1]) (rest := []) dX11_finalValues_12 cV_LitmusTester_192 (wC_128 zw) rfl rfl (Nat.le_of_ble_eq_true rfl) (Nat.le_of_ble_eq_true rfl) (co_n zf_6 ?_)
      replace zw := zw1
      refine vr_aload_n dX11_finalValues_15 rfl rfl ?_
      refine vr_getR dX11_finalValues_16 fl_LitmusTester_27 (wC_128 zw) (Or.inl ⟨_, rfl⟩) (wR_128_3 zw) ?_
      refine vr_iload_n dX11_finalValues_19 rfl rfl ?_
      obtain ⟨v10, s8, zw1, zf_9, zh⟩ := zh
      refine vc_V (As := [.int l2]) (rest := [.ref v7]) dX11_finalValues_20 cV_LitmusTester_226 (wC_132 zw) rfl rfl (Nat.le_of_ble_eq_true rfl) (Nat.le_of_ble_eq_true rfl) (co_n zf_9 ?_)
      replace zw := zw1
      obtain ⟨zc_11, zh⟩ := zh
      obtain ⟨v14, s12, zw1, zf_13, zh⟩ := zh
      refine vc_V (As := [.int v10]) (rest := []) dX11_finalValues_23 cV_LitmusTester_220 (wC_fi zw zc_11) rfl rfl (Nat.le_of_ble_eq_true rfl) (Nat.le_of_ble_eq_true rfl) (co_n zf_13 ?_)
      replace zw := zw1
      exact vr_iret dX11_finalValues_26 rfl zh
    · obtain ⟨s15, zw1, zf_16, zh⟩ := zh
      exact vc_V (As := [.int l2]) (rest := []) dX11_finalValues_7 cV_LitmusTester_223 (wC_128 zw) rfl rfl (Nat.le_of_ble_eq_true rfl) (Nat.le_of_ble_eq_true rfl) (co_t zf_16 (vt_out rfl zh))
  · obtain ⟨s17, zw1, zf_18, zh⟩ := zh
    exact vc_V (As := [.int l1]) (rest := []) dX11_finalValues_2 cV_LitmusTester_189 (wC_128 zw) rfl rfl (Nat.le_of_ble_eq_true rfl) (Nat.le_of_ble_eq_true rfl) (co_t zf_18 (vt_out rfl zh))
theorem e_X11_finalValues {γ : ga_T} {l1 : Int32} {l2 : Int32} {σ : st_T} {Q : rs_T → st_T → Prop} (zw : Wd σ) (zh : p_X11_finalValues_0 γ l1 l2 σ Q) : sp_ γ m_X11_finalValues 9 [.ref 128, .int l1, .int l2] σ Q := sp_of (pl_X11_finalValues) rfl (Nat.le_of_ble_eq_true rfl) (g_X11_finalValues_0 zw zh)
def p_X11_requireLocation_0 (γ : ga_T) (l1 : Int32) (σ : st_T) (Q : rs_T → st_T → Prop) : Prop :=
  (l1 < (0 : Int32) →
    Q (.inr "java/lang/IndexOutOfBoundsException") (pt_X σ 1 6)
  ) ∧ (¬ l1 < (0 : Int32) →
    ∃ (v4 : Int32) (s2 : st_T), Wd s2 ∧ fn_ γ m_X7_locations 0 [.ref 132] σ (.int v4) s2 ∧
    (l1 < v4 →
      Q (.inl none) s2
    ) ∧ (¬ l1 < v4 →
      Q (.inr "java/lang/IndexOutOfBoundsException") (pt_X s2 1 6)
    )
  )
set_option maxRecDepth 10000 in
theorem g_X11_requireLocation_0 {γ : ga_T} {l1 : Int32} {σ : st_T} {Q : rs_T → st_T → Prop} (zw : Wd σ) (zh : p_X11_requireLocation_0 γ l1 σ Q) : vv_ γ m_X11_requireLocation 8 0 [(0, .ref 128), (1, .int l1)] [] σ Q := by
  unfold p_X11_requireLocation_0 at zh
  refine vr_iload_n dX11_requireLocation_0 rfl rfl ?_
  refine vr_if_lt dX11_requireLocation_1 (tgt := 15) rfl (fun zd_1 => ?_) (fun zd_1 => ?_)
  · replace zh := zh.1 zd_1
    exact vr_throw dX11_requireLocation_15 dX11_requireLocation_18 dX11_requireLocation_19 dX11_requireLocation_21 dX11_requireLocation_24 rfl th_LitmusTester_117_121 (i := 5) (by decide) rfl rfl (Nat.le_of_ble_eq_true rfl) (Nat.le_of_ble_eq_true rfl) zh
  · replace zh := zh.2 zd_1
    refine vr_iload_n dX11_requireLocation_4 rfl rfl ?_
    refine vr_aload_n dX11_requireLocation_5 rfl rfl ?_
    refine vr_getR dX11_requireLocation_6 fl_LitmusTester_27 (wC_128 zw) (Or.inl ⟨_, rfl⟩) (wR_128_3 zw) ?_
    obtain ⟨v4, s2, zw1, zf_3, zh⟩ := zh
    refine vc_V (As := []) (rest := [.int l1]) dX11_requireLocation_9 cV_LitmusTester_107 (wC_132 zw) rfl rfl (Nat.le_of_ble_eq_true rfl) (Nat.le_of_ble_eq_true rfl) (co_n zf_3 ?_)
    replace zw := zw1
    refine vr_ic_lt dX11_requireLocation_12 (tgt := 25) rfl (fun zd_5 => ?_) (fun zd_5 => ?_)
    · replace zh := zh.1 zd_5
      exact vr_vret dX11_requireLocation_25 rfl zh
    · replace zh := zh.2 zd_5
      exact vr_throw dX11_requireLocation_15 dX11_requireLocation_18 dX11_requireLocation_19 dX11_requireLocation_21 dX11_requireLocation_24 rfl th_LitmusTester_117_121 (i := 5) (by decide) rfl rfl (Nat.le_of_ble_eq_true rfl) (Nat.le_of_ble_eq_true rfl) zh
theorem e_X11_requireLocation {γ : ga_T} {l1 : Int32} {σ : st_T} {Q : rs_T → st_T → Prop} (zw : Wd σ) (zh : p_X11_requireLocation_0 γ l1 σ Q) : sp_ γ m_X11_requireLocation 8 [.ref 128, .int l1] σ Q := sp_of (pl_X11_requireLocation) rfl (Nat.le_of_ble_eq_true rfl) (g_X11_requireLocation_0 zw zh)
def p_X11_greatestBuffer_0 (γ : ga_T) (l1 : Int32) (l2 : Int32) (σ : st_T) (Q : rs_T → st_T → Prop) : Prop :=
  ((
    ∃ s1, Wd s1 ∧ fw_ γ m_X11_requireModel 8 [.ref 128, .int l1] σ s1 ∧
    (l2 < (0 : Int32) →
      Q (.inr "java/lang/IndexOutOfBoundsException") (pt_X s1 1 6)
    ) ∧ (¬ l2 < (0 : Int32) →
      ∃ (v6 : Int32) (s4 : st_T), Wd s4 ∧ fn_ γ m_X7_threads 0 [.ref 132] s1 (.int v6) s4 ∧
      (l2 < v6 →
        (l1 = (0 : Int32) →
          Q (.inl (some (.int (0 : Int32)))) s4
        ) ∧ (¬ l1 = (0 : Int32) →
          ∃ (v11 : Int32) (s9 : st_T), Wd s9 ∧ fn_ γ m_X7_mostStoresBuffered 1 [.ref 132, .int l2] s4 (.int v11) s9 ∧
          Q (.inl (some (.int v11))) s9
        )
      ) ∧ (¬ l2 < v6 →
        Q (.inr "java/lang/IndexOutOfBoundsException") (pt_X s4 1 6)
      )
    )
  ) ∨ (
    ∃ s12, Wd s12 ∧ ft_ γ m_X11_requireModel 8 [.ref 128, .int l1] σ "java/lang/IllegalArgumentException" s12 ∧
    Q (.inr "java/lang/IllegalArgumentException") s12
  ))
set_option maxRecDepth 10000 in
theorem g_X11_greatestBuffer_0 {γ : ga_T} {l1 : Int32} {l2 : Int32} {σ : st_T} {Q : rs_T → st_T → Prop} (zw : Wd σ) (zh : p_X11_greatestBuffer_0 γ l1 l2 σ Q) : vv_ γ m_X11_greatestBuffer 9 0 [(0, .ref 128), (1, .int l1), (2, .int l2)] [] σ Q := by
  unfold p_X11_greatestBuffer_0 at zh
  refine vr_aload_n dX11_greatestBuffer_0 rfl rfl ?_
  refine vr_iload_n dX11_greatestBuffer_1 rfl rfl ?_
  rcases zh with zh | zh
  · obtain ⟨s1, zw1, zf_2, zh⟩ := zh
    refine vc_V (As := [.int l1]) (rest := []) dX11_greatestBuffer_2 cV_LitmusTester_189 (wC_128 zw) rfl rfl (Nat.le_of_ble_eq_true rfl) (Nat.le_of_ble_eq_true rfl) (co_v zf_2 ?_)
    replace zw := zw1
    refine vr_iload_n dX11_greatestBuffer_5 rfl rfl ?_
    refine vr_if_lt dX11_greatestBuffer_6 (tgt := 20) rfl (fun zd_3 => ?_) (fun zd_3 => ?_)
    · replace zh := zh.1 zd_3
      exact vr_throw dX11_greatestBuffer_20 dX11_greatestBuffer_23 dX11_greatestBuffer_24 dX11_greatestBuffer_26 dX11_greatestBuffer_29 rfl th_LitmusTester_117_121 (i := 6) (by decide) rfl rfl (Nat.le_of_ble_eq_true rfl) (Nat.le_of_ble_eq_true rfl) zh
    · replace zh := zh.2 zd_3
      refine vr_iload_n dX11_greatestBuffer_9 rfl rfl ?_
      refine vr_aload_n dX11_greatestBuffer_10 rfl rfl ?_
      refine vr_getR dX11_greatestBuffer_11 fl_LitmusTester_27 (wC_128 zw) (Or.inl ⟨_, rfl⟩) (wR_128_3 zw) ?_
      obtain ⟨v6, s4, zw1, zf_5, zh⟩ := zh
      refine vc_V (As := []) (rest := [.int l2]) dX11_greatestBuffer_14 cV_LitmusTester_104 (wC_132 zw) rfl rfl (Nat.le_of_ble_eq_true rfl) (Nat.le_of_ble_eq_true rfl) (co_n zf_5 ?_)
      replace zw := zw1
      refine vr_ic_lt dX11_greatestBuffer_17 (tgt := 30) rfl (fun zd_7 => ?_) (fun zd_7 => ?_)
      · replace zh := zh.1 zd_7
        refine vr_iload_n dX11_greatestBuffer_30 rfl rfl ?_
        refine vr_if_ne dX11_greatestBuffer_31 (tgt := 38) rfl (fun zd_8 => ?_) (fun zd_8 => ?_)
        · replace zh := zh.2 zd_8
          refine vr_aload_n dX11_greatestBuffer_38 rfl rfl ?_
          refine vr_getR dX11_greatestBuffer_39 fl_LitmusTester_27 (wC_128 zw) (Or.inl ⟨_, rfl⟩) (wR_128_3 zw) ?_
          refine vr_iload_n dX11_greatestBuffer_42 rfl rfl ?_
          obtain ⟨v11, s9, zw1, zf_10, zh⟩ := zh
          refine vc_V (As := [.int l2]) (rest := []) dX11_greatestBuffer_43 cV_LitmusTester_233 (wC_132 zw) rfl rfl (Nat.le_of_ble_eq_true rfl) (Nat.le_of_ble_eq_true rfl) (co_n zf_10 ?_)
          replace zw := zw1
          exact vr_iret dX11_greatestBuffer_46 rfl zh
        · replace zh := zh.1 zd_8
          refine vr_iconst dX11_greatestBuffer_34 (v := (0 : Int32)) (by decide) ?_
          refine vr_goto dX11_greatestBuffer_35 (tgt := 46) rfl ?_
          exact vr_iret dX11_greatestBuffer_46 rfl zh
      · replace zh := zh.2 zd_7
        exact vr_throw dX11_greatestBuffer_20 dX11_greatestBuffer_23 dX11_greatestBuffer_24 dX11_greatestBuffer_26 dX11_greatestBuffer_29 rfl th_LitmusTester_117_121 (i := 6) (by decide) rfl rfl (Nat.le_of_ble_eq_true rfl) (Nat.le_of_ble_eq_true rfl) zh
  · obtain ⟨s12, zw1, zf_13, zh⟩ := zh
    exact vc_V (As := [.int l1]) (rest := []) dX11_greatestBuffer_2 cV_LitmusTester_189 (wC_128 zw) rfl rfl (Nat.le_of_ble_eq_true rfl) (Nat.le_of_ble_eq_true rfl) (co_t zf_13 (vt_out rfl zh))
theorem e_X11_greatestBuffer {γ : ga_T} {l1 : Int32} {l2 : Int32} {σ : st_T} {Q : rs_T → st_T → Prop} (zw : Wd σ) (zh : p_X11_greatestBuffer_0 γ l1 l2 σ Q) : sp_ γ m_X11_greatestBuffer 9 [.ref 128, .int l1, .int l2] σ Q := sp_of (pl_X11_greatestBuffer) rfl (Nat.le_of_ble_eq_true rfl) (g_X11_greatestBuffer_0 zw zh)
def p_X11_isRace_0 (γ : ga_T) (l1 : Int32) (l2 : Int32) (σ : st_T) (Q : rs_T → st_T → Prop) : Prop :=
  ((
    ∃ s1, Wd s1 ∧ fw_ γ m_X11_requireInstruction 8 [.ref 128, .int l1] σ s1 ∧
    ((
      ∃ s3, Wd s3 ∧ fw_ γ m_X11_requireInstruction 8 [.ref 128, .int l2] s1 s3 ∧
      ∃ (v7 : Int32) (s5 : st_T), Wd s5 ∧ fn_ γ m_X7_isRacing 1 [.ref 132, .int l1, .int l2] s3 (.int v7) s5 ∧
      (v7 = 0 ∨ v7 = 1) ∧
      Q (.inl (some (.int v7))) s5
    ) ∨ (
      ∃ s9, Wd s9 ∧ ft_ γ m_X11_requireInstruction 8 [.ref 128, .int l2] s1 "java/lang/IndexOutOfBoundsException" s9 ∧
      Q (.inr "java/lang/IndexOutOfBoundsException") s9
    ))
  ) ∨ (
    ∃ s11, Wd s11 ∧ ft_ γ m_X11_requireInstruction 8 [.ref 128, .int l1] σ "java/lang/IndexOutOfBoundsException" s11 ∧
    Q (.inr "java/lang/IndexOutOfBoundsException") s11
  ))
set_option maxRecDepth 10000 in
theorem g_X11_isRace_0 {γ : ga_T} {l1 : Int32} {l2 : Int32} {σ : st_T} {Q : rs_T → st_T → Prop} (zw : Wd σ) (zh : p_X11_isRace_0 γ l1 l2 σ Q) : vv_ γ m_X11_isRace 9 0 [(0, .ref 128), (1, .int l1), (2, .int l2)] [] σ Q := by
  unfold p_X11_isRace_0 at zh
  refine vr_aload_n dX11_isRace_0 rfl rfl ?_
  refine vr_iload_n dX11_isRace_1 rfl rfl ?_
  rcases zh with zh | zh
  · obtain ⟨s1, zw1, zf_2, zh⟩ := zh
    refine vc_V (As := [.int l1]) (rest := []) dX11_isRace_2 cV_LitmusTester_110 (wC_128 zw) rfl rfl (Nat.le_of_ble_eq_true rfl) (Nat.le_of_ble_eq_true rfl) (co_v zf_2 ?_)
    replace zw := zw1
    refine vr_aload_n dX11_isRace_5 rfl rfl ?_
    refine vr_iload_n dX11_isRace_6 rfl rfl ?_
    rcases zh with zh | zh
    · obtain ⟨s3, zw1, zf_4, zh⟩ := zh
      refine vc_V (As := [.int l2]) (rest := []) dX11_isRace_7 cV_LitmusTester_110 (wC_128 zw) rfl rfl (Nat.le_of_ble_eq_true rfl) (Nat.le_of_ble_eq_true rfl) (co_v zf_4 ?_)
      replace zw := zw1
      refine vr_aload_n dX11_isRace_10 rfl rfl ?_
      refine vr_getR dX11_isRace_11 fl_LitmusTester_27 (wC_128 zw) (Or.inl ⟨_, rfl⟩) (wR_128_3 zw) ?_
      refine vr_iload_n dX11_isRace_14 rfl rfl ?_
      refine vr_iload_n dX11_isRace_15 rfl rfl ?_
      obtain ⟨v7, s5, zw1, zf_6, zh⟩ := zh
      refine vc_V (As := [.int l1, .int l2]) (rest := []) dX11_isRace_16 cV_LitmusTester_236 (wC_132 zw) rfl rfl (Nat.le_of_ble_eq_true rfl) (Nat.le_of_ble_eq_true rfl) (co_n zf_6 ?_)
      replace zw := zw1
      obtain ⟨zb_8, zh⟩ := zh
      exact vr_zret dX11_isRace_19 rfl zb_8 zh
    · obtain ⟨s9, zw1, zf_10, zh⟩ := zh
      exact vc_V (As := [.int l2]) (rest := []) dX11_isRace_7 cV_LitmusTester_110 (wC_128 zw) rfl rfl (Nat.le_of_ble_eq_true rfl) (Nat.le_of_ble_eq_true rfl) (co_t zf_10 (vt_out rfl zh))
  · obtain ⟨s11, zw1, zf_12, zh⟩ := zh
    exact vc_V (As := [.int l1]) (rest := []) dX11_isRace_2 cV_LitmusTester_110 (wC_128 zw) rfl rfl (Nat.le_of_ble_eq_true rfl) (Nat.le_of_ble_eq_true rfl) (co_t zf_12 (vt_out rfl zh))
theorem e_X11_isRace {γ : ga_T} {l1 : Int32} {l2 : Int32} {σ : st_T} {Q : rs_T → st_T → Prop} (zw : Wd σ) (zh : p_X11_isRace_0 γ l1 l2 σ Q) : sp_ γ m_X11_isRace 9 [.ref 128, .int l1, .int l2] σ Q := sp_of (pl_X11_isRace) rfl (Nat.le_of_ble_eq_true rfl) (g_X11_isRace_0 zw zh)
def p_X11_raceCount_0 (γ : ga_T) (σ : st_T) (Q : rs_T → st_T → Prop) : Prop :=
  vv_ γ m_X11_raceCount 2 4 [(0, .ref 128), (1, .int (0 : Int32)), (2, .int (0 : Int32))] [] σ Q
set_option maxRecDepth 10000 in
theorem g_X11_raceCount_0 {γ : ga_T} {σ : st_T} {Q : rs_T → st_T → Prop} (zw : Wd σ) (zh : p_X11_raceCount_0 γ σ Q) : vv_ γ m_X11_raceCount 2 0 [(0, .ref 128)] [] σ Q := by
  unfold p_X11_raceCount_0 at zh
  refine vr_iconst dX11_raceCount_0 (v := (0 : Int32)) (by decide) ?_
  refine vr_istore_n dX11_raceCount_1 rfl (Nat.le_of_ble_eq_true rfl) (vv_eq (ls' := [(0, .ref 128), (1, .int (0 : Int32))]) rfl ?_)
  refine vr_iconst dX11_raceCount_2 (v := (0 : Int32)) (by decide) ?_
  refine vr_istore_n dX11_raceCount_3 rfl (Nat.le_of_ble_eq_true rfl) (vv_eq (ls' := [(0, .ref 128), (1, .int (0 : Int32)), (2, .int (0 : Int32))]) rfl ?_)
  exact vv_sub (ls' := [(0, .ref 128), (1, .int (0 : Int32)), (2, .int (0 : Int32))]) ⟨rfl, rfl, rfl, trivial⟩ zh
theorem e_X11_raceCount {γ : ga_T} {σ : st_T} {Q : rs_T → st_T → Prop} (zw : Wd σ) (zh : p_X11_raceCount_0 γ σ Q) : sp_ γ m_X11_raceCount 2 [.ref 128] σ Q := sp_of (pl_X11_raceCount) rfl (Nat.le_of_ble_eq_true rfl) (g_X11_raceCount_0 zw zh)
def p_X11_raceCount_4 (γ : ga_T) (l1 : Int32) (l2 : Int32) (σ : st_T) (Q : rs_T → st_T → Prop) : Prop :=
  ∃ (v3 : Int32) (s1 : st_T), Wd s1 ∧ fn_ γ m_X7_size 0 [.ref 132] σ (.int v3) s1 ∧
  (v3 ≤ l2 →
    Q (.inl (some (.int l1))) s1
  ) ∧ (¬ v3 ≤ l2 →
    vv_ γ m_X11_raceCount 2 19 [(0, .ref 128), (1, .int l1), (2, .int l2), (3, .int (l2 + (1 : Int32)))] [] s1 Q
  )
set_option maxRecDepth 10000 in
theorem g_X11_raceCount_4 {γ : ga_T} {l1 : Int32} {l2 : Int32} {σ : st_T} {Q : rs_T → st_T → Prop} (zw : Wd σ) (zh : p_X11_raceCount_4 γ l1 l2 σ Q) : vv_ γ m_X11_raceCount 2 4 [(0, .ref 128), (1, .int l1), (2, .int l2)] [] σ Q := by
  unfold p_X11_raceCount_4 at zh
  refine vr_iload_n dX11_raceCount_4 rfl rfl ?_
  refine vr_aload_n dX11_raceCount_5 rfl rfl ?_
  refine vr_getR dX11_raceCount_6 fl_LitmusTester_27 (wC_128 zw) (Or.inl ⟨_, rfl⟩) (wR_128_3 zw) ?_
  obtain ⟨v3, s1, zw1, zf_2, zh⟩ := zh
  refine vc_V (As := []) (rest := [.int l2]) dX11_raceCount_9 cV_LitmusTester_96 (wC_132 zw) rfl rfl (Nat.le_of_ble_eq_true rfl) (Nat.le_of_ble_eq_true rfl) (co_n zf_2 ?_)
  replace zw := zw1
  refine vr_ic_ge dX11_raceCount_12 (tgt := 57) rfl (fun zd_4 => ?_) (fun zd_4 => ?_)
  · replace zh := zh.1 zd_4
    refine vr_iload_n dX11_raceCount_57 rfl rfl ?_
    exact vr_iret dX11_raceCount_58 rfl zh
  · replace zh := zh.2 zd_4
    refine vr_iload_n dX11_raceCount_15 rfl rfl ?_
    refine vr_iconst dX11_raceCount_16 (v := (1 : Int32)) (by decide) ?_
    refine vr_iadd dX11_raceCount_17 ?_
    refine vr_istore_n dX11_raceCount_18 rfl (Nat.le_of_ble_eq_true rfl) (vv_eq (ls' := [(0, .ref 128), (1, .int l1), (2, .int l2), (3, .int (l2 + (1 : Int32)))]) rfl ?_)
    exact vv_sub (ls' := [(0, .ref 128), (1, .int l1), (2, .int l2), (3, .int (l2 + (1 : Int32)))]) ⟨rfl, rfl, rfl, rfl, trivial⟩ zh
def p_X11_raceCount_19 (γ : ga_T) (l1 : Int32) (l2 : Int32) (l3 : Int32) (σ : st_T) (Q : rs_T → st_T → Prop) : Prop :=
  ∃ (v3 : Int32) (s1 : st_T), Wd s1 ∧ fn_ γ m_X7_size 0 [.ref 132] σ (.int v3) s1 ∧
  (v3 ≤ l3 →
    vv_ γ m_X11_raceCount 2 4 [(0, .ref 128), (1, .int l1), (2, .int (l2 + 1))] [] s1 Q
  ) ∧ (¬ v3 ≤ l3 →
    ∃ (v7 : Int32) (s5 : st_T), Wd s5 ∧ fn_ γ m_X7_isRacing 1 [.ref 132, .int l2, .int l3] s1 (.int v7) s5 ∧
    (v7 = (0 : Int32) →
      vv_ γ m_X11_raceCount 2 19 [(0, .ref 128), (1, .int l1), (2, .int l2), (3, .int (l3 + 1))] [] s5 Q
    ) ∧ (¬ v7 = (0 : Int32) →
      vv_ γ m_X11_raceCount 2 19 [(0, .ref 128), (1, .int (l1 + 1)), (2, .int l2), (3, .int (l3 + 1))] [] s5 Q
    )
  )
set_option maxRecDepth 10000 in
theorem g_X11_raceCount_19 {γ : ga_T} {l1 : Int32} {l2 : Int32} {l3 : Int32} {σ : st_T} {Q : rs_T → st_T → Prop} (zw : Wd σ) (zh : p_X11_raceCount_19 γ l1 l2 l3 σ Q) : vv_ γ m_X11_raceCount 2 19 [(0, .ref 128), (1, .int l1), (2, .int l2), (3, .int l3)] [] σ Q := by
  unfold p_X11_raceCount_19 at zh
  refine vr_iload_n dX11_raceCount_19 rfl rfl ?_
  refine vr_aload_n dX11_raceCount_20 rfl rfl ?_
  refine vr_getR dX11_raceCount_21 fl_LitmusTester_27 (wC_128 zw) (Or.inl ⟨_, rfl⟩) (wR_128_3 zw) ?_
  obtain ⟨v3, s1, zw1, zf_2, zh⟩ := zh
  refine vc_V (As := []) (rest := [.int l3]) dX11_raceCount_24 cV_LitmusTester_96 (wC_132 zw) rfl rfl (Nat.le_of_ble_eq_true rfl) (Nat.le_of_ble_eq_true rfl) (co_n zf_2 ?_)
  replace zw := zw1
  refine vr_ic_ge dX11_raceCount_27 (tgt := 51) rfl (fun zd_4 => ?_) (fun zd_4 => ?_)
  · replace zh := zh.1 zd_4
    refine vr_iinc dX11_raceCount_51 (x := l2) (v := (l2 + 1)) rfl (ii_ (by decide)) (Nat.le_of_ble_eq_true rfl) (vv_eq (ls' := [(0, .ref 128), (1, .int l1), (2, .int (l2 + 1)), (3, .int l3)]) rfl ?_)
    refine vr_goto dX11_raceCount_54 (tgt := 4) rfl ?_
    exact vv_sub (ls' := [(0, .ref 128), (1, .int l1), (2, .int (l2 + 1))]) ⟨rfl, rfl, rfl, trivial⟩ zh
  · replace zh := zh.2 zd_4
    refine vr_aload_n dX11_raceCount_30 rfl rfl ?_
    refine vr_getR dX11_raceCount_31 fl_LitmusTester_27 (wC_128 zw) (Or.inl ⟨_, rfl⟩) (wR_128_3 zw) ?_
    refine vr_iload_n dX11_raceCount_34 rfl rfl ?_
    refine vr_iload_n dX11_raceCount_35 rfl rfl ?_
    obtain ⟨v7, s5, zw1, zf_6, zh⟩ := zh
    refine vc_V (As := [.int l2, .int l3]) (rest := []) dX11_raceCount_36 cV_LitmusTester_236 (wC_132 zw) rfl rfl (Nat.le_of_ble_eq_true rfl) (Nat.le_of_ble_eq_true rfl) (co_n zf_6 ?_)
    replace zw := zw1
    refine vr_if_eq dX11_raceCount_39 (tgt := 45) rfl (fun zd_8 => ?_) (fun zd_8 => ?_)
    · replace zh := zh.1 zd_8
      refine vr_iinc dX11_raceCount_45 (x := l3) (v := (l3 + 1)) rfl (ii_ (by decide)) (Nat.le_of_ble_eq_true rfl) (vv_eq (ls' := [(0, .ref 128), (1, .int l1), (2, .int l2), (3, .int (l3 + 1))]) rfl ?_)
      refine vr_goto dX11_raceCount_48 (tgt := 19) rfl ?_
      exact vv_sub (ls' := [(0, .ref 128), (1, .int l1), (2, .int l2), (3, .int (l3 + 1))]) ⟨rfl, rfl, rfl, rfl, trivial⟩ zh
    · replace zh := zh.2 zd_8
      refine vr_iinc dX11_raceCount_42 (x := l1) (v := (l1 + 1)) rfl (ii_ (by decide)) (Nat.le_of_ble_eq_true rfl) (vv_eq (ls' := [(0, .ref 128), (1, .int (l1 + 1)), (2, .int l2), (3, .int l3)]) rfl ?_)
      refine vr_iinc dX11_raceCount_45 (x := l3) (v := (l3 + 1)) rfl (ii_ (by decide)) (Nat.le_of_ble_eq_true rfl) (vv_eq (ls' := [(0, .ref 128), (1, .int (l1 + 1)), (2, .int l2), (3, .int (l3 + 1))]) rfl ?_)
      refine vr_goto dX11_raceCount_48 (tgt := 19) rfl ?_
      exact vv_sub (ls' := [(0, .ref 128), (1, .int (l1 + 1)), (2, .int l2), (3, .int (l3 + 1))]) ⟨rfl, rfl, rfl, rfl, trivial⟩ zh
def p_X11_gapCount_0 (γ : ga_T) (σ : st_T) (Q : rs_T → st_T → Prop) : Prop :=
  ∃ (v3 : Int32) (s1 : st_T), Wd s1 ∧ fn_ γ m_X7_gaps 2 [.ref 132] σ (.int v3) s1 ∧
  Q (.inl (some (.int v3))) s1
set_option maxRecDepth 10000 in
theorem g_X11_gapCount_0 {γ : ga_T} {σ : st_T} {Q : rs_T → st_T → Prop} (zw : Wd σ) (zh : p_X11_gapCount_0 γ σ Q) : vv_ γ m_X11_gapCount 3 0 [(0, .ref 128)] [] σ Q := by
  unfold p_X11_gapCount_0 at zh
  refine vr_aload_n dX11_gapCount_0 rfl rfl ?_
  refine vr_getR dX11_gapCount_1 fl_LitmusTester_27 (wC_128 zw) (Or.inl ⟨_, rfl⟩) (wR_128_3 zw) ?_
  obtain ⟨v3, s1, zw1, zf_2, zh⟩ := zh
  refine vc_V (As := []) (rest := []) dX11_gapCount_4 cV_LitmusTester_240 (wC_132 zw) rfl rfl (Nat.le_of_ble_eq_true rfl) (Nat.le_of_ble_eq_true rfl) (co_n zf_2 ?_)
  replace zw := zw1
  exact vr_iret dX11_gapCount_7 rfl zh
theorem e_X11_gapCount {γ : ga_T} {σ : st_T} {Q : rs_T → st_T → Prop} (zw : Wd σ) (zh : p_X11_gapCount_0 γ σ Q) : sp_ γ m_X11_gapCount 3 [.ref 128] σ Q := sp_of (pl_X11_gapCount) rfl (Nat.le_of_ble_eq_true rfl) (g_X11_gapCount_0 zw zh)
def p_X11_gapBefore_0 (γ : ga_T) (l1 : Int32) (σ : st_T) (Q : rs_T → st_T → Prop) : Prop :=
  ∃ (v3 : Int32) (s1 : st_T), Wd s1 ∧ fn_ γ m_X7_placeOfGap 2 [.ref 132, .int l1] σ (.int v3) s1 ∧
  Q (.inl (some (.int v3))) s1
set_option maxRecDepth 10000 in
theorem g_X11_gapBefore_0 {γ : ga_T} {l1 : Int32} {σ : st_T} {Q : rs_T → st_T → Prop} (zw : Wd σ) (zh : p_X11_gapBefore_0 γ l1 σ Q) : vv_ γ m_X11_gapBefore 3 0 [(0, .ref 128), (1, .int l1)] [] σ Q := by
  unfold p_X11_gapBefore_0 at zh
  refine vr_aload_n dX11_gapBefore_0 rfl rfl ?_
  refine vr_getR dX11_gapBefore_1 fl_LitmusTester_27 (wC_128 zw) (Or.inl ⟨_, rfl⟩) (wR_128_3 zw) ?_
  refine vr_iload_n dX11_gapBefore_4 rfl rfl ?_
  obtain ⟨v3, s1, zw1, zf_2, zh⟩ := zh
  refine vc_V (As := [.int l1]) (rest := []) dX11_gapBefore_5 cV_LitmusTester_243 (wC_132 zw) rfl rfl (Nat.le_of_ble_eq_true rfl) (Nat.le_of_ble_eq_true rfl) (co_n zf_2 ?_)
  replace zw := zw1
  exact vr_iret dX11_gapBefore_8 rfl zh
theorem e_X11_gapBefore {γ : ga_T} {l1 : Int32} {σ : st_T} {Q : rs_T → st_T → Prop} (zw : Wd σ) (zh : p_X11_gapBefore_0 γ l1 σ Q) : sp_ γ m_X11_gapBefore 3 [.ref 128, .int l1] σ Q := sp_of (pl_X11_gapBefore) rfl (Nat.le_of_ble_eq_true rfl) (g_X11_gapBefore_0 zw zh)
def p_X11_matchesWith_0 (γ : ga_T) (l1 : Int32) (l2 : Int32) (σ : st_T) (Q : rs_T → st_T → Prop) : Prop :=
  ((
    ∃ s1, Wd s1 ∧ fw_ γ m_X11_requireModel 8 [.ref 128, .int l1] σ s1 ∧
    (l2 < (0 : Int32) →
      Q (.inr "java/lang/IllegalArgumentException") (pt_X s1 1 6)
    ) ∧ (¬ l2 < (0 : Int32) →
      ∃ (v6 : Int32) (s4 : st_T), Wd s4 ∧ fn_ γ m_X7_gaps 2 [.ref 132] s1 (.int v6) s4 ∧
      ((l2 >>> (v6 &&& 31)) = (0 : Int32) →
        ∃ s8, Wd s8 ∧ fw_ γ m_X11_tryFences 5 [.ref 128, .int l1, .int l2] s4 s8 ∧
        ∃ (v12 : Nat) (s10 : st_T), Wd s10 ∧ fn_ γ m_X11_kept 0 [.ref 128, .int l1] s8 (.ref v12) s10 ∧
        is_fi v12 ∧
        ∃ (v16 : Int32) (s14 : st_T), Wd s14 ∧ fn_ γ m_X3_fencedMatches 0 [.ref v12, .int l2] s10 (.int v16) s14 ∧
        Q (.inl (some (.int v16))) s14
      ) ∧ (¬ (l2 >>> (v6 &&& 31)) = (0 : Int32) →
        Q (.inr "java/lang/IllegalArgumentException") (pt_X s4 1 6)
      )
    )
  ) ∨ (
    ∃ s17, Wd s17 ∧ ft_ γ m_X11_requireModel 8 [.ref 128, .int l1] σ "java/lang/IllegalArgumentException" s17 ∧
    Q (.inr "java/lang/IllegalArgumentException") s17
  ))
set_option maxRecDepth 10000 in
theorem g_X11_matchesWith_0 {γ : ga_T} {l1 : Int32} {l2 : Int32} {σ : st_T} {Q : rs_T → st_T → Prop} (zw : Wd σ) (zh : p_X11_matchesWith_0 γ l1 l2 σ Q) : vv_ γ m_X11_matchesWith 9 0 [(0, .ref 128), (1, .int l1), (2, .int l2)] [] σ Q := by
  unfold p_X11_matchesWith_0 at zh
  refine vr_aload_n dX11_matchesWith_0 rfl rfl ?_
  refine vr_iload_n dX11_matchesWith_1 rfl rfl ?_
  rcases zh with zh | zh
  · obtain ⟨s1, zw1, zf_2, zh⟩ := zh
    refine vc_V (As := [.int l1]) (rest := []) dX11_matchesWith_2 cV_LitmusTester_189 (wC_128 zw) rfl rfl (Nat.le_of_ble_eq_true rfl) (Nat.le_of_ble_eq_true rfl) (co_v zf_2 ?_)
    replace zw := zw1
    refine vr_iload_n dX11_matchesWith_5 rfl rfl ?_
    refine vr_if_lt dX11_matchesWith_6 (tgt := 21) rfl (fun zd_3 => ?_) (fun zd_3 => ?_)
    · replace zh := zh.1 zd_3
      exact vr_throw dX11_matchesWith_21 dX11_matchesWith_24 dX11_matchesWith_25 dX11_matchesWith_27 dX11_matchesWith_30 rfl th_LitmusTester_165_169 (i := 7) (by decide) rfl rfl (Nat.le_of_ble_eq_true rfl) (Nat.le_of_ble_eq_true rfl) zh
    · replace zh := zh.2 zd_3
      refine vr_iload_n dX11_matchesWith_9 rfl rfl ?_
      refine vr_aload_n dX11_matchesWith_10 rfl rfl ?_
      refine vr_getR dX11_matchesWith_11 fl_LitmusTester_27 (wC_128 zw) (Or.inl ⟨_, rfl⟩) (wR_128_3 zw) ?_
      obtain ⟨v6, s4, zw1, zf_5, zh⟩ := zh
      refine vc_V (As := []) (rest := [.int l2]) dX11_matchesWith_14 cV_LitmusTester_240 (wC_132 zw) rfl rfl (Nat.le_of_ble_eq_true rfl) (Nat.le_of_ble_eq_true rfl) (co_n zf_5 ?_)
      replace zw := zw1
      refine vr_ishr dX11_matchesWith_17 ?_
      refine vr_if_eq dX11_matchesWith_18 (tgt := 31) rfl (fun zd_7 => ?_) (fun zd_7 => ?_)
      · replace zh := zh.1 zd_7
        refine vr_aload_n dX11_matchesWith_31 rfl rfl ?_
        refine vr_iload_n dX11_matchesWith_32 rfl rfl ?_
        refine vr_iload_n dX11_matchesWith_33 rfl rfl ?_
        obtain ⟨s8, zw1, zf_9, zh⟩ := zh
        refine vc_V (As := [.int l1, .int l2]) (rest := []) dX11_matchesWith_34 cV_LitmusTester_248 (wC_128 zw) rfl rfl (Nat.le_of_ble_eq_true rfl) (Nat.le_of_ble_eq_true rfl) (co_v zf_9 ?_)
        replace zw := zw1
        refine vr_aload_n dX11_matchesWith_37 rfl rfl ?_
        refine vr_iload_n dX11_matchesWith_38 rfl rfl ?_
        obtain ⟨v12, s10, zw1, zf_11, zh⟩ := zh
        refine vc_V (As := [.int l1]) (rest := []) dX11_matchesWith_39 cV_LitmusTester_170 (wC_128 zw) rfl rfl (Nat.le_of_ble_eq_true rfl) (Nat.le_of_ble_eq_true rfl) (co_n zf_11 ?_)
        replace zw := zw1
        refine vr_iload_n dX11_matchesWith_42 rfl rfl ?_
        obtain ⟨zc_13, zh⟩ := zh
        obtain ⟨v16, s14, zw1, zf_15, zh⟩ := zh
        refine vc_V (As := [.int l2]) (rest := []) dX11_matchesWith_43 cV_LitmusTester_251 (wC_fi zw zc_13) rfl rfl (Nat.le_of_ble_eq_true rfl) (Nat.le_of_ble_eq_true rfl) (co_n zf_15 ?_)
        replace zw := zw1
        exact vr_iret dX11_matchesWith_46 rfl zh
      · replace zh := zh.2 zd_7
        exact vr_throw dX11_matchesWith_21 dX11_matchesWith_24 dX11_matchesWith_25 dX11_matchesWith_27 dX11_matchesWith_30 rfl th_LitmusTester_165_169 (i := 7) (by decide) rfl rfl (Nat.le_of_ble_eq_true rfl) (Nat.le_of_ble_eq_true rfl) zh
  · obtain ⟨s17, zw1, zf_18, zh⟩ := zh
    exact vc_V (As := [.int l1]) (rest := []) dX11_matchesWith_2 cV_LitmusTester_189 (wC_128 zw) rfl rfl (Nat.le_of_ble_eq_true rfl) (Nat.le_of_ble_eq_true rfl) (co_t zf_18 (vt_out rfl zh))
theorem e_X11_matchesWith {γ : ga_T} {l1 : Int32} {l2 : Int32} {σ : st_T} {Q : rs_T → st_T → Prop} (zw : Wd σ) (zh : p_X11_matchesWith_0 γ l1 l2 σ Q) : sp_ γ m_X11_matchesWith 9 [.ref 128, .int l1, .int l2] σ Q := sp_of (pl_X11_matchesWith) rfl (Nat.le_of_ble_eq_true rfl) (g_X11_matchesWith_0 zw zh)
def p_X11_tryFences_0 (γ : ga_T) (l1 : Int32) (l2 : Int32) (σ : st_T) (Q : rs_T → st_T → Prop) : Prop :=
  ∃ (v3 : Nat) (s1 : st_T), Wd s1 ∧ fn_ γ m_X11_kept 0 [.ref 128, .int l1] σ (.ref v3) s1 ∧
  is_fi v3 ∧
  ∃ (v7 : Int32) (s5 : st_T), Wd s5 ∧ fn_ γ m_X3_fencedOutcomes 0 [.ref v3, .int l2] s1 (.int v7) s5 ∧
  (v7 = (-1 : Int32) →
    ∃ (v11 : Int32) (s9 : st_T), Wd s9 ∧ fn_ γ m_X7_waitsWith 3 [.ref 132, .int l2] s5 (.int v11) s9 ∧
    ∃ s12, Wd s12 ∧ fw_ γ m_X2_explore 4 [.ref 147, .int l1, .int v11] s9 s12 ∧
    ∃ (v16 : Int32) (s14 : st_T), Wd s14 ∧ fn_ γ m_X2_outcomes 1 [.ref 147] s12 (.int v16) s14 ∧
    ∃ (v19 : Int32) (s17 : st_T), Wd s17 ∧ fn_ γ m_X2_matches 1 [.ref 147] s14 (.int v19) s17 ∧
    is_fi v3 ∧
    ∃ s21, Wd s21 ∧ fw_ γ m_X3_keepFenced 0 [.ref v3, .int l2, .int v16, .int v19] s17 s21 ∧
    Q (.inl none) s21
  ) ∧ (¬ v7 = (-1 : Int32) →
    Q (.inl none) s5
  )
set_option maxRecDepth 10000 in
theorem g_X11_tryFences_0 {γ : ga_T} {l1 : Int32} {l2 : Int32} {σ : st_T} {Q : rs_T → st_T → Prop} (zw : Wd σ) (zh : p_X11_tryFences_0 γ l1 l2 σ Q) : vv_ γ m_X11_tryFences 5 0 [(0, .ref 128), (1, .int l1), (2, .int l2)] [] σ Q := by
  unfold p_X11_tryFences_0 at zh
  refine vr_aload_n dX11_tryFences_0 rfl rfl ?_
  refine vr_iload_n dX11_tryFences_1 rfl rfl ?_
  obtain ⟨v3, s1, zw1, zf_2, zh⟩ := zh
  refine vc_V (As := [.int l1]) (rest := []) dX11_tryFences_2 cV_LitmusTester_170 (wC_128 zw) rfl rfl (Nat.le_of_ble_eq_true rfl) (Nat.le_of_ble_eq_true rfl) (co_n zf_2 ?_)
  replace zw := zw1
  refine vr_astore_n dX11_tryFences_5 rfl (Nat.le_of_ble_eq_true rfl) (vv_eq (ls' := [(0, .ref 128), (1, .int l1), (2, .int l2), (3, .ref v3)]) rfl ?_)
  refine vr_aload_n dX11_tryFences_6 rfl rfl ?_
  refine vr_iload_n dX11_tryFences_7 rfl rfl ?_
  obtain ⟨zc_4, zh⟩ := zh
  obtain ⟨v7, s5, zw1, zf_6, zh⟩ := zh
  refine vc_V (As := [.int l2]) (rest := []) dX11_tryFences_8 cV_LitmusTester_254 (wC_fi zw zc_4) rfl rfl (Nat.le_of_ble_eq_true rfl) (Nat.le_of_ble_eq_true rfl) (co_n zf_6 ?_)
  replace zw := zw1
  refine vr_iconst dX11_tryFences_11 (v := (-1 : Int32)) (by decide) ?_
  refine vr_ic_ne dX11_tryFences_12 (tgt := 50) rfl (fun zd_8 => ?_) (fun zd_8 => ?_)
  · replace zh := zh.2 zd_8
    exact vr_vret dX11_tryFences_50 rfl zh
  · replace zh := zh.1 zd_8
    refine vr_aload_n dX11_tryFences_15 rfl rfl ?_
    refine vr_getR dX11_tryFences_16 fl_LitmusTester_48 (wC_128 zw) (Or.inl ⟨_, rfl⟩) (wR_128_6 zw) ?_
    refine vr_iload_n dX11_tryFences_19 rfl rfl ?_
    refine vr_aload_n dX11_tryFences_20 rfl rfl ?_
    refine vr_getR dX11_tryFences_21 fl_LitmusTester_27 (wC_128 zw) (Or.inl ⟨_, rfl⟩) (wR_128_3 zw) ?_
    refine vr_iload_n dX11_tryFences_24 rfl rfl ?_
    obtain ⟨v11, s9, zw1, zf_10, zh⟩ := zh
    refine vc_V (As := [.int l2]) (rest := [.int l1, .ref 147]) dX11_tryFences_25 cV_LitmusTester_257 (wC_132 zw) rfl rfl (Nat.le_of_ble_eq_true rfl) (Nat.le_of_ble_eq_true rfl) (co_n zf_10 ?_)
    replace zw := zw1
    obtain ⟨s12, zw1, zf_13, zh⟩ := zh
    refine vc_V (As := [.int l1, .int v11]) (rest := []) dX11_tryFences_28 cV_LitmusTester_181 (wC_147 zw) rfl rfl (Nat.le_of_ble_eq_true rfl) (Nat.le_of_ble_eq_true rfl) (co_v zf_13 ?_)
    replace zw := zw1
    refine vr_aload_n dX11_tryFences_31 rfl rfl ?_
    refine vr_iload_n dX11_tryFences_32 rfl rfl ?_
    refine vr_aload_n dX11_tryFences_33 rfl rfl ?_
    refine vr_getR dX11_tryFences_34 fl_LitmusTester_48 (wC_128 zw) (Or.inl ⟨_, rfl⟩) (wR_128_6 zw) ?_
    obtain ⟨v16, s14, zw1, zf_15, zh⟩ := zh
    refine vc_V (As := []) (rest := [.int l2, .ref v3]) dX11_tryFences_37 cV_LitmusTester_260 (wC_147 zw) rfl rfl (Nat.le_of_ble_eq_true rfl) (Nat.le_of_ble_eq_true rfl) (co_n zf_15 ?_)
    replace zw := zw1
    refine vr_aload_n dX11_tryFences_40 rfl rfl ?_
    refine vr_getR dX11_tryFences_41 fl_LitmusTester_48 (wC_128 zw) (Or.inl ⟨_, rfl⟩) (wR_128_6 zw) ?_
    obtain ⟨v19, s17, zw1, zf_18, zh⟩ := zh
    refine vc_V (As := []) (rest := [.int v16, .int l2, .ref v3]) dX11_tryFences_44 cV_LitmusTester_263 (wC_147 zw) rfl rfl (Nat.le_of_ble_eq_true rfl) (Nat.le_of_ble_eq_true rfl) (co_n zf_18 ?_)
    replace zw := zw1
    obtain ⟨zc_20, zh⟩ := zh
    obtain ⟨s21, zw1, zf_22, zh⟩ := zh
    refine vc_V (As := [.int l2, .int v16, .int v19]) (rest := []) dX11_tryFences_47 cV_LitmusTester_266 (wC_fi zw zc_20) rfl rfl (Nat.le_of_ble_eq_true rfl) (Nat.le_of_ble_eq_true rfl) (co_v zf_22 ?_)
    replace zw := zw1
    exact vr_vret dX11_tryFences_50 rfl zh
theorem e_X11_tryFences {γ : ga_T} {l1 : Int32} {l2 : Int32} {σ : st_T} {Q : rs_T → st_T → Prop} (zw : Wd σ) (zh : p_X11_tryFences_0 γ l1 l2 σ Q) : sp_ γ m_X11_tryFences 5 [.ref 128, .int l1, .int l2] σ Q := sp_of (pl_X11_tryFences) rfl (Nat.le_of_ble_eq_true rfl) (g_X11_tryFences_0 zw zh)
def p_X11_fewestFences_0 (γ : ga_T) (l1 : Int32) (σ : st_T) (Q : rs_T → st_T → Prop) : Prop :=
  ((
    ∃ s1, Wd s1 ∧ fw_ γ m_X11_requireModel 8 [.ref 128, .int l1] σ s1 ∧
    ((
      ∃ (v5 : Int32) (s3 : st_T), Wd s3 ∧ fn_ γ m_X11_matchCount 9 [.ref 128, .int (0 : Int32)] s1 (.int v5) s3 ∧
      (v5 ≤ (0 : Int32) →
        ∃ (v9 : Int32) (s7 : st_T), Wd s7 ∧ fn_ γ m_X11_smallestSet 6 [.ref 128, .int l1, .int (0 : Int32)] s3 (.int v9) s7 ∧
        Q (.inl (some (.int v9))) s7
      ) ∧ (¬ v5 ≤ (0 : Int32) →
        Q (.inl (some (.int (-1 : Int32)))) s3
      )
    ) ∨ (
      ∃ s10, Wd s10 ∧ ft_ γ m_X11_matchCount 9 [.ref 128, .int (0 : Int32)] s1 "java/lang/IllegalArgumentException" s10 ∧
      Q (.inr "java/lang/IllegalArgumentException") s10
    ))
  ) ∨ (
    ∃ s12, Wd s12 ∧ ft_ γ m_X11_requireModel 8 [.ref 128, .int l1] σ "java/lang/IllegalArgumentException" s12 ∧
    Q (.inr "java/lang/IllegalArgumentException") s12
  ))
set_option maxRecDepth 10000 in
theorem g_X11_fewestFences_0 {γ : ga_T} {l1 : Int32} {σ : st_T} {Q : rs_T → st_T → Prop} (zw : Wd σ) (zh : p_X11_fewestFences_0 γ l1 σ Q) : vv_ γ m_X11_fewestFences 10 0 [(0, .ref 128), (1, .int l1)] [] σ Q := by
  unfold p_X11_fewestFences_0 at zh
  refine vr_aload_n dX11_fewestFences_0 rfl rfl ?_
  refine vr_iload_n dX11_fewestFences_1 rfl rfl ?_
  rcases zh with zh | zh
  · obtain ⟨s1, zw1, zf_2, zh⟩ := zh
    refine vc_V (As := [.int l1]) (rest := []) dX11_fewestFences_2 cV_LitmusTester_189 (wC_128 zw) rfl rfl (Nat.le_of_ble_eq_true rfl) (Nat.le_of_ble_eq_true rfl) (co_v zf_2 ?_)
    replace zw := zw1
    refine vr_aload_n dX11_fewestFences_5 rfl rfl ?_
    refine vr_iconst dX11_fewestFences_6 (v := (0 : Int32)) (by decide) ?_
    rcases zh with zh | zh
    · obtain ⟨v5, s3, zw1, zf_4, zh⟩ := zh
      refine vc_V (As := [.int (0 : Int32)]) (rest := []) dX11_fewestFences_7 cV_LitmusTester_270 (wC_128 zw) rfl rfl (Nat.le_of_ble_eq_true rfl) (Nat.le_of_ble_eq_true rfl) (co_n zf_4 ?_)
      replace zw := zw1
      refine vr_if_le dX11_fewestFences_10 (tgt := 17) rfl (fun zd_6 => ?_) (fun zd_6 => ?_)
      · replace zh := zh.1 zd_6
        refine vr_aload_n dX11_fewestFences_17 rfl rfl ?_
        refine vr_iload_n dX11_fewestFences_18 rfl rfl ?_
        refine vr_iconst dX11_fewestFences_19 (v := (0 : Int32)) (by decide) ?_
        obtain ⟨v9, s7, zw1, zf_8, zh⟩ := zh
        refine vc_V (As := [.int l1, .int (0 : Int32)]) (rest := []) dX11_fewestFences_20 cV_LitmusTester_273 (wC_128 zw) rfl rfl (Nat.le_of_ble_eq_true rfl) (Nat.le_of_ble_eq_true rfl) (co_n zf_8 ?_)
        replace zw := zw1
        exact vr_iret dX11_fewestFences_23 rfl zh
      · replace zh := zh.2 zd_6
        refine vr_iconst dX11_fewestFences_13 (v := (-1 : Int32)) (by decide) ?_
        refine vr_goto dX11_fewestFences_14 (tgt := 23) rfl ?_
        exact vr_iret dX11_fewestFences_23 rfl zh
    · obtain ⟨s10, zw1, zf_11, zh⟩ := zh
      exact vc_V (As := [.int (0 : Int32)]) (rest := []) dX11_fewestFences_7 cV_LitmusTester_270 (wC_128 zw) rfl rfl (Nat.le_of_ble_eq_true rfl) (Nat.le_of_ble_eq_true rfl) (co_t zf_11 (vt_out rfl zh))
  · obtain ⟨s12, zw1, zf_13, zh⟩ := zh
    exact vc_V (As := [.int l1]) (rest := []) dX11_fewestFences_2 cV_LitmusTester_189 (wC_128 zw) rfl rfl (Nat.le_of_ble_eq_true rfl) (Nat.le_of_ble_eq_true rfl) (co_t zf_13 (vt_out rfl zh))
theorem e_X11_fewestFences {γ : ga_T} {l1 : Int32} {σ : st_T} {Q : rs_T → st_T → Prop} (zw : Wd σ) (zh : p_X11_fewestFences_0 γ l1 σ Q) : sp_ γ m_X11_fewestFences 10 [.ref 128, .int l1] σ Q := sp_of (pl_X11_fewestFences) rfl (Nat.le_of_ble_eq_true rfl) (g_X11_fewestFences_0 zw zh)
def p_X11_repairingFences_0 (γ : ga_T) (l1 : Int32) (σ : st_T) (Q : rs_T → st_T → Prop) : Prop :=
  ((
    ∃ s1, Wd s1 ∧ fw_ γ m_X11_requireModel 8 [.ref 128, .int l1] σ s1 ∧
    ∃ (v5 : Int32) (s3 : st_T), Wd s3 ∧ fn_ γ m_X11_smallestSet 6 [.ref 128, .int l1, .int (1 : Int32)] s1 (.int v5) s3 ∧
    Q (.inl (some (.int v5))) s3
  ) ∨ (
    ∃ s6, Wd s6 ∧ ft_ γ m_X11_requireModel 8 [.ref 128, .int l1] σ "java/lang/IllegalArgumentException" s6 ∧
    Q (.inr "java/lang/IllegalArgumentException") s6
  ))
set_option maxRecDepth 10000 in
theorem g_X11_repairingFences_0 {γ : ga_T} {l1 : Int32} {σ : st_T} {Q : rs_T → st_T → Prop} (zw : Wd σ) (zh : p_X11_repairingFences_0 γ l1 σ Q) : vv_ γ m_X11_repairingFences 9 0 [(0, .ref 128), (1, .int l1)] [] σ Q := by
  unfold p_X11_repairingFences_0 at zh
  refine vr_aload_n dX11_repairingFences_0 rfl rfl ?_
  refine vr_iload_n dX11_repairingFences_1 rfl rfl ?_
  rcases zh with zh | zh
  · obtain ⟨s1, zw1, zf_2, zh⟩ := zh
    refine vc_V (As := [.int l1]) (rest := []) dX11_repairingFences_2 cV_LitmusTester_189 (wC_128 zw) rfl rfl (Nat.le_of_ble_eq_true rfl) (Nat.le_of_ble_eq_true rfl) (co_v zf_2 ?_)
    replace zw := zw1
    refine vr_aload_n dX11_repairingFences_5 rfl rfl ?_
    refine vr_iload_n dX11_repairingFences_6 rfl rfl ?_
    refine vr_iconst dX11_repairingFences_7 (v := (1 : Int32)) (by decide) ?_
    obtain ⟨v5, s3, zw1, zf_4, zh⟩ := zh
    refine vc_V (As := [.int l1, .int (1 : Int32)]) (rest := []) dX11_repairingFences_8 cV_LitmusTester_273 (wC_128 zw) rfl rfl (Nat.le_of_ble_eq_true rfl) (Nat.le_of_ble_eq_true rfl) (co_n zf_4 ?_)
    replace zw := zw1
    exact vr_iret dX11_repairingFences_11 rfl zh
  · obtain ⟨s6, zw1, zf_7, zh⟩ := zh
    exact vc_V (As := [.int l1]) (rest := []) dX11_repairingFences_2 cV_LitmusTester_189 (wC_128 zw) rfl rfl (Nat.le_of_ble_eq_true rfl) (Nat.le_of_ble_eq_true rfl) (co_t zf_7 (vt_out rfl zh))
theorem e_X11_repairingFences {γ : ga_T} {l1 : Int32} {σ : st_T} {Q : rs_T → st_T → Prop} (zw : Wd σ) (zh : p_X11_repairingFences_0 γ l1 σ Q) : sp_ γ m_X11_repairingFences 9 [.ref 128, .int l1] σ Q := sp_of (pl_X11_repairingFences) rfl (Nat.le_of_ble_eq_true rfl) (g_X11_repairingFences_0 zw zh)
def p_X11_smallestSet_0 (γ : ga_T) (l1 : Int32) (l2 : Int32) (σ : st_T) (Q : rs_T → st_T → Prop) : Prop :=
  ∃ (v3 : Nat) (s1 : st_T), Wd s1 ∧ fn_ γ m_X11_findings 5 [.ref 128, .int (0 : Int32)] σ (.ref v3) s1 ∧
  is_fi v3 ∧
  ∃ (v7 : Int32) (s5 : st_T), Wd s5 ∧ fn_ γ m_X3_size 0 [.ref v3] s1 (.int v7) s5 ∧
  ∃ (v10 : Int32) (s8 : st_T), Wd s8 ∧ fn_ γ m_X7_gaps 2 [.ref 132] s5 (.int v10) s8 ∧
  vv_ γ m_X11_smallestSet 6 23 [(0, .ref 128), (1, .int l1), (2, .int l2), (3, .int v7), (4, .int ((1 : Int32) <<< (v10 &&& 31))), (5, .int (0 : Int32))] [] s8 Q
set_option maxRecDepth 10000 in
theorem g_X11_smallestSet_0 {γ : ga_T} {l1 : Int32} {l2 : Int32} {σ : st_T} {Q : rs_T → st_T → Prop} (zw : Wd σ) (zh : p_X11_smallestSet_0 γ l1 l2 σ Q) : vv_ γ m_X11_smallestSet 6 0 [(0, .ref 128), (1, .int l1), (2, .int l2)] [] σ Q := by
  unfold p_X11_smallestSet_0 at zh
  refine vr_aload_n dX11_smallestSet_0 rfl rfl ?_
  refine vr_iconst dX11_smallestSet_1 (v := (0 : Int32)) (by decide) ?_
  obtain ⟨v3, s1, zw1, zf_2, zh⟩ := zh
  refine vc_V (As := [.int (0 : Int32)]) (rest := []) dX11_smallestSet_2 cV_LitmusTester_192 (wC_128 zw) rfl rfl (Nat.le_of_ble_eq_true rfl) (Nat.le_of_ble_eq_true rfl) (co_n zf_2 ?_)
  replace zw := zw1
  obtain ⟨zc_4, zh⟩ := zh
  obtain ⟨v7, s5, zw1, zf_6, zh⟩ := zh
  refine vc_V (As := []) (rest := []) dX11_smallestSet_5 cV_LitmusTester_195 (wC_fi zw zc_4) rfl rfl (Nat.le_of_ble_eq_true rfl) (Nat.le_of_ble_eq_true rfl) (co_n zf_6 ?_)
  replace zw := zw1
  refine vr_istore_n dX11_smallestSet_8 rfl (Nat.le_of_ble_eq_true rfl) (vv_eq (ls' := [(0, .ref 128), (1, .int l1), (2, .int l2), (3, .int v7)]) rfl ?_)
  refine vr_iconst dX11_smallestSet_9 (v := (1 : Int32)) (by decide) ?_
  refine vr_aload_n dX11_smallestSet_10 rfl rfl ?_
  refine vr_getR dX11_smallestSet_11 fl_LitmusTester_27 (wC_128 zw) (Or.inl ⟨_, rfl⟩) (wR_128_3 zw) ?_
  obtain ⟨v10, s8, zw1, zf_9, zh⟩ := zh
  refine vc_V (As := []) (rest := [.int (1 : Int32)]) dX11_smallestSet_14 cV_LitmusTester_240 (wC_132 zw) rfl rfl (Nat.le_of_ble_eq_true rfl) (Nat.le_of_ble_eq_true rfl) (co_n zf_9 ?_)
  replace zw := zw1
  refine vr_ishl dX11_smallestSet_17 ?_
  refine vr_istore dX11_smallestSet_18 (Nat.le_of_ble_eq_true rfl) (vv_eq (ls' := [(0, .ref 128), (1, .int l1), (2, .int l2), (3, .int v7), (4, .int ((1 : Int32) <<< (v10 &&& 31)))]) rfl ?_)
  refine vr_iconst dX11_smallestSet_20 (v := (0 : Int32)) (by decide) ?_
  refine vr_istore dX11_smallestSet_21 (Nat.le_of_ble_eq_true rfl) (vv_eq (ls' := [(0, .ref 128), (1, .int l1), (2, .int l2), (3, .int v7), (4, .int ((1 : Int32) <<< (v10 &&& 31))), (5, .int (0 : Int32))]) rfl ?_)
  exact vv_sub (ls' := [(0, .ref 128), (1, .int l1), (2, .int l2), (3, .int v7), (4, .int ((1 : Int32) <<< (v10 &&& 31))), (5, .int (0 : Int32))]) ⟨rfl, rfl, rfl, rfl, rfl, rfl, trivial⟩ zh
theorem e_X11_smallestSet {γ : ga_T} {l1 : Int32} {l2 : Int32} {σ : st_T} {Q : rs_T → st_T → Prop} (zw : Wd σ) (zh : p_X11_smallestSet_0 γ l1 l2 σ Q) : sp_ γ m_X11_smallestSet 6 [.ref 128, .int l1, .int l2] σ Q := sp_of (pl_X11_smallestSet) rfl (Nat.le_of_ble_eq_true rfl) (g_X11_smallestSet_0 zw zh)
def p_X11_smallestSet_23 (γ : ga_T) (l1 : Int32) (l2 : Int32) (l3 : Int32) (l4 : Int32) (l5 : Int32) (σ : st_T) (Q : rs_T → st_T → Prop) : Prop :=
  ((6 : Int32) < l5 →
    Q (.inl (some (.int (-1 : Int32)))) σ
  ) ∧ (¬ (6 : Int32) < l5 →
    vv_ γ m_X11_smallestSet 6 33 [(0, .ref 128), (1, .int l1), (2, .int l2), (3, .int l3), (4, .int l4), (5, .int l5), (6, .int (0 : Int32))] [] σ Q
  )
set_option maxRecDepth 10000 in
theorem g_X11_smallestSet_23 {γ : ga_T} {l1 : Int32} {l2 : Int32} {l3 : Int32} {l4 : Int32} {l5 : Int32} {σ : st_T} {Q : rs_T → st_T → Prop} (zw : Wd σ) (zh : p_X11_smallestSet_23 γ l1 l2 l3 l4 l5 σ Q) : vv_ γ m_X11_smallestSet 6 23 [(0, .ref 128), (1, .int l1), (2, .int l2), (3, .int l3), (4, .int l4), (5, .int l5)] [] σ Q := by
  unfold p_X11_smallestSet_23 at zh
  refine vr_iload dX11_smallestSet_23 rfl ?_
  refine vr_bipush dX11_smallestSet_25 (v := (6 : Int32)) (by decide) ?_
  refine vr_ic_gt dX11_smallestSet_27 (tgt := 107) rfl (fun zd_1 => ?_) (fun zd_1 => ?_)
  · replace zh := zh.1 zd_1
    refine vr_iconst dX11_smallestSet_107 (v := (-1 : Int32)) (by decide) ?_
    exact vr_iret dX11_smallestSet_108 rfl zh
  · replace zh := zh.2 zd_1
    refine vr_iconst dX11_smallestSet_30 (v := (0 : Int32)) (by decide) ?_
    refine vr_istore dX11_smallestSet_31 (Nat.le_of_ble_eq_true rfl) (vv_eq (ls' := [(0, .ref 128), (1, .int l1), (2, .int l2), (3, .int l3), (4, .int l4), (5, .int l5), (6, .int (0 : Int32))]) rfl ?_)
    exact vv_sub (ls' := [(0, .ref 128), (1, .int l1), (2, .int l2), (3, .int l3), (4, .int l4), (5, .int l5), (6, .int (0 : Int32))]) ⟨rfl, rfl, rfl, rfl, rfl, rfl, rfl, trivial⟩ zh
def p_X11_smallestSet_33 (γ : ga_T) (l1 : Int32) (l2 : Int32) (l3 : Int32) (l4 : Int32) (l5 : Int32) (l6 : Int32) (σ : st_T) (Q : rs_T → st_T → Prop) : Prop :=
  (l4 ≤ l6 →
    vv_ γ m_X11_smallestSet 6 23 [(0, .ref 128), (1, .int l1), (2, .int l2), (3, .int l3), (4, .int l4), (5, .int (l5 + 1))] [] σ Q
  ) ∧ (¬ l4 ≤ l6 →
    ∃ (v4 : Int32) (s2 : st_T), Wd s2 ∧ fn_ γ m_J6_bitCount_0f7a4 0 [.int l6] σ (.int v4) s2 ∧
    (v4 = l5 →
      ∃ s6, Wd s6 ∧ fw_ γ m_X11_tryFences 5 [.ref 128, .int l1, .int l6] s2 s6 ∧
      ∃ (v10 : Nat) (s8 : st_T), Wd s8 ∧ fn_ γ m_X11_kept 0 [.ref 128, .int l1] s6 (.ref v10) s8 ∧
      (l2 = (0 : Int32) →
        is_fi v10 ∧
        ∃ (v15 : Int32) (s13 : st_T), Wd s13 ∧ fn_ γ m_X3_fencedMatches 0 [.ref v10, .int l6] s8 (.int v15) s13 ∧
        (v15 = (0 : Int32) →
          Q (.inl (some (.int l6))) s13
        ) ∧ (¬ v15 = (0 : Int32) →
          vv_ γ m_X11_smallestSet 6 33 [(0, .ref 128), (1, .int l1), (2, .int l2), (3, .int l3), (4, .int l4), (5, .int l5), (6, .int (l6 + 1))] [] s13 Q
        )
      ) ∧ (¬ l2 = (0 : Int32) →
        is_fi v10 ∧
        ∃ (v20 : Int32) (s18 : st_T), Wd s18 ∧ fn_ γ m_X3_fencedOutcomes 0 [.ref v10, .int l6] s8 (.int v20) s18 ∧
        (v20 = l3 →
          Q (.inl (some (.int l6))) s18
        ) ∧ (¬ v20 = l3 →
          vv_ γ m_X11_smallestSet 6 33 [(0, .ref 128), (1, .int l1), (2, .int l2), (3, .int l3), (4, .int l4), (5, .int l5), (6, .int (l6 + 1))] [] s18 Q
        )
      )
    ) ∧ (¬ v4 = l5 →
      vv_ γ m_X11_smallestSet 6 33 [(0, .ref 128), (1, .int l1), (2, .int l2), (3, .int l3), (4, .int l4), (5, .int l5), (6, .int (l6 + 1))] [] s2 Q
    )
  )
set_option maxRecDepth 10000 in
theorem g_X11_smallestSet_33 {γ : ga_T} {l1 : Int32} {l2 : Int32} {l3 : Int32} {l4 : Int32} {l5 : Int32} {l6 : Int32} {σ : st_T} {Q : rs_T → st_T → Prop} (zw : Wd σ) (zh : p_X11_smallestSet_33 γ l1 l2 l3 l4 l5 l6 σ Q) : vv_ γ m_X11_smallestSet 6 33 [(0, .ref 128), (1, .int l1), (2, .int l2), (3, .int l3), (4, .int l4), (5, .int l5), (6, .int l6)] [] σ Q := by
  unfold p_X11_smallestSet_33 at zh
  refine vr_iload dX11_smallestSet_33 rfl ?_
  refine vr_iload dX11_smallestSet_35 rfl ?_
  refine vr_ic_ge dX11_smallestSet_37 (tgt := 101) rfl (fun zd_1 => ?_) (fun zd_1 => ?_)
  · replace zh := zh.1 zd_1
    refine vr_iinc dX11_smallestSet_101 (x := l5) (v := (l5 + 1)) rfl (ii_ (by decide)) (Nat.le_of_ble_eq_true rfl) (vv_eq (ls' := [(0, .ref 128), (1, .int l1), (2, .int l2), (3, .int l3), (4, .int l4), (5, .int (l5 + 1)), (6, .int l6)]) rfl ?_)
    refine vr_goto dX11_smallestSet_104 (tgt := 23) rfl ?_
    exact vv_sub (ls' := [(0, .ref 128), (1, .int l1), (2, .int l2), (3, .int l3), (4, .int l4), (5, .int (l5 + 1))]) ⟨rfl, rfl, rfl, rfl, rfl, rfl, trivial⟩ zh
  · replace zh := zh.2 zd_1
    refine vr_iload dX11_smallestSet_40 rfl ?_
    obtain ⟨v4, s2, zw1, zf_3, zh⟩ := zh
    refine vc_S (As := [.int l6]) (rest := []) dX11_smallestSet_42 cS_LitmusTester_277 rfl rfl (Nat.le_of_ble_eq_true rfl) (Nat.le_of_ble_eq_true rfl) (co_n zf_3 ?_)
    replace zw := zw1
    refine vr_iload dX11_smallestSet_45 rfl ?_
    refine vr_ic_ne dX11_smallestSet_47 (tgt := 95) rfl (fun zd_5 => ?_) (fun zd_5 => ?_)
    · replace zh := zh.2 zd_5
      refine vr_iinc dX11_smallestSet_95 (x := l6) (v := (l6 + 1)) rfl (ii_ (by decide)) (Nat.le_of_ble_eq_true rfl) (vv_eq (ls' := [(0, .ref 128), (1, .int l1), (2, .int l2), (3, .int l3), (4, .int l4), (5, .int l5), (6, .int (l6 + 1))]) rfl ?_)
      refine vr_goto dX11_smallestSet_98 (tgt := 33) rfl ?_
      exact vv_sub (ls' := [(0, .ref 128), (1, .int l1), (2, .int l2), (3, .int l3), (4, .int l4), (5, .int l5), (6, .int (l6 + 1))]) ⟨rfl, rfl, rfl, rfl, rfl, rfl, rfl, trivial⟩ zh
    · replace zh := zh.1 zd_5
      refine vr_aload_n dX11_smallestSet_50 rfl rfl ?_
      refine vr_iload_n dX11_smallestSet_51 rfl rfl ?_
      refine vr_iload dX11_smallestSet_52 rfl ?_
      obtain ⟨s6, zw1, zf_7, zh⟩ := zh
      refine vc_V (As := [.int l1, .int l6]) (rest := []) dX11_smallestSet_54 cV_LitmusTester_248 (wC_128 zw) rfl rfl (Nat.le_of_ble_eq_true rfl) (Nat.le_of_ble_eq_true rfl) (co_v zf_7 ?_)
      replace zw := zw1
      refine vr_aload_n dX11_smallestSet_57 rfl rfl ?_
      refine vr_iload_n dX11_smallestSet_58 rfl rfl ?_
      obtain ⟨v10, s8, zw1, zf_9, zh⟩ := zh
      refine vc_V (As := [.int l1]) (rest := []) dX11_smallestSet_59 cV_LitmusTester_170 (wC_128 zw) rfl rfl (Nat.le_of_ble_eq_true rfl) (Nat.le_of_ble_eq_true rfl) (co_n zf_9 ?_)
      replace zw := zw1
      refine vr_astore dX11_smallestSet_62 (Nat.le_of_ble_eq_true rfl) (vv_eq (ls' := [(0, .ref 128), (1, .int l1), (2, .int l2), (3, .int l3), (4, .int l4), (5, .int l5), (6, .int l6), (7, .ref v10)]) rfl ?_)
      refine vr_iload_n dX11_smallestSet_64 rfl rfl ?_
      refine vr_if_eq dX11_smallestSet_65 (tgt := 82) rfl (fun zd_11 => ?_) (fun zd_11 => ?_)
      · replace zh := zh.1 zd_11
        refine vr_aload dX11_smallestSet_82 rfl ?_
        refine vr_iload dX11_smallestSet_84 rfl ?_
        obtain ⟨zc_12, zh⟩ := zh
        obtain ⟨v15, s13, zw1, zf_14, zh⟩ := zh
        refine vc_V (As := [.int l6]) (rest := []) dX11_smallestSet_86 cV_LitmusTester_251 (wC_fi zw zc_12) rfl rfl (Nat.le_of_ble_eq_true rfl) (Nat.le_of_ble_eq_true rfl) (co_n zf_14 ?_)
        replace zw := zw1
        refine vr_if_ne dX11_smallestSet_89 (tgt := 95) rfl (fun zd_16 => ?_) (fun zd_16 => ?_)
        · replace zh := zh.2 zd_16
          refine vr_iinc dX11_smallestSet_95 (x := l6) (v := (l6 + 1)) rfl (ii_ (by decide)) (Nat.le_of_ble_eq_true rfl) (vv_eq (ls' := [(0, .ref 128), (1, .int l1), (2, .int l2), (3, .int l3), (4, .int l4), (5, .int l5), (6, .int (l6 + 1)), (7, .ref v10)]) rfl ?_)
          refine vr_goto dX11_smallestSet_98 (tgt := 33) rfl ?_
          exact vv_sub (ls' := [(0, .ref 128), (1, .int l1), (2, .int l2), (3, .int l3), (4, .int l4), (5, .int l5), (6, .int (l6 + 1))]) ⟨rfl, rfl, rfl, rfl, rfl, rfl, rfl, trivial⟩ zh
        · replace zh := zh.1 zd_16
          refine vr_iload dX11_smallestSet_92 rfl ?_
          exact vr_iret dX11_smallestSet_94 rfl zh
      · replace zh := zh.2 zd_11
        refine vr_aload dX11_smallestSet_68 rfl ?_
        refine vr_iload dX11_smallestSet_70 rfl ?_
        obtain ⟨zc_17, zh⟩ := zh
        obtain ⟨v20, s18, zw1, zf_19, zh⟩ := zh
        refine vc_V (As := [.int l6]) (rest := []) dX11_smallestSet_72 cV_LitmusTester_254 (wC_fi zw zc_17) rfl rfl (Nat.le_of_ble_eq_true rfl) (Nat.le_of_ble_eq_true rfl) (co_n zf_19 ?_)
        replace zw := zw1
        refine vr_iload_n dX11_smallestSet_75 rfl rfl ?_
        refine vr_ic_ne dX11_smallestSet_76 (tgt := 95) rfl (fun zd_21 => ?_) (fun zd_21 => ?_)
        · replace zh := zh.2 zd_21
          refine vr_iinc dX11_smallestSet_95 (x := l6) (v := (l6 + 1)) rfl (ii_ (by decide)) (Nat.le_of_ble_eq_true rfl) (vv_eq (ls' := [(0, .ref 128), (1, .int l1), (2, .int l2), (3, .int l3), (4, .int l4), (5, .int l5), (6, .int (l6 + 1)), (7, .ref v10)]) rfl ?_)
          refine vr_goto dX11_smallestSet_98 (tgt := 33) rfl ?_
          exact vv_sub (ls' := [(0, .ref 128), (1, .int l1), (2, .int l2), (3, .int l3), (4, .int l4), (5, .int l5), (6, .int (l6 + 1))]) ⟨rfl, rfl, rfl, rfl, rfl, rfl, rfl, trivial⟩ zh
        · replace zh := zh.1 zd_21
          refine vr_goto dX11_smallestSet_79 (tgt := 92) rfl ?_
          refine vr_iload dX11_smallestSet_92 rfl ?_
          exact vr_iret dX11_smallestSet_94 rfl zh
def p_X11_isFenceNeeded_0 (γ : ga_T) (l1 : Int32) (l2 : Int32) (σ : st_T) (Q : rs_T → st_T → Prop) : Prop :=
  ((
    ∃ s1, Wd s1 ∧ fw_ γ m_X11_requireModel 8 [.ref 128, .int l1] σ s1 ∧
    ((
      ∃ s3, Wd s3 ∧ fw_ γ m_X11_requireInstruction 8 [.ref 128, .int l2] s1 s3 ∧
      ((
        ∃ s5, Wd s5 ∧ fw_ γ m_X11_requireFence 8 [.ref 128, .int l2] s3 s5 ∧
        ∃ (v9 : Nat) (s7 : st_T), Wd s7 ∧ fn_ γ m_X11_findings 5 [.ref 128, .int l1] s5 (.ref v9) s7 ∧
        is_fi v9 ∧
        ∃ (v13 : Int32) (s11 : st_T), Wd s11 ∧ fn_ γ m_X3_size 0 [.ref v9] s7 (.int v13) s11 ∧
        ∃ (v16 : Int32) (s14 : st_T), Wd s14 ∧ fn_ γ m_X7_waits 1 [.ref 132] s11 (.int v16) s14 ∧
        ∃ s17, Wd s17 ∧ fw_ γ m_X2_explore 4 [.ref 147, .int l1, .int (v16 &&& (((1 : Int32) <<< (l2 &&& 31)) ^^^ (-1 : Int32)))] s14 s17 ∧
        ∃ (v21 : Int32) (s19 : st_T), Wd s19 ∧ fn_ γ m_X2_outcomes 1 [.ref 147] s17 (.int v21) s19 ∧
        (v21 = v13 →
          Q (.inl (some (.int (0 : Int32)))) s19
        ) ∧ (¬ v21 = v13 →
          Q (.inl (some (.int (1 : Int32)))) s19
        )
      ) ∨ (
        ∃ s23, Wd s23 ∧ ft_ γ m_X11_requireFence 8 [.ref 128, .int l2] s3 "java/util/NoSuchElementException" s23 ∧
        Q (.inr "java/util/NoSuchElementException") s23
      ))
    ) ∨ (
      ∃ s25, Wd s25 ∧ ft_ γ m_X11_requireInstruction 8 [.ref 128, .int l2] s1 "java/lang/IndexOutOfBoundsException" s25 ∧
      Q (.inr "java/lang/IndexOutOfBoundsException") s25
    ))
  ) ∨ (
    ∃ s27, Wd s27 ∧ ft_ γ m_X11_requireModel 8 [.ref 128, .int l1] σ "java/lang/IllegalArgumentException" s27 ∧
    Q (.inr "java/lang/IllegalArgumentException") s27
  ))
set_option maxRecDepth 10000 in
theorem g_X11_isFenceNeeded_0 {γ : ga_T} {l1 : Int32} {l2 : Int32} {σ : st_T} {Q : rs_T → st_T → Prop} (zw : Wd σ) (zh : p_X11_isFenceNeeded_0 γ l1 l2 σ Q) : vv_ γ m_X11_isFenceNeeded 9 0 [(0, .ref 128), (1, .int l1), (2, .int l2)] [] σ Q := by
  unfold p_X11_isFenceNeeded_0 at zh
  refine vr_aload_n dX11_isFenceNeeded_0 rfl rfl ?_
  refine vr_iload_n dX11_isFenceNeeded_1 rfl rfl ?_
  rcases zh with zh | zh
  · obtain ⟨s1, zw1, zf_2, zh⟩ := zh
    refine vc_V (As := [.int l1]) (rest := []) dX11_isFenceNeeded_2 cV_LitmusTester_189 (wC_128 zw) rfl rfl (Nat.le_of_ble_eq_true rfl) (Nat.le_of_ble_eq_true rfl) (co_v zf_2 ?_)
    replace zw := zw1
    refine vr_aload_n dX11_isFenceNeeded_5 rfl rfl ?_
    refine vr_iload_n dX11_isFenceNeeded_6 rfl rfl ?_
    rcases zh with zh | zh
    · obtain ⟨s3, zw1, zf_4, zh⟩ := zh
      refine vc_V (As := [.int l2]) (rest := []) dX11_isFenceNeeded_7 cV_LitmusTester_110 (wC_128 zw) rfl rfl (Nat.le_of_ble_eq_true rfl) (Nat.le_of_ble_eq_true rfl) (co_v zf_4 ?_)
      replace zw := zw1
      refine vr_aload_n dX11_isFenceNeeded_10 rfl rfl ?_
      refine vr_iload_n dX11_isFenceNeeded_11 rfl rfl ?_
      rcases zh with zh | zh
      · obtain ⟨s5, zw1, zf_6, zh⟩ := zh
        refine vc_V (As := [.int l2]) (rest := []) dX11_isFenceNeeded_12 cV_LitmusTester_282 (wC_128 zw) rfl rfl (Nat.le_of_ble_eq_true rfl) (Nat.le_of_ble_eq_true rfl) (co_v zf_6 ?_)
        replace zw := zw1
        refine vr_aload_n dX11_isFenceNeeded_15 rfl rfl ?_
        refine vr_iload_n dX11_isFenceNeeded_16 rfl rfl ?_
        obtain ⟨v9, s7, zw1, zf_8, zh⟩ := zh
        refine vc_V (As := [.int l1]) (rest := []) dX11_isFenceNeeded_17 cV_LitmusTester_192 (wC_128 zw) rfl rfl (Nat.le_of_ble_eq_true rfl) (Nat.le_of_ble_eq_true rfl) (co_n zf_8 ?_)
        replace zw := zw1
        obtain ⟨zc_10, zh⟩ := zh
        obtain ⟨v13, s11, zw1, zf_12, zh⟩ := zh
        refine vc_V (As := []) (rest := []) dX11_isFenceNeeded_20 cV_LitmusTester_195 (wC_fi zw zc_10) rfl rfl (Nat.le_of_ble_eq_true rfl) (Nat.le_of_ble_eq_true rfl) (co_n zf_12 ?_)
        replace zw := zw1
        refine vr_istore_n dX11_isFenceNeeded_23 rfl (Nat.le_of_ble_eq_true rfl) (vv_eq (ls' := [(0, .ref 128), (1, .int l1), (2, .int l2), (3, .int v13)]) rfl ?_)
        refine vr_aload_n dX11_isFenceNeeded_24 rfl rfl ?_
        refine vr_getR dX11_isFenceNeeded_25 fl_LitmusTester_48 (wC_128 zw) (Or.inl ⟨_, rfl⟩) (wR_128_6 zw) ?_
        refine vr_iload_n dX11_isFenceNeeded_28 rfl rfl ?_
        refine vr_aload_n dX11_isFenceNeeded_29 rfl rfl ?_
        refine vr_getR dX11_isFenceNeeded_30 fl_LitmusTester_27 (wC_128 zw) (Or.inl ⟨_, rfl⟩) (wR_128_3 zw) ?_
        obtain ⟨v16, s14, zw1, zf_15, zh⟩ := zh
        refine vc_V (As := []) (rest := [.int l1, .ref 147]) dX11_isFenceNeeded_33 cV_LitmusTester_178 (wC_132 zw) rfl rfl (Nat.le_of_ble_eq_true rfl) (Nat.le_of_ble_eq_true rfl) (co_n zf_15 ?_)
        replace zw := zw1
        refine vr_iconst dX11_isFenceNeeded_36 (v := (1 : Int32)) (by decide) ?_
        refine vr_iload_n dX11_isFenceNeeded_37 rfl rfl ?_
        refine vr_ishl dX11_isFenceNeeded_38 ?_
        refine vr_iconst dX11_isFenceNeeded_39 (v := (-1 : Int32)) (by decide) ?_
        refine vr_ixor dX11_isFenceNeeded_40 ?_
        refine vr_iand dX11_isFenceNeeded_41 ?_
        obtain ⟨s17, zw1, zf_18, zh⟩ := zh
        refine vc_V (As := [.int l1, .int (v16 &&& (((1 : Int32) <<< (l2 &&& 31)) ^^^ (-1 : Int32)))]) (rest := []) dX11_isFenceNeeded_42 cV_LitmusTester_181 (wC_147 zw) rfl rfl (Nat.le_of_ble_eq_true rfl) (Nat.le_of_ble_eq_true rfl) (co_v zf_18 ?_)
        replace zw := zw1
        refine vr_aload_n dX11_isFenceNeeded_45 rfl rfl ?_
        refine vr_getR dX11_isFenceNeeded_46 fl_LitmusTester_48 (wC_128 zw) (Or.inl ⟨_, rfl⟩) (wR_128_6 zw) ?_
        obtain ⟨v21, s19, zw1, zf_20, zh⟩ := zh
        refine vc_V (As := []) (rest := []) dX11_isFenceNeeded_49 cV_LitmusTester_260 (wC_147 zw) rfl rfl (Nat.le_of_ble_eq_true rfl) (Nat.le_of_ble_eq_true rfl) (co_n zf_20 ?_)
        replace zw := zw1
        refine vr_iload_n dX11_isFenceNeeded_52 rfl rfl ?_
        refine vr_ic_eq dX11_isFenceNeeded_53 (tgt := 60) rfl (fun zd_22 => ?_) (fun zd_22 => ?_)
        · replace zh := zh.1 zd_22
          refine vr_iconst dX11_isFenceNeeded_60 (v := (0 : Int32)) (by decide) ?_
          exact vr_zret dX11_isFenceNeeded_61 rfl (Or.inl rfl) zh
        · replace zh := zh.2 zd_22
          refine vr_iconst dX11_isFenceNeeded_56 (v := (1 : Int32)) (by decide) ?_
          refine vr_goto dX11_isFenceNeeded_57 (tgt := 61) rfl ?_
          exact vr_zret dX11_isFenceNeeded_61 rfl (Or.inr rfl) zh
      · obtain ⟨s23, zw1, zf_24, zh⟩ := zh
        exact vc_V (As := [.int l2]) (rest := []) dX11_isFenceNeeded_12 cV_LitmusTester_282 (wC_128 zw) rfl rfl (Nat.le_of_ble_eq_true rfl) (Nat.le_of_ble_eq_true rfl) (co_t zf_24 (vt_out rfl zh))
    · obtain ⟨s25, zw1, zf_26, zh⟩ := zh
      exact vc_V (As := [.int l2]) (rest := []) dX11_isFenceNeeded_7 cV_LitmusTester_110 (wC_128 zw) rfl rfl (Nat.le_of_ble_eq_true rfl) (Nat.le_of_ble_eq_true rfl) (co_t zf_26 (vt_out rfl zh))
  · obtain ⟨s27, zw1, zf_28, zh⟩ := zh
    exact vc_V (As := [.int l1]) (rest := []) dX11_isFenceNeeded_2 cV_LitmusTester_189 (wC_128 zw) rfl rfl (Nat.le_of_ble_eq_true rfl) (Nat.le_of_ble_eq_true rfl) (co_t zf_28 (vt_out rfl zh))
theorem e_X11_isFenceNeeded {γ : ga_T} {l1 : Int32} {l2 : Int32} {σ : st_T} {Q : rs_T → st_T → Prop} (zw : Wd σ) (zh : p_X11_isFenceNeeded_0 γ l1 l2 σ Q) : sp_ γ m_X11_isFenceNeeded 9 [.ref 128, .int l1, .int l2] σ Q := sp_of (pl_X11_isFenceNeeded) rfl (Nat.le_of_ble_eq_true rfl) (g_X11_isFenceNeeded_0 zw zh)
def p_X11_requireFence_0 (γ : ga_T) (l1 : Int32) (σ : st_T) (Q : rs_T → st_T → Prop) : Prop :=
  ∃ (v3 : Int32) (s1 : st_T), Wd s1 ∧ fn_ γ m_X7_property 0 [.ref 132, .int l1, .int (1 : Int32)] σ (.int v3) s1 ∧
  (v3 = (3 : Int32) →
    Q (.inl none) s1
  ) ∧ (¬ v3 = (3 : Int32) →
    Q (.inr "java/util/NoSuchElementException") (pt_X s1 1 6)
  )
set_option maxRecDepth 10000 in
theorem g_X11_requireFence_0 {γ : ga_T} {l1 : Int32} {σ : st_T} {Q : rs_T → st_T → Prop} (zw : Wd σ) (zh : p_X11_requireFence_0 γ l1 σ Q) : vv_ γ m_X11_requireFence 8 0 [(0, .ref 128), (1, .int l1)] [] σ Q := by
  unfold p_X11_requireFence_0 at zh
  refine vr_aload_n dX11_requireFence_0 rfl rfl ?_
  refine vr_getR dX11_requireFence_1 fl_LitmusTester_27 (wC_128 zw) (Or.inl ⟨_, rfl⟩) (wR_128_3 zw) ?_
  refine vr_iload_n dX11_requireFence_4 rfl rfl ?_
  refine vr_iconst dX11_requireFence_5 (v := (1 : Int32)) (by decide) ?_
  obtain ⟨v3, s1, zw1, zf_2, zh⟩ := zh
  refine vc_V (As := [.int l1, .int (1 : Int32)]) (rest := []) dX11_requireFence_6 cV_LitmusTester_113 (wC_132 zw) rfl rfl (Nat.le_of_ble_eq_true rfl) (Nat.le_of_ble_eq_true rfl) (co_n zf_2 ?_)
  replace zw := zw1
  refine vr_iconst dX11_requireFence_9 (v := (3 : Int32)) (by decide) ?_
  refine vr_ic_eq dX11_requireFence_10 (tgt := 24) rfl (fun zd_4 => ?_) (fun zd_4 => ?_)
  · replace zh := zh.1 zd_4
    exact vr_vret dX11_requireFence_24 rfl zh
  · replace zh := zh.2 zd_4
    exact vr_throwNW dX11_requireFence_13 dX11_requireFence_16 dX11_requireFence_17 dX11_requireFence_20 dX11_requireFence_23 rfl th_LitmusTester_157_161 (i := 8) (by decide) rfl rfl (Nat.le_of_ble_eq_true rfl) (Nat.le_of_ble_eq_true rfl) zh
theorem e_X11_requireFence {γ : ga_T} {l1 : Int32} {σ : st_T} {Q : rs_T → st_T → Prop} (zw : Wd σ) (zh : p_X11_requireFence_0 γ l1 σ Q) : sp_ γ m_X11_requireFence 8 [.ref 128, .int l1] σ Q := sp_of (pl_X11_requireFence) rfl (Nat.le_of_ble_eq_true rfl) (g_X11_requireFence_0 zw zh)
def p_X11_insertFence_0 (γ : ga_T) (l1 : Int32) (σ : st_T) (Q : rs_T → st_T → Prop) : Prop :=
  ∃ (v3 : Int32) (s1 : st_T), Wd s1 ∧ fn_ γ m_X7_placeOfGap 2 [.ref 132, .int l1] σ (.int v3) s1 ∧
  (v3 = (-1 : Int32) →
    Q (.inr "java/lang/IndexOutOfBoundsException") (pt_X s1 1 6)
  ) ∧ (¬ v3 = (-1 : Int32) →
    ∃ (v7 : Int32) (s5 : st_T), Wd s5 ∧ fn_ γ m_X7_property 0 [.ref 132, .int v3, .int (0 : Int32)] s1 (.int v7) s5 ∧
    ∃ (v10 : Int32) (s8 : st_T), Wd s8 ∧ fn_ γ m_X7_sizeOf 1 [.ref 132, .int v7] s5 (.int v10) s8 ∧
    ((7 : Int32) ≤ v10 →
      Q (.inr "java/lang/IllegalStateException") (pt_X s8 1 6)
    ) ∧ (¬ (7 : Int32) ≤ v10 →
      ∃ (v14 : Int32) (s12 : st_T), Wd s12 ∧ fn_ γ m_X7_size 0 [.ref 132] s8 (.int v14) s12 ∧
      (v14 < (10 : Int32) →
        ∃ s16, Wd s16 ∧ fw_ γ m_X7_putFence 1 [.ref 132, .int v3, .int v7] s12 s16 ∧
        ∃ (v20 : Int32) (s18 : st_T), Wd s18 ∧ fn_ γ m_X0_inserted 0 [.int v3] s16 (.int v20) s18 ∧
        ∃ s21, Wd s21 ∧ fw_ γ m_X0_add 1 [.ref 179, .int v20] s18 s21 ∧
        ∃ s23, Wd s23 ∧ fw_ γ m_X11_forgetWhatWasFound 2 [.ref 128] s21 s23 ∧
        Q (.inl (some (.int v3))) s23
      ) ∧ (¬ v14 < (10 : Int32) →
        Q (.inr "java/lang/IllegalStateException") (pt_X s12 1 6)
      )
    )
  )
set_option maxRecDepth 10000 in
theorem g_X11_insertFence_0 {γ : ga_T} {l1 : Int32} {σ : st_T} {Q : rs_T → st_T → Prop} (zw : Wd σ) (zh : p_X11_insertFence_0 γ l1 σ Q) : vv_ γ m_X11_insertFence 8 0 [(0, .ref 128), (1, .int l1)] [] σ Q := by
  unfold p_X11_insertFence_0 at zh
  refine vr_aload_n dX11_insertFence_0 rfl rfl ?_
  refine vr_getR dX11_insertFence_1 fl_LitmusTester_27 (wC_128 zw) (Or.inl ⟨_, rfl⟩) (wR_128_3 zw) ?_
  refine vr_iload_n dX11_insertFence_4 rfl rfl ?_
  obtain ⟨v3, s1, zw1, zf_2, zh⟩ := zh
  refine vc_V (As := [.int l1]) (rest := []) dX11_insertFence_5 cV_LitmusTester_243 (wC_132 zw) rfl rfl (Nat.le_of_ble_eq_true rfl) (Nat.le_of_ble_eq_true rfl) (co_n zf_2 ?_)
  replace zw := zw1
  refine vr_istore_n dX11_insertFence_8 rfl (Nat.le_of_ble_eq_true rfl) (vv_eq (ls' := [(0, .ref 128), (1, .int l1), (2, .int v3)]) rfl ?_)
  refine vr_iload_n dX11_insertFence_9 rfl rfl ?_
  refine vr_iconst dX11_insertFence_10 (v := (-1 : Int32)) (by decide) ?_
  refine vr_ic_ne dX11_insertFence_11 (tgt := 24) rfl (fun zd_4 => ?_) (fun zd_4 => ?_)
  · replace zh := zh.2 zd_4
    refine vr_aload_n dX11_insertFence_24 rfl rfl ?_
    refine vr_getR dX11_insertFence_25 fl_LitmusTester_27 (wC_128 zw) (Or.inl ⟨_, rfl⟩) (wR_128_3 zw) ?_
    refine vr_iload_n dX11_insertFence_28 rfl rfl ?_
    refine vr_iconst dX11_insertFence_29 (v := (0 : Int32)) (by decide) ?_
    obtain ⟨v7, s5, zw1, zf_6, zh⟩ := zh
    refine vc_V (As := [.int v3, .int (0 : Int32)]) (rest := []) dX11_insertFence_30 cV_LitmusTester_113 (wC_132 zw) rfl rfl (Nat.le_of_ble_eq_true rfl) (Nat.le_of_ble_eq_true rfl) (co_n zf_6 ?_)
    replace zw := zw1
    refine vr_istore_n dX11_insertFence_33 rfl (Nat.le_of_ble_eq_true rfl) (vv_eq (ls' := [(0, .ref 128), (1, .int l1), (2, .int v3), (3, .int v7)]) rfl ?_)
    refine vr_aload_n dX11_insertFence_34 rfl rfl ?_
    refine vr_getR dX11_insertFence_35 fl_LitmusTester_27 (wC_128 zw) (Or.inl ⟨_, rfl⟩) (wR_128_3 zw) ?_
    refine vr_iload_n dX11_insertFence_38 rfl rfl ?_
    obtain ⟨v10, s8, zw1, zf_9, zh⟩ := zh
    refine vc_V (As := [.int v7]) (rest := []) dX11_insertFence_39 cV_LitmusTester_148 (wC_132 zw) rfl rfl (Nat.le_of_ble_eq_true rfl) (Nat.le_of_ble_eq_true rfl) (co_n zf_9 ?_)
    replace zw := zw1
    refine vr_bipush dX11_insertFence_42 (v := (7 : Int32)) (by decide) ?_
    refine vr_ic_ge dX11_insertFence_44 (tgt := 59) rfl (fun zd_11 => ?_) (fun zd_11 => ?_)
    · replace zh := zh.1 zd_11
      exact vr_throwW dX11_insertFence_59 dX11_insertFence_62 dX11_insertFence_63 dX11_insertFence_66 dX11_insertFence_69 rfl th_LitmusTester_287_291 (i := 9) (by decide) rfl rfl (Nat.le_of_ble_eq_true rfl) (Nat.le_of_ble_eq_true rfl) zh
    · replace zh := zh.2 zd_11
      refine vr_aload_n dX11_insertFence_47 rfl rfl ?_
      refine vr_getR dX11_insertFence_48 fl_LitmusTester_27 (wC_128 zw) (Or.inl ⟨_, rfl⟩) (wR_128_3 zw) ?_
      obtain ⟨v14, s12, zw1, zf_13, zh⟩ := zh
      refine vc_V (As := []) (rest := []) dX11_insertFence_51 cV_LitmusTester_96 (wC_132 zw) rfl rfl (Nat.le_of_ble_eq_true rfl) (Nat.le_of_ble_eq_true rfl) (co_n zf_13 ?_)
      replace zw := zw1
      refine vr_bipush dX11_insertFence_54 (v := (10 : Int32)) (by decide) ?_
      refine vr_ic_lt dX11_insertFence_56 (tgt := 70) rfl (fun zd_15 => ?_) (fun zd_15 => ?_)
      · replace zh := zh.1 zd_15
        refine vr_aload_n dX11_insertFence_70 rfl rfl ?_
        refine vr_getR dX11_insertFence_71 fl_LitmusTester_27 (wC_128 zw) (Or.inl ⟨_, rfl⟩) (wR_128_3 zw) ?_
        refine vr_iload_n dX11_insertFence_74 rfl rfl ?_
        refine vr_iload_n dX11_insertFence_75 rfl rfl ?_
        obtain ⟨s16, zw1, zf_17, zh⟩ := zh
        refine vc_V (As := [.int v3, .int v7]) (rest := []) dX11_insertFence_76 cV_LitmusTester_292 (wC_132 zw) rfl rfl (Nat.le_of_ble_eq_true rfl) (Nat.le_of_ble_eq_true rfl) (co_v zf_17 ?_)
        replace zw := zw1
        refine vr_aload_n dX11_insertFence_79 rfl rfl ?_
        refine vr_getR dX11_insertFence_80 fl_LitmusTester_68 (wC_128 zw) (Or.inl ⟨_, rfl⟩) (wR_128_10 zw) ?_
        refine vr_iload_n dX11_insertFence_83 rfl rfl ?_
        obtain ⟨v20, s18, zw1, zf_19, zh⟩ := zh
        refine vc_S (As := [.int v3]) (rest := [.ref 179]) dX11_insertFence_84 cS_LitmusTester_295 rfl rfl (Nat.le_of_ble_eq_true rfl) (Nat.le_of_ble_eq_true rfl) (co_n zf_19 ?_)
        replace zw := zw1
        obtain ⟨s21, zw1, zf_22, zh⟩ := zh
        refine vc_V (As := [.int v20]) (rest := []) dX11_insertFence_87 cV_LitmusTester_298 (wC_179 zw) rfl rfl (Nat.le_of_ble_eq_true rfl) (Nat.le_of_ble_eq_true rfl) (co_v zf_22 ?_)
        replace zw := zw1
        refine vr_aload_n dX11_insertFence_90 rfl rfl ?_
        obtain ⟨s23, zw1, zf_24, zh⟩ := zh
        refine vc_V (As := []) (rest := []) dX11_insertFence_91 cV_LitmusTester_93 (wC_128 zw) rfl rfl (Nat.le_of_ble_eq_true rfl) (Nat.le_of_ble_eq_true rfl) (co_v zf_24 ?_)
        replace zw := zw1
        refine vr_iload_n dX11_insertFence_94 rfl rfl ?_
        exact vr_iret dX11_insertFence_95 rfl zh
      · replace zh := zh.2 zd_15
        exact vr_throwW dX11_insertFence_59 dX11_insertFence_62 dX11_insertFence_63 dX11_insertFence_66 dX11_insertFence_69 rfl th_LitmusTester_287_291 (i := 9) (by decide) rfl rfl (Nat.le_of_ble_eq_true rfl) (Nat.le_of_ble_eq_true rfl) zh
  · replace zh := zh.1 zd_4
    exact vr_throw dX11_insertFence_14 dX11_insertFence_17 dX11_insertFence_18 dX11_insertFence_20 dX11_insertFence_23 rfl th_LitmusTester_117_121 (i := 7) (by decide) rfl rfl (Nat.le_of_ble_eq_true rfl) (Nat.le_of_ble_eq_true rfl) zh
theorem e_X11_insertFence {γ : ga_T} {l1 : Int32} {σ : st_T} {Q : rs_T → st_T → Prop} (zw : Wd σ) (zh : p_X11_insertFence_0 γ l1 σ Q) : sp_ γ m_X11_insertFence 8 [.ref 128, .int l1] σ Q := sp_of (pl_X11_insertFence) rfl (Nat.le_of_ble_eq_true rfl) (g_X11_insertFence_0 zw zh)
def p_X11_removeFence_0 (γ : ga_T) (l1 : Int32) (σ : st_T) (Q : rs_T → st_T → Prop) : Prop :=
  ((
    ∃ s1, Wd s1 ∧ fw_ γ m_X11_requireInstruction 8 [.ref 128, .int l1] σ s1 ∧
    ((
      ∃ s3, Wd s3 ∧ fw_ γ m_X11_requireFence 8 [.ref 128, .int l1] s1 s3 ∧
      ∃ (v7 : Int32) (s5 : st_T), Wd s5 ∧ fn_ γ m_X7_property 0 [.ref 132, .int l1, .int (0 : Int32)] s3 (.int v7) s5 ∧
      ∃ (v10 : Int32) (s8 : st_T), Wd s8 ∧ fn_ γ m_X0_removed 0 [.int l1, .int v7] s5 (.int v10) s8 ∧
      ∃ s11, Wd s11 ∧ fw_ γ m_X0_add 1 [.ref 179, .int v10] s8 s11 ∧
      ∃ s13, Wd s13 ∧ fw_ γ m_X7_dropInstruction 1 [.ref 132, .int l1] s11 s13 ∧
      ∃ s15, Wd s15 ∧ fw_ γ m_X11_forgetWhatWasFound 2 [.ref 128] s13 s15 ∧
      ∃ (v19 : Int32) (s17 : st_T), Wd s17 ∧ fn_ γ m_X7_size 0 [.ref 132] s15 (.int v19) s17 ∧
      Q (.inl (some (.int v19))) s17
    ) ∨ (
      ∃ s20, Wd s20 ∧ ft_ γ m_X11_requireFence 8 [.ref 128, .int l1] s1 "java/util/NoSuchElementException" s20 ∧
      Q (.inr "java/util/NoSuchElementException") s20
    ))
  ) ∨ (
    ∃ s22, Wd s22 ∧ ft_ γ m_X11_requireInstruction 8 [.ref 128, .int l1] σ "java/lang/IndexOutOfBoundsException" s22 ∧
    Q (.inr "java/lang/IndexOutOfBoundsException") s22
  ))
set_option maxRecDepth 10000 in
theorem g_X11_removeFence_0 {γ : ga_T} {l1 : Int32} {σ : st_T} {Q : rs_T → st_T → Prop} (zw : Wd σ) (zh : p_X11_removeFence_0 γ l1 σ Q) : vv_ γ m_X11_removeFence 9 0 [(0, .ref 128), (1, .int l1)] [] σ Q := by
  unfold p_X11_removeFence_0 at zh
  refine vr_aload_n dX11_removeFence_0 rfl rfl ?_
  refine vr_iload_n dX11_removeFence_1 rfl rfl ?_
  rcases zh with zh | zh
  · obtain ⟨s1, zw1, zf_2, zh⟩ := zh
    refine vc_V (As := [.int l1]) (rest := []) dX11_removeFence_2 cV_LitmusTester_110 (wC_128 zw) rfl rfl (Nat.le_of_ble_eq_true rfl) (Nat.le_of_ble_eq_true rfl) (co_v zf_2 ?_)
    replace zw := zw1
    refine vr_aload_n dX11_removeFence_5 rfl rfl ?_
    refine vr_iload_n dX11_removeFence_6 rfl rfl ?_
    rcases zh with zh | zh
    · obtain ⟨s3, zw1, zf_4, zh⟩ := zh
      refine vc_V (As := [.int l1]) (rest := []) dX11_removeFence_7 cV_LitmusTester_282 (wC_128 zw) rfl rfl (Nat.le_of_ble_eq_true rfl) (Nat.le_of_ble_eq_true rfl) (co_v zf_4 ?_)
      replace zw := zw1
      refine vr_aload_n dX11_removeFence_10 rfl rfl ?_
      refine vr_getR dX11_removeFence_11 fl_LitmusTester_68 (wC_128 zw) (Or.inl ⟨_, rfl⟩) (wR_128_10 zw) ?_
      refine vr_iload_n dX11_removeFence_14 rfl rfl ?_
      refine vr_aload_n dX11_removeFence_15 rfl rfl ?_
      refine vr_getR dX11_removeFence_16 fl_LitmusTester_27 (wC_128 zw) (Or.inl ⟨_, rfl⟩) (wR_128_3 zw) ?_
      refine vr_iload_n dX11_removeFence_19 rfl rfl ?_
      refine vr_iconst dX11_removeFence_20 (v := (0 : Int32)) (by decide) ?_
      obtain ⟨v7, s5, zw1, zf_6, zh⟩ := zh
      refine vc_V (As := [.int l1, .int (0 : Int32)]) (rest := [.int l1, .ref 179]) dX11_removeFence_21 cV_LitmusTester_113 (wC_132 zw) rfl rfl (Nat.le_of_ble_eq_true rfl) (Nat.le_of_ble_eq_true rfl) (co_n zf_6 ?_)
      replace zw := zw1
      obtain ⟨v10, s8, zw1, zf_9, zh⟩ := zh
      refine vc_S (As := [.int l1, .int v7]) (rest := [.ref 179]) dX11_removeFence_24 cS_LitmusTester_301 rfl rfl (Nat.le_of_ble_eq_true rfl) (Nat.le_of_ble_eq_true rfl) (co_n zf_9 ?_)
      replace zw := zw1
      obtain ⟨s11, zw1, zf_12, zh⟩ := zh
      refine vc_V (As := [.int v10]) (rest := []) dX11_removeFence_27 cV_LitmusTester_298 (wC_179 zw) rfl rfl (Nat.le_of_ble_eq_true rfl) (Nat.le_of_ble_eq_true rfl) (co_v zf_12 ?_)
      replace zw := zw1
      refine vr_aload_n dX11_removeFence_30 rfl rfl ?_
      refine vr_getR dX11_removeFence_31 fl_LitmusTester_27 (wC_128 zw) (Or.inl ⟨_, rfl⟩) (wR_128_3 zw) ?_
      refine vr_iload_n dX11_removeFence_34 rfl rfl ?_
      obtain ⟨s13, zw1, zf_14, zh⟩ := zh
      refine vc_V (As := [.int l1]) (rest := []) dX11_removeFence_35 cV_LitmusTester_304 (wC_132 zw) rfl rfl (Nat.le_of_ble_eq_true rfl) (Nat.le_of_ble_eq_true rfl) (co_v zf_14 ?_)
      replace zw := zw1
      refine vr_aload_n dX11_removeFence_38 rfl rfl ?_
      obtain ⟨s15, zw1, zf_16, zh⟩ := zh
      refine vc_V (As := []) (rest := []) dX11_removeFence_39 cV_LitmusTester_93 (wC_128 zw) rfl rfl (Nat.le_of_ble_eq_true rfl) (Nat.le_of_ble_eq_true rfl) (co_v zf_16 ?_)
      replace zw := zw1
      refine vr_aload_n dX11_removeFence_42 rfl rfl ?_
      refine vr_getR dX11_removeFence_43 fl_LitmusTester_27 (wC_128 zw) (Or.inl ⟨_, rfl⟩) (wR_128_3 zw) ?_
      obtain ⟨v19, s17, zw1, zf_18, zh⟩ := zh
      refine vc_V (As := []) (rest := []) dX11_removeFence_46 cV_LitmusTester_96 (wC_132 zw) rfl rfl (Nat.le_of_ble_eq_true rfl) (Nat.le_of_ble_eq_true rfl) (co_n zf_18 ?_)
      replace zw := zw1
      exact vr_iret dX11_removeFence_49 rfl zh
    · obtain ⟨s20, zw1, zf_21, zh⟩ := zh
      exact vc_V (As := [.int l1]) (rest := []) dX11_removeFence_7 cV_LitmusTester_282 (wC_128 zw) rfl rfl (Nat.le_of_ble_eq_true rfl) (Nat.le_of_ble_eq_true rfl) (co_t zf_21 (vt_out rfl zh))
  · obtain ⟨s22, zw1, zf_23, zh⟩ := zh
    exact vc_V (As := [.int l1]) (rest := []) dX11_removeFence_2 cV_LitmusTester_110 (wC_128 zw) rfl rfl (Nat.le_of_ble_eq_true rfl) (Nat.le_of_ble_eq_true rfl) (co_t zf_23 (vt_out rfl zh))
theorem e_X11_removeFence {γ : ga_T} {l1 : Int32} {σ : st_T} {Q : rs_T → st_T → Prop} (zw : Wd σ) (zh : p_X11_removeFence_0 γ l1 σ Q) : sp_ γ m_X11_removeFence 9 [.ref 128, .int l1] σ Q := sp_of (pl_X11_removeFence) rfl (Nat.le_of_ble_eq_true rfl) (g_X11_removeFence_0 zw zh)
def p_X11_undo_0 (γ : ga_T) (σ : st_T) (Q : rs_T → st_T → Prop) : Prop :=
  ∃ (v3 : Int32) (s1 : st_T), Wd s1 ∧ fn_ γ m_X0_takeLatest 0 [.ref 179] σ (.int v3) s1 ∧
  (v3 = (-1 : Int32) →
    Q (.inl (some (.int (-1 : Int32)))) s1
  ) ∧ (¬ v3 = (-1 : Int32) →
    ∃ (v7 : Int32) (s5 : st_T), Wd s5 ∧ fn_ γ m_X0_isInsertion 0 [.int v3] s1 (.int v7) s5 ∧
    (v7 = (0 : Int32) →
      ∃ (v11 : Int32) (s9 : st_T), Wd s9 ∧ fn_ γ m_X0_place 0 [.int v3] s5 (.int v11) s9 ∧
      ∃ (v14 : Int32) (s12 : st_T), Wd s12 ∧ fn_ γ m_X0_thread 0 [.int v3] s9 (.int v14) s12 ∧
      ∃ s15, Wd s15 ∧ fw_ γ m_X7_putFence 1 [.ref 132, .int v11, .int v14] s12 s15 ∧
      ∃ s17, Wd s17 ∧ fw_ γ m_X11_forgetWhatWasFound 2 [.ref 128] s15 s17 ∧
      ∃ (v21 : Int32) (s19 : st_T), Wd s19 ∧ fn_ γ m_X0_size 0 [.ref 179] s17 (.int v21) s19 ∧
      Q (.inl (some (.int v21))) s19
    ) ∧ (¬ v7 = (0 : Int32) →
      ∃ (v24 : Int32) (s22 : st_T), Wd s22 ∧ fn_ γ m_X0_place 0 [.int v3] s5 (.int v24) s22 ∧
      ∃ s25, Wd s25 ∧ fw_ γ m_X7_dropInstruction 1 [.ref 132, .int v24] s22 s25 ∧
      ∃ s27, Wd s27 ∧ fw_ γ m_X11_forgetWhatWasFound 2 [.ref 128] s25 s27 ∧
      ∃ (v31 : Int32) (s29 : st_T), Wd s29 ∧ fn_ γ m_X0_size 0 [.ref 179] s27 (.int v31) s29 ∧
      Q (.inl (some (.int v31))) s29
    )
  )
set_option maxRecDepth 10000 in
theorem g_X11_undo_0 {γ : ga_T} {σ : st_T} {Q : rs_T → st_T → Prop} (zw : Wd σ) (zh : p_X11_undo_0 γ σ Q) : vv_ γ m_X11_undo 3 0 [(0, .ref 128)] [] σ Q := by
  unfold p_X11_undo_0 at zh
  refine vr_aload_n dX11_undo_0 rfl rfl ?_
  refine vr_getR dX11_undo_1 fl_LitmusTester_68 (wC_128 zw) (Or.inl ⟨_, rfl⟩) (wR_128_10 zw) ?_
  obtain ⟨v3, s1, zw1, zf_2, zh⟩ := zh
  refine vc_V (As := []) (rest := []) dX11_undo_4 cV_LitmusTester_307 (wC_179 zw) rfl rfl (Nat.le_of_ble_eq_true rfl) (Nat.le_of_ble_eq_true rfl) (co_n zf_2 ?_)
  replace zw := zw1
  refine vr_istore_n dX11_undo_7 rfl (Nat.le_of_ble_eq_true rfl) (vv_eq (ls' := [(0, .ref 128), (1, .int v3)]) rfl ?_)
  refine vr_iload_n dX11_undo_8 rfl rfl ?_
  refine vr_iconst dX11_undo_9 (v := (-1 : Int32)) (by decide) ?_
  refine vr_ic_ne dX11_undo_10 (tgt := 15) rfl (fun zd_4 => ?_) (fun zd_4 => ?_)
  · replace zh := zh.2 zd_4
    refine vr_iload_n dX11_undo_15 rfl rfl ?_
    obtain ⟨v7, s5, zw1, zf_6, zh⟩ := zh
    refine vc_S (As := [.int v3]) (rest := []) dX11_undo_16 cS_LitmusTester_310 rfl rfl (Nat.le_of_ble_eq_true rfl) (Nat.le_of_ble_eq_true rfl) (co_n zf_6 ?_)
    replace zw := zw1
    refine vr_if_eq dX11_undo_19 (tgt := 36) rfl (fun zd_8 => ?_) (fun zd_8 => ?_)
    · replace zh := zh.1 zd_8
      refine vr_aload_n dX11_undo_36 rfl rfl ?_
      refine vr_getR dX11_undo_37 fl_LitmusTester_27 (wC_128 zw) (Or.inl ⟨_, rfl⟩) (wR_128_3 zw) ?_
      refine vr_iload_n dX11_undo_40 rfl rfl ?_
      obtain ⟨v11, s9, zw1, zf_10, zh⟩ := zh
      refine vc_S (As := [.int v3]) (rest := [.ref 132]) dX11_undo_41 cS_LitmusTester_313 rfl rfl (Nat.le_of_ble_eq_true rfl) (Nat.le_of_ble_eq_true rfl) (co_n zf_10 ?_)
      replace zw := zw1
      refine vr_iload_n dX11_undo_44 rfl rfl ?_
      obtain ⟨v14, s12, zw1, zf_13, zh⟩ := zh
      refine vc_S (As := [.int v3]) (rest := [.int v11, .ref 132]) dX11_undo_45 cS_LitmusTester_316 rfl rfl (Nat.le_of_ble_eq_true rfl) (Nat.le_of_ble_eq_true rfl) (co_n zf_13 ?_)
      replace zw := zw1
      obtain ⟨s15, zw1, zf_16, zh⟩ := zh
      refine vc_V (As := [.int v11, .int v14]) (rest := []) dX11_undo_48 cV_LitmusTester_292 (wC_132 zw) rfl rfl (Nat.le_of_ble_eq_true rfl) (Nat.le_of_ble_eq_true rfl) (co_v zf_16 ?_)
      replace zw := zw1
      refine vr_aload_n dX11_undo_51 rfl rfl ?_
      obtain ⟨s17, zw1, zf_18, zh⟩ := zh
      refine vc_V (As := []) (rest := []) dX11_undo_52 cV_LitmusTester_93 (wC_128 zw) rfl rfl (Nat.le_of_ble_eq_true rfl) (Nat.le_of_ble_eq_true rfl) (co_v zf_18 ?_)
      replace zw := zw1
      refine vr_aload_n dX11_undo_55 rfl rfl ?_
      refine vr_getR dX11_undo_56 fl_LitmusTester_68 (wC_128 zw) (Or.inl ⟨_, rfl⟩) (wR_128_10 zw) ?_
      obtain ⟨v21, s19, zw1, zf_20, zh⟩ := zh
      refine vc_V (As := []) (rest := []) dX11_undo_59 cV_LitmusTester_318 (wC_179 zw) rfl rfl (Nat.le_of_ble_eq_true rfl) (Nat.le_of_ble_eq_true rfl) (co_n zf_20 ?_)
      replace zw := zw1
      exact vr_iret dX11_undo_62 rfl zh
    · replace zh := zh.2 zd_8
      refine vr_aload_n dX11_undo_22 rfl rfl ?_
      refine vr_getR dX11_undo_23 fl_LitmusTester_27 (wC_128 zw) (Or.inl ⟨_, rfl⟩) (wR_128_3 zw) ?_
      refine vr_iload_n dX11_undo_26 rfl rfl ?_
      obtain ⟨v24, s22, zw1, zf_23, zh⟩ := zh
      refine vc_S (As := [.int v3]) (rest := [.ref 132]) dX11_undo_27 cS_LitmusTester_313 rfl rfl (Nat.le_of_ble_eq_true rfl) (Nat.le_of_ble_eq_true rfl) (co_n zf_23 ?_)
      replace zw := zw1
      obtain ⟨s25, zw1, zf_26, zh⟩ := zh
      refine vc_V (As := [.int v24]) (rest := []) dX11_undo_30 cV_LitmusTester_304 (wC_132 zw) rfl rfl (Nat.le_of_ble_eq_true rfl) (Nat.le_of_ble_eq_true rfl) (co_v zf_26 ?_)
      replace zw := zw1
      refine vr_goto dX11_undo_33 (tgt := 51) rfl ?_
      refine vr_aload_n dX11_undo_51 rfl rfl ?_
      obtain ⟨s27, zw1, zf_28, zh⟩ := zh
      refine vc_V (As := []) (rest := []) dX11_undo_52 cV_LitmusTester_93 (wC_128 zw) rfl rfl (Nat.le_of_ble_eq_true rfl) (Nat.le_of_ble_eq_true rfl) (co_v zf_28 ?_)
      replace zw := zw1
      refine vr_aload_n dX11_undo_55 rfl rfl ?_
      refine vr_getR dX11_undo_56 fl_LitmusTester_68 (wC_128 zw) (Or.inl ⟨_, rfl⟩) (wR_128_10 zw) ?_
      obtain ⟨v31, s29, zw1, zf_30, zh⟩ := zh
      refine vc_V (As := []) (rest := []) dX11_undo_59 cV_LitmusTester_318 (wC_179 zw) rfl rfl (Nat.le_of_ble_eq_true rfl) (Nat.le_of_ble_eq_true rfl) (co_n zf_30 ?_)
      replace zw := zw1
      exact vr_iret dX11_undo_62 rfl zh
  · replace zh := zh.1 zd_4
    refine vr_iconst dX11_undo_13 (v := (-1 : Int32)) (by decide) ?_
    exact vr_iret dX11_undo_14 rfl zh
theorem e_X11_undo {γ : ga_T} {σ : st_T} {Q : rs_T → st_T → Prop} (zw : Wd σ) (zh : p_X11_undo_0 γ σ Q) : sp_ γ m_X11_undo 3 [.ref 128] σ Q := sp_of (pl_X11_undo) rfl (Nat.le_of_ble_eq_true rfl) (g_X11_undo_0 zw zh)
def p_X11_explain_0 (γ : ga_T) (l1 : Int32) (l2 : Int32) (σ : st_T) (Q : rs_T → st_T → Prop) : Prop :=
  ((
    ∃ s1, Wd s1 ∧ fw_ γ m_X11_requireModel 8 [.ref 128, .int l1] σ s1 ∧
    ∃ (v5 : Nat) (s3 : st_T), Wd s3 ∧ fn_ γ m_X11_findings 5 [.ref 128, .int l1] s1 (.ref v5) s3 ∧
    is_fi v5 ∧
    ∃ (v9 : Int32) (s7 : st_T), Wd s7 ∧ fn_ γ m_X3_placeOf 1 [.ref v5, .int l2] s3 (.int v9) s7 ∧
    (v9 = (-1 : Int32) →
      Q (.inl (some (.int (-1 : Int32)))) s7
    ) ∧ (¬ v9 = (-1 : Int32) →
      ∃ (v13 : Int32) (s11 : st_T), Wd s11 ∧ fn_ γ m_X2_findFirst 81 [.ref 147, .int l1, .int l2, .ref 181] s7 (.int v13) s11 ∧
      (v13 = (0 : Int32) →
        Q (.inl (some (.int (-1 : Int32)))) s11
      ) ∧ (¬ v13 = (0 : Int32) →
        ∃ (v17 : Int32) (s15 : st_T), Wd s15 ∧ fn_ γ m_X1_size 0 [.ref 181] s11 (.int v17) s15 ∧
        Q (.inl (some (.int v17))) s15
      )
    )
  ) ∨ (
    ∃ s18, Wd s18 ∧ ft_ γ m_X11_requireModel 8 [.ref 128, .int l1] σ "java/lang/IllegalArgumentException" s18 ∧
    Q (.inr "java/lang/IllegalArgumentException") s18
  ))
set_option maxRecDepth 10000 in
theorem g_X11_explain_0 {γ : ga_T} {l1 : Int32} {l2 : Int32} {σ : st_T} {Q : rs_T → st_T → Prop} (zw : Wd σ) (zh : p_X11_explain_0 γ l1 l2 σ Q) : vv_ γ m_X11_explain 82 0 [(0, .ref 128), (1, .int l1), (2, .int l2)] [] σ Q := by
  unfold p_X11_explain_0 at zh
  refine vr_aload_n dX11_explain_0 rfl rfl ?_
  refine vr_iload_n dX11_explain_1 rfl rfl ?_
  rcases zh with zh | zh
  · obtain ⟨s1, zw1, zf_2, zh⟩ := zh
    refine vc_V (As := [.int l1]) (rest := []) dX11_explain_2 cV_LitmusTester_189 (wC_128 zw) rfl rfl (Nat.le_of_ble_eq_true rfl) (Nat.le_of_ble_eq_true rfl) (co_v zf_2 ?_)
    replace zw := zw1
    refine vr_aload_n dX11_explain_5 rfl rfl ?_
    refine vr_iload_n dX11_explain_6 rfl rfl ?_
    obtain ⟨v5, s3, zw1, zf_4, zh⟩ := zh
    refine vc_V (As := [.int l1]) (rest := []) dX11_explain_7 cV_LitmusTester_192 (wC_128 zw) rfl rfl (Nat.le_of_ble_eq_true rfl) (Nat.le_of_ble_eq_true rfl) (co_n zf_4 ?_)
    replace zw := zw1
    refine vr_iload_n dX11_explain_10 rfl rfl ?_
    obtain ⟨zc_6, zh⟩ := zh
    obtain ⟨v9, s7, zw1, zf_8, zh⟩ := zh
    refine vc_V (As := [.int l2]) (rest := []) dX11_explain_11 cV_LitmusTester_199 (wC_fi zw zc_6) rfl rfl (Nat.le_of_ble_eq_true rfl) (Nat.le_of_ble_eq_true rfl) (co_n zf_8 ?_)
    replace zw := zw1
    refine vr_iconst dX11_explain_14 (v := (-1 : Int32)) (by decide) ?_
    refine vr_ic_eq dX11_explain_15 (tgt := 38) rfl (fun zd_10 => ?_) (fun zd_10 => ?_)
    · replace zh := zh.1 zd_10
      refine vr_iconst dX11_explain_38 (v := (0 : Int32)) (by decide) ?_
      refine vr_istore_n dX11_explain_39 rfl (Nat.le_of_ble_eq_true rfl) (vv_eq (ls' := [(0, .ref 128), (1, .int l1), (2, .int l2), (3, .int (0 : Int32))]) rfl ?_)
      refine vr_iload_n dX11_explain_40 rfl rfl ?_
      refine vr_if_eq dX11_explain_41 (tgt := 54) rfl (fun _ => ?_) (fun c => absurd (by decide) c)
      refine vr_iconst dX11_explain_54 (v := (-1 : Int32)) (by decide) ?_
      exact vr_iret dX11_explain_55 rfl zh
    · replace zh := zh.2 zd_10
      refine vr_aload_n dX11_explain_18 rfl rfl ?_
      refine vr_getR dX11_explain_19 fl_LitmusTester_48 (wC_128 zw) (Or.inl ⟨_, rfl⟩) (wR_128_6 zw) ?_
      refine vr_iload_n dX11_explain_22 rfl rfl ?_
      refine vr_iload_n dX11_explain_23 rfl rfl ?_
      refine vr_aload_n dX11_explain_24 rfl rfl ?_
      refine vr_getR dX11_explain_25 fl_LitmusTester_75 (wC_128 zw) (Or.inl ⟨_, rfl⟩) (wR_128_11 zw) ?_
      obtain ⟨v13, s11, zw1, zf_12, zh⟩ := zh
      refine vc_V (As := [.int l1, .int l2, .ref 181]) (rest := []) dX11_explain_28 cV_LitmusTester_319 (wC_147 zw) rfl rfl (Nat.le_of_ble_eq_true rfl) (Nat.le_of_ble_eq_true rfl) (co_n zf_12 ?_)
      replace zw := zw1
      refine vr_if_eq dX11_explain_31 (tgt := 38) rfl (fun zd_14 => ?_) (fun zd_14 => ?_)
      · replace zh := zh.1 zd_14
        refine vr_iconst dX11_explain_38 (v := (0 : Int32)) (by decide) ?_
        refine vr_istore_n dX11_explain_39 rfl (Nat.le_of_ble_eq_true rfl) (vv_eq (ls' := [(0, .ref 128), (1, .int l1), (2, .int l2), (3, .int (0 : Int32))]) rfl ?_)
        refine vr_iload_n dX11_explain_40 rfl rfl ?_
        refine vr_if_eq dX11_explain_41 (tgt := 54) rfl (fun _ => ?_) (fun c => absurd (by decide) c)
        refine vr_iconst dX11_explain_54 (v := (-1 : Int32)) (by decide) ?_
        exact vr_iret dX11_explain_55 rfl zh
      · replace zh := zh.2 zd_14
        refine vr_iconst dX11_explain_34 (v := (1 : Int32)) (by decide) ?_
        refine vr_goto dX11_explain_35 (tgt := 39) rfl ?_
        refine vr_istore_n dX11_explain_39 rfl (Nat.le_of_ble_eq_true rfl) (vv_eq (ls' := [(0, .ref 128), (1, .int l1), (2, .int l2), (3, .int (1 : Int32))]) rfl ?_)
        refine vr_iload_n dX11_explain_40 rfl rfl ?_
        refine vr_if_eq dX11_explain_41 (tgt := 54) rfl (fun c => absurd c (by decide)) (fun _ => ?_)
        refine vr_aload_n dX11_explain_44 rfl rfl ?_
        refine vr_getR dX11_explain_45 fl_LitmusTester_75 (wC_128 zw) (Or.inl ⟨_, rfl⟩) (wR_128_11 zw) ?_
        obtain ⟨v17, s15, zw1, zf_16, zh⟩ := zh
        refine vc_V (As := []) (rest := []) dX11_explain_48 cV_LitmusTester_323 (wC_181 zw) rfl rfl (Nat.le_of_ble_eq_true rfl) (Nat.le_of_ble_eq_true rfl) (co_n zf_16 ?_)
        replace zw := zw1
        refine vr_goto dX11_explain_51 (tgt := 55) rfl ?_
        exact vr_iret dX11_explain_55 rfl zh
  · obtain ⟨s18, zw1, zf_19, zh⟩ := zh
    exact vc_V (As := [.int l1]) (rest := []) dX11_explain_2 cV_LitmusTester_189 (wC_128 zw) rfl rfl (Nat.le_of_ble_eq_true rfl) (Nat.le_of_ble_eq_true rfl) (co_t zf_19 (vt_out rfl zh))
theorem e_X11_explain {γ : ga_T} {l1 : Int32} {l2 : Int32} {σ : st_T} {Q : rs_T → st_T → Prop} (zw : Wd σ) (zh : p_X11_explain_0 γ l1 l2 σ Q) : sp_ γ m_X11_explain 82 [.ref 128, .int l1, .int l2] σ Q := sp_of (pl_X11_explain) rfl (Nat.le_of_ble_eq_true rfl) (g_X11_explain_0 zw zh)
def p_X11_step_0 (γ : ga_T) (l1 : Int32) (σ : st_T) (Q : rs_T → st_T → Prop) : Prop :=
  ∃ (v3 : Int32) (s1 : st_T), Wd s1 ∧ fn_ γ m_X1_stepAt 0 [.ref 181, .int l1] σ (.int v3) s1 ∧
  Q (.inl (some (.int v3))) s1
set_option maxRecDepth 10000 in
theorem g_X11_step_0 {γ : ga_T} {l1 : Int32} {σ : st_T} {Q : rs_T → st_T → Prop} (zw : Wd σ) (zh : p_X11_step_0 γ l1 σ Q) : vv_ γ m_X11_step 1 0 [(0, .ref 128), (1, .int l1)] [] σ Q := by
  unfold p_X11_step_0 at zh
  refine vr_aload_n dX11_step_0 rfl rfl ?_
  refine vr_getR dX11_step_1 fl_LitmusTester_75 (wC_128 zw) (Or.inl ⟨_, rfl⟩) (wR_128_11 zw) ?_
  refine vr_iload_n dX11_step_4 rfl rfl ?_
  obtain ⟨v3, s1, zw1, zf_2, zh⟩ := zh
  refine vc_V (As := [.int l1]) (rest := []) dX11_step_5 cV_LitmusTester_324 (wC_181 zw) rfl rfl (Nat.le_of_ble_eq_true rfl) (Nat.le_of_ble_eq_true rfl) (co_n zf_2 ?_)
  replace zw := zw1
  exact vr_iret dX11_step_8 rfl zh
theorem e_X11_step {γ : ga_T} {l1 : Int32} {σ : st_T} {Q : rs_T → st_T → Prop} (zw : Wd σ) (zh : p_X11_step_0 γ l1 σ Q) : sp_ γ m_X11_step 1 [.ref 128, .int l1] σ Q := sp_of (pl_X11_step) rfl (Nat.le_of_ble_eq_true rfl) (g_X11_step_0 zw zh)
def p_X11_readsFrom_0 (γ : ga_T) (l1 : Int32) (σ : st_T) (Q : rs_T → st_T → Prop) : Prop :=
  ((
    ∃ s1, Wd s1 ∧ fw_ γ m_X11_requireInstruction 8 [.ref 128, .int l1] σ s1 ∧
    ∃ (v5 : Int32) (s3 : st_T), Wd s3 ∧ fn_ γ m_X7_property 0 [.ref 132, .int l1, .int (3 : Int32)] s1 (.int v5) s3 ∧
    (v5 = (-1 : Int32) →
      Q (.inr "java/util/NoSuchElementException") (pt_X s3 1 6)
    ) ∧ (¬ v5 = (-1 : Int32) →
      ∃ (v9 : Int32) (s7 : st_T), Wd s7 ∧ fn_ γ m_X1_isPresent 0 [.ref 181] s3 (.int v9) s7 ∧
      (v9 = (0 : Int32) →
        Q (.inr "java/util/NoSuchElementException") (pt_X s7 1 6)
      ) ∧ (¬ v9 = (0 : Int32) →
        ∃ (v13 : Int32) (s11 : st_T), Wd s11 ∧ fn_ γ m_X1_originOf 0 [.ref 181, .int l1] s7 (.int v13) s11 ∧
        Q (.inl (some (.int v13))) s11
      )
    )
  ) ∨ (
    ∃ s14, Wd s14 ∧ ft_ γ m_X11_requireInstruction 8 [.ref 128, .int l1] σ "java/lang/IndexOutOfBoundsException" s14 ∧
    Q (.inr "java/lang/IndexOutOfBoundsException") s14
  ))
set_option maxRecDepth 10000 in
theorem g_X11_readsFrom_0 {γ : ga_T} {l1 : Int32} {σ : st_T} {Q : rs_T → st_T → Prop} (zw : Wd σ) (zh : p_X11_readsFrom_0 γ l1 σ Q) : vv_ γ m_X11_readsFrom 9 0 [(0, .ref 128), (1, .int l1)] [] σ Q := by
  unfold p_X11_readsFrom_0 at zh
  refine vr_aload_n dX11_readsFrom_0 rfl rfl ?_
  refine vr_iload_n dX11_readsFrom_1 rfl rfl ?_
  rcases zh with zh | zh
  · obtain ⟨s1, zw1, zf_2, zh⟩ := zh
    refine vc_V (As := [.int l1]) (rest := []) dX11_readsFrom_2 cV_LitmusTester_110 (wC_128 zw) rfl rfl (Nat.le_of_ble_eq_true rfl) (Nat.le_of_ble_eq_true rfl) (co_v zf_2 ?_)
    replace zw := zw1
    refine vr_aload_n dX11_readsFrom_5 rfl rfl ?_
    refine vr_getR dX11_readsFrom_6 fl_LitmusTester_27 (wC_128 zw) (Or.inl ⟨_, rfl⟩) (wR_128_3 zw) ?_
    refine vr_iload_n dX11_readsFrom_9 rfl rfl ?_
    refine vr_iconst dX11_readsFrom_10 (v := (3 : Int32)) (by decide) ?_
    obtain ⟨v5, s3, zw1, zf_4, zh⟩ := zh
    refine vc_V (As := [.int l1, .int (3 : Int32)]) (rest := []) dX11_readsFrom_11 cV_LitmusTester_113 (wC_132 zw) rfl rfl (Nat.le_of_ble_eq_true rfl) (Nat.le_of_ble_eq_true rfl) (co_n zf_4 ?_)
    replace zw := zw1
    refine vr_iconst dX11_readsFrom_14 (v := (-1 : Int32)) (by decide) ?_
    refine vr_ic_eq dX11_readsFrom_15 (tgt := 28) rfl (fun zd_6 => ?_) (fun zd_6 => ?_)
    · replace zh := zh.1 zd_6
      exact vr_throwNW dX11_readsFrom_28 dX11_readsFrom_31 dX11_readsFrom_32 dX11_readsFrom_35 dX11_readsFrom_38 rfl th_LitmusTester_157_161 (i := 10) (by decide) rfl rfl (Nat.le_of_ble_eq_true rfl) (Nat.le_of_ble_eq_true rfl) zh
    · replace zh := zh.2 zd_6
      refine vr_aload_n dX11_readsFrom_18 rfl rfl ?_
      refine vr_getR dX11_readsFrom_19 fl_LitmusTester_75 (wC_128 zw) (Or.inl ⟨_, rfl⟩) (wR_128_11 zw) ?_
      obtain ⟨v9, s7, zw1, zf_8, zh⟩ := zh
      refine vc_V (As := []) (rest := []) dX11_readsFrom_22 cV_LitmusTester_327 (wC_181 zw) rfl rfl (Nat.le_of_ble_eq_true rfl) (Nat.le_of_ble_eq_true rfl) (co_n zf_8 ?_)
      replace zw := zw1
      refine vr_if_ne dX11_readsFrom_25 (tgt := 39) rfl (fun zd_10 => ?_) (fun zd_10 => ?_)
      · replace zh := zh.2 zd_10
        refine vr_aload_n dX11_readsFrom_39 rfl rfl ?_
        refine vr_getR dX11_readsFrom_40 fl_LitmusTester_75 (wC_128 zw) (Or.inl ⟨_, rfl⟩) (wR_128_11 zw) ?_
        refine vr_iload_n dX11_readsFrom_43 rfl rfl ?_
        obtain ⟨v13, s11, zw1, zf_12, zh⟩ := zh
        refine vc_V (As := [.int l1]) (rest := []) dX11_readsFrom_44 cV_LitmusTester_332 (wC_181 zw) rfl rfl (Nat.le_of_ble_eq_true rfl) (Nat.le_of_ble_eq_true rfl) (co_n zf_12 ?_)
        replace zw := zw1
        exact vr_iret dX11_readsFrom_47 rfl zh
      · replace zh := zh.1 zd_10
        exact vr_throwNW dX11_readsFrom_28 dX11_readsFrom_31 dX11_readsFrom_32 dX11_readsFrom_35 dX11_readsFrom_38 rfl th_LitmusTester_157_161 (i := 10) (by decide) rfl rfl (Nat.le_of_ble_eq_true rfl) (Nat.le_of_ble_eq_true rfl) zh
  · obtain ⟨s14, zw1, zf_15, zh⟩ := zh
    exact vc_V (As := [.int l1]) (rest := []) dX11_readsFrom_2 cV_LitmusTester_110 (wC_128 zw) rfl rfl (Nat.le_of_ble_eq_true rfl) (Nat.le_of_ble_eq_true rfl) (co_t zf_15 (vt_out rfl zh))
theorem e_X11_readsFrom {γ : ga_T} {l1 : Int32} {σ : st_T} {Q : rs_T → st_T → Prop} (zw : Wd σ) (zh : p_X11_readsFrom_0 γ l1 σ Q) : sp_ γ m_X11_readsFrom 9 [.ref 128, .int l1] σ Q := sp_of (pl_X11_readsFrom) rfl (Nat.le_of_ble_eq_true rfl) (g_X11_readsFrom_0 zw zh)
def p_X11_writtenBy_0 (γ : ga_T) (l1 : Int32) (l2 : Int32) (σ : st_T) (Q : rs_T → st_T → Prop) : Prop :=
  ((
    ∃ s1, Wd s1 ∧ fw_ γ m_X11_requireLocation 8 [.ref 128, .int l1] σ s1 ∧
    ∃ (v5 : Int32) (s3 : st_T), Wd s3 ∧ fn_ γ m_X1_writerAt 1 [.ref 181, .int l1, .int l2] s1 (.int v5) s3 ∧
    Q (.inl (some (.int v5))) s3
  ) ∨ (
    ∃ s6, Wd s6 ∧ ft_ γ m_X11_requireLocation 8 [.ref 128, .int l1] σ "java/lang/IndexOutOfBoundsException" s6 ∧
    Q (.inr "java/lang/IndexOutOfBoundsException") s6
  ))
set_option maxRecDepth 10000 in
theorem g_X11_writtenBy_0 {γ : ga_T} {l1 : Int32} {l2 : Int32} {σ : st_T} {Q : rs_T → st_T → Prop} (zw : Wd σ) (zh : p_X11_writtenBy_0 γ l1 l2 σ Q) : vv_ γ m_X11_writtenBy 9 0 [(0, .ref 128), (1, .int l1), (2, .int l2)] [] σ Q := by
  unfold p_X11_writtenBy_0 at zh
  refine vr_aload_n dX11_writtenBy_0 rfl rfl ?_
  refine vr_iload_n dX11_writtenBy_1 rfl rfl ?_
  rcases zh with zh | zh
  · obtain ⟨s1, zw1, zf_2, zh⟩ := zh
    refine vc_V (As := [.int l1]) (rest := []) dX11_writtenBy_2 cV_LitmusTester_223 (wC_128 zw) rfl rfl (Nat.le_of_ble_eq_true rfl) (Nat.le_of_ble_eq_true rfl) (co_v zf_2 ?_)
    replace zw := zw1
    refine vr_aload_n dX11_writtenBy_5 rfl rfl ?_
    refine vr_getR dX11_writtenBy_6 fl_LitmusTester_75 (wC_128 zw) (Or.inl ⟨_, rfl⟩) (wR_128_11 zw) ?_
    refine vr_iload_n dX11_writtenBy_9 rfl rfl ?_
    refine vr_iload_n dX11_writtenBy_10 rfl rfl ?_
    obtain ⟨v5, s3, zw1, zf_4, zh⟩ := zh
    refine vc_V (As := [.int l1, .int l2]) (rest := []) dX11_writtenBy_11 cV_LitmusTester_335 (wC_181 zw) rfl rfl (Nat.le_of_ble_eq_true rfl) (Nat.le_of_ble_eq_true rfl) (co_n zf_4 ?_)
    replace zw := zw1
    exact vr_iret dX11_writtenBy_14 rfl zh
  · obtain ⟨s6, zw1, zf_7, zh⟩ := zh
    exact vc_V (As := [.int l1]) (rest := []) dX11_writtenBy_2 cV_LitmusTester_223 (wC_128 zw) rfl rfl (Nat.le_of_ble_eq_true rfl) (Nat.le_of_ble_eq_true rfl) (co_t zf_7 (vt_out rfl zh))
theorem e_X11_writtenBy {γ : ga_T} {l1 : Int32} {l2 : Int32} {σ : st_T} {Q : rs_T → st_T → Prop} (zw : Wd σ) (zh : p_X11_writtenBy_0 γ l1 l2 σ Q) : sp_ γ m_X11_writtenBy 9 [.ref 128, .int l1, .int l2] σ Q := sp_of (pl_X11_writtenBy) rfl (Nat.le_of_ble_eq_true rfl) (g_X11_writtenBy_0 zw zh)
