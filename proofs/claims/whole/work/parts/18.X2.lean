def p_X2_explore_0 (γ : ga_T) (l1 : Int32) (l2 : Int32) (σ : st_T) (Q : rs_T → st_T → Prop) : Prop :=
  ∃ s1, Wd s1 ∧ fw_ γ m_X4_prepare 3 [.ref 153, .int l1, .int l2] σ s1 ∧
  ∃ s3, Wd s3 ∧ fw_ γ m_X9_clear 1 [.ref 148] s1 s3 ∧
  ∃ (v7 : Int64) (s5 : st_T), Wd s5 ∧ fn_ γ m_X4_start 0 [.ref 153] s3 (.long v7) s5 ∧
  ∃ s8, Wd s8 ∧ fw_ γ m_X9_add 3 [.ref 148, .long v7, .long (1 : Int64)] s5 s8 ∧
  vv_ γ m_X2_explore 4 33 [(0, .ref 147), (3, .int (0 : Int32))] [] s8 Q
set_option maxRecDepth 10000 in
theorem g_X2_explore_0 {γ : ga_T} {l1 : Int32} {l2 : Int32} {σ : st_T} {Q : rs_T → st_T → Prop} (zw : Wd σ) (zh : p_X2_explore_0 γ l1 l2 σ Q) : vv_ γ m_X2_explore 4 0 [(0, .ref 147), (1, .int l1), (2, .int l2)] [] σ Q := by
  unfold p_X2_explore_0 at zh
  refine vr_aload_n dX2_explore_0 rfl rfl ?_
  refine vr_getR dX2_explore_1 fl_LitmusTester_Explorer_31 (wC_147 zw) (Or.inl ⟨_, rfl⟩) (wR_147_1 zw) ?_
  refine vr_iload_n dX2_explore_4 rfl rfl ?_
  refine vr_iload_n dX2_explore_5 rfl rfl ?_
  obtain ⟨s1, zw1, zf_2, zh⟩ := zh
  refine vc_V (As := [.int l1, .int l2]) (rest := []) dX2_explore_6 cV_LitmusTester_Explorer_35 (wC_153 zw) rfl rfl (Nat.le_of_ble_eq_true rfl) (Nat.le_of_ble_eq_true rfl) (co_v zf_2 ?_)
  replace zw := zw1
  refine vr_aload_n dX2_explore_9 rfl rfl ?_
  refine vr_getR dX2_explore_10 fl_LitmusTester_Explorer_12 (wC_147 zw) (Or.inl ⟨_, rfl⟩) (wR_147_2 zw) ?_
  obtain ⟨s3, zw1, zf_4, zh⟩ := zh
  refine vc_V (As := []) (rest := []) dX2_explore_13 cV_LitmusTester_Explorer_39 (wC_148 zw) rfl rfl (Nat.le_of_ble_eq_true rfl) (Nat.le_of_ble_eq_true rfl) (co_v zf_4 ?_)
  replace zw := zw1
  refine vr_aload_n dX2_explore_16 rfl rfl ?_
  refine vr_getR dX2_explore_17 fl_LitmusTester_Explorer_12 (wC_147 zw) (Or.inl ⟨_, rfl⟩) (wR_147_2 zw) ?_
  refine vr_aload_n dX2_explore_20 rfl rfl ?_
  refine vr_getR dX2_explore_21 fl_LitmusTester_Explorer_31 (wC_147 zw) (Or.inl ⟨_, rfl⟩) (wR_147_1 zw) ?_
  obtain ⟨v7, s5, zw1, zf_6, zh⟩ := zh
  refine vc_V (As := []) (rest := [.ref 148]) dX2_explore_24 cV_LitmusTester_Explorer_42 (wC_153 zw) rfl rfl (Nat.le_of_ble_eq_true rfl) (Nat.le_of_ble_eq_true rfl) (co_n zf_6 ?_)
  replace zw := zw1
  refine vr_lconst dX2_explore_27 (v := (1 : Int64)) (by decide) ?_
  obtain ⟨s8, zw1, zf_9, zh⟩ := zh
  refine vc_V (As := [.long v7, .long (1 : Int64)]) (rest := []) dX2_explore_28 cV_LitmusTester_Explorer_46 (wC_148 zw) rfl rfl (Nat.le_of_ble_eq_true rfl) (Nat.le_of_ble_eq_true rfl) (co_v zf_9 ?_)
  replace zw := zw1
  refine vr_iconst dX2_explore_31 (v := (0 : Int32)) (by decide) ?_
  refine vr_istore_n dX2_explore_32 rfl (Nat.le_of_ble_eq_true rfl) (vv_eq (ls' := [(0, .ref 147), (1, .int l1), (2, .int l2), (3, .int (0 : Int32))]) rfl ?_)
  exact vv_sub (ls' := [(0, .ref 147), (3, .int (0 : Int32))]) ⟨rfl, rfl, trivial⟩ zh
theorem e_X2_explore {γ : ga_T} {l1 : Int32} {l2 : Int32} {σ : st_T} {Q : rs_T → st_T → Prop} (zw : Wd σ) (zh : p_X2_explore_0 γ l1 l2 σ Q) : sp_ γ m_X2_explore 4 [.ref 147, .int l1, .int l2] σ Q := sp_of (pl_X2_explore) rfl (Nat.le_of_ble_eq_true rfl) (g_X2_explore_0 zw zh)
def p_X2_explore_33 (γ : ga_T) (l3 : Int32) (σ : st_T) (Q : rs_T → st_T → Prop) : Prop :=
  ((1048576 : Int32) ≤ l3 →
    Q (.inl none) σ
  ) ∧ (¬ (1048576 : Int32) ≤ l3 →
    ∃ (v4 : Int32) (s2 : st_T), Wd s2 ∧ fn_ γ m_X9_size 0 [.ref 148] σ (.int v4) s2 ∧
    (v4 ≤ l3 →
      Q (.inl none) s2
    ) ∧ (¬ v4 ≤ l3 →
      ∃ (v8 : Int64) (s6 : st_T), Wd s6 ∧ fn_ γ m_X9_stateAt 0 [.ref 148, .int l3] s2 (.long v8) s6 ∧
      ∃ (v11 : Int64) (s9 : st_T), Wd s9 ∧ fn_ γ m_X9_waysAt 0 [.ref 148, .int l3] s6 (.long v11) s9 ∧
      vv_ γ m_X2_explore 4 73 [(0, .ref 147), (3, .int l3), (4, .long v8), (6, .long v11), (8, .int (0 : Int32))] [] s9 Q
    )
  )
set_option maxRecDepth 10000 in
theorem g_X2_explore_33 {γ : ga_T} {l3 : Int32} {σ : st_T} {Q : rs_T → st_T → Prop} (zw : Wd σ) (zh : p_X2_explore_33 γ l3 σ Q) : vv_ γ m_X2_explore 4 33 [(0, .ref 147), (3, .int l3)] [] σ Q := by
  unfold p_X2_explore_33 at zh
  refine vr_iload_n dX2_explore_33 rfl rfl ?_
  refine vr_ldc dX2_explore_34 (v := (1048576 : Int32)) tw_1215 ?_
  refine vr_ic_ge dX2_explore_36 (tgt := 161) rfl (fun zd_1 => ?_) (fun zd_1 => ?_)
  · replace zh := zh.1 zd_1
    exact vr_vret dX2_explore_161 rfl zh
  · replace zh := zh.2 zd_1
    refine vr_iload_n dX2_explore_39 rfl rfl ?_
    refine vr_aload_n dX2_explore_40 rfl rfl ?_
    refine vr_getR dX2_explore_41 fl_LitmusTester_Explorer_12 (wC_147 zw) (Or.inl ⟨_, rfl⟩) (wR_147_2 zw) ?_
    obtain ⟨v4, s2, zw1, zf_3, zh⟩ := zh
    refine vc_V (As := []) (rest := [.int l3]) dX2_explore_44 cV_LitmusTester_Explorer_51 (wC_148 zw) rfl rfl (Nat.le_of_ble_eq_true rfl) (Nat.le_of_ble_eq_true rfl) (co_n zf_3 ?_)
    replace zw := zw1
    refine vr_ic_ge dX2_explore_47 (tgt := 161) rfl (fun zd_5 => ?_) (fun zd_5 => ?_)
    · replace zh := zh.1 zd_5
      exact vr_vret dX2_explore_161 rfl zh
    · replace zh := zh.2 zd_5
      refine vr_aload_n dX2_explore_50 rfl rfl ?_
      refine vr_getR dX2_explore_51 fl_LitmusTester_Explorer_12 (wC_147 zw) (Or.inl ⟨_, rfl⟩) (wR_147_2 zw) ?_
      refine vr_iload_n dX2_explore_54 rfl rfl ?_
      obtain ⟨v8, s6, zw1, zf_7, zh⟩ := zh
      refine vc_V (As := [.int l3]) (rest := []) dX2_explore_55 cV_LitmusTester_Explorer_55 (wC_148 zw) rfl rfl (Nat.le_of_ble_eq_true rfl) (Nat.le_of_ble_eq_true rfl) (co_n zf_7 ?_)
      replace zw := zw1
      refine vr_lstore dX2_explore_58 (Nat.le_of_ble_eq_true rfl) (vv_eq (ls' := [(0, .ref 147), (3, .int l3), (4, .long v8)]) rfl ?_)
      refine vr_aload_n dX2_explore_60 rfl rfl ?_
      refine vr_getR dX2_explore_61 fl_LitmusTester_Explorer_12 (wC_147 zw) (Or.inl ⟨_, rfl⟩) (wR_147_2 zw) ?_
      refine vr_iload_n dX2_explore_64 rfl rfl ?_
      obtain ⟨v11, s9, zw1, zf_10, zh⟩ := zh
      refine vc_V (As := [.int l3]) (rest := []) dX2_explore_65 cV_LitmusTester_Explorer_59 (wC_148 zw) rfl rfl (Nat.le_of_ble_eq_true rfl) (Nat.le_of_ble_eq_true rfl) (co_n zf_10 ?_)
      replace zw := zw1
      refine vr_lstore dX2_explore_68 (Nat.le_of_ble_eq_true rfl) (vv_eq (ls' := [(0, .ref 147), (3, .int l3), (4, .long v8), (6, .long v11)]) rfl ?_)
      refine vr_iconst dX2_explore_70 (v := (0 : Int32)) (by decide) ?_
      refine vr_istore dX2_explore_71 (Nat.le_of_ble_eq_true rfl) (vv_eq (ls' := [(0, .ref 147), (3, .int l3), (4, .long v8), (6, .long v11), (8, .int (0 : Int32))]) rfl ?_)
      exact vv_sub (ls' := [(0, .ref 147), (3, .int l3), (4, .long v8), (6, .long v11), (8, .int (0 : Int32))]) ⟨rfl, rfl, rfl, rfl, rfl, trivial⟩ zh
def p_X2_explore_73 (γ : ga_T) (l3 : Int32) (l4 : Int64) (l6 : Int64) (l8 : Int32) (σ : st_T) (Q : rs_T → st_T → Prop) : Prop :=
  ∃ (v3 : Int32) (s1 : st_T), Wd s1 ∧ fn_ γ m_X4_threads 1 [.ref 153] σ (.int v3) s1 ∧
  (v3 ≤ l8 →
    vv_ γ m_X2_explore 4 33 [(0, .ref 147), (3, .int (l3 + 1))] [] s1 Q
  ) ∧ (¬ v3 ≤ l8 →
    ∃ (v7 : Int32) (s5 : st_T), Wd s5 ∧ fn_ γ m_X4_parts 1 [.ref 153, .long l4, .int l8] s1 (.int v7) s5 ∧
    vv_ γ m_X2_explore 4 101 [(0, .ref 147), (3, .int l3), (4, .long l4), (6, .long l6), (8, .int l8), (9, .int v7), (10, .int (0 : Int32))] [] s5 Q
  )
set_option maxRecDepth 10000 in
theorem g_X2_explore_73 {γ : ga_T} {l3 : Int32} {l4 : Int64} {l6 : Int64} {l8 : Int32} {σ : st_T} {Q : rs_T → st_T → Prop} (zw : Wd σ) (zh : p_X2_explore_73 γ l3 l4 l6 l8 σ Q) : vv_ γ m_X2_explore 4 73 [(0, .ref 147), (3, .int l3), (4, .long l4), (6, .long l6), (8, .int l8)] [] σ Q := by
  unfold p_X2_explore_73 at zh
  refine vr_iload dX2_explore_73 rfl ?_
  refine vr_aload_n dX2_explore_75 rfl rfl ?_
  refine vr_getR dX2_explore_76 fl_LitmusTester_Explorer_31 (wC_147 zw) (Or.inl ⟨_, rfl⟩) (wR_147_1 zw) ?_
  obtain ⟨v3, s1, zw1, zf_2, zh⟩ := zh
  refine vc_V (As := []) (rest := [.int l8]) dX2_explore_79 cV_LitmusTester_Explorer_62 (wC_153 zw) rfl rfl (Nat.le_of_ble_eq_true rfl) (Nat.le_of_ble_eq_true rfl) (co_n zf_2 ?_)
  replace zw := zw1
  refine vr_ic_ge dX2_explore_82 (tgt := 155) rfl (fun zd_4 => ?_) (fun zd_4 => ?_)
  · replace zh := zh.1 zd_4
    refine vr_iinc dX2_explore_155 (x := l3) (v := (l3 + 1)) rfl (ii_ (by decide)) (Nat.le_of_ble_eq_true rfl) (vv_eq (ls' := [(0, .ref 147), (3, .int (l3 + 1)), (4, .long l4), (6, .long l6), (8, .int l8)]) rfl ?_)
    refine vr_goto dX2_explore_158 (tgt := 33) rfl ?_
    exact vv_sub (ls' := [(0, .ref 147), (3, .int (l3 + 1))]) ⟨rfl, rfl, trivial⟩ zh
  · replace zh := zh.2 zd_4
    refine vr_aload_n dX2_explore_85 rfl rfl ?_
    refine vr_getR dX2_explore_86 fl_LitmusTester_Explorer_31 (wC_147 zw) (Or.inl ⟨_, rfl⟩) (wR_147_1 zw) ?_
    refine vr_lload dX2_explore_89 rfl ?_
    refine vr_iload dX2_explore_91 rfl ?_
    obtain ⟨v7, s5, zw1, zf_6, zh⟩ := zh
    refine vc_V (As := [.long l4, .int l8]) (rest := []) dX2_explore_93 cV_LitmusTester_Explorer_65 (wC_153 zw) rfl rfl (Nat.le_of_ble_eq_true rfl) (Nat.le_of_ble_eq_true rfl) (co_n zf_6 ?_)
    replace zw := zw1
    refine vr_istore dX2_explore_96 (Nat.le_of_ble_eq_true rfl) (vv_eq (ls' := [(0, .ref 147), (3, .int l3), (4, .long l4), (6, .long l6), (8, .int l8), (9, .int v7)]) rfl ?_)
    refine vr_iconst dX2_explore_98 (v := (0 : Int32)) (by decide) ?_
    refine vr_istore dX2_explore_99 (Nat.le_of_ble_eq_true rfl) (vv_eq (ls' := [(0, .ref 147), (3, .int l3), (4, .long l4), (6, .long l6), (8, .int l8), (9, .int v7), (10, .int (0 : Int32))]) rfl ?_)
    exact vv_sub (ls' := [(0, .ref 147), (3, .int l3), (4, .long l4), (6, .long l6), (8, .int l8), (9, .int v7), (10, .int (0 : Int32))]) ⟨rfl, rfl, rfl, rfl, rfl, rfl, rfl, trivial⟩ zh
def p_X2_explore_101 (γ : ga_T) (l3 : Int32) (l4 : Int64) (l6 : Int64) (l8 : Int32) (l9 : Int32) (l10 : Int32) (σ : st_T) (Q : rs_T → st_T → Prop) : Prop :=
  (l9 ≤ l10 →
    vv_ γ m_X2_explore 4 73 [(0, .ref 147), (3, .int l3), (4, .long l4), (6, .long l6), (8, .int (l8 + 1))] [] σ Q
  ) ∧ (¬ l9 ≤ l10 →
    ∃ (v4 : Int64) (s2 : st_T), Wd s2 ∧ fn_ γ m_X4_after 3 [.ref 153, .long l4, .int l8, .int l10] σ (.long v4) s2 ∧
    (v4 = (-1 : Int64) →
      vv_ γ m_X2_explore 4 101 [(0, .ref 147), (3, .int l3), (4, .long l4), (6, .long l6), (8, .int l8), (9, .int l9), (10, .int (l10 + 1))] [] s2 Q
    ) ∧ (¬ v4 = (-1 : Int64) →
      ∃ s6, Wd s6 ∧ fw_ γ m_X9_add 3 [.ref 148, .long v4, .long l6] s2 s6 ∧
      vv_ γ m_X2_explore 4 101 [(0, .ref 147), (3, .int l3), (4, .long l4), (6, .long l6), (8, .int l8), (9, .int l9), (10, .int (l10 + 1))] [] s6 Q
    )
  )
set_option maxRecDepth 10000 in
theorem g_X2_explore_101 {γ : ga_T} {l3 : Int32} {l4 : Int64} {l6 : Int64} {l8 : Int32} {l9 : Int32} {l10 : Int32} {σ : st_T} {Q : rs_T → st_T → Prop} (zw : Wd σ) (zh : p_X2_explore_101 γ l3 l4 l6 l8 l9 l10 σ Q) : vv_ γ m_X2_explore 4 101 [(0, .ref 147), (3, .int l3), (4, .long l4), (6, .long l6), (8, .int l8), (9, .int l9), (10, .int l10)] [] σ Q := by
  unfold p_X2_explore_101 at zh
  refine vr_iload dX2_explore_101 rfl ?_
  refine vr_iload dX2_explore_103 rfl ?_
  refine vr_ic_ge dX2_explore_105 (tgt := 149) rfl (fun zd_1 => ?_) (fun zd_1 => ?_)
  · replace zh := zh.1 zd_1
    refine vr_iinc dX2_explore_149 (x := l8) (v := (l8 + 1)) rfl (ii_ (by decide)) (Nat.le_of_ble_eq_true rfl) (vv_eq (ls' := [(0, .ref 147), (3, .int l3), (4, .long l4), (6, .long l6), (8, .int (l8 + 1)), (9, .int l9), (10, .int l10)]) rfl ?_)
    refine vr_goto dX2_explore_152 (tgt := 73) rfl ?_
    exact vv_sub (ls' := [(0, .ref 147), (3, .int l3), (4, .long l4), (6, .long l6), (8, .int (l8 + 1))]) ⟨rfl, rfl, rfl, rfl, rfl, trivial⟩ zh
  · replace zh := zh.2 zd_1
    refine vr_aload_n dX2_explore_108 rfl rfl ?_
    refine vr_getR dX2_explore_109 fl_LitmusTester_Explorer_31 (wC_147 zw) (Or.inl ⟨_, rfl⟩) (wR_147_1 zw) ?_
    refine vr_lload dX2_explore_112 rfl ?_
    refine vr_iload dX2_explore_114 rfl ?_
    refine vr_iload dX2_explore_116 rfl ?_
    obtain ⟨v4, s2, zw1, zf_3, zh⟩ := zh
    refine vc_V (As := [.long l4, .int l8, .int l10]) (rest := []) dX2_explore_118 cV_LitmusTester_Explorer_69 (wC_153 zw) rfl rfl (Nat.le_of_ble_eq_true rfl) (Nat.le_of_ble_eq_true rfl) (co_n zf_3 ?_)
    replace zw := zw1
    refine vr_lstore dX2_explore_121 (Nat.le_of_ble_eq_true rfl) (vv_eq (ls' := [(0, .ref 147), (3, .int l3), (4, .long l4), (6, .long l6), (8, .int l8), (9, .int l9), (10, .int l10), (11, .long v4)]) rfl ?_)
    refine vr_lload dX2_explore_123 rfl ?_
    refine vr_ldc2 dX2_explore_125 (v := (-1 : Int64)) tw_1280 ?_
    refine vr_lcmp dX2_explore_128 ?_
    refine vr_if_eq dX2_explore_129 (tgt := 143) rfl (fun zd_5 => ?_) (fun zd_5 => ?_)
    · replace zh := zh.1 ((lg_cmp_eq _ _).mp zd_5)
      refine vr_iinc dX2_explore_143 (x := l10) (v := (l10 + 1)) rfl (ii_ (by decide)) (Nat.le_of_ble_eq_true rfl) (vv_eq (ls' := [(0, .ref 147), (3, .int l3), (4, .long l4), (6, .long l6), (8, .int l8), (9, .int l9), (10, .int (l10 + 1)), (11, .long v4)]) rfl ?_)
      refine vr_goto dX2_explore_146 (tgt := 101) rfl ?_
      exact vv_sub (ls' := [(0, .ref 147), (3, .int l3), (4, .long l4), (6, .long l6), (8, .int l8), (9, .int l9), (10, .int (l10 + 1))]) ⟨rfl, rfl, rfl, rfl, rfl, rfl, rfl, trivial⟩ zh
    · replace zh := zh.2 (fun z => zd_5 ((lg_cmp_eq _ _).mpr z))
      refine vr_aload_n dX2_explore_132 rfl rfl ?_
      refine vr_getR dX2_explore_133 fl_LitmusTester_Explorer_12 (wC_147 zw) (Or.inl ⟨_, rfl⟩) (wR_147_2 zw) ?_
      refine vr_lload dX2_explore_136 rfl ?_
      refine vr_lload dX2_explore_138 rfl ?_
      obtain ⟨s6, zw1, zf_7, zh⟩ := zh
      refine vc_V (As := [.long v4, .long l6]) (rest := []) dX2_explore_140 cV_LitmusTester_Explorer_46 (wC_148 zw) rfl rfl (Nat.le_of_ble_eq_true rfl) (Nat.le_of_ble_eq_true rfl) (co_v zf_7 ?_)
      replace zw := zw1
      refine vr_iinc dX2_explore_143 (x := l10) (v := (l10 + 1)) rfl (ii_ (by decide)) (Nat.le_of_ble_eq_true rfl) (vv_eq (ls' := [(0, .ref 147), (3, .int l3), (4, .long l4), (6, .long l6), (8, .int l8), (9, .int l9), (10, .int (l10 + 1)), (11, .long v4)]) rfl ?_)
      refine vr_goto dX2_explore_146 (tgt := 101) rfl ?_
      exact vv_sub (ls' := [(0, .ref 147), (3, .int l3), (4, .long l4), (6, .long l6), (8, .int l8), (9, .int l9), (10, .int (l10 + 1))]) ⟨rfl, rfl, rfl, rfl, rfl, rfl, rfl, trivial⟩ zh
def p_X2_outcomes_0 (γ : ga_T) (σ : st_T) (Q : rs_T → st_T → Prop) : Prop :=
  vv_ γ m_X2_outcomes 1 4 [(0, .ref 147), (1, .int (0 : Int32)), (2, .int (0 : Int32))] [] σ Q
set_option maxRecDepth 10000 in
theorem g_X2_outcomes_0 {γ : ga_T} {σ : st_T} {Q : rs_T → st_T → Prop} (zw : Wd σ) (zh : p_X2_outcomes_0 γ σ Q) : vv_ γ m_X2_outcomes 1 0 [(0, .ref 147)] [] σ Q := by
  unfold p_X2_outcomes_0 at zh
  refine vr_iconst dX2_outcomes_0 (v := (0 : Int32)) (by decide) ?_
  refine vr_istore_n dX2_outcomes_1 rfl (Nat.le_of_ble_eq_true rfl) (vv_eq (ls' := [(0, .ref 147), (1, .int (0 : Int32))]) rfl ?_)
  refine vr_iconst dX2_outcomes_2 (v := (0 : Int32)) (by decide) ?_
  refine vr_istore_n dX2_outcomes_3 rfl (Nat.le_of_ble_eq_true rfl) (vv_eq (ls' := [(0, .ref 147), (1, .int (0 : Int32)), (2, .int (0 : Int32))]) rfl ?_)
  exact vv_sub (ls' := [(0, .ref 147), (1, .int (0 : Int32)), (2, .int (0 : Int32))]) ⟨rfl, rfl, rfl, trivial⟩ zh
theorem e_X2_outcomes {γ : ga_T} {σ : st_T} {Q : rs_T → st_T → Prop} (zw : Wd σ) (zh : p_X2_outcomes_0 γ σ Q) : sp_ γ m_X2_outcomes 1 [.ref 147] σ Q := sp_of (pl_X2_outcomes) rfl (Nat.le_of_ble_eq_true rfl) (g_X2_outcomes_0 zw zh)
def p_X2_outcomes_4 (γ : ga_T) (l1 : Int32) (l2 : Int32) (σ : st_T) (Q : rs_T → st_T → Prop) : Prop :=
  ∃ (v3 : Int32) (s1 : st_T), Wd s1 ∧ fn_ γ m_X9_size 0 [.ref 148] σ (.int v3) s1 ∧
  (v3 ≤ l2 →
    Q (.inl (some (.int l1))) s1
  ) ∧ (¬ v3 ≤ l2 →
    ∃ (v7 : Int64) (s5 : st_T), Wd s5 ∧ fn_ γ m_X9_stateAt 0 [.ref 148, .int l2] s1 (.long v7) s5 ∧
    ∃ (v10 : Int32) (s8 : st_T), Wd s8 ∧ fn_ γ m_X4_isFinal 0 [.ref 153, .long v7] s5 (.int v10) s8 ∧
    (v10 = (0 : Int32) →
      vv_ γ m_X2_outcomes 1 4 [(0, .ref 147), (1, .int l1), (2, .int (l2 + 1))] [] s8 Q
    ) ∧ (¬ v10 = (0 : Int32) →
      vv_ γ m_X2_outcomes 1 4 [(0, .ref 147), (1, .int (l1 + 1)), (2, .int (l2 + 1))] [] s8 Q
    )
  )
set_option maxRecDepth 10000 in
theorem g_X2_outcomes_4 {γ : ga_T} {l1 : Int32} {l2 : Int32} {σ : st_T} {Q : rs_T → st_T → Prop} (zw : Wd σ) (zh : p_X2_outcomes_4 γ l1 l2 σ Q) : vv_ γ m_X2_outcomes 1 4 [(0, .ref 147), (1, .int l1), (2, .int l2)] [] σ Q := by
  unfold p_X2_outcomes_4 at zh
  refine vr_iload_n dX2_outcomes_4 rfl rfl ?_
  refine vr_aload_n dX2_outcomes_5 rfl rfl ?_
  refine vr_getR dX2_outcomes_6 fl_LitmusTester_Explorer_12 (wC_147 zw) (Or.inl ⟨_, rfl⟩) (wR_147_2 zw) ?_
  obtain ⟨v3, s1, zw1, zf_2, zh⟩ := zh
  refine vc_V (As := []) (rest := [.int l2]) dX2_outcomes_9 cV_LitmusTester_Explorer_51 (wC_148 zw) rfl rfl (Nat.le_of_ble_eq_true rfl) (Nat.le_of_ble_eq_true rfl) (co_n zf_2 ?_)
  replace zw := zw1
  refine vr_ic_ge dX2_outcomes_12 (tgt := 42) rfl (fun zd_4 => ?_) (fun zd_4 => ?_)
  · replace zh := zh.1 zd_4
    refine vr_iload_n dX2_outcomes_42 rfl rfl ?_
    exact vr_iret dX2_outcomes_43 rfl zh
  · replace zh := zh.2 zd_4
    refine vr_aload_n dX2_outcomes_15 rfl rfl ?_
    refine vr_getR dX2_outcomes_16 fl_LitmusTester_Explorer_31 (wC_147 zw) (Or.inl ⟨_, rfl⟩) (wR_147_1 zw) ?_
    refine vr_aload_n dX2_outcomes_19 rfl rfl ?_
    refine vr_getR dX2_outcomes_20 fl_LitmusTester_Explorer_12 (wC_147 zw) (Or.inl ⟨_, rfl⟩) (wR_147_2 zw) ?_
    refine vr_iload_n dX2_outcomes_23 rfl rfl ?_
    obtain ⟨v7, s5, zw1, zf_6, zh⟩ := zh
    refine vc_V (As := [.int l2]) (rest := [.ref 153]) dX2_outcomes_24 cV_LitmusTester_Explorer_55 (wC_148 zw) rfl rfl (Nat.le_of_ble_eq_true rfl) (Nat.le_of_ble_eq_true rfl) (co_n zf_6 ?_)
    replace zw := zw1
    obtain ⟨v10, s8, zw1, zf_9, zh⟩ := zh
    refine vc_V (As := [.long v7]) (rest := []) dX2_outcomes_27 cV_LitmusTester_Explorer_75 (wC_153 zw) rfl rfl (Nat.le_of_ble_eq_true rfl) (Nat.le_of_ble_eq_true rfl) (co_n zf_9 ?_)
    replace zw := zw1
    refine vr_if_eq dX2_outcomes_30 (tgt := 36) rfl (fun zd_11 => ?_) (fun zd_11 => ?_)
    · replace zh := zh.1 zd_11
      refine vr_iinc dX2_outcomes_36 (x := l2) (v := (l2 + 1)) rfl (ii_ (by decide)) (Nat.le_of_ble_eq_true rfl) (vv_eq (ls' := [(0, .ref 147), (1, .int l1), (2, .int (l2 + 1))]) rfl ?_)
      refine vr_goto dX2_outcomes_39 (tgt := 4) rfl ?_
      exact vv_sub (ls' := [(0, .ref 147), (1, .int l1), (2, .int (l2 + 1))]) ⟨rfl, rfl, rfl, trivial⟩ zh
    · replace zh := zh.2 zd_11
      refine vr_iinc dX2_outcomes_33 (x := l1) (v := (l1 + 1)) rfl (ii_ (by decide)) (Nat.le_of_ble_eq_true rfl) (vv_eq (ls' := [(0, .ref 147), (1, .int (l1 + 1)), (2, .int l2)]) rfl ?_)
      refine vr_iinc dX2_outcomes_36 (x := l2) (v := (l2 + 1)) rfl (ii_ (by decide)) (Nat.le_of_ble_eq_true rfl) (vv_eq (ls' := [(0, .ref 147), (1, .int (l1 + 1)), (2, .int (l2 + 1))]) rfl ?_)
      refine vr_goto dX2_outcomes_39 (tgt := 4) rfl ?_
      exact vv_sub (ls' := [(0, .ref 147), (1, .int (l1 + 1)), (2, .int (l2 + 1))]) ⟨rfl, rfl, rfl, trivial⟩ zh
def p_X2_matches_0 (γ : ga_T) (σ : st_T) (Q : rs_T → st_T → Prop) : Prop :=
  vv_ γ m_X2_matches 1 4 [(0, .ref 147), (1, .int (0 : Int32)), (2, .int (0 : Int32))] [] σ Q
set_option maxRecDepth 10000 in
theorem g_X2_matches_0 {γ : ga_T} {σ : st_T} {Q : rs_T → st_T → Prop} (zw : Wd σ) (zh : p_X2_matches_0 γ σ Q) : vv_ γ m_X2_matches 1 0 [(0, .ref 147)] [] σ Q := by
  unfold p_X2_matches_0 at zh
  refine vr_iconst dX2_matches_0 (v := (0 : Int32)) (by decide) ?_
  refine vr_istore_n dX2_matches_1 rfl (Nat.le_of_ble_eq_true rfl) (vv_eq (ls' := [(0, .ref 147), (1, .int (0 : Int32))]) rfl ?_)
  refine vr_iconst dX2_matches_2 (v := (0 : Int32)) (by decide) ?_
  refine vr_istore_n dX2_matches_3 rfl (Nat.le_of_ble_eq_true rfl) (vv_eq (ls' := [(0, .ref 147), (1, .int (0 : Int32)), (2, .int (0 : Int32))]) rfl ?_)
  exact vv_sub (ls' := [(0, .ref 147), (1, .int (0 : Int32)), (2, .int (0 : Int32))]) ⟨rfl, rfl, rfl, trivial⟩ zh
theorem e_X2_matches {γ : ga_T} {σ : st_T} {Q : rs_T → st_T → Prop} (zw : Wd σ) (zh : p_X2_matches_0 γ σ Q) : sp_ γ m_X2_matches 1 [.ref 147] σ Q := sp_of (pl_X2_matches) rfl (Nat.le_of_ble_eq_true rfl) (g_X2_matches_0 zw zh)
def p_X2_matches_4 (γ : ga_T) (l1 : Int32) (l2 : Int32) (σ : st_T) (Q : rs_T → st_T → Prop) : Prop :=
  ∃ (v3 : Int32) (s1 : st_T), Wd s1 ∧ fn_ γ m_X9_size 0 [.ref 148] σ (.int v3) s1 ∧
  (v3 ≤ l2 →
    Q (.inl (some (.int l1))) s1
  ) ∧ (¬ v3 ≤ l2 →
    ∃ (v7 : Int64) (s5 : st_T), Wd s5 ∧ fn_ γ m_X9_stateAt 0 [.ref 148, .int l2] s1 (.long v7) s5 ∧
    ∃ (v10 : Int32) (s8 : st_T), Wd s8 ∧ fn_ γ m_X4_isFinal 0 [.ref 153, .long v7] s5 (.int v10) s8 ∧
    (v10 = (0 : Int32) →
      vv_ γ m_X2_matches 1 4 [(0, .ref 147), (1, .int l1), (2, .int (l2 + 1))] [] s8 Q
    ) ∧ (¬ v10 = (0 : Int32) →
      ∃ (v14 : Int32) (s12 : st_T), Wd s12 ∧ fn_ γ m_X4_codeOf 0 [.long v7] s8 (.int v14) s12 ∧
      ∃ (v17 : Int32) (s15 : st_T), Wd s15 ∧ fn_ γ m_X7_isFulfilledBy 0 [.ref 132, .int v14] s12 (.int v17) s15 ∧
      (v17 = (0 : Int32) →
        vv_ γ m_X2_matches 1 4 [(0, .ref 147), (1, .int l1), (2, .int (l2 + 1))] [] s15 Q
      ) ∧ (¬ v17 = (0 : Int32) →
        vv_ γ m_X2_matches 1 4 [(0, .ref 147), (1, .int (l1 + 1)), (2, .int (l2 + 1))] [] s15 Q
      )
    )
  )
set_option maxRecDepth 10000 in
theorem g_X2_matches_4 {γ : ga_T} {l1 : Int32} {l2 : Int32} {σ : st_T} {Q : rs_T → st_T → Prop} (zw : Wd σ) (zh : p_X2_matches_4 γ l1 l2 σ Q) : vv_ γ m_X2_matches 1 4 [(0, .ref 147), (1, .int l1), (2, .int l2)] [] σ Q := by
  unfold p_X2_matches_4 at zh
  refine vr_iload_n dX2_matches_4 rfl rfl ?_
  refine vr_aload_n dX2_matches_5 rfl rfl ?_
  refine vr_getR dX2_matches_6 fl_LitmusTester_Explorer_12 (wC_147 zw) (Or.inl ⟨_, rfl⟩) (wR_147_2 zw) ?_
  obtain ⟨v3, s1, zw1, zf_2, zh⟩ := zh
  refine vc_V (As := []) (rest := [.int l2]) dX2_matches_9 cV_LitmusTester_Explorer_51 (wC_148 zw) rfl rfl (Nat.le_of_ble_eq_true rfl) (Nat.le_of_ble_eq_true rfl) (co_n zf_2 ?_)
  replace zw := zw1
  refine vr_ic_ge dX2_matches_12 (tgt := 58) rfl (fun zd_4 => ?_) (fun zd_4 => ?_)
  · replace zh := zh.1 zd_4
    refine vr_iload_n dX2_matches_58 rfl rfl ?_
    exact vr_iret dX2_matches_59 rfl zh
  · replace zh := zh.2 zd_4
    refine vr_aload_n dX2_matches_15 rfl rfl ?_
    refine vr_getR dX2_matches_16 fl_LitmusTester_Explorer_12 (wC_147 zw) (Or.inl ⟨_, rfl⟩) (wR_147_2 zw) ?_
    refine vr_iload_n dX2_matches_19 rfl rfl ?_
    obtain ⟨v7, s5, zw1, zf_6, zh⟩ := zh
    refine vc_V (As := [.int l2]) (rest := []) dX2_matches_20 cV_LitmusTester_Explorer_55 (wC_148 zw) rfl rfl (Nat.le_of_ble_eq_true rfl) (Nat.le_of_ble_eq_true rfl) (co_n zf_6 ?_)
    replace zw := zw1
    refine vr_lstore_n dX2_matches_23 rfl (Nat.le_of_ble_eq_true rfl) (vv_eq (ls' := [(0, .ref 147), (1, .int l1), (2, .int l2), (3, .long v7)]) rfl ?_)
    refine vr_aload_n dX2_matches_24 rfl rfl ?_
    refine vr_getR dX2_matches_25 fl_LitmusTester_Explorer_31 (wC_147 zw) (Or.inl ⟨_, rfl⟩) (wR_147_1 zw) ?_
    refine vr_lload_n dX2_matches_28 rfl rfl ?_
    obtain ⟨v10, s8, zw1, zf_9, zh⟩ := zh
    refine vc_V (As := [.long v7]) (rest := []) dX2_matches_29 cV_LitmusTester_Explorer_75 (wC_153 zw) rfl rfl (Nat.le_of_ble_eq_true rfl) (Nat.le_of_ble_eq_true rfl) (co_n zf_9 ?_)
    replace zw := zw1
    refine vr_if_eq dX2_matches_32 (tgt := 52) rfl (fun zd_11 => ?_) (fun zd_11 => ?_)
    · replace zh := zh.1 zd_11
      refine vr_iinc dX2_matches_52 (x := l2) (v := (l2 + 1)) rfl (ii_ (by decide)) (Nat.le_of_ble_eq_true rfl) (vv_eq (ls' := [(0, .ref 147), (1, .int l1), (2, .int (l2 + 1)), (3, .long v7)]) rfl ?_)
      refine vr_goto dX2_matches_55 (tgt := 4) rfl ?_
      exact vv_sub (ls' := [(0, .ref 147), (1, .int l1), (2, .int (l2 + 1))]) ⟨rfl, rfl, rfl, trivial⟩ zh
    · replace zh := zh.2 zd_11
      refine vr_aload_n dX2_matches_35 rfl rfl ?_
      refine vr_getR dX2_matches_36 fl_LitmusTester_Explorer_22 (wC_147 zw) (Or.inl ⟨_, rfl⟩) (wR_147_0 zw) ?_
      refine vr_lload_n dX2_matches_39 rfl rfl ?_
      obtain ⟨v14, s12, zw1, zf_13, zh⟩ := zh
      refine vc_S (As := [.long v7]) (rest := [.ref 132]) dX2_matches_40 cS_LitmusTester_Explorer_79 rfl rfl (Nat.le_of_ble_eq_true rfl) (Nat.le_of_ble_eq_true rfl) (co_n zf_13 ?_)
      replace zw := zw1
      obtain ⟨v17, s15, zw1, zf_16, zh⟩ := zh
      refine vc_V (As := [.int v14]) (rest := []) dX2_matches_43 cV_LitmusTester_Explorer_83 (wC_132 zw) rfl rfl (Nat.le_of_ble_eq_true rfl) (Nat.le_of_ble_eq_true rfl) (co_n zf_16 ?_)
      replace zw := zw1
      refine vr_if_eq dX2_matches_46 (tgt := 52) rfl (fun zd_18 => ?_) (fun zd_18 => ?_)
      · replace zh := zh.1 zd_18
        refine vr_iinc dX2_matches_52 (x := l2) (v := (l2 + 1)) rfl (ii_ (by decide)) (Nat.le_of_ble_eq_true rfl) (vv_eq (ls' := [(0, .ref 147), (1, .int l1), (2, .int (l2 + 1)), (3, .long v7)]) rfl ?_)
        refine vr_goto dX2_matches_55 (tgt := 4) rfl ?_
        exact vv_sub (ls' := [(0, .ref 147), (1, .int l1), (2, .int (l2 + 1))]) ⟨rfl, rfl, rfl, trivial⟩ zh
      · replace zh := zh.2 zd_18
        refine vr_iinc dX2_matches_49 (x := l1) (v := (l1 + 1)) rfl (ii_ (by decide)) (Nat.le_of_ble_eq_true rfl) (vv_eq (ls' := [(0, .ref 147), (1, .int (l1 + 1)), (2, .int l2), (3, .long v7)]) rfl ?_)
        refine vr_iinc dX2_matches_52 (x := l2) (v := (l2 + 1)) rfl (ii_ (by decide)) (Nat.le_of_ble_eq_true rfl) (vv_eq (ls' := [(0, .ref 147), (1, .int (l1 + 1)), (2, .int (l2 + 1)), (3, .long v7)]) rfl ?_)
        refine vr_goto dX2_matches_55 (tgt := 4) rfl ?_
        exact vv_sub (ls' := [(0, .ref 147), (1, .int (l1 + 1)), (2, .int (l2 + 1))]) ⟨rfl, rfl, rfl, trivial⟩ zh
def p_X2_report_0 (γ : ga_T) (l1 : Nat) (σ : st_T) (Q : rs_T → st_T → Prop) : Prop :=
  ∃ (v3 : Int32) (s1 : st_T), Wd s1 ∧ fn_ γ m_X2_outcomes 1 [.ref 147] σ (.int v3) s1 ∧
  ∃ (v6 : Int32) (s4 : st_T), Wd s4 ∧ fn_ γ m_X9_size 0 [.ref 148] s1 (.int v6) s4 ∧
  is_fi l1 ∧
  ∃ s8, Wd s8 ∧ fw_ γ m_X3_begin 0 [.ref l1, .int v3, .int v6] s4 s8 ∧
  vv_ γ m_X2_report 2 17 [(0, .ref 147), (1, .ref l1), (2, .int (0 : Int32))] [] s8 Q
set_option maxRecDepth 10000 in
theorem g_X2_report_0 {γ : ga_T} {l1 : Nat} {σ : st_T} {Q : rs_T → st_T → Prop} (zw : Wd σ) (zh : p_X2_report_0 γ l1 σ Q) : vv_ γ m_X2_report 2 0 [(0, .ref 147), (1, .ref l1)] [] σ Q := by
  unfold p_X2_report_0 at zh
  refine vr_aload_n dX2_report_0 rfl rfl ?_
  refine vr_aload_n dX2_report_1 rfl rfl ?_
  obtain ⟨v3, s1, zw1, zf_2, zh⟩ := zh
  refine vc_V (As := []) (rest := [.ref l1]) dX2_report_2 cV_LitmusTester_Explorer_89 (wC_147 zw) rfl rfl (Nat.le_of_ble_eq_true rfl) (Nat.le_of_ble_eq_true rfl) (co_n zf_2 ?_)
  replace zw := zw1
  refine vr_aload_n dX2_report_5 rfl rfl ?_
  refine vr_getR dX2_report_6 fl_LitmusTester_Explorer_12 (wC_147 zw) (Or.inl ⟨_, rfl⟩) (wR_147_2 zw) ?_
  obtain ⟨v6, s4, zw1, zf_5, zh⟩ := zh
  refine vc_V (As := []) (rest := [.int v3, .ref l1]) dX2_report_9 cV_LitmusTester_Explorer_51 (wC_148 zw) rfl rfl (Nat.le_of_ble_eq_true rfl) (Nat.le_of_ble_eq_true rfl) (co_n zf_5 ?_)
  replace zw := zw1
  obtain ⟨zc_7, zh⟩ := zh
  obtain ⟨s8, zw1, zf_9, zh⟩ := zh
  refine vc_V (As := [.int v3, .int v6]) (rest := []) dX2_report_12 cV_LitmusTester_Explorer_92 (wC_fi zw zc_7) rfl rfl (Nat.le_of_ble_eq_true rfl) (Nat.le_of_ble_eq_true rfl) (co_v zf_9 ?_)
  replace zw := zw1
  refine vr_iconst dX2_report_15 (v := (0 : Int32)) (by decide) ?_
  refine vr_istore_n dX2_report_16 rfl (Nat.le_of_ble_eq_true rfl) (vv_eq (ls' := [(0, .ref 147), (1, .ref l1), (2, .int (0 : Int32))]) rfl ?_)
  exact vv_sub (ls' := [(0, .ref 147), (1, .ref l1), (2, .int (0 : Int32))]) ⟨rfl, rfl, rfl, trivial⟩ zh
theorem e_X2_report {γ : ga_T} {l1 : Nat} {σ : st_T} {Q : rs_T → st_T → Prop} (zw : Wd σ) (zh : p_X2_report_0 γ l1 σ Q) : sp_ γ m_X2_report 2 [.ref 147, .ref l1] σ Q := sp_of (pl_X2_report) rfl (Nat.le_of_ble_eq_true rfl) (g_X2_report_0 zw zh)
def p_X2_report_17 (γ : ga_T) (l1 : Nat) (l2 : Int32) (σ : st_T) (Q : rs_T → st_T → Prop) : Prop :=
  ∃ (v3 : Int32) (s1 : st_T), Wd s1 ∧ fn_ γ m_X9_size 0 [.ref 148] σ (.int v3) s1 ∧
  (v3 ≤ l2 →
    is_fi l1 ∧
    ∃ s6, Wd s6 ∧ fw_ γ m_X3_sort 1 [.ref l1] s1 s6 ∧
    Q (.inl none) s6
  ) ∧ (¬ v3 ≤ l2 →
    ∃ (v10 : Int64) (s8 : st_T), Wd s8 ∧ fn_ γ m_X9_stateAt 0 [.ref 148, .int l2] s1 (.long v10) s8 ∧
    ∃ (v13 : Int32) (s11 : st_T), Wd s11 ∧ fn_ γ m_X4_isFinal 0 [.ref 153, .long v10] s8 (.int v13) s11 ∧
    (v13 = (0 : Int32) →
      vv_ γ m_X2_report 2 17 [(0, .ref 147), (1, .ref l1), (2, .int (l2 + 1))] [] s11 Q
    ) ∧ (¬ v13 = (0 : Int32) →
      ∃ (v17 : Int32) (s15 : st_T), Wd s15 ∧ fn_ γ m_X4_codeOf 0 [.long v10] s11 (.int v17) s15 ∧
      ∃ (v20 : Int64) (s18 : st_T), Wd s18 ∧ fn_ γ m_X9_waysAt 0 [.ref 148, .int l2] s15 (.long v20) s18 ∧
      is_fi l1 ∧
      ∃ s22, Wd s22 ∧ fw_ γ m_X3_add 0 [.ref l1, .int v17, .long v20] s18 s22 ∧
      vv_ γ m_X2_report 2 17 [(0, .ref 147), (1, .ref l1), (2, .int (l2 + 1))] [] s22 Q
    )
  )
set_option maxRecDepth 10000 in
theorem g_X2_report_17 {γ : ga_T} {l1 : Nat} {l2 : Int32} {σ : st_T} {Q : rs_T → st_T → Prop} (zw : Wd σ) (zh : p_X2_report_17 γ l1 l2 σ Q) : vv_ γ m_X2_report 2 17 [(0, .ref 147), (1, .ref l1), (2, .int l2)] [] σ Q := by
  unfold p_X2_report_17 at zh
  refine vr_iload_n dX2_report_17 rfl rfl ?_
  refine vr_aload_n dX2_report_18 rfl rfl ?_
  refine vr_getR dX2_report_19 fl_LitmusTester_Explorer_12 (wC_147 zw) (Or.inl ⟨_, rfl⟩) (wR_147_2 zw) ?_
  obtain ⟨v3, s1, zw1, zf_2, zh⟩ := zh
  refine vc_V (As := []) (rest := [.int l2]) dX2_report_22 cV_LitmusTester_Explorer_51 (wC_148 zw) rfl rfl (Nat.le_of_ble_eq_true rfl) (Nat.le_of_ble_eq_true rfl) (co_n zf_2 ?_)
  replace zw := zw1
  refine vr_ic_ge dX2_report_25 (tgt := 70) rfl (fun zd_4 => ?_) (fun zd_4 => ?_)
  · replace zh := zh.1 zd_4
    refine vr_aload_n dX2_report_70 rfl rfl ?_
    obtain ⟨zc_5, zh⟩ := zh
    obtain ⟨s6, zw1, zf_7, zh⟩ := zh
    refine vc_V (As := []) (rest := []) dX2_report_71 cV_LitmusTester_Explorer_100 (wC_fi zw zc_5) rfl rfl (Nat.le_of_ble_eq_true rfl) (Nat.le_of_ble_eq_true rfl) (co_v zf_7 ?_)
    replace zw := zw1
    exact vr_vret dX2_report_74 rfl zh
  · replace zh := zh.2 zd_4
    refine vr_aload_n dX2_report_28 rfl rfl ?_
    refine vr_getR dX2_report_29 fl_LitmusTester_Explorer_12 (wC_147 zw) (Or.inl ⟨_, rfl⟩) (wR_147_2 zw) ?_
    refine vr_iload_n dX2_report_32 rfl rfl ?_
    obtain ⟨v10, s8, zw1, zf_9, zh⟩ := zh
    refine vc_V (As := [.int l2]) (rest := []) dX2_report_33 cV_LitmusTester_Explorer_55 (wC_148 zw) rfl rfl (Nat.le_of_ble_eq_true rfl) (Nat.le_of_ble_eq_true rfl) (co_n zf_9 ?_)
    replace zw := zw1
    refine vr_lstore_n dX2_report_36 rfl (Nat.le_of_ble_eq_true rfl) (vv_eq (ls' := [(0, .ref 147), (1, .ref l1), (2, .int l2), (3, .long v10)]) rfl ?_)
    refine vr_aload_n dX2_report_37 rfl rfl ?_
    refine vr_getR dX2_report_38 fl_LitmusTester_Explorer_31 (wC_147 zw) (Or.inl ⟨_, rfl⟩) (wR_147_1 zw) ?_
    refine vr_lload_n dX2_report_41 rfl rfl ?_
    obtain ⟨v13, s11, zw1, zf_12, zh⟩ := zh
    refine vc_V (As := [.long v10]) (rest := []) dX2_report_42 cV_LitmusTester_Explorer_75 (wC_153 zw) rfl rfl (Nat.le_of_ble_eq_true rfl) (Nat.le_of_ble_eq_true rfl) (co_n zf_12 ?_)
    replace zw := zw1
    refine vr_if_eq dX2_report_45 (tgt := 64) rfl (fun zd_14 => ?_) (fun zd_14 => ?_)
    · replace zh := zh.1 zd_14
      refine vr_iinc dX2_report_64 (x := l2) (v := (l2 + 1)) rfl (ii_ (by decide)) (Nat.le_of_ble_eq_true rfl) (vv_eq (ls' := [(0, .ref 147), (1, .ref l1), (2, .int (l2 + 1)), (3, .long v10)]) rfl ?_)
      refine vr_goto dX2_report_67 (tgt := 17) rfl ?_
      exact vv_sub (ls' := [(0, .ref 147), (1, .ref l1), (2, .int (l2 + 1))]) ⟨rfl, rfl, rfl, trivial⟩ zh
    · replace zh := zh.2 zd_14
      refine vr_aload_n dX2_report_48 rfl rfl ?_
      refine vr_lload_n dX2_report_49 rfl rfl ?_
      obtain ⟨v17, s15, zw1, zf_16, zh⟩ := zh
      refine vc_S (As := [.long v10]) (rest := [.ref l1]) dX2_report_50 cS_LitmusTester_Explorer_79 rfl rfl (Nat.le_of_ble_eq_true rfl) (Nat.le_of_ble_eq_true rfl) (co_n zf_16 ?_)
      replace zw := zw1
      refine vr_aload_n dX2_report_53 rfl rfl ?_
      refine vr_getR dX2_report_54 fl_LitmusTester_Explorer_12 (wC_147 zw) (Or.inl ⟨_, rfl⟩) (wR_147_2 zw) ?_
      refine vr_iload_n dX2_report_57 rfl rfl ?_
      obtain ⟨v20, s18, zw1, zf_19, zh⟩ := zh
      refine vc_V (As := [.int l2]) (rest := [.int v17, .ref l1]) dX2_report_58 cV_LitmusTester_Explorer_59 (wC_148 zw) rfl rfl (Nat.le_of_ble_eq_true rfl) (Nat.le_of_ble_eq_true rfl) (co_n zf_19 ?_)
      replace zw := zw1
      obtain ⟨zc_21, zh⟩ := zh
      obtain ⟨s22, zw1, zf_23, zh⟩ := zh
      refine vc_V (As := [.int v17, .long v20]) (rest := []) dX2_report_61 cV_LitmusTester_Explorer_97 (wC_fi zw zc_21) rfl rfl (Nat.le_of_ble_eq_true rfl) (Nat.le_of_ble_eq_true rfl) (co_v zf_23 ?_)
      replace zw := zw1
      refine vr_iinc dX2_report_64 (x := l2) (v := (l2 + 1)) rfl (ii_ (by decide)) (Nat.le_of_ble_eq_true rfl) (vv_eq (ls' := [(0, .ref 147), (1, .ref l1), (2, .int (l2 + 1)), (3, .long v10)]) rfl ?_)
      refine vr_goto dX2_report_67 (tgt := 17) rfl ?_
      exact vv_sub (ls' := [(0, .ref 147), (1, .ref l1), (2, .int (l2 + 1))]) ⟨rfl, rfl, rfl, trivial⟩ zh
def p_X2_findFirst_0 (γ : ga_T) (l1 : Int32) (l2 : Int32) (σ : st_T) (Q : rs_T → st_T → Prop) : Prop :=
  ∃ (v3 : Int32) (s1 : st_T), Wd s1 ∧ fn_ γ m_X7_waits 1 [.ref 132] σ (.int v3) s1 ∧
  ∃ s4, Wd s4 ∧ fw_ γ m_X4_prepare 3 [.ref 153, .int l1, .int v3] s1 s4 ∧
  ∃ s6, Wd s6 ∧ fw_ γ m_X9_clear 1 [.ref 148] s4 s6 ∧
  ∃ (v10 : Int64) (s8 : st_T), Wd s8 ∧ fn_ γ m_X4_start 0 [.ref 153] s6 (.long v10) s8 ∧
  ∃ (v13 : Int32) (s11 : st_T), Wd s11 ∧ fn_ γ m_X2_leadsTo 80 [.ref 147, .int l2, .long v10, .int (0 : Int32)] s8 (.int v13) s11 ∧
  (v13 = (0 : Int32) →
    Q (.inl (some (.int (0 : Int32)))) s11
  ) ∧ (¬ v13 = (0 : Int32) →
    ∃ s15, Wd s15 ∧ fw_ γ m_X1_begin 1 [.ref 181] s11 s15 ∧
    ∃ (v19 : Int64) (s17 : st_T), Wd s17 ∧ fn_ γ m_X4_start 0 [.ref 153] s15 (.long v19) s17 ∧
    vv_ γ m_X2_findFirst 81 56 [(0, .ref 147), (3, .ref 181), (4, .long v19), (6, .int (0 : Int32))] [] s17 Q
  )
set_option maxRecDepth 10000 in
theorem g_X2_findFirst_0 {γ : ga_T} {l1 : Int32} {l2 : Int32} {σ : st_T} {Q : rs_T → st_T → Prop} (zw : Wd σ) (zh : p_X2_findFirst_0 γ l1 l2 σ Q) : vv_ γ m_X2_findFirst 81 0 [(0, .ref 147), (1, .int l1), (2, .int l2), (3, .ref 181)] [] σ Q := by
  unfold p_X2_findFirst_0 at zh
  refine vr_aload_n dX2_findFirst_0 rfl rfl ?_
  refine vr_getR dX2_findFirst_1 fl_LitmusTester_Explorer_31 (wC_147 zw) (Or.inl ⟨_, rfl⟩) (wR_147_1 zw) ?_
  refine vr_iload_n dX2_findFirst_4 rfl rfl ?_
  refine vr_aload_n dX2_findFirst_5 rfl rfl ?_
  refine vr_getR dX2_findFirst_6 fl_LitmusTester_Explorer_22 (wC_147 zw) (Or.inl ⟨_, rfl⟩) (wR_147_0 zw) ?_
  obtain ⟨v3, s1, zw1, zf_2, zh⟩ := zh
  refine vc_V (As := []) (rest := [.int l1, .ref 153]) dX2_findFirst_9 cV_LitmusTester_Explorer_103 (wC_132 zw) rfl rfl (Nat.le_of_ble_eq_true rfl) (Nat.le_of_ble_eq_true rfl) (co_n zf_2 ?_)
  replace zw := zw1
  obtain ⟨s4, zw1, zf_5, zh⟩ := zh
  refine vc_V (As := [.int l1, .int v3]) (rest := []) dX2_findFirst_12 cV_LitmusTester_Explorer_35 (wC_153 zw) rfl rfl (Nat.le_of_ble_eq_true rfl) (Nat.le_of_ble_eq_true rfl) (co_v zf_5 ?_)
  replace zw := zw1
  refine vr_aload_n dX2_findFirst_15 rfl rfl ?_
  refine vr_getR dX2_findFirst_16 fl_LitmusTester_Explorer_12 (wC_147 zw) (Or.inl ⟨_, rfl⟩) (wR_147_2 zw) ?_
  obtain ⟨s6, zw1, zf_7, zh⟩ := zh
  refine vc_V (As := []) (rest := []) dX2_findFirst_19 cV_LitmusTester_Explorer_39 (wC_148 zw) rfl rfl (Nat.le_of_ble_eq_true rfl) (Nat.le_of_ble_eq_true rfl) (co_v zf_7 ?_)
  replace zw := zw1
  refine vr_aload_n dX2_findFirst_22 rfl rfl ?_
  refine vr_iload_n dX2_findFirst_23 rfl rfl ?_
  refine vr_aload_n dX2_findFirst_24 rfl rfl ?_
  refine vr_getR dX2_findFirst_25 fl_LitmusTester_Explorer_31 (wC_147 zw) (Or.inl ⟨_, rfl⟩) (wR_147_1 zw) ?_
  obtain ⟨v10, s8, zw1, zf_9, zh⟩ := zh
  refine vc_V (As := []) (rest := [.int l2, .ref 147]) dX2_findFirst_28 cV_LitmusTester_Explorer_42 (wC_153 zw) rfl rfl (Nat.le_of_ble_eq_true rfl) (Nat.le_of_ble_eq_true rfl) (co_n zf_9 ?_)
  replace zw := zw1
  refine vr_iconst dX2_findFirst_31 (v := (0 : Int32)) (by decide) ?_
  obtain ⟨v13, s11, zw1, zf_12, zh⟩ := zh
  refine vc_V (As := [.int l2, .long v10, .int (0 : Int32)]) (rest := []) dX2_findFirst_32 cV_LitmusTester_Explorer_106 (wC_147 zw) rfl rfl (Nat.le_of_ble_eq_true rfl) (Nat.le_of_ble_eq_true rfl) (co_n zf_12 ?_)
  replace zw := zw1
  refine vr_if_ne dX2_findFirst_35 (tgt := 40) rfl (fun zd_14 => ?_) (fun zd_14 => ?_)
  · replace zh := zh.2 zd_14
    refine vr_aload_n dX2_findFirst_40 rfl rfl ?_
    obtain ⟨s15, zw1, zf_16, zh⟩ := zh
    refine vc_V (As := []) (rest := []) dX2_findFirst_41 cV_LitmusTester_Explorer_110 (wC_181 zw) rfl rfl (Nat.le_of_ble_eq_true rfl) (Nat.le_of_ble_eq_true rfl) (co_v zf_16 ?_)
    replace zw := zw1
    refine vr_aload_n dX2_findFirst_44 rfl rfl ?_
    refine vr_getR dX2_findFirst_45 fl_LitmusTester_Explorer_31 (wC_147 zw) (Or.inl ⟨_, rfl⟩) (wR_147_1 zw) ?_
    obtain ⟨v19, s17, zw1, zf_18, zh⟩ := zh
    refine vc_V (As := []) (rest := []) dX2_findFirst_48 cV_LitmusTester_Explorer_42 (wC_153 zw) rfl rfl (Nat.le_of_ble_eq_true rfl) (Nat.le_of_ble_eq_true rfl) (co_n zf_18 ?_)
    replace zw := zw1
    refine vr_lstore dX2_findFirst_51 (Nat.le_of_ble_eq_true rfl) (vv_eq (ls' := [(0, .ref 147), (1, .int l1), (2, .int l2), (3, .ref 181), (4, .long v19)]) rfl ?_)
    refine vr_iconst dX2_findFirst_53 (v := (0 : Int32)) (by decide) ?_
    refine vr_istore dX2_findFirst_54 (Nat.le_of_ble_eq_true rfl) (vv_eq (ls' := [(0, .ref 147), (1, .int l1), (2, .int l2), (3, .ref 181), (4, .long v19), (6, .int (0 : Int32))]) rfl ?_)
    exact vv_sub (ls' := [(0, .ref 147), (3, .ref 181), (4, .long v19), (6, .int (0 : Int32))]) ⟨rfl, rfl, rfl, rfl, trivial⟩ zh
  · replace zh := zh.1 zd_14
    refine vr_iconst dX2_findFirst_38 (v := (0 : Int32)) (by decide) ?_
    exact vr_zret dX2_findFirst_39 rfl (Or.inl rfl) zh
theorem e_X2_findFirst {γ : ga_T} {l1 : Int32} {l2 : Int32} {σ : st_T} {Q : rs_T → st_T → Prop} (zw : Wd σ) (zh : p_X2_findFirst_0 γ l1 l2 σ Q) : sp_ γ m_X2_findFirst 81 [.ref 147, .int l1, .int l2, .ref 181] σ Q := sp_of (pl_X2_findFirst) rfl (Nat.le_of_ble_eq_true rfl) (g_X2_findFirst_0 zw zh)
def p_X2_findFirst_56 (γ : ga_T) (l4 : Int64) (l6 : Int32) (σ : st_T) (Q : rs_T → st_T → Prop) : Prop :=
  ((18 : Int32) ≤ l6 →
    Q (.inl (some (.int (1 : Int32)))) σ
  ) ∧ (¬ (18 : Int32) ≤ l6 →
    ∃ (v4 : Int32) (s2 : st_T), Wd s2 ∧ fn_ γ m_X4_isFinal 0 [.ref 153, .long l4] σ (.int v4) s2 ∧
    (v4 = (0 : Int32) →
      vp_in l6 18 ∧
      vp_in l6 18 ∧
      ∃ s8, Wd s8 ∧ fw_ γ m_X1_addStep 3 [.ref 181, .ref 153, .long l4, .int ((st_I s2 152 l6.toNatClampNeg) / (10 : Int32)), .int ((st_I s2 152 l6.toNatClampNeg) - (st_I s2 152 l6.toNatClampNeg) / (10 : Int32) * (10 : Int32))] s2 s8 ∧
      ∃ (v12 : Int64) (s10 : st_T), Wd s10 ∧ fn_ γ m_X4_after 3 [.ref 153, .long l4, .int ((st_I s2 152 l6.toNatClampNeg) / (10 : Int32)), .int ((st_I s2 152 l6.toNatClampNeg) - (st_I s2 152 l6.toNatClampNeg) / (10 : Int32) * (10 : Int32))] s8 (.long v12) s10 ∧
      vv_ γ m_X2_findFirst 81 56 [(0, .ref 147), (3, .ref 181), (4, .long v12), (6, .int (l6 + 1))] [] s10 Q
    ) ∧ (¬ v4 = (0 : Int32) →
      Q (.inl (some (.int (1 : Int32)))) s2
    )
  )
set_option maxRecDepth 10000 in
theorem g_X2_findFirst_56 {γ : ga_T} {l4 : Int64} {l6 : Int32} {σ : st_T} {Q : rs_T → st_T → Prop} (zw : Wd σ) (zh : p_X2_findFirst_56 γ l4 l6 σ Q) : vv_ γ m_X2_findFirst 81 56 [(0, .ref 147), (3, .ref 181), (4, .long l4), (6, .int l6)] [] σ Q := by
  unfold p_X2_findFirst_56 at zh
  refine vr_iload dX2_findFirst_56 rfl ?_
  refine vr_bipush dX2_findFirst_58 (v := (18 : Int32)) (by decide) ?_
  refine vr_ic_ge dX2_findFirst_60 (tgt := 134) rfl (fun zd_1 => ?_) (fun zd_1 => ?_)
  · replace zh := zh.1 zd_1
    refine vr_iconst dX2_findFirst_134 (v := (1 : Int32)) (by decide) ?_
    exact vr_zret dX2_findFirst_135 rfl (Or.inr rfl) zh
  · replace zh := zh.2 zd_1
    refine vr_aload_n dX2_findFirst_63 rfl rfl ?_
    refine vr_getR dX2_findFirst_64 fl_LitmusTester_Explorer_31 (wC_147 zw) (Or.inl ⟨_, rfl⟩) (wR_147_1 zw) ?_
    refine vr_lload dX2_findFirst_67 rfl ?_
    obtain ⟨v4, s2, zw1, zf_3, zh⟩ := zh
    refine vc_V (As := [.long l4]) (rest := []) dX2_findFirst_69 cV_LitmusTester_Explorer_75 (wC_153 zw) rfl rfl (Nat.le_of_ble_eq_true rfl) (Nat.le_of_ble_eq_true rfl) (co_n zf_3 ?_)
    replace zw := zw1
    refine vr_if_ne dX2_findFirst_72 (tgt := 134) rfl (fun zd_5 => ?_) (fun zd_5 => ?_)
    · replace zh := zh.2 zd_5
      refine vr_iconst dX2_findFirst_134 (v := (1 : Int32)) (by decide) ?_
      exact vr_zret dX2_findFirst_135 rfl (Or.inr rfl) zh
    · replace zh := zh.1 zd_5
      refine vr_aload_n dX2_findFirst_75 rfl rfl ?_
      refine vr_getR dX2_findFirst_76 fl_LitmusTester_Explorer_18 (wC_147 zw) (Or.inr ⟨_, rfl⟩) (wR_147_3 zw) ?_
      refine vr_iload dX2_findFirst_79 rfl ?_
      obtain ⟨zi_6, zh⟩ := zh
      refine vr_iaload dX2_findFirst_81 (wS_152 zw) zi_6 ?_
      refine vr_bipush dX2_findFirst_82 (v := (10 : Int32)) (by decide) ?_
      refine vr_idiv dX2_findFirst_84 (by decide) ?_
      refine vr_istore dX2_findFirst_85 (Nat.le_of_ble_eq_true rfl) (vv_eq (ls' := [(0, .ref 147), (3, .ref 181), (4, .long l4), (6, .int l6), (7, .int ((st_I s2 152 l6.toNatClampNeg) / (10 : Int32)))]) rfl ?_)
      refine vr_aload_n dX2_findFirst_87 rfl rfl ?_
      refine vr_getR dX2_findFirst_88 fl_LitmusTester_Explorer_18 (wC_147 zw) (Or.inr ⟨_, rfl⟩) (wR_147_3 zw) ?_
      refine vr_iload dX2_findFirst_91 rfl ?_
      obtain ⟨zi_7, zh⟩ := zh
      refine vr_iaload dX2_findFirst_93 (wS_152 zw) zi_7 ?_
      refine vr_bipush dX2_findFirst_94 (v := (10 : Int32)) (by decide) ?_
      refine vr_irem dX2_findFirst_96 (by decide) ?_
      refine vr_istore dX2_findFirst_97 (Nat.le_of_ble_eq_true rfl) (vv_eq (ls' := [(0, .ref 147), (3, .ref 181), (4, .long l4), (6, .int l6), (7, .int ((st_I s2 152 l6.toNatClampNeg) / (10 : Int32))), (8, .int ((st_I s2 152 l6.toNatClampNeg) - (st_I s2 152 l6.toNatClampNeg) / (10 : Int32) * (10 : Int32)))]) rfl ?_)
      refine vr_aload_n dX2_findFirst_99 rfl rfl ?_
      refine vr_aload_n dX2_findFirst_100 rfl rfl ?_
      refine vr_getR dX2_findFirst_101 fl_LitmusTester_Explorer_31 (wC_147 zw) (Or.inl ⟨_, rfl⟩) (wR_147_1 zw) ?_
      refine vr_lload dX2_findFirst_104 rfl ?_
      refine vr_iload dX2_findFirst_106 rfl ?_
      refine vr_iload dX2_findFirst_108 rfl ?_
      obtain ⟨s8, zw1, zf_9, zh⟩ := zh
      refine vc_V (As := [.ref 153, .long l4, .int ((st_I s2 152 l6.toNatClampNeg) / (10 : Int32)), .int ((st_I s2 152 l6.toNatClampNeg) - (st_I s2 152 l6.toNatClampNeg) / (10 : Int32) * (10 : Int32))]) (rest := []) dX2_findFirst_110 cV_LitmusTester_Explorer_114 (wC_181 zw) rfl rfl (Nat.le_of_ble_eq_true rfl) (Nat.le_of_ble_eq_true rfl) (co_v zf_9 ?_)
      replace zw := zw1
      refine vr_aload_n dX2_findFirst_113 rfl rfl ?_
      refine vr_getR dX2_findFirst_114 fl_LitmusTester_Explorer_31 (wC_147 zw) (Or.inl ⟨_, rfl⟩) (wR_147_1 zw) ?_
      refine vr_lload dX2_findFirst_117 rfl ?_
      refine vr_iload dX2_findFirst_119 rfl ?_
      refine vr_iload dX2_findFirst_121 rfl ?_
      obtain ⟨v12, s10, zw1, zf_11, zh⟩ := zh
      refine vc_V (As := [.long l4, .int ((st_I s2 152 l6.toNatClampNeg) / (10 : Int32)), .int ((st_I s2 152 l6.toNatClampNeg) - (st_I s2 152 l6.toNatClampNeg) / (10 : Int32) * (10 : Int32))]) (rest := []) dX2_findFirst_123 cV_LitmusTester_Explorer_69 (wC_153 zw) rfl rfl (Nat.le_of_ble_eq_true rfl) (Nat.le_of_ble_eq_true rfl) (co_n zf_11 ?_)
      replace zw := zw1
      refine vr_lstore dX2_findFirst_126 (Nat.le_of_ble_eq_true rfl) (vv_eq (ls' := [(0, .ref 147), (3, .ref 181), (4, .long v12), (6, .int l6), (7, .int ((st_I s2 152 l6.toNatClampNeg) / (10 : Int32))), (8, .int ((st_I s2 152 l6.toNatClampNeg) - (st_I s2 152 l6.toNatClampNeg) / (10 : Int32) * (10 : Int32)))]) rfl ?_)
      refine vr_iinc dX2_findFirst_128 (x := l6) (v := (l6 + 1)) rfl (ii_ (by decide)) (Nat.le_of_ble_eq_true rfl) (vv_eq (ls' := [(0, .ref 147), (3, .ref 181), (4, .long v12), (6, .int (l6 + 1)), (7, .int ((st_I s2 152 l6.toNatClampNeg) / (10 : Int32))), (8, .int ((st_I s2 152 l6.toNatClampNeg) - (st_I s2 152 l6.toNatClampNeg) / (10 : Int32) * (10 : Int32)))]) rfl ?_)
      refine vr_goto dX2_findFirst_131 (tgt := 56) rfl ?_
      exact vv_sub (ls' := [(0, .ref 147), (3, .ref 181), (4, .long v12), (6, .int (l6 + 1))]) ⟨rfl, rfl, rfl, rfl, trivial⟩ zh
def p_X2_leadsTo_0 (γ : ga_T) (d : Nat) (l1 : Int32) (l2 : Int64) (l4 : Int32) (σ : st_T) (Q : rs_T → st_T → Prop) : Prop :=
  ∃ (v3 : Int32) (s1 : st_T), Wd s1 ∧ fn_ γ m_X4_isFinal 0 [.ref 153, .long l2] σ (.int v3) s1 ∧
  (v3 = (0 : Int32) →
    ((18 : Int32) ≤ l4 →
      Q (.inl (some (.int (0 : Int32)))) s1
    ) ∧ (¬ (18 : Int32) ≤ l4 →
      ∃ (v8 : Int32) (s6 : st_T), Wd s6 ∧ fn_ γ m_X9_contains 2 [.ref 148, .long l2] s1 (.int v8) s6 ∧
      (v8 = (0 : Int32) →
        ∃ s10, Wd s10 ∧ fw_ γ m_X9_add 3 [.ref 148, .long l2, .long (0 : Int64)] s6 s10 ∧
        ∃ (v14 : Int32) (s12 : st_T), Wd s12 ∧ fn_ γ m_X2_hasStepTo d [.ref 147, .int l1, .long l2, .int l4] s10 (.int v14) s12 ∧
        (v14 = 0 ∨ v14 = 1) ∧
        Q (.inl (some (.int v14))) s12
      ) ∧ (¬ v8 = (0 : Int32) →
        Q (.inl (some (.int (0 : Int32)))) s6
      )
    )
  ) ∧ (¬ v3 = (0 : Int32) →
    ∃ (v18 : Int32) (s16 : st_T), Wd s16 ∧ fn_ γ m_X4_codeOf 0 [.long l2] s1 (.int v18) s16 ∧
    (v18 = l1 →
      Q (.inl (some (.int (1 : Int32)))) s16
    ) ∧ (¬ v18 = l1 →
      Q (.inl (some (.int (0 : Int32)))) s16
    )
  )
set_option maxRecDepth 10000 in
theorem g_X2_leadsTo_0 {γ : ga_T} {d : Nat} {l1 : Int32} {l2 : Int64} {l4 : Int32} {σ : st_T} {Q : rs_T → st_T → Prop} (zhd : 40 ≤ d) (zw : Wd σ) (zh : p_X2_leadsTo_0 γ d l1 l2 l4 σ Q) : vv_ γ m_X2_leadsTo (d + 1) 0 [(0, .ref 147), (1, .int l1), (2, .long l2), (4, .int l4)] [] σ Q := by
  unfold p_X2_leadsTo_0 at zh
  refine vr_aload_n dX2_leadsTo_0 rfl rfl ?_
  refine vr_getR dX2_leadsTo_1 fl_LitmusTester_Explorer_31 (wC_147 zw) (Or.inl ⟨_, rfl⟩) (wR_147_1 zw) ?_
  refine vr_lload_n dX2_leadsTo_4 rfl rfl ?_
  obtain ⟨v3, s1, zw1, zf_2, zh⟩ := zh
  refine vc_V (As := [.long l2]) (rest := []) dX2_leadsTo_5 cV_LitmusTester_Explorer_75 (wC_153 zw) rfl rfl (Nat.le_of_ble_eq_true rfl) (by omega) (co_n zf_2 ?_)
  replace zw := zw1
  refine vr_if_eq dX2_leadsTo_8 (tgt := 25) rfl (fun zd_4 => ?_) (fun zd_4 => ?_)
  · replace zh := zh.1 zd_4
    refine vr_iload dX2_leadsTo_25 rfl ?_
    refine vr_bipush dX2_leadsTo_27 (v := (18 : Int32)) (by decide) ?_
    refine vr_ic_ge dX2_leadsTo_29 (tgt := 43) rfl (fun zd_5 => ?_) (fun zd_5 => ?_)
    · replace zh := zh.1 zd_5
      refine vr_iconst dX2_leadsTo_43 (v := (0 : Int32)) (by decide) ?_
      exact vr_zret dX2_leadsTo_44 rfl (Or.inl rfl) zh
    · replace zh := zh.2 zd_5
      refine vr_aload_n dX2_leadsTo_32 rfl rfl ?_
      refine vr_getR dX2_leadsTo_33 fl_LitmusTester_Explorer_12 (wC_147 zw) (Or.inl ⟨_, rfl⟩) (wR_147_2 zw) ?_
      refine vr_lload_n dX2_leadsTo_36 rfl rfl ?_
      obtain ⟨v8, s6, zw1, zf_7, zh⟩ := zh
      refine vc_V (As := [.long l2]) (rest := []) dX2_leadsTo_37 cV_LitmusTester_Explorer_118 (wC_148 zw) rfl rfl (Nat.le_of_ble_eq_true rfl) (by omega) (co_n zf_7 ?_)
      replace zw := zw1
      refine vr_if_eq dX2_leadsTo_40 (tgt := 45) rfl (fun zd_9 => ?_) (fun zd_9 => ?_)
      · replace zh := zh.1 zd_9
        refine vr_aload_n dX2_leadsTo_45 rfl rfl ?_
        refine vr_getR dX2_leadsTo_46 fl_LitmusTester_Explorer_12 (wC_147 zw) (Or.inl ⟨_, rfl⟩) (wR_147_2 zw) ?_
        refine vr_lload_n dX2_leadsTo_49 rfl rfl ?_
        refine vr_lconst dX2_leadsTo_50 (v := (0 : Int64)) (by decide) ?_
        obtain ⟨s10, zw1, zf_11, zh⟩ := zh
        refine vc_V (As := [.long l2, .long (0 : Int64)]) (rest := []) dX2_leadsTo_51 cV_LitmusTester_Explorer_46 (wC_148 zw) rfl rfl (Nat.le_of_ble_eq_true rfl) (by omega) (co_v zf_11 ?_)
        replace zw := zw1
        refine vr_aload_n dX2_leadsTo_54 rfl rfl ?_
        refine vr_iload_n dX2_leadsTo_55 rfl rfl ?_
        refine vr_lload_n dX2_leadsTo_56 rfl rfl ?_
        refine vr_iload dX2_leadsTo_57 rfl ?_
        obtain ⟨v14, s12, zw1, zf_13, zh⟩ := zh
        refine vc_V (As := [.int l1, .long l2, .int l4]) (rest := []) dX2_leadsTo_59 cV_LitmusTester_Explorer_121 (wC_147 zw) rfl rfl (Nat.le_of_ble_eq_true rfl) (Nat.le_refl _) (co_n zf_13 ?_)
        replace zw := zw1
        obtain ⟨zb_15, zh⟩ := zh
        exact vr_zret dX2_leadsTo_62 rfl zb_15 zh
      · replace zh := zh.2 zd_9
        refine vr_iconst dX2_leadsTo_43 (v := (0 : Int32)) (by decide) ?_
        exact vr_zret dX2_leadsTo_44 rfl (Or.inl rfl) zh
  · replace zh := zh.2 zd_4
    refine vr_lload_n dX2_leadsTo_11 rfl rfl ?_
    obtain ⟨v18, s16, zw1, zf_17, zh⟩ := zh
    refine vc_S (As := [.long l2]) (rest := []) dX2_leadsTo_12 cS_LitmusTester_Explorer_79 rfl rfl (Nat.le_of_ble_eq_true rfl) (by omega) (co_n zf_17 ?_)
    replace zw := zw1
    refine vr_iload_n dX2_leadsTo_15 rfl rfl ?_
    refine vr_ic_ne dX2_leadsTo_16 (tgt := 23) rfl (fun zd_19 => ?_) (fun zd_19 => ?_)
    · replace zh := zh.2 zd_19
      refine vr_iconst dX2_leadsTo_23 (v := (0 : Int32)) (by decide) ?_
      exact vr_zret dX2_leadsTo_24 rfl (Or.inl rfl) zh
    · replace zh := zh.1 zd_19
      refine vr_iconst dX2_leadsTo_19 (v := (1 : Int32)) (by decide) ?_
      refine vr_goto dX2_leadsTo_20 (tgt := 24) rfl ?_
      exact vr_zret dX2_leadsTo_24 rfl (Or.inr rfl) zh
theorem e_X2_leadsTo {γ : ga_T} {d : Nat} {l1 : Int32} {l2 : Int64} {l4 : Int32} {σ : st_T} {Q : rs_T → st_T → Prop} (zhd : 40 ≤ d) (zw : Wd σ) (zh : p_X2_leadsTo_0 γ d l1 l2 l4 σ Q) : sp_ γ m_X2_leadsTo (d + 1) [.ref 147, .int l1, .long l2, .int l4] σ Q := sp_of (pl_X2_leadsTo) rfl (Nat.le_of_ble_eq_true rfl) (g_X2_leadsTo_0 zhd zw zh)
def p_X2_hasStepTo_0 (γ : ga_T) (d : Nat) (l1 : Int32) (l2 : Int64) (l4 : Int32) (σ : st_T) (Q : rs_T → st_T → Prop) : Prop :=
  vv_ γ m_X2_hasStepTo (d + 1) 3 [(0, .ref 147), (1, .int l1), (2, .long l2), (4, .int l4), (5, .int (0 : Int32))] [] σ Q
set_option maxRecDepth 10000 in
theorem g_X2_hasStepTo_0 {γ : ga_T} {d : Nat} {l1 : Int32} {l2 : Int64} {l4 : Int32} {σ : st_T} {Q : rs_T → st_T → Prop} (zhd : 40 ≤ d) (zw : Wd σ) (zh : p_X2_hasStepTo_0 γ d l1 l2 l4 σ Q) : vv_ γ m_X2_hasStepTo (d + 1) 0 [(0, .ref 147), (1, .int l1), (2, .long l2), (4, .int l4)] [] σ Q := by
  unfold p_X2_hasStepTo_0 at zh
  refine vr_iconst dX2_hasStepTo_0 (v := (0 : Int32)) (by decide) ?_
  refine vr_istore dX2_hasStepTo_1 (Nat.le_of_ble_eq_true rfl) (vv_eq (ls' := [(0, .ref 147), (1, .int l1), (2, .long l2), (4, .int l4), (5, .int (0 : Int32))]) rfl ?_)
  exact vv_sub (ls' := [(0, .ref 147), (1, .int l1), (2, .long l2), (4, .int l4), (5, .int (0 : Int32))]) ⟨rfl, rfl, rfl, rfl, rfl, trivial⟩ zh
theorem e_X2_hasStepTo {γ : ga_T} {d : Nat} {l1 : Int32} {l2 : Int64} {l4 : Int32} {σ : st_T} {Q : rs_T → st_T → Prop} (zhd : 40 ≤ d) (zw : Wd σ) (zh : p_X2_hasStepTo_0 γ d l1 l2 l4 σ Q) : sp_ γ m_X2_hasStepTo (d + 1) [.ref 147, .int l1, .long l2, .int l4] σ Q := sp_of (pl_X2_hasStepTo) rfl (Nat.le_of_ble_eq_true rfl) (g_X2_hasStepTo_0 zhd zw zh)
def p_X2_hasStepTo_3 (γ : ga_T) (d : Nat) (l1 : Int32) (l2 : Int64) (l4 : Int32) (l5 : Int32) (σ : st_T) (Q : rs_T → st_T → Prop) : Prop :=
  ∃ (v3 : Int32) (s1 : st_T), Wd s1 ∧ fn_ γ m_X4_threads 1 [.ref 153] σ (.int v3) s1 ∧
  (v3 ≤ l5 →
    Q (.inl (some (.int (0 : Int32)))) s1
  ) ∧ (¬ v3 ≤ l5 →
    ∃ (v7 : Int32) (s5 : st_T), Wd s5 ∧ fn_ γ m_X4_parts 1 [.ref 153, .long l2, .int l5] s1 (.int v7) s5 ∧
    vv_ γ m_X2_hasStepTo (d + 1) 30 [(0, .ref 147), (1, .int l1), (2, .long l2), (4, .int l4), (5, .int l5), (6, .int v7), (7, .int (0 : Int32))] [] s5 Q
  )
set_option maxRecDepth 10000 in
theorem g_X2_hasStepTo_3 {γ : ga_T} {d : Nat} {l1 : Int32} {l2 : Int64} {l4 : Int32} {l5 : Int32} {σ : st_T} {Q : rs_T → st_T → Prop} (zhd : 40 ≤ d) (zw : Wd σ) (zh : p_X2_hasStepTo_3 γ d l1 l2 l4 l5 σ Q) : vv_ γ m_X2_hasStepTo (d + 1) 3 [(0, .ref 147), (1, .int l1), (2, .long l2), (4, .int l4), (5, .int l5)] [] σ Q := by
  unfold p_X2_hasStepTo_3 at zh
  refine vr_iload dX2_hasStepTo_3 rfl ?_
  refine vr_aload_n dX2_hasStepTo_5 rfl rfl ?_
  refine vr_getR dX2_hasStepTo_6 fl_LitmusTester_Explorer_31 (wC_147 zw) (Or.inl ⟨_, rfl⟩) (wR_147_1 zw) ?_
  obtain ⟨v3, s1, zw1, zf_2, zh⟩ := zh
  refine vc_V (As := []) (rest := [.int l5]) dX2_hasStepTo_9 cV_LitmusTester_Explorer_62 (wC_153 zw) rfl rfl (Nat.le_of_ble_eq_true rfl) (by omega) (co_n zf_2 ?_)
  replace zw := zw1
  refine vr_ic_ge dX2_hasStepTo_12 (tgt := 143) rfl (fun zd_4 => ?_) (fun zd_4 => ?_)
  · replace zh := zh.1 zd_4
    refine vr_iconst dX2_hasStepTo_143 (v := (0 : Int32)) (by decide) ?_
    exact vr_zret dX2_hasStepTo_144 rfl (Or.inl rfl) zh
  · replace zh := zh.2 zd_4
    refine vr_aload_n dX2_hasStepTo_15 rfl rfl ?_
    refine vr_getR dX2_hasStepTo_16 fl_LitmusTester_Explorer_31 (wC_147 zw) (Or.inl ⟨_, rfl⟩) (wR_147_1 zw) ?_
    refine vr_lload_n dX2_hasStepTo_19 rfl rfl ?_
    refine vr_iload dX2_hasStepTo_20 rfl ?_
    obtain ⟨v7, s5, zw1, zf_6, zh⟩ := zh
    refine vc_V (As := [.long l2, .int l5]) (rest := []) dX2_hasStepTo_22 cV_LitmusTester_Explorer_65 (wC_153 zw) rfl rfl (Nat.le_of_ble_eq_true rfl) (by omega) (co_n zf_6 ?_)
    replace zw := zw1
    refine vr_istore dX2_hasStepTo_25 (Nat.le_of_ble_eq_true rfl) (vv_eq (ls' := [(0, .ref 147), (1, .int l1), (2, .long l2), (4, .int l4), (5, .int l5), (6, .int v7)]) rfl ?_)
    refine vr_iconst dX2_hasStepTo_27 (v := (0 : Int32)) (by decide) ?_
    refine vr_istore dX2_hasStepTo_28 (Nat.le_of_ble_eq_true rfl) (vv_eq (ls' := [(0, .ref 147), (1, .int l1), (2, .long l2), (4, .int l4), (5, .int l5), (6, .int v7), (7, .int (0 : Int32))]) rfl ?_)
    exact vv_sub (ls' := [(0, .ref 147), (1, .int l1), (2, .long l2), (4, .int l4), (5, .int l5), (6, .int v7), (7, .int (0 : Int32))]) ⟨rfl, rfl, rfl, rfl, rfl, rfl, rfl, trivial⟩ zh
def p_X2_hasStepTo_30 (γ : ga_T) (d : Nat) (l1 : Int32) (l2 : Int64) (l4 : Int32) (l5 : Int32) (l6 : Int32) (l7 : Int32) (σ : st_T) (Q : rs_T → st_T → Prop) : Prop :=
  (l6 ≤ l7 →
    vv_ γ m_X2_hasStepTo (d + 1) 3 [(0, .ref 147), (1, .int l1), (2, .long l2), (4, .int l4), (5, .int (l5 + 1))] [] σ Q
  ) ∧ (¬ l6 ≤ l7 →
    ∃ (v4 : Int64) (s2 : st_T), Wd s2 ∧ fn_ γ m_X4_after 3 [.ref 153, .long l2, .int l5, .int l7] σ (.long v4) s2 ∧
    (v4 = (-1 : Int64) →
      vv_ γ m_X2_hasStepTo (d + 1) 30 [(0, .ref 147), (1, .int l1), (2, .long l2), (4, .int l4), (5, .int l5), (6, .int l6), (7, .int (l7 + 1))] [] s2 Q
    ) ∧ (¬ v4 = (-1 : Int64) →
      ∃ (v8 : Int32) (s6 : st_T), Wd s6 ∧ fn_ γ m_X4_isContradicted 2 [.ref 153, .long l2, .long v4, .int l5, .int l1] s2 (.int v8) s6 ∧
      (v8 = (0 : Int32) →
        (l4 < (0 : Int32) →
          vv_ γ m_X2_hasStepTo (d + 1) 30 [(0, .ref 147), (1, .int l1), (2, .long l2), (4, .int l4), (5, .int l5), (6, .int l6), (7, .int (l7 + 1))] [] s6 Q
        ) ∧ (¬ l4 < (0 : Int32) →
          ((18 : Int32) ≤ l4 →
            vv_ γ m_X2_hasStepTo (d + 1) 30 [(0, .ref 147), (1, .int l1), (2, .long l2), (4, .int l4), (5, .int l5), (6, .int l6), (7, .int (l7 + 1))] [] s6 Q
          ) ∧ (¬ (18 : Int32) ≤ l4 →
            ∃ (v14 : Int32) (s12 : st_T), Wd s12 ∧ fn_ γ m_X2_leadsTo d [.ref 147, .int l1, .long v4, .int (l4 + (1 : Int32))] s6 (.int v14) s12 ∧
            (v14 = (0 : Int32) →
              vv_ γ m_X2_hasStepTo (d + 1) 30 [(0, .ref 147), (1, .int l1), (2, .long l2), (4, .int l4), (5, .int l5), (6, .int l6), (7, .int (l7 + 1))] [] s12 Q
            ) ∧ (¬ v14 = (0 : Int32) →
              vp_in l4 18 ∧
              Q (.inl (some (.int (1 : Int32)))) (pt_I s12 152 l4.toNatClampNeg (((10 : Int32) * l5) + l7))
            )
          )
        )
      ) ∧ (¬ v8 = (0 : Int32) →
        vv_ γ m_X2_hasStepTo (d + 1) 30 [(0, .ref 147), (1, .int l1), (2, .long l2), (4, .int l4), (5, .int l5), (6, .int l6), (7, .int (l7 + 1))] [] s6 Q
      )
    )
  )
set_option maxRecDepth 10000 in
theorem g_X2_hasStepTo_30 {γ : ga_T} {d : Nat} {l1 : Int32} {l2 : Int64} {l4 : Int32} {l5 : Int32} {l6 : Int32} {l7 : Int32} {σ : st_T} {Q : rs_T → st_T → Prop} (zhd : 40 ≤ d) (zw : Wd σ) (zh : p_X2_hasStepTo_30 γ d l1 l2 l4 l5 l6 l7 σ Q) : vv_ γ m_X2_hasStepTo (d + 1) 30 [(0, .ref 147), (1, .int l1), (2, .long l2), (4, .int l4), (5, .int l5), (6, .int l6), (7, .int l7)] [] σ Q := by
  unfold p_X2_hasStepTo_30 at zh
  refine vr_iload dX2_hasStepTo_30 rfl ?_
  refine vr_iload dX2_hasStepTo_32 rfl ?_
  refine vr_ic_ge dX2_hasStepTo_34 (tgt := 137) rfl (fun zd_1 => ?_) (fun zd_1 => ?_)
  · replace zh := zh.1 zd_1
    refine vr_iinc dX2_hasStepTo_137 (x := l5) (v := (l5 + 1)) rfl (ii_ (by decide)) (Nat.le_of_ble_eq_true rfl) (vv_eq (ls' := [(0, .ref 147), (1, .int l1), (2, .long l2), (4, .int l4), (5, .int (l5 + 1)), (6, .int l6), (7, .int l7)]) rfl ?_)
    refine vr_goto dX2_hasStepTo_140 (tgt := 3) rfl ?_
    exact vv_sub (ls' := [(0, .ref 147), (1, .int l1), (2, .long l2), (4, .int l4), (5, .int (l5 + 1))]) ⟨rfl, rfl, rfl, rfl, rfl, trivial⟩ zh
  · replace zh := zh.2 zd_1
    refine vr_aload_n dX2_hasStepTo_37 rfl rfl ?_
    refine vr_getR dX2_hasStepTo_38 fl_LitmusTester_Explorer_31 (wC_147 zw) (Or.inl ⟨_, rfl⟩) (wR_147_1 zw) ?_
    refine vr_lload_n dX2_hasStepTo_41 rfl rfl ?_
    refine vr_iload dX2_hasStepTo_42 rfl ?_
    refine vr_iload dX2_hasStepTo_44 rfl ?_
    obtain ⟨v4, s2, zw1, zf_3, zh⟩ := zh
    refine vc_V (As := [.long l2, .int l5, .int l7]) (rest := []) dX2_hasStepTo_46 cV_LitmusTester_Explorer_69 (wC_153 zw) rfl rfl (Nat.le_of_ble_eq_true rfl) (by omega) (co_n zf_3 ?_)
    replace zw := zw1
    refine vr_lstore dX2_hasStepTo_49 (Nat.le_of_ble_eq_true rfl) (vv_eq (ls' := [(0, .ref 147), (1, .int l1), (2, .long l2), (4, .int l4), (5, .int l5), (6, .int l6), (7, .int l7), (8, .long v4)]) rfl ?_)
    refine vr_lload dX2_hasStepTo_51 rfl ?_
    refine vr_ldc2 dX2_hasStepTo_53 (v := (-1 : Int64)) tw_1280 ?_
    refine vr_lcmp dX2_hasStepTo_56 ?_
    refine vr_if_eq dX2_hasStepTo_57 (tgt := 80) rfl (fun zd_5 => ?_) (fun zd_5 => ?_)
    · replace zh := zh.1 ((lg_cmp_eq _ _).mp zd_5)
      refine vr_iconst dX2_hasStepTo_80 (v := (0 : Int32)) (by decide) ?_
      refine vr_istore dX2_hasStepTo_81 (Nat.le_of_ble_eq_true rfl) (vv_eq (ls' := [(0, .ref 147), (1, .int l1), (2, .long l2), (4, .int l4), (5, .int l5), (6, .int l6), (7, .int l7), (8, .long v4), (10, .int (0 : Int32))]) rfl ?_)
      refine vr_iload dX2_hasStepTo_83 rfl ?_
      refine vr_if_eq dX2_hasStepTo_85 (tgt := 131) rfl (fun _ => ?_) (fun c => absurd (by decide) c)
      refine vr_iinc dX2_hasStepTo_131 (x := l7) (v := (l7 + 1)) rfl (ii_ (by decide)) (Nat.le_of_ble_eq_true rfl) (vv_eq (ls' := [(0, .ref 147), (1, .int l1), (2, .long l2), (4, .int l4), (5, .int l5), (6, .int l6), (7, .int (l7 + 1)), (8, .long v4), (10, .int (0 : Int32))]) rfl ?_)
      refine vr_goto dX2_hasStepTo_134 (tgt := 30) rfl ?_
      exact vv_sub (ls' := [(0, .ref 147), (1, .int l1), (2, .long l2), (4, .int l4), (5, .int l5), (6, .int l6), (7, .int (l7 + 1))]) ⟨rfl, rfl, rfl, rfl, rfl, rfl, rfl, trivial⟩ zh
    · replace zh := zh.2 (fun z => zd_5 ((lg_cmp_eq _ _).mpr z))
      refine vr_aload_n dX2_hasStepTo_60 rfl rfl ?_
      refine vr_getR dX2_hasStepTo_61 fl_LitmusTester_Explorer_31 (wC_147 zw) (Or.inl ⟨_, rfl⟩) (wR_147_1 zw) ?_
      refine vr_lload_n dX2_hasStepTo_64 rfl rfl ?_
      refine vr_lload dX2_hasStepTo_65 rfl ?_
      refine vr_iload dX2_hasStepTo_67 rfl ?_
      refine vr_iload_n dX2_hasStepTo_69 rfl rfl ?_
      obtain ⟨v8, s6, zw1, zf_7, zh⟩ := zh
      refine vc_V (As := [.long l2, .long v4, .int l5, .int l1]) (rest := []) dX2_hasStepTo_70 cV_LitmusTester_Explorer_124 (wC_153 zw) rfl rfl (Nat.le_of_ble_eq_true rfl) (by omega) (co_n zf_7 ?_)
      replace zw := zw1
      refine vr_if_ne dX2_hasStepTo_73 (tgt := 80) rfl (fun zd_9 => ?_) (fun zd_9 => ?_)
      · replace zh := zh.2 zd_9
        refine vr_iconst dX2_hasStepTo_80 (v := (0 : Int32)) (by decide) ?_
        refine vr_istore dX2_hasStepTo_81 (Nat.le_of_ble_eq_true rfl) (vv_eq (ls' := [(0, .ref 147), (1, .int l1), (2, .long l2), (4, .int l4), (5, .int l5), (6, .int l6), (7, .int l7), (8, .long v4), (10, .int (0 : Int32))]) rfl ?_)
        refine vr_iload dX2_hasStepTo_83 rfl ?_
        refine vr_if_eq dX2_hasStepTo_85 (tgt := 131) rfl (fun _ => ?_) (fun c => absurd (by decide) c)
        refine vr_iinc dX2_hasStepTo_131 (x := l7) (v := (l7 + 1)) rfl (ii_ (by decide)) (Nat.le_of_ble_eq_true rfl) (vv_eq (ls' := [(0, .ref 147), (1, .int l1), (2, .long l2), (4, .int l4), (5, .int l5), (6, .int l6), (7, .int (l7 + 1)), (8, .long v4), (10, .int (0 : Int32))]) rfl ?_)
        refine vr_goto dX2_hasStepTo_134 (tgt := 30) rfl ?_
        exact vv_sub (ls' := [(0, .ref 147), (1, .int l1), (2, .long l2), (4, .int l4), (5, .int l5), (6, .int l6), (7, .int (l7 + 1))]) ⟨rfl, rfl, rfl, rfl, rfl, rfl, rfl, trivial⟩ zh
      · replace zh := zh.1 zd_9
        refine vr_iconst dX2_hasStepTo_76 (v := (1 : Int32)) (by decide) ?_
        refine vr_goto dX2_hasStepTo_77 (tgt := 81) rfl ?_
        refine vr_istore dX2_hasStepTo_81 (Nat.le_of_ble_eq_true rfl) (vv_eq (ls' := [(0, .ref 147), (1, .int l1), (2, .long l2), (4, .int l4), (5, .int l5), (6, .int l6), (7, .int l7), (8, .long v4), (10, .int (1 : Int32))]) rfl ?_)
        refine vr_iload dX2_hasStepTo_83 rfl ?_
        refine vr_if_eq dX2_hasStepTo_85 (tgt := 131) rfl (fun c => absurd c (by decide)) (fun _ => ?_)
        refine vr_iload dX2_hasStepTo_88 rfl ?_
        refine vr_if_lt dX2_hasStepTo_90 (tgt := 131) rfl (fun zd_10 => ?_) (fun zd_10 => ?_)
        · replace zh := zh.1 zd_10
          refine vr_iinc dX2_hasStepTo_131 (x := l7) (v := (l7 + 1)) rfl (ii_ (by decide)) (Nat.le_of_ble_eq_true rfl) (vv_eq (ls' := [(0, .ref 147), (1, .int l1), (2, .long l2), (4, .int l4), (5, .int l5), (6, .int l6), (7, .int (l7 + 1)), (8, .long v4), (10, .int (1 : Int32))]) rfl ?_)
          refine vr_goto dX2_hasStepTo_134 (tgt := 30) rfl ?_
          exact vv_sub (ls' := [(0, .ref 147), (1, .int l1), (2, .long l2), (4, .int l4), (5, .int l5), (6, .int l6), (7, .int (l7 + 1))]) ⟨rfl, rfl, rfl, rfl, rfl, rfl, rfl, trivial⟩ zh
        · replace zh := zh.2 zd_10
          refine vr_iload dX2_hasStepTo_93 rfl ?_
          refine vr_bipush dX2_hasStepTo_95 (v := (18 : Int32)) (by decide) ?_
          refine vr_ic_ge dX2_hasStepTo_97 (tgt := 131) rfl (fun zd_11 => ?_) (fun zd_11 => ?_)
          · replace zh := zh.1 zd_11
            refine vr_iinc dX2_hasStepTo_131 (x := l7) (v := (l7 + 1)) rfl (ii_ (by decide)) (Nat.le_of_ble_eq_true rfl) (vv_eq (ls' := [(0, .ref 147), (1, .int l1), (2, .long l2), (4, .int l4), (5, .int l5), (6, .int l6), (7, .int (l7 + 1)), (8, .long v4), (10, .int (1 : Int32))]) rfl ?_)
            refine vr_goto dX2_hasStepTo_134 (tgt := 30) rfl ?_
            exact vv_sub (ls' := [(0, .ref 147), (1, .int l1), (2, .long l2), (4, .int l4), (5, .int l5), (6, .int l6), (7, .int (l7 + 1))]) ⟨rfl, rfl, rfl, rfl, rfl, rfl, rfl, trivial⟩ zh
          · replace zh := zh.2 zd_11
            refine vr_aload_n dX2_hasStepTo_100 rfl rfl ?_
            refine vr_iload_n dX2_hasStepTo_101 rfl rfl ?_
            refine vr_lload dX2_hasStepTo_102 rfl ?_
            refine vr_iload dX2_hasStepTo_104 rfl ?_
            refine vr_iconst dX2_hasStepTo_106 (v := (1 : Int32)) (by decide) ?_
            refine vr_iadd dX2_hasStepTo_107 ?_
            obtain ⟨v14, s12, zw1, zf_13, zh⟩ := zh
            refine vc_V (As := [.int l1, .long v4, .int (l4 + (1 : Int32))]) (rest := []) dX2_hasStepTo_108 cV_LitmusTester_Explorer_106 (wC_147 zw) rfl rfl (Nat.le_of_ble_eq_true rfl) (Nat.le_refl _) (co_n zf_13 ?_)
            replace zw := zw1
            refine vr_if_eq dX2_hasStepTo_111 (tgt := 131) rfl (fun zd_15 => ?_) (fun zd_15 => ?_)
            · replace zh := zh.1 zd_15
              refine vr_iinc dX2_hasStepTo_131 (x := l7) (v := (l7 + 1)) rfl (ii_ (by decide)) (Nat.le_of_ble_eq_true rfl) (vv_eq (ls' := [(0, .ref 147), (1, .int l1), (2, .long l2), (4, .int l4), (5, .int l5), (6, .int l6), (7, .int (l7 + 1)), (8, .long v4), (10, .int (1 : Int32))]) rfl ?_)
              refine vr_goto dX2_hasStepTo_134 (tgt := 30) rfl ?_
              exact vv_sub (ls' := [(0, .ref 147), (1, .int l1), (2, .long l2), (4, .int l4), (5, .int l5), (6, .int l6), (7, .int (l7 + 1))]) ⟨rfl, rfl, rfl, rfl, rfl, rfl, rfl, trivial⟩ zh
            · replace zh := zh.2 zd_15
              refine vr_aload_n dX2_hasStepTo_114 rfl rfl ?_
              refine vr_getR dX2_hasStepTo_115 fl_LitmusTester_Explorer_18 (wC_147 zw) (Or.inr ⟨_, rfl⟩) (wR_147_3 zw) ?_
              refine vr_iload dX2_hasStepTo_118 rfl ?_
              refine vr_bipush dX2_hasStepTo_120 (v := (10 : Int32)) (by decide) ?_
              refine vr_iload dX2_hasStepTo_122 rfl ?_
              refine vr_imul dX2_hasStepTo_124 ?_
              refine vr_iload dX2_hasStepTo_125 rfl ?_
              refine vr_iadd dX2_hasStepTo_127 ?_
              obtain ⟨zi_16, zh⟩ := zh
              refine vr_iastore dX2_hasStepTo_128 (wS_152 zw) zi_16 ?_
              refine vr_iconst dX2_hasStepTo_129 (v := (1 : Int32)) (by decide) ?_
              exact vr_zret dX2_hasStepTo_130 rfl (Or.inr rfl) zh
