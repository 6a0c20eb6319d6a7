def p_X10_split_0 (γ : ga_T) (l1 : Int32) (σ : st_T) (Q : rs_T → st_T → Prop) : Prop :=
  vv_ γ m_X10_split 16 27 [(0, .ref 143), (2, .int (0 : Int32)), (3, .int (0 : Int32))] [] (pt_I (pt_I (pt_I σ 143 4 (if (600 : Int32) < l1 then (600 : Int32) else l1)) 143 5 (0 : Int32)) 143 6 (0 : Int32)) Q
set_option maxRecDepth 10000 in
theorem g_X10_split_0 {γ : ga_T} {l1 : Int32} {σ : st_T} {Q : rs_T → st_T → Prop} (zw : Wd σ) (zh : p_X10_split_0 γ l1 σ Q) : vv_ γ m_X10_split 16 0 [(0, .ref 143), (1, .int l1)] [] σ Q := by
  unfold p_X10_split_0 at zh
  refine vr_aload_n dX10_split_0 rfl rfl ?_
  refine vr_iload_n dX10_split_1 rfl rfl ?_
  refine vr_aload_n dX10_split_2 rfl rfl ?_
  refine vr_getR dX10_split_3 fl_LitmusTester_Tokens_35 (wC_143 zw) (Or.inr ⟨_, rfl⟩) (wR_143_0 zw) ?_
  refine vr_alen dX10_split_6 (wS_129 zw) (Nat.le_of_ble_eq_true rfl) (Nat.le_of_ble_eq_true rfl) (v := (600 : Int32)) (by decide) ?_
  refine vr_mmin dX10_split_7 mm_LitmusTester_Tokens_39 (Nat.le_of_ble_eq_true rfl) (Nat.le_of_ble_eq_true rfl) ?_
  refine vr_putI dX10_split_10 fl_LitmusTester_Tokens_25 (wC_143 zw) rfl (fz_9_4) ?_
  refine vr_aload_n dX10_split_13 rfl rfl ?_
  refine vr_iconst dX10_split_14 (v := (0 : Int32)) (by decide) ?_
  refine vr_putI dX10_split_15 fl_LitmusTester_Tokens_29 (wC_143 zw) rfl (fz_9_5) ?_
  refine vr_aload_n dX10_split_18 rfl rfl ?_
  refine vr_iconst dX10_split_19 (v := (0 : Int32)) (by decide) ?_
  refine vr_putI dX10_split_20 fl_LitmusTester_Tokens_32 (wC_143 zw) rfl (fz_9_6) ?_
  refine vr_iconst dX10_split_23 (v := (0 : Int32)) (by decide) ?_
  refine vr_istore_n dX10_split_24 rfl (Nat.le_of_ble_eq_true rfl) (vv_eq (ls' := [(0, .ref 143), (1, .int l1), (2, .int (0 : Int32))]) rfl ?_)
  refine vr_iconst dX10_split_25 (v := (0 : Int32)) (by decide) ?_
  refine vr_istore_n dX10_split_26 rfl (Nat.le_of_ble_eq_true rfl) (vv_eq (ls' := [(0, .ref 143), (1, .int l1), (2, .int (0 : Int32)), (3, .int (0 : Int32))]) rfl ?_)
  exact vv_sub (ls' := [(0, .ref 143), (2, .int (0 : Int32)), (3, .int (0 : Int32))]) ⟨rfl, rfl, rfl, trivial⟩ zh
theorem e_X10_split {γ : ga_T} {l1 : Int32} {σ : st_T} {Q : rs_T → st_T → Prop} (zw : Wd σ) (zh : p_X10_split_0 γ l1 σ Q) : sp_ γ m_X10_split 16 [.ref 143, .int l1] σ Q := sp_of (pl_X10_split) rfl (Nat.le_of_ble_eq_true rfl) (g_X10_split_0 zw zh)
def p_X10_split_27 (γ : ga_T) (l2 : Int32) (l3 : Int32) (σ : st_T) (Q : rs_T → st_T → Prop) : Prop :=
  ((600 : Int32) < l3 →
    Q (.inl none) σ
  ) ∧ (¬ (600 : Int32) < l3 →
    (l2 = (0 : Int32) →
      ∃ s3, Wd s3 ∧ fw_ γ m_X10_skipBlanks 0 [.ref 143] σ s3 ∧
      ((st_I s3 143 5) < (st_I s3 143 4) →
        vp_in l3 601 ∧
        vp_in l3 601 ∧
        ∃ (v10 : Nat) (s8 : st_T), Wd s8 ∧ fn_ γ m_X10_scanToken 15 [.ref 143, .int l3] (pt_L (pt_I s3 145 l3.toNatClampNeg (st_I s3 143 5)) 146 l3.toNatClampNeg (-1 : Int64)) (.ref v10) s8 ∧
        vp_in l3 601 ∧
        v10 < 21 ∧
        vv_ γ m_X10_split 16 27 [(0, .ref 143), (2, .int (0 : Int32)), (3, .int (l3 + 1))] [] (pt_R s8 144 l3.toNatClampNeg (some v10)) Q
      ) ∧ (¬ (st_I s3 143 5) < (st_I s3 143 4) →
        vp_in l3 601 ∧
        vp_in l3 601 ∧
        vp_in l3 601 ∧
        vv_ γ m_X10_split 16 27 [(0, .ref 143), (2, .int (1 : Int32)), (3, .int (l3 + 1))] [] (pt_R (pt_L (pt_I s3 145 l3.toNatClampNeg (st_I s3 143 5)) 146 l3.toNatClampNeg (-1 : Int64)) 144 l3.toNatClampNeg (some 0)) Q
      )
    ) ∧ (¬ l2 = (0 : Int32) →
      Q (.inl none) σ
    )
  )
set_option maxRecDepth 10000 in
theorem g_X10_split_27 {γ : ga_T} {l2 : Int32} {l3 : Int32} {σ : st_T} {Q : rs_T → st_T → Prop} (zw : Wd σ) (zh : p_X10_split_27 γ l2 l3 σ Q) : vv_ γ m_X10_split 16 27 [(0, .ref 143), (2, .int l2), (3, .int l3)] [] σ Q := by
  unfold p_X10_split_27 at zh
  refine vr_iload_n dX10_split_27 rfl rfl ?_
  refine vr_sipush dX10_split_28 (v := (600 : Int32)) (by decide) ?_
  refine vr_ic_gt dX10_split_31 (tgt := 105) rfl (fun zd_1 => ?_) (fun zd_1 => ?_)
  · replace zh := zh.1 zd_1
    exact vr_vret dX10_split_105 rfl zh
  · replace zh := zh.2 zd_1
    refine vr_iload_n dX10_split_34 rfl rfl ?_
    refine vr_if_ne dX10_split_35 (tgt := 105) rfl (fun zd_2 => ?_) (fun zd_2 => ?_)
    · replace zh := zh.2 zd_2
      exact vr_vret dX10_split_105 rfl zh
    · replace zh := zh.1 zd_2
      refine vr_aload_n dX10_split_38 rfl rfl ?_
      obtain ⟨s3, zw1, zf_4, zh⟩ := zh
      refine vc_V (As := []) (rest := []) dX10_split_39 cV_LitmusTester_Tokens_45 (wC_143 zw) rfl rfl (Nat.le_of_ble_eq_true rfl) (Nat.le_of_ble_eq_true rfl) (co_v zf_4 ?_)
      replace zw := zw1
      refine vr_aload_n dX10_split_42 rfl rfl ?_
      refine vr_getI dX10_split_43 fl_LitmusTester_Tokens_29 (wC_143 zw) rfl ?_
      refine vr_aload_n dX10_split_46 rfl rfl ?_
      refine vr_getI dX10_split_47 fl_LitmusTester_Tokens_25 (wC_143 zw) rfl ?_
      refine vr_ic_lt dX10_split_50 (tgt := 57) rfl (fun zd_5 => ?_) (fun zd_5 => ?_)
      · replace zh := zh.1 zd_5
        refine vr_iconst dX10_split_57 (v := (0 : Int32)) (by decide) ?_
        refine vr_istore_n dX10_split_58 rfl (Nat.le_of_ble_eq_true rfl) (vv_eq (ls' := [(0, .ref 143), (2, .int (0 : Int32)), (3, .int l3)]) rfl ?_)
        refine vr_aload_n dX10_split_59 rfl rfl ?_
        refine vr_getR dX10_split_60 fl_LitmusTester_Tokens_17 (wC_143 zw) (Or.inr ⟨_, rfl⟩) (wR_143_2 zw) ?_
        refine vr_iload_n dX10_split_63 rfl rfl ?_
        refine vr_aload_n dX10_split_64 rfl rfl ?_
        refine vr_getI dX10_split_65 fl_LitmusTester_Tokens_29 (wC_143 zw) rfl ?_
        obtain ⟨zi_6, zh⟩ := zh
        refine vr_iastore dX10_split_68 (wS_145 zw) zi_6 ?_
        refine vr_aload_n dX10_split_69 rfl rfl ?_
        refine vr_getR dX10_split_70 fl_LitmusTester_Tokens_21 (wC_143 zw) (Or.inr ⟨_, rfl⟩) (wR_143_3 zw) ?_
        refine vr_iload_n dX10_split_73 rfl rfl ?_
        refine vr_ldc2 dX10_split_74 (v := (-1 : Int64)) tw_518 ?_
        obtain ⟨zi_7, zh⟩ := zh
        refine vr_lastore dX10_split_77 (wS_146 zw) zi_7 ?_
        refine vr_aload_n dX10_split_78 rfl rfl ?_
        refine vr_getR dX10_split_79 fl_LitmusTester_Tokens_11 (wC_143 zw) (Or.inr ⟨_, rfl⟩) (wR_143_1 zw) ?_
        refine vr_iload_n dX10_split_82 rfl rfl ?_
        refine vr_iload_n dX10_split_83 rfl rfl ?_
        refine vr_if_eq dX10_split_84 (tgt := 93) rfl (fun _ => ?_) (fun c => absurd (by decide) c)
        refine vr_aload_n dX10_split_93 rfl rfl ?_
        refine vr_iload_n dX10_split_94 rfl rfl ?_
        obtain ⟨v10, s8, zw1, zf_9, zh⟩ := zh
        refine vc_V (As := [.int l3]) (rest := [.int l3, .ref 144]) dX10_split_95 cV_LitmusTester_Tokens_54 (wC_143 zw) rfl rfl (Nat.le_of_ble_eq_true rfl) (Nat.le_of_ble_eq_true rfl) (co_n zf_9 ?_)
        replace zw := zw1
        obtain ⟨zi_11, zh⟩ := zh
        obtain ⟨zg_12, zh⟩ := zh
        refine vr_aastoreE dX10_split_98 (wS_144 zw) zi_11 zg_12 ?_
        replace zw := Wd_A (v := some v10) (k := l3.toNatClampNeg) zw wA_144
        replace zw : Wd (pt_R s8 144 l3.toNatClampNeg (some v10)) := zw
        refine vr_iinc dX10_split_99 (x := l3) (v := (l3 + 1)) rfl (ii_ (by decide)) (Nat.le_of_ble_eq_true rfl) (vv_eq (ls' := [(0, .ref 143), (2, .int (0 : Int32)), (3, .int (l3 + 1))]) rfl ?_)
        refine vr_goto dX10_split_102 (tgt := 27) rfl ?_
        exact vv_sub (ls' := [(0, .ref 143), (2, .int (0 : Int32)), (3, .int (l3 + 1))]) ⟨rfl, rfl, rfl, trivial⟩ zh
      · replace zh := zh.2 zd_5
        refine vr_iconst dX10_split_53 (v := (1 : Int32)) (by decide) ?_
        refine vr_goto dX10_split_54 (tgt := 58) rfl ?_
        refine vr_istore_n dX10_split_58 rfl (Nat.le_of_ble_eq_true rfl) (vv_eq (ls' := [(0, .ref 143), (2, .int (1 : Int32)), (3, .int l3)]) rfl ?_)
        refine vr_aload_n dX10_split_59 rfl rfl ?_
        refine vr_getR dX10_split_60 fl_LitmusTester_Tokens_17 (wC_143 zw) (Or.inr ⟨_, rfl⟩) (wR_143_2 zw) ?_
        refine vr_iload_n dX10_split_63 rfl rfl ?_
        refine vr_aload_n dX10_split_64 rfl rfl ?_
        refine vr_getI dX10_split_65 fl_LitmusTester_Tokens_29 (wC_143 zw) rfl ?_
        obtain ⟨zi_14, zh⟩ := zh
        refine vr_iastore dX10_split_68 (wS_145 zw) zi_14 ?_
        refine vr_aload_n dX10_split_69 rfl rfl ?_
        refine vr_getR dX10_split_70 fl_LitmusTester_Tokens_21 (wC_143 zw) (Or.inr ⟨_, rfl⟩) (wR_143_3 zw) ?_
        refine vr_iload_n dX10_split_73 rfl rfl ?_
        refine vr_ldc2 dX10_split_74 (v := (-1 : Int64)) tw_518 ?_
        obtain ⟨zi_15, zh⟩ := zh
        refine vr_lastore dX10_split_77 (wS_146 zw) zi_15 ?_
        refine vr_aload_n dX10_split_78 rfl rfl ?_
        refine vr_getR dX10_split_79 fl_LitmusTester_Tokens_11 (wC_143 zw) (Or.inr ⟨_, rfl⟩) (wR_143_1 zw) ?_
        refine vr_iload_n dX10_split_82 rfl rfl ?_
        refine vr_iload_n dX10_split_83 rfl rfl ?_
        refine vr_if_eq dX10_split_84 (tgt := 93) rfl (fun c => absurd c (by decide)) (fun _ => ?_)
        refine vr_getE dX10_split_87 (i := 0) (by decide) tw_519 ?_
        refine vr_goto dX10_split_90 (tgt := 98) rfl ?_
        obtain ⟨zi_16, zh⟩ := zh
        refine vr_aastoreE dX10_split_98 (wS_144 zw) zi_16 (by decide) ?_
        replace zw := Wd_A (v := some 0) (k := l3.toNatClampNeg) zw wA_144
        replace zw : Wd (pt_R (pt_L (pt_I s3 145 l3.toNatClampNeg (st_I s3 143 5)) 146 l3.toNatClampNeg (-1 : Int64)) 144 l3.toNatClampNeg (some 0)) := zw
        refine vr_iinc dX10_split_99 (x := l3) (v := (l3 + 1)) rfl (ii_ (by decide)) (Nat.le_of_ble_eq_true rfl) (vv_eq (ls' := [(0, .ref 143), (2, .int (1 : Int32)), (3, .int (l3 + 1))]) rfl ?_)
        refine vr_goto dX10_split_102 (tgt := 27) rfl ?_
        exact vv_sub (ls' := [(0, .ref 143), (2, .int (1 : Int32)), (3, .int (l3 + 1))]) ⟨rfl, rfl, rfl, trivial⟩ zh
def p_X10_skipBlanks_0 (γ : ga_T) (σ : st_T) (Q : rs_T → st_T → Prop) : Prop :=
  ((st_I σ 143 4) ≤ (st_I σ 143 5) →
    Q (.inl none) σ
  ) ∧ (¬ (st_I σ 143 4) ≤ (st_I σ 143 5) →
    vp_in (st_I σ 143 5) 600 ∧
    ((st_I σ 129 (st_I σ 143 5).toNatClampNeg) = (32 : Int32) →
      vv_ γ m_X10_skipBlanks 0 0 [(0, .ref 143)] [] (pt_I σ 143 5 ((st_I σ 143 5) + (1 : Int32))) Q
    ) ∧ (¬ (st_I σ 129 (st_I σ 143 5).toNatClampNeg) = (32 : Int32) →
      vp_in (st_I σ 143 5) 600 ∧
      ((st_I σ 129 (st_I σ 143 5).toNatClampNeg) = (10 : Int32) →
        vv_ γ m_X10_skipBlanks 0 0 [(0, .ref 143)] [] (pt_I σ 143 5 ((st_I σ 143 5) + (1 : Int32))) Q
      ) ∧ (¬ (st_I σ 129 (st_I σ 143 5).toNatClampNeg) = (10 : Int32) →
        Q (.inl none) σ
      )
    )
  )
set_option maxRecDepth 10000 in
theorem g_X10_skipBlanks_0 {γ : ga_T} {σ : st_T} {Q : rs_T → st_T → Prop} (zw : Wd σ) (zh : p_X10_skipBlanks_0 γ σ Q) : vv_ γ m_X10_skipBlanks 0 0 [(0, .ref 143)] [] σ Q := by
  unfold p_X10_skipBlanks_0 at zh
  refine vr_aload_n dX10_skipBlanks_0 rfl rfl ?_
  refine vr_getI dX10_skipBlanks_1 fl_LitmusTester_Tokens_29 (wC_143 zw) rfl ?_
  refine vr_aload_n dX10_skipBlanks_4 rfl rfl ?_
  refine vr_getI dX10_skipBlanks_5 fl_LitmusTester_Tokens_25 (wC_143 zw) rfl ?_
  refine vr_ic_ge dX10_skipBlanks_8 (tgt := 52) rfl (fun zd_1 => ?_) (fun zd_1 => ?_)
  · replace zh := zh.1 zd_1
    exact vr_vret dX10_skipBlanks_52 rfl zh
  · replace zh := zh.2 zd_1
    refine vr_aload_n dX10_skipBlanks_11 rfl rfl ?_
    refine vr_getR dX10_skipBlanks_12 fl_LitmusTester_Tokens_35 (wC_143 zw) (Or.inr ⟨_, rfl⟩) (wR_143_0 zw) ?_
    refine vr_aload_n dX10_skipBlanks_15 rfl rfl ?_
    refine vr_getI dX10_skipBlanks_16 fl_LitmusTester_Tokens_29 (wC_143 zw) rfl ?_
    obtain ⟨zi_2, zh⟩ := zh
    refine vr_baload dX10_skipBlanks_19 (Or.inl (wS_129 zw)) zi_2 ?_
    refine vr_bipush dX10_skipBlanks_20 (v := (32 : Int32)) (by decide) ?_
    refine vr_ic_eq dX10_skipBlanks_22 (tgt := 39) rfl (fun zd_3 => ?_) (fun zd_3 => ?_)
    · replace zh := zh.1 zd_3
      refine vr_aload_n dX10_skipBlanks_39 rfl rfl ?_
      refine vr_dup dX10_skipBlanks_40 rfl ?_
      refine vr_getI dX10_skipBlanks_41 fl_LitmusTester_Tokens_29 (wC_143 zw) rfl ?_
      refine vr_iconst dX10_skipBlanks_44 (v := (1 : Int32)) (by decide) ?_
      refine vr_iadd dX10_skipBlanks_45 ?_
      refine vr_putI dX10_skipBlanks_46 fl_LitmusTester_Tokens_29 (wC_143 zw) rfl (fz_9_5) ?_
      refine vr_goto dX10_skipBlanks_49 (tgt := 0) rfl ?_
      exact vv_sub (ls' := [(0, .ref 143)]) ⟨rfl, trivial⟩ zh
    · replace zh := zh.2 zd_3
      refine vr_aload_n dX10_skipBlanks_25 rfl rfl ?_
      refine vr_getR dX10_skipBlanks_26 fl_LitmusTester_Tokens_35 (wC_143 zw) (Or.inr ⟨_, rfl⟩) (wR_143_0 zw) ?_
      refine vr_aload_n dX10_skipBlanks_29 rfl rfl ?_
      refine vr_getI dX10_skipBlanks_30 fl_LitmusTester_Tokens_29 (wC_143 zw) rfl ?_
      obtain ⟨zi_4, zh⟩ := zh
      refine vr_baload dX10_skipBlanks_33 (Or.inl (wS_129 zw)) zi_4 ?_
      refine vr_bipush dX10_skipBlanks_34 (v := (10 : Int32)) (by decide) ?_
      refine vr_ic_ne dX10_skipBlanks_36 (tgt := 52) rfl (fun zd_5 => ?_) (fun zd_5 => ?_)
      · replace zh := zh.2 zd_5
        exact vr_vret dX10_skipBlanks_52 rfl zh
      · replace zh := zh.1 zd_5
        refine vr_aload_n dX10_skipBlanks_39 rfl rfl ?_
        refine vr_dup dX10_skipBlanks_40 rfl ?_
        refine vr_getI dX10_skipBlanks_41 fl_LitmusTester_Tokens_29 (wC_143 zw) rfl ?_
        refine vr_iconst dX10_skipBlanks_44 (v := (1 : Int32)) (by decide) ?_
        refine vr_iadd dX10_skipBlanks_45 ?_
        refine vr_putI dX10_skipBlanks_46 fl_LitmusTester_Tokens_29 (wC_143 zw) rfl (fz_9_5) ?_
        refine vr_goto dX10_skipBlanks_49 (tgt := 0) rfl ?_
        exact vv_sub (ls' := [(0, .ref 143)]) ⟨rfl, trivial⟩ zh
theorem e_X10_skipBlanks {γ : ga_T} {σ : st_T} {Q : rs_T → st_T → Prop} (zw : Wd σ) (zh : p_X10_skipBlanks_0 γ σ Q) : sp_ γ m_X10_skipBlanks 0 [.ref 143] σ Q := sp_of (pl_X10_skipBlanks) rfl (Nat.le_of_ble_eq_true rfl) (g_X10_skipBlanks_0 zw zh)
def p_X10_scanToken_0 (γ : ga_T) (l1 : Int32) (σ : st_T) (Q : rs_T → st_T → Prop) : Prop :=
  ((st_I σ 143 4) ≤ (st_I σ 143 5) →
    ((st_I σ 143 4) ≤ (st_I σ 143 5) →
      ∃ (v5 : Nat) (s3 : st_T), Wd s3 ∧ fn_ γ m_X10_fixedSign 13 [.ref 143, .int (st_I σ 143 5), .ref 1] (pt_I σ 143 5 ((st_I σ 143 5) + (1 : Int32))) (.ref v5) s3 ∧
      Q (.inl (some (.ref v5))) s3
    ) ∧ (¬ (st_I σ 143 4) ≤ (st_I σ 143 5) →
      vp_in (st_I σ 143 5) 600 ∧
      ∃ (v9 : Int32) (s7 : st_T), Wd s7 ∧ fn_ γ m_X10_isDigit 0 [.int (st_I σ 129 (st_I σ 143 5).toNatClampNeg)] σ (.int v9) s7 ∧
      (v9 = (0 : Int32) →
        ∃ (v13 : Nat) (s11 : st_T), Wd s11 ∧ fn_ γ m_X10_fixedSign 13 [.ref 143, .int (st_I σ 143 5), .ref 1] (pt_I s7 143 5 ((st_I s7 143 5) + (1 : Int32))) (.ref v13) s11 ∧
        Q (.inl (some (.ref v13))) s11
      ) ∧ (¬ v9 = (0 : Int32) →
        ∃ (v16 : Nat) (s14 : st_T), Wd s14 ∧ fn_ γ m_X10_scanNumber 1 [.ref 143, .int l1] s7 (.ref v16) s14 ∧
        Q (.inl (some (.ref v16))) s14
      )
    )
  ) ∧ (¬ (st_I σ 143 4) ≤ (st_I σ 143 5) →
    vp_in (st_I σ 143 5) 600 ∧
    ∃ (v20 : Int32) (s18 : st_T), Wd s18 ∧ fn_ γ m_X10_isLetter 0 [.int (st_I σ 129 (st_I σ 143 5).toNatClampNeg)] σ (.int v20) s18 ∧
    (v20 = (0 : Int32) →
      ((st_I s18 143 4) ≤ (st_I s18 143 5) →
        ∃ (v25 : Nat) (s23 : st_T), Wd s23 ∧ fn_ γ m_X10_fixedSign 13 [.ref 143, .int (st_I σ 143 5), .ref 1] (pt_I s18 143 5 ((st_I s18 143 5) + (1 : Int32))) (.ref v25) s23 ∧
        Q (.inl (some (.ref v25))) s23
      ) ∧ (¬ (st_I s18 143 4) ≤ (st_I s18 143 5) →
        vp_in (st_I s18 143 5) 600 ∧
        ∃ (v29 : Int32) (s27 : st_T), Wd s27 ∧ fn_ γ m_X10_isDigit 0 [.int (st_I s18 129 (st_I s18 143 5).toNatClampNeg)] s18 (.int v29) s27 ∧
        (v29 = (0 : Int32) →
          ∃ (v33 : Nat) (s31 : st_T), Wd s31 ∧ fn_ γ m_X10_fixedSign 13 [.ref 143, .int (st_I σ 143 5), .ref 1] (pt_I s27 143 5 ((st_I s27 143 5) + (1 : Int32))) (.ref v33) s31 ∧
          Q (.inl (some (.ref v33))) s31
        ) ∧ (¬ v29 = (0 : Int32) →
          ∃ (v36 : Nat) (s34 : st_T), Wd s34 ∧ fn_ γ m_X10_scanNumber 1 [.ref 143, .int l1] s27 (.ref v36) s34 ∧
          Q (.inl (some (.ref v36))) s34
        )
      )
    ) ∧ (¬ v20 = (0 : Int32) →
      ∃ (v39 : Nat) (s37 : st_T), Wd s37 ∧ fn_ γ m_X10_scanWord 14 [.ref 143, .int l1] s18 (.ref v39) s37 ∧
      Q (.inl (some (.ref v39))) s37
    )
  )
set_option maxRecDepth 10000 in
theorem g_X10_scanToken_0 {γ : ga_T} {l1 : Int32} {σ : st_T} {Q : rs_T → st_T → Prop} (zw : Wd σ) (zh : p_X10_scanToken_0 γ l1 σ Q) : vv_ γ m_X10_scanToken 15 0 [(0, .ref 143), (1, .int l1)] [] σ Q := by
  unfold p_X10_scanToken_0 at zh
  refine vr_aload_n dX10_scanToken_0 rfl rfl ?_
  refine vr_getI dX10_scanToken_1 fl_LitmusTester_Tokens_29 (wC_143 zw) rfl ?_
  refine vr_istore_n dX10_scanToken_4 rfl (Nat.le_of_ble_eq_true rfl) (vv_eq (ls' := [(0, .ref 143), (1, .int l1), (2, .int (st_I σ 143 5))]) rfl ?_)
  refine vr_aload_n dX10_scanToken_5 rfl rfl ?_
  refine vr_getI dX10_scanToken_6 fl_LitmusTester_Tokens_29 (wC_143 zw) rfl ?_
  refine vr_aload_n dX10_scanToken_9 rfl rfl ?_
  refine vr_getI dX10_scanToken_10 fl_LitmusTester_Tokens_25 (wC_143 zw) rfl ?_
  refine vr_ic_ge dX10_scanToken_13 (tgt := 37) rfl (fun zd_1 => ?_) (fun zd_1 => ?_)
  · replace zh := zh.1 zd_1
    refine vr_aload_n dX10_scanToken_37 rfl rfl ?_
    refine vr_getI dX10_scanToken_38 fl_LitmusTester_Tokens_29 (wC_143 zw) rfl ?_
    refine vr_aload_n dX10_scanToken_41 rfl rfl ?_
    refine vr_getI dX10_scanToken_42 fl_LitmusTester_Tokens_25 (wC_143 zw) rfl ?_
    refine vr_ic_ge dX10_scanToken_45 (tgt := 69) rfl (fun zd_2 => ?_) (fun zd_2 => ?_)
    · replace zh := zh.1 zd_2
      refine vr_aload_n dX10_scanToken_69 rfl rfl ?_
      refine vr_dup dX10_scanToken_70 rfl ?_
      refine vr_getI dX10_scanToken_71 fl_LitmusTester_Tokens_29 (wC_143 zw) rfl ?_
      refine vr_iconst dX10_scanToken_74 (v := (1 : Int32)) (by decide) ?_
      refine vr_iadd dX10_scanToken_75 ?_
      refine vr_putI dX10_scanToken_76 fl_LitmusTester_Tokens_29 (wC_143 zw) rfl (fz_9_5) ?_
      refine vr_aload_n dX10_scanToken_79 rfl rfl ?_
      refine vr_iload_n dX10_scanToken_80 rfl rfl ?_
      refine vr_getE dX10_scanToken_81 (i := 1) (by decide) tw_538 ?_
      obtain ⟨v5, s3, zw1, zf_4, zh⟩ := zh
      refine vc_V (As := [.int (st_I σ 143 5), .ref 1]) (rest := []) dX10_scanToken_84 cV_LitmusTester_Tokens_74 (wC_143 zw) rfl rfl (Nat.le_of_ble_eq_true rfl) (Nat.le_of_ble_eq_true rfl) (co_n zf_4 ?_)
      replace zw := zw1
      exact vr_aret dX10_scanToken_87 rfl (Or.inl ⟨_, rfl⟩) zh
    · replace zh := zh.2 zd_2
      refine vr_aload_n dX10_scanToken_48 rfl rfl ?_
      refine vr_getR dX10_scanToken_49 fl_LitmusTester_Tokens_35 (wC_143 zw) (Or.inr ⟨_, rfl⟩) (wR_143_0 zw) ?_
      refine vr_aload_n dX10_scanToken_52 rfl rfl ?_
      refine vr_getI dX10_scanToken_53 fl_LitmusTester_Tokens_29 (wC_143 zw) rfl ?_
      obtain ⟨zi_6, zh⟩ := zh
      refine vr_baload dX10_scanToken_56 (Or.inl (wS_129 zw)) zi_6 ?_
      obtain ⟨v9, s7, zw1, zf_8, zh⟩ := zh
      refine vc_S (As := [.int (st_I σ 129 (st_I σ 143 5).toNatClampNeg)]) (rest := []) dX10_scanToken_57 cS_LitmusTester_Tokens_65 rfl rfl (Nat.le_of_ble_eq_true rfl) (Nat.le_of_ble_eq_true rfl) (co_n zf_8 ?_)
      replace zw := zw1
      refine vr_if_eq dX10_scanToken_60 (tgt := 69) rfl (fun zd_10 => ?_) (fun zd_10 => ?_)
      · replace zh := zh.1 zd_10
        refine vr_aload_n dX10_scanToken_69 rfl rfl ?_
        refine vr_dup dX10_scanToken_70 rfl ?_
        refine vr_getI dX10_scanToken_71 fl_LitmusTester_Tokens_29 (wC_143 zw) rfl ?_
        refine vr_iconst dX10_scanToken_74 (v := (1 : Int32)) (by decide) ?_
        refine vr_iadd dX10_scanToken_75 ?_
        refine vr_putI dX10_scanToken_76 fl_LitmusTester_Tokens_29 (wC_143 zw) rfl (fz_9_5) ?_
        refine vr_aload_n dX10_scanToken_79 rfl rfl ?_
        refine vr_iload_n dX10_scanToken_80 rfl rfl ?_
        refine vr_getE dX10_scanToken_81 (i := 1) (by decide) tw_538 ?_
        obtain ⟨v13, s11, zw1, zf_12, zh⟩ := zh
        refine vc_V (As := [.int (st_I σ 143 5), .ref 1]) (rest := []) dX10_scanToken_84 cV_LitmusTester_Tokens_74 (wC_143 zw) rfl rfl (Nat.le_of_ble_eq_true rfl) (Nat.le_of_ble_eq_true rfl) (co_n zf_12 ?_)
        replace zw := zw1
        exact vr_aret dX10_scanToken_87 rfl (Or.inl ⟨_, rfl⟩) zh
      · replace zh := zh.2 zd_10
        refine vr_aload_n dX10_scanToken_63 rfl rfl ?_
        refine vr_iload_n dX10_scanToken_64 rfl rfl ?_
        obtain ⟨v16, s14, zw1, zf_15, zh⟩ := zh
        refine vc_V (As := [.int l1]) (rest := []) dX10_scanToken_65 cV_LitmusTester_Tokens_68 (wC_143 zw) rfl rfl (Nat.le_of_ble_eq_true rfl) (Nat.le_of_ble_eq_true rfl) (co_n zf_15 ?_)
        replace zw := zw1
        exact vr_aret dX10_scanToken_68 rfl (Or.inl ⟨_, rfl⟩) zh
  · replace zh := zh.2 zd_1
    refine vr_aload_n dX10_scanToken_16 rfl rfl ?_
    refine vr_getR dX10_scanToken_17 fl_LitmusTester_Tokens_35 (wC_143 zw) (Or.inr ⟨_, rfl⟩) (wR_143_0 zw) ?_
    refine vr_aload_n dX10_scanToken_20 rfl rfl ?_
    refine vr_getI dX10_scanToken_21 fl_LitmusTester_Tokens_29 (wC_143 zw) rfl ?_
    obtain ⟨zi_17, zh⟩ := zh
    refine vr_baload dX10_scanToken_24 (Or.inl (wS_129 zw)) zi_17 ?_
    obtain ⟨v20, s18, zw1, zf_19, zh⟩ := zh
    refine vc_S (As := [.int (st_I σ 129 (st_I σ 143 5).toNatClampNeg)]) (rest := []) dX10_scanToken_25 cS_LitmusTester_Tokens_58 rfl rfl (Nat.le_of_ble_eq_true rfl) (Nat.le_of_ble_eq_true rfl) (co_n zf_19 ?_)
    replace zw := zw1
    refine vr_if_eq dX10_scanToken_28 (tgt := 37) rfl (fun zd_21 => ?_) (fun zd_21 => ?_)
    · replace zh := zh.1 zd_21
      refine vr_aload_n dX10_scanToken_37 rfl rfl ?_
      refine vr_getI dX10_scanToken_38 fl_LitmusTester_Tokens_29 (wC_143 zw) rfl ?_
      refine vr_aload_n dX10_scanToken_41 rfl rfl ?_
      refine vr_getI dX10_scanToken_42 fl_LitmusTester_Tokens_25 (wC_143 zw) rfl ?_
      refine vr_ic_ge dX10_scanToken_45 (tgt := 69) rfl (fun zd_22 => ?_) (fun zd_22 => ?_)
      · replace zh := zh.1 zd_22
        refine vr_aload_n dX10_scanToken_69 rfl rfl ?_
        refine vr_dup dX10_scanToken_70 rfl ?_
        refine vr_getI dX10_scanToken_71 fl_LitmusTester_Tokens_29 (wC_143 zw) rfl ?_
        refine vr_iconst dX10_scanToken_74 (v := (1 : Int32)) (by decide) ?_
        refine vr_iadd dX10_scanToken_75 ?_
        refine vr_putI dX10_scanToken_76 fl_LitmusTester_Tokens_29 (wC_143 zw) rfl (fz_9_5) ?_
        refine vr_aload_n dX10_scanToken_79 rfl rfl ?_
        refine vr_iload_n dX10_scanToken_80 rfl rfl ?_
        refine vr_getE dX10_scanToken_81 (i := 1) (by decide) tw_538 ?_
        obtain ⟨v25, s23, zw1, zf_24, zh⟩ := zh
        refine vc_V (As := [.int (st_I σ 143 5), .ref 1]) (rest := []) dX10_scanToken_84 cV_LitmusTester_Tokens_74 (wC_143 zw) rfl rfl (Nat.le_of_ble_eq_true rfl) (Nat.le_of_ble_eq_true rfl) (co_n zf_24 ?_)
        replace zw := zw1
        exact vr_aret dX10_scanToken_87 rfl (Or.inl ⟨_, rfl⟩) zh
      · replace zh := zh.2 zd_22
        refine vr_aload_n dX10_scanToken_48 rfl rfl ?_
        refine vr_getR dX10_scanToken_49 fl_LitmusTester_Tokens_35 (wC_143 zw) (Or.inr ⟨_, rfl⟩) (wR_143_0 zw) ?_
        refine vr_aload_n dX10_scanToken_52 rfl rfl ?_
        refine vr_getI dX10_scanToken_53 fl_LitmusTester_Tokens_29 (wC_143 zw) rfl ?_
        obtain ⟨zi_26, zh⟩ := zh
        refine vr_baload dX10_scanToken_56 (Or.inl (wS_129 zw)) zi_26 ?_
        obtain ⟨v29, s27, zw1, zf_28, zh⟩ := zh
        refine vc_S (As := [.int (st_I s18 129 (st_I s18 143 5).toNatClampNeg)]) (rest := []) dX10_scanToken_57 cS_LitmusTester_Tokens_65 rfl rfl (Nat.le_of_ble_eq_true rfl) (Nat.le_of_ble_eq_true rfl) (co_n zf_28 ?_)
        replace zw := zw1
        refine vr_if_eq dX10_scanToken_60 (tgt := 69) rfl (fun zd_30 => ?_) (fun zd_30 => ?_)
        · replace zh := zh.1 zd_30
          refine vr_aload_n dX10_scanToken_69 rfl rfl ?_
          refine vr_dup dX10_scanToken_70 rfl ?_
          refine vr_getI dX10_scanToken_71 fl_LitmusTester_Tokens_29 (wC_143 zw) rfl ?_
          refine vr_iconst dX10_scanToken_74 (v := (1 : Int32)) (by decide) ?_
          refine vr_iadd dX10_scanToken_75 ?_
          refine vr_putI dX10_scanToken_76 fl_LitmusTester_Tokens_29 (wC_143 zw) rfl (fz_9_5) ?_
          refine vr_aload_n dX10_scanToken_79 rfl rfl ?_
          refine vr_iload_n dX10_scanToken_80 rfl rfl ?_
          refine vr_getE dX10_scanToken_81 (i := 1) (by decide) tw_538 ?_
          obtain ⟨v33, s31, zw1, zf_32, zh⟩ := zh
          refine vc_V (As := [.int (st_I σ 143 5), .ref 1]) (rest := []) dX10_scanToken_84 cV_LitmusTester_Tokens_74 (wC_143 zw) rfl rfl (Nat.le_of_ble_eq_true rfl) (Nat.le_of_ble_eq_true rfl) (co_n zf_32 ?_)
          replace zw := zw1
          exact vr_aret dX10_scanToken_87 rfl (Or.inl ⟨_, rfl⟩) zh
        · replace zh := zh.2 zd_30
          refine vr_aload_n dX10_scanToken_63 rfl rfl ?_
          refine vr_iload_n dX10_scanToken_64 rfl rfl ?_
          obtain ⟨v36, s34, zw1, zf_35, zh⟩ := zh
          refine vc_V (As := [.int l1]) (rest := []) dX10_scanToken_65 cV_LitmusTester_Tokens_68 (wC_143 zw) rfl rfl (Nat.le_of_ble_eq_true rfl) (Nat.le_of_ble_eq_true rfl) (co_n zf_35 ?_)
          replace zw := zw1
          exact vr_aret dX10_scanToken_68 rfl (Or.inl ⟨_, rfl⟩) zh
    · replace zh := zh.2 zd_21
      refine vr_aload_n dX10_scanToken_31 rfl rfl ?_
      refine vr_iload_n dX10_scanToken_32 rfl rfl ?_
      obtain ⟨v39, s37, zw1, zf_38, zh⟩ := zh
      refine vc_V (As := [.int l1]) (rest := []) dX10_scanToken_33 cV_LitmusTester_Tokens_62 (wC_143 zw) rfl rfl (Nat.le_of_ble_eq_true rfl) (Nat.le_of_ble_eq_true rfl) (co_n zf_38 ?_)
      replace zw := zw1
      exact vr_aret dX10_scanToken_36 rfl (Or.inl ⟨_, rfl⟩) zh
theorem e_X10_scanToken {γ : ga_T} {l1 : Int32} {σ : st_T} {Q : rs_T → st_T → Prop} (zw : Wd σ) (zh : p_X10_scanToken_0 γ l1 σ Q) : sp_ γ m_X10_scanToken 15 [.ref 143, .int l1] σ Q := sp_of (pl_X10_scanToken) rfl (Nat.le_of_ble_eq_true rfl) (g_X10_scanToken_0 zw zh)
def p_X10_scanWord_0 (γ : ga_T) (l1 : Int32) (σ : st_T) (Q : rs_T → st_T → Prop) : Prop :=
  vv_ γ m_X10_scanWord 14 10 [(0, .ref 143), (1, .int l1), (2, .int (st_I σ 143 5)), (3, .long (0 : Int64)), (5, .int (-1 : Int32))] [] σ Q
set_option maxRecDepth 10000 in
theorem g_X10_scanWord_0 {γ : ga_T} {l1 : Int32} {σ : st_T} {Q : rs_T → st_T → Prop} (zw : Wd σ) (zh : p_X10_scanWord_0 γ l1 σ Q) : vv_ γ m_X10_scanWord 14 0 [(0, .ref 143), (1, .int l1)] [] σ Q := by
  unfold p_X10_scanWord_0 at zh
  refine vr_aload_n dX10_scanWord_0 rfl rfl ?_
  refine vr_getI dX10_scanWord_1 fl_LitmusTester_Tokens_29 (wC_143 zw) rfl ?_
  refine vr_istore_n dX10_scanWord_4 rfl (Nat.le_of_ble_eq_true rfl) (vv_eq (ls' := [(0, .ref 143), (1, .int l1), (2, .int (st_I σ 143 5))]) rfl ?_)
  refine vr_lconst dX10_scanWord_5 (v := (0 : Int64)) (by decide) ?_
  refine vr_lstore_n dX10_scanWord_6 rfl (Nat.le_of_ble_eq_true rfl) (vv_eq (ls' := [(0, .ref 143), (1, .int l1), (2, .int (st_I σ 143 5)), (3, .long (0 : Int64))]) rfl ?_)
  refine vr_iconst dX10_scanWord_7 (v := (-1 : Int32)) (by decide) ?_
  refine vr_istore dX10_scanWord_8 (Nat.le_of_ble_eq_true rfl) (vv_eq (ls' := [(0, .ref 143), (1, .int l1), (2, .int (st_I σ 143 5)), (3, .long (0 : Int64)), (5, .int (-1 : Int32))]) rfl ?_)
  exact vv_sub (ls' := [(0, .ref 143), (1, .int l1), (2, .int (st_I σ 143 5)), (3, .long (0 : Int64)), (5, .int (-1 : Int32))]) ⟨rfl, rfl, rfl, rfl, rfl, trivial⟩ zh
theorem e_X10_scanWord {γ : ga_T} {l1 : Int32} {σ : st_T} {Q : rs_T → st_T → Prop} (zw : Wd σ) (zh : p_X10_scanWord_0 γ l1 σ Q) : sp_ γ m_X10_scanWord 14 [.ref 143, .int l1] σ Q := sp_of (pl_X10_scanWord) rfl (Nat.le_of_ble_eq_true rfl) (g_X10_scanWord_0 zw zh)
def p_X10_scanWord_10 (γ : ga_T) (l1 : Int32) (l2 : Int32) (l3 : Int64) (l5 : Int32) (σ : st_T) (Q : rs_T → st_T → Prop) : Prop :=
  ((st_I σ 143 4) ≤ (st_I σ 143 5) →
    (((st_I σ 143 5) - l2) = (2 : Int32) →
      ∃ (v5 : Int64) (s3 : st_T), Wd s3 ∧ fn_ γ m_X10_withLetter 0 [.long (0 : Int64), .int (114 : Int32)] σ (.long v5) s3 ∧
      (l3 = v5 →
        ((2 : Int32) ≤ l5 →
          ((8 : Int32) < ((st_I σ 143 5) - l2) →
            Q (.inl (some (.ref 1))) s3
          ) ∧ (¬ (8 : Int32) < ((st_I σ 143 5) - l2) →
            (l5 = (-1 : Int32) →
              ∃ s10, Wd s10 ∧ fw_ γ m_X10_setValue 0 [.ref 143, .int l1, .long l3] s3 s10 ∧
              ∃ (v14 : Nat) (s12 : st_T), Wd s12 ∧ fn_ γ m_X10_fixedSign 13 [.ref 143, .int l2, .ref 3] s10 (.ref v14) s12 ∧
              Q (.inl (some (.ref v14))) s12
            ) ∧ (¬ l5 = (-1 : Int32) →
              Q (.inl (some (.ref 1))) s3
            )
          )
        ) ∧ (¬ (2 : Int32) ≤ l5 →
          ((8 : Int32) < ((st_I σ 143 5) - l2) →
            Q (.inl (some (.ref 1))) s3
          ) ∧ (¬ (8 : Int32) < ((st_I σ 143 5) - l2) →
            (l5 = (-1 : Int32) →
              ∃ s17, Wd s17 ∧ fw_ γ m_X10_setValue 0 [.ref 143, .int l1, .long (l5.toInt64)] s3 s17 ∧
              Q (.inl (some (.ref 2))) s17
            ) ∧ (¬ l5 = (-1 : Int32) →
              ∃ s19, Wd s19 ∧ fw_ γ m_X10_setValue 0 [.ref 143, .int l1, .long (l5.toInt64)] s3 s19 ∧
              Q (.inl (some (.ref 2))) s19
            )
          )
        )
      ) ∧ (¬ l3 = v5 →
        ((8 : Int32) < ((st_I σ 143 5) - l2) →
          Q (.inl (some (.ref 1))) s3
        ) ∧ (¬ (8 : Int32) < ((st_I σ 143 5) - l2) →
          (l5 = (-1 : Int32) →
            ∃ s23, Wd s23 ∧ fw_ γ m_X10_setValue 0 [.ref 143, .int l1, .long l3] s3 s23 ∧
            ∃ (v27 : Nat) (s25 : st_T), Wd s25 ∧ fn_ γ m_X10_fixedSign 13 [.ref 143, .int l2, .ref 3] s23 (.ref v27) s25 ∧
            Q (.inl (some (.ref v27))) s25
          ) ∧ (¬ l5 = (-1 : Int32) →
            Q (.inl (some (.ref 1))) s3
          )
        )
      )
    ) ∧ (¬ ((st_I σ 143 5) - l2) = (2 : Int32) →
      ((8 : Int32) < ((st_I σ 143 5) - l2) →
        Q (.inl (some (.ref 1))) σ
      ) ∧ (¬ (8 : Int32) < ((st_I σ 143 5) - l2) →
        (l5 = (-1 : Int32) →
          ∃ s30, Wd s30 ∧ fw_ γ m_X10_setValue 0 [.ref 143, .int l1, .long l3] σ s30 ∧
          ∃ (v34 : Nat) (s32 : st_T), Wd s32 ∧ fn_ γ m_X10_fixedSign 13 [.ref 143, .int l2, .ref 3] s30 (.ref v34) s32 ∧
          Q (.inl (some (.ref v34))) s32
        ) ∧ (¬ l5 = (-1 : Int32) →
          Q (.inl (some (.ref 1))) σ
        )
      )
    )
  ) ∧ (¬ (st_I σ 143 4) ≤ (st_I σ 143 5) →
    vp_in (st_I σ 143 5) 600 ∧
    ∃ (v38 : Int32) (s36 : st_T), Wd s36 ∧ fn_ γ m_X10_isLetter 0 [.int (st_I σ 129 (st_I σ 143 5).toNatClampNeg)] σ (.int v38) s36 ∧
    (v38 = (0 : Int32) →
      vp_in (st_I s36 143 5) 600 ∧
      ∃ (v43 : Int32) (s41 : st_T), Wd s41 ∧ fn_ γ m_X10_isDigit 0 [.int (st_I s36 129 (st_I s36 143 5).toNatClampNeg)] s36 (.int v43) s41 ∧
      (v43 = (0 : Int32) →
        (((st_I s41 143 5) - l2) = (2 : Int32) →
          ∃ (v48 : Int64) (s46 : st_T), Wd s46 ∧ fn_ γ m_X10_withLetter 0 [.long (0 : Int64), .int (114 : Int32)] s41 (.long v48) s46 ∧
          (l3 = v48 →
            ((2 : Int32) ≤ l5 →
              ((8 : Int32) < ((st_I s41 143 5) - l2) →
                Q (.inl (some (.ref 1))) s46
              ) ∧ (¬ (8 : Int32) < ((st_I s41 143 5) - l2) →
                (l5 = (-1 : Int32) →
                  ∃ s53, Wd s53 ∧ fw_ γ m_X10_setValue 0 [.ref 143, .int l1, .long l3] s46 s53 ∧
                  ∃ (v57 : Nat) (s55 : st_T), Wd s55 ∧ fn_ γ m_X10_fixedSign 13 [.ref 143, .int l2, .ref 3] s53 (.ref v57) s55 ∧
                  Q (.inl (some (.ref v57))) s55
                ) ∧ (¬ l5 = (-1 : Int32) →
                  Q (.inl (some (.ref 1))) s46
                )
              )
            ) ∧ (¬ (2 : Int32) ≤ l5 →
              ((8 : Int32) < ((st_I s41 143 5) - l2) →
                Q (.inl (some (.ref 1))) s46
              ) ∧ (¬ (8 : Int32) < ((st_I s41 143 5) - l2) →
                (l5 = (-1 : Int32) →
                  ∃ s60, Wd s60 ∧ fw_ γ m_X10_setValue 0 [.ref 143, .int l1, .long (l5.toInt64)] s46 s60 ∧
                  Q (.inl (some (.ref 2))) s60
                ) ∧ (¬ l5 = (-1 : Int32) →
                  ∃ s62, Wd s62 ∧ fw_ γ m_X10_setValue 0 [.ref 143, .int l1, .long (l5.toInt64)] s46 s62 ∧
                  Q (.inl (some (.ref 2))) s62
                )
              )
            )
          ) ∧ (¬ l3 = v48 →
            ((8 : Int32) < ((st_I s41 143 5) - l2) →
              Q (.inl (some (.ref 1))) s46
            ) ∧ (¬ (8 : Int32) < ((st_I s41 143 5) - l2) →
              (l5 = (-1 : Int32) →
                ∃ s66, Wd s66 ∧ fw_ γ m_X10_setValue 0 [.ref 143, .int l1, .long l3] s46 s66 ∧
                ∃ (v70 : Nat) (s68 : st_T), Wd s68 ∧ fn_ γ m_X10_fixedSign 13 [.ref 143, .int l2, .ref 3] s66 (.ref v70) s68 ∧
                Q (.inl (some (.ref v70))) s68
              ) ∧ (¬ l5 = (-1 : Int32) →
                Q (.inl (some (.ref 1))) s46
              )
            )
          )
        ) ∧ (¬ ((st_I s41 143 5) - l2) = (2 : Int32) →
          ((8 : Int32) < ((st_I s41 143 5) - l2) →
            Q (.inl (some (.ref 1))) s41
          ) ∧ (¬ (8 : Int32) < ((st_I s41 143 5) - l2) →
            (l5 = (-1 : Int32) →
              ∃ s73, Wd s73 ∧ fw_ γ m_X10_setValue 0 [.ref 143, .int l1, .long l3] s41 s73 ∧
              ∃ (v77 : Nat) (s75 : st_T), Wd s75 ∧ fn_ γ m_X10_fixedSign 13 [.ref 143, .int l2, .ref 3] s73 (.ref v77) s75 ∧
              Q (.inl (some (.ref v77))) s75
            ) ∧ (¬ l5 = (-1 : Int32) →
              Q (.inl (some (.ref 1))) s41
            )
          )
        )
      ) ∧ (¬ v43 = (0 : Int32) →
        vp_in (st_I s41 143 5) 600 ∧
        ∃ (v81 : Int32) (s79 : st_T), Wd s79 ∧ fn_ γ m_X10_isLetter 0 [.int (st_I s41 129 (st_I s41 143 5).toNatClampNeg)] s41 (.int v81) s79 ∧
        (v81 = (0 : Int32) →
          vp_in (st_I s79 143 5) 600 ∧
          vv_ γ m_X10_scanWord 14 10 [(0, .ref 143), (1, .int l1), (2, .int l2), (3, .long l3), (5, .int ((st_I s79 129 (st_I s79 143 5).toNatClampNeg) - (48 : Int32)))] [] (pt_I s79 143 5 ((st_I s79 143 5) + (1 : Int32))) Q
        ) ∧ (¬ v81 = (0 : Int32) →
          vp_in (st_I s79 143 5) 600 ∧
          ∃ (v87 : Int64) (s85 : st_T), Wd s85 ∧ fn_ γ m_X10_withLetter 0 [.long l3, .int (st_I s79 129 (st_I s79 143 5).toNatClampNeg)] s79 (.long v87) s85 ∧
          vv_ γ m_X10_scanWord 14 10 [(0, .ref 143), (1, .int l1), (2, .int l2), (3, .long v87), (5, .int l5)] [] (pt_I s85 143 5 ((st_I s85 143 5) + (1 : Int32))) Q
        )
      )
    ) ∧ (¬ v38 = (0 : Int32) →
      vp_in (st_I s36 143 5) 600 ∧
      ∃ (v91 : Int32) (s89 : st_T), Wd s89 ∧ fn_ γ m_X10_isLetter 0 [.int (st_I s36 129 (st_I s36 143 5).toNatClampNeg)] s36 (.int v91) s89 ∧
      (v91 = (0 : Int32) →
        vp_in (st_I s89 143 5) 600 ∧
        vv_ γ m_X10_scanWord 14 10 [(0, .ref 143), (1, .int l1), (2, .int l2), (3, .long l3), (5, .int ((st_I s89 129 (st_I s89 143 5).toNatClampNeg) - (48 : Int32)))] [] (pt_I s89 143 5 ((st_I s89 143 5) + (1 : Int32))) Q
      ) ∧ (¬ v91 = (0 : Int32) →
        vp_in (st_I s89 143 5) 600 ∧
        ∃ (v97 : Int64) (s95 : st_T), Wd s95 ∧ fn_ γ m_X10_withLetter 0 [.long l3, .int (st_I s89 129 (st_I s89 143 5).toNatClampNeg)] s89 (.long v97) s95 ∧
        vv_ γ m_X10_scanWord 14 10 [(0, .ref 143), (1, .int l1), (2, .int l2), (3, .long v97), (5, .int l5)] [] (pt_I s95 143 5 ((st_I s95 143 5) + (1 : Int32))) Q
      )
    )
  )
set_option maxRecDepth 10000 in
theorem g_X10_scanWord_10 {γ : ga_T} {l1 : Int32} {l2 : Int32} {l3 : Int64} {l5 : Int32} {σ : st_T} {Q : rs_T → st_T → Prop} (zw : Wd σ) (zh : p_X10_scanWord_10 γ l1 l2 l3 l5 σ Q) : vv_ γ m_X10_scanWord 14 10 [(0, .ref 143), (1, .int l1), (2, .int l2), (3, .long l3), (5, .int l5)] [] σ Q := by
  unfold p_X10_scanWord_10 at zh
  refine vr_aload_n dX10_scanWord_10 rfl rfl ?_
  refine vr_getI dX10_scanWord_11 fl_LitmusTester_Tokens_29 (wC_143 zw) rfl ?_
  refine vr_aload_n dX10_scanWord_14 rfl rfl ?_
  refine vr_getI dX10_scanWord_15 fl_LitmusTester_Tokens_25 (wC_143 zw) rfl ?_
  refine vr_ic_ge dX10_scanWord_18 (tgt := 110) rfl (fun zd_1 => ?_) (fun zd_1 => ?_)
  · replace zh := zh.1 zd_1
    refine vr_aload_n dX10_scanWord_110 rfl rfl ?_
    refine vr_getI dX10_scanWord_111 fl_LitmusTester_Tokens_29 (wC_143 zw) rfl ?_
    refine vr_iload_n dX10_scanWord_114 rfl rfl ?_
    refine vr_isub dX10_scanWord_115 ?_
    refine vr_istore dX10_scanWord_116 (Nat.le_of_ble_eq_true rfl) (vv_eq (ls' := [(0, .ref 143), (1, .int l1), (2, .int l2), (3, .long l3), (5, .int l5), (6, .int ((st_I σ 143 5) - l2))]) rfl ?_)
    refine vr_iload dX10_scanWord_118 rfl ?_
    refine vr_iconst dX10_scanWord_120 (v := (2 : Int32)) (by decide) ?_
    refine vr_ic_ne dX10_scanWord_121 (tgt := 145) rfl (fun zd_2 => ?_) (fun zd_2 => ?_)
    · replace zh := zh.2 zd_2
      refine vr_iconst dX10_scanWord_145 (v := (0 : Int32)) (by decide) ?_
      refine vr_istore dX10_scanWord_146 (Nat.le_of_ble_eq_true rfl) (vv_eq (ls' := [(0, .ref 143), (1, .int l1), (2, .int l2), (3, .long l3), (5, .int l5), (6, .int ((st_I σ 143 5) - l2)), (7, .int (0 : Int32))]) rfl ?_)
      refine vr_iload dX10_scanWord_148 rfl ?_
      refine vr_bipush dX10_scanWord_150 (v := (8 : Int32)) (by decide) ?_
      refine vr_ic_gt dX10_scanWord_152 (tgt := 166) rfl (fun zd_28 => ?_) (fun zd_28 => ?_)
      · replace zh := zh.1 zd_28
        refine vr_getE dX10_scanWord_166 (i := 1) (by decide) tw_538 ?_
        exact vr_aret dX10_scanWord_169 rfl (Or.inl ⟨_, rfl⟩) zh
      · replace zh := zh.2 zd_28
        refine vr_iload dX10_scanWord_155 rfl ?_
        refine vr_iconst dX10_scanWord_157 (v := (-1 : Int32)) (by decide) ?_
        refine vr_ic_eq dX10_scanWord_158 (tgt := 170) rfl (fun zd_29 => ?_) (fun zd_29 => ?_)
        · replace zh := zh.1 zd_29
          refine vr_aload_n dX10_scanWord_170 rfl rfl ?_
          refine vr_iload_n dX10_scanWord_171 rfl rfl ?_
          refine vr_iload dX10_scanWord_172 rfl ?_
          refine vr_if_eq dX10_scanWord_174 (tgt := 183) rfl (fun _ => ?_) (fun c => absurd (by decide) c)
          refine vr_lload_n dX10_scanWord_183 rfl rfl ?_
          obtain ⟨s30, zw1, zf_31, zh⟩ := zh
          refine vc_V (As := [.int l1, .long l3]) (rest := []) dX10_scanWord_184 cV_LitmusTester_Tokens_82 (wC_143 zw) rfl rfl (Nat.le_of_ble_eq_true rfl) (Nat.le_of_ble_eq_true rfl) (co_v zf_31 ?_)
          replace zw := zw1
          refine vr_iload dX10_scanWord_187 rfl ?_
          refine vr_if_eq dX10_scanWord_189 (tgt := 198) rfl (fun _ => ?_) (fun c => absurd (by decide) c)
          refine vr_aload_n dX10_scanWord_198 rfl rfl ?_
          refine vr_iload_n dX10_scanWord_199 rfl rfl ?_
          refine vr_getE dX10_scanWord_200 (i := 3) (by decide) tw_546 ?_
          obtain ⟨v34, s32, zw1, zf_33, zh⟩ := zh
          refine vc_V (As := [.int l2, .ref 3]) (rest := []) dX10_scanWord_203 cV_LitmusTester_Tokens_74 (wC_143 zw) rfl rfl (Nat.le_of_ble_eq_true rfl) (Nat.le_of_ble_eq_true rfl) (co_n zf_33 ?_)
          replace zw := zw1
          exact vr_aret dX10_scanWord_206 rfl (Or.inl ⟨_, rfl⟩) zh
        · replace zh := zh.2 zd_29
          refine vr_iload dX10_scanWord_161 rfl ?_
          refine vr_if_ne dX10_scanWord_163 (tgt := 170) rfl (fun c => absurd (by decide) c) (fun _ => ?_)
          refine vr_getE dX10_scanWord_166 (i := 1) (by decide) tw_538 ?_
          exact vr_aret dX10_scanWord_169 rfl (Or.inl ⟨_, rfl⟩) zh
    · replace zh := zh.1 zd_2
      refine vr_lload_n dX10_scanWord_124 rfl rfl ?_
      refine vr_lconst dX10_scanWord_125 (v := (0 : Int64)) (by decide) ?_
      refine vr_bipush dX10_scanWord_126 (v := (114 : Int32)) (by decide) ?_
      obtain ⟨v5, s3, zw1, zf_4, zh⟩ := zh
      refine vc_S (As := [.long (0 : Int64), .int (114 : Int32)]) (rest := [.long l3]) dX10_scanWord_128 cS_LitmusTester_Tokens_78 rfl rfl (Nat.le_of_ble_eq_true rfl) (Nat.le_of_ble_eq_true rfl) (co_n zf_4 ?_)
      replace zw := zw1
      refine vr_lcmp dX10_scanWord_131 ?_
      refine vr_if_ne dX10_scanWord_132 (tgt := 145) rfl (fun zd_6 => ?_) (fun zd_6 => ?_)
      · replace zh := zh.2 (fun z => zd_6 ((lg_cmp_eq _ _).mpr z))
        refine vr_iconst dX10_scanWord_145 (v := (0 : Int32)) (by decide) ?_
        refine vr_istore dX10_scanWord_146 (Nat.le_of_ble_eq_true rfl) (vv_eq (ls' := [(0, .ref 143), (1, .int l1), (2, .int l2), (3, .long l3), (5, .int l5), (6, .int ((st_I σ 143 5) - l2)), (7, .int (0 : Int32))]) rfl ?_)
        refine vr_iload dX10_scanWord_148 rfl ?_
        refine vr_bipush dX10_scanWord_150 (v := (8 : Int32)) (by decide) ?_
        refine vr_ic_gt dX10_scanWord_152 (tgt := 166) rfl (fun zd_21 => ?_) (fun zd_21 => ?_)
        · replace zh := zh.1 zd_21
          refine vr_getE dX10_scanWord_166 (i := 1) (by decide) tw_538 ?_
          exact vr_aret dX10_scanWord_169 rfl (Or.inl ⟨_, rfl⟩) zh
        · replace zh := zh.2 zd_21
          refine vr_iload dX10_scanWord_155 rfl ?_
          refine vr_iconst dX10_scanWord_157 (v := (-1 : Int32)) (by decide) ?_
          refine vr_ic_eq dX10_scanWord_158 (tgt := 170) rfl (fun zd_22 => ?_) (fun zd_22 => ?_)
          · replace zh := zh.1 zd_22
            refine vr_aload_n dX10_scanWord_170 rfl rfl ?_
            refine vr_iload_n dX10_scanWord_171 rfl rfl ?_
            refine vr_iload dX10_scanWord_172 rfl ?_
            refine vr_if_eq dX10_scanWord_174 (tgt := 183) rfl (fun _ => ?_) (fun c => absurd (by decide) c)
            refine vr_lload_n dX10_scanWord_183 rfl rfl ?_
            obtain ⟨s23, zw1, zf_24, zh⟩ := zh
            refine vc_V (As := [.int l1, .long l3]) (rest := []) dX10_scanWord_184 cV_LitmusTester_Tokens_82 (wC_143 zw) rfl rfl (Nat.le_of_ble_eq_true rfl) (Nat.le_of_ble_eq_true rfl) (co_v zf_24 ?_)
            replace zw := zw1
            refine vr_iload dX10_scanWord_187 rfl ?_
            refine vr_if_eq dX10_scanWord_189 (tgt := 198) rfl (fun _ => ?_) (fun c => absurd (by decide) c)
            refine vr_aload_n dX10_scanWord_198 rfl rfl ?_
            refine vr_iload_n dX10_scanWord_199 rfl rfl ?_
            refine vr_getE dX10_scanWord_200 (i := 3) (by decide) tw_546 ?_
            obtain ⟨v27, s25, zw1, zf_26, zh⟩ := zh
            refine vc_V (As := [.int l2, .ref 3]) (rest := []) dX10_scanWord_203 cV_LitmusTester_Tokens_74 (wC_143 zw) rfl rfl (Nat.le_of_ble_eq_true rfl) (Nat.le_of_ble_eq_true rfl) (co_n zf_26 ?_)
            replace zw := zw1
            exact vr_aret dX10_scanWord_206 rfl (Or.inl ⟨_, rfl⟩) zh
          · replace zh := zh.2 zd_22
            refine vr_iload dX10_scanWord_161 rfl ?_
            refine vr_if_ne dX10_scanWord_163 (tgt := 170) rfl (fun c => absurd (by decide) c) (fun _ => ?_)
            refine vr_getE dX10_scanWord_166 (i := 1) (by decide) tw_538 ?_
            exact vr_aret dX10_scanWord_169 rfl (Or.inl ⟨_, rfl⟩) zh
      · replace zh := zh.1 ((lg_cmp_eq _ _).mp zd_6)
        refine vr_iload dX10_scanWord_135 rfl ?_
        refine vr_iconst dX10_scanWord_137 (v := (2 : Int32)) (by decide) ?_
        refine vr_ic_ge dX10_scanWord_138 (tgt := 145) rfl (fun zd_7 => ?_) (fun zd_7 => ?_)
        · replace zh := zh.1 zd_7
          refine vr_iconst dX10_scanWord_145 (v := (0 : Int32)) (by decide) ?_
          refine vr_istore dX10_scanWord_146 (Nat.le_of_ble_eq_true rfl) (vv_eq (ls' := [(0, .ref 143), (1, .int l1), (2, .int l2), (3, .long l3), (5, .int l5), (6, .int ((st_I σ 143 5) - l2)), (7, .int (0 : Int32))]) rfl ?_)
          refine vr_iload dX10_scanWord_148 rfl ?_
          refine vr_bipush dX10_scanWord_150 (v := (8 : Int32)) (by decide) ?_
          refine vr_ic_gt dX10_scanWord_152 (tgt := 166) rfl (fun zd_8 => ?_) (fun zd_8 => ?_)
          · replace zh := zh.1 zd_8
            refine vr_getE dX10_scanWord_166 (i := 1) (by decide) tw_538 ?_
            exact vr_aret dX10_scanWord_169 rfl (Or.inl ⟨_, rfl⟩) zh
          · replace zh := zh.2 zd_8
            refine vr_iload dX10_scanWord_155 rfl ?_
            refine vr_iconst dX10_scanWord_157 (v := (-1 : Int32)) (by decide) ?_
            refine vr_ic_eq dX10_scanWord_158 (tgt := 170) rfl (fun zd_9 => ?_) (fun zd_9 => ?_)
            · replace zh := zh.1 zd_9
              refine vr_aload_n dX10_scanWord_170 rfl rfl ?_
              refine vr_iload_n dX10_scanWord_171 rfl rfl ?_
              refine vr_iload dX10_scanWord_172 rfl ?_
              refine vr_if_eq dX10_scanWord_174 (tgt := 183) rfl (fun _ => ?_) (fun c => absurd (by decide) c)
              refine vr_lload_n dX10_scanWord_183 rfl rfl ?_
              obtain ⟨s10, zw1, zf_11, zh⟩ := zh
              refine vc_V (As := [.int l1, .long l3]) (rest := []) dX10_scanWord_184 cV_LitmusTester_Tokens_82 (wC_143 zw) rfl rfl (Nat.le_of_ble_eq_true rfl) (Nat.le_of_ble_eq_true rfl) (co_v zf_11 ?_)
              replace zw := zw1
              refine vr_iload dX10_scanWord_187 rfl ?_
              refine vr_if_eq dX10_scanWord_189 (tgt := 198) rfl (fun _ => ?_) (fun c => absurd (by decide) c)
              refine vr_aload_n dX10_scanWord_198 rfl rfl ?_
              refine vr_iload_n dX10_scanWord_199 rfl rfl ?_
              refine vr_getE dX10_scanWord_200 (i := 3) (by decide) tw_546 ?_
              obtain ⟨v14, s12, zw1, zf_13, zh⟩ := zh
              refine vc_V (As := [.int l2, .ref 3]) (rest := []) dX10_scanWord_203 cV_LitmusTester_Tokens_74 (wC_143 zw) rfl rfl (Nat.le_of_ble_eq_true rfl) (Nat.le_of_ble_eq_true rfl) (co_n zf_13 ?_)
              replace zw := zw1
              exact vr_aret dX10_scanWord_206 rfl (Or.inl ⟨_, rfl⟩) zh
            · replace zh := zh.2 zd_9
              refine vr_iload dX10_scanWord_161 rfl ?_
              refine vr_if_ne dX10_scanWord_163 (tgt := 170) rfl (fun c => absurd (by decide) c) (fun _ => ?_)
              refine vr_getE dX10_scanWord_166 (i := 1) (by decide) tw_538 ?_
              exact vr_aret dX10_scanWord_169 rfl (Or.inl ⟨_, rfl⟩) zh
        · replace zh := zh.2 zd_7
          refine vr_iconst dX10_scanWord_141 (v := (1 : Int32)) (by decide) ?_
          refine vr_goto dX10_scanWord_142 (tgt := 146) rfl ?_
          refine vr_istore dX10_scanWord_146 (Nat.le_of_ble_eq_true rfl) (vv_eq (ls' := [(0, .ref 143), (1, .int l1), (2, .int l2), (3, .long l3), (5, .int l5), (6, .int ((st_I σ 143 5) - l2)), (7, .int (1 : Int32))]) rfl ?_)
          refine vr_iload dX10_scanWord_148 rfl ?_
          refine vr_bipush dX10_scanWord_150 (v := (8 : Int32)) (by decide) ?_
          refine vr_ic_gt dX10_scanWord_152 (tgt := 166) rfl (fun zd_15 => ?_) (fun zd_15 => ?_)
          · replace zh := zh.1 zd_15
            refine vr_getE dX10_scanWord_166 (i := 1) (by decide) tw_538 ?_
            exact vr_aret dX10_scanWord_169 rfl (Or.inl ⟨_, rfl⟩) zh
          · replace zh := zh.2 zd_15
            refine vr_iload dX10_scanWord_155 rfl ?_
            refine vr_iconst dX10_scanWord_157 (v := (-1 : Int32)) (by decide) ?_
            refine vr_ic_eq dX10_scanWord_158 (tgt := 170) rfl (fun zd_16 => ?_) (fun zd_16 => ?_)
            · replace zh := zh.1 zd_16
              refine vr_aload_n dX10_scanWord_170 rfl rfl ?_
              refine vr_iload_n dX10_scanWord_171 rfl rfl ?_
              refine vr_iload dX10_scanWord_172 rfl ?_
              refine vr_if_eq dX10_scanWord_174 (tgt := 183) rfl (fun c => absurd c (by decide)) (fun _ => ?_)
              refine vr_iload dX10_scanWord_177 rfl ?_
              refine vr_i2l dX10_scanWord_179 ?_
              refine vr_goto dX10_scanWord_180 (tgt := 184) rfl ?_
              obtain ⟨s17, zw1, zf_18, zh⟩ := zh
              refine vc_V (As := [.int l1, .long (l5.toInt64)]) (rest := []) dX10_scanWord_184 cV_LitmusTester_Tokens_82 (wC_143 zw) rfl rfl (Nat.le_of_ble_eq_true rfl) (Nat.le_of_ble_eq_true rfl) (co_v zf_18 ?_)
              replace zw := zw1
              refine vr_iload dX10_scanWord_187 rfl ?_
              refine vr_if_eq dX10_scanWord_189 (tgt := 198) rfl (fun c => absurd c (by decide)) (fun _ => ?_)
              refine vr_getE dX10_scanWord_192 (i := 2) (by decide) tw_544 ?_
              refine vr_goto dX10_scanWord_195 (tgt := 206) rfl ?_
              exact vr_aret dX10_scanWord_206 rfl (Or.inl ⟨_, rfl⟩) zh
            · replace zh := zh.2 zd_16
              refine vr_iload dX10_scanWord_161 rfl ?_
              refine vr_if_ne dX10_scanWord_163 (tgt := 170) rfl (fun _ => ?_) (fun c => absurd c (by decide))
              refine vr_aload_n dX10_scanWord_170 rfl rfl ?_
              refine vr_iload_n dX10_scanWord_171 rfl rfl ?_
              refine vr_iload dX10_scanWord_172 rfl ?_
              refine vr_if_eq dX10_scanWord_174 (tgt := 183) rfl (fun c => absurd c (by decide)) (fun _ => ?_)
              refine vr_iload dX10_scanWord_177 rfl ?_
              refine vr_i2l dX10_scanWord_179 ?_
              refine vr_goto dX10_scanWord_180 (tgt := 184) rfl ?_
              obtain ⟨s19, zw1, zf_20, zh⟩ := zh
              refine vc_V (As := [.int l1, .long (l5.toInt64)]) (rest := []) dX10_scanWord_184 cV_LitmusTester_Tokens_82 (wC_143 zw) rfl rfl (Nat.le_of_ble_eq_true rfl) (Nat.le_of_ble_eq_true rfl) (co_v zf_20 ?_)
              replace zw := zw1
              refine vr_iload dX10_scanWord_187 rfl ?_
              refine vr_if_eq dX10_scanWord_189 (tgt := 198) rfl (fun c => absurd c (by decide)) (fun _ => ?_)
              refine vr_getE dX10_scanWord_192 (i := 2) (by decide) tw_544 ?_
              refine vr_goto dX10_scanWord_195 (tgt := 206) rfl ?_
              exact vr_aret dX10_scanWord_206 rfl (Or.inl ⟨_, rfl⟩) zh
  · replace zh := zh.2 zd_1
    refine vr_aload_n dX10_scanWord_21 rfl rfl ?_
    refine vr_getR dX10_scanWord_22 fl_LitmusTester_Tokens_35 (wC_143 zw) (Or.inr ⟨_, rfl⟩) (wR_143_0 zw) ?_
    refine vr_aload_n dX10_scanWord_25 rfl rfl ?_
    refine vr_getI dX10_scanWord_26 fl_LitmusTester_Tokens_29 (wC_143 zw) rfl ?_
    obtain ⟨zi_35, zh⟩ := zh
    refine vr_baload dX10_scanWord_29 (Or.inl (wS_129 zw)) zi_35 ?_
    obtain ⟨v38, s36, zw1, zf_37, zh⟩ := zh
    refine vc_S (As := [.int (st_I σ 129 (st_I σ 143 5).toNatClampNeg)]) (rest := []) dX10_scanWord_30 cS_LitmusTester_Tokens_58 rfl rfl (Nat.le_of_ble_eq_true rfl) (Nat.le_of_ble_eq_true rfl) (co_n zf_37 ?_)
    replace zw := zw1
    refine vr_if_ne dX10_scanWord_33 (tgt := 51) rfl (fun zd_39 => ?_) (fun zd_39 => ?_)
    · replace zh := zh.2 zd_39
      refine vr_aload_n dX10_scanWord_51 rfl rfl ?_
      refine vr_getR dX10_scanWord_52 fl_LitmusTester_Tokens_35 (wC_143 zw) (Or.inr ⟨_, rfl⟩) (wR_143_0 zw) ?_
      refine vr_aload_n dX10_scanWord_55 rfl rfl ?_
      refine vr_getI dX10_scanWord_56 fl_LitmusTester_Tokens_29 (wC_143 zw) rfl ?_
      obtain ⟨zi_88, zh⟩ := zh
      refine vr_baload dX10_scanWord_59 (Or.inl (wS_129 zw)) zi_88 ?_
      obtain ⟨v91, s89, zw1, zf_90, zh⟩ := zh
      refine vc_S (As := [.int (st_I s36 129 (st_I s36 143 5).toNatClampNeg)]) (rest := []) dX10_scanWord_60 cS_LitmusTester_Tokens_58 rfl rfl (Nat.le_of_ble_eq_true rfl) (Nat.le_of_ble_eq_true rfl) (co_n zf_90 ?_)
      replace zw := zw1
      refine vr_if_eq dX10_scanWord_63 (tgt := 83) rfl (fun zd_92 => ?_) (fun zd_92 => ?_)
      · replace zh := zh.1 zd_92
        refine vr_aload_n dX10_scanWord_83 rfl rfl ?_
        refine vr_getR dX10_scanWord_84 fl_LitmusTester_Tokens_35 (wC_143 zw) (Or.inr ⟨_, rfl⟩) (wR_143_0 zw) ?_
        refine vr_aload_n dX10_scanWord_87 rfl rfl ?_
        refine vr_getI dX10_scanWord_88 fl_LitmusTester_Tokens_29 (wC_143 zw) rfl ?_
        obtain ⟨zi_93, zh⟩ := zh
        refine vr_baload dX10_scanWord_91 (Or.inl (wS_129 zw)) zi_93 ?_
        refine vr_bipush dX10_scanWord_92 (v := (48 : Int32)) (by decide) ?_
        refine vr_isub dX10_scanWord_94 ?_
        refine vr_istore dX10_scanWord_95 (Nat.le_of_ble_eq_true rfl) (vv_eq (ls' := [(0, .ref 143), (1, .int l1), (2, .int l2), (3, .long l3), (5, .int ((st_I s89 129 (st_I s89 143 5).toNatClampNeg) - (48 : Int32)))]) rfl ?_)
        refine vr_aload_n dX10_scanWord_97 rfl rfl ?_
        refine vr_dup dX10_scanWord_98 rfl ?_
        refine vr_getI dX10_scanWord_99 fl_LitmusTester_Tokens_29 (wC_143 zw) rfl ?_
        refine vr_iconst dX10_scanWord_102 (v := (1 : Int32)) (by decide) ?_
        refine vr_iadd dX10_scanWord_103 ?_
        refine vr_putI dX10_scanWord_104 fl_LitmusTester_Tokens_29 (wC_143 zw) rfl (fz_9_5) ?_
        refine vr_goto dX10_scanWord_107 (tgt := 10) rfl ?_
        exact vv_sub (ls' := [(0, .ref 143), (1, .int l1), (2, .int l2), (3, .long l3), (5, .int ((st_I s89 129 (st_I s89 143 5).toNatClampNeg) - (48 : Int32)))]) ⟨rfl, rfl, rfl, rfl, rfl, trivial⟩ zh
      · replace zh := zh.2 zd_92
        refine vr_lload_n dX10_scanWord_66 rfl rfl ?_
        refine vr_aload_n dX10_scanWord_67 rfl rfl ?_
        refine vr_getR dX10_scanWord_68 fl_LitmusTester_Tokens_35 (wC_143 zw) (Or.inr ⟨_, rfl⟩) (wR_143_0 zw) ?_
        refine vr_aload_n dX10_scanWord_71 rfl rfl ?_
        refine vr_getI dX10_scanWord_72 fl_LitmusTester_Tokens_29 (wC_143 zw) rfl ?_
        obtain ⟨zi_94, zh⟩ := zh
        refine vr_baload dX10_scanWord_75 (Or.inl (wS_129 zw)) zi_94 ?_
        obtain ⟨v97, s95, zw1, zf_96, zh⟩ := zh
        refine vc_S (As := [.long l3, .int (st_I s89 129 (st_I s89 143 5).toNatClampNeg)]) (rest := []) dX10_scanWord_76 cS_LitmusTester_Tokens_78 rfl rfl (Nat.le_of_ble_eq_true rfl) (Nat.le_of_ble_eq_true rfl) (co_n zf_96 ?_)
        replace zw := zw1
        refine vr_lstore_n dX10_scanWord_79 rfl (Nat.le_of_ble_eq_true rfl) (vv_eq (ls' := [(0, .ref 143), (1, .int l1), (2, .int l2), (3, .long v97), (5, .int l5)]) rfl ?_)
        refine vr_goto dX10_scanWord_80 (tgt := 97) rfl ?_
        refine vr_aload_n dX10_scanWord_97 rfl rfl ?_
        refine vr_dup dX10_scanWord_98 rfl ?_
        refine vr_getI dX10_scanWord_99 fl_LitmusTester_Tokens_29 (wC_143 zw) rfl ?_
        refine vr_iconst dX10_scanWord_102 (v := (1 : Int32)) (by decide) ?_
        refine vr_iadd dX10_scanWord_103 ?_
        refine vr_putI dX10_scanWord_104 fl_LitmusTester_Tokens_29 (wC_143 zw) rfl (fz_9_5) ?_
        refine vr_goto dX10_scanWord_107 (tgt := 10) rfl ?_
        exact vv_sub (ls' := [(0, .ref 143), (1, .int l1), (2, .int l2), (3, .long v97), (5, .int l5)]) ⟨rfl, rfl, rfl, rfl, rfl, trivial⟩ zh
    · replace zh := zh.1 zd_39
      refine vr_aload_n dX10_scanWord_36 rfl rfl ?_
      refine vr_getR dX10_scanWord_37 fl_LitmusTester_Tokens_35 (wC_143 zw) (Or.inr ⟨_, rfl⟩) (wR_143_0 zw) ?_
      refine vr_aload_n dX10_scanWord_40 rfl rfl ?_
      refine vr_getI dX10_scanWord_41 fl_LitmusTester_Tokens_29 (wC_143 zw) rfl ?_
      obtain ⟨zi_40, zh⟩ := zh
      refine vr_baload dX10_scanWord_44 (Or.inl (wS_129 zw)) zi_40 ?_
      obtain ⟨v43, s41, zw1, zf_42, zh⟩ := zh
      refine vc_S (As := [.int (st_I s36 129 (st_I s36 143 5).toNatClampNeg)]) (rest := []) dX10_scanWord_45 cS_LitmusTester_Tokens_65 rfl rfl (Nat.le_of_ble_eq_true rfl) (Nat.le_of_ble_eq_true rfl) (co_n zf_42 ?_)
      replace zw := zw1
      refine vr_if_eq dX10_scanWord_48 (tgt := 110) rfl (fun zd_44 => ?_) (fun zd_44 => ?_)
      · replace zh := zh.1 zd_44
        refine vr_aload_n dX10_scanWord_110 rfl rfl ?_
        refine vr_getI dX10_scanWord_111 fl_LitmusTester_Tokens_29 (wC_143 zw) rfl ?_
        refine vr_iload_n dX10_scanWord_114 rfl rfl ?_
        refine vr_isub dX10_scanWord_115 ?_
        refine vr_istore dX10_scanWord_116 (Nat.le_of_ble_eq_true rfl) (vv_eq (ls' := [(0, .ref 143), (1, .int l1), (2, .int l2), (3, .long l3), (5, .int l5), (6, .int ((st_I s41 143 5) - l2))]) rfl ?_)
        refine vr_iload dX10_scanWord_118 rfl ?_
        refine vr_iconst dX10_scanWord_120 (v := (2 : Int32)) (by decide) ?_
        refine vr_ic_ne dX10_scanWord_121 (tgt := 145) rfl (fun zd_45 => ?_) (fun zd_45 => ?_)
        · replace zh := zh.2 zd_45
          refine vr_iconst dX10_scanWord_145 (v := (0 : Int32)) (by decide) ?_
          refine vr_istore dX10_scanWord_146 (Nat.le_of_ble_eq_true rfl) (vv_eq (ls' := [(0, .ref 143), (1, .int l1), (2, .int l2), (3, .long l3), (5, .int l5), (6, .int ((st_I s41 143 5) - l2)), (7, .int (0 : Int32))]) rfl ?_)
          refine vr_iload dX10_scanWord_148 rfl ?_
          refine vr_bipush dX10_scanWord_150 (v := (8 : Int32)) (by decide) ?_
          refine vr_ic_gt dX10_scanWord_152 (tgt := 166) rfl (fun zd_71 => ?_) (fun zd_71 => ?_)
          · replace zh := zh.1 zd_71
            refine vr_getE dX10_scanWord_166 (i := 1) (by decide) tw_538 ?_
            exact vr_aret dX10_scanWord_169 rfl (Or.inl ⟨_, rfl⟩) zh
          · replace zh := zh.2 zd_71
            refine vr_iload dX10_scanWord_155 rfl ?_
            refine vr_iconst dX10_scanWord_157 (v := (-1 : Int32)) (by decide) ?_
            refine vr_ic_eq dX10_scanWord_158 (tgt := 170) rfl (fun zd_72 => ?_) (fun zd_72 => ?_)
            · replace zh := zh.1 zd_72
              refine vr_aload_n dX10_scanWord_170 rfl rfl ?_
              refine vr_iload_n dX10_scanWord_171 rfl rfl ?_
              refine vr_iload dX10_scanWord_172 rfl ?_
              refine vr_if_eq dX10_scanWord_174 (tgt := 183) rfl (fun _ => ?_) (fun c => absurd (by decide) c)
              refine vr_lload_n dX10_scanWord_183 rfl rfl ?_
              obtain ⟨s73, zw1, zf_74, zh⟩ := zh
              refine vc_V (As := [.int l1, .long l3]) (rest := []) dX10_scanWord_184 cV_LitmusTester_Tokens_82 (wC_143 zw) rfl rfl (Nat.le_of_ble_eq_true rfl) (Nat.le_of_ble_eq_true rfl) (co_v zf_74 ?_)
              replace zw := zw1
              refine vr_iload dX10_scanWord_187 rfl ?_
              refine vr_if_eq dX10_scanWord_189 (tgt := 198) rfl (fun _ => ?_) (fun c => absurd (by decide) c)
              refine vr_aload_n dX10_scanWord_198 rfl rfl ?_
              refine vr_iload_n dX10_scanWord_199 rfl rfl ?_
              refine vr_getE dX10_scanWord_200 (i := 3) (by decide) tw_546 ?_
              obtain ⟨v77, s75, zw1, zf_76, zh⟩ := zh
              refine vc_V (As := [.int l2, .ref 3]) (rest := []) dX10_scanWord_203 cV_LitmusTester_Tokens_74 (wC_143 zw) rfl rfl (Nat.le_of_ble_eq_true rfl) (Nat.le_of_ble_eq_true rfl) (co_n zf_76 ?_)
              replace zw := zw1
              exact vr_aret dX10_scanWord_206 rfl (Or.inl ⟨_, rfl⟩) zh
            · replace zh := zh.2 zd_72
              refine vr_iload dX10_scanWord_161 rfl ?_
              refine vr_if_ne dX10_scanWord_163 (tgt := 170) rfl (fun c => absurd (by decide) c) (fun _ => ?_)
              refine vr_getE dX10_scanWord_166 (i := 1) (by decide) tw_538 ?_
              exact vr_aret dX10_scanWord_169 rfl (Or.inl ⟨_, rfl⟩) zh
        · replace zh := zh.1 zd_45
          refine vr_lload_n dX10_scanWord_124 rfl rfl ?_
          refine vr_lconst dX10_scanWord_125 (v := (0 : Int64)) (by decide) ?_
          refine vr_bipush dX10_scanWord_126 (v := (114 : Int32)) (by decide) ?_
          obtain ⟨v48, s46, zw1, zf_47, zh⟩ := zh
          refine vc_S (As := [.long (0 : Int64), .int (114 : Int32)]) (rest := [.long l3]) dX10_scanWord_128 cS_LitmusTester_Tokens_78 rfl rfl (Nat.le_of_ble_eq_true rfl) (Nat.le_of_ble_eq_true rfl) (co_n zf_47 ?_)
          replace zw := zw1
          refine vr_lcmp dX10_scanWord_131 ?_
          refine vr_if_ne dX10_scanWord_132 (tgt := 145) rfl (fun zd_49 => ?_) (fun zd_49 => ?_)
          · replace zh := zh.2 (fun z => zd_49 ((lg_cmp_eq _ _).mpr z))
            refine vr_iconst dX10_scanWord_145 (v := (0 : Int32)) (by decide) ?_
            refine vr_istore dX10_scanWord_146 (Nat.le_of_ble_eq_true rfl) (vv_eq (ls' := [(0, .ref 143), (1, .int l1), (2, .int l2), (3, .long l3), (5, .int l5), (6, .int ((st_I s41 143 5) - l2)), (7, .int (0 : Int32))]) rfl ?_)
            refine vr_iload dX10_scanWord_148 rfl ?_
            refine vr_bipush dX10_scanWord_150 (v := (8 : Int32)) (by decide) ?_
            refine vr_ic_gt dX10_scanWord_152 (tgt := 166) rfl (fun zd_64 => ?_) (fun zd_64 => ?_)
            · replace zh := zh.1 zd_64
              refine vr_getE dX10_scanWord_166 (i := 1) (by decide) tw_538 ?_
              exact vr_aret dX10_scanWord_169 rfl (Or.inl ⟨_, rfl⟩) zh
            · replace zh := zh.2 zd_64
              refine vr_iload dX10_scanWord_155 rfl ?_
              refine vr_iconst dX10_scanWord_157 (v := (-1 : Int32)) (by decide) ?_
              refine vr_ic_eq dX10_scanWord_158 (tgt := 170) rfl (fun zd_65 => ?_) (fun zd_65 => ?_)
              · replace zh := zh.1 zd_65
                refine vr_aload_n dX10_scanWord_170 rfl rfl ?_
                refine vr_iload_n dX10_scanWord_171 rfl rfl ?_
                refine vr_iload dX10_scanWord_172 rfl ?_
                refine vr_if_eq dX10_scanWord_174 (tgt := 183) rfl (fun _ => ?_) (fun c => absurd (by decide) c)
                refine vr_lload_n dX10_scanWord_183 rfl rfl ?_
                obtain ⟨s66, zw1, zf_67, zh⟩ := zh
                refine vc_V (As := [.int l1, .long l3]) (rest := []) dX10_scanWord_184 cV_LitmusTester_Tokens_82 (wC_143 zw) rfl rfl (Nat.le_of_ble_eq_true rfl) (Nat.le_of_ble_eq_true rfl) (co_v zf_67 ?_)
                replace zw := zw1
                refine vr_iload dX10_scanWord_187 rfl ?_
                refine vr_if_eq dX10_scanWord_189 (tgt := 198) rfl (fun _ => ?_) (fun c => absurd (by decide) c)
                refine vr_aload_n dX10_scanWord_198 rfl rfl ?_
                refine vr_iload_n dX10_scanWord_199 rfl rfl ?_
                refine vr_getE dX10_scanWord_200 (i := 3) (by decide) tw_546 ?_
                obtain ⟨v70, s68, zw1, zf_69, zh⟩ := zh
                refine vc_V (As := [.int l2, .ref 3]) (rest := []) dX10_scanWord_203 cV_LitmusTester_Tokens_74 (wC_143 zw) rfl rfl (Nat.le_of_ble_eq_true rfl) (Nat.le_of_ble_eq_true rfl) (co_n zf_69 ?_)
                replace zw := zw1
                exact vr_aret dX10_scanWord_206 rfl (Or.inl ⟨_, rfl⟩) zh
              · replace zh := zh.2 zd_65
                refine vr_iload dX10_scanWord_161 rfl ?_
                refine vr_if_ne dX10_scanWord_163 (tgt := 170) rfl (fun c => absurd (by decide) c) (fun _ => ?_)
                refine vr_getE dX10_scanWord_166 (i := 1) (by decide) tw_538 ?_
                exact vr_aret dX10_scanWord_169 rfl (Or.inl ⟨_, rfl⟩) zh
          · replace zh := zh.1 ((lg_cmp_eq _ _).mp zd_49)
            refine vr_iload dX10_scanWord_135 rfl ?_
            refine vr_iconst dX10_scanWord_137 (v := (2 : Int32)) (by decide) ?_
            refine vr_ic_ge dX10_scanWord_138 (tgt := 145) rfl (fun zd_50 => ?_) (fun zd_50 => ?_)
            · replace zh := zh.1 zd_50
              refine vr_iconst dX10_scanWord_145 (v := (0 : Int32)) (by decide) ?_
              refine vr_istore dX10_scanWord_146 (Nat.le_of_ble_eq_true rfl) (vv_eq (ls' := [(0, .ref 143), (1, .int l1), (2, .int l2), (3, .long l3), (5, .int l5), (6, .int ((st_I s41 143 5) - l2)), (7, .int (0 : Int32))]) rfl ?_)
              refine vr_iload dX10_scanWord_148 rfl ?_
              refine vr_bipush dX10_scanWord_150 (v := (8 : Int32)) (by decide) ?_
              refine vr_ic_gt dX10_scanWord_152 (tgt := 166) rfl (fun zd_51 => ?_) (fun zd_51 => ?_)
              · replace zh := zh.1 zd_51
                refine vr_getE dX10_scanWord_166 (i := 1) (by decide) tw_538 ?_
                exact vr_aret dX10_scanWord_169 rfl (Or.inl ⟨_, rfl⟩) zh
              · replace zh := zh.2 zd_51
                refine vr_iload dX10_scanWord_155 rfl ?_
                refine vr_iconst dX10_scanWord_157 (v := (-1 : Int32)) (by decide) ?_
                refine vr_ic_eq dX10_scanWord_158 (tgt := 170) rfl (fun zd_52 => ?_) (fun zd_52 => ?_)
                · replace zh := zh.1 zd_52
                  refine vr_aload_n dX10_scanWord_170 rfl rfl ?_
                  refine vr_iload_n dX10_scanWord_171 rfl rfl ?_
                  refine vr_iload dX10_scanWord_172 rfl ?_
                  refine vr_if_eq dX10_scanWord_174 (tgt := 183) rfl (fun _ => ?_) (fun c => absurd (by decide) c)
                  refine vr_lload_n dX10_scanWord_183 rfl rfl ?_
                  obtain ⟨s53, zw1, zf_54, zh⟩ := zh
                  refine vc_V (As := [.int l1, .long l3]) (rest := []) dX10_scanWord_184 cV_LitmusTester_Tokens_82 (wC_143 zw) rfl rfl (Nat.le_of_ble_eq_true rfl) (Nat.le_of_ble_eq_true rfl) (co_v zf_54 ?_)
                  replace zw := zw1
                  refine vr_iload dX10_scanWord_187 rfl ?_
                  refine vr_if_eq dX10_scanWord_189 (tgt := 198) rfl (fun _ => ?_) (fun c => absurd (by decide) c)
                  refine vr_aload_n dX10_scanWord_198 rfl rfl ?_
                  refine vr_iload_n dX10_scanWord_199 rfl rfl ?_
                  refine vr_getE dX10_scanWord_200 (i := 3) (by decide) tw_546 ?_
                  obtain ⟨v57, s55, zw1, zf_56, zh⟩ := zh
                  refine vc_V (As := [.int l2, .ref 3]) (rest := []) dX10_scanWord_203 cV_LitmusTester_Tokens_74 (wC_143 zw) rfl rfl (Nat.le_of_ble_eq_true rfl) (Nat.le_of_ble_eq_true rfl) (co_n zf_56 ?_)
                  replace zw := zw1
                  exact vr_aret dX10_scanWord_206 rfl (Or.inl ⟨_, rfl⟩) zh
                · replace zh := zh.2 zd_52
                  refine vr_iload dX10_scanWord_161 rfl ?_
                  refine vr_if_ne dX10_scanWord_163 (tgt := 170) rfl (fun c => absurd (by decide) c) (fun _ => ?_)
                  refine vr_getE dX10_scanWord_166 (i := 1) (by decide) tw_538 ?_
                  exact vr_aret dX10_scanWord_169 rfl (Or.inl ⟨_, rfl⟩) zh
            · replace zh := zh.2 zd_50
              refine vr_iconst dX10_scanWord_141 (v := (1 : Int32)) (by decide) ?_
              refine vr_goto dX10_scanWord_142 (tgt := 146) rfl ?_
              refine vr_istore dX10_scanWord_146 (Nat.le_of_ble_eq_true rfl) (vv_eq (ls' := [(0, .ref 143), (1, .int l1), (2, .int l2), (3, .long l3), (5, .int l5), (6, .int ((st_I s41 143 5) - l2)), (7, .int (1 : Int32))]) rfl ?_)
              refine vr_iload dX10_scanWord_148 rfl ?_
              refine vr_bipush dX10_scanWord_150 (v := (8 : Int32)) (by decide) ?_
              refine vr_ic_gt dX10_scanWord_152 (tgt := 166) rfl (fun zd_58 => ?_) (fun zd_58 => ?_)
              · replace zh := zh.1 zd_58
                refine vr_getE dX10_scanWord_166 (i := 1) (by decide) tw_538 ?_
                exact vr_aret dX10_scanWord_169 rfl (Or.inl ⟨_, rfl⟩) zh
              · replace zh := zh.2 zd_58
                refine vr_iload dX10_scanWord_155 rfl ?_
                refine vr_iconst dX10_scanWord_157 (v := (-1 : Int32)) (by decide) ?_
                refine vr_ic_eq dX10_scanWord_158 (tgt := 170) rfl (fun zd_59 => ?_) (fun zd_59 => ?_)
                · replace zh := zh.1 zd_59
                  refine vr_aload_n dX10_scanWord_170 rfl rfl ?_
                  refine vr_iload_n dX10_scanWord_171 rfl rfl ?_
                  refine vr_iload dX10_scanWord_172 rfl ?_
                  refine vr_if_eq dX10_scanWord_174 (tgt := 183) rfl (fun c => absurd c (by decide)) (fun _ => ?_)
                  refine vr_iload dX10_scanWord_177 rfl ?_
                  refine vr_i2l dX10_scanWord_179 ?_
                  refine vr_goto dX10_scanWord_180 (tgt := 184) rfl ?_
                  obtain ⟨s60, zw1, zf_61, zh⟩ := zh
                  refine vc_V (As := [.int l1, .long (l5.toInt64)]) (rest := []) dX10_scanWord_184 cV_LitmusTester_Tokens_82 (wC_143 zw) rfl rfl (Nat.le_of_ble_eq_true rfl) (Nat.le_of_ble_eq_true rfl) (co_v zf_61 ?_)
                  replace zw := zw1
                  refine vr_iload dX10_scanWord_187 rfl ?_
                  refine vr_if_eq dX10_scanWord_189 (tgt := 198) rfl (fun c => absurd c (by decide)) (fun _ => ?_)
                  refine vr_getE dX10_scanWord_192 (i := 2) (by decide) tw_544 ?_
                  refine vr_goto dX10_scanWord_195 (tgt := 206) rfl ?_
                  exact vr_aret dX10_scanWord_206 rfl (Or.inl ⟨_, rfl⟩) zh
                · replace zh := zh.2 zd_59
                  refine vr_iload dX10_scanWord_161 rfl ?_
                  refine vr_if_ne dX10_scanWord_163 (tgt := 170) rfl (fun _ => ?_) (fun c => absurd c (by decide))
                  refine vr_aload_n dX10_scanWord_170 rfl rfl ?_
                  refine vr_iload_n dX10_scanWord_171 rfl rfl ?_
                  refine vr_iload dX10_scanWord_172 rfl ?_
                  refine vr_if_eq dX10_scanWord_174 (tgt := 183) rfl (fun c => absurd c (by decide)) (fun _ => ?_)
                  refine vr_iload dX10_scanWord_177 rfl ?_
                  refine vr_i2l dX10_scanWord_179 ?_
                  refine vr_goto dX10_scanWord_180 (tgt := 184) rfl ?_
                  obtain ⟨s62, zw1, zf_63, zh⟩ := zh
                  refine vc_V (As := [.int l1, .long (l5.toInt64)]) (rest := []) dX10_scanWord_184 cV_LitmusTester_Tokens_82 (wC_143 zw) rfl rfl (Nat.le_of_ble_eq_true rfl) (Nat.le_of_ble_eq_true rfl) (co_v zf_63 ?_)
                  replace zw := zw1
                  refine vr_iload dX10_scanWord_187 rfl ?_
                  refine vr_if_eq dX10_scanWord_189 (tgt := 198) rfl (fun c => absurd c (by decide)) (fun _ => ?_)
                  refine vr_getE dX10_scanWord_192 (i := 2) (by decide) tw_544 ?_
                  refine vr_goto dX10_scanWord_195 (tgt := 206) rfl ?_
                  exact vr_aret dX10_scanWord_206 rfl (Or.inl ⟨_, rfl⟩) zh
      · replace zh := zh.2 zd_44
        refine vr_aload_n dX10_scanWord_51 rfl rfl ?_
        refine vr_getR dX10_scanWord_52 fl_LitmusTester_Tokens_35 (wC_143 zw) (Or.inr ⟨_, rfl⟩) (wR_143_0 zw) ?_
        refine vr_aload_n dX10_scanWord_55 rfl rfl ?_
        refine vr_getI dX10_scanWord_56 fl_LitmusTester_Tokens_29 (wC_143 zw) rfl ?_
        obtain ⟨zi_78, zh⟩ := zh
        refine vr_baload dX10_scanWord_59 (Or.inl (wS_129 zw)) zi_78 ?_
        obtain ⟨v81, s79, zw1, zf_80, zh⟩ := zh
        refine vc_S (As := [.int (st_I s41 129 (st_I s41 143 5).toNatClampNeg)]) (rest := []) dX10_scanWord_60 cS_LitmusTester_Tokens_58 rfl rfl (Nat.le_of_ble_eq_true rfl) (Nat.le_of_ble_eq_true rfl) (co_n zf_80 ?_)
        replace zw := zw1
        refine vr_if_eq dX10_scanWord_63 (tgt := 83) rfl (fun zd_82 => ?_) (fun zd_82 => ?_)
        · replace zh := zh.1 zd_82
          refine vr_aload_n dX10_scanWord_83 rfl rfl ?_
          refine vr_getR dX10_scanWord_84 fl_LitmusTester_Tokens_35 (wC_143 zw) (Or.inr ⟨_, rfl⟩) (wR_143_0 zw) ?_
          refine vr_aload_n dX10_scanWord_87 rfl rfl ?_
          refine vr_getI dX10_scanWord_88 fl_LitmusTester_Tokens_29 (wC_143 zw) rfl ?_
          obtain ⟨zi_83, zh⟩ := zh
          refine vr_baload dX10_scanWord_91 (Or.inl (wS_129 zw)) zi_83 ?_
          refine vr_bipush dX10_scanWord_92 (v := (48 : Int32)) (by decide) ?_
          refine vr_isub dX10_scanWord_94 ?_
          refine vr_istore dX10_scanWord_95 (Nat.le_of_ble_eq_true rfl) (vv_eq (ls' := [(0, .ref 143), (1, .int l1), (2, .int l2), (3, .long l3), (5, .int ((st_I s79 129 (st_I s79 143 5).toNatClampNeg) - (48 : Int32)))]) rfl ?_)
          refine vr_aload_n dX10_scanWord_97 rfl rfl ?_
          refine vr_dup dX10_scanWord_98 rfl ?_
          refine vr_getI dX10_scanWord_99 fl_LitmusTester_Tokens_29 (wC_143 zw) rfl ?_
          refine vr_iconst dX10_scanWord_102 (v := (1 : Int32)) (by decide) ?_
          refine vr_iadd dX10_scanWord_103 ?_
          refine vr_putI dX10_scanWord_104 fl_LitmusTester_Tokens_29 (wC_143 zw) rfl (fz_9_5) ?_
          refine vr_goto dX10_scanWord_107 (tgt := 10) rfl ?_
          exact vv_sub (ls' := [(0, .ref 143), (1, .int l1), (2, .int l2), (3, .long l3), (5, .int ((st_I s79 129 (st_I s79 143 5).toNatClampNeg) - (48 : Int32)))]) ⟨rfl, rfl, rfl, rfl, rfl, trivial⟩ zh
        · replace zh := zh.2 zd_82
          refine vr_lload_n dX10_scanWord_66 rfl rfl ?_
          refine vr_aload_n dX10_scanWord_67 rfl rfl ?_
          refine vr_getR dX10_scanWord_68 fl_LitmusTester_Tokens_35 (wC_143 zw) (Or.inr ⟨_, rfl⟩) (wR_143_0 zw) ?_
          refine vr_aload_n dX10_scanWord_71 rfl rfl ?_
          refine vr_getI dX10_scanWord_72 fl_LitmusTester_Tokens_29 (wC_143 zw) rfl ?_
          obtain ⟨zi_84, zh⟩ := zh
          refine vr_baload dX10_scanWord_75 (Or.inl (wS_129 zw)) zi_84 ?_
          obtain ⟨v87, s85, zw1, zf_86, zh⟩ := zh
          refine vc_S (As := [.long l3, .int (st_I s79 129 (st_I s79 143 5).toNatClampNeg)]) (rest := []) dX10_scanWord_76 cS_LitmusTester_Tokens_78 rfl rfl (Nat.le_of_ble_eq_true rfl) (Nat.le_of_ble_eq_true rfl) (co_n zf_86 ?_)
          replace zw := zw1
          refine vr_lstore_n dX10_scanWord_79 rfl (Nat.le_of_ble_eq_true rfl) (vv_eq (ls' := [(0, .ref 143), (1, .int l1), (2, .int l2), (3, .long v87), (5, .int l5)]) rfl ?_)
          refine vr_goto dX10_scanWord_80 (tgt := 97) rfl ?_
          refine vr_aload_n dX10_scanWord_97 rfl rfl ?_
          refine vr_dup dX10_scanWord_98 rfl ?_
          refine vr_getI dX10_scanWord_99 fl_LitmusTester_Tokens_29 (wC_143 zw) rfl ?_
          refine vr_iconst dX10_scanWord_102 (v := (1 : Int32)) (by decide) ?_
          refine vr_iadd dX10_scanWord_103 ?_
          refine vr_putI dX10_scanWord_104 fl_LitmusTester_Tokens_29 (wC_143 zw) rfl (fz_9_5) ?_
          refine vr_goto dX10_scanWord_107 (tgt := 10) rfl ?_
          exact vv_sub (ls' := [(0, .ref 143), (1, .int l1), (2, .int l2), (3, .long v87), (5, .int l5)]) ⟨rfl, rfl, rfl, rfl, rfl, trivial⟩ zh
def p_X10_scanNumber_0 (γ : ga_T) (l1 : Int32) (σ : st_T) (Q : rs_T → st_T → Prop) : Prop :=
  vv_ γ m_X10_scanNumber 1 7 [(0, .ref 143), (1, .int l1), (2, .int (st_I σ 143 5)), (3, .int (0 : Int32))] [] σ Q
set_option maxRecDepth 10000 in
theorem g_X10_scanNumber_0 {γ : ga_T} {l1 : Int32} {σ : st_T} {Q : rs_T → st_T → Prop} (zw : Wd σ) (zh : p_X10_scanNumber_0 γ l1 σ Q) : vv_ γ m_X10_scanNumber 1 0 [(0, .ref 143), (1, .int l1)] [] σ Q := by
  unfold p_X10_scanNumber_0 at zh
  refine vr_aload_n dX10_scanNumber_0 rfl rfl ?_
  refine vr_getI dX10_scanNumber_1 fl_LitmusTester_Tokens_29 (wC_143 zw) rfl ?_
  refine vr_istore_n dX10_scanNumber_4 rfl (Nat.le_of_ble_eq_true rfl) (vv_eq (ls' := [(0, .ref 143), (1, .int l1), (2, .int (st_I σ 143 5))]) rfl ?_)
  refine vr_iconst dX10_scanNumber_5 (v := (0 : Int32)) (by decide) ?_
  refine vr_istore_n dX10_scanNumber_6 rfl (Nat.le_of_ble_eq_true rfl) (vv_eq (ls' := [(0, .ref 143), (1, .int l1), (2, .int (st_I σ 143 5)), (3, .int (0 : Int32))]) rfl ?_)
  exact vv_sub (ls' := [(0, .ref 143), (1, .int l1), (2, .int (st_I σ 143 5)), (3, .int (0 : Int32))]) ⟨rfl, rfl, rfl, rfl, trivial⟩ zh
theorem e_X10_scanNumber {γ : ga_T} {l1 : Int32} {σ : st_T} {Q : rs_T → st_T → Prop} (zw : Wd σ) (zh : p_X10_scanNumber_0 γ l1 σ Q) : sp_ γ m_X10_scanNumber 1 [.ref 143, .int l1] σ Q := sp_of (pl_X10_scanNumber) rfl (Nat.le_of_ble_eq_true rfl) (g_X10_scanNumber_0 zw zh)
def p_X10_scanNumber_7 (γ : ga_T) (l1 : Int32) (l2 : Int32) (l3 : Int32) (σ : st_T) (Q : rs_T → st_T → Prop) : Prop :=
  ((st_I σ 143 4) ≤ (st_I σ 143 5) →
    ∃ s2, Wd s2 ∧ fw_ γ m_X10_setValue 0 [.ref 143, .int l1, .long (l3.toInt64)] σ s2 ∧
    (((st_I s2 143 5) - l2) ≤ (2 : Int32) →
      Q (.inl (some (.ref 4))) s2
    ) ∧ (¬ ((st_I s2 143 5) - l2) ≤ (2 : Int32) →
      Q (.inl (some (.ref 1))) s2
    )
  ) ∧ (¬ (st_I σ 143 4) ≤ (st_I σ 143 5) →
    vp_in (st_I σ 143 5) 600 ∧
    ∃ (v8 : Int32) (s6 : st_T), Wd s6 ∧ fn_ γ m_X10_isDigit 0 [.int (st_I σ 129 (st_I σ 143 5).toNatClampNeg)] σ (.int v8) s6 ∧
    (v8 = (0 : Int32) →
      ∃ s10, Wd s10 ∧ fw_ γ m_X10_setValue 0 [.ref 143, .int l1, .long (l3.toInt64)] s6 s10 ∧
      (((st_I s10 143 5) - l2) ≤ (2 : Int32) →
        Q (.inl (some (.ref 4))) s10
      ) ∧ (¬ ((st_I s10 143 5) - l2) ≤ (2 : Int32) →
        Q (.inl (some (.ref 1))) s10
      )
    ) ∧ (¬ v8 = (0 : Int32) →
      ((2 : Int32) ≤ ((st_I s6 143 5) - l2) →
        vv_ γ m_X10_scanNumber 1 7 [(0, .ref 143), (1, .int l1), (2, .int l2), (3, .int l3)] [] (pt_I s6 143 5 ((st_I s6 143 5) + (1 : Int32))) Q
      ) ∧ (¬ (2 : Int32) ≤ ((st_I s6 143 5) - l2) →
        vp_in (st_I s6 143 5) 600 ∧
        vv_ γ m_X10_scanNumber 1 7 [(0, .ref 143), (1, .int l1), (2, .int l2), (3, .int ((((10 : Int32) * l3) + (st_I s6 129 (st_I s6 143 5).toNatClampNeg)) - (48 : Int32)))] [] (pt_I s6 143 5 ((st_I s6 143 5) + (1 : Int32))) Q
      )
    )
  )
set_option maxRecDepth 10000 in
theorem g_X10_scanNumber_7 {γ : ga_T} {l1 : Int32} {l2 : Int32} {l3 : Int32} {σ : st_T} {Q : rs_T → st_T → Prop} (zw : Wd σ) (zh : p_X10_scanNumber_7 γ l1 l2 l3 σ Q) : vv_ γ m_X10_scanNumber 1 7 [(0, .ref 143), (1, .int l1), (2, .int l2), (3, .int l3)] [] σ Q := by
  unfold p_X10_scanNumber_7 at zh
  refine vr_aload_n dX10_scanNumber_7 rfl rfl ?_
  refine vr_getI dX10_scanNumber_8 fl_LitmusTester_Tokens_29 (wC_143 zw) rfl ?_
  refine vr_aload_n dX10_scanNumber_11 rfl rfl ?_
  refine vr_getI dX10_scanNumber_12 fl_LitmusTester_Tokens_25 (wC_143 zw) rfl ?_
  refine vr_ic_ge dX10_scanNumber_15 (tgt := 78) rfl (fun zd_1 => ?_) (fun zd_1 => ?_)
  · replace zh := zh.1 zd_1
    refine vr_aload_n dX10_scanNumber_78 rfl rfl ?_
    refine vr_iload_n dX10_scanNumber_79 rfl rfl ?_
    refine vr_iload_n dX10_scanNumber_80 rfl rfl ?_
    refine vr_i2l dX10_scanNumber_81 ?_
    obtain ⟨s2, zw1, zf_3, zh⟩ := zh
    refine vc_V (As := [.int l1, .long (l3.toInt64)]) (rest := []) dX10_scanNumber_82 cV_LitmusTester_Tokens_82 (wC_143 zw) rfl rfl (Nat.le_of_ble_eq_true rfl) (Nat.le_of_ble_eq_true rfl) (co_v zf_3 ?_)
    replace zw := zw1
    refine vr_aload_n dX10_scanNumber_85 rfl rfl ?_
    refine vr_getI dX10_scanNumber_86 fl_LitmusTester_Tokens_29 (wC_143 zw) rfl ?_
    refine vr_iload_n dX10_scanNumber_89 rfl rfl ?_
    refine vr_isub dX10_scanNumber_90 ?_
    refine vr_iconst dX10_scanNumber_91 (v := (2 : Int32)) (by decide) ?_
    refine vr_ic_le dX10_scanNumber_92 (tgt := 101) rfl (fun zd_4 => ?_) (fun zd_4 => ?_)
    · replace zh := zh.1 zd_4
      refine vr_getE dX10_scanNumber_101 (i := 4) (by decide) tw_606 ?_
      exact vr_aret dX10_scanNumber_104 rfl (Or.inl ⟨_, rfl⟩) zh
    · replace zh := zh.2 zd_4
      refine vr_getE dX10_scanNumber_95 (i := 1) (by decide) tw_538 ?_
      refine vr_goto dX10_scanNumber_98 (tgt := 104) rfl ?_
      exact vr_aret dX10_scanNumber_104 rfl (Or.inl ⟨_, rfl⟩) zh
  · replace zh := zh.2 zd_1
    refine vr_aload_n dX10_scanNumber_18 rfl rfl ?_
    refine vr_getR dX10_scanNumber_19 fl_LitmusTester_Tokens_35 (wC_143 zw) (Or.inr ⟨_, rfl⟩) (wR_143_0 zw) ?_
    refine vr_aload_n dX10_scanNumber_22 rfl rfl ?_
    refine vr_getI dX10_scanNumber_23 fl_LitmusTester_Tokens_29 (wC_143 zw) rfl ?_
    obtain ⟨zi_5, zh⟩ := zh
    refine vr_baload dX10_scanNumber_26 (Or.inl (wS_129 zw)) zi_5 ?_
    obtain ⟨v8, s6, zw1, zf_7, zh⟩ := zh
    refine vc_S (As := [.int (st_I σ 129 (st_I σ 143 5).toNatClampNeg)]) (rest := []) dX10_scanNumber_27 cS_LitmusTester_Tokens_65 rfl rfl (Nat.le_of_ble_eq_true rfl) (Nat.le_of_ble_eq_true rfl) (co_n zf_7 ?_)
    replace zw := zw1
    refine vr_if_eq dX10_scanNumber_30 (tgt := 78) rfl (fun zd_9 => ?_) (fun zd_9 => ?_)
    · replace zh := zh.1 zd_9
      refine vr_aload_n dX10_scanNumber_78 rfl rfl ?_
      refine vr_iload_n dX10_scanNumber_79 rfl rfl ?_
      refine vr_iload_n dX10_scanNumber_80 rfl rfl ?_
      refine vr_i2l dX10_scanNumber_81 ?_
      obtain ⟨s10, zw1, zf_11, zh⟩ := zh
      refine vc_V (As := [.int l1, .long (l3.toInt64)]) (rest := []) dX10_scanNumber_82 cV_LitmusTester_Tokens_82 (wC_143 zw) rfl rfl (Nat.le_of_ble_eq_true rfl) (Nat.le_of_ble_eq_true rfl) (co_v zf_11 ?_)
      replace zw := zw1
      refine vr_aload_n dX10_scanNumber_85 rfl rfl ?_
      refine vr_getI dX10_scanNumber_86 fl_LitmusTester_Tokens_29 (wC_143 zw) rfl ?_
      refine vr_iload_n dX10_scanNumber_89 rfl rfl ?_
      refine vr_isub dX10_scanNumber_90 ?_
      refine vr_iconst dX10_scanNumber_91 (v := (2 : Int32)) (by decide) ?_
      refine vr_ic_le dX10_scanNumber_92 (tgt := 101) rfl (fun zd_12 => ?_) (fun zd_12 => ?_)
      · replace zh := zh.1 zd_12
        refine vr_getE dX10_scanNumber_101 (i := 4) (by decide) tw_606 ?_
        exact vr_aret dX10_scanNumber_104 rfl (Or.inl ⟨_, rfl⟩) zh
      · replace zh := zh.2 zd_12
        refine vr_getE dX10_scanNumber_95 (i := 1) (by decide) tw_538 ?_
        refine vr_goto dX10_scanNumber_98 (tgt := 104) rfl ?_
        exact vr_aret dX10_scanNumber_104 rfl (Or.inl ⟨_, rfl⟩) zh
    · replace zh := zh.2 zd_9
      refine vr_aload_n dX10_scanNumber_33 rfl rfl ?_
      refine vr_getI dX10_scanNumber_34 fl_LitmusTester_Tokens_29 (wC_143 zw) rfl ?_
      refine vr_iload_n dX10_scanNumber_37 rfl rfl ?_
      refine vr_isub dX10_scanNumber_38 ?_
      refine vr_iconst dX10_scanNumber_39 (v := (2 : Int32)) (by decide) ?_
      refine vr_ic_ge dX10_scanNumber_40 (tgt := 63) rfl (fun zd_13 => ?_) (fun zd_13 => ?_)
      · replace zh := zh.1 zd_13
        refine vr_iload_n dX10_scanNumber_63 rfl rfl ?_
        refine vr_istore_n dX10_scanNumber_64 rfl (Nat.le_of_ble_eq_true rfl) (vv_eq (ls' := [(0, .ref 143), (1, .int l1), (2, .int l2), (3, .int l3)]) rfl ?_)
        refine vr_aload_n dX10_scanNumber_65 rfl rfl ?_
        refine vr_dup dX10_scanNumber_66 rfl ?_
        refine vr_getI dX10_scanNumber_67 fl_LitmusTester_Tokens_29 (wC_143 zw) rfl ?_
        refine vr_iconst dX10_scanNumber_70 (v := (1 : Int32)) (by decide) ?_
        refine vr_iadd dX10_scanNumber_71 ?_
        refine vr_putI dX10_scanNumber_72 fl_LitmusTester_Tokens_29 (wC_143 zw) rfl (fz_9_5) ?_
        refine vr_goto dX10_scanNumber_75 (tgt := 7) rfl ?_
        exact vv_sub (ls' := [(0, .ref 143), (1, .int l1), (2, .int l2), (3, .int l3)]) ⟨rfl, rfl, rfl, rfl, trivial⟩ zh
      · replace zh := zh.2 zd_13
        refine vr_bipush dX10_scanNumber_43 (v := (10 : Int32)) (by decide) ?_
        refine vr_iload_n dX10_scanNumber_45 rfl rfl ?_
        refine vr_imul dX10_scanNumber_46 ?_
        refine vr_aload_n dX10_scanNumber_47 rfl rfl ?_
        refine vr_getR dX10_scanNumber_48 fl_LitmusTester_Tokens_35 (wC_143 zw) (Or.inr ⟨_, rfl⟩) (wR_143_0 zw) ?_
        refine vr_aload_n dX10_scanNumber_51 rfl rfl ?_
        refine vr_getI dX10_scanNumber_52 fl_LitmusTester_Tokens_29 (wC_143 zw) rfl ?_
        obtain ⟨zi_14, zh⟩ := zh
        refine vr_baload dX10_scanNumber_55 (Or.inl (wS_129 zw)) zi_14 ?_
        refine vr_iadd dX10_scanNumber_56 ?_
        refine vr_bipush dX10_scanNumber_57 (v := (48 : Int32)) (by decide) ?_
        refine vr_isub dX10_scanNumber_59 ?_
        refine vr_goto dX10_scanNumber_60 (tgt := 64) rfl ?_
        refine vr_istore_n dX10_scanNumber_64 rfl (Nat.le_of_ble_eq_true rfl) (vv_eq (ls' := [(0, .ref 143), (1, .int l1), (2, .int l2), (3, .int ((((10 : Int32) * l3) + (st_I s6 129 (st_I s6 143 5).toNatClampNeg)) - (48 : Int32)))]) rfl ?_)
        refine vr_aload_n dX10_scanNumber_65 rfl rfl ?_
        refine vr_dup dX10_scanNumber_66 rfl ?_
        refine vr_getI dX10_scanNumber_67 fl_LitmusTester_Tokens_29 (wC_143 zw) rfl ?_
        refine vr_iconst dX10_scanNumber_70 (v := (1 : Int32)) (by decide) ?_
        refine vr_iadd dX10_scanNumber_71 ?_
        refine vr_putI dX10_scanNumber_72 fl_LitmusTester_Tokens_29 (wC_143 zw) rfl (fz_9_5) ?_
        refine vr_goto dX10_scanNumber_75 (tgt := 7) rfl ?_
        exact vv_sub (ls' := [(0, .ref 143), (1, .int l1), (2, .int l2), (3, .int ((((10 : Int32) * l3) + (st_I s6 129 (st_I s6 143 5).toNatClampNeg)) - (48 : Int32)))]) ⟨rfl, rfl, rfl, rfl, trivial⟩ zh
def p_X10_setValue_0 (γ : ga_T) (l1 : Int32) (l2 : Int64) (σ : st_T) (Q : rs_T → st_T → Prop) : Prop :=
  (l1 < (0 : Int32) →
    Q (.inl none) σ
  ) ∧ (¬ l1 < (0 : Int32) →
    ((601 : Int32) ≤ l1 →
      Q (.inl none) σ
    ) ∧ (¬ (601 : Int32) ≤ l1 →
      vp_in l1 601 ∧
      Q (.inl none) (pt_L σ 146 l1.toNatClampNeg l2)
    )
  )
set_option maxRecDepth 10000 in
theorem g_X10_setValue_0 {γ : ga_T} {l1 : Int32} {l2 : Int64} {σ : st_T} {Q : rs_T → st_T → Prop} (zw : Wd σ) (zh : p_X10_setValue_0 γ l1 l2 σ Q) : vv_ γ m_X10_setValue 0 0 [(0, .ref 143), (1, .int l1), (2, .long l2)] [] σ Q := by
  unfold p_X10_setValue_0 at zh
  refine vr_iload_n dX10_setValue_0 rfl rfl ?_
  refine vr_if_lt dX10_setValue_1 (tgt := 20) rfl (fun zd_1 => ?_) (fun zd_1 => ?_)
  · replace zh := zh.1 zd_1
    exact vr_vret dX10_setValue_20 rfl zh
  · replace zh := zh.2 zd_1
    refine vr_iload_n dX10_setValue_4 rfl rfl ?_
    refine vr_aload_n dX10_setValue_5 rfl rfl ?_
    refine vr_getR dX10_setValue_6 fl_LitmusTester_Tokens_21 (wC_143 zw) (Or.inr ⟨_, rfl⟩) (wR_143_3 zw) ?_
    refine vr_alen dX10_setValue_9 (wS_146 zw) (Nat.le_of_ble_eq_true rfl) (Nat.le_of_ble_eq_true rfl) (v := (601 : Int32)) (by decide) ?_
    refine vr_ic_ge dX10_setValue_10 (tgt := 20) rfl (fun zd_2 => ?_) (fun zd_2 => ?_)
    · replace zh := zh.1 zd_2
      exact vr_vret dX10_setValue_20 rfl zh
    · replace zh := zh.2 zd_2
      refine vr_aload_n dX10_setValue_13 rfl rfl ?_
      refine vr_getR dX10_setValue_14 fl_LitmusTester_Tokens_21 (wC_143 zw) (Or.inr ⟨_, rfl⟩) (wR_143_3 zw) ?_
      refine vr_iload_n dX10_setValue_17 rfl rfl ?_
      refine vr_lload_n dX10_setValue_18 rfl rfl ?_
      obtain ⟨zi_3, zh⟩ := zh
      refine vr_lastore dX10_setValue_19 (wS_146 zw) zi_3 ?_
      exact vr_vret dX10_setValue_20 rfl zh
theorem e_X10_setValue {γ : ga_T} {l1 : Int32} {l2 : Int64} {σ : st_T} {Q : rs_T → st_T → Prop} (zw : Wd σ) (zh : p_X10_setValue_0 γ l1 l2 σ Q) : sp_ γ m_X10_setValue 0 [.ref 143, .int l1, .long l2] σ Q := sp_of (pl_X10_setValue) rfl (Nat.le_of_ble_eq_true rfl) (g_X10_setValue_0 zw zh)
def p_X10_fixedSign_0 (γ : ga_T) (l1 : Int32) (l2 : Nat) (σ : st_T) (Q : rs_T → st_T → Prop) : Prop :=
  vv_ γ m_X10_fixedSign 13 11 [(0, .ref 143), (1, .int l1), (2, .ref l2), (3, .ref 21), (4, .int (21 : Int32)), (5, .int (0 : Int32))] [] σ Q
set_option maxRecDepth 10000 in
theorem g_X10_fixedSign_0 {γ : ga_T} {l1 : Int32} {l2 : Nat} {σ : st_T} {Q : rs_T → st_T → Prop} (zw : Wd σ) (zh : p_X10_fixedSign_0 γ l1 l2 σ Q) : vv_ γ m_X10_fixedSign 13 0 [(0, .ref 143), (1, .int l1), (2, .ref l2)] [] σ Q := by
  unfold p_X10_fixedSign_0 at zh
  refine vr_getSIGNS dX10_fixedSign_0 rfl ?_
  refine vr_astore_n dX10_fixedSign_3 rfl (Nat.le_of_ble_eq_true rfl) (vv_eq (ls' := [(0, .ref 143), (1, .int l1), (2, .ref l2), (3, .ref 21)]) rfl ?_)
  refine vr_aload_n dX10_fixedSign_4 rfl rfl ?_
  refine vr_alenSIGNS dX10_fixedSign_5 ?_
  refine vr_istore dX10_fixedSign_6 (Nat.le_of_ble_eq_true rfl) (vv_eq (ls' := [(0, .ref 143), (1, .int l1), (2, .ref l2), (3, .ref 21), (4, .int (21 : Int32))]) rfl ?_)
  refine vr_iconst dX10_fixedSign_8 (v := (0 : Int32)) (by decide) ?_
  refine vr_istore dX10_fixedSign_9 (Nat.le_of_ble_eq_true rfl) (vv_eq (ls' := [(0, .ref 143), (1, .int l1), (2, .ref l2), (3, .ref 21), (4, .int (21 : Int32)), (5, .int (0 : Int32))]) rfl ?_)
  exact vv_sub (ls' := [(0, .ref 143), (1, .int l1), (2, .ref l2), (3, .ref 21), (4, .int (21 : Int32)), (5, .int (0 : Int32))]) ⟨rfl, rfl, rfl, rfl, rfl, rfl, trivial⟩ zh
theorem e_X10_fixedSign {γ : ga_T} {l1 : Int32} {l2 : Nat} {σ : st_T} {Q : rs_T → st_T → Prop} (zw : Wd σ) (zh : p_X10_fixedSign_0 γ l1 l2 σ Q) : sp_ γ m_X10_fixedSign 13 [.ref 143, .int l1, .ref l2] σ Q := sp_of (pl_X10_fixedSign) rfl (Nat.le_of_ble_eq_true rfl) (g_X10_fixedSign_0 zw zh)
def p_X10_fixedSign_11 (γ : ga_T) (l1 : Int32) (l2 : Nat) (l4 : Int32) (l5 : Int32) (σ : st_T) (Q : rs_T → st_T → Prop) : Prop :=
  (l4 ≤ l5 →
    Q (.inl (some (.ref l2))) σ
  ) ∧ (¬ l4 ≤ l5 →
    vp_in l5 21 ∧
    l5.toNatClampNeg < 21 ∧
    (sg_tx.getD l5.toNatClampNeg 0) < 46 ∧
    ∃ (v7 : Int32) (s5 : st_T), Wd s5 ∧ fn_ γ m_J0_length_8abf5 1 [.ref (30 + sg_tx.getD l5.toNatClampNeg 0)] σ (.int v7) s5 ∧
    (v7 = ((st_I s5 143 5) - l1) →
      vv_ γ m_X10_fixedSign 13 51 [(0, .ref 143), (1, .int l1), (2, .ref l2), (3, .ref 21), (4, .int l4), (5, .int l5), (6, .ref l5.toNatClampNeg), (7, .int (1 : Int32)), (8, .int (0 : Int32))] [] s5 Q
    ) ∧ (¬ v7 = ((st_I s5 143 5) - l1) →
      vv_ γ m_X10_fixedSign 13 51 [(0, .ref 143), (1, .int l1), (2, .ref l2), (3, .ref 21), (4, .int l4), (5, .int l5), (6, .ref l5.toNatClampNeg), (7, .int (0 : Int32)), (8, .int (0 : Int32))] [] s5 Q
    )
  )
set_option maxRecDepth 10000 in
theorem g_X10_fixedSign_11 {γ : ga_T} {l1 : Int32} {l2 : Nat} {l4 : Int32} {l5 : Int32} {σ : st_T} {Q : rs_T → st_T → Prop} (zw : Wd σ) (zh : p_X10_fixedSign_11 γ l1 l2 l4 l5 σ Q) : vv_ γ m_X10_fixedSign 13 11 [(0, .ref 143), (1, .int l1), (2, .ref l2), (3, .ref 21), (4, .int l4), (5, .int l5)] [] σ Q := by
  unfold p_X10_fixedSign_11 at zh
  refine vr_iload dX10_fixedSign_11 rfl ?_
  refine vr_iload dX10_fixedSign_13 rfl ?_
  refine vr_ic_ge dX10_fixedSign_15 (tgt := 129) rfl (fun zd_1 => ?_) (fun zd_1 => ?_)
  · replace zh := zh.1 zd_1
    refine vr_aload_n dX10_fixedSign_129 rfl rfl ?_
    exact vr_aret dX10_fixedSign_130 rfl (Or.inl ⟨_, rfl⟩) zh
  · replace zh := zh.2 zd_1
    refine vr_aload_n dX10_fixedSign_18 rfl rfl ?_
    refine vr_iload dX10_fixedSign_19 rfl ?_
    obtain ⟨zi_2, zh⟩ := zh
    refine vr_aaloadSIGNS dX10_fixedSign_21 zi_2 ?_
    refine vr_astore dX10_fixedSign_22 (Nat.le_of_ble_eq_true rfl) (vv_eq (ls' := [(0, .ref 143), (1, .int l1), (2, .ref l2), (3, .ref 21), (4, .int l4), (5, .int l5), (6, .ref l5.toNatClampNeg)]) rfl ?_)
    refine vr_aload dX10_fixedSign_24 rfl ?_
    obtain ⟨zg_3, zh⟩ := zh
    refine vr_getText dX10_fixedSign_26 rfl zg_3 ?_
    obtain ⟨zx_4, zh⟩ := zh
    obtain ⟨v7, s5, zw1, zf_6, zh⟩ := zh
    refine vc_T (As := []) (rest := []) dX10_fixedSign_29 cT_LitmusTester_Tokens_101 zx_4 rfl rfl (Nat.le_of_ble_eq_true rfl) (Nat.le_of_ble_eq_true rfl) (co_n zf_6 ?_)
    replace zw := zw1
    refine vr_aload_n dX10_fixedSign_32 rfl rfl ?_
    refine vr_getI dX10_fixedSign_33 fl_LitmusTester_Tokens_29 (wC_143 zw) rfl ?_
    refine vr_iload_n dX10_fixedSign_36 rfl rfl ?_
    refine vr_isub dX10_fixedSign_37 ?_
    refine vr_ic_ne dX10_fixedSign_38 (tgt := 45) rfl (fun zd_8 => ?_) (fun zd_8 => ?_)
    · replace zh := zh.2 zd_8
      refine vr_iconst dX10_fixedSign_45 (v := (0 : Int32)) (by decide) ?_
      refine vr_istore dX10_fixedSign_46 (Nat.le_of_ble_eq_true rfl) (vv_eq (ls' := [(0, .ref 143), (1, .int l1), (2, .ref l2), (3, .ref 21), (4, .int l4), (5, .int l5), (6, .ref l5.toNatClampNeg), (7, .int (0 : Int32))]) rfl ?_)
      refine vr_iconst dX10_fixedSign_48 (v := (0 : Int32)) (by decide) ?_
      refine vr_istore dX10_fixedSign_49 (Nat.le_of_ble_eq_true rfl) (vv_eq (ls' := [(0, .ref 143), (1, .int l1), (2, .ref l2), (3, .ref 21), (4, .int l4), (5, .int l5), (6, .ref l5.toNatClampNeg), (7, .int (0 : Int32)), (8, .int (0 : Int32))]) rfl ?_)
      exact vv_sub (ls' := [(0, .ref 143), (1, .int l1), (2, .ref l2), (3, .ref 21), (4, .int l4), (5, .int l5), (6, .ref l5.toNatClampNeg), (7, .int (0 : Int32)), (8, .int (0 : Int32))]) ⟨rfl, rfl, rfl, rfl, rfl, rfl, rfl, rfl, rfl, trivial⟩ zh
    · replace zh := zh.1 zd_8
      refine vr_iconst dX10_fixedSign_41 (v := (1 : Int32)) (by decide) ?_
      refine vr_goto dX10_fixedSign_42 (tgt := 46) rfl ?_
      refine vr_istore dX10_fixedSign_46 (Nat.le_of_ble_eq_true rfl) (vv_eq (ls' := [(0, .ref 143), (1, .int l1), (2, .ref l2), (3, .ref 21), (4, .int l4), (5, .int l5), (6, .ref l5.toNatClampNeg), (7, .int (1 : Int32))]) rfl ?_)
      refine vr_iconst dX10_fixedSign_48 (v := (0 : Int32)) (by decide) ?_
      refine vr_istore dX10_fixedSign_49 (Nat.le_of_ble_eq_true rfl) (vv_eq (ls' := [(0, .ref 143), (1, .int l1), (2, .ref l2), (3, .ref 21), (4, .int l4), (5, .int l5), (6, .ref l5.toNatClampNeg), (7, .int (1 : Int32)), (8, .int (0 : Int32))]) rfl ?_)
      exact vv_sub (ls' := [(0, .ref 143), (1, .int l1), (2, .ref l2), (3, .ref 21), (4, .int l4), (5, .int l5), (6, .ref l5.toNatClampNeg), (7, .int (1 : Int32)), (8, .int (0 : Int32))]) ⟨rfl, rfl, rfl, rfl, rfl, rfl, rfl, rfl, rfl, trivial⟩ zh
def p_X10_fixedSign_51 (γ : ga_T) (l1 : Int32) (l2 : Nat) (l4 : Int32) (l5 : Int32) (l6 : Nat) (l7 : Int32) (l8 : Int32) (σ : st_T) (Q : rs_T → st_T → Prop) : Prop :=
  (l7 = (0 : Int32) →
    (l7 = (0 : Int32) →
      vv_ γ m_X10_fixedSign 13 11 [(0, .ref 143), (1, .int l1), (2, .ref l2), (3, .ref 21), (4, .int l4), (5, .int (l5 + 1))] [] σ Q
    ) ∧ (¬ l7 = (0 : Int32) →
      Q (.inl (some (.ref l6))) σ
    )
  ) ∧ (¬ l7 = (0 : Int32) →
    l6 < 21 ∧
    (sg_tx.getD l6 0) < 46 ∧
    ∃ (v7 : Int32) (s5 : st_T), Wd s5 ∧ fn_ γ m_J0_length_8abf5 1 [.ref (30 + sg_tx.getD l6 0)] σ (.int v7) s5 ∧
    (v7 ≤ l8 →
      (l7 = (0 : Int32) →
        vv_ γ m_X10_fixedSign 13 11 [(0, .ref 143), (1, .int l1), (2, .ref l2), (3, .ref 21), (4, .int l4), (5, .int (l5 + 1))] [] s5 Q
      ) ∧ (¬ l7 = (0 : Int32) →
        Q (.inl (some (.ref l6))) s5
      )
    ) ∧ (¬ v7 ≤ l8 →
      ((st_I s5 143 4) ≤ (l1 + l8) →
        (l7 = (0 : Int32) →
          vv_ γ m_X10_fixedSign 13 11 [(0, .ref 143), (1, .int l1), (2, .ref l2), (3, .ref 21), (4, .int l4), (5, .int (l5 + 1))] [] s5 Q
        ) ∧ (¬ l7 = (0 : Int32) →
          Q (.inl (some (.ref l6))) s5
        )
      ) ∧ (¬ (st_I s5 143 4) ≤ (l1 + l8) →
        l6 < 21 ∧
        (sg_tx.getD l6 0) < 46 ∧
        ∃ (v16 : Int32) (s14 : st_T), Wd s14 ∧ fn_ γ m_J0_charAt_5068e 12 [.ref (30 + sg_tx.getD l6 0), .int l8] s5 (.int v16) s14 ∧
        vp_in (l1 + l8) 600 ∧
        (v16 = (st_I s14 129 (l1 + l8).toNatClampNeg) →
          vv_ γ m_X10_fixedSign 13 51 [(0, .ref 143), (1, .int l1), (2, .ref l2), (3, .ref 21), (4, .int l4), (5, .int l5), (6, .ref l6), (7, .int (1 : Int32)), (8, .int (l8 + 1))] [] s14 Q
        ) ∧ (¬ v16 = (st_I s14 129 (l1 + l8).toNatClampNeg) →
          vv_ γ m_X10_fixedSign 13 51 [(0, .ref 143), (1, .int l1), (2, .ref l2), (3, .ref 21), (4, .int l4), (5, .int l5), (6, .ref l6), (7, .int (0 : Int32)), (8, .int (l8 + 1))] [] s14 Q
        )
      )
    )
  )
set_option maxRecDepth 10000 in
theorem g_X10_fixedSign_51 {γ : ga_T} {l1 : Int32} {l2 : Nat} {l4 : Int32} {l5 : Int32} {l6 : Nat} {l7 : Int32} {l8 : Int32} {σ : st_T} {Q : rs_T → st_T → Prop} (zw : Wd σ) (zh : p_X10_fixedSign_51 γ l1 l2 l4 l5 l6 l7 l8 σ Q) : vv_ γ m_X10_fixedSign 13 51 [(0, .ref 143), (1, .int l1), (2, .ref l2), (3, .ref 21), (4, .int l4), (5, .int l5), (6, .ref l6), (7, .int l7), (8, .int l8)] [] σ Q := by
  unfold p_X10_fixedSign_51 at zh
  refine vr_iload dX10_fixedSign_51 rfl ?_
  refine vr_if_eq dX10_fixedSign_53 (tgt := 115) rfl (fun zd_1 => ?_) (fun zd_1 => ?_)
  · replace zh := zh.1 zd_1
    refine vr_iload dX10_fixedSign_115 rfl ?_
    refine vr_if_eq dX10_fixedSign_117 (tgt := 123) rfl (fun zd_2 => ?_) (fun zd_2 => ?_)
    · replace zh := zh.1 zd_2
      refine vr_iinc dX10_fixedSign_123 (x := l5) (v := (l5 + 1)) rfl (ii_ (by decide)) (Nat.le_of_ble_eq_true rfl) (vv_eq (ls' := [(0, .ref 143), (1, .int l1), (2, .ref l2), (3, .ref 21), (4, .int l4), (5, .int (l5 + 1)), (6, .ref l6), (7, .int l7), (8, .int l8)]) rfl ?_)
      refine vr_goto dX10_fixedSign_126 (tgt := 11) rfl ?_
      exact vv_sub (ls' := [(0, .ref 143), (1, .int l1), (2, .ref l2), (3, .ref 21), (4, .int l4), (5, .int (l5 + 1))]) ⟨rfl, rfl, rfl, rfl, rfl, rfl, trivial⟩ zh
    · replace zh := zh.2 zd_2
      refine vr_aload dX10_fixedSign_120 rfl ?_
      exact vr_aret dX10_fixedSign_122 rfl (Or.inl ⟨_, rfl⟩) zh
  · replace zh := zh.2 zd_1
    refine vr_iload dX10_fixedSign_56 rfl ?_
    refine vr_aload dX10_fixedSign_58 rfl ?_
    obtain ⟨zg_3, zh⟩ := zh
    refine vr_getText dX10_fixedSign_60 rfl zg_3 ?_
    obtain ⟨zx_4, zh⟩ := zh
    obtain ⟨v7, s5, zw1, zf_6, zh⟩ := zh
    refine vc_T (As := []) (rest := [.int l8]) dX10_fixedSign_63 cT_LitmusTester_Tokens_101 zx_4 rfl rfl (Nat.le_of_ble_eq_true rfl) (Nat.le_of_ble_eq_true rfl) (co_n zf_6 ?_)
    replace zw := zw1
    refine vr_ic_ge dX10_fixedSign_66 (tgt := 115) rfl (fun zd_8 => ?_) (fun zd_8 => ?_)
    · replace zh := zh.1 zd_8
      refine vr_iload dX10_fixedSign_115 rfl ?_
      refine vr_if_eq dX10_fixedSign_117 (tgt := 123) rfl (fun zd_9 => ?_) (fun zd_9 => ?_)
      · replace zh := zh.1 zd_9
        refine vr_iinc dX10_fixedSign_123 (x := l5) (v := (l5 + 1)) rfl (ii_ (by decide)) (Nat.le_of_ble_eq_true rfl) (vv_eq (ls' := [(0, .ref 143), (1, .int l1), (2, .ref l2), (3, .ref 21), (4, .int l4), (5, .int (l5 + 1)), (6, .ref l6), (7, .int l7), (8, .int l8)]) rfl ?_)
        refine vr_goto dX10_fixedSign_126 (tgt := 11) rfl ?_
        exact vv_sub (ls' := [(0, .ref 143), (1, .int l1), (2, .ref l2), (3, .ref 21), (4, .int l4), (5, .int (l5 + 1))]) ⟨rfl, rfl, rfl, rfl, rfl, rfl, trivial⟩ zh
      · replace zh := zh.2 zd_9
        refine vr_aload dX10_fixedSign_120 rfl ?_
        exact vr_aret dX10_fixedSign_122 rfl (Or.inl ⟨_, rfl⟩) zh
    · replace zh := zh.2 zd_8
      refine vr_iload_n dX10_fixedSign_69 rfl rfl ?_
      refine vr_iload dX10_fixedSign_70 rfl ?_
      refine vr_iadd dX10_fixedSign_72 ?_
      refine vr_aload_n dX10_fixedSign_73 rfl rfl ?_
      refine vr_getI dX10_fixedSign_74 fl_LitmusTester_Tokens_25 (wC_143 zw) rfl ?_
      refine vr_ic_ge dX10_fixedSign_77 (tgt := 115) rfl (fun zd_10 => ?_) (fun zd_10 => ?_)
      · replace zh := zh.1 zd_10
        refine vr_iload dX10_fixedSign_115 rfl ?_
        refine vr_if_eq dX10_fixedSign_117 (tgt := 123) rfl (fun zd_11 => ?_) (fun zd_11 => ?_)
        · replace zh := zh.1 zd_11
          refine vr_iinc dX10_fixedSign_123 (x := l5) (v := (l5 + 1)) rfl (ii_ (by decide)) (Nat.le_of_ble_eq_true rfl) (vv_eq (ls' := [(0, .ref 143), (1, .int l1), (2, .ref l2), (3, .ref 21), (4, .int l4), (5, .int (l5 + 1)), (6, .ref l6), (7, .int l7), (8, .int l8)]) rfl ?_)
          refine vr_goto dX10_fixedSign_126 (tgt := 11) rfl ?_
          exact vv_sub (ls' := [(0, .ref 143), (1, .int l1), (2, .ref l2), (3, .ref 21), (4, .int l4), (5, .int (l5 + 1))]) ⟨rfl, rfl, rfl, rfl, rfl, rfl, trivial⟩ zh
        · replace zh := zh.2 zd_11
          refine vr_aload dX10_fixedSign_120 rfl ?_
          exact vr_aret dX10_fixedSign_122 rfl (Or.inl ⟨_, rfl⟩) zh
      · replace zh := zh.2 zd_10
        refine vr_aload dX10_fixedSign_80 rfl ?_
        obtain ⟨zg_12, zh⟩ := zh
        refine vr_getText dX10_fixedSign_82 rfl zg_12 ?_
        refine vr_iload dX10_fixedSign_85 rfl ?_
        obtain ⟨zx_13, zh⟩ := zh
        obtain ⟨v16, s14, zw1, zf_15, zh⟩ := zh
        refine vc_T (As := [.int l8]) (rest := []) dX10_fixedSign_87 cT_LitmusTester_Tokens_106 zx_13 rfl rfl (Nat.le_of_ble_eq_true rfl) (Nat.le_of_ble_eq_true rfl) (co_n zf_15 ?_)
        replace zw := zw1
        refine vr_aload_n dX10_fixedSign_90 rfl rfl ?_
        refine vr_getR dX10_fixedSign_91 fl_LitmusTester_Tokens_35 (wC_143 zw) (Or.inr ⟨_, rfl⟩) (wR_143_0 zw) ?_
        refine vr_iload_n dX10_fixedSign_94 rfl rfl ?_
        refine vr_iload dX10_fixedSign_95 rfl ?_
        refine vr_iadd dX10_fixedSign_97 ?_
        obtain ⟨zi_17, zh⟩ := zh
        refine vr_baload dX10_fixedSign_98 (Or.inl (wS_129 zw)) zi_17 ?_
        refine vr_ic_ne dX10_fixedSign_99 (tgt := 106) rfl (fun zd_18 => ?_) (fun zd_18 => ?_)
        · replace zh := zh.2 zd_18
          refine vr_iconst dX10_fixedSign_106 (v := (0 : Int32)) (by decide) ?_
          refine vr_istore dX10_fixedSign_107 (Nat.le_of_ble_eq_true rfl) (vv_eq (ls' := [(0, .ref 143), (1, .int l1), (2, .ref l2), (3, .ref 21), (4, .int l4), (5, .int l5), (6, .ref l6), (7, .int (0 : Int32)), (8, .int l8)]) rfl ?_)
          refine vr_iinc dX10_fixedSign_109 (x := l8) (v := (l8 + 1)) rfl (ii_ (by decide)) (Nat.le_of_ble_eq_true rfl) (vv_eq (ls' := [(0, .ref 143), (1, .int l1), (2, .ref l2), (3, .ref 21), (4, .int l4), (5, .int l5), (6, .ref l6), (7, .int (0 : Int32)), (8, .int (l8 + 1))]) rfl ?_)
          refine vr_goto dX10_fixedSign_112 (tgt := 51) rfl ?_
          exact vv_sub (ls' := [(0, .ref 143), (1, .int l1), (2, .ref l2), (3, .ref 21), (4, .int l4), (5, .int l5), (6, .ref l6), (7, .int (0 : Int32)), (8, .int (l8 + 1))]) ⟨rfl, rfl, rfl, rfl, rfl, rfl, rfl, rfl, rfl, trivial⟩ zh
        · replace zh := zh.1 zd_18
          refine vr_iconst dX10_fixedSign_102 (v := (1 : Int32)) (by decide) ?_
          refine vr_goto dX10_fixedSign_103 (tgt := 107) rfl ?_
          refine vr_istore dX10_fixedSign_107 (Nat.le_of_ble_eq_true rfl) (vv_eq (ls' := [(0, .ref 143), (1, .int l1), (2, .ref l2), (3, .ref 21), (4, .int l4), (5, .int l5), (6, .ref l6), (7, .int (1 : Int32)), (8, .int l8)]) rfl ?_)
          refine vr_iinc dX10_fixedSign_109 (x := l8) (v := (l8 + 1)) rfl (ii_ (by decide)) (Nat.le_of_ble_eq_true rfl) (vv_eq (ls' := [(0, .ref 143), (1, .int l1), (2, .ref l2), (3, .ref 21), (4, .int l4), (5, .int l5), (6, .ref l6), (7, .int (1 : Int32)), (8, .int (l8 + 1))]) rfl ?_)
          refine vr_goto dX10_fixedSign_112 (tgt := 51) rfl ?_
          exact vv_sub (ls' := [(0, .ref 143), (1, .int l1), (2, .ref l2), (3, .ref 21), (4, .int l4), (5, .int l5), (6, .ref l6), (7, .int (1 : Int32)), (8, .int (l8 + 1))]) ⟨rfl, rfl, rfl, rfl, rfl, rfl, rfl, rfl, rfl, trivial⟩ zh
def p_X10_isLetter_0 (γ : ga_T) (l0 : Int32) (σ : st_T) (Q : rs_T → st_T → Prop) : Prop :=
  (l0 < (97 : Int32) →
    Q (.inl (some (.int (0 : Int32)))) σ
  ) ∧ (¬ l0 < (97 : Int32) →
    ((122 : Int32) < l0 →
      Q (.inl (some (.int (0 : Int32)))) σ
    ) ∧ (¬ (122 : Int32) < l0 →
      Q (.inl (some (.int (1 : Int32)))) σ
    )
  )
set_option maxRecDepth 10000 in
theorem g_X10_isLetter_0 {γ : ga_T} {l0 : Int32} {σ : st_T} {Q : rs_T → st_T → Prop} (zw : Wd σ) (zh : p_X10_isLetter_0 γ l0 σ Q) : vv_ γ m_X10_isLetter 0 0 [(0, .int l0)] [] σ Q := by
  unfold p_X10_isLetter_0 at zh
  refine vr_iload_n dX10_isLetter_0 rfl rfl ?_
  refine vr_bipush dX10_isLetter_1 (v := (97 : Int32)) (by decide) ?_
  refine vr_ic_lt dX10_isLetter_3 (tgt := 16) rfl (fun zd_1 => ?_) (fun zd_1 => ?_)
  · replace zh := zh.1 zd_1
    refine vr_iconst dX10_isLetter_16 (v := (0 : Int32)) (by decide) ?_
    exact vr_zret dX10_isLetter_17 rfl (Or.inl rfl) zh
  · replace zh := zh.2 zd_1
    refine vr_iload_n dX10_isLetter_6 rfl rfl ?_
    refine vr_bipush dX10_isLetter_7 (v := (122 : Int32)) (by decide) ?_
    refine vr_ic_gt dX10_isLetter_9 (tgt := 16) rfl (fun zd_2 => ?_) (fun zd_2 => ?_)
    · replace zh := zh.1 zd_2
      refine vr_iconst dX10_isLetter_16 (v := (0 : Int32)) (by decide) ?_
      exact vr_zret dX10_isLetter_17 rfl (Or.inl rfl) zh
    · replace zh := zh.2 zd_2
      refine vr_iconst dX10_isLetter_12 (v := (1 : Int32)) (by decide) ?_
      refine vr_goto dX10_isLetter_13 (tgt := 17) rfl ?_
      exact vr_zret dX10_isLetter_17 rfl (Or.inr rfl) zh
theorem e_X10_isLetter {γ : ga_T} {l0 : Int32} {σ : st_T} {Q : rs_T → st_T → Prop} (zw : Wd σ) (zh : p_X10_isLetter_0 γ l0 σ Q) : sp_ γ m_X10_isLetter 0 [.int l0] σ Q := sp_of (pl_X10_isLetter) rfl (Nat.le_of_ble_eq_true rfl) (g_X10_isLetter_0 zw zh)
def p_X10_isDigit_0 (γ : ga_T) (l0 : Int32) (σ : st_T) (Q : rs_T → st_T → Prop) : Prop :=
  (l0 < (48 : Int32) →
    Q (.inl (some (.int (0 : Int32)))) σ
  ) ∧ (¬ l0 < (48 : Int32) →
    ((57 : Int32) < l0 →
      Q (.inl (some (.int (0 : Int32)))) σ
    ) ∧ (¬ (57 : Int32) < l0 →
      Q (.inl (some (.int (1 : Int32)))) σ
    )
  )
set_option maxRecDepth 10000 in
theorem g_X10_isDigit_0 {γ : ga_T} {l0 : Int32} {σ : st_T} {Q : rs_T → st_T → Prop} (zw : Wd σ) (zh : p_X10_isDigit_0 γ l0 σ Q) : vv_ γ m_X10_isDigit 0 0 [(0, .int l0)] [] σ Q := by
  unfold p_X10_isDigit_0 at zh
  refine vr_iload_n dX10_isDigit_0 rfl rfl ?_
  refine vr_bipush dX10_isDigit_1 (v := (48 : Int32)) (by decide) ?_
  refine vr_ic_lt dX10_isDigit_3 (tgt := 16) rfl (fun zd_1 => ?_) (fun zd_1 => ?_)
  · replace zh := zh.1 zd_1
    refine vr_iconst dX10_isDigit_16 (v := (0 : Int32)) (by decide) ?_
    exact vr_zret dX10_isDigit_17 rfl (Or.inl rfl) zh
  · replace zh := zh.2 zd_1
    refine vr_iload_n dX10_isDigit_6 rfl rfl ?_
    refine vr_bipush dX10_isDigit_7 (v := (57 : Int32)) (by decide) ?_
    refine vr_ic_gt dX10_isDigit_9 (tgt := 16) rfl (fun zd_2 => ?_) (fun zd_2 => ?_)
    · replace zh := zh.1 zd_2
      refine vr_iconst dX10_isDigit_16 (v := (0 : Int32)) (by decide) ?_
      exact vr_zret dX10_isDigit_17 rfl (Or.inl rfl) zh
    · replace zh := zh.2 zd_2
      refine vr_iconst dX10_isDigit_12 (v := (1 : Int32)) (by decide) ?_
      refine vr_goto dX10_isDigit_13 (tgt := 17) rfl ?_
      exact vr_zret dX10_isDigit_17 rfl (Or.inr rfl) zh
theorem e_X10_isDigit {γ : ga_T} {l0 : Int32} {σ : st_T} {Q : rs_T → st_T → Prop} (zw : Wd σ) (zh : p_X10_isDigit_0 γ l0 σ Q) : sp_ γ m_X10_isDigit 0 [.int l0] σ Q := sp_of (pl_X10_isDigit) rfl (Nat.le_of_ble_eq_true rfl) (g_X10_isDigit_0 zw zh)
def p_X10_withLetter_0 (γ : ga_T) (l0 : Int64) (l2 : Int32) (σ : st_T) (Q : rs_T → st_T → Prop) : Prop :=
  Q (.inl (some (.long ((l0 <<< ((5 : Int32).toInt64 &&& 63)) ||| (((l2 - (97 : Int32)) + (1 : Int32)).toInt64))))) σ
set_option maxRecDepth 10000 in
theorem g_X10_withLetter_0 {γ : ga_T} {l0 : Int64} {l2 : Int32} {σ : st_T} {Q : rs_T → st_T → Prop} (zw : Wd σ) (zh : p_X10_withLetter_0 γ l0 l2 σ Q) : vv_ γ m_X10_withLetter 0 0 [(0, .long l0), (2, .int l2)] [] σ Q := by
  unfold p_X10_withLetter_0 at zh
  refine vr_lload_n dX10_withLetter_0 rfl rfl ?_
  refine vr_iconst dX10_withLetter_1 (v := (5 : Int32)) (by decide) ?_
  refine vr_lshl dX10_withLetter_2 ?_
  refine vr_iload_n dX10_withLetter_3 rfl rfl ?_
  refine vr_bipush dX10_withLetter_4 (v := (97 : Int32)) (by decide) ?_
  refine vr_isub dX10_withLetter_6 ?_
  refine vr_iconst dX10_withLetter_7 (v := (1 : Int32)) (by decide) ?_
  refine vr_iadd dX10_withLetter_8 ?_
  refine vr_i2l dX10_withLetter_9 ?_
  refine vr_lor dX10_withLetter_10 ?_
  exact vr_lret dX10_withLetter_11 rfl zh
theorem e_X10_withLetter {γ : ga_T} {l0 : Int64} {l2 : Int32} {σ : st_T} {Q : rs_T → st_T → Prop} (zw : Wd σ) (zh : p_X10_withLetter_0 γ l0 l2 σ Q) : sp_ γ m_X10_withLetter 0 [.long l0, .int l2] σ Q := sp_of (pl_X10_withLetter) rfl (Nat.le_of_ble_eq_true rfl) (g_X10_withLetter_0 zw zh)
def p_X10_sign_0 (γ : ga_T) (σ : st_T) (Q : rs_T → st_T → Prop) : Prop :=
  ((600 : Int32) < (st_I σ 143 6) →
    Q (.inl (some (.ref 0))) σ
  ) ∧ (¬ (600 : Int32) < (st_I σ 143 6) →
    vp_in (st_I σ 143 6) 601 ∧
    (st_R σ 144 (st_I σ 143 6).toNatClampNeg = none →
      Q (.inl (some (.ref 0))) σ
    ) ∧ (∀ b3, st_R σ 144 (st_I σ 143 6).toNatClampNeg = some b3 →
      Q (.inl (some (.ref b3))) σ
    )
  )
set_option maxRecDepth 10000 in
theorem g_X10_sign_0 {γ : ga_T} {σ : st_T} {Q : rs_T → st_T → Prop} (zw : Wd σ) (zh : p_X10_sign_0 γ σ Q) : vv_ γ m_X10_sign 0 0 [(0, .ref 143)] [] σ Q := by
  unfold p_X10_sign_0 at zh
  refine vr_aload_n dX10_sign_0 rfl rfl ?_
  refine vr_getI dX10_sign_1 fl_LitmusTester_Tokens_32 (wC_143 zw) rfl ?_
  refine vr_sipush dX10_sign_4 (v := (600 : Int32)) (by decide) ?_
  refine vr_ic_gt dX10_sign_7 (tgt := 22) rfl (fun zd_1 => ?_) (fun zd_1 => ?_)
  · replace zh := zh.1 zd_1
    refine vr_getE dX10_sign_22 (i := 0) (by decide) tw_519 ?_
    refine vr_astore_n dX10_sign_25 rfl (Nat.le_of_ble_eq_true rfl) (vv_eq (ls' := [(0, .ref 143), (1, .ref 0)]) rfl ?_)
    refine vr_aload_n dX10_sign_26 rfl rfl ?_
    refine vr_ifnonnull dX10_sign_27 (tgt := 36) rfl ?_
    refine vr_aload_n dX10_sign_36 rfl rfl ?_
    exact vr_aret dX10_sign_37 rfl (Or.inl ⟨_, rfl⟩) zh
  · replace zh := zh.2 zd_1
    refine vr_aload_n dX10_sign_10 rfl rfl ?_
    refine vr_getR dX10_sign_11 fl_LitmusTester_Tokens_11 (wC_143 zw) (Or.inr ⟨_, rfl⟩) (wR_143_1 zw) ?_
    refine vr_aload_n dX10_sign_14 rfl rfl ?_
    refine vr_getI dX10_sign_15 fl_LitmusTester_Tokens_32 (wC_143 zw) rfl ?_
    obtain ⟨zi_2, zh⟩ := zh
    rcases zq_4 : st_R σ 144 (st_I σ 143 6).toNatClampNeg with _ | b3
    · replace zh := zh.1 zq_4
      refine vr_aaload (b := 0) dX10_sign_18 (wS_144 zw) zi_2 (v := .null) (by rw [zq_4]; rfl) ?_
      refine vr_goto dX10_sign_19 (tgt := 25) rfl ?_
      refine vr_astore_nN dX10_sign_25 rfl (Nat.le_of_ble_eq_true rfl) (vv_eq (ls' := [(0, .ref 143), (1, .null)]) rfl ?_)
      refine vr_aload_nN dX10_sign_26 rfl rfl ?_
      refine vr_ifnonnullN dX10_sign_27 ?_
      refine vr_getE dX10_sign_30 (i := 0) (by decide) tw_519 ?_
      refine vr_goto dX10_sign_33 (tgt := 37) rfl ?_
      exact vr_aret dX10_sign_37 rfl (Or.inl ⟨_, rfl⟩) zh
    · replace zh := zh.2 b3 zq_4
      refine vr_aaload (b := 0) dX10_sign_18 (wS_144 zw) zi_2 (v := .ref b3) (by rw [zq_4]; rfl) ?_
      refine vr_goto dX10_sign_19 (tgt := 25) rfl ?_
      refine vr_astore_n dX10_sign_25 rfl (Nat.le_of_ble_eq_true rfl) (vv_eq (ls' := [(0, .ref 143), (1, .ref b3)]) rfl ?_)
      refine vr_aload_n dX10_sign_26 rfl rfl ?_
      refine vr_ifnonnull dX10_sign_27 (tgt := 36) rfl ?_
      refine vr_aload_n dX10_sign_36 rfl rfl ?_
      exact vr_aret dX10_sign_37 rfl (Or.inl ⟨_, rfl⟩) zh
theorem e_X10_sign {γ : ga_T} {σ : st_T} {Q : rs_T → st_T → Prop} (zw : Wd σ) (zh : p_X10_sign_0 γ σ Q) : sp_ γ m_X10_sign 0 [.ref 143] σ Q := sp_of (pl_X10_sign) rfl (Nat.le_of_ble_eq_true rfl) (g_X10_sign_0 zw zh)
def p_X10_start_0 (γ : ga_T) (σ : st_T) (Q : rs_T → st_T → Prop) : Prop :=
  ((600 : Int32) < (st_I σ 143 6) →
    Q (.inl (some (.int (st_I σ 143 4)))) σ
  ) ∧ (¬ (600 : Int32) < (st_I σ 143 6) →
    vp_in (st_I σ 143 6) 601 ∧
    Q (.inl (some (.int (st_I σ 145 (st_I σ 143 6).toNatClampNeg)))) σ
  )
set_option maxRecDepth 10000 in
theorem g_X10_start_0 {γ : ga_T} {σ : st_T} {Q : rs_T → st_T → Prop} (zw : Wd σ) (zh : p_X10_start_0 γ σ Q) : vv_ γ m_X10_start 0 0 [(0, .ref 143)] [] σ Q := by
  unfold p_X10_start_0 at zh
  refine vr_aload_n dX10_start_0 rfl rfl ?_
  refine vr_getI dX10_start_1 fl_LitmusTester_Tokens_32 (wC_143 zw) rfl ?_
  refine vr_sipush dX10_start_4 (v := (600 : Int32)) (by decide) ?_
  refine vr_ic_gt dX10_start_7 (tgt := 22) rfl (fun zd_1 => ?_) (fun zd_1 => ?_)
  · replace zh := zh.1 zd_1
    refine vr_aload_n dX10_start_22 rfl rfl ?_
    refine vr_getI dX10_start_23 fl_LitmusTester_Tokens_25 (wC_143 zw) rfl ?_
    exact vr_iret dX10_start_26 rfl zh
  · replace zh := zh.2 zd_1
    refine vr_aload_n dX10_start_10 rfl rfl ?_
    refine vr_getR dX10_start_11 fl_LitmusTester_Tokens_17 (wC_143 zw) (Or.inr ⟨_, rfl⟩) (wR_143_2 zw) ?_
    refine vr_aload_n dX10_start_14 rfl rfl ?_
    refine vr_getI dX10_start_15 fl_LitmusTester_Tokens_32 (wC_143 zw) rfl ?_
    obtain ⟨zi_2, zh⟩ := zh
    refine vr_iaload dX10_start_18 (wS_145 zw) zi_2 ?_
    refine vr_goto dX10_start_19 (tgt := 26) rfl ?_
    exact vr_iret dX10_start_26 rfl zh
theorem e_X10_start {γ : ga_T} {σ : st_T} {Q : rs_T → st_T → Prop} (zw : Wd σ) (zh : p_X10_start_0 γ σ Q) : sp_ γ m_X10_start 0 [.ref 143] σ Q := sp_of (pl_X10_start) rfl (Nat.le_of_ble_eq_true rfl) (g_X10_start_0 zw zh)
def p_X10_name_0 (γ : ga_T) (σ : st_T) (Q : rs_T → st_T → Prop) : Prop :=
  ((600 : Int32) < (st_I σ 143 6) →
    Q (.inl (some (.long (-1 : Int64)))) σ
  ) ∧ (¬ (600 : Int32) < (st_I σ 143 6) →
    vp_in (st_I σ 143 6) 601 ∧
    Q (.inl (some (.long (st_L σ 146 (st_I σ 143 6).toNatClampNeg)))) σ
  )
set_option maxRecDepth 10000 in
theorem g_X10_name_0 {γ : ga_T} {σ : st_T} {Q : rs_T → st_T → Prop} (zw : Wd σ) (zh : p_X10_name_0 γ σ Q) : vv_ γ m_X10_name 0 0 [(0, .ref 143)] [] σ Q := by
  unfold p_X10_name_0 at zh
  refine vr_aload_n dX10_name_0 rfl rfl ?_
  refine vr_getI dX10_name_1 fl_LitmusTester_Tokens_32 (wC_143 zw) rfl ?_
  refine vr_sipush dX10_name_4 (v := (600 : Int32)) (by decide) ?_
  refine vr_ic_gt dX10_name_7 (tgt := 22) rfl (fun zd_1 => ?_) (fun zd_1 => ?_)
  · replace zh := zh.1 zd_1
    refine vr_ldc2 dX10_name_22 (v := (-1 : Int64)) tw_518 ?_
    exact vr_lret dX10_name_25 rfl zh
  · replace zh := zh.2 zd_1
    refine vr_aload_n dX10_name_10 rfl rfl ?_
    refine vr_getR dX10_name_11 fl_LitmusTester_Tokens_21 (wC_143 zw) (Or.inr ⟨_, rfl⟩) (wR_143_3 zw) ?_
    refine vr_aload_n dX10_name_14 rfl rfl ?_
    refine vr_getI dX10_name_15 fl_LitmusTester_Tokens_32 (wC_143 zw) rfl ?_
    obtain ⟨zi_2, zh⟩ := zh
    refine vr_laload dX10_name_18 (wS_146 zw) zi_2 ?_
    refine vr_goto dX10_name_19 (tgt := 25) rfl ?_
    exact vr_lret dX10_name_25 rfl zh
theorem e_X10_name {γ : ga_T} {σ : st_T} {Q : rs_T → st_T → Prop} (zw : Wd σ) (zh : p_X10_name_0 γ σ Q) : sp_ γ m_X10_name 0 [.ref 143] σ Q := sp_of (pl_X10_name) rfl (Nat.le_of_ble_eq_true rfl) (g_X10_name_0 zw zh)
def p_X10_number_0 (γ : ga_T) (σ : st_T) (Q : rs_T → st_T → Prop) : Prop :=
  ∃ (v3 : Int64) (s1 : st_T), Wd s1 ∧ fn_ γ m_X10_name 0 [.ref 143] σ (.long v3) s1 ∧
  Q (.inl (some (.int (v3.toInt32)))) s1
set_option maxRecDepth 10000 in
theorem g_X10_number_0 {γ : ga_T} {σ : st_T} {Q : rs_T → st_T → Prop} (zw : Wd σ) (zh : p_X10_number_0 γ σ Q) : vv_ γ m_X10_number 1 0 [(0, .ref 143)] [] σ Q := by
  unfold p_X10_number_0 at zh
  refine vr_aload_n dX10_number_0 rfl rfl ?_
  obtain ⟨v3, s1, zw1, zf_2, zh⟩ := zh
  refine vc_V (As := []) (rest := []) dX10_number_1 cV_LitmusTester_Tokens_110 (wC_143 zw) rfl rfl (Nat.le_of_ble_eq_true rfl) (Nat.le_of_ble_eq_true rfl) (co_n zf_2 ?_)
  replace zw := zw1
  refine vr_l2i dX10_number_4 ?_
  exact vr_iret dX10_number_5 rfl zh
theorem e_X10_number {γ : ga_T} {σ : st_T} {Q : rs_T → st_T → Prop} (zw : Wd σ) (zh : p_X10_number_0 γ σ Q) : sp_ γ m_X10_number 1 [.ref 143] σ Q := sp_of (pl_X10_number) rfl (Nat.le_of_ble_eq_true rfl) (g_X10_number_0 zw zh)
def p_X10_advance_0 (γ : ga_T) (σ : st_T) (Q : rs_T → st_T → Prop) : Prop :=
  ∃ (v3 : Nat) (s1 : st_T), Wd s1 ∧ fn_ γ m_X10_sign 0 [.ref 143] σ (.ref v3) s1 ∧
  v3 < 21 ∧
  (v3 = 0 →
    Q (.inl none) s1
  ) ∧ (¬ v3 = 0 →
    Q (.inl none) (pt_I s1 143 6 ((st_I s1 143 6) + (1 : Int32)))
  )
set_option maxRecDepth 10000 in
theorem g_X10_advance_0 {γ : ga_T} {σ : st_T} {Q : rs_T → st_T → Prop} (zw : Wd σ) (zh : p_X10_advance_0 γ σ Q) : vv_ γ m_X10_advance 1 0 [(0, .ref 143)] [] σ Q := by
  unfold p_X10_advance_0 at zh
  refine vr_aload_n dX10_advance_0 rfl rfl ?_
  obtain ⟨v3, s1, zw1, zf_2, zh⟩ := zh
  refine vc_V (As := []) (rest := []) dX10_advance_1 cV_LitmusTester_Tokens_114 (wC_143 zw) rfl rfl (Nat.le_of_ble_eq_true rfl) (Nat.le_of_ble_eq_true rfl) (co_n zf_2 ?_)
  replace zw := zw1
  refine vr_getE dX10_advance_4 (i := 0) (by decide) tw_519 ?_
  obtain ⟨zg_4, zh⟩ := zh
  refine vr_acmp_eq dX10_advance_7 (tgt := 20) rfl zg_4 (by decide) (fun zd_5 => ?_) (fun zd_5 => ?_)
  · replace zh := zh.1 zd_5
    exact vr_vret dX10_advance_20 rfl zh
  · replace zh := zh.2 zd_5
    refine vr_aload_n dX10_advance_10 rfl rfl ?_
    refine vr_dup dX10_advance_11 rfl ?_
    refine vr_getI dX10_advance_12 fl_LitmusTester_Tokens_32 (wC_143 zw) rfl ?_
    refine vr_iconst dX10_advance_15 (v := (1 : Int32)) (by decide) ?_
    refine vr_iadd dX10_advance_16 ?_
    refine vr_putI dX10_advance_17 fl_LitmusTester_Tokens_32 (wC_143 zw) rfl (fz_9_6) ?_
    exact vr_vret dX10_advance_20 rfl zh
theorem e_X10_advance {γ : ga_T} {σ : st_T} {Q : rs_T → st_T → Prop} (zw : Wd σ) (zh : p_X10_advance_0 γ σ Q) : sp_ γ m_X10_advance 1 [.ref 143] σ Q := sp_of (pl_X10_advance) rfl (Nat.le_of_ble_eq_true rfl) (g_X10_advance_0 zw zh)
