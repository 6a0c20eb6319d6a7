def p_X0_inserted_0 (γ : ga_T) (l0 : Int32) (σ : st_T) (Q : rs_T → st_T → Prop) : Prop :=
  Q (.inl (some (.int ((l0 <<< ((3 : Int32) &&& 31)) ||| (4 : Int32))))) σ
set_option maxRecDepth 10000 in
theorem g_X0_inserted_0 {γ : ga_T} {l0 : Int32} {σ : st_T} {Q : rs_T → st_T → Prop} (zw : Wd σ) (zh : p_X0_inserted_0 γ l0 σ Q) : vv_ γ m_X0_inserted 0 0 [(0, .int l0)] [] σ Q := by
  unfold p_X0_inserted_0 at zh
  refine vr_iload_n dX0_inserted_0 rfl rfl ?_
  refine vr_iconst dX0_inserted_1 (v := (3 : Int32)) (by decide) ?_
  refine vr_ishl dX0_inserted_2 ?_
  refine vr_iconst dX0_inserted_3 (v := (4 : Int32)) (by decide) ?_
  refine vr_ior dX0_inserted_4 ?_
  exact vr_iret dX0_inserted_5 rfl zh
theorem e_X0_inserted {γ : ga_T} {l0 : Int32} {σ : st_T} {Q : rs_T → st_T → Prop} (zw : Wd σ) (zh : p_X0_inserted_0 γ l0 σ Q) : sp_ γ m_X0_inserted 0 [.int l0] σ Q := sp_of (pl_X0_inserted) rfl (Nat.le_of_ble_eq_true rfl) (g_X0_inserted_0 zw zh)
def p_X0_removed_0 (γ : ga_T) (l0 : Int32) (l1 : Int32) (σ : st_T) (Q : rs_T → st_T → Prop) : Prop :=
  Q (.inl (some (.int ((l0 <<< ((3 : Int32) &&& 31)) ||| l1)))) σ
set_option maxRecDepth 10000 in
theorem g_X0_removed_0 {γ : ga_T} {l0 : Int32} {l1 : Int32} {σ : st_T} {Q : rs_T → st_T → Prop} (zw : Wd σ) (zh : p_X0_removed_0 γ l0 l1 σ Q) : vv_ γ m_X0_removed 0 0 [(0, .int l0), (1, .int l1)] [] σ Q := by
  unfold p_X0_removed_0 at zh
  refine vr_iload_n dX0_removed_0 rfl rfl ?_
  refine vr_iconst dX0_removed_1 (v := (3 : Int32)) (by decide) ?_
  refine vr_ishl dX0_removed_2 ?_
  refine vr_iload_n dX0_removed_3 rfl rfl ?_
  refine vr_ior dX0_removed_4 ?_
  exact vr_iret dX0_removed_5 rfl zh
theorem e_X0_removed {γ : ga_T} {l0 : Int32} {l1 : Int32} {σ : st_T} {Q : rs_T → st_T → Prop} (zw : Wd σ) (zh : p_X0_removed_0 γ l0 l1 σ Q) : sp_ γ m_X0_removed 0 [.int l0, .int l1] σ Q := sp_of (pl_X0_removed) rfl (Nat.le_of_ble_eq_true rfl) (g_X0_removed_0 zw zh)
def p_X0_isInsertion_0 (γ : ga_T) (l0 : Int32) (σ : st_T) (Q : rs_T → st_T → Prop) : Prop :=
  ((l0 &&& (4 : Int32)) = (0 : Int32) →
    Q (.inl (some (.int (0 : Int32)))) σ
  ) ∧ (¬ (l0 &&& (4 : Int32)) = (0 : Int32) →
    Q (.inl (some (.int (1 : Int32)))) σ
  )
set_option maxRecDepth 10000 in
theorem g_X0_isInsertion_0 {γ : ga_T} {l0 : Int32} {σ : st_T} {Q : rs_T → st_T → Prop} (zw : Wd σ) (zh : p_X0_isInsertion_0 γ l0 σ Q) : vv_ γ m_X0_isInsertion 0 0 [(0, .int l0)] [] σ Q := by
  unfold p_X0_isInsertion_0 at zh
  refine vr_iload_n dX0_isInsertion_0 rfl rfl ?_
  refine vr_iconst dX0_isInsertion_1 (v := (4 : Int32)) (by decide) ?_
  refine vr_iand dX0_isInsertion_2 ?_
  refine vr_if_eq dX0_isInsertion_3 (tgt := 10) rfl (fun zd_1 => ?_) (fun zd_1 => ?_)
  · replace zh := zh.1 zd_1
    refine vr_iconst dX0_isInsertion_10 (v := (0 : Int32)) (by decide) ?_
    exact vr_zret dX0_isInsertion_11 rfl (Or.inl rfl) zh
  · replace zh := zh.2 zd_1
    refine vr_iconst dX0_isInsertion_6 (v := (1 : Int32)) (by decide) ?_
    refine vr_goto dX0_isInsertion_7 (tgt := 11) rfl ?_
    exact vr_zret dX0_isInsertion_11 rfl (Or.inr rfl) zh
theorem e_X0_isInsertion {γ : ga_T} {l0 : Int32} {σ : st_T} {Q : rs_T → st_T → Prop} (zw : Wd σ) (zh : p_X0_isInsertion_0 γ l0 σ Q) : sp_ γ m_X0_isInsertion 0 [.int l0] σ Q := sp_of (pl_X0_isInsertion) rfl (Nat.le_of_ble_eq_true rfl) (g_X0_isInsertion_0 zw zh)
def p_X0_place_0 (γ : ga_T) (l0 : Int32) (σ : st_T) (Q : rs_T → st_T → Prop) : Prop :=
  Q (.inl (some (.int (l0 >>> ((3 : Int32) &&& 31))))) σ
set_option maxRecDepth 10000 in
theorem g_X0_place_0 {γ : ga_T} {l0 : Int32} {σ : st_T} {Q : rs_T → st_T → Prop} (zw : Wd σ) (zh : p_X0_place_0 γ l0 σ Q) : vv_ γ m_X0_place 0 0 [(0, .int l0)] [] σ Q := by
  unfold p_X0_place_0 at zh
  refine vr_iload_n dX0_place_0 rfl rfl ?_
  refine vr_iconst dX0_place_1 (v := (3 : Int32)) (by decide) ?_
  refine vr_ishr dX0_place_2 ?_
  exact vr_iret dX0_place_3 rfl zh
theorem e_X0_place {γ : ga_T} {l0 : Int32} {σ : st_T} {Q : rs_T → st_T → Prop} (zw : Wd σ) (zh : p_X0_place_0 γ l0 σ Q) : sp_ γ m_X0_place 0 [.int l0] σ Q := sp_of (pl_X0_place) rfl (Nat.le_of_ble_eq_true rfl) (g_X0_place_0 zw zh)
def p_X0_thread_0 (γ : ga_T) (l0 : Int32) (σ : st_T) (Q : rs_T → st_T → Prop) : Prop :=
  Q (.inl (some (.int (l0 &&& (3 : Int32))))) σ
set_option maxRecDepth 10000 in
theorem g_X0_thread_0 {γ : ga_T} {l0 : Int32} {σ : st_T} {Q : rs_T → st_T → Prop} (zw : Wd σ) (zh : p_X0_thread_0 γ l0 σ Q) : vv_ γ m_X0_thread 0 0 [(0, .int l0)] [] σ Q := by
  unfold p_X0_thread_0 at zh
  refine vr_iload_n dX0_thread_0 rfl rfl ?_
  refine vr_iconst dX0_thread_1 (v := (3 : Int32)) (by decide) ?_
  refine vr_iand dX0_thread_2 ?_
  exact vr_iret dX0_thread_3 rfl zh
theorem e_X0_thread {γ : ga_T} {l0 : Int32} {σ : st_T} {Q : rs_T → st_T → Prop} (zw : Wd σ) (zh : p_X0_thread_0 γ l0 σ Q) : sp_ γ m_X0_thread 0 [.int l0] σ Q := sp_of (pl_X0_thread) rfl (Nat.le_of_ble_eq_true rfl) (g_X0_thread_0 zw zh)
def p_X0_clear_0 (γ : ga_T) (σ : st_T) (Q : rs_T → st_T → Prop) : Prop :=
  Q (.inl none) (pt_I σ 179 1 (0 : Int32))
set_option maxRecDepth 10000 in
theorem g_X0_clear_0 {γ : ga_T} {σ : st_T} {Q : rs_T → st_T → Prop} (zw : Wd σ) (zh : p_X0_clear_0 γ σ Q) : vv_ γ m_X0_clear 0 0 [(0, .ref 179)] [] σ Q := by
  unfold p_X0_clear_0 at zh
  refine vr_aload_n dX0_clear_0 rfl rfl ?_
  refine vr_iconst dX0_clear_1 (v := (0 : Int32)) (by decide) ?_
  refine vr_putI dX0_clear_2 fl_LitmusTester_Changes_15 (wC_179 zw) rfl (fz_0_1) ?_
  exact vr_vret dX0_clear_5 rfl zh
theorem e_X0_clear {γ : ga_T} {σ : st_T} {Q : rs_T → st_T → Prop} (zw : Wd σ) (zh : p_X0_clear_0 γ σ Q) : sp_ γ m_X0_clear 0 [.ref 179] σ Q := sp_of (pl_X0_clear) rfl (Nat.le_of_ble_eq_true rfl) (g_X0_clear_0 zw zh)
def p_X0_size_0 (γ : ga_T) (σ : st_T) (Q : rs_T → st_T → Prop) : Prop :=
  Q (.inl (some (.int (st_I σ 179 1)))) σ
set_option maxRecDepth 10000 in
theorem g_X0_size_0 {γ : ga_T} {σ : st_T} {Q : rs_T → st_T → Prop} (zw : Wd σ) (zh : p_X0_size_0 γ σ Q) : vv_ γ m_X0_size 0 0 [(0, .ref 179)] [] σ Q := by
  unfold p_X0_size_0 at zh
  refine vr_aload_n dX0_size_0 rfl rfl ?_
  refine vr_getI dX0_size_1 fl_LitmusTester_Changes_15 (wC_179 zw) rfl ?_
  exact vr_iret dX0_size_4 rfl zh
theorem e_X0_size {γ : ga_T} {σ : st_T} {Q : rs_T → st_T → Prop} (zw : Wd σ) (zh : p_X0_size_0 γ σ Q) : sp_ γ m_X0_size 0 [.ref 179] σ Q := sp_of (pl_X0_size) rfl (Nat.le_of_ble_eq_true rfl) (g_X0_size_0 zw zh)
def p_X0_add_0 (γ : ga_T) (l1 : Int32) (σ : st_T) (Q : rs_T → st_T → Prop) : Prop :=
  ((st_I σ 179 1) = (8 : Int32) →
    (((st_I (pt_W σ 180 (va_cpy (st_I σ 180) (st_I σ 180) 1 0 7)) 179 1) - (1 : Int32)) < (0 : Int32) →
      Q (.inl none) (pt_I (pt_W σ 180 (va_cpy (st_I σ 180) (st_I σ 180) 1 0 7)) 179 1 ((st_I (pt_W σ 180 (va_cpy (st_I σ 180) (st_I σ 180) 1 0 7)) 179 1) - (1 : Int32)))
    ) ∧ (¬ ((st_I (pt_W σ 180 (va_cpy (st_I σ 180) (st_I σ 180) 1 0 7)) 179 1) - (1 : Int32)) < (0 : Int32) →
      ((8 : Int32) ≤ ((st_I (pt_W σ 180 (va_cpy (st_I σ 180) (st_I σ 180) 1 0 7)) 179 1) - (1 : Int32)) →
        Q (.inl none) (pt_I (pt_W σ 180 (va_cpy (st_I σ 180) (st_I σ 180) 1 0 7)) 179 1 ((st_I (pt_W σ 180 (va_cpy (st_I σ 180) (st_I σ 180) 1 0 7)) 179 1) - (1 : Int32)))
      ) ∧ (¬ (8 : Int32) ≤ ((st_I (pt_W σ 180 (va_cpy (st_I σ 180) (st_I σ 180) 1 0 7)) 179 1) - (1 : Int32)) →
        vp_in ((st_I (pt_W σ 180 (va_cpy (st_I σ 180) (st_I σ 180) 1 0 7)) 179 1) - (1 : Int32)) 8 ∧
        Q (.inl none) (pt_I (pt_I (pt_I (pt_W σ 180 (va_cpy (st_I σ 180) (st_I σ 180) 1 0 7)) 179 1 ((st_I (pt_W σ 180 (va_cpy (st_I σ 180) (st_I σ 180) 1 0 7)) 179 1) - (1 : Int32))) 180 ((st_I (pt_W σ 180 (va_cpy (st_I σ 180) (st_I σ 180) 1 0 7)) 179 1) - (1 : Int32)).toNatClampNeg l1) 179 1 (((st_I (pt_W σ 180 (va_cpy (st_I σ 180) (st_I σ 180) 1 0 7)) 179 1) - (1 : Int32)) + (1 : Int32)))
      )
    )
  ) ∧ (¬ (st_I σ 179 1) = (8 : Int32) →
    ((st_I σ 179 1) < (0 : Int32) →
      Q (.inl none) σ
    ) ∧ (¬ (st_I σ 179 1) < (0 : Int32) →
      ((8 : Int32) ≤ (st_I σ 179 1) →
        Q (.inl none) σ
      ) ∧ (¬ (8 : Int32) ≤ (st_I σ 179 1) →
        vp_in (st_I σ 179 1) 8 ∧
        Q (.inl none) (pt_I (pt_I σ 180 (st_I σ 179 1).toNatClampNeg l1) 179 1 ((st_I σ 179 1) + (1 : Int32)))
      )
    )
  )
set_option maxRecDepth 10000 in
theorem g_X0_add_0 {γ : ga_T} {l1 : Int32} {σ : st_T} {Q : rs_T → st_T → Prop} (zw : Wd σ) (zh : p_X0_add_0 γ l1 σ Q) : vv_ γ m_X0_add 1 0 [(0, .ref 179), (1, .int l1)] [] σ Q := by
  unfold p_X0_add_0 at zh
  refine vr_aload_n dX0_add_0 rfl rfl ?_
  refine vr_getI dX0_add_1 fl_LitmusTester_Changes_15 (wC_179 zw) rfl ?_
  refine vr_bipush dX0_add_4 (v := (8 : Int32)) (by decide) ?_
  refine vr_ic_ne dX0_add_6 (tgt := 34) rfl (fun zd_1 => ?_) (fun zd_1 => ?_)
  · replace zh := zh.2 zd_1
    refine vr_aload_n dX0_add_34 rfl rfl ?_
    refine vr_getI dX0_add_35 fl_LitmusTester_Changes_15 (wC_179 zw) rfl ?_
    refine vr_if_lt dX0_add_38 (tgt := 70) rfl (fun zd_5 => ?_) (fun zd_5 => ?_)
    · replace zh := zh.1 zd_5
      exact vr_vret dX0_add_70 rfl zh
    · replace zh := zh.2 zd_5
      refine vr_aload_n dX0_add_41 rfl rfl ?_
      refine vr_getI dX0_add_42 fl_LitmusTester_Changes_15 (wC_179 zw) rfl ?_
      refine vr_bipush dX0_add_45 (v := (8 : Int32)) (by decide) ?_
      refine vr_ic_ge dX0_add_47 (tgt := 70) rfl (fun zd_6 => ?_) (fun zd_6 => ?_)
      · replace zh := zh.1 zd_6
        exact vr_vret dX0_add_70 rfl zh
      · replace zh := zh.2 zd_6
        refine vr_aload_n dX0_add_50 rfl rfl ?_
        refine vr_getR dX0_add_51 fl_LitmusTester_Changes_9 (wC_179 zw) (Or.inr ⟨_, rfl⟩) (wR_179_0 zw) ?_
        refine vr_aload_n dX0_add_54 rfl rfl ?_
        refine vr_getI dX0_add_55 fl_LitmusTester_Changes_15 (wC_179 zw) rfl ?_
        refine vr_iload_n dX0_add_58 rfl rfl ?_
        obtain ⟨zi_7, zh⟩ := zh
        refine vr_iastore dX0_add_59 (wS_180 zw) zi_7 ?_
        refine vr_aload_n dX0_add_60 rfl rfl ?_
        refine vr_dup dX0_add_61 rfl ?_
        refine vr_getI dX0_add_62 fl_LitmusTester_Changes_15 (wC_179 zw) rfl ?_
        refine vv_top (w := .int (st_I σ 179 1)) rfl ?_
        refine vr_iconst dX0_add_65 (v := (1 : Int32)) (by decide) ?_
        refine vr_iadd dX0_add_66 ?_
        refine vr_putI dX0_add_67 fl_LitmusTester_Changes_15 (wC_179 zw) rfl (fz_0_1) ?_
        exact vr_vret dX0_add_70 rfl zh
  · replace zh := zh.1 zd_1
    refine vr_aload_n dX0_add_9 rfl rfl ?_
    refine vr_getR dX0_add_10 fl_LitmusTester_Changes_9 (wC_179 zw) (Or.inr ⟨_, rfl⟩) (wR_179_0 zw) ?_
    refine vr_iconst dX0_add_13 (v := (1 : Int32)) (by decide) ?_
    refine vr_aload_n dX0_add_14 rfl rfl ?_
    refine vr_getR dX0_add_15 fl_LitmusTester_Changes_9 (wC_179 zw) (Or.inr ⟨_, rfl⟩) (wR_179_0 zw) ?_
    refine vr_iconst dX0_add_18 (v := (0 : Int32)) (by decide) ?_
    refine vr_bipush dX0_add_19 (v := (7 : Int32)) (by decide) ?_
    refine vr_copyI dX0_add_21 ay_LitmusTester_Changes_19 (wS_180 zw) (wS_180 zw) (by decide) (by decide) (by decide) (by decide) (by decide) (Nat.le_of_ble_eq_true rfl) (Nat.le_of_ble_eq_true rfl) ?_
    refine vv_so (σ2 := (pt_W σ 180 (va_cpy (st_I σ 180) (st_I σ 180) 1 0 7))) rfl ?_
    refine vr_aload_n dX0_add_24 rfl rfl ?_
    refine vr_dup dX0_add_25 rfl ?_
    refine vr_getI dX0_add_26 fl_LitmusTester_Changes_15 (wC_179 zw) rfl ?_
    refine vr_iconst dX0_add_29 (v := (1 : Int32)) (by decide) ?_
    refine vr_isub dX0_add_30 ?_
    refine vr_putI dX0_add_31 fl_LitmusTester_Changes_15 (wC_179 zw) rfl (fz_0_1) ?_
    refine vr_aload_n dX0_add_34 rfl rfl ?_
    refine vr_getI dX0_add_35 fl_LitmusTester_Changes_15 (wC_179 zw) rfl ?_
    refine vv_top (w := .int ((st_I (pt_W σ 180 (va_cpy (st_I σ 180) (st_I σ 180) 1 0 7)) 179 1) - (1 : Int32))) rfl ?_
    refine vr_if_lt dX0_add_38 (tgt := 70) rfl (fun zd_2 => ?_) (fun zd_2 => ?_)
    · replace zh := zh.1 zd_2
      exact vr_vret dX0_add_70 rfl zh
    · replace zh := zh.2 zd_2
      refine vr_aload_n dX0_add_41 rfl rfl ?_
      refine vr_getI dX0_add_42 fl_LitmusTester_Changes_15 (wC_179 zw) rfl ?_
      refine vv_top (w := .int ((st_I (pt_W σ 180 (va_cpy (st_I σ 180) (st_I σ 180) 1 0 7)) 179 1) - (1 : Int32))) rfl ?_
      refine vr_bipush dX0_add_45 (v := (8 : Int32)) (by decide) ?_
      refine vr_ic_ge dX0_add_47 (tgt := 70) rfl (fun zd_3 => ?_) (fun zd_3 => ?_)
      · replace zh := zh.1 zd_3
        exact vr_vret dX0_add_70 rfl zh
      · replace zh := zh.2 zd_3
        refine vr_aload_n dX0_add_50 rfl rfl ?_
        refine vr_getR dX0_add_51 fl_LitmusTester_Changes_9 (wC_179 zw) (Or.inr ⟨_, rfl⟩) (wR_179_0 zw) ?_
        refine vr_aload_n dX0_add_54 rfl rfl ?_
        refine vr_getI dX0_add_55 fl_LitmusTester_Changes_15 (wC_179 zw) rfl ?_
        refine vv_top (w := .int ((st_I (pt_W σ 180 (va_cpy (st_I σ 180) (st_I σ 180) 1 0 7)) 179 1) - (1 : Int32))) rfl ?_
        refine vr_iload_n dX0_add_58 rfl rfl ?_
        obtain ⟨zi_4, zh⟩ := zh
        refine vr_iastore dX0_add_59 (wS_180 zw) zi_4 ?_
        refine vr_aload_n dX0_add_60 rfl rfl ?_
        refine vr_dup dX0_add_61 rfl ?_
        refine vr_getI dX0_add_62 fl_LitmusTester_Changes_15 (wC_179 zw) rfl ?_
        refine vv_top (w := .int ((st_I (pt_W σ 180 (va_cpy (st_I σ 180) (st_I σ 180) 1 0 7)) 179 1) - (1 : Int32))) rfl ?_
        refine vr_iconst dX0_add_65 (v := (1 : Int32)) (by decide) ?_
        refine vr_iadd dX0_add_66 ?_
        refine vr_putI dX0_add_67 fl_LitmusTester_Changes_15 (wC_179 zw) rfl (fz_0_1) ?_
        exact vr_vret dX0_add_70 rfl zh
theorem e_X0_add {γ : ga_T} {l1 : Int32} {σ : st_T} {Q : rs_T → st_T → Prop} (zw : Wd σ) (zh : p_X0_add_0 γ l1 σ Q) : sp_ γ m_X0_add 1 [.ref 179, .int l1] σ Q := sp_of (pl_X0_add) rfl (Nat.le_of_ble_eq_true rfl) (g_X0_add_0 zw zh)
def p_X0_takeLatest_0 (γ : ga_T) (σ : st_T) (Q : rs_T → st_T → Prop) : Prop :=
  ((st_I σ 179 1) ≤ (0 : Int32) →
    Q (.inl (some (.int (-1 : Int32)))) σ
  ) ∧ (¬ (st_I σ 179 1) ≤ (0 : Int32) →
    ((st_I σ 179 1) ≤ (8 : Int32) →
      vp_in ((st_I σ 179 1) - (1 : Int32)) 8 ∧
      Q (.inl (some (.int (st_I σ 180 ((st_I σ 179 1) - (1 : Int32)).toNatClampNeg)))) (pt_I σ 179 1 ((st_I σ 179 1) - (1 : Int32)))
    ) ∧ (¬ (st_I σ 179 1) ≤ (8 : Int32) →
      Q (.inl (some (.int (-1 : Int32)))) σ
    )
  )
set_option maxRecDepth 10000 in
theorem g_X0_takeLatest_0 {γ : ga_T} {σ : st_T} {Q : rs_T → st_T → Prop} (zw : Wd σ) (zh : p_X0_takeLatest_0 γ σ Q) : vv_ γ m_X0_takeLatest 0 0 [(0, .ref 179)] [] σ Q := by
  unfold p_X0_takeLatest_0 at zh
  refine vr_aload_n dX0_takeLatest_0 rfl rfl ?_
  refine vr_getI dX0_takeLatest_1 fl_LitmusTester_Changes_15 (wC_179 zw) rfl ?_
  refine vr_if_le dX0_takeLatest_4 (tgt := 16) rfl (fun zd_1 => ?_) (fun zd_1 => ?_)
  · replace zh := zh.1 zd_1
    refine vr_iconst dX0_takeLatest_16 (v := (-1 : Int32)) (by decide) ?_
    exact vr_iret dX0_takeLatest_17 rfl zh
  · replace zh := zh.2 zd_1
    refine vr_aload_n dX0_takeLatest_7 rfl rfl ?_
    refine vr_getI dX0_takeLatest_8 fl_LitmusTester_Changes_15 (wC_179 zw) rfl ?_
    refine vr_bipush dX0_takeLatest_11 (v := (8 : Int32)) (by decide) ?_
    refine vr_ic_le dX0_takeLatest_13 (tgt := 18) rfl (fun zd_2 => ?_) (fun zd_2 => ?_)
    · replace zh := zh.1 zd_2
      refine vr_aload_n dX0_takeLatest_18 rfl rfl ?_
      refine vr_dup dX0_takeLatest_19 rfl ?_
      refine vr_getI dX0_takeLatest_20 fl_LitmusTester_Changes_15 (wC_179 zw) rfl ?_
      refine vr_iconst dX0_takeLatest_23 (v := (1 : Int32)) (by decide) ?_
      refine vr_isub dX0_takeLatest_24 ?_
      refine vr_putI dX0_takeLatest_25 fl_LitmusTester_Changes_15 (wC_179 zw) rfl (fz_0_1) ?_
      refine vr_aload_n dX0_takeLatest_28 rfl rfl ?_
      refine vr_getR dX0_takeLatest_29 fl_LitmusTester_Changes_9 (wC_179 zw) (Or.inr ⟨_, rfl⟩) (wR_179_0 zw) ?_
      refine vr_aload_n dX0_takeLatest_32 rfl rfl ?_
      refine vr_getI dX0_takeLatest_33 fl_LitmusTester_Changes_15 (wC_179 zw) rfl ?_
      refine vv_top (w := .int ((st_I σ 179 1) - (1 : Int32))) rfl ?_
      obtain ⟨zi_3, zh⟩ := zh
      refine vr_iaload dX0_takeLatest_36 (wS_180 zw) zi_3 ?_
      refine vv_top (w := .int (st_I σ 180 ((st_I σ 179 1) - (1 : Int32)).toNatClampNeg)) rfl ?_
      exact vr_iret dX0_takeLatest_37 rfl zh
    · replace zh := zh.2 zd_2
      refine vr_iconst dX0_takeLatest_16 (v := (-1 : Int32)) (by decide) ?_
      exact vr_iret dX0_takeLatest_17 rfl zh
theorem e_X0_takeLatest {γ : ga_T} {σ : st_T} {Q : rs_T → st_T → Prop} (zw : Wd σ) (zh : p_X0_takeLatest_0 γ σ Q) : sp_ γ m_X0_takeLatest 0 [.ref 179] σ Q := sp_of (pl_X0_takeLatest) rfl (Nat.le_of_ble_eq_true rfl) (g_X0_takeLatest_0 zw zh)
