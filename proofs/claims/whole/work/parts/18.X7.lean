def p_X7_clear_0 (γ : ga_T) (a : Nat) (σ : st_T) (Q : rs_T → st_T → Prop) : Prop :=
  Q (.inl none) (pt_I (pt_I (pt_I (pt_I σ a 4 (0 : Int32)) a 5 (0 : Int32)) a 6 (0 : Int32)) a 7 (0 : Int32))
set_option maxRecDepth 10000 in
theorem g_X7_clear_0 {γ : ga_T} {a : Nat} {σ : st_T} {Q : rs_T → st_T → Prop} (zha : is_pg a) (zw : Wd σ) (zh : p_X7_clear_0 γ a σ Q) : vv_ γ m_X7_clear 0 0 [(0, .ref a)] [] σ Q := by
  unfold p_X7_clear_0 at zh
  refine vr_aload_n dX7_clear_0 rfl rfl ?_
  refine vr_iconst dX7_clear_1 (v := (0 : Int32)) (by decide) ?_
  refine vr_putI dX7_clear_2 fl_LitmusTester_Program_25 (wC_pg zw zha) rfl (fz_7_4) ?_
  refine vr_aload_n dX7_clear_5 rfl rfl ?_
  refine vr_iconst dX7_clear_6 (v := (0 : Int32)) (by decide) ?_
  refine vr_putI dX7_clear_7 fl_LitmusTester_Program_29 (wC_pg zw zha) rfl (fz_7_5) ?_
  refine vr_aload_n dX7_clear_10 rfl rfl ?_
  refine vr_iconst dX7_clear_11 (v := (0 : Int32)) (by decide) ?_
  refine vr_putI dX7_clear_12 fl_LitmusTester_Program_32 (wC_pg zw zha) rfl (fz_7_6) ?_
  refine vr_aload_n dX7_clear_15 rfl rfl ?_
  refine vr_iconst dX7_clear_16 (v := (0 : Int32)) (by decide) ?_
  refine vr_putI dX7_clear_17 fl_LitmusTester_Program_35 (wC_pg zw zha) rfl (fz_7_7) ?_
  exact vr_vret dX7_clear_20 rfl zh
theorem e_X7_clear {γ : ga_T} {a : Nat} {σ : st_T} {Q : rs_T → st_T → Prop} (zha : is_pg a) (zw : Wd σ) (zh : p_X7_clear_0 γ a σ Q) : sp_ γ m_X7_clear 0 [.ref a] σ Q := sp_of (pl_X7_clear) rfl (Nat.le_of_ble_eq_true rfl) (g_X7_clear_0 zha zw zh)
def p_X7_copyFrom_0 (γ : ga_T) (a : Nat) (σ : st_T) (Q : rs_T → st_T → Prop) : Prop :=
  Q (.inl none) (pt_I (pt_I (pt_I (pt_I (pt_W (pt_W (pt_W (pt_V σ 133 (va_cpy (st_L σ 138) (st_L σ 133) 0 0 3)) 134 (va_cpy (st_I (pt_V σ 133 (va_cpy (st_L σ 138) (st_L σ 133) 0 0 3)) 139) (st_I (pt_V σ 133 (va_cpy (st_L σ 138) (st_L σ 133) 0 0 3)) 134) 0 0 3)) 135 (va_cpy (st_I (pt_W (pt_V σ 133 (va_cpy (st_L σ 138) (st_L σ 133) 0 0 3)) 134 (va_cpy (st_I (pt_V σ 133 (va_cpy (st_L σ 138) (st_L σ 133) 0 0 3)) 139) (st_I (pt_V σ 133 (va_cpy (st_L σ 138) (st_L σ 133) 0 0 3)) 134) 0 0 3)) 140) (st_I (pt_W (pt_V σ 133 (va_cpy (st_L σ 138) (st_L σ 133) 0 0 3)) 134 (va_cpy (st_I (pt_V σ 133 (va_cpy (st_L σ 138) (st_L σ 133) 0 0 3)) 139) (st_I (pt_V σ 133 (va_cpy (st_L σ 138) (st_L σ 133) 0 0 3)) 134) 0 0 3)) 135) 0 0 60)) 136 (va_cpy (st_I (pt_W (pt_W (pt_V σ 133 (va_cpy (st_L σ 138) (st_L σ 133) 0 0 3)) 134 (va_cpy (st_I (pt_V σ 133 (va_cpy (st_L σ 138) (st_L σ 133) 0 0 3)) 139) (st_I (pt_V σ 133 (va_cpy (st_L σ 138) (st_L σ 133) 0 0 3)) 134) 0 0 3)) 135 (va_cpy (st_I (pt_W (pt_V σ 133 (va_cpy (st_L σ 138) (st_L σ 133) 0 0 3)) 134 (va_cpy (st_I (pt_V σ 133 (va_cpy (st_L σ 138) (st_L σ 133) 0 0 3)) 139) (st_I (pt_V σ 133 (va_cpy (st_L σ 138) (st_L σ 133) 0 0 3)) 134) 0 0 3)) 140) (st_I (pt_W (pt_V σ 133 (va_cpy (st_L σ 138) (st_L σ 133) 0 0 3)) 134 (va_cpy (st_I (pt_V σ 133 (va_cpy (st_L σ 138) (st_L σ 133) 0 0 3)) 139) (st_I (pt_V σ 133 (va_cpy (st_L σ 138) (st_L σ 133) 0 0 3)) 134) 0 0 3)) 135) 0 0 60)) 141) (st_I (pt_W (pt_W (pt_V σ 133 (va_cpy (st_L σ 138) (st_L σ 133) 0 0 3)) 134 (va_cpy (st_I (pt_V σ 133 (va_cpy (st_L σ 138) (st_L σ 133) 0 0 3)) 139) (st_I (pt_V σ 133 (va_cpy (st_L σ 138) (st_L σ 133) 0 0 3)) 134) 0 0 3)) 135 (va_cpy (st_I (pt_W (pt_V σ 133 (va_cpy (st_L σ 138) (st_L σ 133) 0 0 3)) 134 (va_cpy (st_I (pt_V σ 133 (va_cpy (st_L σ 138) (st_L σ 133) 0 0 3)) 139) (st_I (pt_V σ 133 (va_cpy (st_L σ 138) (st_L σ 133) 0 0 3)) 134) 0 0 3)) 140) (st_I (pt_W (pt_V σ 133 (va_cpy (st_L σ 138) (st_L σ 133) 0 0 3)) 134 (va_cpy (st_I (pt_V σ 133 (va_cpy (st_L σ 138) (st_L σ 133) 0 0 3)) 139) (st_I (pt_V σ 133 (va_cpy (st_L σ 138) (st_L σ 133) 0 0 3)) 134) 0 0 3)) 135) 0 0 60)) 136) 0 0 32)) 132 4 (st_I (pt_W (pt_W (pt_W (pt_V σ 133 (va_cpy (st_L σ 138) (st_L σ 133) 0 0 3)) 134 (va_cpy (st_I (pt_V σ 133 (va_cpy (st_L σ 138) (st_L σ 133) 0 0 3)) 139) (st_I (pt_V σ 133 (va_cpy (st_L σ 138) (st_L σ 133) 0 0 3)) 134) 0 0 3)) 135 (va_cpy (st_I (pt_W (pt_V σ 133 (va_cpy (st_L σ 138) (st_L σ 133) 0 0 3)) 134 (va_cpy (st_I (pt_V σ 133 (va_cpy (st_L σ 138) (st_L σ 133) 0 0 3)) 139) (st_I (pt_V σ 133 (va_cpy (st_L σ 138) (st_L σ 133) 0 0 3)) 134) 0 0 3)) 140) (st_I (pt_W (pt_V σ 133 (va_cpy (st_L σ 138) (st_L σ 133) 0 0 3)) 134 (va_cpy (st_I (pt_V σ 133 (va_cpy (st_L σ 138) (st_L σ 133) 0 0 3)) 139) (st_I (pt_V σ 133 (va_cpy (st_L σ 138) (st_L σ 133) 0 0 3)) 134) 0 0 3)) 135) 0 0 60)) 136 (va_cpy (st_I (pt_W (pt_W (pt_V σ 133 (va_cpy (st_L σ 138) (st_L σ 133) 0 0 3)) 134 (va_cpy (st_I (pt_V σ 133 (va_cpy (st_L σ 138) (st_L σ 133) 0 0 3)) 139) (st_I (pt_V σ 133 (va_cpy (st_L σ 138) (st_L σ 133) 0 0 3)) 134) 0 0 3)) 135 (va_cpy (st_I (pt_W (pt_V σ 133 (va_cpy (st_L σ 138) (st_L σ 133) 0 0 3)) 134 (va_cpy (st_I (pt_V σ 133 (va_cpy (st_L σ 138) (st_L σ 133) 0 0 3)) 139) (st_I (pt_V σ 133 (va_cpy (st_L σ 138) (st_L σ 133) 0 0 3)) 134) 0 0 3)) 140) (st_I (pt_W (pt_V σ 133 (va_cpy (st_L σ 138) (st_L σ 133) 0 0 3)) 134 (va_cpy (st_I (pt_V σ 133 (va_cpy (st_L σ 138) (st_L σ 133) 0 0 3)) 139) (st_I (pt_V σ 133 (va_cpy (st_L σ 138) (st_L σ 133) 0 0 3)) 134) 0 0 3)) 135) 0 0 60)) 141) (st_I (pt_W (pt_W (pt_V σ 133 (va_cpy (st_L σ 138) (st_L σ 133) 0 0 3)) 134 (va_cpy (st_I (pt_V σ 133 (va_cpy (st_L σ 138) (st_L σ 133) 0 0 3)) 139) (st_I (pt_V σ 133 (va_cpy (st_L σ 138) (st_L σ 133) 0 0 3)) 134) 0 0 3)) 135 (va_cpy (st_I (pt_W (pt_V σ 133 (va_cpy (st_L σ 138) (st_L σ 133) 0 0 3)) 134 (va_cpy (st_I (pt_V σ 133 (va_cpy (st_L σ 138) (st_L σ 133) 0 0 3)) 139) (st_I (pt_V σ 133 (va_cpy (st_L σ 138) (st_L σ 133) 0 0 3)) 134) 0 0 3)) 140) (st_I (pt_W (pt_V σ 133 (va_cpy (st_L σ 138) (st_L σ 133) 0 0 3)) 134 (va_cpy (st_I (pt_V σ 133 (va_cpy (st_L σ 138) (st_L σ 133) 0 0 3)) 139) (st_I (pt_V σ 133 (va_cpy (st_L σ 138) (st_L σ 133) 0 0 3)) 134) 0 0 3)) 135) 0 0 60)) 136) 0 0 32)) 137 4)) 132 5 (st_I (pt_W (pt_W (pt_W (pt_V σ 133 (va_cpy (st_L σ 138) (st_L σ 133) 0 0 3)) 134 (va_cpy (st_I (pt_V σ 133 (va_cpy (st_L σ 138) (st_L σ 133) 0 0 3)) 139) (st_I (pt_V σ 133 (va_cpy (st_L σ 138) (st_L σ 133) 0 0 3)) 134) 0 0 3)) 135 (va_cpy (st_I (pt_W (pt_V σ 133 (va_cpy (st_L σ 138) (st_L σ 133) 0 0 3)) 134 (va_cpy (st_I (pt_V σ 133 (va_cpy (st_L σ 138) (st_L σ 133) 0 0 3)) 139) (st_I (pt_V σ 133 (va_cpy (st_L σ 138) (st_L σ 133) 0 0 3)) 134) 0 0 3)) 140) (st_I (pt_W (pt_V σ 133 (va_cpy (st_L σ 138) (st_L σ 133) 0 0 3)) 134 (va_cpy (st_I (pt_V σ 133 (va_cpy (st_L σ 138) (st_L σ 133) 0 0 3)) 139) (st_I (pt_V σ 133 (va_cpy (st_L σ 138) (st_L σ 133) 0 0 3)) 134) 0 0 3)) 135) 0 0 60)) 136 (va_cpy (st_I (pt_W (pt_W (pt_V σ 133 (va_cpy (st_L σ 138) (st_L σ 133) 0 0 3)) 134 (va_cpy (st_I (pt_V σ 133 (va_cpy (st_L σ 138) (st_L σ 133) 0 0 3)) 139) (st_I (pt_V σ 133 (va_cpy (st_L σ 138) (st_L σ 133) 0 0 3)) 134) 0 0 3)) 135 (va_cpy (st_I (pt_W (pt_V σ 133 (va_cpy (st_L σ 138) (st_L σ 133) 0 0 3)) 134 (va_cpy (st_I (pt_V σ 133 (va_cpy (st_L σ 138) (st_L σ 133) 0 0 3)) 139) (st_I (pt_V σ 133 (va_cpy (st_L σ 138) (st_L σ 133) 0 0 3)) 134) 0 0 3)) 140) (st_I (pt_W (pt_V σ 133 (va_cpy (st_L σ 138) (st_L σ 133) 0 0 3)) 134 (va_cpy (st_I (pt_V σ 133 (va_cpy (st_L σ 138) (st_L σ 133) 0 0 3)) 139) (st_I (pt_V σ 133 (va_cpy (st_L σ 138) (st_L σ 133) 0 0 3)) 134) 0 0 3)) 135) 0 0 60)) 141) (st_I (pt_W (pt_W (pt_V σ 133 (va_cpy (st_L σ 138) (st_L σ 133) 0 0 3)) 134 (va_cpy (st_I (pt_V σ 133 (va_cpy (st_L σ 138) (st_L σ 133) 0 0 3)) 139) (st_I (pt_V σ 133 (va_cpy (st_L σ 138) (st_L σ 133) 0 0 3)) 134) 0 0 3)) 135 (va_cpy (st_I (pt_W (pt_V σ 133 (va_cpy (st_L σ 138) (st_L σ 133) 0 0 3)) 134 (va_cpy (st_I (pt_V σ 133 (va_cpy (st_L σ 138) (st_L σ 133) 0 0 3)) 139) (st_I (pt_V σ 133 (va_cpy (st_L σ 138) (st_L σ 133) 0 0 3)) 134) 0 0 3)) 140) (st_I (pt_W (pt_V σ 133 (va_cpy (st_L σ 138) (st_L σ 133) 0 0 3)) 134 (va_cpy (st_I (pt_V σ 133 (va_cpy (st_L σ 138) (st_L σ 133) 0 0 3)) 139) (st_I (pt_V σ 133 (va_cpy (st_L σ 138) (st_L σ 133) 0 0 3)) 134) 0 0 3)) 135) 0 0 60)) 136) 0 0 32)) 137 5)) 132 6 (st_I (pt_W (pt_W (pt_W (pt_V σ 133 (va_cpy (st_L σ 138) (st_L σ 133) 0 0 3)) 134 (va_cpy (st_I (pt_V σ 133 (va_cpy (st_L σ 138) (st_L σ 133) 0 0 3)) 139) (st_I (pt_V σ 133 (va_cpy (st_L σ 138) (st_L σ 133) 0 0 3)) 134) 0 0 3)) 135 (va_cpy (st_I (pt_W (pt_V σ 133 (va_cpy (st_L σ 138) (st_L σ 133) 0 0 3)) 134 (va_cpy (st_I (pt_V σ 133 (va_cpy (st_L σ 138) (st_L σ 133) 0 0 3)) 139) (st_I (pt_V σ 133 (va_cpy (st_L σ 138) (st_L σ 133) 0 0 3)) 134) 0 0 3)) 140) (st_I (pt_W (pt_V σ 133 (va_cpy (st_L σ 138) (st_L σ 133) 0 0 3)) 134 (va_cpy (st_I (pt_V σ 133 (va_cpy (st_L σ 138) (st_L σ 133) 0 0 3)) 139) (st_I (pt_V σ 133 (va_cpy (st_L σ 138) (st_L σ 133) 0 0 3)) 134) 0 0 3)) 135) 0 0 60)) 136 (va_cpy (st_I (pt_W (pt_W (pt_V σ 133 (va_cpy (st_L σ 138) (st_L σ 133) 0 0 3)) 134 (va_cpy (st_I (pt_V σ 133 (va_cpy (st_L σ 138) (st_L σ 133) 0 0 3)) 139) (st_I (pt_V σ 133 (va_cpy (st_L σ 138) (st_L σ 133) 0 0 3)) 134) 0 0 3)) 135 (va_cpy (st_I (pt_W (pt_V σ 133 (va_cpy (st_L σ 138) (st_L σ 133) 0 0 3)) 134 (va_cpy (st_I (pt_V σ 133 (va_cpy (st_L σ 138) (st_L σ 133) 0 0 3)) 139) (st_I (pt_V σ 133 (va_cpy (st_L σ 138) (st_L σ 133) 0 0 3)) 134) 0 0 3)) 140) (st_I (pt_W (pt_V σ 133 (va_cpy (st_L σ 138) (st_L σ 133) 0 0 3)) 134 (va_cpy (st_I (pt_V σ 133 (va_cpy (st_L σ 138) (st_L σ 133) 0 0 3)) 139) (st_I (pt_V σ 133 (va_cpy (st_L σ 138) (st_L σ 133) 0 0 3)) 134) 0 0 3)) 135) 0 0 60)) 141) (st_I (pt_W (pt_W (pt_V σ 133 (va_cpy (st_L σ 138) (st_L σ 133) 0 0 3)) 134 (va_cpy (st_I (pt_V σ 133 (va_cpy (st_L σ 138) (st_L σ 133) 0 0 3)) 139) (st_I (pt_V σ 133 (va_cpy (st_L σ 138) (st_L σ 133) 0 0 3)) 134) 0 0 3)) 135 (va_cpy (st_I (pt_W (pt_V σ 133 (va_cpy (st_L σ 138) (st_L σ 133) 0 0 3)) 134 (va_cpy (st_I (pt_V σ 133 (va_cpy (st_L σ 138) (st_L σ 133) 0 0 3)) 139) (st_I (pt_V σ 133 (va_cpy (st_L σ 138) (st_L σ 133) 0 0 3)) 134) 0 0 3)) 140) (st_I (pt_W (pt_V σ 133 (va_cpy (st_L σ 138) (st_L σ 133) 0 0 3)) 134 (va_cpy (st_I (pt_V σ 133 (va_cpy (st_L σ 138) (st_L σ 133) 0 0 3)) 139) (st_I (pt_V σ 133 (va_cpy (st_L σ 138) (st_L σ 133) 0 0 3)) 134) 0 0 3)) 135) 0 0 60)) 136) 0 0 32)) 137 6)) 132 7 (st_I (pt_W (pt_W (pt_W (pt_V σ 133 (va_cpy (st_L σ 138) (st_L σ 133) 0 0 3)) 134 (va_cpy (st_I (pt_V σ 133 (va_cpy (st_L σ 138) (st_L σ 133) 0 0 3)) 139) (st_I (pt_V σ 133 (va_cpy (st_L σ 138) (st_L σ 133) 0 0 3)) 134) 0 0 3)) 135 (va_cpy (st_I (pt_W (pt_V σ 133 (va_cpy (st_L σ 138) (st_L σ 133) 0 0 3)) 134 (va_cpy (st_I (pt_V σ 133 (va_cpy (st_L σ 138) (st_L σ 133) 0 0 3)) 139) (st_I (pt_V σ 133 (va_cpy (st_L σ 138) (st_L σ 133) 0 0 3)) 134) 0 0 3)) 140) (st_I (pt_W (pt_V σ 133 (va_cpy (st_L σ 138) (st_L σ 133) 0 0 3)) 134 (va_cpy (st_I (pt_V σ 133 (va_cpy (st_L σ 138) (st_L σ 133) 0 0 3)) 139) (st_I (pt_V σ 133 (va_cpy (st_L σ 138) (st_L σ 133) 0 0 3)) 134) 0 0 3)) 135) 0 0 60)) 136 (va_cpy (st_I (pt_W (pt_W (pt_V σ 133 (va_cpy (st_L σ 138) (st_L σ 133) 0 0 3)) 134 (va_cpy (st_I (pt_V σ 133 (va_cpy (st_L σ 138) (st_L σ 133) 0 0 3)) 139) (st_I (pt_V σ 133 (va_cpy (st_L σ 138) (st_L σ 133) 0 0 3)) 134) 0 0 3)) 135 (va_cpy (st_I (pt_W (pt_V σ 133 (va_cpy (st_L σ 138) (st_L σ 133) 0 0 3)) 134 (va_cpy (st_I (pt_V σ 133 (va_cpy (st_L σ 138) (st_L σ 133) 0 0 3)) 139) (st_I (pt_V σ 133 (va_cpy (st_L σ 138) (st_L σ 133) 0 0 3)) 134) 0 0 3)) 140) (st_I (pt_W (pt_V σ 133 (va_cpy (st_L σ 138) (st_L σ 133) 0 0 3)) 134 (va_cpy (st_I (pt_V σ 133 (va_cpy (st_L σ 138) (st_L σ 133) 0 0 3)) 139) (st_I (pt_V σ 133 (va_cpy (st_L σ 138) (st_L σ 133) 0 0 3)) 134) 0 0 3)) 135) 0 0 60)) 141) (st_I (pt_W (pt_W (pt_V σ 133 (va_cpy (st_L σ 138) (st_L σ 133) 0 0 3)) 134 (va_cpy (st_I (pt_V σ 133 (va_cpy (st_L σ 138) (st_L σ 133) 0 0 3)) 139) (st_I (pt_V σ 133 (va_cpy (st_L σ 138) (st_L σ 133) 0 0 3)) 134) 0 0 3)) 135 (va_cpy (st_I (pt_W (pt_V σ 133 (va_cpy (st_L σ 138) (st_L σ 133) 0 0 3)) 134 (va_cpy (st_I (pt_V σ 133 (va_cpy (st_L σ 138) (st_L σ 133) 0 0 3)) 139) (st_I (pt_V σ 133 (va_cpy (st_L σ 138) (st_L σ 133) 0 0 3)) 134) 0 0 3)) 140) (st_I (pt_W (pt_V σ 133 (va_cpy (st_L σ 138) (st_L σ 133) 0 0 3)) 134 (va_cpy (st_I (pt_V σ 133 (va_cpy (st_L σ 138) (st_L σ 133) 0 0 3)) 139) (st_I (pt_V σ 133 (va_cpy (st_L σ 138) (st_L σ 133) 0 0 3)) 134) 0 0 3)) 135) 0 0 60)) 136) 0 0 32)) 137 7))
set_option maxRecDepth 10000 in
theorem g_X7_copyFrom_0 {γ : ga_T} {a : Nat} {σ : st_T} {Q : rs_T → st_T → Prop} (zha : is_pg a) (zw : Wd σ) (zh : p_X7_copyFrom_0 γ a σ Q) : vv_ γ m_X7_copyFrom 1 0 [(0, .ref 132), (1, .ref 137)] [] σ Q := by
  unfold p_X7_copyFrom_0 at zh
  refine vr_aload_n dX7_copyFrom_0 rfl rfl ?_
  refine vr_getR dX7_copyFrom_1 fl_LitmusTester_Program_9 (wC_137 zw) (Or.inr ⟨_, rfl⟩) (wR_137_0 zw) ?_
  refine vr_iconst dX7_copyFrom_4 (v := (0 : Int32)) (by decide) ?_
  refine vr_aload_n dX7_copyFrom_5 rfl rfl ?_
  refine vr_getR dX7_copyFrom_6 fl_LitmusTester_Program_9 (wC_132 zw) (Or.inr ⟨_, rfl⟩) (wR_132_0 zw) ?_
  refine vr_iconst dX7_copyFrom_9 (v := (0 : Int32)) (by decide) ?_
  refine vr_iconst dX7_copyFrom_10 (v := (3 : Int32)) (by decide) ?_
  refine vr_copyL dX7_copyFrom_11 ay_LitmusTester_Program_38 (wS_138 zw) (wS_133 zw) (by decide) (by decide) (by decide) (by decide) (by decide) (Nat.le_of_ble_eq_true rfl) (Nat.le_of_ble_eq_true rfl) ?_
  refine vv_so (σ2 := (pt_V σ 133 (va_cpy (st_L σ 138) (st_L σ 133) 0 0 3))) rfl ?_
  refine vr_aload_n dX7_copyFrom_14 rfl rfl ?_
  refine vr_getR dX7_copyFrom_15 fl_LitmusTester_Program_15 (wC_137 zw) (Or.inr ⟨_, rfl⟩) (wR_137_1 zw) ?_
  refine vr_iconst dX7_copyFrom_18 (v := (0 : Int32)) (by decide) ?_
  refine vr_aload_n dX7_copyFrom_19 rfl rfl ?_
  refine vr_getR dX7_copyFrom_20 fl_LitmusTester_Program_15 (wC_132 zw) (Or.inr ⟨_, rfl⟩) (wR_132_1 zw) ?_
  refine vr_iconst dX7_copyFrom_23 (v := (0 : Int32)) (by decide) ?_
  refine vr_iconst dX7_copyFrom_24 (v := (3 : Int32)) (by decide) ?_
  refine vr_copyI dX7_copyFrom_25 ay_LitmusTester_Program_38 (wS_139 zw) (wS_134 zw) (by decide) (by decide) (by decide) (by decide) (by decide) (Nat.le_of_ble_eq_true rfl) (Nat.le_of_ble_eq_true rfl) ?_
  refine vv_so (σ2 := (pt_W (pt_V σ 133 (va_cpy (st_L σ 138) (st_L σ 133) 0 0 3)) 134 (va_cpy (st_I (pt_V σ 133 (va_cpy (st_L σ 138) (st_L σ 133) 0 0 3)) 139) (st_I (pt_V σ 133 (va_cpy (st_L σ 138) (st_L σ 133) 0 0 3)) 134) 0 0 3))) rfl ?_
  refine vr_aload_n dX7_copyFrom_28 rfl rfl ?_
  refine vr_getR dX7_copyFrom_29 fl_LitmusTester_Program_19 (wC_137 zw) (Or.inr ⟨_, rfl⟩) (wR_137_2 zw) ?_
  refine vr_iconst dX7_copyFrom_32 (v := (0 : Int32)) (by decide) ?_
  refine vr_aload_n dX7_copyFrom_33 rfl rfl ?_
  refine vr_getR dX7_copyFrom_34 fl_LitmusTester_Program_19 (wC_132 zw) (Or.inr ⟨_, rfl⟩) (wR_132_2 zw) ?_
  refine vr_iconst dX7_copyFrom_37 (v := (0 : Int32)) (by decide) ?_
  refine vr_bipush dX7_copyFrom_38 (v := (60 : Int32)) (by decide) ?_
  refine vr_copyI dX7_copyFrom_40 ay_LitmusTester_Program_38 (wS_140 zw) (wS_135 zw) (by decide) (by decide) (by decide) (by decide) (by decide) (Nat.le_of_ble_eq_true rfl) (Nat.le_of_ble_eq_true rfl) ?_
  refine vv_so (σ2 := (pt_W (pt_W (pt_V σ 133 (va_cpy (st_L σ 138) (st_L σ 133) 0 0 3)) 134 (va_cpy (st_I (pt_V σ 133 (va_cpy (st_L σ 138) (st_L σ 133) 0 0 3)) 139) (st_I (pt_V σ 133 (va_cpy (st_L σ 138) (st_L σ 133) 0 0 3)) 134) 0 0 3)) 135 (va_cpy (st_I (pt_W (pt_V σ 133 (va_cpy (st_L σ 138) (st_L σ 133) 0 0 3)) 134 (va_cpy (st_I (pt_V σ 133 (va_cpy (st_L σ 138) (st_L σ 133) 0 0 3)) 139) (st_I (pt_V σ 133 (va_cpy (st_L σ 138) (st_L σ 133) 0 0 3)) 134) 0 0 3)) 140) (st_I (pt_W (pt_V σ 133 (va_cpy (st_L σ 138) (st_L σ 133) 0 0 3)) 134 (va_cpy (st_I (pt_V σ 133 (va_cpy (st_L σ 138) (st_L σ 133) 0 0 3)) 139) (st_I (pt_V σ 133 (va_cpy (st_L σ 138) (st_L σ 133) 0 0 3)) 134) 0 0 3)) 135) 0 0 60))) rfl ?_
  refine vr_aload_n dX7_copyFrom_43 rfl rfl ?_
  refine vr_getR dX7_copyFrom_44 fl_LitmusTester_Program_22 (wC_137 zw) (Or.inr ⟨_, rfl⟩) (wR_137_3 zw) ?_
  refine vr_iconst dX7_copyFrom_47 (v := (0 : Int32)) (by decide) ?_
  refine vr_aload_n dX7_copyFrom_48 rfl rfl ?_
  refine vr_getR dX7_copyFrom_49 fl_LitmusTester_Program_22 (wC_132 zw) (Or.inr ⟨_, rfl⟩) (wR_132_3 zw) ?_
  refine vr_iconst dX7_copyFrom_52 (v := (0 : Int32)) (by decide) ?_
  refine vr_bipush dX7_copyFrom_53 (v := (32 : Int32)) (by decide) ?_
  refine vr_copyI dX7_copyFrom_55 ay_LitmusTester_Program_38 (wS_141 zw) (wS_136 zw) (by decide) (by decide) (by decide) (by decide) (by decide) (Nat.le_of_ble_eq_true rfl) (Nat.le_of_ble_eq_true rfl) ?_
  refine vv_so (σ2 := (pt_W (pt_W (pt_W (pt_V σ 133 (va_cpy (st_L σ 138) (st_L σ 133) 0 0 3)) 134 (va_cpy (st_I (pt_V σ 133 (va_cpy (st_L σ 138) (st_L σ 133) 0 0 3)) 139) (st_I (pt_V σ 133 (va_cpy (st_L σ 138) (st_L σ 133) 0 0 3)) 134) 0 0 3)) 135 (va_cpy (st_I (pt_W (pt_V σ 133 (va_cpy (st_L σ 138) (st_L σ 133) 0 0 3)) 134 (va_cpy (st_I (pt_V σ 133 (va_cpy (st_L σ 138) (st_L σ 133) 0 0 3)) 139) (st_I (pt_V σ 133 (va_cpy (st_L σ 138) (st_L σ 133) 0 0 3)) 134) 0 0 3)) 140) (st_I (pt_W (pt_V σ 133 (va_cpy (st_L σ 138) (st_L σ 133) 0 0 3)) 134 (va_cpy (st_I (pt_V σ 133 (va_cpy (st_L σ 138) (st_L σ 133) 0 0 3)) 139) (st_I (pt_V σ 133 (va_cpy (st_L σ 138) (st_L σ 133) 0 0 3)) 134) 0 0 3)) 135) 0 0 60)) 136 (va_cpy (st_I (pt_W (pt_W (pt_V σ 133 (va_cpy (st_L σ 138) (st_L σ 133) 0 0 3)) 134 (va_cpy (st_I (pt_V σ 133 (va_cpy (st_L σ 138) (st_L σ 133) 0 0 3)) 139) (st_I (pt_V σ 133 (va_cpy (st_L σ 138) (st_L σ 133) 0 0 3)) 134) 0 0 3)) 135 (va_cpy (st_I (pt_W (pt_V σ 133 (va_cpy (st_L σ 138) (st_L σ 133) 0 0 3)) 134 (va_cpy (st_I (pt_V σ 133 (va_cpy (st_L σ 138) (st_L σ 133) 0 0 3)) 139) (st_I (pt_V σ 133 (va_cpy (st_L σ 138) (st_L σ 133) 0 0 3)) 134) 0 0 3)) 140) (st_I (pt_W (pt_V σ 133 (va_cpy (st_L σ 138) (st_L σ 133) 0 0 3)) 134 (va_cpy (st_I (pt_V σ 133 (va_cpy (st_L σ 138) (st_L σ 133) 0 0 3)) 139) (st_I (pt_V σ 133 (va_cpy (st_L σ 138) (st_L σ 133) 0 0 3)) 134) 0 0 3)) 135) 0 0 60)) 141) (st_I (pt_W (pt_W (pt_V σ 133 (va_cpy (st_L σ 138) (st_L σ 133) 0 0 3)) 134 (va_cpy (st_I (pt_V σ 133 (va_cpy (st_L σ 138) (st_L σ 133) 0 0 3)) 139) (st_I (pt_V σ 133 (va_cpy (st_L σ 138) (st_L σ 133) 0 0 3)) 134) 0 0 3)) 135 (va_cpy (st_I (pt_W (pt_V σ 133 (va_cpy (st_L σ 138) (st_L σ 133) 0 0 3)) 134 (va_cpy (st_I (pt_V σ 133 (va_cpy (st_L σ 138) (st_L σ 133) 0 0 3)) 139) (st_I (pt_V σ 133 (va_cpy (st_L σ 138) (st_L σ 133) 0 0 3)) 134) 0 0 3)) 140) (st_I (pt_W (pt_V σ 133 (va_cpy (st_L σ 138) (st_L σ 133) 0 0 3)) 134 (va_cpy (st_I (pt_V σ 133 (va_cpy (st_L σ 138) (st_L σ 133) 0 0 3)) 139) (st_I (pt_V σ 133 (va_cpy (st_L σ 138) (st_L σ 133) 0 0 3)) 134) 0 0 3)) 135) 0 0 60)) 136) 0 0 32))) rfl ?_
  refine vr_aload_n dX7_copyFrom_58 rfl rfl ?_
  refine vr_aload_n dX7_copyFrom_59 rfl rfl ?_
  refine vr_getI dX7_copyFrom_60 fl_LitmusTester_Program_25 (wC_137 zw) rfl ?_
  refine vr_putI dX7_copyFrom_63 fl_LitmusTester_Program_25 (wC_132 zw) rfl (fz_7_4) ?_
  refine vr_aload_n dX7_copyFrom_66 rfl rfl ?_
  refine vr_aload_n dX7_copyFrom_67 rfl rfl ?_
  refine vr_getI dX7_copyFrom_68 fl_LitmusTester_Program_29 (wC_137 zw) rfl ?_
  refine vv_top (w := .int (st_I (pt_W (pt_W (pt_W (pt_V σ 133 (va_cpy (st_L σ 138) (st_L σ 133) 0 0 3)) 134 (va_cpy (st_I (pt_V σ 133 (va_cpy (st_L σ 138) (st_L σ 133) 0 0 3)) 139) (st_I (pt_V σ 133 (va_cpy (st_L σ 138) (st_L σ 133) 0 0 3)) 134) 0 0 3)) 135 (va_cpy (st_I (pt_W (pt_V σ 133 (va_cpy (st_L σ 138) (st_L σ 133) 0 0 3)) 134 (va_cpy (st_I (pt_V σ 133 (va_cpy (st_L σ 138) (st_L σ 133) 0 0 3)) 139) (st_I (pt_V σ 133 (va_cpy (st_L σ 138) (st_L σ 133) 0 0 3)) 134) 0 0 3)) 140) (st_I (pt_W (pt_V σ 133 (va_cpy (st_L σ 138) (st_L σ 133) 0 0 3)) 134 (va_cpy (st_I (pt_V σ 133 (va_cpy (st_L σ 138) (st_L σ 133) 0 0 3)) 139) (st_I (pt_V σ 133 (va_cpy (st_L σ 138) (st_L σ 133) 0 0 3)) 134) 0 0 3)) 135) 0 0 60)) 136 (va_cpy (st_I (pt_W (pt_W (pt_V σ 133 (va_cpy (st_L σ 138) (st_L σ 133) 0 0 3)) 134 (va_cpy (st_I (pt_V σ 133 (va_cpy (st_L σ 138) (st_L σ 133) 0 0 3)) 139) (st_I (pt_V σ 133 (va_cpy (st_L σ 138) (st_L σ 133) 0 0 3)) 134) 0 0 3)) 135 (va_cpy (st_I (pt_W (pt_V σ 133 (va_cpy (st_L σ 138) (st_L σ 133) 0 0 3)) 134 (va_cpy (st_I (pt_V σ 133 (va_cpy (st_L σ 138) (st_L σ 133) 0 0 3)) 139) (st_I (pt_V σ 133 (va_cpy (st_L σ 138) (st_L σ 133) 0 0 3)) 134) 0 0 3)) 140) (st_I (pt_W (pt_V σ 133 (va_cpy (st_L σ 138) (st_L σ 133) 0 0 3)) 134 (va_cpy (st_I (pt_V σ 133 (va_cpy (st_L σ 138) (st_L σ 133) 0 0 3)) 139) (st_I (pt_V σ 133 (va_cpy (st_L σ 138) (st_L σ 133) 0 0 3)) 134) 0 0 3)) 135) 0 0 60)) 141) (st_I (pt_W (pt_W (pt_V σ 133 (va_cpy (st_L σ 138) (st_L σ 133) 0 0 3)) 134 (va_cpy (st_I (pt_V σ 133 (va_cpy (st_L σ 138) (st_L σ 133) 0 0 3)) 139) (st_I (pt_V σ 133 (va_cpy (st_L σ 138) (st_L σ 133) 0 0 3)) 134) 0 0 3)) 135 (va_cpy (st_I (pt_W (pt_V σ 133 (va_cpy (st_L σ 138) (st_L σ 133) 0 0 3)) 134 (va_cpy (st_I (pt_V σ 133 (va_cpy (st_L σ 138) (st_L σ 133) 0 0 3)) 139) (st_I (pt_V σ 133 (va_cpy (st_L σ 138) (st_L σ 133) 0 0 3)) 134) 0 0 3)) 140) (st_I (pt_W (pt_V σ 133 (va_cpy (st_L σ 138) (st_L σ 133) 0 0 3)) 134 (va_cpy (st_I (pt_V σ 133 (va_cpy (st_L σ 138) (st_L σ 133) 0 0 3)) 139) (st_I (pt_V σ 133 (va_cpy (st_L σ 138) (st_L σ 133) 0 0 3)) 134) 0 0 3)) 135) 0 0 60)) 136) 0 0 32)) 137 5)) rfl ?_
  refine vr_putI dX7_copyFrom_71 fl_LitmusTester_Program_29 (wC_132 zw) rfl (fz_7_5) ?_
  refine vr_aload_n dX7_copyFrom_74 rfl rfl ?_
  refine vr_aload_n dX7_copyFrom_75 rfl rfl ?_
  refine vr_getI dX7_copyFrom_76 fl_LitmusTester_Program_32 (wC_137 zw) rfl ?_
  refine vv_top (w := .int (st_I (pt_W (pt_W (pt_W (pt_V σ 133 (va_cpy (st_L σ 138) (st_L σ 133) 0 0 3)) 134 (va_cpy (st_I (pt_V σ 133 (va_cpy (st_L σ 138) (st_L σ 133) 0 0 3)) 139) (st_I (pt_V σ 133 (va_cpy (st_L σ 138) (st_L σ 133) 0 0 3)) 134) 0 0 3)) 135 (va_cpy (st_I (pt_W (pt_V σ 133 (va_cpy (st_L σ 138) (st_L σ 133) 0 0 3)) 134 (va_cpy (st_I (pt_V σ 133 (va_cpy (st_L σ 138) (st_L σ 133) 0 0 3)) 139) (st_I (pt_V σ 133 (va_cpy (st_L σ 138) (st_L σ 133) 0 0 3)) 134) 0 0 3)) 140) (st_I (pt_W (pt_V σ 133 (va_cpy (st_L σ 138) (st_L σ 133) 0 0 3)) 134 (va_cpy (st_I (pt_V σ 133 (va_cpy (st_L σ 138) (st_L σ 133) 0 0 3)) 139) (st_I (pt_V σ 133 (va_cpy (st_L σ 138) (st_L σ 133) 0 0 3)) 134) 0 0 3)) 135) 0 0 60)) 136 (va_cpy (st_I (pt_W (pt_W (pt_V σ 133 (va_cpy (st_L σ 138) (st_L σ 133) 0 0 3)) 134 (va_cpy (st_I (pt_V σ 133 (va_cpy (st_L σ 138) (st_L σ 133) 0 0 3)) 139) (st_I (pt_V σ 133 (va_cpy (st_L σ 138) (st_L σ 133) 0 0 3)) 134) 0 0 3)) 135 (va_cpy (st_I (pt_W (pt_V σ 133 (va_cpy (st_L σ 138) (st_L σ 133) 0 0 3)) 134 (va_cpy (st_I (pt_V σ 133 (va_cpy (st_L σ 138) (st_L σ 133) 0 0 3)) 139) (st_I (pt_V σ 133 (va_cpy (st_L σ 138) (st_L σ 133) 0 0 3)) 134) 0 0 3)) 140) (st_I (pt_W (pt_V σ 133 (va_cpy (st_L σ 138) (st_L σ 133) 0 0 3)) 134 (va_cpy (st_I (pt_V σ 133 (va_cpy (st_L σ 138) (st_L σ 133) 0 0 3)) 139) (st_I (pt_V σ 133 (va_cpy (st_L σ 138) (st_L σ 133) 0 0 3)) 134) 0 0 3)) 135) 0 0 60)) 141) (st_I (pt_W (pt_W (pt_V σ 133 (va_cpy (st_L σ 138) (st_L σ 133) 0 0 3)) 134 (va_cpy (st_I (pt_V σ 133 (va_cpy (st_L σ 138) (st_L σ 133) 0 0 3)) 139) (st_I (pt_V σ 133 (va_cpy (st_L σ 138) (st_L σ 133) 0 0 3)) 134) 0 0 3)) 135 (va_cpy (st_I (pt_W (pt_V σ 133 (va_cpy (st_L σ 138) (st_L σ 133) 0 0 3)) 134 (va_cpy (st_I (pt_V σ 133 (va_cpy (st_L σ 138) (st_L σ 133) 0 0 3)) 139) (st_I (pt_V σ 133 (va_cpy (st_L σ 138) (st_L σ 133) 0 0 3)) 134) 0 0 3)) 140) (st_I (pt_W (pt_V σ 133 (va_cpy (st_L σ 138) (st_L σ 133) 0 0 3)) 134 (va_cpy (st_I (pt_V σ 133 (va_cpy (st_L σ 138) (st_L σ 133) 0 0 3)) 139) (st_I (pt_V σ 133 (va_cpy (st_L σ 138) (st_L σ 133) 0 0 3)) 134) 0 0 3)) 135) 0 0 60)) 136) 0 0 32)) 137 6)) rfl ?_
  refine vr_putI dX7_copyFrom_79 fl_LitmusTester_Program_32 (wC_132 zw) rfl (fz_7_6) ?_
  refine vr_aload_n dX7_copyFrom_82 rfl rfl ?_
  refine vr_aload_n dX7_copyFrom_83 rfl rfl ?_
  refine vr_getI dX7_copyFrom_84 fl_LitmusTester_Program_35 (wC_137 zw) rfl ?_
  refine vv_top (w := .int (st_I (pt_W (pt_W (pt_W (pt_V σ 133 (va_cpy (st_L σ 138) (st_L σ 133) 0 0 3)) 134 (va_cpy (st_I (pt_V σ 133 (va_cpy (st_L σ 138) (st_L σ 133) 0 0 3)) 139) (st_I (pt_V σ 133 (va_cpy (st_L σ 138) (st_L σ 133) 0 0 3)) 134) 0 0 3)) 135 (va_cpy (st_I (pt_W (pt_V σ 133 (va_cpy (st_L σ 138) (st_L σ 133) 0 0 3)) 134 (va_cpy (st_I (pt_V σ 133 (va_cpy (st_L σ 138) (st_L σ 133) 0 0 3)) 139) (st_I (pt_V σ 133 (va_cpy (st_L σ 138) (st_L σ 133) 0 0 3)) 134) 0 0 3)) 140) (st_I (pt_W (pt_V σ 133 (va_cpy (st_L σ 138) (st_L σ 133) 0 0 3)) 134 (va_cpy (st_I (pt_V σ 133 (va_cpy (st_L σ 138) (st_L σ 133) 0 0 3)) 139) (st_I (pt_V σ 133 (va_cpy (st_L σ 138) (st_L σ 133) 0 0 3)) 134) 0 0 3)) 135) 0 0 60)) 136 (va_cpy (st_I (pt_W (pt_W (pt_V σ 133 (va_cpy (st_L σ 138) (st_L σ 133) 0 0 3)) 134 (va_cpy (st_I (pt_V σ 133 (va_cpy (st_L σ 138) (st_L σ 133) 0 0 3)) 139) (st_I (pt_V σ 133 (va_cpy (st_L σ 138) (st_L σ 133) 0 0 3)) 134) 0 0 3)) 135 (va_cpy (st_I (pt_W (pt_V σ 133 (va_cpy (st_L σ 138) (st_L σ 133) 0 0 3)) 134 (va_cpy (st_I (pt_V σ 133 (va_cpy (st_L σ 138) (st_L σ 133) 0 0 3)) 139) (st_I (pt_V σ 133 (va_cpy (st_L σ 138) (st_L σ 133) 0 0 3)) 134) 0 0 3)) 140) (st_I (pt_W (pt_V σ 133 (va_cpy (st_L σ 138) (st_L σ 133) 0 0 3)) 134 (va_cpy (st_I (pt_V σ 133 (va_cpy (st_L σ 138) (st_L σ 133) 0 0 3)) 139) (st_I (pt_V σ 133 (va_cpy (st_L σ 138) (st_L σ 133) 0 0 3)) 134) 0 0 3)) 135) 0 0 60)) 141) (st_I (pt_W (pt_W (pt_V σ 133 (va_cpy (st_L σ 138) (st_L σ 133) 0 0 3)) 134 (va_cpy (st_I (pt_V σ 133 (va_cpy (st_L σ 138) (st_L σ 133) 0 0 3)) 139) (st_I (pt_V σ 133 (va_cpy (st_L σ 138) (st_L σ 133) 0 0 3)) 134) 0 0 3)) 135 (va_cpy (st_I (pt_W (pt_V σ 133 (va_cpy (st_L σ 138) (st_L σ 133) 0 0 3)) 134 (va_cpy (st_I (pt_V σ 133 (va_cpy (st_L σ 138) (st_L σ 133) 0 0 3)) 139) (st_I (pt_V σ 133 (va_cpy (st_L σ 138) (st_L σ 133) 0 0 3)) 134) 0 0 3)) 140) (st_I (pt_W (pt_V σ 133 (va_cpy (st_L σ 138) (st_L σ 133) 0 0 3)) 134 (va_cpy (st_I (pt_V σ 133 (va_cpy (st_L σ 138) (st_L σ 133) 0 0 3)) 139) (st_I (pt_V σ 133 (va_cpy (st_L σ 138) (st_L σ 133) 0 0 3)) 134) 0 0 3)) 135) 0 0 60)) 136) 0 0 32)) 137 7)) rfl ?_
  refine vr_putI dX7_copyFrom_87 fl_LitmusTester_Program_35 (wC_132 zw) rfl (fz_7_7) ?_
  exact vr_vret dX7_copyFrom_90 rfl zh
theorem e_X7_copyFrom {γ : ga_T} {a : Nat} {σ : st_T} {Q : rs_T → st_T → Prop} (zha : is_pg a) (zw : Wd σ) (zh : p_X7_copyFrom_0 γ a σ Q) : sp_ γ m_X7_copyFrom 1 [.ref 132, .ref 137] σ Q := sp_of (pl_X7_copyFrom) rfl (Nat.le_of_ble_eq_true rfl) (g_X7_copyFrom_0 zha zw zh)
def p_X7_locations_0 (γ : ga_T) (a : Nat) (σ : st_T) (Q : rs_T → st_T → Prop) : Prop :=
  Q (.inl (some (.int (st_I σ a 4)))) σ
set_option maxRecDepth 10000 in
theorem g_X7_locations_0 {γ : ga_T} {a : Nat} {σ : st_T} {Q : rs_T → st_T → Prop} (zha : is_pg a) (zw : Wd σ) (zh : p_X7_locations_0 γ a σ Q) : vv_ γ m_X7_locations 0 0 [(0, .ref a)] [] σ Q := by
  unfold p_X7_locations_0 at zh
  refine vr_aload_n dX7_locations_0 rfl rfl ?_
  refine vr_getI dX7_locations_1 fl_LitmusTester_Program_25 (wC_pg zw zha) rfl ?_
  exact vr_iret dX7_locations_4 rfl zh
theorem e_X7_locations {γ : ga_T} {a : Nat} {σ : st_T} {Q : rs_T → st_T → Prop} (zha : is_pg a) (zw : Wd σ) (zh : p_X7_locations_0 γ a σ Q) : sp_ γ m_X7_locations 0 [.ref a] σ Q := sp_of (pl_X7_locations) rfl (Nat.le_of_ble_eq_true rfl) (g_X7_locations_0 zha zw zh)
def p_X7_threads_0 (γ : ga_T) (a : Nat) (σ : st_T) (Q : rs_T → st_T → Prop) : Prop :=
  Q (.inl (some (.int (st_I σ a 5)))) σ
set_option maxRecDepth 10000 in
theorem g_X7_threads_0 {γ : ga_T} {a : Nat} {σ : st_T} {Q : rs_T → st_T → Prop} (zha : is_pg a) (zw : Wd σ) (zh : p_X7_threads_0 γ a σ Q) : vv_ γ m_X7_threads 0 0 [(0, .ref a)] [] σ Q := by
  unfold p_X7_threads_0 at zh
  refine vr_aload_n dX7_threads_0 rfl rfl ?_
  refine vr_getI dX7_threads_1 fl_LitmusTester_Program_29 (wC_pg zw zha) rfl ?_
  exact vr_iret dX7_threads_4 rfl zh
theorem e_X7_threads {γ : ga_T} {a : Nat} {σ : st_T} {Q : rs_T → st_T → Prop} (zha : is_pg a) (zw : Wd σ) (zh : p_X7_threads_0 γ a σ Q) : sp_ γ m_X7_threads 0 [.ref a] σ Q := sp_of (pl_X7_threads) rfl (Nat.le_of_ble_eq_true rfl) (g_X7_threads_0 zha zw zh)
def p_X7_size_0 (γ : ga_T) (a : Nat) (σ : st_T) (Q : rs_T → st_T → Prop) : Prop :=
  Q (.inl (some (.int (st_I σ a 6)))) σ
set_option maxRecDepth 10000 in
theorem g_X7_size_0 {γ : ga_T} {a : Nat} {σ : st_T} {Q : rs_T → st_T → Prop} (zha : is_pg a) (zw : Wd σ) (zh : p_X7_size_0 γ a σ Q) : vv_ γ m_X7_size 0 0 [(0, .ref a)] [] σ Q := by
  unfold p_X7_size_0 at zh
  refine vr_aload_n dX7_size_0 rfl rfl ?_
  refine vr_getI dX7_size_1 fl_LitmusTester_Program_32 (wC_pg zw zha) rfl ?_
  exact vr_iret dX7_size_4 rfl zh
theorem e_X7_size {γ : ga_T} {a : Nat} {σ : st_T} {Q : rs_T → st_T → Prop} (zha : is_pg a) (zw : Wd σ) (zh : p_X7_size_0 γ a σ Q) : sp_ γ m_X7_size 0 [.ref a] σ Q := sp_of (pl_X7_size) rfl (Nat.le_of_ble_eq_true rfl) (g_X7_size_0 zha zw zh)
def p_X7_addLocation_0 (γ : ga_T) (a : Nat) (l1 : Int64) (l3 : Int32) (σ : st_T) (Q : rs_T → st_T → Prop) : Prop :=
  ((3 : Int32) ≤ (st_I σ a 4) →
    Q (.inl none) σ
  ) ∧ (¬ (3 : Int32) ≤ (st_I σ a 4) →
    vp_in (st_I σ a 4) 3 ∧
    vp_in (st_I σ a 4) 3 ∧
    Q (.inl none) (pt_I (pt_I (pt_L σ (a + 1) (st_I σ a 4).toNatClampNeg l1) (a + 2) (st_I σ a 4).toNatClampNeg l3) a 4 ((st_I (pt_I (pt_L σ (a + 1) (st_I σ a 4).toNatClampNeg l1) (a + 2) (st_I σ a 4).toNatClampNeg l3) a 4) + (1 : Int32)))
  )
set_option maxRecDepth 10000 in
theorem g_X7_addLocation_0 {γ : ga_T} {a : Nat} {l1 : Int64} {l3 : Int32} {σ : st_T} {Q : rs_T → st_T → Prop} (zha : is_pg a) (zw : Wd σ) (zh : p_X7_addLocation_0 γ a l1 l3 σ Q) : vv_ γ m_X7_addLocation 0 0 [(0, .ref a), (1, .long l1), (3, .int l3)] [] σ Q := by
  unfold p_X7_addLocation_0 at zh
  refine vr_aload_n dX7_addLocation_0 rfl rfl ?_
  refine vr_getI dX7_addLocation_1 fl_LitmusTester_Program_25 (wC_pg zw zha) rfl ?_
  refine vr_iconst dX7_addLocation_4 (v := (3 : Int32)) (by decide) ?_
  refine vr_ic_ge dX7_addLocation_5 (tgt := 38) rfl (fun zd_1 => ?_) (fun zd_1 => ?_)
  · replace zh := zh.1 zd_1
    exact vr_vret dX7_addLocation_38 rfl zh
  · replace zh := zh.2 zd_1
    refine vr_aload_n dX7_addLocation_8 rfl rfl ?_
    refine vr_getR dX7_addLocation_9 fl_LitmusTester_Program_9 (wC_pg zw zha) (Or.inr ⟨_, rfl⟩) (wR_pg_0 zw zha) ?_
    refine vr_aload_n dX7_addLocation_12 rfl rfl ?_
    refine vr_getI dX7_addLocation_13 fl_LitmusTester_Program_25 (wC_pg zw zha) rfl ?_
    refine vr_lload_n dX7_addLocation_16 rfl rfl ?_
    obtain ⟨zi_2, zh⟩ := zh
    refine vr_lastore dX7_addLocation_17 (wS_pg1 zw zha) zi_2 ?_
    refine vr_aload_n dX7_addLocation_18 rfl rfl ?_
    refine vr_getR dX7_addLocation_19 fl_LitmusTester_Program_15 (wC_pg zw zha) (Or.inr ⟨_, rfl⟩) (wR_pg_1 zw zha) ?_
    refine vr_aload_n dX7_addLocation_22 rfl rfl ?_
    refine vr_getI dX7_addLocation_23 fl_LitmusTester_Program_25 (wC_pg zw zha) rfl ?_
    refine vv_top (w := .int (st_I σ a 4)) rfl ?_
    refine vr_iload_n dX7_addLocation_26 rfl rfl ?_
    obtain ⟨zi_3, zh⟩ := zh
    refine vr_iastore dX7_addLocation_27 (wS_pg2 zw zha) zi_3 ?_
    refine vr_aload_n dX7_addLocation_28 rfl rfl ?_
    refine vr_dup dX7_addLocation_29 rfl ?_
    refine vr_getI dX7_addLocation_30 fl_LitmusTester_Program_25 (wC_pg zw zha) rfl ?_
    refine vr_iconst dX7_addLocation_33 (v := (1 : Int32)) (by decide) ?_
    refine vr_iadd dX7_addLocation_34 ?_
    refine vr_putI dX7_addLocation_35 fl_LitmusTester_Program_25 (wC_pg zw zha) rfl (fz_7_4) ?_
    exact vr_vret dX7_addLocation_38 rfl zh
theorem e_X7_addLocation {γ : ga_T} {a : Nat} {l1 : Int64} {l3 : Int32} {σ : st_T} {Q : rs_T → st_T → Prop} (zha : is_pg a) (zw : Wd σ) (zh : p_X7_addLocation_0 γ a l1 l3 σ Q) : sp_ γ m_X7_addLocation 0 [.ref a, .long l1, .int l3] σ Q := sp_of (pl_X7_addLocation) rfl (Nat.le_of_ble_eq_true rfl) (g_X7_addLocation_0 zha zw zh)
def p_X7_locationNamed_0 (γ : ga_T) (a : Nat) (l1 : Int64) (σ : st_T) (Q : rs_T → st_T → Prop) : Prop :=
  vv_ γ m_X7_locationNamed 0 2 [(0, .ref a), (1, .long l1), (3, .int (0 : Int32))] [] σ Q
set_option maxRecDepth 10000 in
theorem g_X7_locationNamed_0 {γ : ga_T} {a : Nat} {l1 : Int64} {σ : st_T} {Q : rs_T → st_T → Prop} (zha : is_pg a) (zw : Wd σ) (zh : p_X7_locationNamed_0 γ a l1 σ Q) : vv_ γ m_X7_locationNamed 0 0 [(0, .ref a), (1, .long l1)] [] σ Q := by
  unfold p_X7_locationNamed_0 at zh
  refine vr_iconst dX7_locationNamed_0 (v := (0 : Int32)) (by decide) ?_
  refine vr_istore_n dX7_locationNamed_1 rfl (Nat.le_of_ble_eq_true rfl) (vv_eq (ls' := [(0, .ref a), (1, .long l1), (3, .int (0 : Int32))]) rfl ?_)
  exact vv_sub (ls' := [(0, .ref a), (1, .long l1), (3, .int (0 : Int32))]) ⟨rfl, rfl, rfl, trivial⟩ zh
theorem e_X7_locationNamed {γ : ga_T} {a : Nat} {l1 : Int64} {σ : st_T} {Q : rs_T → st_T → Prop} (zha : is_pg a) (zw : Wd σ) (zh : p_X7_locationNamed_0 γ a l1 σ Q) : sp_ γ m_X7_locationNamed 0 [.ref a, .long l1] σ Q := sp_of (pl_X7_locationNamed) rfl (Nat.le_of_ble_eq_true rfl) (g_X7_locationNamed_0 zha zw zh)
def p_X7_locationNamed_2 (γ : ga_T) (a : Nat) (l1 : Int64) (l3 : Int32) (σ : st_T) (Q : rs_T → st_T → Prop) : Prop :=
  ((st_I σ a 4) ≤ l3 →
    Q (.inl (some (.int (-1 : Int32)))) σ
  ) ∧ (¬ (st_I σ a 4) ≤ l3 →
    ((3 : Int32) ≤ l3 →
      Q (.inl (some (.int (-1 : Int32)))) σ
    ) ∧ (¬ (3 : Int32) ≤ l3 →
      vp_in l3 3 ∧
      ((st_L σ (a + 1) l3.toNatClampNeg) = l1 →
        Q (.inl (some (.int l3))) σ
      ) ∧ (¬ (st_L σ (a + 1) l3.toNatClampNeg) = l1 →
        vv_ γ m_X7_locationNamed 0 2 [(0, .ref a), (1, .long l1), (3, .int (l3 + 1))] [] σ Q
      )
    )
  )
set_option maxRecDepth 10000 in
theorem g_X7_locationNamed_2 {γ : ga_T} {a : Nat} {l1 : Int64} {l3 : Int32} {σ : st_T} {Q : rs_T → st_T → Prop} (zha : is_pg a) (zw : Wd σ) (zh : p_X7_locationNamed_2 γ a l1 l3 σ Q) : vv_ γ m_X7_locationNamed 0 2 [(0, .ref a), (1, .long l1), (3, .int l3)] [] σ Q := by
  unfold p_X7_locationNamed_2 at zh
  refine vr_iload_n dX7_locationNamed_2 rfl rfl ?_
  refine vr_aload_n dX7_locationNamed_3 rfl rfl ?_
  refine vr_getI dX7_locationNamed_4 fl_LitmusTester_Program_25 (wC_pg zw zha) rfl ?_
  refine vr_ic_ge dX7_locationNamed_7 (tgt := 34) rfl (fun zd_1 => ?_) (fun zd_1 => ?_)
  · replace zh := zh.1 zd_1
    refine vr_iconst dX7_locationNamed_34 (v := (-1 : Int32)) (by decide) ?_
    exact vr_iret dX7_locationNamed_35 rfl zh
  · replace zh := zh.2 zd_1
    refine vr_iload_n dX7_locationNamed_10 rfl rfl ?_
    refine vr_iconst dX7_locationNamed_11 (v := (3 : Int32)) (by decide) ?_
    refine vr_ic_ge dX7_locationNamed_12 (tgt := 34) rfl (fun zd_2 => ?_) (fun zd_2 => ?_)
    · replace zh := zh.1 zd_2
      refine vr_iconst dX7_locationNamed_34 (v := (-1 : Int32)) (by decide) ?_
      exact vr_iret dX7_locationNamed_35 rfl zh
    · replace zh := zh.2 zd_2
      refine vr_aload_n dX7_locationNamed_15 rfl rfl ?_
      refine vr_getR dX7_locationNamed_16 fl_LitmusTester_Program_9 (wC_pg zw zha) (Or.inr ⟨_, rfl⟩) (wR_pg_0 zw zha) ?_
      refine vr_iload_n dX7_locationNamed_19 rfl rfl ?_
      obtain ⟨zi_3, zh⟩ := zh
      refine vr_laload dX7_locationNamed_20 (wS_pg1 zw zha) zi_3 ?_
      refine vr_lload_n dX7_locationNamed_21 rfl rfl ?_
      refine vr_lcmp dX7_locationNamed_22 ?_
      refine vr_if_ne dX7_locationNamed_23 (tgt := 28) rfl (fun zd_4 => ?_) (fun zd_4 => ?_)
      · replace zh := zh.2 (fun z => zd_4 ((lg_cmp_eq _ _).mpr z))
        refine vr_iinc dX7_locationNamed_28 (x := l3) (v := (l3 + 1)) rfl (ii_ (by decide)) (Nat.le_of_ble_eq_true rfl) (vv_eq (ls' := [(0, .ref a), (1, .long l1), (3, .int (l3 + 1))]) rfl ?_)
        refine vr_goto dX7_locationNamed_31 (tgt := 2) rfl ?_
        exact vv_sub (ls' := [(0, .ref a), (1, .long l1), (3, .int (l3 + 1))]) ⟨rfl, rfl, rfl, trivial⟩ zh
      · replace zh := zh.1 ((lg_cmp_eq _ _).mp zd_4)
        refine vr_iload_n dX7_locationNamed_26 rfl rfl ?_
        exact vr_iret dX7_locationNamed_27 rfl zh
def p_X7_nameOf_0 (γ : ga_T) (a : Nat) (l1 : Int32) (σ : st_T) (Q : rs_T → st_T → Prop) : Prop :=
  (l1 < (0 : Int32) →
    Q (.inl (some (.long (0 : Int64)))) σ
  ) ∧ (¬ l1 < (0 : Int32) →
    ((3 : Int32) ≤ l1 →
      Q (.inl (some (.long (0 : Int64)))) σ
    ) ∧ (¬ (3 : Int32) ≤ l1 →
      vp_in l1 3 ∧
      Q (.inl (some (.long (st_L σ (a + 1) l1.toNatClampNeg)))) σ
    )
  )
set_option maxRecDepth 10000 in
theorem g_X7_nameOf_0 {γ : ga_T} {a : Nat} {l1 : Int32} {σ : st_T} {Q : rs_T → st_T → Prop} (zha : is_pg a) (zw : Wd σ) (zh : p_X7_nameOf_0 γ a l1 σ Q) : vv_ γ m_X7_nameOf 0 0 [(0, .ref a), (1, .int l1)] [] σ Q := by
  unfold p_X7_nameOf_0 at zh
  refine vr_iload_n dX7_nameOf_0 rfl rfl ?_
  refine vr_if_lt dX7_nameOf_1 (tgt := 18) rfl (fun zd_1 => ?_) (fun zd_1 => ?_)
  · replace zh := zh.1 zd_1
    refine vr_lconst dX7_nameOf_18 (v := (0 : Int64)) (by decide) ?_
    exact vr_lret dX7_nameOf_19 rfl zh
  · replace zh := zh.2 zd_1
    refine vr_iload_n dX7_nameOf_4 rfl rfl ?_
    refine vr_iconst dX7_nameOf_5 (v := (3 : Int32)) (by decide) ?_
    refine vr_ic_ge dX7_nameOf_6 (tgt := 18) rfl (fun zd_2 => ?_) (fun zd_2 => ?_)
    · replace zh := zh.1 zd_2
      refine vr_lconst dX7_nameOf_18 (v := (0 : Int64)) (by decide) ?_
      exact vr_lret dX7_nameOf_19 rfl zh
    · replace zh := zh.2 zd_2
      refine vr_aload_n dX7_nameOf_9 rfl rfl ?_
      refine vr_getR dX7_nameOf_10 fl_LitmusTester_Program_9 (wC_pg zw zha) (Or.inr ⟨_, rfl⟩) (wR_pg_0 zw zha) ?_
      refine vr_iload_n dX7_nameOf_13 rfl rfl ?_
      obtain ⟨zi_3, zh⟩ := zh
      refine vr_laload dX7_nameOf_14 (wS_pg1 zw zha) zi_3 ?_
      refine vr_goto dX7_nameOf_15 (tgt := 19) rfl ?_
      exact vr_lret dX7_nameOf_19 rfl zh
theorem e_X7_nameOf {γ : ga_T} {a : Nat} {l1 : Int32} {σ : st_T} {Q : rs_T → st_T → Prop} (zha : is_pg a) (zw : Wd σ) (zh : p_X7_nameOf_0 γ a l1 σ Q) : sp_ γ m_X7_nameOf 0 [.ref a, .int l1] σ Q := sp_of (pl_X7_nameOf) rfl (Nat.le_of_ble_eq_true rfl) (g_X7_nameOf_0 zha zw zh)
def p_X7_initialOf_0 (γ : ga_T) (a : Nat) (l1 : Int32) (σ : st_T) (Q : rs_T → st_T → Prop) : Prop :=
  (l1 < (0 : Int32) →
    Q (.inl (some (.int (0 : Int32)))) σ
  ) ∧ (¬ l1 < (0 : Int32) →
    ((3 : Int32) ≤ l1 →
      Q (.inl (some (.int (0 : Int32)))) σ
    ) ∧ (¬ (3 : Int32) ≤ l1 →
      vp_in l1 3 ∧
      Q (.inl (some (.int (st_I σ (a + 2) l1.toNatClampNeg)))) σ
    )
  )
set_option maxRecDepth 10000 in
theorem g_X7_initialOf_0 {γ : ga_T} {a : Nat} {l1 : Int32} {σ : st_T} {Q : rs_T → st_T → Prop} (zha : is_pg a) (zw : Wd σ) (zh : p_X7_initialOf_0 γ a l1 σ Q) : vv_ γ m_X7_initialOf 0 0 [(0, .ref a), (1, .int l1)] [] σ Q := by
  unfold p_X7_initialOf_0 at zh
  refine vr_iload_n dX7_initialOf_0 rfl rfl ?_
  refine vr_if_lt dX7_initialOf_1 (tgt := 18) rfl (fun zd_1 => ?_) (fun zd_1 => ?_)
  · replace zh := zh.1 zd_1
    refine vr_iconst dX7_initialOf_18 (v := (0 : Int32)) (by decide) ?_
    exact vr_iret dX7_initialOf_19 rfl zh
  · replace zh := zh.2 zd_1
    refine vr_iload_n dX7_initialOf_4 rfl rfl ?_
    refine vr_iconst dX7_initialOf_5 (v := (3 : Int32)) (by decide) ?_
    refine vr_ic_ge dX7_initialOf_6 (tgt := 18) rfl (fun zd_2 => ?_) (fun zd_2 => ?_)
    · replace zh := zh.1 zd_2
      refine vr_iconst dX7_initialOf_18 (v := (0 : Int32)) (by decide) ?_
      exact vr_iret dX7_initialOf_19 rfl zh
    · replace zh := zh.2 zd_2
      refine vr_aload_n dX7_initialOf_9 rfl rfl ?_
      refine vr_getR dX7_initialOf_10 fl_LitmusTester_Program_15 (wC_pg zw zha) (Or.inr ⟨_, rfl⟩) (wR_pg_1 zw zha) ?_
      refine vr_iload_n dX7_initialOf_13 rfl rfl ?_
      obtain ⟨zi_3, zh⟩ := zh
      refine vr_iaload dX7_initialOf_14 (wS_pg2 zw zha) zi_3 ?_
      refine vr_goto dX7_initialOf_15 (tgt := 19) rfl ?_
      exact vr_iret dX7_initialOf_19 rfl zh
theorem e_X7_initialOf {γ : ga_T} {a : Nat} {l1 : Int32} {σ : st_T} {Q : rs_T → st_T → Prop} (zha : is_pg a) (zw : Wd σ) (zh : p_X7_initialOf_0 γ a l1 σ Q) : sp_ γ m_X7_initialOf 0 [.ref a, .int l1] σ Q := sp_of (pl_X7_initialOf) rfl (Nat.le_of_ble_eq_true rfl) (g_X7_initialOf_0 zha zw zh)
def p_X7_addThread_0 (γ : ga_T) (a : Nat) (σ : st_T) (Q : rs_T → st_T → Prop) : Prop :=
  ((4 : Int32) ≤ (st_I σ a 5) →
    Q (.inl none) σ
  ) ∧ (¬ (4 : Int32) ≤ (st_I σ a 5) →
    Q (.inl none) (pt_I σ a 5 ((st_I σ a 5) + (1 : Int32)))
  )
set_option maxRecDepth 10000 in
theorem g_X7_addThread_0 {γ : ga_T} {a : Nat} {σ : st_T} {Q : rs_T → st_T → Prop} (zha : is_pg a) (zw : Wd σ) (zh : p_X7_addThread_0 γ a σ Q) : vv_ γ m_X7_addThread 0 0 [(0, .ref a)] [] σ Q := by
  unfold p_X7_addThread_0 at zh
  refine vr_aload_n dX7_addThread_0 rfl rfl ?_
  refine vr_getI dX7_addThread_1 fl_LitmusTester_Program_29 (wC_pg zw zha) rfl ?_
  refine vr_iconst dX7_addThread_4 (v := (4 : Int32)) (by decide) ?_
  refine vr_ic_ge dX7_addThread_5 (tgt := 18) rfl (fun zd_1 => ?_) (fun zd_1 => ?_)
  · replace zh := zh.1 zd_1
    exact vr_vret dX7_addThread_18 rfl zh
  · replace zh := zh.2 zd_1
    refine vr_aload_n dX7_addThread_8 rfl rfl ?_
    refine vr_dup dX7_addThread_9 rfl ?_
    refine vr_getI dX7_addThread_10 fl_LitmusTester_Program_29 (wC_pg zw zha) rfl ?_
    refine vr_iconst dX7_addThread_13 (v := (1 : Int32)) (by decide) ?_
    refine vr_iadd dX7_addThread_14 ?_
    refine vr_putI dX7_addThread_15 fl_LitmusTester_Program_29 (wC_pg zw zha) rfl (fz_7_5) ?_
    exact vr_vret dX7_addThread_18 rfl zh
theorem e_X7_addThread {γ : ga_T} {a : Nat} {σ : st_T} {Q : rs_T → st_T → Prop} (zha : is_pg a) (zw : Wd σ) (zh : p_X7_addThread_0 γ a σ Q) : sp_ γ m_X7_addThread 0 [.ref a] σ Q := sp_of (pl_X7_addThread) rfl (Nat.le_of_ble_eq_true rfl) (g_X7_addThread_0 zha zw zh)
def p_X7_addInstruction_0 (γ : ga_T) (a : Nat) (l1 : Int32) (l2 : Int32) (l3 : Int32) (l4 : Int32) (l5 : Int32) (σ : st_T) (Q : rs_T → st_T → Prop) : Prop :=
  ((10 : Int32) ≤ (st_I σ a 6) →
    Q (.inl none) σ
  ) ∧ (¬ (10 : Int32) ≤ (st_I σ a 6) →
    ∃ s2, Wd s2 ∧ fw_ γ m_X7_setProperty 0 [.ref a, .int ((st_I (pt_I σ a 6 ((st_I σ a 6) + (1 : Int32))) a 6) - (1 : Int32)), .int (0 : Int32), .int ((st_I (pt_I σ a 6 ((st_I σ a 6) + (1 : Int32))) a 5) - (1 : Int32))] (pt_I σ a 6 ((st_I σ a 6) + (1 : Int32))) s2 ∧
    ∃ s4, Wd s4 ∧ fw_ γ m_X7_setProperty 0 [.ref a, .int ((st_I s2 a 6) - (1 : Int32)), .int (1 : Int32), .int l1] s2 s4 ∧
    ∃ s6, Wd s6 ∧ fw_ γ m_X7_setProperty 0 [.ref a, .int ((st_I s4 a 6) - (1 : Int32)), .int (2 : Int32), .int l2] s4 s6 ∧
    ∃ s8, Wd s8 ∧ fw_ γ m_X7_setProperty 0 [.ref a, .int ((st_I s6 a 6) - (1 : Int32)), .int (3 : Int32), .int l3] s6 s8 ∧
    ∃ s10, Wd s10 ∧ fw_ γ m_X7_setProperty 0 [.ref a, .int ((st_I s8 a 6) - (1 : Int32)), .int (4 : Int32), .int l4] s8 s10 ∧
    ∃ s12, Wd s12 ∧ fw_ γ m_X7_setProperty 0 [.ref a, .int ((st_I s10 a 6) - (1 : Int32)), .int (5 : Int32), .int l5] s10 s12 ∧
    Q (.inl none) s12
  )
set_option maxRecDepth 10000 in
theorem g_X7_addInstruction_0 {γ : ga_T} {a : Nat} {l1 : Int32} {l2 : Int32} {l3 : Int32} {l4 : Int32} {l5 : Int32} {σ : st_T} {Q : rs_T → st_T → Prop} (zha : is_pg a) (zw : Wd σ) (zh : p_X7_addInstruction_0 γ a l1 l2 l3 l4 l5 σ Q) : vv_ γ m_X7_addInstruction 1 0 [(0, .ref a), (1, .int l1), (2, .int l2), (3, .int l3), (4, .int l4), (5, .int l5)] [] σ Q := by
  unfold p_X7_addInstruction_0 at zh
  refine vr_aload_n dX7_addInstruction_0 rfl rfl ?_
  refine vr_getI dX7_addInstruction_1 fl_LitmusTester_Program_32 (wC_pg zw zha) rfl ?_
  refine vr_bipush dX7_addInstruction_4 (v := (10 : Int32)) (by decide) ?_
  refine vr_ic_ge dX7_addInstruction_6 (tgt := 98) rfl (fun zd_1 => ?_) (fun zd_1 => ?_)
  · replace zh := zh.1 zd_1
    exact vr_vret dX7_addInstruction_98 rfl zh
  · replace zh := zh.2 zd_1
    refine vr_aload_n dX7_addInstruction_9 rfl rfl ?_
    refine vr_dup dX7_addInstruction_10 rfl ?_
    refine vr_getI dX7_addInstruction_11 fl_LitmusTester_Program_32 (wC_pg zw zha) rfl ?_
    refine vr_iconst dX7_addInstruction_14 (v := (1 : Int32)) (by decide) ?_
    refine vr_iadd dX7_addInstruction_15 ?_
    refine vr_putI dX7_addInstruction_16 fl_LitmusTester_Program_32 (wC_pg zw zha) rfl (fz_7_6) ?_
    refine vr_aload_n dX7_addInstruction_19 rfl rfl ?_
    refine vr_aload_n dX7_addInstruction_20 rfl rfl ?_
    refine vr_getI dX7_addInstruction_21 fl_LitmusTester_Program_32 (wC_pg zw zha) rfl ?_
    refine vr_iconst dX7_addInstruction_24 (v := (1 : Int32)) (by decide) ?_
    refine vr_isub dX7_addInstruction_25 ?_
    refine vr_iconst dX7_addInstruction_26 (v := (0 : Int32)) (by decide) ?_
    refine vr_aload_n dX7_addInstruction_27 rfl rfl ?_
    refine vr_getI dX7_addInstruction_28 fl_LitmusTester_Program_29 (wC_pg zw zha) rfl ?_
    refine vr_iconst dX7_addInstruction_31 (v := (1 : Int32)) (by decide) ?_
    refine vr_isub dX7_addInstruction_32 ?_
    obtain ⟨s2, zw1, zf_3, zh⟩ := zh
    refine vc_V (As := [.int ((st_I (pt_I σ a 6 ((st_I σ a 6) + (1 : Int32))) a 6) - (1 : Int32)), .int (0 : Int32), .int ((st_I (pt_I σ a 6 ((st_I σ a 6) + (1 : Int32))) a 5) - (1 : Int32))]) (rest := []) dX7_addInstruction_33 cV_LitmusTester_Program_44 (wC_pg zw zha) rfl rfl (Nat.le_of_ble_eq_true rfl) (Nat.le_of_ble_eq_true rfl) (co_v zf_3 ?_)
    replace zw := zw1
    refine vr_aload_n dX7_addInstruction_36 rfl rfl ?_
    refine vr_aload_n dX7_addInstruction_37 rfl rfl ?_
    refine vr_getI dX7_addInstruction_38 fl_LitmusTester_Program_32 (wC_pg zw zha) rfl ?_
    refine vr_iconst dX7_addInstruction_41 (v := (1 : Int32)) (by decide) ?_
    refine vr_isub dX7_addInstruction_42 ?_
    refine vr_iconst dX7_addInstruction_43 (v := (1 : Int32)) (by decide) ?_
    refine vr_iload_n dX7_addInstruction_44 rfl rfl ?_
    obtain ⟨s4, zw1, zf_5, zh⟩ := zh
    refine vc_V (As := [.int ((st_I s2 a 6) - (1 : Int32)), .int (1 : Int32), .int l1]) (rest := []) dX7_addInstruction_45 cV_LitmusTester_Program_44 (wC_pg zw zha) rfl rfl (Nat.le_of_ble_eq_true rfl) (Nat.le_of_ble_eq_true rfl) (co_v zf_5 ?_)
    replace zw := zw1
    refine vr_aload_n dX7_addInstruction_48 rfl rfl ?_
    refine vr_aload_n dX7_addInstruction_49 rfl rfl ?_
    refine vr_getI dX7_addInstruction_50 fl_LitmusTester_Program_32 (wC_pg zw zha) rfl ?_
    refine vr_iconst dX7_addInstruction_53 (v := (1 : Int32)) (by decide) ?_
    refine vr_isub dX7_addInstruction_54 ?_
    refine vr_iconst dX7_addInstruction_55 (v := (2 : Int32)) (by decide) ?_
    refine vr_iload_n dX7_addInstruction_56 rfl rfl ?_
    obtain ⟨s6, zw1, zf_7, zh⟩ := zh
    refine vc_V (As := [.int ((st_I s4 a 6) - (1 : Int32)), .int (2 : Int32), .int l2]) (rest := []) dX7_addInstruction_57 cV_LitmusTester_Program_44 (wC_pg zw zha) rfl rfl (Nat.le_of_ble_eq_true rfl) (Nat.le_of_ble_eq_true rfl) (co_v zf_7 ?_)
    replace zw := zw1
    refine vr_aload_n dX7_addInstruction_60 rfl rfl ?_
    refine vr_aload_n dX7_addInstruction_61 rfl rfl ?_
    refine vr_getI dX7_addInstruction_62 fl_LitmusTester_Program_32 (wC_pg zw zha) rfl ?_
    refine vr_iconst dX7_addInstruction_65 (v := (1 : Int32)) (by decide) ?_
    refine vr_isub dX7_addInstruction_66 ?_
    refine vr_iconst dX7_addInstruction_67 (v := (3 : Int32)) (by decide) ?_
    refine vr_iload_n dX7_addInstruction_68 rfl rfl ?_
    obtain ⟨s8, zw1, zf_9, zh⟩ := zh
    refine vc_V (As := [.int ((st_I s6 a 6) - (1 : Int32)), .int (3 : Int32), .int l3]) (rest := []) dX7_addInstruction_69 cV_LitmusTester_Program_44 (wC_pg zw zha) rfl rfl (Nat.le_of_ble_eq_true rfl) (Nat.le_of_ble_eq_true rfl) (co_v zf_9 ?_)
    replace zw := zw1
    refine vr_aload_n dX7_addInstruction_72 rfl rfl ?_
    refine vr_aload_n dX7_addInstruction_73 rfl rfl ?_
    refine vr_getI dX7_addInstruction_74 fl_LitmusTester_Program_32 (wC_pg zw zha) rfl ?_
    refine vr_iconst dX7_addInstruction_77 (v := (1 : Int32)) (by decide) ?_
    refine vr_isub dX7_addInstruction_78 ?_
    refine vr_iconst dX7_addInstruction_79 (v := (4 : Int32)) (by decide) ?_
    refine vr_iload dX7_addInstruction_80 rfl ?_
    obtain ⟨s10, zw1, zf_11, zh⟩ := zh
    refine vc_V (As := [.int ((st_I s8 a 6) - (1 : Int32)), .int (4 : Int32), .int l4]) (rest := []) dX7_addInstruction_82 cV_LitmusTester_Program_44 (wC_pg zw zha) rfl rfl (Nat.le_of_ble_eq_true rfl) (Nat.le_of_ble_eq_true rfl) (co_v zf_11 ?_)
    replace zw := zw1
    refine vr_aload_n dX7_addInstruction_85 rfl rfl ?_
    refine vr_aload_n dX7_addInstruction_86 rfl rfl ?_
    refine vr_getI dX7_addInstruction_87 fl_LitmusTester_Program_32 (wC_pg zw zha) rfl ?_
    refine vr_iconst dX7_addInstruction_90 (v := (1 : Int32)) (by decide) ?_
    refine vr_isub dX7_addInstruction_91 ?_
    refine vr_iconst dX7_addInstruction_92 (v := (5 : Int32)) (by decide) ?_
    refine vr_iload dX7_addInstruction_93 rfl ?_
    obtain ⟨s12, zw1, zf_13, zh⟩ := zh
    refine vc_V (As := [.int ((st_I s10 a 6) - (1 : Int32)), .int (5 : Int32), .int l5]) (rest := []) dX7_addInstruction_95 cV_LitmusTester_Program_44 (wC_pg zw zha) rfl rfl (Nat.le_of_ble_eq_true rfl) (Nat.le_of_ble_eq_true rfl) (co_v zf_13 ?_)
    replace zw := zw1
    exact vr_vret dX7_addInstruction_98 rfl zh
theorem e_X7_addInstruction {γ : ga_T} {a : Nat} {l1 : Int32} {l2 : Int32} {l3 : Int32} {l4 : Int32} {l5 : Int32} {σ : st_T} {Q : rs_T → st_T → Prop} (zha : is_pg a) (zw : Wd σ) (zh : p_X7_addInstruction_0 γ a l1 l2 l3 l4 l5 σ Q) : sp_ γ m_X7_addInstruction 1 [.ref a, .int l1, .int l2, .int l3, .int l4, .int l5] σ Q := sp_of (pl_X7_addInstruction) rfl (Nat.le_of_ble_eq_true rfl) (g_X7_addInstruction_0 zha zw zh)
def p_X7_setProperty_0 (γ : ga_T) (a : Nat) (l1 : Int32) (l2 : Int32) (l3 : Int32) (σ : st_T) (Q : rs_T → st_T → Prop) : Prop :=
  (((l1 * (6 : Int32)) + l2) < (0 : Int32) →
    Q (.inl none) σ
  ) ∧ (¬ ((l1 * (6 : Int32)) + l2) < (0 : Int32) →
    ((60 : Int32) ≤ ((l1 * (6 : Int32)) + l2) →
      Q (.inl none) σ
    ) ∧ (¬ (60 : Int32) ≤ ((l1 * (6 : Int32)) + l2) →
      vp_in ((l1 * (6 : Int32)) + l2) 60 ∧
      Q (.inl none) (pt_I σ (a + 3) ((l1 * (6 : Int32)) + l2).toNatClampNeg l3)
    )
  )
set_option maxRecDepth 10000 in
theorem g_X7_setProperty_0 {γ : ga_T} {a : Nat} {l1 : Int32} {l2 : Int32} {l3 : Int32} {σ : st_T} {Q : rs_T → st_T → Prop} (zha : is_pg a) (zw : Wd σ) (zh : p_X7_setProperty_0 γ a l1 l2 l3 σ Q) : vv_ γ m_X7_setProperty 0 0 [(0, .ref a), (1, .int l1), (2, .int l2), (3, .int l3)] [] σ Q := by
  unfold p_X7_setProperty_0 at zh
  refine vr_iload_n dX7_setProperty_0 rfl rfl ?_
  refine vr_bipush dX7_setProperty_1 (v := (6 : Int32)) (by decide) ?_
  refine vr_imul dX7_setProperty_3 ?_
  refine vr_iload_n dX7_setProperty_4 rfl rfl ?_
  refine vr_iadd dX7_setProperty_5 ?_
  refine vr_istore dX7_setProperty_6 (Nat.le_of_ble_eq_true rfl) (vv_eq (ls' := [(0, .ref a), (1, .int l1), (2, .int l2), (3, .int l3), (4, .int ((l1 * (6 : Int32)) + l2))]) rfl ?_)
  refine vr_iload dX7_setProperty_8 rfl ?_
  refine vr_if_lt dX7_setProperty_10 (tgt := 31) rfl (fun zd_1 => ?_) (fun zd_1 => ?_)
  · replace zh := zh.1 zd_1
    exact vr_vret dX7_setProperty_31 rfl zh
  · replace zh := zh.2 zd_1
    refine vr_iload dX7_setProperty_13 rfl ?_
    refine vr_aload_n dX7_setProperty_15 rfl rfl ?_
    refine vr_getR dX7_setProperty_16 fl_LitmusTester_Program_19 (wC_pg zw zha) (Or.inr ⟨_, rfl⟩) (wR_pg_2 zw zha) ?_
    refine vr_alen dX7_setProperty_19 (wS_pg3 zw zha) (Nat.le_of_ble_eq_true rfl) (Nat.le_of_ble_eq_true rfl) (v := (60 : Int32)) (by decide) ?_
    refine vr_ic_ge dX7_setProperty_20 (tgt := 31) rfl (fun zd_2 => ?_) (fun zd_2 => ?_)
    · replace zh := zh.1 zd_2
      exact vr_vret dX7_setProperty_31 rfl zh
    · replace zh := zh.2 zd_2
      refine vr_aload_n dX7_setProperty_23 rfl rfl ?_
      refine vr_getR dX7_setProperty_24 fl_LitmusTester_Program_19 (wC_pg zw zha) (Or.inr ⟨_, rfl⟩) (wR_pg_2 zw zha) ?_
      refine vr_iload dX7_setProperty_27 rfl ?_
      refine vr_iload_n dX7_setProperty_29 rfl rfl ?_
      obtain ⟨zi_3, zh⟩ := zh
      refine vr_iastore dX7_setProperty_30 (wS_pg3 zw zha) zi_3 ?_
      exact vr_vret dX7_setProperty_31 rfl zh
theorem e_X7_setProperty {γ : ga_T} {a : Nat} {l1 : Int32} {l2 : Int32} {l3 : Int32} {σ : st_T} {Q : rs_T → st_T → Prop} (zha : is_pg a) (zw : Wd σ) (zh : p_X7_setProperty_0 γ a l1 l2 l3 σ Q) : sp_ γ m_X7_setProperty 0 [.ref a, .int l1, .int l2, .int l3] σ Q := sp_of (pl_X7_setProperty) rfl (Nat.le_of_ble_eq_true rfl) (g_X7_setProperty_0 zha zw zh)
def p_X7_property_0 (γ : ga_T) (a : Nat) (l1 : Int32) (l2 : Int32) (σ : st_T) (Q : rs_T → st_T → Prop) : Prop :=
  (l1 < (0 : Int32) →
    Q (.inl (some (.int (-1 : Int32)))) σ
  ) ∧ (¬ l1 < (0 : Int32) →
    ((st_I σ a 6) ≤ l1 →
      Q (.inl (some (.int (-1 : Int32)))) σ
    ) ∧ (¬ (st_I σ a 6) ≤ l1 →
      (l2 < (0 : Int32) →
        Q (.inl (some (.int (-1 : Int32)))) σ
      ) ∧ (¬ l2 < (0 : Int32) →
        ((6 : Int32) ≤ l2 →
          Q (.inl (some (.int (-1 : Int32)))) σ
        ) ∧ (¬ (6 : Int32) ≤ l2 →
          ((60 : Int32) ≤ ((l1 * (6 : Int32)) + l2) →
            Q (.inl (some (.int (-1 : Int32)))) σ
          ) ∧ (¬ (60 : Int32) ≤ ((l1 * (6 : Int32)) + l2) →
            vp_in ((l1 * (6 : Int32)) + l2) 60 ∧
            Q (.inl (some (.int (st_I σ (a + 3) ((l1 * (6 : Int32)) + l2).toNatClampNeg)))) σ
          )
        )
      )
    )
  )
set_option maxRecDepth 10000 in
theorem g_X7_property_0 {γ : ga_T} {a : Nat} {l1 : Int32} {l2 : Int32} {σ : st_T} {Q : rs_T → st_T → Prop} (zha : is_pg a) (zw : Wd σ) (zh : p_X7_property_0 γ a l1 l2 σ Q) : vv_ γ m_X7_property 0 0 [(0, .ref a), (1, .int l1), (2, .int l2)] [] σ Q := by
  unfold p_X7_property_0 at zh
  refine vr_iload_n dX7_property_0 rfl rfl ?_
  refine vr_if_lt dX7_property_1 (tgt := 26) rfl (fun zd_1 => ?_) (fun zd_1 => ?_)
  · replace zh := zh.1 zd_1
    refine vr_iconst dX7_property_26 (v := (0 : Int32)) (by decide) ?_
    refine vr_istore_n dX7_property_27 rfl (Nat.le_of_ble_eq_true rfl) (vv_eq (ls' := [(0, .ref a), (1, .int l1), (2, .int l2), (3, .int (0 : Int32))]) rfl ?_)
    refine vr_iload_n dX7_property_28 rfl rfl ?_
    refine vr_if_eq dX7_property_29 (tgt := 41) rfl (fun _ => ?_) (fun c => absurd (by decide) c)
    refine vr_iconst dX7_property_41 (v := (0 : Int32)) (by decide) ?_
    refine vr_istore dX7_property_42 (Nat.le_of_ble_eq_true rfl) (vv_eq (ls' := [(0, .ref a), (1, .int l1), (2, .int l2), (3, .int (0 : Int32)), (4, .int (0 : Int32))]) rfl ?_)
    refine vr_iload_n dX7_property_44 rfl rfl ?_
    refine vr_if_eq dX7_property_45 (tgt := 68) rfl (fun _ => ?_) (fun c => absurd (by decide) c)
    refine vr_iconst dX7_property_68 (v := (-1 : Int32)) (by decide) ?_
    exact vr_iret dX7_property_69 rfl zh
  · replace zh := zh.2 zd_1
    refine vr_iload_n dX7_property_4 rfl rfl ?_
    refine vr_aload_n dX7_property_5 rfl rfl ?_
    refine vr_getI dX7_property_6 fl_LitmusTester_Program_32 (wC_pg zw zha) rfl ?_
    refine vr_ic_ge dX7_property_9 (tgt := 26) rfl (fun zd_2 => ?_) (fun zd_2 => ?_)
    · replace zh := zh.1 zd_2
      refine vr_iconst dX7_property_26 (v := (0 : Int32)) (by decide) ?_
      refine vr_istore_n dX7_property_27 rfl (Nat.le_of_ble_eq_true rfl) (vv_eq (ls' := [(0, .ref a), (1, .int l1), (2, .int l2), (3, .int (0 : Int32))]) rfl ?_)
      refine vr_iload_n dX7_property_28 rfl rfl ?_
      refine vr_if_eq dX7_property_29 (tgt := 41) rfl (fun _ => ?_) (fun c => absurd (by decide) c)
      refine vr_iconst dX7_property_41 (v := (0 : Int32)) (by decide) ?_
      refine vr_istore dX7_property_42 (Nat.le_of_ble_eq_true rfl) (vv_eq (ls' := [(0, .ref a), (1, .int l1), (2, .int l2), (3, .int (0 : Int32)), (4, .int (0 : Int32))]) rfl ?_)
      refine vr_iload_n dX7_property_44 rfl rfl ?_
      refine vr_if_eq dX7_property_45 (tgt := 68) rfl (fun _ => ?_) (fun c => absurd (by decide) c)
      refine vr_iconst dX7_property_68 (v := (-1 : Int32)) (by decide) ?_
      exact vr_iret dX7_property_69 rfl zh
    · replace zh := zh.2 zd_2
      refine vr_iload_n dX7_property_12 rfl rfl ?_
      refine vr_if_lt dX7_property_13 (tgt := 26) rfl (fun zd_3 => ?_) (fun zd_3 => ?_)
      · replace zh := zh.1 zd_3
        refine vr_iconst dX7_property_26 (v := (0 : Int32)) (by decide) ?_
        refine vr_istore_n dX7_property_27 rfl (Nat.le_of_ble_eq_true rfl) (vv_eq (ls' := [(0, .ref a), (1, .int l1), (2, .int l2), (3, .int (0 : Int32))]) rfl ?_)
        refine vr_iload_n dX7_property_28 rfl rfl ?_
        refine vr_if_eq dX7_property_29 (tgt := 41) rfl (fun _ => ?_) (fun c => absurd (by decide) c)
        refine vr_iconst dX7_property_41 (v := (0 : Int32)) (by decide) ?_
        refine vr_istore dX7_property_42 (Nat.le_of_ble_eq_true rfl) (vv_eq (ls' := [(0, .ref a), (1, .int l1), (2, .int l2), (3, .int (0 : Int32)), (4, .int (0 : Int32))]) rfl ?_)
        refine vr_iload_n dX7_property_44 rfl rfl ?_
        refine vr_if_eq dX7_property_45 (tgt := 68) rfl (fun _ => ?_) (fun c => absurd (by decide) c)
        refine vr_iconst dX7_property_68 (v := (-1 : Int32)) (by decide) ?_
        exact vr_iret dX7_property_69 rfl zh
      · replace zh := zh.2 zd_3
        refine vr_iload_n dX7_property_16 rfl rfl ?_
        refine vr_bipush dX7_property_17 (v := (6 : Int32)) (by decide) ?_
        refine vr_ic_ge dX7_property_19 (tgt := 26) rfl (fun zd_4 => ?_) (fun zd_4 => ?_)
        · replace zh := zh.1 zd_4
          refine vr_iconst dX7_property_26 (v := (0 : Int32)) (by decide) ?_
          refine vr_istore_n dX7_property_27 rfl (Nat.le_of_ble_eq_true rfl) (vv_eq (ls' := [(0, .ref a), (1, .int l1), (2, .int l2), (3, .int (0 : Int32))]) rfl ?_)
          refine vr_iload_n dX7_property_28 rfl rfl ?_
          refine vr_if_eq dX7_property_29 (tgt := 41) rfl (fun _ => ?_) (fun c => absurd (by decide) c)
          refine vr_iconst dX7_property_41 (v := (0 : Int32)) (by decide) ?_
          refine vr_istore dX7_property_42 (Nat.le_of_ble_eq_true rfl) (vv_eq (ls' := [(0, .ref a), (1, .int l1), (2, .int l2), (3, .int (0 : Int32)), (4, .int (0 : Int32))]) rfl ?_)
          refine vr_iload_n dX7_property_44 rfl rfl ?_
          refine vr_if_eq dX7_property_45 (tgt := 68) rfl (fun _ => ?_) (fun c => absurd (by decide) c)
          refine vr_iconst dX7_property_68 (v := (-1 : Int32)) (by decide) ?_
          exact vr_iret dX7_property_69 rfl zh
        · replace zh := zh.2 zd_4
          refine vr_iconst dX7_property_22 (v := (1 : Int32)) (by decide) ?_
          refine vr_goto dX7_property_23 (tgt := 27) rfl ?_
          refine vr_istore_n dX7_property_27 rfl (Nat.le_of_ble_eq_true rfl) (vv_eq (ls' := [(0, .ref a), (1, .int l1), (2, .int l2), (3, .int (1 : Int32))]) rfl ?_)
          refine vr_iload_n dX7_property_28 rfl rfl ?_
          refine vr_if_eq dX7_property_29 (tgt := 41) rfl (fun c => absurd c (by decide)) (fun _ => ?_)
          refine vr_iload_n dX7_property_32 rfl rfl ?_
          refine vr_bipush dX7_property_33 (v := (6 : Int32)) (by decide) ?_
          refine vr_imul dX7_property_35 ?_
          refine vr_iload_n dX7_property_36 rfl rfl ?_
          refine vr_iadd dX7_property_37 ?_
          refine vr_goto dX7_property_38 (tgt := 42) rfl ?_
          refine vr_istore dX7_property_42 (Nat.le_of_ble_eq_true rfl) (vv_eq (ls' := [(0, .ref a), (1, .int l1), (2, .int l2), (3, .int (1 : Int32)), (4, .int ((l1 * (6 : Int32)) + l2))]) rfl ?_)
          refine vr_iload_n dX7_property_44 rfl rfl ?_
          refine vr_if_eq dX7_property_45 (tgt := 68) rfl (fun c => absurd c (by decide)) (fun _ => ?_)
          refine vr_iload dX7_property_48 rfl ?_
          refine vr_aload_n dX7_property_50 rfl rfl ?_
          refine vr_getR dX7_property_51 fl_LitmusTester_Program_19 (wC_pg zw zha) (Or.inr ⟨_, rfl⟩) (wR_pg_2 zw zha) ?_
          refine vr_alen dX7_property_54 (wS_pg3 zw zha) (Nat.le_of_ble_eq_true rfl) (Nat.le_of_ble_eq_true rfl) (v := (60 : Int32)) (by decide) ?_
          refine vr_ic_ge dX7_property_55 (tgt := 68) rfl (fun zd_5 => ?_) (fun zd_5 => ?_)
          · replace zh := zh.1 zd_5
            refine vr_iconst dX7_property_68 (v := (-1 : Int32)) (by decide) ?_
            exact vr_iret dX7_property_69 rfl zh
          · replace zh := zh.2 zd_5
            refine vr_aload_n dX7_property_58 rfl rfl ?_
            refine vr_getR dX7_property_59 fl_LitmusTester_Program_19 (wC_pg zw zha) (Or.inr ⟨_, rfl⟩) (wR_pg_2 zw zha) ?_
            refine vr_iload dX7_property_62 rfl ?_
            obtain ⟨zi_6, zh⟩ := zh
            refine vr_iaload dX7_property_64 (wS_pg3 zw zha) zi_6 ?_
            refine vr_goto dX7_property_65 (tgt := 69) rfl ?_
            exact vr_iret dX7_property_69 rfl zh
theorem e_X7_property {γ : ga_T} {a : Nat} {l1 : Int32} {l2 : Int32} {σ : st_T} {Q : rs_T → st_T → Prop} (zha : is_pg a) (zw : Wd σ) (zh : p_X7_property_0 γ a l1 l2 σ Q) : sp_ γ m_X7_property 0 [.ref a, .int l1, .int l2] σ Q := sp_of (pl_X7_property) rfl (Nat.le_of_ble_eq_true rfl) (g_X7_property_0 zha zw zh)
def p_X7_putFence_0 (γ : ga_T) (a : Nat) (l1 : Int32) (l2 : Int32) (σ : st_T) (Q : rs_T → st_T → Prop) : Prop :=
  ((10 : Int32) ≤ (st_I σ a 6) →
    Q (.inl none) σ
  ) ∧ (¬ (10 : Int32) ≤ (st_I σ a 6) →
    (l1 < (0 : Int32) →
      Q (.inl none) σ
    ) ∧ (¬ l1 < (0 : Int32) →
      ((st_I σ a 6) < l1 →
        Q (.inl none) σ
      ) ∧ (¬ (st_I σ a 6) < l1 →
        ¬ (l1 * (6 : Int32)) < 0 ∧
        ¬ ((l1 * (6 : Int32)) + (6 : Int32)) < 0 ∧
        ¬ (((st_I σ a 6) - l1) * (6 : Int32)) < 0 ∧
        (l1 * (6 : Int32)).toNatClampNeg + (((st_I σ a 6) - l1) * (6 : Int32)).toNatClampNeg ≤ 60 ∧
        ((l1 * (6 : Int32)) + (6 : Int32)).toNatClampNeg + (((st_I σ a 6) - l1) * (6 : Int32)).toNatClampNeg ≤ 60 ∧
        ∃ s9, Wd s9 ∧ fw_ γ m_X7_setProperty 0 [.ref a, .int l1, .int (0 : Int32), .int l2] (pt_I (pt_W σ (a + 3) (va_cpy (st_I σ (a + 3)) (st_I σ (a + 3)) (l1 * (6 : Int32)).toNatClampNeg ((l1 * (6 : Int32)) + (6 : Int32)).toNatClampNeg (((st_I σ a 6) - l1) * (6 : Int32)).toNatClampNeg)) a 6 ((st_I (pt_W σ (a + 3) (va_cpy (st_I σ (a + 3)) (st_I σ (a + 3)) (l1 * (6 : Int32)).toNatClampNeg ((l1 * (6 : Int32)) + (6 : Int32)).toNatClampNeg (((st_I σ a 6) - l1) * (6 : Int32)).toNatClampNeg)) a 6) + (1 : Int32))) s9 ∧
        ∃ s11, Wd s11 ∧ fw_ γ m_X7_setProperty 0 [.ref a, .int l1, .int (1 : Int32), .int (3 : Int32)] s9 s11 ∧
        ∃ s13, Wd s13 ∧ fw_ γ m_X7_setProperty 0 [.ref a, .int l1, .int (2 : Int32), .int (-1 : Int32)] s11 s13 ∧
        ∃ s15, Wd s15 ∧ fw_ γ m_X7_setProperty 0 [.ref a, .int l1, .int (3 : Int32), .int (-1 : Int32)] s13 s15 ∧
        ∃ s17, Wd s17 ∧ fw_ γ m_X7_setProperty 0 [.ref a, .int l1, .int (4 : Int32), .int (-1 : Int32)] s15 s17 ∧
        ∃ s19, Wd s19 ∧ fw_ γ m_X7_setProperty 0 [.ref a, .int l1, .int (5 : Int32), .int (-1 : Int32)] s17 s19 ∧
        Q (.inl none) s19
      )
    )
  )
set_option maxRecDepth 10000 in
theorem g_X7_putFence_0 {γ : ga_T} {a : Nat} {l1 : Int32} {l2 : Int32} {σ : st_T} {Q : rs_T → st_T → Prop} (zha : is_pg a) (zw : Wd σ) (zh : p_X7_putFence_0 γ a l1 l2 σ Q) : vv_ γ m_X7_putFence 1 0 [(0, .ref a), (1, .int l1), (2, .int l2)] [] σ Q := by
  unfold p_X7_putFence_0 at zh
  refine vr_aload_n dX7_putFence_0 rfl rfl ?_
  refine vr_getI dX7_putFence_1 fl_LitmusTester_Program_32 (wC_pg zw zha) rfl ?_
  refine vr_bipush dX7_putFence_4 (v := (10 : Int32)) (by decide) ?_
  refine vr_ic_ge dX7_putFence_6 (tgt := 103) rfl (fun zd_1 => ?_) (fun zd_1 => ?_)
  · replace zh := zh.1 zd_1
    exact vr_vret dX7_putFence_103 rfl zh
  · replace zh := zh.2 zd_1
    refine vr_iload_n dX7_putFence_9 rfl rfl ?_
    refine vr_if_lt dX7_putFence_10 (tgt := 103) rfl (fun zd_2 => ?_) (fun zd_2 => ?_)
    · replace zh := zh.1 zd_2
      exact vr_vret dX7_putFence_103 rfl zh
    · replace zh := zh.2 zd_2
      refine vr_iload_n dX7_putFence_13 rfl rfl ?_
      refine vr_aload_n dX7_putFence_14 rfl rfl ?_
      refine vr_getI dX7_putFence_15 fl_LitmusTester_Program_32 (wC_pg zw zha) rfl ?_
      refine vr_ic_gt dX7_putFence_18 (tgt := 103) rfl (fun zd_3 => ?_) (fun zd_3 => ?_)
      · replace zh := zh.1 zd_3
        exact vr_vret dX7_putFence_103 rfl zh
      · replace zh := zh.2 zd_3
        refine vr_iload_n dX7_putFence_21 rfl rfl ?_
        refine vr_bipush dX7_putFence_22 (v := (6 : Int32)) (by decide) ?_
        refine vr_imul dX7_putFence_24 ?_
        refine vr_istore_n dX7_putFence_25 rfl (Nat.le_of_ble_eq_true rfl) (vv_eq (ls' := [(0, .ref a), (1, .int l1), (2, .int l2), (3, .int (l1 * (6 : Int32)))]) rfl ?_)
        refine vr_aload_n dX7_putFence_26 rfl rfl ?_
        refine vr_getR dX7_putFence_27 fl_LitmusTester_Program_19 (wC_pg zw zha) (Or.inr ⟨_, rfl⟩) (wR_pg_2 zw zha) ?_
        refine vr_iload_n dX7_putFence_30 rfl rfl ?_
        refine vr_aload_n dX7_putFence_31 rfl rfl ?_
        refine vr_getR dX7_putFence_32 fl_LitmusTester_Program_19 (wC_pg zw zha) (Or.inr ⟨_, rfl⟩) (wR_pg_2 zw zha) ?_
        refine vr_iload_n dX7_putFence_35 rfl rfl ?_
        refine vr_bipush dX7_putFence_36 (v := (6 : Int32)) (by decide) ?_
        refine vr_iadd dX7_putFence_38 ?_
        refine vr_aload_n dX7_putFence_39 rfl rfl ?_
        refine vr_getI dX7_putFence_40 fl_LitmusTester_Program_32 (wC_pg zw zha) rfl ?_
        refine vr_iload_n dX7_putFence_43 rfl rfl ?_
        refine vr_isub dX7_putFence_44 ?_
        refine vr_bipush dX7_putFence_45 (v := (6 : Int32)) (by decide) ?_
        refine vr_imul dX7_putFence_47 ?_
        obtain ⟨zy_4, zh⟩ := zh
        obtain ⟨zy_5, zh⟩ := zh
        obtain ⟨zy_6, zh⟩ := zh
        obtain ⟨zy_7, zh⟩ := zh
        obtain ⟨zy_8, zh⟩ := zh
        refine vr_copyI dX7_putFence_48 ay_LitmusTester_Program_38 (wS_pg3 zw zha) (wS_pg3 zw zha) zy_4 zy_5 zy_6 zy_7 zy_8 (Nat.le_of_ble_eq_true rfl) (Nat.le_of_ble_eq_true rfl) ?_
        refine vv_so (σ2 := (pt_W σ (a + 3) (va_cpy (st_I σ (a + 3)) (st_I σ (a + 3)) (l1 * (6 : Int32)).toNatClampNeg ((l1 * (6 : Int32)) + (6 : Int32)).toNatClampNeg (((st_I σ a 6) - l1) * (6 : Int32)).toNatClampNeg))) rfl ?_
        refine vr_aload_n dX7_putFence_51 rfl rfl ?_
        refine vr_dup dX7_putFence_52 rfl ?_
        refine vr_getI dX7_putFence_53 fl_LitmusTester_Program_32 (wC_pg zw zha) rfl ?_
        refine vr_iconst dX7_putFence_56 (v := (1 : Int32)) (by decide) ?_
        refine vr_iadd dX7_putFence_57 ?_
        refine vr_putI dX7_putFence_58 fl_LitmusTester_Program_32 (wC_pg zw zha) rfl (fz_7_6) ?_
        refine vr_aload_n dX7_putFence_61 rfl rfl ?_
        refine vr_iload_n dX7_putFence_62 rfl rfl ?_
        refine vr_iconst dX7_putFence_63 (v := (0 : Int32)) (by decide) ?_
        refine vr_iload_n dX7_putFence_64 rfl rfl ?_
        obtain ⟨s9, zw1, zf_10, zh⟩ := zh
        refine vc_V (As := [.int l1, .int (0 : Int32), .int l2]) (rest := []) dX7_putFence_65 cV_LitmusTester_Program_44 (wC_pg zw zha) rfl rfl (Nat.le_of_ble_eq_true rfl) (Nat.le_of_ble_eq_true rfl) (co_v zf_10 ?_)
        replace zw := zw1
        refine vr_aload_n dX7_putFence_68 rfl rfl ?_
        refine vr_iload_n dX7_putFence_69 rfl rfl ?_
        refine vr_iconst dX7_putFence_70 (v := (1 : Int32)) (by decide) ?_
        refine vr_iconst dX7_putFence_71 (v := (3 : Int32)) (by decide) ?_
        obtain ⟨s11, zw1, zf_12, zh⟩ := zh
        refine vc_V (As := [.int l1, .int (1 : Int32), .int (3 : Int32)]) (rest := []) dX7_putFence_72 cV_LitmusTester_Program_44 (wC_pg zw zha) rfl rfl (Nat.le_of_ble_eq_true rfl) (Nat.le_of_ble_eq_true rfl) (co_v zf_12 ?_)
        replace zw := zw1
        refine vr_aload_n dX7_putFence_75 rfl rfl ?_
        refine vr_iload_n dX7_putFence_76 rfl rfl ?_
        refine vr_iconst dX7_putFence_77 (v := (2 : Int32)) (by decide) ?_
        refine vr_iconst dX7_putFence_78 (v := (-1 : Int32)) (by decide) ?_
        obtain ⟨s13, zw1, zf_14, zh⟩ := zh
        refine vc_V (As := [.int l1, .int (2 : Int32), .int (-1 : Int32)]) (rest := []) dX7_putFence_79 cV_LitmusTester_Program_44 (wC_pg zw zha) rfl rfl (Nat.le_of_ble_eq_true rfl) (Nat.le_of_ble_eq_true rfl) (co_v zf_14 ?_)
        replace zw := zw1
        refine vr_aload_n dX7_putFence_82 rfl rfl ?_
        refine vr_iload_n dX7_putFence_83 rfl rfl ?_
        refine vr_iconst dX7_putFence_84 (v := (3 : Int32)) (by decide) ?_
        refine vr_iconst dX7_putFence_85 (v := (-1 : Int32)) (by decide) ?_
        obtain ⟨s15, zw1, zf_16, zh⟩ := zh
        refine vc_V (As := [.int l1, .int (3 : Int32), .int (-1 : Int32)]) (rest := []) dX7_putFence_86 cV_LitmusTester_Program_44 (wC_pg zw zha) rfl rfl (Nat.le_of_ble_eq_true rfl) (Nat.le_of_ble_eq_true rfl) (co_v zf_16 ?_)
        replace zw := zw1
        refine vr_aload_n dX7_putFence_89 rfl rfl ?_
        refine vr_iload_n dX7_putFence_90 rfl rfl ?_
        refine vr_iconst dX7_putFence_91 (v := (4 : Int32)) (by decide) ?_
        refine vr_iconst dX7_putFence_92 (v := (-1 : Int32)) (by decide) ?_
        obtain ⟨s17, zw1, zf_18, zh⟩ := zh
        refine vc_V (As := [.int l1, .int (4 : Int32), .int (-1 : Int32)]) (rest := []) dX7_putFence_93 cV_LitmusTester_Program_44 (wC_pg zw zha) rfl rfl (Nat.le_of_ble_eq_true rfl) (Nat.le_of_ble_eq_true rfl) (co_v zf_18 ?_)
        replace zw := zw1
        refine vr_aload_n dX7_putFence_96 rfl rfl ?_
        refine vr_iload_n dX7_putFence_97 rfl rfl ?_
        refine vr_iconst dX7_putFence_98 (v := (5 : Int32)) (by decide) ?_
        refine vr_iconst dX7_putFence_99 (v := (-1 : Int32)) (by decide) ?_
        obtain ⟨s19, zw1, zf_20, zh⟩ := zh
        refine vc_V (As := [.int l1, .int (5 : Int32), .int (-1 : Int32)]) (rest := []) dX7_putFence_100 cV_LitmusTester_Program_44 (wC_pg zw zha) rfl rfl (Nat.le_of_ble_eq_true rfl) (Nat.le_of_ble_eq_true rfl) (co_v zf_20 ?_)
        replace zw := zw1
        exact vr_vret dX7_putFence_103 rfl zh
theorem e_X7_putFence {γ : ga_T} {a : Nat} {l1 : Int32} {l2 : Int32} {σ : st_T} {Q : rs_T → st_T → Prop} (zha : is_pg a) (zw : Wd σ) (zh : p_X7_putFence_0 γ a l1 l2 σ Q) : sp_ γ m_X7_putFence 1 [.ref a, .int l1, .int l2] σ Q := sp_of (pl_X7_putFence) rfl (Nat.le_of_ble_eq_true rfl) (g_X7_putFence_0 zha zw zh)
def p_X7_dropInstruction_0 (γ : ga_T) (a : Nat) (l1 : Int32) (σ : st_T) (Q : rs_T → st_T → Prop) : Prop :=
  (l1 < (0 : Int32) →
    Q (.inl none) σ
  ) ∧ (¬ l1 < (0 : Int32) →
    ((st_I σ a 6) ≤ l1 →
      Q (.inl none) σ
    ) ∧ (¬ (st_I σ a 6) ≤ l1 →
      ((10 : Int32) < (st_I σ a 6) →
        Q (.inl none) σ
      ) ∧ (¬ (10 : Int32) < (st_I σ a 6) →
        ¬ ((l1 * (6 : Int32)) + (6 : Int32)) < 0 ∧
        ¬ (l1 * (6 : Int32)) < 0 ∧
        ¬ ((((st_I σ a 6) - l1) - (1 : Int32)) * (6 : Int32)) < 0 ∧
        ((l1 * (6 : Int32)) + (6 : Int32)).toNatClampNeg + ((((st_I σ a 6) - l1) - (1 : Int32)) * (6 : Int32)).toNatClampNeg ≤ 60 ∧
        (l1 * (6 : Int32)).toNatClampNeg + ((((st_I σ a 6) - l1) - (1 : Int32)) * (6 : Int32)).toNatClampNeg ≤ 60 ∧
        Q (.inl none) (pt_I (pt_W σ (a + 3) (va_cpy (st_I σ (a + 3)) (st_I σ (a + 3)) ((l1 * (6 : Int32)) + (6 : Int32)).toNatClampNeg (l1 * (6 : Int32)).toNatClampNeg ((((st_I σ a 6) - l1) - (1 : Int32)) * (6 : Int32)).toNatClampNeg)) a 6 ((st_I (pt_W σ (a + 3) (va_cpy (st_I σ (a + 3)) (st_I σ (a + 3)) ((l1 * (6 : Int32)) + (6 : Int32)).toNatClampNeg (l1 * (6 : Int32)).toNatClampNeg ((((st_I σ a 6) - l1) - (1 : Int32)) * (6 : Int32)).toNatClampNeg)) a 6) - (1 : Int32)))
      )
    )
  )
set_option maxRecDepth 10000 in
theorem g_X7_dropInstruction_0 {γ : ga_T} {a : Nat} {l1 : Int32} {σ : st_T} {Q : rs_T → st_T → Prop} (zha : is_pg a) (zw : Wd σ) (zh : p_X7_dropInstruction_0 γ a l1 σ Q) : vv_ γ m_X7_dropInstruction 1 0 [(0, .ref a), (1, .int l1)] [] σ Q := by
  unfold p_X7_dropInstruction_0 at zh
  refine vr_iload_n dX7_dropInstruction_0 rfl rfl ?_
  refine vr_if_lt dX7_dropInstruction_1 (tgt := 63) rfl (fun zd_1 => ?_) (fun zd_1 => ?_)
  · replace zh := zh.1 zd_1
    exact vr_vret dX7_dropInstruction_63 rfl zh
  · replace zh := zh.2 zd_1
    refine vr_iload_n dX7_dropInstruction_4 rfl rfl ?_
    refine vr_aload_n dX7_dropInstruction_5 rfl rfl ?_
    refine vr_getI dX7_dropInstruction_6 fl_LitmusTester_Program_32 (wC_pg zw zha) rfl ?_
    refine vr_ic_ge dX7_dropInstruction_9 (tgt := 63) rfl (fun zd_2 => ?_) (fun zd_2 => ?_)
    · replace zh := zh.1 zd_2
      exact vr_vret dX7_dropInstruction_63 rfl zh
    · replace zh := zh.2 zd_2
      refine vr_aload_n dX7_dropInstruction_12 rfl rfl ?_
      refine vr_getI dX7_dropInstruction_13 fl_LitmusTester_Program_32 (wC_pg zw zha) rfl ?_
      refine vr_bipush dX7_dropInstruction_16 (v := (10 : Int32)) (by decide) ?_
      refine vr_ic_gt dX7_dropInstruction_18 (tgt := 63) rfl (fun zd_3 => ?_) (fun zd_3 => ?_)
      · replace zh := zh.1 zd_3
        exact vr_vret dX7_dropInstruction_63 rfl zh
      · replace zh := zh.2 zd_3
        refine vr_iload_n dX7_dropInstruction_21 rfl rfl ?_
        refine vr_bipush dX7_dropInstruction_22 (v := (6 : Int32)) (by decide) ?_
        refine vr_imul dX7_dropInstruction_24 ?_
        refine vr_istore_n dX7_dropInstruction_25 rfl (Nat.le_of_ble_eq_true rfl) (vv_eq (ls' := [(0, .ref a), (1, .int l1), (2, .int (l1 * (6 : Int32)))]) rfl ?_)
        refine vr_aload_n dX7_dropInstruction_26 rfl rfl ?_
        refine vr_getR dX7_dropInstruction_27 fl_LitmusTester_Program_19 (wC_pg zw zha) (Or.inr ⟨_, rfl⟩) (wR_pg_2 zw zha) ?_
        refine vr_iload_n dX7_dropInstruction_30 rfl rfl ?_
        refine vr_bipush dX7_dropInstruction_31 (v := (6 : Int32)) (by decide) ?_
        refine vr_iadd dX7_dropInstruction_33 ?_
        refine vr_aload_n dX7_dropInstruction_34 rfl rfl ?_
        refine vr_getR dX7_dropInstruction_35 fl_LitmusTester_Program_19 (wC_pg zw zha) (Or.inr ⟨_, rfl⟩) (wR_pg_2 zw zha) ?_
        refine vr_iload_n dX7_dropInstruction_38 rfl rfl ?_
        refine vr_aload_n dX7_dropInstruction_39 rfl rfl ?_
        refine vr_getI dX7_dropInstruction_40 fl_LitmusTester_Program_32 (wC_pg zw zha) rfl ?_
        refine vr_iload_n dX7_dropInstruction_43 rfl rfl ?_
        refine vr_isub dX7_dropInstruction_44 ?_
        refine vr_iconst dX7_dropInstruction_45 (v := (1 : Int32)) (by decide) ?_
        refine vr_isub dX7_dropInstruction_46 ?_
        refine vr_bipush dX7_dropInstruction_47 (v := (6 : Int32)) (by decide) ?_
        refine vr_imul dX7_dropInstruction_49 ?_
        obtain ⟨zy_4, zh⟩ := zh
        obtain ⟨zy_5, zh⟩ := zh
        obtain ⟨zy_6, zh⟩ := zh
        obtain ⟨zy_7, zh⟩ := zh
        obtain ⟨zy_8, zh⟩ := zh
        refine vr_copyI dX7_dropInstruction_50 ay_LitmusTester_Program_38 (wS_pg3 zw zha) (wS_pg3 zw zha) zy_4 zy_5 zy_6 zy_7 zy_8 (Nat.le_of_ble_eq_true rfl) (Nat.le_of_ble_eq_true rfl) ?_
        refine vv_so (σ2 := (pt_W σ (a + 3) (va_cpy (st_I σ (a + 3)) (st_I σ (a + 3)) ((l1 * (6 : Int32)) + (6 : Int32)).toNatClampNeg (l1 * (6 : Int32)).toNatClampNeg ((((st_I σ a 6) - l1) - (1 : Int32)) * (6 : Int32)).toNatClampNeg))) rfl ?_
        refine vr_aload_n dX7_dropInstruction_53 rfl rfl ?_
        refine vr_dup dX7_dropInstruction_54 rfl ?_
        refine vr_getI dX7_dropInstruction_55 fl_LitmusTester_Program_32 (wC_pg zw zha) rfl ?_
        refine vr_iconst dX7_dropInstruction_58 (v := (1 : Int32)) (by decide) ?_
        refine vr_isub dX7_dropInstruction_59 ?_
        refine vr_putI dX7_dropInstruction_60 fl_LitmusTester_Program_32 (wC_pg zw zha) rfl (fz_7_6) ?_
        exact vr_vret dX7_dropInstruction_63 rfl zh
theorem e_X7_dropInstruction {γ : ga_T} {a : Nat} {l1 : Int32} {σ : st_T} {Q : rs_T → st_T → Prop} (zha : is_pg a) (zw : Wd σ) (zh : p_X7_dropInstruction_0 γ a l1 σ Q) : sp_ γ m_X7_dropInstruction 1 [.ref a, .int l1] σ Q := sp_of (pl_X7_dropInstruction) rfl (Nat.le_of_ble_eq_true rfl) (g_X7_dropInstruction_0 zha zw zh)
def p_X7_sizeOf_0 (γ : ga_T) (a : Nat) (l1 : Int32) (σ : st_T) (Q : rs_T → st_T → Prop) : Prop :=
  vv_ γ m_X7_sizeOf 1 4 [(0, .ref a), (1, .int l1), (2, .int (0 : Int32)), (3, .int (0 : Int32))] [] σ Q
set_option maxRecDepth 10000 in
theorem g_X7_sizeOf_0 {γ : ga_T} {a : Nat} {l1 : Int32} {σ : st_T} {Q : rs_T → st_T → Prop} (zha : is_pg a) (zw : Wd σ) (zh : p_X7_sizeOf_0 γ a l1 σ Q) : vv_ γ m_X7_sizeOf 1 0 [(0, .ref a), (1, .int l1)] [] σ Q := by
  unfold p_X7_sizeOf_0 at zh
  refine vr_iconst dX7_sizeOf_0 (v := (0 : Int32)) (by decide) ?_
  refine vr_istore_n dX7_sizeOf_1 rfl (Nat.le_of_ble_eq_true rfl) (vv_eq (ls' := [(0, .ref a), (1, .int l1), (2, .int (0 : Int32))]) rfl ?_)
  refine vr_iconst dX7_sizeOf_2 (v := (0 : Int32)) (by decide) ?_
  refine vr_istore_n dX7_sizeOf_3 rfl (Nat.le_of_ble_eq_true rfl) (vv_eq (ls' := [(0, .ref a), (1, .int l1), (2, .int (0 : Int32)), (3, .int (0 : Int32))]) rfl ?_)
  exact vv_sub (ls' := [(0, .ref a), (1, .int l1), (2, .int (0 : Int32)), (3, .int (0 : Int32))]) ⟨rfl, rfl, rfl, rfl, trivial⟩ zh
theorem e_X7_sizeOf {γ : ga_T} {a : Nat} {l1 : Int32} {σ : st_T} {Q : rs_T → st_T → Prop} (zha : is_pg a) (zw : Wd σ) (zh : p_X7_sizeOf_0 γ a l1 σ Q) : sp_ γ m_X7_sizeOf 1 [.ref a, .int l1] σ Q := sp_of (pl_X7_sizeOf) rfl (Nat.le_of_ble_eq_true rfl) (g_X7_sizeOf_0 zha zw zh)
def p_X7_sizeOf_4 (γ : ga_T) (a : Nat) (l1 : Int32) (l2 : Int32) (l3 : Int32) (σ : st_T) (Q : rs_T → st_T → Prop) : Prop :=
  ((st_I σ a 6) ≤ l3 →
    Q (.inl (some (.int l2))) σ
  ) ∧ (¬ (st_I σ a 6) ≤ l3 →
    ∃ (v4 : Int32) (s2 : st_T), Wd s2 ∧ fn_ γ m_X7_property 0 [.ref a, .int l3, .int (0 : Int32)] σ (.int v4) s2 ∧
    (v4 = l1 →
      vv_ γ m_X7_sizeOf 1 4 [(0, .ref a), (1, .int l1), (2, .int (l2 + 1)), (3, .int (l3 + 1))] [] s2 Q
    ) ∧ (¬ v4 = l1 →
      vv_ γ m_X7_sizeOf 1 4 [(0, .ref a), (1, .int l1), (2, .int l2), (3, .int (l3 + 1))] [] s2 Q
    )
  )
set_option maxRecDepth 10000 in
theorem g_X7_sizeOf_4 {γ : ga_T} {a : Nat} {l1 : Int32} {l2 : Int32} {l3 : Int32} {σ : st_T} {Q : rs_T → st_T → Prop} (zha : is_pg a) (zw : Wd σ) (zh : p_X7_sizeOf_4 γ a l1 l2 l3 σ Q) : vv_ γ m_X7_sizeOf 1 4 [(0, .ref a), (1, .int l1), (2, .int l2), (3, .int l3)] [] σ Q := by
  unfold p_X7_sizeOf_4 at zh
  refine vr_iload_n dX7_sizeOf_4 rfl rfl ?_
  refine vr_aload_n dX7_sizeOf_5 rfl rfl ?_
  refine vr_getI dX7_sizeOf_6 fl_LitmusTester_Program_32 (wC_pg zw zha) rfl ?_
  refine vr_ic_ge dX7_sizeOf_9 (tgt := 31) rfl (fun zd_1 => ?_) (fun zd_1 => ?_)
  · replace zh := zh.1 zd_1
    refine vr_iload_n dX7_sizeOf_31 rfl rfl ?_
    exact vr_iret dX7_sizeOf_32 rfl zh
  · replace zh := zh.2 zd_1
    refine vr_aload_n dX7_sizeOf_12 rfl rfl ?_
    refine vr_iload_n dX7_sizeOf_13 rfl rfl ?_
    refine vr_iconst dX7_sizeOf_14 (v := (0 : Int32)) (by decide) ?_
    obtain ⟨v4, s2, zw1, zf_3, zh⟩ := zh
    refine vc_V (As := [.int l3, .int (0 : Int32)]) (rest := []) dX7_sizeOf_15 cV_LitmusTester_Program_48 (wC_pg zw zha) rfl rfl (Nat.le_of_ble_eq_true rfl) (Nat.le_of_ble_eq_true rfl) (co_n zf_3 ?_)
    replace zw := zw1
    refine vr_iload_n dX7_sizeOf_18 rfl rfl ?_
    refine vr_ic_ne dX7_sizeOf_19 (tgt := 25) rfl (fun zd_5 => ?_) (fun zd_5 => ?_)
    · replace zh := zh.2 zd_5
      refine vr_iinc dX7_sizeOf_25 (x := l3) (v := (l3 + 1)) rfl (ii_ (by decide)) (Nat.le_of_ble_eq_true rfl) (vv_eq (ls' := [(0, .ref a), (1, .int l1), (2, .int l2), (3, .int (l3 + 1))]) rfl ?_)
      refine vr_goto dX7_sizeOf_28 (tgt := 4) rfl ?_
      exact vv_sub (ls' := [(0, .ref a), (1, .int l1), (2, .int l2), (3, .int (l3 + 1))]) ⟨rfl, rfl, rfl, rfl, trivial⟩ zh
    · replace zh := zh.1 zd_5
      refine vr_iinc dX7_sizeOf_22 (x := l2) (v := (l2 + 1)) rfl (ii_ (by decide)) (Nat.le_of_ble_eq_true rfl) (vv_eq (ls' := [(0, .ref a), (1, .int l1), (2, .int (l2 + 1)), (3, .int l3)]) rfl ?_)
      refine vr_iinc dX7_sizeOf_25 (x := l3) (v := (l3 + 1)) rfl (ii_ (by decide)) (Nat.le_of_ble_eq_true rfl) (vv_eq (ls' := [(0, .ref a), (1, .int l1), (2, .int (l2 + 1)), (3, .int (l3 + 1))]) rfl ?_)
      refine vr_goto dX7_sizeOf_28 (tgt := 4) rfl ?_
      exact vv_sub (ls' := [(0, .ref a), (1, .int l1), (2, .int (l2 + 1)), (3, .int (l3 + 1))]) ⟨rfl, rfl, rfl, rfl, trivial⟩ zh
def p_X7_accessesOf_0 (γ : ga_T) (a : Nat) (l1 : Int32) (σ : st_T) (Q : rs_T → st_T → Prop) : Prop :=
  vv_ γ m_X7_accessesOf 1 4 [(0, .ref a), (1, .int l1), (2, .int (0 : Int32)), (3, .int (0 : Int32))] [] σ Q
set_option maxRecDepth 10000 in
theorem g_X7_accessesOf_0 {γ : ga_T} {a : Nat} {l1 : Int32} {σ : st_T} {Q : rs_T → st_T → Prop} (zha : is_pg a) (zw : Wd σ) (zh : p_X7_accessesOf_0 γ a l1 σ Q) : vv_ γ m_X7_accessesOf 1 0 [(0, .ref a), (1, .int l1)] [] σ Q := by
  unfold p_X7_accessesOf_0 at zh
  refine vr_iconst dX7_accessesOf_0 (v := (0 : Int32)) (by decide) ?_
  refine vr_istore_n dX7_accessesOf_1 rfl (Nat.le_of_ble_eq_true rfl) (vv_eq (ls' := [(0, .ref a), (1, .int l1), (2, .int (0 : Int32))]) rfl ?_)
  refine vr_iconst dX7_accessesOf_2 (v := (0 : Int32)) (by decide) ?_
  refine vr_istore_n dX7_accessesOf_3 rfl (Nat.le_of_ble_eq_true rfl) (vv_eq (ls' := [(0, .ref a), (1, .int l1), (2, .int (0 : Int32)), (3, .int (0 : Int32))]) rfl ?_)
  exact vv_sub (ls' := [(0, .ref a), (1, .int l1), (2, .int (0 : Int32)), (3, .int (0 : Int32))]) ⟨rfl, rfl, rfl, rfl, trivial⟩ zh
theorem e_X7_accessesOf {γ : ga_T} {a : Nat} {l1 : Int32} {σ : st_T} {Q : rs_T → st_T → Prop} (zha : is_pg a) (zw : Wd σ) (zh : p_X7_accessesOf_0 γ a l1 σ Q) : sp_ γ m_X7_accessesOf 1 [.ref a, .int l1] σ Q := sp_of (pl_X7_accessesOf) rfl (Nat.le_of_ble_eq_true rfl) (g_X7_accessesOf_0 zha zw zh)
def p_X7_accessesOf_4 (γ : ga_T) (a : Nat) (l1 : Int32) (l2 : Int32) (l3 : Int32) (σ : st_T) (Q : rs_T → st_T → Prop) : Prop :=
  ((st_I σ a 6) ≤ l3 →
    Q (.inl (some (.int l2))) σ
  ) ∧ (¬ (st_I σ a 6) ≤ l3 →
    ∃ (v4 : Int32) (s2 : st_T), Wd s2 ∧ fn_ γ m_X7_property 0 [.ref a, .int l3, .int (0 : Int32)] σ (.int v4) s2 ∧
    (v4 = l1 →
      ∃ (v8 : Int32) (s6 : st_T), Wd s6 ∧ fn_ γ m_X7_property 0 [.ref a, .int l3, .int (1 : Int32)] s2 (.int v8) s6 ∧
      (v8 = (3 : Int32) →
        vv_ γ m_X7_accessesOf 1 4 [(0, .ref a), (1, .int l1), (2, .int l2), (3, .int (l3 + 1))] [] s6 Q
      ) ∧ (¬ v8 = (3 : Int32) →
        vv_ γ m_X7_accessesOf 1 4 [(0, .ref a), (1, .int l1), (2, .int (l2 + 1)), (3, .int (l3 + 1))] [] s6 Q
      )
    ) ∧ (¬ v4 = l1 →
      vv_ γ m_X7_accessesOf 1 4 [(0, .ref a), (1, .int l1), (2, .int l2), (3, .int (l3 + 1))] [] s2 Q
    )
  )
set_option maxRecDepth 10000 in
theorem g_X7_accessesOf_4 {γ : ga_T} {a : Nat} {l1 : Int32} {l2 : Int32} {l3 : Int32} {σ : st_T} {Q : rs_T → st_T → Prop} (zha : is_pg a) (zw : Wd σ) (zh : p_X7_accessesOf_4 γ a l1 l2 l3 σ Q) : vv_ γ m_X7_accessesOf 1 4 [(0, .ref a), (1, .int l1), (2, .int l2), (3, .int l3)] [] σ Q := by
  unfold p_X7_accessesOf_4 at zh
  refine vr_iload_n dX7_accessesOf_4 rfl rfl ?_
  refine vr_aload_n dX7_accessesOf_5 rfl rfl ?_
  refine vr_getI dX7_accessesOf_6 fl_LitmusTester_Program_32 (wC_pg zw zha) rfl ?_
  refine vr_ic_ge dX7_accessesOf_9 (tgt := 41) rfl (fun zd_1 => ?_) (fun zd_1 => ?_)
  · replace zh := zh.1 zd_1
    refine vr_iload_n dX7_accessesOf_41 rfl rfl ?_
    exact vr_iret dX7_accessesOf_42 rfl zh
  · replace zh := zh.2 zd_1
    refine vr_aload_n dX7_accessesOf_12 rfl rfl ?_
    refine vr_iload_n dX7_accessesOf_13 rfl rfl ?_
    refine vr_iconst dX7_accessesOf_14 (v := (0 : Int32)) (by decide) ?_
    obtain ⟨v4, s2, zw1, zf_3, zh⟩ := zh
    refine vc_V (As := [.int l3, .int (0 : Int32)]) (rest := []) dX7_accessesOf_15 cV_LitmusTester_Program_48 (wC_pg zw zha) rfl rfl (Nat.le_of_ble_eq_true rfl) (Nat.le_of_ble_eq_true rfl) (co_n zf_3 ?_)
    replace zw := zw1
    refine vr_iload_n dX7_accessesOf_18 rfl rfl ?_
    refine vr_ic_ne dX7_accessesOf_19 (tgt := 35) rfl (fun zd_5 => ?_) (fun zd_5 => ?_)
    · replace zh := zh.2 zd_5
      refine vr_iinc dX7_accessesOf_35 (x := l3) (v := (l3 + 1)) rfl (ii_ (by decide)) (Nat.le_of_ble_eq_true rfl) (vv_eq (ls' := [(0, .ref a), (1, .int l1), (2, .int l2), (3, .int (l3 + 1))]) rfl ?_)
      refine vr_goto dX7_accessesOf_38 (tgt := 4) rfl ?_
      exact vv_sub (ls' := [(0, .ref a), (1, .int l1), (2, .int l2), (3, .int (l3 + 1))]) ⟨rfl, rfl, rfl, rfl, trivial⟩ zh
    · replace zh := zh.1 zd_5
      refine vr_aload_n dX7_accessesOf_22 rfl rfl ?_
      refine vr_iload_n dX7_accessesOf_23 rfl rfl ?_
      refine vr_iconst dX7_accessesOf_24 (v := (1 : Int32)) (by decide) ?_
      obtain ⟨v8, s6, zw1, zf_7, zh⟩ := zh
      refine vc_V (As := [.int l3, .int (1 : Int32)]) (rest := []) dX7_accessesOf_25 cV_LitmusTester_Program_48 (wC_pg zw zha) rfl rfl (Nat.le_of_ble_eq_true rfl) (Nat.le_of_ble_eq_true rfl) (co_n zf_7 ?_)
      replace zw := zw1
      refine vr_iconst dX7_accessesOf_28 (v := (3 : Int32)) (by decide) ?_
      refine vr_ic_eq dX7_accessesOf_29 (tgt := 35) rfl (fun zd_9 => ?_) (fun zd_9 => ?_)
      · replace zh := zh.1 zd_9
        refine vr_iinc dX7_accessesOf_35 (x := l3) (v := (l3 + 1)) rfl (ii_ (by decide)) (Nat.le_of_ble_eq_true rfl) (vv_eq (ls' := [(0, .ref a), (1, .int l1), (2, .int l2), (3, .int (l3 + 1))]) rfl ?_)
        refine vr_goto dX7_accessesOf_38 (tgt := 4) rfl ?_
        exact vv_sub (ls' := [(0, .ref a), (1, .int l1), (2, .int l2), (3, .int (l3 + 1))]) ⟨rfl, rfl, rfl, rfl, trivial⟩ zh
      · replace zh := zh.2 zd_9
        refine vr_iinc dX7_accessesOf_32 (x := l2) (v := (l2 + 1)) rfl (ii_ (by decide)) (Nat.le_of_ble_eq_true rfl) (vv_eq (ls' := [(0, .ref a), (1, .int l1), (2, .int (l2 + 1)), (3, .int l3)]) rfl ?_)
        refine vr_iinc dX7_accessesOf_35 (x := l3) (v := (l3 + 1)) rfl (ii_ (by decide)) (Nat.le_of_ble_eq_true rfl) (vv_eq (ls' := [(0, .ref a), (1, .int l1), (2, .int (l2 + 1)), (3, .int (l3 + 1))]) rfl ?_)
        refine vr_goto dX7_accessesOf_38 (tgt := 4) rfl ?_
        exact vv_sub (ls' := [(0, .ref a), (1, .int l1), (2, .int (l2 + 1)), (3, .int (l3 + 1))]) ⟨rfl, rfl, rfl, rfl, trivial⟩ zh
def p_X7_accesses_0 (γ : ga_T) (a : Nat) (σ : st_T) (Q : rs_T → st_T → Prop) : Prop :=
  vv_ γ m_X7_accesses 2 4 [(0, .ref a), (1, .int (0 : Int32)), (2, .int (0 : Int32))] [] σ Q
set_option maxRecDepth 10000 in
theorem g_X7_accesses_0 {γ : ga_T} {a : Nat} {σ : st_T} {Q : rs_T → st_T → Prop} (zha : is_pg a) (zw : Wd σ) (zh : p_X7_accesses_0 γ a σ Q) : vv_ γ m_X7_accesses 2 0 [(0, .ref a)] [] σ Q := by
  unfold p_X7_accesses_0 at zh
  refine vr_iconst dX7_accesses_0 (v := (0 : Int32)) (by decide) ?_
  refine vr_istore_n dX7_accesses_1 rfl (Nat.le_of_ble_eq_true rfl) (vv_eq (ls' := [(0, .ref a), (1, .int (0 : Int32))]) rfl ?_)
  refine vr_iconst dX7_accesses_2 (v := (0 : Int32)) (by decide) ?_
  refine vr_istore_n dX7_accesses_3 rfl (Nat.le_of_ble_eq_true rfl) (vv_eq (ls' := [(0, .ref a), (1, .int (0 : Int32)), (2, .int (0 : Int32))]) rfl ?_)
  exact vv_sub (ls' := [(0, .ref a), (1, .int (0 : Int32)), (2, .int (0 : Int32))]) ⟨rfl, rfl, rfl, trivial⟩ zh
theorem e_X7_accesses {γ : ga_T} {a : Nat} {σ : st_T} {Q : rs_T → st_T → Prop} (zha : is_pg a) (zw : Wd σ) (zh : p_X7_accesses_0 γ a σ Q) : sp_ γ m_X7_accesses 2 [.ref a] σ Q := sp_of (pl_X7_accesses) rfl (Nat.le_of_ble_eq_true rfl) (g_X7_accesses_0 zha zw zh)
def p_X7_accesses_4 (γ : ga_T) (a : Nat) (l1 : Int32) (l2 : Int32) (σ : st_T) (Q : rs_T → st_T → Prop) : Prop :=
  ((st_I σ a 5) ≤ l2 →
    Q (.inl (some (.int l1))) σ
  ) ∧ (¬ (st_I σ a 5) ≤ l2 →
    ∃ (v4 : Int32) (s2 : st_T), Wd s2 ∧ fn_ γ m_X7_accessesOf 1 [.ref a, .int l2] σ (.int v4) s2 ∧
    vv_ γ m_X7_accesses 2 4 [(0, .ref a), (1, .int (l1 + v4)), (2, .int (l2 + 1))] [] s2 Q
  )
set_option maxRecDepth 10000 in
theorem g_X7_accesses_4 {γ : ga_T} {a : Nat} {l1 : Int32} {l2 : Int32} {σ : st_T} {Q : rs_T → st_T → Prop} (zha : is_pg a) (zw : Wd σ) (zh : p_X7_accesses_4 γ a l1 l2 σ Q) : vv_ γ m_X7_accesses 2 4 [(0, .ref a), (1, .int l1), (2, .int l2)] [] σ Q := by
  unfold p_X7_accesses_4 at zh
  refine vr_iload_n dX7_accesses_4 rfl rfl ?_
  refine vr_aload_n dX7_accesses_5 rfl rfl ?_
  refine vr_getI dX7_accesses_6 fl_LitmusTester_Program_29 (wC_pg zw zha) rfl ?_
  refine vr_ic_ge dX7_accesses_9 (tgt := 26) rfl (fun zd_1 => ?_) (fun zd_1 => ?_)
  · replace zh := zh.1 zd_1
    refine vr_iload_n dX7_accesses_26 rfl rfl ?_
    exact vr_iret dX7_accesses_27 rfl zh
  · replace zh := zh.2 zd_1
    refine vr_iload_n dX7_accesses_12 rfl rfl ?_
    refine vr_aload_n dX7_accesses_13 rfl rfl ?_
    refine vr_iload_n dX7_accesses_14 rfl rfl ?_
    obtain ⟨v4, s2, zw1, zf_3, zh⟩ := zh
    refine vc_V (As := [.int l2]) (rest := [.int l1]) dX7_accesses_15 cV_LitmusTester_Program_52 (wC_pg zw zha) rfl rfl (Nat.le_of_ble_eq_true rfl) (Nat.le_of_ble_eq_true rfl) (co_n zf_3 ?_)
    replace zw := zw1
    refine vr_iadd dX7_accesses_18 ?_
    refine vr_istore_n dX7_accesses_19 rfl (Nat.le_of_ble_eq_true rfl) (vv_eq (ls' := [(0, .ref a), (1, .int (l1 + v4)), (2, .int l2)]) rfl ?_)
    refine vr_iinc dX7_accesses_20 (x := l2) (v := (l2 + 1)) rfl (ii_ (by decide)) (Nat.le_of_ble_eq_true rfl) (vv_eq (ls' := [(0, .ref a), (1, .int (l1 + v4)), (2, .int (l2 + 1))]) rfl ?_)
    refine vr_goto dX7_accesses_23 (tgt := 4) rfl ?_
    exact vv_sub (ls' := [(0, .ref a), (1, .int (l1 + v4)), (2, .int (l2 + 1))]) ⟨rfl, rfl, rfl, trivial⟩ zh
def p_X7_isTarget_0 (γ : ga_T) (a : Nat) (l1 : Int32) (l2 : Int32) (σ : st_T) (Q : rs_T → st_T → Prop) : Prop :=
  vv_ γ m_X7_isTarget 1 2 [(0, .ref a), (1, .int l1), (2, .int l2), (3, .int (0 : Int32))] [] σ Q
set_option maxRecDepth 10000 in
theorem g_X7_isTarget_0 {γ : ga_T} {a : Nat} {l1 : Int32} {l2 : Int32} {σ : st_T} {Q : rs_T → st_T → Prop} (zha : is_pg a) (zw : Wd σ) (zh : p_X7_isTarget_0 γ a l1 l2 σ Q) : vv_ γ m_X7_isTarget 1 0 [(0, .ref a), (1, .int l1), (2, .int l2)] [] σ Q := by
  unfold p_X7_isTarget_0 at zh
  refine vr_iconst dX7_isTarget_0 (v := (0 : Int32)) (by decide) ?_
  refine vr_istore_n dX7_isTarget_1 rfl (Nat.le_of_ble_eq_true rfl) (vv_eq (ls' := [(0, .ref a), (1, .int l1), (2, .int l2), (3, .int (0 : Int32))]) rfl ?_)
  exact vv_sub (ls' := [(0, .ref a), (1, .int l1), (2, .int l2), (3, .int (0 : Int32))]) ⟨rfl, rfl, rfl, rfl, trivial⟩ zh
theorem e_X7_isTarget {γ : ga_T} {a : Nat} {l1 : Int32} {l2 : Int32} {σ : st_T} {Q : rs_T → st_T → Prop} (zha : is_pg a) (zw : Wd σ) (zh : p_X7_isTarget_0 γ a l1 l2 σ Q) : sp_ γ m_X7_isTarget 1 [.ref a, .int l1, .int l2] σ Q := sp_of (pl_X7_isTarget) rfl (Nat.le_of_ble_eq_true rfl) (g_X7_isTarget_0 zha zw zh)
def p_X7_isTarget_2 (γ : ga_T) (a : Nat) (l1 : Int32) (l2 : Int32) (l3 : Int32) (σ : st_T) (Q : rs_T → st_T → Prop) : Prop :=
  ((st_I σ a 6) ≤ l3 →
    Q (.inl (some (.int (0 : Int32)))) σ
  ) ∧ (¬ (st_I σ a 6) ≤ l3 →
    ∃ (v4 : Int32) (s2 : st_T), Wd s2 ∧ fn_ γ m_X7_property 0 [.ref a, .int l3, .int (0 : Int32)] σ (.int v4) s2 ∧
    (v4 = l1 →
      ∃ (v8 : Int32) (s6 : st_T), Wd s6 ∧ fn_ γ m_X7_property 0 [.ref a, .int l3, .int (3 : Int32)] s2 (.int v8) s6 ∧
      (v8 = l2 →
        Q (.inl (some (.int (1 : Int32)))) s6
      ) ∧ (¬ v8 = l2 →
        vv_ γ m_X7_isTarget 1 2 [(0, .ref a), (1, .int l1), (2, .int l2), (3, .int (l3 + 1))] [] s6 Q
      )
    ) ∧ (¬ v4 = l1 →
      vv_ γ m_X7_isTarget 1 2 [(0, .ref a), (1, .int l1), (2, .int l2), (3, .int (l3 + 1))] [] s2 Q
    )
  )
set_option maxRecDepth 10000 in
theorem g_X7_isTarget_2 {γ : ga_T} {a : Nat} {l1 : Int32} {l2 : Int32} {l3 : Int32} {σ : st_T} {Q : rs_T → st_T → Prop} (zha : is_pg a) (zw : Wd σ) (zh : p_X7_isTarget_2 γ a l1 l2 l3 σ Q) : vv_ γ m_X7_isTarget 1 2 [(0, .ref a), (1, .int l1), (2, .int l2), (3, .int l3)] [] σ Q := by
  unfold p_X7_isTarget_2 at zh
  refine vr_iload_n dX7_isTarget_2 rfl rfl ?_
  refine vr_aload_n dX7_isTarget_3 rfl rfl ?_
  refine vr_getI dX7_isTarget_4 fl_LitmusTester_Program_32 (wC_pg zw zha) rfl ?_
  refine vr_ic_ge dX7_isTarget_7 (tgt := 38) rfl (fun zd_1 => ?_) (fun zd_1 => ?_)
  · replace zh := zh.1 zd_1
    refine vr_iconst dX7_isTarget_38 (v := (0 : Int32)) (by decide) ?_
    exact vr_zret dX7_isTarget_39 rfl (Or.inl rfl) zh
  · replace zh := zh.2 zd_1
    refine vr_aload_n dX7_isTarget_10 rfl rfl ?_
    refine vr_iload_n dX7_isTarget_11 rfl rfl ?_
    refine vr_iconst dX7_isTarget_12 (v := (0 : Int32)) (by decide) ?_
    obtain ⟨v4, s2, zw1, zf_3, zh⟩ := zh
    refine vc_V (As := [.int l3, .int (0 : Int32)]) (rest := []) dX7_isTarget_13 cV_LitmusTester_Program_48 (wC_pg zw zha) rfl rfl (Nat.le_of_ble_eq_true rfl) (Nat.le_of_ble_eq_true rfl) (co_n zf_3 ?_)
    replace zw := zw1
    refine vr_iload_n dX7_isTarget_16 rfl rfl ?_
    refine vr_ic_ne dX7_isTarget_17 (tgt := 32) rfl (fun zd_5 => ?_) (fun zd_5 => ?_)
    · replace zh := zh.2 zd_5
      refine vr_iinc dX7_isTarget_32 (x := l3) (v := (l3 + 1)) rfl (ii_ (by decide)) (Nat.le_of_ble_eq_true rfl) (vv_eq (ls' := [(0, .ref a), (1, .int l1), (2, .int l2), (3, .int (l3 + 1))]) rfl ?_)
      refine vr_goto dX7_isTarget_35 (tgt := 2) rfl ?_
      exact vv_sub (ls' := [(0, .ref a), (1, .int l1), (2, .int l2), (3, .int (l3 + 1))]) ⟨rfl, rfl, rfl, rfl, trivial⟩ zh
    · replace zh := zh.1 zd_5
      refine vr_aload_n dX7_isTarget_20 rfl rfl ?_
      refine vr_iload_n dX7_isTarget_21 rfl rfl ?_
      refine vr_iconst dX7_isTarget_22 (v := (3 : Int32)) (by decide) ?_
      obtain ⟨v8, s6, zw1, zf_7, zh⟩ := zh
      refine vc_V (As := [.int l3, .int (3 : Int32)]) (rest := []) dX7_isTarget_23 cV_LitmusTester_Program_48 (wC_pg zw zha) rfl rfl (Nat.le_of_ble_eq_true rfl) (Nat.le_of_ble_eq_true rfl) (co_n zf_7 ?_)
      replace zw := zw1
      refine vr_iload_n dX7_isTarget_26 rfl rfl ?_
      refine vr_ic_ne dX7_isTarget_27 (tgt := 32) rfl (fun zd_9 => ?_) (fun zd_9 => ?_)
      · replace zh := zh.2 zd_9
        refine vr_iinc dX7_isTarget_32 (x := l3) (v := (l3 + 1)) rfl (ii_ (by decide)) (Nat.le_of_ble_eq_true rfl) (vv_eq (ls' := [(0, .ref a), (1, .int l1), (2, .int l2), (3, .int (l3 + 1))]) rfl ?_)
        refine vr_goto dX7_isTarget_35 (tgt := 2) rfl ?_
        exact vv_sub (ls' := [(0, .ref a), (1, .int l1), (2, .int l2), (3, .int (l3 + 1))]) ⟨rfl, rfl, rfl, rfl, trivial⟩ zh
      · replace zh := zh.1 zd_9
        refine vr_iconst dX7_isTarget_30 (v := (1 : Int32)) (by decide) ?_
        exact vr_zret dX7_isTarget_31 rfl (Or.inr rfl) zh
def p_X7_codeBits_0 (γ : ga_T) (a : Nat) (σ : st_T) (Q : rs_T → st_T → Prop) : Prop :=
  Q (.inl (some (.int ((2 : Int32) * (((2 : Int32) * (st_I σ a 5)) + (st_I σ a 4)))))) σ
set_option maxRecDepth 10000 in
theorem g_X7_codeBits_0 {γ : ga_T} {a : Nat} {σ : st_T} {Q : rs_T → st_T → Prop} (zha : is_pg a) (zw : Wd σ) (zh : p_X7_codeBits_0 γ a σ Q) : vv_ γ m_X7_codeBits 0 0 [(0, .ref a)] [] σ Q := by
  unfold p_X7_codeBits_0 at zh
  refine vr_iconst dX7_codeBits_0 (v := (2 : Int32)) (by decide) ?_
  refine vr_iconst dX7_codeBits_1 (v := (2 : Int32)) (by decide) ?_
  refine vr_aload_n dX7_codeBits_2 rfl rfl ?_
  refine vr_getI dX7_codeBits_3 fl_LitmusTester_Program_29 (wC_pg zw zha) rfl ?_
  refine vr_imul dX7_codeBits_6 ?_
  refine vr_aload_n dX7_codeBits_7 rfl rfl ?_
  refine vr_getI dX7_codeBits_8 fl_LitmusTester_Program_25 (wC_pg zw zha) rfl ?_
  refine vr_iadd dX7_codeBits_11 ?_
  refine vr_imul dX7_codeBits_12 ?_
  exact vr_iret dX7_codeBits_13 rfl zh
theorem e_X7_codeBits {γ : ga_T} {a : Nat} {σ : st_T} {Q : rs_T → st_T → Prop} (zha : is_pg a) (zw : Wd σ) (zh : p_X7_codeBits_0 γ a σ Q) : sp_ γ m_X7_codeBits 0 [.ref a] σ Q := sp_of (pl_X7_codeBits) rfl (Nat.le_of_ble_eq_true rfl) (g_X7_codeBits_0 zha zw zh)
def p_X7_registerShift_0 (γ : ga_T) (a : Nat) (l1 : Int32) (l2 : Int32) (σ : st_T) (Q : rs_T → st_T → Prop) : Prop :=
  ∃ (v3 : Int32) (s1 : st_T), Wd s1 ∧ fn_ γ m_X7_codeBits 0 [.ref a] σ (.int v3) s1 ∧
  Q (.inl (some (.int (v3 - ((2 : Int32) * ((((2 : Int32) * l1) + l2) + (1 : Int32))))))) s1
set_option maxRecDepth 10000 in
theorem g_X7_registerShift_0 {γ : ga_T} {a : Nat} {l1 : Int32} {l2 : Int32} {σ : st_T} {Q : rs_T → st_T → Prop} (zha : is_pg a) (zw : Wd σ) (zh : p_X7_registerShift_0 γ a l1 l2 σ Q) : vv_ γ m_X7_registerShift 1 0 [(0, .ref a), (1, .int l1), (2, .int l2)] [] σ Q := by
  unfold p_X7_registerShift_0 at zh
  refine vr_aload_n dX7_registerShift_0 rfl rfl ?_
  obtain ⟨v3, s1, zw1, zf_2, zh⟩ := zh
  refine vc_V (As := []) (rest := []) dX7_registerShift_1 cV_LitmusTester_Program_56 (wC_pg zw zha) rfl rfl (Nat.le_of_ble_eq_true rfl) (Nat.le_of_ble_eq_true rfl) (co_n zf_2 ?_)
  replace zw := zw1
  refine vr_iconst dX7_registerShift_4 (v := (2 : Int32)) (by decide) ?_
  refine vr_iconst dX7_registerShift_5 (v := (2 : Int32)) (by decide) ?_
  refine vr_iload_n dX7_registerShift_6 rfl rfl ?_
  refine vr_imul dX7_registerShift_7 ?_
  refine vr_iload_n dX7_registerShift_8 rfl rfl ?_
  refine vr_iadd dX7_registerShift_9 ?_
  refine vr_iconst dX7_registerShift_10 (v := (1 : Int32)) (by decide) ?_
  refine vr_iadd dX7_registerShift_11 ?_
  refine vr_imul dX7_registerShift_12 ?_
  refine vr_isub dX7_registerShift_13 ?_
  exact vr_iret dX7_registerShift_14 rfl zh
theorem e_X7_registerShift {γ : ga_T} {a : Nat} {l1 : Int32} {l2 : Int32} {σ : st_T} {Q : rs_T → st_T → Prop} (zha : is_pg a) (zw : Wd σ) (zh : p_X7_registerShift_0 γ a l1 l2 σ Q) : sp_ γ m_X7_registerShift 1 [.ref a, .int l1, .int l2] σ Q := sp_of (pl_X7_registerShift) rfl (Nat.le_of_ble_eq_true rfl) (g_X7_registerShift_0 zha zw zh)
def p_X7_locationShift_0 (γ : ga_T) (a : Nat) (l1 : Int32) (σ : st_T) (Q : rs_T → st_T → Prop) : Prop :=
  Q (.inl (some (.int ((2 : Int32) * (((st_I σ a 4) - (1 : Int32)) - l1))))) σ
set_option maxRecDepth 10000 in
theorem g_X7_locationShift_0 {γ : ga_T} {a : Nat} {l1 : Int32} {σ : st_T} {Q : rs_T → st_T → Prop} (zha : is_pg a) (zw : Wd σ) (zh : p_X7_locationShift_0 γ a l1 σ Q) : vv_ γ m_X7_locationShift 0 0 [(0, .ref a), (1, .int l1)] [] σ Q := by
  unfold p_X7_locationShift_0 at zh
  refine vr_iconst dX7_locationShift_0 (v := (2 : Int32)) (by decide) ?_
  refine vr_aload_n dX7_locationShift_1 rfl rfl ?_
  refine vr_getI dX7_locationShift_2 fl_LitmusTester_Program_25 (wC_pg zw zha) rfl ?_
  refine vr_iconst dX7_locationShift_5 (v := (1 : Int32)) (by decide) ?_
  refine vr_isub dX7_locationShift_6 ?_
  refine vr_iload_n dX7_locationShift_7 rfl rfl ?_
  refine vr_isub dX7_locationShift_8 ?_
  refine vr_imul dX7_locationShift_9 ?_
  exact vr_iret dX7_locationShift_10 rfl zh
theorem e_X7_locationShift {γ : ga_T} {a : Nat} {l1 : Int32} {σ : st_T} {Q : rs_T → st_T → Prop} (zha : is_pg a) (zw : Wd σ) (zh : p_X7_locationShift_0 γ a l1 σ Q) : sp_ γ m_X7_locationShift 0 [.ref a, .int l1] σ Q := sp_of (pl_X7_locationShift) rfl (Nat.le_of_ble_eq_true rfl) (g_X7_locationShift_0 zha zw zh)
def p_X7_comparison_0 (γ : ga_T) (a : Nat) (l0 : Int32) (l1 : Int32) (l2 : Int32) (σ : st_T) (Q : rs_T → st_T → Prop) : Prop :=
  (l1 = (0 : Int32) →
    Q (.inl (some (.int (((l0 <<< ((3 : Int32) &&& 31)) ||| (0 : Int32)) ||| l2)))) σ
  ) ∧ (¬ l1 = (0 : Int32) →
    Q (.inl (some (.int (((l0 <<< ((3 : Int32) &&& 31)) ||| (4 : Int32)) ||| l2)))) σ
  )
set_option maxRecDepth 10000 in
theorem g_X7_comparison_0 {γ : ga_T} {a : Nat} {l0 : Int32} {l1 : Int32} {l2 : Int32} {σ : st_T} {Q : rs_T → st_T → Prop} (zha : is_pg a) (zw : Wd σ) (zh : p_X7_comparison_0 γ a l0 l1 l2 σ Q) : vv_ γ m_X7_comparison 0 0 [(0, .int l0), (1, .int l1), (2, .int l2)] [] σ Q := by
  unfold p_X7_comparison_0 at zh
  refine vr_iload_n dX7_comparison_0 rfl rfl ?_
  refine vr_iconst dX7_comparison_1 (v := (3 : Int32)) (by decide) ?_
  refine vr_ishl dX7_comparison_2 ?_
  refine vr_iload_n dX7_comparison_3 rfl rfl ?_
  refine vr_if_eq dX7_comparison_4 (tgt := 11) rfl (fun zd_1 => ?_) (fun zd_1 => ?_)
  · replace zh := zh.1 zd_1
    refine vr_iconst dX7_comparison_11 (v := (0 : Int32)) (by decide) ?_
    refine vr_ior dX7_comparison_12 ?_
    refine vr_iload_n dX7_comparison_13 rfl rfl ?_
    refine vr_ior dX7_comparison_14 ?_
    exact vr_iret dX7_comparison_15 rfl zh
  · replace zh := zh.2 zd_1
    refine vr_iconst dX7_comparison_7 (v := (4 : Int32)) (by decide) ?_
    refine vr_goto dX7_comparison_8 (tgt := 12) rfl ?_
    refine vr_ior dX7_comparison_12 ?_
    refine vr_iload_n dX7_comparison_13 rfl rfl ?_
    refine vr_ior dX7_comparison_14 ?_
    exact vr_iret dX7_comparison_15 rfl zh
theorem e_X7_comparison {γ : ga_T} {a : Nat} {l0 : Int32} {l1 : Int32} {l2 : Int32} {σ : st_T} {Q : rs_T → st_T → Prop} (zha : is_pg a) (zw : Wd σ) (zh : p_X7_comparison_0 γ a l0 l1 l2 σ Q) : sp_ γ m_X7_comparison 0 [.int l0, .int l1, .int l2] σ Q := sp_of (pl_X7_comparison) rfl (Nat.le_of_ble_eq_true rfl) (g_X7_comparison_0 zha zw zh)
def p_X7_addToCondition_0 (γ : ga_T) (a : Nat) (l1 : Int32) (σ : st_T) (Q : rs_T → st_T → Prop) : Prop :=
  ((32 : Int32) ≤ (st_I σ a 7) →
    Q (.inl none) σ
  ) ∧ (¬ (32 : Int32) ≤ (st_I σ a 7) →
    vp_in (st_I σ a 7) 32 ∧
    Q (.inl none) (pt_I (pt_I σ (a + 4) (st_I σ a 7).toNatClampNeg l1) a 7 ((st_I (pt_I σ (a + 4) (st_I σ a 7).toNatClampNeg l1) a 7) + (1 : Int32)))
  )
set_option maxRecDepth 10000 in
theorem g_X7_addToCondition_0 {γ : ga_T} {a : Nat} {l1 : Int32} {σ : st_T} {Q : rs_T → st_T → Prop} (zha : is_pg a) (zw : Wd σ) (zh : p_X7_addToCondition_0 γ a l1 σ Q) : vv_ γ m_X7_addToCondition 0 0 [(0, .ref a), (1, .int l1)] [] σ Q := by
  unfold p_X7_addToCondition_0 at zh
  refine vr_aload_n dX7_addToCondition_0 rfl rfl ?_
  refine vr_getI dX7_addToCondition_1 fl_LitmusTester_Program_35 (wC_pg zw zha) rfl ?_
  refine vr_bipush dX7_addToCondition_4 (v := (32 : Int32)) (by decide) ?_
  refine vr_ic_ge dX7_addToCondition_6 (tgt := 29) rfl (fun zd_1 => ?_) (fun zd_1 => ?_)
  · replace zh := zh.1 zd_1
    exact vr_vret dX7_addToCondition_29 rfl zh
  · replace zh := zh.2 zd_1
    refine vr_aload_n dX7_addToCondition_9 rfl rfl ?_
    refine vr_getR dX7_addToCondition_10 fl_LitmusTester_Program_22 (wC_pg zw zha) (Or.inr ⟨_, rfl⟩) (wR_pg_3 zw zha) ?_
    refine vr_aload_n dX7_addToCondition_13 rfl rfl ?_
    refine vr_getI dX7_addToCondition_14 fl_LitmusTester_Program_35 (wC_pg zw zha) rfl ?_
    refine vr_iload_n dX7_addToCondition_17 rfl rfl ?_
    obtain ⟨zi_2, zh⟩ := zh
    refine vr_iastore dX7_addToCondition_18 (wS_pg4 zw zha) zi_2 ?_
    refine vr_aload_n dX7_addToCondition_19 rfl rfl ?_
    refine vr_dup dX7_addToCondition_20 rfl ?_
    refine vr_getI dX7_addToCondition_21 fl_LitmusTester_Program_35 (wC_pg zw zha) rfl ?_
    refine vr_iconst dX7_addToCondition_24 (v := (1 : Int32)) (by decide) ?_
    refine vr_iadd dX7_addToCondition_25 ?_
    refine vr_putI dX7_addToCondition_26 fl_LitmusTester_Program_35 (wC_pg zw zha) rfl (fz_7_7) ?_
    exact vr_vret dX7_addToCondition_29 rfl zh
theorem e_X7_addToCondition {γ : ga_T} {a : Nat} {l1 : Int32} {σ : st_T} {Q : rs_T → st_T → Prop} (zha : is_pg a) (zw : Wd σ) (zh : p_X7_addToCondition_0 γ a l1 σ Q) : sp_ γ m_X7_addToCondition 0 [.ref a, .int l1] σ Q := sp_of (pl_X7_addToCondition) rfl (Nat.le_of_ble_eq_true rfl) (g_X7_addToCondition_0 zha zw zh)
def p_X7_isFulfilledBy_0 (γ : ga_T) (a : Nat) (l1 : Int32) (σ : st_T) (Q : rs_T → st_T → Prop) : Prop :=
  vv_ γ m_X7_isFulfilledBy 0 4 [(0, .ref a), (1, .int l1), (2, .int (1 : Int32)), (3, .int (0 : Int32))] [] σ Q
set_option maxRecDepth 10000 in
theorem g_X7_isFulfilledBy_0 {γ : ga_T} {a : Nat} {l1 : Int32} {σ : st_T} {Q : rs_T → st_T → Prop} (zha : is_pg a) (zw : Wd σ) (zh : p_X7_isFulfilledBy_0 γ a l1 σ Q) : vv_ γ m_X7_isFulfilledBy 0 0 [(0, .ref a), (1, .int l1)] [] σ Q := by
  unfold p_X7_isFulfilledBy_0 at zh
  refine vr_iconst dX7_isFulfilledBy_0 (v := (1 : Int32)) (by decide) ?_
  refine vr_istore_n dX7_isFulfilledBy_1 rfl (Nat.le_of_ble_eq_true rfl) (vv_eq (ls' := [(0, .ref a), (1, .int l1), (2, .int (1 : Int32))]) rfl ?_)
  refine vr_iconst dX7_isFulfilledBy_2 (v := (0 : Int32)) (by decide) ?_
  refine vr_istore_n dX7_isFulfilledBy_3 rfl (Nat.le_of_ble_eq_true rfl) (vv_eq (ls' := [(0, .ref a), (1, .int l1), (2, .int (1 : Int32)), (3, .int (0 : Int32))]) rfl ?_)
  exact vv_sub (ls' := [(0, .ref a), (1, .int l1), (2, .int (1 : Int32)), (3, .int (0 : Int32))]) ⟨rfl, rfl, rfl, rfl, trivial⟩ zh
theorem e_X7_isFulfilledBy {γ : ga_T} {a : Nat} {l1 : Int32} {σ : st_T} {Q : rs_T → st_T → Prop} (zha : is_pg a) (zw : Wd σ) (zh : p_X7_isFulfilledBy_0 γ a l1 σ Q) : sp_ γ m_X7_isFulfilledBy 0 [.ref a, .int l1] σ Q := sp_of (pl_X7_isFulfilledBy) rfl (Nat.le_of_ble_eq_true rfl) (g_X7_isFulfilledBy_0 zha zw zh)
def p_X7_isFulfilledBy_4 (γ : ga_T) (a : Nat) (l1 : Int32) (l2 : Int32) (l3 : Int32) (σ : st_T) (Q : rs_T → st_T → Prop) : Prop :=
  ((st_I σ a 7) ≤ l3 →
    ((l2 &&& (1 : Int32)) = (0 : Int32) →
      Q (.inl (some (.int (0 : Int32)))) σ
    ) ∧ (¬ (l2 &&& (1 : Int32)) = (0 : Int32) →
      Q (.inl (some (.int (1 : Int32)))) σ
    )
  ) ∧ (¬ (st_I σ a 7) ≤ l3 →
    ((32 : Int32) ≤ l3 →
      ((l2 &&& (1 : Int32)) = (0 : Int32) →
        Q (.inl (some (.int (0 : Int32)))) σ
      ) ∧ (¬ (l2 &&& (1 : Int32)) = (0 : Int32) →
        Q (.inl (some (.int (1 : Int32)))) σ
      )
    ) ∧ (¬ (32 : Int32) ≤ l3 →
      vp_in l3 32 ∧
      ((st_I σ (a + 4) l3.toNatClampNeg) = (-1 : Int32) →
        vv_ γ m_X7_isFulfilledBy 0 4 [(0, .ref a), (1, .int l1), (2, .int (l2 ^^^ (1 : Int32))), (3, .int (l3 + 1))] [] σ Q
      ) ∧ (¬ (st_I σ (a + 4) l3.toNatClampNeg) = (-1 : Int32) →
        ((st_I σ (a + 4) l3.toNatClampNeg) = (-2 : Int32) →
          vv_ γ m_X7_isFulfilledBy 0 4 [(0, .ref a), (1, .int l1), (2, .int ((l2 >>> ((1 : Int32) &&& 31)) &&& (l2 ||| (-2 : Int32)))), (3, .int (l3 + 1))] [] σ Q
        ) ∧ (¬ (st_I σ (a + 4) l3.toNatClampNeg) = (-2 : Int32) →
          ((st_I σ (a + 4) l3.toNatClampNeg) = (-3 : Int32) →
            vv_ γ m_X7_isFulfilledBy 0 4 [(0, .ref a), (1, .int l1), (2, .int ((l2 >>> ((1 : Int32) &&& 31)) ||| (l2 &&& (1 : Int32)))), (3, .int (l3 + 1))] [] σ Q
          ) ∧ (¬ (st_I σ (a + 4) l3.toNatClampNeg) = (-3 : Int32) →
            (((st_I σ (a + 4) l3.toNatClampNeg) &&& (4 : Int32)) = (0 : Int32) →
              (((l1 >>> (((st_I σ (a + 4) l3.toNatClampNeg) >>> ((3 : Int32) &&& 31)) &&& 31)) &&& (3 : Int32)) = ((st_I σ (a + 4) l3.toNatClampNeg) &&& (3 : Int32)) →
                vv_ γ m_X7_isFulfilledBy 0 4 [(0, .ref a), (1, .int l1), (2, .int ((l2 <<< ((1 : Int32) &&& 31)) ||| (1 : Int32))), (3, .int (l3 + 1))] [] σ Q
              ) ∧ (¬ ((l1 >>> (((st_I σ (a + 4) l3.toNatClampNeg) >>> ((3 : Int32) &&& 31)) &&& 31)) &&& (3 : Int32)) = ((st_I σ (a + 4) l3.toNatClampNeg) &&& (3 : Int32)) →
                vv_ γ m_X7_isFulfilledBy 0 4 [(0, .ref a), (1, .int l1), (2, .int ((l2 <<< ((1 : Int32) &&& 31)) ||| (0 : Int32))), (3, .int (l3 + 1))] [] σ Q
              )
            ) ∧ (¬ ((st_I σ (a + 4) l3.toNatClampNeg) &&& (4 : Int32)) = (0 : Int32) →
              (((st_I σ (a + 4) l3.toNatClampNeg) &&& (3 : Int32)) ≤ ((l1 >>> (((st_I σ (a + 4) l3.toNatClampNeg) >>> ((3 : Int32) &&& 31)) &&& 31)) &&& (3 : Int32)) →
                vv_ γ m_X7_isFulfilledBy 0 4 [(0, .ref a), (1, .int l1), (2, .int ((l2 <<< ((1 : Int32) &&& 31)) ||| (0 : Int32))), (3, .int (l3 + 1))] [] σ Q
              ) ∧ (¬ ((st_I σ (a + 4) l3.toNatClampNeg) &&& (3 : Int32)) ≤ ((l1 >>> (((st_I σ (a + 4) l3.toNatClampNeg) >>> ((3 : Int32) &&& 31)) &&& 31)) &&& (3 : Int32)) →
                vv_ γ m_X7_isFulfilledBy 0 4 [(0, .ref a), (1, .int l1), (2, .int ((l2 <<< ((1 : Int32) &&& 31)) ||| (1 : Int32))), (3, .int (l3 + 1))] [] σ Q
              )
            )
          )
        )
      )
    )
  )
set_option maxRecDepth 10000 in
theorem g_X7_isFulfilledBy_4 {γ : ga_T} {a : Nat} {l1 : Int32} {l2 : Int32} {l3 : Int32} {σ : st_T} {Q : rs_T → st_T → Prop} (zha : is_pg a) (zw : Wd σ) (zh : p_X7_isFulfilledBy_4 γ a l1 l2 l3 σ Q) : vv_ γ m_X7_isFulfilledBy 0 4 [(0, .ref a), (1, .int l1), (2, .int l2), (3, .int l3)] [] σ Q := by
  unfold p_X7_isFulfilledBy_4 at zh
  refine vr_iload_n dX7_isFulfilledBy_4 rfl rfl ?_
  refine vr_aload_n dX7_isFulfilledBy_5 rfl rfl ?_
  refine vr_getI dX7_isFulfilledBy_6 fl_LitmusTester_Program_35 (wC_pg zw zha) rfl ?_
  refine vr_ic_ge dX7_isFulfilledBy_9 (tgt := 149) rfl (fun zd_1 => ?_) (fun zd_1 => ?_)
  · replace zh := zh.1 zd_1
    refine vr_iload_n dX7_isFulfilledBy_149 rfl rfl ?_
    refine vr_iconst dX7_isFulfilledBy_150 (v := (1 : Int32)) (by decide) ?_
    refine vr_iand dX7_isFulfilledBy_151 ?_
    refine vr_if_eq dX7_isFulfilledBy_152 (tgt := 159) rfl (fun zd_2 => ?_) (fun zd_2 => ?_)
    · replace zh := zh.1 zd_2
      refine vr_iconst dX7_isFulfilledBy_159 (v := (0 : Int32)) (by decide) ?_
      exact vr_zret dX7_isFulfilledBy_160 rfl (Or.inl rfl) zh
    · replace zh := zh.2 zd_2
      refine vr_iconst dX7_isFulfilledBy_155 (v := (1 : Int32)) (by decide) ?_
      refine vr_goto dX7_isFulfilledBy_156 (tgt := 160) rfl ?_
      exact vr_zret dX7_isFulfilledBy_160 rfl (Or.inr rfl) zh
  · replace zh := zh.2 zd_1
    refine vr_iload_n dX7_isFulfilledBy_12 rfl rfl ?_
    refine vr_bipush dX7_isFulfilledBy_13 (v := (32 : Int32)) (by decide) ?_
    refine vr_ic_ge dX7_isFulfilledBy_15 (tgt := 149) rfl (fun zd_3 => ?_) (fun zd_3 => ?_)
    · replace zh := zh.1 zd_3
      refine vr_iload_n dX7_isFulfilledBy_149 rfl rfl ?_
      refine vr_iconst dX7_isFulfilledBy_150 (v := (1 : Int32)) (by decide) ?_
      refine vr_iand dX7_isFulfilledBy_151 ?_
      refine vr_if_eq dX7_isFulfilledBy_152 (tgt := 159) rfl (fun zd_4 => ?_) (fun zd_4 => ?_)
      · replace zh := zh.1 zd_4
        refine vr_iconst dX7_isFulfilledBy_159 (v := (0 : Int32)) (by decide) ?_
        exact vr_zret dX7_isFulfilledBy_160 rfl (Or.inl rfl) zh
      · replace zh := zh.2 zd_4
        refine vr_iconst dX7_isFulfilledBy_155 (v := (1 : Int32)) (by decide) ?_
        refine vr_goto dX7_isFulfilledBy_156 (tgt := 160) rfl ?_
        exact vr_zret dX7_isFulfilledBy_160 rfl (Or.inr rfl) zh
    · replace zh := zh.2 zd_3
      refine vr_aload_n dX7_isFulfilledBy_18 rfl rfl ?_
      refine vr_getR dX7_isFulfilledBy_19 fl_LitmusTester_Program_22 (wC_pg zw zha) (Or.inr ⟨_, rfl⟩) (wR_pg_3 zw zha) ?_
      refine vr_iload_n dX7_isFulfilledBy_22 rfl rfl ?_
      obtain ⟨zi_5, zh⟩ := zh
      refine vr_iaload dX7_isFulfilledBy_23 (wS_pg4 zw zha) zi_5 ?_
      refine vr_istore dX7_isFulfilledBy_24 (Nat.le_of_ble_eq_true rfl) (vv_eq (ls' := [(0, .ref a), (1, .int l1), (2, .int l2), (3, .int l3), (4, .int (st_I σ (a + 4) l3.toNatClampNeg))]) rfl ?_)
      refine vr_iload dX7_isFulfilledBy_26 rfl ?_
      refine vr_iconst dX7_isFulfilledBy_28 (v := (-1 : Int32)) (by decide) ?_
      refine vr_ic_ne dX7_isFulfilledBy_29 (tgt := 39) rfl (fun zd_6 => ?_) (fun zd_6 => ?_)
      · replace zh := zh.2 zd_6
        refine vr_iload dX7_isFulfilledBy_39 rfl ?_
        refine vr_bipush dX7_isFulfilledBy_41 (v := (-2 : Int32)) (by decide) ?_
        refine vr_ic_ne dX7_isFulfilledBy_43 (tgt := 58) rfl (fun zd_7 => ?_) (fun zd_7 => ?_)
        · replace zh := zh.2 zd_7
          refine vr_iload dX7_isFulfilledBy_58 rfl ?_
          refine vr_bipush dX7_isFulfilledBy_60 (v := (-3 : Int32)) (by decide) ?_
          refine vr_ic_ne dX7_isFulfilledBy_62 (tgt := 76) rfl (fun zd_8 => ?_) (fun zd_8 => ?_)
          · replace zh := zh.2 zd_8
            refine vr_iload_n dX7_isFulfilledBy_76 rfl rfl ?_
            refine vr_iload dX7_isFulfilledBy_77 rfl ?_
            refine vr_iconst dX7_isFulfilledBy_79 (v := (3 : Int32)) (by decide) ?_
            refine vr_ishr dX7_isFulfilledBy_80 ?_
            refine vr_ishr dX7_isFulfilledBy_81 ?_
            refine vr_iconst dX7_isFulfilledBy_82 (v := (3 : Int32)) (by decide) ?_
            refine vr_iand dX7_isFulfilledBy_83 ?_
            refine vr_istore dX7_isFulfilledBy_84 (Nat.le_of_ble_eq_true rfl) (vv_eq (ls' := [(0, .ref a), (1, .int l1), (2, .int l2), (3, .int l3), (4, .int (st_I σ (a + 4) l3.toNatClampNeg)), (5, .int ((l1 >>> (((st_I σ (a + 4) l3.toNatClampNeg) >>> ((3 : Int32) &&& 31)) &&& 31)) &&& (3 : Int32)))]) rfl ?_)
            refine vr_iload dX7_isFulfilledBy_86 rfl ?_
            refine vr_iconst dX7_isFulfilledBy_88 (v := (3 : Int32)) (by decide) ?_
            refine vr_iand dX7_isFulfilledBy_89 ?_
            refine vr_istore dX7_isFulfilledBy_90 (Nat.le_of_ble_eq_true rfl) (vv_eq (ls' := [(0, .ref a), (1, .int l1), (2, .int l2), (3, .int l3), (4, .int (st_I σ (a + 4) l3.toNatClampNeg)), (5, .int ((l1 >>> (((st_I σ (a + 4) l3.toNatClampNeg) >>> ((3 : Int32) &&& 31)) &&& 31)) &&& (3 : Int32))), (6, .int ((st_I σ (a + 4) l3.toNatClampNeg) &&& (3 : Int32)))]) rfl ?_)
            refine vr_iload dX7_isFulfilledBy_92 rfl ?_
            refine vr_iconst dX7_isFulfilledBy_94 (v := (4 : Int32)) (by decide) ?_
            refine vr_iand dX7_isFulfilledBy_95 ?_
            refine vr_if_eq dX7_isFulfilledBy_96 (tgt := 114) rfl (fun zd_9 => ?_) (fun zd_9 => ?_)
            · replace zh := zh.1 zd_9
              refine vr_iload dX7_isFulfilledBy_114 rfl ?_
              refine vr_iload dX7_isFulfilledBy_116 rfl ?_
              refine vr_ic_ne dX7_isFulfilledBy_118 (tgt := 125) rfl (fun zd_10 => ?_) (fun zd_10 => ?_)
              · replace zh := zh.2 zd_10
                refine vr_iconst dX7_isFulfilledBy_125 (v := (0 : Int32)) (by decide) ?_
                refine vr_istore dX7_isFulfilledBy_126 (Nat.le_of_ble_eq_true rfl) (vv_eq (ls' := [(0, .ref a), (1, .int l1), (2, .int l2), (3, .int l3), (4, .int (st_I σ (a + 4) l3.toNatClampNeg)), (5, .int ((l1 >>> (((st_I σ (a + 4) l3.toNatClampNeg) >>> ((3 : Int32) &&& 31)) &&& 31)) &&& (3 : Int32))), (6, .int ((st_I σ (a + 4) l3.toNatClampNeg) &&& (3 : Int32))), (7, .int (0 : Int32))]) rfl ?_)
                refine vr_iload_n dX7_isFulfilledBy_128 rfl rfl ?_
                refine vr_iconst dX7_isFulfilledBy_129 (v := (1 : Int32)) (by decide) ?_
                refine vr_ishl dX7_isFulfilledBy_130 ?_
                refine vr_iload dX7_isFulfilledBy_131 rfl ?_
                refine vr_if_eq dX7_isFulfilledBy_133 (tgt := 140) rfl (fun _ => ?_) (fun c => absurd (by decide) c)
                refine vr_iconst dX7_isFulfilledBy_140 (v := (0 : Int32)) (by decide) ?_
                refine vr_ior dX7_isFulfilledBy_141 ?_
                refine vr_istore_n dX7_isFulfilledBy_142 rfl (Nat.le_of_ble_eq_true rfl) (vv_eq (ls' := [(0, .ref a), (1, .int l1), (2, .int ((l2 <<< ((1 : Int32) &&& 31)) ||| (0 : Int32))), (3, .int l3), (4, .int (st_I σ (a + 4) l3.toNatClampNeg)), (5, .int ((l1 >>> (((st_I σ (a + 4) l3.toNatClampNeg) >>> ((3 : Int32) &&& 31)) &&& 31)) &&& (3 : Int32))), (6, .int ((st_I σ (a + 4) l3.toNatClampNeg) &&& (3 : Int32))), (7, .int (0 : Int32))]) rfl ?_)
                refine vr_iinc dX7_isFulfilledBy_143 (x := l3) (v := (l3 + 1)) rfl (ii_ (by decide)) (Nat.le_of_ble_eq_true rfl) (vv_eq (ls' := [(0, .ref a), (1, .int l1), (2, .int ((l2 <<< ((1 : Int32) &&& 31)) ||| (0 : Int32))), (3, .int (l3 + 1)), (4, .int (st_I σ (a + 4) l3.toNatClampNeg)), (5, .int ((l1 >>> (((st_I σ (a + 4) l3.toNatClampNeg) >>> ((3 : Int32) &&& 31)) &&& 31)) &&& (3 : Int32))), (6, .int ((st_I σ (a + 4) l3.toNatClampNeg) &&& (3 : Int32))), (7, .int (0 : Int32))]) rfl ?_)
                refine vr_goto dX7_isFulfilledBy_146 (tgt := 4) rfl ?_
                exact vv_sub (ls' := [(0, .ref a), (1, .int l1), (2, .int ((l2 <<< ((1 : Int32) &&& 31)) ||| (0 : Int32))), (3, .int (l3 + 1))]) ⟨rfl, rfl, rfl, rfl, trivial⟩ zh
              · replace zh := zh.1 zd_10
                refine vr_iconst dX7_isFulfilledBy_121 (v := (1 : Int32)) (by decide) ?_
                refine vr_goto dX7_isFulfilledBy_122 (tgt := 126) rfl ?_
                refine vr_istore dX7_isFulfilledBy_126 (Nat.le_of_ble_eq_true rfl) (vv_eq (ls' := [(0, .ref a), (1, .int l1), (2, .int l2), (3, .int l3), (4, .int (st_I σ (a + 4) l3.toNatClampNeg)), (5, .int ((l1 >>> (((st_I σ (a + 4) l3.toNatClampNeg) >>> ((3 : Int32) &&& 31)) &&& 31)) &&& (3 : Int32))), (6, .int ((st_I σ (a + 4) l3.toNatClampNeg) &&& (3 : Int32))), (7, .int (1 : Int32))]) rfl ?_)
                refine vr_iload_n dX7_isFulfilledBy_128 rfl rfl ?_
                refine vr_iconst dX7_isFulfilledBy_129 (v := (1 : Int32)) (by decide) ?_
                refine vr_ishl dX7_isFulfilledBy_130 ?_
                refine vr_iload dX7_isFulfilledBy_131 rfl ?_
                refine vr_if_eq dX7_isFulfilledBy_133 (tgt := 140) rfl (fun c => absurd c (by decide)) (fun _ => ?_)
                refine vr_iconst dX7_isFulfilledBy_136 (v := (1 : Int32)) (by decide) ?_
                refine vr_goto dX7_isFulfilledBy_137 (tgt := 141) rfl ?_
                refine vr_ior dX7_isFulfilledBy_141 ?_
                refine vr_istore_n dX7_isFulfilledBy_142 rfl (Nat.le_of_ble_eq_true rfl) (vv_eq (ls' := [(0, .ref a), (1, .int l1), (2, .int ((l2 <<< ((1 : Int32) &&& 31)) ||| (1 : Int32))), (3, .int l3), (4, .int (st_I σ (a + 4) l3.toNatClampNeg)), (5, .int ((l1 >>> (((st_I σ (a + 4) l3.toNatClampNeg) >>> ((3 : Int32) &&& 31)) &&& 31)) &&& (3 : Int32))), (6, .int ((st_I σ (a + 4) l3.toNatClampNeg) &&& (3 : Int32))), (7, .int (1 : Int32))]) rfl ?_)
                refine vr_iinc dX7_isFulfilledBy_143 (x := l3) (v := (l3 + 1)) rfl (ii_ (by decide)) (Nat.le_of_ble_eq_true rfl) (vv_eq (ls' := [(0, .ref a), (1, .int l1), (2, .int ((l2 <<< ((1 : Int32) &&& 31)) ||| (1 : Int32))), (3, .int (l3 + 1)), (4, .int (st_I σ (a + 4) l3.toNatClampNeg)), (5, .int ((l1 >>> (((st_I σ (a + 4) l3.toNatClampNeg) >>> ((3 : Int32) &&& 31)) &&& 31)) &&& (3 : Int32))), (6, .int ((st_I σ (a + 4) l3.toNatClampNeg) &&& (3 : Int32))), (7, .int (1 : Int32))]) rfl ?_)
                refine vr_goto dX7_isFulfilledBy_146 (tgt := 4) rfl ?_
                exact vv_sub (ls' := [(0, .ref a), (1, .int l1), (2, .int ((l2 <<< ((1 : Int32) &&& 31)) ||| (1 : Int32))), (3, .int (l3 + 1))]) ⟨rfl, rfl, rfl, rfl, trivial⟩ zh
            · replace zh := zh.2 zd_9
              refine vr_iload dX7_isFulfilledBy_99 rfl ?_
              refine vr_iload dX7_isFulfilledBy_101 rfl ?_
              refine vr_ic_ge dX7_isFulfilledBy_103 (tgt := 110) rfl (fun zd_11 => ?_) (fun zd_11 => ?_)
              · replace zh := zh.1 zd_11
                refine vr_iconst dX7_isFulfilledBy_110 (v := (0 : Int32)) (by decide) ?_
                refine vr_goto dX7_isFulfilledBy_111 (tgt := 126) rfl ?_
                refine vr_istore dX7_isFulfilledBy_126 (Nat.le_of_ble_eq_true rfl) (vv_eq (ls' := [(0, .ref a), (1, .int l1), (2, .int l2), (3, .int l3), (4, .int (st_I σ (a + 4) l3.toNatClampNeg)), (5, .int ((l1 >>> (((st_I σ (a + 4) l3.toNatClampNeg) >>> ((3 : Int32) &&& 31)) &&& 31)) &&& (3 : Int32))), (6, .int ((st_I σ (a + 4) l3.toNatClampNeg) &&& (3 : Int32))), (7, .int (0 : Int32))]) rfl ?_)
                refine vr_iload_n dX7_isFulfilledBy_128 rfl rfl ?_
                refine vr_iconst dX7_isFulfilledBy_129 (v := (1 : Int32)) (by decide) ?_
                refine vr_ishl dX7_isFulfilledBy_130 ?_
                refine vr_iload dX7_isFulfilledBy_131 rfl ?_
                refine vr_if_eq dX7_isFulfilledBy_133 (tgt := 140) rfl (fun _ => ?_) (fun c => absurd (by decide) c)
                refine vr_iconst dX7_isFulfilledBy_140 (v := (0 : Int32)) (by decide) ?_
                refine vr_ior dX7_isFulfilledBy_141 ?_
                refine vr_istore_n dX7_isFulfilledBy_142 rfl (Nat.le_of_ble_eq_true rfl) (vv_eq (ls' := [(0, .ref a), (1, .int l1), (2, .int ((l2 <<< ((1 : Int32) &&& 31)) ||| (0 : Int32))), (3, .int l3), (4, .int (st_I σ (a + 4) l3.toNatClampNeg)), (5, .int ((l1 >>> (((st_I σ (a + 4) l3.toNatClampNeg) >>> ((3 : Int32) &&& 31)) &&& 31)) &&& (3 : Int32))), (6, .int ((st_I σ (a + 4) l3.toNatClampNeg) &&& (3 : Int32))), (7, .int (0 : Int32))]) rfl ?_)
                refine vr_iinc dX7_isFulfilledBy_143 (x := l3) (v := (l3 + 1)) rfl (ii_ (by decide)) (Nat.le_of_ble_eq_true rfl) (vv_eq (ls' := [(0, .ref a), (1, .int l1), (2, .int ((l2 <<< ((1 : Int32) &&& 31)) ||| (0 : Int32))), (3, .int (l3 + 1)), (4, .int (st_I σ (a + 4) l3.toNatClampNeg)), (5, .int ((l1 >>> (((st_I σ (a + 4) l3.toNatClampNeg) >>> ((3 : Int32) &&& 31)) &&& 31)) &&& (3 : Int32))), (6, .int ((st_I σ (a + 4) l3.toNatClampNeg) &&& (3 : Int32))), (7, .int (0 : Int32))]) rfl ?_)
                refine vr_goto dX7_isFulfilledBy_146 (tgt := 4) rfl ?_
                exact vv_sub (ls' := [(0, .ref a), (1, .int l1), (2, .int ((l2 <<< ((1 : Int32) &&& 31)) ||| (0 : Int32))), (3, .int (l3 + 1))]) ⟨rfl, rfl, rfl, rfl, trivial⟩ zh
              · replace zh := zh.2 zd_11
                refine vr_iconst dX7_isFulfilledBy_106 (v := (1 : Int32)) (by decide) ?_
                refine vr_goto dX7_isFulfilledBy_107 (tgt := 126) rfl ?_
                refine vr_istore dX7_isFulfilledBy_126 (Nat.le_of_ble_eq_true rfl) (vv_eq (ls' := [(0, .ref a), (1, .int l1), (2, .int l2), (3, .int l3), (4, .int (st_I σ (a + 4) l3.toNatClampNeg)), (5, .int ((l1 >>> (((st_I σ (a + 4) l3.toNatClampNeg) >>> ((3 : Int32) &&& 31)) &&& 31)) &&& (3 : Int32))), (6, .int ((st_I σ (a + 4) l3.toNatClampNeg) &&& (3 : Int32))), (7, .int (1 : Int32))]) rfl ?_)
                refine vr_iload_n dX7_isFulfilledBy_128 rfl rfl ?_
                refine vr_iconst dX7_isFulfilledBy_129 (v := (1 : Int32)) (by decide) ?_
                refine vr_ishl dX7_isFulfilledBy_130 ?_
                refine vr_iload dX7_isFulfilledBy_131 rfl ?_
                refine vr_if_eq dX7_isFulfilledBy_133 (tgt := 140) rfl (fun c => absurd c (by decide)) (fun _ => ?_)
                refine vr_iconst dX7_isFulfilledBy_136 (v := (1 : Int32)) (by decide) ?_
                refine vr_goto dX7_isFulfilledBy_137 (tgt := 141) rfl ?_
                refine vr_ior dX7_isFulfilledBy_141 ?_
                refine vr_istore_n dX7_isFulfilledBy_142 rfl (Nat.le_of_ble_eq_true rfl) (vv_eq (ls' := [(0, .ref a), (1, .int l1), (2, .int ((l2 <<< ((1 : Int32) &&& 31)) ||| (1 : Int32))), (3, .int l3), (4, .int (st_I σ (a + 4) l3.toNatClampNeg)), (5, .int ((l1 >>> (((st_I σ (a + 4) l3.toNatClampNeg) >>> ((3 : Int32) &&& 31)) &&& 31)) &&& (3 : Int32))), (6, .int ((st_I σ (a + 4) l3.toNatClampNeg) &&& (3 : Int32))), (7, .int (1 : Int32))]) rfl ?_)
                refine vr_iinc dX7_isFulfilledBy_143 (x := l3) (v := (l3 + 1)) rfl (ii_ (by decide)) (Nat.le_of_ble_eq_true rfl) (vv_eq (ls' := [(0, .ref a), (1, .int l1), (2, .int ((l2 <<< ((1 : Int32) &&& 31)) ||| (1 : Int32))), (3, .int (l3 + 1)), (4, .int (st_I σ (a + 4) l3.toNatClampNeg)), (5, .int ((l1 >>> (((st_I σ (a + 4) l3.toNatClampNeg) >>> ((3 : Int32) &&& 31)) &&& 31)) &&& (3 : Int32))), (6, .int ((st_I σ (a + 4) l3.toNatClampNeg) &&& (3 : Int32))), (7, .int (1 : Int32))]) rfl ?_)
                refine vr_goto dX7_isFulfilledBy_146 (tgt := 4) rfl ?_
                exact vv_sub (ls' := [(0, .ref a), (1, .int l1), (2, .int ((l2 <<< ((1 : Int32) &&& 31)) ||| (1 : Int32))), (3, .int (l3 + 1))]) ⟨rfl, rfl, rfl, rfl, trivial⟩ zh
          · replace zh := zh.1 zd_8
            refine vr_iload_n dX7_isFulfilledBy_65 rfl rfl ?_
            refine vr_iconst dX7_isFulfilledBy_66 (v := (1 : Int32)) (by decide) ?_
            refine vr_ishr dX7_isFulfilledBy_67 ?_
            refine vr_iload_n dX7_isFulfilledBy_68 rfl rfl ?_
            refine vr_iconst dX7_isFulfilledBy_69 (v := (1 : Int32)) (by decide) ?_
            refine vr_iand dX7_isFulfilledBy_70 ?_
            refine vr_ior dX7_isFulfilledBy_71 ?_
            refine vr_istore_n dX7_isFulfilledBy_72 rfl (Nat.le_of_ble_eq_true rfl) (vv_eq (ls' := [(0, .ref a), (1, .int l1), (2, .int ((l2 >>> ((1 : Int32) &&& 31)) ||| (l2 &&& (1 : Int32)))), (3, .int l3), (4, .int (st_I σ (a + 4) l3.toNatClampNeg))]) rfl ?_)
            refine vr_goto dX7_isFulfilledBy_73 (tgt := 143) rfl ?_
            refine vr_iinc dX7_isFulfilledBy_143 (x := l3) (v := (l3 + 1)) rfl (ii_ (by decide)) (Nat.le_of_ble_eq_true rfl) (vv_eq (ls' := [(0, .ref a), (1, .int l1), (2, .int ((l2 >>> ((1 : Int32) &&& 31)) ||| (l2 &&& (1 : Int32)))), (3, .int (l3 + 1)), (4, .int (st_I σ (a + 4) l3.toNatClampNeg))]) rfl ?_)
            refine vr_goto dX7_isFulfilledBy_146 (tgt := 4) rfl ?_
            exact vv_sub (ls' := [(0, .ref a), (1, .int l1), (2, .int ((l2 >>> ((1 : Int32) &&& 31)) ||| (l2 &&& (1 : Int32)))), (3, .int (l3 + 1))]) ⟨rfl, rfl, rfl, rfl, trivial⟩ zh
        · replace zh := zh.1 zd_7
          refine vr_iload_n dX7_isFulfilledBy_46 rfl rfl ?_
          refine vr_iconst dX7_isFulfilledBy_47 (v := (1 : Int32)) (by decide) ?_
          refine vr_ishr dX7_isFulfilledBy_48 ?_
          refine vr_iload_n dX7_isFulfilledBy_49 rfl rfl ?_
          refine vr_bipush dX7_isFulfilledBy_50 (v := (-2 : Int32)) (by decide) ?_
          refine vr_ior dX7_isFulfilledBy_52 ?_
          refine vr_iand dX7_isFulfilledBy_53 ?_
          refine vr_istore_n dX7_isFulfilledBy_54 rfl (Nat.le_of_ble_eq_true rfl) (vv_eq (ls' := [(0, .ref a), (1, .int l1), (2, .int ((l2 >>> ((1 : Int32) &&& 31)) &&& (l2 ||| (-2 : Int32)))), (3, .int l3), (4, .int (st_I σ (a + 4) l3.toNatClampNeg))]) rfl ?_)
          refine vr_goto dX7_isFulfilledBy_55 (tgt := 143) rfl ?_
          refine vr_iinc dX7_isFulfilledBy_143 (x := l3) (v := (l3 + 1)) rfl (ii_ (by decide)) (Nat.le_of_ble_eq_true rfl) (vv_eq (ls' := [(0, .ref a), (1, .int l1), (2, .int ((l2 >>> ((1 : Int32) &&& 31)) &&& (l2 ||| (-2 : Int32)))), (3, .int (l3 + 1)), (4, .int (st_I σ (a + 4) l3.toNatClampNeg))]) rfl ?_)
          refine vr_goto dX7_isFulfilledBy_146 (tgt := 4) rfl ?_
          exact vv_sub (ls' := [(0, .ref a), (1, .int l1), (2, .int ((l2 >>> ((1 : Int32) &&& 31)) &&& (l2 ||| (-2 : Int32)))), (3, .int (l3 + 1))]) ⟨rfl, rfl, rfl, rfl, trivial⟩ zh
      · replace zh := zh.1 zd_6
        refine vr_iload_n dX7_isFulfilledBy_32 rfl rfl ?_
        refine vr_iconst dX7_isFulfilledBy_33 (v := (1 : Int32)) (by decide) ?_
        refine vr_ixor dX7_isFulfilledBy_34 ?_
        refine vr_istore_n dX7_isFulfilledBy_35 rfl (Nat.le_of_ble_eq_true rfl) (vv_eq (ls' := [(0, .ref a), (1, .int l1), (2, .int (l2 ^^^ (1 : Int32))), (3, .int l3), (4, .int (st_I σ (a + 4) l3.toNatClampNeg))]) rfl ?_)
        refine vr_goto dX7_isFulfilledBy_36 (tgt := 143) rfl ?_
        refine vr_iinc dX7_isFulfilledBy_143 (x := l3) (v := (l3 + 1)) rfl (ii_ (by decide)) (Nat.le_of_ble_eq_true rfl) (vv_eq (ls' := [(0, .ref a), (1, .int l1), (2, .int (l2 ^^^ (1 : Int32))), (3, .int (l3 + 1)), (4, .int (st_I σ (a + 4) l3.toNatClampNeg))]) rfl ?_)
        refine vr_goto dX7_isFulfilledBy_146 (tgt := 4) rfl ?_
        exact vv_sub (ls' := [(0, .ref a), (1, .int l1), (2, .int (l2 ^^^ (1 : Int32))), (3, .int (l3 + 1))]) ⟨rfl, rfl, rfl, rfl, trivial⟩ zh
def p_X7_waits_0 (γ : ga_T) (a : Nat) (σ : st_T) (Q : rs_T → st_T → Prop) : Prop :=
  vv_ γ m_X7_waits 1 4 [(0, .ref a), (1, .int (0 : Int32)), (2, .int (0 : Int32))] [] σ Q
set_option maxRecDepth 10000 in
theorem g_X7_waits_0 {γ : ga_T} {a : Nat} {σ : st_T} {Q : rs_T → st_T → Prop} (zha : is_pg a) (zw : Wd σ) (zh : p_X7_waits_0 γ a σ Q) : vv_ γ m_X7_waits 1 0 [(0, .ref a)] [] σ Q := by
  unfold p_X7_waits_0 at zh
  refine vr_iconst dX7_waits_0 (v := (0 : Int32)) (by decide) ?_
  refine vr_istore_n dX7_waits_1 rfl (Nat.le_of_ble_eq_true rfl) (vv_eq (ls' := [(0, .ref a), (1, .int (0 : Int32))]) rfl ?_)
  refine vr_iconst dX7_waits_2 (v := (0 : Int32)) (by decide) ?_
  refine vr_istore_n dX7_waits_3 rfl (Nat.le_of_ble_eq_true rfl) (vv_eq (ls' := [(0, .ref a), (1, .int (0 : Int32)), (2, .int (0 : Int32))]) rfl ?_)
  exact vv_sub (ls' := [(0, .ref a), (1, .int (0 : Int32)), (2, .int (0 : Int32))]) ⟨rfl, rfl, rfl, trivial⟩ zh
theorem e_X7_waits {γ : ga_T} {a : Nat} {σ : st_T} {Q : rs_T → st_T → Prop} (zha : is_pg a) (zw : Wd σ) (zh : p_X7_waits_0 γ a σ Q) : sp_ γ m_X7_waits 1 [.ref a] σ Q := sp_of (pl_X7_waits) rfl (Nat.le_of_ble_eq_true rfl) (g_X7_waits_0 zha zw zh)
def p_X7_waits_4 (γ : ga_T) (a : Nat) (l1 : Int32) (l2 : Int32) (σ : st_T) (Q : rs_T → st_T → Prop) : Prop :=
  ((st_I σ a 6) ≤ l2 →
    Q (.inl (some (.int l1))) σ
  ) ∧ (¬ (st_I σ a 6) ≤ l2 →
    ∃ (v4 : Int32) (s2 : st_T), Wd s2 ∧ fn_ γ m_X7_property 0 [.ref a, .int l2, .int (1 : Int32)] σ (.int v4) s2 ∧
    (v4 = (3 : Int32) →
      vv_ γ m_X7_waits 1 4 [(0, .ref a), (1, .int (l1 ||| ((1 : Int32) <<< (l2 &&& 31)))), (2, .int (l2 + 1))] [] s2 Q
    ) ∧ (¬ v4 = (3 : Int32) →
      (v4 = (2 : Int32) →
        vv_ γ m_X7_waits 1 4 [(0, .ref a), (1, .int (l1 ||| ((1 : Int32) <<< (l2 &&& 31)))), (2, .int (l2 + 1))] [] s2 Q
      ) ∧ (¬ v4 = (2 : Int32) →
        vv_ γ m_X7_waits 1 4 [(0, .ref a), (1, .int l1), (2, .int (l2 + 1))] [] s2 Q
      )
    )
  )
set_option maxRecDepth 10000 in
theorem g_X7_waits_4 {γ : ga_T} {a : Nat} {l1 : Int32} {l2 : Int32} {σ : st_T} {Q : rs_T → st_T → Prop} (zha : is_pg a) (zw : Wd σ) (zh : p_X7_waits_4 γ a l1 l2 σ Q) : vv_ γ m_X7_waits 1 4 [(0, .ref a), (1, .int l1), (2, .int l2)] [] σ Q := by
  unfold p_X7_waits_4 at zh
  refine vr_iload_n dX7_waits_4 rfl rfl ?_
  refine vr_aload_n dX7_waits_5 rfl rfl ?_
  refine vr_getI dX7_waits_6 fl_LitmusTester_Program_32 (wC_pg zw zha) rfl ?_
  refine vr_ic_ge dX7_waits_9 (tgt := 41) rfl (fun zd_1 => ?_) (fun zd_1 => ?_)
  · replace zh := zh.1 zd_1
    refine vr_iload_n dX7_waits_41 rfl rfl ?_
    exact vr_iret dX7_waits_42 rfl zh
  · replace zh := zh.2 zd_1
    refine vr_aload_n dX7_waits_12 rfl rfl ?_
    refine vr_iload_n dX7_waits_13 rfl rfl ?_
    refine vr_iconst dX7_waits_14 (v := (1 : Int32)) (by decide) ?_
    obtain ⟨v4, s2, zw1, zf_3, zh⟩ := zh
    refine vc_V (As := [.int l2, .int (1 : Int32)]) (rest := []) dX7_waits_15 cV_LitmusTester_Program_48 (wC_pg zw zha) rfl rfl (Nat.le_of_ble_eq_true rfl) (Nat.le_of_ble_eq_true rfl) (co_n zf_3 ?_)
    replace zw := zw1
    refine vr_istore_n dX7_waits_18 rfl (Nat.le_of_ble_eq_true rfl) (vv_eq (ls' := [(0, .ref a), (1, .int l1), (2, .int l2), (3, .int v4)]) rfl ?_)
    refine vr_iload_n dX7_waits_19 rfl rfl ?_
    refine vr_iconst dX7_waits_20 (v := (3 : Int32)) (by decide) ?_
    refine vr_ic_eq dX7_waits_21 (tgt := 29) rfl (fun zd_5 => ?_) (fun zd_5 => ?_)
    · replace zh := zh.1 zd_5
      refine vr_iload_n dX7_waits_29 rfl rfl ?_
      refine vr_iconst dX7_waits_30 (v := (1 : Int32)) (by decide) ?_
      refine vr_iload_n dX7_waits_31 rfl rfl ?_
      refine vr_ishl dX7_waits_32 ?_
      refine vr_ior dX7_waits_33 ?_
      refine vr_istore_n dX7_waits_34 rfl (Nat.le_of_ble_eq_true rfl) (vv_eq (ls' := [(0, .ref a), (1, .int (l1 ||| ((1 : Int32) <<< (l2 &&& 31)))), (2, .int l2), (3, .int v4)]) rfl ?_)
      refine vr_iinc dX7_waits_35 (x := l2) (v := (l2 + 1)) rfl (ii_ (by decide)) (Nat.le_of_ble_eq_true rfl) (vv_eq (ls' := [(0, .ref a), (1, .int (l1 ||| ((1 : Int32) <<< (l2 &&& 31)))), (2, .int (l2 + 1)), (3, .int v4)]) rfl ?_)
      refine vr_goto dX7_waits_38 (tgt := 4) rfl ?_
      exact vv_sub (ls' := [(0, .ref a), (1, .int (l1 ||| ((1 : Int32) <<< (l2 &&& 31)))), (2, .int (l2 + 1))]) ⟨rfl, rfl, rfl, trivial⟩ zh
    · replace zh := zh.2 zd_5
      refine vr_iload_n dX7_waits_24 rfl rfl ?_
      refine vr_iconst dX7_waits_25 (v := (2 : Int32)) (by decide) ?_
      refine vr_ic_ne dX7_waits_26 (tgt := 35) rfl (fun zd_6 => ?_) (fun zd_6 => ?_)
      · replace zh := zh.2 zd_6
        refine vr_iinc dX7_waits_35 (x := l2) (v := (l2 + 1)) rfl (ii_ (by decide)) (Nat.le_of_ble_eq_true rfl) (vv_eq (ls' := [(0, .ref a), (1, .int l1), (2, .int (l2 + 1)), (3, .int v4)]) rfl ?_)
        refine vr_goto dX7_waits_38 (tgt := 4) rfl ?_
        exact vv_sub (ls' := [(0, .ref a), (1, .int l1), (2, .int (l2 + 1))]) ⟨rfl, rfl, rfl, trivial⟩ zh
      · replace zh := zh.1 zd_6
        refine vr_iload_n dX7_waits_29 rfl rfl ?_
        refine vr_iconst dX7_waits_30 (v := (1 : Int32)) (by decide) ?_
        refine vr_iload_n dX7_waits_31 rfl rfl ?_
        refine vr_ishl dX7_waits_32 ?_
        refine vr_ior dX7_waits_33 ?_
        refine vr_istore_n dX7_waits_34 rfl (Nat.le_of_ble_eq_true rfl) (vv_eq (ls' := [(0, .ref a), (1, .int (l1 ||| ((1 : Int32) <<< (l2 &&& 31)))), (2, .int l2), (3, .int v4)]) rfl ?_)
        refine vr_iinc dX7_waits_35 (x := l2) (v := (l2 + 1)) rfl (ii_ (by decide)) (Nat.le_of_ble_eq_true rfl) (vv_eq (ls' := [(0, .ref a), (1, .int (l1 ||| ((1 : Int32) <<< (l2 &&& 31)))), (2, .int (l2 + 1)), (3, .int v4)]) rfl ?_)
        refine vr_goto dX7_waits_38 (tgt := 4) rfl ?_
        exact vv_sub (ls' := [(0, .ref a), (1, .int (l1 ||| ((1 : Int32) <<< (l2 &&& 31)))), (2, .int (l2 + 1))]) ⟨rfl, rfl, rfl, trivial⟩ zh
def p_X7_waitsWith_0 (γ : ga_T) (a : Nat) (l1 : Int32) (σ : st_T) (Q : rs_T → st_T → Prop) : Prop :=
  ∃ (v3 : Int32) (s1 : st_T), Wd s1 ∧ fn_ γ m_X7_waits 1 [.ref a] σ (.int v3) s1 ∧
  vv_ γ m_X7_waitsWith 3 7 [(0, .ref a), (1, .int l1), (2, .int v3), (3, .int (0 : Int32))] [] s1 Q
set_option maxRecDepth 10000 in
theorem g_X7_waitsWith_0 {γ : ga_T} {a : Nat} {l1 : Int32} {σ : st_T} {Q : rs_T → st_T → Prop} (zha : is_pg a) (zw : Wd σ) (zh : p_X7_waitsWith_0 γ a l1 σ Q) : vv_ γ m_X7_waitsWith 3 0 [(0, .ref a), (1, .int l1)] [] σ Q := by
  unfold p_X7_waitsWith_0 at zh
  refine vr_aload_n dX7_waitsWith_0 rfl rfl ?_
  obtain ⟨v3, s1, zw1, zf_2, zh⟩ := zh
  refine vc_V (As := []) (rest := []) dX7_waitsWith_1 cV_LitmusTester_Program_60 (wC_pg zw zha) rfl rfl (Nat.le_of_ble_eq_true rfl) (Nat.le_of_ble_eq_true rfl) (co_n zf_2 ?_)
  replace zw := zw1
  refine vr_istore_n dX7_waitsWith_4 rfl (Nat.le_of_ble_eq_true rfl) (vv_eq (ls' := [(0, .ref a), (1, .int l1), (2, .int v3)]) rfl ?_)
  refine vr_iconst dX7_waitsWith_5 (v := (0 : Int32)) (by decide) ?_
  refine vr_istore_n dX7_waitsWith_6 rfl (Nat.le_of_ble_eq_true rfl) (vv_eq (ls' := [(0, .ref a), (1, .int l1), (2, .int v3), (3, .int (0 : Int32))]) rfl ?_)
  exact vv_sub (ls' := [(0, .ref a), (1, .int l1), (2, .int v3), (3, .int (0 : Int32))]) ⟨rfl, rfl, rfl, rfl, trivial⟩ zh
theorem e_X7_waitsWith {γ : ga_T} {a : Nat} {l1 : Int32} {σ : st_T} {Q : rs_T → st_T → Prop} (zha : is_pg a) (zw : Wd σ) (zh : p_X7_waitsWith_0 γ a l1 σ Q) : sp_ γ m_X7_waitsWith 3 [.ref a, .int l1] σ Q := sp_of (pl_X7_waitsWith) rfl (Nat.le_of_ble_eq_true rfl) (g_X7_waitsWith_0 zha zw zh)
def p_X7_waitsWith_7 (γ : ga_T) (a : Nat) (l1 : Int32) (l2 : Int32) (l3 : Int32) (σ : st_T) (Q : rs_T → st_T → Prop) : Prop :=
  ((6 : Int32) ≤ l3 →
    Q (.inl (some (.int l2))) σ
  ) ∧ (¬ (6 : Int32) ≤ l3 →
    ∃ (v4 : Int32) (s2 : st_T), Wd s2 ∧ fn_ γ m_X7_placeOfGap 2 [.ref a, .int l3] σ (.int v4) s2 ∧
    (((l1 >>> (l3 &&& 31)) &&& (1 : Int32)) = (0 : Int32) →
      vv_ γ m_X7_waitsWith 3 7 [(0, .ref a), (1, .int l1), (2, .int l2), (3, .int (l3 + 1))] [] s2 Q
    ) ∧ (¬ ((l1 >>> (l3 &&& 31)) &&& (1 : Int32)) = (0 : Int32) →
      (v4 = (-1 : Int32) →
        vv_ γ m_X7_waitsWith 3 7 [(0, .ref a), (1, .int l1), (2, .int l2), (3, .int (l3 + 1))] [] s2 Q
      ) ∧ (¬ v4 = (-1 : Int32) →
        vv_ γ m_X7_waitsWith 3 7 [(0, .ref a), (1, .int l1), (2, .int (l2 ||| ((1 : Int32) <<< (v4 &&& 31)))), (3, .int (l3 + 1))] [] s2 Q
      )
    )
  )
set_option maxRecDepth 10000 in
theorem g_X7_waitsWith_7 {γ : ga_T} {a : Nat} {l1 : Int32} {l2 : Int32} {l3 : Int32} {σ : st_T} {Q : rs_T → st_T → Prop} (zha : is_pg a) (zw : Wd σ) (zh : p_X7_waitsWith_7 γ a l1 l2 l3 σ Q) : vv_ γ m_X7_waitsWith 3 7 [(0, .ref a), (1, .int l1), (2, .int l2), (3, .int l3)] [] σ Q := by
  unfold p_X7_waitsWith_7 at zh
  refine vr_iload_n dX7_waitsWith_7 rfl rfl ?_
  refine vr_bipush dX7_waitsWith_8 (v := (6 : Int32)) (by decide) ?_
  refine vr_ic_ge dX7_waitsWith_10 (tgt := 47) rfl (fun zd_1 => ?_) (fun zd_1 => ?_)
  · replace zh := zh.1 zd_1
    refine vr_iload_n dX7_waitsWith_47 rfl rfl ?_
    exact vr_iret dX7_waitsWith_48 rfl zh
  · replace zh := zh.2 zd_1
    refine vr_aload_n dX7_waitsWith_13 rfl rfl ?_
    refine vr_iload_n dX7_waitsWith_14 rfl rfl ?_
    obtain ⟨v4, s2, zw1, zf_3, zh⟩ := zh
    refine vc_V (As := [.int l3]) (rest := []) dX7_waitsWith_15 cV_LitmusTester_Program_63 (wC_pg zw zha) rfl rfl (Nat.le_of_ble_eq_true rfl) (Nat.le_of_ble_eq_true rfl) (co_n zf_3 ?_)
    replace zw := zw1
    refine vr_istore dX7_waitsWith_18 (Nat.le_of_ble_eq_true rfl) (vv_eq (ls' := [(0, .ref a), (1, .int l1), (2, .int l2), (3, .int l3), (4, .int v4)]) rfl ?_)
    refine vr_iload_n dX7_waitsWith_20 rfl rfl ?_
    refine vr_iload_n dX7_waitsWith_21 rfl rfl ?_
    refine vr_ishr dX7_waitsWith_22 ?_
    refine vr_iconst dX7_waitsWith_23 (v := (1 : Int32)) (by decide) ?_
    refine vr_iand dX7_waitsWith_24 ?_
    refine vr_if_eq dX7_waitsWith_25 (tgt := 41) rfl (fun zd_5 => ?_) (fun zd_5 => ?_)
    · replace zh := zh.1 zd_5
      refine vr_iinc dX7_waitsWith_41 (x := l3) (v := (l3 + 1)) rfl (ii_ (by decide)) (Nat.le_of_ble_eq_true rfl) (vv_eq (ls' := [(0, .ref a), (1, .int l1), (2, .int l2), (3, .int (l3 + 1)), (4, .int v4)]) rfl ?_)
      refine vr_goto dX7_waitsWith_44 (tgt := 7) rfl ?_
      exact vv_sub (ls' := [(0, .ref a), (1, .int l1), (2, .int l2), (3, .int (l3 + 1))]) ⟨rfl, rfl, rfl, rfl, trivial⟩ zh
    · replace zh := zh.2 zd_5
      refine vr_iload dX7_waitsWith_28 rfl ?_
      refine vr_iconst dX7_waitsWith_30 (v := (-1 : Int32)) (by decide) ?_
      refine vr_ic_eq dX7_waitsWith_31 (tgt := 41) rfl (fun zd_6 => ?_) (fun zd_6 => ?_)
      · replace zh := zh.1 zd_6
        refine vr_iinc dX7_waitsWith_41 (x := l3) (v := (l3 + 1)) rfl (ii_ (by decide)) (Nat.le_of_ble_eq_true rfl) (vv_eq (ls' := [(0, .ref a), (1, .int l1), (2, .int l2), (3, .int (l3 + 1)), (4, .int v4)]) rfl ?_)
        refine vr_goto dX7_waitsWith_44 (tgt := 7) rfl ?_
        exact vv_sub (ls' := [(0, .ref a), (1, .int l1), (2, .int l2), (3, .int (l3 + 1))]) ⟨rfl, rfl, rfl, rfl, trivial⟩ zh
      · replace zh := zh.2 zd_6
        refine vr_iload_n dX7_waitsWith_34 rfl rfl ?_
        refine vr_iconst dX7_waitsWith_35 (v := (1 : Int32)) (by decide) ?_
        refine vr_iload dX7_waitsWith_36 rfl ?_
        refine vr_ishl dX7_waitsWith_38 ?_
        refine vr_ior dX7_waitsWith_39 ?_
        refine vr_istore_n dX7_waitsWith_40 rfl (Nat.le_of_ble_eq_true rfl) (vv_eq (ls' := [(0, .ref a), (1, .int l1), (2, .int (l2 ||| ((1 : Int32) <<< (v4 &&& 31)))), (3, .int l3), (4, .int v4)]) rfl ?_)
        refine vr_iinc dX7_waitsWith_41 (x := l3) (v := (l3 + 1)) rfl (ii_ (by decide)) (Nat.le_of_ble_eq_true rfl) (vv_eq (ls' := [(0, .ref a), (1, .int l1), (2, .int (l2 ||| ((1 : Int32) <<< (v4 &&& 31)))), (3, .int (l3 + 1)), (4, .int v4)]) rfl ?_)
        refine vr_goto dX7_waitsWith_44 (tgt := 7) rfl ?_
        exact vv_sub (ls' := [(0, .ref a), (1, .int l1), (2, .int (l2 ||| ((1 : Int32) <<< (v4 &&& 31)))), (3, .int (l3 + 1))]) ⟨rfl, rfl, rfl, rfl, trivial⟩ zh
def p_X7_isGapBefore_0 (γ : ga_T) (a : Nat) (l1 : Int32) (σ : st_T) (Q : rs_T → st_T → Prop) : Prop :=
  (l1 ≤ (0 : Int32) →
    Q (.inl (some (.int (0 : Int32)))) σ
  ) ∧ (¬ l1 ≤ (0 : Int32) →
    ∃ (v4 : Int32) (s2 : st_T), Wd s2 ∧ fn_ γ m_X7_property 0 [.ref a, .int (l1 - (1 : Int32)), .int (0 : Int32)] σ (.int v4) s2 ∧
    ∃ (v7 : Int32) (s5 : st_T), Wd s5 ∧ fn_ γ m_X7_property 0 [.ref a, .int l1, .int (0 : Int32)] s2 (.int v7) s5 ∧
    (v4 = v7 →
      ∃ (v11 : Int32) (s9 : st_T), Wd s9 ∧ fn_ γ m_X7_property 0 [.ref a, .int (l1 - (1 : Int32)), .int (1 : Int32)] s5 (.int v11) s9 ∧
      (v11 = (3 : Int32) →
        Q (.inl (some (.int (0 : Int32)))) s9
      ) ∧ (¬ v11 = (3 : Int32) →
        ∃ (v15 : Int32) (s13 : st_T), Wd s13 ∧ fn_ γ m_X7_property 0 [.ref a, .int l1, .int (1 : Int32)] s9 (.int v15) s13 ∧
        (v15 = (3 : Int32) →
          Q (.inl (some (.int (0 : Int32)))) s13
        ) ∧ (¬ v15 = (3 : Int32) →
          Q (.inl (some (.int (1 : Int32)))) s13
        )
      )
    ) ∧ (¬ v4 = v7 →
      Q (.inl (some (.int (0 : Int32)))) s5
    )
  )
set_option maxRecDepth 10000 in
theorem g_X7_isGapBefore_0 {γ : ga_T} {a : Nat} {l1 : Int32} {σ : st_T} {Q : rs_T → st_T → Prop} (zha : is_pg a) (zw : Wd σ) (zh : p_X7_isGapBefore_0 γ a l1 σ Q) : vv_ γ m_X7_isGapBefore 1 0 [(0, .ref a), (1, .int l1)] [] σ Q := by
  unfold p_X7_isGapBefore_0 at zh
  refine vr_iload_n dX7_isGapBefore_0 rfl rfl ?_
  refine vr_if_le dX7_isGapBefore_1 (tgt := 47) rfl (fun zd_1 => ?_) (fun zd_1 => ?_)
  · replace zh := zh.1 zd_1
    refine vr_iconst dX7_isGapBefore_47 (v := (0 : Int32)) (by decide) ?_
    exact vr_zret dX7_isGapBefore_48 rfl (Or.inl rfl) zh
  · replace zh := zh.2 zd_1
    refine vr_aload_n dX7_isGapBefore_4 rfl rfl ?_
    refine vr_iload_n dX7_isGapBefore_5 rfl rfl ?_
    refine vr_iconst dX7_isGapBefore_6 (v := (1 : Int32)) (by decide) ?_
    refine vr_isub dX7_isGapBefore_7 ?_
    refine vr_iconst dX7_isGapBefore_8 (v := (0 : Int32)) (by decide) ?_
    obtain ⟨v4, s2, zw1, zf_3, zh⟩ := zh
    refine vc_V (As := [.int (l1 - (1 : Int32)), .int (0 : Int32)]) (rest := []) dX7_isGapBefore_9 cV_LitmusTester_Program_48 (wC_pg zw zha) rfl rfl (Nat.le_of_ble_eq_true rfl) (Nat.le_of_ble_eq_true rfl) (co_n zf_3 ?_)
    replace zw := zw1
    refine vr_aload_n dX7_isGapBefore_12 rfl rfl ?_
    refine vr_iload_n dX7_isGapBefore_13 rfl rfl ?_
    refine vr_iconst dX7_isGapBefore_14 (v := (0 : Int32)) (by decide) ?_
    obtain ⟨v7, s5, zw1, zf_6, zh⟩ := zh
    refine vc_V (As := [.int l1, .int (0 : Int32)]) (rest := [.int v4]) dX7_isGapBefore_15 cV_LitmusTester_Program_48 (wC_pg zw zha) rfl rfl (Nat.le_of_ble_eq_true rfl) (Nat.le_of_ble_eq_true rfl) (co_n zf_6 ?_)
    replace zw := zw1
    refine vr_ic_ne dX7_isGapBefore_18 (tgt := 47) rfl (fun zd_8 => ?_) (fun zd_8 => ?_)
    · replace zh := zh.2 zd_8
      refine vr_iconst dX7_isGapBefore_47 (v := (0 : Int32)) (by decide) ?_
      exact vr_zret dX7_isGapBefore_48 rfl (Or.inl rfl) zh
    · replace zh := zh.1 zd_8
      refine vr_aload_n dX7_isGapBefore_21 rfl rfl ?_
      refine vr_iload_n dX7_isGapBefore_22 rfl rfl ?_
      refine vr_iconst dX7_isGapBefore_23 (v := (1 : Int32)) (by decide) ?_
      refine vr_isub dX7_isGapBefore_24 ?_
      refine vr_iconst dX7_isGapBefore_25 (v := (1 : Int32)) (by decide) ?_
      obtain ⟨v11, s9, zw1, zf_10, zh⟩ := zh
      refine vc_V (As := [.int (l1 - (1 : Int32)), .int (1 : Int32)]) (rest := []) dX7_isGapBefore_26 cV_LitmusTester_Program_48 (wC_pg zw zha) rfl rfl (Nat.le_of_ble_eq_true rfl) (Nat.le_of_ble_eq_true rfl) (co_n zf_10 ?_)
      replace zw := zw1
      refine vr_iconst dX7_isGapBefore_29 (v := (3 : Int32)) (by decide) ?_
      refine vr_ic_eq dX7_isGapBefore_30 (tgt := 47) rfl (fun zd_12 => ?_) (fun zd_12 => ?_)
      · replace zh := zh.1 zd_12
        refine vr_iconst dX7_isGapBefore_47 (v := (0 : Int32)) (by decide) ?_
        exact vr_zret dX7_isGapBefore_48 rfl (Or.inl rfl) zh
      · replace zh := zh.2 zd_12
        refine vr_aload_n dX7_isGapBefore_33 rfl rfl ?_
        refine vr_iload_n dX7_isGapBefore_34 rfl rfl ?_
        refine vr_iconst dX7_isGapBefore_35 (v := (1 : Int32)) (by decide) ?_
        obtain ⟨v15, s13, zw1, zf_14, zh⟩ := zh
        refine vc_V (As := [.int l1, .int (1 : Int32)]) (rest := []) dX7_isGapBefore_36 cV_LitmusTester_Program_48 (wC_pg zw zha) rfl rfl (Nat.le_of_ble_eq_true rfl) (Nat.le_of_ble_eq_true rfl) (co_n zf_14 ?_)
        replace zw := zw1
        refine vr_iconst dX7_isGapBefore_39 (v := (3 : Int32)) (by decide) ?_
        refine vr_ic_eq dX7_isGapBefore_40 (tgt := 47) rfl (fun zd_16 => ?_) (fun zd_16 => ?_)
        · replace zh := zh.1 zd_16
          refine vr_iconst dX7_isGapBefore_47 (v := (0 : Int32)) (by decide) ?_
          exact vr_zret dX7_isGapBefore_48 rfl (Or.inl rfl) zh
        · replace zh := zh.2 zd_16
          refine vr_iconst dX7_isGapBefore_43 (v := (1 : Int32)) (by decide) ?_
          refine vr_goto dX7_isGapBefore_44 (tgt := 48) rfl ?_
          exact vr_zret dX7_isGapBefore_48 rfl (Or.inr rfl) zh
theorem e_X7_isGapBefore {γ : ga_T} {a : Nat} {l1 : Int32} {σ : st_T} {Q : rs_T → st_T → Prop} (zha : is_pg a) (zw : Wd σ) (zh : p_X7_isGapBefore_0 γ a l1 σ Q) : sp_ γ m_X7_isGapBefore 1 [.ref a, .int l1] σ Q := sp_of (pl_X7_isGapBefore) rfl (Nat.le_of_ble_eq_true rfl) (g_X7_isGapBefore_0 zha zw zh)
def p_X7_gaps_0 (γ : ga_T) (a : Nat) (σ : st_T) (Q : rs_T → st_T → Prop) : Prop :=
  vv_ γ m_X7_gaps 2 4 [(0, .ref a), (1, .int (0 : Int32)), (2, .int (0 : Int32))] [] σ Q
set_option maxRecDepth 10000 in
theorem g_X7_gaps_0 {γ : ga_T} {a : Nat} {σ : st_T} {Q : rs_T → st_T → Prop} (zha : is_pg a) (zw : Wd σ) (zh : p_X7_gaps_0 γ a σ Q) : vv_ γ m_X7_gaps 2 0 [(0, .ref a)] [] σ Q := by
  unfold p_X7_gaps_0 at zh
  refine vr_iconst dX7_gaps_0 (v := (0 : Int32)) (by decide) ?_
  refine vr_istore_n dX7_gaps_1 rfl (Nat.le_of_ble_eq_true rfl) (vv_eq (ls' := [(0, .ref a), (1, .int (0 : Int32))]) rfl ?_)
  refine vr_iconst dX7_gaps_2 (v := (0 : Int32)) (by decide) ?_
  refine vr_istore_n dX7_gaps_3 rfl (Nat.le_of_ble_eq_true rfl) (vv_eq (ls' := [(0, .ref a), (1, .int (0 : Int32)), (2, .int (0 : Int32))]) rfl ?_)
  exact vv_sub (ls' := [(0, .ref a), (1, .int (0 : Int32)), (2, .int (0 : Int32))]) ⟨rfl, rfl, rfl, trivial⟩ zh
theorem e_X7_gaps {γ : ga_T} {a : Nat} {σ : st_T} {Q : rs_T → st_T → Prop} (zha : is_pg a) (zw : Wd σ) (zh : p_X7_gaps_0 γ a σ Q) : sp_ γ m_X7_gaps 2 [.ref a] σ Q := sp_of (pl_X7_gaps) rfl (Nat.le_of_ble_eq_true rfl) (g_X7_gaps_0 zha zw zh)
def p_X7_gaps_4 (γ : ga_T) (a : Nat) (l1 : Int32) (l2 : Int32) (σ : st_T) (Q : rs_T → st_T → Prop) : Prop :=
  ((st_I σ a 6) ≤ l2 →
    Q (.inl (some (.int l1))) σ
  ) ∧ (¬ (st_I σ a 6) ≤ l2 →
    ∃ (v4 : Int32) (s2 : st_T), Wd s2 ∧ fn_ γ m_X7_isGapBefore 1 [.ref a, .int l2] σ (.int v4) s2 ∧
    (v4 = (0 : Int32) →
      vv_ γ m_X7_gaps 2 4 [(0, .ref a), (1, .int l1), (2, .int (l2 + 1))] [] s2 Q
    ) ∧ (¬ v4 = (0 : Int32) →
      vv_ γ m_X7_gaps 2 4 [(0, .ref a), (1, .int (l1 + 1)), (2, .int (l2 + 1))] [] s2 Q
    )
  )
set_option maxRecDepth 10000 in
theorem g_X7_gaps_4 {γ : ga_T} {a : Nat} {l1 : Int32} {l2 : Int32} {σ : st_T} {Q : rs_T → st_T → Prop} (zha : is_pg a) (zw : Wd σ) (zh : p_X7_gaps_4 γ a l1 l2 σ Q) : vv_ γ m_X7_gaps 2 4 [(0, .ref a), (1, .int l1), (2, .int l2)] [] σ Q := by
  unfold p_X7_gaps_4 at zh
  refine vr_iload_n dX7_gaps_4 rfl rfl ?_
  refine vr_aload_n dX7_gaps_5 rfl rfl ?_
  refine vr_getI dX7_gaps_6 fl_LitmusTester_Program_32 (wC_pg zw zha) rfl ?_
  refine vr_ic_ge dX7_gaps_9 (tgt := 29) rfl (fun zd_1 => ?_) (fun zd_1 => ?_)
  · replace zh := zh.1 zd_1
    refine vr_iload_n dX7_gaps_29 rfl rfl ?_
    exact vr_iret dX7_gaps_30 rfl zh
  · replace zh := zh.2 zd_1
    refine vr_aload_n dX7_gaps_12 rfl rfl ?_
    refine vr_iload_n dX7_gaps_13 rfl rfl ?_
    obtain ⟨v4, s2, zw1, zf_3, zh⟩ := zh
    refine vc_V (As := [.int l2]) (rest := []) dX7_gaps_14 cV_LitmusTester_Program_66 (wC_pg zw zha) rfl rfl (Nat.le_of_ble_eq_true rfl) (Nat.le_of_ble_eq_true rfl) (co_n zf_3 ?_)
    replace zw := zw1
    refine vr_if_eq dX7_gaps_17 (tgt := 23) rfl (fun zd_5 => ?_) (fun zd_5 => ?_)
    · replace zh := zh.1 zd_5
      refine vr_iinc dX7_gaps_23 (x := l2) (v := (l2 + 1)) rfl (ii_ (by decide)) (Nat.le_of_ble_eq_true rfl) (vv_eq (ls' := [(0, .ref a), (1, .int l1), (2, .int (l2 + 1))]) rfl ?_)
      refine vr_goto dX7_gaps_26 (tgt := 4) rfl ?_
      exact vv_sub (ls' := [(0, .ref a), (1, .int l1), (2, .int (l2 + 1))]) ⟨rfl, rfl, rfl, trivial⟩ zh
    · replace zh := zh.2 zd_5
      refine vr_iinc dX7_gaps_20 (x := l1) (v := (l1 + 1)) rfl (ii_ (by decide)) (Nat.le_of_ble_eq_true rfl) (vv_eq (ls' := [(0, .ref a), (1, .int (l1 + 1)), (2, .int l2)]) rfl ?_)
      refine vr_iinc dX7_gaps_23 (x := l2) (v := (l2 + 1)) rfl (ii_ (by decide)) (Nat.le_of_ble_eq_true rfl) (vv_eq (ls' := [(0, .ref a), (1, .int (l1 + 1)), (2, .int (l2 + 1))]) rfl ?_)
      refine vr_goto dX7_gaps_26 (tgt := 4) rfl ?_
      exact vv_sub (ls' := [(0, .ref a), (1, .int (l1 + 1)), (2, .int (l2 + 1))]) ⟨rfl, rfl, rfl, trivial⟩ zh
def p_X7_placeOfGap_0 (γ : ga_T) (a : Nat) (l1 : Int32) (σ : st_T) (Q : rs_T → st_T → Prop) : Prop :=
  vv_ γ m_X7_placeOfGap 2 4 [(0, .ref a), (1, .int l1), (2, .int (0 : Int32)), (3, .int (0 : Int32))] [] σ Q
set_option maxRecDepth 10000 in
theorem g_X7_placeOfGap_0 {γ : ga_T} {a : Nat} {l1 : Int32} {σ : st_T} {Q : rs_T → st_T → Prop} (zha : is_pg a) (zw : Wd σ) (zh : p_X7_placeOfGap_0 γ a l1 σ Q) : vv_ γ m_X7_placeOfGap 2 0 [(0, .ref a), (1, .int l1)] [] σ Q := by
  unfold p_X7_placeOfGap_0 at zh
  refine vr_iconst dX7_placeOfGap_0 (v := (0 : Int32)) (by decide) ?_
  refine vr_istore_n dX7_placeOfGap_1 rfl (Nat.le_of_ble_eq_true rfl) (vv_eq (ls' := [(0, .ref a), (1, .int l1), (2, .int (0 : Int32))]) rfl ?_)
  refine vr_iconst dX7_placeOfGap_2 (v := (0 : Int32)) (by decide) ?_
  refine vr_istore_n dX7_placeOfGap_3 rfl (Nat.le_of_ble_eq_true rfl) (vv_eq (ls' := [(0, .ref a), (1, .int l1), (2, .int (0 : Int32)), (3, .int (0 : Int32))]) rfl ?_)
  exact vv_sub (ls' := [(0, .ref a), (1, .int l1), (2, .int (0 : Int32)), (3, .int (0 : Int32))]) ⟨rfl, rfl, rfl, rfl, trivial⟩ zh
theorem e_X7_placeOfGap {γ : ga_T} {a : Nat} {l1 : Int32} {σ : st_T} {Q : rs_T → st_T → Prop} (zha : is_pg a) (zw : Wd σ) (zh : p_X7_placeOfGap_0 γ a l1 σ Q) : sp_ γ m_X7_placeOfGap 2 [.ref a, .int l1] σ Q := sp_of (pl_X7_placeOfGap) rfl (Nat.le_of_ble_eq_true rfl) (g_X7_placeOfGap_0 zha zw zh)
def p_X7_placeOfGap_4 (γ : ga_T) (a : Nat) (l1 : Int32) (l2 : Int32) (l3 : Int32) (σ : st_T) (Q : rs_T → st_T → Prop) : Prop :=
  ((st_I σ a 6) ≤ l3 →
    Q (.inl (some (.int (-1 : Int32)))) σ
  ) ∧ (¬ (st_I σ a 6) ≤ l3 →
    ∃ (v4 : Int32) (s2 : st_T), Wd s2 ∧ fn_ γ m_X7_isGapBefore 1 [.ref a, .int l3] σ (.int v4) s2 ∧
    (v4 = (0 : Int32) →
      vv_ γ m_X7_placeOfGap 2 4 [(0, .ref a), (1, .int l1), (2, .int l2), (3, .int (l3 + 1))] [] s2 Q
    ) ∧ (¬ v4 = (0 : Int32) →
      (l2 = l1 →
        Q (.inl (some (.int l3))) s2
      ) ∧ (¬ l2 = l1 →
        vv_ γ m_X7_placeOfGap 2 4 [(0, .ref a), (1, .int l1), (2, .int (l2 + 1)), (3, .int (l3 + 1))] [] s2 Q
      )
    )
  )
set_option maxRecDepth 10000 in
theorem g_X7_placeOfGap_4 {γ : ga_T} {a : Nat} {l1 : Int32} {l2 : Int32} {l3 : Int32} {σ : st_T} {Q : rs_T → st_T → Prop} (zha : is_pg a) (zw : Wd σ) (zh : p_X7_placeOfGap_4 γ a l1 l2 l3 σ Q) : vv_ γ m_X7_placeOfGap 2 4 [(0, .ref a), (1, .int l1), (2, .int l2), (3, .int l3)] [] σ Q := by
  unfold p_X7_placeOfGap_4 at zh
  refine vr_iload_n dX7_placeOfGap_4 rfl rfl ?_
  refine vr_aload_n dX7_placeOfGap_5 rfl rfl ?_
  refine vr_getI dX7_placeOfGap_6 fl_LitmusTester_Program_32 (wC_pg zw zha) rfl ?_
  refine vr_ic_ge dX7_placeOfGap_9 (tgt := 36) rfl (fun zd_1 => ?_) (fun zd_1 => ?_)
  · replace zh := zh.1 zd_1
    refine vr_iconst dX7_placeOfGap_36 (v := (-1 : Int32)) (by decide) ?_
    exact vr_iret dX7_placeOfGap_37 rfl zh
  · replace zh := zh.2 zd_1
    refine vr_aload_n dX7_placeOfGap_12 rfl rfl ?_
    refine vr_iload_n dX7_placeOfGap_13 rfl rfl ?_
    obtain ⟨v4, s2, zw1, zf_3, zh⟩ := zh
    refine vc_V (As := [.int l3]) (rest := []) dX7_placeOfGap_14 cV_LitmusTester_Program_66 (wC_pg zw zha) rfl rfl (Nat.le_of_ble_eq_true rfl) (Nat.le_of_ble_eq_true rfl) (co_n zf_3 ?_)
    replace zw := zw1
    refine vr_if_eq dX7_placeOfGap_17 (tgt := 30) rfl (fun zd_5 => ?_) (fun zd_5 => ?_)
    · replace zh := zh.1 zd_5
      refine vr_iinc dX7_placeOfGap_30 (x := l3) (v := (l3 + 1)) rfl (ii_ (by decide)) (Nat.le_of_ble_eq_true rfl) (vv_eq (ls' := [(0, .ref a), (1, .int l1), (2, .int l2), (3, .int (l3 + 1))]) rfl ?_)
      refine vr_goto dX7_placeOfGap_33 (tgt := 4) rfl ?_
      exact vv_sub (ls' := [(0, .ref a), (1, .int l1), (2, .int l2), (3, .int (l3 + 1))]) ⟨rfl, rfl, rfl, rfl, trivial⟩ zh
    · replace zh := zh.2 zd_5
      refine vr_iload_n dX7_placeOfGap_20 rfl rfl ?_
      refine vr_iload_n dX7_placeOfGap_21 rfl rfl ?_
      refine vr_ic_ne dX7_placeOfGap_22 (tgt := 27) rfl (fun zd_6 => ?_) (fun zd_6 => ?_)
      · replace zh := zh.2 zd_6
        refine vr_iinc dX7_placeOfGap_27 (x := l2) (v := (l2 + 1)) rfl (ii_ (by decide)) (Nat.le_of_ble_eq_true rfl) (vv_eq (ls' := [(0, .ref a), (1, .int l1), (2, .int (l2 + 1)), (3, .int l3)]) rfl ?_)
        refine vr_iinc dX7_placeOfGap_30 (x := l3) (v := (l3 + 1)) rfl (ii_ (by decide)) (Nat.le_of_ble_eq_true rfl) (vv_eq (ls' := [(0, .ref a), (1, .int l1), (2, .int (l2 + 1)), (3, .int (l3 + 1))]) rfl ?_)
        refine vr_goto dX7_placeOfGap_33 (tgt := 4) rfl ?_
        exact vv_sub (ls' := [(0, .ref a), (1, .int l1), (2, .int (l2 + 1)), (3, .int (l3 + 1))]) ⟨rfl, rfl, rfl, rfl, trivial⟩ zh
      · replace zh := zh.1 zd_6
        refine vr_iload_n dX7_placeOfGap_25 rfl rfl ?_
        exact vr_iret dX7_placeOfGap_26 rfl zh
def p_X7_mostStoresBuffered_0 (γ : ga_T) (a : Nat) (l1 : Int32) (σ : st_T) (Q : rs_T → st_T → Prop) : Prop :=
  vv_ γ m_X7_mostStoresBuffered 1 7 [(0, .ref a), (1, .int l1), (2, .int (0 : Int32)), (3, .int (0 : Int32)), (4, .int (0 : Int32))] [] σ Q
set_option maxRecDepth 10000 in
theorem g_X7_mostStoresBuffered_0 {γ : ga_T} {a : Nat} {l1 : Int32} {σ : st_T} {Q : rs_T → st_T → Prop} (zha : is_pg a) (zw : Wd σ) (zh : p_X7_mostStoresBuffered_0 γ a l1 σ Q) : vv_ γ m_X7_mostStoresBuffered 1 0 [(0, .ref a), (1, .int l1)] [] σ Q := by
  unfold p_X7_mostStoresBuffered_0 at zh
  refine vr_iconst dX7_mostStoresBuffered_0 (v := (0 : Int32)) (by decide) ?_
  refine vr_istore_n dX7_mostStoresBuffered_1 rfl (Nat.le_of_ble_eq_true rfl) (vv_eq (ls' := [(0, .ref a), (1, .int l1), (2, .int (0 : Int32))]) rfl ?_)
  refine vr_iconst dX7_mostStoresBuffered_2 (v := (0 : Int32)) (by decide) ?_
  refine vr_istore_n dX7_mostStoresBuffered_3 rfl (Nat.le_of_ble_eq_true rfl) (vv_eq (ls' := [(0, .ref a), (1, .int l1), (2, .int (0 : Int32)), (3, .int (0 : Int32))]) rfl ?_)
  refine vr_iconst dX7_mostStoresBuffered_4 (v := (0 : Int32)) (by decide) ?_
  refine vr_istore dX7_mostStoresBuffered_5 (Nat.le_of_ble_eq_true rfl) (vv_eq (ls' := [(0, .ref a), (1, .int l1), (2, .int (0 : Int32)), (3, .int (0 : Int32)), (4, .int (0 : Int32))]) rfl ?_)
  exact vv_sub (ls' := [(0, .ref a), (1, .int l1), (2, .int (0 : Int32)), (3, .int (0 : Int32)), (4, .int (0 : Int32))]) ⟨rfl, rfl, rfl, rfl, rfl, trivial⟩ zh
theorem e_X7_mostStoresBuffered {γ : ga_T} {a : Nat} {l1 : Int32} {σ : st_T} {Q : rs_T → st_T → Prop} (zha : is_pg a) (zw : Wd σ) (zh : p_X7_mostStoresBuffered_0 γ a l1 σ Q) : sp_ γ m_X7_mostStoresBuffered 1 [.ref a, .int l1] σ Q := sp_of (pl_X7_mostStoresBuffered) rfl (Nat.le_of_ble_eq_true rfl) (g_X7_mostStoresBuffered_0 zha zw zh)
def p_X7_mostStoresBuffered_7 (γ : ga_T) (a : Nat) (l1 : Int32) (l2 : Int32) (l3 : Int32) (l4 : Int32) (σ : st_T) (Q : rs_T → st_T → Prop) : Prop :=
  ((st_I σ a 6) ≤ l4 →
    Q (.inl (some (.int l2))) σ
  ) ∧ (¬ (st_I σ a 6) ≤ l4 →
    ∃ (v4 : Int32) (s2 : st_T), Wd s2 ∧ fn_ γ m_X7_property 0 [.ref a, .int l4, .int (0 : Int32)] σ (.int v4) s2 ∧
    (v4 = l1 →
      ∃ (v8 : Int32) (s6 : st_T), Wd s6 ∧ fn_ γ m_X7_property 0 [.ref a, .int l4, .int (1 : Int32)] s2 (.int v8) s6 ∧
      (v8 = (3 : Int32) →
        vv_ γ m_X7_mostStoresBuffered 1 7 [(0, .ref a), (1, .int l1), (2, .int (if l2 < (0 : Int32) then (0 : Int32) else l2)), (3, .int (0 : Int32)), (4, .int (l4 + 1))] [] s6 Q
      ) ∧ (¬ v8 = (3 : Int32) →
        (v8 = (2 : Int32) →
          vv_ γ m_X7_mostStoresBuffered 1 7 [(0, .ref a), (1, .int l1), (2, .int (if l2 < (0 : Int32) then (0 : Int32) else l2)), (3, .int (0 : Int32)), (4, .int (l4 + 1))] [] s6 Q
        ) ∧ (¬ v8 = (2 : Int32) →
          (v8 = (0 : Int32) →
            vv_ γ m_X7_mostStoresBuffered 1 7 [(0, .ref a), (1, .int l1), (2, .int (if l2 < (l3 + (1 : Int32)) then (l3 + (1 : Int32)) else l2)), (3, .int (l3 + (1 : Int32))), (4, .int (l4 + 1))] [] s6 Q
          ) ∧ (¬ v8 = (0 : Int32) →
            vv_ γ m_X7_mostStoresBuffered 1 7 [(0, .ref a), (1, .int l1), (2, .int (if l2 < l3 then l3 else l2)), (3, .int l3), (4, .int (l4 + 1))] [] s6 Q
          )
        )
      )
    ) ∧ (¬ v4 = l1 →
      vv_ γ m_X7_mostStoresBuffered 1 7 [(0, .ref a), (1, .int l1), (2, .int l2), (3, .int l3), (4, .int (l4 + 1))] [] s2 Q
    )
  )
set_option maxRecDepth 10000 in
theorem g_X7_mostStoresBuffered_7 {γ : ga_T} {a : Nat} {l1 : Int32} {l2 : Int32} {l3 : Int32} {l4 : Int32} {σ : st_T} {Q : rs_T → st_T → Prop} (zha : is_pg a) (zw : Wd σ) (zh : p_X7_mostStoresBuffered_7 γ a l1 l2 l3 l4 σ Q) : vv_ γ m_X7_mostStoresBuffered 1 7 [(0, .ref a), (1, .int l1), (2, .int l2), (3, .int l3), (4, .int l4)] [] σ Q := by
  unfold p_X7_mostStoresBuffered_7 at zh
  refine vr_iload dX7_mostStoresBuffered_7 rfl ?_
  refine vr_aload_n dX7_mostStoresBuffered_9 rfl rfl ?_
  refine vr_getI dX7_mostStoresBuffered_10 fl_LitmusTester_Program_32 (wC_pg zw zha) rfl ?_
  refine vr_ic_ge dX7_mostStoresBuffered_13 (tgt := 77) rfl (fun zd_1 => ?_) (fun zd_1 => ?_)
  · replace zh := zh.1 zd_1
    refine vr_iload_n dX7_mostStoresBuffered_77 rfl rfl ?_
    exact vr_iret dX7_mostStoresBuffered_78 rfl zh
  · replace zh := zh.2 zd_1
    refine vr_aload_n dX7_mostStoresBuffered_16 rfl rfl ?_
    refine vr_iload dX7_mostStoresBuffered_17 rfl ?_
    refine vr_iconst dX7_mostStoresBuffered_19 (v := (0 : Int32)) (by decide) ?_
    obtain ⟨v4, s2, zw1, zf_3, zh⟩ := zh
    refine vc_V (As := [.int l4, .int (0 : Int32)]) (rest := []) dX7_mostStoresBuffered_20 cV_LitmusTester_Program_48 (wC_pg zw zha) rfl rfl (Nat.le_of_ble_eq_true rfl) (Nat.le_of_ble_eq_true rfl) (co_n zf_3 ?_)
    replace zw := zw1
    refine vr_iload_n dX7_mostStoresBuffered_23 rfl rfl ?_
    refine vr_ic_ne dX7_mostStoresBuffered_24 (tgt := 71) rfl (fun zd_5 => ?_) (fun zd_5 => ?_)
    · replace zh := zh.2 zd_5
      refine vr_iinc dX7_mostStoresBuffered_71 (x := l4) (v := (l4 + 1)) rfl (ii_ (by decide)) (Nat.le_of_ble_eq_true rfl) (vv_eq (ls' := [(0, .ref a), (1, .int l1), (2, .int l2), (3, .int l3), (4, .int (l4 + 1))]) rfl ?_)
      refine vr_goto dX7_mostStoresBuffered_74 (tgt := 7) rfl ?_
      exact vv_sub (ls' := [(0, .ref a), (1, .int l1), (2, .int l2), (3, .int l3), (4, .int (l4 + 1))]) ⟨rfl, rfl, rfl, rfl, rfl, trivial⟩ zh
    · replace zh := zh.1 zd_5
      refine vr_aload_n dX7_mostStoresBuffered_27 rfl rfl ?_
      refine vr_iload dX7_mostStoresBuffered_28 rfl ?_
      refine vr_iconst dX7_mostStoresBuffered_30 (v := (1 : Int32)) (by decide) ?_
      obtain ⟨v8, s6, zw1, zf_7, zh⟩ := zh
      refine vc_V (As := [.int l4, .int (1 : Int32)]) (rest := []) dX7_mostStoresBuffered_31 cV_LitmusTester_Program_48 (wC_pg zw zha) rfl rfl (Nat.le_of_ble_eq_true rfl) (Nat.le_of_ble_eq_true rfl) (co_n zf_7 ?_)
      replace zw := zw1
      refine vr_istore dX7_mostStoresBuffered_34 (Nat.le_of_ble_eq_true rfl) (vv_eq (ls' := [(0, .ref a), (1, .int l1), (2, .int l2), (3, .int l3), (4, .int l4), (5, .int v8)]) rfl ?_)
      refine vr_iload dX7_mostStoresBuffered_36 rfl ?_
      refine vr_iconst dX7_mostStoresBuffered_38 (v := (3 : Int32)) (by decide) ?_
      refine vr_ic_eq dX7_mostStoresBuffered_39 (tgt := 48) rfl (fun zd_9 => ?_) (fun zd_9 => ?_)
      · replace zh := zh.1 zd_9
        refine vr_iconst dX7_mostStoresBuffered_48 (v := (0 : Int32)) (by decide) ?_
        refine vr_goto dX7_mostStoresBuffered_49 (tgt := 64) rfl ?_
        refine vr_istore_n dX7_mostStoresBuffered_64 rfl (Nat.le_of_ble_eq_true rfl) (vv_eq (ls' := [(0, .ref a), (1, .int l1), (2, .int l2), (3, .int (0 : Int32)), (4, .int l4), (5, .int v8)]) rfl ?_)
        refine vr_iload_n dX7_mostStoresBuffered_65 rfl rfl ?_
        refine vr_iload_n dX7_mostStoresBuffered_66 rfl rfl ?_
        refine vr_mmax dX7_mostStoresBuffered_67 mm_LitmusTester_Program_70 (Nat.le_of_ble_eq_true rfl) (Nat.le_of_ble_eq_true rfl) ?_
        refine vr_istore_n dX7_mostStoresBuffered_70 rfl (Nat.le_of_ble_eq_true rfl) (vv_eq (ls' := [(0, .ref a), (1, .int l1), (2, .int (if l2 < (0 : Int32) then (0 : Int32) else l2)), (3, .int (0 : Int32)), (4, .int l4), (5, .int v8)]) rfl ?_)
        refine vr_iinc dX7_mostStoresBuffered_71 (x := l4) (v := (l4 + 1)) rfl (ii_ (by decide)) (Nat.le_of_ble_eq_true rfl) (vv_eq (ls' := [(0, .ref a), (1, .int l1), (2, .int (if l2 < (0 : Int32) then (0 : Int32) else l2)), (3, .int (0 : Int32)), (4, .int (l4 + 1)), (5, .int v8)]) rfl ?_)
        refine vr_goto dX7_mostStoresBuffered_74 (tgt := 7) rfl ?_
        exact vv_sub (ls' := [(0, .ref a), (1, .int l1), (2, .int (if l2 < (0 : Int32) then (0 : Int32) else l2)), (3, .int (0 : Int32)), (4, .int (l4 + 1))]) ⟨rfl, rfl, rfl, rfl, rfl, trivial⟩ zh
      · replace zh := zh.2 zd_9
        refine vr_iload dX7_mostStoresBuffered_42 rfl ?_
        refine vr_iconst dX7_mostStoresBuffered_44 (v := (2 : Int32)) (by decide) ?_
        refine vr_ic_ne dX7_mostStoresBuffered_45 (tgt := 52) rfl (fun zd_10 => ?_) (fun zd_10 => ?_)
        · replace zh := zh.2 zd_10
          refine vr_iload dX7_mostStoresBuffered_52 rfl ?_
          refine vr_if_ne dX7_mostStoresBuffered_54 (tgt := 63) rfl (fun zd_11 => ?_) (fun zd_11 => ?_)
          · replace zh := zh.2 zd_11
            refine vr_iload_n dX7_mostStoresBuffered_63 rfl rfl ?_
            refine vr_istore_n dX7_mostStoresBuffered_64 rfl (Nat.le_of_ble_eq_true rfl) (vv_eq (ls' := [(0, .ref a), (1, .int l1), (2, .int l2), (3, .int l3), (4, .int l4), (5, .int v8)]) rfl ?_)
            refine vr_iload_n dX7_mostStoresBuffered_65 rfl rfl ?_
            refine vr_iload_n dX7_mostStoresBuffered_66 rfl rfl ?_
            refine vr_mmax dX7_mostStoresBuffered_67 mm_LitmusTester_Program_70 (Nat.le_of_ble_eq_true rfl) (Nat.le_of_ble_eq_true rfl) ?_
            refine vr_istore_n dX7_mostStoresBuffered_70 rfl (Nat.le_of_ble_eq_true rfl) (vv_eq (ls' := [(0, .ref a), (1, .int l1), (2, .int (if l2 < l3 then l3 else l2)), (3, .int l3), (4, .int l4), (5, .int v8)]) rfl ?_)
            refine vr_iinc dX7_mostStoresBuffered_71 (x := l4) (v := (l4 + 1)) rfl (ii_ (by decide)) (Nat.le_of_ble_eq_true rfl) (vv_eq (ls' := [(0, .ref a), (1, .int l1), (2, .int (if l2 < l3 then l3 else l2)), (3, .int l3), (4, .int (l4 + 1)), (5, .int v8)]) rfl ?_)
            refine vr_goto dX7_mostStoresBuffered_74 (tgt := 7) rfl ?_
            exact vv_sub (ls' := [(0, .ref a), (1, .int l1), (2, .int (if l2 < l3 then l3 else l2)), (3, .int l3), (4, .int (l4 + 1))]) ⟨rfl, rfl, rfl, rfl, rfl, trivial⟩ zh
          · replace zh := zh.1 zd_11
            refine vr_iload_n dX7_mostStoresBuffered_57 rfl rfl ?_
            refine vr_iconst dX7_mostStoresBuffered_58 (v := (1 : Int32)) (by decide) ?_
            refine vr_iadd dX7_mostStoresBuffered_59 ?_
            refine vr_goto dX7_mostStoresBuffered_60 (tgt := 64) rfl ?_
            refine vr_istore_n dX7_mostStoresBuffered_64 rfl (Nat.le_of_ble_eq_true rfl) (vv_eq (ls' := [(0, .ref a), (1, .int l1), (2, .int l2), (3, .int (l3 + (1 : Int32))), (4, .int l4), (5, .int v8)]) rfl ?_)
            refine vr_iload_n dX7_mostStoresBuffered_65 rfl rfl ?_
            refine vr_iload_n dX7_mostStoresBuffered_66 rfl rfl ?_
            refine vr_mmax dX7_mostStoresBuffered_67 mm_LitmusTester_Program_70 (Nat.le_of_ble_eq_true rfl) (Nat.le_of_ble_eq_true rfl) ?_
            refine vr_istore_n dX7_mostStoresBuffered_70 rfl (Nat.le_of_ble_eq_true rfl) (vv_eq (ls' := [(0, .ref a), (1, .int l1), (2, .int (if l2 < (l3 + (1 : Int32)) then (l3 + (1 : Int32)) else l2)), (3, .int (l3 + (1 : Int32))), (4, .int l4), (5, .int v8)]) rfl ?_)
            refine vr_iinc dX7_mostStoresBuffered_71 (x := l4) (v := (l4 + 1)) rfl (ii_ (by decide)) (Nat.le_of_ble_eq_true rfl) (vv_eq (ls' := [(0, .ref a), (1, .int l1), (2, .int (if l2 < (l3 + (1 : Int32)) then (l3 + (1 : Int32)) else l2)), (3, .int (l3 + (1 : Int32))), (4, .int (l4 + 1)), (5, .int v8)]) rfl ?_)
            refine vr_goto dX7_mostStoresBuffered_74 (tgt := 7) rfl ?_
            exact vv_sub (ls' := [(0, .ref a), (1, .int l1), (2, .int (if l2 < (l3 + (1 : Int32)) then (l3 + (1 : Int32)) else l2)), (3, .int (l3 + (1 : Int32))), (4, .int (l4 + 1))]) ⟨rfl, rfl, rfl, rfl, rfl, trivial⟩ zh
        · replace zh := zh.1 zd_10
          refine vr_iconst dX7_mostStoresBuffered_48 (v := (0 : Int32)) (by decide) ?_
          refine vr_goto dX7_mostStoresBuffered_49 (tgt := 64) rfl ?_
          refine vr_istore_n dX7_mostStoresBuffered_64 rfl (Nat.le_of_ble_eq_true rfl) (vv_eq (ls' := [(0, .ref a), (1, .int l1), (2, .int l2), (3, .int (0 : Int32)), (4, .int l4), (5, .int v8)]) rfl ?_)
          refine vr_iload_n dX7_mostStoresBuffered_65 rfl rfl ?_
          refine vr_iload_n dX7_mostStoresBuffered_66 rfl rfl ?_
          refine vr_mmax dX7_mostStoresBuffered_67 mm_LitmusTester_Program_70 (Nat.le_of_ble_eq_true rfl) (Nat.le_of_ble_eq_true rfl) ?_
          refine vr_istore_n dX7_mostStoresBuffered_70 rfl (Nat.le_of_ble_eq_true rfl) (vv_eq (ls' := [(0, .ref a), (1, .int l1), (2, .int (if l2 < (0 : Int32) then (0 : Int32) else l2)), (3, .int (0 : Int32)), (4, .int l4), (5, .int v8)]) rfl ?_)
          refine vr_iinc dX7_mostStoresBuffered_71 (x := l4) (v := (l4 + 1)) rfl (ii_ (by decide)) (Nat.le_of_ble_eq_true rfl) (vv_eq (ls' := [(0, .ref a), (1, .int l1), (2, .int (if l2 < (0 : Int32) then (0 : Int32) else l2)), (3, .int (0 : Int32)), (4, .int (l4 + 1)), (5, .int v8)]) rfl ?_)
          refine vr_goto dX7_mostStoresBuffered_74 (tgt := 7) rfl ?_
          exact vv_sub (ls' := [(0, .ref a), (1, .int l1), (2, .int (if l2 < (0 : Int32) then (0 : Int32) else l2)), (3, .int (0 : Int32)), (4, .int (l4 + 1))]) ⟨rfl, rfl, rfl, rfl, rfl, trivial⟩ zh
def p_X7_isRacing_0 (γ : ga_T) (a : Nat) (l1 : Int32) (l2 : Int32) (σ : st_T) (Q : rs_T → st_T → Prop) : Prop :=
  ∃ (v3 : Int32) (s1 : st_T), Wd s1 ∧ fn_ γ m_X7_property 0 [.ref a, .int l1, .int (1 : Int32)] σ (.int v3) s1 ∧
  ∃ (v6 : Int32) (s4 : st_T), Wd s4 ∧ fn_ γ m_X7_property 0 [.ref a, .int l2, .int (1 : Int32)] s1 (.int v6) s4 ∧
  ∃ (v9 : Int32) (s7 : st_T), Wd s7 ∧ fn_ γ m_X7_property 0 [.ref a, .int l1, .int (2 : Int32)] s4 (.int v9) s7 ∧
  ∃ (v12 : Int32) (s10 : st_T), Wd s10 ∧ fn_ γ m_X7_property 0 [.ref a, .int l2, .int (2 : Int32)] s7 (.int v12) s10 ∧
  (v9 = v12 →
    (v3 = (3 : Int32) →
      Q (.inl (some (.int (0 : Int32)))) s10
    ) ∧ (¬ v3 = (3 : Int32) →
      (v6 = (3 : Int32) →
        Q (.inl (some (.int (0 : Int32)))) s10
      ) ∧ (¬ v6 = (3 : Int32) →
        (v3 = (1 : Int32) →
          (v6 = (1 : Int32) →
            (v3 = (2 : Int32) →
              (v6 = (2 : Int32) →
                Q (.inl (some (.int (0 : Int32)))) s10
              ) ∧ (¬ v6 = (2 : Int32) →
                Q (.inl (some (.int (0 : Int32)))) s10
              )
            ) ∧ (¬ v3 = (2 : Int32) →
              Q (.inl (some (.int (0 : Int32)))) s10
            )
          ) ∧ (¬ v6 = (1 : Int32) →
            (v3 = (2 : Int32) →
              (v6 = (2 : Int32) →
                Q (.inl (some (.int (0 : Int32)))) s10
              ) ∧ (¬ v6 = (2 : Int32) →
                ∃ (v24 : Int32) (s22 : st_T), Wd s22 ∧ fn_ γ m_X7_property 0 [.ref a, .int l1, .int (0 : Int32)] s10 (.int v24) s22 ∧
                ∃ (v27 : Int32) (s25 : st_T), Wd s25 ∧ fn_ γ m_X7_property 0 [.ref a, .int l2, .int (0 : Int32)] s22 (.int v27) s25 ∧
                (v24 = v27 →
                  Q (.inl (some (.int (0 : Int32)))) s25
                ) ∧ (¬ v24 = v27 →
                  Q (.inl (some (.int (1 : Int32)))) s25
                )
              )
            ) ∧ (¬ v3 = (2 : Int32) →
              ∃ (v31 : Int32) (s29 : st_T), Wd s29 ∧ fn_ γ m_X7_property 0 [.ref a, .int l1, .int (0 : Int32)] s10 (.int v31) s29 ∧
              ∃ (v34 : Int32) (s32 : st_T), Wd s32 ∧ fn_ γ m_X7_property 0 [.ref a, .int l2, .int (0 : Int32)] s29 (.int v34) s32 ∧
              (v31 = v34 →
                Q (.inl (some (.int (0 : Int32)))) s32
              ) ∧ (¬ v31 = v34 →
                Q (.inl (some (.int (1 : Int32)))) s32
              )
            )
          )
        ) ∧ (¬ v3 = (1 : Int32) →
          (v3 = (2 : Int32) →
            (v6 = (2 : Int32) →
              Q (.inl (some (.int (0 : Int32)))) s10
            ) ∧ (¬ v6 = (2 : Int32) →
              ∃ (v40 : Int32) (s38 : st_T), Wd s38 ∧ fn_ γ m_X7_property 0 [.ref a, .int l1, .int (0 : Int32)] s10 (.int v40) s38 ∧
              ∃ (v43 : Int32) (s41 : st_T), Wd s41 ∧ fn_ γ m_X7_property 0 [.ref a, .int l2, .int (0 : Int32)] s38 (.int v43) s41 ∧
              (v40 = v43 →
                Q (.inl (some (.int (0 : Int32)))) s41
              ) ∧ (¬ v40 = v43 →
                Q (.inl (some (.int (1 : Int32)))) s41
              )
            )
          ) ∧ (¬ v3 = (2 : Int32) →
            ∃ (v47 : Int32) (s45 : st_T), Wd s45 ∧ fn_ γ m_X7_property 0 [.ref a, .int l1, .int (0 : Int32)] s10 (.int v47) s45 ∧
            ∃ (v50 : Int32) (s48 : st_T), Wd s48 ∧ fn_ γ m_X7_property 0 [.ref a, .int l2, .int (0 : Int32)] s45 (.int v50) s48 ∧
            (v47 = v50 →
              Q (.inl (some (.int (0 : Int32)))) s48
            ) ∧ (¬ v47 = v50 →
              Q (.inl (some (.int (1 : Int32)))) s48
            )
          )
        )
      )
    )
  ) ∧ (¬ v9 = v12 →
    (v3 = (3 : Int32) →
      Q (.inl (some (.int (0 : Int32)))) s10
    ) ∧ (¬ v3 = (3 : Int32) →
      (v6 = (3 : Int32) →
        Q (.inl (some (.int (0 : Int32)))) s10
      ) ∧ (¬ v6 = (3 : Int32) →
        Q (.inl (some (.int (0 : Int32)))) s10
      )
    )
  )
set_option maxRecDepth 10000 in
theorem g_X7_isRacing_0 {γ : ga_T} {a : Nat} {l1 : Int32} {l2 : Int32} {σ : st_T} {Q : rs_T → st_T → Prop} (zha : is_pg a) (zw : Wd σ) (zh : p_X7_isRacing_0 γ a l1 l2 σ Q) : vv_ γ m_X7_isRacing 1 0 [(0, .ref a), (1, .int l1), (2, .int l2)] [] σ Q := by
  unfold p_X7_isRacing_0 at zh
  refine vr_aload_n dX7_isRacing_0 rfl rfl ?_
  refine vr_iload_n dX7_isRacing_1 rfl rfl ?_
  refine vr_iconst dX7_isRacing_2 (v := (1 : Int32)) (by decide) ?_
  obtain ⟨v3, s1, zw1, zf_2, zh⟩ := zh
  refine vc_V (As := [.int l1, .int (1 : Int32)]) (rest := []) dX7_isRacing_3 cV_LitmusTester_Program_48 (wC_pg zw zha) rfl rfl (Nat.le_of_ble_eq_true rfl) (Nat.le_of_ble_eq_true rfl) (co_n zf_2 ?_)
  replace zw := zw1
  refine vr_istore_n dX7_isRacing_6 rfl (Nat.le_of_ble_eq_true rfl) (vv_eq (ls' := [(0, .ref a), (1, .int l1), (2, .int l2), (3, .int v3)]) rfl ?_)
  refine vr_aload_n dX7_isRacing_7 rfl rfl ?_
  refine vr_iload_n dX7_isRacing_8 rfl rfl ?_
  refine vr_iconst dX7_isRacing_9 (v := (1 : Int32)) (by decide) ?_
  obtain ⟨v6, s4, zw1, zf_5, zh⟩ := zh
  refine vc_V (As := [.int l2, .int (1 : Int32)]) (rest := []) dX7_isRacing_10 cV_LitmusTester_Program_48 (wC_pg zw zha) rfl rfl (Nat.le_of_ble_eq_true rfl) (Nat.le_of_ble_eq_true rfl) (co_n zf_5 ?_)
  replace zw := zw1
  refine vr_istore dX7_isRacing_13 (Nat.le_of_ble_eq_true rfl) (vv_eq (ls' := [(0, .ref a), (1, .int l1), (2, .int l2), (3, .int v3), (4, .int v6)]) rfl ?_)
  refine vr_aload_n dX7_isRacing_15 rfl rfl ?_
  refine vr_iload_n dX7_isRacing_16 rfl rfl ?_
  refine vr_iconst dX7_isRacing_17 (v := (2 : Int32)) (by decide) ?_
  obtain ⟨v9, s7, zw1, zf_8, zh⟩ := zh
  refine vc_V (As := [.int l1, .int (2 : Int32)]) (rest := []) dX7_isRacing_18 cV_LitmusTester_Program_48 (wC_pg zw zha) rfl rfl (Nat.le_of_ble_eq_true rfl) (Nat.le_of_ble_eq_true rfl) (co_n zf_8 ?_)
  replace zw := zw1
  refine vr_aload_n dX7_isRacing_21 rfl rfl ?_
  refine vr_iload_n dX7_isRacing_22 rfl rfl ?_
  refine vr_iconst dX7_isRacing_23 (v := (2 : Int32)) (by decide) ?_
  obtain ⟨v12, s10, zw1, zf_11, zh⟩ := zh
  refine vc_V (As := [.int l2, .int (2 : Int32)]) (rest := [.int v9]) dX7_isRacing_24 cV_LitmusTester_Program_48 (wC_pg zw zha) rfl rfl (Nat.le_of_ble_eq_true rfl) (Nat.le_of_ble_eq_true rfl) (co_n zf_11 ?_)
  replace zw := zw1
  refine vr_ic_ne dX7_isRacing_27 (tgt := 34) rfl (fun zd_13 => ?_) (fun zd_13 => ?_)
  · replace zh := zh.2 zd_13
    refine vr_iconst dX7_isRacing_34 (v := (0 : Int32)) (by decide) ?_
    refine vr_istore dX7_isRacing_35 (Nat.le_of_ble_eq_true rfl) (vv_eq (ls' := [(0, .ref a), (1, .int l1), (2, .int l2), (3, .int v3), (4, .int v6), (5, .int (0 : Int32))]) rfl ?_)
    refine vr_iload_n dX7_isRacing_37 rfl rfl ?_
    refine vr_iconst dX7_isRacing_38 (v := (3 : Int32)) (by decide) ?_
    refine vr_ic_eq dX7_isRacing_39 (tgt := 53) rfl (fun zd_52 => ?_) (fun zd_52 => ?_)
    · replace zh := zh.1 zd_52
      refine vr_iconst dX7_isRacing_53 (v := (0 : Int32)) (by decide) ?_
      exact vr_zret dX7_isRacing_54 rfl (Or.inl rfl) zh
    · replace zh := zh.2 zd_52
      refine vr_iload dX7_isRacing_42 rfl ?_
      refine vr_iconst dX7_isRacing_44 (v := (3 : Int32)) (by decide) ?_
      refine vr_ic_eq dX7_isRacing_45 (tgt := 53) rfl (fun zd_53 => ?_) (fun zd_53 => ?_)
      · replace zh := zh.1 zd_53
        refine vr_iconst dX7_isRacing_53 (v := (0 : Int32)) (by decide) ?_
        exact vr_zret dX7_isRacing_54 rfl (Or.inl rfl) zh
      · replace zh := zh.2 zd_53
        refine vr_iload dX7_isRacing_48 rfl ?_
        refine vr_if_ne dX7_isRacing_50 (tgt := 55) rfl (fun c => absurd (by decide) c) (fun _ => ?_)
        refine vr_iconst dX7_isRacing_53 (v := (0 : Int32)) (by decide) ?_
        exact vr_zret dX7_isRacing_54 rfl (Or.inl rfl) zh
  · replace zh := zh.1 zd_13
    refine vr_iconst dX7_isRacing_30 (v := (1 : Int32)) (by decide) ?_
    refine vr_goto dX7_isRacing_31 (tgt := 35) rfl ?_
    refine vr_istore dX7_isRacing_35 (Nat.le_of_ble_eq_true rfl) (vv_eq (ls' := [(0, .ref a), (1, .int l1), (2, .int l2), (3, .int v3), (4, .int v6), (5, .int (1 : Int32))]) rfl ?_)
    refine vr_iload_n dX7_isRacing_37 rfl rfl ?_
    refine vr_iconst dX7_isRacing_38 (v := (3 : Int32)) (by decide) ?_
    refine vr_ic_eq dX7_isRacing_39 (tgt := 53) rfl (fun zd_14 => ?_) (fun zd_14 => ?_)
    · replace zh := zh.1 zd_14
      refine vr_iconst dX7_isRacing_53 (v := (0 : Int32)) (by decide) ?_
      exact vr_zret dX7_isRacing_54 rfl (Or.inl rfl) zh
    · replace zh := zh.2 zd_14
      refine vr_iload dX7_isRacing_42 rfl ?_
      refine vr_iconst dX7_isRacing_44 (v := (3 : Int32)) (by decide) ?_
      refine vr_ic_eq dX7_isRacing_45 (tgt := 53) rfl (fun zd_15 => ?_) (fun zd_15 => ?_)
      · replace zh := zh.1 zd_15
        refine vr_iconst dX7_isRacing_53 (v := (0 : Int32)) (by decide) ?_
        exact vr_zret dX7_isRacing_54 rfl (Or.inl rfl) zh
      · replace zh := zh.2 zd_15
        refine vr_iload dX7_isRacing_48 rfl ?_
        refine vr_if_ne dX7_isRacing_50 (tgt := 55) rfl (fun _ => ?_) (fun c => absurd c (by decide))
        refine vr_iload_n dX7_isRacing_55 rfl rfl ?_
        refine vr_iconst dX7_isRacing_56 (v := (1 : Int32)) (by decide) ?_
        refine vr_ic_ne dX7_isRacing_57 (tgt := 66) rfl (fun zd_16 => ?_) (fun zd_16 => ?_)
        · replace zh := zh.2 zd_16
          refine vr_iconst dX7_isRacing_66 (v := (1 : Int32)) (by decide) ?_
          refine vr_goto dX7_isRacing_67 (tgt := 71) rfl ?_
          refine vr_istore dX7_isRacing_71 (Nat.le_of_ble_eq_true rfl) (vv_eq (ls' := [(0, .ref a), (1, .int l1), (2, .int l2), (3, .int v3), (4, .int v6), (5, .int (1 : Int32)), (6, .int (1 : Int32))]) rfl ?_)
          refine vr_iload_n dX7_isRacing_73 rfl rfl ?_
          refine vr_iconst dX7_isRacing_74 (v := (2 : Int32)) (by decide) ?_
          refine vr_ic_ne dX7_isRacing_75 (tgt := 88) rfl (fun zd_36 => ?_) (fun zd_36 => ?_)
          · replace zh := zh.2 zd_36
            refine vr_iconst dX7_isRacing_88 (v := (0 : Int32)) (by decide) ?_
            refine vr_istore dX7_isRacing_89 (Nat.le_of_ble_eq_true rfl) (vv_eq (ls' := [(0, .ref a), (1, .int l1), (2, .int l2), (3, .int v3), (4, .int v6), (5, .int (1 : Int32)), (6, .int (1 : Int32)), (7, .int (0 : Int32))]) rfl ?_)
            refine vr_iload dX7_isRacing_91 rfl ?_
            refine vr_if_eq dX7_isRacing_93 (tgt := 120) rfl (fun c => absurd c (by decide)) (fun _ => ?_)
            refine vr_iload dX7_isRacing_96 rfl ?_
            refine vr_if_ne dX7_isRacing_98 (tgt := 120) rfl (fun c => absurd (by decide) c) (fun _ => ?_)
            refine vr_aload_n dX7_isRacing_101 rfl rfl ?_
            refine vr_iload_n dX7_isRacing_102 rfl rfl ?_
            refine vr_iconst dX7_isRacing_103 (v := (0 : Int32)) (by decide) ?_
            obtain ⟨v47, s45, zw1, zf_46, zh⟩ := zh
            refine vc_V (As := [.int l1, .int (0 : Int32)]) (rest := []) dX7_isRacing_104 cV_LitmusTester_Program_48 (wC_pg zw zha) rfl rfl (Nat.le_of_ble_eq_true rfl) (Nat.le_of_ble_eq_true rfl) (co_n zf_46 ?_)
            replace zw := zw1
            refine vr_aload_n dX7_isRacing_107 rfl rfl ?_
            refine vr_iload_n dX7_isRacing_108 rfl rfl ?_
            refine vr_iconst dX7_isRacing_109 (v := (0 : Int32)) (by decide) ?_
            obtain ⟨v50, s48, zw1, zf_49, zh⟩ := zh
            refine vc_V (As := [.int l2, .int (0 : Int32)]) (rest := [.int v47]) dX7_isRacing_110 cV_LitmusTester_Program_48 (wC_pg zw zha) rfl rfl (Nat.le_of_ble_eq_true rfl) (Nat.le_of_ble_eq_true rfl) (co_n zf_49 ?_)
            replace zw := zw1
            refine vr_ic_eq dX7_isRacing_113 (tgt := 120) rfl (fun zd_51 => ?_) (fun zd_51 => ?_)
            · replace zh := zh.1 zd_51
              refine vr_iconst dX7_isRacing_120 (v := (0 : Int32)) (by decide) ?_
              exact vr_zret dX7_isRacing_121 rfl (Or.inl rfl) zh
            · replace zh := zh.2 zd_51
              refine vr_iconst dX7_isRacing_116 (v := (1 : Int32)) (by decide) ?_
              refine vr_goto dX7_isRacing_117 (tgt := 121) rfl ?_
              exact vr_zret dX7_isRacing_121 rfl (Or.inr rfl) zh
          · replace zh := zh.1 zd_36
            refine vr_iload dX7_isRacing_78 rfl ?_
            refine vr_iconst dX7_isRacing_80 (v := (2 : Int32)) (by decide) ?_
            refine vr_ic_ne dX7_isRacing_81 (tgt := 88) rfl (fun zd_37 => ?_) (fun zd_37 => ?_)
            · replace zh := zh.2 zd_37
              refine vr_iconst dX7_isRacing_88 (v := (0 : Int32)) (by decide) ?_
              refine vr_istore dX7_isRacing_89 (Nat.le_of_ble_eq_true rfl) (vv_eq (ls' := [(0, .ref a), (1, .int l1), (2, .int l2), (3, .int v3), (4, .int v6), (5, .int (1 : Int32)), (6, .int (1 : Int32)), (7, .int (0 : Int32))]) rfl ?_)
              refine vr_iload dX7_isRacing_91 rfl ?_
              refine vr_if_eq dX7_isRacing_93 (tgt := 120) rfl (fun c => absurd c (by decide)) (fun _ => ?_)
              refine vr_iload dX7_isRacing_96 rfl ?_
              refine vr_if_ne dX7_isRacing_98 (tgt := 120) rfl (fun c => absurd (by decide) c) (fun _ => ?_)
              refine vr_aload_n dX7_isRacing_101 rfl rfl ?_
              refine vr_iload_n dX7_isRacing_102 rfl rfl ?_
              refine vr_iconst dX7_isRacing_103 (v := (0 : Int32)) (by decide) ?_
              obtain ⟨v40, s38, zw1, zf_39, zh⟩ := zh
              refine vc_V (As := [.int l1, .int (0 : Int32)]) (rest := []) dX7_isRacing_104 cV_LitmusTester_Program_48 (wC_pg zw zha) rfl rfl (Nat.le_of_ble_eq_true rfl) (Nat.le_of_ble_eq_true rfl) (co_n zf_39 ?_)
              replace zw := zw1
              refine vr_aload_n dX7_isRacing_107 rfl rfl ?_
              refine vr_iload_n dX7_isRacing_108 rfl rfl ?_
              refine vr_iconst dX7_isRacing_109 (v := (0 : Int32)) (by decide) ?_
              obtain ⟨v43, s41, zw1, zf_42, zh⟩ := zh
              refine vc_V (As := [.int l2, .int (0 : Int32)]) (rest := [.int v40]) dX7_isRacing_110 cV_LitmusTester_Program_48 (wC_pg zw zha) rfl rfl (Nat.le_of_ble_eq_true rfl) (Nat.le_of_ble_eq_true rfl) (co_n zf_42 ?_)
              replace zw := zw1
              refine vr_ic_eq dX7_isRacing_113 (tgt := 120) rfl (fun zd_44 => ?_) (fun zd_44 => ?_)
              · replace zh := zh.1 zd_44
                refine vr_iconst dX7_isRacing_120 (v := (0 : Int32)) (by decide) ?_
                exact vr_zret dX7_isRacing_121 rfl (Or.inl rfl) zh
              · replace zh := zh.2 zd_44
                refine vr_iconst dX7_isRacing_116 (v := (1 : Int32)) (by decide) ?_
                refine vr_goto dX7_isRacing_117 (tgt := 121) rfl ?_
                exact vr_zret dX7_isRacing_121 rfl (Or.inr rfl) zh
            · replace zh := zh.1 zd_37
              refine vr_iconst dX7_isRacing_84 (v := (1 : Int32)) (by decide) ?_
              refine vr_goto dX7_isRacing_85 (tgt := 89) rfl ?_
              refine vr_istore dX7_isRacing_89 (Nat.le_of_ble_eq_true rfl) (vv_eq (ls' := [(0, .ref a), (1, .int l1), (2, .int l2), (3, .int v3), (4, .int v6), (5, .int (1 : Int32)), (6, .int (1 : Int32)), (7, .int (1 : Int32))]) rfl ?_)
              refine vr_iload dX7_isRacing_91 rfl ?_
              refine vr_if_eq dX7_isRacing_93 (tgt := 120) rfl (fun c => absurd c (by decide)) (fun _ => ?_)
              refine vr_iload dX7_isRacing_96 rfl ?_
              refine vr_if_ne dX7_isRacing_98 (tgt := 120) rfl (fun _ => ?_) (fun c => absurd c (by decide))
              refine vr_iconst dX7_isRacing_120 (v := (0 : Int32)) (by decide) ?_
              exact vr_zret dX7_isRacing_121 rfl (Or.inl rfl) zh
        · replace zh := zh.1 zd_16
          refine vr_iload dX7_isRacing_60 rfl ?_
          refine vr_iconst dX7_isRacing_62 (v := (1 : Int32)) (by decide) ?_
          refine vr_ic_eq dX7_isRacing_63 (tgt := 70) rfl (fun zd_17 => ?_) (fun zd_17 => ?_)
          · replace zh := zh.1 zd_17
            refine vr_iconst dX7_isRacing_70 (v := (0 : Int32)) (by decide) ?_
            refine vr_istore dX7_isRacing_71 (Nat.le_of_ble_eq_true rfl) (vv_eq (ls' := [(0, .ref a), (1, .int l1), (2, .int l2), (3, .int v3), (4, .int v6), (5, .int (1 : Int32)), (6, .int (0 : Int32))]) rfl ?_)
            refine vr_iload_n dX7_isRacing_73 rfl rfl ?_
            refine vr_iconst dX7_isRacing_74 (v := (2 : Int32)) (by decide) ?_
            refine vr_ic_ne dX7_isRacing_75 (tgt := 88) rfl (fun zd_18 => ?_) (fun zd_18 => ?_)
            · replace zh := zh.2 zd_18
              refine vr_iconst dX7_isRacing_88 (v := (0 : Int32)) (by decide) ?_
              refine vr_istore dX7_isRacing_89 (Nat.le_of_ble_eq_true rfl) (vv_eq (ls' := [(0, .ref a), (1, .int l1), (2, .int l2), (3, .int v3), (4, .int v6), (5, .int (1 : Int32)), (6, .int (0 : Int32)), (7, .int (0 : Int32))]) rfl ?_)
              refine vr_iload dX7_isRacing_91 rfl ?_
              refine vr_if_eq dX7_isRacing_93 (tgt := 120) rfl (fun _ => ?_) (fun c => absurd (by decide) c)
              refine vr_iconst dX7_isRacing_120 (v := (0 : Int32)) (by decide) ?_
              exact vr_zret dX7_isRacing_121 rfl (Or.inl rfl) zh
            · replace zh := zh.1 zd_18
              refine vr_iload dX7_isRacing_78 rfl ?_
              refine vr_iconst dX7_isRacing_80 (v := (2 : Int32)) (by decide) ?_
              refine vr_ic_ne dX7_isRacing_81 (tgt := 88) rfl (fun zd_19 => ?_) (fun zd_19 => ?_)
              · replace zh := zh.2 zd_19
                refine vr_iconst dX7_isRacing_88 (v := (0 : Int32)) (by decide) ?_
                refine vr_istore dX7_isRacing_89 (Nat.le_of_ble_eq_true rfl) (vv_eq (ls' := [(0, .ref a), (1, .int l1), (2, .int l2), (3, .int v3), (4, .int v6), (5, .int (1 : Int32)), (6, .int (0 : Int32)), (7, .int (0 : Int32))]) rfl ?_)
                refine vr_iload dX7_isRacing_91 rfl ?_
                refine vr_if_eq dX7_isRacing_93 (tgt := 120) rfl (fun _ => ?_) (fun c => absurd (by decide) c)
                refine vr_iconst dX7_isRacing_120 (v := (0 : Int32)) (by decide) ?_
                exact vr_zret dX7_isRacing_121 rfl (Or.inl rfl) zh
              · replace zh := zh.1 zd_19
                refine vr_iconst dX7_isRacing_84 (v := (1 : Int32)) (by decide) ?_
                refine vr_goto dX7_isRacing_85 (tgt := 89) rfl ?_
                refine vr_istore dX7_isRacing_89 (Nat.le_of_ble_eq_true rfl) (vv_eq (ls' := [(0, .ref a), (1, .int l1), (2, .int l2), (3, .int v3), (4, .int v6), (5, .int (1 : Int32)), (6, .int (0 : Int32)), (7, .int (1 : Int32))]) rfl ?_)
                refine vr_iload dX7_isRacing_91 rfl ?_
                refine vr_if_eq dX7_isRacing_93 (tgt := 120) rfl (fun _ => ?_) (fun c => absurd (by decide) c)
                refine vr_iconst dX7_isRacing_120 (v := (0 : Int32)) (by decide) ?_
                exact vr_zret dX7_isRacing_121 rfl (Or.inl rfl) zh
          · replace zh := zh.2 zd_17
            refine vr_iconst dX7_isRacing_66 (v := (1 : Int32)) (by decide) ?_
            refine vr_goto dX7_isRacing_67 (tgt := 71) rfl ?_
            refine vr_istore dX7_isRacing_71 (Nat.le_of_ble_eq_true rfl) (vv_eq (ls' := [(0, .ref a), (1, .int l1), (2, .int l2), (3, .int v3), (4, .int v6), (5, .int (1 : Int32)), (6, .int (1 : Int32))]) rfl ?_)
            refine vr_iload_n dX7_isRacing_73 rfl rfl ?_
            refine vr_iconst dX7_isRacing_74 (v := (2 : Int32)) (by decide) ?_
            refine vr_ic_ne dX7_isRacing_75 (tgt := 88) rfl (fun zd_20 => ?_) (fun zd_20 => ?_)
            · replace zh := zh.2 zd_20
              refine vr_iconst dX7_isRacing_88 (v := (0 : Int32)) (by decide) ?_
              refine vr_istore dX7_isRacing_89 (Nat.le_of_ble_eq_true rfl) (vv_eq (ls' := [(0, .ref a), (1, .int l1), (2, .int l2), (3, .int v3), (4, .int v6), (5, .int (1 : Int32)), (6, .int (1 : Int32)), (7, .int (0 : Int32))]) rfl ?_)
              refine vr_iload dX7_isRacing_91 rfl ?_
              refine vr_if_eq dX7_isRacing_93 (tgt := 120) rfl (fun c => absurd c (by decide)) (fun _ => ?_)
              refine vr_iload dX7_isRacing_96 rfl ?_
              refine vr_if_ne dX7_isRacing_98 (tgt := 120) rfl (fun c => absurd (by decide) c) (fun _ => ?_)
              refine vr_aload_n dX7_isRacing_101 rfl rfl ?_
              refine vr_iload_n dX7_isRacing_102 rfl rfl ?_
              refine vr_iconst dX7_isRacing_103 (v := (0 : Int32)) (by decide) ?_
              obtain ⟨v31, s29, zw1, zf_30, zh⟩ := zh
              refine vc_V (As := [.int l1, .int (0 : Int32)]) (rest := []) dX7_isRacing_104 cV_LitmusTester_Program_48 (wC_pg zw zha) rfl rfl (Nat.le_of_ble_eq_true rfl) (Nat.le_of_ble_eq_true rfl) (co_n zf_30 ?_)
              replace zw := zw1
              refine vr_aload_n dX7_isRacing_107 rfl rfl ?_
              refine vr_iload_n dX7_isRacing_108 rfl rfl ?_
              refine vr_iconst dX7_isRacing_109 (v := (0 : Int32)) (by decide) ?_
              obtain ⟨v34, s32, zw1, zf_33, zh⟩ := zh
              refine vc_V (As := [.int l2, .int (0 : Int32)]) (rest := [.int v31]) dX7_isRacing_110 cV_LitmusTester_Program_48 (wC_pg zw zha) rfl rfl (Nat.le_of_ble_eq_true rfl) (Nat.le_of_ble_eq_true rfl) (co_n zf_33 ?_)
              replace zw := zw1
              refine vr_ic_eq dX7_isRacing_113 (tgt := 120) rfl (fun zd_35 => ?_) (fun zd_35 => ?_)
              · replace zh := zh.1 zd_35
                refine vr_iconst dX7_isRacing_120 (v := (0 : Int32)) (by decide) ?_
                exact vr_zret dX7_isRacing_121 rfl (Or.inl rfl) zh
              · replace zh := zh.2 zd_35
                refine vr_iconst dX7_isRacing_116 (v := (1 : Int32)) (by decide) ?_
                refine vr_goto dX7_isRacing_117 (tgt := 121) rfl ?_
                exact vr_zret dX7_isRacing_121 rfl (Or.inr rfl) zh
            · replace zh := zh.1 zd_20
              refine vr_iload dX7_isRacing_78 rfl ?_
              refine vr_iconst dX7_isRacing_80 (v := (2 : Int32)) (by decide) ?_
              refine vr_ic_ne dX7_isRacing_81 (tgt := 88) rfl (fun zd_21 => ?_) (fun zd_21 => ?_)
              · replace zh := zh.2 zd_21
                refine vr_iconst dX7_isRacing_88 (v := (0 : Int32)) (by decide) ?_
                refine vr_istore dX7_isRacing_89 (Nat.le_of_ble_eq_true rfl) (vv_eq (ls' := [(0, .ref a), (1, .int l1), (2, .int l2), (3, .int v3), (4, .int v6), (5, .int (1 : Int32)), (6, .int (1 : Int32)), (7, .int (0 : Int32))]) rfl ?_)
                refine vr_iload dX7_isRacing_91 rfl ?_
                refine vr_if_eq dX7_isRacing_93 (tgt := 120) rfl (fun c => absurd c (by decide)) (fun _ => ?_)
                refine vr_iload dX7_isRacing_96 rfl ?_
                refine vr_if_ne dX7_isRacing_98 (tgt := 120) rfl (fun c => absurd (by decide) c) (fun _ => ?_)
                refine vr_aload_n dX7_isRacing_101 rfl rfl ?_
                refine vr_iload_n dX7_isRacing_102 rfl rfl ?_
                refine vr_iconst dX7_isRacing_103 (v := (0 : Int32)) (by decide) ?_
                obtain ⟨v24, s22, zw1, zf_23, zh⟩ := zh
                refine vc_V (As := [.int l1, .int (0 : Int32)]) (rest := []) dX7_isRacing_104 cV_LitmusTester_Program_48 (wC_pg zw zha) rfl rfl (Nat.le_of_ble_eq_true rfl) (Nat.le_of_ble_eq_true rfl) (co_n zf_23 ?_)
                replace zw := zw1
                refine vr_aload_n dX7_isRacing_107 rfl rfl ?_
                refine vr_iload_n dX7_isRacing_108 rfl rfl ?_
                refine vr_iconst dX7_isRacing_109 (v := (0 : Int32)) (by decide) ?_
                obtain ⟨v27, s25, zw1, zf_26, zh⟩ := zh
                refine vc_V (As := [.int l2, .int (0 : Int32)]) (rest := [.int v24]) dX7_isRacing_110 cV_LitmusTester_Program_48 (wC_pg zw zha) rfl rfl (Nat.le_of_ble_eq_true rfl) (Nat.le_of_ble_eq_true rfl) (co_n zf_26 ?_)
                replace zw := zw1
                refine vr_ic_eq dX7_isRacing_113 (tgt := 120) rfl (fun zd_28 => ?_) (fun zd_28 => ?_)
                · replace zh := zh.1 zd_28
                  refine vr_iconst dX7_isRacing_120 (v := (0 : Int32)) (by decide) ?_
                  exact vr_zret dX7_isRacing_121 rfl (Or.inl rfl) zh
                · replace zh := zh.2 zd_28
                  refine vr_iconst dX7_isRacing_116 (v := (1 : Int32)) (by decide) ?_
                  refine vr_goto dX7_isRacing_117 (tgt := 121) rfl ?_
                  exact vr_zret dX7_isRacing_121 rfl (Or.inr rfl) zh
              · replace zh := zh.1 zd_21
                refine vr_iconst dX7_isRacing_84 (v := (1 : Int32)) (by decide) ?_
                refine vr_goto dX7_isRacing_85 (tgt := 89) rfl ?_
                refine vr_istore dX7_isRacing_89 (Nat.le_of_ble_eq_true rfl) (vv_eq (ls' := [(0, .ref a), (1, .int l1), (2, .int l2), (3, .int v3), (4, .int v6), (5, .int (1 : Int32)), (6, .int (1 : Int32)), (7, .int (1 : Int32))]) rfl ?_)
                refine vr_iload dX7_isRacing_91 rfl ?_
                refine vr_if_eq dX7_isRacing_93 (tgt := 120) rfl (fun c => absurd c (by decide)) (fun _ => ?_)
                refine vr_iload dX7_isRacing_96 rfl ?_
                refine vr_if_ne dX7_isRacing_98 (tgt := 120) rfl (fun _ => ?_) (fun c => absurd c (by decide))
                refine vr_iconst dX7_isRacing_120 (v := (0 : Int32)) (by decide) ?_
                exact vr_zret dX7_isRacing_121 rfl (Or.inl rfl) zh
theorem e_X7_isRacing {γ : ga_T} {a : Nat} {l1 : Int32} {l2 : Int32} {σ : st_T} {Q : rs_T → st_T → Prop} (zha : is_pg a) (zw : Wd σ) (zh : p_X7_isRacing_0 γ a l1 l2 σ Q) : sp_ γ m_X7_isRacing 1 [.ref a, .int l1, .int l2] σ Q := sp_of (pl_X7_isRacing) rfl (Nat.le_of_ble_eq_true rfl) (g_X7_isRacing_0 zha zw zh)
