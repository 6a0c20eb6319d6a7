def p_J3_checkIndex_8e157_0 (γ : ga_T) (l0 : Int32) (l1 : Int32) (σ : st_T) (Q : rs_T → st_T → Prop) : Prop :=
  (l0 < (0 : Int32) →
    False
  ) ∧ (¬ l0 < (0 : Int32) →
    (l0 < l1 →
      Q (.inl (some (.int l0))) σ
    ) ∧ (¬ l0 < l1 →
      False
    )
  )
set_option maxRecDepth 10000 in
theorem g_J3_checkIndex_8e157_0 {γ : ga_T} {l0 : Int32} {l1 : Int32} {σ : st_T} {Q : rs_T → st_T → Prop} (zw : Wd σ) (zh : p_J3_checkIndex_8e157_0 γ l0 l1 σ Q) : vv_ γ m_J3_checkIndex_8e157 8 0 [(0, .int l0), (1, .int l1), (2, ga_F γ)] [] σ Q := by
  unfold p_J3_checkIndex_8e157_0 at zh
  refine vr_iload_n dJ3_checkIndex_8e157_0 rfl rfl ?_
  refine vr_if_lt dJ3_checkIndex_8e157_1 (tgt := 9) rfl (fun zd_1 => ?_) (fun zd_1 => ?_)
  · replace zh := zh.1 zd_1
    exact zh.elim
  · replace zh := zh.2 zd_1
    refine vr_iload_n dJ3_checkIndex_8e157_4 rfl rfl ?_
    refine vr_iload_n dJ3_checkIndex_8e157_5 rfl rfl ?_
    refine vr_ic_lt dJ3_checkIndex_8e157_6 (tgt := 16) rfl (fun zd_2 => ?_) (fun zd_2 => ?_)
    · replace zh := zh.1 zd_2
      refine vr_iload_n dJ3_checkIndex_8e157_16 rfl rfl ?_
      exact vr_iret dJ3_checkIndex_8e157_17 rfl zh
    · replace zh := zh.2 zd_2
      exact zh.elim
theorem e_J3_checkIndex_8e157 {γ : ga_T} {l0 : Int32} {l1 : Int32} {σ : st_T} {Q : rs_T → st_T → Prop} (zw : Wd σ) (zh : p_J3_checkIndex_8e157_0 γ l0 l1 σ Q) : sp_ γ m_J3_checkIndex_8e157 8 [.int l0, .int l1, ga_F γ] σ Q := sp_of (pl_J3_checkIndex_8e157) rfl (by unfold lg_sl ga_F; split <;> exact Nat.le_of_ble_eq_true rfl) (g_J3_checkIndex_8e157_0 zw zh)
