def p_J1_charAt_3b067_0 (γ : ga_T) (l0 : Nat) (l1 : Int32) (σ : st_T) (Q : rs_T → st_T → Prop) : Prop :=
  ∃ n1, st_S σ l0 = (23, n1) ∧
  ∃ s3, Wd s3 ∧ fw_ γ m_J0_checkIndex_df160 9 [.int l1, .int (Int32.ofNat n1)] σ s3 ∧
  ∃ n5, st_S s3 l0 = (23, n5) ∧
  vp_in l1 n5 ∧
  narrow .char (.int ((((st_I s3 l0 l1.toNatClampNeg) &&& (255 : Int32)).toUInt32 % 65536).toInt32)) = .int ((((st_I s3 l0 l1.toNatClampNeg) &&& (255 : Int32)).toUInt32 % 65536).toInt32) ∧
  Q (.inl (some (.int ((((st_I s3 l0 l1.toNatClampNeg) &&& (255 : Int32)).toUInt32 % 65536).toInt32)))) s3
set_option maxRecDepth 10000 in
theorem g_J1_charAt_3b067_0 {γ : ga_T} {l0 : Nat} {l1 : Int32} {σ : st_T} {Q : rs_T → st_T → Prop} (zw : Wd σ) (zh : p_J1_charAt_3b067_0 γ l0 l1 σ Q) : vv_ γ m_J1_charAt_3b067 10 0 [(0, .ref l0), (1, .int l1)] [] σ Q := by
  unfold p_J1_charAt_3b067_0 at zh
  refine vr_iload_n dJ1_charAt_3b067_0 rfl rfl ?_
  refine vr_aload_n dJ1_charAt_3b067_1 rfl rfl ?_
  obtain ⟨n1, zs_2, zh⟩ := zh
  refine vr_alen dJ1_charAt_3b067_2 zs_2 (Nat.le_of_ble_eq_true rfl) (Nat.le_of_ble_eq_true rfl) (v := (Int32.ofNat n1)) rfl ?_
  obtain ⟨s3, zw1, zf_4, zh⟩ := zh
  refine vc_S (As := [.int l1, .int (Int32.ofNat n1)]) (rest := []) dJ1_charAt_3b067_3 cS_java_lang_StringLatin1_9 rfl rfl (Nat.le_of_ble_eq_true rfl) (Nat.le_of_ble_eq_true rfl) (co_v zf_4 ?_)
  replace zw := zw1
  refine vr_aload_n dJ1_charAt_3b067_6 rfl rfl ?_
  refine vr_iload_n dJ1_charAt_3b067_7 rfl rfl ?_
  obtain ⟨n5, zs_6, zh⟩ := zh
  obtain ⟨zi_7, zh⟩ := zh
  refine vr_baload dJ1_charAt_3b067_8 (Or.inl zs_6) zi_7 ?_
  refine vr_sipush dJ1_charAt_3b067_9 (v := (255 : Int32)) (by decide) ?_
  refine vr_iand dJ1_charAt_3b067_12 ?_
  refine vr_i2c dJ1_charAt_3b067_13 ?_
  obtain ⟨zz_8, zh⟩ := zh
  exact vr_nret dJ1_charAt_3b067_14 rfl zz_8 zh
theorem e_J1_charAt_3b067 {γ : ga_T} {l0 : Nat} {l1 : Int32} {σ : st_T} {Q : rs_T → st_T → Prop} (zw : Wd σ) (zh : p_J1_charAt_3b067_0 γ l0 l1 σ Q) : sp_ γ m_J1_charAt_3b067 10 [.ref l0, .int l1] σ Q := sp_of (pl_J1_charAt_3b067) rfl (Nat.le_of_ble_eq_true rfl) (g_J1_charAt_3b067_0 zw zh)
