def p_J0_length_8abf5_0 (γ : ga_T) (a : Nat) (σ : st_T) (Q : rs_T → st_T → Prop) : Prop :=
  a < 46 ∧
  a < 46 ∧
  a < 46 ∧
  ∃ (v6 : Int32) (s4 : st_T), Wd s4 ∧ fn_ γ m_J0_coder_7d493 0 [.ref (30 + a)] σ (.int v6) s4 ∧
  Q (.inl (some (.int ((Int32.ofNat (sc_q a).2.2.2.length) >>> (v6 &&& 31))))) s4
set_option maxRecDepth 10000 in
theorem g_J0_length_8abf5_0 {γ : ga_T} {a : Nat} {σ : st_T} {Q : rs_T → st_T → Prop} (zw : Wd σ) (zh : p_J0_length_8abf5_0 γ a σ Q) : vv_ γ m_J0_length_8abf5 1 0 [(0, .ref (30 + a))] [] σ Q := by
  unfold p_J0_length_8abf5_0 at zh
  refine vr_aload_n dJ0_length_8abf5_0 rfl rfl ?_
  obtain ⟨zx_1, zh⟩ := zh
  refine vr_strVal dJ0_length_8abf5_1 zx_1 tw_2343 ?_
  obtain ⟨zx_2, zh⟩ := zh
  refine vr_strlen dJ0_length_8abf5_4 zx_2 rfl ?_
  refine vr_aload_n dJ0_length_8abf5_5 rfl rfl ?_
  obtain ⟨zx_3, zh⟩ := zh
  obtain ⟨v6, s4, zw1, zf_5, zh⟩ := zh
  refine vc_T (As := []) (rest := [.int (Int32.ofNat (sc_q a).2.2.2.length)]) dJ0_length_8abf5_6 cT_java_lang_String_335 zx_3 rfl rfl (Nat.le_of_ble_eq_true rfl) (Nat.le_of_ble_eq_true rfl) (co_n zf_5 ?_)
  replace zw := zw1
  refine vr_ishr dJ0_length_8abf5_9 ?_
  exact vr_iret dJ0_length_8abf5_10 rfl zh
theorem e_J0_length_8abf5 {γ : ga_T} {a : Nat} {σ : st_T} {Q : rs_T → st_T → Prop} (zw : Wd σ) (zh : p_J0_length_8abf5_0 γ a σ Q) : sp_ γ m_J0_length_8abf5 1 [.ref (30 + a)] σ Q := sp_of (pl_J0_length_8abf5) rfl (Nat.le_of_ble_eq_true rfl) (g_J0_length_8abf5_0 zw zh)
def p_J0_charAt_5068e_0 (γ : ga_T) (a : Nat) (l1 : Int32) (σ : st_T) (Q : rs_T → st_T → Prop) : Prop :=
  a < 46 ∧
  ∃ (v4 : Int32) (s2 : st_T), Wd s2 ∧ fn_ γ m_J0_isLatin1_aae02 0 [.ref (30 + a)] σ (.int v4) s2 ∧
  (v4 = (0 : Int32) →
    a < 46 ∧
    ∃ (v9 : Int32) (s7 : st_T), Wd s7 ∧ fn_ γ m_J2_charAt_3b067 11 [.ref (80 + a), .int l1] s2 (.int v9) s7 ∧
    narrow .char (.int v9) = .int v9 ∧
    Q (.inl (some (.int v9))) s7
  ) ∧ (¬ v4 = (0 : Int32) →
    a < 46 ∧
    ∃ (v14 : Int32) (s12 : st_T), Wd s12 ∧ fn_ γ m_J1_charAt_3b067 10 [.ref (80 + a), .int l1] s2 (.int v14) s12 ∧
    narrow .char (.int v14) = .int v14 ∧
    Q (.inl (some (.int v14))) s12
  )
set_option maxRecDepth 10000 in
theorem g_J0_charAt_5068e_0 {γ : ga_T} {a : Nat} {l1 : Int32} {σ : st_T} {Q : rs_T → st_T → Prop} (zw : Wd σ) (zh : p_J0_charAt_5068e_0 γ a l1 σ Q) : vv_ γ m_J0_charAt_5068e 12 0 [(0, .ref (30 + a)), (1, .int l1)] [] σ Q := by
  unfold p_J0_charAt_5068e_0 at zh
  refine vr_aload_n dJ0_charAt_5068e_0 rfl rfl ?_
  obtain ⟨zx_1, zh⟩ := zh
  obtain ⟨v4, s2, zw1, zf_3, zh⟩ := zh
  refine vc_T (As := []) (rest := []) dJ0_charAt_5068e_1 cT_java_lang_String_492 zx_1 rfl rfl (Nat.le_of_ble_eq_true rfl) (Nat.le_of_ble_eq_true rfl) (co_n zf_3 ?_)
  replace zw := zw1
  refine vr_if_eq dJ0_charAt_5068e_4 (tgt := 16) rfl (fun zd_5 => ?_) (fun zd_5 => ?_)
  · replace zh := zh.1 zd_5
    refine vr_aload_n dJ0_charAt_5068e_16 rfl rfl ?_
    obtain ⟨zx_6, zh⟩ := zh
    refine vr_strVal dJ0_charAt_5068e_17 zx_6 tw_2343 ?_
    refine vr_iload_n dJ0_charAt_5068e_20 rfl rfl ?_
    obtain ⟨v9, s7, zw1, zf_8, zh⟩ := zh
    refine vc_S (As := [.ref (80 + a), .int l1]) (rest := []) dJ0_charAt_5068e_21 cS_java_lang_String_498 rfl rfl (Nat.le_of_ble_eq_true rfl) (Nat.le_of_ble_eq_true rfl) (co_n zf_8 ?_)
    replace zw := zw1
    obtain ⟨zz_10, zh⟩ := zh
    exact vr_nret dJ0_charAt_5068e_24 rfl zz_10 zh
  · replace zh := zh.2 zd_5
    refine vr_aload_n dJ0_charAt_5068e_7 rfl rfl ?_
    obtain ⟨zx_11, zh⟩ := zh
    refine vr_strVal dJ0_charAt_5068e_8 zx_11 tw_2343 ?_
    refine vr_iload_n dJ0_charAt_5068e_11 rfl rfl ?_
    obtain ⟨v14, s12, zw1, zf_13, zh⟩ := zh
    refine vc_S (As := [.ref (80 + a), .int l1]) (rest := []) dJ0_charAt_5068e_12 cS_java_lang_String_495 rfl rfl (Nat.le_of_ble_eq_true rfl) (Nat.le_of_ble_eq_true rfl) (co_n zf_13 ?_)
    replace zw := zw1
    obtain ⟨zz_15, zh⟩ := zh
    exact vr_nret dJ0_charAt_5068e_15 rfl zz_15 zh
theorem e_J0_charAt_5068e {γ : ga_T} {a : Nat} {l1 : Int32} {σ : st_T} {Q : rs_T → st_T → Prop} (zw : Wd σ) (zh : p_J0_charAt_5068e_0 γ a l1 σ Q) : sp_ γ m_J0_charAt_5068e 12 [.ref (30 + a), .int l1] σ Q := sp_of (pl_J0_charAt_5068e) rfl (Nat.le_of_ble_eq_true rfl) (g_J0_charAt_5068e_0 zw zh)
def p_J0_coder_7d493_0 (γ : ga_T) (a : Nat) (σ : st_T) (Q : rs_T → st_T → Prop) : Prop :=
  a < 46 ∧
  Q (.inl (some (.int (0 : Int32)))) σ
set_option maxRecDepth 10000 in
theorem g_J0_coder_7d493_0 {γ : ga_T} {a : Nat} {σ : st_T} {Q : rs_T → st_T → Prop} (zw : Wd σ) (zh : p_J0_coder_7d493_0 γ a σ Q) : vv_ γ m_J0_coder_7d493 0 0 [(0, .ref (30 + a))] [] σ Q := by
  unfold p_J0_coder_7d493_0 at zh
  refine vr_compact dJ0_coder_7d493_0 tw_562 ?_
  refine vr_if_eq dJ0_coder_7d493_3 (tgt := 13) rfl (fun c => absurd c (by decide)) (fun _ => ?_)
  refine vr_aload_n dJ0_coder_7d493_6 rfl rfl ?_
  obtain ⟨zx_1, zh⟩ := zh
  refine vr_strCod dJ0_coder_7d493_7 zx_1 tw_2344 ?_
  refine vr_goto dJ0_coder_7d493_10 (tgt := 14) rfl ?_
  exact vr_nret dJ0_coder_7d493_14 rfl rfl zh
theorem e_J0_coder_7d493 {γ : ga_T} {a : Nat} {σ : st_T} {Q : rs_T → st_T → Prop} (zw : Wd σ) (zh : p_J0_coder_7d493_0 γ a σ Q) : sp_ γ m_J0_coder_7d493 0 [.ref (30 + a)] σ Q := sp_of (pl_J0_coder_7d493) rfl (Nat.le_of_ble_eq_true rfl) (g_J0_coder_7d493_0 zw zh)
def p_J0_isLatin1_aae02_0 (γ : ga_T) (a : Nat) (σ : st_T) (Q : rs_T → st_T → Prop) : Prop :=
  a < 46 ∧
  Q (.inl (some (.int (1 : Int32)))) σ
set_option maxRecDepth 10000 in
theorem g_J0_isLatin1_aae02_0 {γ : ga_T} {a : Nat} {σ : st_T} {Q : rs_T → st_T → Prop} (zw : Wd σ) (zh : p_J0_isLatin1_aae02_0 γ a σ Q) : vv_ γ m_J0_isLatin1_aae02 0 0 [(0, .ref (30 + a))] [] σ Q := by
  unfold p_J0_isLatin1_aae02_0 at zh
  refine vr_compact dJ0_isLatin1_aae02_0 tw_562 ?_
  refine vr_if_eq dJ0_isLatin1_aae02_3 (tgt := 17) rfl (fun c => absurd c (by decide)) (fun _ => ?_)
  refine vr_aload_n dJ0_isLatin1_aae02_6 rfl rfl ?_
  obtain ⟨zx_1, zh⟩ := zh
  refine vr_strCod dJ0_isLatin1_aae02_7 zx_1 tw_2344 ?_
  refine vr_if_ne dJ0_isLatin1_aae02_10 (tgt := 17) rfl (fun c => absurd (by decide) c) (fun _ => ?_)
  refine vr_iconst dJ0_isLatin1_aae02_13 (v := (1 : Int32)) (by decide) ?_
  refine vr_goto dJ0_isLatin1_aae02_14 (tgt := 18) rfl ?_
  exact vr_zret dJ0_isLatin1_aae02_18 rfl (Or.inr rfl) zh
theorem e_J0_isLatin1_aae02 {γ : ga_T} {a : Nat} {σ : st_T} {Q : rs_T → st_T → Prop} (zw : Wd σ) (zh : p_J0_isLatin1_aae02_0 γ a σ Q) : sp_ γ m_J0_isLatin1_aae02 0 [.ref (30 + a)] σ Q := sp_of (pl_J0_isLatin1_aae02) rfl (Nat.le_of_ble_eq_true rfl) (g_J0_isLatin1_aae02_0 zw zh)
def p_J0_checkIndex_df160_0 (γ : ga_T) (l0 : Int32) (l1 : Int32) (σ : st_T) (Q : rs_T → st_T → Prop) : Prop :=
  ∃ (v3 : Int32) (s1 : st_T), Wd s1 ∧ fn_ γ m_J3_checkIndex_8e157 8 [.int l0, .int l1, ga_F γ] σ (.int v3) s1 ∧
  Q (.inl none) s1
set_option maxRecDepth 10000 in
theorem g_J0_checkIndex_df160_0 {γ : ga_T} {l0 : Int32} {l1 : Int32} {σ : st_T} {Q : rs_T → st_T → Prop} (zw : Wd σ) (zh : p_J0_checkIndex_df160_0 γ l0 l1 σ Q) : vv_ γ m_J0_checkIndex_df160 9 0 [(0, .int l0), (1, .int l1)] [] σ Q := by
  unfold p_J0_checkIndex_df160_0 at zh
  refine vr_iload_n dJ0_checkIndex_df160_0 rfl rfl ?_
  refine vr_iload_n dJ0_checkIndex_df160_1 rfl rfl ?_
  refine vr_fmt dJ0_checkIndex_df160_2 tw_578 ?_
  obtain ⟨v3, s1, zw1, zf_2, zh⟩ := zh
  refine vc_S (As := [.int l0, .int l1, ga_F γ]) (rest := []) dJ0_checkIndex_df160_5 cS_java_lang_String_1059 rfl rfl (Nat.le_of_ble_eq_true rfl) (Nat.le_of_ble_eq_true rfl) (co_n zf_2 ?_)
  replace zw := zw1
  refine vr_pop dJ0_checkIndex_df160_8 rfl ?_
  exact vr_vret dJ0_checkIndex_df160_9 rfl zh
theorem e_J0_checkIndex_df160 {γ : ga_T} {l0 : Int32} {l1 : Int32} {σ : st_T} {Q : rs_T → st_T → Prop} (zw : Wd σ) (zh : p_J0_checkIndex_df160_0 γ l0 l1 σ Q) : sp_ γ m_J0_checkIndex_df160 9 [.int l0, .int l1] σ Q := sp_of (pl_J0_checkIndex_df160) rfl (Nat.le_of_ble_eq_true rfl) (g_J0_checkIndex_df160_0 zw zh)
