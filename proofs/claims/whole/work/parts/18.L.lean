abbrev m_law (nm : String) : mr_T := (⟨"LitmusTesterLaw", nm, "([I)Z"⟩, code, 8, some .boolean, [])
def p_L_instruction_0 (γ : ga_T) (l1 : Int32) (l2 : Int32) (σ : st_T) (Q : rs_T → st_T → Prop) : Prop :=
  ((
    ∃ (v3 : Int32) (s1 : st_T), Wd s1 ∧ fn_ γ m_X11_instruction 9 [.ref 128, .int l1, .int l2] σ (.int v3) s1 ∧
    Q (.inl (some (.int (0 : Int32)))) (pt_L s1 219 0 (v3.toInt64))
  ) ∨ (
    ∃ s4, Wd s4 ∧ ft_ γ m_X11_instruction 9 [.ref 128, .int l1, .int l2] σ "java/lang/IndexOutOfBoundsException" s4 ∧
    Q (.inl (some (.int (1 : Int32)))) s4
  ))
set_option maxRecDepth 10000 in
theorem g_L_instruction_0 {γ : ga_T} {l1 : Int32} {l2 : Int32} {σ : st_T} {Q : rs_T → st_T → Prop} (zw : Wd σ) (zh : p_L_instruction_0 γ l1 l2 σ Q) : vv_ γ m_L_instruction 10 0 [(0, .ref 128), (1, .int l1), (2, .int l2), (3, .ref 219)] [] σ Q := by
  unfold p_L_instruction_0 at zh
  refine vr_aload_n dL_instruction_0 rfl rfl ?_
  refine vr_iconst dL_instruction_1 (v := (0 : Int32)) (by decide) ?_
  refine vr_aload_n dL_instruction_2 rfl rfl ?_
  refine vr_iload_n dL_instruction_3 rfl rfl ?_
  refine vr_iload_n dL_instruction_4 rfl rfl ?_
  rcases zh with zh | zh
  · obtain ⟨v3, s1, zw1, zf_2, zh⟩ := zh
    refine vc_V (As := [.int l1, .int l2]) (rest := [.int (0 : Int32), .ref 219]) dL_instruction_5 cV_LitmusTesterLaw_7 (wC_128 zw) rfl rfl (Nat.le_of_ble_eq_true rfl) (Nat.le_of_ble_eq_true rfl) (co_n zf_2 ?_)
    replace zw := zw1
    refine vr_i2l dL_instruction_8 ?_
    refine vr_lastore dL_instruction_9 (wS_219 zw) (vp_lit rfl) ?_
    refine vv_so (σ2 := (pt_L s1 219 0 (v3.toInt64))) rfl ?_
    refine vr_goto dL_instruction_10 (tgt := 17) rfl ?_
    refine vr_iconst dL_instruction_17 (v := (0 : Int32)) (by decide) ?_
    exact vr_iret dL_instruction_18 rfl zh
  · obtain ⟨s4, zw1, zf_5, zh⟩ := zh
    refine vc_V (As := [.int l1, .int l2]) (rest := [.int (0 : Int32), .ref 219]) dL_instruction_5 cV_LitmusTesterLaw_7 (wC_128 zw) rfl rfl (Nat.le_of_ble_eq_true rfl) (Nat.le_of_ble_eq_true rfl) (co_t zf_5 ?_)
    replace zw := zw1
    refine vt_catch (E := "java/lang/IndexOutOfBoundsException") [] [] (0, 10, 13, 13) rfl (by decide +kernel) rfl (by decide) tw_991 (fun y zy => by cases zy) dL_instruction_13 (Nat.le_of_ble_eq_true rfl) ?_
    refine vr_iconst dL_instruction_15 (v := (1 : Int32)) (by decide) ?_
    exact vr_iret dL_instruction_16 rfl zh
theorem e_L_instruction {γ : ga_T} {l1 : Int32} {l2 : Int32} {σ : st_T} {Q : rs_T → st_T → Prop} (zw : Wd σ) (zh : p_L_instruction_0 γ l1 l2 σ Q) : sp_ γ m_L_instruction 10 [.ref 128, .int l1, .int l2, .ref 219] σ Q := sp_ofH (pl_L_instruction) rfl (Nat.le_of_ble_eq_true rfl) (g_L_instruction_0 zw zh)
def p_L_outputByte_0 (γ : ga_T) (l1 : Int32) (σ : st_T) (Q : rs_T → st_T → Prop) : Prop :=
  ((
    ∃ (v3 : Int32) (s1 : st_T), Wd s1 ∧ fn_ γ m_X11_outputByte 8 [.ref 128, .int l1] σ (.int v3) s1 ∧
    Q (.inl (some (.int (0 : Int32)))) (pt_L s1 219 0 (v3.toInt64))
  ) ∨ (
    ∃ s4, Wd s4 ∧ ft_ γ m_X11_outputByte 8 [.ref 128, .int l1] σ "java/util/NoSuchElementException" s4 ∧
    Q (.inl (some (.int (1 : Int32)))) s4
  ))
set_option maxRecDepth 10000 in
theorem g_L_outputByte_0 {γ : ga_T} {l1 : Int32} {σ : st_T} {Q : rs_T → st_T → Prop} (zw : Wd σ) (zh : p_L_outputByte_0 γ l1 σ Q) : vv_ γ m_L_outputByte 9 0 [(0, .ref 128), (1, .int l1), (2, .ref 219)] [] σ Q := by
  unfold p_L_outputByte_0 at zh
  refine vr_aload_n dL_outputByte_0 rfl rfl ?_
  refine vr_iconst dL_outputByte_1 (v := (0 : Int32)) (by decide) ?_
  refine vr_aload_n dL_outputByte_2 rfl rfl ?_
  refine vr_iload_n dL_outputByte_3 rfl rfl ?_
  rcases zh with zh | zh
  · obtain ⟨v3, s1, zw1, zf_2, zh⟩ := zh
    refine vc_V (As := [.int l1]) (rest := [.int (0 : Int32), .ref 219]) dL_outputByte_4 cV_LitmusTesterLaw_15 (wC_128 zw) rfl rfl (Nat.le_of_ble_eq_true rfl) (Nat.le_of_ble_eq_true rfl) (co_n zf_2 ?_)
    replace zw := zw1
    refine vr_i2l dL_outputByte_7 ?_
    refine vr_lastore dL_outputByte_8 (wS_219 zw) (vp_lit rfl) ?_
    refine vv_so (σ2 := (pt_L s1 219 0 (v3.toInt64))) rfl ?_
    refine vr_goto dL_outputByte_9 (tgt := 15) rfl ?_
    refine vr_iconst dL_outputByte_15 (v := (0 : Int32)) (by decide) ?_
    exact vr_iret dL_outputByte_16 rfl zh
  · obtain ⟨s4, zw1, zf_5, zh⟩ := zh
    refine vc_V (As := [.int l1]) (rest := [.int (0 : Int32), .ref 219]) dL_outputByte_4 cV_LitmusTesterLaw_15 (wC_128 zw) rfl rfl (Nat.le_of_ble_eq_true rfl) (Nat.le_of_ble_eq_true rfl) (co_t zf_5 ?_)
    replace zw := zw1
    refine vt_catchN (E := "java/util/NoSuchElementException") [] [] (0, 9, 12, 19) rfl (by decide +kernel) rfl (by decide) tw_1072 (fun y zy => by cases zy) dL_outputByte_12 (Nat.le_of_ble_eq_true rfl) ?_
    refine vr_iconst dL_outputByte_13 (v := (1 : Int32)) (by decide) ?_
    exact vr_iret dL_outputByte_14 rfl zh
theorem e_L_outputByte {γ : ga_T} {l1 : Int32} {σ : st_T} {Q : rs_T → st_T → Prop} (zw : Wd σ) (zh : p_L_outputByte_0 γ l1 σ Q) : sp_ γ m_L_outputByte 9 [.ref 128, .int l1, .ref 219] σ Q := sp_ofH (pl_L_outputByte) rfl (Nat.le_of_ble_eq_true rfl) (g_L_outputByte_0 zw zh)
def p_L_outcomeCount_0 (γ : ga_T) (l1 : Int32) (σ : st_T) (Q : rs_T → st_T → Prop) : Prop :=
  ((
    ∃ (v3 : Int32) (s1 : st_T), Wd s1 ∧ fn_ γ m_X11_outcomeCount 9 [.ref 128, .int l1] σ (.int v3) s1 ∧
    Q (.inl (some (.int (0 : Int32)))) (pt_L s1 219 0 (v3.toInt64))
  ) ∨ (
    ∃ s4, Wd s4 ∧ ft_ γ m_X11_outcomeCount 9 [.ref 128, .int l1] σ "java/lang/IllegalArgumentException" s4 ∧
    Q (.inl (some (.int (1 : Int32)))) s4
  ))
set_option maxRecDepth 10000 in
theorem g_L_outcomeCount_0 {γ : ga_T} {l1 : Int32} {σ : st_T} {Q : rs_T → st_T → Prop} (zw : Wd σ) (zh : p_L_outcomeCount_0 γ l1 σ Q) : vv_ γ m_L_outcomeCount 10 0 [(0, .ref 128), (1, .int l1), (2, .ref 219)] [] σ Q := by
  unfold p_L_outcomeCount_0 at zh
  refine vr_aload_n dL_outcomeCount_0 rfl rfl ?_
  refine vr_iconst dL_outcomeCount_1 (v := (0 : Int32)) (by decide) ?_
  refine vr_aload_n dL_outcomeCount_2 rfl rfl ?_
  refine vr_iload_n dL_outcomeCount_3 rfl rfl ?_
  rcases zh with zh | zh
  · obtain ⟨v3, s1, zw1, zf_2, zh⟩ := zh
    refine vc_V (As := [.int l1]) (rest := [.int (0 : Int32), .ref 219]) dL_outcomeCount_4 cV_LitmusTesterLaw_21 (wC_128 zw) rfl rfl (Nat.le_of_ble_eq_true rfl) (Nat.le_of_ble_eq_true rfl) (co_n zf_2 ?_)
    replace zw := zw1
    refine vr_i2l dL_outcomeCount_7 ?_
    refine vr_lastore dL_outcomeCount_8 (wS_219 zw) (vp_lit rfl) ?_
    refine vv_so (σ2 := (pt_L s1 219 0 (v3.toInt64))) rfl ?_
    refine vr_goto dL_outcomeCount_9 (tgt := 15) rfl ?_
    refine vr_iconst dL_outcomeCount_15 (v := (0 : Int32)) (by decide) ?_
    exact vr_iret dL_outcomeCount_16 rfl zh
  · obtain ⟨s4, zw1, zf_5, zh⟩ := zh
    refine vc_V (As := [.int l1]) (rest := [.int (0 : Int32), .ref 219]) dL_outcomeCount_4 cV_LitmusTesterLaw_21 (wC_128 zw) rfl rfl (Nat.le_of_ble_eq_true rfl) (Nat.le_of_ble_eq_true rfl) (co_t zf_5 ?_)
    replace zw := zw1
    refine vt_catchN (E := "java/lang/IllegalArgumentException") [] [] (0, 9, 12, 24) rfl (by decide +kernel) rfl (by decide) tw_1100 (fun y zy => by cases zy) dL_outcomeCount_12 (Nat.le_of_ble_eq_true rfl) ?_
    refine vr_iconst dL_outcomeCount_13 (v := (1 : Int32)) (by decide) ?_
    exact vr_iret dL_outcomeCount_14 rfl zh
theorem e_L_outcomeCount {γ : ga_T} {l1 : Int32} {σ : st_T} {Q : rs_T → st_T → Prop} (zw : Wd σ) (zh : p_L_outcomeCount_0 γ l1 σ Q) : sp_ γ m_L_outcomeCount 10 [.ref 128, .int l1, .ref 219] σ Q := sp_ofH (pl_L_outcomeCount) rfl (Nat.le_of_ble_eq_true rfl) (g_L_outcomeCount_0 zw zh)
def p_L_outcome_0 (γ : ga_T) (l1 : Int32) (l2 : Int32) (σ : st_T) (Q : rs_T → st_T → Prop) : Prop :=
  ((
    ∃ (v3 : Int32) (s1 : st_T), Wd s1 ∧ fn_ γ m_X11_outcome 9 [.ref 128, .int l1, .int l2] σ (.int v3) s1 ∧
    Q (.inl (some (.int (0 : Int32)))) (pt_L s1 219 0 (v3.toInt64))
  ) ∨ (
    ∃ s4, Wd s4 ∧ ft_ γ m_X11_outcome 9 [.ref 128, .int l1, .int l2] σ "java/lang/IllegalArgumentException" s4 ∧
    Q (.inl (some (.int (1 : Int32)))) s4
  ))
set_option maxRecDepth 10000 in
theorem g_L_outcome_0 {γ : ga_T} {l1 : Int32} {l2 : Int32} {σ : st_T} {Q : rs_T → st_T → Prop} (zw : Wd σ) (zh : p_L_outcome_0 γ l1 l2 σ Q) : vv_ γ m_L_outcome 10 0 [(0, .ref 128), (1, .int l1), (2, .int l2), (3, .ref 219)] [] σ Q := by
  unfold p_L_outcome_0 at zh
  refine vr_aload_n dL_outcome_0 rfl rfl ?_
  refine vr_iconst dL_outcome_1 (v := (0 : Int32)) (by decide) ?_
  refine vr_aload_n dL_outcome_2 rfl rfl ?_
  refine vr_iload_n dL_outcome_3 rfl rfl ?_
  refine vr_iload_n dL_outcome_4 rfl rfl ?_
  rcases zh with zh | zh
  · obtain ⟨v3, s1, zw1, zf_2, zh⟩ := zh
    refine vc_V (As := [.int l1, .int l2]) (rest := [.int (0 : Int32), .ref 219]) dL_outcome_5 cV_LitmusTesterLaw_26 (wC_128 zw) rfl rfl (Nat.le_of_ble_eq_true rfl) (Nat.le_of_ble_eq_true rfl) (co_n zf_2 ?_)
    replace zw := zw1
    refine vr_i2l dL_outcome_8 ?_
    refine vr_lastore dL_outcome_9 (wS_219 zw) (vp_lit rfl) ?_
    refine vv_so (σ2 := (pt_L s1 219 0 (v3.toInt64))) rfl ?_
    refine vr_goto dL_outcome_10 (tgt := 17) rfl ?_
    refine vr_iconst dL_outcome_17 (v := (0 : Int32)) (by decide) ?_
    exact vr_iret dL_outcome_18 rfl zh
  · obtain ⟨s4, zw1, zf_5, zh⟩ := zh
    refine vc_V (As := [.int l1, .int l2]) (rest := [.int (0 : Int32), .ref 219]) dL_outcome_5 cV_LitmusTesterLaw_26 (wC_128 zw) rfl rfl (Nat.le_of_ble_eq_true rfl) (Nat.le_of_ble_eq_true rfl) (co_t zf_5 ?_)
    replace zw := zw1
    refine vt_catch (E := "java/lang/IllegalArgumentException") [] [] (0, 10, 13, 24) rfl (by decide +kernel) rfl (by decide) tw_1100 (fun y zy => by cases zy) dL_outcome_13 (Nat.le_of_ble_eq_true rfl) ?_
    refine vr_iconst dL_outcome_15 (v := (1 : Int32)) (by decide) ?_
    exact vr_iret dL_outcome_16 rfl zh
theorem e_L_outcome {γ : ga_T} {l1 : Int32} {l2 : Int32} {σ : st_T} {Q : rs_T → st_T → Prop} (zw : Wd σ) (zh : p_L_outcome_0 γ l1 l2 σ Q) : sp_ γ m_L_outcome 10 [.ref 128, .int l1, .int l2, .ref 219] σ Q := sp_ofH (pl_L_outcome) rfl (Nat.le_of_ble_eq_true rfl) (g_L_outcome_0 zw zh)
def p_L_hasOutcome_0 (γ : ga_T) (l1 : Int32) (l2 : Int32) (σ : st_T) (Q : rs_T → st_T → Prop) : Prop :=
  ((
    ∃ (v3 : Int32) (s1 : st_T), Wd s1 ∧ fn_ γ m_X11_hasOutcome 9 [.ref 128, .int l1, .int l2] σ (.int v3) s1 ∧
    (v3 = (0 : Int32) →
      Q (.inl (some (.int (0 : Int32)))) (pt_L s1 219 0 (0 : Int64))
    ) ∧ (¬ v3 = (0 : Int32) →
      Q (.inl (some (.int (0 : Int32)))) (pt_L s1 219 0 (1 : Int64))
    )
  ) ∨ (
    ∃ s5, Wd s5 ∧ ft_ γ m_X11_hasOutcome 9 [.ref 128, .int l1, .int l2] σ "java/lang/IllegalArgumentException" s5 ∧
    Q (.inl (some (.int (1 : Int32)))) s5
  ))
set_option maxRecDepth 10000 in
theorem g_L_hasOutcome_0 {γ : ga_T} {l1 : Int32} {l2 : Int32} {σ : st_T} {Q : rs_T → st_T → Prop} (zw : Wd σ) (zh : p_L_hasOutcome_0 γ l1 l2 σ Q) : vv_ γ m_L_hasOutcome 10 0 [(0, .ref 128), (1, .int l1), (2, .int l2), (3, .ref 219)] [] σ Q := by
  unfold p_L_hasOutcome_0 at zh
  refine vr_aload_n dL_hasOutcome_0 rfl rfl ?_
  refine vr_iconst dL_hasOutcome_1 (v := (0 : Int32)) (by decide) ?_
  refine vr_aload_n dL_hasOutcome_2 rfl rfl ?_
  refine vr_iload_n dL_hasOutcome_3 rfl rfl ?_
  refine vr_iload_n dL_hasOutcome_4 rfl rfl ?_
  rcases zh with zh | zh
  · obtain ⟨v3, s1, zw1, zf_2, zh⟩ := zh
    refine vc_V (As := [.int l1, .int l2]) (rest := [.int (0 : Int32), .ref 219]) dL_hasOutcome_5 cV_LitmusTesterLaw_29 (wC_128 zw) rfl rfl (Nat.le_of_ble_eq_true rfl) (Nat.le_of_ble_eq_true rfl) (co_n zf_2 ?_)
    replace zw := zw1
    refine vr_if_eq dL_hasOutcome_8 (tgt := 15) rfl (fun zd_4 => ?_) (fun zd_4 => ?_)
    · replace zh := zh.1 zd_4
      refine vr_lconst dL_hasOutcome_15 (v := (0 : Int64)) (by decide) ?_
      refine vr_lastore dL_hasOutcome_16 (wS_219 zw) (vp_lit rfl) ?_
      refine vv_so (σ2 := (pt_L s1 219 0 (0 : Int64))) rfl ?_
      refine vr_goto dL_hasOutcome_17 (tgt := 24) rfl ?_
      refine vr_iconst dL_hasOutcome_24 (v := (0 : Int32)) (by decide) ?_
      exact vr_iret dL_hasOutcome_25 rfl zh
    · replace zh := zh.2 zd_4
      refine vr_lconst dL_hasOutcome_11 (v := (1 : Int64)) (by decide) ?_
      refine vr_goto dL_hasOutcome_12 (tgt := 16) rfl ?_
      refine vr_lastore dL_hasOutcome_16 (wS_219 zw) (vp_lit rfl) ?_
      refine vv_so (σ2 := (pt_L s1 219 0 (1 : Int64))) rfl ?_
      refine vr_goto dL_hasOutcome_17 (tgt := 24) rfl ?_
      refine vr_iconst dL_hasOutcome_24 (v := (0 : Int32)) (by decide) ?_
      exact vr_iret dL_hasOutcome_25 rfl zh
  · obtain ⟨s5, zw1, zf_6, zh⟩ := zh
    refine vc_V (As := [.int l1, .int l2]) (rest := [.int (0 : Int32), .ref 219]) dL_hasOutcome_5 cV_LitmusTesterLaw_29 (wC_128 zw) rfl rfl (Nat.le_of_ble_eq_true rfl) (Nat.le_of_ble_eq_true rfl) (co_t zf_6 ?_)
    replace zw := zw1
    refine vt_catch (E := "java/lang/IllegalArgumentException") [] [] (0, 17, 20, 24) rfl (by decide +kernel) rfl (by decide) tw_1100 (fun y zy => by cases zy) dL_hasOutcome_20 (Nat.le_of_ble_eq_true rfl) ?_
    refine vr_iconst dL_hasOutcome_22 (v := (1 : Int32)) (by decide) ?_
    exact vr_iret dL_hasOutcome_23 rfl zh
theorem e_L_hasOutcome {γ : ga_T} {l1 : Int32} {l2 : Int32} {σ : st_T} {Q : rs_T → st_T → Prop} (zw : Wd σ) (zh : p_L_hasOutcome_0 γ l1 l2 σ Q) : sp_ γ m_L_hasOutcome 10 [.ref 128, .int l1, .int l2, .ref 219] σ Q := sp_ofH (pl_L_hasOutcome) rfl (Nat.le_of_ble_eq_true rfl) (g_L_hasOutcome_0 zw zh)
def p_L_extraOutcomes_0 (γ : ga_T) (l1 : Int32) (l2 : Int32) (σ : st_T) (Q : rs_T → st_T → Prop) : Prop :=
  ((
    ∃ (v3 : Int32) (s1 : st_T), Wd s1 ∧ fn_ γ m_X11_extraOutcomes 9 [.ref 128, .int l1, .int l2] σ (.int v3) s1 ∧
    Q (.inl (some (.int (0 : Int32)))) (pt_L s1 219 0 (v3.toInt64))
  ) ∨ (
    ∃ s4, Wd s4 ∧ ft_ γ m_X11_extraOutcomes 9 [.ref 128, .int l1, .int l2] σ "java/lang/IllegalArgumentException" s4 ∧
    Q (.inl (some (.int (1 : Int32)))) s4
  ))
set_option maxRecDepth 10000 in
theorem g_L_extraOutcomes_0 {γ : ga_T} {l1 : Int32} {l2 : Int32} {σ : st_T} {Q : rs_T → st_T → Prop} (zw : Wd σ) (zh : p_L_extraOutcomes_0 γ l1 l2 σ Q) : vv_ γ m_L_extraOutcomes 10 0 [(0, .ref 128), (1, .int l1), (2, .int l2), (3, .ref 219)] [] σ Q := by
  unfold p_L_extraOutcomes_0 at zh
  refine vr_aload_n dL_extraOutcomes_0 rfl rfl ?_
  refine vr_iconst dL_extraOutcomes_1 (v := (0 : Int32)) (by decide) ?_
  refine vr_aload_n dL_extraOutcomes_2 rfl rfl ?_
  refine vr_iload_n dL_extraOutcomes_3 rfl rfl ?_
  refine vr_iload_n dL_extraOutcomes_4 rfl rfl ?_
  rcases zh with zh | zh
  · obtain ⟨v3, s1, zw1, zf_2, zh⟩ := zh
    refine vc_V (As := [.int l1, .int l2]) (rest := [.int (0 : Int32), .ref 219]) dL_extraOutcomes_5 cV_LitmusTesterLaw_33 (wC_128 zw) rfl rfl (Nat.le_of_ble_eq_true rfl) (Nat.le_of_ble_eq_true rfl) (co_n zf_2 ?_)
    replace zw := zw1
    refine vr_i2l dL_extraOutcomes_8 ?_
    refine vr_lastore dL_extraOutcomes_9 (wS_219 zw) (vp_lit rfl) ?_
    refine vv_so (σ2 := (pt_L s1 219 0 (v3.toInt64))) rfl ?_
    refine vr_goto dL_extraOutcomes_10 (tgt := 17) rfl ?_
    refine vr_iconst dL_extraOutcomes_17 (v := (0 : Int32)) (by decide) ?_
    exact vr_iret dL_extraOutcomes_18 rfl zh
  · obtain ⟨s4, zw1, zf_5, zh⟩ := zh
    refine vc_V (As := [.int l1, .int l2]) (rest := [.int (0 : Int32), .ref 219]) dL_extraOutcomes_5 cV_LitmusTesterLaw_33 (wC_128 zw) rfl rfl (Nat.le_of_ble_eq_true rfl) (Nat.le_of_ble_eq_true rfl) (co_t zf_5 ?_)
    replace zw := zw1
    refine vt_catch (E := "java/lang/IllegalArgumentException") [] [] (0, 10, 13, 24) rfl (by decide +kernel) rfl (by decide) tw_1100 (fun y zy => by cases zy) dL_extraOutcomes_13 (Nat.le_of_ble_eq_true rfl) ?_
    refine vr_iconst dL_extraOutcomes_15 (v := (1 : Int32)) (by decide) ?_
    exact vr_iret dL_extraOutcomes_16 rfl zh
theorem e_L_extraOutcomes {γ : ga_T} {l1 : Int32} {l2 : Int32} {σ : st_T} {Q : rs_T → st_T → Prop} (zw : Wd σ) (zh : p_L_extraOutcomes_0 γ l1 l2 σ Q) : sp_ γ m_L_extraOutcomes 10 [.ref 128, .int l1, .int l2, .ref 219] σ Q := sp_ofH (pl_L_extraOutcomes) rfl (Nat.le_of_ble_eq_true rfl) (g_L_extraOutcomes_0 zw zh)
def p_L_matchCount_0 (γ : ga_T) (l1 : Int32) (σ : st_T) (Q : rs_T → st_T → Prop) : Prop :=
  ((
    ∃ (v3 : Int32) (s1 : st_T), Wd s1 ∧ fn_ γ m_X11_matchCount 9 [.ref 128, .int l1] σ (.int v3) s1 ∧
    Q (.inl (some (.int (0 : Int32)))) (pt_L s1 219 0 (v3.toInt64))
  ) ∨ (
    ∃ s4, Wd s4 ∧ ft_ γ m_X11_matchCount 9 [.ref 128, .int l1] σ "java/lang/IllegalArgumentException" s4 ∧
    Q (.inl (some (.int (1 : Int32)))) s4
  ))
set_option maxRecDepth 10000 in
theorem g_L_matchCount_0 {γ : ga_T} {l1 : Int32} {σ : st_T} {Q : rs_T → st_T → Prop} (zw : Wd σ) (zh : p_L_matchCount_0 γ l1 σ Q) : vv_ γ m_L_matchCount 10 0 [(0, .ref 128), (1, .int l1), (2, .ref 219)] [] σ Q := by
  unfold p_L_matchCount_0 at zh
  refine vr_aload_n dL_matchCount_0 rfl rfl ?_
  refine vr_iconst dL_matchCount_1 (v := (0 : Int32)) (by decide) ?_
  refine vr_aload_n dL_matchCount_2 rfl rfl ?_
  refine vr_iload_n dL_matchCount_3 rfl rfl ?_
  rcases zh with zh | zh
  · obtain ⟨v3, s1, zw1, zf_2, zh⟩ := zh
    refine vc_V (As := [.int l1]) (rest := [.int (0 : Int32), .ref 219]) dL_matchCount_4 cV_LitmusTesterLaw_36 (wC_128 zw) rfl rfl (Nat.le_of_ble_eq_true rfl) (Nat.le_of_ble_eq_true rfl) (co_n zf_2 ?_)
    replace zw := zw1
    refine vr_i2l dL_matchCount_7 ?_
    refine vr_lastore dL_matchCount_8 (wS_219 zw) (vp_lit rfl) ?_
    refine vv_so (σ2 := (pt_L s1 219 0 (v3.toInt64))) rfl ?_
    refine vr_goto dL_matchCount_9 (tgt := 15) rfl ?_
    refine vr_iconst dL_matchCount_15 (v := (0 : Int32)) (by decide) ?_
    exact vr_iret dL_matchCount_16 rfl zh
  · obtain ⟨s4, zw1, zf_5, zh⟩ := zh
    refine vc_V (As := [.int l1]) (rest := [.int (0 : Int32), .ref 219]) dL_matchCount_4 cV_LitmusTesterLaw_36 (wC_128 zw) rfl rfl (Nat.le_of_ble_eq_true rfl) (Nat.le_of_ble_eq_true rfl) (co_t zf_5 ?_)
    replace zw := zw1
    refine vt_catchN (E := "java/lang/IllegalArgumentException") [] [] (0, 9, 12, 24) rfl (by decide +kernel) rfl (by decide) tw_1100 (fun y zy => by cases zy) dL_matchCount_12 (Nat.le_of_ble_eq_true rfl) ?_
    refine vr_iconst dL_matchCount_13 (v := (1 : Int32)) (by decide) ?_
    exact vr_iret dL_matchCount_14 rfl zh
theorem e_L_matchCount {γ : ga_T} {l1 : Int32} {σ : st_T} {Q : rs_T → st_T → Prop} (zw : Wd σ) (zh : p_L_matchCount_0 γ l1 σ Q) : sp_ γ m_L_matchCount 10 [.ref 128, .int l1, .ref 219] σ Q := sp_ofH (pl_L_matchCount) rfl (Nat.le_of_ble_eq_true rfl) (g_L_matchCount_0 zw zh)
def p_L_firstMatch_0 (γ : ga_T) (l1 : Int32) (σ : st_T) (Q : rs_T → st_T → Prop) : Prop :=
  ((
    ∃ (v3 : Int32) (s1 : st_T), Wd s1 ∧ fn_ γ m_X11_firstMatch 9 [.ref 128, .int l1] σ (.int v3) s1 ∧
    Q (.inl (some (.int (0 : Int32)))) (pt_L s1 219 0 (v3.toInt64))
  ) ∨ (
    ∃ s4, Wd s4 ∧ ft_ γ m_X11_firstMatch 9 [.ref 128, .int l1] σ "java/lang/IllegalArgumentException" s4 ∧
    Q (.inl (some (.int (1 : Int32)))) s4
  ))
set_option maxRecDepth 10000 in
theorem g_L_firstMatch_0 {γ : ga_T} {l1 : Int32} {σ : st_T} {Q : rs_T → st_T → Prop} (zw : Wd σ) (zh : p_L_firstMatch_0 γ l1 σ Q) : vv_ γ m_L_firstMatch 10 0 [(0, .ref 128), (1, .int l1), (2, .ref 219)] [] σ Q := by
  unfold p_L_firstMatch_0 at zh
  refine vr_aload_n dL_firstMatch_0 rfl rfl ?_
  refine vr_iconst dL_firstMatch_1 (v := (0 : Int32)) (by decide) ?_
  refine vr_aload_n dL_firstMatch_2 rfl rfl ?_
  refine vr_iload_n dL_firstMatch_3 rfl rfl ?_
  rcases zh with zh | zh
  · obtain ⟨v3, s1, zw1, zf_2, zh⟩ := zh
    refine vc_V (As := [.int l1]) (rest := [.int (0 : Int32), .ref 219]) dL_firstMatch_4 cV_LitmusTesterLaw_39 (wC_128 zw) rfl rfl (Nat.le_of_ble_eq_true rfl) (Nat.le_of_ble_eq_true rfl) (co_n zf_2 ?_)
    replace zw := zw1
    refine vr_i2l dL_firstMatch_7 ?_
    refine vr_lastore dL_firstMatch_8 (wS_219 zw) (vp_lit rfl) ?_
    refine vv_so (σ2 := (pt_L s1 219 0 (v3.toInt64))) rfl ?_
    refine vr_goto dL_firstMatch_9 (tgt := 15) rfl ?_
    refine vr_iconst dL_firstMatch_15 (v := (0 : Int32)) (by decide) ?_
    exact vr_iret dL_firstMatch_16 rfl zh
  · obtain ⟨s4, zw1, zf_5, zh⟩ := zh
    refine vc_V (As := [.int l1]) (rest := [.int (0 : Int32), .ref 219]) dL_firstMatch_4 cV_LitmusTesterLaw_39 (wC_128 zw) rfl rfl (Nat.le_of_ble_eq_true rfl) (Nat.le_of_ble_eq_true rfl) (co_t zf_5 ?_)
    replace zw := zw1
    refine vt_catchN (E := "java/lang/IllegalArgumentException") [] [] (0, 9, 12, 24) rfl (by decide +kernel) rfl (by decide) tw_1100 (fun y zy => by cases zy) dL_firstMatch_12 (Nat.le_of_ble_eq_true rfl) ?_
    refine vr_iconst dL_firstMatch_13 (v := (1 : Int32)) (by decide) ?_
    exact vr_iret dL_firstMatch_14 rfl zh
theorem e_L_firstMatch {γ : ga_T} {l1 : Int32} {σ : st_T} {Q : rs_T → st_T → Prop} (zw : Wd σ) (zh : p_L_firstMatch_0 γ l1 σ Q) : sp_ γ m_L_firstMatch 10 [.ref 128, .int l1, .ref 219] σ Q := sp_ofH (pl_L_firstMatch) rfl (Nat.le_of_ble_eq_true rfl) (g_L_firstMatch_0 zw zh)
def p_L_stateCount_0 (γ : ga_T) (l1 : Int32) (σ : st_T) (Q : rs_T → st_T → Prop) : Prop :=
  ((
    ∃ (v3 : Int32) (s1 : st_T), Wd s1 ∧ fn_ γ m_X11_stateCount 9 [.ref 128, .int l1] σ (.int v3) s1 ∧
    Q (.inl (some (.int (0 : Int32)))) (pt_L s1 219 0 (v3.toInt64))
  ) ∨ (
    ∃ s4, Wd s4 ∧ ft_ γ m_X11_stateCount 9 [.ref 128, .int l1] σ "java/lang/IllegalArgumentException" s4 ∧
    Q (.inl (some (.int (1 : Int32)))) s4
  ))
set_option maxRecDepth 10000 in
theorem g_L_stateCount_0 {γ : ga_T} {l1 : Int32} {σ : st_T} {Q : rs_T → st_T → Prop} (zw : Wd σ) (zh : p_L_stateCount_0 γ l1 σ Q) : vv_ γ m_L_stateCount 10 0 [(0, .ref 128), (1, .int l1), (2, .ref 219)] [] σ Q := by
  unfold p_L_stateCount_0 at zh
  refine vr_aload_n dL_stateCount_0 rfl rfl ?_
  refine vr_iconst dL_stateCount_1 (v := (0 : Int32)) (by decide) ?_
  refine vr_aload_n dL_stateCount_2 rfl rfl ?_
  refine vr_iload_n dL_stateCount_3 rfl rfl ?_
  rcases zh with zh | zh
  · obtain ⟨v3, s1, zw1, zf_2, zh⟩ := zh
    refine vc_V (As := [.int l1]) (rest := [.int (0 : Int32), .ref 219]) dL_stateCount_4 cV_LitmusTesterLaw_42 (wC_128 zw) rfl rfl (Nat.le_of_ble_eq_true rfl) (Nat.le_of_ble_eq_true rfl) (co_n zf_2 ?_)
    replace zw := zw1
    refine vr_i2l dL_stateCount_7 ?_
    refine vr_lastore dL_stateCount_8 (wS_219 zw) (vp_lit rfl) ?_
    refine vv_so (σ2 := (pt_L s1 219 0 (v3.toInt64))) rfl ?_
    refine vr_goto dL_stateCount_9 (tgt := 15) rfl ?_
    refine vr_iconst dL_stateCount_15 (v := (0 : Int32)) (by decide) ?_
    exact vr_iret dL_stateCount_16 rfl zh
  · obtain ⟨s4, zw1, zf_5, zh⟩ := zh
    refine vc_V (As := [.int l1]) (rest := [.int (0 : Int32), .ref 219]) dL_stateCount_4 cV_LitmusTesterLaw_42 (wC_128 zw) rfl rfl (Nat.le_of_ble_eq_true rfl) (Nat.le_of_ble_eq_true rfl) (co_t zf_5 ?_)
    replace zw := zw1
    refine vt_catchN (E := "java/lang/IllegalArgumentException") [] [] (0, 9, 12, 24) rfl (by decide +kernel) rfl (by decide) tw_1100 (fun y zy => by cases zy) dL_stateCount_12 (Nat.le_of_ble_eq_true rfl) ?_
    refine vr_iconst dL_stateCount_13 (v := (1 : Int32)) (by decide) ?_
    exact vr_iret dL_stateCount_14 rfl zh
theorem e_L_stateCount {γ : ga_T} {l1 : Int32} {σ : st_T} {Q : rs_T → st_T → Prop} (zw : Wd σ) (zh : p_L_stateCount_0 γ l1 σ Q) : sp_ γ m_L_stateCount 10 [.ref 128, .int l1, .ref 219] σ Q := sp_ofH (pl_L_stateCount) rfl (Nat.le_of_ble_eq_true rfl) (g_L_stateCount_0 zw zh)
def p_L_executionCount_0 (γ : ga_T) (l1 : Int32) (σ : st_T) (Q : rs_T → st_T → Prop) : Prop :=
  ((
    ∃ (v3 : Int64) (s1 : st_T), Wd s1 ∧ fn_ γ m_X11_executionCount 9 [.ref 128, .int l1] σ (.long v3) s1 ∧
    Q (.inl (some (.int (0 : Int32)))) (pt_L s1 219 0 v3)
  ) ∨ (
    ∃ s4, Wd s4 ∧ ft_ γ m_X11_executionCount 9 [.ref 128, .int l1] σ "java/lang/IllegalArgumentException" s4 ∧
    Q (.inl (some (.int (1 : Int32)))) s4
  ))
set_option maxRecDepth 10000 in
theorem g_L_executionCount_0 {γ : ga_T} {l1 : Int32} {σ : st_T} {Q : rs_T → st_T → Prop} (zw : Wd σ) (zh : p_L_executionCount_0 γ l1 σ Q) : vv_ γ m_L_executionCount 10 0 [(0, .ref 128), (1, .int l1), (2, .ref 219)] [] σ Q := by
  unfold p_L_executionCount_0 at zh
  refine vr_aload_n dL_executionCount_0 rfl rfl ?_
  refine vr_iconst dL_executionCount_1 (v := (0 : Int32)) (by decide) ?_
  refine vr_aload_n dL_executionCount_2 rfl rfl ?_
  refine vr_iload_n dL_executionCount_3 rfl rfl ?_
  rcases zh with zh | zh
  · obtain ⟨v3, s1, zw1, zf_2, zh⟩ := zh
    refine vc_V (As := [.int l1]) (rest := [.int (0 : Int32), .ref 219]) dL_executionCount_4 cV_LitmusTesterLaw_45 (wC_128 zw) rfl rfl (Nat.le_of_ble_eq_true rfl) (Nat.le_of_ble_eq_true rfl) (co_n zf_2 ?_)
    replace zw := zw1
    refine vr_lastore dL_executionCount_7 (wS_219 zw) (vp_lit rfl) ?_
    refine vv_so (σ2 := (pt_L s1 219 0 v3)) rfl ?_
    refine vr_goto dL_executionCount_8 (tgt := 14) rfl ?_
    refine vr_iconst dL_executionCount_14 (v := (0 : Int32)) (by decide) ?_
    exact vr_iret dL_executionCount_15 rfl zh
  · obtain ⟨s4, zw1, zf_5, zh⟩ := zh
    refine vc_V (As := [.int l1]) (rest := [.int (0 : Int32), .ref 219]) dL_executionCount_4 cV_LitmusTesterLaw_45 (wC_128 zw) rfl rfl (Nat.le_of_ble_eq_true rfl) (Nat.le_of_ble_eq_true rfl) (co_t zf_5 ?_)
    replace zw := zw1
    refine vt_catchN (E := "java/lang/IllegalArgumentException") [] [] (0, 8, 11, 24) rfl (by decide +kernel) rfl (by decide) tw_1100 (fun y zy => by cases zy) dL_executionCount_11 (Nat.le_of_ble_eq_true rfl) ?_
    refine vr_iconst dL_executionCount_12 (v := (1 : Int32)) (by decide) ?_
    exact vr_iret dL_executionCount_13 rfl zh
theorem e_L_executionCount {γ : ga_T} {l1 : Int32} {σ : st_T} {Q : rs_T → st_T → Prop} (zw : Wd σ) (zh : p_L_executionCount_0 γ l1 σ Q) : sp_ γ m_L_executionCount 10 [.ref 128, .int l1, .ref 219] σ Q := sp_ofH (pl_L_executionCount) rfl (Nat.le_of_ble_eq_true rfl) (g_L_executionCount_0 zw zh)
def p_L_executionsWith_0 (γ : ga_T) (l1 : Int32) (l2 : Int32) (σ : st_T) (Q : rs_T → st_T → Prop) : Prop :=
  ((
    ∃ (v3 : Int64) (s1 : st_T), Wd s1 ∧ fn_ γ m_X11_executionsWith 9 [.ref 128, .int l1, .int l2] σ (.long v3) s1 ∧
    Q (.inl (some (.int (0 : Int32)))) (pt_L s1 219 0 v3)
  ) ∨ (
    ∃ s4, Wd s4 ∧ ft_ γ m_X11_executionsWith 9 [.ref 128, .int l1, .int l2] σ "java/lang/IllegalArgumentException" s4 ∧
    Q (.inl (some (.int (1 : Int32)))) s4
  ))
set_option maxRecDepth 10000 in
theorem g_L_executionsWith_0 {γ : ga_T} {l1 : Int32} {l2 : Int32} {σ : st_T} {Q : rs_T → st_T → Prop} (zw : Wd σ) (zh : p_L_executionsWith_0 γ l1 l2 σ Q) : vv_ γ m_L_executionsWith 10 0 [(0, .ref 128), (1, .int l1), (2, .int l2), (3, .ref 219)] [] σ Q := by
  unfold p_L_executionsWith_0 at zh
  refine vr_aload_n dL_executionsWith_0 rfl rfl ?_
  refine vr_iconst dL_executionsWith_1 (v := (0 : Int32)) (by decide) ?_
  refine vr_aload_n dL_executionsWith_2 rfl rfl ?_
  refine vr_iload_n dL_executionsWith_3 rfl rfl ?_
  refine vr_iload_n dL_executionsWith_4 rfl rfl ?_
  rcases zh with zh | zh
  · obtain ⟨v3, s1, zw1, zf_2, zh⟩ := zh
    refine vc_V (As := [.int l1, .int l2]) (rest := [.int (0 : Int32), .ref 219]) dL_executionsWith_5 cV_LitmusTesterLaw_49 (wC_128 zw) rfl rfl (Nat.le_of_ble_eq_true rfl) (Nat.le_of_ble_eq_true rfl) (co_n zf_2 ?_)
    replace zw := zw1
    refine vr_lastore dL_executionsWith_8 (wS_219 zw) (vp_lit rfl) ?_
    refine vv_so (σ2 := (pt_L s1 219 0 v3)) rfl ?_
    refine vr_goto dL_executionsWith_9 (tgt := 16) rfl ?_
    refine vr_iconst dL_executionsWith_16 (v := (0 : Int32)) (by decide) ?_
    exact vr_iret dL_executionsWith_17 rfl zh
  · obtain ⟨s4, zw1, zf_5, zh⟩ := zh
    refine vc_V (As := [.int l1, .int l2]) (rest := [.int (0 : Int32), .ref 219]) dL_executionsWith_5 cV_LitmusTesterLaw_49 (wC_128 zw) rfl rfl (Nat.le_of_ble_eq_true rfl) (Nat.le_of_ble_eq_true rfl) (co_t zf_5 ?_)
    replace zw := zw1
    refine vt_catch (E := "java/lang/IllegalArgumentException") [] [] (0, 9, 12, 24) rfl (by decide +kernel) rfl (by decide) tw_1100 (fun y zy => by cases zy) dL_executionsWith_12 (Nat.le_of_ble_eq_true rfl) ?_
    refine vr_iconst dL_executionsWith_14 (v := (1 : Int32)) (by decide) ?_
    exact vr_iret dL_executionsWith_15 rfl zh
theorem e_L_executionsWith {γ : ga_T} {l1 : Int32} {l2 : Int32} {σ : st_T} {Q : rs_T → st_T → Prop} (zw : Wd σ) (zh : p_L_executionsWith_0 γ l1 l2 σ Q) : sp_ γ m_L_executionsWith 10 [.ref 128, .int l1, .int l2, .ref 219] σ Q := sp_ofH (pl_L_executionsWith) rfl (Nat.le_of_ble_eq_true rfl) (g_L_executionsWith_0 zw zh)
def p_L_readValues_0 (γ : ga_T) (l1 : Int32) (l2 : Int32) (σ : st_T) (Q : rs_T → st_T → Prop) : Prop :=
  ((
    ∃ (v3 : Int32) (s1 : st_T), Wd s1 ∧ fn_ γ m_X11_readValues 9 [.ref 128, .int l1, .int l2] σ (.int v3) s1 ∧
    Q (.inl (some (.int (0 : Int32)))) (pt_L s1 219 0 (v3.toInt64))
  ) ∨ (
    ∃ s4, Wd s4 ∧ ft_ γ m_X11_readValues 9 [.ref 128, .int l1, .int l2] σ "java/lang/IllegalArgumentException" s4 ∧
    Q (.inl (some (.int (1 : Int32)))) s4
  ) ∨ (
    ∃ s6, Wd s6 ∧ ft_ γ m_X11_readValues 9 [.ref 128, .int l1, .int l2] σ "java/lang/IndexOutOfBoundsException" s6 ∧
    Q (.inl (some (.int (2 : Int32)))) s6
  ) ∨ (
    ∃ s8, Wd s8 ∧ ft_ γ m_X11_readValues 9 [.ref 128, .int l1, .int l2] σ "java/util/NoSuchElementException" s8 ∧
    Q (.inl (some (.int (3 : Int32)))) s8
  ))
set_option maxRecDepth 10000 in
theorem g_L_readValues_0 {γ : ga_T} {l1 : Int32} {l2 : Int32} {σ : st_T} {Q : rs_T → st_T → Prop} (zw : Wd σ) (zh : p_L_readValues_0 γ l1 l2 σ Q) : vv_ γ m_L_readValues 10 0 [(0, .ref 128), (1, .int l1), (2, .int l2), (3, .ref 219)] [] σ Q := by
  unfold p_L_readValues_0 at zh
  refine vr_aload_n dL_readValues_0 rfl rfl ?_
  refine vr_iconst dL_readValues_1 (v := (0 : Int32)) (by decide) ?_
  refine vr_aload_n dL_readValues_2 rfl rfl ?_
  refine vr_iload_n dL_readValues_3 rfl rfl ?_
  refine vr_iload_n dL_readValues_4 rfl rfl ?_
  rcases zh with zh | zh | zh | zh
  · obtain ⟨v3, s1, zw1, zf_2, zh⟩ := zh
    refine vc_V (As := [.int l1, .int l2]) (rest := [.int (0 : Int32), .ref 219]) dL_readValues_5 cV_LitmusTesterLaw_53 (wC_128 zw) rfl rfl (Nat.le_of_ble_eq_true rfl) (Nat.le_of_ble_eq_true rfl) (co_n zf_2 ?_)
    replace zw := zw1
    refine vr_i2l dL_readValues_8 ?_
    refine vr_lastore dL_readValues_9 (wS_219 zw) (vp_lit rfl) ?_
    refine vv_so (σ2 := (pt_L s1 219 0 (v3.toInt64))) rfl ?_
    refine vr_goto dL_readValues_10 (tgt := 25) rfl ?_
    refine vr_iconst dL_readValues_25 (v := (0 : Int32)) (by decide) ?_
    exact vr_iret dL_readValues_26 rfl zh
  · obtain ⟨s4, zw1, zf_5, zh⟩ := zh
    refine vc_V (As := [.int l1, .int l2]) (rest := [.int (0 : Int32), .ref 219]) dL_readValues_5 cV_LitmusTesterLaw_53 (wC_128 zw) rfl rfl (Nat.le_of_ble_eq_true rfl) (Nat.le_of_ble_eq_true rfl) (co_t zf_5 ?_)
    replace zw := zw1
    refine vt_catch (E := "java/lang/IllegalArgumentException") [] [(0, 10, 17, 13), (0, 10, 21, 19)] (0, 10, 13, 24) rfl (by decide +kernel) rfl (by decide) tw_1100 (fun y zy => by cases zy) dL_readValues_13 (Nat.le_of_ble_eq_true rfl) ?_
    refine vr_iconst dL_readValues_15 (v := (1 : Int32)) (by decide) ?_
    exact vr_iret dL_readValues_16 rfl zh
  · obtain ⟨s6, zw1, zf_7, zh⟩ := zh
    refine vc_V (As := [.int l1, .int l2]) (rest := [.int (0 : Int32), .ref 219]) dL_readValues_5 cV_LitmusTesterLaw_53 (wC_128 zw) rfl rfl (Nat.le_of_ble_eq_true rfl) (Nat.le_of_ble_eq_true rfl) (co_t zf_7 ?_)
    replace zw := zw1
    refine vt_catch (E := "java/lang/IndexOutOfBoundsException") [(0, 10, 13, 24)] [(0, 10, 21, 19)] (0, 10, 17, 13) rfl (by decide +kernel) rfl (by decide) tw_991 (catch_pre_1 (by exact ⟨by decide, "java/lang/IllegalArgumentException", tw_1100, by decide +kernel, by decide⟩)) dL_readValues_17 (Nat.le_of_ble_eq_true rfl) ?_
    refine vr_iconst dL_readValues_19 (v := (2 : Int32)) (by decide) ?_
    exact vr_iret dL_readValues_20 rfl zh
  · obtain ⟨s8, zw1, zf_9, zh⟩ := zh
    refine vc_V (As := [.int l1, .int l2]) (rest := [.int (0 : Int32), .ref 219]) dL_readValues_5 cV_LitmusTesterLaw_53 (wC_128 zw) rfl rfl (Nat.le_of_ble_eq_true rfl) (Nat.le_of_ble_eq_true rfl) (co_t zf_9 ?_)
    replace zw := zw1
    refine vt_catch (E := "java/util/NoSuchElementException") [(0, 10, 13, 24), (0, 10, 17, 13)] [] (0, 10, 21, 19) rfl (by decide +kernel) rfl (by decide) tw_1072 (catch_pre_2 (by exact ⟨by decide, "java/lang/IllegalArgumentException", tw_1100, by decide +kernel, by decide⟩) (by exact ⟨by decide, "java/lang/IndexOutOfBoundsException", tw_991, by decide +kernel, by decide⟩)) dL_readValues_21 (Nat.le_of_ble_eq_true rfl) ?_
    refine vr_iconst dL_readValues_23 (v := (3 : Int32)) (by decide) ?_
    exact vr_iret dL_readValues_24 rfl zh
theorem e_L_readValues {γ : ga_T} {l1 : Int32} {l2 : Int32} {σ : st_T} {Q : rs_T → st_T → Prop} (zw : Wd σ) (zh : p_L_readValues_0 γ l1 l2 σ Q) : sp_ γ m_L_readValues 10 [.ref 128, .int l1, .int l2, .ref 219] σ Q := sp_ofH (pl_L_readValues) rfl (Nat.le_of_ble_eq_true rfl) (g_L_readValues_0 zw zh)
def p_L_finalValues_0 (γ : ga_T) (l1 : Int32) (l2 : Int32) (σ : st_T) (Q : rs_T → st_T → Prop) : Prop :=
  ((
    ∃ (v3 : Int32) (s1 : st_T), Wd s1 ∧ fn_ γ m_X11_finalValues 9 [.ref 128, .int l1, .int l2] σ (.int v3) s1 ∧
    Q (.inl (some (.int (0 : Int32)))) (pt_L s1 219 0 (v3.toInt64))
  ) ∨ (
    ∃ s4, Wd s4 ∧ ft_ γ m_X11_finalValues 9 [.ref 128, .int l1, .int l2] σ "java/lang/IllegalArgumentException" s4 ∧
    Q (.inl (some (.int (1 : Int32)))) s4
  ) ∨ (
    ∃ s6, Wd s6 ∧ ft_ γ m_X11_finalValues 9 [.ref 128, .int l1, .int l2] σ "java/lang/IndexOutOfBoundsException" s6 ∧
    Q (.inl (some (.int (2 : Int32)))) s6
  ))
set_option maxRecDepth 10000 in
theorem g_L_finalValues_0 {γ : ga_T} {l1 : Int32} {l2 : Int32} {σ : st_T} {Q : rs_T → st_T → Prop} (zw : Wd σ) (zh : p_L_finalValues_0 γ l1 l2 σ Q) : vv_ γ m_L_finalValues 10 0 [(0, .ref 128), (1, .int l1), (2, .int l2), (3, .ref 219)] [] σ Q := by
  unfold p_L_finalValues_0 at zh
  refine vr_aload_n dL_finalValues_0 rfl rfl ?_
  refine vr_iconst dL_finalValues_1 (v := (0 : Int32)) (by decide) ?_
  refine vr_aload_n dL_finalValues_2 rfl rfl ?_
  refine vr_iload_n dL_finalValues_3 rfl rfl ?_
  refine vr_iload_n dL_finalValues_4 rfl rfl ?_
  rcases zh with zh | zh | zh
  · obtain ⟨v3, s1, zw1, zf_2, zh⟩ := zh
    refine vc_V (As := [.int l1, .int l2]) (rest := [.int (0 : Int32), .ref 219]) dL_finalValues_5 cV_LitmusTesterLaw_56 (wC_128 zw) rfl rfl (Nat.le_of_ble_eq_true rfl) (Nat.le_of_ble_eq_true rfl) (co_n zf_2 ?_)
    replace zw := zw1
    refine vr_i2l dL_finalValues_8 ?_
    refine vr_lastore dL_finalValues_9 (wS_219 zw) (vp_lit rfl) ?_
    refine vv_so (σ2 := (pt_L s1 219 0 (v3.toInt64))) rfl ?_
    refine vr_goto dL_finalValues_10 (tgt := 21) rfl ?_
    refine vr_iconst dL_finalValues_21 (v := (0 : Int32)) (by decide) ?_
    exact vr_iret dL_finalValues_22 rfl zh
  · obtain ⟨s4, zw1, zf_5, zh⟩ := zh
    refine vc_V (As := [.int l1, .int l2]) (rest := [.int (0 : Int32), .ref 219]) dL_finalValues_5 cV_LitmusTesterLaw_56 (wC_128 zw) rfl rfl (Nat.le_of_ble_eq_true rfl) (Nat.le_of_ble_eq_true rfl) (co_t zf_5 ?_)
    replace zw := zw1
    refine vt_catch (E := "java/lang/IllegalArgumentException") [] [(0, 10, 17, 13)] (0, 10, 13, 24) rfl (by decide +kernel) rfl (by decide) tw_1100 (fun y zy => by cases zy) dL_finalValues_13 (Nat.le_of_ble_eq_true rfl) ?_
    refine vr_iconst dL_finalValues_15 (v := (1 : Int32)) (by decide) ?_
    exact vr_iret dL_finalValues_16 rfl zh
  · obtain ⟨s6, zw1, zf_7, zh⟩ := zh
    refine vc_V (As := [.int l1, .int l2]) (rest := [.int (0 : Int32), .ref 219]) dL_finalValues_5 cV_LitmusTesterLaw_56 (wC_128 zw) rfl rfl (Nat.le_of_ble_eq_true rfl) (Nat.le_of_ble_eq_true rfl) (co_t zf_7 ?_)
    replace zw := zw1
    refine vt_catch (E := "java/lang/IndexOutOfBoundsException") [(0, 10, 13, 24)] [] (0, 10, 17, 13) rfl (by decide +kernel) rfl (by decide) tw_991 (catch_pre_1 (by exact ⟨by decide, "java/lang/IllegalArgumentException", tw_1100, by decide +kernel, by decide⟩)) dL_finalValues_17 (Nat.le_of_ble_eq_true rfl) ?_
    refine vr_iconst dL_finalValues_19 (v := (2 : Int32)) (by decide) ?_
    exact vr_iret dL_finalValues_20 rfl zh
theorem e_L_finalValues {γ : ga_T} {l1 : Int32} {l2 : Int32} {σ : st_T} {Q : rs_T → st_T → Prop} (zw : Wd σ) (zh : p_L_finalValues_0 γ l1 l2 σ Q) : sp_ γ m_L_finalValues 10 [.ref 128, .int l1, .int l2, .ref 219] σ Q := sp_ofH (pl_L_finalValues) rfl (Nat.le_of_ble_eq_true rfl) (g_L_finalValues_0 zw zh)
def p_L_greatestBuffer_0 (γ : ga_T) (l1 : Int32) (l2 : Int32) (σ : st_T) (Q : rs_T → st_T → Prop) : Prop :=
  ((
    ∃ (v3 : Int32) (s1 : st_T), Wd s1 ∧ fn_ γ m_X11_greatestBuffer 9 [.ref 128, .int l1, .int l2] σ (.int v3) s1 ∧
    Q (.inl (some (.int (0 : Int32)))) (pt_L s1 219 0 (v3.toInt64))
  ) ∨ (
    ∃ s4, Wd s4 ∧ ft_ γ m_X11_greatestBuffer 9 [.ref 128, .int l1, .int l2] σ "java/lang/IllegalArgumentException" s4 ∧
    Q (.inl (some (.int (1 : Int32)))) s4
  ) ∨ (
    ∃ s6, Wd s6 ∧ ft_ γ m_X11_greatestBuffer 9 [.ref 128, .int l1, .int l2] σ "java/lang/IndexOutOfBoundsException" s6 ∧
    Q (.inl (some (.int (2 : Int32)))) s6
  ))
set_option maxRecDepth 10000 in
theorem g_L_greatestBuffer_0 {γ : ga_T} {l1 : Int32} {l2 : Int32} {σ : st_T} {Q : rs_T → st_T → Prop} (zw : Wd σ) (zh : p_L_greatestBuffer_0 γ l1 l2 σ Q) : vv_ γ m_L_greatestBuffer 10 0 [(0, .ref 128), (1, .int l1), (2, .int l2), (3, .ref 219)] [] σ Q := by
  unfold p_L_greatestBuffer_0 at zh
  refine vr_aload_n dL_greatestBuffer_0 rfl rfl ?_
  refine vr_iconst dL_greatestBuffer_1 (v := (0 : Int32)) (by decide) ?_
  refine vr_aload_n dL_greatestBuffer_2 rfl rfl ?_
  refine vr_iload_n dL_greatestBuffer_3 rfl rfl ?_
  refine vr_iload_n dL_greatestBuffer_4 rfl rfl ?_
  rcases zh with zh | zh | zh
  · obtain ⟨v3, s1, zw1, zf_2, zh⟩ := zh
    refine vc_V (As := [.int l1, .int l2]) (rest := [.int (0 : Int32), .ref 219]) dL_greatestBuffer_5 cV_LitmusTesterLaw_59 (wC_128 zw) rfl rfl (Nat.le_of_ble_eq_true rfl) (Nat.le_of_ble_eq_true rfl) (co_n zf_2 ?_)
    replace zw := zw1
    refine vr_i2l dL_greatestBuffer_8 ?_
    refine vr_lastore dL_greatestBuffer_9 (wS_219 zw) (vp_lit rfl) ?_
    refine vv_so (σ2 := (pt_L s1 219 0 (v3.toInt64))) rfl ?_
    refine vr_goto dL_greatestBuffer_10 (tgt := 21) rfl ?_
    refine vr_iconst dL_greatestBuffer_21 (v := (0 : Int32)) (by decide) ?_
    exact vr_iret dL_greatestBuffer_22 rfl zh
  · obtain ⟨s4, zw1, zf_5, zh⟩ := zh
    refine vc_V (As := [.int l1, .int l2]) (rest := [.int (0 : Int32), .ref 219]) dL_greatestBuffer_5 cV_LitmusTesterLaw_59 (wC_128 zw) rfl rfl (Nat.le_of_ble_eq_true rfl) (Nat.le_of_ble_eq_true rfl) (co_t zf_5 ?_)
    replace zw := zw1
    refine vt_catch (E := "java/lang/IllegalArgumentException") [] [(0, 10, 17, 13)] (0, 10, 13, 24) rfl (by decide +kernel) rfl (by decide) tw_1100 (fun y zy => by cases zy) dL_greatestBuffer_13 (Nat.le_of_ble_eq_true rfl) ?_
    refine vr_iconst dL_greatestBuffer_15 (v := (1 : Int32)) (by decide) ?_
    exact vr_iret dL_greatestBuffer_16 rfl zh
  · obtain ⟨s6, zw1, zf_7, zh⟩ := zh
    refine vc_V (As := [.int l1, .int l2]) (rest := [.int (0 : Int32), .ref 219]) dL_greatestBuffer_5 cV_LitmusTesterLaw_59 (wC_128 zw) rfl rfl (Nat.le_of_ble_eq_true rfl) (Nat.le_of_ble_eq_true rfl) (co_t zf_7 ?_)
    replace zw := zw1
    refine vt_catch (E := "java/lang/IndexOutOfBoundsException") [(0, 10, 13, 24)] [] (0, 10, 17, 13) rfl (by decide +kernel) rfl (by decide) tw_991 (catch_pre_1 (by exact ⟨by decide, "java/lang/IllegalArgumentException", tw_1100, by decide +kernel, by decide⟩)) dL_greatestBuffer_17 (Nat.le_of_ble_eq_true rfl) ?_
    refine vr_iconst dL_greatestBuffer_19 (v := (2 : Int32)) (by decide) ?_
    exact vr_iret dL_greatestBuffer_20 rfl zh
theorem e_L_greatestBuffer {γ : ga_T} {l1 : Int32} {l2 : Int32} {σ : st_T} {Q : rs_T → st_T → Prop} (zw : Wd σ) (zh : p_L_greatestBuffer_0 γ l1 l2 σ Q) : sp_ γ m_L_greatestBuffer 10 [.ref 128, .int l1, .int l2, .ref 219] σ Q := sp_ofH (pl_L_greatestBuffer) rfl (Nat.le_of_ble_eq_true rfl) (g_L_greatestBuffer_0 zw zh)
def p_L_isRace_0 (γ : ga_T) (l1 : Int32) (l2 : Int32) (σ : st_T) (Q : rs_T → st_T → Prop) : Prop :=
  ((
    ∃ (v3 : Int32) (s1 : st_T), Wd s1 ∧ fn_ γ m_X11_isRace 9 [.ref 128, .int l1, .int l2] σ (.int v3) s1 ∧
    (v3 = (0 : Int32) →
      Q (.inl (some (.int (0 : Int32)))) (pt_L s1 219 0 (0 : Int64))
    ) ∧ (¬ v3 = (0 : Int32) →
      Q (.inl (some (.int (0 : Int32)))) (pt_L s1 219 0 (1 : Int64))
    )
  ) ∨ (
    ∃ s5, Wd s5 ∧ ft_ γ m_X11_isRace 9 [.ref 128, .int l1, .int l2] σ "java/lang/IndexOutOfBoundsException" s5 ∧
    Q (.inl (some (.int (1 : Int32)))) s5
  ))
set_option maxRecDepth 10000 in
theorem g_L_isRace_0 {γ : ga_T} {l1 : Int32} {l2 : Int32} {σ : st_T} {Q : rs_T → st_T → Prop} (zw : Wd σ) (zh : p_L_isRace_0 γ l1 l2 σ Q) : vv_ γ m_L_isRace 10 0 [(0, .ref 128), (1, .int l1), (2, .int l2), (3, .ref 219)] [] σ Q := by
  unfold p_L_isRace_0 at zh
  refine vr_aload_n dL_isRace_0 rfl rfl ?_
  refine vr_iconst dL_isRace_1 (v := (0 : Int32)) (by decide) ?_
  refine vr_aload_n dL_isRace_2 rfl rfl ?_
  refine vr_iload_n dL_isRace_3 rfl rfl ?_
  refine vr_iload_n dL_isRace_4 rfl rfl ?_
  rcases zh with zh | zh
  · obtain ⟨v3, s1, zw1, zf_2, zh⟩ := zh
    refine vc_V (As := [.int l1, .int l2]) (rest := [.int (0 : Int32), .ref 219]) dL_isRace_5 cV_LitmusTesterLaw_62 (wC_128 zw) rfl rfl (Nat.le_of_ble_eq_true rfl) (Nat.le_of_ble_eq_true rfl) (co_n zf_2 ?_)
    replace zw := zw1
    refine vr_if_eq dL_isRace_8 (tgt := 15) rfl (fun zd_4 => ?_) (fun zd_4 => ?_)
    · replace zh := zh.1 zd_4
      refine vr_lconst dL_isRace_15 (v := (0 : Int64)) (by decide) ?_
      refine vr_lastore dL_isRace_16 (wS_219 zw) (vp_lit rfl) ?_
      refine vv_so (σ2 := (pt_L s1 219 0 (0 : Int64))) rfl ?_
      refine vr_goto dL_isRace_17 (tgt := 24) rfl ?_
      refine vr_iconst dL_isRace_24 (v := (0 : Int32)) (by decide) ?_
      exact vr_iret dL_isRace_25 rfl zh
    · replace zh := zh.2 zd_4
      refine vr_lconst dL_isRace_11 (v := (1 : Int64)) (by decide) ?_
      refine vr_goto dL_isRace_12 (tgt := 16) rfl ?_
      refine vr_lastore dL_isRace_16 (wS_219 zw) (vp_lit rfl) ?_
      refine vv_so (σ2 := (pt_L s1 219 0 (1 : Int64))) rfl ?_
      refine vr_goto dL_isRace_17 (tgt := 24) rfl ?_
      refine vr_iconst dL_isRace_24 (v := (0 : Int32)) (by decide) ?_
      exact vr_iret dL_isRace_25 rfl zh
  · obtain ⟨s5, zw1, zf_6, zh⟩ := zh
    refine vc_V (As := [.int l1, .int l2]) (rest := [.int (0 : Int32), .ref 219]) dL_isRace_5 cV_LitmusTesterLaw_62 (wC_128 zw) rfl rfl (Nat.le_of_ble_eq_true rfl) (Nat.le_of_ble_eq_true rfl) (co_t zf_6 ?_)
    replace zw := zw1
    refine vt_catch (E := "java/lang/IndexOutOfBoundsException") [] [] (0, 17, 20, 13) rfl (by decide +kernel) rfl (by decide) tw_991 (fun y zy => by cases zy) dL_isRace_20 (Nat.le_of_ble_eq_true rfl) ?_
    refine vr_iconst dL_isRace_22 (v := (1 : Int32)) (by decide) ?_
    exact vr_iret dL_isRace_23 rfl zh
theorem e_L_isRace {γ : ga_T} {l1 : Int32} {l2 : Int32} {σ : st_T} {Q : rs_T → st_T → Prop} (zw : Wd σ) (zh : p_L_isRace_0 γ l1 l2 σ Q) : sp_ γ m_L_isRace 10 [.ref 128, .int l1, .int l2, .ref 219] σ Q := sp_ofH (pl_L_isRace) rfl (Nat.le_of_ble_eq_true rfl) (g_L_isRace_0 zw zh)
def p_L_matchesWith_0 (γ : ga_T) (l1 : Int32) (l2 : Int32) (σ : st_T) (Q : rs_T → st_T → Prop) : Prop :=
  ((
    ∃ (v3 : Int32) (s1 : st_T), Wd s1 ∧ fn_ γ m_X11_matchesWith 9 [.ref 128, .int l1, .int l2] σ (.int v3) s1 ∧
    Q (.inl (some (.int (0 : Int32)))) (pt_L s1 219 0 (v3.toInt64))
  ) ∨ (
    ∃ s4, Wd s4 ∧ ft_ γ m_X11_matchesWith 9 [.ref 128, .int l1, .int l2] σ "java/lang/IllegalArgumentException" s4 ∧
    Q (.inl (some (.int (1 : Int32)))) s4
  ))
set_option maxRecDepth 10000 in
theorem g_L_matchesWith_0 {γ : ga_T} {l1 : Int32} {l2 : Int32} {σ : st_T} {Q : rs_T → st_T → Prop} (zw : Wd σ) (zh : p_L_matchesWith_0 γ l1 l2 σ Q) : vv_ γ m_L_matchesWith 10 0 [(0, .ref 128), (1, .int l1), (2, .int l2), (3, .ref 219)] [] σ Q := by
  unfold p_L_matchesWith_0 at zh
  refine vr_aload_n dL_matchesWith_0 rfl rfl ?_
  refine vr_iconst dL_matchesWith_1 (v := (0 : Int32)) (by decide) ?_
  refine vr_aload_n dL_matchesWith_2 rfl rfl ?_
  refine vr_iload_n dL_matchesWith_3 rfl rfl ?_
  refine vr_iload_n dL_matchesWith_4 rfl rfl ?_
  rcases zh with zh | zh
  · obtain ⟨v3, s1, zw1, zf_2, zh⟩ := zh
    refine vc_V (As := [.int l1, .int l2]) (rest := [.int (0 : Int32), .ref 219]) dL_matchesWith_5 cV_LitmusTesterLaw_65 (wC_128 zw) rfl rfl (Nat.le_of_ble_eq_true rfl) (Nat.le_of_ble_eq_true rfl) (co_n zf_2 ?_)
    replace zw := zw1
    refine vr_i2l dL_matchesWith_8 ?_
    refine vr_lastore dL_matchesWith_9 (wS_219 zw) (vp_lit rfl) ?_
    refine vv_so (σ2 := (pt_L s1 219 0 (v3.toInt64))) rfl ?_
    refine vr_goto dL_matchesWith_10 (tgt := 17) rfl ?_
    refine vr_iconst dL_matchesWith_17 (v := (0 : Int32)) (by decide) ?_
    exact vr_iret dL_matchesWith_18 rfl zh
  · obtain ⟨s4, zw1, zf_5, zh⟩ := zh
    refine vc_V (As := [.int l1, .int l2]) (rest := [.int (0 : Int32), .ref 219]) dL_matchesWith_5 cV_LitmusTesterLaw_65 (wC_128 zw) rfl rfl (Nat.le_of_ble_eq_true rfl) (Nat.le_of_ble_eq_true rfl) (co_t zf_5 ?_)
    replace zw := zw1
    refine vt_catch (E := "java/lang/IllegalArgumentException") [] [] (0, 10, 13, 24) rfl (by decide +kernel) rfl (by decide) tw_1100 (fun y zy => by cases zy) dL_matchesWith_13 (Nat.le_of_ble_eq_true rfl) ?_
    refine vr_iconst dL_matchesWith_15 (v := (1 : Int32)) (by decide) ?_
    exact vr_iret dL_matchesWith_16 rfl zh
theorem e_L_matchesWith {γ : ga_T} {l1 : Int32} {l2 : Int32} {σ : st_T} {Q : rs_T → st_T → Prop} (zw : Wd σ) (zh : p_L_matchesWith_0 γ l1 l2 σ Q) : sp_ γ m_L_matchesWith 10 [.ref 128, .int l1, .int l2, .ref 219] σ Q := sp_ofH (pl_L_matchesWith) rfl (Nat.le_of_ble_eq_true rfl) (g_L_matchesWith_0 zw zh)
def p_L_fewestFences_0 (γ : ga_T) (l1 : Int32) (σ : st_T) (Q : rs_T → st_T → Prop) : Prop :=
  ((
    ∃ (v3 : Int32) (s1 : st_T), Wd s1 ∧ fn_ γ m_X11_fewestFences 10 [.ref 128, .int l1] σ (.int v3) s1 ∧
    Q (.inl (some (.int (0 : Int32)))) (pt_L s1 219 0 (v3.toInt64))
  ) ∨ (
    ∃ s4, Wd s4 ∧ ft_ γ m_X11_fewestFences 10 [.ref 128, .int l1] σ "java/lang/IllegalArgumentException" s4 ∧
    Q (.inl (some (.int (1 : Int32)))) s4
  ))
set_option maxRecDepth 10000 in
theorem g_L_fewestFences_0 {γ : ga_T} {l1 : Int32} {σ : st_T} {Q : rs_T → st_T → Prop} (zw : Wd σ) (zh : p_L_fewestFences_0 γ l1 σ Q) : vv_ γ m_L_fewestFences 11 0 [(0, .ref 128), (1, .int l1), (2, .ref 219)] [] σ Q := by
  unfold p_L_fewestFences_0 at zh
  refine vr_aload_n dL_fewestFences_0 rfl rfl ?_
  refine vr_iconst dL_fewestFences_1 (v := (0 : Int32)) (by decide) ?_
  refine vr_aload_n dL_fewestFences_2 rfl rfl ?_
  refine vr_iload_n dL_fewestFences_3 rfl rfl ?_
  rcases zh with zh | zh
  · obtain ⟨v3, s1, zw1, zf_2, zh⟩ := zh
    refine vc_V (As := [.int l1]) (rest := [.int (0 : Int32), .ref 219]) dL_fewestFences_4 cV_LitmusTesterLaw_68 (wC_128 zw) rfl rfl (Nat.le_of_ble_eq_true rfl) (Nat.le_of_ble_eq_true rfl) (co_n zf_2 ?_)
    replace zw := zw1
    refine vr_i2l dL_fewestFences_7 ?_
    refine vr_lastore dL_fewestFences_8 (wS_219 zw) (vp_lit rfl) ?_
    refine vv_so (σ2 := (pt_L s1 219 0 (v3.toInt64))) rfl ?_
    refine vr_goto dL_fewestFences_9 (tgt := 15) rfl ?_
    refine vr_iconst dL_fewestFences_15 (v := (0 : Int32)) (by decide) ?_
    exact vr_iret dL_fewestFences_16 rfl zh
  · obtain ⟨s4, zw1, zf_5, zh⟩ := zh
    refine vc_V (As := [.int l1]) (rest := [.int (0 : Int32), .ref 219]) dL_fewestFences_4 cV_LitmusTesterLaw_68 (wC_128 zw) rfl rfl (Nat.le_of_ble_eq_true rfl) (Nat.le_of_ble_eq_true rfl) (co_t zf_5 ?_)
    replace zw := zw1
    refine vt_catchN (E := "java/lang/IllegalArgumentException") [] [] (0, 9, 12, 24) rfl (by decide +kernel) rfl (by decide) tw_1100 (fun y zy => by cases zy) dL_fewestFences_12 (Nat.le_of_ble_eq_true rfl) ?_
    refine vr_iconst dL_fewestFences_13 (v := (1 : Int32)) (by decide) ?_
    exact vr_iret dL_fewestFences_14 rfl zh
theorem e_L_fewestFences {γ : ga_T} {l1 : Int32} {σ : st_T} {Q : rs_T → st_T → Prop} (zw : Wd σ) (zh : p_L_fewestFences_0 γ l1 σ Q) : sp_ γ m_L_fewestFences 11 [.ref 128, .int l1, .ref 219] σ Q := sp_ofH (pl_L_fewestFences) rfl (Nat.le_of_ble_eq_true rfl) (g_L_fewestFences_0 zw zh)
def p_L_repairingFences_0 (γ : ga_T) (l1 : Int32) (σ : st_T) (Q : rs_T → st_T → Prop) : Prop :=
  ((
    ∃ (v3 : Int32) (s1 : st_T), Wd s1 ∧ fn_ γ m_X11_repairingFences 9 [.ref 128, .int l1] σ (.int v3) s1 ∧
    Q (.inl (some (.int (0 : Int32)))) (pt_L s1 219 0 (v3.toInt64))
  ) ∨ (
    ∃ s4, Wd s4 ∧ ft_ γ m_X11_repairingFences 9 [.ref 128, .int l1] σ "java/lang/IllegalArgumentException" s4 ∧
    Q (.inl (some (.int (1 : Int32)))) s4
  ))
set_option maxRecDepth 10000 in
theorem g_L_repairingFences_0 {γ : ga_T} {l1 : Int32} {σ : st_T} {Q : rs_T → st_T → Prop} (zw : Wd σ) (zh : p_L_repairingFences_0 γ l1 σ Q) : vv_ γ m_L_repairingFences 10 0 [(0, .ref 128), (1, .int l1), (2, .ref 219)] [] σ Q := by
  unfold p_L_repairingFences_0 at zh
  refine vr_aload_n dL_repairingFences_0 rfl rfl ?_
  refine vr_iconst dL_repairingFences_1 (v := (0 : Int32)) (by decide) ?_
  refine vr_aload_n dL_repairingFences_2 rfl rfl ?_
  refine vr_iload_n dL_repairingFences_3 rfl rfl ?_
  rcases zh with zh | zh
  · obtain ⟨v3, s1, zw1, zf_2, zh⟩ := zh
    refine vc_V (As := [.int l1]) (rest := [.int (0 : Int32), .ref 219]) dL_repairingFences_4 cV_LitmusTesterLaw_71 (wC_128 zw) rfl rfl (Nat.le_of_ble_eq_true rfl) (Nat.le_of_ble_eq_true rfl) (co_n zf_2 ?_)
    replace zw := zw1
    refine vr_i2l dL_repairingFences_7 ?_
    refine vr_lastore dL_repairingFences_8 (wS_219 zw) (vp_lit rfl) ?_
    refine vv_so (σ2 := (pt_L s1 219 0 (v3.toInt64))) rfl ?_
    refine vr_goto dL_repairingFences_9 (tgt := 15) rfl ?_
    refine vr_iconst dL_repairingFences_15 (v := (0 : Int32)) (by decide) ?_
    exact vr_iret dL_repairingFences_16 rfl zh
  · obtain ⟨s4, zw1, zf_5, zh⟩ := zh
    refine vc_V (As := [.int l1]) (rest := [.int (0 : Int32), .ref 219]) dL_repairingFences_4 cV_LitmusTesterLaw_71 (wC_128 zw) rfl rfl (Nat.le_of_ble_eq_true rfl) (Nat.le_of_ble_eq_true rfl) (co_t zf_5 ?_)
    replace zw := zw1
    refine vt_catchN (E := "java/lang/IllegalArgumentException") [] [] (0, 9, 12, 24) rfl (by decide +kernel) rfl (by decide) tw_1100 (fun y zy => by cases zy) dL_repairingFences_12 (Nat.le_of_ble_eq_true rfl) ?_
    refine vr_iconst dL_repairingFences_13 (v := (1 : Int32)) (by decide) ?_
    exact vr_iret dL_repairingFences_14 rfl zh
theorem e_L_repairingFences {γ : ga_T} {l1 : Int32} {σ : st_T} {Q : rs_T → st_T → Prop} (zw : Wd σ) (zh : p_L_repairingFences_0 γ l1 σ Q) : sp_ γ m_L_repairingFences 10 [.ref 128, .int l1, .ref 219] σ Q := sp_ofH (pl_L_repairingFences) rfl (Nat.le_of_ble_eq_true rfl) (g_L_repairingFences_0 zw zh)
def p_L_isFenceNeeded_0 (γ : ga_T) (l1 : Int32) (l2 : Int32) (σ : st_T) (Q : rs_T → st_T → Prop) : Prop :=
  ((
    ∃ (v3 : Int32) (s1 : st_T), Wd s1 ∧ fn_ γ m_X11_isFenceNeeded 9 [.ref 128, .int l1, .int l2] σ (.int v3) s1 ∧
    (v3 = (0 : Int32) →
      Q (.inl (some (.int (0 : Int32)))) (pt_L s1 219 0 (0 : Int64))
    ) ∧ (¬ v3 = (0 : Int32) →
      Q (.inl (some (.int (0 : Int32)))) (pt_L s1 219 0 (1 : Int64))
    )
  ) ∨ (
    ∃ s5, Wd s5 ∧ ft_ γ m_X11_isFenceNeeded 9 [.ref 128, .int l1, .int l2] σ "java/lang/IllegalArgumentException" s5 ∧
    Q (.inl (some (.int (1 : Int32)))) s5
  ) ∨ (
    ∃ s7, Wd s7 ∧ ft_ γ m_X11_isFenceNeeded 9 [.ref 128, .int l1, .int l2] σ "java/lang/IndexOutOfBoundsException" s7 ∧
    Q (.inl (some (.int (2 : Int32)))) s7
  ) ∨ (
    ∃ s9, Wd s9 ∧ ft_ γ m_X11_isFenceNeeded 9 [.ref 128, .int l1, .int l2] σ "java/util/NoSuchElementException" s9 ∧
    Q (.inl (some (.int (3 : Int32)))) s9
  ))
set_option maxRecDepth 10000 in
theorem g_L_isFenceNeeded_0 {γ : ga_T} {l1 : Int32} {l2 : Int32} {σ : st_T} {Q : rs_T → st_T → Prop} (zw : Wd σ) (zh : p_L_isFenceNeeded_0 γ l1 l2 σ Q) : vv_ γ m_L_isFenceNeeded 10 0 [(0, .ref 128), (1, .int l1), (2, .int l2), (3, .ref 219)] [] σ Q := by
  unfold p_L_isFenceNeeded_0 at zh
  refine vr_aload_n dL_isFenceNeeded_0 rfl rfl ?_
  refine vr_iconst dL_isFenceNeeded_1 (v := (0 : Int32)) (by decide) ?_
  refine vr_aload_n dL_isFenceNeeded_2 rfl rfl ?_
  refine vr_iload_n dL_isFenceNeeded_3 rfl rfl ?_
  refine vr_iload_n dL_isFenceNeeded_4 rfl rfl ?_
  rcases zh with zh | zh | zh | zh
  · obtain ⟨v3, s1, zw1, zf_2, zh⟩ := zh
    refine vc_V (As := [.int l1, .int l2]) (rest := [.int (0 : Int32), .ref 219]) dL_isFenceNeeded_5 cV_LitmusTesterLaw_74 (wC_128 zw) rfl rfl (Nat.le_of_ble_eq_true rfl) (Nat.le_of_ble_eq_true rfl) (co_n zf_2 ?_)
    replace zw := zw1
    refine vr_if_eq dL_isFenceNeeded_8 (tgt := 15) rfl (fun zd_4 => ?_) (fun zd_4 => ?_)
    · replace zh := zh.1 zd_4
      refine vr_lconst dL_isFenceNeeded_15 (v := (0 : Int64)) (by decide) ?_
      refine vr_lastore dL_isFenceNeeded_16 (wS_219 zw) (vp_lit rfl) ?_
      refine vv_so (σ2 := (pt_L s1 219 0 (0 : Int64))) rfl ?_
      refine vr_goto dL_isFenceNeeded_17 (tgt := 32) rfl ?_
      refine vr_iconst dL_isFenceNeeded_32 (v := (0 : Int32)) (by decide) ?_
      exact vr_iret dL_isFenceNeeded_33 rfl zh
    · replace zh := zh.2 zd_4
      refine vr_lconst dL_isFenceNeeded_11 (v := (1 : Int64)) (by decide) ?_
      refine vr_goto dL_isFenceNeeded_12 (tgt := 16) rfl ?_
      refine vr_lastore dL_isFenceNeeded_16 (wS_219 zw) (vp_lit rfl) ?_
      refine vv_so (σ2 := (pt_L s1 219 0 (1 : Int64))) rfl ?_
      refine vr_goto dL_isFenceNeeded_17 (tgt := 32) rfl ?_
      refine vr_iconst dL_isFenceNeeded_32 (v := (0 : Int32)) (by decide) ?_
      exact vr_iret dL_isFenceNeeded_33 rfl zh
  · obtain ⟨s5, zw1, zf_6, zh⟩ := zh
    refine vc_V (As := [.int l1, .int l2]) (rest := [.int (0 : Int32), .ref 219]) dL_isFenceNeeded_5 cV_LitmusTesterLaw_74 (wC_128 zw) rfl rfl (Nat.le_of_ble_eq_true rfl) (Nat.le_of_ble_eq_true rfl) (co_t zf_6 ?_)
    replace zw := zw1
    refine vt_catch (E := "java/lang/IllegalArgumentException") [] [(0, 17, 24, 13), (0, 17, 28, 19)] (0, 17, 20, 24) rfl (by decide +kernel) rfl (by decide) tw_1100 (fun y zy => by cases zy) dL_isFenceNeeded_20 (Nat.le_of_ble_eq_true rfl) ?_
    refine vr_iconst dL_isFenceNeeded_22 (v := (1 : Int32)) (by decide) ?_
    exact vr_iret dL_isFenceNeeded_23 rfl zh
  · obtain ⟨s7, zw1, zf_8, zh⟩ := zh
    refine vc_V (As := [.int l1, .int l2]) (rest := [.int (0 : Int32), .ref 219]) dL_isFenceNeeded_5 cV_LitmusTesterLaw_74 (wC_128 zw) rfl rfl (Nat.le_of_ble_eq_true rfl) (Nat.le_of_ble_eq_true rfl) (co_t zf_8 ?_)
    replace zw := zw1
    refine vt_catch (E := "java/lang/IndexOutOfBoundsException") [(0, 17, 20, 24)] [(0, 17, 28, 19)] (0, 17, 24, 13) rfl (by decide +kernel) rfl (by decide) tw_991 (catch_pre_1 (by exact ⟨by decide, "java/lang/IllegalArgumentException", tw_1100, by decide +kernel, by decide⟩)) dL_isFenceNeeded_24 (Nat.le_of_ble_eq_true rfl) ?_
    refine vr_iconst dL_isFenceNeeded_26 (v := (2 : Int32)) (by decide) ?_
    exact vr_iret dL_isFenceNeeded_27 rfl zh
  · obtain ⟨s9, zw1, zf_10, zh⟩ := zh
    refine vc_V (As := [.int l1, .int l2]) (rest := [.int (0 : Int32), .ref 219]) dL_isFenceNeeded_5 cV_LitmusTesterLaw_74 (wC_128 zw) rfl rfl (Nat.le_of_ble_eq_true rfl) (Nat.le_of_ble_eq_true rfl) (co_t zf_10 ?_)
    replace zw := zw1
    refine vt_catch (E := "java/util/NoSuchElementException") [(0, 17, 20, 24), (0, 17, 24, 13)] [] (0, 17, 28, 19) rfl (by decide +kernel) rfl (by decide) tw_1072 (catch_pre_2 (by exact ⟨by decide, "java/lang/IllegalArgumentException", tw_1100, by decide +kernel, by decide⟩) (by exact ⟨by decide, "java/lang/IndexOutOfBoundsException", tw_991, by decide +kernel, by decide⟩)) dL_isFenceNeeded_28 (Nat.le_of_ble_eq_true rfl) ?_
    refine vr_iconst dL_isFenceNeeded_30 (v := (3 : Int32)) (by decide) ?_
    exact vr_iret dL_isFenceNeeded_31 rfl zh
theorem e_L_isFenceNeeded {γ : ga_T} {l1 : Int32} {l2 : Int32} {σ : st_T} {Q : rs_T → st_T → Prop} (zw : Wd σ) (zh : p_L_isFenceNeeded_0 γ l1 l2 σ Q) : sp_ γ m_L_isFenceNeeded 10 [.ref 128, .int l1, .int l2, .ref 219] σ Q := sp_ofH (pl_L_isFenceNeeded) rfl (Nat.le_of_ble_eq_true rfl) (g_L_isFenceNeeded_0 zw zh)
def p_L_insertFence_0 (γ : ga_T) (l1 : Int32) (σ : st_T) (Q : rs_T → st_T → Prop) : Prop :=
  ((
    ∃ (v3 : Int32) (s1 : st_T), Wd s1 ∧ fn_ γ m_X11_insertFence 8 [.ref 128, .int l1] σ (.int v3) s1 ∧
    Q (.inl (some (.int (0 : Int32)))) (pt_L s1 219 0 (v3.toInt64))
  ) ∨ (
    ∃ s4, Wd s4 ∧ ft_ γ m_X11_insertFence 8 [.ref 128, .int l1] σ "java/lang/IllegalStateException" s4 ∧
    Q (.inl (some (.int (2 : Int32)))) s4
  ) ∨ (
    ∃ s6, Wd s6 ∧ ft_ γ m_X11_insertFence 8 [.ref 128, .int l1] σ "java/lang/IndexOutOfBoundsException" s6 ∧
    Q (.inl (some (.int (1 : Int32)))) s6
  ))
set_option maxRecDepth 10000 in
theorem g_L_insertFence_0 {γ : ga_T} {l1 : Int32} {σ : st_T} {Q : rs_T → st_T → Prop} (zw : Wd σ) (zh : p_L_insertFence_0 γ l1 σ Q) : vv_ γ m_L_insertFence 9 0 [(0, .ref 128), (1, .int l1), (2, .ref 219)] [] σ Q := by
  unfold p_L_insertFence_0 at zh
  refine vr_aload_n dL_insertFence_0 rfl rfl ?_
  refine vr_iconst dL_insertFence_1 (v := (0 : Int32)) (by decide) ?_
  refine vr_aload_n dL_insertFence_2 rfl rfl ?_
  refine vr_iload_n dL_insertFence_3 rfl rfl ?_
  rcases zh with zh | zh | zh
  · obtain ⟨v3, s1, zw1, zf_2, zh⟩ := zh
    refine vc_V (As := [.int l1]) (rest := [.int (0 : Int32), .ref 219]) dL_insertFence_4 cV_LitmusTesterLaw_77 (wC_128 zw) rfl rfl (Nat.le_of_ble_eq_true rfl) (Nat.le_of_ble_eq_true rfl) (co_n zf_2 ?_)
    replace zw := zw1
    refine vr_i2l dL_insertFence_7 ?_
    refine vr_lastore dL_insertFence_8 (wS_219 zw) (vp_lit rfl) ?_
    refine vv_so (σ2 := (pt_L s1 219 0 (v3.toInt64))) rfl ?_
    refine vr_goto dL_insertFence_9 (tgt := 18) rfl ?_
    refine vr_iconst dL_insertFence_18 (v := (0 : Int32)) (by decide) ?_
    exact vr_iret dL_insertFence_19 rfl zh
  · obtain ⟨s4, zw1, zf_5, zh⟩ := zh
    refine vc_V (As := [.int l1]) (rest := [.int (0 : Int32), .ref 219]) dL_insertFence_4 cV_LitmusTesterLaw_77 (wC_128 zw) rfl rfl (Nat.le_of_ble_eq_true rfl) (Nat.le_of_ble_eq_true rfl) (co_t zf_5 ?_)
    replace zw := zw1
    refine vt_catchN (E := "java/lang/IllegalStateException") [(0, 9, 12, 13)] [] (0, 9, 15, 80) rfl (by decide +kernel) rfl (by decide) tw_1506 (catch_pre_1 (by exact ⟨by decide, "java/lang/IndexOutOfBoundsException", tw_991, by decide +kernel, by decide⟩)) dL_insertFence_15 (Nat.le_of_ble_eq_true rfl) ?_
    refine vr_iconst dL_insertFence_16 (v := (2 : Int32)) (by decide) ?_
    exact vr_iret dL_insertFence_17 rfl zh
  · obtain ⟨s6, zw1, zf_7, zh⟩ := zh
    refine vc_V (As := [.int l1]) (rest := [.int (0 : Int32), .ref 219]) dL_insertFence_4 cV_LitmusTesterLaw_77 (wC_128 zw) rfl rfl (Nat.le_of_ble_eq_true rfl) (Nat.le_of_ble_eq_true rfl) (co_t zf_7 ?_)
    replace zw := zw1
    refine vt_catchN (E := "java/lang/IndexOutOfBoundsException") [] [(0, 9, 15, 80)] (0, 9, 12, 13) rfl (by decide +kernel) rfl (by decide) tw_991 (fun y zy => by cases zy) dL_insertFence_12 (Nat.le_of_ble_eq_true rfl) ?_
    refine vr_iconst dL_insertFence_13 (v := (1 : Int32)) (by decide) ?_
    exact vr_iret dL_insertFence_14 rfl zh
theorem e_L_insertFence {γ : ga_T} {l1 : Int32} {σ : st_T} {Q : rs_T → st_T → Prop} (zw : Wd σ) (zh : p_L_insertFence_0 γ l1 σ Q) : sp_ γ m_L_insertFence 9 [.ref 128, .int l1, .ref 219] σ Q := sp_ofH (pl_L_insertFence) rfl (Nat.le_of_ble_eq_true rfl) (g_L_insertFence_0 zw zh)
def p_L_removeFence_0 (γ : ga_T) (l1 : Int32) (σ : st_T) (Q : rs_T → st_T → Prop) : Prop :=
  ((
    ∃ (v3 : Int32) (s1 : st_T), Wd s1 ∧ fn_ γ m_X11_removeFence 9 [.ref 128, .int l1] σ (.int v3) s1 ∧
    Q (.inl (some (.int (0 : Int32)))) (pt_L s1 219 0 (v3.toInt64))
  ) ∨ (
    ∃ s4, Wd s4 ∧ ft_ γ m_X11_removeFence 9 [.ref 128, .int l1] σ "java/lang/IndexOutOfBoundsException" s4 ∧
    Q (.inl (some (.int (1 : Int32)))) s4
  ) ∨ (
    ∃ s6, Wd s6 ∧ ft_ γ m_X11_removeFence 9 [.ref 128, .int l1] σ "java/util/NoSuchElementException" s6 ∧
    Q (.inl (some (.int (2 : Int32)))) s6
  ))
set_option maxRecDepth 10000 in
theorem g_L_removeFence_0 {γ : ga_T} {l1 : Int32} {σ : st_T} {Q : rs_T → st_T → Prop} (zw : Wd σ) (zh : p_L_removeFence_0 γ l1 σ Q) : vv_ γ m_L_removeFence 10 0 [(0, .ref 128), (1, .int l1), (2, .ref 219)] [] σ Q := by
  unfold p_L_removeFence_0 at zh
  refine vr_aload_n dL_removeFence_0 rfl rfl ?_
  refine vr_iconst dL_removeFence_1 (v := (0 : Int32)) (by decide) ?_
  refine vr_aload_n dL_removeFence_2 rfl rfl ?_
  refine vr_iload_n dL_removeFence_3 rfl rfl ?_
  rcases zh with zh | zh | zh
  · obtain ⟨v3, s1, zw1, zf_2, zh⟩ := zh
    refine vc_V (As := [.int l1]) (rest := [.int (0 : Int32), .ref 219]) dL_removeFence_4 cV_LitmusTesterLaw_82 (wC_128 zw) rfl rfl (Nat.le_of_ble_eq_true rfl) (Nat.le_of_ble_eq_true rfl) (co_n zf_2 ?_)
    replace zw := zw1
    refine vr_i2l dL_removeFence_7 ?_
    refine vr_lastore dL_removeFence_8 (wS_219 zw) (vp_lit rfl) ?_
    refine vv_so (σ2 := (pt_L s1 219 0 (v3.toInt64))) rfl ?_
    refine vr_goto dL_removeFence_9 (tgt := 18) rfl ?_
    refine vr_iconst dL_removeFence_18 (v := (0 : Int32)) (by decide) ?_
    exact vr_iret dL_removeFence_19 rfl zh
  · obtain ⟨s4, zw1, zf_5, zh⟩ := zh
    refine vc_V (As := [.int l1]) (rest := [.int (0 : Int32), .ref 219]) dL_removeFence_4 cV_LitmusTesterLaw_82 (wC_128 zw) rfl rfl (Nat.le_of_ble_eq_true rfl) (Nat.le_of_ble_eq_true rfl) (co_t zf_5 ?_)
    replace zw := zw1
    refine vt_catchN (E := "java/lang/IndexOutOfBoundsException") [] [(0, 9, 15, 19)] (0, 9, 12, 13) rfl (by decide +kernel) rfl (by decide) tw_991 (fun y zy => by cases zy) dL_removeFence_12 (Nat.le_of_ble_eq_true rfl) ?_
    refine vr_iconst dL_removeFence_13 (v := (1 : Int32)) (by decide) ?_
    exact vr_iret dL_removeFence_14 rfl zh
  · obtain ⟨s6, zw1, zf_7, zh⟩ := zh
    refine vc_V (As := [.int l1]) (rest := [.int (0 : Int32), .ref 219]) dL_removeFence_4 cV_LitmusTesterLaw_82 (wC_128 zw) rfl rfl (Nat.le_of_ble_eq_true rfl) (Nat.le_of_ble_eq_true rfl) (co_t zf_7 ?_)
    replace zw := zw1
    refine vt_catchN (E := "java/util/NoSuchElementException") [(0, 9, 12, 13)] [] (0, 9, 15, 19) rfl (by decide +kernel) rfl (by decide) tw_1072 (catch_pre_1 (by exact ⟨by decide, "java/lang/IndexOutOfBoundsException", tw_991, by decide +kernel, by decide⟩)) dL_removeFence_15 (Nat.le_of_ble_eq_true rfl) ?_
    refine vr_iconst dL_removeFence_16 (v := (2 : Int32)) (by decide) ?_
    exact vr_iret dL_removeFence_17 rfl zh
theorem e_L_removeFence {γ : ga_T} {l1 : Int32} {σ : st_T} {Q : rs_T → st_T → Prop} (zw : Wd σ) (zh : p_L_removeFence_0 γ l1 σ Q) : sp_ γ m_L_removeFence 10 [.ref 128, .int l1, .ref 219] σ Q := sp_ofH (pl_L_removeFence) rfl (Nat.le_of_ble_eq_true rfl) (g_L_removeFence_0 zw zh)
def p_L_explain_0 (γ : ga_T) (l1 : Int32) (l2 : Int32) (σ : st_T) (Q : rs_T → st_T → Prop) : Prop :=
  ((
    ∃ (v3 : Int32) (s1 : st_T), Wd s1 ∧ fn_ γ m_X11_explain 82 [.ref 128, .int l1, .int l2] σ (.int v3) s1 ∧
    Q (.inl (some (.int (0 : Int32)))) (pt_L s1 219 0 (v3.toInt64))
  ) ∨ (
    ∃ s4, Wd s4 ∧ ft_ γ m_X11_explain 82 [.ref 128, .int l1, .int l2] σ "java/lang/IllegalArgumentException" s4 ∧
    Q (.inl (some (.int (1 : Int32)))) s4
  ))
set_option maxRecDepth 10000 in
theorem g_L_explain_0 {γ : ga_T} {l1 : Int32} {l2 : Int32} {σ : st_T} {Q : rs_T → st_T → Prop} (zw : Wd σ) (zh : p_L_explain_0 γ l1 l2 σ Q) : vv_ γ m_L_explain 83 0 [(0, .ref 128), (1, .int l1), (2, .int l2), (3, .ref 219)] [] σ Q := by
  unfold p_L_explain_0 at zh
  refine vr_aload_n dL_explain_0 rfl rfl ?_
  refine vr_iconst dL_explain_1 (v := (0 : Int32)) (by decide) ?_
  refine vr_aload_n dL_explain_2 rfl rfl ?_
  refine vr_iload_n dL_explain_3 rfl rfl ?_
  refine vr_iload_n dL_explain_4 rfl rfl ?_
  rcases zh with zh | zh
  · obtain ⟨v3, s1, zw1, zf_2, zh⟩ := zh
    refine vc_V (As := [.int l1, .int l2]) (rest := [.int (0 : Int32), .ref 219]) dL_explain_5 cV_LitmusTesterLaw_85 (wC_128 zw) rfl rfl (Nat.le_of_ble_eq_true rfl) (Nat.le_of_ble_eq_true rfl) (co_n zf_2 ?_)
    replace zw := zw1
    refine vr_i2l dL_explain_8 ?_
    refine vr_lastore dL_explain_9 (wS_219 zw) (vp_lit rfl) ?_
    refine vv_so (σ2 := (pt_L s1 219 0 (v3.toInt64))) rfl ?_
    refine vr_goto dL_explain_10 (tgt := 17) rfl ?_
    refine vr_iconst dL_explain_17 (v := (0 : Int32)) (by decide) ?_
    exact vr_iret dL_explain_18 rfl zh
  · obtain ⟨s4, zw1, zf_5, zh⟩ := zh
    refine vc_V (As := [.int l1, .int l2]) (rest := [.int (0 : Int32), .ref 219]) dL_explain_5 cV_LitmusTesterLaw_85 (wC_128 zw) rfl rfl (Nat.le_of_ble_eq_true rfl) (Nat.le_of_ble_eq_true rfl) (co_t zf_5 ?_)
    replace zw := zw1
    refine vt_catch (E := "java/lang/IllegalArgumentException") [] [] (0, 10, 13, 24) rfl (by decide +kernel) rfl (by decide) tw_1100 (fun y zy => by cases zy) dL_explain_13 (Nat.le_of_ble_eq_true rfl) ?_
    refine vr_iconst dL_explain_15 (v := (1 : Int32)) (by decide) ?_
    exact vr_iret dL_explain_16 rfl zh
theorem e_L_explain {γ : ga_T} {l1 : Int32} {l2 : Int32} {σ : st_T} {Q : rs_T → st_T → Prop} (zw : Wd σ) (zh : p_L_explain_0 γ l1 l2 σ Q) : sp_ γ m_L_explain 83 [.ref 128, .int l1, .int l2, .ref 219] σ Q := sp_ofH (pl_L_explain) rfl (Nat.le_of_ble_eq_true rfl) (g_L_explain_0 zw zh)
def p_L_readsFrom_0 (γ : ga_T) (l1 : Int32) (σ : st_T) (Q : rs_T → st_T → Prop) : Prop :=
  ((
    ∃ (v3 : Int32) (s1 : st_T), Wd s1 ∧ fn_ γ m_X11_readsFrom 9 [.ref 128, .int l1] σ (.int v3) s1 ∧
    Q (.inl (some (.int (0 : Int32)))) (pt_L s1 219 0 (v3.toInt64))
  ) ∨ (
    ∃ s4, Wd s4 ∧ ft_ γ m_X11_readsFrom 9 [.ref 128, .int l1] σ "java/lang/IndexOutOfBoundsException" s4 ∧
    Q (.inl (some (.int (1 : Int32)))) s4
  ) ∨ (
    ∃ s6, Wd s6 ∧ ft_ γ m_X11_readsFrom 9 [.ref 128, .int l1] σ "java/util/NoSuchElementException" s6 ∧
    Q (.inl (some (.int (2 : Int32)))) s6
  ))
set_option maxRecDepth 10000 in
theorem g_L_readsFrom_0 {γ : ga_T} {l1 : Int32} {σ : st_T} {Q : rs_T → st_T → Prop} (zw : Wd σ) (zh : p_L_readsFrom_0 γ l1 σ Q) : vv_ γ m_L_readsFrom 10 0 [(0, .ref 128), (1, .int l1), (2, .ref 219)] [] σ Q := by
  unfold p_L_readsFrom_0 at zh
  refine vr_aload_n dL_readsFrom_0 rfl rfl ?_
  refine vr_iconst dL_readsFrom_1 (v := (0 : Int32)) (by decide) ?_
  refine vr_aload_n dL_readsFrom_2 rfl rfl ?_
  refine vr_iload_n dL_readsFrom_3 rfl rfl ?_
  rcases zh with zh | zh | zh
  · obtain ⟨v3, s1, zw1, zf_2, zh⟩ := zh
    refine vc_V (As := [.int l1]) (rest := [.int (0 : Int32), .ref 219]) dL_readsFrom_4 cV_LitmusTesterLaw_88 (wC_128 zw) rfl rfl (Nat.le_of_ble_eq_true rfl) (Nat.le_of_ble_eq_true rfl) (co_n zf_2 ?_)
    replace zw := zw1
    refine vr_i2l dL_readsFrom_7 ?_
    refine vr_lastore dL_readsFrom_8 (wS_219 zw) (vp_lit rfl) ?_
    refine vv_so (σ2 := (pt_L s1 219 0 (v3.toInt64))) rfl ?_
    refine vr_goto dL_readsFrom_9 (tgt := 18) rfl ?_
    refine vr_iconst dL_readsFrom_18 (v := (0 : Int32)) (by decide) ?_
    exact vr_iret dL_readsFrom_19 rfl zh
  · obtain ⟨s4, zw1, zf_5, zh⟩ := zh
    refine vc_V (As := [.int l1]) (rest := [.int (0 : Int32), .ref 219]) dL_readsFrom_4 cV_LitmusTesterLaw_88 (wC_128 zw) rfl rfl (Nat.le_of_ble_eq_true rfl) (Nat.le_of_ble_eq_true rfl) (co_t zf_5 ?_)
    replace zw := zw1
    refine vt_catchN (E := "java/lang/IndexOutOfBoundsException") [] [(0, 9, 15, 19)] (0, 9, 12, 13) rfl (by decide +kernel) rfl (by decide) tw_991 (fun y zy => by cases zy) dL_readsFrom_12 (Nat.le_of_ble_eq_true rfl) ?_
    refine vr_iconst dL_readsFrom_13 (v := (1 : Int32)) (by decide) ?_
    exact vr_iret dL_readsFrom_14 rfl zh
  · obtain ⟨s6, zw1, zf_7, zh⟩ := zh
    refine vc_V (As := [.int l1]) (rest := [.int (0 : Int32), .ref 219]) dL_readsFrom_4 cV_LitmusTesterLaw_88 (wC_128 zw) rfl rfl (Nat.le_of_ble_eq_true rfl) (Nat.le_of_ble_eq_true rfl) (co_t zf_7 ?_)
    replace zw := zw1
    refine vt_catchN (E := "java/util/NoSuchElementException") [(0, 9, 12, 13)] [] (0, 9, 15, 19) rfl (by decide +kernel) rfl (by decide) tw_1072 (catch_pre_1 (by exact ⟨by decide, "java/lang/IndexOutOfBoundsException", tw_991, by decide +kernel, by decide⟩)) dL_readsFrom_15 (Nat.le_of_ble_eq_true rfl) ?_
    refine vr_iconst dL_readsFrom_16 (v := (2 : Int32)) (by decide) ?_
    exact vr_iret dL_readsFrom_17 rfl zh
theorem e_L_readsFrom {γ : ga_T} {l1 : Int32} {σ : st_T} {Q : rs_T → st_T → Prop} (zw : Wd σ) (zh : p_L_readsFrom_0 γ l1 σ Q) : sp_ γ m_L_readsFrom 10 [.ref 128, .int l1, .ref 219] σ Q := sp_ofH (pl_L_readsFrom) rfl (Nat.le_of_ble_eq_true rfl) (g_L_readsFrom_0 zw zh)
def p_L_writtenBy_0 (γ : ga_T) (l1 : Int32) (l2 : Int32) (σ : st_T) (Q : rs_T → st_T → Prop) : Prop :=
  ((
    ∃ (v3 : Int32) (s1 : st_T), Wd s1 ∧ fn_ γ m_X11_writtenBy 9 [.ref 128, .int l1, .int l2] σ (.int v3) s1 ∧
    Q (.inl (some (.int (0 : Int32)))) (pt_L s1 219 0 (v3.toInt64))
  ) ∨ (
    ∃ s4, Wd s4 ∧ ft_ γ m_X11_writtenBy 9 [.ref 128, .int l1, .int l2] σ "java/lang/IndexOutOfBoundsException" s4 ∧
    Q (.inl (some (.int (1 : Int32)))) s4
  ))
set_option maxRecDepth 10000 in
theorem g_L_writtenBy_0 {γ : ga_T} {l1 : Int32} {l2 : Int32} {σ : st_T} {Q : rs_T → st_T → Prop} (zw : Wd σ) (zh : p_L_writtenBy_0 γ l1 l2 σ Q) : vv_ γ m_L_writtenBy 10 0 [(0, .ref 128), (1, .int l1), (2, .int l2), (3, .ref 219)] [] σ Q := by
  unfold p_L_writtenBy_0 at zh
  refine vr_aload_n dL_writtenBy_0 rfl rfl ?_
  refine vr_iconst dL_writtenBy_1 (v := (0 : Int32)) (by decide) ?_
  refine vr_aload_n dL_writtenBy_2 rfl rfl ?_
  refine vr_iload_n dL_writtenBy_3 rfl rfl ?_
  refine vr_iload_n dL_writtenBy_4 rfl rfl ?_
  rcases zh with zh | zh
  · obtain ⟨v3, s1, zw1, zf_2, zh⟩ := zh
    refine vc_V (As := [.int l1, .int l2]) (rest := [.int (0 : Int32), .ref 219]) dL_writtenBy_5 cV_LitmusTesterLaw_91 (wC_128 zw) rfl rfl (Nat.le_of_ble_eq_true rfl) (Nat.le_of_ble_eq_true rfl) (co_n zf_2 ?_)
    replace zw := zw1
    refine vr_i2l dL_writtenBy_8 ?_
    refine vr_lastore dL_writtenBy_9 (wS_219 zw) (vp_lit rfl) ?_
    refine vv_so (σ2 := (pt_L s1 219 0 (v3.toInt64))) rfl ?_
    refine vr_goto dL_writtenBy_10 (tgt := 17) rfl ?_
    refine vr_iconst dL_writtenBy_17 (v := (0 : Int32)) (by decide) ?_
    exact vr_iret dL_writtenBy_18 rfl zh
  · obtain ⟨s4, zw1, zf_5, zh⟩ := zh
    refine vc_V (As := [.int l1, .int l2]) (rest := [.int (0 : Int32), .ref 219]) dL_writtenBy_5 cV_LitmusTesterLaw_91 (wC_128 zw) rfl rfl (Nat.le_of_ble_eq_true rfl) (Nat.le_of_ble_eq_true rfl) (co_t zf_5 ?_)
    replace zw := zw1
    refine vt_catch (E := "java/lang/IndexOutOfBoundsException") [] [] (0, 10, 13, 13) rfl (by decide +kernel) rfl (by decide) tw_991 (fun y zy => by cases zy) dL_writtenBy_13 (Nat.le_of_ble_eq_true rfl) ?_
    refine vr_iconst dL_writtenBy_15 (v := (1 : Int32)) (by decide) ?_
    exact vr_iret dL_writtenBy_16 rfl zh
theorem e_L_writtenBy {γ : ga_T} {l1 : Int32} {l2 : Int32} {σ : st_T} {Q : rs_T → st_T → Prop} (zw : Wd σ) (zh : p_L_writtenBy_0 γ l1 l2 σ Q) : sp_ γ m_L_writtenBy 10 [.ref 128, .int l1, .int l2, .ref 219] σ Q := sp_ofH (pl_L_writtenBy) rfl (Nat.le_of_ble_eq_true rfl) (g_L_writtenBy_0 zw zh)
def p_L_law_23 (γ : ga_T) (nm : String) (l4 : Int32) (σ : st_T) (Q : rs_T → st_T → Prop) : Prop :=
  (((Int32.ofNat (ga_L γ)) - (6 : Int32)) < l4 →
    Q (.inl (some (.int (1 : Int32)))) σ
  ) ∧ (¬ ((Int32.ofNat (ga_L γ)) - (6 : Int32)) < l4 →
    vp_in l4 (ga_L γ) ∧
    ((((ga_X γ l4.toNatClampNeg) &&& (63 : Int32)).toInt < 0 ∨ 38 < ((ga_X γ l4.toNatClampNeg) &&& (63 : Int32)).toInt) →
      vv_ γ (m_law nm) 84 23 [(0, .ref 22), (1, .ref 128), (2, .ref 185), (3, .ref 219), (4, .int (l4 + 6))] [] σ Q
    ) ∧
    (((ga_X γ l4.toNatClampNeg) &&& (63 : Int32)).toInt = 0 →
      vp_in (l4 + (1 : Int32)) (ga_L γ) ∧
      vp_in (l4 + (2 : Int32)) (ga_L γ) ∧
      vp_in (l4 + (3 : Int32)) (ga_L γ) ∧
      vp_in (l4 + (4 : Int32)) (ga_L γ) ∧
      vp_in (l4 + (5 : Int32)) (ga_L γ) ∧
      ∃ (v10 : Int32) (s8 : st_T), Wd s8 ∧ fn_ γ m_X11_append 1 [.ref 128, .int (ga_X γ (l4 + (1 : Int32)).toNatClampNeg), .int (ga_X γ (l4 + (2 : Int32)).toNatClampNeg), .int (ga_X γ (l4 + (3 : Int32)).toNatClampNeg), .int (ga_X γ (l4 + (4 : Int32)).toNatClampNeg), .int (ga_X γ (l4 + (5 : Int32)).toNatClampNeg)] σ (.int v10) s8 ∧
      vp_in (l4 + (1 : Int32)) (ga_L γ) ∧
      vp_in (l4 + (2 : Int32)) (ga_L γ) ∧
      vp_in (l4 + (3 : Int32)) (ga_L γ) ∧
      vp_in (l4 + (4 : Int32)) (ga_L γ) ∧
      vp_in (l4 + (5 : Int32)) (ga_L γ) ∧
      ∃ (v18 : Int32) (s16 : st_T), Wd s16 ∧ fn_ γ m_X12_append 1 [.ref 185, .int (ga_X γ (l4 + (1 : Int32)).toNatClampNeg), .int (ga_X γ (l4 + (2 : Int32)).toNatClampNeg), .int (ga_X γ (l4 + (3 : Int32)).toNatClampNeg), .int (ga_X γ (l4 + (4 : Int32)).toNatClampNeg), .int (ga_X γ (l4 + (5 : Int32)).toNatClampNeg)] s8 (.int v18) s16 ∧
      (v10 = v18 →
        vv_ γ (m_law nm) 84 23 [(0, .ref 22), (1, .ref 128), (2, .ref 185), (3, .ref 219), (4, .int (l4 + 6))] [] s16 Q
      ) ∧ (¬ v10 = v18 →
        Q (.inl (some (.int (0 : Int32)))) s16
      )
    ) ∧
    (((ga_X γ l4.toNatClampNeg) &&& (63 : Int32)).toInt = 1 →
      vp_in (l4 + (1 : Int32)) (ga_L γ) ∧
      ∃ (v23 : Int32) (s21 : st_T), Wd s21 ∧ fn_ γ m_X11_truncate 0 [.ref 128, .int (ga_X γ (l4 + (1 : Int32)).toNatClampNeg)] σ (.int v23) s21 ∧
      vp_in (l4 + (1 : Int32)) (ga_L γ) ∧
      ∃ (v27 : Int32) (s25 : st_T), Wd s25 ∧ fn_ γ m_X12_truncate 1 [.ref 185, .int (ga_X γ (l4 + (1 : Int32)).toNatClampNeg)] s21 (.int v27) s25 ∧
      (v23 = v27 →
        vv_ γ (m_law nm) 84 23 [(0, .ref 22), (1, .ref 128), (2, .ref 185), (3, .ref 219), (4, .int (l4 + 6))] [] s25 Q
      ) ∧ (¬ v23 = v27 →
        Q (.inl (some (.int (0 : Int32)))) s25
      )
    ) ∧
    (((ga_X γ l4.toNatClampNeg) &&& (63 : Int32)).toInt = 2 →
      ∃ (v31 : Int32) (s29 : st_T), Wd s29 ∧ fn_ γ m_X11_bufferLength 0 [.ref 128] σ (.int v31) s29 ∧
      ∃ (v34 : Int32) (s32 : st_T), Wd s32 ∧ fn_ γ m_X12_bufferLength 0 [.ref 185] s29 (.int v34) s32 ∧
      (v31 = v34 →
        vv_ γ (m_law nm) 84 23 [(0, .ref 22), (1, .ref 128), (2, .ref 185), (3, .ref 219), (4, .int (l4 + 6))] [] s32 Q
      ) ∧ (¬ v31 = v34 →
        Q (.inl (some (.int (0 : Int32)))) s32
      )
    ) ∧
    (((ga_X γ l4.toNatClampNeg) &&& (63 : Int32)).toInt = 3 →
      ∃ (v38 : Int32) (s36 : st_T), Wd s36 ∧ fn_ γ m_X11_define 62 [.ref 128] σ (.int v38) s36 ∧
      ∃ (v41 : Int32) (s39 : st_T), Wd s39 ∧ fn_ γ m_X12_define 62 [.ref 185] s36 (.int v41) s39 ∧
      (v38 = v41 →
        vv_ γ (m_law nm) 84 23 [(0, .ref 22), (1, .ref 128), (2, .ref 185), (3, .ref 219), (4, .int (l4 + 6))] [] s39 Q
      ) ∧ (¬ v38 = v41 →
        Q (.inl (some (.int (0 : Int32)))) s39
      )
    ) ∧
    (((ga_X γ l4.toNatClampNeg) &&& (63 : Int32)).toInt = 4 →
      ∃ (v45 : Int32) (s43 : st_T), Wd s43 ∧ fn_ γ m_X11_threadCount 1 [.ref 128] σ (.int v45) s43 ∧
      ∃ (v48 : Int32) (s46 : st_T), Wd s46 ∧ fn_ γ m_X12_threadCount 0 [.ref 185] s43 (.int v48) s46 ∧
      (v45 = v48 →
        vv_ γ (m_law nm) 84 23 [(0, .ref 22), (1, .ref 128), (2, .ref 185), (3, .ref 219), (4, .int (l4 + 6))] [] s46 Q
      ) ∧ (¬ v45 = v48 →
        Q (.inl (some (.int (0 : Int32)))) s46
      )
    ) ∧
    (((ga_X γ l4.toNatClampNeg) &&& (63 : Int32)).toInt = 5 →
      ∃ (v52 : Int32) (s50 : st_T), Wd s50 ∧ fn_ γ m_X11_locationCount 1 [.ref 128] σ (.int v52) s50 ∧
      ∃ (v55 : Int32) (s53 : st_T), Wd s53 ∧ fn_ γ m_X12_locationCount 0 [.ref 185] s50 (.int v55) s53 ∧
      (v52 = v55 →
        vv_ γ (m_law nm) 84 23 [(0, .ref 22), (1, .ref 128), (2, .ref 185), (3, .ref 219), (4, .int (l4 + 6))] [] s53 Q
      ) ∧ (¬ v52 = v55 →
        Q (.inl (some (.int (0 : Int32)))) s53
      )
    ) ∧
    (((ga_X γ l4.toNatClampNeg) &&& (63 : Int32)).toInt = 6 →
      ∃ (v59 : Int32) (s57 : st_T), Wd s57 ∧ fn_ γ m_X11_instructionCount 1 [.ref 128] σ (.int v59) s57 ∧
      ∃ (v62 : Int32) (s60 : st_T), Wd s60 ∧ fn_ γ m_X12_instructionCount 0 [.ref 185] s57 (.int v62) s60 ∧
      (v59 = v62 →
        vv_ γ (m_law nm) 84 23 [(0, .ref 22), (1, .ref 128), (2, .ref 185), (3, .ref 219), (4, .int (l4 + 6))] [] s60 Q
      ) ∧ (¬ v59 = v62 →
        Q (.inl (some (.int (0 : Int32)))) s60
      )
    ) ∧
    (((ga_X γ l4.toNatClampNeg) &&& (63 : Int32)).toInt = 7 →
      vp_in (l4 + (1 : Int32)) (ga_L γ) ∧
      vp_in (l4 + (2 : Int32)) (ga_L γ) ∧
      ∃ (v68 : Int32) (s66 : st_T), Wd s66 ∧ fn_ γ m_L_instruction 10 [.ref 128, .int (ga_X γ (l4 + (1 : Int32)).toNatClampNeg), .int (ga_X γ (l4 + (2 : Int32)).toNatClampNeg), .ref 219] σ (.int v68) s66 ∧
      vp_in (l4 + (1 : Int32)) (ga_L γ) ∧
      vp_in (l4 + (2 : Int32)) (ga_L γ) ∧
      ∃ (v73 : Int32) (s71 : st_T), Wd s71 ∧ fn_ γ m_X12_instruction 2 [.ref 185, .int (ga_X γ (l4 + (1 : Int32)).toNatClampNeg), .int (ga_X γ (l4 + (2 : Int32)).toNatClampNeg)] s66 (.int v73) s71 ∧
      ∃ (v76 : Int32) (s74 : st_T), Wd s74 ∧ fn_ γ m_X12_thrown 0 [.ref 185] s71 (.int v76) s74 ∧
      (v76 = v68 →
        (v68 = (0 : Int32) →
          ((st_L s74 219 0) = (v73.toInt64) →
            vv_ γ (m_law nm) 84 23 [(0, .ref 22), (1, .ref 128), (2, .ref 185), (3, .ref 219), (4, .int (l4 + 6))] [] s74 Q
          ) ∧ (¬ (st_L s74 219 0) = (v73.toInt64) →
            Q (.inl (some (.int (0 : Int32)))) s74
          )
        ) ∧ (¬ v68 = (0 : Int32) →
          vv_ γ (m_law nm) 84 23 [(0, .ref 22), (1, .ref 128), (2, .ref 185), (3, .ref 219), (4, .int (l4 + 6))] [] s74 Q
        )
      ) ∧ (¬ v76 = v68 →
        Q (.inl (some (.int (0 : Int32)))) s74
      )
    ) ∧
    (((ga_X γ l4.toNatClampNeg) &&& (63 : Int32)).toInt = 8 →
      ∃ (v82 : Int32) (s80 : st_T), Wd s80 ∧ fn_ γ m_X11_findLocation 1 [.ref 128] σ (.int v82) s80 ∧
      ∃ (v85 : Int32) (s83 : st_T), Wd s83 ∧ fn_ γ m_X12_findLocation 1 [.ref 185] s80 (.int v85) s83 ∧
      (v82 = v85 →
        vv_ γ (m_law nm) 84 23 [(0, .ref 22), (1, .ref 128), (2, .ref 185), (3, .ref 219), (4, .int (l4 + 6))] [] s83 Q
      ) ∧ (¬ v82 = v85 →
        Q (.inl (some (.int (0 : Int32)))) s83
      )
    ) ∧
    (((ga_X γ l4.toNatClampNeg) &&& (63 : Int32)).toInt = 9 →
      ∃ (v89 : Int32) (s87 : st_T), Wd s87 ∧ fn_ γ m_X11_write 16 [.ref 128] σ (.int v89) s87 ∧
      ∃ (v92 : Int32) (s90 : st_T), Wd s90 ∧ fn_ γ m_X12_write 16 [.ref 185] s87 (.int v92) s90 ∧
      (v89 = v92 →
        vv_ γ (m_law nm) 84 23 [(0, .ref 22), (1, .ref 128), (2, .ref 185), (3, .ref 219), (4, .int (l4 + 6))] [] s90 Q
      ) ∧ (¬ v89 = v92 →
        Q (.inl (some (.int (0 : Int32)))) s90
      )
    ) ∧
    (((ga_X γ l4.toNatClampNeg) &&& (63 : Int32)).toInt = 10 →
      vp_in (l4 + (1 : Int32)) (ga_L γ) ∧
      ∃ (v97 : Int32) (s95 : st_T), Wd s95 ∧ fn_ γ m_L_outputByte 9 [.ref 128, .int (ga_X γ (l4 + (1 : Int32)).toNatClampNeg), .ref 219] σ (.int v97) s95 ∧
      vp_in (l4 + (1 : Int32)) (ga_L γ) ∧
      ∃ (v101 : Int32) (s99 : st_T), Wd s99 ∧ fn_ γ m_X12_outputByte 1 [.ref 185, .int (ga_X γ (l4 + (1 : Int32)).toNatClampNeg)] s95 (.int v101) s99 ∧
      ∃ (v104 : Int32) (s102 : st_T), Wd s102 ∧ fn_ γ m_X12_thrown 0 [.ref 185] s99 (.int v104) s102 ∧
      (v104 = v97 →
        (v97 = (0 : Int32) →
          ((st_L s102 219 0) = (v101.toInt64) →
            vv_ γ (m_law nm) 84 23 [(0, .ref 22), (1, .ref 128), (2, .ref 185), (3, .ref 219), (4, .int (l4 + 6))] [] s102 Q
          ) ∧ (¬ (st_L s102 219 0) = (v101.toInt64) →
            Q (.inl (some (.int (0 : Int32)))) s102
          )
        ) ∧ (¬ v97 = (0 : Int32) →
          vv_ γ (m_law nm) 84 23 [(0, .ref 22), (1, .ref 128), (2, .ref 185), (3, .ref 219), (4, .int (l4 + 6))] [] s102 Q
        )
      ) ∧ (¬ v104 = v97 →
        Q (.inl (some (.int (0 : Int32)))) s102
      )
    ) ∧
    (((ga_X γ l4.toNatClampNeg) &&& (63 : Int32)).toInt = 11 →
      vp_in (l4 + (1 : Int32)) (ga_L γ) ∧
      ∃ (v111 : Int32) (s109 : st_T), Wd s109 ∧ fn_ γ m_L_outcomeCount 10 [.ref 128, .int (ga_X γ (l4 + (1 : Int32)).toNatClampNeg), .ref 219] σ (.int v111) s109 ∧
      vp_in (l4 + (1 : Int32)) (ga_L γ) ∧
      ∃ (v115 : Int32) (s113 : st_T), Wd s113 ∧ fn_ γ m_X12_outcomeCount 7 [.ref 185, .int (ga_X γ (l4 + (1 : Int32)).toNatClampNeg)] s109 (.int v115) s113 ∧
      ∃ (v118 : Int32) (s116 : st_T), Wd s116 ∧ fn_ γ m_X12_thrown 0 [.ref 185] s113 (.int v118) s116 ∧
      (v118 = v111 →
        (v111 = (0 : Int32) →
          ((st_L s116 219 0) = (v115.toInt64) →
            vv_ γ (m_law nm) 84 23 [(0, .ref 22), (1, .ref 128), (2, .ref 185), (3, .ref 219), (4, .int (l4 + 6))] [] s116 Q
          ) ∧ (¬ (st_L s116 219 0) = (v115.toInt64) →
            Q (.inl (some (.int (0 : Int32)))) s116
          )
        ) ∧ (¬ v111 = (0 : Int32) →
          vv_ γ (m_law nm) 84 23 [(0, .ref 22), (1, .ref 128), (2, .ref 185), (3, .ref 219), (4, .int (l4 + 6))] [] s116 Q
        )
      ) ∧ (¬ v118 = v111 →
        Q (.inl (some (.int (0 : Int32)))) s116
      )
    ) ∧
    (((ga_X γ l4.toNatClampNeg) &&& (63 : Int32)).toInt = 12 →
      vp_in (l4 + (1 : Int32)) (ga_L γ) ∧
      vp_in (l4 + (2 : Int32)) (ga_L γ) ∧
      ∃ (v126 : Int32) (s124 : st_T), Wd s124 ∧ fn_ γ m_L_outcome 10 [.ref 128, .int (ga_X γ (l4 + (1 : Int32)).toNatClampNeg), .int (ga_X γ (l4 + (2 : Int32)).toNatClampNeg), .ref 219] σ (.int v126) s124 ∧
      vp_in (l4 + (1 : Int32)) (ga_L γ) ∧
      vp_in (l4 + (2 : Int32)) (ga_L γ) ∧
      ∃ (v131 : Int32) (s129 : st_T), Wd s129 ∧ fn_ γ m_X12_outcome 7 [.ref 185, .int (ga_X γ (l4 + (1 : Int32)).toNatClampNeg), .int (ga_X γ (l4 + (2 : Int32)).toNatClampNeg)] s124 (.int v131) s129 ∧
      ∃ (v134 : Int32) (s132 : st_T), Wd s132 ∧ fn_ γ m_X12_thrown 0 [.ref 185] s129 (.int v134) s132 ∧
      (v134 = v126 →
        (v126 = (0 : Int32) →
          ((st_L s132 219 0) = (v131.toInt64) →
            vv_ γ (m_law nm) 84 23 [(0, .ref 22), (1, .ref 128), (2, .ref 185), (3, .ref 219), (4, .int (l4 + 6))] [] s132 Q
          ) ∧ (¬ (st_L s132 219 0) = (v131.toInt64) →
            Q (.inl (some (.int (0 : Int32)))) s132
          )
        ) ∧ (¬ v126 = (0 : Int32) →
          vv_ γ (m_law nm) 84 23 [(0, .ref 22), (1, .ref 128), (2, .ref 185), (3, .ref 219), (4, .int (l4 + 6))] [] s132 Q
        )
      ) ∧ (¬ v134 = v126 →
        Q (.inl (some (.int (0 : Int32)))) s132
      )
    ) ∧
    (((ga_X γ l4.toNatClampNeg) &&& (63 : Int32)).toInt = 13 →
      vp_in (l4 + (1 : Int32)) (ga_L γ) ∧
      vp_in (l4 + (2 : Int32)) (ga_L γ) ∧
      ∃ (v142 : Int32) (s140 : st_T), Wd s140 ∧ fn_ γ m_L_hasOutcome 10 [.ref 128, .int (ga_X γ (l4 + (1 : Int32)).toNatClampNeg), .int (ga_X γ (l4 + (2 : Int32)).toNatClampNeg), .ref 219] σ (.int v142) s140 ∧
      vp_in (l4 + (1 : Int32)) (ga_L γ) ∧
      vp_in (l4 + (2 : Int32)) (ga_L γ) ∧
      ∃ (v147 : Int32) (s145 : st_T), Wd s145 ∧ fn_ γ m_X12_hasOutcome 7 [.ref 185, .int (ga_X γ (l4 + (1 : Int32)).toNatClampNeg), .int (ga_X γ (l4 + (2 : Int32)).toNatClampNeg)] s140 (.int v147) s145 ∧
      ∃ (v150 : Int32) (s148 : st_T), Wd s148 ∧ fn_ γ m_X12_thrown 0 [.ref 185] s145 (.int v150) s148 ∧
      (v150 = v142 →
        (v142 = (0 : Int32) →
          (v147 = (0 : Int32) →
            ((st_L s148 219 0) = (0 : Int64) →
              vv_ γ (m_law nm) 84 23 [(0, .ref 22), (1, .ref 128), (2, .ref 185), (3, .ref 219), (4, .int (l4 + 6))] [] s148 Q
            ) ∧ (¬ (st_L s148 219 0) = (0 : Int64) →
              Q (.inl (some (.int (0 : Int32)))) s148
            )
          ) ∧ (¬ v147 = (0 : Int32) →
            ((st_L s148 219 0) = (1 : Int64) →
              vv_ γ (m_law nm) 84 23 [(0, .ref 22), (1, .ref 128), (2, .ref 185), (3, .ref 219), (4, .int (l4 + 6))] [] s148 Q
            ) ∧ (¬ (st_L s148 219 0) = (1 : Int64) →
              Q (.inl (some (.int (0 : Int32)))) s148
            )
          )
        ) ∧ (¬ v142 = (0 : Int32) →
          vv_ γ (m_law nm) 84 23 [(0, .ref 22), (1, .ref 128), (2, .ref 185), (3, .ref 219), (4, .int (l4 + 6))] [] s148 Q
        )
      ) ∧ (¬ v150 = v142 →
        Q (.inl (some (.int (0 : Int32)))) s148
      )
    ) ∧
    (((ga_X γ l4.toNatClampNeg) &&& (63 : Int32)).toInt = 14 →
      vp_in (l4 + (1 : Int32)) (ga_L γ) ∧
      vp_in (l4 + (2 : Int32)) (ga_L γ) ∧
      ∃ (v160 : Int32) (s158 : st_T), Wd s158 ∧ fn_ γ m_L_extraOutcomes 10 [.ref 128, .int (ga_X γ (l4 + (1 : Int32)).toNatClampNeg), .int (ga_X γ (l4 + (2 : Int32)).toNatClampNeg), .ref 219] σ (.int v160) s158 ∧
      vp_in (l4 + (1 : Int32)) (ga_L γ) ∧
      vp_in (l4 + (2 : Int32)) (ga_L γ) ∧
      ∃ (v165 : Int32) (s163 : st_T), Wd s163 ∧ fn_ γ m_X12_extraOutcomes 7 [.ref 185, .int (ga_X γ (l4 + (1 : Int32)).toNatClampNeg), .int (ga_X γ (l4 + (2 : Int32)).toNatClampNeg)] s158 (.int v165) s163 ∧
      ∃ (v168 : Int32) (s166 : st_T), Wd s166 ∧ fn_ γ m_X12_thrown 0 [.ref 185] s163 (.int v168) s166 ∧
      (v168 = v160 →
        (v160 = (0 : Int32) →
          ((st_L s166 219 0) = (v165.toInt64) →
            vv_ γ (m_law nm) 84 23 [(0, .ref 22), (1, .ref 128), (2, .ref 185), (3, .ref 219), (4, .int (l4 + 6))] [] s166 Q
          ) ∧ (¬ (st_L s166 219 0) = (v165.toInt64) →
            Q (.inl (some (.int (0 : Int32)))) s166
          )
        ) ∧ (¬ v160 = (0 : Int32) →
          vv_ γ (m_law nm) 84 23 [(0, .ref 22), (1, .ref 128), (2, .ref 185), (3, .ref 219), (4, .int (l4 + 6))] [] s166 Q
        )
      ) ∧ (¬ v168 = v160 →
        Q (.inl (some (.int (0 : Int32)))) s166
      )
    ) ∧
    (((ga_X γ l4.toNatClampNeg) &&& (63 : Int32)).toInt = 15 →
      vp_in (l4 + (1 : Int32)) (ga_L γ) ∧
      ∃ (v175 : Int32) (s173 : st_T), Wd s173 ∧ fn_ γ m_X11_fulfils 1 [.ref 128, .int (ga_X γ (l4 + (1 : Int32)).toNatClampNeg)] σ (.int v175) s173 ∧
      vp_in (l4 + (1 : Int32)) (ga_L γ) ∧
      ∃ (v179 : Int32) (s177 : st_T), Wd s177 ∧ fn_ γ m_X12_fulfils 3 [.ref 185, .int (ga_X γ (l4 + (1 : Int32)).toNatClampNeg)] s173 (.int v179) s177 ∧
      (v175 = v179 →
        vv_ γ (m_law nm) 84 23 [(0, .ref 22), (1, .ref 128), (2, .ref 185), (3, .ref 219), (4, .int (l4 + 6))] [] s177 Q
      ) ∧ (¬ v175 = v179 →
        Q (.inl (some (.int (0 : Int32)))) s177
      )
    ) ∧
    (((ga_X γ l4.toNatClampNeg) &&& (63 : Int32)).toInt = 16 →
      vp_in (l4 + (1 : Int32)) (ga_L γ) ∧
      ∃ (v184 : Int32) (s182 : st_T), Wd s182 ∧ fn_ γ m_L_matchCount 10 [.ref 128, .int (ga_X γ (l4 + (1 : Int32)).toNatClampNeg), .ref 219] σ (.int v184) s182 ∧
      vp_in (l4 + (1 : Int32)) (ga_L γ) ∧
      ∃ (v188 : Int32) (s186 : st_T), Wd s186 ∧ fn_ γ m_X12_matchCount 7 [.ref 185, .int (ga_X γ (l4 + (1 : Int32)).toNatClampNeg)] s182 (.int v188) s186 ∧
      ∃ (v191 : Int32) (s189 : st_T), Wd s189 ∧ fn_ γ m_X12_thrown 0 [.ref 185] s186 (.int v191) s189 ∧
      (v191 = v184 →
        (v184 = (0 : Int32) →
          ((st_L s189 219 0) = (v188.toInt64) →
            vv_ γ (m_law nm) 84 23 [(0, .ref 22), (1, .ref 128), (2, .ref 185), (3, .ref 219), (4, .int (l4 + 6))] [] s189 Q
          ) ∧ (¬ (st_L s189 219 0) = (v188.toInt64) →
            Q (.inl (some (.int (0 : Int32)))) s189
          )
        ) ∧ (¬ v184 = (0 : Int32) →
          vv_ γ (m_law nm) 84 23 [(0, .ref 22), (1, .ref 128), (2, .ref 185), (3, .ref 219), (4, .int (l4 + 6))] [] s189 Q
        )
      ) ∧ (¬ v191 = v184 →
        Q (.inl (some (.int (0 : Int32)))) s189
      )
    ) ∧
    (((ga_X γ l4.toNatClampNeg) &&& (63 : Int32)).toInt = 17 →
      vp_in (l4 + (1 : Int32)) (ga_L γ) ∧
      ∃ (v198 : Int32) (s196 : st_T), Wd s196 ∧ fn_ γ m_L_firstMatch 10 [.ref 128, .int (ga_X γ (l4 + (1 : Int32)).toNatClampNeg), .ref 219] σ (.int v198) s196 ∧
      vp_in (l4 + (1 : Int32)) (ga_L γ) ∧
      ∃ (v202 : Int32) (s200 : st_T), Wd s200 ∧ fn_ γ m_X12_firstMatch 7 [.ref 185, .int (ga_X γ (l4 + (1 : Int32)).toNatClampNeg)] s196 (.int v202) s200 ∧
      ∃ (v205 : Int32) (s203 : st_T), Wd s203 ∧ fn_ γ m_X12_thrown 0 [.ref 185] s200 (.int v205) s203 ∧
      (v205 = v198 →
        (v198 = (0 : Int32) →
          ((st_L s203 219 0) = (v202.toInt64) →
            vv_ γ (m_law nm) 84 23 [(0, .ref 22), (1, .ref 128), (2, .ref 185), (3, .ref 219), (4, .int (l4 + 6))] [] s203 Q
          ) ∧ (¬ (st_L s203 219 0) = (v202.toInt64) →
            Q (.inl (some (.int (0 : Int32)))) s203
          )
        ) ∧ (¬ v198 = (0 : Int32) →
          vv_ γ (m_law nm) 84 23 [(0, .ref 22), (1, .ref 128), (2, .ref 185), (3, .ref 219), (4, .int (l4 + 6))] [] s203 Q
        )
      ) ∧ (¬ v205 = v198 →
        Q (.inl (some (.int (0 : Int32)))) s203
      )
    ) ∧
    (((ga_X γ l4.toNatClampNeg) &&& (63 : Int32)).toInt = 18 →
      vp_in (l4 + (1 : Int32)) (ga_L γ) ∧
      ∃ (v212 : Int32) (s210 : st_T), Wd s210 ∧ fn_ γ m_L_stateCount 10 [.ref 128, .int (ga_X γ (l4 + (1 : Int32)).toNatClampNeg), .ref 219] σ (.int v212) s210 ∧
      vp_in (l4 + (1 : Int32)) (ga_L γ) ∧
      ∃ (v216 : Int32) (s214 : st_T), Wd s214 ∧ fn_ γ m_X12_stateCount 7 [.ref 185, .int (ga_X γ (l4 + (1 : Int32)).toNatClampNeg)] s210 (.int v216) s214 ∧
      ∃ (v219 : Int32) (s217 : st_T), Wd s217 ∧ fn_ γ m_X12_thrown 0 [.ref 185] s214 (.int v219) s217 ∧
      (v219 = v212 →
        (v212 = (0 : Int32) →
          ((st_L s217 219 0) = (v216.toInt64) →
            vv_ γ (m_law nm) 84 23 [(0, .ref 22), (1, .ref 128), (2, .ref 185), (3, .ref 219), (4, .int (l4 + 6))] [] s217 Q
          ) ∧ (¬ (st_L s217 219 0) = (v216.toInt64) →
            Q (.inl (some (.int (0 : Int32)))) s217
          )
        ) ∧ (¬ v212 = (0 : Int32) →
          vv_ γ (m_law nm) 84 23 [(0, .ref 22), (1, .ref 128), (2, .ref 185), (3, .ref 219), (4, .int (l4 + 6))] [] s217 Q
        )
      ) ∧ (¬ v219 = v212 →
        Q (.inl (some (.int (0 : Int32)))) s217
      )
    ) ∧
    (((ga_X γ l4.toNatClampNeg) &&& (63 : Int32)).toInt = 19 →
      vp_in (l4 + (1 : Int32)) (ga_L γ) ∧
      ∃ (v226 : Int32) (s224 : st_T), Wd s224 ∧ fn_ γ m_L_executionCount 10 [.ref 128, .int (ga_X γ (l4 + (1 : Int32)).toNatClampNeg), .ref 219] σ (.int v226) s224 ∧
      vp_in (l4 + (1 : Int32)) (ga_L γ) ∧
      ∃ (v230 : Int64) (s228 : st_T), Wd s228 ∧ fn_ γ m_X12_executionCount 7 [.ref 185, .int (ga_X γ (l4 + (1 : Int32)).toNatClampNeg)] s224 (.long v230) s228 ∧
      ∃ (v233 : Int32) (s231 : st_T), Wd s231 ∧ fn_ γ m_X12_thrown 0 [.ref 185] s228 (.int v233) s231 ∧
      (v233 = v226 →
        (v226 = (0 : Int32) →
          ((st_L s231 219 0) = v230 →
            vv_ γ (m_law nm) 84 23 [(0, .ref 22), (1, .ref 128), (2, .ref 185), (3, .ref 219), (4, .int (l4 + 6))] [] s231 Q
          ) ∧ (¬ (st_L s231 219 0) = v230 →
            Q (.inl (some (.int (0 : Int32)))) s231
          )
        ) ∧ (¬ v226 = (0 : Int32) →
          vv_ γ (m_law nm) 84 23 [(0, .ref 22), (1, .ref 128), (2, .ref 185), (3, .ref 219), (4, .int (l4 + 6))] [] s231 Q
        )
      ) ∧ (¬ v233 = v226 →
        Q (.inl (some (.int (0 : Int32)))) s231
      )
    ) ∧
    (((ga_X γ l4.toNatClampNeg) &&& (63 : Int32)).toInt = 20 →
      vp_in (l4 + (1 : Int32)) (ga_L γ) ∧
      vp_in (l4 + (2 : Int32)) (ga_L γ) ∧
      ∃ (v241 : Int32) (s239 : st_T), Wd s239 ∧ fn_ γ m_L_executionsWith 10 [.ref 128, .int (ga_X γ (l4 + (1 : Int32)).toNatClampNeg), .int (ga_X γ (l4 + (2 : Int32)).toNatClampNeg), .ref 219] σ (.int v241) s239 ∧
      vp_in (l4 + (1 : Int32)) (ga_L γ) ∧
      vp_in (l4 + (2 : Int32)) (ga_L γ) ∧
      ∃ (v246 : Int64) (s244 : st_T), Wd s244 ∧ fn_ γ m_X12_executionsWith 7 [.ref 185, .int (ga_X γ (l4 + (1 : Int32)).toNatClampNeg), .int (ga_X γ (l4 + (2 : Int32)).toNatClampNeg)] s239 (.long v246) s244 ∧
      ∃ (v249 : Int32) (s247 : st_T), Wd s247 ∧ fn_ γ m_X12_thrown 0 [.ref 185] s244 (.int v249) s247 ∧
      (v249 = v241 →
        (v241 = (0 : Int32) →
          ((st_L s247 219 0) = v246 →
            vv_ γ (m_law nm) 84 23 [(0, .ref 22), (1, .ref 128), (2, .ref 185), (3, .ref 219), (4, .int (l4 + 6))] [] s247 Q
          ) ∧ (¬ (st_L s247 219 0) = v246 →
            Q (.inl (some (.int (0 : Int32)))) s247
          )
        ) ∧ (¬ v241 = (0 : Int32) →
          vv_ γ (m_law nm) 84 23 [(0, .ref 22), (1, .ref 128), (2, .ref 185), (3, .ref 219), (4, .int (l4 + 6))] [] s247 Q
        )
      ) ∧ (¬ v249 = v241 →
        Q (.inl (some (.int (0 : Int32)))) s247
      )
    ) ∧
    (((ga_X γ l4.toNatClampNeg) &&& (63 : Int32)).toInt = 21 →
      vp_in (l4 + (1 : Int32)) (ga_L γ) ∧
      vp_in (l4 + (2 : Int32)) (ga_L γ) ∧
      ∃ (v257 : Int32) (s255 : st_T), Wd s255 ∧ fn_ γ m_L_readValues 10 [.ref 128, .int (ga_X γ (l4 + (1 : Int32)).toNatClampNeg), .int (ga_X γ (l4 + (2 : Int32)).toNatClampNeg), .ref 219] σ (.int v257) s255 ∧
      vp_in (l4 + (1 : Int32)) (ga_L γ) ∧
      vp_in (l4 + (2 : Int32)) (ga_L γ) ∧
      ∃ (v262 : Int32) (s260 : st_T), Wd s260 ∧ fn_ γ m_X12_readValues 7 [.ref 185, .int (ga_X γ (l4 + (1 : Int32)).toNatClampNeg), .int (ga_X γ (l4 + (2 : Int32)).toNatClampNeg)] s255 (.int v262) s260 ∧
      ∃ (v265 : Int32) (s263 : st_T), Wd s263 ∧ fn_ γ m_X12_thrown 0 [.ref 185] s260 (.int v265) s263 ∧
      (v265 = v257 →
        (v257 = (0 : Int32) →
          ((st_L s263 219 0) = (v262.toInt64) →
            vv_ γ (m_law nm) 84 23 [(0, .ref 22), (1, .ref 128), (2, .ref 185), (3, .ref 219), (4, .int (l4 + 6))] [] s263 Q
          ) ∧ (¬ (st_L s263 219 0) = (v262.toInt64) →
            Q (.inl (some (.int (0 : Int32)))) s263
          )
        ) ∧ (¬ v257 = (0 : Int32) →
          vv_ γ (m_law nm) 84 23 [(0, .ref 22), (1, .ref 128), (2, .ref 185), (3, .ref 219), (4, .int (l4 + 6))] [] s263 Q
        )
      ) ∧ (¬ v265 = v257 →
        Q (.inl (some (.int (0 : Int32)))) s263
      )
    ) ∧
    (((ga_X γ l4.toNatClampNeg) &&& (63 : Int32)).toInt = 22 →
      vp_in (l4 + (1 : Int32)) (ga_L γ) ∧
      vp_in (l4 + (2 : Int32)) (ga_L γ) ∧
      ∃ (v273 : Int32) (s271 : st_T), Wd s271 ∧ fn_ γ m_L_finalValues 10 [.ref 128, .int (ga_X γ (l4 + (1 : Int32)).toNatClampNeg), .int (ga_X γ (l4 + (2 : Int32)).toNatClampNeg), .ref 219] σ (.int v273) s271 ∧
      vp_in (l4 + (1 : Int32)) (ga_L γ) ∧
      vp_in (l4 + (2 : Int32)) (ga_L γ) ∧
      ∃ (v278 : Int32) (s276 : st_T), Wd s276 ∧ fn_ γ m_X12_finalValues 7 [.ref 185, .int (ga_X γ (l4 + (1 : Int32)).toNatClampNeg), .int (ga_X γ (l4 + (2 : Int32)).toNatClampNeg)] s271 (.int v278) s276 ∧
      ∃ (v281 : Int32) (s279 : st_T), Wd s279 ∧ fn_ γ m_X12_thrown 0 [.ref 185] s276 (.int v281) s279 ∧
      (v281 = v273 →
        (v273 = (0 : Int32) →
          ((st_L s279 219 0) = (v278.toInt64) →
            vv_ γ (m_law nm) 84 23 [(0, .ref 22), (1, .ref 128), (2, .ref 185), (3, .ref 219), (4, .int (l4 + 6))] [] s279 Q
          ) ∧ (¬ (st_L s279 219 0) = (v278.toInt64) →
            Q (.inl (some (.int (0 : Int32)))) s279
          )
        ) ∧ (¬ v273 = (0 : Int32) →
          vv_ γ (m_law nm) 84 23 [(0, .ref 22), (1, .ref 128), (2, .ref 185), (3, .ref 219), (4, .int (l4 + 6))] [] s279 Q
        )
      ) ∧ (¬ v281 = v273 →
        Q (.inl (some (.int (0 : Int32)))) s279
      )
    ) ∧
    (((ga_X γ l4.toNatClampNeg) &&& (63 : Int32)).toInt = 23 →
      vp_in (l4 + (1 : Int32)) (ga_L γ) ∧
      vp_in (l4 + (2 : Int32)) (ga_L γ) ∧
      ∃ (v289 : Int32) (s287 : st_T), Wd s287 ∧ fn_ γ m_L_greatestBuffer 10 [.ref 128, .int (ga_X γ (l4 + (1 : Int32)).toNatClampNeg), .int (ga_X γ (l4 + (2 : Int32)).toNatClampNeg), .ref 219] σ (.int v289) s287 ∧
      vp_in (l4 + (1 : Int32)) (ga_L γ) ∧
      vp_in (l4 + (2 : Int32)) (ga_L γ) ∧
      ∃ (v294 : Int32) (s292 : st_T), Wd s292 ∧ fn_ γ m_X12_greatestBuffer 7 [.ref 185, .int (ga_X γ (l4 + (1 : Int32)).toNatClampNeg), .int (ga_X γ (l4 + (2 : Int32)).toNatClampNeg)] s287 (.int v294) s292 ∧
      ∃ (v297 : Int32) (s295 : st_T), Wd s295 ∧ fn_ γ m_X12_thrown 0 [.ref 185] s292 (.int v297) s295 ∧
      (v297 = v289 →
        (v289 = (0 : Int32) →
          ((st_L s295 219 0) = (v294.toInt64) →
            vv_ γ (m_law nm) 84 23 [(0, .ref 22), (1, .ref 128), (2, .ref 185), (3, .ref 219), (4, .int (l4 + 6))] [] s295 Q
          ) ∧ (¬ (st_L s295 219 0) = (v294.toInt64) →
            Q (.inl (some (.int (0 : Int32)))) s295
          )
        ) ∧ (¬ v289 = (0 : Int32) →
          vv_ γ (m_law nm) 84 23 [(0, .ref 22), (1, .ref 128), (2, .ref 185), (3, .ref 219), (4, .int (l4 + 6))] [] s295 Q
        )
      ) ∧ (¬ v297 = v289 →
        Q (.inl (some (.int (0 : Int32)))) s295
      )
    ) ∧
    (((ga_X γ l4.toNatClampNeg) &&& (63 : Int32)).toInt = 24 →
      vp_in (l4 + (1 : Int32)) (ga_L γ) ∧
      vp_in (l4 + (2 : Int32)) (ga_L γ) ∧
      ∃ (v305 : Int32) (s303 : st_T), Wd s303 ∧ fn_ γ m_L_isRace 10 [.ref 128, .int (ga_X γ (l4 + (1 : Int32)).toNatClampNeg), .int (ga_X γ (l4 + (2 : Int32)).toNatClampNeg), .ref 219] σ (.int v305) s303 ∧
      vp_in (l4 + (1 : Int32)) (ga_L γ) ∧
      vp_in (l4 + (2 : Int32)) (ga_L γ) ∧
      ∃ (v310 : Int32) (s308 : st_T), Wd s308 ∧ fn_ γ m_X12_isRace 7 [.ref 185, .int (ga_X γ (l4 + (1 : Int32)).toNatClampNeg), .int (ga_X γ (l4 + (2 : Int32)).toNatClampNeg)] s303 (.int v310) s308 ∧
      ∃ (v313 : Int32) (s311 : st_T), Wd s311 ∧ fn_ γ m_X12_thrown 0 [.ref 185] s308 (.int v313) s311 ∧
      (v313 = v305 →
        (v305 = (0 : Int32) →
          (v310 = (0 : Int32) →
            ((st_L s311 219 0) = (0 : Int64) →
              vv_ γ (m_law nm) 84 23 [(0, .ref 22), (1, .ref 128), (2, .ref 185), (3, .ref 219), (4, .int (l4 + 6))] [] s311 Q
            ) ∧ (¬ (st_L s311 219 0) = (0 : Int64) →
              Q (.inl (some (.int (0 : Int32)))) s311
            )
          ) ∧ (¬ v310 = (0 : Int32) →
            ((st_L s311 219 0) = (1 : Int64) →
              vv_ γ (m_law nm) 84 23 [(0, .ref 22), (1, .ref 128), (2, .ref 185), (3, .ref 219), (4, .int (l4 + 6))] [] s311 Q
            ) ∧ (¬ (st_L s311 219 0) = (1 : Int64) →
              Q (.inl (some (.int (0 : Int32)))) s311
            )
          )
        ) ∧ (¬ v305 = (0 : Int32) →
          vv_ γ (m_law nm) 84 23 [(0, .ref 22), (1, .ref 128), (2, .ref 185), (3, .ref 219), (4, .int (l4 + 6))] [] s311 Q
        )
      ) ∧ (¬ v313 = v305 →
        Q (.inl (some (.int (0 : Int32)))) s311
      )
    ) ∧
    (((ga_X γ l4.toNatClampNeg) &&& (63 : Int32)).toInt = 25 →
      ∃ (v321 : Int32) (s319 : st_T), Wd s319 ∧ fn_ γ m_X11_raceCount 2 [.ref 128] σ (.int v321) s319 ∧
      ∃ (v324 : Int32) (s322 : st_T), Wd s322 ∧ fn_ γ m_X12_raceCount 7 [.ref 185] s319 (.int v324) s322 ∧
      (v321 = v324 →
        vv_ γ (m_law nm) 84 23 [(0, .ref 22), (1, .ref 128), (2, .ref 185), (3, .ref 219), (4, .int (l4 + 6))] [] s322 Q
      ) ∧ (¬ v321 = v324 →
        Q (.inl (some (.int (0 : Int32)))) s322
      )
    ) ∧
    (((ga_X γ l4.toNatClampNeg) &&& (63 : Int32)).toInt = 26 →
      ∃ (v328 : Int32) (s326 : st_T), Wd s326 ∧ fn_ γ m_X11_gapCount 3 [.ref 128] σ (.int v328) s326 ∧
      ∃ (v331 : Int32) (s329 : st_T), Wd s329 ∧ fn_ γ m_X12_gapCount 4 [.ref 185] s326 (.int v331) s329 ∧
      (v328 = v331 →
        vv_ γ (m_law nm) 84 23 [(0, .ref 22), (1, .ref 128), (2, .ref 185), (3, .ref 219), (4, .int (l4 + 6))] [] s329 Q
      ) ∧ (¬ v328 = v331 →
        Q (.inl (some (.int (0 : Int32)))) s329
      )
    ) ∧
    (((ga_X γ l4.toNatClampNeg) &&& (63 : Int32)).toInt = 27 →
      vp_in (l4 + (1 : Int32)) (ga_L γ) ∧
      ∃ (v336 : Int32) (s334 : st_T), Wd s334 ∧ fn_ γ m_X11_gapBefore 3 [.ref 128, .int (ga_X γ (l4 + (1 : Int32)).toNatClampNeg)] σ (.int v336) s334 ∧
      vp_in (l4 + (1 : Int32)) (ga_L γ) ∧
      ∃ (v340 : Int32) (s338 : st_T), Wd s338 ∧ fn_ γ m_X12_gapBefore 4 [.ref 185, .int (ga_X γ (l4 + (1 : Int32)).toNatClampNeg)] s334 (.int v340) s338 ∧
      (v336 = v340 →
        vv_ γ (m_law nm) 84 23 [(0, .ref 22), (1, .ref 128), (2, .ref 185), (3, .ref 219), (4, .int (l4 + 6))] [] s338 Q
      ) ∧ (¬ v336 = v340 →
        Q (.inl (some (.int (0 : Int32)))) s338
      )
    ) ∧
    (((ga_X γ l4.toNatClampNeg) &&& (63 : Int32)).toInt = 28 →
      vp_in (l4 + (1 : Int32)) (ga_L γ) ∧
      vp_in (l4 + (2 : Int32)) (ga_L γ) ∧
      ∃ (v346 : Int32) (s344 : st_T), Wd s344 ∧ fn_ γ m_L_matchesWith 10 [.ref 128, .int (ga_X γ (l4 + (1 : Int32)).toNatClampNeg), .int (ga_X γ (l4 + (2 : Int32)).toNatClampNeg), .ref 219] σ (.int v346) s344 ∧
      vp_in (l4 + (1 : Int32)) (ga_L γ) ∧
      vp_in (l4 + (2 : Int32)) (ga_L γ) ∧
      ∃ (v351 : Int32) (s349 : st_T), Wd s349 ∧ fn_ γ m_X12_matchesWith 6 [.ref 185, .int (ga_X γ (l4 + (1 : Int32)).toNatClampNeg), .int (ga_X γ (l4 + (2 : Int32)).toNatClampNeg)] s344 (.int v351) s349 ∧
      ∃ (v354 : Int32) (s352 : st_T), Wd s352 ∧ fn_ γ m_X12_thrown 0 [.ref 185] s349 (.int v354) s352 ∧
      (v354 = v346 →
        (v346 = (0 : Int32) →
          ((st_L s352 219 0) = (v351.toInt64) →
            vv_ γ (m_law nm) 84 23 [(0, .ref 22), (1, .ref 128), (2, .ref 185), (3, .ref 219), (4, .int (l4 + 6))] [] s352 Q
          ) ∧ (¬ (st_L s352 219 0) = (v351.toInt64) →
            Q (.inl (some (.int (0 : Int32)))) s352
          )
        ) ∧ (¬ v346 = (0 : Int32) →
          vv_ γ (m_law nm) 84 23 [(0, .ref 22), (1, .ref 128), (2, .ref 185), (3, .ref 219), (4, .int (l4 + 6))] [] s352 Q
        )
      ) ∧ (¬ v354 = v346 →
        Q (.inl (some (.int (0 : Int32)))) s352
      )
    ) ∧
    (((ga_X γ l4.toNatClampNeg) &&& (63 : Int32)).toInt = 29 →
      vp_in (l4 + (1 : Int32)) (ga_L γ) ∧
      ∃ (v361 : Int32) (s359 : st_T), Wd s359 ∧ fn_ γ m_L_fewestFences 11 [.ref 128, .int (ga_X γ (l4 + (1 : Int32)).toNatClampNeg), .ref 219] σ (.int v361) s359 ∧
      vp_in (l4 + (1 : Int32)) (ga_L γ) ∧
      ∃ (v365 : Int32) (s363 : st_T), Wd s363 ∧ fn_ γ m_X12_fewestFences 7 [.ref 185, .int (ga_X γ (l4 + (1 : Int32)).toNatClampNeg)] s359 (.int v365) s363 ∧
      ∃ (v368 : Int32) (s366 : st_T), Wd s366 ∧ fn_ γ m_X12_thrown 0 [.ref 185] s363 (.int v368) s366 ∧
      (v368 = v361 →
        (v361 = (0 : Int32) →
          ((st_L s366 219 0) = (v365.toInt64) →
            vv_ γ (m_law nm) 84 23 [(0, .ref 22), (1, .ref 128), (2, .ref 185), (3, .ref 219), (4, .int (l4 + 6))] [] s366 Q
          ) ∧ (¬ (st_L s366 219 0) = (v365.toInt64) →
            Q (.inl (some (.int (0 : Int32)))) s366
          )
        ) ∧ (¬ v361 = (0 : Int32) →
          vv_ γ (m_law nm) 84 23 [(0, .ref 22), (1, .ref 128), (2, .ref 185), (3, .ref 219), (4, .int (l4 + 6))] [] s366 Q
        )
      ) ∧ (¬ v368 = v361 →
        Q (.inl (some (.int (0 : Int32)))) s366
      )
    ) ∧
    (((ga_X γ l4.toNatClampNeg) &&& (63 : Int32)).toInt = 30 →
      vp_in (l4 + (1 : Int32)) (ga_L γ) ∧
      ∃ (v375 : Int32) (s373 : st_T), Wd s373 ∧ fn_ γ m_L_repairingFences 10 [.ref 128, .int (ga_X γ (l4 + (1 : Int32)).toNatClampNeg), .ref 219] σ (.int v375) s373 ∧
      vp_in (l4 + (1 : Int32)) (ga_L γ) ∧
      ∃ (v379 : Int32) (s377 : st_T), Wd s377 ∧ fn_ γ m_X12_repairingFences 7 [.ref 185, .int (ga_X γ (l4 + (1 : Int32)).toNatClampNeg)] s373 (.int v379) s377 ∧
      ∃ (v382 : Int32) (s380 : st_T), Wd s380 ∧ fn_ γ m_X12_thrown 0 [.ref 185] s377 (.int v382) s380 ∧
      (v382 = v375 →
        (v375 = (0 : Int32) →
          ((st_L s380 219 0) = (v379.toInt64) →
            vv_ γ (m_law nm) 84 23 [(0, .ref 22), (1, .ref 128), (2, .ref 185), (3, .ref 219), (4, .int (l4 + 6))] [] s380 Q
          ) ∧ (¬ (st_L s380 219 0) = (v379.toInt64) →
            Q (.inl (some (.int (0 : Int32)))) s380
          )
        ) ∧ (¬ v375 = (0 : Int32) →
          vv_ γ (m_law nm) 84 23 [(0, .ref 22), (1, .ref 128), (2, .ref 185), (3, .ref 219), (4, .int (l4 + 6))] [] s380 Q
        )
      ) ∧ (¬ v382 = v375 →
        Q (.inl (some (.int (0 : Int32)))) s380
      )
    ) ∧
    (((ga_X γ l4.toNatClampNeg) &&& (63 : Int32)).toInt = 31 →
      vp_in (l4 + (1 : Int32)) (ga_L γ) ∧
      vp_in (l4 + (2 : Int32)) (ga_L γ) ∧
      ∃ (v390 : Int32) (s388 : st_T), Wd s388 ∧ fn_ γ m_L_isFenceNeeded 10 [.ref 128, .int (ga_X γ (l4 + (1 : Int32)).toNatClampNeg), .int (ga_X γ (l4 + (2 : Int32)).toNatClampNeg), .ref 219] σ (.int v390) s388 ∧
      vp_in (l4 + (1 : Int32)) (ga_L γ) ∧
      vp_in (l4 + (2 : Int32)) (ga_L γ) ∧
      ∃ (v395 : Int32) (s393 : st_T), Wd s393 ∧ fn_ γ m_X12_isFenceNeeded 7 [.ref 185, .int (ga_X γ (l4 + (1 : Int32)).toNatClampNeg), .int (ga_X γ (l4 + (2 : Int32)).toNatClampNeg)] s388 (.int v395) s393 ∧
      ∃ (v398 : Int32) (s396 : st_T), Wd s396 ∧ fn_ γ m_X12_thrown 0 [.ref 185] s393 (.int v398) s396 ∧
      (v398 = v390 →
        (v390 = (0 : Int32) →
          (v395 = (0 : Int32) →
            ((st_L s396 219 0) = (0 : Int64) →
              vv_ γ (m_law nm) 84 23 [(0, .ref 22), (1, .ref 128), (2, .ref 185), (3, .ref 219), (4, .int (l4 + 6))] [] s396 Q
            ) ∧ (¬ (st_L s396 219 0) = (0 : Int64) →
              Q (.inl (some (.int (0 : Int32)))) s396
            )
          ) ∧ (¬ v395 = (0 : Int32) →
            ((st_L s396 219 0) = (1 : Int64) →
              vv_ γ (m_law nm) 84 23 [(0, .ref 22), (1, .ref 128), (2, .ref 185), (3, .ref 219), (4, .int (l4 + 6))] [] s396 Q
            ) ∧ (¬ (st_L s396 219 0) = (1 : Int64) →
              Q (.inl (some (.int (0 : Int32)))) s396
            )
          )
        ) ∧ (¬ v390 = (0 : Int32) →
          vv_ γ (m_law nm) 84 23 [(0, .ref 22), (1, .ref 128), (2, .ref 185), (3, .ref 219), (4, .int (l4 + 6))] [] s396 Q
        )
      ) ∧ (¬ v398 = v390 →
        Q (.inl (some (.int (0 : Int32)))) s396
      )
    ) ∧
    (((ga_X γ l4.toNatClampNeg) &&& (63 : Int32)).toInt = 32 →
      vp_in (l4 + (1 : Int32)) (ga_L γ) ∧
      ∃ (v407 : Int32) (s405 : st_T), Wd s405 ∧ fn_ γ m_L_insertFence 9 [.ref 128, .int (ga_X γ (l4 + (1 : Int32)).toNatClampNeg), .ref 219] σ (.int v407) s405 ∧
      vp_in (l4 + (1 : Int32)) (ga_L γ) ∧
      ∃ (v411 : Int32) (s409 : st_T), Wd s409 ∧ fn_ γ m_X12_insertFence 4 [.ref 185, .int (ga_X γ (l4 + (1 : Int32)).toNatClampNeg)] s405 (.int v411) s409 ∧
      ∃ (v414 : Int32) (s412 : st_T), Wd s412 ∧ fn_ γ m_X12_thrown 0 [.ref 185] s409 (.int v414) s412 ∧
      (v414 = v407 →
        (v407 = (0 : Int32) →
          ((st_L s412 219 0) = (v411.toInt64) →
            vv_ γ (m_law nm) 84 23 [(0, .ref 22), (1, .ref 128), (2, .ref 185), (3, .ref 219), (4, .int (l4 + 6))] [] s412 Q
          ) ∧ (¬ (st_L s412 219 0) = (v411.toInt64) →
            Q (.inl (some (.int (0 : Int32)))) s412
          )
        ) ∧ (¬ v407 = (0 : Int32) →
          vv_ γ (m_law nm) 84 23 [(0, .ref 22), (1, .ref 128), (2, .ref 185), (3, .ref 219), (4, .int (l4 + 6))] [] s412 Q
        )
      ) ∧ (¬ v414 = v407 →
        Q (.inl (some (.int (0 : Int32)))) s412
      )
    ) ∧
    (((ga_X γ l4.toNatClampNeg) &&& (63 : Int32)).toInt = 33 →
      vp_in (l4 + (1 : Int32)) (ga_L γ) ∧
      ∃ (v421 : Int32) (s419 : st_T), Wd s419 ∧ fn_ γ m_L_removeFence 10 [.ref 128, .int (ga_X γ (l4 + (1 : Int32)).toNatClampNeg), .ref 219] σ (.int v421) s419 ∧
      vp_in (l4 + (1 : Int32)) (ga_L γ) ∧
      ∃ (v425 : Int32) (s423 : st_T), Wd s423 ∧ fn_ γ m_X12_removeFence 3 [.ref 185, .int (ga_X γ (l4 + (1 : Int32)).toNatClampNeg)] s419 (.int v425) s423 ∧
      ∃ (v428 : Int32) (s426 : st_T), Wd s426 ∧ fn_ γ m_X12_thrown 0 [.ref 185] s423 (.int v428) s426 ∧
      (v428 = v421 →
        (v421 = (0 : Int32) →
          ((st_L s426 219 0) = (v425.toInt64) →
            vv_ γ (m_law nm) 84 23 [(0, .ref 22), (1, .ref 128), (2, .ref 185), (3, .ref 219), (4, .int (l4 + 6))] [] s426 Q
          ) ∧ (¬ (st_L s426 219 0) = (v425.toInt64) →
            Q (.inl (some (.int (0 : Int32)))) s426
          )
        ) ∧ (¬ v421 = (0 : Int32) →
          vv_ γ (m_law nm) 84 23 [(0, .ref 22), (1, .ref 128), (2, .ref 185), (3, .ref 219), (4, .int (l4 + 6))] [] s426 Q
        )
      ) ∧ (¬ v428 = v421 →
        Q (.inl (some (.int (0 : Int32)))) s426
      )
    ) ∧
    (((ga_X γ l4.toNatClampNeg) &&& (63 : Int32)).toInt = 34 →
      ∃ (v434 : Int32) (s432 : st_T), Wd s432 ∧ fn_ γ m_X11_undo 3 [.ref 128] σ (.int v434) s432 ∧
      ∃ (v437 : Int32) (s435 : st_T), Wd s435 ∧ fn_ γ m_X12_undo 0 [.ref 185] s432 (.int v437) s435 ∧
      (v434 = v437 →
        vv_ γ (m_law nm) 84 23 [(0, .ref 22), (1, .ref 128), (2, .ref 185), (3, .ref 219), (4, .int (l4 + 6))] [] s435 Q
      ) ∧ (¬ v434 = v437 →
        Q (.inl (some (.int (0 : Int32)))) s435
      )
    ) ∧
    (((ga_X γ l4.toNatClampNeg) &&& (63 : Int32)).toInt = 35 →
      vp_in (l4 + (1 : Int32)) (ga_L γ) ∧
      vp_in (l4 + (2 : Int32)) (ga_L γ) ∧
      ∃ (v443 : Int32) (s441 : st_T), Wd s441 ∧ fn_ γ m_L_explain 83 [.ref 128, .int (ga_X γ (l4 + (1 : Int32)).toNatClampNeg), .int (ga_X γ (l4 + (2 : Int32)).toNatClampNeg), .ref 219] σ (.int v443) s441 ∧
      vp_in (l4 + (1 : Int32)) (ga_L γ) ∧
      vp_in (l4 + (2 : Int32)) (ga_L γ) ∧
      ∃ (v448 : Int32) (s446 : st_T), Wd s446 ∧ fn_ γ m_X12_explain 7 [.ref 185, .int (ga_X γ (l4 + (1 : Int32)).toNatClampNeg), .int (ga_X γ (l4 + (2 : Int32)).toNatClampNeg)] s441 (.int v448) s446 ∧
      ∃ (v451 : Int32) (s449 : st_T), Wd s449 ∧ fn_ γ m_X12_thrown 0 [.ref 185] s446 (.int v451) s449 ∧
      (v451 = v443 →
        (v443 = (0 : Int32) →
          ((st_L s449 219 0) = (v448.toInt64) →
            vv_ γ (m_law nm) 84 23 [(0, .ref 22), (1, .ref 128), (2, .ref 185), (3, .ref 219), (4, .int (l4 + 6))] [] s449 Q
          ) ∧ (¬ (st_L s449 219 0) = (v448.toInt64) →
            Q (.inl (some (.int (0 : Int32)))) s449
          )
        ) ∧ (¬ v443 = (0 : Int32) →
          vv_ γ (m_law nm) 84 23 [(0, .ref 22), (1, .ref 128), (2, .ref 185), (3, .ref 219), (4, .int (l4 + 6))] [] s449 Q
        )
      ) ∧ (¬ v451 = v443 →
        Q (.inl (some (.int (0 : Int32)))) s449
      )
    ) ∧
    (((ga_X γ l4.toNatClampNeg) &&& (63 : Int32)).toInt = 36 →
      vp_in (l4 + (1 : Int32)) (ga_L γ) ∧
      ∃ (v458 : Int32) (s456 : st_T), Wd s456 ∧ fn_ γ m_X11_step 1 [.ref 128, .int (ga_X γ (l4 + (1 : Int32)).toNatClampNeg)] σ (.int v458) s456 ∧
      vp_in (l4 + (1 : Int32)) (ga_L γ) ∧
      ∃ (v462 : Int32) (s460 : st_T), Wd s460 ∧ fn_ γ m_X12_step 1 [.ref 185, .int (ga_X γ (l4 + (1 : Int32)).toNatClampNeg)] s456 (.int v462) s460 ∧
      (v458 = v462 →
        vv_ γ (m_law nm) 84 23 [(0, .ref 22), (1, .ref 128), (2, .ref 185), (3, .ref 219), (4, .int (l4 + 6))] [] s460 Q
      ) ∧ (¬ v458 = v462 →
        Q (.inl (some (.int (0 : Int32)))) s460
      )
    ) ∧
    (((ga_X γ l4.toNatClampNeg) &&& (63 : Int32)).toInt = 37 →
      vp_in (l4 + (1 : Int32)) (ga_L γ) ∧
      ∃ (v467 : Int32) (s465 : st_T), Wd s465 ∧ fn_ γ m_L_readsFrom 10 [.ref 128, .int (ga_X γ (l4 + (1 : Int32)).toNatClampNeg), .ref 219] σ (.int v467) s465 ∧
      vp_in (l4 + (1 : Int32)) (ga_L γ) ∧
      ∃ (v471 : Int32) (s469 : st_T), Wd s469 ∧ fn_ γ m_X12_readsFrom 3 [.ref 185, .int (ga_X γ (l4 + (1 : Int32)).toNatClampNeg)] s465 (.int v471) s469 ∧
      ∃ (v474 : Int32) (s472 : st_T), Wd s472 ∧ fn_ γ m_X12_thrown 0 [.ref 185] s469 (.int v474) s472 ∧
      (v474 = v467 →
        (v467 = (0 : Int32) →
          ((st_L s472 219 0) = (v471.toInt64) →
            vv_ γ (m_law nm) 84 23 [(0, .ref 22), (1, .ref 128), (2, .ref 185), (3, .ref 219), (4, .int (l4 + 6))] [] s472 Q
          ) ∧ (¬ (st_L s472 219 0) = (v471.toInt64) →
            Q (.inl (some (.int (0 : Int32)))) s472
          )
        ) ∧ (¬ v467 = (0 : Int32) →
          vv_ γ (m_law nm) 84 23 [(0, .ref 22), (1, .ref 128), (2, .ref 185), (3, .ref 219), (4, .int (l4 + 6))] [] s472 Q
        )
      ) ∧ (¬ v474 = v467 →
        Q (.inl (some (.int (0 : Int32)))) s472
      )
    ) ∧
    (((ga_X γ l4.toNatClampNeg) &&& (63 : Int32)).toInt = 38 →
      vp_in (l4 + (1 : Int32)) (ga_L γ) ∧
      vp_in (l4 + (2 : Int32)) (ga_L γ) ∧
      ∃ (v482 : Int32) (s480 : st_T), Wd s480 ∧ fn_ γ m_L_writtenBy 10 [.ref 128, .int (ga_X γ (l4 + (1 : Int32)).toNatClampNeg), .int (ga_X γ (l4 + (2 : Int32)).toNatClampNeg), .ref 219] σ (.int v482) s480 ∧
      vp_in (l4 + (1 : Int32)) (ga_L γ) ∧
      vp_in (l4 + (2 : Int32)) (ga_L γ) ∧
      ∃ (v487 : Int32) (s485 : st_T), Wd s485 ∧ fn_ γ m_X12_writtenBy 1 [.ref 185, .int (ga_X γ (l4 + (1 : Int32)).toNatClampNeg), .int (ga_X γ (l4 + (2 : Int32)).toNatClampNeg)] s480 (.int v487) s485 ∧
      ∃ (v490 : Int32) (s488 : st_T), Wd s488 ∧ fn_ γ m_X12_thrown 0 [.ref 185] s485 (.int v490) s488 ∧
      (v490 = v482 →
        (v482 = (0 : Int32) →
          ((st_L s488 219 0) = (v487.toInt64) →
            vv_ γ (m_law nm) 84 23 [(0, .ref 22), (1, .ref 128), (2, .ref 185), (3, .ref 219), (4, .int (l4 + 6))] [] s488 Q
          ) ∧ (¬ (st_L s488 219 0) = (v487.toInt64) →
            Q (.inl (some (.int (0 : Int32)))) s488
          )
        ) ∧ (¬ v482 = (0 : Int32) →
          vv_ γ (m_law nm) 84 23 [(0, .ref 22), (1, .ref 128), (2, .ref 185), (3, .ref 219), (4, .int (l4 + 6))] [] s488 Q
        )
      ) ∧ (¬ v490 = v482 →
        Q (.inl (some (.int (0 : Int32)))) s488
      )
    )
  )
set_option maxRecDepth 10000 in
theorem g_L_law_23 {γ : ga_T} {nm : String} {l4 : Int32} {σ : st_T} {Q : rs_T → st_T → Prop} (zw : Wd σ) (zh : p_L_law_23 γ nm l4 σ Q) : vv_ γ (m_law nm) 84 23 [(0, .ref 22), (1, .ref 128), (2, .ref 185), (3, .ref 219), (4, .int l4)] [] σ Q := by
  unfold p_L_law_23 at zh
  refine vr_iload dL_law_23 rfl ?_
  refine vr_aload_n dL_law_25 rfl rfl ?_
  refine vr_scrlen dL_law_26 rfl ?_
  refine vr_bipush dL_law_27 (v := (6 : Int32)) (by decide) ?_
  refine vr_isub dL_law_29 ?_
  refine vr_ic_gt dL_law_30 (tgt := 2040) rfl (fun zd_1 => ?_) (fun zd_1 => ?_)
  · replace zh := zh.1 zd_1
    refine vr_iconst dL_law_2040 (v := (1 : Int32)) (by decide) ?_
    exact vr_zret dL_law_2041 rfl (Or.inr rfl) zh
  · replace zh := zh.2 zd_1
    refine vr_aload_n dL_law_33 rfl rfl ?_
    refine vr_iload dL_law_34 rfl ?_
    obtain ⟨zi_2, zh⟩ := zh
    refine vr_scrload dL_law_36 zi_2 ?_
    refine vr_bipush dL_law_37 (v := (63 : Int32)) (by decide) ?_
    refine vr_iand dL_law_39 ?_
    by_cases zd_494 : (((ga_X γ l4.toNatClampNeg) &&& (63 : Int32)).toInt < 0 ∨ 38 < ((ga_X γ l4.toNatClampNeg) &&& (63 : Int32)).toInt)
    · replace zh := zh.1 zd_494
      refine vr_tswOut dL_law_40 (tgt := 2034) zd_494 rfl ?_
      refine vr_iinc dL_law_2034 (x := l4) (v := (l4 + 6)) rfl (ii_ (by decide)) (Nat.le_of_ble_eq_true rfl) (vv_eq (ls' := [(0, .ref 22), (1, .ref 128), (2, .ref 185), (3, .ref 219), (4, .int (l4 + 6))]) rfl ?_)
      refine vr_goto dL_law_2037 (tgt := 23) rfl ?_
      exact vv_sub (ls' := [(0, .ref 22), (1, .ref 128), (2, .ref 185), (3, .ref 219), (4, .int (l4 + 6))]) ⟨rfl, rfl, rfl, rfl, rfl, trivial⟩ zh
    replace zh := zh.2
    have zd_494a : ¬ ((ga_X γ l4.toNatClampNeg) &&& (63 : Int32)).toInt < 0 := fun z => zd_494 (Or.inl z)
    have zd_494b : ¬ 38 < ((ga_X γ l4.toNatClampNeg) &&& (63 : Int32)).toInt := fun z => zd_494 (Or.inr z)
    by_cases zd_4940 : ((ga_X γ l4.toNatClampNeg) &&& (63 : Int32)).toInt = 0
    · replace zh := zh.1 zd_4940
      refine vr_tswIn dL_law_40 (tgt := 212) zd_494a zd_494b (by rw [zd_4940]; rfl) rfl ?_
      refine vr_aload_n dL_law_212 rfl rfl ?_
      refine vr_aload_n dL_law_213 rfl rfl ?_
      refine vr_iload dL_law_214 rfl ?_
      refine vr_iconst dL_law_216 (v := (1 : Int32)) (by decide) ?_
      refine vr_iadd dL_law_217 ?_
      obtain ⟨zi_3, zh⟩ := zh
      refine vr_scrload dL_law_218 zi_3 ?_
      refine vr_aload_n dL_law_219 rfl rfl ?_
      refine vr_iload dL_law_220 rfl ?_
      refine vr_iconst dL_law_222 (v := (2 : Int32)) (by decide) ?_
      refine vr_iadd dL_law_223 ?_
      obtain ⟨zi_4, zh⟩ := zh
      refine vr_scrload dL_law_224 zi_4 ?_
      refine vr_aload_n dL_law_225 rfl rfl ?_
      refine vr_iload dL_law_226 rfl ?_
      refine vr_iconst dL_law_228 (v := (3 : Int32)) (by decide) ?_
      refine vr_iadd dL_law_229 ?_
      obtain ⟨zi_5, zh⟩ := zh
      refine vr_scrload dL_law_230 zi_5 ?_
      refine vr_aload_n dL_law_231 rfl rfl ?_
      refine vr_iload dL_law_232 rfl ?_
      refine vr_iconst dL_law_234 (v := (4 : Int32)) (by decide) ?_
      refine vr_iadd dL_law_235 ?_
      obtain ⟨zi_6, zh⟩ := zh
      refine vr_scrload dL_law_236 zi_6 ?_
      refine vr_aload_n dL_law_237 rfl rfl ?_
      refine vr_iload dL_law_238 rfl ?_
      refine vr_iconst dL_law_240 (v := (5 : Int32)) (by decide) ?_
      refine vr_iadd dL_law_241 ?_
      obtain ⟨zi_7, zh⟩ := zh
      refine vr_scrload dL_law_242 zi_7 ?_
      obtain ⟨v10, s8, zw1, zf_9, zh⟩ := zh
      refine vc_V (As := [.int (ga_X γ (l4 + (1 : Int32)).toNatClampNeg), .int (ga_X γ (l4 + (2 : Int32)).toNatClampNeg), .int (ga_X γ (l4 + (3 : Int32)).toNatClampNeg), .int (ga_X γ (l4 + (4 : Int32)).toNatClampNeg), .int (ga_X γ (l4 + (5 : Int32)).toNatClampNeg)]) (rest := []) dL_law_243 cV_LitmusTesterLaw_98 (wC_128 zw) rfl rfl (Nat.le_of_ble_eq_true rfl) (Nat.le_of_ble_eq_true rfl) (co_n zf_9 ?_)
      replace zw := zw1
      refine vr_aload_n dL_law_246 rfl rfl ?_
      refine vr_aload_n dL_law_247 rfl rfl ?_
      refine vr_iload dL_law_248 rfl ?_
      refine vr_iconst dL_law_250 (v := (1 : Int32)) (by decide) ?_
      refine vr_iadd dL_law_251 ?_
      obtain ⟨zi_11, zh⟩ := zh
      refine vr_scrload dL_law_252 zi_11 ?_
      refine vr_aload_n dL_law_253 rfl rfl ?_
      refine vr_iload dL_law_254 rfl ?_
      refine vr_iconst dL_law_256 (v := (2 : Int32)) (by decide) ?_
      refine vr_iadd dL_law_257 ?_
      obtain ⟨zi_12, zh⟩ := zh
      refine vr_scrload dL_law_258 zi_12 ?_
      refine vr_aload_n dL_law_259 rfl rfl ?_
      refine vr_iload dL_law_260 rfl ?_
      refine vr_iconst dL_law_262 (v := (3 : Int32)) (by decide) ?_
      refine vr_iadd dL_law_263 ?_
      obtain ⟨zi_13, zh⟩ := zh
      refine vr_scrload dL_law_264 zi_13 ?_
      refine vr_aload_n dL_law_265 rfl rfl ?_
      refine vr_iload dL_law_266 rfl ?_
      refine vr_iconst dL_law_268 (v := (4 : Int32)) (by decide) ?_
      refine vr_iadd dL_law_269 ?_
      obtain ⟨zi_14, zh⟩ := zh
      refine vr_scrload dL_law_270 zi_14 ?_
      refine vr_aload_n dL_law_271 rfl rfl ?_
      refine vr_iload dL_law_272 rfl ?_
      refine vr_iconst dL_law_274 (v := (5 : Int32)) (by decide) ?_
      refine vr_iadd dL_law_275 ?_
      obtain ⟨zi_15, zh⟩ := zh
      refine vr_scrload dL_law_276 zi_15 ?_
      obtain ⟨v18, s16, zw1, zf_17, zh⟩ := zh
      refine vc_V (As := [.int (ga_X γ (l4 + (1 : Int32)).toNatClampNeg), .int (ga_X γ (l4 + (2 : Int32)).toNatClampNeg), .int (ga_X γ (l4 + (3 : Int32)).toNatClampNeg), .int (ga_X γ (l4 + (4 : Int32)).toNatClampNeg), .int (ga_X γ (l4 + (5 : Int32)).toNatClampNeg)]) (rest := [.int v10]) dL_law_277 cV_LitmusTesterLaw_102 (wC_185 zw) rfl rfl (Nat.le_of_ble_eq_true rfl) (Nat.le_of_ble_eq_true rfl) (co_n zf_17 ?_)
      replace zw := zw1
      refine vr_ic_eq dL_law_280 (tgt := 2034) rfl (fun zd_19 => ?_) (fun zd_19 => ?_)
      · replace zh := zh.1 zd_19
        refine vr_iinc dL_law_2034 (x := l4) (v := (l4 + 6)) rfl (ii_ (by decide)) (Nat.le_of_ble_eq_true rfl) (vv_eq (ls' := [(0, .ref 22), (1, .ref 128), (2, .ref 185), (3, .ref 219), (4, .int (l4 + 6))]) rfl ?_)
        refine vr_goto dL_law_2037 (tgt := 23) rfl ?_
        exact vv_sub (ls' := [(0, .ref 22), (1, .ref 128), (2, .ref 185), (3, .ref 219), (4, .int (l4 + 6))]) ⟨rfl, rfl, rfl, rfl, rfl, trivial⟩ zh
      · replace zh := zh.2 zd_19
        refine vr_iconst dL_law_283 (v := (0 : Int32)) (by decide) ?_
        exact vr_zret dL_law_284 rfl (Or.inl rfl) zh
    replace zh := zh.2
    by_cases zd_4941 : ((ga_X γ l4.toNatClampNeg) &&& (63 : Int32)).toInt = 1
    · replace zh := zh.1 zd_4941
      refine vr_tswIn dL_law_40 (tgt := 285) zd_494a zd_494b (by rw [zd_4941]; rfl) rfl ?_
      refine vr_aload_n dL_law_285 rfl rfl ?_
      refine vr_aload_n dL_law_286 rfl rfl ?_
      refine vr_iload dL_law_287 rfl ?_
      refine vr_iconst dL_law_289 (v := (1 : Int32)) (by decide) ?_
      refine vr_iadd dL_law_290 ?_
      obtain ⟨zi_20, zh⟩ := zh
      refine vr_scrload dL_law_291 zi_20 ?_
      obtain ⟨v23, s21, zw1, zf_22, zh⟩ := zh
      refine vc_V (As := [.int (ga_X γ (l4 + (1 : Int32)).toNatClampNeg)]) (rest := []) dL_law_292 cV_LitmusTesterLaw_103 (wC_128 zw) rfl rfl (Nat.le_of_ble_eq_true rfl) (Nat.le_of_ble_eq_true rfl) (co_n zf_22 ?_)
      replace zw := zw1
      refine vr_aload_n dL_law_295 rfl rfl ?_
      refine vr_aload_n dL_law_296 rfl rfl ?_
      refine vr_iload dL_law_297 rfl ?_
      refine vr_iconst dL_law_299 (v := (1 : Int32)) (by decide) ?_
      refine vr_iadd dL_law_300 ?_
      obtain ⟨zi_24, zh⟩ := zh
      refine vr_scrload dL_law_301 zi_24 ?_
      obtain ⟨v27, s25, zw1, zf_26, zh⟩ := zh
      refine vc_V (As := [.int (ga_X γ (l4 + (1 : Int32)).toNatClampNeg)]) (rest := [.int v23]) dL_law_302 cV_LitmusTesterLaw_107 (wC_185 zw) rfl rfl (Nat.le_of_ble_eq_true rfl) (Nat.le_of_ble_eq_true rfl) (co_n zf_26 ?_)
      replace zw := zw1
      refine vr_ic_eq dL_law_305 (tgt := 2034) rfl (fun zd_28 => ?_) (fun zd_28 => ?_)
      · replace zh := zh.1 zd_28
        refine vr_iinc dL_law_2034 (x := l4) (v := (l4 + 6)) rfl (ii_ (by decide)) (Nat.le_of_ble_eq_true rfl) (vv_eq (ls' := [(0, .ref 22), (1, .ref 128), (2, .ref 185), (3, .ref 219), (4, .int (l4 + 6))]) rfl ?_)
        refine vr_goto dL_law_2037 (tgt := 23) rfl ?_
        exact vv_sub (ls' := [(0, .ref 22), (1, .ref 128), (2, .ref 185), (3, .ref 219), (4, .int (l4 + 6))]) ⟨rfl, rfl, rfl, rfl, rfl, trivial⟩ zh
      · replace zh := zh.2 zd_28
        refine vr_iconst dL_law_308 (v := (0 : Int32)) (by decide) ?_
        exact vr_zret dL_law_309 rfl (Or.inl rfl) zh
    replace zh := zh.2
    by_cases zd_4942 : ((ga_X γ l4.toNatClampNeg) &&& (63 : Int32)).toInt = 2
    · replace zh := zh.1 zd_4942
      refine vr_tswIn dL_law_40 (tgt := 310) zd_494a zd_494b (by rw [zd_4942]; rfl) rfl ?_
      refine vr_aload_n dL_law_310 rfl rfl ?_
      obtain ⟨v31, s29, zw1, zf_30, zh⟩ := zh
      refine vc_V (As := []) (rest := []) dL_law_311 cV_LitmusTesterLaw_108 (wC_128 zw) rfl rfl (Nat.le_of_ble_eq_true rfl) (Nat.le_of_ble_eq_true rfl) (co_n zf_30 ?_)
      replace zw := zw1
      refine vr_aload_n dL_law_314 rfl rfl ?_
      obtain ⟨v34, s32, zw1, zf_33, zh⟩ := zh
      refine vc_V (As := []) (rest := [.int v31]) dL_law_315 cV_LitmusTesterLaw_112 (wC_185 zw) rfl rfl (Nat.le_of_ble_eq_true rfl) (Nat.le_of_ble_eq_true rfl) (co_n zf_33 ?_)
      replace zw := zw1
      refine vr_ic_eq dL_law_318 (tgt := 2034) rfl (fun zd_35 => ?_) (fun zd_35 => ?_)
      · replace zh := zh.1 zd_35
        refine vr_iinc dL_law_2034 (x := l4) (v := (l4 + 6)) rfl (ii_ (by decide)) (Nat.le_of_ble_eq_true rfl) (vv_eq (ls' := [(0, .ref 22), (1, .ref 128), (2, .ref 185), (3, .ref 219), (4, .int (l4 + 6))]) rfl ?_)
        refine vr_goto dL_law_2037 (tgt := 23) rfl ?_
        exact vv_sub (ls' := [(0, .ref 22), (1, .ref 128), (2, .ref 185), (3, .ref 219), (4, .int (l4 + 6))]) ⟨rfl, rfl, rfl, rfl, rfl, trivial⟩ zh
      · replace zh := zh.2 zd_35
        refine vr_iconst dL_law_321 (v := (0 : Int32)) (by decide) ?_
        exact vr_zret dL_law_322 rfl (Or.inl rfl) zh
    replace zh := zh.2
    by_cases zd_4943 : ((ga_X γ l4.toNatClampNeg) &&& (63 : Int32)).toInt = 3
    · replace zh := zh.1 zd_4943
      refine vr_tswIn dL_law_40 (tgt := 323) zd_494a zd_494b (by rw [zd_4943]; rfl) rfl ?_
      refine vr_aload_n dL_law_323 rfl rfl ?_
      obtain ⟨v38, s36, zw1, zf_37, zh⟩ := zh
      refine vc_V (As := []) (rest := []) dL_law_324 cV_LitmusTesterLaw_113 (wC_128 zw) rfl rfl (Nat.le_of_ble_eq_true rfl) (Nat.le_of_ble_eq_true rfl) (co_n zf_37 ?_)
      replace zw := zw1
      refine vr_aload_n dL_law_327 rfl rfl ?_
      obtain ⟨v41, s39, zw1, zf_40, zh⟩ := zh
      refine vc_V (As := []) (rest := [.int v38]) dL_law_328 cV_LitmusTesterLaw_116 (wC_185 zw) rfl rfl (Nat.le_of_ble_eq_true rfl) (Nat.le_of_ble_eq_true rfl) (co_n zf_40 ?_)
      replace zw := zw1
      refine vr_ic_eq dL_law_331 (tgt := 2034) rfl (fun zd_42 => ?_) (fun zd_42 => ?_)
      · replace zh := zh.1 zd_42
        refine vr_iinc dL_law_2034 (x := l4) (v := (l4 + 6)) rfl (ii_ (by decide)) (Nat.le_of_ble_eq_true rfl) (vv_eq (ls' := [(0, .ref 22), (1, .ref 128), (2, .ref 185), (3, .ref 219), (4, .int (l4 + 6))]) rfl ?_)
        refine vr_goto dL_law_2037 (tgt := 23) rfl ?_
        exact vv_sub (ls' := [(0, .ref 22), (1, .ref 128), (2, .ref 185), (3, .ref 219), (4, .int (l4 + 6))]) ⟨rfl, rfl, rfl, rfl, rfl, trivial⟩ zh
      · replace zh := zh.2 zd_42
        refine vr_iconst dL_law_334 (v := (0 : Int32)) (by decide) ?_
        exact vr_zret dL_law_335 rfl (Or.inl rfl) zh
    replace zh := zh.2
    by_cases zd_4944 : ((ga_X γ l4.toNatClampNeg) &&& (63 : Int32)).toInt = 4
    · replace zh := zh.1 zd_4944
      refine vr_tswIn dL_law_40 (tgt := 336) zd_494a zd_494b (by rw [zd_4944]; rfl) rfl ?_
      refine vr_aload_n dL_law_336 rfl rfl ?_
      obtain ⟨v45, s43, zw1, zf_44, zh⟩ := zh
      refine vc_V (As := []) (rest := []) dL_law_337 cV_LitmusTesterLaw_117 (wC_128 zw) rfl rfl (Nat.le_of_ble_eq_true rfl) (Nat.le_of_ble_eq_true rfl) (co_n zf_44 ?_)
      replace zw := zw1
      refine vr_aload_n dL_law_340 rfl rfl ?_
      obtain ⟨v48, s46, zw1, zf_47, zh⟩ := zh
      refine vc_V (As := []) (rest := [.int v45]) dL_law_341 cV_LitmusTesterLaw_120 (wC_185 zw) rfl rfl (Nat.le_of_ble_eq_true rfl) (Nat.le_of_ble_eq_true rfl) (co_n zf_47 ?_)
      replace zw := zw1
      refine vr_ic_eq dL_law_344 (tgt := 2034) rfl (fun zd_49 => ?_) (fun zd_49 => ?_)
      · replace zh := zh.1 zd_49
        refine vr_iinc dL_law_2034 (x := l4) (v := (l4 + 6)) rfl (ii_ (by decide)) (Nat.le_of_ble_eq_true rfl) (vv_eq (ls' := [(0, .ref 22), (1, .ref 128), (2, .ref 185), (3, .ref 219), (4, .int (l4 + 6))]) rfl ?_)
        refine vr_goto dL_law_2037 (tgt := 23) rfl ?_
        exact vv_sub (ls' := [(0, .ref 22), (1, .ref 128), (2, .ref 185), (3, .ref 219), (4, .int (l4 + 6))]) ⟨rfl, rfl, rfl, rfl, rfl, trivial⟩ zh
      · replace zh := zh.2 zd_49
        refine vr_iconst dL_law_347 (v := (0 : Int32)) (by decide) ?_
        exact vr_zret dL_law_348 rfl (Or.inl rfl) zh
    replace zh := zh.2
    by_cases zd_4945 : ((ga_X γ l4.toNatClampNeg) &&& (63 : Int32)).toInt = 5
    · replace zh := zh.1 zd_4945
      refine vr_tswIn dL_law_40 (tgt := 349) zd_494a zd_494b (by rw [zd_4945]; rfl) rfl ?_
      refine vr_aload_n dL_law_349 rfl rfl ?_
      obtain ⟨v52, s50, zw1, zf_51, zh⟩ := zh
      refine vc_V (As := []) (rest := []) dL_law_350 cV_LitmusTesterLaw_121 (wC_128 zw) rfl rfl (Nat.le_of_ble_eq_true rfl) (Nat.le_of_ble_eq_true rfl) (co_n zf_51 ?_)
      replace zw := zw1
      refine vr_aload_n dL_law_353 rfl rfl ?_
      obtain ⟨v55, s53, zw1, zf_54, zh⟩ := zh
      refine vc_V (As := []) (rest := [.int v52]) dL_law_354 cV_LitmusTesterLaw_124 (wC_185 zw) rfl rfl (Nat.le_of_ble_eq_true rfl) (Nat.le_of_ble_eq_true rfl) (co_n zf_54 ?_)
      replace zw := zw1
      refine vr_ic_eq dL_law_357 (tgt := 2034) rfl (fun zd_56 => ?_) (fun zd_56 => ?_)
      · replace zh := zh.1 zd_56
        refine vr_iinc dL_law_2034 (x := l4) (v := (l4 + 6)) rfl (ii_ (by decide)) (Nat.le_of_ble_eq_true rfl) (vv_eq (ls' := [(0, .ref 22), (1, .ref 128), (2, .ref 185), (3, .ref 219), (4, .int (l4 + 6))]) rfl ?_)
        refine vr_goto dL_law_2037 (tgt := 23) rfl ?_
        exact vv_sub (ls' := [(0, .ref 22), (1, .ref 128), (2, .ref 185), (3, .ref 219), (4, .int (l4 + 6))]) ⟨rfl, rfl, rfl, rfl, rfl, trivial⟩ zh
      · replace zh := zh.2 zd_56
        refine vr_iconst dL_law_360 (v := (0 : Int32)) (by decide) ?_
        exact vr_zret dL_law_361 rfl (Or.inl rfl) zh
    replace zh := zh.2
    by_cases zd_4946 : ((ga_X γ l4.toNatClampNeg) &&& (63 : Int32)).toInt = 6
    · replace zh := zh.1 zd_4946
      refine vr_tswIn dL_law_40 (tgt := 362) zd_494a zd_494b (by rw [zd_4946]; rfl) rfl ?_
      refine vr_aload_n dL_law_362 rfl rfl ?_
      obtain ⟨v59, s57, zw1, zf_58, zh⟩ := zh
      refine vc_V (As := []) (rest := []) dL_law_363 cV_LitmusTesterLaw_125 (wC_128 zw) rfl rfl (Nat.le_of_ble_eq_true rfl) (Nat.le_of_ble_eq_true rfl) (co_n zf_58 ?_)
      replace zw := zw1
      refine vr_aload_n dL_law_366 rfl rfl ?_
      obtain ⟨v62, s60, zw1, zf_61, zh⟩ := zh
      refine vc_V (As := []) (rest := [.int v59]) dL_law_367 cV_LitmusTesterLaw_128 (wC_185 zw) rfl rfl (Nat.le_of_ble_eq_true rfl) (Nat.le_of_ble_eq_true rfl) (co_n zf_61 ?_)
      replace zw := zw1
      refine vr_ic_eq dL_law_370 (tgt := 2034) rfl (fun zd_63 => ?_) (fun zd_63 => ?_)
      · replace zh := zh.1 zd_63
        refine vr_iinc dL_law_2034 (x := l4) (v := (l4 + 6)) rfl (ii_ (by decide)) (Nat.le_of_ble_eq_true rfl) (vv_eq (ls' := [(0, .ref 22), (1, .ref 128), (2, .ref 185), (3, .ref 219), (4, .int (l4 + 6))]) rfl ?_)
        refine vr_goto dL_law_2037 (tgt := 23) rfl ?_
        exact vv_sub (ls' := [(0, .ref 22), (1, .ref 128), (2, .ref 185), (3, .ref 219), (4, .int (l4 + 6))]) ⟨rfl, rfl, rfl, rfl, rfl, trivial⟩ zh
      · replace zh := zh.2 zd_63
        refine vr_iconst dL_law_373 (v := (0 : Int32)) (by decide) ?_
        exact vr_zret dL_law_374 rfl (Or.inl rfl) zh
    replace zh := zh.2
    by_cases zd_4947 : ((ga_X γ l4.toNatClampNeg) &&& (63 : Int32)).toInt = 7
    · replace zh := zh.1 zd_4947
      refine vr_tswIn dL_law_40 (tgt := 375) zd_494a zd_494b (by rw [zd_4947]; rfl) rfl ?_
      refine vr_aload_n dL_law_375 rfl rfl ?_
      refine vr_aload_n dL_law_376 rfl rfl ?_
      refine vr_iload dL_law_377 rfl ?_
      refine vr_iconst dL_law_379 (v := (1 : Int32)) (by decide) ?_
      refine vr_iadd dL_law_380 ?_
      obtain ⟨zi_64, zh⟩ := zh
      refine vr_scrload dL_law_381 zi_64 ?_
      refine vr_aload_n dL_law_382 rfl rfl ?_
      refine vr_iload dL_law_383 rfl ?_
      refine vr_iconst dL_law_385 (v := (2 : Int32)) (by decide) ?_
      refine vr_iadd dL_law_386 ?_
      obtain ⟨zi_65, zh⟩ := zh
      refine vr_scrload dL_law_387 zi_65 ?_
      refine vr_aload_n dL_law_388 rfl rfl ?_
      obtain ⟨v68, s66, zw1, zf_67, zh⟩ := zh
      refine vc_H (As := [.ref 128, .int (ga_X γ (l4 + (1 : Int32)).toNatClampNeg), .int (ga_X γ (l4 + (2 : Int32)).toNatClampNeg), .ref 219]) (rest := []) dL_law_389 cH_LitmusTesterLaw_129 rfl rfl (Nat.le_of_ble_eq_true rfl) (Nat.le_of_ble_eq_true rfl) (co_n zf_67 ?_)
      replace zw := zw1
      refine vr_istore dL_law_392 (Nat.le_of_ble_eq_true rfl) (vv_eq (ls' := [(0, .ref 22), (1, .ref 128), (2, .ref 185), (3, .ref 219), (4, .int l4), (5, .int v68)]) rfl ?_)
      refine vr_aload_n dL_law_394 rfl rfl ?_
      refine vr_aload_n dL_law_395 rfl rfl ?_
      refine vr_iload dL_law_396 rfl ?_
      refine vr_iconst dL_law_398 (v := (1 : Int32)) (by decide) ?_
      refine vr_iadd dL_law_399 ?_
      obtain ⟨zi_69, zh⟩ := zh
      refine vr_scrload dL_law_400 zi_69 ?_
      refine vr_aload_n dL_law_401 rfl rfl ?_
      refine vr_iload dL_law_402 rfl ?_
      refine vr_iconst dL_law_404 (v := (2 : Int32)) (by decide) ?_
      refine vr_iadd dL_law_405 ?_
      obtain ⟨zi_70, zh⟩ := zh
      refine vr_scrload dL_law_406 zi_70 ?_
      obtain ⟨v73, s71, zw1, zf_72, zh⟩ := zh
      refine vc_V (As := [.int (ga_X γ (l4 + (1 : Int32)).toNatClampNeg), .int (ga_X γ (l4 + (2 : Int32)).toNatClampNeg)]) (rest := []) dL_law_407 cV_LitmusTesterLaw_134 (wC_185 zw) rfl rfl (Nat.le_of_ble_eq_true rfl) (Nat.le_of_ble_eq_true rfl) (co_n zf_72 ?_)
      replace zw := zw1
      refine vr_istore dL_law_410 (Nat.le_of_ble_eq_true rfl) (vv_eq (ls' := [(0, .ref 22), (1, .ref 128), (2, .ref 185), (3, .ref 219), (4, .int l4), (5, .int v68), (6, .int v73)]) rfl ?_)
      refine vr_aload_n dL_law_412 rfl rfl ?_
      obtain ⟨v76, s74, zw1, zf_75, zh⟩ := zh
      refine vc_V (As := []) (rest := []) dL_law_413 cV_LitmusTesterLaw_135 (wC_185 zw) rfl rfl (Nat.le_of_ble_eq_true rfl) (Nat.le_of_ble_eq_true rfl) (co_n zf_75 ?_)
      replace zw := zw1
      refine vr_iload dL_law_416 rfl ?_
      refine vr_ic_eq dL_law_418 (tgt := 423) rfl (fun zd_77 => ?_) (fun zd_77 => ?_)
      · replace zh := zh.1 zd_77
        refine vr_iload dL_law_423 rfl ?_
        refine vr_if_ne dL_law_425 (tgt := 440) rfl (fun zd_78 => ?_) (fun zd_78 => ?_)
        · replace zh := zh.2 zd_78
          refine vr_goto dL_law_440 (tgt := 2034) rfl ?_
          refine vr_iinc dL_law_2034 (x := l4) (v := (l4 + 6)) rfl (ii_ (by decide)) (Nat.le_of_ble_eq_true rfl) (vv_eq (ls' := [(0, .ref 22), (1, .ref 128), (2, .ref 185), (3, .ref 219), (4, .int (l4 + 6)), (5, .int v68), (6, .int v73)]) rfl ?_)
          refine vr_goto dL_law_2037 (tgt := 23) rfl ?_
          exact vv_sub (ls' := [(0, .ref 22), (1, .ref 128), (2, .ref 185), (3, .ref 219), (4, .int (l4 + 6))]) ⟨rfl, rfl, rfl, rfl, rfl, trivial⟩ zh
        · replace zh := zh.1 zd_78
          refine vr_aload_n dL_law_428 rfl rfl ?_
          refine vr_iconst dL_law_429 (v := (0 : Int32)) (by decide) ?_
          refine vr_laload dL_law_430 (wS_219 zw) (vp_lit rfl) ?_
          refine vv_top (w := .long (st_L s74 219 0)) rfl ?_
          refine vr_iload dL_law_431 rfl ?_
          refine vr_i2l dL_law_433 ?_
          refine vr_lcmp dL_law_434 ?_
          refine vr_if_eq dL_law_435 (tgt := 440) rfl (fun zd_79 => ?_) (fun zd_79 => ?_)
          · replace zh := zh.1 ((lg_cmp_eq _ _).mp zd_79)
            refine vr_goto dL_law_440 (tgt := 2034) rfl ?_
            refine vr_iinc dL_law_2034 (x := l4) (v := (l4 + 6)) rfl (ii_ (by decide)) (Nat.le_of_ble_eq_true rfl) (vv_eq (ls' := [(0, .ref 22), (1, .ref 128), (2, .ref 185), (3, .ref 219), (4, .int (l4 + 6)), (5, .int v68), (6, .int v73)]) rfl ?_)
            refine vr_goto dL_law_2037 (tgt := 23) rfl ?_
            exact vv_sub (ls' := [(0, .ref 22), (1, .ref 128), (2, .ref 185), (3, .ref 219), (4, .int (l4 + 6))]) ⟨rfl, rfl, rfl, rfl, rfl, trivial⟩ zh
          · replace zh := zh.2 (fun z => zd_79 ((lg_cmp_eq _ _).mpr z))
            refine vr_iconst dL_law_438 (v := (0 : Int32)) (by decide) ?_
            exact vr_zret dL_law_439 rfl (Or.inl rfl) zh
      · replace zh := zh.2 zd_77
        refine vr_iconst dL_law_421 (v := (0 : Int32)) (by decide) ?_
        exact vr_zret dL_law_422 rfl (Or.inl rfl) zh
    replace zh := zh.2
    by_cases zd_4948 : ((ga_X γ l4.toNatClampNeg) &&& (63 : Int32)).toInt = 8
    · replace zh := zh.1 zd_4948
      refine vr_tswIn dL_law_40 (tgt := 443) zd_494a zd_494b (by rw [zd_4948]; rfl) rfl ?_
      refine vr_aload_n dL_law_443 rfl rfl ?_
      obtain ⟨v82, s80, zw1, zf_81, zh⟩ := zh
      refine vc_V (As := []) (rest := []) dL_law_444 cV_LitmusTesterLaw_138 (wC_128 zw) rfl rfl (Nat.le_of_ble_eq_true rfl) (Nat.le_of_ble_eq_true rfl) (co_n zf_81 ?_)
      replace zw := zw1
      refine vr_aload_n dL_law_447 rfl rfl ?_
      obtain ⟨v85, s83, zw1, zf_84, zh⟩ := zh
      refine vc_V (As := []) (rest := [.int v82]) dL_law_448 cV_LitmusTesterLaw_141 (wC_185 zw) rfl rfl (Nat.le_of_ble_eq_true rfl) (Nat.le_of_ble_eq_true rfl) (co_n zf_84 ?_)
      replace zw := zw1
      refine vr_ic_eq dL_law_451 (tgt := 2034) rfl (fun zd_86 => ?_) (fun zd_86 => ?_)
      · replace zh := zh.1 zd_86
        refine vr_iinc dL_law_2034 (x := l4) (v := (l4 + 6)) rfl (ii_ (by decide)) (Nat.le_of_ble_eq_true rfl) (vv_eq (ls' := [(0, .ref 22), (1, .ref 128), (2, .ref 185), (3, .ref 219), (4, .int (l4 + 6))]) rfl ?_)
        refine vr_goto dL_law_2037 (tgt := 23) rfl ?_
        exact vv_sub (ls' := [(0, .ref 22), (1, .ref 128), (2, .ref 185), (3, .ref 219), (4, .int (l4 + 6))]) ⟨rfl, rfl, rfl, rfl, rfl, trivial⟩ zh
      · replace zh := zh.2 zd_86
        refine vr_iconst dL_law_454 (v := (0 : Int32)) (by decide) ?_
        exact vr_zret dL_law_455 rfl (Or.inl rfl) zh
    replace zh := zh.2
    by_cases zd_4949 : ((ga_X γ l4.toNatClampNeg) &&& (63 : Int32)).toInt = 9
    · replace zh := zh.1 zd_4949
      refine vr_tswIn dL_law_40 (tgt := 456) zd_494a zd_494b (by rw [zd_4949]; rfl) rfl ?_
      refine vr_aload_n dL_law_456 rfl rfl ?_
      obtain ⟨v89, s87, zw1, zf_88, zh⟩ := zh
      refine vc_V (As := []) (rest := []) dL_law_457 cV_LitmusTesterLaw_142 (wC_128 zw) rfl rfl (Nat.le_of_ble_eq_true rfl) (Nat.le_of_ble_eq_true rfl) (co_n zf_88 ?_)
      replace zw := zw1
      refine vr_aload_n dL_law_460 rfl rfl ?_
      obtain ⟨v92, s90, zw1, zf_91, zh⟩ := zh
      refine vc_V (As := []) (rest := [.int v89]) dL_law_461 cV_LitmusTesterLaw_145 (wC_185 zw) rfl rfl (Nat.le_of_ble_eq_true rfl) (Nat.le_of_ble_eq_true rfl) (co_n zf_91 ?_)
      replace zw := zw1
      refine vr_ic_eq dL_law_464 (tgt := 2034) rfl (fun zd_93 => ?_) (fun zd_93 => ?_)
      · replace zh := zh.1 zd_93
        refine vr_iinc dL_law_2034 (x := l4) (v := (l4 + 6)) rfl (ii_ (by decide)) (Nat.le_of_ble_eq_true rfl) (vv_eq (ls' := [(0, .ref 22), (1, .ref 128), (2, .ref 185), (3, .ref 219), (4, .int (l4 + 6))]) rfl ?_)
        refine vr_goto dL_law_2037 (tgt := 23) rfl ?_
        exact vv_sub (ls' := [(0, .ref 22), (1, .ref 128), (2, .ref 185), (3, .ref 219), (4, .int (l4 + 6))]) ⟨rfl, rfl, rfl, rfl, rfl, trivial⟩ zh
      · replace zh := zh.2 zd_93
        refine vr_iconst dL_law_467 (v := (0 : Int32)) (by decide) ?_
        exact vr_zret dL_law_468 rfl (Or.inl rfl) zh
    replace zh := zh.2
    by_cases zd_49410 : ((ga_X γ l4.toNatClampNeg) &&& (63 : Int32)).toInt = 10
    · replace zh := zh.1 zd_49410
      refine vr_tswIn dL_law_40 (tgt := 469) zd_494a zd_494b (by rw [zd_49410]; rfl) rfl ?_
      refine vr_aload_n dL_law_469 rfl rfl ?_
      refine vr_aload_n dL_law_470 rfl rfl ?_
      refine vr_iload dL_law_471 rfl ?_
      refine vr_iconst dL_law_473 (v := (1 : Int32)) (by decide) ?_
      refine vr_iadd dL_law_474 ?_
      obtain ⟨zi_94, zh⟩ := zh
      refine vr_scrload dL_law_475 zi_94 ?_
      refine vr_aload_n dL_law_476 rfl rfl ?_
      obtain ⟨v97, s95, zw1, zf_96, zh⟩ := zh
      refine vc_H (As := [.ref 128, .int (ga_X γ (l4 + (1 : Int32)).toNatClampNeg), .ref 219]) (rest := []) dL_law_477 cH_LitmusTesterLaw_146 rfl rfl (Nat.le_of_ble_eq_true rfl) (Nat.le_of_ble_eq_true rfl) (co_n zf_96 ?_)
      replace zw := zw1
      refine vr_istore dL_law_480 (Nat.le_of_ble_eq_true rfl) (vv_eq (ls' := [(0, .ref 22), (1, .ref 128), (2, .ref 185), (3, .ref 219), (4, .int l4), (5, .int v97)]) rfl ?_)
      refine vr_aload_n dL_law_482 rfl rfl ?_
      refine vr_aload_n dL_law_483 rfl rfl ?_
      refine vr_iload dL_law_484 rfl ?_
      refine vr_iconst dL_law_486 (v := (1 : Int32)) (by decide) ?_
      refine vr_iadd dL_law_487 ?_
      obtain ⟨zi_98, zh⟩ := zh
      refine vr_scrload dL_law_488 zi_98 ?_
      obtain ⟨v101, s99, zw1, zf_100, zh⟩ := zh
      refine vc_V (As := [.int (ga_X γ (l4 + (1 : Int32)).toNatClampNeg)]) (rest := []) dL_law_489 cV_LitmusTesterLaw_149 (wC_185 zw) rfl rfl (Nat.le_of_ble_eq_true rfl) (Nat.le_of_ble_eq_true rfl) (co_n zf_100 ?_)
      replace zw := zw1
      refine vr_istore dL_law_492 (Nat.le_of_ble_eq_true rfl) (vv_eq (ls' := [(0, .ref 22), (1, .ref 128), (2, .ref 185), (3, .ref 219), (4, .int l4), (5, .int v97), (6, .int v101)]) rfl ?_)
      refine vr_aload_n dL_law_494 rfl rfl ?_
      obtain ⟨v104, s102, zw1, zf_103, zh⟩ := zh
      refine vc_V (As := []) (rest := []) dL_law_495 cV_LitmusTesterLaw_135 (wC_185 zw) rfl rfl (Nat.le_of_ble_eq_true rfl) (Nat.le_of_ble_eq_true rfl) (co_n zf_103 ?_)
      replace zw := zw1
      refine vr_iload dL_law_498 rfl ?_
      refine vr_ic_eq dL_law_500 (tgt := 505) rfl (fun zd_105 => ?_) (fun zd_105 => ?_)
      · replace zh := zh.1 zd_105
        refine vr_iload dL_law_505 rfl ?_
        refine vr_if_ne dL_law_507 (tgt := 522) rfl (fun zd_106 => ?_) (fun zd_106 => ?_)
        · replace zh := zh.2 zd_106
          refine vr_goto dL_law_522 (tgt := 2034) rfl ?_
          refine vr_iinc dL_law_2034 (x := l4) (v := (l4 + 6)) rfl (ii_ (by decide)) (Nat.le_of_ble_eq_true rfl) (vv_eq (ls' := [(0, .ref 22), (1, .ref 128), (2, .ref 185), (3, .ref 219), (4, .int (l4 + 6)), (5, .int v97), (6, .int v101)]) rfl ?_)
          refine vr_goto dL_law_2037 (tgt := 23) rfl ?_
          exact vv_sub (ls' := [(0, .ref 22), (1, .ref 128), (2, .ref 185), (3, .ref 219), (4, .int (l4 + 6))]) ⟨rfl, rfl, rfl, rfl, rfl, trivial⟩ zh
        · replace zh := zh.1 zd_106
          refine vr_aload_n dL_law_510 rfl rfl ?_
          refine vr_iconst dL_law_511 (v := (0 : Int32)) (by decide) ?_
          refine vr_laload dL_law_512 (wS_219 zw) (vp_lit rfl) ?_
          refine vv_top (w := .long (st_L s102 219 0)) rfl ?_
          refine vr_iload dL_law_513 rfl ?_
          refine vr_i2l dL_law_515 ?_
          refine vr_lcmp dL_law_516 ?_
          refine vr_if_eq dL_law_517 (tgt := 522) rfl (fun zd_107 => ?_) (fun zd_107 => ?_)
          · replace zh := zh.1 ((lg_cmp_eq _ _).mp zd_107)
            refine vr_goto dL_law_522 (tgt := 2034) rfl ?_
            refine vr_iinc dL_law_2034 (x := l4) (v := (l4 + 6)) rfl (ii_ (by decide)) (Nat.le_of_ble_eq_true rfl) (vv_eq (ls' := [(0, .ref 22), (1, .ref 128), (2, .ref 185), (3, .ref 219), (4, .int (l4 + 6)), (5, .int v97), (6, .int v101)]) rfl ?_)
            refine vr_goto dL_law_2037 (tgt := 23) rfl ?_
            exact vv_sub (ls' := [(0, .ref 22), (1, .ref 128), (2, .ref 185), (3, .ref 219), (4, .int (l4 + 6))]) ⟨rfl, rfl, rfl, rfl, rfl, trivial⟩ zh
          · replace zh := zh.2 (fun z => zd_107 ((lg_cmp_eq _ _).mpr z))
            refine vr_iconst dL_law_520 (v := (0 : Int32)) (by decide) ?_
            exact vr_zret dL_law_521 rfl (Or.inl rfl) zh
      · replace zh := zh.2 zd_105
        refine vr_iconst dL_law_503 (v := (0 : Int32)) (by decide) ?_
        exact vr_zret dL_law_504 rfl (Or.inl rfl) zh
    replace zh := zh.2
    by_cases zd_49411 : ((ga_X γ l4.toNatClampNeg) &&& (63 : Int32)).toInt = 11
    · replace zh := zh.1 zd_49411
      refine vr_tswIn dL_law_40 (tgt := 525) zd_494a zd_494b (by rw [zd_49411]; rfl) rfl ?_
      refine vr_aload_n dL_law_525 rfl rfl ?_
      refine vr_aload_n dL_law_526 rfl rfl ?_
      refine vr_iload dL_law_527 rfl ?_
      refine vr_iconst dL_law_529 (v := (1 : Int32)) (by decide) ?_
      refine vr_iadd dL_law_530 ?_
      obtain ⟨zi_108, zh⟩ := zh
      refine vr_scrload dL_law_531 zi_108 ?_
      refine vr_aload_n dL_law_532 rfl rfl ?_
      obtain ⟨v111, s109, zw1, zf_110, zh⟩ := zh
      refine vc_H (As := [.ref 128, .int (ga_X γ (l4 + (1 : Int32)).toNatClampNeg), .ref 219]) (rest := []) dL_law_533 cH_LitmusTesterLaw_150 rfl rfl (Nat.le_of_ble_eq_true rfl) (Nat.le_of_ble_eq_true rfl) (co_n zf_110 ?_)
      replace zw := zw1
      refine vr_istore dL_law_536 (Nat.le_of_ble_eq_true rfl) (vv_eq (ls' := [(0, .ref 22), (1, .ref 128), (2, .ref 185), (3, .ref 219), (4, .int l4), (5, .int v111)]) rfl ?_)
      refine vr_aload_n dL_law_538 rfl rfl ?_
      refine vr_aload_n dL_law_539 rfl rfl ?_
      refine vr_iload dL_law_540 rfl ?_
      refine vr_iconst dL_law_542 (v := (1 : Int32)) (by decide) ?_
      refine vr_iadd dL_law_543 ?_
      obtain ⟨zi_112, zh⟩ := zh
      refine vr_scrload dL_law_544 zi_112 ?_
      obtain ⟨v115, s113, zw1, zf_114, zh⟩ := zh
      refine vc_V (As := [.int (ga_X γ (l4 + (1 : Int32)).toNatClampNeg)]) (rest := []) dL_law_545 cV_LitmusTesterLaw_152 (wC_185 zw) rfl rfl (Nat.le_of_ble_eq_true rfl) (Nat.le_of_ble_eq_true rfl) (co_n zf_114 ?_)
      replace zw := zw1
      refine vr_istore dL_law_548 (Nat.le_of_ble_eq_true rfl) (vv_eq (ls' := [(0, .ref 22), (1, .ref 128), (2, .ref 185), (3, .ref 219), (4, .int l4), (5, .int v111), (6, .int v115)]) rfl ?_)
      refine vr_aload_n dL_law_550 rfl rfl ?_
      obtain ⟨v118, s116, zw1, zf_117, zh⟩ := zh
      refine vc_V (As := []) (rest := []) dL_law_551 cV_LitmusTesterLaw_135 (wC_185 zw) rfl rfl (Nat.le_of_ble_eq_true rfl) (Nat.le_of_ble_eq_true rfl) (co_n zf_117 ?_)
      replace zw := zw1
      refine vr_iload dL_law_554 rfl ?_
      refine vr_ic_eq dL_law_556 (tgt := 561) rfl (fun zd_119 => ?_) (fun zd_119 => ?_)
      · replace zh := zh.1 zd_119
        refine vr_iload dL_law_561 rfl ?_
        refine vr_if_ne dL_law_563 (tgt := 578) rfl (fun zd_120 => ?_) (fun zd_120 => ?_)
        · replace zh := zh.2 zd_120
          refine vr_goto dL_law_578 (tgt := 2034) rfl ?_
          refine vr_iinc dL_law_2034 (x := l4) (v := (l4 + 6)) rfl (ii_ (by decide)) (Nat.le_of_ble_eq_true rfl) (vv_eq (ls' := [(0, .ref 22), (1, .ref 128), (2, .ref 185), (3, .ref 219), (4, .int (l4 + 6)), (5, .int v111), (6, .int v115)]) rfl ?_)
          refine vr_goto dL_law_2037 (tgt := 23) rfl ?_
          exact vv_sub (ls' := [(0, .ref 22), (1, .ref 128), (2, .ref 185), (3, .ref 219), (4, .int (l4 + 6))]) ⟨rfl, rfl, rfl, rfl, rfl, trivial⟩ zh
        · replace zh := zh.1 zd_120
          refine vr_aload_n dL_law_566 rfl rfl ?_
          refine vr_iconst dL_law_567 (v := (0 : Int32)) (by decide) ?_
          refine vr_laload dL_law_568 (wS_219 zw) (vp_lit rfl) ?_
          refine vv_top (w := .long (st_L s116 219 0)) rfl ?_
          refine vr_iload dL_law_569 rfl ?_
          refine vr_i2l dL_law_571 ?_
          refine vr_lcmp dL_law_572 ?_
          refine vr_if_eq dL_law_573 (tgt := 578) rfl (fun zd_121 => ?_) (fun zd_121 => ?_)
          · replace zh := zh.1 ((lg_cmp_eq _ _).mp zd_121)
            refine vr_goto dL_law_578 (tgt := 2034) rfl ?_
            refine vr_iinc dL_law_2034 (x := l4) (v := (l4 + 6)) rfl (ii_ (by decide)) (Nat.le_of_ble_eq_true rfl) (vv_eq (ls' := [(0, .ref 22), (1, .ref 128), (2, .ref 185), (3, .ref 219), (4, .int (l4 + 6)), (5, .int v111), (6, .int v115)]) rfl ?_)
            refine vr_goto dL_law_2037 (tgt := 23) rfl ?_
            exact vv_sub (ls' := [(0, .ref 22), (1, .ref 128), (2, .ref 185), (3, .ref 219), (4, .int (l4 + 6))]) ⟨rfl, rfl, rfl, rfl, rfl, trivial⟩ zh
          · replace zh := zh.2 (fun z => zd_121 ((lg_cmp_eq _ _).mpr z))
            refine vr_iconst dL_law_576 (v := (0 : Int32)) (by decide) ?_
            exact vr_zret dL_law_577 rfl (Or.inl rfl) zh
      · replace zh := zh.2 zd_119
        refine vr_iconst dL_law_559 (v := (0 : Int32)) (by decide) ?_
        exact vr_zret dL_law_560 rfl (Or.inl rfl) zh
    replace zh := zh.2
    by_cases zd_49412 : ((ga_X γ l4.toNatClampNeg) &&& (63 : Int32)).toInt = 12
    · replace zh := zh.1 zd_49412
      refine vr_tswIn dL_law_40 (tgt := 581) zd_494a zd_494b (by rw [zd_49412]; rfl) rfl ?_
      refine vr_aload_n dL_law_581 rfl rfl ?_
      refine vr_aload_n dL_law_582 rfl rfl ?_
      refine vr_iload dL_law_583 rfl ?_
      refine vr_iconst dL_law_585 (v := (1 : Int32)) (by decide) ?_
      refine vr_iadd dL_law_586 ?_
      obtain ⟨zi_122, zh⟩ := zh
      refine vr_scrload dL_law_587 zi_122 ?_
      refine vr_aload_n dL_law_588 rfl rfl ?_
      refine vr_iload dL_law_589 rfl ?_
      refine vr_iconst dL_law_591 (v := (2 : Int32)) (by decide) ?_
      refine vr_iadd dL_law_592 ?_
      obtain ⟨zi_123, zh⟩ := zh
      refine vr_scrload dL_law_593 zi_123 ?_
      refine vr_aload_n dL_law_594 rfl rfl ?_
      obtain ⟨v126, s124, zw1, zf_125, zh⟩ := zh
      refine vc_H (As := [.ref 128, .int (ga_X γ (l4 + (1 : Int32)).toNatClampNeg), .int (ga_X γ (l4 + (2 : Int32)).toNatClampNeg), .ref 219]) (rest := []) dL_law_595 cH_LitmusTesterLaw_153 rfl rfl (Nat.le_of_ble_eq_true rfl) (Nat.le_of_ble_eq_true rfl) (co_n zf_125 ?_)
      replace zw := zw1
      refine vr_istore dL_law_598 (Nat.le_of_ble_eq_true rfl) (vv_eq (ls' := [(0, .ref 22), (1, .ref 128), (2, .ref 185), (3, .ref 219), (4, .int l4), (5, .int v126)]) rfl ?_)
      refine vr_aload_n dL_law_600 rfl rfl ?_
      refine vr_aload_n dL_law_601 rfl rfl ?_
      refine vr_iload dL_law_602 rfl ?_
      refine vr_iconst dL_law_604 (v := (1 : Int32)) (by decide) ?_
      refine vr_iadd dL_law_605 ?_
      obtain ⟨zi_127, zh⟩ := zh
      refine vr_scrload dL_law_606 zi_127 ?_
      refine vr_aload_n dL_law_607 rfl rfl ?_
      refine vr_iload dL_law_608 rfl ?_
      refine vr_iconst dL_law_610 (v := (2 : Int32)) (by decide) ?_
      refine vr_iadd dL_law_611 ?_
      obtain ⟨zi_128, zh⟩ := zh
      refine vr_scrload dL_law_612 zi_128 ?_
      obtain ⟨v131, s129, zw1, zf_130, zh⟩ := zh
      refine vc_V (As := [.int (ga_X γ (l4 + (1 : Int32)).toNatClampNeg), .int (ga_X γ (l4 + (2 : Int32)).toNatClampNeg)]) (rest := []) dL_law_613 cV_LitmusTesterLaw_155 (wC_185 zw) rfl rfl (Nat.le_of_ble_eq_true rfl) (Nat.le_of_ble_eq_true rfl) (co_n zf_130 ?_)
      replace zw := zw1
      refine vr_istore dL_law_616 (Nat.le_of_ble_eq_true rfl) (vv_eq (ls' := [(0, .ref 22), (1, .ref 128), (2, .ref 185), (3, .ref 219), (4, .int l4), (5, .int v126), (6, .int v131)]) rfl ?_)
      refine vr_aload_n dL_law_618 rfl rfl ?_
      obtain ⟨v134, s132, zw1, zf_133, zh⟩ := zh
      refine vc_V (As := []) (rest := []) dL_law_619 cV_LitmusTesterLaw_135 (wC_185 zw) rfl rfl (Nat.le_of_ble_eq_true rfl) (Nat.le_of_ble_eq_true rfl) (co_n zf_133 ?_)
      replace zw := zw1
      refine vr_iload dL_law_622 rfl ?_
      refine vr_ic_eq dL_law_624 (tgt := 629) rfl (fun zd_135 => ?_) (fun zd_135 => ?_)
      · replace zh := zh.1 zd_135
        refine vr_iload dL_law_629 rfl ?_
        refine vr_if_ne dL_law_631 (tgt := 646) rfl (fun zd_136 => ?_) (fun zd_136 => ?_)
        · replace zh := zh.2 zd_136
          refine vr_goto dL_law_646 (tgt := 2034) rfl ?_
          refine vr_iinc dL_law_2034 (x := l4) (v := (l4 + 6)) rfl (ii_ (by decide)) (Nat.le_of_ble_eq_true rfl) (vv_eq (ls' := [(0, .ref 22), (1, .ref 128), (2, .ref 185), (3, .ref 219), (4, .int (l4 + 6)), (5, .int v126), (6, .int v131)]) rfl ?_)
          refine vr_goto dL_law_2037 (tgt := 23) rfl ?_
          exact vv_sub (ls' := [(0, .ref 22), (1, .ref 128), (2, .ref 185), (3, .ref 219), (4, .int (l4 + 6))]) ⟨rfl, rfl, rfl, rfl, rfl, trivial⟩ zh
        · replace zh := zh.1 zd_136
          refine vr_aload_n dL_law_634 rfl rfl ?_
          refine vr_iconst dL_law_635 (v := (0 : Int32)) (by decide) ?_
          refine vr_laload dL_law_636 (wS_219 zw) (vp_lit rfl) ?_
          refine vv_top (w := .long (st_L s132 219 0)) rfl ?_
          refine vr_iload dL_law_637 rfl ?_
          refine vr_i2l dL_law_639 ?_
          refine vr_lcmp dL_law_640 ?_
          refine vr_if_eq dL_law_641 (tgt := 646) rfl (fun zd_137 => ?_) (fun zd_137 => ?_)
          · replace zh := zh.1 ((lg_cmp_eq _ _).mp zd_137)
            refine vr_goto dL_law_646 (tgt := 2034) rfl ?_
            refine vr_iinc dL_law_2034 (x := l4) (v := (l4 + 6)) rfl (ii_ (by decide)) (Nat.le_of_ble_eq_true rfl) (vv_eq (ls' := [(0, .ref 22), (1, .ref 128), (2, .ref 185), (3, .ref 219), (4, .int (l4 + 6)), (5, .int v126), (6, .int v131)]) rfl ?_)
            refine vr_goto dL_law_2037 (tgt := 23) rfl ?_
            exact vv_sub (ls' := [(0, .ref 22), (1, .ref 128), (2, .ref 185), (3, .ref 219), (4, .int (l4 + 6))]) ⟨rfl, rfl, rfl, rfl, rfl, trivial⟩ zh
          · replace zh := zh.2 (fun z => zd_137 ((lg_cmp_eq _ _).mpr z))
            refine vr_iconst dL_law_644 (v := (0 : Int32)) (by decide) ?_
            exact vr_zret dL_law_645 rfl (Or.inl rfl) zh
      · replace zh := zh.2 zd_135
        refine vr_iconst dL_law_627 (v := (0 : Int32)) (by decide) ?_
        exact vr_zret dL_law_628 rfl (Or.inl rfl) zh
    replace zh := zh.2
    by_cases zd_49413 : ((ga_X γ l4.toNatClampNeg) &&& (63 : Int32)).toInt = 13
    · replace zh := zh.1 zd_49413
      refine vr_tswIn dL_law_40 (tgt := 649) zd_494a zd_494b (by rw [zd_49413]; rfl) rfl ?_
      refine vr_aload_n dL_law_649 rfl rfl ?_
      refine vr_aload_n dL_law_650 rfl rfl ?_
      refine vr_iload dL_law_651 rfl ?_
      refine vr_iconst dL_law_653 (v := (1 : Int32)) (by decide) ?_
      refine vr_iadd dL_law_654 ?_
      obtain ⟨zi_138, zh⟩ := zh
      refine vr_scrload dL_law_655 zi_138 ?_
      refine vr_aload_n dL_law_656 rfl rfl ?_
      refine vr_iload dL_law_657 rfl ?_
      refine vr_iconst dL_law_659 (v := (2 : Int32)) (by decide) ?_
      refine vr_iadd dL_law_660 ?_
      obtain ⟨zi_139, zh⟩ := zh
      refine vr_scrload dL_law_661 zi_139 ?_
      refine vr_aload_n dL_law_662 rfl rfl ?_
      obtain ⟨v142, s140, zw1, zf_141, zh⟩ := zh
      refine vc_H (As := [.ref 128, .int (ga_X γ (l4 + (1 : Int32)).toNatClampNeg), .int (ga_X γ (l4 + (2 : Int32)).toNatClampNeg), .ref 219]) (rest := []) dL_law_663 cH_LitmusTesterLaw_156 rfl rfl (Nat.le_of_ble_eq_true rfl) (Nat.le_of_ble_eq_true rfl) (co_n zf_141 ?_)
      replace zw := zw1
      refine vr_istore dL_law_666 (Nat.le_of_ble_eq_true rfl) (vv_eq (ls' := [(0, .ref 22), (1, .ref 128), (2, .ref 185), (3, .ref 219), (4, .int l4), (5, .int v142)]) rfl ?_)
      refine vr_aload_n dL_law_668 rfl rfl ?_
      refine vr_aload_n dL_law_669 rfl rfl ?_
      refine vr_iload dL_law_670 rfl ?_
      refine vr_iconst dL_law_672 (v := (1 : Int32)) (by decide) ?_
      refine vr_iadd dL_law_673 ?_
      obtain ⟨zi_143, zh⟩ := zh
      refine vr_scrload dL_law_674 zi_143 ?_
      refine vr_aload_n dL_law_675 rfl rfl ?_
      refine vr_iload dL_law_676 rfl ?_
      refine vr_iconst dL_law_678 (v := (2 : Int32)) (by decide) ?_
      refine vr_iadd dL_law_679 ?_
      obtain ⟨zi_144, zh⟩ := zh
      refine vr_scrload dL_law_680 zi_144 ?_
      obtain ⟨v147, s145, zw1, zf_146, zh⟩ := zh
      refine vc_V (As := [.int (ga_X γ (l4 + (1 : Int32)).toNatClampNeg), .int (ga_X γ (l4 + (2 : Int32)).toNatClampNeg)]) (rest := []) dL_law_681 cV_LitmusTesterLaw_158 (wC_185 zw) rfl rfl (Nat.le_of_ble_eq_true rfl) (Nat.le_of_ble_eq_true rfl) (co_n zf_146 ?_)
      replace zw := zw1
      refine vr_istore dL_law_684 (Nat.le_of_ble_eq_true rfl) (vv_eq (ls' := [(0, .ref 22), (1, .ref 128), (2, .ref 185), (3, .ref 219), (4, .int l4), (5, .int v142), (6, .int v147)]) rfl ?_)
      refine vr_aload_n dL_law_686 rfl rfl ?_
      obtain ⟨v150, s148, zw1, zf_149, zh⟩ := zh
      refine vc_V (As := []) (rest := []) dL_law_687 cV_LitmusTesterLaw_135 (wC_185 zw) rfl rfl (Nat.le_of_ble_eq_true rfl) (Nat.le_of_ble_eq_true rfl) (co_n zf_149 ?_)
      replace zw := zw1
      refine vr_iload dL_law_690 rfl ?_
      refine vr_ic_eq dL_law_692 (tgt := 697) rfl (fun zd_151 => ?_) (fun zd_151 => ?_)
      · replace zh := zh.1 zd_151
        refine vr_iload dL_law_697 rfl ?_
        refine vr_if_ne dL_law_699 (tgt := 721) rfl (fun zd_152 => ?_) (fun zd_152 => ?_)
        · replace zh := zh.2 zd_152
          refine vr_goto dL_law_721 (tgt := 2034) rfl ?_
          refine vr_iinc dL_law_2034 (x := l4) (v := (l4 + 6)) rfl (ii_ (by decide)) (Nat.le_of_ble_eq_true rfl) (vv_eq (ls' := [(0, .ref 22), (1, .ref 128), (2, .ref 185), (3, .ref 219), (4, .int (l4 + 6)), (5, .int v142), (6, .int v147)]) rfl ?_)
          refine vr_goto dL_law_2037 (tgt := 23) rfl ?_
          exact vv_sub (ls' := [(0, .ref 22), (1, .ref 128), (2, .ref 185), (3, .ref 219), (4, .int (l4 + 6))]) ⟨rfl, rfl, rfl, rfl, rfl, trivial⟩ zh
        · replace zh := zh.1 zd_152
          refine vr_aload_n dL_law_702 rfl rfl ?_
          refine vr_iconst dL_law_703 (v := (0 : Int32)) (by decide) ?_
          refine vr_laload dL_law_704 (wS_219 zw) (vp_lit rfl) ?_
          refine vv_top (w := .long (st_L s148 219 0)) rfl ?_
          refine vr_iload dL_law_705 rfl ?_
          refine vr_if_eq dL_law_707 (tgt := 714) rfl (fun zd_153 => ?_) (fun zd_153 => ?_)
          · replace zh := zh.1 zd_153
            refine vr_lconst dL_law_714 (v := (0 : Int64)) (by decide) ?_
            refine vr_lcmp dL_law_715 ?_
            refine vr_if_eq dL_law_716 (tgt := 721) rfl (fun zd_154 => ?_) (fun zd_154 => ?_)
            · replace zh := zh.1 ((lg_cmp_eq _ _).mp zd_154)
              refine vr_goto dL_law_721 (tgt := 2034) rfl ?_
              refine vr_iinc dL_law_2034 (x := l4) (v := (l4 + 6)) rfl (ii_ (by decide)) (Nat.le_of_ble_eq_true rfl) (vv_eq (ls' := [(0, .ref 22), (1, .ref 128), (2, .ref 185), (3, .ref 219), (4, .int (l4 + 6)), (5, .int v142), (6, .int v147)]) rfl ?_)
              refine vr_goto dL_law_2037 (tgt := 23) rfl ?_
              exact vv_sub (ls' := [(0, .ref 22), (1, .ref 128), (2, .ref 185), (3, .ref 219), (4, .int (l4 + 6))]) ⟨rfl, rfl, rfl, rfl, rfl, trivial⟩ zh
            · replace zh := zh.2 (fun z => zd_154 ((lg_cmp_eq _ _).mpr z))
              refine vr_iconst dL_law_719 (v := (0 : Int32)) (by decide) ?_
              exact vr_zret dL_law_720 rfl (Or.inl rfl) zh
          · replace zh := zh.2 zd_153
            refine vr_lconst dL_law_710 (v := (1 : Int64)) (by decide) ?_
            refine vr_goto dL_law_711 (tgt := 715) rfl ?_
            refine vr_lcmp dL_law_715 ?_
            refine vr_if_eq dL_law_716 (tgt := 721) rfl (fun zd_155 => ?_) (fun zd_155 => ?_)
            · replace zh := zh.1 ((lg_cmp_eq _ _).mp zd_155)
              refine vr_goto dL_law_721 (tgt := 2034) rfl ?_
              refine vr_iinc dL_law_2034 (x := l4) (v := (l4 + 6)) rfl (ii_ (by decide)) (Nat.le_of_ble_eq_true rfl) (vv_eq (ls' := [(0, .ref 22), (1, .ref 128), (2, .ref 185), (3, .ref 219), (4, .int (l4 + 6)), (5, .int v142), (6, .int v147)]) rfl ?_)
              refine vr_goto dL_law_2037 (tgt := 23) rfl ?_
              exact vv_sub (ls' := [(0, .ref 22), (1, .ref 128), (2, .ref 185), (3, .ref 219), (4, .int (l4 + 6))]) ⟨rfl, rfl, rfl, rfl, rfl, trivial⟩ zh
            · replace zh := zh.2 (fun z => zd_155 ((lg_cmp_eq _ _).mpr z))
              refine vr_iconst dL_law_719 (v := (0 : Int32)) (by decide) ?_
              exact vr_zret dL_law_720 rfl (Or.inl rfl) zh
      · replace zh := zh.2 zd_151
        refine vr_iconst dL_law_695 (v := (0 : Int32)) (by decide) ?_
        exact vr_zret dL_law_696 rfl (Or.inl rfl) zh
    replace zh := zh.2
    by_cases zd_49414 : ((ga_X γ l4.toNatClampNeg) &&& (63 : Int32)).toInt = 14
    · replace zh := zh.1 zd_49414
      refine vr_tswIn dL_law_40 (tgt := 724) zd_494a zd_494b (by rw [zd_49414]; rfl) rfl ?_
      refine vr_aload_n dL_law_724 rfl rfl ?_
      refine vr_aload_n dL_law_725 rfl rfl ?_
      refine vr_iload dL_law_726 rfl ?_
      refine vr_iconst dL_law_728 (v := (1 : Int32)) (by decide) ?_
      refine vr_iadd dL_law_729 ?_
      obtain ⟨zi_156, zh⟩ := zh
      refine vr_scrload dL_law_730 zi_156 ?_
      refine vr_aload_n dL_law_731 rfl rfl ?_
      refine vr_iload dL_law_732 rfl ?_
      refine vr_iconst dL_law_734 (v := (2 : Int32)) (by decide) ?_
      refine vr_iadd dL_law_735 ?_
      obtain ⟨zi_157, zh⟩ := zh
      refine vr_scrload dL_law_736 zi_157 ?_
      refine vr_aload_n dL_law_737 rfl rfl ?_
      obtain ⟨v160, s158, zw1, zf_159, zh⟩ := zh
      refine vc_H (As := [.ref 128, .int (ga_X γ (l4 + (1 : Int32)).toNatClampNeg), .int (ga_X γ (l4 + (2 : Int32)).toNatClampNeg), .ref 219]) (rest := []) dL_law_738 cH_LitmusTesterLaw_159 rfl rfl (Nat.le_of_ble_eq_true rfl) (Nat.le_of_ble_eq_true rfl) (co_n zf_159 ?_)
      replace zw := zw1
      refine vr_istore dL_law_741 (Nat.le_of_ble_eq_true rfl) (vv_eq (ls' := [(0, .ref 22), (1, .ref 128), (2, .ref 185), (3, .ref 219), (4, .int l4), (5, .int v160)]) rfl ?_)
      refine vr_aload_n dL_law_743 rfl rfl ?_
      refine vr_aload_n dL_law_744 rfl rfl ?_
      refine vr_iload dL_law_745 rfl ?_
      refine vr_iconst dL_law_747 (v := (1 : Int32)) (by decide) ?_
      refine vr_iadd dL_law_748 ?_
      obtain ⟨zi_161, zh⟩ := zh
      refine vr_scrload dL_law_749 zi_161 ?_
      refine vr_aload_n dL_law_750 rfl rfl ?_
      refine vr_iload dL_law_751 rfl ?_
      refine vr_iconst dL_law_753 (v := (2 : Int32)) (by decide) ?_
      refine vr_iadd dL_law_754 ?_
      obtain ⟨zi_162, zh⟩ := zh
      refine vr_scrload dL_law_755 zi_162 ?_
      obtain ⟨v165, s163, zw1, zf_164, zh⟩ := zh
      refine vc_V (As := [.int (ga_X γ (l4 + (1 : Int32)).toNatClampNeg), .int (ga_X γ (l4 + (2 : Int32)).toNatClampNeg)]) (rest := []) dL_law_756 cV_LitmusTesterLaw_161 (wC_185 zw) rfl rfl (Nat.le_of_ble_eq_true rfl) (Nat.le_of_ble_eq_true rfl) (co_n zf_164 ?_)
      replace zw := zw1
      refine vr_istore dL_law_759 (Nat.le_of_ble_eq_true rfl) (vv_eq (ls' := [(0, .ref 22), (1, .ref 128), (2, .ref 185), (3, .ref 219), (4, .int l4), (5, .int v160), (6, .int v165)]) rfl ?_)
      refine vr_aload_n dL_law_761 rfl rfl ?_
      obtain ⟨v168, s166, zw1, zf_167, zh⟩ := zh
      refine vc_V (As := []) (rest := []) dL_law_762 cV_LitmusTesterLaw_135 (wC_185 zw) rfl rfl (Nat.le_of_ble_eq_true rfl) (Nat.le_of_ble_eq_true rfl) (co_n zf_167 ?_)
      replace zw := zw1
      refine vr_iload dL_law_765 rfl ?_
      refine vr_ic_eq dL_law_767 (tgt := 772) rfl (fun zd_169 => ?_) (fun zd_169 => ?_)
      · replace zh := zh.1 zd_169
        refine vr_iload dL_law_772 rfl ?_
        refine vr_if_ne dL_law_774 (tgt := 789) rfl (fun zd_170 => ?_) (fun zd_170 => ?_)
        · replace zh := zh.2 zd_170
          refine vr_goto dL_law_789 (tgt := 2034) rfl ?_
          refine vr_iinc dL_law_2034 (x := l4) (v := (l4 + 6)) rfl (ii_ (by decide)) (Nat.le_of_ble_eq_true rfl) (vv_eq (ls' := [(0, .ref 22), (1, .ref 128), (2, .ref 185), (3, .ref 219), (4, .int (l4 + 6)), (5, .int v160), (6, .int v165)]) rfl ?_)
          refine vr_goto dL_law_2037 (tgt := 23) rfl ?_
          exact vv_sub (ls' := [(0, .ref 22), (1, .ref 128), (2, .ref 185), (3, .ref 219), (4, .int (l4 + 6))]) ⟨rfl, rfl, rfl, rfl, rfl, trivial⟩ zh
        · replace zh := zh.1 zd_170
          refine vr_aload_n dL_law_777 rfl rfl ?_
          refine vr_iconst dL_law_778 (v := (0 : Int32)) (by decide) ?_
          refine vr_laload dL_law_779 (wS_219 zw) (vp_lit rfl) ?_
          refine vv_top (w := .long (st_L s166 219 0)) rfl ?_
          refine vr_iload dL_law_780 rfl ?_
          refine vr_i2l dL_law_782 ?_
          refine vr_lcmp dL_law_783 ?_
          refine vr_if_eq dL_law_784 (tgt := 789) rfl (fun zd_171 => ?_) (fun zd_171 => ?_)
          · replace zh := zh.1 ((lg_cmp_eq _ _).mp zd_171)
            refine vr_goto dL_law_789 (tgt := 2034) rfl ?_
            refine vr_iinc dL_law_2034 (x := l4) (v := (l4 + 6)) rfl (ii_ (by decide)) (Nat.le_of_ble_eq_true rfl) (vv_eq (ls' := [(0, .ref 22), (1, .ref 128), (2, .ref 185), (3, .ref 219), (4, .int (l4 + 6)), (5, .int v160), (6, .int v165)]) rfl ?_)
            refine vr_goto dL_law_2037 (tgt := 23) rfl ?_
            exact vv_sub (ls' := [(0, .ref 22), (1, .ref 128), (2, .ref 185), (3, .ref 219), (4, .int (l4 + 6))]) ⟨rfl, rfl, rfl, rfl, rfl, trivial⟩ zh
          · replace zh := zh.2 (fun z => zd_171 ((lg_cmp_eq _ _).mpr z))
            refine vr_iconst dL_law_787 (v := (0 : Int32)) (by decide) ?_
            exact vr_zret dL_law_788 rfl (Or.inl rfl) zh
      · replace zh := zh.2 zd_169
        refine vr_iconst dL_law_770 (v := (0 : Int32)) (by decide) ?_
        exact vr_zret dL_law_771 rfl (Or.inl rfl) zh
    replace zh := zh.2
    by_cases zd_49415 : ((ga_X γ l4.toNatClampNeg) &&& (63 : Int32)).toInt = 15
    · replace zh := zh.1 zd_49415
      refine vr_tswIn dL_law_40 (tgt := 792) zd_494a zd_494b (by rw [zd_49415]; rfl) rfl ?_
      refine vr_aload_n dL_law_792 rfl rfl ?_
      refine vr_aload_n dL_law_793 rfl rfl ?_
      refine vr_iload dL_law_794 rfl ?_
      refine vr_iconst dL_law_796 (v := (1 : Int32)) (by decide) ?_
      refine vr_iadd dL_law_797 ?_
      obtain ⟨zi_172, zh⟩ := zh
      refine vr_scrload dL_law_798 zi_172 ?_
      obtain ⟨v175, s173, zw1, zf_174, zh⟩ := zh
      refine vc_V (As := [.int (ga_X γ (l4 + (1 : Int32)).toNatClampNeg)]) (rest := []) dL_law_799 cV_LitmusTesterLaw_162 (wC_128 zw) rfl rfl (Nat.le_of_ble_eq_true rfl) (Nat.le_of_ble_eq_true rfl) (co_n zf_174 ?_)
      replace zw := zw1
      refine vr_aload_n dL_law_802 rfl rfl ?_
      refine vr_aload_n dL_law_803 rfl rfl ?_
      refine vr_iload dL_law_804 rfl ?_
      refine vr_iconst dL_law_806 (v := (1 : Int32)) (by decide) ?_
      refine vr_iadd dL_law_807 ?_
      obtain ⟨zi_176, zh⟩ := zh
      refine vr_scrload dL_law_808 zi_176 ?_
      obtain ⟨v179, s177, zw1, zf_178, zh⟩ := zh
      refine vc_V (As := [.int (ga_X γ (l4 + (1 : Int32)).toNatClampNeg)]) (rest := [.int v175]) dL_law_809 cV_LitmusTesterLaw_165 (wC_185 zw) rfl rfl (Nat.le_of_ble_eq_true rfl) (Nat.le_of_ble_eq_true rfl) (co_n zf_178 ?_)
      replace zw := zw1
      refine vr_ic_eq dL_law_812 (tgt := 2034) rfl (fun zd_180 => ?_) (fun zd_180 => ?_)
      · replace zh := zh.1 zd_180
        refine vr_iinc dL_law_2034 (x := l4) (v := (l4 + 6)) rfl (ii_ (by decide)) (Nat.le_of_ble_eq_true rfl) (vv_eq (ls' := [(0, .ref 22), (1, .ref 128), (2, .ref 185), (3, .ref 219), (4, .int (l4 + 6))]) rfl ?_)
        refine vr_goto dL_law_2037 (tgt := 23) rfl ?_
        exact vv_sub (ls' := [(0, .ref 22), (1, .ref 128), (2, .ref 185), (3, .ref 219), (4, .int (l4 + 6))]) ⟨rfl, rfl, rfl, rfl, rfl, trivial⟩ zh
      · replace zh := zh.2 zd_180
        refine vr_iconst dL_law_815 (v := (0 : Int32)) (by decide) ?_
        exact vr_zret dL_law_816 rfl (Or.inl rfl) zh
    replace zh := zh.2
    by_cases zd_49416 : ((ga_X γ l4.toNatClampNeg) &&& (63 : Int32)).toInt = 16
    · replace zh := zh.1 zd_49416
      refine vr_tswIn dL_law_40 (tgt := 817) zd_494a zd_494b (by rw [zd_49416]; rfl) rfl ?_
      refine vr_aload_n dL_law_817 rfl rfl ?_
      refine vr_aload_n dL_law_818 rfl rfl ?_
      refine vr_iload dL_law_819 rfl ?_
      refine vr_iconst dL_law_821 (v := (1 : Int32)) (by decide) ?_
      refine vr_iadd dL_law_822 ?_
      obtain ⟨zi_181, zh⟩ := zh
      refine vr_scrload dL_law_823 zi_181 ?_
      refine vr_aload_n dL_law_824 rfl rfl ?_
      obtain ⟨v184, s182, zw1, zf_183, zh⟩ := zh
      refine vc_H (As := [.ref 128, .int (ga_X γ (l4 + (1 : Int32)).toNatClampNeg), .ref 219]) (rest := []) dL_law_825 cH_LitmusTesterLaw_166 rfl rfl (Nat.le_of_ble_eq_true rfl) (Nat.le_of_ble_eq_true rfl) (co_n zf_183 ?_)
      replace zw := zw1
      refine vr_istore dL_law_828 (Nat.le_of_ble_eq_true rfl) (vv_eq (ls' := [(0, .ref 22), (1, .ref 128), (2, .ref 185), (3, .ref 219), (4, .int l4), (5, .int v184)]) rfl ?_)
      refine vr_aload_n dL_law_830 rfl rfl ?_
      refine vr_aload_n dL_law_831 rfl rfl ?_
      refine vr_iload dL_law_832 rfl ?_
      refine vr_iconst dL_law_834 (v := (1 : Int32)) (by decide) ?_
      refine vr_iadd dL_law_835 ?_
      obtain ⟨zi_185, zh⟩ := zh
      refine vr_scrload dL_law_836 zi_185 ?_
      obtain ⟨v188, s186, zw1, zf_187, zh⟩ := zh
      refine vc_V (As := [.int (ga_X γ (l4 + (1 : Int32)).toNatClampNeg)]) (rest := []) dL_law_837 cV_LitmusTesterLaw_168 (wC_185 zw) rfl rfl (Nat.le_of_ble_eq_true rfl) (Nat.le_of_ble_eq_true rfl) (co_n zf_187 ?_)
      replace zw := zw1
      refine vr_istore dL_law_840 (Nat.le_of_ble_eq_true rfl) (vv_eq (ls' := [(0, .ref 22), (1, .ref 128), (2, .ref 185), (3, .ref 219), (4, .int l4), (5, .int v184), (6, .int v188)]) rfl ?_)
      refine vr_aload_n dL_law_842 rfl rfl ?_
      obtain ⟨v191, s189, zw1, zf_190, zh⟩ := zh
      refine vc_V (As := []) (rest := []) dL_law_843 cV_LitmusTesterLaw_135 (wC_185 zw) rfl rfl (Nat.le_of_ble_eq_true rfl) (Nat.le_of_ble_eq_true rfl) (co_n zf_190 ?_)
      replace zw := zw1
      refine vr_iload dL_law_846 rfl ?_
      refine vr_ic_eq dL_law_848 (tgt := 853) rfl (fun zd_192 => ?_) (fun zd_192 => ?_)
      · replace zh := zh.1 zd_192
        refine vr_iload dL_law_853 rfl ?_
        refine vr_if_ne dL_law_855 (tgt := 870) rfl (fun zd_193 => ?_) (fun zd_193 => ?_)
        · replace zh := zh.2 zd_193
          refine vr_goto dL_law_870 (tgt := 2034) rfl ?_
          refine vr_iinc dL_law_2034 (x := l4) (v := (l4 + 6)) rfl (ii_ (by decide)) (Nat.le_of_ble_eq_true rfl) (vv_eq (ls' := [(0, .ref 22), (1, .ref 128), (2, .ref 185), (3, .ref 219), (4, .int (l4 + 6)), (5, .int v184), (6, .int v188)]) rfl ?_)
          refine vr_goto dL_law_2037 (tgt := 23) rfl ?_
          exact vv_sub (ls' := [(0, .ref 22), (1, .ref 128), (2, .ref 185), (3, .ref 219), (4, .int (l4 + 6))]) ⟨rfl, rfl, rfl, rfl, rfl, trivial⟩ zh
        · replace zh := zh.1 zd_193
          refine vr_aload_n dL_law_858 rfl rfl ?_
          refine vr_iconst dL_law_859 (v := (0 : Int32)) (by decide) ?_
          refine vr_laload dL_law_860 (wS_219 zw) (vp_lit rfl) ?_
          refine vv_top (w := .long (st_L s189 219 0)) rfl ?_
          refine vr_iload dL_law_861 rfl ?_
          refine vr_i2l dL_law_863 ?_
          refine vr_lcmp dL_law_864 ?_
          refine vr_if_eq dL_law_865 (tgt := 870) rfl (fun zd_194 => ?_) (fun zd_194 => ?_)
          · replace zh := zh.1 ((lg_cmp_eq _ _).mp zd_194)
            refine vr_goto dL_law_870 (tgt := 2034) rfl ?_
            refine vr_iinc dL_law_2034 (x := l4) (v := (l4 + 6)) rfl (ii_ (by decide)) (Nat.le_of_ble_eq_true rfl) (vv_eq (ls' := [(0, .ref 22), (1, .ref 128), (2, .ref 185), (3, .ref 219), (4, .int (l4 + 6)), (5, .int v184), (6, .int v188)]) rfl ?_)
            refine vr_goto dL_law_2037 (tgt := 23) rfl ?_
            exact vv_sub (ls' := [(0, .ref 22), (1, .ref 128), (2, .ref 185), (3, .ref 219), (4, .int (l4 + 6))]) ⟨rfl, rfl, rfl, rfl, rfl, trivial⟩ zh
          · replace zh := zh.2 (fun z => zd_194 ((lg_cmp_eq _ _).mpr z))
            refine vr_iconst dL_law_868 (v := (0 : Int32)) (by decide) ?_
            exact vr_zret dL_law_869 rfl (Or.inl rfl) zh
      · replace zh := zh.2 zd_192
        refine vr_iconst dL_law_851 (v := (0 : Int32)) (by decide) ?_
        exact vr_zret dL_law_852 rfl (Or.inl rfl) zh
    replace zh := zh.2
    by_cases zd_49417 : ((ga_X γ l4.toNatClampNeg) &&& (63 : Int32)).toInt = 17
    · replace zh := zh.1 zd_49417
      refine vr_tswIn dL_law_40 (tgt := 873) zd_494a zd_494b (by rw [zd_49417]; rfl) rfl ?_
      refine vr_aload_n dL_law_873 rfl rfl ?_
      refine vr_aload_n dL_law_874 rfl rfl ?_
      refine vr_iload dL_law_875 rfl ?_
      refine vr_iconst dL_law_877 (v := (1 : Int32)) (by decide) ?_
      refine vr_iadd dL_law_878 ?_
      obtain ⟨zi_195, zh⟩ := zh
      refine vr_scrload dL_law_879 zi_195 ?_
      refine vr_aload_n dL_law_880 rfl rfl ?_
      obtain ⟨v198, s196, zw1, zf_197, zh⟩ := zh
      refine vc_H (As := [.ref 128, .int (ga_X γ (l4 + (1 : Int32)).toNatClampNeg), .ref 219]) (rest := []) dL_law_881 cH_LitmusTesterLaw_169 rfl rfl (Nat.le_of_ble_eq_true rfl) (Nat.le_of_ble_eq_true rfl) (co_n zf_197 ?_)
      replace zw := zw1
      refine vr_istore dL_law_884 (Nat.le_of_ble_eq_true rfl) (vv_eq (ls' := [(0, .ref 22), (1, .ref 128), (2, .ref 185), (3, .ref 219), (4, .int l4), (5, .int v198)]) rfl ?_)
      refine vr_aload_n dL_law_886 rfl rfl ?_
      refine vr_aload_n dL_law_887 rfl rfl ?_
      refine vr_iload dL_law_888 rfl ?_
      refine vr_iconst dL_law_890 (v := (1 : Int32)) (by decide) ?_
      refine vr_iadd dL_law_891 ?_
      obtain ⟨zi_199, zh⟩ := zh
      refine vr_scrload dL_law_892 zi_199 ?_
      obtain ⟨v202, s200, zw1, zf_201, zh⟩ := zh
      refine vc_V (As := [.int (ga_X γ (l4 + (1 : Int32)).toNatClampNeg)]) (rest := []) dL_law_893 cV_LitmusTesterLaw_171 (wC_185 zw) rfl rfl (Nat.le_of_ble_eq_true rfl) (Nat.le_of_ble_eq_true rfl) (co_n zf_201 ?_)
      replace zw := zw1
      refine vr_istore dL_law_896 (Nat.le_of_ble_eq_true rfl) (vv_eq (ls' := [(0, .ref 22), (1, .ref 128), (2, .ref 185), (3, .ref 219), (4, .int l4), (5, .int v198), (6, .int v202)]) rfl ?_)
      refine vr_aload_n dL_law_898 rfl rfl ?_
      obtain ⟨v205, s203, zw1, zf_204, zh⟩ := zh
      refine vc_V (As := []) (rest := []) dL_law_899 cV_LitmusTesterLaw_135 (wC_185 zw) rfl rfl (Nat.le_of_ble_eq_true rfl) (Nat.le_of_ble_eq_true rfl) (co_n zf_204 ?_)
      replace zw := zw1
      refine vr_iload dL_law_902 rfl ?_
      refine vr_ic_eq dL_law_904 (tgt := 909) rfl (fun zd_206 => ?_) (fun zd_206 => ?_)
      · replace zh := zh.1 zd_206
        refine vr_iload dL_law_909 rfl ?_
        refine vr_if_ne dL_law_911 (tgt := 926) rfl (fun zd_207 => ?_) (fun zd_207 => ?_)
        · replace zh := zh.2 zd_207
          refine vr_goto dL_law_926 (tgt := 2034) rfl ?_
          refine vr_iinc dL_law_2034 (x := l4) (v := (l4 + 6)) rfl (ii_ (by decide)) (Nat.le_of_ble_eq_true rfl) (vv_eq (ls' := [(0, .ref 22), (1, .ref 128), (2, .ref 185), (3, .ref 219), (4, .int (l4 + 6)), (5, .int v198), (6, .int v202)]) rfl ?_)
          refine vr_goto dL_law_2037 (tgt := 23) rfl ?_
          exact vv_sub (ls' := [(0, .ref 22), (1, .ref 128), (2, .ref 185), (3, .ref 219), (4, .int (l4 + 6))]) ⟨rfl, rfl, rfl, rfl, rfl, trivial⟩ zh
        · replace zh := zh.1 zd_207
          refine vr_aload_n dL_law_914 rfl rfl ?_
          refine vr_iconst dL_law_915 (v := (0 : Int32)) (by decide) ?_
          refine vr_laload dL_law_916 (wS_219 zw) (vp_lit rfl) ?_
          refine vv_top (w := .long (st_L s203 219 0)) rfl ?_
          refine vr_iload dL_law_917 rfl ?_
          refine vr_i2l dL_law_919 ?_
          refine vr_lcmp dL_law_920 ?_
          refine vr_if_eq dL_law_921 (tgt := 926) rfl (fun zd_208 => ?_) (fun zd_208 => ?_)
          · replace zh := zh.1 ((lg_cmp_eq _ _).mp zd_208)
            refine vr_goto dL_law_926 (tgt := 2034) rfl ?_
            refine vr_iinc dL_law_2034 (x := l4) (v := (l4 + 6)) rfl (ii_ (by decide)) (Nat.le_of_ble_eq_true rfl) (vv_eq (ls' := [(0, .ref 22), (1, .ref 128), (2, .ref 185), (3, .ref 219), (4, .int (l4 + 6)), (5, .int v198), (6, .int v202)]) rfl ?_)
            refine vr_goto dL_law_2037 (tgt := 23) rfl ?_
            exact vv_sub (ls' := [(0, .ref 22), (1, .ref 128), (2, .ref 185), (3, .ref 219), (4, .int (l4 + 6))]) ⟨rfl, rfl, rfl, rfl, rfl, trivial⟩ zh
          · replace zh := zh.2 (fun z => zd_208 ((lg_cmp_eq _ _).mpr z))
            refine vr_iconst dL_law_924 (v := (0 : Int32)) (by decide) ?_
            exact vr_zret dL_law_925 rfl (Or.inl rfl) zh
      · replace zh := zh.2 zd_206
        refine vr_iconst dL_law_907 (v := (0 : Int32)) (by decide) ?_
        exact vr_zret dL_law_908 rfl (Or.inl rfl) zh
    replace zh := zh.2
    by_cases zd_49418 : ((ga_X γ l4.toNatClampNeg) &&& (63 : Int32)).toInt = 18
    · replace zh := zh.1 zd_49418
      refine vr_tswIn dL_law_40 (tgt := 929) zd_494a zd_494b (by rw [zd_49418]; rfl) rfl ?_
      refine vr_aload_n dL_law_929 rfl rfl ?_
      refine vr_aload_n dL_law_930 rfl rfl ?_
      refine vr_iload dL_law_931 rfl ?_
      refine vr_iconst dL_law_933 (v := (1 : Int32)) (by decide) ?_
      refine vr_iadd dL_law_934 ?_
      obtain ⟨zi_209, zh⟩ := zh
      refine vr_scrload dL_law_935 zi_209 ?_
      refine vr_aload_n dL_law_936 rfl rfl ?_
      obtain ⟨v212, s210, zw1, zf_211, zh⟩ := zh
      refine vc_H (As := [.ref 128, .int (ga_X γ (l4 + (1 : Int32)).toNatClampNeg), .ref 219]) (rest := []) dL_law_937 cH_LitmusTesterLaw_172 rfl rfl (Nat.le_of_ble_eq_true rfl) (Nat.le_of_ble_eq_true rfl) (co_n zf_211 ?_)
      replace zw := zw1
      refine vr_istore dL_law_940 (Nat.le_of_ble_eq_true rfl) (vv_eq (ls' := [(0, .ref 22), (1, .ref 128), (2, .ref 185), (3, .ref 219), (4, .int l4), (5, .int v212)]) rfl ?_)
      refine vr_aload_n dL_law_942 rfl rfl ?_
      refine vr_aload_n dL_law_943 rfl rfl ?_
      refine vr_iload dL_law_944 rfl ?_
      refine vr_iconst dL_law_946 (v := (1 : Int32)) (by decide) ?_
      refine vr_iadd dL_law_947 ?_
      obtain ⟨zi_213, zh⟩ := zh
      refine vr_scrload dL_law_948 zi_213 ?_
      obtain ⟨v216, s214, zw1, zf_215, zh⟩ := zh
      refine vc_V (As := [.int (ga_X γ (l4 + (1 : Int32)).toNatClampNeg)]) (rest := []) dL_law_949 cV_LitmusTesterLaw_174 (wC_185 zw) rfl rfl (Nat.le_of_ble_eq_true rfl) (Nat.le_of_ble_eq_true rfl) (co_n zf_215 ?_)
      replace zw := zw1
      refine vr_istore dL_law_952 (Nat.le_of_ble_eq_true rfl) (vv_eq (ls' := [(0, .ref 22), (1, .ref 128), (2, .ref 185), (3, .ref 219), (4, .int l4), (5, .int v212), (6, .int v216)]) rfl ?_)
      refine vr_aload_n dL_law_954 rfl rfl ?_
      obtain ⟨v219, s217, zw1, zf_218, zh⟩ := zh
      refine vc_V (As := []) (rest := []) dL_law_955 cV_LitmusTesterLaw_135 (wC_185 zw) rfl rfl (Nat.le_of_ble_eq_true rfl) (Nat.le_of_ble_eq_true rfl) (co_n zf_218 ?_)
      replace zw := zw1
      refine vr_iload dL_law_958 rfl ?_
      refine vr_ic_eq dL_law_960 (tgt := 965) rfl (fun zd_220 => ?_) (fun zd_220 => ?_)
      · replace zh := zh.1 zd_220
        refine vr_iload dL_law_965 rfl ?_
        refine vr_if_ne dL_law_967 (tgt := 982) rfl (fun zd_221 => ?_) (fun zd_221 => ?_)
        · replace zh := zh.2 zd_221
          refine vr_goto dL_law_982 (tgt := 2034) rfl ?_
          refine vr_iinc dL_law_2034 (x := l4) (v := (l4 + 6)) rfl (ii_ (by decide)) (Nat.le_of_ble_eq_true rfl) (vv_eq (ls' := [(0, .ref 22), (1, .ref 128), (2, .ref 185), (3, .ref 219), (4, .int (l4 + 6)), (5, .int v212), (6, .int v216)]) rfl ?_)
          refine vr_goto dL_law_2037 (tgt := 23) rfl ?_
          exact vv_sub (ls' := [(0, .ref 22), (1, .ref 128), (2, .ref 185), (3, .ref 219), (4, .int (l4 + 6))]) ⟨rfl, rfl, rfl, rfl, rfl, trivial⟩ zh
        · replace zh := zh.1 zd_221
          refine vr_aload_n dL_law_970 rfl rfl ?_
          refine vr_iconst dL_law_971 (v := (0 : Int32)) (by decide) ?_
          refine vr_laload dL_law_972 (wS_219 zw) (vp_lit rfl) ?_
          refine vv_top (w := .long (st_L s217 219 0)) rfl ?_
          refine vr_iload dL_law_973 rfl ?_
          refine vr_i2l dL_law_975 ?_
          refine vr_lcmp dL_law_976 ?_
          refine vr_if_eq dL_law_977 (tgt := 982) rfl (fun zd_222 => ?_) (fun zd_222 => ?_)
          · replace zh := zh.1 ((lg_cmp_eq _ _).mp zd_222)
            refine vr_goto dL_law_982 (tgt := 2034) rfl ?_
            refine vr_iinc dL_law_2034 (x := l4) (v := (l4 + 6)) rfl (ii_ (by decide)) (Nat.le_of_ble_eq_true rfl) (vv_eq (ls' := [(0, .ref 22), (1, .ref 128), (2, .ref 185), (3, .ref 219), (4, .int (l4 + 6)), (5, .int v212), (6, .int v216)]) rfl ?_)
            refine vr_goto dL_law_2037 (tgt := 23) rfl ?_
            exact vv_sub (ls' := [(0, .ref 22), (1, .ref 128), (2, .ref 185), (3, .ref 219), (4, .int (l4 + 6))]) ⟨rfl, rfl, rfl, rfl, rfl, trivial⟩ zh
          · replace zh := zh.2 (fun z => zd_222 ((lg_cmp_eq _ _).mpr z))
            refine vr_iconst dL_law_980 (v := (0 : Int32)) (by decide) ?_
            exact vr_zret dL_law_981 rfl (Or.inl rfl) zh
      · replace zh := zh.2 zd_220
        refine vr_iconst dL_law_963 (v := (0 : Int32)) (by decide) ?_
        exact vr_zret dL_law_964 rfl (Or.inl rfl) zh
    replace zh := zh.2
    by_cases zd_49419 : ((ga_X γ l4.toNatClampNeg) &&& (63 : Int32)).toInt = 19
    · replace zh := zh.1 zd_49419
      refine vr_tswIn dL_law_40 (tgt := 985) zd_494a zd_494b (by rw [zd_49419]; rfl) rfl ?_
      refine vr_aload_n dL_law_985 rfl rfl ?_
      refine vr_aload_n dL_law_986 rfl rfl ?_
      refine vr_iload dL_law_987 rfl ?_
      refine vr_iconst dL_law_989 (v := (1 : Int32)) (by decide) ?_
      refine vr_iadd dL_law_990 ?_
      obtain ⟨zi_223, zh⟩ := zh
      refine vr_scrload dL_law_991 zi_223 ?_
      refine vr_aload_n dL_law_992 rfl rfl ?_
      obtain ⟨v226, s224, zw1, zf_225, zh⟩ := zh
      refine vc_H (As := [.ref 128, .int (ga_X γ (l4 + (1 : Int32)).toNatClampNeg), .ref 219]) (rest := []) dL_law_993 cH_LitmusTesterLaw_175 rfl rfl (Nat.le_of_ble_eq_true rfl) (Nat.le_of_ble_eq_true rfl) (co_n zf_225 ?_)
      replace zw := zw1
      refine vr_istore dL_law_996 (Nat.le_of_ble_eq_true rfl) (vv_eq (ls' := [(0, .ref 22), (1, .ref 128), (2, .ref 185), (3, .ref 219), (4, .int l4), (5, .int v226)]) rfl ?_)
      refine vr_aload_n dL_law_998 rfl rfl ?_
      refine vr_aload_n dL_law_999 rfl rfl ?_
      refine vr_iload dL_law_1000 rfl ?_
      refine vr_iconst dL_law_1002 (v := (1 : Int32)) (by decide) ?_
      refine vr_iadd dL_law_1003 ?_
      obtain ⟨zi_227, zh⟩ := zh
      refine vr_scrload dL_law_1004 zi_227 ?_
      obtain ⟨v230, s228, zw1, zf_229, zh⟩ := zh
      refine vc_V (As := [.int (ga_X γ (l4 + (1 : Int32)).toNatClampNeg)]) (rest := []) dL_law_1005 cV_LitmusTesterLaw_177 (wC_185 zw) rfl rfl (Nat.le_of_ble_eq_true rfl) (Nat.le_of_ble_eq_true rfl) (co_n zf_229 ?_)
      replace zw := zw1
      refine vr_lstore dL_law_1008 (Nat.le_of_ble_eq_true rfl) (vv_eq (ls' := [(0, .ref 22), (1, .ref 128), (2, .ref 185), (3, .ref 219), (4, .int l4), (5, .int v226), (6, .long v230)]) rfl ?_)
      refine vr_aload_n dL_law_1010 rfl rfl ?_
      obtain ⟨v233, s231, zw1, zf_232, zh⟩ := zh
      refine vc_V (As := []) (rest := []) dL_law_1011 cV_LitmusTesterLaw_135 (wC_185 zw) rfl rfl (Nat.le_of_ble_eq_true rfl) (Nat.le_of_ble_eq_true rfl) (co_n zf_232 ?_)
      replace zw := zw1
      refine vr_iload dL_law_1014 rfl ?_
      refine vr_ic_eq dL_law_1016 (tgt := 1021) rfl (fun zd_234 => ?_) (fun zd_234 => ?_)
      · replace zh := zh.1 zd_234
        refine vr_iload dL_law_1021 rfl ?_
        refine vr_if_ne dL_law_1023 (tgt := 1037) rfl (fun zd_235 => ?_) (fun zd_235 => ?_)
        · replace zh := zh.2 zd_235
          refine vr_goto dL_law_1037 (tgt := 2034) rfl ?_
          refine vr_iinc dL_law_2034 (x := l4) (v := (l4 + 6)) rfl (ii_ (by decide)) (Nat.le_of_ble_eq_true rfl) (vv_eq (ls' := [(0, .ref 22), (1, .ref 128), (2, .ref 185), (3, .ref 219), (4, .int (l4 + 6)), (5, .int v226), (6, .long v230)]) rfl ?_)
          refine vr_goto dL_law_2037 (tgt := 23) rfl ?_
          exact vv_sub (ls' := [(0, .ref 22), (1, .ref 128), (2, .ref 185), (3, .ref 219), (4, .int (l4 + 6))]) ⟨rfl, rfl, rfl, rfl, rfl, trivial⟩ zh
        · replace zh := zh.1 zd_235
          refine vr_aload_n dL_law_1026 rfl rfl ?_
          refine vr_iconst dL_law_1027 (v := (0 : Int32)) (by decide) ?_
          refine vr_laload dL_law_1028 (wS_219 zw) (vp_lit rfl) ?_
          refine vv_top (w := .long (st_L s231 219 0)) rfl ?_
          refine vr_lload dL_law_1029 rfl ?_
          refine vr_lcmp dL_law_1031 ?_
          refine vr_if_eq dL_law_1032 (tgt := 1037) rfl (fun zd_236 => ?_) (fun zd_236 => ?_)
          · replace zh := zh.1 ((lg_cmp_eq _ _).mp zd_236)
            refine vr_goto dL_law_1037 (tgt := 2034) rfl ?_
            refine vr_iinc dL_law_2034 (x := l4) (v := (l4 + 6)) rfl (ii_ (by decide)) (Nat.le_of_ble_eq_true rfl) (vv_eq (ls' := [(0, .ref 22), (1, .ref 128), (2, .ref 185), (3, .ref 219), (4, .int (l4 + 6)), (5, .int v226), (6, .long v230)]) rfl ?_)
            refine vr_goto dL_law_2037 (tgt := 23) rfl ?_
            exact vv_sub (ls' := [(0, .ref 22), (1, .ref 128), (2, .ref 185), (3, .ref 219), (4, .int (l4 + 6))]) ⟨rfl, rfl, rfl, rfl, rfl, trivial⟩ zh
          · replace zh := zh.2 (fun z => zd_236 ((lg_cmp_eq _ _).mpr z))
            refine vr_iconst dL_law_1035 (v := (0 : Int32)) (by decide) ?_
            exact vr_zret dL_law_1036 rfl (Or.inl rfl) zh
      · replace zh := zh.2 zd_234
        refine vr_iconst dL_law_1019 (v := (0 : Int32)) (by decide) ?_
        exact vr_zret dL_law_1020 rfl (Or.inl rfl) zh
    replace zh := zh.2
    by_cases zd_49420 : ((ga_X γ l4.toNatClampNeg) &&& (63 : Int32)).toInt = 20
    · replace zh := zh.1 zd_49420
      refine vr_tswIn dL_law_40 (tgt := 1040) zd_494a zd_494b (by rw [zd_49420]; rfl) rfl ?_
      refine vr_aload_n dL_law_1040 rfl rfl ?_
      refine vr_aload_n dL_law_1041 rfl rfl ?_
      refine vr_iload dL_law_1042 rfl ?_
      refine vr_iconst dL_law_1044 (v := (1 : Int32)) (by decide) ?_
      refine vr_iadd dL_law_1045 ?_
      obtain ⟨zi_237, zh⟩ := zh
      refine vr_scrload dL_law_1046 zi_237 ?_
      refine vr_aload_n dL_law_1047 rfl rfl ?_
      refine vr_iload dL_law_1048 rfl ?_
      refine vr_iconst dL_law_1050 (v := (2 : Int32)) (by decide) ?_
      refine vr_iadd dL_law_1051 ?_
      obtain ⟨zi_238, zh⟩ := zh
      refine vr_scrload dL_law_1052 zi_238 ?_
      refine vr_aload_n dL_law_1053 rfl rfl ?_
      obtain ⟨v241, s239, zw1, zf_240, zh⟩ := zh
      refine vc_H (As := [.ref 128, .int (ga_X γ (l4 + (1 : Int32)).toNatClampNeg), .int (ga_X γ (l4 + (2 : Int32)).toNatClampNeg), .ref 219]) (rest := []) dL_law_1054 cH_LitmusTesterLaw_178 rfl rfl (Nat.le_of_ble_eq_true rfl) (Nat.le_of_ble_eq_true rfl) (co_n zf_240 ?_)
      replace zw := zw1
      refine vr_istore dL_law_1057 (Nat.le_of_ble_eq_true rfl) (vv_eq (ls' := [(0, .ref 22), (1, .ref 128), (2, .ref 185), (3, .ref 219), (4, .int l4), (5, .int v241)]) rfl ?_)
      refine vr_aload_n dL_law_1059 rfl rfl ?_
      refine vr_aload_n dL_law_1060 rfl rfl ?_
      refine vr_iload dL_law_1061 rfl ?_
      refine vr_iconst dL_law_1063 (v := (1 : Int32)) (by decide) ?_
      refine vr_iadd dL_law_1064 ?_
      obtain ⟨zi_242, zh⟩ := zh
      refine vr_scrload dL_law_1065 zi_242 ?_
      refine vr_aload_n dL_law_1066 rfl rfl ?_
      refine vr_iload dL_law_1067 rfl ?_
      refine vr_iconst dL_law_1069 (v := (2 : Int32)) (by decide) ?_
      refine vr_iadd dL_law_1070 ?_
      obtain ⟨zi_243, zh⟩ := zh
      refine vr_scrload dL_law_1071 zi_243 ?_
      obtain ⟨v246, s244, zw1, zf_245, zh⟩ := zh
      refine vc_V (As := [.int (ga_X γ (l4 + (1 : Int32)).toNatClampNeg), .int (ga_X γ (l4 + (2 : Int32)).toNatClampNeg)]) (rest := []) dL_law_1072 cV_LitmusTesterLaw_180 (wC_185 zw) rfl rfl (Nat.le_of_ble_eq_true rfl) (Nat.le_of_ble_eq_true rfl) (co_n zf_245 ?_)
      replace zw := zw1
      refine vr_lstore dL_law_1075 (Nat.le_of_ble_eq_true rfl) (vv_eq (ls' := [(0, .ref 22), (1, .ref 128), (2, .ref 185), (3, .ref 219), (4, .int l4), (5, .int v241), (6, .long v246)]) rfl ?_)
      refine vr_aload_n dL_law_1077 rfl rfl ?_
      obtain ⟨v249, s247, zw1, zf_248, zh⟩ := zh
      refine vc_V (As := []) (rest := []) dL_law_1078 cV_LitmusTesterLaw_135 (wC_185 zw) rfl rfl (Nat.le_of_ble_eq_true rfl) (Nat.le_of_ble_eq_true rfl) (co_n zf_248 ?_)
      replace zw := zw1
      refine vr_iload dL_law_1081 rfl ?_
      refine vr_ic_eq dL_law_1083 (tgt := 1088) rfl (fun zd_250 => ?_) (fun zd_250 => ?_)
      · replace zh := zh.1 zd_250
        refine vr_iload dL_law_1088 rfl ?_
        refine vr_if_ne dL_law_1090 (tgt := 1104) rfl (fun zd_251 => ?_) (fun zd_251 => ?_)
        · replace zh := zh.2 zd_251
          refine vr_goto dL_law_1104 (tgt := 2034) rfl ?_
          refine vr_iinc dL_law_2034 (x := l4) (v := (l4 + 6)) rfl (ii_ (by decide)) (Nat.le_of_ble_eq_true rfl) (vv_eq (ls' := [(0, .ref 22), (1, .ref 128), (2, .ref 185), (3, .ref 219), (4, .int (l4 + 6)), (5, .int v241), (6, .long v246)]) rfl ?_)
          refine vr_goto dL_law_2037 (tgt := 23) rfl ?_
          exact vv_sub (ls' := [(0, .ref 22), (1, .ref 128), (2, .ref 185), (3, .ref 219), (4, .int (l4 + 6))]) ⟨rfl, rfl, rfl, rfl, rfl, trivial⟩ zh
        · replace zh := zh.1 zd_251
          refine vr_aload_n dL_law_1093 rfl rfl ?_
          refine vr_iconst dL_law_1094 (v := (0 : Int32)) (by decide) ?_
          refine vr_laload dL_law_1095 (wS_219 zw) (vp_lit rfl) ?_
          refine vv_top (w := .long (st_L s247 219 0)) rfl ?_
          refine vr_lload dL_law_1096 rfl ?_
          refine vr_lcmp dL_law_1098 ?_
          refine vr_if_eq dL_law_1099 (tgt := 1104) rfl (fun zd_252 => ?_) (fun zd_252 => ?_)
          · replace zh := zh.1 ((lg_cmp_eq _ _).mp zd_252)
            refine vr_goto dL_law_1104 (tgt := 2034) rfl ?_
            refine vr_iinc dL_law_2034 (x := l4) (v := (l4 + 6)) rfl (ii_ (by decide)) (Nat.le_of_ble_eq_true rfl) (vv_eq (ls' := [(0, .ref 22), (1, .ref 128), (2, .ref 185), (3, .ref 219), (4, .int (l4 + 6)), (5, .int v241), (6, .long v246)]) rfl ?_)
            refine vr_goto dL_law_2037 (tgt := 23) rfl ?_
            exact vv_sub (ls' := [(0, .ref 22), (1, .ref 128), (2, .ref 185), (3, .ref 219), (4, .int (l4 + 6))]) ⟨rfl, rfl, rfl, rfl, rfl, trivial⟩ zh
          · replace zh := zh.2 (fun z => zd_252 ((lg_cmp_eq _ _).mpr z))
            refine vr_iconst dL_law_1102 (v := (0 : Int32)) (by decide) ?_
            exact vr_zret dL_law_1103 rfl (Or.inl rfl) zh
      · replace zh := zh.2 zd_250
        refine vr_iconst dL_law_1086 (v := (0 : Int32)) (by decide) ?_
        exact vr_zret dL_law_1087 rfl (Or.inl rfl) zh
    replace zh := zh.2
    by_cases zd_49421 : ((ga_X γ l4.toNatClampNeg) &&& (63 : Int32)).toInt = 21
    · replace zh := zh.1 zd_49421
      refine vr_tswIn dL_law_40 (tgt := 1107) zd_494a zd_494b (by rw [zd_49421]; rfl) rfl ?_
      refine vr_aload_n dL_law_1107 rfl rfl ?_
      refine vr_aload_n dL_law_1108 rfl rfl ?_
      refine vr_iload dL_law_1109 rfl ?_
      refine vr_iconst dL_law_1111 (v := (1 : Int32)) (by decide) ?_
      refine vr_iadd dL_law_1112 ?_
      obtain ⟨zi_253, zh⟩ := zh
      refine vr_scrload dL_law_1113 zi_253 ?_
      refine vr_aload_n dL_law_1114 rfl rfl ?_
      refine vr_iload dL_law_1115 rfl ?_
      refine vr_iconst dL_law_1117 (v := (2 : Int32)) (by decide) ?_
      refine vr_iadd dL_law_1118 ?_
      obtain ⟨zi_254, zh⟩ := zh
      refine vr_scrload dL_law_1119 zi_254 ?_
      refine vr_aload_n dL_law_1120 rfl rfl ?_
      obtain ⟨v257, s255, zw1, zf_256, zh⟩ := zh
      refine vc_H (As := [.ref 128, .int (ga_X γ (l4 + (1 : Int32)).toNatClampNeg), .int (ga_X γ (l4 + (2 : Int32)).toNatClampNeg), .ref 219]) (rest := []) dL_law_1121 cH_LitmusTesterLaw_181 rfl rfl (Nat.le_of_ble_eq_true rfl) (Nat.le_of_ble_eq_true rfl) (co_n zf_256 ?_)
      replace zw := zw1
      refine vr_istore dL_law_1124 (Nat.le_of_ble_eq_true rfl) (vv_eq (ls' := [(0, .ref 22), (1, .ref 128), (2, .ref 185), (3, .ref 219), (4, .int l4), (5, .int v257)]) rfl ?_)
      refine vr_aload_n dL_law_1126 rfl rfl ?_
      refine vr_aload_n dL_law_1127 rfl rfl ?_
      refine vr_iload dL_law_1128 rfl ?_
      refine vr_iconst dL_law_1130 (v := (1 : Int32)) (by decide) ?_
      refine vr_iadd dL_law_1131 ?_
      obtain ⟨zi_258, zh⟩ := zh
      refine vr_scrload dL_law_1132 zi_258 ?_
      refine vr_aload_n dL_law_1133 rfl rfl ?_
      refine vr_iload dL_law_1134 rfl ?_
      refine vr_iconst dL_law_1136 (v := (2 : Int32)) (by decide) ?_
      refine vr_iadd dL_law_1137 ?_
      obtain ⟨zi_259, zh⟩ := zh
      refine vr_scrload dL_law_1138 zi_259 ?_
      obtain ⟨v262, s260, zw1, zf_261, zh⟩ := zh
      refine vc_V (As := [.int (ga_X γ (l4 + (1 : Int32)).toNatClampNeg), .int (ga_X γ (l4 + (2 : Int32)).toNatClampNeg)]) (rest := []) dL_law_1139 cV_LitmusTesterLaw_183 (wC_185 zw) rfl rfl (Nat.le_of_ble_eq_true rfl) (Nat.le_of_ble_eq_true rfl) (co_n zf_261 ?_)
      replace zw := zw1
      refine vr_istore dL_law_1142 (Nat.le_of_ble_eq_true rfl) (vv_eq (ls' := [(0, .ref 22), (1, .ref 128), (2, .ref 185), (3, .ref 219), (4, .int l4), (5, .int v257), (6, .int v262)]) rfl ?_)
      refine vr_aload_n dL_law_1144 rfl rfl ?_
      obtain ⟨v265, s263, zw1, zf_264, zh⟩ := zh
      refine vc_V (As := []) (rest := []) dL_law_1145 cV_LitmusTesterLaw_135 (wC_185 zw) rfl rfl (Nat.le_of_ble_eq_true rfl) (Nat.le_of_ble_eq_true rfl) (co_n zf_264 ?_)
      replace zw := zw1
      refine vr_iload dL_law_1148 rfl ?_
      refine vr_ic_eq dL_law_1150 (tgt := 1155) rfl (fun zd_266 => ?_) (fun zd_266 => ?_)
      · replace zh := zh.1 zd_266
        refine vr_iload dL_law_1155 rfl ?_
        refine vr_if_ne dL_law_1157 (tgt := 1172) rfl (fun zd_267 => ?_) (fun zd_267 => ?_)
        · replace zh := zh.2 zd_267
          refine vr_goto dL_law_1172 (tgt := 2034) rfl ?_
          refine vr_iinc dL_law_2034 (x := l4) (v := (l4 + 6)) rfl (ii_ (by decide)) (Nat.le_of_ble_eq_true rfl) (vv_eq (ls' := [(0, .ref 22), (1, .ref 128), (2, .ref 185), (3, .ref 219), (4, .int (l4 + 6)), (5, .int v257), (6, .int v262)]) rfl ?_)
          refine vr_goto dL_law_2037 (tgt := 23) rfl ?_
          exact vv_sub (ls' := [(0, .ref 22), (1, .ref 128), (2, .ref 185), (3, .ref 219), (4, .int (l4 + 6))]) ⟨rfl, rfl, rfl, rfl, rfl, trivial⟩ zh
        · replace zh := zh.1 zd_267
          refine vr_aload_n dL_law_1160 rfl rfl ?_
          refine vr_iconst dL_law_1161 (v := (0 : Int32)) (by decide) ?_
          refine vr_laload dL_law_1162 (wS_219 zw) (vp_lit rfl) ?_
          refine vv_top (w := .long (st_L s263 219 0)) rfl ?_
          refine vr_iload dL_law_1163 rfl ?_
          refine vr_i2l dL_law_1165 ?_
          refine vr_lcmp dL_law_1166 ?_
          refine vr_if_eq dL_law_1167 (tgt := 1172) rfl (fun zd_268 => ?_) (fun zd_268 => ?_)
          · replace zh := zh.1 ((lg_cmp_eq _ _).mp zd_268)
            refine vr_goto dL_law_1172 (tgt := 2034) rfl ?_
            refine vr_iinc dL_law_2034 (x := l4) (v := (l4 + 6)) rfl (ii_ (by decide)) (Nat.le_of_ble_eq_true rfl) (vv_eq (ls' := [(0, .ref 22), (1, .ref 128), (2, .ref 185), (3, .ref 219), (4, .int (l4 + 6)), (5, .int v257), (6, .int v262)]) rfl ?_)
            refine vr_goto dL_law_2037 (tgt := 23) rfl ?_
            exact vv_sub (ls' := [(0, .ref 22), (1, .ref 128), (2, .ref 185), (3, .ref 219), (4, .int (l4 + 6))]) ⟨rfl, rfl, rfl, rfl, rfl, trivial⟩ zh
          · replace zh := zh.2 (fun z => zd_268 ((lg_cmp_eq _ _).mpr z))
            refine vr_iconst dL_law_1170 (v := (0 : Int32)) (by decide) ?_
            exact vr_zret dL_law_1171 rfl (Or.inl rfl) zh
      · replace zh := zh.2 zd_266
        refine vr_iconst dL_law_1153 (v := (0 : Int32)) (by decide) ?_
        exact vr_zret dL_law_1154 rfl (Or.inl rfl) zh
    replace zh := zh.2
    by_cases zd_49422 : ((ga_X γ l4.toNatClampNeg) &&& (63 : Int32)).toInt = 22
    · replace zh := zh.1 zd_49422
      refine vr_tswIn dL_law_40 (tgt := 1175) zd_494a zd_494b (by rw [zd_49422]; rfl) rfl ?_
      refine vr_aload_n dL_law_1175 rfl rfl ?_
      refine vr_aload_n dL_law_1176 rfl rfl ?_
      refine vr_iload dL_law_1177 rfl ?_
      refine vr_iconst dL_law_1179 (v := (1 : Int32)) (by decide) ?_
      refine vr_iadd dL_law_1180 ?_
      obtain ⟨zi_269, zh⟩ := zh
      refine vr_scrload dL_law_1181 zi_269 ?_
      refine vr_aload_n dL_law_1182 rfl rfl ?_
      refine vr_iload dL_law_1183 rfl ?_
      refine vr_iconst dL_law_1185 (v := (2 : Int32)) (by decide) ?_
      refine vr_iadd dL_law_1186 ?_
      obtain ⟨zi_270, zh⟩ := zh
      refine vr_scrload dL_law_1187 zi_270 ?_
      refine vr_aload_n dL_law_1188 rfl rfl ?_
      obtain ⟨v273, s271, zw1, zf_272, zh⟩ := zh
      refine vc_H (As := [.ref 128, .int (ga_X γ (l4 + (1 : Int32)).toNatClampNeg), .int (ga_X γ (l4 + (2 : Int32)).toNatClampNeg), .ref 219]) (rest := []) dL_law_1189 cH_LitmusTesterLaw_184 rfl rfl (Nat.le_of_ble_eq_true rfl) (Nat.le_of_ble_eq_true rfl) (co_n zf_272 ?_)
      replace zw := zw1
      refine vr_istore dL_law_1192 (Nat.le_of_ble_eq_true rfl) (vv_eq (ls' := [(0, .ref 22), (1, .ref 128), (2, .ref 185), (3, .ref 219), (4, .int l4), (5, .int v273)]) rfl ?_)
      refine vr_aload_n dL_law_1194 rfl rfl ?_
      refine vr_aload_n dL_law_1195 rfl rfl ?_
      refine vr_iload dL_law_1196 rfl ?_
      refine vr_iconst dL_law_1198 (v := (1 : Int32)) (by decide) ?_
      refine vr_iadd dL_law_1199 ?_
      obtain ⟨zi_274, zh⟩ := zh
      refine vr_scrload dL_law_1200 zi_274 ?_
      refine vr_aload_n dL_law_1201 rfl rfl ?_
      refine vr_iload dL_law_1202 rfl ?_
      refine vr_iconst dL_law_1204 (v := (2 : Int32)) (by decide) ?_
      refine vr_iadd dL_law_1205 ?_
      obtain ⟨zi_275, zh⟩ := zh
      refine vr_scrload dL_law_1206 zi_275 ?_
      obtain ⟨v278, s276, zw1, zf_277, zh⟩ := zh
      refine vc_V (As := [.int (ga_X γ (l4 + (1 : Int32)).toNatClampNeg), .int (ga_X γ (l4 + (2 : Int32)).toNatClampNeg)]) (rest := []) dL_law_1207 cV_LitmusTesterLaw_186 (wC_185 zw) rfl rfl (Nat.le_of_ble_eq_true rfl) (Nat.le_of_ble_eq_true rfl) (co_n zf_277 ?_)
      replace zw := zw1
      refine vr_istore dL_law_1210 (Nat.le_of_ble_eq_true rfl) (vv_eq (ls' := [(0, .ref 22), (1, .ref 128), (2, .ref 185), (3, .ref 219), (4, .int l4), (5, .int v273), (6, .int v278)]) rfl ?_)
      refine vr_aload_n dL_law_1212 rfl rfl ?_
      obtain ⟨v281, s279, zw1, zf_280, zh⟩ := zh
      refine vc_V (As := []) (rest := []) dL_law_1213 cV_LitmusTesterLaw_135 (wC_185 zw) rfl rfl (Nat.le_of_ble_eq_true rfl) (Nat.le_of_ble_eq_true rfl) (co_n zf_280 ?_)
      replace zw := zw1
      refine vr_iload dL_law_1216 rfl ?_
      refine vr_ic_eq dL_law_1218 (tgt := 1223) rfl (fun zd_282 => ?_) (fun zd_282 => ?_)
      · replace zh := zh.1 zd_282
        refine vr_iload dL_law_1223 rfl ?_
        refine vr_if_ne dL_law_1225 (tgt := 1240) rfl (fun zd_283 => ?_) (fun zd_283 => ?_)
        · replace zh := zh.2 zd_283
          refine vr_goto dL_law_1240 (tgt := 2034) rfl ?_
          refine vr_iinc dL_law_2034 (x := l4) (v := (l4 + 6)) rfl (ii_ (by decide)) (Nat.le_of_ble_eq_true rfl) (vv_eq (ls' := [(0, .ref 22), (1, .ref 128), (2, .ref 185), (3, .ref 219), (4, .int (l4 + 6)), (5, .int v273), (6, .int v278)]) rfl ?_)
          refine vr_goto dL_law_2037 (tgt := 23) rfl ?_
          exact vv_sub (ls' := [(0, .ref 22), (1, .ref 128), (2, .ref 185), (3, .ref 219), (4, .int (l4 + 6))]) ⟨rfl, rfl, rfl, rfl, rfl, trivial⟩ zh
        · replace zh := zh.1 zd_283
          refine vr_aload_n dL_law_1228 rfl rfl ?_
          refine vr_iconst dL_law_1229 (v := (0 : Int32)) (by decide) ?_
          refine vr_laload dL_law_1230 (wS_219 zw) (vp_lit rfl) ?_
          refine vv_top (w := .long (st_L s279 219 0)) rfl ?_
          refine vr_iload dL_law_1231 rfl ?_
          refine vr_i2l dL_law_1233 ?_
          refine vr_lcmp dL_law_1234 ?_
          refine vr_if_eq dL_law_1235 (tgt := 1240) rfl (fun zd_284 => ?_) (fun zd_284 => ?_)
          · replace zh := zh.1 ((lg_cmp_eq _ _).mp zd_284)
            refine vr_goto dL_law_1240 (tgt := 2034) rfl ?_
            refine vr_iinc dL_law_2034 (x := l4) (v := (l4 + 6)) rfl (ii_ (by decide)) (Nat.le_of_ble_eq_true rfl) (vv_eq (ls' := [(0, .ref 22), (1, .ref 128), (2, .ref 185), (3, .ref 219), (4, .int (l4 + 6)), (5, .int v273), (6, .int v278)]) rfl ?_)
            refine vr_goto dL_law_2037 (tgt := 23) rfl ?_
            exact vv_sub (ls' := [(0, .ref 22), (1, .ref 128), (2, .ref 185), (3, .ref 219), (4, .int (l4 + 6))]) ⟨rfl, rfl, rfl, rfl, rfl, trivial⟩ zh
          · replace zh := zh.2 (fun z => zd_284 ((lg_cmp_eq _ _).mpr z))
            refine vr_iconst dL_law_1238 (v := (0 : Int32)) (by decide) ?_
            exact vr_zret dL_law_1239 rfl (Or.inl rfl) zh
      · replace zh := zh.2 zd_282
        refine vr_iconst dL_law_1221 (v := (0 : Int32)) (by decide) ?_
        exact vr_zret dL_law_1222 rfl (Or.inl rfl) zh
    replace zh := zh.2
    by_cases zd_49423 : ((ga_X γ l4.toNatClampNeg) &&& (63 : Int32)).toInt = 23
    · replace zh := zh.1 zd_49423
      refine vr_tswIn dL_law_40 (tgt := 1243) zd_494a zd_494b (by rw [zd_49423]; rfl) rfl ?_
      refine vr_aload_n dL_law_1243 rfl rfl ?_
      refine vr_aload_n dL_law_1244 rfl rfl ?_
      refine vr_iload dL_law_1245 rfl ?_
      refine vr_iconst dL_law_1247 (v := (1 : Int32)) (by decide) ?_
      refine vr_iadd dL_law_1248 ?_
      obtain ⟨zi_285, zh⟩ := zh
      refine vr_scrload dL_law_1249 zi_285 ?_
      refine vr_aload_n dL_law_1250 rfl rfl ?_
      refine vr_iload dL_law_1251 rfl ?_
      refine vr_iconst dL_law_1253 (v := (2 : Int32)) (by decide) ?_
      refine vr_iadd dL_law_1254 ?_
      obtain ⟨zi_286, zh⟩ := zh
      refine vr_scrload dL_law_1255 zi_286 ?_
      refine vr_aload_n dL_law_1256 rfl rfl ?_
      obtain ⟨v289, s287, zw1, zf_288, zh⟩ := zh
      refine vc_H (As := [.ref 128, .int (ga_X γ (l4 + (1 : Int32)).toNatClampNeg), .int (ga_X γ (l4 + (2 : Int32)).toNatClampNeg), .ref 219]) (rest := []) dL_law_1257 cH_LitmusTesterLaw_187 rfl rfl (Nat.le_of_ble_eq_true rfl) (Nat.le_of_ble_eq_true rfl) (co_n zf_288 ?_)
      replace zw := zw1
      refine vr_istore dL_law_1260 (Nat.le_of_ble_eq_true rfl) (vv_eq (ls' := [(0, .ref 22), (1, .ref 128), (2, .ref 185), (3, .ref 219), (4, .int l4), (5, .int v289)]) rfl ?_)
      refine vr_aload_n dL_law_1262 rfl rfl ?_
      refine vr_aload_n dL_law_1263 rfl rfl ?_
      refine vr_iload dL_law_1264 rfl ?_
      refine vr_iconst dL_law_1266 (v := (1 : Int32)) (by decide) ?_
      refine vr_iadd dL_law_1267 ?_
      obtain ⟨zi_290, zh⟩ := zh
      refine vr_scrload dL_law_1268 zi_290 ?_
      refine vr_aload_n dL_law_1269 rfl rfl ?_
      refine vr_iload dL_law_1270 rfl ?_
      refine vr_iconst dL_law_1272 (v := (2 : Int32)) (by decide) ?_
      refine vr_iadd dL_law_1273 ?_
      obtain ⟨zi_291, zh⟩ := zh
      refine vr_scrload dL_law_1274 zi_291 ?_
      obtain ⟨v294, s292, zw1, zf_293, zh⟩ := zh
      refine vc_V (As := [.int (ga_X γ (l4 + (1 : Int32)).toNatClampNeg), .int (ga_X γ (l4 + (2 : Int32)).toNatClampNeg)]) (rest := []) dL_law_1275 cV_LitmusTesterLaw_189 (wC_185 zw) rfl rfl (Nat.le_of_ble_eq_true rfl) (Nat.le_of_ble_eq_true rfl) (co_n zf_293 ?_)
      replace zw := zw1
      refine vr_istore dL_law_1278 (Nat.le_of_ble_eq_true rfl) (vv_eq (ls' := [(0, .ref 22), (1, .ref 128), (2, .ref 185), (3, .ref 219), (4, .int l4), (5, .int v289), (6, .int v294)]) rfl ?_)
      refine vr_aload_n dL_law_1280 rfl rfl ?_
      obtain ⟨v297, s295, zw1, zf_296, zh⟩ := zh
      refine vc_V (As := []) (rest := []) dL_law_1281 cV_LitmusTesterLaw_135 (wC_185 zw) rfl rfl (Nat.le_of_ble_eq_true rfl) (Nat.le_of_ble_eq_true rfl) (co_n zf_296 ?_)
      replace zw := zw1
      refine vr_iload dL_law_1284 rfl ?_
      refine vr_ic_eq dL_law_1286 (tgt := 1291) rfl (fun zd_298 => ?_) (fun zd_298 => ?_)
      · replace zh := zh.1 zd_298
        refine vr_iload dL_law_1291 rfl ?_
        refine vr_if_ne dL_law_1293 (tgt := 1308) rfl (fun zd_299 => ?_) (fun zd_299 => ?_)
        · replace zh := zh.2 zd_299
          refine vr_goto dL_law_1308 (tgt := 2034) rfl ?_
          refine vr_iinc dL_law_2034 (x := l4) (v := (l4 + 6)) rfl (ii_ (by decide)) (Nat.le_of_ble_eq_true rfl) (vv_eq (ls' := [(0, .ref 22), (1, .ref 128), (2, .ref 185), (3, .ref 219), (4, .int (l4 + 6)), (5, .int v289), (6, .int v294)]) rfl ?_)
          refine vr_goto dL_law_2037 (tgt := 23) rfl ?_
          exact vv_sub (ls' := [(0, .ref 22), (1, .ref 128), (2, .ref 185), (3, .ref 219), (4, .int (l4 + 6))]) ⟨rfl, rfl, rfl, rfl, rfl, trivial⟩ zh
        · replace zh := zh.1 zd_299
          refine vr_aload_n dL_law_1296 rfl rfl ?_
          refine vr_iconst dL_law_1297 (v := (0 : Int32)) (by decide) ?_
          refine vr_laload dL_law_1298 (wS_219 zw) (vp_lit rfl) ?_
          refine vv_top (w := .long (st_L s295 219 0)) rfl ?_
          refine vr_iload dL_law_1299 rfl ?_
          refine vr_i2l dL_law_1301 ?_
          refine vr_lcmp dL_law_1302 ?_
          refine vr_if_eq dL_law_1303 (tgt := 1308) rfl (fun zd_300 => ?_) (fun zd_300 => ?_)
          · replace zh := zh.1 ((lg_cmp_eq _ _).mp zd_300)
            refine vr_goto dL_law_1308 (tgt := 2034) rfl ?_
            refine vr_iinc dL_law_2034 (x := l4) (v := (l4 + 6)) rfl (ii_ (by decide)) (Nat.le_of_ble_eq_true rfl) (vv_eq (ls' := [(0, .ref 22), (1, .ref 128), (2, .ref 185), (3, .ref 219), (4, .int (l4 + 6)), (5, .int v289), (6, .int v294)]) rfl ?_)
            refine vr_goto dL_law_2037 (tgt := 23) rfl ?_
            exact vv_sub (ls' := [(0, .ref 22), (1, .ref 128), (2, .ref 185), (3, .ref 219), (4, .int (l4 + 6))]) ⟨rfl, rfl, rfl, rfl, rfl, trivial⟩ zh
          · replace zh := zh.2 (fun z => zd_300 ((lg_cmp_eq _ _).mpr z))
            refine vr_iconst dL_law_1306 (v := (0 : Int32)) (by decide) ?_
            exact vr_zret dL_law_1307 rfl (Or.inl rfl) zh
      · replace zh := zh.2 zd_298
        refine vr_iconst dL_law_1289 (v := (0 : Int32)) (by decide) ?_
        exact vr_zret dL_law_1290 rfl (Or.inl rfl) zh
    replace zh := zh.2
    by_cases zd_49424 : ((ga_X γ l4.toNatClampNeg) &&& (63 : Int32)).toInt = 24
    · replace zh := zh.1 zd_49424
      refine vr_tswIn dL_law_40 (tgt := 1311) zd_494a zd_494b (by rw [zd_49424]; rfl) rfl ?_
      refine vr_aload_n dL_law_1311 rfl rfl ?_
      refine vr_aload_n dL_law_1312 rfl rfl ?_
      refine vr_iload dL_law_1313 rfl ?_
      refine vr_iconst dL_law_1315 (v := (1 : Int32)) (by decide) ?_
      refine vr_iadd dL_law_1316 ?_
      obtain ⟨zi_301, zh⟩ := zh
      refine vr_scrload dL_law_1317 zi_301 ?_
      refine vr_aload_n dL_law_1318 rfl rfl ?_
      refine vr_iload dL_law_1319 rfl ?_
      refine vr_iconst dL_law_1321 (v := (2 : Int32)) (by decide) ?_
      refine vr_iadd dL_law_1322 ?_
      obtain ⟨zi_302, zh⟩ := zh
      refine vr_scrload dL_law_1323 zi_302 ?_
      refine vr_aload_n dL_law_1324 rfl rfl ?_
      obtain ⟨v305, s303, zw1, zf_304, zh⟩ := zh
      refine vc_H (As := [.ref 128, .int (ga_X γ (l4 + (1 : Int32)).toNatClampNeg), .int (ga_X γ (l4 + (2 : Int32)).toNatClampNeg), .ref 219]) (rest := []) dL_law_1325 cH_LitmusTesterLaw_190 rfl rfl (Nat.le_of_ble_eq_true rfl) (Nat.le_of_ble_eq_true rfl) (co_n zf_304 ?_)
      replace zw := zw1
      refine vr_istore dL_law_1328 (Nat.le_of_ble_eq_true rfl) (vv_eq (ls' := [(0, .ref 22), (1, .ref 128), (2, .ref 185), (3, .ref 219), (4, .int l4), (5, .int v305)]) rfl ?_)
      refine vr_aload_n dL_law_1330 rfl rfl ?_
      refine vr_aload_n dL_law_1331 rfl rfl ?_
      refine vr_iload dL_law_1332 rfl ?_
      refine vr_iconst dL_law_1334 (v := (1 : Int32)) (by decide) ?_
      refine vr_iadd dL_law_1335 ?_
      obtain ⟨zi_306, zh⟩ := zh
      refine vr_scrload dL_law_1336 zi_306 ?_
      refine vr_aload_n dL_law_1337 rfl rfl ?_
      refine vr_iload dL_law_1338 rfl ?_
      refine vr_iconst dL_law_1340 (v := (2 : Int32)) (by decide) ?_
      refine vr_iadd dL_law_1341 ?_
      obtain ⟨zi_307, zh⟩ := zh
      refine vr_scrload dL_law_1342 zi_307 ?_
      obtain ⟨v310, s308, zw1, zf_309, zh⟩ := zh
      refine vc_V (As := [.int (ga_X γ (l4 + (1 : Int32)).toNatClampNeg), .int (ga_X γ (l4 + (2 : Int32)).toNatClampNeg)]) (rest := []) dL_law_1343 cV_LitmusTesterLaw_192 (wC_185 zw) rfl rfl (Nat.le_of_ble_eq_true rfl) (Nat.le_of_ble_eq_true rfl) (co_n zf_309 ?_)
      replace zw := zw1
      refine vr_istore dL_law_1346 (Nat.le_of_ble_eq_true rfl) (vv_eq (ls' := [(0, .ref 22), (1, .ref 128), (2, .ref 185), (3, .ref 219), (4, .int l4), (5, .int v305), (6, .int v310)]) rfl ?_)
      refine vr_aload_n dL_law_1348 rfl rfl ?_
      obtain ⟨v313, s311, zw1, zf_312, zh⟩ := zh
      refine vc_V (As := []) (rest := []) dL_law_1349 cV_LitmusTesterLaw_135 (wC_185 zw) rfl rfl (Nat.le_of_ble_eq_true rfl) (Nat.le_of_ble_eq_true rfl) (co_n zf_312 ?_)
      replace zw := zw1
      refine vr_iload dL_law_1352 rfl ?_
      refine vr_ic_eq dL_law_1354 (tgt := 1359) rfl (fun zd_314 => ?_) (fun zd_314 => ?_)
      · replace zh := zh.1 zd_314
        refine vr_iload dL_law_1359 rfl ?_
        refine vr_if_ne dL_law_1361 (tgt := 1383) rfl (fun zd_315 => ?_) (fun zd_315 => ?_)
        · replace zh := zh.2 zd_315
          refine vr_goto dL_law_1383 (tgt := 2034) rfl ?_
          refine vr_iinc dL_law_2034 (x := l4) (v := (l4 + 6)) rfl (ii_ (by decide)) (Nat.le_of_ble_eq_true rfl) (vv_eq (ls' := [(0, .ref 22), (1, .ref 128), (2, .ref 185), (3, .ref 219), (4, .int (l4 + 6)), (5, .int v305), (6, .int v310)]) rfl ?_)
          refine vr_goto dL_law_2037 (tgt := 23) rfl ?_
          exact vv_sub (ls' := [(0, .ref 22), (1, .ref 128), (2, .ref 185), (3, .ref 219), (4, .int (l4 + 6))]) ⟨rfl, rfl, rfl, rfl, rfl, trivial⟩ zh
        · replace zh := zh.1 zd_315
          refine vr_aload_n dL_law_1364 rfl rfl ?_
          refine vr_iconst dL_law_1365 (v := (0 : Int32)) (by decide) ?_
          refine vr_laload dL_law_1366 (wS_219 zw) (vp_lit rfl) ?_
          refine vv_top (w := .long (st_L s311 219 0)) rfl ?_
          refine vr_iload dL_law_1367 rfl ?_
          refine vr_if_eq dL_law_1369 (tgt := 1376) rfl (fun zd_316 => ?_) (fun zd_316 => ?_)
          · replace zh := zh.1 zd_316
            refine vr_lconst dL_law_1376 (v := (0 : Int64)) (by decide) ?_
            refine vr_lcmp dL_law_1377 ?_
            refine vr_if_eq dL_law_1378 (tgt := 1383) rfl (fun zd_317 => ?_) (fun zd_317 => ?_)
            · replace zh := zh.1 ((lg_cmp_eq _ _).mp zd_317)
              refine vr_goto dL_law_1383 (tgt := 2034) rfl ?_
              refine vr_iinc dL_law_2034 (x := l4) (v := (l4 + 6)) rfl (ii_ (by decide)) (Nat.le_of_ble_eq_true rfl) (vv_eq (ls' := [(0, .ref 22), (1, .ref 128), (2, .ref 185), (3, .ref 219), (4, .int (l4 + 6)), (5, .int v305), (6, .int v310)]) rfl ?_)
              refine vr_goto dL_law_2037 (tgt := 23) rfl ?_
              exact vv_sub (ls' := [(0, .ref 22), (1, .ref 128), (2, .ref 185), (3, .ref 219), (4, .int (l4 + 6))]) ⟨rfl, rfl, rfl, rfl, rfl, trivial⟩ zh
            · replace zh := zh.2 (fun z => zd_317 ((lg_cmp_eq _ _).mpr z))
              refine vr_iconst dL_law_1381 (v := (0 : Int32)) (by decide) ?_
              exact vr_zret dL_law_1382 rfl (Or.inl rfl) zh
          · replace zh := zh.2 zd_316
            refine vr_lconst dL_law_1372 (v := (1 : Int64)) (by decide) ?_
            refine vr_goto dL_law_1373 (tgt := 1377) rfl ?_
            refine vr_lcmp dL_law_1377 ?_
            refine vr_if_eq dL_law_1378 (tgt := 1383) rfl (fun zd_318 => ?_) (fun zd_318 => ?_)
            · replace zh := zh.1 ((lg_cmp_eq _ _).mp zd_318)
              refine vr_goto dL_law_1383 (tgt := 2034) rfl ?_
              refine vr_iinc dL_law_2034 (x := l4) (v := (l4 + 6)) rfl (ii_ (by decide)) (Nat.le_of_ble_eq_true rfl) (vv_eq (ls' := [(0, .ref 22), (1, .ref 128), (2, .ref 185), (3, .ref 219), (4, .int (l4 + 6)), (5, .int v305), (6, .int v310)]) rfl ?_)
              refine vr_goto dL_law_2037 (tgt := 23) rfl ?_
              exact vv_sub (ls' := [(0, .ref 22), (1, .ref 128), (2, .ref 185), (3, .ref 219), (4, .int (l4 + 6))]) ⟨rfl, rfl, rfl, rfl, rfl, trivial⟩ zh
            · replace zh := zh.2 (fun z => zd_318 ((lg_cmp_eq _ _).mpr z))
              refine vr_iconst dL_law_1381 (v := (0 : Int32)) (by decide) ?_
              exact vr_zret dL_law_1382 rfl (Or.inl rfl) zh
      · replace zh := zh.2 zd_314
        refine vr_iconst dL_law_1357 (v := (0 : Int32)) (by decide) ?_
        exact vr_zret dL_law_1358 rfl (Or.inl rfl) zh
    replace zh := zh.2
    by_cases zd_49425 : ((ga_X γ l4.toNatClampNeg) &&& (63 : Int32)).toInt = 25
    · replace zh := zh.1 zd_49425
      refine vr_tswIn dL_law_40 (tgt := 1386) zd_494a zd_494b (by rw [zd_49425]; rfl) rfl ?_
      refine vr_aload_n dL_law_1386 rfl rfl ?_
      obtain ⟨v321, s319, zw1, zf_320, zh⟩ := zh
      refine vc_V (As := []) (rest := []) dL_law_1387 cV_LitmusTesterLaw_193 (wC_128 zw) rfl rfl (Nat.le_of_ble_eq_true rfl) (Nat.le_of_ble_eq_true rfl) (co_n zf_320 ?_)
      replace zw := zw1
      refine vr_aload_n dL_law_1390 rfl rfl ?_
      obtain ⟨v324, s322, zw1, zf_323, zh⟩ := zh
      refine vc_V (As := []) (rest := [.int v321]) dL_law_1391 cV_LitmusTesterLaw_196 (wC_185 zw) rfl rfl (Nat.le_of_ble_eq_true rfl) (Nat.le_of_ble_eq_true rfl) (co_n zf_323 ?_)
      replace zw := zw1
      refine vr_ic_eq dL_law_1394 (tgt := 2034) rfl (fun zd_325 => ?_) (fun zd_325 => ?_)
      · replace zh := zh.1 zd_325
        refine vr_iinc dL_law_2034 (x := l4) (v := (l4 + 6)) rfl (ii_ (by decide)) (Nat.le_of_ble_eq_true rfl) (vv_eq (ls' := [(0, .ref 22), (1, .ref 128), (2, .ref 185), (3, .ref 219), (4, .int (l4 + 6))]) rfl ?_)
        refine vr_goto dL_law_2037 (tgt := 23) rfl ?_
        exact vv_sub (ls' := [(0, .ref 22), (1, .ref 128), (2, .ref 185), (3, .ref 219), (4, .int (l4 + 6))]) ⟨rfl, rfl, rfl, rfl, rfl, trivial⟩ zh
      · replace zh := zh.2 zd_325
        refine vr_iconst dL_law_1397 (v := (0 : Int32)) (by decide) ?_
        exact vr_zret dL_law_1398 rfl (Or.inl rfl) zh
    replace zh := zh.2
    by_cases zd_49426 : ((ga_X γ l4.toNatClampNeg) &&& (63 : Int32)).toInt = 26
    · replace zh := zh.1 zd_49426
      refine vr_tswIn dL_law_40 (tgt := 1399) zd_494a zd_494b (by rw [zd_49426]; rfl) rfl ?_
      refine vr_aload_n dL_law_1399 rfl rfl ?_
      obtain ⟨v328, s326, zw1, zf_327, zh⟩ := zh
      refine vc_V (As := []) (rest := []) dL_law_1400 cV_LitmusTesterLaw_197 (wC_128 zw) rfl rfl (Nat.le_of_ble_eq_true rfl) (Nat.le_of_ble_eq_true rfl) (co_n zf_327 ?_)
      replace zw := zw1
      refine vr_aload_n dL_law_1403 rfl rfl ?_
      obtain ⟨v331, s329, zw1, zf_330, zh⟩ := zh
      refine vc_V (As := []) (rest := [.int v328]) dL_law_1404 cV_LitmusTesterLaw_200 (wC_185 zw) rfl rfl (Nat.le_of_ble_eq_true rfl) (Nat.le_of_ble_eq_true rfl) (co_n zf_330 ?_)
      replace zw := zw1
      refine vr_ic_eq dL_law_1407 (tgt := 2034) rfl (fun zd_332 => ?_) (fun zd_332 => ?_)
      · replace zh := zh.1 zd_332
        refine vr_iinc dL_law_2034 (x := l4) (v := (l4 + 6)) rfl (ii_ (by decide)) (Nat.le_of_ble_eq_true rfl) (vv_eq (ls' := [(0, .ref 22), (1, .ref 128), (2, .ref 185), (3, .ref 219), (4, .int (l4 + 6))]) rfl ?_)
        refine vr_goto dL_law_2037 (tgt := 23) rfl ?_
        exact vv_sub (ls' := [(0, .ref 22), (1, .ref 128), (2, .ref 185), (3, .ref 219), (4, .int (l4 + 6))]) ⟨rfl, rfl, rfl, rfl, rfl, trivial⟩ zh
      · replace zh := zh.2 zd_332
        refine vr_iconst dL_law_1410 (v := (0 : Int32)) (by decide) ?_
        exact vr_zret dL_law_1411 rfl (Or.inl rfl) zh
    replace zh := zh.2
    by_cases zd_49427 : ((ga_X γ l4.toNatClampNeg) &&& (63 : Int32)).toInt = 27
    · replace zh := zh.1 zd_49427
      refine vr_tswIn dL_law_40 (tgt := 1412) zd_494a zd_494b (by rw [zd_49427]; rfl) rfl ?_
      refine vr_aload_n dL_law_1412 rfl rfl ?_
      refine vr_aload_n dL_law_1413 rfl rfl ?_
      refine vr_iload dL_law_1414 rfl ?_
      refine vr_iconst dL_law_1416 (v := (1 : Int32)) (by decide) ?_
      refine vr_iadd dL_law_1417 ?_
      obtain ⟨zi_333, zh⟩ := zh
      refine vr_scrload dL_law_1418 zi_333 ?_
      obtain ⟨v336, s334, zw1, zf_335, zh⟩ := zh
      refine vc_V (As := [.int (ga_X γ (l4 + (1 : Int32)).toNatClampNeg)]) (rest := []) dL_law_1419 cV_LitmusTesterLaw_201 (wC_128 zw) rfl rfl (Nat.le_of_ble_eq_true rfl) (Nat.le_of_ble_eq_true rfl) (co_n zf_335 ?_)
      replace zw := zw1
      refine vr_aload_n dL_law_1422 rfl rfl ?_
      refine vr_aload_n dL_law_1423 rfl rfl ?_
      refine vr_iload dL_law_1424 rfl ?_
      refine vr_iconst dL_law_1426 (v := (1 : Int32)) (by decide) ?_
      refine vr_iadd dL_law_1427 ?_
      obtain ⟨zi_337, zh⟩ := zh
      refine vr_scrload dL_law_1428 zi_337 ?_
      obtain ⟨v340, s338, zw1, zf_339, zh⟩ := zh
      refine vc_V (As := [.int (ga_X γ (l4 + (1 : Int32)).toNatClampNeg)]) (rest := [.int v336]) dL_law_1429 cV_LitmusTesterLaw_204 (wC_185 zw) rfl rfl (Nat.le_of_ble_eq_true rfl) (Nat.le_of_ble_eq_true rfl) (co_n zf_339 ?_)
      replace zw := zw1
      refine vr_ic_eq dL_law_1432 (tgt := 2034) rfl (fun zd_341 => ?_) (fun zd_341 => ?_)
      · replace zh := zh.1 zd_341
        refine vr_iinc dL_law_2034 (x := l4) (v := (l4 + 6)) rfl (ii_ (by decide)) (Nat.le_of_ble_eq_true rfl) (vv_eq (ls' := [(0, .ref 22), (1, .ref 128), (2, .ref 185), (3, .ref 219), (4, .int (l4 + 6))]) rfl ?_)
        refine vr_goto dL_law_2037 (tgt := 23) rfl ?_
        exact vv_sub (ls' := [(0, .ref 22), (1, .ref 128), (2, .ref 185), (3, .ref 219), (4, .int (l4 + 6))]) ⟨rfl, rfl, rfl, rfl, rfl, trivial⟩ zh
      · replace zh := zh.2 zd_341
        refine vr_iconst dL_law_1435 (v := (0 : Int32)) (by decide) ?_
        exact vr_zret dL_law_1436 rfl (Or.inl rfl) zh
    replace zh := zh.2
    by_cases zd_49428 : ((ga_X γ l4.toNatClampNeg) &&& (63 : Int32)).toInt = 28
    · replace zh := zh.1 zd_49428
      refine vr_tswIn dL_law_40 (tgt := 1437) zd_494a zd_494b (by rw [zd_49428]; rfl) rfl ?_
      refine vr_aload_n dL_law_1437 rfl rfl ?_
      refine vr_aload_n dL_law_1438 rfl rfl ?_
      refine vr_iload dL_law_1439 rfl ?_
      refine vr_iconst dL_law_1441 (v := (1 : Int32)) (by decide) ?_
      refine vr_iadd dL_law_1442 ?_
      obtain ⟨zi_342, zh⟩ := zh
      refine vr_scrload dL_law_1443 zi_342 ?_
      refine vr_aload_n dL_law_1444 rfl rfl ?_
      refine vr_iload dL_law_1445 rfl ?_
      refine vr_iconst dL_law_1447 (v := (2 : Int32)) (by decide) ?_
      refine vr_iadd dL_law_1448 ?_
      obtain ⟨zi_343, zh⟩ := zh
      refine vr_scrload dL_law_1449 zi_343 ?_
      refine vr_aload_n dL_law_1450 rfl rfl ?_
      obtain ⟨v346, s344, zw1, zf_345, zh⟩ := zh
      refine vc_H (As := [.ref 128, .int (ga_X γ (l4 + (1 : Int32)).toNatClampNeg), .int (ga_X γ (l4 + (2 : Int32)).toNatClampNeg), .ref 219]) (rest := []) dL_law_1451 cH_LitmusTesterLaw_205 rfl rfl (Nat.le_of_ble_eq_true rfl) (Nat.le_of_ble_eq_true rfl) (co_n zf_345 ?_)
      replace zw := zw1
      refine vr_istore dL_law_1454 (Nat.le_of_ble_eq_true rfl) (vv_eq (ls' := [(0, .ref 22), (1, .ref 128), (2, .ref 185), (3, .ref 219), (4, .int l4), (5, .int v346)]) rfl ?_)
      refine vr_aload_n dL_law_1456 rfl rfl ?_
      refine vr_aload_n dL_law_1457 rfl rfl ?_
      refine vr_iload dL_law_1458 rfl ?_
      refine vr_iconst dL_law_1460 (v := (1 : Int32)) (by decide) ?_
      refine vr_iadd dL_law_1461 ?_
      obtain ⟨zi_347, zh⟩ := zh
      refine vr_scrload dL_law_1462 zi_347 ?_
      refine vr_aload_n dL_law_1463 rfl rfl ?_
      refine vr_iload dL_law_1464 rfl ?_
      refine vr_iconst dL_law_1466 (v := (2 : Int32)) (by decide) ?_
      refine vr_iadd dL_law_1467 ?_
      obtain ⟨zi_348, zh⟩ := zh
      refine vr_scrload dL_law_1468 zi_348 ?_
      obtain ⟨v351, s349, zw1, zf_350, zh⟩ := zh
      refine vc_V (As := [.int (ga_X γ (l4 + (1 : Int32)).toNatClampNeg), .int (ga_X γ (l4 + (2 : Int32)).toNatClampNeg)]) (rest := []) dL_law_1469 cV_LitmusTesterLaw_207 (wC_185 zw) rfl rfl (Nat.le_of_ble_eq_true rfl) (Nat.le_of_ble_eq_true rfl) (co_n zf_350 ?_)
      replace zw := zw1
      refine vr_istore dL_law_1472 (Nat.le_of_ble_eq_true rfl) (vv_eq (ls' := [(0, .ref 22), (1, .ref 128), (2, .ref 185), (3, .ref 219), (4, .int l4), (5, .int v346), (6, .int v351)]) rfl ?_)
      refine vr_aload_n dL_law_1474 rfl rfl ?_
      obtain ⟨v354, s352, zw1, zf_353, zh⟩ := zh
      refine vc_V (As := []) (rest := []) dL_law_1475 cV_LitmusTesterLaw_135 (wC_185 zw) rfl rfl (Nat.le_of_ble_eq_true rfl) (Nat.le_of_ble_eq_true rfl) (co_n zf_353 ?_)
      replace zw := zw1
      refine vr_iload dL_law_1478 rfl ?_
      refine vr_ic_eq dL_law_1480 (tgt := 1485) rfl (fun zd_355 => ?_) (fun zd_355 => ?_)
      · replace zh := zh.1 zd_355
        refine vr_iload dL_law_1485 rfl ?_
        refine vr_if_ne dL_law_1487 (tgt := 1502) rfl (fun zd_356 => ?_) (fun zd_356 => ?_)
        · replace zh := zh.2 zd_356
          refine vr_goto dL_law_1502 (tgt := 2034) rfl ?_
          refine vr_iinc dL_law_2034 (x := l4) (v := (l4 + 6)) rfl (ii_ (by decide)) (Nat.le_of_ble_eq_true rfl) (vv_eq (ls' := [(0, .ref 22), (1, .ref 128), (2, .ref 185), (3, .ref 219), (4, .int (l4 + 6)), (5, .int v346), (6, .int v351)]) rfl ?_)
          refine vr_goto dL_law_2037 (tgt := 23) rfl ?_
          exact vv_sub (ls' := [(0, .ref 22), (1, .ref 128), (2, .ref 185), (3, .ref 219), (4, .int (l4 + 6))]) ⟨rfl, rfl, rfl, rfl, rfl, trivial⟩ zh
        · replace zh := zh.1 zd_356
          refine vr_aload_n dL_law_1490 rfl rfl ?_
          refine vr_iconst dL_law_1491 (v := (0 : Int32)) (by decide) ?_
          refine vr_laload dL_law_1492 (wS_219 zw) (vp_lit rfl) ?_
          refine vv_top (w := .long (st_L s352 219 0)) rfl ?_
          refine vr_iload dL_law_1493 rfl ?_
          refine vr_i2l dL_law_1495 ?_
          refine vr_lcmp dL_law_1496 ?_
          refine vr_if_eq dL_law_1497 (tgt := 1502) rfl (fun zd_357 => ?_) (fun zd_357 => ?_)
          · replace zh := zh.1 ((lg_cmp_eq _ _).mp zd_357)
            refine vr_goto dL_law_1502 (tgt := 2034) rfl ?_
            refine vr_iinc dL_law_2034 (x := l4) (v := (l4 + 6)) rfl (ii_ (by decide)) (Nat.le_of_ble_eq_true rfl) (vv_eq (ls' := [(0, .ref 22), (1, .ref 128), (2, .ref 185), (3, .ref 219), (4, .int (l4 + 6)), (5, .int v346), (6, .int v351)]) rfl ?_)
            refine vr_goto dL_law_2037 (tgt := 23) rfl ?_
            exact vv_sub (ls' := [(0, .ref 22), (1, .ref 128), (2, .ref 185), (3, .ref 219), (4, .int (l4 + 6))]) ⟨rfl, rfl, rfl, rfl, rfl, trivial⟩ zh
          · replace zh := zh.2 (fun z => zd_357 ((lg_cmp_eq _ _).mpr z))
            refine vr_iconst dL_law_1500 (v := (0 : Int32)) (by decide) ?_
            exact vr_zret dL_law_1501 rfl (Or.inl rfl) zh
      · replace zh := zh.2 zd_355
        refine vr_iconst dL_law_1483 (v := (0 : Int32)) (by decide) ?_
        exact vr_zret dL_law_1484 rfl (Or.inl rfl) zh
    replace zh := zh.2
    by_cases zd_49429 : ((ga_X γ l4.toNatClampNeg) &&& (63 : Int32)).toInt = 29
    · replace zh := zh.1 zd_49429
      refine vr_tswIn dL_law_40 (tgt := 1505) zd_494a zd_494b (by rw [zd_49429]; rfl) rfl ?_
      refine vr_aload_n dL_law_1505 rfl rfl ?_
      refine vr_aload_n dL_law_1506 rfl rfl ?_
      refine vr_iload dL_law_1507 rfl ?_
      refine vr_iconst dL_law_1509 (v := (1 : Int32)) (by decide) ?_
      refine vr_iadd dL_law_1510 ?_
      obtain ⟨zi_358, zh⟩ := zh
      refine vr_scrload dL_law_1511 zi_358 ?_
      refine vr_aload_n dL_law_1512 rfl rfl ?_
      obtain ⟨v361, s359, zw1, zf_360, zh⟩ := zh
      refine vc_H (As := [.ref 128, .int (ga_X γ (l4 + (1 : Int32)).toNatClampNeg), .ref 219]) (rest := []) dL_law_1513 cH_LitmusTesterLaw_208 rfl rfl (Nat.le_of_ble_eq_true rfl) (Nat.le_of_ble_eq_true rfl) (co_n zf_360 ?_)
      replace zw := zw1
      refine vr_istore dL_law_1516 (Nat.le_of_ble_eq_true rfl) (vv_eq (ls' := [(0, .ref 22), (1, .ref 128), (2, .ref 185), (3, .ref 219), (4, .int l4), (5, .int v361)]) rfl ?_)
      refine vr_aload_n dL_law_1518 rfl rfl ?_
      refine vr_aload_n dL_law_1519 rfl rfl ?_
      refine vr_iload dL_law_1520 rfl ?_
      refine vr_iconst dL_law_1522 (v := (1 : Int32)) (by decide) ?_
      refine vr_iadd dL_law_1523 ?_
      obtain ⟨zi_362, zh⟩ := zh
      refine vr_scrload dL_law_1524 zi_362 ?_
      obtain ⟨v365, s363, zw1, zf_364, zh⟩ := zh
      refine vc_V (As := [.int (ga_X γ (l4 + (1 : Int32)).toNatClampNeg)]) (rest := []) dL_law_1525 cV_LitmusTesterLaw_210 (wC_185 zw) rfl rfl (Nat.le_of_ble_eq_true rfl) (Nat.le_of_ble_eq_true rfl) (co_n zf_364 ?_)
      replace zw := zw1
      refine vr_istore dL_law_1528 (Nat.le_of_ble_eq_true rfl) (vv_eq (ls' := [(0, .ref 22), (1, .ref 128), (2, .ref 185), (3, .ref 219), (4, .int l4), (5, .int v361), (6, .int v365)]) rfl ?_)
      refine vr_aload_n dL_law_1530 rfl rfl ?_
      obtain ⟨v368, s366, zw1, zf_367, zh⟩ := zh
      refine vc_V (As := []) (rest := []) dL_law_1531 cV_LitmusTesterLaw_135 (wC_185 zw) rfl rfl (Nat.le_of_ble_eq_true rfl) (Nat.le_of_ble_eq_true rfl) (co_n zf_367 ?_)
      replace zw := zw1
      refine vr_iload dL_law_1534 rfl ?_
      refine vr_ic_eq dL_law_1536 (tgt := 1541) rfl (fun zd_369 => ?_) (fun zd_369 => ?_)
      · replace zh := zh.1 zd_369
        refine vr_iload dL_law_1541 rfl ?_
        refine vr_if_ne dL_law_1543 (tgt := 1558) rfl (fun zd_370 => ?_) (fun zd_370 => ?_)
        · replace zh := zh.2 zd_370
          refine vr_goto dL_law_1558 (tgt := 2034) rfl ?_
          refine vr_iinc dL_law_2034 (x := l4) (v := (l4 + 6)) rfl (ii_ (by decide)) (Nat.le_of_ble_eq_true rfl) (vv_eq (ls' := [(0, .ref 22), (1, .ref 128), (2, .ref 185), (3, .ref 219), (4, .int (l4 + 6)), (5, .int v361), (6, .int v365)]) rfl ?_)
          refine vr_goto dL_law_2037 (tgt := 23) rfl ?_
          exact vv_sub (ls' := [(0, .ref 22), (1, .ref 128), (2, .ref 185), (3, .ref 219), (4, .int (l4 + 6))]) ⟨rfl, rfl, rfl, rfl, rfl, trivial⟩ zh
        · replace zh := zh.1 zd_370
          refine vr_aload_n dL_law_1546 rfl rfl ?_
          refine vr_iconst dL_law_1547 (v := (0 : Int32)) (by decide) ?_
          refine vr_laload dL_law_1548 (wS_219 zw) (vp_lit rfl) ?_
          refine vv_top (w := .long (st_L s366 219 0)) rfl ?_
          refine vr_iload dL_law_1549 rfl ?_
          refine vr_i2l dL_law_1551 ?_
          refine vr_lcmp dL_law_1552 ?_
          refine vr_if_eq dL_law_1553 (tgt := 1558) rfl (fun zd_371 => ?_) (fun zd_371 => ?_)
          · replace zh := zh.1 ((lg_cmp_eq _ _).mp zd_371)
            refine vr_goto dL_law_1558 (tgt := 2034) rfl ?_
            refine vr_iinc dL_law_2034 (x := l4) (v := (l4 + 6)) rfl (ii_ (by decide)) (Nat.le_of_ble_eq_true rfl) (vv_eq (ls' := [(0, .ref 22), (1, .ref 128), (2, .ref 185), (3, .ref 219), (4, .int (l4 + 6)), (5, .int v361), (6, .int v365)]) rfl ?_)
            refine vr_goto dL_law_2037 (tgt := 23) rfl ?_
            exact vv_sub (ls' := [(0, .ref 22), (1, .ref 128), (2, .ref 185), (3, .ref 219), (4, .int (l4 + 6))]) ⟨rfl, rfl, rfl, rfl, rfl, trivial⟩ zh
          · replace zh := zh.2 (fun z => zd_371 ((lg_cmp_eq _ _).mpr z))
            refine vr_iconst dL_law_1556 (v := (0 : Int32)) (by decide) ?_
            exact vr_zret dL_law_1557 rfl (Or.inl rfl) zh
      · replace zh := zh.2 zd_369
        refine vr_iconst dL_law_1539 (v := (0 : Int32)) (by decide) ?_
        exact vr_zret dL_law_1540 rfl (Or.inl rfl) zh
    replace zh := zh.2
    by_cases zd_49430 : ((ga_X γ l4.toNatClampNeg) &&& (63 : Int32)).toInt = 30
    · replace zh := zh.1 zd_49430
      refine vr_tswIn dL_law_40 (tgt := 1561) zd_494a zd_494b (by rw [zd_49430]; rfl) rfl ?_
      refine vr_aload_n dL_law_1561 rfl rfl ?_
      refine vr_aload_n dL_law_1562 rfl rfl ?_
      refine vr_iload dL_law_1563 rfl ?_
      refine vr_iconst dL_law_1565 (v := (1 : Int32)) (by decide) ?_
      refine vr_iadd dL_law_1566 ?_
      obtain ⟨zi_372, zh⟩ := zh
      refine vr_scrload dL_law_1567 zi_372 ?_
      refine vr_aload_n dL_law_1568 rfl rfl ?_
      obtain ⟨v375, s373, zw1, zf_374, zh⟩ := zh
      refine vc_H (As := [.ref 128, .int (ga_X γ (l4 + (1 : Int32)).toNatClampNeg), .ref 219]) (rest := []) dL_law_1569 cH_LitmusTesterLaw_211 rfl rfl (Nat.le_of_ble_eq_true rfl) (Nat.le_of_ble_eq_true rfl) (co_n zf_374 ?_)
      replace zw := zw1
      refine vr_istore dL_law_1572 (Nat.le_of_ble_eq_true rfl) (vv_eq (ls' := [(0, .ref 22), (1, .ref 128), (2, .ref 185), (3, .ref 219), (4, .int l4), (5, .int v375)]) rfl ?_)
      refine vr_aload_n dL_law_1574 rfl rfl ?_
      refine vr_aload_n dL_law_1575 rfl rfl ?_
      refine vr_iload dL_law_1576 rfl ?_
      refine vr_iconst dL_law_1578 (v := (1 : Int32)) (by decide) ?_
      refine vr_iadd dL_law_1579 ?_
      obtain ⟨zi_376, zh⟩ := zh
      refine vr_scrload dL_law_1580 zi_376 ?_
      obtain ⟨v379, s377, zw1, zf_378, zh⟩ := zh
      refine vc_V (As := [.int (ga_X γ (l4 + (1 : Int32)).toNatClampNeg)]) (rest := []) dL_law_1581 cV_LitmusTesterLaw_213 (wC_185 zw) rfl rfl (Nat.le_of_ble_eq_true rfl) (Nat.le_of_ble_eq_true rfl) (co_n zf_378 ?_)
      replace zw := zw1
      refine vr_istore dL_law_1584 (Nat.le_of_ble_eq_true rfl) (vv_eq (ls' := [(0, .ref 22), (1, .ref 128), (2, .ref 185), (3, .ref 219), (4, .int l4), (5, .int v375), (6, .int v379)]) rfl ?_)
      refine vr_aload_n dL_law_1586 rfl rfl ?_
      obtain ⟨v382, s380, zw1, zf_381, zh⟩ := zh
      refine vc_V (As := []) (rest := []) dL_law_1587 cV_LitmusTesterLaw_135 (wC_185 zw) rfl rfl (Nat.le_of_ble_eq_true rfl) (Nat.le_of_ble_eq_true rfl) (co_n zf_381 ?_)
      replace zw := zw1
      refine vr_iload dL_law_1590 rfl ?_
      refine vr_ic_eq dL_law_1592 (tgt := 1597) rfl (fun zd_383 => ?_) (fun zd_383 => ?_)
      · replace zh := zh.1 zd_383
        refine vr_iload dL_law_1597 rfl ?_
        refine vr_if_ne dL_law_1599 (tgt := 1614) rfl (fun zd_384 => ?_) (fun zd_384 => ?_)
        · replace zh := zh.2 zd_384
          refine vr_goto dL_law_1614 (tgt := 2034) rfl ?_
          refine vr_iinc dL_law_2034 (x := l4) (v := (l4 + 6)) rfl (ii_ (by decide)) (Nat.le_of_ble_eq_true rfl) (vv_eq (ls' := [(0, .ref 22), (1, .ref 128), (2, .ref 185), (3, .ref 219), (4, .int (l4 + 6)), (5, .int v375), (6, .int v379)]) rfl ?_)
          refine vr_goto dL_law_2037 (tgt := 23) rfl ?_
          exact vv_sub (ls' := [(0, .ref 22), (1, .ref 128), (2, .ref 185), (3, .ref 219), (4, .int (l4 + 6))]) ⟨rfl, rfl, rfl, rfl, rfl, trivial⟩ zh
        · replace zh := zh.1 zd_384
          refine vr_aload_n dL_law_1602 rfl rfl ?_
          refine vr_iconst dL_law_1603 (v := (0 : Int32)) (by decide) ?_
          refine vr_laload dL_law_1604 (wS_219 zw) (vp_lit rfl) ?_
          refine vv_top (w := .long (st_L s380 219 0)) rfl ?_
          refine vr_iload dL_law_1605 rfl ?_
          refine vr_i2l dL_law_1607 ?_
          refine vr_lcmp dL_law_1608 ?_
          refine vr_if_eq dL_law_1609 (tgt := 1614) rfl (fun zd_385 => ?_) (fun zd_385 => ?_)
          · replace zh := zh.1 ((lg_cmp_eq _ _).mp zd_385)
            refine vr_goto dL_law_1614 (tgt := 2034) rfl ?_
            refine vr_iinc dL_law_2034 (x := l4) (v := (l4 + 6)) rfl (ii_ (by decide)) (Nat.le_of_ble_eq_true rfl) (vv_eq (ls' := [(0, .ref 22), (1, .ref 128), (2, .ref 185), (3, .ref 219), (4, .int (l4 + 6)), (5, .int v375), (6, .int v379)]) rfl ?_)
            refine vr_goto dL_law_2037 (tgt := 23) rfl ?_
            exact vv_sub (ls' := [(0, .ref 22), (1, .ref 128), (2, .ref 185), (3, .ref 219), (4, .int (l4 + 6))]) ⟨rfl, rfl, rfl, rfl, rfl, trivial⟩ zh
          · replace zh := zh.2 (fun z => zd_385 ((lg_cmp_eq _ _).mpr z))
            refine vr_iconst dL_law_1612 (v := (0 : Int32)) (by decide) ?_
            exact vr_zret dL_law_1613 rfl (Or.inl rfl) zh
      · replace zh := zh.2 zd_383
        refine vr_iconst dL_law_1595 (v := (0 : Int32)) (by decide) ?_
        exact vr_zret dL_law_1596 rfl (Or.inl rfl) zh
    replace zh := zh.2
    by_cases zd_49431 : ((ga_X γ l4.toNatClampNeg) &&& (63 : Int32)).toInt = 31
    · replace zh := zh.1 zd_49431
      refine vr_tswIn dL_law_40 (tgt := 1617) zd_494a zd_494b (by rw [zd_49431]; rfl) rfl ?_
      refine vr_aload_n dL_law_1617 rfl rfl ?_
      refine vr_aload_n dL_law_1618 rfl rfl ?_
      refine vr_iload dL_law_1619 rfl ?_
      refine vr_iconst dL_law_1621 (v := (1 : Int32)) (by decide) ?_
      refine vr_iadd dL_law_1622 ?_
      obtain ⟨zi_386, zh⟩ := zh
      refine vr_scrload dL_law_1623 zi_386 ?_
      refine vr_aload_n dL_law_1624 rfl rfl ?_
      refine vr_iload dL_law_1625 rfl ?_
      refine vr_iconst dL_law_1627 (v := (2 : Int32)) (by decide) ?_
      refine vr_iadd dL_law_1628 ?_
      obtain ⟨zi_387, zh⟩ := zh
      refine vr_scrload dL_law_1629 zi_387 ?_
      refine vr_aload_n dL_law_1630 rfl rfl ?_
      obtain ⟨v390, s388, zw1, zf_389, zh⟩ := zh
      refine vc_H (As := [.ref 128, .int (ga_X γ (l4 + (1 : Int32)).toNatClampNeg), .int (ga_X γ (l4 + (2 : Int32)).toNatClampNeg), .ref 219]) (rest := []) dL_law_1631 cH_LitmusTesterLaw_214 rfl rfl (Nat.le_of_ble_eq_true rfl) (Nat.le_of_ble_eq_true rfl) (co_n zf_389 ?_)
      replace zw := zw1
      refine vr_istore dL_law_1634 (Nat.le_of_ble_eq_true rfl) (vv_eq (ls' := [(0, .ref 22), (1, .ref 128), (2, .ref 185), (3, .ref 219), (4, .int l4), (5, .int v390)]) rfl ?_)
      refine vr_aload_n dL_law_1636 rfl rfl ?_
      refine vr_aload_n dL_law_1637 rfl rfl ?_
      refine vr_iload dL_law_1638 rfl ?_
      refine vr_iconst dL_law_1640 (v := (1 : Int32)) (by decide) ?_
      refine vr_iadd dL_law_1641 ?_
      obtain ⟨zi_391, zh⟩ := zh
      refine vr_scrload dL_law_1642 zi_391 ?_
      refine vr_aload_n dL_law_1643 rfl rfl ?_
      refine vr_iload dL_law_1644 rfl ?_
      refine vr_iconst dL_law_1646 (v := (2 : Int32)) (by decide) ?_
      refine vr_iadd dL_law_1647 ?_
      obtain ⟨zi_392, zh⟩ := zh
      refine vr_scrload dL_law_1648 zi_392 ?_
      obtain ⟨v395, s393, zw1, zf_394, zh⟩ := zh
      refine vc_V (As := [.int (ga_X γ (l4 + (1 : Int32)).toNatClampNeg), .int (ga_X γ (l4 + (2 : Int32)).toNatClampNeg)]) (rest := []) dL_law_1649 cV_LitmusTesterLaw_216 (wC_185 zw) rfl rfl (Nat.le_of_ble_eq_true rfl) (Nat.le_of_ble_eq_true rfl) (co_n zf_394 ?_)
      replace zw := zw1
      refine vr_istore dL_law_1652 (Nat.le_of_ble_eq_true rfl) (vv_eq (ls' := [(0, .ref 22), (1, .ref 128), (2, .ref 185), (3, .ref 219), (4, .int l4), (5, .int v390), (6, .int v395)]) rfl ?_)
      refine vr_aload_n dL_law_1654 rfl rfl ?_
      obtain ⟨v398, s396, zw1, zf_397, zh⟩ := zh
      refine vc_V (As := []) (rest := []) dL_law_1655 cV_LitmusTesterLaw_135 (wC_185 zw) rfl rfl (Nat.le_of_ble_eq_true rfl) (Nat.le_of_ble_eq_true rfl) (co_n zf_397 ?_)
      replace zw := zw1
      refine vr_iload dL_law_1658 rfl ?_
      refine vr_ic_eq dL_law_1660 (tgt := 1665) rfl (fun zd_399 => ?_) (fun zd_399 => ?_)
      · replace zh := zh.1 zd_399
        refine vr_iload dL_law_1665 rfl ?_
        refine vr_if_ne dL_law_1667 (tgt := 1689) rfl (fun zd_400 => ?_) (fun zd_400 => ?_)
        · replace zh := zh.2 zd_400
          refine vr_goto dL_law_1689 (tgt := 2034) rfl ?_
          refine vr_iinc dL_law_2034 (x := l4) (v := (l4 + 6)) rfl (ii_ (by decide)) (Nat.le_of_ble_eq_true rfl) (vv_eq (ls' := [(0, .ref 22), (1, .ref 128), (2, .ref 185), (3, .ref 219), (4, .int (l4 + 6)), (5, .int v390), (6, .int v395)]) rfl ?_)
          refine vr_goto dL_law_2037 (tgt := 23) rfl ?_
          exact vv_sub (ls' := [(0, .ref 22), (1, .ref 128), (2, .ref 185), (3, .ref 219), (4, .int (l4 + 6))]) ⟨rfl, rfl, rfl, rfl, rfl, trivial⟩ zh
        · replace zh := zh.1 zd_400
          refine vr_aload_n dL_law_1670 rfl rfl ?_
          refine vr_iconst dL_law_1671 (v := (0 : Int32)) (by decide) ?_
          refine vr_laload dL_law_1672 (wS_219 zw) (vp_lit rfl) ?_
          refine vv_top (w := .long (st_L s396 219 0)) rfl ?_
          refine vr_iload dL_law_1673 rfl ?_
          refine vr_if_eq dL_law_1675 (tgt := 1682) rfl (fun zd_401 => ?_) (fun zd_401 => ?_)
          · replace zh := zh.1 zd_401
            refine vr_lconst dL_law_1682 (v := (0 : Int64)) (by decide) ?_
            refine vr_lcmp dL_law_1683 ?_
            refine vr_if_eq dL_law_1684 (tgt := 1689) rfl (fun zd_402 => ?_) (fun zd_402 => ?_)
            · replace zh := zh.1 ((lg_cmp_eq _ _).mp zd_402)
              refine vr_goto dL_law_1689 (tgt := 2034) rfl ?_
              refine vr_iinc dL_law_2034 (x := l4) (v := (l4 + 6)) rfl (ii_ (by decide)) (Nat.le_of_ble_eq_true rfl) (vv_eq (ls' := [(0, .ref 22), (1, .ref 128), (2, .ref 185), (3, .ref 219), (4, .int (l4 + 6)), (5, .int v390), (6, .int v395)]) rfl ?_)
              refine vr_goto dL_law_2037 (tgt := 23) rfl ?_
              exact vv_sub (ls' := [(0, .ref 22), (1, .ref 128), (2, .ref 185), (3, .ref 219), (4, .int (l4 + 6))]) ⟨rfl, rfl, rfl, rfl, rfl, trivial⟩ zh
            · replace zh := zh.2 (fun z => zd_402 ((lg_cmp_eq _ _).mpr z))
              refine vr_iconst dL_law_1687 (v := (0 : Int32)) (by decide) ?_
              exact vr_zret dL_law_1688 rfl (Or.inl rfl) zh
          · replace zh := zh.2 zd_401
            refine vr_lconst dL_law_1678 (v := (1 : Int64)) (by decide) ?_
            refine vr_goto dL_law_1679 (tgt := 1683) rfl ?_
            refine vr_lcmp dL_law_1683 ?_
            refine vr_if_eq dL_law_1684 (tgt := 1689) rfl (fun zd_403 => ?_) (fun zd_403 => ?_)
            · replace zh := zh.1 ((lg_cmp_eq _ _).mp zd_403)
              refine vr_goto dL_law_1689 (tgt := 2034) rfl ?_
              refine vr_iinc dL_law_2034 (x := l4) (v := (l4 + 6)) rfl (ii_ (by decide)) (Nat.le_of_ble_eq_true rfl) (vv_eq (ls' := [(0, .ref 22), (1, .ref 128), (2, .ref 185), (3, .ref 219), (4, .int (l4 + 6)), (5, .int v390), (6, .int v395)]) rfl ?_)
              refine vr_goto dL_law_2037 (tgt := 23) rfl ?_
              exact vv_sub (ls' := [(0, .ref 22), (1, .ref 128), (2, .ref 185), (3, .ref 219), (4, .int (l4 + 6))]) ⟨rfl, rfl, rfl, rfl, rfl, trivial⟩ zh
            · replace zh := zh.2 (fun z => zd_403 ((lg_cmp_eq _ _).mpr z))
              refine vr_iconst dL_law_1687 (v := (0 : Int32)) (by decide) ?_
              exact vr_zret dL_law_1688 rfl (Or.inl rfl) zh
      · replace zh := zh.2 zd_399
        refine vr_iconst dL_law_1663 (v := (0 : Int32)) (by decide) ?_
        exact vr_zret dL_law_1664 rfl (Or.inl rfl) zh
    replace zh := zh.2
    by_cases zd_49432 : ((ga_X γ l4.toNatClampNeg) &&& (63 : Int32)).toInt = 32
    · replace zh := zh.1 zd_49432
      refine vr_tswIn dL_law_40 (tgt := 1692) zd_494a zd_494b (by rw [zd_49432]; rfl) rfl ?_
      refine vr_aload_n dL_law_1692 rfl rfl ?_
      refine vr_aload_n dL_law_1693 rfl rfl ?_
      refine vr_iload dL_law_1694 rfl ?_
      refine vr_iconst dL_law_1696 (v := (1 : Int32)) (by decide) ?_
      refine vr_iadd dL_law_1697 ?_
      obtain ⟨zi_404, zh⟩ := zh
      refine vr_scrload dL_law_1698 zi_404 ?_
      refine vr_aload_n dL_law_1699 rfl rfl ?_
      obtain ⟨v407, s405, zw1, zf_406, zh⟩ := zh
      refine vc_H (As := [.ref 128, .int (ga_X γ (l4 + (1 : Int32)).toNatClampNeg), .ref 219]) (rest := []) dL_law_1700 cH_LitmusTesterLaw_217 rfl rfl (Nat.le_of_ble_eq_true rfl) (Nat.le_of_ble_eq_true rfl) (co_n zf_406 ?_)
      replace zw := zw1
      refine vr_istore dL_law_1703 (Nat.le_of_ble_eq_true rfl) (vv_eq (ls' := [(0, .ref 22), (1, .ref 128), (2, .ref 185), (3, .ref 219), (4, .int l4), (5, .int v407)]) rfl ?_)
      refine vr_aload_n dL_law_1705 rfl rfl ?_
      refine vr_aload_n dL_law_1706 rfl rfl ?_
      refine vr_iload dL_law_1707 rfl ?_
      refine vr_iconst dL_law_1709 (v := (1 : Int32)) (by decide) ?_
      refine vr_iadd dL_law_1710 ?_
      obtain ⟨zi_408, zh⟩ := zh
      refine vr_scrload dL_law_1711 zi_408 ?_
      obtain ⟨v411, s409, zw1, zf_410, zh⟩ := zh
      refine vc_V (As := [.int (ga_X γ (l4 + (1 : Int32)).toNatClampNeg)]) (rest := []) dL_law_1712 cV_LitmusTesterLaw_219 (wC_185 zw) rfl rfl (Nat.le_of_ble_eq_true rfl) (Nat.le_of_ble_eq_true rfl) (co_n zf_410 ?_)
      replace zw := zw1
      refine vr_istore dL_law_1715 (Nat.le_of_ble_eq_true rfl) (vv_eq (ls' := [(0, .ref 22), (1, .ref 128), (2, .ref 185), (3, .ref 219), (4, .int l4), (5, .int v407), (6, .int v411)]) rfl ?_)
      refine vr_aload_n dL_law_1717 rfl rfl ?_
      obtain ⟨v414, s412, zw1, zf_413, zh⟩ := zh
      refine vc_V (As := []) (rest := []) dL_law_1718 cV_LitmusTesterLaw_135 (wC_185 zw) rfl rfl (Nat.le_of_ble_eq_true rfl) (Nat.le_of_ble_eq_true rfl) (co_n zf_413 ?_)
      replace zw := zw1
      refine vr_iload dL_law_1721 rfl ?_
      refine vr_ic_eq dL_law_1723 (tgt := 1728) rfl (fun zd_415 => ?_) (fun zd_415 => ?_)
      · replace zh := zh.1 zd_415
        refine vr_iload dL_law_1728 rfl ?_
        refine vr_if_ne dL_law_1730 (tgt := 1745) rfl (fun zd_416 => ?_) (fun zd_416 => ?_)
        · replace zh := zh.2 zd_416
          refine vr_goto dL_law_1745 (tgt := 2034) rfl ?_
          refine vr_iinc dL_law_2034 (x := l4) (v := (l4 + 6)) rfl (ii_ (by decide)) (Nat.le_of_ble_eq_true rfl) (vv_eq (ls' := [(0, .ref 22), (1, .ref 128), (2, .ref 185), (3, .ref 219), (4, .int (l4 + 6)), (5, .int v407), (6, .int v411)]) rfl ?_)
          refine vr_goto dL_law_2037 (tgt := 23) rfl ?_
          exact vv_sub (ls' := [(0, .ref 22), (1, .ref 128), (2, .ref 185), (3, .ref 219), (4, .int (l4 + 6))]) ⟨rfl, rfl, rfl, rfl, rfl, trivial⟩ zh
        · replace zh := zh.1 zd_416
          refine vr_aload_n dL_law_1733 rfl rfl ?_
          refine vr_iconst dL_law_1734 (v := (0 : Int32)) (by decide) ?_
          refine vr_laload dL_law_1735 (wS_219 zw) (vp_lit rfl) ?_
          refine vv_top (w := .long (st_L s412 219 0)) rfl ?_
          refine vr_iload dL_law_1736 rfl ?_
          refine vr_i2l dL_law_1738 ?_
          refine vr_lcmp dL_law_1739 ?_
          refine vr_if_eq dL_law_1740 (tgt := 1745) rfl (fun zd_417 => ?_) (fun zd_417 => ?_)
          · replace zh := zh.1 ((lg_cmp_eq _ _).mp zd_417)
            refine vr_goto dL_law_1745 (tgt := 2034) rfl ?_
            refine vr_iinc dL_law_2034 (x := l4) (v := (l4 + 6)) rfl (ii_ (by decide)) (Nat.le_of_ble_eq_true rfl) (vv_eq (ls' := [(0, .ref 22), (1, .ref 128), (2, .ref 185), (3, .ref 219), (4, .int (l4 + 6)), (5, .int v407), (6, .int v411)]) rfl ?_)
            refine vr_goto dL_law_2037 (tgt := 23) rfl ?_
            exact vv_sub (ls' := [(0, .ref 22), (1, .ref 128), (2, .ref 185), (3, .ref 219), (4, .int (l4 + 6))]) ⟨rfl, rfl, rfl, rfl, rfl, trivial⟩ zh
          · replace zh := zh.2 (fun z => zd_417 ((lg_cmp_eq _ _).mpr z))
            refine vr_iconst dL_law_1743 (v := (0 : Int32)) (by decide) ?_
            exact vr_zret dL_law_1744 rfl (Or.inl rfl) zh
      · replace zh := zh.2 zd_415
        refine vr_iconst dL_law_1726 (v := (0 : Int32)) (by decide) ?_
        exact vr_zret dL_law_1727 rfl (Or.inl rfl) zh
    replace zh := zh.2
    by_cases zd_49433 : ((ga_X γ l4.toNatClampNeg) &&& (63 : Int32)).toInt = 33
    · replace zh := zh.1 zd_49433
      refine vr_tswIn dL_law_40 (tgt := 1748) zd_494a zd_494b (by rw [zd_49433]; rfl) rfl ?_
      refine vr_aload_n dL_law_1748 rfl rfl ?_
      refine vr_aload_n dL_law_1749 rfl rfl ?_
      refine vr_iload dL_law_1750 rfl ?_
      refine vr_iconst dL_law_1752 (v := (1 : Int32)) (by decide) ?_
      refine vr_iadd dL_law_1753 ?_
      obtain ⟨zi_418, zh⟩ := zh
      refine vr_scrload dL_law_1754 zi_418 ?_
      refine vr_aload_n dL_law_1755 rfl rfl ?_
      obtain ⟨v421, s419, zw1, zf_420, zh⟩ := zh
      refine vc_H (As := [.ref 128, .int (ga_X γ (l4 + (1 : Int32)).toNatClampNeg), .ref 219]) (rest := []) dL_law_1756 cH_LitmusTesterLaw_220 rfl rfl (Nat.le_of_ble_eq_true rfl) (Nat.le_of_ble_eq_true rfl) (co_n zf_420 ?_)
      replace zw := zw1
      refine vr_istore dL_law_1759 (Nat.le_of_ble_eq_true rfl) (vv_eq (ls' := [(0, .ref 22), (1, .ref 128), (2, .ref 185), (3, .ref 219), (4, .int l4), (5, .int v421)]) rfl ?_)
      refine vr_aload_n dL_law_1761 rfl rfl ?_
      refine vr_aload_n dL_law_1762 rfl rfl ?_
      refine vr_iload dL_law_1763 rfl ?_
      refine vr_iconst dL_law_1765 (v := (1 : Int32)) (by decide) ?_
      refine vr_iadd dL_law_1766 ?_
      obtain ⟨zi_422, zh⟩ := zh
      refine vr_scrload dL_law_1767 zi_422 ?_
      obtain ⟨v425, s423, zw1, zf_424, zh⟩ := zh
      refine vc_V (As := [.int (ga_X γ (l4 + (1 : Int32)).toNatClampNeg)]) (rest := []) dL_law_1768 cV_LitmusTesterLaw_222 (wC_185 zw) rfl rfl (Nat.le_of_ble_eq_true rfl) (Nat.le_of_ble_eq_true rfl) (co_n zf_424 ?_)
      replace zw := zw1
      refine vr_istore dL_law_1771 (Nat.le_of_ble_eq_true rfl) (vv_eq (ls' := [(0, .ref 22), (1, .ref 128), (2, .ref 185), (3, .ref 219), (4, .int l4), (5, .int v421), (6, .int v425)]) rfl ?_)
      refine vr_aload_n dL_law_1773 rfl rfl ?_
      obtain ⟨v428, s426, zw1, zf_427, zh⟩ := zh
      refine vc_V (As := []) (rest := []) dL_law_1774 cV_LitmusTesterLaw_135 (wC_185 zw) rfl rfl (Nat.le_of_ble_eq_true rfl) (Nat.le_of_ble_eq_true rfl) (co_n zf_427 ?_)
      replace zw := zw1
      refine vr_iload dL_law_1777 rfl ?_
      refine vr_ic_eq dL_law_1779 (tgt := 1784) rfl (fun zd_429 => ?_) (fun zd_429 => ?_)
      · replace zh := zh.1 zd_429
        refine vr_iload dL_law_1784 rfl ?_
        refine vr_if_ne dL_law_1786 (tgt := 1801) rfl (fun zd_430 => ?_) (fun zd_430 => ?_)
        · replace zh := zh.2 zd_430
          refine vr_goto dL_law_1801 (tgt := 2034) rfl ?_
          refine vr_iinc dL_law_2034 (x := l4) (v := (l4 + 6)) rfl (ii_ (by decide)) (Nat.le_of_ble_eq_true rfl) (vv_eq (ls' := [(0, .ref 22), (1, .ref 128), (2, .ref 185), (3, .ref 219), (4, .int (l4 + 6)), (5, .int v421), (6, .int v425)]) rfl ?_)
          refine vr_goto dL_law_2037 (tgt := 23) rfl ?_
          exact vv_sub (ls' := [(0, .ref 22), (1, .ref 128), (2, .ref 185), (3, .ref 219), (4, .int (l4 + 6))]) ⟨rfl, rfl, rfl, rfl, rfl, trivial⟩ zh
        · replace zh := zh.1 zd_430
          refine vr_aload_n dL_law_1789 rfl rfl ?_
          refine vr_iconst dL_law_1790 (v := (0 : Int32)) (by decide) ?_
          refine vr_laload dL_law_1791 (wS_219 zw) (vp_lit rfl) ?_
          refine vv_top (w := .long (st_L s426 219 0)) rfl ?_
          refine vr_iload dL_law_1792 rfl ?_
          refine vr_i2l dL_law_1794 ?_
          refine vr_lcmp dL_law_1795 ?_
          refine vr_if_eq dL_law_1796 (tgt := 1801) rfl (fun zd_431 => ?_) (fun zd_431 => ?_)
          · replace zh := zh.1 ((lg_cmp_eq _ _).mp zd_431)
            refine vr_goto dL_law_1801 (tgt := 2034) rfl ?_
            refine vr_iinc dL_law_2034 (x := l4) (v := (l4 + 6)) rfl (ii_ (by decide)) (Nat.le_of_ble_eq_true rfl) (vv_eq (ls' := [(0, .ref 22), (1, .ref 128), (2, .ref 185), (3, .ref 219), (4, .int (l4 + 6)), (5, .int v421), (6, .int v425)]) rfl ?_)
            refine vr_goto dL_law_2037 (tgt := 23) rfl ?_
            exact vv_sub (ls' := [(0, .ref 22), (1, .ref 128), (2, .ref 185), (3, .ref 219), (4, .int (l4 + 6))]) ⟨rfl, rfl, rfl, rfl, rfl, trivial⟩ zh
          · replace zh := zh.2 (fun z => zd_431 ((lg_cmp_eq _ _).mpr z))
            refine vr_iconst dL_law_1799 (v := (0 : Int32)) (by decide) ?_
            exact vr_zret dL_law_1800 rfl (Or.inl rfl) zh
      · replace zh := zh.2 zd_429
        refine vr_iconst dL_law_1782 (v := (0 : Int32)) (by decide) ?_
        exact vr_zret dL_law_1783 rfl (Or.inl rfl) zh
    replace zh := zh.2
    by_cases zd_49434 : ((ga_X γ l4.toNatClampNeg) &&& (63 : Int32)).toInt = 34
    · replace zh := zh.1 zd_49434
      refine vr_tswIn dL_law_40 (tgt := 1804) zd_494a zd_494b (by rw [zd_49434]; rfl) rfl ?_
      refine vr_aload_n dL_law_1804 rfl rfl ?_
      obtain ⟨v434, s432, zw1, zf_433, zh⟩ := zh
      refine vc_V (As := []) (rest := []) dL_law_1805 cV_LitmusTesterLaw_223 (wC_128 zw) rfl rfl (Nat.le_of_ble_eq_true rfl) (Nat.le_of_ble_eq_true rfl) (co_n zf_433 ?_)
      replace zw := zw1
      refine vr_aload_n dL_law_1808 rfl rfl ?_
      obtain ⟨v437, s435, zw1, zf_436, zh⟩ := zh
      refine vc_V (As := []) (rest := [.int v434]) dL_law_1809 cV_LitmusTesterLaw_226 (wC_185 zw) rfl rfl (Nat.le_of_ble_eq_true rfl) (Nat.le_of_ble_eq_true rfl) (co_n zf_436 ?_)
      replace zw := zw1
      refine vr_ic_eq dL_law_1812 (tgt := 2034) rfl (fun zd_438 => ?_) (fun zd_438 => ?_)
      · replace zh := zh.1 zd_438
        refine vr_iinc dL_law_2034 (x := l4) (v := (l4 + 6)) rfl (ii_ (by decide)) (Nat.le_of_ble_eq_true rfl) (vv_eq (ls' := [(0, .ref 22), (1, .ref 128), (2, .ref 185), (3, .ref 219), (4, .int (l4 + 6))]) rfl ?_)
        refine vr_goto dL_law_2037 (tgt := 23) rfl ?_
        exact vv_sub (ls' := [(0, .ref 22), (1, .ref 128), (2, .ref 185), (3, .ref 219), (4, .int (l4 + 6))]) ⟨rfl, rfl, rfl, rfl, rfl, trivial⟩ zh
      · replace zh := zh.2 zd_438
        refine vr_iconst dL_law_1815 (v := (0 : Int32)) (by decide) ?_
        exact vr_zret dL_law_1816 rfl (Or.inl rfl) zh
    replace zh := zh.2
    by_cases zd_49435 : ((ga_X γ l4.toNatClampNeg) &&& (63 : Int32)).toInt = 35
    · replace zh := zh.1 zd_49435
      refine vr_tswIn dL_law_40 (tgt := 1817) zd_494a zd_494b (by rw [zd_49435]; rfl) rfl ?_
      refine vr_aload_n dL_law_1817 rfl rfl ?_
      refine vr_aload_n dL_law_1818 rfl rfl ?_
      refine vr_iload dL_law_1819 rfl ?_
      refine vr_iconst dL_law_1821 (v := (1 : Int32)) (by decide) ?_
      refine vr_iadd dL_law_1822 ?_
      obtain ⟨zi_439, zh⟩ := zh
      refine vr_scrload dL_law_1823 zi_439 ?_
      refine vr_aload_n dL_law_1824 rfl rfl ?_
      refine vr_iload dL_law_1825 rfl ?_
      refine vr_iconst dL_law_1827 (v := (2 : Int32)) (by decide) ?_
      refine vr_iadd dL_law_1828 ?_
      obtain ⟨zi_440, zh⟩ := zh
      refine vr_scrload dL_law_1829 zi_440 ?_
      refine vr_aload_n dL_law_1830 rfl rfl ?_
      obtain ⟨v443, s441, zw1, zf_442, zh⟩ := zh
      refine vc_H (As := [.ref 128, .int (ga_X γ (l4 + (1 : Int32)).toNatClampNeg), .int (ga_X γ (l4 + (2 : Int32)).toNatClampNeg), .ref 219]) (rest := []) dL_law_1831 cH_LitmusTesterLaw_227 rfl rfl (Nat.le_of_ble_eq_true rfl) (Nat.le_of_ble_eq_true rfl) (co_n zf_442 ?_)
      replace zw := zw1
      refine vr_istore dL_law_1834 (Nat.le_of_ble_eq_true rfl) (vv_eq (ls' := [(0, .ref 22), (1, .ref 128), (2, .ref 185), (3, .ref 219), (4, .int l4), (5, .int v443)]) rfl ?_)
      refine vr_aload_n dL_law_1836 rfl rfl ?_
      refine vr_aload_n dL_law_1837 rfl rfl ?_
      refine vr_iload dL_law_1838 rfl ?_
      refine vr_iconst dL_law_1840 (v := (1 : Int32)) (by decide) ?_
      refine vr_iadd dL_law_1841 ?_
      obtain ⟨zi_444, zh⟩ := zh
      refine vr_scrload dL_law_1842 zi_444 ?_
      refine vr_aload_n dL_law_1843 rfl rfl ?_
      refine vr_iload dL_law_1844 rfl ?_
      refine vr_iconst dL_law_1846 (v := (2 : Int32)) (by decide) ?_
      refine vr_iadd dL_law_1847 ?_
      obtain ⟨zi_445, zh⟩ := zh
      refine vr_scrload dL_law_1848 zi_445 ?_
      obtain ⟨v448, s446, zw1, zf_447, zh⟩ := zh
      refine vc_V (As := [.int (ga_X γ (l4 + (1 : Int32)).toNatClampNeg), .int (ga_X γ (l4 + (2 : Int32)).toNatClampNeg)]) (rest := []) dL_law_1849 cV_LitmusTesterLaw_229 (wC_185 zw) rfl rfl (Nat.le_of_ble_eq_true rfl) (Nat.le_of_ble_eq_true rfl) (co_n zf_447 ?_)
      replace zw := zw1
      refine vr_istore dL_law_1852 (Nat.le_of_ble_eq_true rfl) (vv_eq (ls' := [(0, .ref 22), (1, .ref 128), (2, .ref 185), (3, .ref 219), (4, .int l4), (5, .int v443), (6, .int v448)]) rfl ?_)
      refine vr_aload_n dL_law_1854 rfl rfl ?_
      obtain ⟨v451, s449, zw1, zf_450, zh⟩ := zh
      refine vc_V (As := []) (rest := []) dL_law_1855 cV_LitmusTesterLaw_135 (wC_185 zw) rfl rfl (Nat.le_of_ble_eq_true rfl) (Nat.le_of_ble_eq_true rfl) (co_n zf_450 ?_)
      replace zw := zw1
      refine vr_iload dL_law_1858 rfl ?_
      refine vr_ic_eq dL_law_1860 (tgt := 1865) rfl (fun zd_452 => ?_) (fun zd_452 => ?_)
      · replace zh := zh.1 zd_452
        refine vr_iload dL_law_1865 rfl ?_
        refine vr_if_ne dL_law_1867 (tgt := 1882) rfl (fun zd_453 => ?_) (fun zd_453 => ?_)
        · replace zh := zh.2 zd_453
          refine vr_goto dL_law_1882 (tgt := 2034) rfl ?_
          refine vr_iinc dL_law_2034 (x := l4) (v := (l4 + 6)) rfl (ii_ (by decide)) (Nat.le_of_ble_eq_true rfl) (vv_eq (ls' := [(0, .ref 22), (1, .ref 128), (2, .ref 185), (3, .ref 219), (4, .int (l4 + 6)), (5, .int v443), (6, .int v448)]) rfl ?_)
          refine vr_goto dL_law_2037 (tgt := 23) rfl ?_
          exact vv_sub (ls' := [(0, .ref 22), (1, .ref 128), (2, .ref 185), (3, .ref 219), (4, .int (l4 + 6))]) ⟨rfl, rfl, rfl, rfl, rfl, trivial⟩ zh
        · replace zh := zh.1 zd_453
          refine vr_aload_n dL_law_1870 rfl rfl ?_
          refine vr_iconst dL_law_1871 (v := (0 : Int32)) (by decide) ?_
          refine vr_laload dL_law_1872 (wS_219 zw) (vp_lit rfl) ?_
          refine vv_top (w := .long (st_L s449 219 0)) rfl ?_
          refine vr_iload dL_law_1873 rfl ?_
          refine vr_i2l dL_law_1875 ?_
          refine vr_lcmp dL_law_1876 ?_
          refine vr_if_eq dL_law_1877 (tgt := 1882) rfl (fun zd_454 => ?_) (fun zd_454 => ?_)
          · replace zh := zh.1 ((lg_cmp_eq _ _).mp zd_454)
            refine vr_goto dL_law_1882 (tgt := 2034) rfl ?_
            refine vr_iinc dL_law_2034 (x := l4) (v := (l4 + 6)) rfl (ii_ (by decide)) (Nat.le_of_ble_eq_true rfl) (vv_eq (ls' := [(0, .ref 22), (1, .ref 128), (2, .ref 185), (3, .ref 219), (4, .int (l4 + 6)), (5, .int v443), (6, .int v448)]) rfl ?_)
            refine vr_goto dL_law_2037 (tgt := 23) rfl ?_
            exact vv_sub (ls' := [(0, .ref 22), (1, .ref 128), (2, .ref 185), (3, .ref 219), (4, .int (l4 + 6))]) ⟨rfl, rfl, rfl, rfl, rfl, trivial⟩ zh
          · replace zh := zh.2 (fun z => zd_454 ((lg_cmp_eq _ _).mpr z))
            refine vr_iconst dL_law_1880 (v := (0 : Int32)) (by decide) ?_
            exact vr_zret dL_law_1881 rfl (Or.inl rfl) zh
      · replace zh := zh.2 zd_452
        refine vr_iconst dL_law_1863 (v := (0 : Int32)) (by decide) ?_
        exact vr_zret dL_law_1864 rfl (Or.inl rfl) zh
    replace zh := zh.2
    by_cases zd_49436 : ((ga_X γ l4.toNatClampNeg) &&& (63 : Int32)).toInt = 36
    · replace zh := zh.1 zd_49436
      refine vr_tswIn dL_law_40 (tgt := 1885) zd_494a zd_494b (by rw [zd_49436]; rfl) rfl ?_
      refine vr_aload_n dL_law_1885 rfl rfl ?_
      refine vr_aload_n dL_law_1886 rfl rfl ?_
      refine vr_iload dL_law_1887 rfl ?_
      refine vr_iconst dL_law_1889 (v := (1 : Int32)) (by decide) ?_
      refine vr_iadd dL_law_1890 ?_
      obtain ⟨zi_455, zh⟩ := zh
      refine vr_scrload dL_law_1891 zi_455 ?_
      obtain ⟨v458, s456, zw1, zf_457, zh⟩ := zh
      refine vc_V (As := [.int (ga_X γ (l4 + (1 : Int32)).toNatClampNeg)]) (rest := []) dL_law_1892 cV_LitmusTesterLaw_230 (wC_128 zw) rfl rfl (Nat.le_of_ble_eq_true rfl) (Nat.le_of_ble_eq_true rfl) (co_n zf_457 ?_)
      replace zw := zw1
      refine vr_aload_n dL_law_1895 rfl rfl ?_
      refine vr_aload_n dL_law_1896 rfl rfl ?_
      refine vr_iload dL_law_1897 rfl ?_
      refine vr_iconst dL_law_1899 (v := (1 : Int32)) (by decide) ?_
      refine vr_iadd dL_law_1900 ?_
      obtain ⟨zi_459, zh⟩ := zh
      refine vr_scrload dL_law_1901 zi_459 ?_
      obtain ⟨v462, s460, zw1, zf_461, zh⟩ := zh
      refine vc_V (As := [.int (ga_X γ (l4 + (1 : Int32)).toNatClampNeg)]) (rest := [.int v458]) dL_law_1902 cV_LitmusTesterLaw_233 (wC_185 zw) rfl rfl (Nat.le_of_ble_eq_true rfl) (Nat.le_of_ble_eq_true rfl) (co_n zf_461 ?_)
      replace zw := zw1
      refine vr_ic_eq dL_law_1905 (tgt := 2034) rfl (fun zd_463 => ?_) (fun zd_463 => ?_)
      · replace zh := zh.1 zd_463
        refine vr_iinc dL_law_2034 (x := l4) (v := (l4 + 6)) rfl (ii_ (by decide)) (Nat.le_of_ble_eq_true rfl) (vv_eq (ls' := [(0, .ref 22), (1, .ref 128), (2, .ref 185), (3, .ref 219), (4, .int (l4 + 6))]) rfl ?_)
        refine vr_goto dL_law_2037 (tgt := 23) rfl ?_
        exact vv_sub (ls' := [(0, .ref 22), (1, .ref 128), (2, .ref 185), (3, .ref 219), (4, .int (l4 + 6))]) ⟨rfl, rfl, rfl, rfl, rfl, trivial⟩ zh
      · replace zh := zh.2 zd_463
        refine vr_iconst dL_law_1908 (v := (0 : Int32)) (by decide) ?_
        exact vr_zret dL_law_1909 rfl (Or.inl rfl) zh
    replace zh := zh.2
    by_cases zd_49437 : ((ga_X γ l4.toNatClampNeg) &&& (63 : Int32)).toInt = 37
    · replace zh := zh.1 zd_49437
      refine vr_tswIn dL_law_40 (tgt := 1910) zd_494a zd_494b (by rw [zd_49437]; rfl) rfl ?_
      refine vr_aload_n dL_law_1910 rfl rfl ?_
      refine vr_aload_n dL_law_1911 rfl rfl ?_
      refine vr_iload dL_law_1912 rfl ?_
      refine vr_iconst dL_law_1914 (v := (1 : Int32)) (by decide) ?_
      refine vr_iadd dL_law_1915 ?_
      obtain ⟨zi_464, zh⟩ := zh
      refine vr_scrload dL_law_1916 zi_464 ?_
      refine vr_aload_n dL_law_1917 rfl rfl ?_
      obtain ⟨v467, s465, zw1, zf_466, zh⟩ := zh
      refine vc_H (As := [.ref 128, .int (ga_X γ (l4 + (1 : Int32)).toNatClampNeg), .ref 219]) (rest := []) dL_law_1918 cH_LitmusTesterLaw_234 rfl rfl (Nat.le_of_ble_eq_true rfl) (Nat.le_of_ble_eq_true rfl) (co_n zf_466 ?_)
      replace zw := zw1
      refine vr_istore dL_law_1921 (Nat.le_of_ble_eq_true rfl) (vv_eq (ls' := [(0, .ref 22), (1, .ref 128), (2, .ref 185), (3, .ref 219), (4, .int l4), (5, .int v467)]) rfl ?_)
      refine vr_aload_n dL_law_1923 rfl rfl ?_
      refine vr_aload_n dL_law_1924 rfl rfl ?_
      refine vr_iload dL_law_1925 rfl ?_
      refine vr_iconst dL_law_1927 (v := (1 : Int32)) (by decide) ?_
      refine vr_iadd dL_law_1928 ?_
      obtain ⟨zi_468, zh⟩ := zh
      refine vr_scrload dL_law_1929 zi_468 ?_
      obtain ⟨v471, s469, zw1, zf_470, zh⟩ := zh
      refine vc_V (As := [.int (ga_X γ (l4 + (1 : Int32)).toNatClampNeg)]) (rest := []) dL_law_1930 cV_LitmusTesterLaw_236 (wC_185 zw) rfl rfl (Nat.le_of_ble_eq_true rfl) (Nat.le_of_ble_eq_true rfl) (co_n zf_470 ?_)
      replace zw := zw1
      refine vr_istore dL_law_1933 (Nat.le_of_ble_eq_true rfl) (vv_eq (ls' := [(0, .ref 22), (1, .ref 128), (2, .ref 185), (3, .ref 219), (4, .int l4), (5, .int v467), (6, .int v471)]) rfl ?_)
      refine vr_aload_n dL_law_1935 rfl rfl ?_
      obtain ⟨v474, s472, zw1, zf_473, zh⟩ := zh
      refine vc_V (As := []) (rest := []) dL_law_1936 cV_LitmusTesterLaw_135 (wC_185 zw) rfl rfl (Nat.le_of_ble_eq_true rfl) (Nat.le_of_ble_eq_true rfl) (co_n zf_473 ?_)
      replace zw := zw1
      refine vr_iload dL_law_1939 rfl ?_
      refine vr_ic_eq dL_law_1941 (tgt := 1946) rfl (fun zd_475 => ?_) (fun zd_475 => ?_)
      · replace zh := zh.1 zd_475
        refine vr_iload dL_law_1946 rfl ?_
        refine vr_if_ne dL_law_1948 (tgt := 1963) rfl (fun zd_476 => ?_) (fun zd_476 => ?_)
        · replace zh := zh.2 zd_476
          refine vr_goto dL_law_1963 (tgt := 2034) rfl ?_
          refine vr_iinc dL_law_2034 (x := l4) (v := (l4 + 6)) rfl (ii_ (by decide)) (Nat.le_of_ble_eq_true rfl) (vv_eq (ls' := [(0, .ref 22), (1, .ref 128), (2, .ref 185), (3, .ref 219), (4, .int (l4 + 6)), (5, .int v467), (6, .int v471)]) rfl ?_)
          refine vr_goto dL_law_2037 (tgt := 23) rfl ?_
          exact vv_sub (ls' := [(0, .ref 22), (1, .ref 128), (2, .ref 185), (3, .ref 219), (4, .int (l4 + 6))]) ⟨rfl, rfl, rfl, rfl, rfl, trivial⟩ zh
        · replace zh := zh.1 zd_476
          refine vr_aload_n dL_law_1951 rfl rfl ?_
          refine vr_iconst dL_law_1952 (v := (0 : Int32)) (by decide) ?_
          refine vr_laload dL_law_1953 (wS_219 zw) (vp_lit rfl) ?_
          refine vv_top (w := .long (st_L s472 219 0)) rfl ?_
          refine vr_iload dL_law_1954 rfl ?_
          refine vr_i2l dL_law_1956 ?_
          refine vr_lcmp dL_law_1957 ?_
          refine vr_if_eq dL_law_1958 (tgt := 1963) rfl (fun zd_477 => ?_) (fun zd_477 => ?_)
          · replace zh := zh.1 ((lg_cmp_eq _ _).mp zd_477)
            refine vr_goto dL_law_1963 (tgt := 2034) rfl ?_
            refine vr_iinc dL_law_2034 (x := l4) (v := (l4 + 6)) rfl (ii_ (by decide)) (Nat.le_of_ble_eq_true rfl) (vv_eq (ls' := [(0, .ref 22), (1, .ref 128), (2, .ref 185), (3, .ref 219), (4, .int (l4 + 6)), (5, .int v467), (6, .int v471)]) rfl ?_)
            refine vr_goto dL_law_2037 (tgt := 23) rfl ?_
            exact vv_sub (ls' := [(0, .ref 22), (1, .ref 128), (2, .ref 185), (3, .ref 219), (4, .int (l4 + 6))]) ⟨rfl, rfl, rfl, rfl, rfl, trivial⟩ zh
          · replace zh := zh.2 (fun z => zd_477 ((lg_cmp_eq _ _).mpr z))
            refine vr_iconst dL_law_1961 (v := (0 : Int32)) (by decide) ?_
            exact vr_zret dL_law_1962 rfl (Or.inl rfl) zh
      · replace zh := zh.2 zd_475
        refine vr_iconst dL_law_1944 (v := (0 : Int32)) (by decide) ?_
        exact vr_zret dL_law_1945 rfl (Or.inl rfl) zh
    replace zh := zh.2
    have zd_49438 : ((ga_X γ l4.toNatClampNeg) &&& (63 : Int32)).toInt = 38 := by omega
    replace zh := zh zd_49438
    refine vr_tswIn dL_law_40 (tgt := 1966) zd_494a zd_494b (by rw [zd_49438]; rfl) rfl ?_
    refine vr_aload_n dL_law_1966 rfl rfl ?_
    refine vr_aload_n dL_law_1967 rfl rfl ?_
    refine vr_iload dL_law_1968 rfl ?_
    refine vr_iconst dL_law_1970 (v := (1 : Int32)) (by decide) ?_
    refine vr_iadd dL_law_1971 ?_
    obtain ⟨zi_478, zh⟩ := zh
    refine vr_scrload dL_law_1972 zi_478 ?_
    refine vr_aload_n dL_law_1973 rfl rfl ?_
    refine vr_iload dL_law_1974 rfl ?_
    refine vr_iconst dL_law_1976 (v := (2 : Int32)) (by decide) ?_
    refine vr_iadd dL_law_1977 ?_
    obtain ⟨zi_479, zh⟩ := zh
    refine vr_scrload dL_law_1978 zi_479 ?_
    refine vr_aload_n dL_law_1979 rfl rfl ?_
    obtain ⟨v482, s480, zw1, zf_481, zh⟩ := zh
    refine vc_H (As := [.ref 128, .int (ga_X γ (l4 + (1 : Int32)).toNatClampNeg), .int (ga_X γ (l4 + (2 : Int32)).toNatClampNeg), .ref 219]) (rest := []) dL_law_1980 cH_LitmusTesterLaw_237 rfl rfl (Nat.le_of_ble_eq_true rfl) (Nat.le_of_ble_eq_true rfl) (co_n zf_481 ?_)
    replace zw := zw1
    refine vr_istore dL_law_1983 (Nat.le_of_ble_eq_true rfl) (vv_eq (ls' := [(0, .ref 22), (1, .ref 128), (2, .ref 185), (3, .ref 219), (4, .int l4), (5, .int v482)]) rfl ?_)
    refine vr_aload_n dL_law_1985 rfl rfl ?_
    refine vr_aload_n dL_law_1986 rfl rfl ?_
    refine vr_iload dL_law_1987 rfl ?_
    refine vr_iconst dL_law_1989 (v := (1 : Int32)) (by decide) ?_
    refine vr_iadd dL_law_1990 ?_
    obtain ⟨zi_483, zh⟩ := zh
    refine vr_scrload dL_law_1991 zi_483 ?_
    refine vr_aload_n dL_law_1992 rfl rfl ?_
    refine vr_iload dL_law_1993 rfl ?_
    refine vr_iconst dL_law_1995 (v := (2 : Int32)) (by decide) ?_
    refine vr_iadd dL_law_1996 ?_
    obtain ⟨zi_484, zh⟩ := zh
    refine vr_scrload dL_law_1997 zi_484 ?_
    obtain ⟨v487, s485, zw1, zf_486, zh⟩ := zh
    refine vc_V (As := [.int (ga_X γ (l4 + (1 : Int32)).toNatClampNeg), .int (ga_X γ (l4 + (2 : Int32)).toNatClampNeg)]) (rest := []) dL_law_1998 cV_LitmusTesterLaw_239 (wC_185 zw) rfl rfl (Nat.le_of_ble_eq_true rfl) (Nat.le_of_ble_eq_true rfl) (co_n zf_486 ?_)
    replace zw := zw1
    refine vr_istore dL_law_2001 (Nat.le_of_ble_eq_true rfl) (vv_eq (ls' := [(0, .ref 22), (1, .ref 128), (2, .ref 185), (3, .ref 219), (4, .int l4), (5, .int v482), (6, .int v487)]) rfl ?_)
    refine vr_aload_n dL_law_2003 rfl rfl ?_
    obtain ⟨v490, s488, zw1, zf_489, zh⟩ := zh
    refine vc_V (As := []) (rest := []) dL_law_2004 cV_LitmusTesterLaw_135 (wC_185 zw) rfl rfl (Nat.le_of_ble_eq_true rfl) (Nat.le_of_ble_eq_true rfl) (co_n zf_489 ?_)
    replace zw := zw1
    refine vr_iload dL_law_2007 rfl ?_
    refine vr_ic_eq dL_law_2009 (tgt := 2014) rfl (fun zd_491 => ?_) (fun zd_491 => ?_)
    · replace zh := zh.1 zd_491
      refine vr_iload dL_law_2014 rfl ?_
      refine vr_if_ne dL_law_2016 (tgt := 2031) rfl (fun zd_492 => ?_) (fun zd_492 => ?_)
      · replace zh := zh.2 zd_492
        refine vr_goto dL_law_2031 (tgt := 2034) rfl ?_
        refine vr_iinc dL_law_2034 (x := l4) (v := (l4 + 6)) rfl (ii_ (by decide)) (Nat.le_of_ble_eq_true rfl) (vv_eq (ls' := [(0, .ref 22), (1, .ref 128), (2, .ref 185), (3, .ref 219), (4, .int (l4 + 6)), (5, .int v482), (6, .int v487)]) rfl ?_)
        refine vr_goto dL_law_2037 (tgt := 23) rfl ?_
        exact vv_sub (ls' := [(0, .ref 22), (1, .ref 128), (2, .ref 185), (3, .ref 219), (4, .int (l4 + 6))]) ⟨rfl, rfl, rfl, rfl, rfl, trivial⟩ zh
      · replace zh := zh.1 zd_492
        refine vr_aload_n dL_law_2019 rfl rfl ?_
        refine vr_iconst dL_law_2020 (v := (0 : Int32)) (by decide) ?_
        refine vr_laload dL_law_2021 (wS_219 zw) (vp_lit rfl) ?_
        refine vv_top (w := .long (st_L s488 219 0)) rfl ?_
        refine vr_iload dL_law_2022 rfl ?_
        refine vr_i2l dL_law_2024 ?_
        refine vr_lcmp dL_law_2025 ?_
        refine vr_if_eq dL_law_2026 (tgt := 2031) rfl (fun zd_493 => ?_) (fun zd_493 => ?_)
        · replace zh := zh.1 ((lg_cmp_eq _ _).mp zd_493)
          refine vr_goto dL_law_2031 (tgt := 2034) rfl ?_
          refine vr_iinc dL_law_2034 (x := l4) (v := (l4 + 6)) rfl (ii_ (by decide)) (Nat.le_of_ble_eq_true rfl) (vv_eq (ls' := [(0, .ref 22), (1, .ref 128), (2, .ref 185), (3, .ref 219), (4, .int (l4 + 6)), (5, .int v482), (6, .int v487)]) rfl ?_)
          refine vr_goto dL_law_2037 (tgt := 23) rfl ?_
          exact vv_sub (ls' := [(0, .ref 22), (1, .ref 128), (2, .ref 185), (3, .ref 219), (4, .int (l4 + 6))]) ⟨rfl, rfl, rfl, rfl, rfl, trivial⟩ zh
        · replace zh := zh.2 (fun z => zd_493 ((lg_cmp_eq _ _).mpr z))
          refine vr_iconst dL_law_2029 (v := (0 : Int32)) (by decide) ?_
          exact vr_zret dL_law_2030 rfl (Or.inl rfl) zh
    · replace zh := zh.2 zd_491
      refine vr_iconst dL_law_2012 (v := (0 : Int32)) (by decide) ?_
      exact vr_zret dL_law_2013 rfl (Or.inl rfl) zh
