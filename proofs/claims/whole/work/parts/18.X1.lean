def p_X1_forget_0 (γ : ga_T) (σ : st_T) (Q : rs_T → st_T → Prop) : Prop :=
  Q (.inl none) (pt_I (pt_I (pt_I σ 181 6 (0 : Int32)) 181 4 (0 : Int32)) 181 5 (0 : Int32))
set_option maxRecDepth 10000 in
theorem g_X1_forget_0 {γ : ga_T} {σ : st_T} {Q : rs_T → st_T → Prop} (zw : Wd σ) (zh : p_X1_forget_0 γ σ Q) : vv_ γ m_X1_forget 0 0 [(0, .ref 181)] [] σ Q := by
  unfold p_X1_forget_0 at zh
  refine vr_aload_n dX1_forget_0 rfl rfl ?_
  refine vr_iconst dX1_forget_1 (v := (0 : Int32)) (by decide) ?_
  refine vr_putZ dX1_forget_2 fl_LitmusTester_Explanation_28 (wC_181 zw) rfl (fz_1_6) (Or.inl rfl) ?_
  refine vr_aload_n dX1_forget_5 rfl rfl ?_
  refine vr_iconst dX1_forget_6 (v := (0 : Int32)) (by decide) ?_
  refine vr_putI dX1_forget_7 fl_LitmusTester_Explanation_21 (wC_181 zw) rfl (fz_1_4) ?_
  refine vr_aload_n dX1_forget_10 rfl rfl ?_
  refine vr_iconst dX1_forget_11 (v := (0 : Int32)) (by decide) ?_
  refine vr_putI dX1_forget_12 fl_LitmusTester_Explanation_25 (wC_181 zw) rfl (fz_1_5) ?_
  exact vr_vret dX1_forget_15 rfl zh
theorem e_X1_forget {γ : ga_T} {σ : st_T} {Q : rs_T → st_T → Prop} (zw : Wd σ) (zh : p_X1_forget_0 γ σ Q) : sp_ γ m_X1_forget 0 [.ref 181] σ Q := sp_of (pl_X1_forget) rfl (Nat.le_of_ble_eq_true rfl) (g_X1_forget_0 zw zh)
def p_X1_begin_0 (γ : ga_T) (σ : st_T) (Q : rs_T → st_T → Prop) : Prop :=
  ∃ s1, Wd s1 ∧ fw_ γ m_X1_forget 0 [.ref 181] σ s1 ∧
  Q (.inl none) (pt_I s1 181 6 (1 : Int32))
set_option maxRecDepth 10000 in
theorem g_X1_begin_0 {γ : ga_T} {σ : st_T} {Q : rs_T → st_T → Prop} (zw : Wd σ) (zh : p_X1_begin_0 γ σ Q) : vv_ γ m_X1_begin 1 0 [(0, .ref 181)] [] σ Q := by
  unfold p_X1_begin_0 at zh
  refine vr_aload_n dX1_begin_0 rfl rfl ?_
  obtain ⟨s1, zw1, zf_2, zh⟩ := zh
  refine vc_V (As := []) (rest := []) dX1_begin_1 cV_LitmusTester_Explanation_36 (wC_181 zw) rfl rfl (Nat.le_of_ble_eq_true rfl) (Nat.le_of_ble_eq_true rfl) (co_v zf_2 ?_)
  replace zw := zw1
  refine vr_aload_n dX1_begin_4 rfl rfl ?_
  refine vr_iconst dX1_begin_5 (v := (1 : Int32)) (by decide) ?_
  refine vr_putZ dX1_begin_6 fl_LitmusTester_Explanation_28 (wC_181 zw) rfl (fz_1_6) (Or.inr rfl) ?_
  exact vr_vret dX1_begin_9 rfl zh
theorem e_X1_begin {γ : ga_T} {σ : st_T} {Q : rs_T → st_T → Prop} (zw : Wd σ) (zh : p_X1_begin_0 γ σ Q) : sp_ γ m_X1_begin 1 [.ref 181] σ Q := sp_of (pl_X1_begin) rfl (Nat.le_of_ble_eq_true rfl) (g_X1_begin_0 zw zh)
def p_X1_isPresent_0 (γ : ga_T) (σ : st_T) (Q : rs_T → st_T → Prop) : Prop :=
  ((st_I σ 181 6) = 0 ∨ (st_I σ 181 6) = 1) ∧
  Q (.inl (some (.int (st_I σ 181 6)))) σ
set_option maxRecDepth 10000 in
theorem g_X1_isPresent_0 {γ : ga_T} {σ : st_T} {Q : rs_T → st_T → Prop} (zw : Wd σ) (zh : p_X1_isPresent_0 γ σ Q) : vv_ γ m_X1_isPresent 0 0 [(0, .ref 181)] [] σ Q := by
  unfold p_X1_isPresent_0 at zh
  refine vr_aload_n dX1_isPresent_0 rfl rfl ?_
  refine vr_getZ dX1_isPresent_1 fl_LitmusTester_Explanation_28 (wC_181 zw) rfl ?_
  obtain ⟨zb_1, zh⟩ := zh
  exact vr_zret dX1_isPresent_4 rfl zb_1 zh
theorem e_X1_isPresent {γ : ga_T} {σ : st_T} {Q : rs_T → st_T → Prop} (zw : Wd σ) (zh : p_X1_isPresent_0 γ σ Q) : sp_ γ m_X1_isPresent 0 [.ref 181] σ Q := sp_of (pl_X1_isPresent) rfl (Nat.le_of_ble_eq_true rfl) (g_X1_isPresent_0 zw zh)
def p_X1_size_0 (γ : ga_T) (σ : st_T) (Q : rs_T → st_T → Prop) : Prop :=
  Q (.inl (some (.int (st_I σ 181 4)))) σ
set_option maxRecDepth 10000 in
theorem g_X1_size_0 {γ : ga_T} {σ : st_T} {Q : rs_T → st_T → Prop} (zw : Wd σ) (zh : p_X1_size_0 γ σ Q) : vv_ γ m_X1_size 0 0 [(0, .ref 181)] [] σ Q := by
  unfold p_X1_size_0 at zh
  refine vr_aload_n dX1_size_0 rfl rfl ?_
  refine vr_getI dX1_size_1 fl_LitmusTester_Explanation_21 (wC_181 zw) rfl ?_
  exact vr_iret dX1_size_4 rfl zh
theorem e_X1_size {γ : ga_T} {σ : st_T} {Q : rs_T → st_T → Prop} (zw : Wd σ) (zh : p_X1_size_0 γ σ Q) : sp_ γ m_X1_size 0 [.ref 181] σ Q := sp_of (pl_X1_size) rfl (Nat.le_of_ble_eq_true rfl) (g_X1_size_0 zw zh)
def p_X1_addStep_0 (γ : ga_T) (l2 : Int64) (l4 : Int32) (l5 : Int32) (σ : st_T) (Q : rs_T → st_T → Prop) : Prop :=
  ((18 : Int32) ≤ (st_I σ 181 4) →
    (l5 = (0 : Int32) →
      ∃ (v5 : Int32) (s3 : st_T), Wd s3 ∧ fn_ γ m_X4_next 1 [.ref 153, .long l2, .int l4] σ (.int v5) s3 ∧
      ∃ (v8 : Int32) (s6 : st_T), Wd s6 ∧ fn_ γ m_X7_property 0 [.ref 132, .int v5, .int (1 : Int32)] s3 (.int v8) s6 ∧
      ∃ (v11 : Int32) (s9 : st_T), Wd s9 ∧ fn_ γ m_X7_property 0 [.ref 132, .int v5, .int (2 : Int32)] s6 (.int v11) s9 ∧
      (v8 = (1 : Int32) →
        (v5 < (0 : Int32) →
          (v8 = (2 : Int32) →
            ∃ s15, Wd s15 ∧ fw_ γ m_X1_addWriter 0 [.ref 181, .int v5] s9 s15 ∧
            Q (.inl none) s15
          ) ∧ (¬ v8 = (2 : Int32) →
            (v8 = (0 : Int32) →
              ∃ (v20 : Int32) (s18 : st_T), Wd s18 ∧ fn_ γ m_X4_isUnbuffered 0 [.ref 153] s9 (.int v20) s18 ∧
              (v20 = (0 : Int32) →
                Q (.inl none) s18
              ) ∧ (¬ v20 = (0 : Int32) →
                ∃ s22, Wd s22 ∧ fw_ γ m_X1_addWriter 0 [.ref 181, .int v5] s18 s22 ∧
                Q (.inl none) s22
              )
            ) ∧ (¬ v8 = (0 : Int32) →
              Q (.inl none) s9
            )
          )
        ) ∧ (¬ v5 < (0 : Int32) →
          ((10 : Int32) ≤ v5 →
            (v8 = (2 : Int32) →
              ∃ s26, Wd s26 ∧ fw_ γ m_X1_addWriter 0 [.ref 181, .int v5] s9 s26 ∧
              Q (.inl none) s26
            ) ∧ (¬ v8 = (2 : Int32) →
              (v8 = (0 : Int32) →
                ∃ (v31 : Int32) (s29 : st_T), Wd s29 ∧ fn_ γ m_X4_isUnbuffered 0 [.ref 153] s9 (.int v31) s29 ∧
                (v31 = (0 : Int32) →
                  Q (.inl none) s29
                ) ∧ (¬ v31 = (0 : Int32) →
                  ∃ s33, Wd s33 ∧ fw_ γ m_X1_addWriter 0 [.ref 181, .int v5] s29 s33 ∧
                  Q (.inl none) s33
                )
              ) ∧ (¬ v8 = (0 : Int32) →
                Q (.inl none) s9
              )
            )
          ) ∧ (¬ (10 : Int32) ≤ v5 →
            ∃ (v37 : Int32) (s35 : st_T), Wd s35 ∧ fn_ γ m_X4_forwarding 2 [.ref 153, .long l2, .int l4, .int v11] s9 (.int v37) s35 ∧
            (v37 = (-1 : Int32) →
              ∃ (v41 : Int32) (s39 : st_T), Wd s39 ∧ fn_ γ m_X1_latestWriter 1 [.ref 181, .int v11] s35 (.int v41) s39 ∧
              vp_in v5 10 ∧
              (v8 = (2 : Int32) →
                ∃ s44, Wd s44 ∧ fw_ γ m_X1_addWriter 0 [.ref 181, .int v5] (pt_I s39 183 v5.toNatClampNeg v41) s44 ∧
                Q (.inl none) s44
              ) ∧ (¬ v8 = (2 : Int32) →
                (v8 = (0 : Int32) →
                  ∃ (v49 : Int32) (s47 : st_T), Wd s47 ∧ fn_ γ m_X4_isUnbuffered 0 [.ref 153] (pt_I s39 183 v5.toNatClampNeg v41) (.int v49) s47 ∧
                  (v49 = (0 : Int32) →
                    Q (.inl none) s47
                  ) ∧ (¬ v49 = (0 : Int32) →
                    ∃ s51, Wd s51 ∧ fw_ γ m_X1_addWriter 0 [.ref 181, .int v5] s47 s51 ∧
                    Q (.inl none) s51
                  )
                ) ∧ (¬ v8 = (0 : Int32) →
                  Q (.inl none) (pt_I s39 183 v5.toNatClampNeg v41)
                )
              )
            ) ∧ (¬ v37 = (-1 : Int32) →
              vp_in v5 10 ∧
              (v8 = (2 : Int32) →
                ∃ s55, Wd s55 ∧ fw_ γ m_X1_addWriter 0 [.ref 181, .int v5] (pt_I s35 183 v5.toNatClampNeg v37) s55 ∧
                Q (.inl none) s55
              ) ∧ (¬ v8 = (2 : Int32) →
                (v8 = (0 : Int32) →
                  ∃ (v60 : Int32) (s58 : st_T), Wd s58 ∧ fn_ γ m_X4_isUnbuffered 0 [.ref 153] (pt_I s35 183 v5.toNatClampNeg v37) (.int v60) s58 ∧
                  (v60 = (0 : Int32) →
                    Q (.inl none) s58
                  ) ∧ (¬ v60 = (0 : Int32) →
                    ∃ s62, Wd s62 ∧ fw_ γ m_X1_addWriter 0 [.ref 181, .int v5] s58 s62 ∧
                    Q (.inl none) s62
                  )
                ) ∧ (¬ v8 = (0 : Int32) →
                  Q (.inl none) (pt_I s35 183 v5.toNatClampNeg v37)
                )
              )
            )
          )
        )
      ) ∧ (¬ v8 = (1 : Int32) →
        (v8 = (2 : Int32) →
          (v5 < (0 : Int32) →
            (v8 = (2 : Int32) →
              ∃ s67, Wd s67 ∧ fw_ γ m_X1_addWriter 0 [.ref 181, .int v5] s9 s67 ∧
              Q (.inl none) s67
            ) ∧ (¬ v8 = (2 : Int32) →
              (v8 = (0 : Int32) →
                ∃ (v72 : Int32) (s70 : st_T), Wd s70 ∧ fn_ γ m_X4_isUnbuffered 0 [.ref 153] s9 (.int v72) s70 ∧
                (v72 = (0 : Int32) →
                  Q (.inl none) s70
                ) ∧ (¬ v72 = (0 : Int32) →
                  ∃ s74, Wd s74 ∧ fw_ γ m_X1_addWriter 0 [.ref 181, .int v5] s70 s74 ∧
                  Q (.inl none) s74
                )
              ) ∧ (¬ v8 = (0 : Int32) →
                Q (.inl none) s9
              )
            )
          ) ∧ (¬ v5 < (0 : Int32) →
            ((10 : Int32) ≤ v5 →
              (v8 = (2 : Int32) →
                ∃ s78, Wd s78 ∧ fw_ γ m_X1_addWriter 0 [.ref 181, .int v5] s9 s78 ∧
                Q (.inl none) s78
              ) ∧ (¬ v8 = (2 : Int32) →
                (v8 = (0 : Int32) →
                  ∃ (v83 : Int32) (s81 : st_T), Wd s81 ∧ fn_ γ m_X4_isUnbuffered 0 [.ref 153] s9 (.int v83) s81 ∧
                  (v83 = (0 : Int32) →
                    Q (.inl none) s81
                  ) ∧ (¬ v83 = (0 : Int32) →
                    ∃ s85, Wd s85 ∧ fw_ γ m_X1_addWriter 0 [.ref 181, .int v5] s81 s85 ∧
                    Q (.inl none) s85
                  )
                ) ∧ (¬ v8 = (0 : Int32) →
                  Q (.inl none) s9
                )
              )
            ) ∧ (¬ (10 : Int32) ≤ v5 →
              ∃ (v89 : Int32) (s87 : st_T), Wd s87 ∧ fn_ γ m_X4_forwarding 2 [.ref 153, .long l2, .int l4, .int v11] s9 (.int v89) s87 ∧
              (v89 = (-1 : Int32) →
                ∃ (v93 : Int32) (s91 : st_T), Wd s91 ∧ fn_ γ m_X1_latestWriter 1 [.ref 181, .int v11] s87 (.int v93) s91 ∧
                vp_in v5 10 ∧
                (v8 = (2 : Int32) →
                  ∃ s96, Wd s96 ∧ fw_ γ m_X1_addWriter 0 [.ref 181, .int v5] (pt_I s91 183 v5.toNatClampNeg v93) s96 ∧
                  Q (.inl none) s96
                ) ∧ (¬ v8 = (2 : Int32) →
                  (v8 = (0 : Int32) →
                    ∃ (v101 : Int32) (s99 : st_T), Wd s99 ∧ fn_ γ m_X4_isUnbuffered 0 [.ref 153] (pt_I s91 183 v5.toNatClampNeg v93) (.int v101) s99 ∧
                    (v101 = (0 : Int32) →
                      Q (.inl none) s99
                    ) ∧ (¬ v101 = (0 : Int32) →
                      ∃ s103, Wd s103 ∧ fw_ γ m_X1_addWriter 0 [.ref 181, .int v5] s99 s103 ∧
                      Q (.inl none) s103
                    )
                  ) ∧ (¬ v8 = (0 : Int32) →
                    Q (.inl none) (pt_I s91 183 v5.toNatClampNeg v93)
                  )
                )
              ) ∧ (¬ v89 = (-1 : Int32) →
                vp_in v5 10 ∧
                (v8 = (2 : Int32) →
                  ∃ s107, Wd s107 ∧ fw_ γ m_X1_addWriter 0 [.ref 181, .int v5] (pt_I s87 183 v5.toNatClampNeg v89) s107 ∧
                  Q (.inl none) s107
                ) ∧ (¬ v8 = (2 : Int32) →
                  (v8 = (0 : Int32) →
                    ∃ (v112 : Int32) (s110 : st_T), Wd s110 ∧ fn_ γ m_X4_isUnbuffered 0 [.ref 153] (pt_I s87 183 v5.toNatClampNeg v89) (.int v112) s110 ∧
                    (v112 = (0 : Int32) →
                      Q (.inl none) s110
                    ) ∧ (¬ v112 = (0 : Int32) →
                      ∃ s114, Wd s114 ∧ fw_ γ m_X1_addWriter 0 [.ref 181, .int v5] s110 s114 ∧
                      Q (.inl none) s114
                    )
                  ) ∧ (¬ v8 = (0 : Int32) →
                    Q (.inl none) (pt_I s87 183 v5.toNatClampNeg v89)
                  )
                )
              )
            )
          )
        ) ∧ (¬ v8 = (2 : Int32) →
          (v8 = (2 : Int32) →
            ∃ s117, Wd s117 ∧ fw_ γ m_X1_addWriter 0 [.ref 181, .int v5] s9 s117 ∧
            Q (.inl none) s117
          ) ∧ (¬ v8 = (2 : Int32) →
            (v8 = (0 : Int32) →
              ∃ (v122 : Int32) (s120 : st_T), Wd s120 ∧ fn_ γ m_X4_isUnbuffered 0 [.ref 153] s9 (.int v122) s120 ∧
              (v122 = (0 : Int32) →
                Q (.inl none) s120
              ) ∧ (¬ v122 = (0 : Int32) →
                ∃ s124, Wd s124 ∧ fw_ γ m_X1_addWriter 0 [.ref 181, .int v5] s120 s124 ∧
                Q (.inl none) s124
              )
            ) ∧ (¬ v8 = (0 : Int32) →
              Q (.inl none) s9
            )
          )
        )
      )
    ) ∧ (¬ l5 = (0 : Int32) →
      ∃ (v128 : Int32) (s126 : st_T), Wd s126 ∧ fn_ γ m_X4_committed 2 [.ref 153, .long l2, .int l4, .int (l5 - (1 : Int32))] σ (.int v128) s126 ∧
      ∃ s129, Wd s129 ∧ fw_ γ m_X1_addWriter 0 [.ref 181, .int v128] s126 s129 ∧
      Q (.inl none) s129
    )
  ) ∧ (¬ (18 : Int32) ≤ (st_I σ 181 4) →
    vp_in (st_I σ 181 4) 18 ∧
    (l5 = (0 : Int32) →
      ∃ (v135 : Int32) (s133 : st_T), Wd s133 ∧ fn_ γ m_X4_next 1 [.ref 153, .long l2, .int l4] (pt_I (pt_I σ 182 (st_I σ 181 4).toNatClampNeg (((10 : Int32) * l4) + l5)) 181 4 ((st_I σ 181 4) + (1 : Int32))) (.int v135) s133 ∧
      ∃ (v138 : Int32) (s136 : st_T), Wd s136 ∧ fn_ γ m_X7_property 0 [.ref 132, .int v135, .int (1 : Int32)] s133 (.int v138) s136 ∧
      ∃ (v141 : Int32) (s139 : st_T), Wd s139 ∧ fn_ γ m_X7_property 0 [.ref 132, .int v135, .int (2 : Int32)] s136 (.int v141) s139 ∧
      (v138 = (1 : Int32) →
        (v135 < (0 : Int32) →
          (v138 = (2 : Int32) →
            ∃ s145, Wd s145 ∧ fw_ γ m_X1_addWriter 0 [.ref 181, .int v135] s139 s145 ∧
            Q (.inl none) s145
          ) ∧ (¬ v138 = (2 : Int32) →
            (v138 = (0 : Int32) →
              ∃ (v150 : Int32) (s148 : st_T), Wd s148 ∧ fn_ γ m_X4_isUnbuffered 0 [.ref 153] s139 (.int v150) s148 ∧
              (v150 = (0 : Int32) →
                Q (.inl none) s148
              ) ∧ (¬ v150 = (0 : Int32) →
                ∃ s152, Wd s152 ∧ fw_ γ m_X1_addWriter 0 [.ref 181, .int v135] s148 s152 ∧
                Q (.inl none) s152
              )
            ) ∧ (¬ v138 = (0 : Int32) →
              Q (.inl none) s139
            )
          )
        ) ∧ (¬ v135 < (0 : Int32) →
          ((10 : Int32) ≤ v135 →
            (v138 = (2 : Int32) →
              ∃ s156, Wd s156 ∧ fw_ γ m_X1_addWriter 0 [.ref 181, .int v135] s139 s156 ∧
              Q (.inl none) s156
            ) ∧ (¬ v138 = (2 : Int32) →
              (v138 = (0 : Int32) →
                ∃ (v161 : Int32) (s159 : st_T), Wd s159 ∧ fn_ γ m_X4_isUnbuffered 0 [.ref 153] s139 (.int v161) s159 ∧
                (v161 = (0 : Int32) →
                  Q (.inl none) s159
                ) ∧ (¬ v161 = (0 : Int32) →
                  ∃ s163, Wd s163 ∧ fw_ γ m_X1_addWriter 0 [.ref 181, .int v135] s159 s163 ∧
                  Q (.inl none) s163
                )
              ) ∧ (¬ v138 = (0 : Int32) →
                Q (.inl none) s139
              )
            )
          ) ∧ (¬ (10 : Int32) ≤ v135 →
            ∃ (v167 : Int32) (s165 : st_T), Wd s165 ∧ fn_ γ m_X4_forwarding 2 [.ref 153, .long l2, .int l4, .int v141] s139 (.int v167) s165 ∧
            (v167 = (-1 : Int32) →
              ∃ (v171 : Int32) (s169 : st_T), Wd s169 ∧ fn_ γ m_X1_latestWriter 1 [.ref 181, .int v141] s165 (.int v171) s169 ∧
              vp_in v135 10 ∧
              (v138 = (2 : Int32) →
                ∃ s174, Wd s174 ∧ fw_ γ m_X1_addWriter 0 [.ref 181, .int v135] (pt_I s169 183 v135.toNatClampNeg v171) s174 ∧
                Q (.inl none) s174
              ) ∧ (¬ v138 = (2 : Int32) →
                (v138 = (0 : Int32) →
                  ∃ (v179 : Int32) (s177 : st_T), Wd s177 ∧ fn_ γ m_X4_isUnbuffered 0 [.ref 153] (pt_I s169 183 v135.toNatClampNeg v171) (.int v179) s177 ∧
                  (v179 = (0 : Int32) →
                    Q (.inl none) s177
                  ) ∧ (¬ v179 = (0 : Int32) →
                    ∃ s181, Wd s181 ∧ fw_ γ m_X1_addWriter 0 [.ref 181, .int v135] s177 s181 ∧
                    Q (.inl none) s181
                  )
                ) ∧ (¬ v138 = (0 : Int32) →
                  Q (.inl none) (pt_I s169 183 v135.toNatClampNeg v171)
                )
              )
            ) ∧ (¬ v167 = (-1 : Int32) →
              vp_in v135 10 ∧
              (v138 = (2 : Int32) →
                ∃ s185, Wd s185 ∧ fw_ γ m_X1_addWriter 0 [.ref 181, .int v135] (pt_I s165 183 v135.toNatClampNeg v167) s185 ∧
                Q (.inl none) s185
              ) ∧ (¬ v138 = (2 : Int32) →
                (v138 = (0 : Int32) →
                  ∃ (v190 : Int32) (s188 : st_T), Wd s188 ∧ fn_ γ m_X4_isUnbuffered 0 [.ref 153] (pt_I s165 183 v135.toNatClampNeg v167) (.int v190) s188 ∧
                  (v190 = (0 : Int32) →
                    Q (.inl none) s188
                  ) ∧ (¬ v190 = (0 : Int32) →
                    ∃ s192, Wd s192 ∧ fw_ γ m_X1_addWriter 0 [.ref 181, .int v135] s188 s192 ∧
                    Q (.inl none) s192
                  )
                ) ∧ (¬ v138 = (0 : Int32) →
                  Q (.inl none) (pt_I s165 183 v135.toNatClampNeg v167)
                )
              )
            )
          )
        )
      ) ∧ (¬ v138 = (1 : Int32) →
        (v138 = (2 : Int32) →
          (v135 < (0 : Int32) →
            (v138 = (2 : Int32) →
              ∃ s197, Wd s197 ∧ fw_ γ m_X1_addWriter 0 [.ref 181, .int v135] s139 s197 ∧
              Q (.inl none) s197
            ) ∧ (¬ v138 = (2 : Int32) →
              (v138 = (0 : Int32) →
                ∃ (v202 : Int32) (s200 : st_T), Wd s200 ∧ fn_ γ m_X4_isUnbuffered 0 [.ref 153] s139 (.int v202) s200 ∧
                (v202 = (0 : Int32) →
                  Q (.inl none) s200
                ) ∧ (¬ v202 = (0 : Int32) →
                  ∃ s204, Wd s204 ∧ fw_ γ m_X1_addWriter 0 [.ref 181, .int v135] s200 s204 ∧
                  Q (.inl none) s204
                )
              ) ∧ (¬ v138 = (0 : Int32) →
                Q (.inl none) s139
              )
            )
          ) ∧ (¬ v135 < (0 : Int32) →
            ((10 : Int32) ≤ v135 →
              (v138 = (2 : Int32) →
                ∃ s208, Wd s208 ∧ fw_ γ m_X1_addWriter 0 [.ref 181, .int v135] s139 s208 ∧
                Q (.inl none) s208
              ) ∧ (¬ v138 = (2 : Int32) →
                (v138 = (0 : Int32) →
                  ∃ (v213 : Int32) (s211 : st_T), Wd s211 ∧ fn_ γ m_X4_isUnbuffered 0 [.ref 153] s139 (.int v213) s211 ∧
                  (v213 = (0 : Int32) →
                    Q (.inl none) s211
                  ) ∧ (¬ v213 = (0 : Int32) →
                    ∃ s215, Wd s215 ∧ fw_ γ m_X1_addWriter 0 [.ref 181, .int v135] s211 s215 ∧
                    Q (.inl none) s215
                  )
                ) ∧ (¬ v138 = (0 : Int32) →
                  Q (.inl none) s139
                )
              )
            ) ∧ (¬ (10 : Int32) ≤ v135 →
              ∃ (v219 : Int32) (s217 : st_T), Wd s217 ∧ fn_ γ m_X4_forwarding 2 [.ref 153, .long l2, .int l4, .int v141] s139 (.int v219) s217 ∧
              (v219 = (-1 : Int32) →
                ∃ (v223 : Int32) (s221 : st_T), Wd s221 ∧ fn_ γ m_X1_latestWriter 1 [.ref 181, .int v141] s217 (.int v223) s221 ∧
                vp_in v135 10 ∧
                (v138 = (2 : Int32) →
                  ∃ s226, Wd s226 ∧ fw_ γ m_X1_addWriter 0 [.ref 181, .int v135] (pt_I s221 183 v135.toNatClampNeg v223) s226 ∧
                  Q (.inl none) s226
                ) ∧ (¬ v138 = (2 : Int32) →
                  (v138 = (0 : Int32) →
                    ∃ (v231 : Int32) (s229 : st_T), Wd s229 ∧ fn_ γ m_X4_isUnbuffered 0 [.ref 153] (pt_I s221 183 v135.toNatClampNeg v223) (.int v231) s229 ∧
                    (v231 = (0 : Int32) →
                      Q (.inl none) s229
                    ) ∧ (¬ v231 = (0 : Int32) →
                      ∃ s233, Wd s233 ∧ fw_ γ m_X1_addWriter 0 [.ref 181, .int v135] s229 s233 ∧
                      Q (.inl none) s233
                    )
                  ) ∧ (¬ v138 = (0 : Int32) →
                    Q (.inl none) (pt_I s221 183 v135.toNatClampNeg v223)
                  )
                )
              ) ∧ (¬ v219 = (-1 : Int32) →
                vp_in v135 10 ∧
                (v138 = (2 : Int32) →
                  ∃ s237, Wd s237 ∧ fw_ γ m_X1_addWriter 0 [.ref 181, .int v135] (pt_I s217 183 v135.toNatClampNeg v219) s237 ∧
                  Q (.inl none) s237
                ) ∧ (¬ v138 = (2 : Int32) →
                  (v138 = (0 : Int32) →
                    ∃ (v242 : Int32) (s240 : st_T), Wd s240 ∧ fn_ γ m_X4_isUnbuffered 0 [.ref 153] (pt_I s217 183 v135.toNatClampNeg v219) (.int v242) s240 ∧
                    (v242 = (0 : Int32) →
                      Q (.inl none) s240
                    ) ∧ (¬ v242 = (0 : Int32) →
                      ∃ s244, Wd s244 ∧ fw_ γ m_X1_addWriter 0 [.ref 181, .int v135] s240 s244 ∧
                      Q (.inl none) s244
                    )
                  ) ∧ (¬ v138 = (0 : Int32) →
                    Q (.inl none) (pt_I s217 183 v135.toNatClampNeg v219)
                  )
                )
              )
            )
          )
        ) ∧ (¬ v138 = (2 : Int32) →
          (v138 = (2 : Int32) →
            ∃ s247, Wd s247 ∧ fw_ γ m_X1_addWriter 0 [.ref 181, .int v135] s139 s247 ∧
            Q (.inl none) s247
          ) ∧ (¬ v138 = (2 : Int32) →
            (v138 = (0 : Int32) →
              ∃ (v252 : Int32) (s250 : st_T), Wd s250 ∧ fn_ γ m_X4_isUnbuffered 0 [.ref 153] s139 (.int v252) s250 ∧
              (v252 = (0 : Int32) →
                Q (.inl none) s250
              ) ∧ (¬ v252 = (0 : Int32) →
                ∃ s254, Wd s254 ∧ fw_ γ m_X1_addWriter 0 [.ref 181, .int v135] s250 s254 ∧
                Q (.inl none) s254
              )
            ) ∧ (¬ v138 = (0 : Int32) →
              Q (.inl none) s139
            )
          )
        )
      )
    ) ∧ (¬ l5 = (0 : Int32) →
      ∃ (v258 : Int32) (s256 : st_T), Wd s256 ∧ fn_ γ m_X4_committed 2 [.ref 153, .long l2, .int l4, .int (l5 - (1 : Int32))] (pt_I (pt_I σ 182 (st_I σ 181 4).toNatClampNeg (((10 : Int32) * l4) + l5)) 181 4 ((st_I σ 181 4) + (1 : Int32))) (.int v258) s256 ∧
      ∃ s259, Wd s259 ∧ fw_ γ m_X1_addWriter 0 [.ref 181, .int v258] s256 s259 ∧
      Q (.inl none) s259
    )
  )
set_option maxRecDepth 10000 in
theorem g_X1_addStep_0 {γ : ga_T} {l2 : Int64} {l4 : Int32} {l5 : Int32} {σ : st_T} {Q : rs_T → st_T → Prop} (zw : Wd σ) (zh : p_X1_addStep_0 γ l2 l4 l5 σ Q) : vv_ γ m_X1_addStep 3 0 [(0, .ref 181), (1, .ref 153), (2, .long l2), (4, .int l4), (5, .int l5)] [] σ Q := by
  unfold p_X1_addStep_0 at zh
  refine vr_aload_n dX1_addStep_0 rfl rfl ?_
  refine vr_getI dX1_addStep_1 fl_LitmusTester_Explanation_21 (wC_181 zw) rfl ?_
  refine vr_bipush dX1_addStep_4 (v := (18 : Int32)) (by decide) ?_
  refine vr_ic_ge dX1_addStep_6 (tgt := 36) rfl (fun zd_1 => ?_) (fun zd_1 => ?_)
  · replace zh := zh.1 zd_1
    refine vr_iload dX1_addStep_36 rfl ?_
    refine vr_if_eq dX1_addStep_38 (tgt := 57) rfl (fun zd_2 => ?_) (fun zd_2 => ?_)
    · replace zh := zh.1 zd_2
      refine vr_aload_n dX1_addStep_57 rfl rfl ?_
      refine vr_lload_n dX1_addStep_58 rfl rfl ?_
      refine vr_iload dX1_addStep_59 rfl ?_
      obtain ⟨v5, s3, zw1, zf_4, zh⟩ := zh
      refine vc_V (As := [.long l2, .int l4]) (rest := []) dX1_addStep_61 cV_LitmusTester_Explanation_49 (wC_153 zw) rfl rfl (Nat.le_of_ble_eq_true rfl) (Nat.le_of_ble_eq_true rfl) (co_n zf_4 ?_)
      replace zw := zw1
      refine vr_istore dX1_addStep_64 (Nat.le_of_ble_eq_true rfl) (vv_eq (ls' := [(0, .ref 181), (1, .ref 153), (2, .long l2), (4, .int l4), (5, .int l5), (6, .int v5)]) rfl ?_)
      refine vr_aload_n dX1_addStep_66 rfl rfl ?_
      refine vr_getR dX1_addStep_67 fl_LitmusTester_Explanation_32 (wC_181 zw) (Or.inl ⟨_, rfl⟩) (wR_181_0 zw) ?_
      refine vr_iload dX1_addStep_70 rfl ?_
      refine vr_iconst dX1_addStep_72 (v := (1 : Int32)) (by decide) ?_
      obtain ⟨v8, s6, zw1, zf_7, zh⟩ := zh
      refine vc_V (As := [.int v5, .int (1 : Int32)]) (rest := []) dX1_addStep_73 cV_LitmusTester_Explanation_53 (wC_132 zw) rfl rfl (Nat.le_of_ble_eq_true rfl) (Nat.le_of_ble_eq_true rfl) (co_n zf_7 ?_)
      replace zw := zw1
      refine vr_istore dX1_addStep_76 (Nat.le_of_ble_eq_true rfl) (vv_eq (ls' := [(0, .ref 181), (1, .ref 153), (2, .long l2), (4, .int l4), (5, .int l5), (6, .int v5), (7, .int v8)]) rfl ?_)
      refine vr_aload_n dX1_addStep_78 rfl rfl ?_
      refine vr_getR dX1_addStep_79 fl_LitmusTester_Explanation_32 (wC_181 zw) (Or.inl ⟨_, rfl⟩) (wR_181_0 zw) ?_
      refine vr_iload dX1_addStep_82 rfl ?_
      refine vr_iconst dX1_addStep_84 (v := (2 : Int32)) (by decide) ?_
      obtain ⟨v11, s9, zw1, zf_10, zh⟩ := zh
      refine vc_V (As := [.int v5, .int (2 : Int32)]) (rest := []) dX1_addStep_85 cV_LitmusTester_Explanation_53 (wC_132 zw) rfl rfl (Nat.le_of_ble_eq_true rfl) (Nat.le_of_ble_eq_true rfl) (co_n zf_10 ?_)
      replace zw := zw1
      refine vr_istore dX1_addStep_88 (Nat.le_of_ble_eq_true rfl) (vv_eq (ls' := [(0, .ref 181), (1, .ref 153), (2, .long l2), (4, .int l4), (5, .int l5), (6, .int v5), (7, .int v8), (8, .int v11)]) rfl ?_)
      refine vr_iload dX1_addStep_90 rfl ?_
      refine vr_iconst dX1_addStep_92 (v := (1 : Int32)) (by decide) ?_
      refine vr_ic_eq dX1_addStep_93 (tgt := 102) rfl (fun zd_12 => ?_) (fun zd_12 => ?_)
      · replace zh := zh.1 zd_12
        refine vr_iload dX1_addStep_102 rfl ?_
        refine vr_if_lt dX1_addStep_104 (tgt := 149) rfl (fun zd_13 => ?_) (fun zd_13 => ?_)
        · replace zh := zh.1 zd_13
          refine vr_iload dX1_addStep_149 rfl ?_
          refine vr_iconst dX1_addStep_151 (v := (2 : Int32)) (by decide) ?_
          refine vr_ic_eq dX1_addStep_152 (tgt := 167) rfl (fun zd_14 => ?_) (fun zd_14 => ?_)
          · replace zh := zh.1 zd_14
            refine vr_aload_n dX1_addStep_167 rfl rfl ?_
            refine vr_iload dX1_addStep_168 rfl ?_
            obtain ⟨s15, zw1, zf_16, zh⟩ := zh
            refine vc_V (As := [.int v5]) (rest := []) dX1_addStep_170 cV_LitmusTester_Explanation_45 (wC_181 zw) rfl rfl (Nat.le_of_ble_eq_true rfl) (Nat.le_of_ble_eq_true rfl) (co_v zf_16 ?_)
            replace zw := zw1
            exact vr_vret dX1_addStep_173 rfl zh
          · replace zh := zh.2 zd_14
            refine vr_iload dX1_addStep_155 rfl ?_
            refine vr_if_ne dX1_addStep_157 (tgt := 173) rfl (fun zd_17 => ?_) (fun zd_17 => ?_)
            · replace zh := zh.2 zd_17
              exact vr_vret dX1_addStep_173 rfl zh
            · replace zh := zh.1 zd_17
              refine vr_aload_n dX1_addStep_160 rfl rfl ?_
              obtain ⟨v20, s18, zw1, zf_19, zh⟩ := zh
              refine vc_V (As := []) (rest := []) dX1_addStep_161 cV_LitmusTester_Explanation_66 (wC_153 zw) rfl rfl (Nat.le_of_ble_eq_true rfl) (Nat.le_of_ble_eq_true rfl) (co_n zf_19 ?_)
              replace zw := zw1
              refine vr_if_eq dX1_addStep_164 (tgt := 173) rfl (fun zd_21 => ?_) (fun zd_21 => ?_)
              · replace zh := zh.1 zd_21
                exact vr_vret dX1_addStep_173 rfl zh
              · replace zh := zh.2 zd_21
                refine vr_aload_n dX1_addStep_167 rfl rfl ?_
                refine vr_iload dX1_addStep_168 rfl ?_
                obtain ⟨s22, zw1, zf_23, zh⟩ := zh
                refine vc_V (As := [.int v5]) (rest := []) dX1_addStep_170 cV_LitmusTester_Explanation_45 (wC_181 zw) rfl rfl (Nat.le_of_ble_eq_true rfl) (Nat.le_of_ble_eq_true rfl) (co_v zf_23 ?_)
                replace zw := zw1
                exact vr_vret dX1_addStep_173 rfl zh
        · replace zh := zh.2 zd_13
          refine vr_iload dX1_addStep_107 rfl ?_
          refine vr_bipush dX1_addStep_109 (v := (10 : Int32)) (by decide) ?_
          refine vr_ic_ge dX1_addStep_111 (tgt := 149) rfl (fun zd_24 => ?_) (fun zd_24 => ?_)
          · replace zh := zh.1 zd_24
            refine vr_iload dX1_addStep_149 rfl ?_
            refine vr_iconst dX1_addStep_151 (v := (2 : Int32)) (by decide) ?_
            refine vr_ic_eq dX1_addStep_152 (tgt := 167) rfl (fun zd_25 => ?_) (fun zd_25 => ?_)
            · replace zh := zh.1 zd_25
              refine vr_aload_n dX1_addStep_167 rfl rfl ?_
              refine vr_iload dX1_addStep_168 rfl ?_
              obtain ⟨s26, zw1, zf_27, zh⟩ := zh
              refine vc_V (As := [.int v5]) (rest := []) dX1_addStep_170 cV_LitmusTester_Explanation_45 (wC_181 zw) rfl rfl (Nat.le_of_ble_eq_true rfl) (Nat.le_of_ble_eq_true rfl) (co_v zf_27 ?_)
              replace zw := zw1
              exact vr_vret dX1_addStep_173 rfl zh
            · replace zh := zh.2 zd_25
              refine vr_iload dX1_addStep_155 rfl ?_
              refine vr_if_ne dX1_addStep_157 (tgt := 173) rfl (fun zd_28 => ?_) (fun zd_28 => ?_)
              · replace zh := zh.2 zd_28
                exact vr_vret dX1_addStep_173 rfl zh
              · replace zh := zh.1 zd_28
                refine vr_aload_n dX1_addStep_160 rfl rfl ?_
                obtain ⟨v31, s29, zw1, zf_30, zh⟩ := zh
                refine vc_V (As := []) (rest := []) dX1_addStep_161 cV_LitmusTester_Explanation_66 (wC_153 zw) rfl rfl (Nat.le_of_ble_eq_true rfl) (Nat.le_of_ble_eq_true rfl) (co_n zf_30 ?_)
                replace zw := zw1
                refine vr_if_eq dX1_addStep_164 (tgt := 173) rfl (fun zd_32 => ?_) (fun zd_32 => ?_)
                · replace zh := zh.1 zd_32
                  exact vr_vret dX1_addStep_173 rfl zh
                · replace zh := zh.2 zd_32
                  refine vr_aload_n dX1_addStep_167 rfl rfl ?_
                  refine vr_iload dX1_addStep_168 rfl ?_
                  obtain ⟨s33, zw1, zf_34, zh⟩ := zh
                  refine vc_V (As := [.int v5]) (rest := []) dX1_addStep_170 cV_LitmusTester_Explanation_45 (wC_181 zw) rfl rfl (Nat.le_of_ble_eq_true rfl) (Nat.le_of_ble_eq_true rfl) (co_v zf_34 ?_)
                  replace zw := zw1
                  exact vr_vret dX1_addStep_173 rfl zh
          · replace zh := zh.2 zd_24
            refine vr_aload_n dX1_addStep_114 rfl rfl ?_
            refine vr_lload_n dX1_addStep_115 rfl rfl ?_
            refine vr_iload dX1_addStep_116 rfl ?_
            refine vr_iload dX1_addStep_118 rfl ?_
            obtain ⟨v37, s35, zw1, zf_36, zh⟩ := zh
            refine vc_V (As := [.long l2, .int l4, .int v11]) (rest := []) dX1_addStep_120 cV_LitmusTester_Explanation_59 (wC_153 zw) rfl rfl (Nat.le_of_ble_eq_true rfl) (Nat.le_of_ble_eq_true rfl) (co_n zf_36 ?_)
            replace zw := zw1
            refine vr_istore dX1_addStep_123 (Nat.le_of_ble_eq_true rfl) (vv_eq (ls' := [(0, .ref 181), (1, .ref 153), (2, .long l2), (4, .int l4), (5, .int l5), (6, .int v5), (7, .int v8), (8, .int v11), (9, .int v37)]) rfl ?_)
            refine vr_aload_n dX1_addStep_125 rfl rfl ?_
            refine vr_getR dX1_addStep_126 fl_LitmusTester_Explanation_15 (wC_181 zw) (Or.inr ⟨_, rfl⟩) (wR_181_2 zw) ?_
            refine vr_iload dX1_addStep_129 rfl ?_
            refine vr_iload dX1_addStep_131 rfl ?_
            refine vr_iconst dX1_addStep_133 (v := (-1 : Int32)) (by decide) ?_
            refine vr_ic_ne dX1_addStep_134 (tgt := 146) rfl (fun zd_38 => ?_) (fun zd_38 => ?_)
            · replace zh := zh.2 zd_38
              refine vr_iload dX1_addStep_146 rfl ?_
              obtain ⟨zi_53, zh⟩ := zh
              refine vr_iastore dX1_addStep_148 (wS_183 zw) zi_53 ?_
              refine vr_iload dX1_addStep_149 rfl ?_
              refine vr_iconst dX1_addStep_151 (v := (2 : Int32)) (by decide) ?_
              refine vr_ic_eq dX1_addStep_152 (tgt := 167) rfl (fun zd_54 => ?_) (fun zd_54 => ?_)
              · replace zh := zh.1 zd_54
                refine vr_aload_n dX1_addStep_167 rfl rfl ?_
                refine vr_iload dX1_addStep_168 rfl ?_
                obtain ⟨s55, zw1, zf_56, zh⟩ := zh
                refine vc_V (As := [.int v5]) (rest := []) dX1_addStep_170 cV_LitmusTester_Explanation_45 (wC_181 zw) rfl rfl (Nat.le_of_ble_eq_true rfl) (Nat.le_of_ble_eq_true rfl) (co_v zf_56 ?_)
                replace zw := zw1
                exact vr_vret dX1_addStep_173 rfl zh
              · replace zh := zh.2 zd_54
                refine vr_iload dX1_addStep_155 rfl ?_
                refine vr_if_ne dX1_addStep_157 (tgt := 173) rfl (fun zd_57 => ?_) (fun zd_57 => ?_)
                · replace zh := zh.2 zd_57
                  exact vr_vret dX1_addStep_173 rfl zh
                · replace zh := zh.1 zd_57
                  refine vr_aload_n dX1_addStep_160 rfl rfl ?_
                  obtain ⟨v60, s58, zw1, zf_59, zh⟩ := zh
                  refine vc_V (As := []) (rest := []) dX1_addStep_161 cV_LitmusTester_Explanation_66 (wC_153 zw) rfl rfl (Nat.le_of_ble_eq_true rfl) (Nat.le_of_ble_eq_true rfl) (co_n zf_59 ?_)
                  replace zw := zw1
                  refine vr_if_eq dX1_addStep_164 (tgt := 173) rfl (fun zd_61 => ?_) (fun zd_61 => ?_)
                  · replace zh := zh.1 zd_61
                    exact vr_vret dX1_addStep_173 rfl zh
                  · replace zh := zh.2 zd_61
                    refine vr_aload_n dX1_addStep_167 rfl rfl ?_
                    refine vr_iload dX1_addStep_168 rfl ?_
                    obtain ⟨s62, zw1, zf_63, zh⟩ := zh
                    refine vc_V (As := [.int v5]) (rest := []) dX1_addStep_170 cV_LitmusTester_Explanation_45 (wC_181 zw) rfl rfl (Nat.le_of_ble_eq_true rfl) (Nat.le_of_ble_eq_true rfl) (co_v zf_63 ?_)
                    replace zw := zw1
                    exact vr_vret dX1_addStep_173 rfl zh
            · replace zh := zh.1 zd_38
              refine vr_aload_n dX1_addStep_137 rfl rfl ?_
              refine vr_iload dX1_addStep_138 rfl ?_
              obtain ⟨v41, s39, zw1, zf_40, zh⟩ := zh
              refine vc_V (As := [.int v11]) (rest := [.int v5, .ref 183]) dX1_addStep_140 cV_LitmusTester_Explanation_62 (wC_181 zw) rfl rfl (Nat.le_of_ble_eq_true rfl) (Nat.le_of_ble_eq_true rfl) (co_n zf_40 ?_)
              replace zw := zw1
              refine vr_goto dX1_addStep_143 (tgt := 148) rfl ?_
              obtain ⟨zi_42, zh⟩ := zh
              refine vr_iastore dX1_addStep_148 (wS_183 zw) zi_42 ?_
              refine vr_iload dX1_addStep_149 rfl ?_
              refine vr_iconst dX1_addStep_151 (v := (2 : Int32)) (by decide) ?_
              refine vr_ic_eq dX1_addStep_152 (tgt := 167) rfl (fun zd_43 => ?_) (fun zd_43 => ?_)
              · replace zh := zh.1 zd_43
                refine vr_aload_n dX1_addStep_167 rfl rfl ?_
                refine vr_iload dX1_addStep_168 rfl ?_
                obtain ⟨s44, zw1, zf_45, zh⟩ := zh
                refine vc_V (As := [.int v5]) (rest := []) dX1_addStep_170 cV_LitmusTester_Explanation_45 (wC_181 zw) rfl rfl (Nat.le_of_ble_eq_true rfl) (Nat.le_of_ble_eq_true rfl) (co_v zf_45 ?_)
                replace zw := zw1
                exact vr_vret dX1_addStep_173 rfl zh
              · replace zh := zh.2 zd_43
                refine vr_iload dX1_addStep_155 rfl ?_
                refine vr_if_ne dX1_addStep_157 (tgt := 173) rfl (fun zd_46 => ?_) (fun zd_46 => ?_)
                · replace zh := zh.2 zd_46
                  exact vr_vret dX1_addStep_173 rfl zh
                · replace zh := zh.1 zd_46
                  refine vr_aload_n dX1_addStep_160 rfl rfl ?_
                  obtain ⟨v49, s47, zw1, zf_48, zh⟩ := zh
                  refine vc_V (As := []) (rest := []) dX1_addStep_161 cV_LitmusTester_Explanation_66 (wC_153 zw) rfl rfl (Nat.le_of_ble_eq_true rfl) (Nat.le_of_ble_eq_true rfl) (co_n zf_48 ?_)
                  replace zw := zw1
                  refine vr_if_eq dX1_addStep_164 (tgt := 173) rfl (fun zd_50 => ?_) (fun zd_50 => ?_)
                  · replace zh := zh.1 zd_50
                    exact vr_vret dX1_addStep_173 rfl zh
                  · replace zh := zh.2 zd_50
                    refine vr_aload_n dX1_addStep_167 rfl rfl ?_
                    refine vr_iload dX1_addStep_168 rfl ?_
                    obtain ⟨s51, zw1, zf_52, zh⟩ := zh
                    refine vc_V (As := [.int v5]) (rest := []) dX1_addStep_170 cV_LitmusTester_Explanation_45 (wC_181 zw) rfl rfl (Nat.le_of_ble_eq_true rfl) (Nat.le_of_ble_eq_true rfl) (co_v zf_52 ?_)
                    replace zw := zw1
                    exact vr_vret dX1_addStep_173 rfl zh
      · replace zh := zh.2 zd_12
        refine vr_iload dX1_addStep_96 rfl ?_
        refine vr_iconst dX1_addStep_98 (v := (2 : Int32)) (by decide) ?_
        refine vr_ic_ne dX1_addStep_99 (tgt := 149) rfl (fun zd_64 => ?_) (fun zd_64 => ?_)
        · replace zh := zh.2 zd_64
          refine vr_iload dX1_addStep_149 rfl ?_
          refine vr_iconst dX1_addStep_151 (v := (2 : Int32)) (by decide) ?_
          refine vr_ic_eq dX1_addStep_152 (tgt := 167) rfl (fun zd_116 => ?_) (fun zd_116 => ?_)
          · replace zh := zh.1 zd_116
            refine vr_aload_n dX1_addStep_167 rfl rfl ?_
            refine vr_iload dX1_addStep_168 rfl ?_
            obtain ⟨s117, zw1, zf_118, zh⟩ := zh
            refine vc_V (As := [.int v5]) (rest := []) dX1_addStep_170 cV_LitmusTester_Explanation_45 (wC_181 zw) rfl rfl (Nat.le_of_ble_eq_true rfl) (Nat.le_of_ble_eq_true rfl) (co_v zf_118 ?_)
            replace zw := zw1
            exact vr_vret dX1_addStep_173 rfl zh
          · replace zh := zh.2 zd_116
            refine vr_iload dX1_addStep_155 rfl ?_
            refine vr_if_ne dX1_addStep_157 (tgt := 173) rfl (fun zd_119 => ?_) (fun zd_119 => ?_)
            · replace zh := zh.2 zd_119
              exact vr_vret dX1_addStep_173 rfl zh
            · replace zh := zh.1 zd_119
              refine vr_aload_n dX1_addStep_160 rfl rfl ?_
              obtain ⟨v122, s120, zw1, zf_121, zh⟩ := zh
              refine vc_V (As := []) (rest := []) dX1_addStep_161 cV_LitmusTester_Explanation_66 (wC_153 zw) rfl rfl (Nat.le_of_ble_eq_true rfl) (Nat.le_of_ble_eq_true rfl) (co_n zf_121 ?_)
              replace zw := zw1
              refine vr_if_eq dX1_addStep_164 (tgt := 173) rfl (fun zd_123 => ?_) (fun zd_123 => ?_)
              · replace zh := zh.1 zd_123
                exact vr_vret dX1_addStep_173 rfl zh
              · replace zh := zh.2 zd_123
                refine vr_aload_n dX1_addStep_167 rfl rfl ?_
                refine vr_iload dX1_addStep_168 rfl ?_
                obtain ⟨s124, zw1, zf_125, zh⟩ := zh
                refine vc_V (As := [.int v5]) (rest := []) dX1_addStep_170 cV_LitmusTester_Explanation_45 (wC_181 zw) rfl rfl (Nat.le_of_ble_eq_true rfl) (Nat.le_of_ble_eq_true rfl) (co_v zf_125 ?_)
                replace zw := zw1
                exact vr_vret dX1_addStep_173 rfl zh
        · replace zh := zh.1 zd_64
          refine vr_iload dX1_addStep_102 rfl ?_
          refine vr_if_lt dX1_addStep_104 (tgt := 149) rfl (fun zd_65 => ?_) (fun zd_65 => ?_)
          · replace zh := zh.1 zd_65
            refine vr_iload dX1_addStep_149 rfl ?_
            refine vr_iconst dX1_addStep_151 (v := (2 : Int32)) (by decide) ?_
            refine vr_ic_eq dX1_addStep_152 (tgt := 167) rfl (fun zd_66 => ?_) (fun zd_66 => ?_)
            · replace zh := zh.1 zd_66
              refine vr_aload_n dX1_addStep_167 rfl rfl ?_
              refine vr_iload dX1_addStep_168 rfl ?_
              obtain ⟨s67, zw1, zf_68, zh⟩ := zh
              refine vc_V (As := [.int v5]) (rest := []) dX1_addStep_170 cV_LitmusTester_Explanation_45 (wC_181 zw) rfl rfl (Nat.le_of_ble_eq_true rfl) (Nat.le_of_ble_eq_true rfl) (co_v zf_68 ?_)
              replace zw := zw1
              exact vr_vret dX1_addStep_173 rfl zh
            · replace zh := zh.2 zd_66
              refine vr_iload dX1_addStep_155 rfl ?_
              refine vr_if_ne dX1_addStep_157 (tgt := 173) rfl (fun zd_69 => ?_) (fun zd_69 => ?_)
              · replace zh := zh.2 zd_69
                exact vr_vret dX1_addStep_173 rfl zh
              · replace zh := zh.1 zd_69
                refine vr_aload_n dX1_addStep_160 rfl rfl ?_
                obtain ⟨v72, s70, zw1, zf_71, zh⟩ := zh
                refine vc_V (As := []) (rest := []) dX1_addStep_161 cV_LitmusTester_Explanation_66 (wC_153 zw) rfl rfl (Nat.le_of_ble_eq_true rfl) (Nat.le_of_ble_eq_true rfl) (co_n zf_71 ?_)
                replace zw := zw1
                refine vr_if_eq dX1_addStep_164 (tgt := 173) rfl (fun zd_73 => ?_) (fun zd_73 => ?_)
                · replace zh := zh.1 zd_73
                  exact vr_vret dX1_addStep_173 rfl zh
                · replace zh := zh.2 zd_73
                  refine vr_aload_n dX1_addStep_167 rfl rfl ?_
                  refine vr_iload dX1_addStep_168 rfl ?_
                  obtain ⟨s74, zw1, zf_75, zh⟩ := zh
                  refine vc_V (As := [.int v5]) (rest := []) dX1_addStep_170 cV_LitmusTester_Explanation_45 (wC_181 zw) rfl rfl (Nat.le_of_ble_eq_true rfl) (Nat.le_of_ble_eq_true rfl) (co_v zf_75 ?_)
                  replace zw := zw1
                  exact vr_vret dX1_addStep_173 rfl zh
          · replace zh := zh.2 zd_65
            refine vr_iload dX1_addStep_107 rfl ?_
            refine vr_bipush dX1_addStep_109 (v := (10 : Int32)) (by decide) ?_
            refine vr_ic_ge dX1_addStep_111 (tgt := 149) rfl (fun zd_76 => ?_) (fun zd_76 => ?_)
            · replace zh := zh.1 zd_76
              refine vr_iload dX1_addStep_149 rfl ?_
              refine vr_iconst dX1_addStep_151 (v := (2 : Int32)) (by decide) ?_
              refine vr_ic_eq dX1_addStep_152 (tgt := 167) rfl (fun zd_77 => ?_) (fun zd_77 => ?_)
              · replace zh := zh.1 zd_77
                refine vr_aload_n dX1_addStep_167 rfl rfl ?_
                refine vr_iload dX1_addStep_168 rfl ?_
                obtain ⟨s78, zw1, zf_79, zh⟩ := zh
                refine vc_V (As := [.int v5]) (rest := []) dX1_addStep_170 cV_LitmusTester_Explanation_45 (wC_181 zw) rfl rfl (Nat.le_of_ble_eq_true rfl) (Nat.le_of_ble_eq_true rfl) (co_v zf_79 ?_)
                replace zw := zw1
                exact vr_vret dX1_addStep_173 rfl zh
              · replace zh := zh.2 zd_77
                refine vr_iload dX1_addStep_155 rfl ?_
                refine vr_if_ne dX1_addStep_157 (tgt := 173) rfl (fun zd_80 => ?_) (fun zd_80 => ?_)
                · replace zh := zh.2 zd_80
                  exact vr_vret dX1_addStep_173 rfl zh
                · replace zh := zh.1 zd_80
                  refine vr_aload_n dX1_addStep_160 rfl rfl ?_
                  obtain ⟨v83, s81, zw1, zf_82, zh⟩ := zh
                  refine vc_V (As := []) (rest := []) dX1_addStep_161 cV_LitmusTester_Explanation_66 (wC_153 zw) rfl rfl (Nat.le_of_ble_eq_true rfl) (Nat.le_of_ble_eq_true rfl) (co_n zf_82 ?_)
                  replace zw := zw1
                  refine vr_if_eq dX1_addStep_164 (tgt := 173) rfl (fun zd_84 => ?_) (fun zd_84 => ?_)
                  · replace zh := zh.1 zd_84
                    exact vr_vret dX1_addStep_173 rfl zh
                  · replace zh := zh.2 zd_84
                    refine vr_aload_n dX1_addStep_167 rfl rfl ?_
                    refine vr_iload dX1_addStep_168 rfl ?_
                    obtain ⟨s85, zw1, zf_86, zh⟩ := zh
                    refine vc_V (As := [.int v5]) (rest := []) dX1_addStep_170 cV_LitmusTester_Explanation_45 (wC_181 zw) rfl rfl (Nat.le_of_ble_eq_true rfl) (Nat.le_of_ble_eq_true rfl) (co_v zf_86 ?_)
                    replace zw := zw1
                    exact vr_vret dX1_addStep_173 rfl zh
            · replace zh := zh.2 zd_76
              refine vr_aload_n dX1_addStep_114 rfl rfl ?_
              refine vr_lload_n dX1_addStep_115 rfl rfl ?_
              refine vr_iload dX1_addStep_116 rfl ?_
              refine vr_iload dX1_addStep_118 rfl ?_
              obtain ⟨v89, s87, zw1, zf_88, zh⟩ := zh
              refine vc_V (As := [.long l2, .int l4, .int v11]) (rest := []) dX1_addStep_120 cV_LitmusTester_Explanation_59 (wC_153 zw) rfl rfl (Nat.le_of_ble_eq_true rfl) (Nat.le_of_ble_eq_true rfl) (co_n zf_88 ?_)
              replace zw := zw1
              refine vr_istore dX1_addStep_123 (Nat.le_of_ble_eq_true rfl) (vv_eq (ls' := [(0, .ref 181), (1, .ref 153), (2, .long l2), (4, .int l4), (5, .int l5), (6, .int v5), (7, .int v8), (8, .int v11), (9, .int v89)]) rfl ?_)
              refine vr_aload_n dX1_addStep_125 rfl rfl ?_
              refine vr_getR dX1_addStep_126 fl_LitmusTester_Explanation_15 (wC_181 zw) (Or.inr ⟨_, rfl⟩) (wR_181_2 zw) ?_
              refine vr_iload dX1_addStep_129 rfl ?_
              refine vr_iload dX1_addStep_131 rfl ?_
              refine vr_iconst dX1_addStep_133 (v := (-1 : Int32)) (by decide) ?_
              refine vr_ic_ne dX1_addStep_134 (tgt := 146) rfl (fun zd_90 => ?_) (fun zd_90 => ?_)
              · replace zh := zh.2 zd_90
                refine vr_iload dX1_addStep_146 rfl ?_
                obtain ⟨zi_105, zh⟩ := zh
                refine vr_iastore dX1_addStep_148 (wS_183 zw) zi_105 ?_
                refine vr_iload dX1_addStep_149 rfl ?_
                refine vr_iconst dX1_addStep_151 (v := (2 : Int32)) (by decide) ?_
                refine vr_ic_eq dX1_addStep_152 (tgt := 167) rfl (fun zd_106 => ?_) (fun zd_106 => ?_)
                · replace zh := zh.1 zd_106
                  refine vr_aload_n dX1_addStep_167 rfl rfl ?_
                  refine vr_iload dX1_addStep_168 rfl ?_
                  obtain ⟨s107, zw1, zf_108, zh⟩ := zh
                  refine vc_V (As := [.int v5]) (rest := []) dX1_addStep_170 cV_LitmusTester_Explanation_45 (wC_181 zw) rfl rfl (Nat.le_of_ble_eq_true rfl) (Nat.le_of_ble_eq_true rfl) (co_v zf_108 ?_)
                  replace zw := zw1
                  exact vr_vret dX1_addStep_173 rfl zh
                · replace zh := zh.2 zd_106
                  refine vr_iload dX1_addStep_155 rfl ?_
                  refine vr_if_ne dX1_addStep_157 (tgt := 173) rfl (fun zd_109 => ?_) (fun zd_109 => ?_)
                  · replace zh := zh.2 zd_109
                    exact vr_vret dX1_addStep_173 rfl zh
                  · replace zh := zh.1 zd_109
                    refine vr_aload_n dX1_addStep_160 rfl rfl ?_
                    obtain ⟨v112, s110, zw1, zf_111, zh⟩ := zh
                    refine vc_V (As := []) (rest := []) dX1_addStep_161 cV_LitmusTester_Explanation_66 (wC_153 zw) rfl rfl (Nat.le_of_ble_eq_true rfl) (Nat.le_of_ble_eq_true rfl) (co_n zf_111 ?_)
                    replace zw := zw1
                    refine vr_if_eq dX1_addStep_164 (tgt := 173) rfl (fun zd_113 => ?_) (fun zd_113 => ?_)
                    · replace zh := zh.1 zd_113
                      exact vr_vret dX1_addStep_173 rfl zh
                    · replace zh := zh.2 zd_113
                      refine vr_aload_n dX1_addStep_167 rfl rfl ?_
                      refine vr_iload dX1_addStep_168 rfl ?_
                      obtain ⟨s114, zw1, zf_115, zh⟩ := zh
                      refine vc_V (As := [.int v5]) (rest := []) dX1_addStep_170 cV_LitmusTester_Explanation_45 (wC_181 zw) rfl rfl (Nat.le_of_ble_eq_true rfl) (Nat.le_of_ble_eq_true rfl) (co_v zf_115 ?_)
                      replace zw := zw1
                      exact vr_vret dX1_addStep_173 rfl zh
              · replace zh := zh.1 zd_90
                refine vr_aload_n dX1_addStep_137 rfl rfl ?_
                refine vr_iload dX1_addStep_138 rfl ?_
                obtain ⟨v93, s91, zw1, zf_92, zh⟩ := zh
                refine vc_V (As := [.int v11]) (rest := [.int v5, .ref 183]) dX1_addStep_140 cV_LitmusTester_Explanation_62 (wC_181 zw) rfl rfl (Nat.le_of_ble_eq_true rfl) (Nat.le_of_ble_eq_true rfl) (co_n zf_92 ?_)
                replace zw := zw1
                refine vr_goto dX1_addStep_143 (tgt := 148) rfl ?_
                obtain ⟨zi_94, zh⟩ := zh
                refine vr_iastore dX1_addStep_148 (wS_183 zw) zi_94 ?_
                refine vr_iload dX1_addStep_149 rfl ?_
                refine vr_iconst dX1_addStep_151 (v := (2 : Int32)) (by decide) ?_
                refine vr_ic_eq dX1_addStep_152 (tgt := 167) rfl (fun zd_95 => ?_) (fun zd_95 => ?_)
                · replace zh := zh.1 zd_95
                  refine vr_aload_n dX1_addStep_167 rfl rfl ?_
                  refine vr_iload dX1_addStep_168 rfl ?_
                  obtain ⟨s96, zw1, zf_97, zh⟩ := zh
                  refine vc_V (As := [.int v5]) (rest := []) dX1_addStep_170 cV_LitmusTester_Explanation_45 (wC_181 zw) rfl rfl (Nat.le_of_ble_eq_true rfl) (Nat.le_of_ble_eq_true rfl) (co_v zf_97 ?_)
                  replace zw := zw1
                  exact vr_vret dX1_addStep_173 rfl zh
                · replace zh := zh.2 zd_95
                  refine vr_iload dX1_addStep_155 rfl ?_
                  refine vr_if_ne dX1_addStep_157 (tgt := 173) rfl (fun zd_98 => ?_) (fun zd_98 => ?_)
                  · replace zh := zh.2 zd_98
                    exact vr_vret dX1_addStep_173 rfl zh
                  · replace zh := zh.1 zd_98
                    refine vr_aload_n dX1_addStep_160 rfl rfl ?_
                    obtain ⟨v101, s99, zw1, zf_100, zh⟩ := zh
                    refine vc_V (As := []) (rest := []) dX1_addStep_161 cV_LitmusTester_Explanation_66 (wC_153 zw) rfl rfl (Nat.le_of_ble_eq_true rfl) (Nat.le_of_ble_eq_true rfl) (co_n zf_100 ?_)
                    replace zw := zw1
                    refine vr_if_eq dX1_addStep_164 (tgt := 173) rfl (fun zd_102 => ?_) (fun zd_102 => ?_)
                    · replace zh := zh.1 zd_102
                      exact vr_vret dX1_addStep_173 rfl zh
                    · replace zh := zh.2 zd_102
                      refine vr_aload_n dX1_addStep_167 rfl rfl ?_
                      refine vr_iload dX1_addStep_168 rfl ?_
                      obtain ⟨s103, zw1, zf_104, zh⟩ := zh
                      refine vc_V (As := [.int v5]) (rest := []) dX1_addStep_170 cV_LitmusTester_Explanation_45 (wC_181 zw) rfl rfl (Nat.le_of_ble_eq_true rfl) (Nat.le_of_ble_eq_true rfl) (co_v zf_104 ?_)
                      replace zw := zw1
                      exact vr_vret dX1_addStep_173 rfl zh
    · replace zh := zh.2 zd_2
      refine vr_aload_n dX1_addStep_41 rfl rfl ?_
      refine vr_aload_n dX1_addStep_42 rfl rfl ?_
      refine vr_lload_n dX1_addStep_43 rfl rfl ?_
      refine vr_iload dX1_addStep_44 rfl ?_
      refine vr_iload dX1_addStep_46 rfl ?_
      refine vr_iconst dX1_addStep_48 (v := (1 : Int32)) (by decide) ?_
      refine vr_isub dX1_addStep_49 ?_
      obtain ⟨v128, s126, zw1, zf_127, zh⟩ := zh
      refine vc_V (As := [.long l2, .int l4, .int (l5 - (1 : Int32))]) (rest := [.ref 181]) dX1_addStep_50 cV_LitmusTester_Explanation_39 (wC_153 zw) rfl rfl (Nat.le_of_ble_eq_true rfl) (Nat.le_of_ble_eq_true rfl) (co_n zf_127 ?_)
      replace zw := zw1
      obtain ⟨s129, zw1, zf_130, zh⟩ := zh
      refine vc_V (As := [.int v128]) (rest := []) dX1_addStep_53 cV_LitmusTester_Explanation_45 (wC_181 zw) rfl rfl (Nat.le_of_ble_eq_true rfl) (Nat.le_of_ble_eq_true rfl) (co_v zf_130 ?_)
      replace zw := zw1
      exact vr_vret dX1_addStep_56 rfl zh
  · replace zh := zh.2 zd_1
    refine vr_aload_n dX1_addStep_9 rfl rfl ?_
    refine vr_getR dX1_addStep_10 fl_LitmusTester_Explanation_9 (wC_181 zw) (Or.inr ⟨_, rfl⟩) (wR_181_1 zw) ?_
    refine vr_aload_n dX1_addStep_13 rfl rfl ?_
    refine vr_getI dX1_addStep_14 fl_LitmusTester_Explanation_21 (wC_181 zw) rfl ?_
    refine vr_bipush dX1_addStep_17 (v := (10 : Int32)) (by decide) ?_
    refine vr_iload dX1_addStep_19 rfl ?_
    refine vr_imul dX1_addStep_21 ?_
    refine vr_iload dX1_addStep_22 rfl ?_
    refine vr_iadd dX1_addStep_24 ?_
    obtain ⟨zi_131, zh⟩ := zh
    refine vr_iastore dX1_addStep_25 (wS_182 zw) zi_131 ?_
    refine vr_aload_n dX1_addStep_26 rfl rfl ?_
    refine vr_dup dX1_addStep_27 rfl ?_
    refine vr_getI dX1_addStep_28 fl_LitmusTester_Explanation_21 (wC_181 zw) rfl ?_
    refine vv_top (w := .int (st_I σ 181 4)) rfl ?_
    refine vr_iconst dX1_addStep_31 (v := (1 : Int32)) (by decide) ?_
    refine vr_iadd dX1_addStep_32 ?_
    refine vr_putI dX1_addStep_33 fl_LitmusTester_Explanation_21 (wC_181 zw) rfl (fz_1_4) ?_
    refine vr_iload dX1_addStep_36 rfl ?_
    refine vr_if_eq dX1_addStep_38 (tgt := 57) rfl (fun zd_132 => ?_) (fun zd_132 => ?_)
    · replace zh := zh.1 zd_132
      refine vr_aload_n dX1_addStep_57 rfl rfl ?_
      refine vr_lload_n dX1_addStep_58 rfl rfl ?_
      refine vr_iload dX1_addStep_59 rfl ?_
      obtain ⟨v135, s133, zw1, zf_134, zh⟩ := zh
      refine vc_V (As := [.long l2, .int l4]) (rest := []) dX1_addStep_61 cV_LitmusTester_Explanation_49 (wC_153 zw) rfl rfl (Nat.le_of_ble_eq_true rfl) (Nat.le_of_ble_eq_true rfl) (co_n zf_134 ?_)
      replace zw := zw1
      refine vr_istore dX1_addStep_64 (Nat.le_of_ble_eq_true rfl) (vv_eq (ls' := [(0, .ref 181), (1, .ref 153), (2, .long l2), (4, .int l4), (5, .int l5), (6, .int v135)]) rfl ?_)
      refine vr_aload_n dX1_addStep_66 rfl rfl ?_
      refine vr_getR dX1_addStep_67 fl_LitmusTester_Explanation_32 (wC_181 zw) (Or.inl ⟨_, rfl⟩) (wR_181_0 zw) ?_
      refine vr_iload dX1_addStep_70 rfl ?_
      refine vr_iconst dX1_addStep_72 (v := (1 : Int32)) (by decide) ?_
      obtain ⟨v138, s136, zw1, zf_137, zh⟩ := zh
      refine vc_V (As := [.int v135, .int (1 : Int32)]) (rest := []) dX1_addStep_73 cV_LitmusTester_Explanation_53 (wC_132 zw) rfl rfl (Nat.le_of_ble_eq_true rfl) (Nat.le_of_ble_eq_true rfl) (co_n zf_137 ?_)
      replace zw := zw1
      refine vr_istore dX1_addStep_76 (Nat.le_of_ble_eq_true rfl) (vv_eq (ls' := [(0, .ref 181), (1, .ref 153), (2, .long l2), (4, .int l4), (5, .int l5), (6, .int v135), (7, .int v138)]) rfl ?_)
      refine vr_aload_n dX1_addStep_78 rfl rfl ?_
      refine vr_getR dX1_addStep_79 fl_LitmusTester_Explanation_32 (wC_181 zw) (Or.inl ⟨_, rfl⟩) (wR_181_0 zw) ?_
      refine vr_iload dX1_addStep_82 rfl ?_
      refine vr_iconst dX1_addStep_84 (v := (2 : Int32)) (by decide) ?_
      obtain ⟨v141, s139, zw1, zf_140, zh⟩ := zh
      refine vc_V (As := [.int v135, .int (2 : Int32)]) (rest := []) dX1_addStep_85 cV_LitmusTester_Explanation_53 (wC_132 zw) rfl rfl (Nat.le_of_ble_eq_true rfl) (Nat.le_of_ble_eq_true rfl) (co_n zf_140 ?_)
      replace zw := zw1
      refine vr_istore dX1_addStep_88 (Nat.le_of_ble_eq_true rfl) (vv_eq (ls' := [(0, .ref 181), (1, .ref 153), (2, .long l2), (4, .int l4), (5, .int l5), (6, .int v135), (7, .int v138), (8, .int v141)]) rfl ?_)
      refine vr_iload dX1_addStep_90 rfl ?_
      refine vr_iconst dX1_addStep_92 (v := (1 : Int32)) (by decide) ?_
      refine vr_ic_eq dX1_addStep_93 (tgt := 102) rfl (fun zd_142 => ?_) (fun zd_142 => ?_)
      · replace zh := zh.1 zd_142
        refine vr_iload dX1_addStep_102 rfl ?_
        refine vr_if_lt dX1_addStep_104 (tgt := 149) rfl (fun zd_143 => ?_) (fun zd_143 => ?_)
        · replace zh := zh.1 zd_143
          refine vr_iload dX1_addStep_149 rfl ?_
          refine vr_iconst dX1_addStep_151 (v := (2 : Int32)) (by decide) ?_
          refine vr_ic_eq dX1_addStep_152 (tgt := 167) rfl (fun zd_144 => ?_) (fun zd_144 => ?_)
          · replace zh := zh.1 zd_144
            refine vr_aload_n dX1_addStep_167 rfl rfl ?_
            refine vr_iload dX1_addStep_168 rfl ?_
            obtain ⟨s145, zw1, zf_146, zh⟩ := zh
            refine vc_V (As := [.int v135]) (rest := []) dX1_addStep_170 cV_LitmusTester_Explanation_45 (wC_181 zw) rfl rfl (Nat.le_of_ble_eq_true rfl) (Nat.le_of_ble_eq_true rfl) (co_v zf_146 ?_)
            replace zw := zw1
            exact vr_vret dX1_addStep_173 rfl zh
          · replace zh := zh.2 zd_144
            refine vr_iload dX1_addStep_155 rfl ?_
            refine vr_if_ne dX1_addStep_157 (tgt := 173) rfl (fun zd_147 => ?_) (fun zd_147 => ?_)
            · replace zh := zh.2 zd_147
              exact vr_vret dX1_addStep_173 rfl zh
            · replace zh := zh.1 zd_147
              refine vr_aload_n dX1_addStep_160 rfl rfl ?_
              obtain ⟨v150, s148, zw1, zf_149, zh⟩ := zh
              refine vc_V (As := []) (rest := []) dX1_addStep_161 cV_LitmusTester_Explanation_66 (wC_153 zw) rfl rfl (Nat.le_of_ble_eq_true rfl) (Nat.le_of_ble_eq_true rfl) (co_n zf_149 ?_)
              replace zw := zw1
              refine vr_if_eq dX1_addStep_164 (tgt := 173) rfl (fun zd_151 => ?_) (fun zd_151 => ?_)
              · replace zh := zh.1 zd_151
                exact vr_vret dX1_addStep_173 rfl zh
              · replace zh := zh.2 zd_151
                refine vr_aload_n dX1_addStep_167 rfl rfl ?_
                refine vr_iload dX1_addStep_168 rfl ?_
                obtain ⟨s152, zw1, zf_153, zh⟩ := zh
                refine vc_V (As := [.int v135]) (rest := []) dX1_addStep_170 cV_LitmusTester_Explanation_45 (wC_181 zw) rfl rfl (Nat.le_of_ble_eq_true rfl) (Nat.le_of_ble_eq_true rfl) (co_v zf_153 ?_)
                replace zw := zw1
                exact vr_vret dX1_addStep_173 rfl zh
        · replace zh := zh.2 zd_143
          refine vr_iload dX1_addStep_107 rfl ?_
          refine vr_bipush dX1_addStep_109 (v := (10 : Int32)) (by decide) ?_
          refine vr_ic_ge dX1_addStep_111 (tgt := 149) rfl (fun zd_154 => ?_) (fun zd_154 => ?_)
          · replace zh := zh.1 zd_154
            refine vr_iload dX1_addStep_149 rfl ?_
            refine vr_iconst dX1_addStep_151 (v := (2 : Int32)) (by decide) ?_
            refine vr_ic_eq dX1_addStep_152 (tgt := 167) rfl (fun zd_155 => ?_) (fun zd_155 => ?_)
            · replace zh := zh.1 zd_155
              refine vr_aload_n dX1_addStep_167 rfl rfl ?_
              refine vr_iload dX1_addStep_168 rfl ?_
              obtain ⟨s156, zw1, zf_157, zh⟩ := zh
              refine vc_V (As := [.int v135]) (rest := []) dX1_addStep_170 cV_LitmusTester_Explanation_45 (wC_181 zw) rfl rfl (Nat.le_of_ble_eq_true rfl) (Nat.le_of_ble_eq_true rfl) (co_v zf_157 ?_)
              replace zw := zw1
              exact vr_vret dX1_addStep_173 rfl zh
            · replace zh := zh.2 zd_155
              refine vr_iload dX1_addStep_155 rfl ?_
              refine vr_if_ne dX1_addStep_157 (tgt := 173) rfl (fun zd_158 => ?_) (fun zd_158 => ?_)
              · replace zh := zh.2 zd_158
                exact vr_vret dX1_addStep_173 rfl zh
              · replace zh := zh.1 zd_158
                refine vr_aload_n dX1_addStep_160 rfl rfl ?_
                obtain ⟨v161, s159, zw1, zf_160, zh⟩ := zh
                refine vc_V (As := []) (rest := []) dX1_addStep_161 cV_LitmusTester_Explanation_66 (wC_153 zw) rfl rfl (Nat.le_of_ble_eq_true rfl) (Nat.le_of_ble_eq_true rfl) (co_n zf_160 ?_)
                replace zw := zw1
                refine vr_if_eq dX1_addStep_164 (tgt := 173) rfl (fun zd_162 => ?_) (fun zd_162 => ?_)
                · replace zh := zh.1 zd_162
                  exact vr_vret dX1_addStep_173 rfl zh
                · replace zh := zh.2 zd_162
                  refine vr_aload_n dX1_addStep_167 rfl rfl ?_
                  refine vr_iload dX1_addStep_168 rfl ?_
                  obtain ⟨s163, zw1, zf_164, zh⟩ := zh
                  refine vc_V (As := [.int v135]) (rest := []) dX1_addStep_170 cV_LitmusTester_Explanation_45 (wC_181 zw) rfl rfl (Nat.le_of_ble_eq_true rfl) (Nat.le_of_ble_eq_true rfl) (co_v zf_164 ?_)
                  replace zw := zw1
                  exact vr_vret dX1_addStep_173 rfl zh
          · replace zh := zh.2 zd_154
            refine vr_aload_n dX1_addStep_114 rfl rfl ?_
            refine vr_lload_n dX1_addStep_115 rfl rfl ?_
            refine vr_iload dX1_addStep_116 rfl ?_
            refine vr_iload dX1_addStep_118 rfl ?_
            obtain ⟨v167, s165, zw1, zf_166, zh⟩ := zh
            refine vc_V (As := [.long l2, .int l4, .int v141]) (rest := []) dX1_addStep_120 cV_LitmusTester_Explanation_59 (wC_153 zw) rfl rfl (Nat.le_of_ble_eq_true rfl) (Nat.le_of_ble_eq_true rfl) (co_n zf_166 ?_)
            replace zw := zw1
            refine vr_istore dX1_addStep_123 (Nat.le_of_ble_eq_true rfl) (vv_eq (ls' := [(0, .ref 181), (1, .ref 153), (2, .long l2), (4, .int l4), (5, .int l5), (6, .int v135), (7, .int v138), (8, .int v141), (9, .int v167)]) rfl ?_)
            refine vr_aload_n dX1_addStep_125 rfl rfl ?_
            refine vr_getR dX1_addStep_126 fl_LitmusTester_Explanation_15 (wC_181 zw) (Or.inr ⟨_, rfl⟩) (wR_181_2 zw) ?_
            refine vr_iload dX1_addStep_129 rfl ?_
            refine vr_iload dX1_addStep_131 rfl ?_
            refine vr_iconst dX1_addStep_133 (v := (-1 : Int32)) (by decide) ?_
            refine vr_ic_ne dX1_addStep_134 (tgt := 146) rfl (fun zd_168 => ?_) (fun zd_168 => ?_)
            · replace zh := zh.2 zd_168
              refine vr_iload dX1_addStep_146 rfl ?_
              obtain ⟨zi_183, zh⟩ := zh
              refine vr_iastore dX1_addStep_148 (wS_183 zw) zi_183 ?_
              refine vr_iload dX1_addStep_149 rfl ?_
              refine vr_iconst dX1_addStep_151 (v := (2 : Int32)) (by decide) ?_
              refine vr_ic_eq dX1_addStep_152 (tgt := 167) rfl (fun zd_184 => ?_) (fun zd_184 => ?_)
              · replace zh := zh.1 zd_184
                refine vr_aload_n dX1_addStep_167 rfl rfl ?_
                refine vr_iload dX1_addStep_168 rfl ?_
                obtain ⟨s185, zw1, zf_186, zh⟩ := zh
                refine vc_V (As := [.int v135]) (rest := []) dX1_addStep_170 cV_LitmusTester_Explanation_45 (wC_181 zw) rfl rfl (Nat.le_of_ble_eq_true rfl) (Nat.le_of_ble_eq_true rfl) (co_v zf_186 ?_)
                replace zw := zw1
                exact vr_vret dX1_addStep_173 rfl zh
              · replace zh := zh.2 zd_184
                refine vr_iload dX1_addStep_155 rfl ?_
                refine vr_if_ne dX1_addStep_157 (tgt := 173) rfl (fun zd_187 => ?_) (fun zd_187 => ?_)
                · replace zh := zh.2 zd_187
                  exact vr_vret dX1_addStep_173 rfl zh
                · replace zh := zh.1 zd_187
                  refine vr_aload_n dX1_addStep_160 rfl rfl ?_
                  obtain ⟨v190, s188, zw1, zf_189, zh⟩ := zh
                  refine vc_V (As := []) (rest := []) dX1_addStep_161 cV_LitmusTester_Explanation_66 (wC_153 zw) rfl rfl (Nat.le_of_ble_eq_true rfl) (Nat.le_of_ble_eq_true rfl) (co_n zf_189 ?_)
                  replace zw := zw1
                  refine vr_if_eq dX1_addStep_164 (tgt := 173) rfl (fun zd_191 => ?_) (fun zd_191 => ?_)
                  · replace zh := zh.1 zd_191
                    exact vr_vret dX1_addStep_173 rfl zh
                  · replace zh := zh.2 zd_191
                    refine vr_aload_n dX1_addStep_167 rfl rfl ?_
                    refine vr_iload dX1_addStep_168 rfl ?_
                    obtain ⟨s192, zw1, zf_193, zh⟩ := zh
                    refine vc_V (As := [.int v135]) (rest := []) dX1_addStep_170 cV_LitmusTester_Explanation_45 (wC_181 zw) rfl rfl (Nat.le_of_ble_eq_true rfl) (Nat.le_of_ble_eq_true rfl) (co_v zf_193 ?_)
                    replace zw := zw1
                    exact vr_vret dX1_addStep_173 rfl zh
            · replace zh := zh.1 zd_168
              refine vr_aload_n dX1_addStep_137 rfl rfl ?_
              refine vr_iload dX1_addStep_138 rfl ?_
              obtain ⟨v171, s169, zw1, zf_170, zh⟩ := zh
              refine vc_V (As := [.int v141]) (rest := [.int v135, .ref 183]) dX1_addStep_140 cV_LitmusTester_Explanation_62 (wC_181 zw) rfl rfl (Nat.le_of_ble_eq_true rfl) (Nat.le_of_ble_eq_true rfl) (co_n zf_170 ?_)
              replace zw := zw1
              refine vr_goto dX1_addStep_143 (tgt := 148) rfl ?_
              obtain ⟨zi_172, zh⟩ := zh
              refine vr_iastore dX1_addStep_148 (wS_183 zw) zi_172 ?_
              refine vr_iload dX1_addStep_149 rfl ?_
              refine vr_iconst dX1_addStep_151 (v := (2 : Int32)) (by decide) ?_
              refine vr_ic_eq dX1_addStep_152 (tgt := 167) rfl (fun zd_173 => ?_) (fun zd_173 => ?_)
              · replace zh := zh.1 zd_173
                refine vr_aload_n dX1_addStep_167 rfl rfl ?_
                refine vr_iload dX1_addStep_168 rfl ?_
                obtain ⟨s174, zw1, zf_175, zh⟩ := zh
                refine vc_V (As := [.int v135]) (rest := []) dX1_addStep_170 cV_LitmusTester_Explanation_45 (wC_181 zw) rfl rfl (Nat.le_of_ble_eq_true rfl) (Nat.le_of_ble_eq_true rfl) (co_v zf_175 ?_)
                replace zw := zw1
                exact vr_vret dX1_addStep_173 rfl zh
              · replace zh := zh.2 zd_173
                refine vr_iload dX1_addStep_155 rfl ?_
                refine vr_if_ne dX1_addStep_157 (tgt := 173) rfl (fun zd_176 => ?_) (fun zd_176 => ?_)
                · replace zh := zh.2 zd_176
                  exact vr_vret dX1_addStep_173 rfl zh
                · replace zh := zh.1 zd_176
                  refine vr_aload_n dX1_addStep_160 rfl rfl ?_
                  obtain ⟨v179, s177, zw1, zf_178, zh⟩ := zh
                  refine vc_V (As := []) (rest := []) dX1_addStep_161 cV_LitmusTester_Explanation_66 (wC_153 zw) rfl rfl (Nat.le_of_ble_eq_true rfl) (Nat.le_of_ble_eq_true rfl) (co_n zf_178 ?_)
                  replace zw := zw1
                  refine vr_if_eq dX1_addStep_164 (tgt := 173) rfl (fun zd_180 => ?_) (fun zd_180 => ?_)
                  · replace zh := zh.1 zd_180
                    exact vr_vret dX1_addStep_173 rfl zh
                  · replace zh := zh.2 zd_180
                    refine vr_aload_n dX1_addStep_167 rfl rfl ?_
                    refine vr_iload dX1_addStep_168 rfl ?_
                    obtain ⟨s181, zw1, zf_182, zh⟩ := zh
                    refine vc_V (As := [.int v135]) (rest := []) dX1_addStep_170 cV_LitmusTester_Explanation_45 (wC_181 zw) rfl rfl (Nat.le_of_ble_eq_true rfl) (Nat.le_of_ble_eq_true rfl) (co_v zf_182 ?_)
                    replace zw := zw1
                    exact vr_vret dX1_addStep_173 rfl zh
      · replace zh := zh.2 zd_142
        refine vr_iload dX1_addStep_96 rfl ?_
        refine vr_iconst dX1_addStep_98 (v := (2 : Int32)) (by decide) ?_
        refine vr_ic_ne dX1_addStep_99 (tgt := 149) rfl (fun zd_194 => ?_) (fun zd_194 => ?_)
        · replace zh := zh.2 zd_194
          refine vr_iload dX1_addStep_149 rfl ?_
          refine vr_iconst dX1_addStep_151 (v := (2 : Int32)) (by decide) ?_
          refine vr_ic_eq dX1_addStep_152 (tgt := 167) rfl (fun zd_246 => ?_) (fun zd_246 => ?_)
          · replace zh := zh.1 zd_246
            refine vr_aload_n dX1_addStep_167 rfl rfl ?_
            refine vr_iload dX1_addStep_168 rfl ?_
            obtain ⟨s247, zw1, zf_248, zh⟩ := zh
            refine vc_V (As := [.int v135]) (rest := []) dX1_addStep_170 cV_LitmusTester_Explanation_45 (wC_181 zw) rfl rfl (Nat.le_of_ble_eq_true rfl) (Nat.le_of_ble_eq_true rfl) (co_v zf_248 ?_)
            replace zw := zw1
            exact vr_vret dX1_addStep_173 rfl zh
          · replace zh := zh.2 zd_246
            refine vr_iload dX1_addStep_155 rfl ?_
            refine vr_if_ne dX1_addStep_157 (tgt := 173) rfl (fun zd_249 => ?_) (fun zd_249 => ?_)
            · replace zh := zh.2 zd_249
              exact vr_vret dX1_addStep_173 rfl zh
            · replace zh := zh.1 zd_249
              refine vr_aload_n dX1_addStep_160 rfl rfl ?_
              obtain ⟨v252, s250, zw1, zf_251, zh⟩ := zh
              refine vc_V (As := []) (rest := []) dX1_addStep_161 cV_LitmusTester_Explanation_66 (wC_153 zw) rfl rfl (Nat.le_of_ble_eq_true rfl) (Nat.le_of_ble_eq_true rfl) (co_n zf_251 ?_)
              replace zw := zw1
              refine vr_if_eq dX1_addStep_164 (tgt := 173) rfl (fun zd_253 => ?_) (fun zd_253 => ?_)
              · replace zh := zh.1 zd_253
                exact vr_vret dX1_addStep_173 rfl zh
              · replace zh := zh.2 zd_253
                refine vr_aload_n dX1_addStep_167 rfl rfl ?_
                refine vr_iload dX1_addStep_168 rfl ?_
                obtain ⟨s254, zw1, zf_255, zh⟩ := zh
                refine vc_V (As := [.int v135]) (rest := []) dX1_addStep_170 cV_LitmusTester_Explanation_45 (wC_181 zw) rfl rfl (Nat.le_of_ble_eq_true rfl) (Nat.le_of_ble_eq_true rfl) (co_v zf_255 ?_)
                replace zw := zw1
                exact vr_vret dX1_addStep_173 rfl zh
        · replace zh := zh.1 zd_194
          refine vr_iload dX1_addStep_102 rfl ?_
          refine vr_if_lt dX1_addStep_104 (tgt := 149) rfl (fun zd_195 => ?_) (fun zd_195 => ?_)
          · replace zh := zh.1 zd_195
            refine vr_iload dX1_addStep_149 rfl ?_
            refine vr_iconst dX1_addStep_151 (v := (2 : Int32)) (by decide) ?_
            refine vr_ic_eq dX1_addStep_152 (tgt := 167) rfl (fun zd_196 => ?_) (fun zd_196 => ?_)
            · replace zh := zh.1 zd_196
              refine vr_aload_n dX1_addStep_167 rfl rfl ?_
              refine vr_iload dX1_addStep_168 rfl ?_
              obtain ⟨s197, zw1, zf_198, zh⟩ := zh
              refine vc_V (As := [.int v135]) (rest := []) dX1_addStep_170 cV_LitmusTester_Explanation_45 (wC_181 zw) rfl rfl (Nat.le_of_ble_eq_true rfl) (Nat.le_of_ble_eq_true rfl) (co_v zf_198 ?_)
              replace zw := zw1
              exact vr_vret dX1_addStep_173 rfl zh
            · replace zh := zh.2 zd_196
              refine vr_iload dX1_addStep_155 rfl ?_
              refine vr_if_ne dX1_addStep_157 (tgt := 173) rfl (fun zd_199 => ?_) (fun zd_199 => ?_)
              · replace zh := zh.2 zd_199
                exact vr_vret dX1_addStep_173 rfl zh
              · replace zh := zh.1 zd_199
                refine vr_aload_n dX1_addStep_160 rfl rfl ?_
                obtain ⟨v202, s200, zw1, zf_201, zh⟩ := zh
                refine vc_V (As := []) (rest := []) dX1_addStep_161 cV_LitmusTester_Explanation_66 (wC_153 zw) rfl rfl (Nat.le_of_ble_eq_true rfl) (Nat.le_of_ble_eq_true rfl) (co_n zf_201 ?_)
                replace zw := zw1
                refine vr_if_eq dX1_addStep_164 (tgt := 173) rfl (fun zd_203 => ?_) (fun zd_203 => ?_)
                · replace zh := zh.1 zd_203
                  exact vr_vret dX1_addStep_173 rfl zh
                · replace zh := zh.2 zd_203
                  refine vr_aload_n dX1_addStep_167 rfl rfl ?_
                  refine vr_iload dX1_addStep_168 rfl ?_
                  obtain ⟨s204, zw1, zf_205, zh⟩ := zh
                  refine vc_V (As := [.int v135]) (rest := []) dX1_addStep_170 cV_LitmusTester_Explanation_45 (wC_181 zw) rfl rfl (Nat.le_of_ble_eq_true rfl) (Nat.le_of_ble_eq_true rfl) (co_v zf_205 ?_)
                  replace zw := zw1
                  exact vr_vret dX1_addStep_173 rfl zh
          · replace zh := zh.2 zd_195
            refine vr_iload dX1_addStep_107 rfl ?_
            refine vr_bipush dX1_addStep_109 (v := (10 : Int32)) (by decide) ?_
            refine vr_ic_ge dX1_addStep_111 (tgt := 149) rfl (fun zd_206 => ?_) (fun zd_206 => ?_)
            · replace zh := zh.1 zd_206
              refine vr_iload dX1_addStep_149 rfl ?_
              refine vr_iconst dX1_addStep_151 (v := (2 : Int32)) (by decide) ?_
              refine vr_ic_eq dX1_addStep_152 (tgt := 167) rfl (fun zd_207 => ?_) (fun zd_207 => ?_)
              · replace zh := zh.1 zd_207
                refine vr_aload_n dX1_addStep_167 rfl rfl ?_
                refine vr_iload dX1_addStep_168 rfl ?_
                obtain ⟨s208, zw1, zf_209, zh⟩ := zh
                refine vc_V (As := [.int v135]) (rest := []) dX1_addStep_170 cV_LitmusTester_Explanation_45 (wC_181 zw) rfl rfl (Nat.le_of_ble_eq_true rfl) (Nat.le_of_ble_eq_true rfl) (co_v zf_209 ?_)
                replace zw := zw1
                exact vr_vret dX1_addStep_173 rfl zh
              · replace zh := zh.2 zd_207
                refine vr_iload dX1_addStep_155 rfl ?_
                refine vr_if_ne dX1_addStep_157 (tgt := 173) rfl (fun zd_210 => ?_) (fun zd_210 => ?_)
                · replace zh := zh.2 zd_210
                  exact vr_vret dX1_addStep_173 rfl zh
                · replace zh := zh.1 zd_210
                  refine vr_aload_n dX1_addStep_160 rfl rfl ?_
                  obtain ⟨v213, s211, zw1, zf_212, zh⟩ := zh
                  refine vc_V (As := []) (rest := []) dX1_addStep_161 cV_LitmusTester_Explanation_66 (wC_153 zw) rfl rfl (Nat.le_of_ble_eq_true rfl) (Nat.le_of_ble_eq_true rfl) (co_n zf_212 ?_)
                  replace zw := zw1
                  refine vr_if_eq dX1_addStep_164 (tgt := 173) rfl (fun zd_214 => ?_) (fun zd_214 => ?_)
                  · replace zh := zh.1 zd_214
                    exact vr_vret dX1_addStep_173 rfl zh
                  · replace zh := zh.2 zd_214
                    refine vr_aload_n dX1_addStep_167 rfl rfl ?_
                    refine vr_iload dX1_addStep_168 rfl ?_
                    obtain ⟨s215, zw1, zf_216, zh⟩ := zh
                    refine vc_V (As := [.int v135]) (rest := []) dX1_addStep_170 cV_LitmusTester_Explanation_45 (wC_181 zw) rfl rfl (Nat.le_of_ble_eq_true rfl) (Nat.le_of_ble_eq_true rfl) (co_v zf_216 ?_)
                    replace zw := zw1
                    exact vr_vret dX1_addStep_173 rfl zh
            · replace zh := zh.2 zd_206
              refine vr_aload_n dX1_addStep_114 rfl rfl ?_
              refine vr_lload_n dX1_addStep_115 rfl rfl ?_
              refine vr_iload dX1_addStep_116 rfl ?_
              refine vr_iload dX1_addStep_118 rfl ?_
              obtain ⟨v219, s217, zw1, zf_218, zh⟩ := zh
              refine vc_V (As := [.long l2, .int l4, .int v141]) (rest := []) dX1_addStep_120 cV_LitmusTester_Explanation_59 (wC_153 zw) rfl rfl (Nat.le_of_ble_eq_true rfl) (Nat.le_of_ble_eq_true rfl) (co_n zf_218 ?_)
              replace zw := zw1
              refine vr_istore dX1_addStep_123 (Nat.le_of_ble_eq_true rfl) (vv_eq (ls' := [(0, .ref 181), (1, .ref 153), (2, .long l2), (4, .int l4), (5, .int l5), (6, .int v135), (7, .int v138), (8, .int v141), (9, .int v219)]) rfl ?_)
              refine vr_aload_n dX1_addStep_125 rfl rfl ?_
              refine vr_getR dX1_addStep_126 fl_LitmusTester_Explanation_15 (wC_181 zw) (Or.inr ⟨_, rfl⟩) (wR_181_2 zw) ?_
              refine vr_iload dX1_addStep_129 rfl ?_
              refine vr_iload dX1_addStep_131 rfl ?_
              refine vr_iconst dX1_addStep_133 (v := (-1 : Int32)) (by decide) ?_
              refine vr_ic_ne dX1_addStep_134 (tgt := 146) rfl (fun zd_220 => ?_) (fun zd_220 => ?_)
              · replace zh := zh.2 zd_220
                refine vr_iload dX1_addStep_146 rfl ?_
                obtain ⟨zi_235, zh⟩ := zh
                refine vr_iastore dX1_addStep_148 (wS_183 zw) zi_235 ?_
                refine vr_iload dX1_addStep_149 rfl ?_
                refine vr_iconst dX1_addStep_151 (v := (2 : Int32)) (by decide) ?_
                refine vr_ic_eq dX1_addStep_152 (tgt := 167) rfl (fun zd_236 => ?_) (fun zd_236 => ?_)
                · replace zh := zh.1 zd_236
                  refine vr_aload_n dX1_addStep_167 rfl rfl ?_
                  refine vr_iload dX1_addStep_168 rfl ?_
                  obtain ⟨s237, zw1, zf_238, zh⟩ := zh
                  refine vc_V (As := [.int v135]) (rest := []) dX1_addStep_170 cV_LitmusTester_Explanation_45 (wC_181 zw) rfl rfl (Nat.le_of_ble_eq_true rfl) (Nat.le_of_ble_eq_true rfl) (co_v zf_238 ?_)
                  replace zw := zw1
                  exact vr_vret dX1_addStep_173 rfl zh
                · replace zh := zh.2 zd_236
                  refine vr_iload dX1_addStep_155 rfl ?_
                  refine vr_if_ne dX1_addStep_157 (tgt := 173) rfl (fun zd_239 => ?_) (fun zd_239 => ?_)
                  · replace zh := zh.2 zd_239
                    exact vr_vret dX1_addStep_173 rfl zh
                  · replace zh := zh.1 zd_239
                    refine vr_aload_n dX1_addStep_160 rfl rfl ?_
                    obtain ⟨v242, s240, zw1, zf_241, zh⟩ := zh
                    refine vc_V (As := []) (rest := []) dX1_addStep_161 cV_LitmusTester_Explanation_66 (wC_153 zw) rfl rfl (Nat.le_of_ble_eq_true rfl) (Nat.le_of_ble_eq_true rfl) (co_n zf_241 ?_)
                    replace zw := zw1
                    refine vr_if_eq dX1_addStep_164 (tgt := 173) rfl (fun zd_243 => ?_) (fun zd_243 => ?_)
                    · replace zh := zh.1 zd_243
                      exact vr_vret dX1_addStep_173 rfl zh
                    · replace zh := zh.2 zd_243
                      refine vr_aload_n dX1_addStep_167 rfl rfl ?_
                      refine vr_iload dX1_addStep_168 rfl ?_
                      obtain ⟨s244, zw1, zf_245, zh⟩ := zh
                      refine vc_V (As := [.int v135]) (rest := []) dX1_addStep_170 cV_LitmusTester_Explanation_45 (wC_181 zw) rfl rfl (Nat.le_of_ble_eq_true rfl) (Nat.le_of_ble_eq_true rfl) (co_v zf_245 ?_)
                      replace zw := zw1
                      exact vr_vret dX1_addStep_173 rfl zh
              · replace zh := zh.1 zd_220
                refine vr_aload_n dX1_addStep_137 rfl rfl ?_
                refine vr_iload dX1_addStep_138 rfl ?_
                obtain ⟨v223, s221, zw1, zf_222, zh⟩ := zh
                refine vc_V (As := [.int v141]) (rest := [.int v135, .ref 183]) dX1_addStep_140 cV_LitmusTester_Explanation_62 (wC_181 zw) rfl rfl (Nat.le_of_ble_eq_true rfl) (Nat.le_of_ble_eq_true rfl) (co_n zf_222 ?_)
                replace zw := zw1
                refine vr_goto dX1_addStep_143 (tgt := 148) rfl ?_
                obtain ⟨zi_224, zh⟩ := zh
                refine vr_iastore dX1_addStep_148 (wS_183 zw) zi_224 ?_
                refine vr_iload dX1_addStep_149 rfl ?_
                refine vr_iconst dX1_addStep_151 (v := (2 : Int32)) (by decide) ?_
                refine vr_ic_eq dX1_addStep_152 (tgt := 167) rfl (fun zd_225 => ?_) (fun zd_225 => ?_)
                · replace zh := zh.1 zd_225
                  refine vr_aload_n dX1_addStep_167 rfl rfl ?_
                  refine vr_iload dX1_addStep_168 rfl ?_
                  obtain ⟨s226, zw1, zf_227, zh⟩ := zh
                  refine vc_V (As := [.int v135]) (rest := []) dX1_addStep_170 cV_LitmusTester_Explanation_45 (wC_181 zw) rfl rfl (Nat.le_of_ble_eq_true rfl) (Nat.le_of_ble_eq_true rfl) (co_v zf_227 ?_)
                  replace zw := zw1
                  exact vr_vret dX1_addStep_173 rfl zh
                · replace zh := zh.2 zd_225
                  refine vr_iload dX1_addStep_155 rfl ?_
                  refine vr_if_ne dX1_addStep_157 (tgt := 173) rfl (fun zd_228 => ?_) (fun zd_228 => ?_)
                  · replace zh := zh.2 zd_228
                    exact vr_vret dX1_addStep_173 rfl zh
                  · replace zh := zh.1 zd_228
                    refine vr_aload_n dX1_addStep_160 rfl rfl ?_
                    obtain ⟨v231, s229, zw1, zf_230, zh⟩ := zh
                    refine vc_V (As := []) (rest := []) dX1_addStep_161 cV_LitmusTester_Explanation_66 (wC_153 zw) rfl rfl (Nat.le_of_ble_eq_true rfl) (Nat.le_of_ble_eq_true rfl) (co_n zf_230 ?_)
                    replace zw := zw1
                    refine vr_if_eq dX1_addStep_164 (tgt := 173) rfl (fun zd_232 => ?_) (fun zd_232 => ?_)
                    · replace zh := zh.1 zd_232
                      exact vr_vret dX1_addStep_173 rfl zh
                    · replace zh := zh.2 zd_232
                      refine vr_aload_n dX1_addStep_167 rfl rfl ?_
                      refine vr_iload dX1_addStep_168 rfl ?_
                      obtain ⟨s233, zw1, zf_234, zh⟩ := zh
                      refine vc_V (As := [.int v135]) (rest := []) dX1_addStep_170 cV_LitmusTester_Explanation_45 (wC_181 zw) rfl rfl (Nat.le_of_ble_eq_true rfl) (Nat.le_of_ble_eq_true rfl) (co_v zf_234 ?_)
                      replace zw := zw1
                      exact vr_vret dX1_addStep_173 rfl zh
    · replace zh := zh.2 zd_132
      refine vr_aload_n dX1_addStep_41 rfl rfl ?_
      refine vr_aload_n dX1_addStep_42 rfl rfl ?_
      refine vr_lload_n dX1_addStep_43 rfl rfl ?_
      refine vr_iload dX1_addStep_44 rfl ?_
      refine vr_iload dX1_addStep_46 rfl ?_
      refine vr_iconst dX1_addStep_48 (v := (1 : Int32)) (by decide) ?_
      refine vr_isub dX1_addStep_49 ?_
      obtain ⟨v258, s256, zw1, zf_257, zh⟩ := zh
      refine vc_V (As := [.long l2, .int l4, .int (l5 - (1 : Int32))]) (rest := [.ref 181]) dX1_addStep_50 cV_LitmusTester_Explanation_39 (wC_153 zw) rfl rfl (Nat.le_of_ble_eq_true rfl) (Nat.le_of_ble_eq_true rfl) (co_n zf_257 ?_)
      replace zw := zw1
      obtain ⟨s259, zw1, zf_260, zh⟩ := zh
      refine vc_V (As := [.int v258]) (rest := []) dX1_addStep_53 cV_LitmusTester_Explanation_45 (wC_181 zw) rfl rfl (Nat.le_of_ble_eq_true rfl) (Nat.le_of_ble_eq_true rfl) (co_v zf_260 ?_)
      replace zw := zw1
      exact vr_vret dX1_addStep_56 rfl zh
theorem e_X1_addStep {γ : ga_T} {l2 : Int64} {l4 : Int32} {l5 : Int32} {σ : st_T} {Q : rs_T → st_T → Prop} (zw : Wd σ) (zh : p_X1_addStep_0 γ l2 l4 l5 σ Q) : sp_ γ m_X1_addStep 3 [.ref 181, .ref 153, .long l2, .int l4, .int l5] σ Q := sp_of (pl_X1_addStep) rfl (Nat.le_of_ble_eq_true rfl) (g_X1_addStep_0 zw zh)
def p_X1_addWriter_0 (γ : ga_T) (l1 : Int32) (σ : st_T) (Q : rs_T → st_T → Prop) : Prop :=
  ((8 : Int32) ≤ (st_I σ 181 5) →
    Q (.inl none) σ
  ) ∧ (¬ (8 : Int32) ≤ (st_I σ 181 5) →
    vp_in (st_I σ 181 5) 8 ∧
    Q (.inl none) (pt_I (pt_I σ 184 (st_I σ 181 5).toNatClampNeg l1) 181 5 ((st_I σ 181 5) + (1 : Int32)))
  )
set_option maxRecDepth 10000 in
theorem g_X1_addWriter_0 {γ : ga_T} {l1 : Int32} {σ : st_T} {Q : rs_T → st_T → Prop} (zw : Wd σ) (zh : p_X1_addWriter_0 γ l1 σ Q) : vv_ γ m_X1_addWriter 0 0 [(0, .ref 181), (1, .int l1)] [] σ Q := by
  unfold p_X1_addWriter_0 at zh
  refine vr_aload_n dX1_addWriter_0 rfl rfl ?_
  refine vr_getI dX1_addWriter_1 fl_LitmusTester_Explanation_25 (wC_181 zw) rfl ?_
  refine vr_bipush dX1_addWriter_4 (v := (8 : Int32)) (by decide) ?_
  refine vr_ic_ge dX1_addWriter_6 (tgt := 29) rfl (fun zd_1 => ?_) (fun zd_1 => ?_)
  · replace zh := zh.1 zd_1
    exact vr_vret dX1_addWriter_29 rfl zh
  · replace zh := zh.2 zd_1
    refine vr_aload_n dX1_addWriter_9 rfl rfl ?_
    refine vr_getR dX1_addWriter_10 fl_LitmusTester_Explanation_18 (wC_181 zw) (Or.inr ⟨_, rfl⟩) (wR_181_3 zw) ?_
    refine vr_aload_n dX1_addWriter_13 rfl rfl ?_
    refine vr_getI dX1_addWriter_14 fl_LitmusTester_Explanation_25 (wC_181 zw) rfl ?_
    refine vr_iload_n dX1_addWriter_17 rfl rfl ?_
    obtain ⟨zi_2, zh⟩ := zh
    refine vr_iastore dX1_addWriter_18 (wS_184 zw) zi_2 ?_
    refine vr_aload_n dX1_addWriter_19 rfl rfl ?_
    refine vr_dup dX1_addWriter_20 rfl ?_
    refine vr_getI dX1_addWriter_21 fl_LitmusTester_Explanation_25 (wC_181 zw) rfl ?_
    refine vv_top (w := .int (st_I σ 181 5)) rfl ?_
    refine vr_iconst dX1_addWriter_24 (v := (1 : Int32)) (by decide) ?_
    refine vr_iadd dX1_addWriter_25 ?_
    refine vr_putI dX1_addWriter_26 fl_LitmusTester_Explanation_25 (wC_181 zw) rfl (fz_1_5) ?_
    exact vr_vret dX1_addWriter_29 rfl zh
theorem e_X1_addWriter {γ : ga_T} {l1 : Int32} {σ : st_T} {Q : rs_T → st_T → Prop} (zw : Wd σ) (zh : p_X1_addWriter_0 γ l1 σ Q) : sp_ γ m_X1_addWriter 0 [.ref 181, .int l1] σ Q := sp_of (pl_X1_addWriter) rfl (Nat.le_of_ble_eq_true rfl) (g_X1_addWriter_0 zw zh)
def p_X1_latestWriter_0 (γ : ga_T) (l1 : Int32) (σ : st_T) (Q : rs_T → st_T → Prop) : Prop :=
  vv_ γ m_X1_latestWriter 1 4 [(0, .ref 181), (1, .int l1), (2, .int (-1 : Int32)), (3, .int (0 : Int32))] [] σ Q
set_option maxRecDepth 10000 in
theorem g_X1_latestWriter_0 {γ : ga_T} {l1 : Int32} {σ : st_T} {Q : rs_T → st_T → Prop} (zw : Wd σ) (zh : p_X1_latestWriter_0 γ l1 σ Q) : vv_ γ m_X1_latestWriter 1 0 [(0, .ref 181), (1, .int l1)] [] σ Q := by
  unfold p_X1_latestWriter_0 at zh
  refine vr_iconst dX1_latestWriter_0 (v := (-1 : Int32)) (by decide) ?_
  refine vr_istore_n dX1_latestWriter_1 rfl (Nat.le_of_ble_eq_true rfl) (vv_eq (ls' := [(0, .ref 181), (1, .int l1), (2, .int (-1 : Int32))]) rfl ?_)
  refine vr_iconst dX1_latestWriter_2 (v := (0 : Int32)) (by decide) ?_
  refine vr_istore_n dX1_latestWriter_3 rfl (Nat.le_of_ble_eq_true rfl) (vv_eq (ls' := [(0, .ref 181), (1, .int l1), (2, .int (-1 : Int32)), (3, .int (0 : Int32))]) rfl ?_)
  exact vv_sub (ls' := [(0, .ref 181), (1, .int l1), (2, .int (-1 : Int32)), (3, .int (0 : Int32))]) ⟨rfl, rfl, rfl, rfl, trivial⟩ zh
theorem e_X1_latestWriter {γ : ga_T} {l1 : Int32} {σ : st_T} {Q : rs_T → st_T → Prop} (zw : Wd σ) (zh : p_X1_latestWriter_0 γ l1 σ Q) : sp_ γ m_X1_latestWriter 1 [.ref 181, .int l1] σ Q := sp_of (pl_X1_latestWriter) rfl (Nat.le_of_ble_eq_true rfl) (g_X1_latestWriter_0 zw zh)
def p_X1_latestWriter_4 (γ : ga_T) (l1 : Int32) (l2 : Int32) (l3 : Int32) (σ : st_T) (Q : rs_T → st_T → Prop) : Prop :=
  ((st_I σ 181 5) ≤ l3 →
    Q (.inl (some (.int l2))) σ
  ) ∧ (¬ (st_I σ 181 5) ≤ l3 →
    ((8 : Int32) ≤ l3 →
      Q (.inl (some (.int l2))) σ
    ) ∧ (¬ (8 : Int32) ≤ l3 →
      vp_in l3 8 ∧
      ∃ (v6 : Int32) (s4 : st_T), Wd s4 ∧ fn_ γ m_X7_property 0 [.ref 132, .int (st_I σ 184 l3.toNatClampNeg), .int (2 : Int32)] σ (.int v6) s4 ∧
      (v6 = l1 →
        vp_in l3 8 ∧
        vv_ γ m_X1_latestWriter 1 4 [(0, .ref 181), (1, .int l1), (2, .int (st_I s4 184 l3.toNatClampNeg)), (3, .int (l3 + 1))] [] s4 Q
      ) ∧ (¬ v6 = l1 →
        vv_ γ m_X1_latestWriter 1 4 [(0, .ref 181), (1, .int l1), (2, .int l2), (3, .int (l3 + 1))] [] s4 Q
      )
    )
  )
set_option maxRecDepth 10000 in
theorem g_X1_latestWriter_4 {γ : ga_T} {l1 : Int32} {l2 : Int32} {l3 : Int32} {σ : st_T} {Q : rs_T → st_T → Prop} (zw : Wd σ) (zh : p_X1_latestWriter_4 γ l1 l2 l3 σ Q) : vv_ γ m_X1_latestWriter 1 4 [(0, .ref 181), (1, .int l1), (2, .int l2), (3, .int l3)] [] σ Q := by
  unfold p_X1_latestWriter_4 at zh
  refine vr_iload_n dX1_latestWriter_4 rfl rfl ?_
  refine vr_aload_n dX1_latestWriter_5 rfl rfl ?_
  refine vr_getI dX1_latestWriter_6 fl_LitmusTester_Explanation_25 (wC_181 zw) rfl ?_
  refine vr_ic_ge dX1_latestWriter_9 (tgt := 49) rfl (fun zd_1 => ?_) (fun zd_1 => ?_)
  · replace zh := zh.1 zd_1
    refine vr_iload_n dX1_latestWriter_49 rfl rfl ?_
    exact vr_iret dX1_latestWriter_50 rfl zh
  · replace zh := zh.2 zd_1
    refine vr_iload_n dX1_latestWriter_12 rfl rfl ?_
    refine vr_bipush dX1_latestWriter_13 (v := (8 : Int32)) (by decide) ?_
    refine vr_ic_ge dX1_latestWriter_15 (tgt := 49) rfl (fun zd_2 => ?_) (fun zd_2 => ?_)
    · replace zh := zh.1 zd_2
      refine vr_iload_n dX1_latestWriter_49 rfl rfl ?_
      exact vr_iret dX1_latestWriter_50 rfl zh
    · replace zh := zh.2 zd_2
      refine vr_aload_n dX1_latestWriter_18 rfl rfl ?_
      refine vr_getR dX1_latestWriter_19 fl_LitmusTester_Explanation_32 (wC_181 zw) (Or.inl ⟨_, rfl⟩) (wR_181_0 zw) ?_
      refine vr_aload_n dX1_latestWriter_22 rfl rfl ?_
      refine vr_getR dX1_latestWriter_23 fl_LitmusTester_Explanation_18 (wC_181 zw) (Or.inr ⟨_, rfl⟩) (wR_181_3 zw) ?_
      refine vr_iload_n dX1_latestWriter_26 rfl rfl ?_
      obtain ⟨zi_3, zh⟩ := zh
      refine vr_iaload dX1_latestWriter_27 (wS_184 zw) zi_3 ?_
      refine vr_iconst dX1_latestWriter_28 (v := (2 : Int32)) (by decide) ?_
      obtain ⟨v6, s4, zw1, zf_5, zh⟩ := zh
      refine vc_V (As := [.int (st_I σ 184 l3.toNatClampNeg), .int (2 : Int32)]) (rest := []) dX1_latestWriter_29 cV_LitmusTester_Explanation_53 (wC_132 zw) rfl rfl (Nat.le_of_ble_eq_true rfl) (Nat.le_of_ble_eq_true rfl) (co_n zf_5 ?_)
      replace zw := zw1
      refine vr_iload_n dX1_latestWriter_32 rfl rfl ?_
      refine vr_ic_ne dX1_latestWriter_33 (tgt := 43) rfl (fun zd_7 => ?_) (fun zd_7 => ?_)
      · replace zh := zh.2 zd_7
        refine vr_iinc dX1_latestWriter_43 (x := l3) (v := (l3 + 1)) rfl (ii_ (by decide)) (Nat.le_of_ble_eq_true rfl) (vv_eq (ls' := [(0, .ref 181), (1, .int l1), (2, .int l2), (3, .int (l3 + 1))]) rfl ?_)
        refine vr_goto dX1_latestWriter_46 (tgt := 4) rfl ?_
        exact vv_sub (ls' := [(0, .ref 181), (1, .int l1), (2, .int l2), (3, .int (l3 + 1))]) ⟨rfl, rfl, rfl, rfl, trivial⟩ zh
      · replace zh := zh.1 zd_7
        refine vr_aload_n dX1_latestWriter_36 rfl rfl ?_
        refine vr_getR dX1_latestWriter_37 fl_LitmusTester_Explanation_18 (wC_181 zw) (Or.inr ⟨_, rfl⟩) (wR_181_3 zw) ?_
        refine vr_iload_n dX1_latestWriter_40 rfl rfl ?_
        obtain ⟨zi_8, zh⟩ := zh
        refine vr_iaload dX1_latestWriter_41 (wS_184 zw) zi_8 ?_
        refine vr_istore_n dX1_latestWriter_42 rfl (Nat.le_of_ble_eq_true rfl) (vv_eq (ls' := [(0, .ref 181), (1, .int l1), (2, .int (st_I s4 184 l3.toNatClampNeg)), (3, .int l3)]) rfl ?_)
        refine vr_iinc dX1_latestWriter_43 (x := l3) (v := (l3 + 1)) rfl (ii_ (by decide)) (Nat.le_of_ble_eq_true rfl) (vv_eq (ls' := [(0, .ref 181), (1, .int l1), (2, .int (st_I s4 184 l3.toNatClampNeg)), (3, .int (l3 + 1))]) rfl ?_)
        refine vr_goto dX1_latestWriter_46 (tgt := 4) rfl ?_
        exact vv_sub (ls' := [(0, .ref 181), (1, .int l1), (2, .int (st_I s4 184 l3.toNatClampNeg)), (3, .int (l3 + 1))]) ⟨rfl, rfl, rfl, rfl, trivial⟩ zh
def p_X1_stepAt_0 (γ : ga_T) (l1 : Int32) (σ : st_T) (Q : rs_T → st_T → Prop) : Prop :=
  (l1 < (0 : Int32) →
    Q (.inl (some (.int (-1 : Int32)))) σ
  ) ∧ (¬ l1 < (0 : Int32) →
    ((st_I σ 181 4) ≤ l1 →
      Q (.inl (some (.int (-1 : Int32)))) σ
    ) ∧ (¬ (st_I σ 181 4) ≤ l1 →
      ((18 : Int32) ≤ l1 →
        Q (.inl (some (.int (-1 : Int32)))) σ
      ) ∧ (¬ (18 : Int32) ≤ l1 →
        vp_in l1 18 ∧
        Q (.inl (some (.int (st_I σ 182 l1.toNatClampNeg)))) σ
      )
    )
  )
set_option maxRecDepth 10000 in
theorem g_X1_stepAt_0 {γ : ga_T} {l1 : Int32} {σ : st_T} {Q : rs_T → st_T → Prop} (zw : Wd σ) (zh : p_X1_stepAt_0 γ l1 σ Q) : vv_ γ m_X1_stepAt 0 0 [(0, .ref 181), (1, .int l1)] [] σ Q := by
  unfold p_X1_stepAt_0 at zh
  refine vr_iload_n dX1_stepAt_0 rfl rfl ?_
  refine vr_if_lt dX1_stepAt_1 (tgt := 27) rfl (fun zd_1 => ?_) (fun zd_1 => ?_)
  · replace zh := zh.1 zd_1
    refine vr_iconst dX1_stepAt_27 (v := (-1 : Int32)) (by decide) ?_
    exact vr_iret dX1_stepAt_28 rfl zh
  · replace zh := zh.2 zd_1
    refine vr_iload_n dX1_stepAt_4 rfl rfl ?_
    refine vr_aload_n dX1_stepAt_5 rfl rfl ?_
    refine vr_getI dX1_stepAt_6 fl_LitmusTester_Explanation_21 (wC_181 zw) rfl ?_
    refine vr_ic_ge dX1_stepAt_9 (tgt := 27) rfl (fun zd_2 => ?_) (fun zd_2 => ?_)
    · replace zh := zh.1 zd_2
      refine vr_iconst dX1_stepAt_27 (v := (-1 : Int32)) (by decide) ?_
      exact vr_iret dX1_stepAt_28 rfl zh
    · replace zh := zh.2 zd_2
      refine vr_iload_n dX1_stepAt_12 rfl rfl ?_
      refine vr_bipush dX1_stepAt_13 (v := (18 : Int32)) (by decide) ?_
      refine vr_ic_ge dX1_stepAt_15 (tgt := 27) rfl (fun zd_3 => ?_) (fun zd_3 => ?_)
      · replace zh := zh.1 zd_3
        refine vr_iconst dX1_stepAt_27 (v := (-1 : Int32)) (by decide) ?_
        exact vr_iret dX1_stepAt_28 rfl zh
      · replace zh := zh.2 zd_3
        refine vr_aload_n dX1_stepAt_18 rfl rfl ?_
        refine vr_getR dX1_stepAt_19 fl_LitmusTester_Explanation_9 (wC_181 zw) (Or.inr ⟨_, rfl⟩) (wR_181_1 zw) ?_
        refine vr_iload_n dX1_stepAt_22 rfl rfl ?_
        obtain ⟨zi_4, zh⟩ := zh
        refine vr_iaload dX1_stepAt_23 (wS_182 zw) zi_4 ?_
        refine vr_goto dX1_stepAt_24 (tgt := 28) rfl ?_
        exact vr_iret dX1_stepAt_28 rfl zh
theorem e_X1_stepAt {γ : ga_T} {l1 : Int32} {σ : st_T} {Q : rs_T → st_T → Prop} (zw : Wd σ) (zh : p_X1_stepAt_0 γ l1 σ Q) : sp_ γ m_X1_stepAt 0 [.ref 181, .int l1] σ Q := sp_of (pl_X1_stepAt) rfl (Nat.le_of_ble_eq_true rfl) (g_X1_stepAt_0 zw zh)
def p_X1_originOf_0 (γ : ga_T) (l1 : Int32) (σ : st_T) (Q : rs_T → st_T → Prop) : Prop :=
  (l1 < (0 : Int32) →
    Q (.inl (some (.int (-1 : Int32)))) σ
  ) ∧ (¬ l1 < (0 : Int32) →
    ((10 : Int32) ≤ l1 →
      Q (.inl (some (.int (-1 : Int32)))) σ
    ) ∧ (¬ (10 : Int32) ≤ l1 →
      vp_in l1 10 ∧
      Q (.inl (some (.int (st_I σ 183 l1.toNatClampNeg)))) σ
    )
  )
set_option maxRecDepth 10000 in
theorem g_X1_originOf_0 {γ : ga_T} {l1 : Int32} {σ : st_T} {Q : rs_T → st_T → Prop} (zw : Wd σ) (zh : p_X1_originOf_0 γ l1 σ Q) : vv_ γ m_X1_originOf 0 0 [(0, .ref 181), (1, .int l1)] [] σ Q := by
  unfold p_X1_originOf_0 at zh
  refine vr_iload_n dX1_originOf_0 rfl rfl ?_
  refine vr_if_lt dX1_originOf_1 (tgt := 19) rfl (fun zd_1 => ?_) (fun zd_1 => ?_)
  · replace zh := zh.1 zd_1
    refine vr_iconst dX1_originOf_19 (v := (-1 : Int32)) (by decide) ?_
    exact vr_iret dX1_originOf_20 rfl zh
  · replace zh := zh.2 zd_1
    refine vr_iload_n dX1_originOf_4 rfl rfl ?_
    refine vr_bipush dX1_originOf_5 (v := (10 : Int32)) (by decide) ?_
    refine vr_ic_ge dX1_originOf_7 (tgt := 19) rfl (fun zd_2 => ?_) (fun zd_2 => ?_)
    · replace zh := zh.1 zd_2
      refine vr_iconst dX1_originOf_19 (v := (-1 : Int32)) (by decide) ?_
      exact vr_iret dX1_originOf_20 rfl zh
    · replace zh := zh.2 zd_2
      refine vr_aload_n dX1_originOf_10 rfl rfl ?_
      refine vr_getR dX1_originOf_11 fl_LitmusTester_Explanation_15 (wC_181 zw) (Or.inr ⟨_, rfl⟩) (wR_181_2 zw) ?_
      refine vr_iload_n dX1_originOf_14 rfl rfl ?_
      obtain ⟨zi_3, zh⟩ := zh
      refine vr_iaload dX1_originOf_15 (wS_183 zw) zi_3 ?_
      refine vr_goto dX1_originOf_16 (tgt := 20) rfl ?_
      exact vr_iret dX1_originOf_20 rfl zh
theorem e_X1_originOf {γ : ga_T} {l1 : Int32} {σ : st_T} {Q : rs_T → st_T → Prop} (zw : Wd σ) (zh : p_X1_originOf_0 γ l1 σ Q) : sp_ γ m_X1_originOf 0 [.ref 181, .int l1] σ Q := sp_of (pl_X1_originOf) rfl (Nat.le_of_ble_eq_true rfl) (g_X1_originOf_0 zw zh)
def p_X1_writerAt_0 (γ : ga_T) (l1 : Int32) (l2 : Int32) (σ : st_T) (Q : rs_T → st_T → Prop) : Prop :=
  vv_ γ m_X1_writerAt 1 5 [(0, .ref 181), (1, .int l1), (2, .int l2), (3, .int (0 : Int32)), (4, .int (0 : Int32))] [] σ Q
set_option maxRecDepth 10000 in
theorem g_X1_writerAt_0 {γ : ga_T} {l1 : Int32} {l2 : Int32} {σ : st_T} {Q : rs_T → st_T → Prop} (zw : Wd σ) (zh : p_X1_writerAt_0 γ l1 l2 σ Q) : vv_ γ m_X1_writerAt 1 0 [(0, .ref 181), (1, .int l1), (2, .int l2)] [] σ Q := by
  unfold p_X1_writerAt_0 at zh
  refine vr_iconst dX1_writerAt_0 (v := (0 : Int32)) (by decide) ?_
  refine vr_istore_n dX1_writerAt_1 rfl (Nat.le_of_ble_eq_true rfl) (vv_eq (ls' := [(0, .ref 181), (1, .int l1), (2, .int l2), (3, .int (0 : Int32))]) rfl ?_)
  refine vr_iconst dX1_writerAt_2 (v := (0 : Int32)) (by decide) ?_
  refine vr_istore dX1_writerAt_3 (Nat.le_of_ble_eq_true rfl) (vv_eq (ls' := [(0, .ref 181), (1, .int l1), (2, .int l2), (3, .int (0 : Int32)), (4, .int (0 : Int32))]) rfl ?_)
  exact vv_sub (ls' := [(0, .ref 181), (1, .int l1), (2, .int l2), (3, .int (0 : Int32)), (4, .int (0 : Int32))]) ⟨rfl, rfl, rfl, rfl, rfl, trivial⟩ zh
theorem e_X1_writerAt {γ : ga_T} {l1 : Int32} {l2 : Int32} {σ : st_T} {Q : rs_T → st_T → Prop} (zw : Wd σ) (zh : p_X1_writerAt_0 γ l1 l2 σ Q) : sp_ γ m_X1_writerAt 1 [.ref 181, .int l1, .int l2] σ Q := sp_of (pl_X1_writerAt) rfl (Nat.le_of_ble_eq_true rfl) (g_X1_writerAt_0 zw zh)
def p_X1_writerAt_5 (γ : ga_T) (l1 : Int32) (l2 : Int32) (l3 : Int32) (l4 : Int32) (σ : st_T) (Q : rs_T → st_T → Prop) : Prop :=
  ((st_I σ 181 5) ≤ l4 →
    Q (.inl (some (.int (-1 : Int32)))) σ
  ) ∧ (¬ (st_I σ 181 5) ≤ l4 →
    ((8 : Int32) ≤ l4 →
      Q (.inl (some (.int (-1 : Int32)))) σ
    ) ∧ (¬ (8 : Int32) ≤ l4 →
      vp_in l4 8 ∧
      ∃ (v6 : Int32) (s4 : st_T), Wd s4 ∧ fn_ γ m_X7_property 0 [.ref 132, .int (st_I σ 184 l4.toNatClampNeg), .int (2 : Int32)] σ (.int v6) s4 ∧
      (v6 = l1 →
        (l3 = l2 →
          vp_in l4 8 ∧
          Q (.inl (some (.int (st_I s4 184 l4.toNatClampNeg)))) s4
        ) ∧ (¬ l3 = l2 →
          vv_ γ m_X1_writerAt 1 5 [(0, .ref 181), (1, .int l1), (2, .int l2), (3, .int (l3 + 1)), (4, .int (l4 + 1))] [] s4 Q
        )
      ) ∧ (¬ v6 = l1 →
        vv_ γ m_X1_writerAt 1 5 [(0, .ref 181), (1, .int l1), (2, .int l2), (3, .int l3), (4, .int (l4 + 1))] [] s4 Q
      )
    )
  )
set_option maxRecDepth 10000 in
theorem g_X1_writerAt_5 {γ : ga_T} {l1 : Int32} {l2 : Int32} {l3 : Int32} {l4 : Int32} {σ : st_T} {Q : rs_T → st_T → Prop} (zw : Wd σ) (zh : p_X1_writerAt_5 γ l1 l2 l3 l4 σ Q) : vv_ γ m_X1_writerAt 1 5 [(0, .ref 181), (1, .int l1), (2, .int l2), (3, .int l3), (4, .int l4)] [] σ Q := by
  unfold p_X1_writerAt_5 at zh
  refine vr_iload dX1_writerAt_5 rfl ?_
  refine vr_aload_n dX1_writerAt_7 rfl rfl ?_
  refine vr_getI dX1_writerAt_8 fl_LitmusTester_Explanation_25 (wC_181 zw) rfl ?_
  refine vr_ic_ge dX1_writerAt_11 (tgt := 62) rfl (fun zd_1 => ?_) (fun zd_1 => ?_)
  · replace zh := zh.1 zd_1
    refine vr_iconst dX1_writerAt_62 (v := (-1 : Int32)) (by decide) ?_
    exact vr_iret dX1_writerAt_63 rfl zh
  · replace zh := zh.2 zd_1
    refine vr_iload dX1_writerAt_14 rfl ?_
    refine vr_bipush dX1_writerAt_16 (v := (8 : Int32)) (by decide) ?_
    refine vr_ic_ge dX1_writerAt_18 (tgt := 62) rfl (fun zd_2 => ?_) (fun zd_2 => ?_)
    · replace zh := zh.1 zd_2
      refine vr_iconst dX1_writerAt_62 (v := (-1 : Int32)) (by decide) ?_
      exact vr_iret dX1_writerAt_63 rfl zh
    · replace zh := zh.2 zd_2
      refine vr_aload_n dX1_writerAt_21 rfl rfl ?_
      refine vr_getR dX1_writerAt_22 fl_LitmusTester_Explanation_32 (wC_181 zw) (Or.inl ⟨_, rfl⟩) (wR_181_0 zw) ?_
      refine vr_aload_n dX1_writerAt_25 rfl rfl ?_
      refine vr_getR dX1_writerAt_26 fl_LitmusTester_Explanation_18 (wC_181 zw) (Or.inr ⟨_, rfl⟩) (wR_181_3 zw) ?_
      refine vr_iload dX1_writerAt_29 rfl ?_
      obtain ⟨zi_3, zh⟩ := zh
      refine vr_iaload dX1_writerAt_31 (wS_184 zw) zi_3 ?_
      refine vr_iconst dX1_writerAt_32 (v := (2 : Int32)) (by decide) ?_
      obtain ⟨v6, s4, zw1, zf_5, zh⟩ := zh
      refine vc_V (As := [.int (st_I σ 184 l4.toNatClampNeg), .int (2 : Int32)]) (rest := []) dX1_writerAt_33 cV_LitmusTester_Explanation_53 (wC_132 zw) rfl rfl (Nat.le_of_ble_eq_true rfl) (Nat.le_of_ble_eq_true rfl) (co_n zf_5 ?_)
      replace zw := zw1
      refine vr_iload_n dX1_writerAt_36 rfl rfl ?_
      refine vr_ic_ne dX1_writerAt_37 (tgt := 56) rfl (fun zd_7 => ?_) (fun zd_7 => ?_)
      · replace zh := zh.2 zd_7
        refine vr_iinc dX1_writerAt_56 (x := l4) (v := (l4 + 1)) rfl (ii_ (by decide)) (Nat.le_of_ble_eq_true rfl) (vv_eq (ls' := [(0, .ref 181), (1, .int l1), (2, .int l2), (3, .int l3), (4, .int (l4 + 1))]) rfl ?_)
        refine vr_goto dX1_writerAt_59 (tgt := 5) rfl ?_
        exact vv_sub (ls' := [(0, .ref 181), (1, .int l1), (2, .int l2), (3, .int l3), (4, .int (l4 + 1))]) ⟨rfl, rfl, rfl, rfl, rfl, trivial⟩ zh
      · replace zh := zh.1 zd_7
        refine vr_iload_n dX1_writerAt_40 rfl rfl ?_
        refine vr_iload_n dX1_writerAt_41 rfl rfl ?_
        refine vr_ic_ne dX1_writerAt_42 (tgt := 53) rfl (fun zd_8 => ?_) (fun zd_8 => ?_)
        · replace zh := zh.2 zd_8
          refine vr_iinc dX1_writerAt_53 (x := l3) (v := (l3 + 1)) rfl (ii_ (by decide)) (Nat.le_of_ble_eq_true rfl) (vv_eq (ls' := [(0, .ref 181), (1, .int l1), (2, .int l2), (3, .int (l3 + 1)), (4, .int l4)]) rfl ?_)
          refine vr_iinc dX1_writerAt_56 (x := l4) (v := (l4 + 1)) rfl (ii_ (by decide)) (Nat.le_of_ble_eq_true rfl) (vv_eq (ls' := [(0, .ref 181), (1, .int l1), (2, .int l2), (3, .int (l3 + 1)), (4, .int (l4 + 1))]) rfl ?_)
          refine vr_goto dX1_writerAt_59 (tgt := 5) rfl ?_
          exact vv_sub (ls' := [(0, .ref 181), (1, .int l1), (2, .int l2), (3, .int (l3 + 1)), (4, .int (l4 + 1))]) ⟨rfl, rfl, rfl, rfl, rfl, trivial⟩ zh
        · replace zh := zh.1 zd_8
          refine vr_aload_n dX1_writerAt_45 rfl rfl ?_
          refine vr_getR dX1_writerAt_46 fl_LitmusTester_Explanation_18 (wC_181 zw) (Or.inr ⟨_, rfl⟩) (wR_181_3 zw) ?_
          refine vr_iload dX1_writerAt_49 rfl ?_
          obtain ⟨zi_9, zh⟩ := zh
          refine vr_iaload dX1_writerAt_51 (wS_184 zw) zi_9 ?_
          exact vr_iret dX1_writerAt_52 rfl zh
