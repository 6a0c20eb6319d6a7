def p_X6_parse_0 (γ : ga_T) (l1 : Int32) (σ : st_T) (Q : rs_T → st_T → Prop) : Prop :=
  ∃ s1, Wd s1 ∧ fw_ γ m_X7_clear 0 [.ref 137] (pt_I (pt_I σ 142 2 (0 : Int32)) 142 3 (0 : Int32)) s1 ∧
  ∃ s3, Wd s3 ∧ fw_ γ m_X10_split 16 [.ref 143, .int l1] s1 s3 ∧
  vv_ γ m_X6_parse 61 29 [(0, .ref 142), (2, .int (1 : Int32)), (3, .int (0 : Int32))] [] s3 Q
set_option maxRecDepth 10000 in
theorem g_X6_parse_0 {γ : ga_T} {l1 : Int32} {σ : st_T} {Q : rs_T → st_T → Prop} (zw : Wd σ) (zh : p_X6_parse_0 γ l1 σ Q) : vv_ γ m_X6_parse 61 0 [(0, .ref 142), (1, .int l1)] [] σ Q := by
  unfold p_X6_parse_0 at zh
  refine vr_aload_n dX6_parse_0 rfl rfl ?_
  refine vr_iconst dX6_parse_1 (v := (0 : Int32)) (by decide) ?_
  refine vr_putI dX6_parse_2 fl_LitmusTester_Parser_9 (wC_142 zw) rfl (fz_6_2) ?_
  refine vr_aload_n dX6_parse_5 rfl rfl ?_
  refine vr_iconst dX6_parse_6 (v := (0 : Int32)) (by decide) ?_
  refine vr_putI dX6_parse_7 fl_LitmusTester_Parser_15 (wC_142 zw) rfl (fz_6_3) ?_
  refine vr_aload_n dX6_parse_10 rfl rfl ?_
  refine vr_getR dX6_parse_11 fl_LitmusTester_Parser_39 (wC_142 zw) (Or.inl ⟨_, rfl⟩) (wR_142_1 zw) ?_
  obtain ⟨s1, zw1, zf_2, zh⟩ := zh
  refine vc_V (As := []) (rest := []) dX6_parse_14 cV_LitmusTester_Parser_43 (wC_137 zw) rfl rfl (Nat.le_of_ble_eq_true rfl) (Nat.le_of_ble_eq_true rfl) (co_v zf_2 ?_)
  replace zw := zw1
  refine vr_aload_n dX6_parse_17 rfl rfl ?_
  refine vr_getR dX6_parse_18 fl_LitmusTester_Parser_35 (wC_142 zw) (Or.inl ⟨_, rfl⟩) (wR_142_0 zw) ?_
  refine vr_iload_n dX6_parse_21 rfl rfl ?_
  obtain ⟨s3, zw1, zf_4, zh⟩ := zh
  refine vc_V (As := [.int l1]) (rest := []) dX6_parse_22 cV_LitmusTester_Parser_48 (wC_143 zw) rfl rfl (Nat.le_of_ble_eq_true rfl) (Nat.le_of_ble_eq_true rfl) (co_v zf_4 ?_)
  replace zw := zw1
  refine vr_iconst dX6_parse_25 (v := (1 : Int32)) (by decide) ?_
  refine vr_istore_n dX6_parse_26 rfl (Nat.le_of_ble_eq_true rfl) (vv_eq (ls' := [(0, .ref 142), (1, .int l1), (2, .int (1 : Int32))]) rfl ?_)
  refine vr_iconst dX6_parse_27 (v := (0 : Int32)) (by decide) ?_
  refine vr_istore_n dX6_parse_28 rfl (Nat.le_of_ble_eq_true rfl) (vv_eq (ls' := [(0, .ref 142), (1, .int l1), (2, .int (1 : Int32)), (3, .int (0 : Int32))]) rfl ?_)
  exact vv_sub (ls' := [(0, .ref 142), (2, .int (1 : Int32)), (3, .int (0 : Int32))]) ⟨rfl, rfl, rfl, trivial⟩ zh
theorem e_X6_parse {γ : ga_T} {l1 : Int32} {σ : st_T} {Q : rs_T → st_T → Prop} (zw : Wd σ) (zh : p_X6_parse_0 γ l1 σ Q) : sp_ γ m_X6_parse 61 [.ref 142, .int l1] σ Q := sp_of (pl_X6_parse) rfl (Nat.le_of_ble_eq_true rfl) (g_X6_parse_0 zw zh)
def p_X6_parse_29 (γ : ga_T) (l2 : Int32) (l3 : Int32) (σ : st_T) (Q : rs_T → st_T → Prop) : Prop :=
  ((3 : Int32) < l3 →
    vv_ γ m_X6_parse 61 64 [(0, .ref 142), (2, .int l2), (3, .int (0 : Int32))] [] σ Q
  ) ∧ (¬ (3 : Int32) < l3 →
    (l2 = (0 : Int32) →
      vv_ γ m_X6_parse 61 64 [(0, .ref 142), (2, .int l2), (3, .int (0 : Int32))] [] σ Q
    ) ∧ (¬ l2 = (0 : Int32) →
      ∃ (v5 : Nat) (s3 : st_T), Wd s3 ∧ fn_ γ m_X10_sign 0 [.ref 143] σ (.ref v5) s3 ∧
      v5 < 21 ∧
      (v5 = 5 →
        ∃ (v10 : Int32) (s8 : st_T), Wd s8 ∧ fn_ γ m_X6_readDeclaration 3 [.ref 142] s3 (.int v10) s8 ∧
        vv_ γ m_X6_parse 61 29 [(0, .ref 142), (2, .int v10), (3, .int (l3 + 1))] [] s8 Q
      ) ∧ (¬ v5 = 5 →
        vv_ γ m_X6_parse 61 64 [(0, .ref 142), (2, .int l2), (3, .int (0 : Int32))] [] s3 Q
      )
    )
  )
set_option maxRecDepth 10000 in
theorem g_X6_parse_29 {γ : ga_T} {l2 : Int32} {l3 : Int32} {σ : st_T} {Q : rs_T → st_T → Prop} (zw : Wd σ) (zh : p_X6_parse_29 γ l2 l3 σ Q) : vv_ γ m_X6_parse 61 29 [(0, .ref 142), (2, .int l2), (3, .int l3)] [] σ Q := by
  unfold p_X6_parse_29 at zh
  refine vr_iload_n dX6_parse_29 rfl rfl ?_
  refine vr_iconst dX6_parse_30 (v := (3 : Int32)) (by decide) ?_
  refine vr_ic_gt dX6_parse_31 (tgt := 62) rfl (fun zd_1 => ?_) (fun zd_1 => ?_)
  · replace zh := zh.1 zd_1
    refine vr_iconst dX6_parse_62 (v := (0 : Int32)) (by decide) ?_
    refine vr_istore_n dX6_parse_63 rfl (Nat.le_of_ble_eq_true rfl) (vv_eq (ls' := [(0, .ref 142), (2, .int l2), (3, .int (0 : Int32))]) rfl ?_)
    exact vv_sub (ls' := [(0, .ref 142), (2, .int l2), (3, .int (0 : Int32))]) ⟨rfl, rfl, rfl, trivial⟩ zh
  · replace zh := zh.2 zd_1
    refine vr_iload_n dX6_parse_34 rfl rfl ?_
    refine vr_if_eq dX6_parse_35 (tgt := 62) rfl (fun zd_2 => ?_) (fun zd_2 => ?_)
    · replace zh := zh.1 zd_2
      refine vr_iconst dX6_parse_62 (v := (0 : Int32)) (by decide) ?_
      refine vr_istore_n dX6_parse_63 rfl (Nat.le_of_ble_eq_true rfl) (vv_eq (ls' := [(0, .ref 142), (2, .int l2), (3, .int (0 : Int32))]) rfl ?_)
      exact vv_sub (ls' := [(0, .ref 142), (2, .int l2), (3, .int (0 : Int32))]) ⟨rfl, rfl, rfl, trivial⟩ zh
    · replace zh := zh.2 zd_2
      refine vr_aload_n dX6_parse_38 rfl rfl ?_
      refine vr_getR dX6_parse_39 fl_LitmusTester_Parser_35 (wC_142 zw) (Or.inl ⟨_, rfl⟩) (wR_142_0 zw) ?_
      obtain ⟨v5, s3, zw1, zf_4, zh⟩ := zh
      refine vc_V (As := []) (rest := []) dX6_parse_42 cV_LitmusTester_Parser_52 (wC_143 zw) rfl rfl (Nat.le_of_ble_eq_true rfl) (Nat.le_of_ble_eq_true rfl) (co_n zf_4 ?_)
      replace zw := zw1
      refine vr_getE dX6_parse_45 (i := 5) (by decide) tw_612 ?_
      obtain ⟨zg_6, zh⟩ := zh
      refine vr_acmp_ne dX6_parse_48 (tgt := 62) rfl zg_6 (by decide) (fun zd_7 => ?_) (fun zd_7 => ?_)
      · replace zh := zh.2 zd_7
        refine vr_iconst dX6_parse_62 (v := (0 : Int32)) (by decide) ?_
        refine vr_istore_n dX6_parse_63 rfl (Nat.le_of_ble_eq_true rfl) (vv_eq (ls' := [(0, .ref 142), (2, .int l2), (3, .int (0 : Int32))]) rfl ?_)
        exact vv_sub (ls' := [(0, .ref 142), (2, .int l2), (3, .int (0 : Int32))]) ⟨rfl, rfl, rfl, trivial⟩ zh
      · replace zh := zh.1 zd_7
        refine vr_aload_n dX6_parse_51 rfl rfl ?_
        obtain ⟨v10, s8, zw1, zf_9, zh⟩ := zh
        refine vc_V (As := []) (rest := []) dX6_parse_52 cV_LitmusTester_Parser_62 (wC_142 zw) rfl rfl (Nat.le_of_ble_eq_true rfl) (Nat.le_of_ble_eq_true rfl) (co_n zf_9 ?_)
        replace zw := zw1
        refine vr_istore_n dX6_parse_55 rfl (Nat.le_of_ble_eq_true rfl) (vv_eq (ls' := [(0, .ref 142), (2, .int v10), (3, .int l3)]) rfl ?_)
        refine vr_iinc dX6_parse_56 (x := l3) (v := (l3 + 1)) rfl (ii_ (by decide)) (Nat.le_of_ble_eq_true rfl) (vv_eq (ls' := [(0, .ref 142), (2, .int v10), (3, .int (l3 + 1))]) rfl ?_)
        refine vr_goto dX6_parse_59 (tgt := 29) rfl ?_
        exact vv_sub (ls' := [(0, .ref 142), (2, .int v10), (3, .int (l3 + 1))]) ⟨rfl, rfl, rfl, trivial⟩ zh
def p_X6_parse_64 (γ : ga_T) (l2 : Int32) (l3 : Int32) (σ : st_T) (Q : rs_T → st_T → Prop) : Prop :=
  ((4 : Int32) < l3 →
    (l2 = (0 : Int32) →
      (l2 = (0 : Int32) →
        Q (.inl (some (.int (st_I σ 142 2)))) σ
      ) ∧ (¬ l2 = (0 : Int32) →
        ∃ (v6 : Nat) (s4 : st_T), Wd s4 ∧ fn_ γ m_X10_sign 0 [.ref 143] σ (.ref v6) s4 ∧
        v6 < 21 ∧
        (v6 = 0 →
          Q (.inl (some (.int (st_I s4 142 2)))) s4
        ) ∧ (¬ v6 = 0 →
          ∃ (v11 : Int32) (s9 : st_T), Wd s9 ∧ fn_ γ m_X6_fail 1 [.ref 142, .int (1 : Int32)] s4 (.int v11) s9 ∧
          Q (.inl (some (.int (st_I s9 142 2)))) s9
        )
      )
    ) ∧ (¬ l2 = (0 : Int32) →
      ∃ (v14 : Nat) (s12 : st_T), Wd s12 ∧ fn_ γ m_X10_sign 0 [.ref 143] σ (.ref v14) s12 ∧
      v14 < 21 ∧
      (v14 = 11 →
        ∃ s17, Wd s17 ∧ fw_ γ m_X10_advance 1 [.ref 143] s12 s17 ∧
        ∃ (v21 : Int32) (s19 : st_T), Wd s19 ∧ fn_ γ m_X6_readCondition 60 [.ref 142, .int (0 : Int32)] s17 (.int v21) s19 ∧
        (v21 = (0 : Int32) →
          Q (.inl (some (.int (st_I s19 142 2)))) s19
        ) ∧ (¬ v21 = (0 : Int32) →
          ∃ (v25 : Int32) (s23 : st_T), Wd s23 ∧ fn_ γ m_X6_expect 2 [.ref 142, .ref 15] s19 (.int v25) s23 ∧
          (v25 = (0 : Int32) →
            Q (.inl (some (.int (st_I s23 142 2)))) s23
          ) ∧ (¬ v25 = (0 : Int32) →
            ∃ (v29 : Nat) (s27 : st_T), Wd s27 ∧ fn_ γ m_X10_sign 0 [.ref 143] s23 (.ref v29) s27 ∧
            v29 < 21 ∧
            (v29 = 0 →
              Q (.inl (some (.int (st_I s27 142 2)))) s27
            ) ∧ (¬ v29 = 0 →
              ∃ (v34 : Int32) (s32 : st_T), Wd s32 ∧ fn_ γ m_X6_fail 1 [.ref 142, .int (1 : Int32)] s27 (.int v34) s32 ∧
              Q (.inl (some (.int (st_I s32 142 2)))) s32
            )
          )
        )
      ) ∧ (¬ v14 = 11 →
        (l2 = (0 : Int32) →
          Q (.inl (some (.int (st_I s12 142 2)))) s12
        ) ∧ (¬ l2 = (0 : Int32) →
          ∃ (v38 : Nat) (s36 : st_T), Wd s36 ∧ fn_ γ m_X10_sign 0 [.ref 143] s12 (.ref v38) s36 ∧
          v38 < 21 ∧
          (v38 = 0 →
            Q (.inl (some (.int (st_I s36 142 2)))) s36
          ) ∧ (¬ v38 = 0 →
            ∃ (v43 : Int32) (s41 : st_T), Wd s41 ∧ fn_ γ m_X6_fail 1 [.ref 142, .int (1 : Int32)] s36 (.int v43) s41 ∧
            Q (.inl (some (.int (st_I s41 142 2)))) s41
          )
        )
      )
    )
  ) ∧ (¬ (4 : Int32) < l3 →
    (l2 = (0 : Int32) →
      (l2 = (0 : Int32) →
        (l2 = (0 : Int32) →
          Q (.inl (some (.int (st_I σ 142 2)))) σ
        ) ∧ (¬ l2 = (0 : Int32) →
          ∃ (v49 : Nat) (s47 : st_T), Wd s47 ∧ fn_ γ m_X10_sign 0 [.ref 143] σ (.ref v49) s47 ∧
          v49 < 21 ∧
          (v49 = 0 →
            Q (.inl (some (.int (st_I s47 142 2)))) s47
          ) ∧ (¬ v49 = 0 →
            ∃ (v54 : Int32) (s52 : st_T), Wd s52 ∧ fn_ γ m_X6_fail 1 [.ref 142, .int (1 : Int32)] s47 (.int v54) s52 ∧
            Q (.inl (some (.int (st_I s52 142 2)))) s52
          )
        )
      ) ∧ (¬ l2 = (0 : Int32) →
        ∃ (v57 : Nat) (s55 : st_T), Wd s55 ∧ fn_ γ m_X10_sign 0 [.ref 143] σ (.ref v57) s55 ∧
        v57 < 21 ∧
        (v57 = 11 →
          ∃ s60, Wd s60 ∧ fw_ γ m_X10_advance 1 [.ref 143] s55 s60 ∧
          ∃ (v64 : Int32) (s62 : st_T), Wd s62 ∧ fn_ γ m_X6_readCondition 60 [.ref 142, .int (0 : Int32)] s60 (.int v64) s62 ∧
          (v64 = (0 : Int32) →
            Q (.inl (some (.int (st_I s62 142 2)))) s62
          ) ∧ (¬ v64 = (0 : Int32) →
            ∃ (v68 : Int32) (s66 : st_T), Wd s66 ∧ fn_ γ m_X6_expect 2 [.ref 142, .ref 15] s62 (.int v68) s66 ∧
            (v68 = (0 : Int32) →
              Q (.inl (some (.int (st_I s66 142 2)))) s66
            ) ∧ (¬ v68 = (0 : Int32) →
              ∃ (v72 : Nat) (s70 : st_T), Wd s70 ∧ fn_ γ m_X10_sign 0 [.ref 143] s66 (.ref v72) s70 ∧
              v72 < 21 ∧
              (v72 = 0 →
                Q (.inl (some (.int (st_I s70 142 2)))) s70
              ) ∧ (¬ v72 = 0 →
                ∃ (v77 : Int32) (s75 : st_T), Wd s75 ∧ fn_ γ m_X6_fail 1 [.ref 142, .int (1 : Int32)] s70 (.int v77) s75 ∧
                Q (.inl (some (.int (st_I s75 142 2)))) s75
              )
            )
          )
        ) ∧ (¬ v57 = 11 →
          (l2 = (0 : Int32) →
            Q (.inl (some (.int (st_I s55 142 2)))) s55
          ) ∧ (¬ l2 = (0 : Int32) →
            ∃ (v81 : Nat) (s79 : st_T), Wd s79 ∧ fn_ γ m_X10_sign 0 [.ref 143] s55 (.ref v81) s79 ∧
            v81 < 21 ∧
            (v81 = 0 →
              Q (.inl (some (.int (st_I s79 142 2)))) s79
            ) ∧ (¬ v81 = 0 →
              ∃ (v86 : Int32) (s84 : st_T), Wd s84 ∧ fn_ γ m_X6_fail 1 [.ref 142, .int (1 : Int32)] s79 (.int v86) s84 ∧
              Q (.inl (some (.int (st_I s84 142 2)))) s84
            )
          )
        )
      )
    ) ∧ (¬ l2 = (0 : Int32) →
      ∃ (v89 : Nat) (s87 : st_T), Wd s87 ∧ fn_ γ m_X10_sign 0 [.ref 143] σ (.ref v89) s87 ∧
      v89 < 21 ∧
      (v89 = 6 →
        ∃ (v94 : Int32) (s92 : st_T), Wd s92 ∧ fn_ γ m_X6_readThread 5 [.ref 142] s87 (.int v94) s92 ∧
        vv_ γ m_X6_parse 61 64 [(0, .ref 142), (2, .int v94), (3, .int (l3 + 1))] [] s92 Q
      ) ∧ (¬ v89 = 6 →
        (l2 = (0 : Int32) →
          (l2 = (0 : Int32) →
            Q (.inl (some (.int (st_I s87 142 2)))) s87
          ) ∧ (¬ l2 = (0 : Int32) →
            ∃ (v99 : Nat) (s97 : st_T), Wd s97 ∧ fn_ γ m_X10_sign 0 [.ref 143] s87 (.ref v99) s97 ∧
            v99 < 21 ∧
            (v99 = 0 →
              Q (.inl (some (.int (st_I s97 142 2)))) s97
            ) ∧ (¬ v99 = 0 →
              ∃ (v104 : Int32) (s102 : st_T), Wd s102 ∧ fn_ γ m_X6_fail 1 [.ref 142, .int (1 : Int32)] s97 (.int v104) s102 ∧
              Q (.inl (some (.int (st_I s102 142 2)))) s102
            )
          )
        ) ∧ (¬ l2 = (0 : Int32) →
          ∃ (v107 : Nat) (s105 : st_T), Wd s105 ∧ fn_ γ m_X10_sign 0 [.ref 143] s87 (.ref v107) s105 ∧
          v107 < 21 ∧
          (v107 = 11 →
            ∃ s110, Wd s110 ∧ fw_ γ m_X10_advance 1 [.ref 143] s105 s110 ∧
            ∃ (v114 : Int32) (s112 : st_T), Wd s112 ∧ fn_ γ m_X6_readCondition 60 [.ref 142, .int (0 : Int32)] s110 (.int v114) s112 ∧
            (v114 = (0 : Int32) →
              Q (.inl (some (.int (st_I s112 142 2)))) s112
            ) ∧ (¬ v114 = (0 : Int32) →
              ∃ (v118 : Int32) (s116 : st_T), Wd s116 ∧ fn_ γ m_X6_expect 2 [.ref 142, .ref 15] s112 (.int v118) s116 ∧
              (v118 = (0 : Int32) →
                Q (.inl (some (.int (st_I s116 142 2)))) s116
              ) ∧ (¬ v118 = (0 : Int32) →
                ∃ (v122 : Nat) (s120 : st_T), Wd s120 ∧ fn_ γ m_X10_sign 0 [.ref 143] s116 (.ref v122) s120 ∧
                v122 < 21 ∧
                (v122 = 0 →
                  Q (.inl (some (.int (st_I s120 142 2)))) s120
                ) ∧ (¬ v122 = 0 →
                  ∃ (v127 : Int32) (s125 : st_T), Wd s125 ∧ fn_ γ m_X6_fail 1 [.ref 142, .int (1 : Int32)] s120 (.int v127) s125 ∧
                  Q (.inl (some (.int (st_I s125 142 2)))) s125
                )
              )
            )
          ) ∧ (¬ v107 = 11 →
            (l2 = (0 : Int32) →
              Q (.inl (some (.int (st_I s105 142 2)))) s105
            ) ∧ (¬ l2 = (0 : Int32) →
              ∃ (v131 : Nat) (s129 : st_T), Wd s129 ∧ fn_ γ m_X10_sign 0 [.ref 143] s105 (.ref v131) s129 ∧
              v131 < 21 ∧
              (v131 = 0 →
                Q (.inl (some (.int (st_I s129 142 2)))) s129
              ) ∧ (¬ v131 = 0 →
                ∃ (v136 : Int32) (s134 : st_T), Wd s134 ∧ fn_ γ m_X6_fail 1 [.ref 142, .int (1 : Int32)] s129 (.int v136) s134 ∧
                Q (.inl (some (.int (st_I s134 142 2)))) s134
              )
            )
          )
        )
      )
    )
  )
set_option maxRecDepth 10000 in
theorem g_X6_parse_64 {γ : ga_T} {l2 : Int32} {l3 : Int32} {σ : st_T} {Q : rs_T → st_T → Prop} (zw : Wd σ) (zh : p_X6_parse_64 γ l2 l3 σ Q) : vv_ γ m_X6_parse 61 64 [(0, .ref 142), (2, .int l2), (3, .int l3)] [] σ Q := by
  unfold p_X6_parse_64 at zh
  refine vr_iload_n dX6_parse_64 rfl rfl ?_
  refine vr_iconst dX6_parse_65 (v := (4 : Int32)) (by decide) ?_
  refine vr_ic_gt dX6_parse_66 (tgt := 97) rfl (fun zd_1 => ?_) (fun zd_1 => ?_)
  · replace zh := zh.1 zd_1
    refine vr_iload_n dX6_parse_97 rfl rfl ?_
    refine vr_if_eq dX6_parse_98 (tgt := 145) rfl (fun zd_2 => ?_) (fun zd_2 => ?_)
    · replace zh := zh.1 zd_2
      refine vr_iload_n dX6_parse_145 rfl rfl ?_
      refine vr_if_eq dX6_parse_146 (tgt := 168) rfl (fun zd_3 => ?_) (fun zd_3 => ?_)
      · replace zh := zh.1 zd_3
        refine vr_aload_n dX6_parse_168 rfl rfl ?_
        refine vr_getI dX6_parse_169 fl_LitmusTester_Parser_9 (wC_142 zw) rfl ?_
        exact vr_iret dX6_parse_172 rfl zh
      · replace zh := zh.2 zd_3
        refine vr_aload_n dX6_parse_149 rfl rfl ?_
        refine vr_getR dX6_parse_150 fl_LitmusTester_Parser_35 (wC_142 zw) (Or.inl ⟨_, rfl⟩) (wR_142_0 zw) ?_
        obtain ⟨v6, s4, zw1, zf_5, zh⟩ := zh
        refine vc_V (As := []) (rest := []) dX6_parse_153 cV_LitmusTester_Parser_52 (wC_143 zw) rfl rfl (Nat.le_of_ble_eq_true rfl) (Nat.le_of_ble_eq_true rfl) (co_n zf_5 ?_)
        replace zw := zw1
        refine vr_getE dX6_parse_156 (i := 0) (by decide) tw_805 ?_
        obtain ⟨zg_7, zh⟩ := zh
        refine vr_acmp_eq dX6_parse_159 (tgt := 168) rfl zg_7 (by decide) (fun zd_8 => ?_) (fun zd_8 => ?_)
        · replace zh := zh.1 zd_8
          refine vr_aload_n dX6_parse_168 rfl rfl ?_
          refine vr_getI dX6_parse_169 fl_LitmusTester_Parser_9 (wC_142 zw) rfl ?_
          exact vr_iret dX6_parse_172 rfl zh
        · replace zh := zh.2 zd_8
          refine vr_aload_n dX6_parse_162 rfl rfl ?_
          refine vr_iconst dX6_parse_163 (v := (1 : Int32)) (by decide) ?_
          obtain ⟨v11, s9, zw1, zf_10, zh⟩ := zh
          refine vc_V (As := [.int (1 : Int32)]) (rest := []) dX6_parse_164 cV_LitmusTester_Parser_92 (wC_142 zw) rfl rfl (Nat.le_of_ble_eq_true rfl) (Nat.le_of_ble_eq_true rfl) (co_n zf_10 ?_)
          replace zw := zw1
          refine vr_pop dX6_parse_167 rfl ?_
          refine vr_aload_n dX6_parse_168 rfl rfl ?_
          refine vr_getI dX6_parse_169 fl_LitmusTester_Parser_9 (wC_142 zw) rfl ?_
          exact vr_iret dX6_parse_172 rfl zh
    · replace zh := zh.2 zd_2
      refine vr_aload_n dX6_parse_101 rfl rfl ?_
      refine vr_getR dX6_parse_102 fl_LitmusTester_Parser_35 (wC_142 zw) (Or.inl ⟨_, rfl⟩) (wR_142_0 zw) ?_
      obtain ⟨v14, s12, zw1, zf_13, zh⟩ := zh
      refine vc_V (As := []) (rest := []) dX6_parse_105 cV_LitmusTester_Parser_52 (wC_143 zw) rfl rfl (Nat.le_of_ble_eq_true rfl) (Nat.le_of_ble_eq_true rfl) (co_n zf_13 ?_)
      replace zw := zw1
      refine vr_getE dX6_parse_108 (i := 11) (by decide) tw_744 ?_
      obtain ⟨zg_15, zh⟩ := zh
      refine vr_acmp_ne dX6_parse_111 (tgt := 145) rfl zg_15 (by decide) (fun zd_16 => ?_) (fun zd_16 => ?_)
      · replace zh := zh.2 zd_16
        refine vr_iload_n dX6_parse_145 rfl rfl ?_
        refine vr_if_eq dX6_parse_146 (tgt := 168) rfl (fun zd_35 => ?_) (fun zd_35 => ?_)
        · replace zh := zh.1 zd_35
          refine vr_aload_n dX6_parse_168 rfl rfl ?_
          refine vr_getI dX6_parse_169 fl_LitmusTester_Parser_9 (wC_142 zw) rfl ?_
          exact vr_iret dX6_parse_172 rfl zh
        · replace zh := zh.2 zd_35
          refine vr_aload_n dX6_parse_149 rfl rfl ?_
          refine vr_getR dX6_parse_150 fl_LitmusTester_Parser_35 (wC_142 zw) (Or.inl ⟨_, rfl⟩) (wR_142_0 zw) ?_
          obtain ⟨v38, s36, zw1, zf_37, zh⟩ := zh
          refine vc_V (As := []) (rest := []) dX6_parse_153 cV_LitmusTester_Parser_52 (wC_143 zw) rfl rfl (Nat.le_of_ble_eq_true rfl) (Nat.le_of_ble_eq_true rfl) (co_n zf_37 ?_)
          replace zw := zw1
          refine vr_getE dX6_parse_156 (i := 0) (by decide) tw_805 ?_
          obtain ⟨zg_39, zh⟩ := zh
          refine vr_acmp_eq dX6_parse_159 (tgt := 168) rfl zg_39 (by decide) (fun zd_40 => ?_) (fun zd_40 => ?_)
          · replace zh := zh.1 zd_40
            refine vr_aload_n dX6_parse_168 rfl rfl ?_
            refine vr_getI dX6_parse_169 fl_LitmusTester_Parser_9 (wC_142 zw) rfl ?_
            exact vr_iret dX6_parse_172 rfl zh
          · replace zh := zh.2 zd_40
            refine vr_aload_n dX6_parse_162 rfl rfl ?_
            refine vr_iconst dX6_parse_163 (v := (1 : Int32)) (by decide) ?_
            obtain ⟨v43, s41, zw1, zf_42, zh⟩ := zh
            refine vc_V (As := [.int (1 : Int32)]) (rest := []) dX6_parse_164 cV_LitmusTester_Parser_92 (wC_142 zw) rfl rfl (Nat.le_of_ble_eq_true rfl) (Nat.le_of_ble_eq_true rfl) (co_n zf_42 ?_)
            replace zw := zw1
            refine vr_pop dX6_parse_167 rfl ?_
            refine vr_aload_n dX6_parse_168 rfl rfl ?_
            refine vr_getI dX6_parse_169 fl_LitmusTester_Parser_9 (wC_142 zw) rfl ?_
            exact vr_iret dX6_parse_172 rfl zh
      · replace zh := zh.1 zd_16
        refine vr_aload_n dX6_parse_114 rfl rfl ?_
        refine vr_getR dX6_parse_115 fl_LitmusTester_Parser_35 (wC_142 zw) (Or.inl ⟨_, rfl⟩) (wR_142_0 zw) ?_
        obtain ⟨s17, zw1, zf_18, zh⟩ := zh
        refine vc_V (As := []) (rest := []) dX6_parse_118 cV_LitmusTester_Parser_75 (wC_143 zw) rfl rfl (Nat.le_of_ble_eq_true rfl) (Nat.le_of_ble_eq_true rfl) (co_v zf_18 ?_)
        replace zw := zw1
        refine vr_aload_n dX6_parse_121 rfl rfl ?_
        refine vr_iconst dX6_parse_122 (v := (0 : Int32)) (by decide) ?_
        obtain ⟨v21, s19, zw1, zf_20, zh⟩ := zh
        refine vc_V (As := [.int (0 : Int32)]) (rest := []) dX6_parse_123 cV_LitmusTester_Parser_78 (wC_142 zw) rfl rfl (Nat.le_of_ble_eq_true rfl) (Nat.le_of_ble_eq_true rfl) (co_n zf_20 ?_)
        replace zw := zw1
        refine vr_if_eq dX6_parse_126 (tgt := 143) rfl (fun zd_22 => ?_) (fun zd_22 => ?_)
        · replace zh := zh.1 zd_22
          refine vr_iconst dX6_parse_143 (v := (0 : Int32)) (by decide) ?_
          refine vr_istore_n dX6_parse_144 rfl (Nat.le_of_ble_eq_true rfl) (vv_eq (ls' := [(0, .ref 142), (2, .int (0 : Int32)), (3, .int l3)]) rfl ?_)
          refine vr_iload_n dX6_parse_145 rfl rfl ?_
          refine vr_if_eq dX6_parse_146 (tgt := 168) rfl (fun _ => ?_) (fun c => absurd (by decide) c)
          refine vr_aload_n dX6_parse_168 rfl rfl ?_
          refine vr_getI dX6_parse_169 fl_LitmusTester_Parser_9 (wC_142 zw) rfl ?_
          exact vr_iret dX6_parse_172 rfl zh
        · replace zh := zh.2 zd_22
          refine vr_aload_n dX6_parse_129 rfl rfl ?_
          refine vr_getE dX6_parse_130 (i := 15) (by decide) tw_658 ?_
          obtain ⟨v25, s23, zw1, zf_24, zh⟩ := zh
          refine vc_V (As := [.ref 15]) (rest := []) dX6_parse_133 cV_LitmusTester_Parser_85 (wC_142 zw) rfl rfl (Nat.le_of_ble_eq_true rfl) (Nat.le_of_ble_eq_true rfl) (co_n zf_24 ?_)
          replace zw := zw1
          refine vr_if_eq dX6_parse_136 (tgt := 143) rfl (fun zd_26 => ?_) (fun zd_26 => ?_)
          · replace zh := zh.1 zd_26
            refine vr_iconst dX6_parse_143 (v := (0 : Int32)) (by decide) ?_
            refine vr_istore_n dX6_parse_144 rfl (Nat.le_of_ble_eq_true rfl) (vv_eq (ls' := [(0, .ref 142), (2, .int (0 : Int32)), (3, .int l3)]) rfl ?_)
            refine vr_iload_n dX6_parse_145 rfl rfl ?_
            refine vr_if_eq dX6_parse_146 (tgt := 168) rfl (fun _ => ?_) (fun c => absurd (by decide) c)
            refine vr_aload_n dX6_parse_168 rfl rfl ?_
            refine vr_getI dX6_parse_169 fl_LitmusTester_Parser_9 (wC_142 zw) rfl ?_
            exact vr_iret dX6_parse_172 rfl zh
          · replace zh := zh.2 zd_26
            refine vr_iconst dX6_parse_139 (v := (1 : Int32)) (by decide) ?_
            refine vr_goto dX6_parse_140 (tgt := 144) rfl ?_
            refine vr_istore_n dX6_parse_144 rfl (Nat.le_of_ble_eq_true rfl) (vv_eq (ls' := [(0, .ref 142), (2, .int (1 : Int32)), (3, .int l3)]) rfl ?_)
            refine vr_iload_n dX6_parse_145 rfl rfl ?_
            refine vr_if_eq dX6_parse_146 (tgt := 168) rfl (fun c => absurd c (by decide)) (fun _ => ?_)
            refine vr_aload_n dX6_parse_149 rfl rfl ?_
            refine vr_getR dX6_parse_150 fl_LitmusTester_Parser_35 (wC_142 zw) (Or.inl ⟨_, rfl⟩) (wR_142_0 zw) ?_
            obtain ⟨v29, s27, zw1, zf_28, zh⟩ := zh
            refine vc_V (As := []) (rest := []) dX6_parse_153 cV_LitmusTester_Parser_52 (wC_143 zw) rfl rfl (Nat.le_of_ble_eq_true rfl) (Nat.le_of_ble_eq_true rfl) (co_n zf_28 ?_)
            replace zw := zw1
            refine vr_getE dX6_parse_156 (i := 0) (by decide) tw_805 ?_
            obtain ⟨zg_30, zh⟩ := zh
            refine vr_acmp_eq dX6_parse_159 (tgt := 168) rfl zg_30 (by decide) (fun zd_31 => ?_) (fun zd_31 => ?_)
            · replace zh := zh.1 zd_31
              refine vr_aload_n dX6_parse_168 rfl rfl ?_
              refine vr_getI dX6_parse_169 fl_LitmusTester_Parser_9 (wC_142 zw) rfl ?_
              exact vr_iret dX6_parse_172 rfl zh
            · replace zh := zh.2 zd_31
              refine vr_aload_n dX6_parse_162 rfl rfl ?_
              refine vr_iconst dX6_parse_163 (v := (1 : Int32)) (by decide) ?_
              obtain ⟨v34, s32, zw1, zf_33, zh⟩ := zh
              refine vc_V (As := [.int (1 : Int32)]) (rest := []) dX6_parse_164 cV_LitmusTester_Parser_92 (wC_142 zw) rfl rfl (Nat.le_of_ble_eq_true rfl) (Nat.le_of_ble_eq_true rfl) (co_n zf_33 ?_)
              replace zw := zw1
              refine vr_pop dX6_parse_167 rfl ?_
              refine vr_aload_n dX6_parse_168 rfl rfl ?_
              refine vr_getI dX6_parse_169 fl_LitmusTester_Parser_9 (wC_142 zw) rfl ?_
              exact vr_iret dX6_parse_172 rfl zh
  · replace zh := zh.2 zd_1
    refine vr_iload_n dX6_parse_69 rfl rfl ?_
    refine vr_if_eq dX6_parse_70 (tgt := 97) rfl (fun zd_44 => ?_) (fun zd_44 => ?_)
    · replace zh := zh.1 zd_44
      refine vr_iload_n dX6_parse_97 rfl rfl ?_
      refine vr_if_eq dX6_parse_98 (tgt := 145) rfl (fun zd_45 => ?_) (fun zd_45 => ?_)
      · replace zh := zh.1 zd_45
        refine vr_iload_n dX6_parse_145 rfl rfl ?_
        refine vr_if_eq dX6_parse_146 (tgt := 168) rfl (fun zd_46 => ?_) (fun zd_46 => ?_)
        · replace zh := zh.1 zd_46
          refine vr_aload_n dX6_parse_168 rfl rfl ?_
          refine vr_getI dX6_parse_169 fl_LitmusTester_Parser_9 (wC_142 zw) rfl ?_
          exact vr_iret dX6_parse_172 rfl zh
        · replace zh := zh.2 zd_46
          refine vr_aload_n dX6_parse_149 rfl rfl ?_
          refine vr_getR dX6_parse_150 fl_LitmusTester_Parser_35 (wC_142 zw) (Or.inl ⟨_, rfl⟩) (wR_142_0 zw) ?_
          obtain ⟨v49, s47, zw1, zf_48, zh⟩ := zh
          refine vc_V (As := []) (rest := []) dX6_parse_153 cV_LitmusTester_Parser_52 (wC_143 zw) rfl rfl (Nat.le_of_ble_eq_true rfl) (Nat.le_of_ble_eq_true rfl) (co_n zf_48 ?_)
          replace zw := zw1
          refine vr_getE dX6_parse_156 (i := 0) (by decide) tw_805 ?_
          obtain ⟨zg_50, zh⟩ := zh
          refine vr_acmp_eq dX6_parse_159 (tgt := 168) rfl zg_50 (by decide) (fun zd_51 => ?_) (fun zd_51 => ?_)
          · replace zh := zh.1 zd_51
            refine vr_aload_n dX6_parse_168 rfl rfl ?_
            refine vr_getI dX6_parse_169 fl_LitmusTester_Parser_9 (wC_142 zw) rfl ?_
            exact vr_iret dX6_parse_172 rfl zh
          · replace zh := zh.2 zd_51
            refine vr_aload_n dX6_parse_162 rfl rfl ?_
            refine vr_iconst dX6_parse_163 (v := (1 : Int32)) (by decide) ?_
            obtain ⟨v54, s52, zw1, zf_53, zh⟩ := zh
            refine vc_V (As := [.int (1 : Int32)]) (rest := []) dX6_parse_164 cV_LitmusTester_Parser_92 (wC_142 zw) rfl rfl (Nat.le_of_ble_eq_true rfl) (Nat.le_of_ble_eq_true rfl) (co_n zf_53 ?_)
            replace zw := zw1
            refine vr_pop dX6_parse_167 rfl ?_
            refine vr_aload_n dX6_parse_168 rfl rfl ?_
            refine vr_getI dX6_parse_169 fl_LitmusTester_Parser_9 (wC_142 zw) rfl ?_
            exact vr_iret dX6_parse_172 rfl zh
      · replace zh := zh.2 zd_45
        refine vr_aload_n dX6_parse_101 rfl rfl ?_
        refine vr_getR dX6_parse_102 fl_LitmusTester_Parser_35 (wC_142 zw) (Or.inl ⟨_, rfl⟩) (wR_142_0 zw) ?_
        obtain ⟨v57, s55, zw1, zf_56, zh⟩ := zh
        refine vc_V (As := []) (rest := []) dX6_parse_105 cV_LitmusTester_Parser_52 (wC_143 zw) rfl rfl (Nat.le_of_ble_eq_true rfl) (Nat.le_of_ble_eq_true rfl) (co_n zf_56 ?_)
        replace zw := zw1
        refine vr_getE dX6_parse_108 (i := 11) (by decide) tw_744 ?_
        obtain ⟨zg_58, zh⟩ := zh
        refine vr_acmp_ne dX6_parse_111 (tgt := 145) rfl zg_58 (by decide) (fun zd_59 => ?_) (fun zd_59 => ?_)
        · replace zh := zh.2 zd_59
          refine vr_iload_n dX6_parse_145 rfl rfl ?_
          refine vr_if_eq dX6_parse_146 (tgt := 168) rfl (fun zd_78 => ?_) (fun zd_78 => ?_)
          · replace zh := zh.1 zd_78
            refine vr_aload_n dX6_parse_168 rfl rfl ?_
            refine vr_getI dX6_parse_169 fl_LitmusTester_Parser_9 (wC_142 zw) rfl ?_
            exact vr_iret dX6_parse_172 rfl zh
          · replace zh := zh.2 zd_78
            refine vr_aload_n dX6_parse_149 rfl rfl ?_
            refine vr_getR dX6_parse_150 fl_LitmusTester_Parser_35 (wC_142 zw) (Or.inl ⟨_, rfl⟩) (wR_142_0 zw) ?_
            obtain ⟨v81, s79, zw1, zf_80, zh⟩ := zh
            refine vc_V (As := []) (rest := []) dX6_parse_153 cV_LitmusTester_Parser_52 (wC_143 zw) rfl rfl (Nat.le_of_ble_eq_true rfl) (Nat.le_of_ble_eq_true rfl) (co_n zf_80 ?_)
            replace zw := zw1
            refine vr_getE dX6_parse_156 (i := 0) (by decide) tw_805 ?_
            obtain ⟨zg_82, zh⟩ := zh
            refine vr_acmp_eq dX6_parse_159 (tgt := 168) rfl zg_82 (by decide) (fun zd_83 => ?_) (fun zd_83 => ?_)
            · replace zh := zh.1 zd_83
              refine vr_aload_n dX6_parse_168 rfl rfl ?_
              refine vr_getI dX6_parse_169 fl_LitmusTester_Parser_9 (wC_142 zw) rfl ?_
              exact vr_iret dX6_parse_172 rfl zh
            · replace zh := zh.2 zd_83
              refine vr_aload_n dX6_parse_162 rfl rfl ?_
              refine vr_iconst dX6_parse_163 (v := (1 : Int32)) (by decide) ?_
              obtain ⟨v86, s84, zw1, zf_85, zh⟩ := zh
              refine vc_V (As := [.int (1 : Int32)]) (rest := []) dX6_parse_164 cV_LitmusTester_Parser_92 (wC_142 zw) rfl rfl (Nat.le_of_ble_eq_true rfl) (Nat.le_of_ble_eq_true rfl) (co_n zf_85 ?_)
              replace zw := zw1
              refine vr_pop dX6_parse_167 rfl ?_
              refine vr_aload_n dX6_parse_168 rfl rfl ?_
              refine vr_getI dX6_parse_169 fl_LitmusTester_Parser_9 (wC_142 zw) rfl ?_
              exact vr_iret dX6_parse_172 rfl zh
        · replace zh := zh.1 zd_59
          refine vr_aload_n dX6_parse_114 rfl rfl ?_
          refine vr_getR dX6_parse_115 fl_LitmusTester_Parser_35 (wC_142 zw) (Or.inl ⟨_, rfl⟩) (wR_142_0 zw) ?_
          obtain ⟨s60, zw1, zf_61, zh⟩ := zh
          refine vc_V (As := []) (rest := []) dX6_parse_118 cV_LitmusTester_Parser_75 (wC_143 zw) rfl rfl (Nat.le_of_ble_eq_true rfl) (Nat.le_of_ble_eq_true rfl) (co_v zf_61 ?_)
          replace zw := zw1
          refine vr_aload_n dX6_parse_121 rfl rfl ?_
          refine vr_iconst dX6_parse_122 (v := (0 : Int32)) (by decide) ?_
          obtain ⟨v64, s62, zw1, zf_63, zh⟩ := zh
          refine vc_V (As := [.int (0 : Int32)]) (rest := []) dX6_parse_123 cV_LitmusTester_Parser_78 (wC_142 zw) rfl rfl (Nat.le_of_ble_eq_true rfl) (Nat.le_of_ble_eq_true rfl) (co_n zf_63 ?_)
          replace zw := zw1
          refine vr_if_eq dX6_parse_126 (tgt := 143) rfl (fun zd_65 => ?_) (fun zd_65 => ?_)
          · replace zh := zh.1 zd_65
            refine vr_iconst dX6_parse_143 (v := (0 : Int32)) (by decide) ?_
            refine vr_istore_n dX6_parse_144 rfl (Nat.le_of_ble_eq_true rfl) (vv_eq (ls' := [(0, .ref 142), (2, .int (0 : Int32)), (3, .int l3)]) rfl ?_)
            refine vr_iload_n dX6_parse_145 rfl rfl ?_
            refine vr_if_eq dX6_parse_146 (tgt := 168) rfl (fun _ => ?_) (fun c => absurd (by decide) c)
            refine vr_aload_n dX6_parse_168 rfl rfl ?_
            refine vr_getI dX6_parse_169 fl_LitmusTester_Parser_9 (wC_142 zw) rfl ?_
            exact vr_iret dX6_parse_172 rfl zh
          · replace zh := zh.2 zd_65
            refine vr_aload_n dX6_parse_129 rfl rfl ?_
            refine vr_getE dX6_parse_130 (i := 15) (by decide) tw_658 ?_
            obtain ⟨v68, s66, zw1, zf_67, zh⟩ := zh
            refine vc_V (As := [.ref 15]) (rest := []) dX6_parse_133 cV_LitmusTester_Parser_85 (wC_142 zw) rfl rfl (Nat.le_of_ble_eq_true rfl) (Nat.le_of_ble_eq_true rfl) (co_n zf_67 ?_)
            replace zw := zw1
            refine vr_if_eq dX6_parse_136 (tgt := 143) rfl (fun zd_69 => ?_) (fun zd_69 => ?_)
            · replace zh := zh.1 zd_69
              refine vr_iconst dX6_parse_143 (v := (0 : Int32)) (by decide) ?_
              refine vr_istore_n dX6_parse_144 rfl (Nat.le_of_ble_eq_true rfl) (vv_eq (ls' := [(0, .ref 142), (2, .int (0 : Int32)), (3, .int l3)]) rfl ?_)
              refine vr_iload_n dX6_parse_145 rfl rfl ?_
              refine vr_if_eq dX6_parse_146 (tgt := 168) rfl (fun _ => ?_) (fun c => absurd (by decide) c)
              refine vr_aload_n dX6_parse_168 rfl rfl ?_
              refine vr_getI dX6_parse_169 fl_LitmusTester_Parser_9 (wC_142 zw) rfl ?_
              exact vr_iret dX6_parse_172 rfl zh
            · replace zh := zh.2 zd_69
              refine vr_iconst dX6_parse_139 (v := (1 : Int32)) (by decide) ?_
              refine vr_goto dX6_parse_140 (tgt := 144) rfl ?_
              refine vr_istore_n dX6_parse_144 rfl (Nat.le_of_ble_eq_true rfl) (vv_eq (ls' := [(0, .ref 142), (2, .int (1 : Int32)), (3, .int l3)]) rfl ?_)
              refine vr_iload_n dX6_parse_145 rfl rfl ?_
              refine vr_if_eq dX6_parse_146 (tgt := 168) rfl (fun c => absurd c (by decide)) (fun _ => ?_)
              refine vr_aload_n dX6_parse_149 rfl rfl ?_
              refine vr_getR dX6_parse_150 fl_LitmusTester_Parser_35 (wC_142 zw) (Or.inl ⟨_, rfl⟩) (wR_142_0 zw) ?_
              obtain ⟨v72, s70, zw1, zf_71, zh⟩ := zh
              refine vc_V (As := []) (rest := []) dX6_parse_153 cV_LitmusTester_Parser_52 (wC_143 zw) rfl rfl (Nat.le_of_ble_eq_true rfl) (Nat.le_of_ble_eq_true rfl) (co_n zf_71 ?_)
              replace zw := zw1
              refine vr_getE dX6_parse_156 (i := 0) (by decide) tw_805 ?_
              obtain ⟨zg_73, zh⟩ := zh
              refine vr_acmp_eq dX6_parse_159 (tgt := 168) rfl zg_73 (by decide) (fun zd_74 => ?_) (fun zd_74 => ?_)
              · replace zh := zh.1 zd_74
                refine vr_aload_n dX6_parse_168 rfl rfl ?_
                refine vr_getI dX6_parse_169 fl_LitmusTester_Parser_9 (wC_142 zw) rfl ?_
                exact vr_iret dX6_parse_172 rfl zh
              · replace zh := zh.2 zd_74
                refine vr_aload_n dX6_parse_162 rfl rfl ?_
                refine vr_iconst dX6_parse_163 (v := (1 : Int32)) (by decide) ?_
                obtain ⟨v77, s75, zw1, zf_76, zh⟩ := zh
                refine vc_V (As := [.int (1 : Int32)]) (rest := []) dX6_parse_164 cV_LitmusTester_Parser_92 (wC_142 zw) rfl rfl (Nat.le_of_ble_eq_true rfl) (Nat.le_of_ble_eq_true rfl) (co_n zf_76 ?_)
                replace zw := zw1
                refine vr_pop dX6_parse_167 rfl ?_
                refine vr_aload_n dX6_parse_168 rfl rfl ?_
                refine vr_getI dX6_parse_169 fl_LitmusTester_Parser_9 (wC_142 zw) rfl ?_
                exact vr_iret dX6_parse_172 rfl zh
    · replace zh := zh.2 zd_44
      refine vr_aload_n dX6_parse_73 rfl rfl ?_
      refine vr_getR dX6_parse_74 fl_LitmusTester_Parser_35 (wC_142 zw) (Or.inl ⟨_, rfl⟩) (wR_142_0 zw) ?_
      obtain ⟨v89, s87, zw1, zf_88, zh⟩ := zh
      refine vc_V (As := []) (rest := []) dX6_parse_77 cV_LitmusTester_Parser_52 (wC_143 zw) rfl rfl (Nat.le_of_ble_eq_true rfl) (Nat.le_of_ble_eq_true rfl) (co_n zf_88 ?_)
      replace zw := zw1
      refine vr_getE dX6_parse_80 (i := 6) (by decide) tw_664 ?_
      obtain ⟨zg_90, zh⟩ := zh
      refine vr_acmp_ne dX6_parse_83 (tgt := 97) rfl zg_90 (by decide) (fun zd_91 => ?_) (fun zd_91 => ?_)
      · replace zh := zh.2 zd_91
        refine vr_iload_n dX6_parse_97 rfl rfl ?_
        refine vr_if_eq dX6_parse_98 (tgt := 145) rfl (fun zd_95 => ?_) (fun zd_95 => ?_)
        · replace zh := zh.1 zd_95
          refine vr_iload_n dX6_parse_145 rfl rfl ?_
          refine vr_if_eq dX6_parse_146 (tgt := 168) rfl (fun zd_96 => ?_) (fun zd_96 => ?_)
          · replace zh := zh.1 zd_96
            refine vr_aload_n dX6_parse_168 rfl rfl ?_
            refine vr_getI dX6_parse_169 fl_LitmusTester_Parser_9 (wC_142 zw) rfl ?_
            exact vr_iret dX6_parse_172 rfl zh
          · replace zh := zh.2 zd_96
            refine vr_aload_n dX6_parse_149 rfl rfl ?_
            refine vr_getR dX6_parse_150 fl_LitmusTester_Parser_35 (wC_142 zw) (Or.inl ⟨_, rfl⟩) (wR_142_0 zw) ?_
            obtain ⟨v99, s97, zw1, zf_98, zh⟩ := zh
            refine vc_V (As := []) (rest := []) dX6_parse_153 cV_LitmusTester_Parser_52 (wC_143 zw) rfl rfl (Nat.le_of_ble_eq_true rfl) (Nat.le_of_ble_eq_true rfl) (co_n zf_98 ?_)
            replace zw := zw1
            refine vr_getE dX6_parse_156 (i := 0) (by decide) tw_805 ?_
            obtain ⟨zg_100, zh⟩ := zh
            refine vr_acmp_eq dX6_parse_159 (tgt := 168) rfl zg_100 (by decide) (fun zd_101 => ?_) (fun zd_101 => ?_)
            · replace zh := zh.1 zd_101
              refine vr_aload_n dX6_parse_168 rfl rfl ?_
              refine vr_getI dX6_parse_169 fl_LitmusTester_Parser_9 (wC_142 zw) rfl ?_
              exact vr_iret dX6_parse_172 rfl zh
            · replace zh := zh.2 zd_101
              refine vr_aload_n dX6_parse_162 rfl rfl ?_
              refine vr_iconst dX6_parse_163 (v := (1 : Int32)) (by decide) ?_
              obtain ⟨v104, s102, zw1, zf_103, zh⟩ := zh
              refine vc_V (As := [.int (1 : Int32)]) (rest := []) dX6_parse_164 cV_LitmusTester_Parser_92 (wC_142 zw) rfl rfl (Nat.le_of_ble_eq_true rfl) (Nat.le_of_ble_eq_true rfl) (co_n zf_103 ?_)
              replace zw := zw1
              refine vr_pop dX6_parse_167 rfl ?_
              refine vr_aload_n dX6_parse_168 rfl rfl ?_
              refine vr_getI dX6_parse_169 fl_LitmusTester_Parser_9 (wC_142 zw) rfl ?_
              exact vr_iret dX6_parse_172 rfl zh
        · replace zh := zh.2 zd_95
          refine vr_aload_n dX6_parse_101 rfl rfl ?_
          refine vr_getR dX6_parse_102 fl_LitmusTester_Parser_35 (wC_142 zw) (Or.inl ⟨_, rfl⟩) (wR_142_0 zw) ?_
          obtain ⟨v107, s105, zw1, zf_106, zh⟩ := zh
          refine vc_V (As := []) (rest := []) dX6_parse_105 cV_LitmusTester_Parser_52 (wC_143 zw) rfl rfl (Nat.le_of_ble_eq_true rfl) (Nat.le_of_ble_eq_true rfl) (co_n zf_106 ?_)
          replace zw := zw1
          refine vr_getE dX6_parse_108 (i := 11) (by decide) tw_744 ?_
          obtain ⟨zg_108, zh⟩ := zh
          refine vr_acmp_ne dX6_parse_111 (tgt := 145) rfl zg_108 (by decide) (fun zd_109 => ?_) (fun zd_109 => ?_)
          · replace zh := zh.2 zd_109
            refine vr_iload_n dX6_parse_145 rfl rfl ?_
            refine vr_if_eq dX6_parse_146 (tgt := 168) rfl (fun zd_128 => ?_) (fun zd_128 => ?_)
            · replace zh := zh.1 zd_128
              refine vr_aload_n dX6_parse_168 rfl rfl ?_
              refine vr_getI dX6_parse_169 fl_LitmusTester_Parser_9 (wC_142 zw) rfl ?_
              exact vr_iret dX6_parse_172 rfl zh
            · replace zh := zh.2 zd_128
              refine vr_aload_n dX6_parse_149 rfl rfl ?_
              refine vr_getR dX6_parse_150 fl_LitmusTester_Parser_35 (wC_142 zw) (Or.inl ⟨_, rfl⟩) (wR_142_0 zw) ?_
              obtain ⟨v131, s129, zw1, zf_130, zh⟩ := zh
              refine vc_V (As := []) (rest := []) dX6_parse_153 cV_LitmusTester_Parser_52 (wC_143 zw) rfl rfl (Nat.le_of_ble_eq_true rfl) (Nat.le_of_ble_eq_true rfl) (co_n zf_130 ?_)
              replace zw := zw1
              refine vr_getE dX6_parse_156 (i := 0) (by decide) tw_805 ?_
              obtain ⟨zg_132, zh⟩ := zh
              refine vr_acmp_eq dX6_parse_159 (tgt := 168) rfl zg_132 (by decide) (fun zd_133 => ?_) (fun zd_133 => ?_)
              · replace zh := zh.1 zd_133
                refine vr_aload_n dX6_parse_168 rfl rfl ?_
                refine vr_getI dX6_parse_169 fl_LitmusTester_Parser_9 (wC_142 zw) rfl ?_
                exact vr_iret dX6_parse_172 rfl zh
              · replace zh := zh.2 zd_133
                refine vr_aload_n dX6_parse_162 rfl rfl ?_
                refine vr_iconst dX6_parse_163 (v := (1 : Int32)) (by decide) ?_
                obtain ⟨v136, s134, zw1, zf_135, zh⟩ := zh
                refine vc_V (As := [.int (1 : Int32)]) (rest := []) dX6_parse_164 cV_LitmusTester_Parser_92 (wC_142 zw) rfl rfl (Nat.le_of_ble_eq_true rfl) (Nat.le_of_ble_eq_true rfl) (co_n zf_135 ?_)
                replace zw := zw1
                refine vr_pop dX6_parse_167 rfl ?_
                refine vr_aload_n dX6_parse_168 rfl rfl ?_
                refine vr_getI dX6_parse_169 fl_LitmusTester_Parser_9 (wC_142 zw) rfl ?_
                exact vr_iret dX6_parse_172 rfl zh
          · replace zh := zh.1 zd_109
            refine vr_aload_n dX6_parse_114 rfl rfl ?_
            refine vr_getR dX6_parse_115 fl_LitmusTester_Parser_35 (wC_142 zw) (Or.inl ⟨_, rfl⟩) (wR_142_0 zw) ?_
            obtain ⟨s110, zw1, zf_111, zh⟩ := zh
            refine vc_V (As := []) (rest := []) dX6_parse_118 cV_LitmusTester_Parser_75 (wC_143 zw) rfl rfl (Nat.le_of_ble_eq_true rfl) (Nat.le_of_ble_eq_true rfl) (co_v zf_111 ?_)
            replace zw := zw1
            refine vr_aload_n dX6_parse_121 rfl rfl ?_
            refine vr_iconst dX6_parse_122 (v := (0 : Int32)) (by decide) ?_
            obtain ⟨v114, s112, zw1, zf_113, zh⟩ := zh
            refine vc_V (As := [.int (0 : Int32)]) (rest := []) dX6_parse_123 cV_LitmusTester_Parser_78 (wC_142 zw) rfl rfl (Nat.le_of_ble_eq_true rfl) (Nat.le_of_ble_eq_true rfl) (co_n zf_113 ?_)
            replace zw := zw1
            refine vr_if_eq dX6_parse_126 (tgt := 143) rfl (fun zd_115 => ?_) (fun zd_115 => ?_)
            · replace zh := zh.1 zd_115
              refine vr_iconst dX6_parse_143 (v := (0 : Int32)) (by decide) ?_
              refine vr_istore_n dX6_parse_144 rfl (Nat.le_of_ble_eq_true rfl) (vv_eq (ls' := [(0, .ref 142), (2, .int (0 : Int32)), (3, .int l3)]) rfl ?_)
              refine vr_iload_n dX6_parse_145 rfl rfl ?_
              refine vr_if_eq dX6_parse_146 (tgt := 168) rfl (fun _ => ?_) (fun c => absurd (by decide) c)
              refine vr_aload_n dX6_parse_168 rfl rfl ?_
              refine vr_getI dX6_parse_169 fl_LitmusTester_Parser_9 (wC_142 zw) rfl ?_
              exact vr_iret dX6_parse_172 rfl zh
            · replace zh := zh.2 zd_115
              refine vr_aload_n dX6_parse_129 rfl rfl ?_
              refine vr_getE dX6_parse_130 (i := 15) (by decide) tw_658 ?_
              obtain ⟨v118, s116, zw1, zf_117, zh⟩ := zh
              refine vc_V (As := [.ref 15]) (rest := []) dX6_parse_133 cV_LitmusTester_Parser_85 (wC_142 zw) rfl rfl (Nat.le_of_ble_eq_true rfl) (Nat.le_of_ble_eq_true rfl) (co_n zf_117 ?_)
              replace zw := zw1
              refine vr_if_eq dX6_parse_136 (tgt := 143) rfl (fun zd_119 => ?_) (fun zd_119 => ?_)
              · replace zh := zh.1 zd_119
                refine vr_iconst dX6_parse_143 (v := (0 : Int32)) (by decide) ?_
                refine vr_istore_n dX6_parse_144 rfl (Nat.le_of_ble_eq_true rfl) (vv_eq (ls' := [(0, .ref 142), (2, .int (0 : Int32)), (3, .int l3)]) rfl ?_)
                refine vr_iload_n dX6_parse_145 rfl rfl ?_
                refine vr_if_eq dX6_parse_146 (tgt := 168) rfl (fun _ => ?_) (fun c => absurd (by decide) c)
                refine vr_aload_n dX6_parse_168 rfl rfl ?_
                refine vr_getI dX6_parse_169 fl_LitmusTester_Parser_9 (wC_142 zw) rfl ?_
                exact vr_iret dX6_parse_172 rfl zh
              · replace zh := zh.2 zd_119
                refine vr_iconst dX6_parse_139 (v := (1 : Int32)) (by decide) ?_
                refine vr_goto dX6_parse_140 (tgt := 144) rfl ?_
                refine vr_istore_n dX6_parse_144 rfl (Nat.le_of_ble_eq_true rfl) (vv_eq (ls' := [(0, .ref 142), (2, .int (1 : Int32)), (3, .int l3)]) rfl ?_)
                refine vr_iload_n dX6_parse_145 rfl rfl ?_
                refine vr_if_eq dX6_parse_146 (tgt := 168) rfl (fun c => absurd c (by decide)) (fun _ => ?_)
                refine vr_aload_n dX6_parse_149 rfl rfl ?_
                refine vr_getR dX6_parse_150 fl_LitmusTester_Parser_35 (wC_142 zw) (Or.inl ⟨_, rfl⟩) (wR_142_0 zw) ?_
                obtain ⟨v122, s120, zw1, zf_121, zh⟩ := zh
                refine vc_V (As := []) (rest := []) dX6_parse_153 cV_LitmusTester_Parser_52 (wC_143 zw) rfl rfl (Nat.le_of_ble_eq_true rfl) (Nat.le_of_ble_eq_true rfl) (co_n zf_121 ?_)
                replace zw := zw1
                refine vr_getE dX6_parse_156 (i := 0) (by decide) tw_805 ?_
                obtain ⟨zg_123, zh⟩ := zh
                refine vr_acmp_eq dX6_parse_159 (tgt := 168) rfl zg_123 (by decide) (fun zd_124 => ?_) (fun zd_124 => ?_)
                · replace zh := zh.1 zd_124
                  refine vr_aload_n dX6_parse_168 rfl rfl ?_
                  refine vr_getI dX6_parse_169 fl_LitmusTester_Parser_9 (wC_142 zw) rfl ?_
                  exact vr_iret dX6_parse_172 rfl zh
                · replace zh := zh.2 zd_124
                  refine vr_aload_n dX6_parse_162 rfl rfl ?_
                  refine vr_iconst dX6_parse_163 (v := (1 : Int32)) (by decide) ?_
                  obtain ⟨v127, s125, zw1, zf_126, zh⟩ := zh
                  refine vc_V (As := [.int (1 : Int32)]) (rest := []) dX6_parse_164 cV_LitmusTester_Parser_92 (wC_142 zw) rfl rfl (Nat.le_of_ble_eq_true rfl) (Nat.le_of_ble_eq_true rfl) (co_n zf_126 ?_)
                  replace zw := zw1
                  refine vr_pop dX6_parse_167 rfl ?_
                  refine vr_aload_n dX6_parse_168 rfl rfl ?_
                  refine vr_getI dX6_parse_169 fl_LitmusTester_Parser_9 (wC_142 zw) rfl ?_
                  exact vr_iret dX6_parse_172 rfl zh
      · replace zh := zh.1 zd_91
        refine vr_aload_n dX6_parse_86 rfl rfl ?_
        obtain ⟨v94, s92, zw1, zf_93, zh⟩ := zh
        refine vc_V (As := []) (rest := []) dX6_parse_87 cV_LitmusTester_Parser_69 (wC_142 zw) rfl rfl (Nat.le_of_ble_eq_true rfl) (Nat.le_of_ble_eq_true rfl) (co_n zf_93 ?_)
        replace zw := zw1
        refine vr_istore_n dX6_parse_90 rfl (Nat.le_of_ble_eq_true rfl) (vv_eq (ls' := [(0, .ref 142), (2, .int v94), (3, .int l3)]) rfl ?_)
        refine vr_iinc dX6_parse_91 (x := l3) (v := (l3 + 1)) rfl (ii_ (by decide)) (Nat.le_of_ble_eq_true rfl) (vv_eq (ls' := [(0, .ref 142), (2, .int v94), (3, .int (l3 + 1))]) rfl ?_)
        refine vr_goto dX6_parse_94 (tgt := 64) rfl ?_
        exact vv_sub (ls' := [(0, .ref 142), (2, .int v94), (3, .int (l3 + 1))]) ⟨rfl, rfl, rfl, trivial⟩ zh
def p_X6_fail_0 (γ : ga_T) (l1 : Int32) (σ : st_T) (Q : rs_T → st_T → Prop) : Prop :=
  ∃ (v3 : Int32) (s1 : st_T), Wd s1 ∧ fn_ γ m_X10_start 0 [.ref 143] σ (.int v3) s1 ∧
  Q (.inl (some (.int (0 : Int32)))) (pt_I s1 142 2 (((8 : Int32) * v3) + l1))
set_option maxRecDepth 10000 in
theorem g_X6_fail_0 {γ : ga_T} {l1 : Int32} {σ : st_T} {Q : rs_T → st_T → Prop} (zw : Wd σ) (zh : p_X6_fail_0 γ l1 σ Q) : vv_ γ m_X6_fail 1 0 [(0, .ref 142), (1, .int l1)] [] σ Q := by
  unfold p_X6_fail_0 at zh
  refine vr_aload_n dX6_fail_0 rfl rfl ?_
  refine vr_bipush dX6_fail_1 (v := (8 : Int32)) (by decide) ?_
  refine vr_aload_n dX6_fail_3 rfl rfl ?_
  refine vr_getR dX6_fail_4 fl_LitmusTester_Parser_35 (wC_142 zw) (Or.inl ⟨_, rfl⟩) (wR_142_0 zw) ?_
  obtain ⟨v3, s1, zw1, zf_2, zh⟩ := zh
  refine vc_V (As := []) (rest := [.int (8 : Int32), .ref 142]) dX6_fail_7 cV_LitmusTester_Parser_95 (wC_143 zw) rfl rfl (Nat.le_of_ble_eq_true rfl) (Nat.le_of_ble_eq_true rfl) (co_n zf_2 ?_)
  replace zw := zw1
  refine vr_imul dX6_fail_10 ?_
  refine vr_iload_n dX6_fail_11 rfl rfl ?_
  refine vr_iadd dX6_fail_12 ?_
  refine vr_putI dX6_fail_13 fl_LitmusTester_Parser_9 (wC_142 zw) rfl (fz_6_2) ?_
  refine vr_iconst dX6_fail_16 (v := (0 : Int32)) (by decide) ?_
  exact vr_zret dX6_fail_17 rfl (Or.inl rfl) zh
theorem e_X6_fail {γ : ga_T} {l1 : Int32} {σ : st_T} {Q : rs_T → st_T → Prop} (zw : Wd σ) (zh : p_X6_fail_0 γ l1 σ Q) : sp_ γ m_X6_fail 1 [.ref 142, .int l1] σ Q := sp_of (pl_X6_fail) rfl (Nat.le_of_ble_eq_true rfl) (g_X6_fail_0 zw zh)
def p_X6_expect_0 (γ : ga_T) (l1 : Nat) (σ : st_T) (Q : rs_T → st_T → Prop) : Prop :=
  ∃ (v3 : Nat) (s1 : st_T), Wd s1 ∧ fn_ γ m_X10_sign 0 [.ref 143] σ (.ref v3) s1 ∧
  v3 < 21 ∧
  l1 < 21 ∧
  (v3 = l1 →
    ∃ s7, Wd s7 ∧ fw_ γ m_X10_advance 1 [.ref 143] s1 s7 ∧
    Q (.inl (some (.int (1 : Int32)))) s7
  ) ∧ (¬ v3 = l1 →
    ∃ (v11 : Int32) (s9 : st_T), Wd s9 ∧ fn_ γ m_X6_fail 1 [.ref 142, .int (1 : Int32)] s1 (.int v11) s9 ∧
    (v11 = 0 ∨ v11 = 1) ∧
    Q (.inl (some (.int v11))) s9
  )
set_option maxRecDepth 10000 in
theorem g_X6_expect_0 {γ : ga_T} {l1 : Nat} {σ : st_T} {Q : rs_T → st_T → Prop} (zw : Wd σ) (zh : p_X6_expect_0 γ l1 σ Q) : vv_ γ m_X6_expect 2 0 [(0, .ref 142), (1, .ref l1)] [] σ Q := by
  unfold p_X6_expect_0 at zh
  refine vr_aload_n dX6_expect_0 rfl rfl ?_
  refine vr_getR dX6_expect_1 fl_LitmusTester_Parser_35 (wC_142 zw) (Or.inl ⟨_, rfl⟩) (wR_142_0 zw) ?_
  obtain ⟨v3, s1, zw1, zf_2, zh⟩ := zh
  refine vc_V (As := []) (rest := []) dX6_expect_4 cV_LitmusTester_Parser_52 (wC_143 zw) rfl rfl (Nat.le_of_ble_eq_true rfl) (Nat.le_of_ble_eq_true rfl) (co_n zf_2 ?_)
  replace zw := zw1
  refine vr_aload_n dX6_expect_7 rfl rfl ?_
  obtain ⟨zg_4, zh⟩ := zh
  obtain ⟨zg_5, zh⟩ := zh
  refine vr_acmp_eq dX6_expect_8 (tgt := 17) rfl zg_4 zg_5 (fun zd_6 => ?_) (fun zd_6 => ?_)
  · replace zh := zh.1 zd_6
    refine vr_aload_n dX6_expect_17 rfl rfl ?_
    refine vr_getR dX6_expect_18 fl_LitmusTester_Parser_35 (wC_142 zw) (Or.inl ⟨_, rfl⟩) (wR_142_0 zw) ?_
    obtain ⟨s7, zw1, zf_8, zh⟩ := zh
    refine vc_V (As := []) (rest := []) dX6_expect_21 cV_LitmusTester_Parser_75 (wC_143 zw) rfl rfl (Nat.le_of_ble_eq_true rfl) (Nat.le_of_ble_eq_true rfl) (co_v zf_8 ?_)
    replace zw := zw1
    refine vr_iconst dX6_expect_24 (v := (1 : Int32)) (by decide) ?_
    exact vr_zret dX6_expect_25 rfl (Or.inr rfl) zh
  · replace zh := zh.2 zd_6
    refine vr_aload_n dX6_expect_11 rfl rfl ?_
    refine vr_iconst dX6_expect_12 (v := (1 : Int32)) (by decide) ?_
    obtain ⟨v11, s9, zw1, zf_10, zh⟩ := zh
    refine vc_V (As := [.int (1 : Int32)]) (rest := []) dX6_expect_13 cV_LitmusTester_Parser_92 (wC_142 zw) rfl rfl (Nat.le_of_ble_eq_true rfl) (Nat.le_of_ble_eq_true rfl) (co_n zf_10 ?_)
    replace zw := zw1
    obtain ⟨zb_12, zh⟩ := zh
    exact vr_zret dX6_expect_16 rfl zb_12 zh
theorem e_X6_expect {γ : ga_T} {l1 : Nat} {σ : st_T} {Q : rs_T → st_T → Prop} (zw : Wd σ) (zh : p_X6_expect_0 γ l1 σ Q) : sp_ γ m_X6_expect 2 [.ref 142, .ref l1] σ Q := sp_of (pl_X6_expect) rfl (Nat.le_of_ble_eq_true rfl) (g_X6_expect_0 zw zh)
def p_X6_readDeclaration_0 (γ : ga_T) (σ : st_T) (Q : rs_T → st_T → Prop) : Prop :=
  ∃ (v3 : Int32) (s1 : st_T), Wd s1 ∧ fn_ γ m_X7_locations 0 [.ref 137] σ (.int v3) s1 ∧
  (v3 < (3 : Int32) →
    ∃ s5, Wd s5 ∧ fw_ γ m_X10_advance 1 [.ref 143] s1 s5 ∧
    ∃ (v9 : Nat) (s7 : st_T), Wd s7 ∧ fn_ γ m_X10_sign 0 [.ref 143] s5 (.ref v9) s7 ∧
    v9 < 21 ∧
    (v9 = 3 →
      ∃ (v14 : Int64) (s12 : st_T), Wd s12 ∧ fn_ γ m_X10_name 0 [.ref 143] s7 (.long v14) s12 ∧
      ∃ (v17 : Int32) (s15 : st_T), Wd s15 ∧ fn_ γ m_X7_locationNamed 0 [.ref 137, .long v14] s12 (.int v17) s15 ∧
      (v17 = (-1 : Int32) →
        ∃ s19, Wd s19 ∧ fw_ γ m_X10_advance 1 [.ref 143] s15 s19 ∧
        ∃ (v23 : Int32) (s21 : st_T), Wd s21 ∧ fn_ γ m_X6_isValue 2 [.ref 142] s19 (.int v23) s21 ∧
        (v23 = (0 : Int32) →
          Q (.inl (some (.int (0 : Int32)))) s21
        ) ∧ (¬ v23 = (0 : Int32) →
          ∃ (v27 : Int32) (s25 : st_T), Wd s25 ∧ fn_ γ m_X10_number 1 [.ref 143] s21 (.int v27) s25 ∧
          ∃ s28, Wd s28 ∧ fw_ γ m_X7_addLocation 0 [.ref 137, .long v14, .int v27] s25 s28 ∧
          ∃ s30, Wd s30 ∧ fw_ γ m_X10_advance 1 [.ref 143] s28 s30 ∧
          ∃ (v34 : Int32) (s32 : st_T), Wd s32 ∧ fn_ γ m_X6_expect 2 [.ref 142, .ref 15] s30 (.int v34) s32 ∧
          (v34 = 0 ∨ v34 = 1) ∧
          Q (.inl (some (.int v34))) s32
        )
      ) ∧ (¬ v17 = (-1 : Int32) →
        ∃ (v38 : Int32) (s36 : st_T), Wd s36 ∧ fn_ γ m_X6_fail 1 [.ref 142, .int (3 : Int32)] s15 (.int v38) s36 ∧
        (v38 = 0 ∨ v38 = 1) ∧
        Q (.inl (some (.int v38))) s36
      )
    ) ∧ (¬ v9 = 3 →
      ∃ (v42 : Int32) (s40 : st_T), Wd s40 ∧ fn_ γ m_X6_fail 1 [.ref 142, .int (1 : Int32)] s7 (.int v42) s40 ∧
      (v42 = 0 ∨ v42 = 1) ∧
      Q (.inl (some (.int v42))) s40
    )
  ) ∧ (¬ v3 < (3 : Int32) →
    ∃ (v46 : Int32) (s44 : st_T), Wd s44 ∧ fn_ γ m_X6_fail 1 [.ref 142, .int (5 : Int32)] s1 (.int v46) s44 ∧
    (v46 = 0 ∨ v46 = 1) ∧
    Q (.inl (some (.int v46))) s44
  )
set_option maxRecDepth 10000 in
theorem g_X6_readDeclaration_0 {γ : ga_T} {σ : st_T} {Q : rs_T → st_T → Prop} (zw : Wd σ) (zh : p_X6_readDeclaration_0 γ σ Q) : vv_ γ m_X6_readDeclaration 3 0 [(0, .ref 142)] [] σ Q := by
  unfold p_X6_readDeclaration_0 at zh
  refine vr_aload_n dX6_readDeclaration_0 rfl rfl ?_
  refine vr_getR dX6_readDeclaration_1 fl_LitmusTester_Parser_39 (wC_142 zw) (Or.inl ⟨_, rfl⟩) (wR_142_1 zw) ?_
  obtain ⟨v3, s1, zw1, zf_2, zh⟩ := zh
  refine vc_V (As := []) (rest := []) dX6_readDeclaration_4 cV_LitmusTester_Parser_99 (wC_137 zw) rfl rfl (Nat.le_of_ble_eq_true rfl) (Nat.le_of_ble_eq_true rfl) (co_n zf_2 ?_)
  replace zw := zw1
  refine vr_iconst dX6_readDeclaration_7 (v := (3 : Int32)) (by decide) ?_
  refine vr_ic_lt dX6_readDeclaration_8 (tgt := 17) rfl (fun zd_4 => ?_) (fun zd_4 => ?_)
  · replace zh := zh.1 zd_4
    refine vr_aload_n dX6_readDeclaration_17 rfl rfl ?_
    refine vr_getR dX6_readDeclaration_18 fl_LitmusTester_Parser_35 (wC_142 zw) (Or.inl ⟨_, rfl⟩) (wR_142_0 zw) ?_
    obtain ⟨s5, zw1, zf_6, zh⟩ := zh
    refine vc_V (As := []) (rest := []) dX6_readDeclaration_21 cV_LitmusTester_Parser_75 (wC_143 zw) rfl rfl (Nat.le_of_ble_eq_true rfl) (Nat.le_of_ble_eq_true rfl) (co_v zf_6 ?_)
    replace zw := zw1
    refine vr_aload_n dX6_readDeclaration_24 rfl rfl ?_
    refine vr_getR dX6_readDeclaration_25 fl_LitmusTester_Parser_35 (wC_142 zw) (Or.inl ⟨_, rfl⟩) (wR_142_0 zw) ?_
    obtain ⟨v9, s7, zw1, zf_8, zh⟩ := zh
    refine vc_V (As := []) (rest := []) dX6_readDeclaration_28 cV_LitmusTester_Parser_52 (wC_143 zw) rfl rfl (Nat.le_of_ble_eq_true rfl) (Nat.le_of_ble_eq_true rfl) (co_n zf_8 ?_)
    replace zw := zw1
    refine vr_getE dX6_readDeclaration_31 (i := 3) (by decide) tw_635 ?_
    obtain ⟨zg_10, zh⟩ := zh
    refine vr_acmp_eq dX6_readDeclaration_34 (tgt := 43) rfl zg_10 (by decide) (fun zd_11 => ?_) (fun zd_11 => ?_)
    · replace zh := zh.1 zd_11
      refine vr_aload_n dX6_readDeclaration_43 rfl rfl ?_
      refine vr_getR dX6_readDeclaration_44 fl_LitmusTester_Parser_35 (wC_142 zw) (Or.inl ⟨_, rfl⟩) (wR_142_0 zw) ?_
      obtain ⟨v14, s12, zw1, zf_13, zh⟩ := zh
      refine vc_V (As := []) (rest := []) dX6_readDeclaration_47 cV_LitmusTester_Parser_105 (wC_143 zw) rfl rfl (Nat.le_of_ble_eq_true rfl) (Nat.le_of_ble_eq_true rfl) (co_n zf_13 ?_)
      replace zw := zw1
      refine vr_lstore_n dX6_readDeclaration_50 rfl (Nat.le_of_ble_eq_true rfl) (vv_eq (ls' := [(0, .ref 142), (1, .long v14)]) rfl ?_)
      refine vr_aload_n dX6_readDeclaration_51 rfl rfl ?_
      refine vr_getR dX6_readDeclaration_52 fl_LitmusTester_Parser_39 (wC_142 zw) (Or.inl ⟨_, rfl⟩) (wR_142_1 zw) ?_
      refine vr_lload_n dX6_readDeclaration_55 rfl rfl ?_
      obtain ⟨v17, s15, zw1, zf_16, zh⟩ := zh
      refine vc_V (As := [.long v14]) (rest := []) dX6_readDeclaration_56 cV_LitmusTester_Parser_109 (wC_137 zw) rfl rfl (Nat.le_of_ble_eq_true rfl) (Nat.le_of_ble_eq_true rfl) (co_n zf_16 ?_)
      replace zw := zw1
      refine vr_iconst dX6_readDeclaration_59 (v := (-1 : Int32)) (by decide) ?_
      refine vr_ic_eq dX6_readDeclaration_60 (tgt := 69) rfl (fun zd_18 => ?_) (fun zd_18 => ?_)
      · replace zh := zh.1 zd_18
        refine vr_aload_n dX6_readDeclaration_69 rfl rfl ?_
        refine vr_getR dX6_readDeclaration_70 fl_LitmusTester_Parser_35 (wC_142 zw) (Or.inl ⟨_, rfl⟩) (wR_142_0 zw) ?_
        obtain ⟨s19, zw1, zf_20, zh⟩ := zh
        refine vc_V (As := []) (rest := []) dX6_readDeclaration_73 cV_LitmusTester_Parser_75 (wC_143 zw) rfl rfl (Nat.le_of_ble_eq_true rfl) (Nat.le_of_ble_eq_true rfl) (co_v zf_20 ?_)
        replace zw := zw1
        refine vr_aload_n dX6_readDeclaration_76 rfl rfl ?_
        obtain ⟨v23, s21, zw1, zf_22, zh⟩ := zh
        refine vc_V (As := []) (rest := []) dX6_readDeclaration_77 cV_LitmusTester_Parser_113 (wC_142 zw) rfl rfl (Nat.le_of_ble_eq_true rfl) (Nat.le_of_ble_eq_true rfl) (co_n zf_22 ?_)
        replace zw := zw1
        refine vr_if_ne dX6_readDeclaration_80 (tgt := 85) rfl (fun zd_24 => ?_) (fun zd_24 => ?_)
        · replace zh := zh.2 zd_24
          refine vr_aload_n dX6_readDeclaration_85 rfl rfl ?_
          refine vr_getR dX6_readDeclaration_86 fl_LitmusTester_Parser_39 (wC_142 zw) (Or.inl ⟨_, rfl⟩) (wR_142_1 zw) ?_
          refine vr_lload_n dX6_readDeclaration_89 rfl rfl ?_
          refine vr_aload_n dX6_readDeclaration_90 rfl rfl ?_
          refine vr_getR dX6_readDeclaration_91 fl_LitmusTester_Parser_35 (wC_142 zw) (Or.inl ⟨_, rfl⟩) (wR_142_0 zw) ?_
          obtain ⟨v27, s25, zw1, zf_26, zh⟩ := zh
          refine vc_V (As := []) (rest := [.long v14, .ref 137]) dX6_readDeclaration_94 cV_LitmusTester_Parser_116 (wC_143 zw) rfl rfl (Nat.le_of_ble_eq_true rfl) (Nat.le_of_ble_eq_true rfl) (co_n zf_26 ?_)
          replace zw := zw1
          obtain ⟨s28, zw1, zf_29, zh⟩ := zh
          refine vc_V (As := [.long v14, .int v27]) (rest := []) dX6_readDeclaration_97 cV_LitmusTester_Parser_119 (wC_137 zw) rfl rfl (Nat.le_of_ble_eq_true rfl) (Nat.le_of_ble_eq_true rfl) (co_v zf_29 ?_)
          replace zw := zw1
          refine vr_aload_n dX6_readDeclaration_100 rfl rfl ?_
          refine vr_getR dX6_readDeclaration_101 fl_LitmusTester_Parser_35 (wC_142 zw) (Or.inl ⟨_, rfl⟩) (wR_142_0 zw) ?_
          obtain ⟨s30, zw1, zf_31, zh⟩ := zh
          refine vc_V (As := []) (rest := []) dX6_readDeclaration_104 cV_LitmusTester_Parser_75 (wC_143 zw) rfl rfl (Nat.le_of_ble_eq_true rfl) (Nat.le_of_ble_eq_true rfl) (co_v zf_31 ?_)
          replace zw := zw1
          refine vr_aload_n dX6_readDeclaration_107 rfl rfl ?_
          refine vr_getE dX6_readDeclaration_108 (i := 15) (by decide) tw_658 ?_
          obtain ⟨v34, s32, zw1, zf_33, zh⟩ := zh
          refine vc_V (As := [.ref 15]) (rest := []) dX6_readDeclaration_111 cV_LitmusTester_Parser_85 (wC_142 zw) rfl rfl (Nat.le_of_ble_eq_true rfl) (Nat.le_of_ble_eq_true rfl) (co_n zf_33 ?_)
          replace zw := zw1
          obtain ⟨zb_35, zh⟩ := zh
          exact vr_zret dX6_readDeclaration_114 rfl zb_35 zh
        · replace zh := zh.1 zd_24
          refine vr_iconst dX6_readDeclaration_83 (v := (0 : Int32)) (by decide) ?_
          exact vr_zret dX6_readDeclaration_84 rfl (Or.inl rfl) zh
      · replace zh := zh.2 zd_18
        refine vr_aload_n dX6_readDeclaration_63 rfl rfl ?_
        refine vr_iconst dX6_readDeclaration_64 (v := (3 : Int32)) (by decide) ?_
        obtain ⟨v38, s36, zw1, zf_37, zh⟩ := zh
        refine vc_V (As := [.int (3 : Int32)]) (rest := []) dX6_readDeclaration_65 cV_LitmusTester_Parser_92 (wC_142 zw) rfl rfl (Nat.le_of_ble_eq_true rfl) (Nat.le_of_ble_eq_true rfl) (co_n zf_37 ?_)
        replace zw := zw1
        obtain ⟨zb_39, zh⟩ := zh
        exact vr_zret dX6_readDeclaration_68 rfl zb_39 zh
    · replace zh := zh.2 zd_11
      refine vr_aload_n dX6_readDeclaration_37 rfl rfl ?_
      refine vr_iconst dX6_readDeclaration_38 (v := (1 : Int32)) (by decide) ?_
      obtain ⟨v42, s40, zw1, zf_41, zh⟩ := zh
      refine vc_V (As := [.int (1 : Int32)]) (rest := []) dX6_readDeclaration_39 cV_LitmusTester_Parser_92 (wC_142 zw) rfl rfl (Nat.le_of_ble_eq_true rfl) (Nat.le_of_ble_eq_true rfl) (co_n zf_41 ?_)
      replace zw := zw1
      obtain ⟨zb_43, zh⟩ := zh
      exact vr_zret dX6_readDeclaration_42 rfl zb_43 zh
  · replace zh := zh.2 zd_4
    refine vr_aload_n dX6_readDeclaration_11 rfl rfl ?_
    refine vr_iconst dX6_readDeclaration_12 (v := (5 : Int32)) (by decide) ?_
    obtain ⟨v46, s44, zw1, zf_45, zh⟩ := zh
    refine vc_V (As := [.int (5 : Int32)]) (rest := []) dX6_readDeclaration_13 cV_LitmusTester_Parser_92 (wC_142 zw) rfl rfl (Nat.le_of_ble_eq_true rfl) (Nat.le_of_ble_eq_true rfl) (co_n zf_45 ?_)
    replace zw := zw1
    obtain ⟨zb_47, zh⟩ := zh
    exact vr_zret dX6_readDeclaration_16 rfl zb_47 zh
theorem e_X6_readDeclaration {γ : ga_T} {σ : st_T} {Q : rs_T → st_T → Prop} (zw : Wd σ) (zh : p_X6_readDeclaration_0 γ σ Q) : sp_ γ m_X6_readDeclaration 3 [.ref 142] σ Q := sp_of (pl_X6_readDeclaration) rfl (Nat.le_of_ble_eq_true rfl) (g_X6_readDeclaration_0 zw zh)
def p_X6_isValue_0 (γ : ga_T) (σ : st_T) (Q : rs_T → st_T → Prop) : Prop :=
  ∃ (v3 : Nat) (s1 : st_T), Wd s1 ∧ fn_ γ m_X10_sign 0 [.ref 143] σ (.ref v3) s1 ∧
  v3 < 21 ∧
  (v3 = 4 →
    ∃ (v8 : Int32) (s6 : st_T), Wd s6 ∧ fn_ γ m_X10_number 1 [.ref 143] s1 (.int v8) s6 ∧
    (v8 ≤ (3 : Int32) →
      Q (.inl (some (.int (1 : Int32)))) s6
    ) ∧ (¬ v8 ≤ (3 : Int32) →
      ∃ (v12 : Int32) (s10 : st_T), Wd s10 ∧ fn_ γ m_X6_fail 1 [.ref 142, .int (2 : Int32)] s6 (.int v12) s10 ∧
      (v12 = (0 : Int32) →
        Q (.inl (some (.int (0 : Int32)))) s10
      ) ∧ (¬ v12 = (0 : Int32) →
        Q (.inl (some (.int (1 : Int32)))) s10
      )
    )
  ) ∧ (¬ v3 = 4 →
    ∃ (v16 : Int32) (s14 : st_T), Wd s14 ∧ fn_ γ m_X6_fail 1 [.ref 142, .int (1 : Int32)] s1 (.int v16) s14 ∧
    (v16 = 0 ∨ v16 = 1) ∧
    Q (.inl (some (.int v16))) s14
  )
set_option maxRecDepth 10000 in
theorem g_X6_isValue_0 {γ : ga_T} {σ : st_T} {Q : rs_T → st_T → Prop} (zw : Wd σ) (zh : p_X6_isValue_0 γ σ Q) : vv_ γ m_X6_isValue 2 0 [(0, .ref 142)] [] σ Q := by
  unfold p_X6_isValue_0 at zh
  refine vr_aload_n dX6_isValue_0 rfl rfl ?_
  refine vr_getR dX6_isValue_1 fl_LitmusTester_Parser_35 (wC_142 zw) (Or.inl ⟨_, rfl⟩) (wR_142_0 zw) ?_
  obtain ⟨v3, s1, zw1, zf_2, zh⟩ := zh
  refine vc_V (As := []) (rest := []) dX6_isValue_4 cV_LitmusTester_Parser_52 (wC_143 zw) rfl rfl (Nat.le_of_ble_eq_true rfl) (Nat.le_of_ble_eq_true rfl) (co_n zf_2 ?_)
  replace zw := zw1
  refine vr_getE dX6_isValue_7 (i := 4) (by decide) tw_648 ?_
  obtain ⟨zg_4, zh⟩ := zh
  refine vr_acmp_eq dX6_isValue_10 (tgt := 19) rfl zg_4 (by decide) (fun zd_5 => ?_) (fun zd_5 => ?_)
  · replace zh := zh.1 zd_5
    refine vr_aload_n dX6_isValue_19 rfl rfl ?_
    refine vr_getR dX6_isValue_20 fl_LitmusTester_Parser_35 (wC_142 zw) (Or.inl ⟨_, rfl⟩) (wR_142_0 zw) ?_
    obtain ⟨v8, s6, zw1, zf_7, zh⟩ := zh
    refine vc_V (As := []) (rest := []) dX6_isValue_23 cV_LitmusTester_Parser_116 (wC_143 zw) rfl rfl (Nat.le_of_ble_eq_true rfl) (Nat.le_of_ble_eq_true rfl) (co_n zf_7 ?_)
    replace zw := zw1
    refine vr_iconst dX6_isValue_26 (v := (3 : Int32)) (by decide) ?_
    refine vr_ic_le dX6_isValue_27 (tgt := 38) rfl (fun zd_9 => ?_) (fun zd_9 => ?_)
    · replace zh := zh.1 zd_9
      refine vr_iconst dX6_isValue_38 (v := (1 : Int32)) (by decide) ?_
      refine vr_goto dX6_isValue_39 (tgt := 43) rfl ?_
      exact vr_zret dX6_isValue_43 rfl (Or.inr rfl) zh
    · replace zh := zh.2 zd_9
      refine vr_aload_n dX6_isValue_30 rfl rfl ?_
      refine vr_iconst dX6_isValue_31 (v := (2 : Int32)) (by decide) ?_
      obtain ⟨v12, s10, zw1, zf_11, zh⟩ := zh
      refine vc_V (As := [.int (2 : Int32)]) (rest := []) dX6_isValue_32 cV_LitmusTester_Parser_92 (wC_142 zw) rfl rfl (Nat.le_of_ble_eq_true rfl) (Nat.le_of_ble_eq_true rfl) (co_n zf_11 ?_)
      replace zw := zw1
      refine vr_if_eq dX6_isValue_35 (tgt := 42) rfl (fun zd_13 => ?_) (fun zd_13 => ?_)
      · replace zh := zh.1 zd_13
        refine vr_iconst dX6_isValue_42 (v := (0 : Int32)) (by decide) ?_
        exact vr_zret dX6_isValue_43 rfl (Or.inl rfl) zh
      · replace zh := zh.2 zd_13
        refine vr_iconst dX6_isValue_38 (v := (1 : Int32)) (by decide) ?_
        refine vr_goto dX6_isValue_39 (tgt := 43) rfl ?_
        exact vr_zret dX6_isValue_43 rfl (Or.inr rfl) zh
  · replace zh := zh.2 zd_5
    refine vr_aload_n dX6_isValue_13 rfl rfl ?_
    refine vr_iconst dX6_isValue_14 (v := (1 : Int32)) (by decide) ?_
    obtain ⟨v16, s14, zw1, zf_15, zh⟩ := zh
    refine vc_V (As := [.int (1 : Int32)]) (rest := []) dX6_isValue_15 cV_LitmusTester_Parser_92 (wC_142 zw) rfl rfl (Nat.le_of_ble_eq_true rfl) (Nat.le_of_ble_eq_true rfl) (co_n zf_15 ?_)
    replace zw := zw1
    obtain ⟨zb_17, zh⟩ := zh
    exact vr_zret dX6_isValue_18 rfl zb_17 zh
theorem e_X6_isValue {γ : ga_T} {σ : st_T} {Q : rs_T → st_T → Prop} (zw : Wd σ) (zh : p_X6_isValue_0 γ σ Q) : sp_ γ m_X6_isValue 2 [.ref 142] σ Q := sp_of (pl_X6_isValue) rfl (Nat.le_of_ble_eq_true rfl) (g_X6_isValue_0 zw zh)
def p_X6_readThread_0 (γ : ga_T) (σ : st_T) (Q : rs_T → st_T → Prop) : Prop :=
  ∃ (v3 : Int32) (s1 : st_T), Wd s1 ∧ fn_ γ m_X7_threads 0 [.ref 137] σ (.int v3) s1 ∧
  (v3 < (4 : Int32) →
    ∃ s5, Wd s5 ∧ fw_ γ m_X10_advance 1 [.ref 143] s1 s5 ∧
    ∃ s7, Wd s7 ∧ fw_ γ m_X7_addThread 0 [.ref 137] s5 s7 ∧
    ∃ (v11 : Int32) (s9 : st_T), Wd s9 ∧ fn_ γ m_X6_expect 2 [.ref 142, .ref 15] s7 (.int v11) s9 ∧
    vv_ γ m_X6_readThread 5 43 [(0, .ref 142), (1, .int v3), (2, .int v11), (3, .int (0 : Int32))] [] s9 Q
  ) ∧ (¬ v3 < (4 : Int32) →
    ∃ (v14 : Int32) (s12 : st_T), Wd s12 ∧ fn_ γ m_X6_fail 1 [.ref 142, .int (5 : Int32)] s1 (.int v14) s12 ∧
    (v14 = 0 ∨ v14 = 1) ∧
    Q (.inl (some (.int v14))) s12
  )
set_option maxRecDepth 10000 in
theorem g_X6_readThread_0 {γ : ga_T} {σ : st_T} {Q : rs_T → st_T → Prop} (zw : Wd σ) (zh : p_X6_readThread_0 γ σ Q) : vv_ γ m_X6_readThread 5 0 [(0, .ref 142)] [] σ Q := by
  unfold p_X6_readThread_0 at zh
  refine vr_aload_n dX6_readThread_0 rfl rfl ?_
  refine vr_getR dX6_readThread_1 fl_LitmusTester_Parser_39 (wC_142 zw) (Or.inl ⟨_, rfl⟩) (wR_142_1 zw) ?_
  obtain ⟨v3, s1, zw1, zf_2, zh⟩ := zh
  refine vc_V (As := []) (rest := []) dX6_readThread_4 cV_LitmusTester_Parser_126 (wC_137 zw) rfl rfl (Nat.le_of_ble_eq_true rfl) (Nat.le_of_ble_eq_true rfl) (co_n zf_2 ?_)
  replace zw := zw1
  refine vr_istore_n dX6_readThread_7 rfl (Nat.le_of_ble_eq_true rfl) (vv_eq (ls' := [(0, .ref 142), (1, .int v3)]) rfl ?_)
  refine vr_iload_n dX6_readThread_8 rfl rfl ?_
  refine vr_iconst dX6_readThread_9 (v := (4 : Int32)) (by decide) ?_
  refine vr_ic_lt dX6_readThread_10 (tgt := 19) rfl (fun zd_4 => ?_) (fun zd_4 => ?_)
  · replace zh := zh.1 zd_4
    refine vr_aload_n dX6_readThread_19 rfl rfl ?_
    refine vr_getR dX6_readThread_20 fl_LitmusTester_Parser_35 (wC_142 zw) (Or.inl ⟨_, rfl⟩) (wR_142_0 zw) ?_
    obtain ⟨s5, zw1, zf_6, zh⟩ := zh
    refine vc_V (As := []) (rest := []) dX6_readThread_23 cV_LitmusTester_Parser_75 (wC_143 zw) rfl rfl (Nat.le_of_ble_eq_true rfl) (Nat.le_of_ble_eq_true rfl) (co_v zf_6 ?_)
    replace zw := zw1
    refine vr_aload_n dX6_readThread_26 rfl rfl ?_
    refine vr_getR dX6_readThread_27 fl_LitmusTester_Parser_39 (wC_142 zw) (Or.inl ⟨_, rfl⟩) (wR_142_1 zw) ?_
    obtain ⟨s7, zw1, zf_8, zh⟩ := zh
    refine vc_V (As := []) (rest := []) dX6_readThread_30 cV_LitmusTester_Parser_129 (wC_137 zw) rfl rfl (Nat.le_of_ble_eq_true rfl) (Nat.le_of_ble_eq_true rfl) (co_v zf_8 ?_)
    replace zw := zw1
    refine vr_aload_n dX6_readThread_33 rfl rfl ?_
    refine vr_getE dX6_readThread_34 (i := 15) (by decide) tw_658 ?_
    obtain ⟨v11, s9, zw1, zf_10, zh⟩ := zh
    refine vc_V (As := [.ref 15]) (rest := []) dX6_readThread_37 cV_LitmusTester_Parser_85 (wC_142 zw) rfl rfl (Nat.le_of_ble_eq_true rfl) (Nat.le_of_ble_eq_true rfl) (co_n zf_10 ?_)
    replace zw := zw1
    refine vr_istore_n dX6_readThread_40 rfl (Nat.le_of_ble_eq_true rfl) (vv_eq (ls' := [(0, .ref 142), (1, .int v3), (2, .int v11)]) rfl ?_)
    refine vr_iconst dX6_readThread_41 (v := (0 : Int32)) (by decide) ?_
    refine vr_istore_n dX6_readThread_42 rfl (Nat.le_of_ble_eq_true rfl) (vv_eq (ls' := [(0, .ref 142), (1, .int v3), (2, .int v11), (3, .int (0 : Int32))]) rfl ?_)
    exact vv_sub (ls' := [(0, .ref 142), (1, .int v3), (2, .int v11), (3, .int (0 : Int32))]) ⟨rfl, rfl, rfl, rfl, trivial⟩ zh
  · replace zh := zh.2 zd_4
    refine vr_aload_n dX6_readThread_13 rfl rfl ?_
    refine vr_iconst dX6_readThread_14 (v := (5 : Int32)) (by decide) ?_
    obtain ⟨v14, s12, zw1, zf_13, zh⟩ := zh
    refine vc_V (As := [.int (5 : Int32)]) (rest := []) dX6_readThread_15 cV_LitmusTester_Parser_92 (wC_142 zw) rfl rfl (Nat.le_of_ble_eq_true rfl) (Nat.le_of_ble_eq_true rfl) (co_n zf_13 ?_)
    replace zw := zw1
    obtain ⟨zb_15, zh⟩ := zh
    exact vr_zret dX6_readThread_18 rfl zb_15 zh
theorem e_X6_readThread {γ : ga_T} {σ : st_T} {Q : rs_T → st_T → Prop} (zw : Wd σ) (zh : p_X6_readThread_0 γ σ Q) : sp_ γ m_X6_readThread 5 [.ref 142] σ Q := sp_of (pl_X6_readThread) rfl (Nat.le_of_ble_eq_true rfl) (g_X6_readThread_0 zw zh)
def p_X6_readThread_43 (γ : ga_T) (l1 : Int32) (l2 : Int32) (l3 : Int32) (σ : st_T) (Q : rs_T → st_T → Prop) : Prop :=
  ((7 : Int32) < l3 →
    (l2 = 0 ∨ l2 = 1) ∧
    Q (.inl (some (.int l2))) σ
  ) ∧ (¬ (7 : Int32) < l3 →
    (l2 = (0 : Int32) →
      (l2 = 0 ∨ l2 = 1) ∧
      Q (.inl (some (.int l2))) σ
    ) ∧ (¬ l2 = (0 : Int32) →
      ∃ (v7 : Int32) (s5 : st_T), Wd s5 ∧ fn_ γ m_X6_kindOfInstruction 1 [.ref 142] σ (.int v7) s5 ∧
      (v7 = (-1 : Int32) →
        (l2 = 0 ∨ l2 = 1) ∧
        Q (.inl (some (.int l2))) s5
      ) ∧ (¬ v7 = (-1 : Int32) →
        ∃ (v12 : Int32) (s10 : st_T), Wd s10 ∧ fn_ γ m_X6_kindOfInstruction 1 [.ref 142] s5 (.int v12) s10 ∧
        ∃ (v15 : Int32) (s13 : st_T), Wd s13 ∧ fn_ γ m_X6_readInstruction 4 [.ref 142, .int l1, .int v12] s10 (.int v15) s13 ∧
        vv_ γ m_X6_readThread 5 43 [(0, .ref 142), (1, .int l1), (2, .int v15), (3, .int (l3 + 1))] [] s13 Q
      )
    )
  )
set_option maxRecDepth 10000 in
theorem g_X6_readThread_43 {γ : ga_T} {l1 : Int32} {l2 : Int32} {l3 : Int32} {σ : st_T} {Q : rs_T → st_T → Prop} (zw : Wd σ) (zh : p_X6_readThread_43 γ l1 l2 l3 σ Q) : vv_ γ m_X6_readThread 5 43 [(0, .ref 142), (1, .int l1), (2, .int l2), (3, .int l3)] [] σ Q := by
  unfold p_X6_readThread_43 at zh
  refine vr_iload_n dX6_readThread_43 rfl rfl ?_
  refine vr_bipush dX6_readThread_44 (v := (7 : Int32)) (by decide) ?_
  refine vr_ic_gt dX6_readThread_46 (tgt := 77) rfl (fun zd_1 => ?_) (fun zd_1 => ?_)
  · replace zh := zh.1 zd_1
    refine vr_iload_n dX6_readThread_77 rfl rfl ?_
    obtain ⟨zb_2, zh⟩ := zh
    exact vr_zret dX6_readThread_78 rfl zb_2 zh
  · replace zh := zh.2 zd_1
    refine vr_iload_n dX6_readThread_49 rfl rfl ?_
    refine vr_if_eq dX6_readThread_50 (tgt := 77) rfl (fun zd_3 => ?_) (fun zd_3 => ?_)
    · replace zh := zh.1 zd_3
      refine vr_iload_n dX6_readThread_77 rfl rfl ?_
      obtain ⟨zb_4, zh⟩ := zh
      exact vr_zret dX6_readThread_78 rfl zb_4 zh
    · replace zh := zh.2 zd_3
      refine vr_aload_n dX6_readThread_53 rfl rfl ?_
      obtain ⟨v7, s5, zw1, zf_6, zh⟩ := zh
      refine vc_V (As := []) (rest := []) dX6_readThread_54 cV_LitmusTester_Parser_132 (wC_142 zw) rfl rfl (Nat.le_of_ble_eq_true rfl) (Nat.le_of_ble_eq_true rfl) (co_n zf_6 ?_)
      replace zw := zw1
      refine vr_iconst dX6_readThread_57 (v := (-1 : Int32)) (by decide) ?_
      refine vr_ic_eq dX6_readThread_58 (tgt := 77) rfl (fun zd_8 => ?_) (fun zd_8 => ?_)
      · replace zh := zh.1 zd_8
        refine vr_iload_n dX6_readThread_77 rfl rfl ?_
        obtain ⟨zb_9, zh⟩ := zh
        exact vr_zret dX6_readThread_78 rfl zb_9 zh
      · replace zh := zh.2 zd_8
        refine vr_aload_n dX6_readThread_61 rfl rfl ?_
        refine vr_iload_n dX6_readThread_62 rfl rfl ?_
        refine vr_aload_n dX6_readThread_63 rfl rfl ?_
        obtain ⟨v12, s10, zw1, zf_11, zh⟩ := zh
        refine vc_V (As := []) (rest := [.int l1, .ref 142]) dX6_readThread_64 cV_LitmusTester_Parser_132 (wC_142 zw) rfl rfl (Nat.le_of_ble_eq_true rfl) (Nat.le_of_ble_eq_true rfl) (co_n zf_11 ?_)
        replace zw := zw1
        obtain ⟨v15, s13, zw1, zf_14, zh⟩ := zh
        refine vc_V (As := [.int l1, .int v12]) (rest := []) dX6_readThread_67 cV_LitmusTester_Parser_135 (wC_142 zw) rfl rfl (Nat.le_of_ble_eq_true rfl) (Nat.le_of_ble_eq_true rfl) (co_n zf_14 ?_)
        replace zw := zw1
        refine vr_istore_n dX6_readThread_70 rfl (Nat.le_of_ble_eq_true rfl) (vv_eq (ls' := [(0, .ref 142), (1, .int l1), (2, .int v15), (3, .int l3)]) rfl ?_)
        refine vr_iinc dX6_readThread_71 (x := l3) (v := (l3 + 1)) rfl (ii_ (by decide)) (Nat.le_of_ble_eq_true rfl) (vv_eq (ls' := [(0, .ref 142), (1, .int l1), (2, .int v15), (3, .int (l3 + 1))]) rfl ?_)
        refine vr_goto dX6_readThread_74 (tgt := 43) rfl ?_
        exact vv_sub (ls' := [(0, .ref 142), (1, .int l1), (2, .int v15), (3, .int (l3 + 1))]) ⟨rfl, rfl, rfl, rfl, trivial⟩ zh
def p_X6_kindOfInstruction_0 (γ : ga_T) (σ : st_T) (Q : rs_T → st_T → Prop) : Prop :=
  ∃ (v3 : Nat) (s1 : st_T), Wd s1 ∧ fn_ γ m_X10_sign 0 [.ref 143] σ (.ref v3) s1 ∧
  v3 < 21 ∧
  (v3 = 7 →
    Q (.inl (some (.int (0 : Int32)))) s1
  ) ∧ (¬ v3 = 7 →
    v3 < 21 ∧
    (v3 = 8 →
      Q (.inl (some (.int (1 : Int32)))) s1
    ) ∧ (¬ v3 = 8 →
      v3 < 21 ∧
      (v3 = 9 →
        Q (.inl (some (.int (2 : Int32)))) s1
      ) ∧ (¬ v3 = 9 →
        v3 < 21 ∧
        (v3 = 10 →
          Q (.inl (some (.int (3 : Int32)))) s1
        ) ∧ (¬ v3 = 10 →
          Q (.inl (some (.int (-1 : Int32)))) s1
        )
      )
    )
  )
set_option maxRecDepth 10000 in
theorem g_X6_kindOfInstruction_0 {γ : ga_T} {σ : st_T} {Q : rs_T → st_T → Prop} (zw : Wd σ) (zh : p_X6_kindOfInstruction_0 γ σ Q) : vv_ γ m_X6_kindOfInstruction 1 0 [(0, .ref 142)] [] σ Q := by
  unfold p_X6_kindOfInstruction_0 at zh
  refine vr_aload_n dX6_kindOfInstruction_0 rfl rfl ?_
  refine vr_getR dX6_kindOfInstruction_1 fl_LitmusTester_Parser_35 (wC_142 zw) (Or.inl ⟨_, rfl⟩) (wR_142_0 zw) ?_
  obtain ⟨v3, s1, zw1, zf_2, zh⟩ := zh
  refine vc_V (As := []) (rest := []) dX6_kindOfInstruction_4 cV_LitmusTester_Parser_52 (wC_143 zw) rfl rfl (Nat.le_of_ble_eq_true rfl) (Nat.le_of_ble_eq_true rfl) (co_n zf_2 ?_)
  replace zw := zw1
  refine vr_astore_n dX6_kindOfInstruction_7 rfl (Nat.le_of_ble_eq_true rfl) (vv_eq (ls' := [(0, .ref 142), (1, .ref v3)]) rfl ?_)
  refine vr_aload_n dX6_kindOfInstruction_8 rfl rfl ?_
  refine vr_getE dX6_kindOfInstruction_9 (i := 7) (by decide) tw_682 ?_
  obtain ⟨zg_4, zh⟩ := zh
  refine vr_acmp_ne dX6_kindOfInstruction_12 (tgt := 17) rfl zg_4 (by decide) (fun zd_5 => ?_) (fun zd_5 => ?_)
  · replace zh := zh.2 zd_5
    refine vr_aload_n dX6_kindOfInstruction_17 rfl rfl ?_
    refine vr_getE dX6_kindOfInstruction_18 (i := 8) (by decide) tw_684 ?_
    obtain ⟨zg_6, zh⟩ := zh
    refine vr_acmp_ne dX6_kindOfInstruction_21 (tgt := 26) rfl zg_6 (by decide) (fun zd_7 => ?_) (fun zd_7 => ?_)
    · replace zh := zh.2 zd_7
      refine vr_aload_n dX6_kindOfInstruction_26 rfl rfl ?_
      refine vr_getE dX6_kindOfInstruction_27 (i := 9) (by decide) tw_686 ?_
      obtain ⟨zg_8, zh⟩ := zh
      refine vr_acmp_ne dX6_kindOfInstruction_30 (tgt := 35) rfl zg_8 (by decide) (fun zd_9 => ?_) (fun zd_9 => ?_)
      · replace zh := zh.2 zd_9
        refine vr_aload_n dX6_kindOfInstruction_35 rfl rfl ?_
        refine vr_getE dX6_kindOfInstruction_36 (i := 10) (by decide) tw_688 ?_
        obtain ⟨zg_10, zh⟩ := zh
        refine vr_acmp_ne dX6_kindOfInstruction_39 (tgt := 46) rfl zg_10 (by decide) (fun zd_11 => ?_) (fun zd_11 => ?_)
        · replace zh := zh.2 zd_11
          refine vr_iconst dX6_kindOfInstruction_46 (v := (-1 : Int32)) (by decide) ?_
          exact vr_iret dX6_kindOfInstruction_47 rfl zh
        · replace zh := zh.1 zd_11
          refine vr_iconst dX6_kindOfInstruction_42 (v := (3 : Int32)) (by decide) ?_
          refine vr_goto dX6_kindOfInstruction_43 (tgt := 47) rfl ?_
          exact vr_iret dX6_kindOfInstruction_47 rfl zh
      · replace zh := zh.1 zd_9
        refine vr_iconst dX6_kindOfInstruction_33 (v := (2 : Int32)) (by decide) ?_
        exact vr_iret dX6_kindOfInstruction_34 rfl zh
    · replace zh := zh.1 zd_7
      refine vr_iconst dX6_kindOfInstruction_24 (v := (1 : Int32)) (by decide) ?_
      exact vr_iret dX6_kindOfInstruction_25 rfl zh
  · replace zh := zh.1 zd_5
    refine vr_iconst dX6_kindOfInstruction_15 (v := (0 : Int32)) (by decide) ?_
    exact vr_iret dX6_kindOfInstruction_16 rfl zh
theorem e_X6_kindOfInstruction {γ : ga_T} {σ : st_T} {Q : rs_T → st_T → Prop} (zw : Wd σ) (zh : p_X6_kindOfInstruction_0 γ σ Q) : sp_ γ m_X6_kindOfInstruction 1 [.ref 142] σ Q := sp_of (pl_X6_kindOfInstruction) rfl (Nat.le_of_ble_eq_true rfl) (g_X6_kindOfInstruction_0 zw zh)
def p_X6_readInstruction_0 (γ : ga_T) (l1 : Int32) (l2 : Int32) (σ : st_T) (Q : rs_T → st_T → Prop) : Prop :=
  ∃ (v3 : Int32) (s1 : st_T), Wd s1 ∧ fn_ γ m_X6_isFull 3 [.ref 142, .int l1, .int l2] σ (.int v3) s1 ∧
  (v3 = (0 : Int32) →
    ∃ s5, Wd s5 ∧ fw_ γ m_X10_advance 1 [.ref 143] (pt_I (pt_I (pt_I (pt_I s1 142 4 (-1 : Int32)) 142 5 (-1 : Int32)) 142 6 (-1 : Int32)) 142 7 (-1 : Int32)) s5 ∧
    (l2 = (1 : Int32) →
      (l2 = (0 : Int32) →
        ∃ (v11 : Int32) (s9 : st_T), Wd s9 ∧ fn_ γ m_X6_readTarget 2 [.ref 142, .int l1] s5 (.int v11) s9 ∧
        (v11 = (0 : Int32) →
          Q (.inl (some (.int (0 : Int32)))) s9
        ) ∧ (¬ v11 = (0 : Int32) →
          (l2 = (3 : Int32) →
            ∃ (v16 : Int32) (s14 : st_T), Wd s14 ∧ fn_ γ m_X6_readValue 3 [.ref 142, .int l1] s9 (.int v16) s14 ∧
            (v16 = (0 : Int32) →
              Q (.inl (some (.int (0 : Int32)))) s14
            ) ∧ (¬ v16 = (0 : Int32) →
              ∃ (v20 : Int32) (s18 : st_T), Wd s18 ∧ fn_ γ m_X6_expect 2 [.ref 142, .ref 15] s14 (.int v20) s18 ∧
              (v20 = (0 : Int32) →
                Q (.inl (some (.int (0 : Int32)))) s18
              ) ∧ (¬ v20 = (0 : Int32) →
                ∃ s22, Wd s22 ∧ fw_ γ m_X7_addInstruction 1 [.ref 137, .int l2, .int (st_I s18 142 4), .int (st_I s18 142 5), .int (st_I s18 142 6), .int (st_I s18 142 7)] s18 s22 ∧
                Q (.inl (some (.int (1 : Int32)))) s22
              )
            )
          ) ∧ (¬ l2 = (3 : Int32) →
            ∃ (v26 : Int32) (s24 : st_T), Wd s24 ∧ fn_ γ m_X6_readLocation 2 [.ref 142] s9 (.int v26) s24 ∧
            (v26 = (0 : Int32) →
              Q (.inl (some (.int (0 : Int32)))) s24
            ) ∧ (¬ v26 = (0 : Int32) →
              ∃ (v30 : Int32) (s28 : st_T), Wd s28 ∧ fn_ γ m_X6_readValue 3 [.ref 142, .int l1] s24 (.int v30) s28 ∧
              (v30 = (0 : Int32) →
                Q (.inl (some (.int (0 : Int32)))) s28
              ) ∧ (¬ v30 = (0 : Int32) →
                ∃ (v34 : Int32) (s32 : st_T), Wd s32 ∧ fn_ γ m_X6_expect 2 [.ref 142, .ref 15] s28 (.int v34) s32 ∧
                (v34 = (0 : Int32) →
                  Q (.inl (some (.int (0 : Int32)))) s32
                ) ∧ (¬ v34 = (0 : Int32) →
                  ∃ s36, Wd s36 ∧ fw_ γ m_X7_addInstruction 1 [.ref 137, .int l2, .int (st_I s32 142 4), .int (st_I s32 142 5), .int (st_I s32 142 6), .int (st_I s32 142 7)] s32 s36 ∧
                  Q (.inl (some (.int (1 : Int32)))) s36
                )
              )
            )
          )
        )
      ) ∧ (¬ l2 = (0 : Int32) →
        (l2 = (2 : Int32) →
          ∃ (v41 : Int32) (s39 : st_T), Wd s39 ∧ fn_ γ m_X6_readTarget 2 [.ref 142, .int l1] s5 (.int v41) s39 ∧
          (v41 = (0 : Int32) →
            Q (.inl (some (.int (0 : Int32)))) s39
          ) ∧ (¬ v41 = (0 : Int32) →
            (l2 = (3 : Int32) →
              ∃ (v46 : Int32) (s44 : st_T), Wd s44 ∧ fn_ γ m_X6_readValue 3 [.ref 142, .int l1] s39 (.int v46) s44 ∧
              (v46 = (0 : Int32) →
                Q (.inl (some (.int (0 : Int32)))) s44
              ) ∧ (¬ v46 = (0 : Int32) →
                ∃ (v50 : Int32) (s48 : st_T), Wd s48 ∧ fn_ γ m_X6_expect 2 [.ref 142, .ref 15] s44 (.int v50) s48 ∧
                (v50 = (0 : Int32) →
                  Q (.inl (some (.int (0 : Int32)))) s48
                ) ∧ (¬ v50 = (0 : Int32) →
                  ∃ s52, Wd s52 ∧ fw_ γ m_X7_addInstruction 1 [.ref 137, .int l2, .int (st_I s48 142 4), .int (st_I s48 142 5), .int (st_I s48 142 6), .int (st_I s48 142 7)] s48 s52 ∧
                  Q (.inl (some (.int (1 : Int32)))) s52
                )
              )
            ) ∧ (¬ l2 = (3 : Int32) →
              ∃ (v56 : Int32) (s54 : st_T), Wd s54 ∧ fn_ γ m_X6_readLocation 2 [.ref 142] s39 (.int v56) s54 ∧
              (v56 = (0 : Int32) →
                Q (.inl (some (.int (0 : Int32)))) s54
              ) ∧ (¬ v56 = (0 : Int32) →
                ∃ (v60 : Int32) (s58 : st_T), Wd s58 ∧ fn_ γ m_X6_readValue 3 [.ref 142, .int l1] s54 (.int v60) s58 ∧
                (v60 = (0 : Int32) →
                  Q (.inl (some (.int (0 : Int32)))) s58
                ) ∧ (¬ v60 = (0 : Int32) →
                  ∃ (v64 : Int32) (s62 : st_T), Wd s62 ∧ fn_ γ m_X6_expect 2 [.ref 142, .ref 15] s58 (.int v64) s62 ∧
                  (v64 = (0 : Int32) →
                    Q (.inl (some (.int (0 : Int32)))) s62
                  ) ∧ (¬ v64 = (0 : Int32) →
                    ∃ s66, Wd s66 ∧ fw_ γ m_X7_addInstruction 1 [.ref 137, .int l2, .int (st_I s62 142 4), .int (st_I s62 142 5), .int (st_I s62 142 6), .int (st_I s62 142 7)] s62 s66 ∧
                    Q (.inl (some (.int (1 : Int32)))) s66
                  )
                )
              )
            )
          )
        ) ∧ (¬ l2 = (2 : Int32) →
          ∃ (v70 : Int32) (s68 : st_T), Wd s68 ∧ fn_ γ m_X6_readTarget 2 [.ref 142, .int l1] s5 (.int v70) s68 ∧
          (v70 = (0 : Int32) →
            Q (.inl (some (.int (0 : Int32)))) s68
          ) ∧ (¬ v70 = (0 : Int32) →
            (l2 = (3 : Int32) →
              ∃ (v75 : Int32) (s73 : st_T), Wd s73 ∧ fn_ γ m_X6_expect 2 [.ref 142, .ref 15] s68 (.int v75) s73 ∧
              (v75 = (0 : Int32) →
                Q (.inl (some (.int (0 : Int32)))) s73
              ) ∧ (¬ v75 = (0 : Int32) →
                ∃ s77, Wd s77 ∧ fw_ γ m_X7_addInstruction 1 [.ref 137, .int l2, .int (st_I s73 142 4), .int (st_I s73 142 5), .int (st_I s73 142 6), .int (st_I s73 142 7)] s73 s77 ∧
                Q (.inl (some (.int (1 : Int32)))) s77
              )
            ) ∧ (¬ l2 = (3 : Int32) →
              ∃ (v81 : Int32) (s79 : st_T), Wd s79 ∧ fn_ γ m_X6_readLocation 2 [.ref 142] s68 (.int v81) s79 ∧
              (v81 = (0 : Int32) →
                Q (.inl (some (.int (0 : Int32)))) s79
              ) ∧ (¬ v81 = (0 : Int32) →
                ∃ (v85 : Int32) (s83 : st_T), Wd s83 ∧ fn_ γ m_X6_expect 2 [.ref 142, .ref 15] s79 (.int v85) s83 ∧
                (v85 = (0 : Int32) →
                  Q (.inl (some (.int (0 : Int32)))) s83
                ) ∧ (¬ v85 = (0 : Int32) →
                  ∃ s87, Wd s87 ∧ fw_ γ m_X7_addInstruction 1 [.ref 137, .int l2, .int (st_I s83 142 4), .int (st_I s83 142 5), .int (st_I s83 142 6), .int (st_I s83 142 7)] s83 s87 ∧
                  Q (.inl (some (.int (1 : Int32)))) s87
                )
              )
            )
          )
        )
      )
    ) ∧ (¬ l2 = (1 : Int32) →
      (l2 = (2 : Int32) →
        (l2 = (0 : Int32) →
          ∃ (v93 : Int32) (s91 : st_T), Wd s91 ∧ fn_ γ m_X6_readTarget 2 [.ref 142, .int l1] s5 (.int v93) s91 ∧
          (v93 = (0 : Int32) →
            Q (.inl (some (.int (0 : Int32)))) s91
          ) ∧ (¬ v93 = (0 : Int32) →
            (l2 = (3 : Int32) →
              ∃ (v98 : Int32) (s96 : st_T), Wd s96 ∧ fn_ γ m_X6_readValue 3 [.ref 142, .int l1] s91 (.int v98) s96 ∧
              (v98 = (0 : Int32) →
                Q (.inl (some (.int (0 : Int32)))) s96
              ) ∧ (¬ v98 = (0 : Int32) →
                ∃ (v102 : Int32) (s100 : st_T), Wd s100 ∧ fn_ γ m_X6_expect 2 [.ref 142, .ref 15] s96 (.int v102) s100 ∧
                (v102 = (0 : Int32) →
                  Q (.inl (some (.int (0 : Int32)))) s100
                ) ∧ (¬ v102 = (0 : Int32) →
                  ∃ s104, Wd s104 ∧ fw_ γ m_X7_addInstruction 1 [.ref 137, .int l2, .int (st_I s100 142 4), .int (st_I s100 142 5), .int (st_I s100 142 6), .int (st_I s100 142 7)] s100 s104 ∧
                  Q (.inl (some (.int (1 : Int32)))) s104
                )
              )
            ) ∧ (¬ l2 = (3 : Int32) →
              ∃ (v108 : Int32) (s106 : st_T), Wd s106 ∧ fn_ γ m_X6_readLocation 2 [.ref 142] s91 (.int v108) s106 ∧
              (v108 = (0 : Int32) →
                Q (.inl (some (.int (0 : Int32)))) s106
              ) ∧ (¬ v108 = (0 : Int32) →
                ∃ (v112 : Int32) (s110 : st_T), Wd s110 ∧ fn_ γ m_X6_readValue 3 [.ref 142, .int l1] s106 (.int v112) s110 ∧
                (v112 = (0 : Int32) →
                  Q (.inl (some (.int (0 : Int32)))) s110
                ) ∧ (¬ v112 = (0 : Int32) →
                  ∃ (v116 : Int32) (s114 : st_T), Wd s114 ∧ fn_ γ m_X6_expect 2 [.ref 142, .ref 15] s110 (.int v116) s114 ∧
                  (v116 = (0 : Int32) →
                    Q (.inl (some (.int (0 : Int32)))) s114
                  ) ∧ (¬ v116 = (0 : Int32) →
                    ∃ s118, Wd s118 ∧ fw_ γ m_X7_addInstruction 1 [.ref 137, .int l2, .int (st_I s114 142 4), .int (st_I s114 142 5), .int (st_I s114 142 6), .int (st_I s114 142 7)] s114 s118 ∧
                    Q (.inl (some (.int (1 : Int32)))) s118
                  )
                )
              )
            )
          )
        ) ∧ (¬ l2 = (0 : Int32) →
          (l2 = (2 : Int32) →
            ∃ (v123 : Int32) (s121 : st_T), Wd s121 ∧ fn_ γ m_X6_readTarget 2 [.ref 142, .int l1] s5 (.int v123) s121 ∧
            (v123 = (0 : Int32) →
              Q (.inl (some (.int (0 : Int32)))) s121
            ) ∧ (¬ v123 = (0 : Int32) →
              (l2 = (3 : Int32) →
                ∃ (v128 : Int32) (s126 : st_T), Wd s126 ∧ fn_ γ m_X6_readValue 3 [.ref 142, .int l1] s121 (.int v128) s126 ∧
                (v128 = (0 : Int32) →
                  Q (.inl (some (.int (0 : Int32)))) s126
                ) ∧ (¬ v128 = (0 : Int32) →
                  ∃ (v132 : Int32) (s130 : st_T), Wd s130 ∧ fn_ γ m_X6_expect 2 [.ref 142, .ref 15] s126 (.int v132) s130 ∧
                  (v132 = (0 : Int32) →
                    Q (.inl (some (.int (0 : Int32)))) s130
                  ) ∧ (¬ v132 = (0 : Int32) →
                    ∃ s134, Wd s134 ∧ fw_ γ m_X7_addInstruction 1 [.ref 137, .int l2, .int (st_I s130 142 4), .int (st_I s130 142 5), .int (st_I s130 142 6), .int (st_I s130 142 7)] s130 s134 ∧
                    Q (.inl (some (.int (1 : Int32)))) s134
                  )
                )
              ) ∧ (¬ l2 = (3 : Int32) →
                ∃ (v138 : Int32) (s136 : st_T), Wd s136 ∧ fn_ γ m_X6_readLocation 2 [.ref 142] s121 (.int v138) s136 ∧
                (v138 = (0 : Int32) →
                  Q (.inl (some (.int (0 : Int32)))) s136
                ) ∧ (¬ v138 = (0 : Int32) →
                  ∃ (v142 : Int32) (s140 : st_T), Wd s140 ∧ fn_ γ m_X6_readValue 3 [.ref 142, .int l1] s136 (.int v142) s140 ∧
                  (v142 = (0 : Int32) →
                    Q (.inl (some (.int (0 : Int32)))) s140
                  ) ∧ (¬ v142 = (0 : Int32) →
                    ∃ (v146 : Int32) (s144 : st_T), Wd s144 ∧ fn_ γ m_X6_expect 2 [.ref 142, .ref 15] s140 (.int v146) s144 ∧
                    (v146 = (0 : Int32) →
                      Q (.inl (some (.int (0 : Int32)))) s144
                    ) ∧ (¬ v146 = (0 : Int32) →
                      ∃ s148, Wd s148 ∧ fw_ γ m_X7_addInstruction 1 [.ref 137, .int l2, .int (st_I s144 142 4), .int (st_I s144 142 5), .int (st_I s144 142 6), .int (st_I s144 142 7)] s144 s148 ∧
                      Q (.inl (some (.int (1 : Int32)))) s148
                    )
                  )
                )
              )
            )
          ) ∧ (¬ l2 = (2 : Int32) →
            ∃ (v152 : Int32) (s150 : st_T), Wd s150 ∧ fn_ γ m_X6_readTarget 2 [.ref 142, .int l1] s5 (.int v152) s150 ∧
            (v152 = (0 : Int32) →
              Q (.inl (some (.int (0 : Int32)))) s150
            ) ∧ (¬ v152 = (0 : Int32) →
              (l2 = (3 : Int32) →
                ∃ (v157 : Int32) (s155 : st_T), Wd s155 ∧ fn_ γ m_X6_expect 2 [.ref 142, .ref 15] s150 (.int v157) s155 ∧
                (v157 = (0 : Int32) →
                  Q (.inl (some (.int (0 : Int32)))) s155
                ) ∧ (¬ v157 = (0 : Int32) →
                  ∃ s159, Wd s159 ∧ fw_ γ m_X7_addInstruction 1 [.ref 137, .int l2, .int (st_I s155 142 4), .int (st_I s155 142 5), .int (st_I s155 142 6), .int (st_I s155 142 7)] s155 s159 ∧
                  Q (.inl (some (.int (1 : Int32)))) s159
                )
              ) ∧ (¬ l2 = (3 : Int32) →
                ∃ (v163 : Int32) (s161 : st_T), Wd s161 ∧ fn_ γ m_X6_readLocation 2 [.ref 142] s150 (.int v163) s161 ∧
                (v163 = (0 : Int32) →
                  Q (.inl (some (.int (0 : Int32)))) s161
                ) ∧ (¬ v163 = (0 : Int32) →
                  ∃ (v167 : Int32) (s165 : st_T), Wd s165 ∧ fn_ γ m_X6_expect 2 [.ref 142, .ref 15] s161 (.int v167) s165 ∧
                  (v167 = (0 : Int32) →
                    Q (.inl (some (.int (0 : Int32)))) s165
                  ) ∧ (¬ v167 = (0 : Int32) →
                    ∃ s169, Wd s169 ∧ fw_ γ m_X7_addInstruction 1 [.ref 137, .int l2, .int (st_I s165 142 4), .int (st_I s165 142 5), .int (st_I s165 142 6), .int (st_I s165 142 7)] s165 s169 ∧
                    Q (.inl (some (.int (1 : Int32)))) s169
                  )
                )
              )
            )
          )
        )
      ) ∧ (¬ l2 = (2 : Int32) →
        (l2 = (0 : Int32) →
          (l2 = (3 : Int32) →
            ∃ (v175 : Int32) (s173 : st_T), Wd s173 ∧ fn_ γ m_X6_readValue 3 [.ref 142, .int l1] s5 (.int v175) s173 ∧
            (v175 = (0 : Int32) →
              Q (.inl (some (.int (0 : Int32)))) s173
            ) ∧ (¬ v175 = (0 : Int32) →
              ∃ (v179 : Int32) (s177 : st_T), Wd s177 ∧ fn_ γ m_X6_expect 2 [.ref 142, .ref 15] s173 (.int v179) s177 ∧
              (v179 = (0 : Int32) →
                Q (.inl (some (.int (0 : Int32)))) s177
              ) ∧ (¬ v179 = (0 : Int32) →
                ∃ s181, Wd s181 ∧ fw_ γ m_X7_addInstruction 1 [.ref 137, .int l2, .int (st_I s177 142 4), .int (st_I s177 142 5), .int (st_I s177 142 6), .int (st_I s177 142 7)] s177 s181 ∧
                Q (.inl (some (.int (1 : Int32)))) s181
              )
            )
          ) ∧ (¬ l2 = (3 : Int32) →
            ∃ (v185 : Int32) (s183 : st_T), Wd s183 ∧ fn_ γ m_X6_readLocation 2 [.ref 142] s5 (.int v185) s183 ∧
            (v185 = (0 : Int32) →
              Q (.inl (some (.int (0 : Int32)))) s183
            ) ∧ (¬ v185 = (0 : Int32) →
              ∃ (v189 : Int32) (s187 : st_T), Wd s187 ∧ fn_ γ m_X6_readValue 3 [.ref 142, .int l1] s183 (.int v189) s187 ∧
              (v189 = (0 : Int32) →
                Q (.inl (some (.int (0 : Int32)))) s187
              ) ∧ (¬ v189 = (0 : Int32) →
                ∃ (v193 : Int32) (s191 : st_T), Wd s191 ∧ fn_ γ m_X6_expect 2 [.ref 142, .ref 15] s187 (.int v193) s191 ∧
                (v193 = (0 : Int32) →
                  Q (.inl (some (.int (0 : Int32)))) s191
                ) ∧ (¬ v193 = (0 : Int32) →
                  ∃ s195, Wd s195 ∧ fw_ γ m_X7_addInstruction 1 [.ref 137, .int l2, .int (st_I s191 142 4), .int (st_I s191 142 5), .int (st_I s191 142 6), .int (st_I s191 142 7)] s191 s195 ∧
                  Q (.inl (some (.int (1 : Int32)))) s195
                )
              )
            )
          )
        ) ∧ (¬ l2 = (0 : Int32) →
          (l2 = (2 : Int32) →
            (l2 = (3 : Int32) →
              ∃ (v201 : Int32) (s199 : st_T), Wd s199 ∧ fn_ γ m_X6_readValue 3 [.ref 142, .int l1] s5 (.int v201) s199 ∧
              (v201 = (0 : Int32) →
                Q (.inl (some (.int (0 : Int32)))) s199
              ) ∧ (¬ v201 = (0 : Int32) →
                ∃ (v205 : Int32) (s203 : st_T), Wd s203 ∧ fn_ γ m_X6_expect 2 [.ref 142, .ref 15] s199 (.int v205) s203 ∧
                (v205 = (0 : Int32) →
                  Q (.inl (some (.int (0 : Int32)))) s203
                ) ∧ (¬ v205 = (0 : Int32) →
                  ∃ s207, Wd s207 ∧ fw_ γ m_X7_addInstruction 1 [.ref 137, .int l2, .int (st_I s203 142 4), .int (st_I s203 142 5), .int (st_I s203 142 6), .int (st_I s203 142 7)] s203 s207 ∧
                  Q (.inl (some (.int (1 : Int32)))) s207
                )
              )
            ) ∧ (¬ l2 = (3 : Int32) →
              ∃ (v211 : Int32) (s209 : st_T), Wd s209 ∧ fn_ γ m_X6_readLocation 2 [.ref 142] s5 (.int v211) s209 ∧
              (v211 = (0 : Int32) →
                Q (.inl (some (.int (0 : Int32)))) s209
              ) ∧ (¬ v211 = (0 : Int32) →
                ∃ (v215 : Int32) (s213 : st_T), Wd s213 ∧ fn_ γ m_X6_readValue 3 [.ref 142, .int l1] s209 (.int v215) s213 ∧
                (v215 = (0 : Int32) →
                  Q (.inl (some (.int (0 : Int32)))) s213
                ) ∧ (¬ v215 = (0 : Int32) →
                  ∃ (v219 : Int32) (s217 : st_T), Wd s217 ∧ fn_ γ m_X6_expect 2 [.ref 142, .ref 15] s213 (.int v219) s217 ∧
                  (v219 = (0 : Int32) →
                    Q (.inl (some (.int (0 : Int32)))) s217
                  ) ∧ (¬ v219 = (0 : Int32) →
                    ∃ s221, Wd s221 ∧ fw_ γ m_X7_addInstruction 1 [.ref 137, .int l2, .int (st_I s217 142 4), .int (st_I s217 142 5), .int (st_I s217 142 6), .int (st_I s217 142 7)] s217 s221 ∧
                    Q (.inl (some (.int (1 : Int32)))) s221
                  )
                )
              )
            )
          ) ∧ (¬ l2 = (2 : Int32) →
            (l2 = (3 : Int32) →
              ∃ (v226 : Int32) (s224 : st_T), Wd s224 ∧ fn_ γ m_X6_expect 2 [.ref 142, .ref 15] s5 (.int v226) s224 ∧
              (v226 = (0 : Int32) →
                Q (.inl (some (.int (0 : Int32)))) s224
              ) ∧ (¬ v226 = (0 : Int32) →
                ∃ s228, Wd s228 ∧ fw_ γ m_X7_addInstruction 1 [.ref 137, .int l2, .int (st_I s224 142 4), .int (st_I s224 142 5), .int (st_I s224 142 6), .int (st_I s224 142 7)] s224 s228 ∧
                Q (.inl (some (.int (1 : Int32)))) s228
              )
            ) ∧ (¬ l2 = (3 : Int32) →
              ∃ (v232 : Int32) (s230 : st_T), Wd s230 ∧ fn_ γ m_X6_readLocation 2 [.ref 142] s5 (.int v232) s230 ∧
              (v232 = (0 : Int32) →
                Q (.inl (some (.int (0 : Int32)))) s230
              ) ∧ (¬ v232 = (0 : Int32) →
                ∃ (v236 : Int32) (s234 : st_T), Wd s234 ∧ fn_ γ m_X6_expect 2 [.ref 142, .ref 15] s230 (.int v236) s234 ∧
                (v236 = (0 : Int32) →
                  Q (.inl (some (.int (0 : Int32)))) s234
                ) ∧ (¬ v236 = (0 : Int32) →
                  ∃ s238, Wd s238 ∧ fw_ γ m_X7_addInstruction 1 [.ref 137, .int l2, .int (st_I s234 142 4), .int (st_I s234 142 5), .int (st_I s234 142 6), .int (st_I s234 142 7)] s234 s238 ∧
                  Q (.inl (some (.int (1 : Int32)))) s238
                )
              )
            )
          )
        )
      )
    )
  ) ∧ (¬ v3 = (0 : Int32) →
    ∃ (v242 : Int32) (s240 : st_T), Wd s240 ∧ fn_ γ m_X6_fail 1 [.ref 142, .int (5 : Int32)] s1 (.int v242) s240 ∧
    (v242 = 0 ∨ v242 = 1) ∧
    Q (.inl (some (.int v242))) s240
  )
set_option maxRecDepth 10000 in
theorem g_X6_readInstruction_0 {γ : ga_T} {l1 : Int32} {l2 : Int32} {σ : st_T} {Q : rs_T → st_T → Prop} (zw : Wd σ) (zh : p_X6_readInstruction_0 γ l1 l2 σ Q) : vv_ γ m_X6_readInstruction 4 0 [(0, .ref 142), (1, .int l1), (2, .int l2)] [] σ Q := by
  unfold p_X6_readInstruction_0 at zh
  refine vr_aload_n dX6_readInstruction_0 rfl rfl ?_
  refine vr_iload_n dX6_readInstruction_1 rfl rfl ?_
  refine vr_iload_n dX6_readInstruction_2 rfl rfl ?_
  obtain ⟨v3, s1, zw1, zf_2, zh⟩ := zh
  refine vc_V (As := [.int l1, .int l2]) (rest := []) dX6_readInstruction_3 cV_LitmusTester_Parser_151 (wC_142 zw) rfl rfl (Nat.le_of_ble_eq_true rfl) (Nat.le_of_ble_eq_true rfl) (co_n zf_2 ?_)
  replace zw := zw1
  refine vr_if_eq dX6_readInstruction_6 (tgt := 15) rfl (fun zd_4 => ?_) (fun zd_4 => ?_)
  · replace zh := zh.1 zd_4
    refine vr_aload_n dX6_readInstruction_15 rfl rfl ?_
    refine vr_iconst dX6_readInstruction_16 (v := (-1 : Int32)) (by decide) ?_
    refine vr_putI dX6_readInstruction_17 fl_LitmusTester_Parser_18 (wC_142 zw) rfl (fz_6_4) ?_
    refine vr_aload_n dX6_readInstruction_20 rfl rfl ?_
    refine vr_iconst dX6_readInstruction_21 (v := (-1 : Int32)) (by decide) ?_
    refine vr_putI dX6_readInstruction_22 fl_LitmusTester_Parser_21 (wC_142 zw) rfl (fz_6_5) ?_
    refine vr_aload_n dX6_readInstruction_25 rfl rfl ?_
    refine vr_iconst dX6_readInstruction_26 (v := (-1 : Int32)) (by decide) ?_
    refine vr_putI dX6_readInstruction_27 fl_LitmusTester_Parser_24 (wC_142 zw) rfl (fz_6_6) ?_
    refine vr_aload_n dX6_readInstruction_30 rfl rfl ?_
    refine vr_iconst dX6_readInstruction_31 (v := (-1 : Int32)) (by decide) ?_
    refine vr_putI dX6_readInstruction_32 fl_LitmusTester_Parser_27 (wC_142 zw) rfl (fz_6_7) ?_
    refine vr_aload_n dX6_readInstruction_35 rfl rfl ?_
    refine vr_getR dX6_readInstruction_36 fl_LitmusTester_Parser_35 (wC_142 zw) (Or.inl ⟨_, rfl⟩) (wR_142_0 zw) ?_
    obtain ⟨s5, zw1, zf_6, zh⟩ := zh
    refine vc_V (As := []) (rest := []) dX6_readInstruction_39 cV_LitmusTester_Parser_75 (wC_143 zw) rfl rfl (Nat.le_of_ble_eq_true rfl) (Nat.le_of_ble_eq_true rfl) (co_v zf_6 ?_)
    replace zw := zw1
    refine vr_iload_n dX6_readInstruction_42 rfl rfl ?_
    refine vr_iconst dX6_readInstruction_43 (v := (1 : Int32)) (by decide) ?_
    refine vr_ic_eq dX6_readInstruction_44 (tgt := 52) rfl (fun zd_7 => ?_) (fun zd_7 => ?_)
    · replace zh := zh.1 zd_7
      refine vr_iconst dX6_readInstruction_52 (v := (1 : Int32)) (by decide) ?_
      refine vr_goto dX6_readInstruction_53 (tgt := 57) rfl ?_
      refine vr_istore_n dX6_readInstruction_57 rfl (Nat.le_of_ble_eq_true rfl) (vv_eq (ls' := [(0, .ref 142), (1, .int l1), (2, .int l2), (3, .int (1 : Int32))]) rfl ?_)
      refine vr_iload_n dX6_readInstruction_58 rfl rfl ?_
      refine vr_if_eq dX6_readInstruction_59 (tgt := 67) rfl (fun zd_8 => ?_) (fun zd_8 => ?_)
      · replace zh := zh.1 zd_8
        refine vr_iconst dX6_readInstruction_67 (v := (1 : Int32)) (by decide) ?_
        refine vr_goto dX6_readInstruction_68 (tgt := 72) rfl ?_
        refine vr_istore dX6_readInstruction_72 (Nat.le_of_ble_eq_true rfl) (vv_eq (ls' := [(0, .ref 142), (1, .int l1), (2, .int l2), (3, .int (1 : Int32)), (4, .int (1 : Int32))]) rfl ?_)
        refine vr_iload_n dX6_readInstruction_74 rfl rfl ?_
        refine vr_if_eq dX6_readInstruction_75 (tgt := 86) rfl (fun c => absurd c (by decide)) (fun _ => ?_)
        refine vr_aload_n dX6_readInstruction_78 rfl rfl ?_
        refine vr_iload_n dX6_readInstruction_79 rfl rfl ?_
        obtain ⟨v11, s9, zw1, zf_10, zh⟩ := zh
        refine vc_V (As := [.int l1]) (rest := []) dX6_readInstruction_80 cV_LitmusTester_Parser_154 (wC_142 zw) rfl rfl (Nat.le_of_ble_eq_true rfl) (Nat.le_of_ble_eq_true rfl) (co_n zf_10 ?_)
        replace zw := zw1
        refine vr_if_eq dX6_readInstruction_83 (tgt := 125) rfl (fun zd_12 => ?_) (fun zd_12 => ?_)
        · replace zh := zh.1 zd_12
          refine vr_iconst dX6_readInstruction_125 (v := (0 : Int32)) (by decide) ?_
          refine vr_istore dX6_readInstruction_126 (Nat.le_of_ble_eq_true rfl) (vv_eq (ls' := [(0, .ref 142), (1, .int l1), (2, .int l2), (3, .int (1 : Int32)), (4, .int (1 : Int32)), (5, .int (0 : Int32))]) rfl ?_)
          refine vr_iload dX6_readInstruction_128 rfl ?_
          refine vr_if_eq dX6_readInstruction_130 (tgt := 157) rfl (fun _ => ?_) (fun c => absurd (by decide) c)
          refine vr_iload dX6_readInstruction_157 rfl ?_
          exact vr_zret dX6_readInstruction_159 rfl (Or.inl rfl) zh
        · replace zh := zh.2 zd_12
          refine vr_iload_n dX6_readInstruction_86 rfl rfl ?_
          refine vr_iconst dX6_readInstruction_87 (v := (3 : Int32)) (by decide) ?_
          refine vr_ic_eq dX6_readInstruction_88 (tgt := 98) rfl (fun zd_13 => ?_) (fun zd_13 => ?_)
          · replace zh := zh.1 zd_13
            refine vr_iload dX6_readInstruction_98 rfl ?_
            refine vr_if_eq dX6_readInstruction_100 (tgt := 111) rfl (fun c => absurd c (by decide)) (fun _ => ?_)
            refine vr_aload_n dX6_readInstruction_103 rfl rfl ?_
            refine vr_iload_n dX6_readInstruction_104 rfl rfl ?_
            obtain ⟨v16, s14, zw1, zf_15, zh⟩ := zh
            refine vc_V (As := [.int l1]) (rest := []) dX6_readInstruction_105 cV_LitmusTester_Parser_160 (wC_142 zw) rfl rfl (Nat.le_of_ble_eq_true rfl) (Nat.le_of_ble_eq_true rfl) (co_n zf_15 ?_)
            replace zw := zw1
            refine vr_if_eq dX6_readInstruction_108 (tgt := 125) rfl (fun zd_17 => ?_) (fun zd_17 => ?_)
            · replace zh := zh.1 zd_17
              refine vr_iconst dX6_readInstruction_125 (v := (0 : Int32)) (by decide) ?_
              refine vr_istore dX6_readInstruction_126 (Nat.le_of_ble_eq_true rfl) (vv_eq (ls' := [(0, .ref 142), (1, .int l1), (2, .int l2), (3, .int (1 : Int32)), (4, .int (1 : Int32)), (5, .int (0 : Int32))]) rfl ?_)
              refine vr_iload dX6_readInstruction_128 rfl ?_
              refine vr_if_eq dX6_readInstruction_130 (tgt := 157) rfl (fun _ => ?_) (fun c => absurd (by decide) c)
              refine vr_iload dX6_readInstruction_157 rfl ?_
              exact vr_zret dX6_readInstruction_159 rfl (Or.inl rfl) zh
            · replace zh := zh.2 zd_17
              refine vr_aload_n dX6_readInstruction_111 rfl rfl ?_
              refine vr_getE dX6_readInstruction_112 (i := 15) (by decide) tw_658 ?_
              obtain ⟨v20, s18, zw1, zf_19, zh⟩ := zh
              refine vc_V (As := [.ref 15]) (rest := []) dX6_readInstruction_115 cV_LitmusTester_Parser_85 (wC_142 zw) rfl rfl (Nat.le_of_ble_eq_true rfl) (Nat.le_of_ble_eq_true rfl) (co_n zf_19 ?_)
              replace zw := zw1
              refine vr_if_eq dX6_readInstruction_118 (tgt := 125) rfl (fun zd_21 => ?_) (fun zd_21 => ?_)
              · replace zh := zh.1 zd_21
                refine vr_iconst dX6_readInstruction_125 (v := (0 : Int32)) (by decide) ?_
                refine vr_istore dX6_readInstruction_126 (Nat.le_of_ble_eq_true rfl) (vv_eq (ls' := [(0, .ref 142), (1, .int l1), (2, .int l2), (3, .int (1 : Int32)), (4, .int (1 : Int32)), (5, .int (0 : Int32))]) rfl ?_)
                refine vr_iload dX6_readInstruction_128 rfl ?_
                refine vr_if_eq dX6_readInstruction_130 (tgt := 157) rfl (fun _ => ?_) (fun c => absurd (by decide) c)
                refine vr_iload dX6_readInstruction_157 rfl ?_
                exact vr_zret dX6_readInstruction_159 rfl (Or.inl rfl) zh
              · replace zh := zh.2 zd_21
                refine vr_iconst dX6_readInstruction_121 (v := (1 : Int32)) (by decide) ?_
                refine vr_goto dX6_readInstruction_122 (tgt := 126) rfl ?_
                refine vr_istore dX6_readInstruction_126 (Nat.le_of_ble_eq_true rfl) (vv_eq (ls' := [(0, .ref 142), (1, .int l1), (2, .int l2), (3, .int (1 : Int32)), (4, .int (1 : Int32)), (5, .int (1 : Int32))]) rfl ?_)
                refine vr_iload dX6_readInstruction_128 rfl ?_
                refine vr_if_eq dX6_readInstruction_130 (tgt := 157) rfl (fun c => absurd c (by decide)) (fun _ => ?_)
                refine vr_aload_n dX6_readInstruction_133 rfl rfl ?_
                refine vr_getR dX6_readInstruction_134 fl_LitmusTester_Parser_39 (wC_142 zw) (Or.inl ⟨_, rfl⟩) (wR_142_1 zw) ?_
                refine vr_iload_n dX6_readInstruction_137 rfl rfl ?_
                refine vr_aload_n dX6_readInstruction_138 rfl rfl ?_
                refine vr_getI dX6_readInstruction_139 fl_LitmusTester_Parser_18 (wC_142 zw) rfl ?_
                refine vr_aload_n dX6_readInstruction_142 rfl rfl ?_
                refine vr_getI dX6_readInstruction_143 fl_LitmusTester_Parser_21 (wC_142 zw) rfl ?_
                refine vr_aload_n dX6_readInstruction_146 rfl rfl ?_
                refine vr_getI dX6_readInstruction_147 fl_LitmusTester_Parser_24 (wC_142 zw) rfl ?_
                refine vr_aload_n dX6_readInstruction_150 rfl rfl ?_
                refine vr_getI dX6_readInstruction_151 fl_LitmusTester_Parser_27 (wC_142 zw) rfl ?_
                obtain ⟨s22, zw1, zf_23, zh⟩ := zh
                refine vc_V (As := [.int l2, .int (st_I s18 142 4), .int (st_I s18 142 5), .int (st_I s18 142 6), .int (st_I s18 142 7)]) (rest := []) dX6_readInstruction_154 cV_LitmusTester_Parser_163 (wC_137 zw) rfl rfl (Nat.le_of_ble_eq_true rfl) (Nat.le_of_ble_eq_true rfl) (co_v zf_23 ?_)
                replace zw := zw1
                refine vr_iload dX6_readInstruction_157 rfl ?_
                exact vr_zret dX6_readInstruction_159 rfl (Or.inr rfl) zh
          · replace zh := zh.2 zd_13
            refine vr_aload_n dX6_readInstruction_91 rfl rfl ?_
            obtain ⟨v26, s24, zw1, zf_25, zh⟩ := zh
            refine vc_V (As := []) (rest := []) dX6_readInstruction_92 cV_LitmusTester_Parser_157 (wC_142 zw) rfl rfl (Nat.le_of_ble_eq_true rfl) (Nat.le_of_ble_eq_true rfl) (co_n zf_25 ?_)
            replace zw := zw1
            refine vr_if_eq dX6_readInstruction_95 (tgt := 125) rfl (fun zd_27 => ?_) (fun zd_27 => ?_)
            · replace zh := zh.1 zd_27
              refine vr_iconst dX6_readInstruction_125 (v := (0 : Int32)) (by decide) ?_
              refine vr_istore dX6_readInstruction_126 (Nat.le_of_ble_eq_true rfl) (vv_eq (ls' := [(0, .ref 142), (1, .int l1), (2, .int l2), (3, .int (1 : Int32)), (4, .int (1 : Int32)), (5, .int (0 : Int32))]) rfl ?_)
              refine vr_iload dX6_readInstruction_128 rfl ?_
              refine vr_if_eq dX6_readInstruction_130 (tgt := 157) rfl (fun _ => ?_) (fun c => absurd (by decide) c)
              refine vr_iload dX6_readInstruction_157 rfl ?_
              exact vr_zret dX6_readInstruction_159 rfl (Or.inl rfl) zh
            · replace zh := zh.2 zd_27
              refine vr_iload dX6_readInstruction_98 rfl ?_
              refine vr_if_eq dX6_readInstruction_100 (tgt := 111) rfl (fun c => absurd c (by decide)) (fun _ => ?_)
              refine vr_aload_n dX6_readInstruction_103 rfl rfl ?_
              refine vr_iload_n dX6_readInstruction_104 rfl rfl ?_
              obtain ⟨v30, s28, zw1, zf_29, zh⟩ := zh
              refine vc_V (As := [.int l1]) (rest := []) dX6_readInstruction_105 cV_LitmusTester_Parser_160 (wC_142 zw) rfl rfl (Nat.le_of_ble_eq_true rfl) (Nat.le_of_ble_eq_true rfl) (co_n zf_29 ?_)
              replace zw := zw1
              refine vr_if_eq dX6_readInstruction_108 (tgt := 125) rfl (fun zd_31 => ?_) (fun zd_31 => ?_)
              · replace zh := zh.1 zd_31
                refine vr_iconst dX6_readInstruction_125 (v := (0 : Int32)) (by decide) ?_
                refine vr_istore dX6_readInstruction_126 (Nat.le_of_ble_eq_true rfl) (vv_eq (ls' := [(0, .ref 142), (1, .int l1), (2, .int l2), (3, .int (1 : Int32)), (4, .int (1 : Int32)), (5, .int (0 : Int32))]) rfl ?_)
                refine vr_iload dX6_readInstruction_128 rfl ?_
                refine vr_if_eq dX6_readInstruction_130 (tgt := 157) rfl (fun _ => ?_) (fun c => absurd (by decide) c)
                refine vr_iload dX6_readInstruction_157 rfl ?_
                exact vr_zret dX6_readInstruction_159 rfl (Or.inl rfl) zh
              · replace zh := zh.2 zd_31
                refine vr_aload_n dX6_readInstruction_111 rfl rfl ?_
                refine vr_getE dX6_readInstruction_112 (i := 15) (by decide) tw_658 ?_
                obtain ⟨v34, s32, zw1, zf_33, zh⟩ := zh
                refine vc_V (As := [.ref 15]) (rest := []) dX6_readInstruction_115 cV_LitmusTester_Parser_85 (wC_142 zw) rfl rfl (Nat.le_of_ble_eq_true rfl) (Nat.le_of_ble_eq_true rfl) (co_n zf_33 ?_)
                replace zw := zw1
                refine vr_if_eq dX6_readInstruction_118 (tgt := 125) rfl (fun zd_35 => ?_) (fun zd_35 => ?_)
                · replace zh := zh.1 zd_35
                  refine vr_iconst dX6_readInstruction_125 (v := (0 : Int32)) (by decide) ?_
                  refine vr_istore dX6_readInstruction_126 (Nat.le_of_ble_eq_true rfl) (vv_eq (ls' := [(0, .ref 142), (1, .int l1), (2, .int l2), (3, .int (1 : Int32)), (4, .int (1 : Int32)), (5, .int (0 : Int32))]) rfl ?_)
                  refine vr_iload dX6_readInstruction_128 rfl ?_
                  refine vr_if_eq dX6_readInstruction_130 (tgt := 157) rfl (fun _ => ?_) (fun c => absurd (by decide) c)
                  refine vr_iload dX6_readInstruction_157 rfl ?_
                  exact vr_zret dX6_readInstruction_159 rfl (Or.inl rfl) zh
                · replace zh := zh.2 zd_35
                  refine vr_iconst dX6_readInstruction_121 (v := (1 : Int32)) (by decide) ?_
                  refine vr_goto dX6_readInstruction_122 (tgt := 126) rfl ?_
                  refine vr_istore dX6_readInstruction_126 (Nat.le_of_ble_eq_true rfl) (vv_eq (ls' := [(0, .ref 142), (1, .int l1), (2, .int l2), (3, .int (1 : Int32)), (4, .int (1 : Int32)), (5, .int (1 : Int32))]) rfl ?_)
                  refine vr_iload dX6_readInstruction_128 rfl ?_
                  refine vr_if_eq dX6_readInstruction_130 (tgt := 157) rfl (fun c => absurd c (by decide)) (fun _ => ?_)
                  refine vr_aload_n dX6_readInstruction_133 rfl rfl ?_
                  refine vr_getR dX6_readInstruction_134 fl_LitmusTester_Parser_39 (wC_142 zw) (Or.inl ⟨_, rfl⟩) (wR_142_1 zw) ?_
                  refine vr_iload_n dX6_readInstruction_137 rfl rfl ?_
                  refine vr_aload_n dX6_readInstruction_138 rfl rfl ?_
                  refine vr_getI dX6_readInstruction_139 fl_LitmusTester_Parser_18 (wC_142 zw) rfl ?_
                  refine vr_aload_n dX6_readInstruction_142 rfl rfl ?_
                  refine vr_getI dX6_readInstruction_143 fl_LitmusTester_Parser_21 (wC_142 zw) rfl ?_
                  refine vr_aload_n dX6_readInstruction_146 rfl rfl ?_
                  refine vr_getI dX6_readInstruction_147 fl_LitmusTester_Parser_24 (wC_142 zw) rfl ?_
                  refine vr_aload_n dX6_readInstruction_150 rfl rfl ?_
                  refine vr_getI dX6_readInstruction_151 fl_LitmusTester_Parser_27 (wC_142 zw) rfl ?_
                  obtain ⟨s36, zw1, zf_37, zh⟩ := zh
                  refine vc_V (As := [.int l2, .int (st_I s32 142 4), .int (st_I s32 142 5), .int (st_I s32 142 6), .int (st_I s32 142 7)]) (rest := []) dX6_readInstruction_154 cV_LitmusTester_Parser_163 (wC_137 zw) rfl rfl (Nat.le_of_ble_eq_true rfl) (Nat.le_of_ble_eq_true rfl) (co_v zf_37 ?_)
                  replace zw := zw1
                  refine vr_iload dX6_readInstruction_157 rfl ?_
                  exact vr_zret dX6_readInstruction_159 rfl (Or.inr rfl) zh
      · replace zh := zh.2 zd_8
        refine vr_iload_n dX6_readInstruction_62 rfl rfl ?_
        refine vr_iconst dX6_readInstruction_63 (v := (2 : Int32)) (by decide) ?_
        refine vr_ic_ne dX6_readInstruction_64 (tgt := 71) rfl (fun zd_38 => ?_) (fun zd_38 => ?_)
        · replace zh := zh.2 zd_38
          refine vr_iconst dX6_readInstruction_71 (v := (0 : Int32)) (by decide) ?_
          refine vr_istore dX6_readInstruction_72 (Nat.le_of_ble_eq_true rfl) (vv_eq (ls' := [(0, .ref 142), (1, .int l1), (2, .int l2), (3, .int (1 : Int32)), (4, .int (0 : Int32))]) rfl ?_)
          refine vr_iload_n dX6_readInstruction_74 rfl rfl ?_
          refine vr_if_eq dX6_readInstruction_75 (tgt := 86) rfl (fun c => absurd c (by decide)) (fun _ => ?_)
          refine vr_aload_n dX6_readInstruction_78 rfl rfl ?_
          refine vr_iload_n dX6_readInstruction_79 rfl rfl ?_
          obtain ⟨v70, s68, zw1, zf_69, zh⟩ := zh
          refine vc_V (As := [.int l1]) (rest := []) dX6_readInstruction_80 cV_LitmusTester_Parser_154 (wC_142 zw) rfl rfl (Nat.le_of_ble_eq_true rfl) (Nat.le_of_ble_eq_true rfl) (co_n zf_69 ?_)
          replace zw := zw1
          refine vr_if_eq dX6_readInstruction_83 (tgt := 125) rfl (fun zd_71 => ?_) (fun zd_71 => ?_)
          · replace zh := zh.1 zd_71
            refine vr_iconst dX6_readInstruction_125 (v := (0 : Int32)) (by decide) ?_
            refine vr_istore dX6_readInstruction_126 (Nat.le_of_ble_eq_true rfl) (vv_eq (ls' := [(0, .ref 142), (1, .int l1), (2, .int l2), (3, .int (1 : Int32)), (4, .int (0 : Int32)), (5, .int (0 : Int32))]) rfl ?_)
            refine vr_iload dX6_readInstruction_128 rfl ?_
            refine vr_if_eq dX6_readInstruction_130 (tgt := 157) rfl (fun _ => ?_) (fun c => absurd (by decide) c)
            refine vr_iload dX6_readInstruction_157 rfl ?_
            exact vr_zret dX6_readInstruction_159 rfl (Or.inl rfl) zh
          · replace zh := zh.2 zd_71
            refine vr_iload_n dX6_readInstruction_86 rfl rfl ?_
            refine vr_iconst dX6_readInstruction_87 (v := (3 : Int32)) (by decide) ?_
            refine vr_ic_eq dX6_readInstruction_88 (tgt := 98) rfl (fun zd_72 => ?_) (fun zd_72 => ?_)
            · replace zh := zh.1 zd_72
              refine vr_iload dX6_readInstruction_98 rfl ?_
              refine vr_if_eq dX6_readInstruction_100 (tgt := 111) rfl (fun _ => ?_) (fun c => absurd (by decide) c)
              refine vr_aload_n dX6_readInstruction_111 rfl rfl ?_
              refine vr_getE dX6_readInstruction_112 (i := 15) (by decide) tw_658 ?_
              obtain ⟨v75, s73, zw1, zf_74, zh⟩ := zh
              refine vc_V (As := [.ref 15]) (rest := []) dX6_readInstruction_115 cV_LitmusTester_Parser_85 (wC_142 zw) rfl rfl (Nat.le_of_ble_eq_true rfl) (Nat.le_of_ble_eq_true rfl) (co_n zf_74 ?_)
              replace zw := zw1
              refine vr_if_eq dX6_readInstruction_118 (tgt := 125) rfl (fun zd_76 => ?_) (fun zd_76 => ?_)
              · replace zh := zh.1 zd_76
                refine vr_iconst dX6_readInstruction_125 (v := (0 : Int32)) (by decide) ?_
                refine vr_istore dX6_readInstruction_126 (Nat.le_of_ble_eq_true rfl) (vv_eq (ls' := [(0, .ref 142), (1, .int l1), (2, .int l2), (3, .int (1 : Int32)), (4, .int (0 : Int32)), (5, .int (0 : Int32))]) rfl ?_)
                refine vr_iload dX6_readInstruction_128 rfl ?_
                refine vr_if_eq dX6_readInstruction_130 (tgt := 157) rfl (fun _ => ?_) (fun c => absurd (by decide) c)
                refine vr_iload dX6_readInstruction_157 rfl ?_
                exact vr_zret dX6_readInstruction_159 rfl (Or.inl rfl) zh
              · replace zh := zh.2 zd_76
                refine vr_iconst dX6_readInstruction_121 (v := (1 : Int32)) (by decide) ?_
                refine vr_goto dX6_readInstruction_122 (tgt := 126) rfl ?_
                refine vr_istore dX6_readInstruction_126 (Nat.le_of_ble_eq_true rfl) (vv_eq (ls' := [(0, .ref 142), (1, .int l1), (2, .int l2), (3, .int (1 : Int32)), (4, .int (0 : Int32)), (5, .int (1 : Int32))]) rfl ?_)
                refine vr_iload dX6_readInstruction_128 rfl ?_
                refine vr_if_eq dX6_readInstruction_130 (tgt := 157) rfl (fun c => absurd c (by decide)) (fun _ => ?_)
                refine vr_aload_n dX6_readInstruction_133 rfl rfl ?_
                refine vr_getR dX6_readInstruction_134 fl_LitmusTester_Parser_39 (wC_142 zw) (Or.inl ⟨_, rfl⟩) (wR_142_1 zw) ?_
                refine vr_iload_n dX6_readInstruction_137 rfl rfl ?_
                refine vr_aload_n dX6_readInstruction_138 rfl rfl ?_
                refine vr_getI dX6_readInstruction_139 fl_LitmusTester_Parser_18 (wC_142 zw) rfl ?_
                refine vr_aload_n dX6_readInstruction_142 rfl rfl ?_
                refine vr_getI dX6_readInstruction_143 fl_LitmusTester_Parser_21 (wC_142 zw) rfl ?_
                refine vr_aload_n dX6_readInstruction_146 rfl rfl ?_
                refine vr_getI dX6_readInstruction_147 fl_LitmusTester_Parser_24 (wC_142 zw) rfl ?_
                refine vr_aload_n dX6_readInstruction_150 rfl rfl ?_
                refine vr_getI dX6_readInstruction_151 fl_LitmusTester_Parser_27 (wC_142 zw) rfl ?_
                obtain ⟨s77, zw1, zf_78, zh⟩ := zh
                refine vc_V (As := [.int l2, .int (st_I s73 142 4), .int (st_I s73 142 5), .int (st_I s73 142 6), .int (st_I s73 142 7)]) (rest := []) dX6_readInstruction_154 cV_LitmusTester_Parser_163 (wC_137 zw) rfl rfl (Nat.le_of_ble_eq_true rfl) (Nat.le_of_ble_eq_true rfl) (co_v zf_78 ?_)
                replace zw := zw1
                refine vr_iload dX6_readInstruction_157 rfl ?_
                exact vr_zret dX6_readInstruction_159 rfl (Or.inr rfl) zh
            · replace zh := zh.2 zd_72
              refine vr_aload_n dX6_readInstruction_91 rfl rfl ?_
              obtain ⟨v81, s79, zw1, zf_80, zh⟩ := zh
              refine vc_V (As := []) (rest := []) dX6_readInstruction_92 cV_LitmusTester_Parser_157 (wC_142 zw) rfl rfl (Nat.le_of_ble_eq_true rfl) (Nat.le_of_ble_eq_true rfl) (co_n zf_80 ?_)
              replace zw := zw1
              refine vr_if_eq dX6_readInstruction_95 (tgt := 125) rfl (fun zd_82 => ?_) (fun zd_82 => ?_)
              · replace zh := zh.1 zd_82
                refine vr_iconst dX6_readInstruction_125 (v := (0 : Int32)) (by decide) ?_
                refine vr_istore dX6_readInstruction_126 (Nat.le_of_ble_eq_true rfl) (vv_eq (ls' := [(0, .ref 142), (1, .int l1), (2, .int l2), (3, .int (1 : Int32)), (4, .int (0 : Int32)), (5, .int (0 : Int32))]) rfl ?_)
                refine vr_iload dX6_readInstruction_128 rfl ?_
                refine vr_if_eq dX6_readInstruction_130 (tgt := 157) rfl (fun _ => ?_) (fun c => absurd (by decide) c)
                refine vr_iload dX6_readInstruction_157 rfl ?_
                exact vr_zret dX6_readInstruction_159 rfl (Or.inl rfl) zh
              · replace zh := zh.2 zd_82
                refine vr_iload dX6_readInstruction_98 rfl ?_
                refine vr_if_eq dX6_readInstruction_100 (tgt := 111) rfl (fun _ => ?_) (fun c => absurd (by decide) c)
                refine vr_aload_n dX6_readInstruction_111 rfl rfl ?_
                refine vr_getE dX6_readInstruction_112 (i := 15) (by decide) tw_658 ?_
                obtain ⟨v85, s83, zw1, zf_84, zh⟩ := zh
                refine vc_V (As := [.ref 15]) (rest := []) dX6_readInstruction_115 cV_LitmusTester_Parser_85 (wC_142 zw) rfl rfl (Nat.le_of_ble_eq_true rfl) (Nat.le_of_ble_eq_true rfl) (co_n zf_84 ?_)
                replace zw := zw1
                refine vr_if_eq dX6_readInstruction_118 (tgt := 125) rfl (fun zd_86 => ?_) (fun zd_86 => ?_)
                · replace zh := zh.1 zd_86
                  refine vr_iconst dX6_readInstruction_125 (v := (0 : Int32)) (by decide) ?_
                  refine vr_istore dX6_readInstruction_126 (Nat.le_of_ble_eq_true rfl) (vv_eq (ls' := [(0, .ref 142), (1, .int l1), (2, .int l2), (3, .int (1 : Int32)), (4, .int (0 : Int32)), (5, .int (0 : Int32))]) rfl ?_)
                  refine vr_iload dX6_readInstruction_128 rfl ?_
                  refine vr_if_eq dX6_readInstruction_130 (tgt := 157) rfl (fun _ => ?_) (fun c => absurd (by decide) c)
                  refine vr_iload dX6_readInstruction_157 rfl ?_
                  exact vr_zret dX6_readInstruction_159 rfl (Or.inl rfl) zh
                · replace zh := zh.2 zd_86
                  refine vr_iconst dX6_readInstruction_121 (v := (1 : Int32)) (by decide) ?_
                  refine vr_goto dX6_readInstruction_122 (tgt := 126) rfl ?_
                  refine vr_istore dX6_readInstruction_126 (Nat.le_of_ble_eq_true rfl) (vv_eq (ls' := [(0, .ref 142), (1, .int l1), (2, .int l2), (3, .int (1 : Int32)), (4, .int (0 : Int32)), (5, .int (1 : Int32))]) rfl ?_)
                  refine vr_iload dX6_readInstruction_128 rfl ?_
                  refine vr_if_eq dX6_readInstruction_130 (tgt := 157) rfl (fun c => absurd c (by decide)) (fun _ => ?_)
                  refine vr_aload_n dX6_readInstruction_133 rfl rfl ?_
                  refine vr_getR dX6_readInstruction_134 fl_LitmusTester_Parser_39 (wC_142 zw) (Or.inl ⟨_, rfl⟩) (wR_142_1 zw) ?_
                  refine vr_iload_n dX6_readInstruction_137 rfl rfl ?_
                  refine vr_aload_n dX6_readInstruction_138 rfl rfl ?_
                  refine vr_getI dX6_readInstruction_139 fl_LitmusTester_Parser_18 (wC_142 zw) rfl ?_
                  refine vr_aload_n dX6_readInstruction_142 rfl rfl ?_
                  refine vr_getI dX6_readInstruction_143 fl_LitmusTester_Parser_21 (wC_142 zw) rfl ?_
                  refine vr_aload_n dX6_readInstruction_146 rfl rfl ?_
                  refine vr_getI dX6_readInstruction_147 fl_LitmusTester_Parser_24 (wC_142 zw) rfl ?_
                  refine vr_aload_n dX6_readInstruction_150 rfl rfl ?_
                  refine vr_getI dX6_readInstruction_151 fl_LitmusTester_Parser_27 (wC_142 zw) rfl ?_
                  obtain ⟨s87, zw1, zf_88, zh⟩ := zh
                  refine vc_V (As := [.int l2, .int (st_I s83 142 4), .int (st_I s83 142 5), .int (st_I s83 142 6), .int (st_I s83 142 7)]) (rest := []) dX6_readInstruction_154 cV_LitmusTester_Parser_163 (wC_137 zw) rfl rfl (Nat.le_of_ble_eq_true rfl) (Nat.le_of_ble_eq_true rfl) (co_v zf_88 ?_)
                  replace zw := zw1
                  refine vr_iload dX6_readInstruction_157 rfl ?_
                  exact vr_zret dX6_readInstruction_159 rfl (Or.inr rfl) zh
        · replace zh := zh.1 zd_38
          refine vr_iconst dX6_readInstruction_67 (v := (1 : Int32)) (by decide) ?_
          refine vr_goto dX6_readInstruction_68 (tgt := 72) rfl ?_
          refine vr_istore dX6_readInstruction_72 (Nat.le_of_ble_eq_true rfl) (vv_eq (ls' := [(0, .ref 142), (1, .int l1), (2, .int l2), (3, .int (1 : Int32)), (4, .int (1 : Int32))]) rfl ?_)
          refine vr_iload_n dX6_readInstruction_74 rfl rfl ?_
          refine vr_if_eq dX6_readInstruction_75 (tgt := 86) rfl (fun c => absurd c (by decide)) (fun _ => ?_)
          refine vr_aload_n dX6_readInstruction_78 rfl rfl ?_
          refine vr_iload_n dX6_readInstruction_79 rfl rfl ?_
          obtain ⟨v41, s39, zw1, zf_40, zh⟩ := zh
          refine vc_V (As := [.int l1]) (rest := []) dX6_readInstruction_80 cV_LitmusTester_Parser_154 (wC_142 zw) rfl rfl (Nat.le_of_ble_eq_true rfl) (Nat.le_of_ble_eq_true rfl) (co_n zf_40 ?_)
          replace zw := zw1
          refine vr_if_eq dX6_readInstruction_83 (tgt := 125) rfl (fun zd_42 => ?_) (fun zd_42 => ?_)
          · replace zh := zh.1 zd_42
            refine vr_iconst dX6_readInstruction_125 (v := (0 : Int32)) (by decide) ?_
            refine vr_istore dX6_readInstruction_126 (Nat.le_of_ble_eq_true rfl) (vv_eq (ls' := [(0, .ref 142), (1, .int l1), (2, .int l2), (3, .int (1 : Int32)), (4, .int (1 : Int32)), (5, .int (0 : Int32))]) rfl ?_)
            refine vr_iload dX6_readInstruction_128 rfl ?_
            refine vr_if_eq dX6_readInstruction_130 (tgt := 157) rfl (fun _ => ?_) (fun c => absurd (by decide) c)
            refine vr_iload dX6_readInstruction_157 rfl ?_
            exact vr_zret dX6_readInstruction_159 rfl (Or.inl rfl) zh
          · replace zh := zh.2 zd_42
            refine vr_iload_n dX6_readInstruction_86 rfl rfl ?_
            refine vr_iconst dX6_readInstruction_87 (v := (3 : Int32)) (by decide) ?_
            refine vr_ic_eq dX6_readInstruction_88 (tgt := 98) rfl (fun zd_43 => ?_) (fun zd_43 => ?_)
            · replace zh := zh.1 zd_43
              refine vr_iload dX6_readInstruction_98 rfl ?_
              refine vr_if_eq dX6_readInstruction_100 (tgt := 111) rfl (fun c => absurd c (by decide)) (fun _ => ?_)
              refine vr_aload_n dX6_readInstruction_103 rfl rfl ?_
              refine vr_iload_n dX6_readInstruction_104 rfl rfl ?_
              obtain ⟨v46, s44, zw1, zf_45, zh⟩ := zh
              refine vc_V (As := [.int l1]) (rest := []) dX6_readInstruction_105 cV_LitmusTester_Parser_160 (wC_142 zw) rfl rfl (Nat.le_of_ble_eq_true rfl) (Nat.le_of_ble_eq_true rfl) (co_n zf_45 ?_)
              replace zw := zw1
              refine vr_if_eq dX6_readInstruction_108 (tgt := 125) rfl (fun zd_47 => ?_) (fun zd_47 => ?_)
              · replace zh := zh.1 zd_47
                refine vr_iconst dX6_readInstruction_125 (v := (0 : Int32)) (by decide) ?_
                refine vr_istore dX6_readInstruction_126 (Nat.le_of_ble_eq_true rfl) (vv_eq (ls' := [(0, .ref 142), (1, .int l1), (2, .int l2), (3, .int (1 : Int32)), (4, .int (1 : Int32)), (5, .int (0 : Int32))]) rfl ?_)
                refine vr_iload dX6_readInstruction_128 rfl ?_
                refine vr_if_eq dX6_readInstruction_130 (tgt := 157) rfl (fun _ => ?_) (fun c => absurd (by decide) c)
                refine vr_iload dX6_readInstruction_157 rfl ?_
                exact vr_zret dX6_readInstruction_159 rfl (Or.inl rfl) zh
              · replace zh := zh.2 zd_47
                refine vr_aload_n dX6_readInstruction_111 rfl rfl ?_
                refine vr_getE dX6_readInstruction_112 (i := 15) (by decide) tw_658 ?_
                obtain ⟨v50, s48, zw1, zf_49, zh⟩ := zh
                refine vc_V (As := [.ref 15]) (rest := []) dX6_readInstruction_115 cV_LitmusTester_Parser_85 (wC_142 zw) rfl rfl (Nat.le_of_ble_eq_true rfl) (Nat.le_of_ble_eq_true rfl) (co_n zf_49 ?_)
                replace zw := zw1
                refine vr_if_eq dX6_readInstruction_118 (tgt := 125) rfl (fun zd_51 => ?_) (fun zd_51 => ?_)
                · replace zh := zh.1 zd_51
                  refine vr_iconst dX6_readInstruction_125 (v := (0 : Int32)) (by decide) ?_
                  refine vr_istore dX6_readInstruction_126 (Nat.le_of_ble_eq_true rfl) (vv_eq (ls' := [(0, .ref 142), (1, .int l1), (2, .int l2), (3, .int (1 : Int32)), (4, .int (1 : Int32)), (5, .int (0 : Int32))]) rfl ?_)
                  refine vr_iload dX6_readInstruction_128 rfl ?_
                  refine vr_if_eq dX6_readInstruction_130 (tgt := 157) rfl (fun _ => ?_) (fun c => absurd (by decide) c)
                  refine vr_iload dX6_readInstruction_157 rfl ?_
                  exact vr_zret dX6_readInstruction_159 rfl (Or.inl rfl) zh
                · replace zh := zh.2 zd_51
                  refine vr_iconst dX6_readInstruction_121 (v := (1 : Int32)) (by decide) ?_
                  refine vr_goto dX6_readInstruction_122 (tgt := 126) rfl ?_
                  refine vr_istore dX6_readInstruction_126 (Nat.le_of_ble_eq_true rfl) (vv_eq (ls' := [(0, .ref 142), (1, .int l1), (2, .int l2), (3, .int (1 : Int32)), (4, .int (1 : Int32)), (5, .int (1 : Int32))]) rfl ?_)
                  refine vr_iload dX6_readInstruction_128 rfl ?_
                  refine vr_if_eq dX6_readInstruction_130 (tgt := 157) rfl (fun c => absurd c (by decide)) (fun _ => ?_)
                  refine vr_aload_n dX6_readInstruction_133 rfl rfl ?_
                  refine vr_getR dX6_readInstruction_134 fl_LitmusTester_Parser_39 (wC_142 zw) (Or.inl ⟨_, rfl⟩) (wR_142_1 zw) ?_
                  refine vr_iload_n dX6_readInstruction_137 rfl rfl ?_
                  refine vr_aload_n dX6_readInstruction_138 rfl rfl ?_
                  refine vr_getI dX6_readInstruction_139 fl_LitmusTester_Parser_18 (wC_142 zw) rfl ?_
                  refine vr_aload_n dX6_readInstruction_142 rfl rfl ?_
                  refine vr_getI dX6_readInstruction_143 fl_LitmusTester_Parser_21 (wC_142 zw) rfl ?_
                  refine vr_aload_n dX6_readInstruction_146 rfl rfl ?_
                  refine vr_getI dX6_readInstruction_147 fl_LitmusTester_Parser_24 (wC_142 zw) rfl ?_
                  refine vr_aload_n dX6_readInstruction_150 rfl rfl ?_
                  refine vr_getI dX6_readInstruction_151 fl_LitmusTester_Parser_27 (wC_142 zw) rfl ?_
                  obtain ⟨s52, zw1, zf_53, zh⟩ := zh
                  refine vc_V (As := [.int l2, .int (st_I s48 142 4), .int (st_I s48 142 5), .int (st_I s48 142 6), .int (st_I s48 142 7)]) (rest := []) dX6_readInstruction_154 cV_LitmusTester_Parser_163 (wC_137 zw) rfl rfl (Nat.le_of_ble_eq_true rfl) (Nat.le_of_ble_eq_true rfl) (co_v zf_53 ?_)
                  replace zw := zw1
                  refine vr_iload dX6_readInstruction_157 rfl ?_
                  exact vr_zret dX6_readInstruction_159 rfl (Or.inr rfl) zh
            · replace zh := zh.2 zd_43
              refine vr_aload_n dX6_readInstruction_91 rfl rfl ?_
              obtain ⟨v56, s54, zw1, zf_55, zh⟩ := zh
              refine vc_V (As := []) (rest := []) dX6_readInstruction_92 cV_LitmusTester_Parser_157 (wC_142 zw) rfl rfl (Nat.le_of_ble_eq_true rfl) (Nat.le_of_ble_eq_true rfl) (co_n zf_55 ?_)
              replace zw := zw1
              refine vr_if_eq dX6_readInstruction_95 (tgt := 125) rfl (fun zd_57 => ?_) (fun zd_57 => ?_)
              · replace zh := zh.1 zd_57
                refine vr_iconst dX6_readInstruction_125 (v := (0 : Int32)) (by decide) ?_
                refine vr_istore dX6_readInstruction_126 (Nat.le_of_ble_eq_true rfl) (vv_eq (ls' := [(0, .ref 142), (1, .int l1), (2, .int l2), (3, .int (1 : Int32)), (4, .int (1 : Int32)), (5, .int (0 : Int32))]) rfl ?_)
                refine vr_iload dX6_readInstruction_128 rfl ?_
                refine vr_if_eq dX6_readInstruction_130 (tgt := 157) rfl (fun _ => ?_) (fun c => absurd (by decide) c)
                refine vr_iload dX6_readInstruction_157 rfl ?_
                exact vr_zret dX6_readInstruction_159 rfl (Or.inl rfl) zh
              · replace zh := zh.2 zd_57
                refine vr_iload dX6_readInstruction_98 rfl ?_
                refine vr_if_eq dX6_readInstruction_100 (tgt := 111) rfl (fun c => absurd c (by decide)) (fun _ => ?_)
                refine vr_aload_n dX6_readInstruction_103 rfl rfl ?_
                refine vr_iload_n dX6_readInstruction_104 rfl rfl ?_
                obtain ⟨v60, s58, zw1, zf_59, zh⟩ := zh
                refine vc_V (As := [.int l1]) (rest := []) dX6_readInstruction_105 cV_LitmusTester_Parser_160 (wC_142 zw) rfl rfl (Nat.le_of_ble_eq_true rfl) (Nat.le_of_ble_eq_true rfl) (co_n zf_59 ?_)
                replace zw := zw1
                refine vr_if_eq dX6_readInstruction_108 (tgt := 125) rfl (fun zd_61 => ?_) (fun zd_61 => ?_)
                · replace zh := zh.1 zd_61
                  refine vr_iconst dX6_readInstruction_125 (v := (0 : Int32)) (by decide) ?_
                  refine vr_istore dX6_readInstruction_126 (Nat.le_of_ble_eq_true rfl) (vv_eq (ls' := [(0, .ref 142), (1, .int l1), (2, .int l2), (3, .int (1 : Int32)), (4, .int (1 : Int32)), (5, .int (0 : Int32))]) rfl ?_)
                  refine vr_iload dX6_readInstruction_128 rfl ?_
                  refine vr_if_eq dX6_readInstruction_130 (tgt := 157) rfl (fun _ => ?_) (fun c => absurd (by decide) c)
                  refine vr_iload dX6_readInstruction_157 rfl ?_
                  exact vr_zret dX6_readInstruction_159 rfl (Or.inl rfl) zh
                · replace zh := zh.2 zd_61
                  refine vr_aload_n dX6_readInstruction_111 rfl rfl ?_
                  refine vr_getE dX6_readInstruction_112 (i := 15) (by decide) tw_658 ?_
                  obtain ⟨v64, s62, zw1, zf_63, zh⟩ := zh
                  refine vc_V (As := [.ref 15]) (rest := []) dX6_readInstruction_115 cV_LitmusTester_Parser_85 (wC_142 zw) rfl rfl (Nat.le_of_ble_eq_true rfl) (Nat.le_of_ble_eq_true rfl) (co_n zf_63 ?_)
                  replace zw := zw1
                  refine vr_if_eq dX6_readInstruction_118 (tgt := 125) rfl (fun zd_65 => ?_) (fun zd_65 => ?_)
                  · replace zh := zh.1 zd_65
                    refine vr_iconst dX6_readInstruction_125 (v := (0 : Int32)) (by decide) ?_
                    refine vr_istore dX6_readInstruction_126 (Nat.le_of_ble_eq_true rfl) (vv_eq (ls' := [(0, .ref 142), (1, .int l1), (2, .int l2), (3, .int (1 : Int32)), (4, .int (1 : Int32)), (5, .int (0 : Int32))]) rfl ?_)
                    refine vr_iload dX6_readInstruction_128 rfl ?_
                    refine vr_if_eq dX6_readInstruction_130 (tgt := 157) rfl (fun _ => ?_) (fun c => absurd (by decide) c)
                    refine vr_iload dX6_readInstruction_157 rfl ?_
                    exact vr_zret dX6_readInstruction_159 rfl (Or.inl rfl) zh
                  · replace zh := zh.2 zd_65
                    refine vr_iconst dX6_readInstruction_121 (v := (1 : Int32)) (by decide) ?_
                    refine vr_goto dX6_readInstruction_122 (tgt := 126) rfl ?_
                    refine vr_istore dX6_readInstruction_126 (Nat.le_of_ble_eq_true rfl) (vv_eq (ls' := [(0, .ref 142), (1, .int l1), (2, .int l2), (3, .int (1 : Int32)), (4, .int (1 : Int32)), (5, .int (1 : Int32))]) rfl ?_)
                    refine vr_iload dX6_readInstruction_128 rfl ?_
                    refine vr_if_eq dX6_readInstruction_130 (tgt := 157) rfl (fun c => absurd c (by decide)) (fun _ => ?_)
                    refine vr_aload_n dX6_readInstruction_133 rfl rfl ?_
                    refine vr_getR dX6_readInstruction_134 fl_LitmusTester_Parser_39 (wC_142 zw) (Or.inl ⟨_, rfl⟩) (wR_142_1 zw) ?_
                    refine vr_iload_n dX6_readInstruction_137 rfl rfl ?_
                    refine vr_aload_n dX6_readInstruction_138 rfl rfl ?_
                    refine vr_getI dX6_readInstruction_139 fl_LitmusTester_Parser_18 (wC_142 zw) rfl ?_
                    refine vr_aload_n dX6_readInstruction_142 rfl rfl ?_
                    refine vr_getI dX6_readInstruction_143 fl_LitmusTester_Parser_21 (wC_142 zw) rfl ?_
                    refine vr_aload_n dX6_readInstruction_146 rfl rfl ?_
                    refine vr_getI dX6_readInstruction_147 fl_LitmusTester_Parser_24 (wC_142 zw) rfl ?_
                    refine vr_aload_n dX6_readInstruction_150 rfl rfl ?_
                    refine vr_getI dX6_readInstruction_151 fl_LitmusTester_Parser_27 (wC_142 zw) rfl ?_
                    obtain ⟨s66, zw1, zf_67, zh⟩ := zh
                    refine vc_V (As := [.int l2, .int (st_I s62 142 4), .int (st_I s62 142 5), .int (st_I s62 142 6), .int (st_I s62 142 7)]) (rest := []) dX6_readInstruction_154 cV_LitmusTester_Parser_163 (wC_137 zw) rfl rfl (Nat.le_of_ble_eq_true rfl) (Nat.le_of_ble_eq_true rfl) (co_v zf_67 ?_)
                    replace zw := zw1
                    refine vr_iload dX6_readInstruction_157 rfl ?_
                    exact vr_zret dX6_readInstruction_159 rfl (Or.inr rfl) zh
    · replace zh := zh.2 zd_7
      refine vr_iload_n dX6_readInstruction_47 rfl rfl ?_
      refine vr_iconst dX6_readInstruction_48 (v := (2 : Int32)) (by decide) ?_
      refine vr_ic_ne dX6_readInstruction_49 (tgt := 56) rfl (fun zd_89 => ?_) (fun zd_89 => ?_)
      · replace zh := zh.2 zd_89
        refine vr_iconst dX6_readInstruction_56 (v := (0 : Int32)) (by decide) ?_
        refine vr_istore_n dX6_readInstruction_57 rfl (Nat.le_of_ble_eq_true rfl) (vv_eq (ls' := [(0, .ref 142), (1, .int l1), (2, .int l2), (3, .int (0 : Int32))]) rfl ?_)
        refine vr_iload_n dX6_readInstruction_58 rfl rfl ?_
        refine vr_if_eq dX6_readInstruction_59 (tgt := 67) rfl (fun zd_171 => ?_) (fun zd_171 => ?_)
        · replace zh := zh.1 zd_171
          refine vr_iconst dX6_readInstruction_67 (v := (1 : Int32)) (by decide) ?_
          refine vr_goto dX6_readInstruction_68 (tgt := 72) rfl ?_
          refine vr_istore dX6_readInstruction_72 (Nat.le_of_ble_eq_true rfl) (vv_eq (ls' := [(0, .ref 142), (1, .int l1), (2, .int l2), (3, .int (0 : Int32)), (4, .int (1 : Int32))]) rfl ?_)
          refine vr_iload_n dX6_readInstruction_74 rfl rfl ?_
          refine vr_if_eq dX6_readInstruction_75 (tgt := 86) rfl (fun _ => ?_) (fun c => absurd (by decide) c)
          refine vr_iload_n dX6_readInstruction_86 rfl rfl ?_
          refine vr_iconst dX6_readInstruction_87 (v := (3 : Int32)) (by decide) ?_
          refine vr_ic_eq dX6_readInstruction_88 (tgt := 98) rfl (fun zd_172 => ?_) (fun zd_172 => ?_)
          · replace zh := zh.1 zd_172
            refine vr_iload dX6_readInstruction_98 rfl ?_
            refine vr_if_eq dX6_readInstruction_100 (tgt := 111) rfl (fun c => absurd c (by decide)) (fun _ => ?_)
            refine vr_aload_n dX6_readInstruction_103 rfl rfl ?_
            refine vr_iload_n dX6_readInstruction_104 rfl rfl ?_
            obtain ⟨v175, s173, zw1, zf_174, zh⟩ := zh
            refine vc_V (As := [.int l1]) (rest := []) dX6_readInstruction_105 cV_LitmusTester_Parser_160 (wC_142 zw) rfl rfl (Nat.le_of_ble_eq_true rfl) (Nat.le_of_ble_eq_true rfl) (co_n zf_174 ?_)
            replace zw := zw1
            refine vr_if_eq dX6_readInstruction_108 (tgt := 125) rfl (fun zd_176 => ?_) (fun zd_176 => ?_)
            · replace zh := zh.1 zd_176
              refine vr_iconst dX6_readInstruction_125 (v := (0 : Int32)) (by decide) ?_
              refine vr_istore dX6_readInstruction_126 (Nat.le_of_ble_eq_true rfl) (vv_eq (ls' := [(0, .ref 142), (1, .int l1), (2, .int l2), (3, .int (0 : Int32)), (4, .int (1 : Int32)), (5, .int (0 : Int32))]) rfl ?_)
              refine vr_iload dX6_readInstruction_128 rfl ?_
              refine vr_if_eq dX6_readInstruction_130 (tgt := 157) rfl (fun _ => ?_) (fun c => absurd (by decide) c)
              refine vr_iload dX6_readInstruction_157 rfl ?_
              exact vr_zret dX6_readInstruction_159 rfl (Or.inl rfl) zh
            · replace zh := zh.2 zd_176
              refine vr_aload_n dX6_readInstruction_111 rfl rfl ?_
              refine vr_getE dX6_readInstruction_112 (i := 15) (by decide) tw_658 ?_
              obtain ⟨v179, s177, zw1, zf_178, zh⟩ := zh
              refine vc_V (As := [.ref 15]) (rest := []) dX6_readInstruction_115 cV_LitmusTester_Parser_85 (wC_142 zw) rfl rfl (Nat.le_of_ble_eq_true rfl) (Nat.le_of_ble_eq_true rfl) (co_n zf_178 ?_)
              replace zw := zw1
              refine vr_if_eq dX6_readInstruction_118 (tgt := 125) rfl (fun zd_180 => ?_) (fun zd_180 => ?_)
              · replace zh := zh.1 zd_180
                refine vr_iconst dX6_readInstruction_125 (v := (0 : Int32)) (by decide) ?_
                refine vr_istore dX6_readInstruction_126 (Nat.le_of_ble_eq_true rfl) (vv_eq (ls' := [(0, .ref 142), (1, .int l1), (2, .int l2), (3, .int (0 : Int32)), (4, .int (1 : Int32)), (5, .int (0 : Int32))]) rfl ?_)
                refine vr_iload dX6_readInstruction_128 rfl ?_
                refine vr_if_eq dX6_readInstruction_130 (tgt := 157) rfl (fun _ => ?_) (fun c => absurd (by decide) c)
                refine vr_iload dX6_readInstruction_157 rfl ?_
                exact vr_zret dX6_readInstruction_159 rfl (Or.inl rfl) zh
              · replace zh := zh.2 zd_180
                refine vr_iconst dX6_readInstruction_121 (v := (1 : Int32)) (by decide) ?_
                refine vr_goto dX6_readInstruction_122 (tgt := 126) rfl ?_
                refine vr_istore dX6_readInstruction_126 (Nat.le_of_ble_eq_true rfl) (vv_eq (ls' := [(0, .ref 142), (1, .int l1), (2, .int l2), (3, .int (0 : Int32)), (4, .int (1 : Int32)), (5, .int (1 : Int32))]) rfl ?_)
                refine vr_iload dX6_readInstruction_128 rfl ?_
                refine vr_if_eq dX6_readInstruction_130 (tgt := 157) rfl (fun c => absurd c (by decide)) (fun _ => ?_)
                refine vr_aload_n dX6_readInstruction_133 rfl rfl ?_
                refine vr_getR dX6_readInstruction_134 fl_LitmusTester_Parser_39 (wC_142 zw) (Or.inl ⟨_, rfl⟩) (wR_142_1 zw) ?_
                refine vr_iload_n dX6_readInstruction_137 rfl rfl ?_
                refine vr_aload_n dX6_readInstruction_138 rfl rfl ?_
                refine vr_getI dX6_readInstruction_139 fl_LitmusTester_Parser_18 (wC_142 zw) rfl ?_
                refine vr_aload_n dX6_readInstruction_142 rfl rfl ?_
                refine vr_getI dX6_readInstruction_143 fl_LitmusTester_Parser_21 (wC_142 zw) rfl ?_
                refine vr_aload_n dX6_readInstruction_146 rfl rfl ?_
                refine vr_getI dX6_readInstruction_147 fl_LitmusTester_Parser_24 (wC_142 zw) rfl ?_
                refine vr_aload_n dX6_readInstruction_150 rfl rfl ?_
                refine vr_getI dX6_readInstruction_151 fl_LitmusTester_Parser_27 (wC_142 zw) rfl ?_
                obtain ⟨s181, zw1, zf_182, zh⟩ := zh
                refine vc_V (As := [.int l2, .int (st_I s177 142 4), .int (st_I s177 142 5), .int (st_I s177 142 6), .int (st_I s177 142 7)]) (rest := []) dX6_readInstruction_154 cV_LitmusTester_Parser_163 (wC_137 zw) rfl rfl (Nat.le_of_ble_eq_true rfl) (Nat.le_of_ble_eq_true rfl) (co_v zf_182 ?_)
                replace zw := zw1
                refine vr_iload dX6_readInstruction_157 rfl ?_
                exact vr_zret dX6_readInstruction_159 rfl (Or.inr rfl) zh
          · replace zh := zh.2 zd_172
            refine vr_aload_n dX6_readInstruction_91 rfl rfl ?_
            obtain ⟨v185, s183, zw1, zf_184, zh⟩ := zh
            refine vc_V (As := []) (rest := []) dX6_readInstruction_92 cV_LitmusTester_Parser_157 (wC_142 zw) rfl rfl (Nat.le_of_ble_eq_true rfl) (Nat.le_of_ble_eq_true rfl) (co_n zf_184 ?_)
            replace zw := zw1
            refine vr_if_eq dX6_readInstruction_95 (tgt := 125) rfl (fun zd_186 => ?_) (fun zd_186 => ?_)
            · replace zh := zh.1 zd_186
              refine vr_iconst dX6_readInstruction_125 (v := (0 : Int32)) (by decide) ?_
              refine vr_istore dX6_readInstruction_126 (Nat.le_of_ble_eq_true rfl) (vv_eq (ls' := [(0, .ref 142), (1, .int l1), (2, .int l2), (3, .int (0 : Int32)), (4, .int (1 : Int32)), (5, .int (0 : Int32))]) rfl ?_)
              refine vr_iload dX6_readInstruction_128 rfl ?_
              refine vr_if_eq dX6_readInstruction_130 (tgt := 157) rfl (fun _ => ?_) (fun c => absurd (by decide) c)
              refine vr_iload dX6_readInstruction_157 rfl ?_
              exact vr_zret dX6_readInstruction_159 rfl (Or.inl rfl) zh
            · replace zh := zh.2 zd_186
              refine vr_iload dX6_readInstruction_98 rfl ?_
              refine vr_if_eq dX6_readInstruction_100 (tgt := 111) rfl (fun c => absurd c (by decide)) (fun _ => ?_)
              refine vr_aload_n dX6_readInstruction_103 rfl rfl ?_
              refine vr_iload_n dX6_readInstruction_104 rfl rfl ?_
              obtain ⟨v189, s187, zw1, zf_188, zh⟩ := zh
              refine vc_V (As := [.int l1]) (rest := []) dX6_readInstruction_105 cV_LitmusTester_Parser_160 (wC_142 zw) rfl rfl (Nat.le_of_ble_eq_true rfl) (Nat.le_of_ble_eq_true rfl) (co_n zf_188 ?_)
              replace zw := zw1
              refine vr_if_eq dX6_readInstruction_108 (tgt := 125) rfl (fun zd_190 => ?_) (fun zd_190 => ?_)
              · replace zh := zh.1 zd_190
                refine vr_iconst dX6_readInstruction_125 (v := (0 : Int32)) (by decide) ?_
                refine vr_istore dX6_readInstruction_126 (Nat.le_of_ble_eq_true rfl) (vv_eq (ls' := [(0, .ref 142), (1, .int l1), (2, .int l2), (3, .int (0 : Int32)), (4, .int (1 : Int32)), (5, .int (0 : Int32))]) rfl ?_)
                refine vr_iload dX6_readInstruction_128 rfl ?_
                refine vr_if_eq dX6_readInstruction_130 (tgt := 157) rfl (fun _ => ?_) (fun c => absurd (by decide) c)
                refine vr_iload dX6_readInstruction_157 rfl ?_
                exact vr_zret dX6_readInstruction_159 rfl (Or.inl rfl) zh
              · replace zh := zh.2 zd_190
                refine vr_aload_n dX6_readInstruction_111 rfl rfl ?_
                refine vr_getE dX6_readInstruction_112 (i := 15) (by decide) tw_658 ?_
                obtain ⟨v193, s191, zw1, zf_192, zh⟩ := zh
                refine vc_V (As := [.ref 15]) (rest := []) dX6_readInstruction_115 cV_LitmusTester_Parser_85 (wC_142 zw) rfl rfl (Nat.le_of_ble_eq_true rfl) (Nat.le_of_ble_eq_true rfl) (co_n zf_192 ?_)
                replace zw := zw1
                refine vr_if_eq dX6_readInstruction_118 (tgt := 125) rfl (fun zd_194 => ?_) (fun zd_194 => ?_)
                · replace zh := zh.1 zd_194
                  refine vr_iconst dX6_readInstruction_125 (v := (0 : Int32)) (by decide) ?_
                  refine vr_istore dX6_readInstruction_126 (Nat.le_of_ble_eq_true rfl) (vv_eq (ls' := [(0, .ref 142), (1, .int l1), (2, .int l2), (3, .int (0 : Int32)), (4, .int (1 : Int32)), (5, .int (0 : Int32))]) rfl ?_)
                  refine vr_iload dX6_readInstruction_128 rfl ?_
                  refine vr_if_eq dX6_readInstruction_130 (tgt := 157) rfl (fun _ => ?_) (fun c => absurd (by decide) c)
                  refine vr_iload dX6_readInstruction_157 rfl ?_
                  exact vr_zret dX6_readInstruction_159 rfl (Or.inl rfl) zh
                · replace zh := zh.2 zd_194
                  refine vr_iconst dX6_readInstruction_121 (v := (1 : Int32)) (by decide) ?_
                  refine vr_goto dX6_readInstruction_122 (tgt := 126) rfl ?_
                  refine vr_istore dX6_readInstruction_126 (Nat.le_of_ble_eq_true rfl) (vv_eq (ls' := [(0, .ref 142), (1, .int l1), (2, .int l2), (3, .int (0 : Int32)), (4, .int (1 : Int32)), (5, .int (1 : Int32))]) rfl ?_)
                  refine vr_iload dX6_readInstruction_128 rfl ?_
                  refine vr_if_eq dX6_readInstruction_130 (tgt := 157) rfl (fun c => absurd c (by decide)) (fun _ => ?_)
                  refine vr_aload_n dX6_readInstruction_133 rfl rfl ?_
                  refine vr_getR dX6_readInstruction_134 fl_LitmusTester_Parser_39 (wC_142 zw) (Or.inl ⟨_, rfl⟩) (wR_142_1 zw) ?_
                  refine vr_iload_n dX6_readInstruction_137 rfl rfl ?_
                  refine vr_aload_n dX6_readInstruction_138 rfl rfl ?_
                  refine vr_getI dX6_readInstruction_139 fl_LitmusTester_Parser_18 (wC_142 zw) rfl ?_
                  refine vr_aload_n dX6_readInstruction_142 rfl rfl ?_
                  refine vr_getI dX6_readInstruction_143 fl_LitmusTester_Parser_21 (wC_142 zw) rfl ?_
                  refine vr_aload_n dX6_readInstruction_146 rfl rfl ?_
                  refine vr_getI dX6_readInstruction_147 fl_LitmusTester_Parser_24 (wC_142 zw) rfl ?_
                  refine vr_aload_n dX6_readInstruction_150 rfl rfl ?_
                  refine vr_getI dX6_readInstruction_151 fl_LitmusTester_Parser_27 (wC_142 zw) rfl ?_
                  obtain ⟨s195, zw1, zf_196, zh⟩ := zh
                  refine vc_V (As := [.int l2, .int (st_I s191 142 4), .int (st_I s191 142 5), .int (st_I s191 142 6), .int (st_I s191 142 7)]) (rest := []) dX6_readInstruction_154 cV_LitmusTester_Parser_163 (wC_137 zw) rfl rfl (Nat.le_of_ble_eq_true rfl) (Nat.le_of_ble_eq_true rfl) (co_v zf_196 ?_)
                  replace zw := zw1
                  refine vr_iload dX6_readInstruction_157 rfl ?_
                  exact vr_zret dX6_readInstruction_159 rfl (Or.inr rfl) zh
        · replace zh := zh.2 zd_171
          refine vr_iload_n dX6_readInstruction_62 rfl rfl ?_
          refine vr_iconst dX6_readInstruction_63 (v := (2 : Int32)) (by decide) ?_
          refine vr_ic_ne dX6_readInstruction_64 (tgt := 71) rfl (fun zd_197 => ?_) (fun zd_197 => ?_)
          · replace zh := zh.2 zd_197
            refine vr_iconst dX6_readInstruction_71 (v := (0 : Int32)) (by decide) ?_
            refine vr_istore dX6_readInstruction_72 (Nat.le_of_ble_eq_true rfl) (vv_eq (ls' := [(0, .ref 142), (1, .int l1), (2, .int l2), (3, .int (0 : Int32)), (4, .int (0 : Int32))]) rfl ?_)
            refine vr_iload_n dX6_readInstruction_74 rfl rfl ?_
            refine vr_if_eq dX6_readInstruction_75 (tgt := 86) rfl (fun _ => ?_) (fun c => absurd (by decide) c)
            refine vr_iload_n dX6_readInstruction_86 rfl rfl ?_
            refine vr_iconst dX6_readInstruction_87 (v := (3 : Int32)) (by decide) ?_
            refine vr_ic_eq dX6_readInstruction_88 (tgt := 98) rfl (fun zd_223 => ?_) (fun zd_223 => ?_)
            · replace zh := zh.1 zd_223
              refine vr_iload dX6_readInstruction_98 rfl ?_
              refine vr_if_eq dX6_readInstruction_100 (tgt := 111) rfl (fun _ => ?_) (fun c => absurd (by decide) c)
              refine vr_aload_n dX6_readInstruction_111 rfl rfl ?_
              refine vr_getE dX6_readInstruction_112 (i := 15) (by decide) tw_658 ?_
              obtain ⟨v226, s224, zw1, zf_225, zh⟩ := zh
              refine vc_V (As := [.ref 15]) (rest := []) dX6_readInstruction_115 cV_LitmusTester_Parser_85 (wC_142 zw) rfl rfl (Nat.le_of_ble_eq_true rfl) (Nat.le_of_ble_eq_true rfl) (co_n zf_225 ?_)
              replace zw := zw1
              refine vr_if_eq dX6_readInstruction_118 (tgt := 125) rfl (fun zd_227 => ?_) (fun zd_227 => ?_)
              · replace zh := zh.1 zd_227
                refine vr_iconst dX6_readInstruction_125 (v := (0 : Int32)) (by decide) ?_
                refine vr_istore dX6_readInstruction_126 (Nat.le_of_ble_eq_true rfl) (vv_eq (ls' := [(0, .ref 142), (1, .int l1), (2, .int l2), (3, .int (0 : Int32)), (4, .int (0 : Int32)), (5, .int (0 : Int32))]) rfl ?_)
                refine vr_iload dX6_readInstruction_128 rfl ?_
                refine vr_if_eq dX6_readInstruction_130 (tgt := 157) rfl (fun _ => ?_) (fun c => absurd (by decide) c)
                refine vr_iload dX6_readInstruction_157 rfl ?_
                exact vr_zret dX6_readInstruction_159 rfl (Or.inl rfl) zh
              · replace zh := zh.2 zd_227
                refine vr_iconst dX6_readInstruction_121 (v := (1 : Int32)) (by decide) ?_
                refine vr_goto dX6_readInstruction_122 (tgt := 126) rfl ?_
                refine vr_istore dX6_readInstruction_126 (Nat.le_of_ble_eq_true rfl) (vv_eq (ls' := [(0, .ref 142), (1, .int l1), (2, .int l2), (3, .int (0 : Int32)), (4, .int (0 : Int32)), (5, .int (1 : Int32))]) rfl ?_)
                refine vr_iload dX6_readInstruction_128 rfl ?_
                refine vr_if_eq dX6_readInstruction_130 (tgt := 157) rfl (fun c => absurd c (by decide)) (fun _ => ?_)
                refine vr_aload_n dX6_readInstruction_133 rfl rfl ?_
                refine vr_getR dX6_readInstruction_134 fl_LitmusTester_Parser_39 (wC_142 zw) (Or.inl ⟨_, rfl⟩) (wR_142_1 zw) ?_
                refine vr_iload_n dX6_readInstruction_137 rfl rfl ?_
                refine vr_aload_n dX6_readInstruction_138 rfl rfl ?_
                refine vr_getI dX6_readInstruction_139 fl_LitmusTester_Parser_18 (wC_142 zw) rfl ?_
                refine vr_aload_n dX6_readInstruction_142 rfl rfl ?_
                refine vr_getI dX6_readInstruction_143 fl_LitmusTester_Parser_21 (wC_142 zw) rfl ?_
                refine vr_aload_n dX6_readInstruction_146 rfl rfl ?_
                refine vr_getI dX6_readInstruction_147 fl_LitmusTester_Parser_24 (wC_142 zw) rfl ?_
                refine vr_aload_n dX6_readInstruction_150 rfl rfl ?_
                refine vr_getI dX6_readInstruction_151 fl_LitmusTester_Parser_27 (wC_142 zw) rfl ?_
                obtain ⟨s228, zw1, zf_229, zh⟩ := zh
                refine vc_V (As := [.int l2, .int (st_I s224 142 4), .int (st_I s224 142 5), .int (st_I s224 142 6), .int (st_I s224 142 7)]) (rest := []) dX6_readInstruction_154 cV_LitmusTester_Parser_163 (wC_137 zw) rfl rfl (Nat.le_of_ble_eq_true rfl) (Nat.le_of_ble_eq_true rfl) (co_v zf_229 ?_)
                replace zw := zw1
                refine vr_iload dX6_readInstruction_157 rfl ?_
                exact vr_zret dX6_readInstruction_159 rfl (Or.inr rfl) zh
            · replace zh := zh.2 zd_223
              refine vr_aload_n dX6_readInstruction_91 rfl rfl ?_
              obtain ⟨v232, s230, zw1, zf_231, zh⟩ := zh
              refine vc_V (As := []) (rest := []) dX6_readInstruction_92 cV_LitmusTester_Parser_157 (wC_142 zw) rfl rfl (Nat.le_of_ble_eq_true rfl) (Nat.le_of_ble_eq_true rfl) (co_n zf_231 ?_)
              replace zw := zw1
              refine vr_if_eq dX6_readInstruction_95 (tgt := 125) rfl (fun zd_233 => ?_) (fun zd_233 => ?_)
              · replace zh := zh.1 zd_233
                refine vr_iconst dX6_readInstruction_125 (v := (0 : Int32)) (by decide) ?_
                refine vr_istore dX6_readInstruction_126 (Nat.le_of_ble_eq_true rfl) (vv_eq (ls' := [(0, .ref 142), (1, .int l1), (2, .int l2), (3, .int (0 : Int32)), (4, .int (0 : Int32)), (5, .int (0 : Int32))]) rfl ?_)
                refine vr_iload dX6_readInstruction_128 rfl ?_
                refine vr_if_eq dX6_readInstruction_130 (tgt := 157) rfl (fun _ => ?_) (fun c => absurd (by decide) c)
                refine vr_iload dX6_readInstruction_157 rfl ?_
                exact vr_zret dX6_readInstruction_159 rfl (Or.inl rfl) zh
              · replace zh := zh.2 zd_233
                refine vr_iload dX6_readInstruction_98 rfl ?_
                refine vr_if_eq dX6_readInstruction_100 (tgt := 111) rfl (fun _ => ?_) (fun c => absurd (by decide) c)
                refine vr_aload_n dX6_readInstruction_111 rfl rfl ?_
                refine vr_getE dX6_readInstruction_112 (i := 15) (by decide) tw_658 ?_
                obtain ⟨v236, s234, zw1, zf_235, zh⟩ := zh
                refine vc_V (As := [.ref 15]) (rest := []) dX6_readInstruction_115 cV_LitmusTester_Parser_85 (wC_142 zw) rfl rfl (Nat.le_of_ble_eq_true rfl) (Nat.le_of_ble_eq_true rfl) (co_n zf_235 ?_)
                replace zw := zw1
                refine vr_if_eq dX6_readInstruction_118 (tgt := 125) rfl (fun zd_237 => ?_) (fun zd_237 => ?_)
                · replace zh := zh.1 zd_237
                  refine vr_iconst dX6_readInstruction_125 (v := (0 : Int32)) (by decide) ?_
                  refine vr_istore dX6_readInstruction_126 (Nat.le_of_ble_eq_true rfl) (vv_eq (ls' := [(0, .ref 142), (1, .int l1), (2, .int l2), (3, .int (0 : Int32)), (4, .int (0 : Int32)), (5, .int (0 : Int32))]) rfl ?_)
                  refine vr_iload dX6_readInstruction_128 rfl ?_
                  refine vr_if_eq dX6_readInstruction_130 (tgt := 157) rfl (fun _ => ?_) (fun c => absurd (by decide) c)
                  refine vr_iload dX6_readInstruction_157 rfl ?_
                  exact vr_zret dX6_readInstruction_159 rfl (Or.inl rfl) zh
                · replace zh := zh.2 zd_237
                  refine vr_iconst dX6_readInstruction_121 (v := (1 : Int32)) (by decide) ?_
                  refine vr_goto dX6_readInstruction_122 (tgt := 126) rfl ?_
                  refine vr_istore dX6_readInstruction_126 (Nat.le_of_ble_eq_true rfl) (vv_eq (ls' := [(0, .ref 142), (1, .int l1), (2, .int l2), (3, .int (0 : Int32)), (4, .int (0 : Int32)), (5, .int (1 : Int32))]) rfl ?_)
                  refine vr_iload dX6_readInstruction_128 rfl ?_
                  refine vr_if_eq dX6_readInstruction_130 (tgt := 157) rfl (fun c => absurd c (by decide)) (fun _ => ?_)
                  refine vr_aload_n dX6_readInstruction_133 rfl rfl ?_
                  refine vr_getR dX6_readInstruction_134 fl_LitmusTester_Parser_39 (wC_142 zw) (Or.inl ⟨_, rfl⟩) (wR_142_1 zw) ?_
                  refine vr_iload_n dX6_readInstruction_137 rfl rfl ?_
                  refine vr_aload_n dX6_readInstruction_138 rfl rfl ?_
                  refine vr_getI dX6_readInstruction_139 fl_LitmusTester_Parser_18 (wC_142 zw) rfl ?_
                  refine vr_aload_n dX6_readInstruction_142 rfl rfl ?_
                  refine vr_getI dX6_readInstruction_143 fl_LitmusTester_Parser_21 (wC_142 zw) rfl ?_
                  refine vr_aload_n dX6_readInstruction_146 rfl rfl ?_
                  refine vr_getI dX6_readInstruction_147 fl_LitmusTester_Parser_24 (wC_142 zw) rfl ?_
                  refine vr_aload_n dX6_readInstruction_150 rfl rfl ?_
                  refine vr_getI dX6_readInstruction_151 fl_LitmusTester_Parser_27 (wC_142 zw) rfl ?_
                  obtain ⟨s238, zw1, zf_239, zh⟩ := zh
                  refine vc_V (As := [.int l2, .int (st_I s234 142 4), .int (st_I s234 142 5), .int (st_I s234 142 6), .int (st_I s234 142 7)]) (rest := []) dX6_readInstruction_154 cV_LitmusTester_Parser_163 (wC_137 zw) rfl rfl (Nat.le_of_ble_eq_true rfl) (Nat.le_of_ble_eq_true rfl) (co_v zf_239 ?_)
                  replace zw := zw1
                  refine vr_iload dX6_readInstruction_157 rfl ?_
                  exact vr_zret dX6_readInstruction_159 rfl (Or.inr rfl) zh
          · replace zh := zh.1 zd_197
            refine vr_iconst dX6_readInstruction_67 (v := (1 : Int32)) (by decide) ?_
            refine vr_goto dX6_readInstruction_68 (tgt := 72) rfl ?_
            refine vr_istore dX6_readInstruction_72 (Nat.le_of_ble_eq_true rfl) (vv_eq (ls' := [(0, .ref 142), (1, .int l1), (2, .int l2), (3, .int (0 : Int32)), (4, .int (1 : Int32))]) rfl ?_)
            refine vr_iload_n dX6_readInstruction_74 rfl rfl ?_
            refine vr_if_eq dX6_readInstruction_75 (tgt := 86) rfl (fun _ => ?_) (fun c => absurd (by decide) c)
            refine vr_iload_n dX6_readInstruction_86 rfl rfl ?_
            refine vr_iconst dX6_readInstruction_87 (v := (3 : Int32)) (by decide) ?_
            refine vr_ic_eq dX6_readInstruction_88 (tgt := 98) rfl (fun zd_198 => ?_) (fun zd_198 => ?_)
            · replace zh := zh.1 zd_198
              refine vr_iload dX6_readInstruction_98 rfl ?_
              refine vr_if_eq dX6_readInstruction_100 (tgt := 111) rfl (fun c => absurd c (by decide)) (fun _ => ?_)
              refine vr_aload_n dX6_readInstruction_103 rfl rfl ?_
              refine vr_iload_n dX6_readInstruction_104 rfl rfl ?_
              obtain ⟨v201, s199, zw1, zf_200, zh⟩ := zh
              refine vc_V (As := [.int l1]) (rest := []) dX6_readInstruction_105 cV_LitmusTester_Parser_160 (wC_142 zw) rfl rfl (Nat.le_of_ble_eq_true rfl) (Nat.le_of_ble_eq_true rfl) (co_n zf_200 ?_)
              replace zw := zw1
              refine vr_if_eq dX6_readInstruction_108 (tgt := 125) rfl (fun zd_202 => ?_) (fun zd_202 => ?_)
              · replace zh := zh.1 zd_202
                refine vr_iconst dX6_readInstruction_125 (v := (0 : Int32)) (by decide) ?_
                refine vr_istore dX6_readInstruction_126 (Nat.le_of_ble_eq_true rfl) (vv_eq (ls' := [(0, .ref 142), (1, .int l1), (2, .int l2), (3, .int (0 : Int32)), (4, .int (1 : Int32)), (5, .int (0 : Int32))]) rfl ?_)
                refine vr_iload dX6_readInstruction_128 rfl ?_
                refine vr_if_eq dX6_readInstruction_130 (tgt := 157) rfl (fun _ => ?_) (fun c => absurd (by decide) c)
                refine vr_iload dX6_readInstruction_157 rfl ?_
                exact vr_zret dX6_readInstruction_159 rfl (Or.inl rfl) zh
              · replace zh := zh.2 zd_202
                refine vr_aload_n dX6_readInstruction_111 rfl rfl ?_
                refine vr_getE dX6_readInstruction_112 (i := 15) (by decide) tw_658 ?_
                obtain ⟨v205, s203, zw1, zf_204, zh⟩ := zh
                refine vc_V (As := [.ref 15]) (rest := []) dX6_readInstruction_115 cV_LitmusTester_Parser_85 (wC_142 zw) rfl rfl (Nat.le_of_ble_eq_true rfl) (Nat.le_of_ble_eq_true rfl) (co_n zf_204 ?_)
                replace zw := zw1
                refine vr_if_eq dX6_readInstruction_118 (tgt := 125) rfl (fun zd_206 => ?_) (fun zd_206 => ?_)
                · replace zh := zh.1 zd_206
                  refine vr_iconst dX6_readInstruction_125 (v := (0 : Int32)) (by decide) ?_
                  refine vr_istore dX6_readInstruction_126 (Nat.le_of_ble_eq_true rfl) (vv_eq (ls' := [(0, .ref 142), (1, .int l1), (2, .int l2), (3, .int (0 : Int32)), (4, .int (1 : Int32)), (5, .int (0 : Int32))]) rfl ?_)
                  refine vr_iload dX6_readInstruction_128 rfl ?_
                  refine vr_if_eq dX6_readInstruction_130 (tgt := 157) rfl (fun _ => ?_) (fun c => absurd (by decide) c)
                  refine vr_iload dX6_readInstruction_157 rfl ?_
                  exact vr_zret dX6_readInstruction_159 rfl (Or.inl rfl) zh
                · replace zh := zh.2 zd_206
                  refine vr_iconst dX6_readInstruction_121 (v := (1 : Int32)) (by decide) ?_
                  refine vr_goto dX6_readInstruction_122 (tgt := 126) rfl ?_
                  refine vr_istore dX6_readInstruction_126 (Nat.le_of_ble_eq_true rfl) (vv_eq (ls' := [(0, .ref 142), (1, .int l1), (2, .int l2), (3, .int (0 : Int32)), (4, .int (1 : Int32)), (5, .int (1 : Int32))]) rfl ?_)
                  refine vr_iload dX6_readInstruction_128 rfl ?_
                  refine vr_if_eq dX6_readInstruction_130 (tgt := 157) rfl (fun c => absurd c (by decide)) (fun _ => ?_)
                  refine vr_aload_n dX6_readInstruction_133 rfl rfl ?_
                  refine vr_getR dX6_readInstruction_134 fl_LitmusTester_Parser_39 (wC_142 zw) (Or.inl ⟨_, rfl⟩) (wR_142_1 zw) ?_
                  refine vr_iload_n dX6_readInstruction_137 rfl rfl ?_
                  refine vr_aload_n dX6_readInstruction_138 rfl rfl ?_
                  refine vr_getI dX6_readInstruction_139 fl_LitmusTester_Parser_18 (wC_142 zw) rfl ?_
                  refine vr_aload_n dX6_readInstruction_142 rfl rfl ?_
                  refine vr_getI dX6_readInstruction_143 fl_LitmusTester_Parser_21 (wC_142 zw) rfl ?_
                  refine vr_aload_n dX6_readInstruction_146 rfl rfl ?_
                  refine vr_getI dX6_readInstruction_147 fl_LitmusTester_Parser_24 (wC_142 zw) rfl ?_
                  refine vr_aload_n dX6_readInstruction_150 rfl rfl ?_
                  refine vr_getI dX6_readInstruction_151 fl_LitmusTester_Parser_27 (wC_142 zw) rfl ?_
                  obtain ⟨s207, zw1, zf_208, zh⟩ := zh
                  refine vc_V (As := [.int l2, .int (st_I s203 142 4), .int (st_I s203 142 5), .int (st_I s203 142 6), .int (st_I s203 142 7)]) (rest := []) dX6_readInstruction_154 cV_LitmusTester_Parser_163 (wC_137 zw) rfl rfl (Nat.le_of_ble_eq_true rfl) (Nat.le_of_ble_eq_true rfl) (co_v zf_208 ?_)
                  replace zw := zw1
                  refine vr_iload dX6_readInstruction_157 rfl ?_
                  exact vr_zret dX6_readInstruction_159 rfl (Or.inr rfl) zh
            · replace zh := zh.2 zd_198
              refine vr_aload_n dX6_readInstruction_91 rfl rfl ?_
              obtain ⟨v211, s209, zw1, zf_210, zh⟩ := zh
              refine vc_V (As := []) (rest := []) dX6_readInstruction_92 cV_LitmusTester_Parser_157 (wC_142 zw) rfl rfl (Nat.le_of_ble_eq_true rfl) (Nat.le_of_ble_eq_true rfl) (co_n zf_210 ?_)
              replace zw := zw1
              refine vr_if_eq dX6_readInstruction_95 (tgt := 125) rfl (fun zd_212 => ?_) (fun zd_212 => ?_)
              · replace zh := zh.1 zd_212
                refine vr_iconst dX6_readInstruction_125 (v := (0 : Int32)) (by decide) ?_
                refine vr_istore dX6_readInstruction_126 (Nat.le_of_ble_eq_true rfl) (vv_eq (ls' := [(0, .ref 142), (1, .int l1), (2, .int l2), (3, .int (0 : Int32)), (4, .int (1 : Int32)), (5, .int (0 : Int32))]) rfl ?_)
                refine vr_iload dX6_readInstruction_128 rfl ?_
                refine vr_if_eq dX6_readInstruction_130 (tgt := 157) rfl (fun _ => ?_) (fun c => absurd (by decide) c)
                refine vr_iload dX6_readInstruction_157 rfl ?_
                exact vr_zret dX6_readInstruction_159 rfl (Or.inl rfl) zh
              · replace zh := zh.2 zd_212
                refine vr_iload dX6_readInstruction_98 rfl ?_
                refine vr_if_eq dX6_readInstruction_100 (tgt := 111) rfl (fun c => absurd c (by decide)) (fun _ => ?_)
                refine vr_aload_n dX6_readInstruction_103 rfl rfl ?_
                refine vr_iload_n dX6_readInstruction_104 rfl rfl ?_
                obtain ⟨v215, s213, zw1, zf_214, zh⟩ := zh
                refine vc_V (As := [.int l1]) (rest := []) dX6_readInstruction_105 cV_LitmusTester_Parser_160 (wC_142 zw) rfl rfl (Nat.le_of_ble_eq_true rfl) (Nat.le_of_ble_eq_true rfl) (co_n zf_214 ?_)
                replace zw := zw1
                refine vr_if_eq dX6_readInstruction_108 (tgt := 125) rfl (fun zd_216 => ?_) (fun zd_216 => ?_)
                · replace zh := zh.1 zd_216
                  refine vr_iconst dX6_readInstruction_125 (v := (0 : Int32)) (by decide) ?_
                  refine vr_istore dX6_readInstruction_126 (Nat.le_of_ble_eq_true rfl) (vv_eq (ls' := [(0, .ref 142), (1, .int l1), (2, .int l2), (3, .int (0 : Int32)), (4, .int (1 : Int32)), (5, .int (0 : Int32))]) rfl ?_)
                  refine vr_iload dX6_readInstruction_128 rfl ?_
                  refine vr_if_eq dX6_readInstruction_130 (tgt := 157) rfl (fun _ => ?_) (fun c => absurd (by decide) c)
                  refine vr_iload dX6_readInstruction_157 rfl ?_
                  exact vr_zret dX6_readInstruction_159 rfl (Or.inl rfl) zh
                · replace zh := zh.2 zd_216
                  refine vr_aload_n dX6_readInstruction_111 rfl rfl ?_
                  refine vr_getE dX6_readInstruction_112 (i := 15) (by decide) tw_658 ?_
                  obtain ⟨v219, s217, zw1, zf_218, zh⟩ := zh
                  refine vc_V (As := [.ref 15]) (rest := []) dX6_readInstruction_115 cV_LitmusTester_Parser_85 (wC_142 zw) rfl rfl (Nat.le_of_ble_eq_true rfl) (Nat.le_of_ble_eq_true rfl) (co_n zf_218 ?_)
                  replace zw := zw1
                  refine vr_if_eq dX6_readInstruction_118 (tgt := 125) rfl (fun zd_220 => ?_) (fun zd_220 => ?_)
                  · replace zh := zh.1 zd_220
                    refine vr_iconst dX6_readInstruction_125 (v := (0 : Int32)) (by decide) ?_
                    refine vr_istore dX6_readInstruction_126 (Nat.le_of_ble_eq_true rfl) (vv_eq (ls' := [(0, .ref 142), (1, .int l1), (2, .int l2), (3, .int (0 : Int32)), (4, .int (1 : Int32)), (5, .int (0 : Int32))]) rfl ?_)
                    refine vr_iload dX6_readInstruction_128 rfl ?_
                    refine vr_if_eq dX6_readInstruction_130 (tgt := 157) rfl (fun _ => ?_) (fun c => absurd (by decide) c)
                    refine vr_iload dX6_readInstruction_157 rfl ?_
                    exact vr_zret dX6_readInstruction_159 rfl (Or.inl rfl) zh
                  · replace zh := zh.2 zd_220
                    refine vr_iconst dX6_readInstruction_121 (v := (1 : Int32)) (by decide) ?_
                    refine vr_goto dX6_readInstruction_122 (tgt := 126) rfl ?_
                    refine vr_istore dX6_readInstruction_126 (Nat.le_of_ble_eq_true rfl) (vv_eq (ls' := [(0, .ref 142), (1, .int l1), (2, .int l2), (3, .int (0 : Int32)), (4, .int (1 : Int32)), (5, .int (1 : Int32))]) rfl ?_)
                    refine vr_iload dX6_readInstruction_128 rfl ?_
                    refine vr_if_eq dX6_readInstruction_130 (tgt := 157) rfl (fun c => absurd c (by decide)) (fun _ => ?_)
                    refine vr_aload_n dX6_readInstruction_133 rfl rfl ?_
                    refine vr_getR dX6_readInstruction_134 fl_LitmusTester_Parser_39 (wC_142 zw) (Or.inl ⟨_, rfl⟩) (wR_142_1 zw) ?_
                    refine vr_iload_n dX6_readInstruction_137 rfl rfl ?_
                    refine vr_aload_n dX6_readInstruction_138 rfl rfl ?_
                    refine vr_getI dX6_readInstruction_139 fl_LitmusTester_Parser_18 (wC_142 zw) rfl ?_
                    refine vr_aload_n dX6_readInstruction_142 rfl rfl ?_
                    refine vr_getI dX6_readInstruction_143 fl_LitmusTester_Parser_21 (wC_142 zw) rfl ?_
                    refine vr_aload_n dX6_readInstruction_146 rfl rfl ?_
                    refine vr_getI dX6_readInstruction_147 fl_LitmusTester_Parser_24 (wC_142 zw) rfl ?_
                    refine vr_aload_n dX6_readInstruction_150 rfl rfl ?_
                    refine vr_getI dX6_readInstruction_151 fl_LitmusTester_Parser_27 (wC_142 zw) rfl ?_
                    obtain ⟨s221, zw1, zf_222, zh⟩ := zh
                    refine vc_V (As := [.int l2, .int (st_I s217 142 4), .int (st_I s217 142 5), .int (st_I s217 142 6), .int (st_I s217 142 7)]) (rest := []) dX6_readInstruction_154 cV_LitmusTester_Parser_163 (wC_137 zw) rfl rfl (Nat.le_of_ble_eq_true rfl) (Nat.le_of_ble_eq_true rfl) (co_v zf_222 ?_)
                    replace zw := zw1
                    refine vr_iload dX6_readInstruction_157 rfl ?_
                    exact vr_zret dX6_readInstruction_159 rfl (Or.inr rfl) zh
      · replace zh := zh.1 zd_89
        refine vr_iconst dX6_readInstruction_52 (v := (1 : Int32)) (by decide) ?_
        refine vr_goto dX6_readInstruction_53 (tgt := 57) rfl ?_
        refine vr_istore_n dX6_readInstruction_57 rfl (Nat.le_of_ble_eq_true rfl) (vv_eq (ls' := [(0, .ref 142), (1, .int l1), (2, .int l2), (3, .int (1 : Int32))]) rfl ?_)
        refine vr_iload_n dX6_readInstruction_58 rfl rfl ?_
        refine vr_if_eq dX6_readInstruction_59 (tgt := 67) rfl (fun zd_90 => ?_) (fun zd_90 => ?_)
        · replace zh := zh.1 zd_90
          refine vr_iconst dX6_readInstruction_67 (v := (1 : Int32)) (by decide) ?_
          refine vr_goto dX6_readInstruction_68 (tgt := 72) rfl ?_
          refine vr_istore dX6_readInstruction_72 (Nat.le_of_ble_eq_true rfl) (vv_eq (ls' := [(0, .ref 142), (1, .int l1), (2, .int l2), (3, .int (1 : Int32)), (4, .int (1 : Int32))]) rfl ?_)
          refine vr_iload_n dX6_readInstruction_74 rfl rfl ?_
          refine vr_if_eq dX6_readInstruction_75 (tgt := 86) rfl (fun c => absurd c (by decide)) (fun _ => ?_)
          refine vr_aload_n dX6_readInstruction_78 rfl rfl ?_
          refine vr_iload_n dX6_readInstruction_79 rfl rfl ?_
          obtain ⟨v93, s91, zw1, zf_92, zh⟩ := zh
          refine vc_V (As := [.int l1]) (rest := []) dX6_readInstruction_80 cV_LitmusTester_Parser_154 (wC_142 zw) rfl rfl (Nat.le_of_ble_eq_true rfl) (Nat.le_of_ble_eq_true rfl) (co_n zf_92 ?_)
          replace zw := zw1
          refine vr_if_eq dX6_readInstruction_83 (tgt := 125) rfl (fun zd_94 => ?_) (fun zd_94 => ?_)
          · replace zh := zh.1 zd_94
            refine vr_iconst dX6_readInstruction_125 (v := (0 : Int32)) (by decide) ?_
            refine vr_istore dX6_readInstruction_126 (Nat.le_of_ble_eq_true rfl) (vv_eq (ls' := [(0, .ref 142), (1, .int l1), (2, .int l2), (3, .int (1 : Int32)), (4, .int (1 : Int32)), (5, .int (0 : Int32))]) rfl ?_)
            refine vr_iload dX6_readInstruction_128 rfl ?_
            refine vr_if_eq dX6_readInstruction_130 (tgt := 157) rfl (fun _ => ?_) (fun c => absurd (by decide) c)
            refine vr_iload dX6_readInstruction_157 rfl ?_
            exact vr_zret dX6_readInstruction_159 rfl (Or.inl rfl) zh
          · replace zh := zh.2 zd_94
            refine vr_iload_n dX6_readInstruction_86 rfl rfl ?_
            refine vr_iconst dX6_readInstruction_87 (v := (3 : Int32)) (by decide) ?_
            refine vr_ic_eq dX6_readInstruction_88 (tgt := 98) rfl (fun zd_95 => ?_) (fun zd_95 => ?_)
            · replace zh := zh.1 zd_95
              refine vr_iload dX6_readInstruction_98 rfl ?_
              refine vr_if_eq dX6_readInstruction_100 (tgt := 111) rfl (fun c => absurd c (by decide)) (fun _ => ?_)
              refine vr_aload_n dX6_readInstruction_103 rfl rfl ?_
              refine vr_iload_n dX6_readInstruction_104 rfl rfl ?_
              obtain ⟨v98, s96, zw1, zf_97, zh⟩ := zh
              refine vc_V (As := [.int l1]) (rest := []) dX6_readInstruction_105 cV_LitmusTester_Parser_160 (wC_142 zw) rfl rfl (Nat.le_of_ble_eq_true rfl) (Nat.le_of_ble_eq_true rfl) (co_n zf_97 ?_)
              replace zw := zw1
              refine vr_if_eq dX6_readInstruction_108 (tgt := 125) rfl (fun zd_99 => ?_) (fun zd_99 => ?_)
              · replace zh := zh.1 zd_99
                refine vr_iconst dX6_readInstruction_125 (v := (0 : Int32)) (by decide) ?_
                refine vr_istore dX6_readInstruction_126 (Nat.le_of_ble_eq_true rfl) (vv_eq (ls' := [(0, .ref 142), (1, .int l1), (2, .int l2), (3, .int (1 : Int32)), (4, .int (1 : Int32)), (5, .int (0 : Int32))]) rfl ?_)
                refine vr_iload dX6_readInstruction_128 rfl ?_
                refine vr_if_eq dX6_readInstruction_130 (tgt := 157) rfl (fun _ => ?_) (fun c => absurd (by decide) c)
                refine vr_iload dX6_readInstruction_157 rfl ?_
                exact vr_zret dX6_readInstruction_159 rfl (Or.inl rfl) zh
              · replace zh := zh.2 zd_99
                refine vr_aload_n dX6_readInstruction_111 rfl rfl ?_
                refine vr_getE dX6_readInstruction_112 (i := 15) (by decide) tw_658 ?_
                obtain ⟨v102, s100, zw1, zf_101, zh⟩ := zh
                refine vc_V (As := [.ref 15]) (rest := []) dX6_readInstruction_115 cV_LitmusTester_Parser_85 (wC_142 zw) rfl rfl (Nat.le_of_ble_eq_true rfl) (Nat.le_of_ble_eq_true rfl) (co_n zf_101 ?_)
                replace zw := zw1
                refine vr_if_eq dX6_readInstruction_118 (tgt := 125) rfl (fun zd_103 => ?_) (fun zd_103 => ?_)
                · replace zh := zh.1 zd_103
                  refine vr_iconst dX6_readInstruction_125 (v := (0 : Int32)) (by decide) ?_
                  refine vr_istore dX6_readInstruction_126 (Nat.le_of_ble_eq_true rfl) (vv_eq (ls' := [(0, .ref 142), (1, .int l1), (2, .int l2), (3, .int (1 : Int32)), (4, .int (1 : Int32)), (5, .int (0 : Int32))]) rfl ?_)
                  refine vr_iload dX6_readInstruction_128 rfl ?_
                  refine vr_if_eq dX6_readInstruction_130 (tgt := 157) rfl (fun _ => ?_) (fun c => absurd (by decide) c)
                  refine vr_iload dX6_readInstruction_157 rfl ?_
                  exact vr_zret dX6_readInstruction_159 rfl (Or.inl rfl) zh
                · replace zh := zh.2 zd_103
                  refine vr_iconst dX6_readInstruction_121 (v := (1 : Int32)) (by decide) ?_
                  refine vr_goto dX6_readInstruction_122 (tgt := 126) rfl ?_
                  refine vr_istore dX6_readInstruction_126 (Nat.le_of_ble_eq_true rfl) (vv_eq (ls' := [(0, .ref 142), (1, .int l1), (2, .int l2), (3, .int (1 : Int32)), (4, .int (1 : Int32)), (5, .int (1 : Int32))]) rfl ?_)
                  refine vr_iload dX6_readInstruction_128 rfl ?_
                  refine vr_if_eq dX6_readInstruction_130 (tgt := 157) rfl (fun c => absurd c (by decide)) (fun _ => ?_)
                  refine vr_aload_n dX6_readInstruction_133 rfl rfl ?_
                  refine vr_getR dX6_readInstruction_134 fl_LitmusTester_Parser_39 (wC_142 zw) (Or.inl ⟨_, rfl⟩) (wR_142_1 zw) ?_
                  refine vr_iload_n dX6_readInstruction_137 rfl rfl ?_
                  refine vr_aload_n dX6_readInstruction_138 rfl rfl ?_
                  refine vr_getI dX6_readInstruction_139 fl_LitmusTester_Parser_18 (wC_142 zw) rfl ?_
                  refine vr_aload_n dX6_readInstruction_142 rfl rfl ?_
                  refine vr_getI dX6_readInstruction_143 fl_LitmusTester_Parser_21 (wC_142 zw) rfl ?_
                  refine vr_aload_n dX6_readInstruction_146 rfl rfl ?_
                  refine vr_getI dX6_readInstruction_147 fl_LitmusTester_Parser_24 (wC_142 zw) rfl ?_
                  refine vr_aload_n dX6_readInstruction_150 rfl rfl ?_
                  refine vr_getI dX6_readInstruction_151 fl_LitmusTester_Parser_27 (wC_142 zw) rfl ?_
                  obtain ⟨s104, zw1, zf_105, zh⟩ := zh
                  refine vc_V (As := [.int l2, .int (st_I s100 142 4), .int (st_I s100 142 5), .int (st_I s100 142 6), .int (st_I s100 142 7)]) (rest := []) dX6_readInstruction_154 cV_LitmusTester_Parser_163 (wC_137 zw) rfl rfl (Nat.le_of_ble_eq_true rfl) (Nat.le_of_ble_eq_true rfl) (co_v zf_105 ?_)
                  replace zw := zw1
                  refine vr_iload dX6_readInstruction_157 rfl ?_
                  exact vr_zret dX6_readInstruction_159 rfl (Or.inr rfl) zh
            · replace zh := zh.2 zd_95
              refine vr_aload_n dX6_readInstruction_91 rfl rfl ?_
              obtain ⟨v108, s106, zw1, zf_107, zh⟩ := zh
              refine vc_V (As := []) (rest := []) dX6_readInstruction_92 cV_LitmusTester_Parser_157 (wC_142 zw) rfl rfl (Nat.le_of_ble_eq_true rfl) (Nat.le_of_ble_eq_true rfl) (co_n zf_107 ?_)
              replace zw := zw1
              refine vr_if_eq dX6_readInstruction_95 (tgt := 125) rfl (fun zd_109 => ?_) (fun zd_109 => ?_)
              · replace zh := zh.1 zd_109
                refine vr_iconst dX6_readInstruction_125 (v := (0 : Int32)) (by decide) ?_
                refine vr_istore dX6_readInstruction_126 (Nat.le_of_ble_eq_true rfl) (vv_eq (ls' := [(0, .ref 142), (1, .int l1), (2, .int l2), (3, .int (1 : Int32)), (4, .int (1 : Int32)), (5, .int (0 : Int32))]) rfl ?_)
                refine vr_iload dX6_readInstruction_128 rfl ?_
                refine vr_if_eq dX6_readInstruction_130 (tgt := 157) rfl (fun _ => ?_) (fun c => absurd (by decide) c)
                refine vr_iload dX6_readInstruction_157 rfl ?_
                exact vr_zret dX6_readInstruction_159 rfl (Or.inl rfl) zh
              · replace zh := zh.2 zd_109
                refine vr_iload dX6_readInstruction_98 rfl ?_
                refine vr_if_eq dX6_readInstruction_100 (tgt := 111) rfl (fun c => absurd c (by decide)) (fun _ => ?_)
                refine vr_aload_n dX6_readInstruction_103 rfl rfl ?_
                refine vr_iload_n dX6_readInstruction_104 rfl rfl ?_
                obtain ⟨v112, s110, zw1, zf_111, zh⟩ := zh
                refine vc_V (As := [.int l1]) (rest := []) dX6_readInstruction_105 cV_LitmusTester_Parser_160 (wC_142 zw) rfl rfl (Nat.le_of_ble_eq_true rfl) (Nat.le_of_ble_eq_true rfl) (co_n zf_111 ?_)
                replace zw := zw1
                refine vr_if_eq dX6_readInstruction_108 (tgt := 125) rfl (fun zd_113 => ?_) (fun zd_113 => ?_)
                · replace zh := zh.1 zd_113
                  refine vr_iconst dX6_readInstruction_125 (v := (0 : Int32)) (by decide) ?_
                  refine vr_istore dX6_readInstruction_126 (Nat.le_of_ble_eq_true rfl) (vv_eq (ls' := [(0, .ref 142), (1, .int l1), (2, .int l2), (3, .int (1 : Int32)), (4, .int (1 : Int32)), (5, .int (0 : Int32))]) rfl ?_)
                  refine vr_iload dX6_readInstruction_128 rfl ?_
                  refine vr_if_eq dX6_readInstruction_130 (tgt := 157) rfl (fun _ => ?_) (fun c => absurd (by decide) c)
                  refine vr_iload dX6_readInstruction_157 rfl ?_
                  exact vr_zret dX6_readInstruction_159 rfl (Or.inl rfl) zh
                · replace zh := zh.2 zd_113
                  refine vr_aload_n dX6_readInstruction_111 rfl rfl ?_
                  refine vr_getE dX6_readInstruction_112 (i := 15) (by decide) tw_658 ?_
                  obtain ⟨v116, s114, zw1, zf_115, zh⟩ := zh
                  refine vc_V (As := [.ref 15]) (rest := []) dX6_readInstruction_115 cV_LitmusTester_Parser_85 (wC_142 zw) rfl rfl (Nat.le_of_ble_eq_true rfl) (Nat.le_of_ble_eq_true rfl) (co_n zf_115 ?_)
                  replace zw := zw1
                  refine vr_if_eq dX6_readInstruction_118 (tgt := 125) rfl (fun zd_117 => ?_) (fun zd_117 => ?_)
                  · replace zh := zh.1 zd_117
                    refine vr_iconst dX6_readInstruction_125 (v := (0 : Int32)) (by decide) ?_
                    refine vr_istore dX6_readInstruction_126 (Nat.le_of_ble_eq_true rfl) (vv_eq (ls' := [(0, .ref 142), (1, .int l1), (2, .int l2), (3, .int (1 : Int32)), (4, .int (1 : Int32)), (5, .int (0 : Int32))]) rfl ?_)
                    refine vr_iload dX6_readInstruction_128 rfl ?_
                    refine vr_if_eq dX6_readInstruction_130 (tgt := 157) rfl (fun _ => ?_) (fun c => absurd (by decide) c)
                    refine vr_iload dX6_readInstruction_157 rfl ?_
                    exact vr_zret dX6_readInstruction_159 rfl (Or.inl rfl) zh
                  · replace zh := zh.2 zd_117
                    refine vr_iconst dX6_readInstruction_121 (v := (1 : Int32)) (by decide) ?_
                    refine vr_goto dX6_readInstruction_122 (tgt := 126) rfl ?_
                    refine vr_istore dX6_readInstruction_126 (Nat.le_of_ble_eq_true rfl) (vv_eq (ls' := [(0, .ref 142), (1, .int l1), (2, .int l2), (3, .int (1 : Int32)), (4, .int (1 : Int32)), (5, .int (1 : Int32))]) rfl ?_)
                    refine vr_iload dX6_readInstruction_128 rfl ?_
                    refine vr_if_eq dX6_readInstruction_130 (tgt := 157) rfl (fun c => absurd c (by decide)) (fun _ => ?_)
                    refine vr_aload_n dX6_readInstruction_133 rfl rfl ?_
                    refine vr_getR dX6_readInstruction_134 fl_LitmusTester_Parser_39 (wC_142 zw) (Or.inl ⟨_, rfl⟩) (wR_142_1 zw) ?_
                    refine vr_iload_n dX6_readInstruction_137 rfl rfl ?_
                    refine vr_aload_n dX6_readInstruction_138 rfl rfl ?_
                    refine vr_getI dX6_readInstruction_139 fl_LitmusTester_Parser_18 (wC_142 zw) rfl ?_
                    refine vr_aload_n dX6_readInstruction_142 rfl rfl ?_
                    refine vr_getI dX6_readInstruction_143 fl_LitmusTester_Parser_21 (wC_142 zw) rfl ?_
                    refine vr_aload_n dX6_readInstruction_146 rfl rfl ?_
                    refine vr_getI dX6_readInstruction_147 fl_LitmusTester_Parser_24 (wC_142 zw) rfl ?_
                    refine vr_aload_n dX6_readInstruction_150 rfl rfl ?_
                    refine vr_getI dX6_readInstruction_151 fl_LitmusTester_Parser_27 (wC_142 zw) rfl ?_
                    obtain ⟨s118, zw1, zf_119, zh⟩ := zh
                    refine vc_V (As := [.int l2, .int (st_I s114 142 4), .int (st_I s114 142 5), .int (st_I s114 142 6), .int (st_I s114 142 7)]) (rest := []) dX6_readInstruction_154 cV_LitmusTester_Parser_163 (wC_137 zw) rfl rfl (Nat.le_of_ble_eq_true rfl) (Nat.le_of_ble_eq_true rfl) (co_v zf_119 ?_)
                    replace zw := zw1
                    refine vr_iload dX6_readInstruction_157 rfl ?_
                    exact vr_zret dX6_readInstruction_159 rfl (Or.inr rfl) zh
        · replace zh := zh.2 zd_90
          refine vr_iload_n dX6_readInstruction_62 rfl rfl ?_
          refine vr_iconst dX6_readInstruction_63 (v := (2 : Int32)) (by decide) ?_
          refine vr_ic_ne dX6_readInstruction_64 (tgt := 71) rfl (fun zd_120 => ?_) (fun zd_120 => ?_)
          · replace zh := zh.2 zd_120
            refine vr_iconst dX6_readInstruction_71 (v := (0 : Int32)) (by decide) ?_
            refine vr_istore dX6_readInstruction_72 (Nat.le_of_ble_eq_true rfl) (vv_eq (ls' := [(0, .ref 142), (1, .int l1), (2, .int l2), (3, .int (1 : Int32)), (4, .int (0 : Int32))]) rfl ?_)
            refine vr_iload_n dX6_readInstruction_74 rfl rfl ?_
            refine vr_if_eq dX6_readInstruction_75 (tgt := 86) rfl (fun c => absurd c (by decide)) (fun _ => ?_)
            refine vr_aload_n dX6_readInstruction_78 rfl rfl ?_
            refine vr_iload_n dX6_readInstruction_79 rfl rfl ?_
            obtain ⟨v152, s150, zw1, zf_151, zh⟩ := zh
            refine vc_V (As := [.int l1]) (rest := []) dX6_readInstruction_80 cV_LitmusTester_Parser_154 (wC_142 zw) rfl rfl (Nat.le_of_ble_eq_true rfl) (Nat.le_of_ble_eq_true rfl) (co_n zf_151 ?_)
            replace zw := zw1
            refine vr_if_eq dX6_readInstruction_83 (tgt := 125) rfl (fun zd_153 => ?_) (fun zd_153 => ?_)
            · replace zh := zh.1 zd_153
              refine vr_iconst dX6_readInstruction_125 (v := (0 : Int32)) (by decide) ?_
              refine vr_istore dX6_readInstruction_126 (Nat.le_of_ble_eq_true rfl) (vv_eq (ls' := [(0, .ref 142), (1, .int l1), (2, .int l2), (3, .int (1 : Int32)), (4, .int (0 : Int32)), (5, .int (0 : Int32))]) rfl ?_)
              refine vr_iload dX6_readInstruction_128 rfl ?_
              refine vr_if_eq dX6_readInstruction_130 (tgt := 157) rfl (fun _ => ?_) (fun c => absurd (by decide) c)
              refine vr_iload dX6_readInstruction_157 rfl ?_
              exact vr_zret dX6_readInstruction_159 rfl (Or.inl rfl) zh
            · replace zh := zh.2 zd_153
              refine vr_iload_n dX6_readInstruction_86 rfl rfl ?_
              refine vr_iconst dX6_readInstruction_87 (v := (3 : Int32)) (by decide) ?_
              refine vr_ic_eq dX6_readInstruction_88 (tgt := 98) rfl (fun zd_154 => ?_) (fun zd_154 => ?_)
              · replace zh := zh.1 zd_154
                refine vr_iload dX6_readInstruction_98 rfl ?_
                refine vr_if_eq dX6_readInstruction_100 (tgt := 111) rfl (fun _ => ?_) (fun c => absurd (by decide) c)
                refine vr_aload_n dX6_readInstruction_111 rfl rfl ?_
                refine vr_getE dX6_readInstruction_112 (i := 15) (by decide) tw_658 ?_
                obtain ⟨v157, s155, zw1, zf_156, zh⟩ := zh
                refine vc_V (As := [.ref 15]) (rest := []) dX6_readInstruction_115 cV_LitmusTester_Parser_85 (wC_142 zw) rfl rfl (Nat.le_of_ble_eq_true rfl) (Nat.le_of_ble_eq_true rfl) (co_n zf_156 ?_)
                replace zw := zw1
                refine vr_if_eq dX6_readInstruction_118 (tgt := 125) rfl (fun zd_158 => ?_) (fun zd_158 => ?_)
                · replace zh := zh.1 zd_158
                  refine vr_iconst dX6_readInstruction_125 (v := (0 : Int32)) (by decide) ?_
                  refine vr_istore dX6_readInstruction_126 (Nat.le_of_ble_eq_true rfl) (vv_eq (ls' := [(0, .ref 142), (1, .int l1), (2, .int l2), (3, .int (1 : Int32)), (4, .int (0 : Int32)), (5, .int (0 : Int32))]) rfl ?_)
                  refine vr_iload dX6_readInstruction_128 rfl ?_
                  refine vr_if_eq dX6_readInstruction_130 (tgt := 157) rfl (fun _ => ?_) (fun c => absurd (by decide) c)
                  refine vr_iload dX6_readInstruction_157 rfl ?_
                  exact vr_zret dX6_readInstruction_159 rfl (Or.inl rfl) zh
                · replace zh := zh.2 zd_158
                  refine vr_iconst dX6_readInstruction_121 (v := (1 : Int32)) (by decide) ?_
                  refine vr_goto dX6_readInstruction_122 (tgt := 126) rfl ?_
                  refine vr_istore dX6_readInstruction_126 (Nat.le_of_ble_eq_true rfl) (vv_eq (ls' := [(0, .ref 142), (1, .int l1), (2, .int l2), (3, .int (1 : Int32)), (4, .int (0 : Int32)), (5, .int (1 : Int32))]) rfl ?_)
                  refine vr_iload dX6_readInstruction_128 rfl ?_
                  refine vr_if_eq dX6_readInstruction_130 (tgt := 157) rfl (fun c => absurd c (by decide)) (fun _ => ?_)
                  refine vr_aload_n dX6_readInstruction_133 rfl rfl ?_
                  refine vr_getR dX6_readInstruction_134 fl_LitmusTester_Parser_39 (wC_142 zw) (Or.inl ⟨_, rfl⟩) (wR_142_1 zw) ?_
                  refine vr_iload_n dX6_readInstruction_137 rfl rfl ?_
                  refine vr_aload_n dX6_readInstruction_138 rfl rfl ?_
                  refine vr_getI dX6_readInstruction_139 fl_LitmusTester_Parser_18 (wC_142 zw) rfl ?_
                  refine vr_aload_n dX6_readInstruction_142 rfl rfl ?_
                  refine vr_getI dX6_readInstruction_143 fl_LitmusTester_Parser_21 (wC_142 zw) rfl ?_
                  refine vr_aload_n dX6_readInstruction_146 rfl rfl ?_
                  refine vr_getI dX6_readInstruction_147 fl_LitmusTester_Parser_24 (wC_142 zw) rfl ?_
                  refine vr_aload_n dX6_readInstruction_150 rfl rfl ?_
                  refine vr_getI dX6_readInstruction_151 fl_LitmusTester_Parser_27 (wC_142 zw) rfl ?_
                  obtain ⟨s159, zw1, zf_160, zh⟩ := zh
                  refine vc_V (As := [.int l2, .int (st_I s155 142 4), .int (st_I s155 142 5), .int (st_I s155 142 6), .int (st_I s155 142 7)]) (rest := []) dX6_readInstruction_154 cV_LitmusTester_Parser_163 (wC_137 zw) rfl rfl (Nat.le_of_ble_eq_true rfl) (Nat.le_of_ble_eq_true rfl) (co_v zf_160 ?_)
                  replace zw := zw1
                  refine vr_iload dX6_readInstruction_157 rfl ?_
                  exact vr_zret dX6_readInstruction_159 rfl (Or.inr rfl) zh
              · replace zh := zh.2 zd_154
                refine vr_aload_n dX6_readInstruction_91 rfl rfl ?_
                obtain ⟨v163, s161, zw1, zf_162, zh⟩ := zh
                refine vc_V (As := []) (rest := []) dX6_readInstruction_92 cV_LitmusTester_Parser_157 (wC_142 zw) rfl rfl (Nat.le_of_ble_eq_true rfl) (Nat.le_of_ble_eq_true rfl) (co_n zf_162 ?_)
                replace zw := zw1
                refine vr_if_eq dX6_readInstruction_95 (tgt := 125) rfl (fun zd_164 => ?_) (fun zd_164 => ?_)
                · replace zh := zh.1 zd_164
                  refine vr_iconst dX6_readInstruction_125 (v := (0 : Int32)) (by decide) ?_
                  refine vr_istore dX6_readInstruction_126 (Nat.le_of_ble_eq_true rfl) (vv_eq (ls' := [(0, .ref 142), (1, .int l1), (2, .int l2), (3, .int (1 : Int32)), (4, .int (0 : Int32)), (5, .int (0 : Int32))]) rfl ?_)
                  refine vr_iload dX6_readInstruction_128 rfl ?_
                  refine vr_if_eq dX6_readInstruction_130 (tgt := 157) rfl (fun _ => ?_) (fun c => absurd (by decide) c)
                  refine vr_iload dX6_readInstruction_157 rfl ?_
                  exact vr_zret dX6_readInstruction_159 rfl (Or.inl rfl) zh
                · replace zh := zh.2 zd_164
                  refine vr_iload dX6_readInstruction_98 rfl ?_
                  refine vr_if_eq dX6_readInstruction_100 (tgt := 111) rfl (fun _ => ?_) (fun c => absurd (by decide) c)
                  refine vr_aload_n dX6_readInstruction_111 rfl rfl ?_
                  refine vr_getE dX6_readInstruction_112 (i := 15) (by decide) tw_658 ?_
                  obtain ⟨v167, s165, zw1, zf_166, zh⟩ := zh
                  refine vc_V (As := [.ref 15]) (rest := []) dX6_readInstruction_115 cV_LitmusTester_Parser_85 (wC_142 zw) rfl rfl (Nat.le_of_ble_eq_true rfl) (Nat.le_of_ble_eq_true rfl) (co_n zf_166 ?_)
                  replace zw := zw1
                  refine vr_if_eq dX6_readInstruction_118 (tgt := 125) rfl (fun zd_168 => ?_) (fun zd_168 => ?_)
                  · replace zh := zh.1 zd_168
                    refine vr_iconst dX6_readInstruction_125 (v := (0 : Int32)) (by decide) ?_
                    refine vr_istore dX6_readInstruction_126 (Nat.le_of_ble_eq_true rfl) (vv_eq (ls' := [(0, .ref 142), (1, .int l1), (2, .int l2), (3, .int (1 : Int32)), (4, .int (0 : Int32)), (5, .int (0 : Int32))]) rfl ?_)
                    refine vr_iload dX6_readInstruction_128 rfl ?_
                    refine vr_if_eq dX6_readInstruction_130 (tgt := 157) rfl (fun _ => ?_) (fun c => absurd (by decide) c)
                    refine vr_iload dX6_readInstruction_157 rfl ?_
                    exact vr_zret dX6_readInstruction_159 rfl (Or.inl rfl) zh
                  · replace zh := zh.2 zd_168
                    refine vr_iconst dX6_readInstruction_121 (v := (1 : Int32)) (by decide) ?_
                    refine vr_goto dX6_readInstruction_122 (tgt := 126) rfl ?_
                    refine vr_istore dX6_readInstruction_126 (Nat.le_of_ble_eq_true rfl) (vv_eq (ls' := [(0, .ref 142), (1, .int l1), (2, .int l2), (3, .int (1 : Int32)), (4, .int (0 : Int32)), (5, .int (1 : Int32))]) rfl ?_)
                    refine vr_iload dX6_readInstruction_128 rfl ?_
                    refine vr_if_eq dX6_readInstruction_130 (tgt := 157) rfl (fun c => absurd c (by decide)) (fun _ => ?_)
                    refine vr_aload_n dX6_readInstruction_133 rfl rfl ?_
                    refine vr_getR dX6_readInstruction_134 fl_LitmusTester_Parser_39 (wC_142 zw) (Or.inl ⟨_, rfl⟩) (wR_142_1 zw) ?_
                    refine vr_iload_n dX6_readInstruction_137 rfl rfl ?_
                    refine vr_aload_n dX6_readInstruction_138 rfl rfl ?_
                    refine vr_getI dX6_readInstruction_139 fl_LitmusTester_Parser_18 (wC_142 zw) rfl ?_
                    refine vr_aload_n dX6_readInstruction_142 rfl rfl ?_
                    refine vr_getI dX6_readInstruction_143 fl_LitmusTester_Parser_21 (wC_142 zw) rfl ?_
                    refine vr_aload_n dX6_readInstruction_146 rfl rfl ?_
                    refine vr_getI dX6_readInstruction_147 fl_LitmusTester_Parser_24 (wC_142 zw) rfl ?_
                    refine vr_aload_n dX6_readInstruction_150 rfl rfl ?_
                    refine vr_getI dX6_readInstruction_151 fl_LitmusTester_Parser_27 (wC_142 zw) rfl ?_
                    obtain ⟨s169, zw1, zf_170, zh⟩ := zh
                    refine vc_V (As := [.int l2, .int (st_I s165 142 4), .int (st_I s165 142 5), .int (st_I s165 142 6), .int (st_I s165 142 7)]) (rest := []) dX6_readInstruction_154 cV_LitmusTester_Parser_163 (wC_137 zw) rfl rfl (Nat.le_of_ble_eq_true rfl) (Nat.le_of_ble_eq_true rfl) (co_v zf_170 ?_)
                    replace zw := zw1
                    refine vr_iload dX6_readInstruction_157 rfl ?_
                    exact vr_zret dX6_readInstruction_159 rfl (Or.inr rfl) zh
          · replace zh := zh.1 zd_120
            refine vr_iconst dX6_readInstruction_67 (v := (1 : Int32)) (by decide) ?_
            refine vr_goto dX6_readInstruction_68 (tgt := 72) rfl ?_
            refine vr_istore dX6_readInstruction_72 (Nat.le_of_ble_eq_true rfl) (vv_eq (ls' := [(0, .ref 142), (1, .int l1), (2, .int l2), (3, .int (1 : Int32)), (4, .int (1 : Int32))]) rfl ?_)
            refine vr_iload_n dX6_readInstruction_74 rfl rfl ?_
            refine vr_if_eq dX6_readInstruction_75 (tgt := 86) rfl (fun c => absurd c (by decide)) (fun _ => ?_)
            refine vr_aload_n dX6_readInstruction_78 rfl rfl ?_
            refine vr_iload_n dX6_readInstruction_79 rfl rfl ?_
            obtain ⟨v123, s121, zw1, zf_122, zh⟩ := zh
            refine vc_V (As := [.int l1]) (rest := []) dX6_readInstruction_80 cV_LitmusTester_Parser_154 (wC_142 zw) rfl rfl (Nat.le_of_ble_eq_true rfl) (Nat.le_of_ble_eq_true rfl) (co_n zf_122 ?_)
            replace zw := zw1
            refine vr_if_eq dX6_readInstruction_83 (tgt := 125) rfl (fun zd_124 => ?_) (fun zd_124 => ?_)
            · replace zh := zh.1 zd_124
              refine vr_iconst dX6_readInstruction_125 (v := (0 : Int32)) (by decide) ?_
              refine vr_istore dX6_readInstruction_126 (Nat.le_of_ble_eq_true rfl) (vv_eq (ls' := [(0, .ref 142), (1, .int l1), (2, .int l2), (3, .int (1 : Int32)), (4, .int (1 : Int32)), (5, .int (0 : Int32))]) rfl ?_)
              refine vr_iload dX6_readInstruction_128 rfl ?_
              refine vr_if_eq dX6_readInstruction_130 (tgt := 157) rfl (fun _ => ?_) (fun c => absurd (by decide) c)
              refine vr_iload dX6_readInstruction_157 rfl ?_
              exact vr_zret dX6_readInstruction_159 rfl (Or.inl rfl) zh
            · replace zh := zh.2 zd_124
              refine vr_iload_n dX6_readInstruction_86 rfl rfl ?_
              refine vr_iconst dX6_readInstruction_87 (v := (3 : Int32)) (by decide) ?_
              refine vr_ic_eq dX6_readInstruction_88 (tgt := 98) rfl (fun zd_125 => ?_) (fun zd_125 => ?_)
              · replace zh := zh.1 zd_125
                refine vr_iload dX6_readInstruction_98 rfl ?_
                refine vr_if_eq dX6_readInstruction_100 (tgt := 111) rfl (fun c => absurd c (by decide)) (fun _ => ?_)
                refine vr_aload_n dX6_readInstruction_103 rfl rfl ?_
                refine vr_iload_n dX6_readInstruction_104 rfl rfl ?_
                obtain ⟨v128, s126, zw1, zf_127, zh⟩ := zh
                refine vc_V (As := [.int l1]) (rest := []) dX6_readInstruction_105 cV_LitmusTester_Parser_160 (wC_142 zw) rfl rfl (Nat.le_of_ble_eq_true rfl) (Nat.le_of_ble_eq_true rfl) (co_n zf_127 ?_)
                replace zw := zw1
                refine vr_if_eq dX6_readInstruction_108 (tgt := 125) rfl (fun zd_129 => ?_) (fun zd_129 => ?_)
                · replace zh := zh.1 zd_129
                  refine vr_iconst dX6_readInstruction_125 (v := (0 : Int32)) (by decide) ?_
                  refine vr_istore dX6_readInstruction_126 (Nat.le_of_ble_eq_true rfl) (vv_eq (ls' := [(0, .ref 142), (1, .int l1), (2, .int l2), (3, .int (1 : Int32)), (4, .int (1 : Int32)), (5, .int (0 : Int32))]) rfl ?_)
                  refine vr_iload dX6_readInstruction_128 rfl ?_
                  refine vr_if_eq dX6_readInstruction_130 (tgt := 157) rfl (fun _ => ?_) (fun c => absurd (by decide) c)
                  refine vr_iload dX6_readInstruction_157 rfl ?_
                  exact vr_zret dX6_readInstruction_159 rfl (Or.inl rfl) zh
                · replace zh := zh.2 zd_129
                  refine vr_aload_n dX6_readInstruction_111 rfl rfl ?_
                  refine vr_getE dX6_readInstruction_112 (i := 15) (by decide) tw_658 ?_
                  obtain ⟨v132, s130, zw1, zf_131, zh⟩ := zh
                  refine vc_V (As := [.ref 15]) (rest := []) dX6_readInstruction_115 cV_LitmusTester_Parser_85 (wC_142 zw) rfl rfl (Nat.le_of_ble_eq_true rfl) (Nat.le_of_ble_eq_true rfl) (co_n zf_131 ?_)
                  replace zw := zw1
                  refine vr_if_eq dX6_readInstruction_118 (tgt := 125) rfl (fun zd_133 => ?_) (fun zd_133 => ?_)
                  · replace zh := zh.1 zd_133
                    refine vr_iconst dX6_readInstruction_125 (v := (0 : Int32)) (by decide) ?_
                    refine vr_istore dX6_readInstruction_126 (Nat.le_of_ble_eq_true rfl) (vv_eq (ls' := [(0, .ref 142), (1, .int l1), (2, .int l2), (3, .int (1 : Int32)), (4, .int (1 : Int32)), (5, .int (0 : Int32))]) rfl ?_)
                    refine vr_iload dX6_readInstruction_128 rfl ?_
                    refine vr_if_eq dX6_readInstruction_130 (tgt := 157) rfl (fun _ => ?_) (fun c => absurd (by decide) c)
                    refine vr_iload dX6_readInstruction_157 rfl ?_
                    exact vr_zret dX6_readInstruction_159 rfl (Or.inl rfl) zh
                  · replace zh := zh.2 zd_133
                    refine vr_iconst dX6_readInstruction_121 (v := (1 : Int32)) (by decide) ?_
                    refine vr_goto dX6_readInstruction_122 (tgt := 126) rfl ?_
                    refine vr_istore dX6_readInstruction_126 (Nat.le_of_ble_eq_true rfl) (vv_eq (ls' := [(0, .ref 142), (1, .int l1), (2, .int l2), (3, .int (1 : Int32)), (4, .int (1 : Int32)), (5, .int (1 : Int32))]) rfl ?_)
                    refine vr_iload dX6_readInstruction_128 rfl ?_
                    refine vr_if_eq dX6_readInstruction_130 (tgt := 157) rfl (fun c => absurd c (by decide)) (fun _ => ?_)
                    refine vr_aload_n dX6_readInstruction_133 rfl rfl ?_
                    refine vr_getR dX6_readInstruction_134 fl_LitmusTester_Parser_39 (wC_142 zw) (Or.inl ⟨_, rfl⟩) (wR_142_1 zw) ?_
                    refine vr_iload_n dX6_readInstruction_137 rfl rfl ?_
                    refine vr_aload_n dX6_readInstruction_138 rfl rfl ?_
                    refine vr_getI dX6_readInstruction_139 fl_LitmusTester_Parser_18 (wC_142 zw) rfl ?_
                    refine vr_aload_n dX6_readInstruction_142 rfl rfl ?_
                    refine vr_getI dX6_readInstruction_143 fl_LitmusTester_Parser_21 (wC_142 zw) rfl ?_
                    refine vr_aload_n dX6_readInstruction_146 rfl rfl ?_
                    refine vr_getI dX6_readInstruction_147 fl_LitmusTester_Parser_24 (wC_142 zw) rfl ?_
                    refine vr_aload_n dX6_readInstruction_150 rfl rfl ?_
                    refine vr_getI dX6_readInstruction_151 fl_LitmusTester_Parser_27 (wC_142 zw) rfl ?_
                    obtain ⟨s134, zw1, zf_135, zh⟩ := zh
                    refine vc_V (As := [.int l2, .int (st_I s130 142 4), .int (st_I s130 142 5), .int (st_I s130 142 6), .int (st_I s130 142 7)]) (rest := []) dX6_readInstruction_154 cV_LitmusTester_Parser_163 (wC_137 zw) rfl rfl (Nat.le_of_ble_eq_true rfl) (Nat.le_of_ble_eq_true rfl) (co_v zf_135 ?_)
                    replace zw := zw1
                    refine vr_iload dX6_readInstruction_157 rfl ?_
                    exact vr_zret dX6_readInstruction_159 rfl (Or.inr rfl) zh
              · replace zh := zh.2 zd_125
                refine vr_aload_n dX6_readInstruction_91 rfl rfl ?_
                obtain ⟨v138, s136, zw1, zf_137, zh⟩ := zh
                refine vc_V (As := []) (rest := []) dX6_readInstruction_92 cV_LitmusTester_Parser_157 (wC_142 zw) rfl rfl (Nat.le_of_ble_eq_true rfl) (Nat.le_of_ble_eq_true rfl) (co_n zf_137 ?_)
                replace zw := zw1
                refine vr_if_eq dX6_readInstruction_95 (tgt := 125) rfl (fun zd_139 => ?_) (fun zd_139 => ?_)
                · replace zh := zh.1 zd_139
                  refine vr_iconst dX6_readInstruction_125 (v := (0 : Int32)) (by decide) ?_
                  refine vr_istore dX6_readInstruction_126 (Nat.le_of_ble_eq_true rfl) (vv_eq (ls' := [(0, .ref 142), (1, .int l1), (2, .int l2), (3, .int (1 : Int32)), (4, .int (1 : Int32)), (5, .int (0 : Int32))]) rfl ?_)
                  refine vr_iload dX6_readInstruction_128 rfl ?_
                  refine vr_if_eq dX6_readInstruction_130 (tgt := 157) rfl (fun _ => ?_) (fun c => absurd (by decide) c)
                  refine vr_iload dX6_readInstruction_157 rfl ?_
                  exact vr_zret dX6_readInstruction_159 rfl (Or.inl rfl) zh
                · replace zh := zh.2 zd_139
                  refine vr_iload dX6_readInstruction_98 rfl ?_
                  refine vr_if_eq dX6_readInstruction_100 (tgt := 111) rfl (fun c => absurd c (by decide)) (fun _ => ?_)
                  refine vr_aload_n dX6_readInstruction_103 rfl rfl ?_
                  refine vr_iload_n dX6_readInstruction_104 rfl rfl ?_
                  obtain ⟨v142, s140, zw1, zf_141, zh⟩ := zh
                  refine vc_V (As := [.int l1]) (rest := []) dX6_readInstruction_105 cV_LitmusTester_Parser_160 (wC_142 zw) rfl rfl (Nat.le_of_ble_eq_true rfl) (Nat.le_of_ble_eq_true rfl) (co_n zf_141 ?_)
                  replace zw := zw1
                  refine vr_if_eq dX6_readInstruction_108 (tgt := 125) rfl (fun zd_143 => ?_) (fun zd_143 => ?_)
                  · replace zh := zh.1 zd_143
                    refine vr_iconst dX6_readInstruction_125 (v := (0 : Int32)) (by decide) ?_
                    refine vr_istore dX6_readInstruction_126 (Nat.le_of_ble_eq_true rfl) (vv_eq (ls' := [(0, .ref 142), (1, .int l1), (2, .int l2), (3, .int (1 : Int32)), (4, .int (1 : Int32)), (5, .int (0 : Int32))]) rfl ?_)
                    refine vr_iload dX6_readInstruction_128 rfl ?_
                    refine vr_if_eq dX6_readInstruction_130 (tgt := 157) rfl (fun _ => ?_) (fun c => absurd (by decide) c)
                    refine vr_iload dX6_readInstruction_157 rfl ?_
                    exact vr_zret dX6_readInstruction_159 rfl (Or.inl rfl) zh
                  · replace zh := zh.2 zd_143
                    refine vr_aload_n dX6_readInstruction_111 rfl rfl ?_
                    refine vr_getE dX6_readInstruction_112 (i := 15) (by decide) tw_658 ?_
                    obtain ⟨v146, s144, zw1, zf_145, zh⟩ := zh
                    refine vc_V (As := [.ref 15]) (rest := []) dX6_readInstruction_115 cV_LitmusTester_Parser_85 (wC_142 zw) rfl rfl (Nat.le_of_ble_eq_true rfl) (Nat.le_of_ble_eq_true rfl) (co_n zf_145 ?_)
                    replace zw := zw1
                    refine vr_if_eq dX6_readInstruction_118 (tgt := 125) rfl (fun zd_147 => ?_) (fun zd_147 => ?_)
                    · replace zh := zh.1 zd_147
                      refine vr_iconst dX6_readInstruction_125 (v := (0 : Int32)) (by decide) ?_
                      refine vr_istore dX6_readInstruction_126 (Nat.le_of_ble_eq_true rfl) (vv_eq (ls' := [(0, .ref 142), (1, .int l1), (2, .int l2), (3, .int (1 : Int32)), (4, .int (1 : Int32)), (5, .int (0 : Int32))]) rfl ?_)
                      refine vr_iload dX6_readInstruction_128 rfl ?_
                      refine vr_if_eq dX6_readInstruction_130 (tgt := 157) rfl (fun _ => ?_) (fun c => absurd (by decide) c)
                      refine vr_iload dX6_readInstruction_157 rfl ?_
                      exact vr_zret dX6_readInstruction_159 rfl (Or.inl rfl) zh
                    · replace zh := zh.2 zd_147
                      refine vr_iconst dX6_readInstruction_121 (v := (1 : Int32)) (by decide) ?_
                      refine vr_goto dX6_readInstruction_122 (tgt := 126) rfl ?_
                      refine vr_istore dX6_readInstruction_126 (Nat.le_of_ble_eq_true rfl) (vv_eq (ls' := [(0, .ref 142), (1, .int l1), (2, .int l2), (3, .int (1 : Int32)), (4, .int (1 : Int32)), (5, .int (1 : Int32))]) rfl ?_)
                      refine vr_iload dX6_readInstruction_128 rfl ?_
                      refine vr_if_eq dX6_readInstruction_130 (tgt := 157) rfl (fun c => absurd c (by decide)) (fun _ => ?_)
                      refine vr_aload_n dX6_readInstruction_133 rfl rfl ?_
                      refine vr_getR dX6_readInstruction_134 fl_LitmusTester_Parser_39 (wC_142 zw) (Or.inl ⟨_, rfl⟩) (wR_142_1 zw) ?_
                      refine vr_iload_n dX6_readInstruction_137 rfl rfl ?_
                      refine vr_aload_n dX6_readInstruction_138 rfl rfl ?_
                      refine vr_getI dX6_readInstruction_139 fl_LitmusTester_Parser_18 (wC_142 zw) rfl ?_
                      refine vr_aload_n dX6_readInstruction_142 rfl rfl ?_
                      refine vr_getI dX6_readInstruction_143 fl_LitmusTester_Parser_21 (wC_142 zw) rfl ?_
                      refine vr_aload_n dX6_readInstruction_146 rfl rfl ?_
                      refine vr_getI dX6_readInstruction_147 fl_LitmusTester_Parser_24 (wC_142 zw) rfl ?_
                      refine vr_aload_n dX6_readInstruction_150 rfl rfl ?_
                      refine vr_getI dX6_readInstruction_151 fl_LitmusTester_Parser_27 (wC_142 zw) rfl ?_
                      obtain ⟨s148, zw1, zf_149, zh⟩ := zh
                      refine vc_V (As := [.int l2, .int (st_I s144 142 4), .int (st_I s144 142 5), .int (st_I s144 142 6), .int (st_I s144 142 7)]) (rest := []) dX6_readInstruction_154 cV_LitmusTester_Parser_163 (wC_137 zw) rfl rfl (Nat.le_of_ble_eq_true rfl) (Nat.le_of_ble_eq_true rfl) (co_v zf_149 ?_)
                      replace zw := zw1
                      refine vr_iload dX6_readInstruction_157 rfl ?_
                      exact vr_zret dX6_readInstruction_159 rfl (Or.inr rfl) zh
  · replace zh := zh.2 zd_4
    refine vr_aload_n dX6_readInstruction_9 rfl rfl ?_
    refine vr_iconst dX6_readInstruction_10 (v := (5 : Int32)) (by decide) ?_
    obtain ⟨v242, s240, zw1, zf_241, zh⟩ := zh
    refine vc_V (As := [.int (5 : Int32)]) (rest := []) dX6_readInstruction_11 cV_LitmusTester_Parser_92 (wC_142 zw) rfl rfl (Nat.le_of_ble_eq_true rfl) (Nat.le_of_ble_eq_true rfl) (co_n zf_241 ?_)
    replace zw := zw1
    obtain ⟨zb_243, zh⟩ := zh
    exact vr_zret dX6_readInstruction_14 rfl zb_243 zh
theorem e_X6_readInstruction {γ : ga_T} {l1 : Int32} {l2 : Int32} {σ : st_T} {Q : rs_T → st_T → Prop} (zw : Wd σ) (zh : p_X6_readInstruction_0 γ l1 l2 σ Q) : sp_ γ m_X6_readInstruction 4 [.ref 142, .int l1, .int l2] σ Q := sp_of (pl_X6_readInstruction) rfl (Nat.le_of_ble_eq_true rfl) (g_X6_readInstruction_0 zw zh)
def p_X6_isFull_0 (γ : ga_T) (l1 : Int32) (l2 : Int32) (σ : st_T) (Q : rs_T → st_T → Prop) : Prop :=
  ∃ (v3 : Int32) (s1 : st_T), Wd s1 ∧ fn_ γ m_X7_sizeOf 1 [.ref 137, .int l1] σ (.int v3) s1 ∧
  ((7 : Int32) ≤ v3 →
    Q (.inl (some (.int (1 : Int32)))) s1
  ) ∧ (¬ (7 : Int32) ≤ v3 →
    ∃ (v7 : Int32) (s5 : st_T), Wd s5 ∧ fn_ γ m_X7_size 0 [.ref 137] s1 (.int v7) s5 ∧
    (v7 < (10 : Int32) →
      (l2 = (3 : Int32) →
        Q (.inl (some (.int (0 : Int32)))) s5
      ) ∧ (¬ l2 = (3 : Int32) →
        ∃ (v12 : Int32) (s10 : st_T), Wd s10 ∧ fn_ γ m_X7_accessesOf 1 [.ref 137, .int l1] s5 (.int v12) s10 ∧
        ((4 : Int32) ≤ v12 →
          Q (.inl (some (.int (1 : Int32)))) s10
        ) ∧ (¬ (4 : Int32) ≤ v12 →
          ∃ (v16 : Int32) (s14 : st_T), Wd s14 ∧ fn_ γ m_X7_accesses 2 [.ref 137] s10 (.int v16) s14 ∧
          (v16 < (8 : Int32) →
            Q (.inl (some (.int (0 : Int32)))) s14
          ) ∧ (¬ v16 < (8 : Int32) →
            Q (.inl (some (.int (1 : Int32)))) s14
          )
        )
      )
    ) ∧ (¬ v7 < (10 : Int32) →
      Q (.inl (some (.int (1 : Int32)))) s5
    )
  )
set_option maxRecDepth 10000 in
theorem g_X6_isFull_0 {γ : ga_T} {l1 : Int32} {l2 : Int32} {σ : st_T} {Q : rs_T → st_T → Prop} (zw : Wd σ) (zh : p_X6_isFull_0 γ l1 l2 σ Q) : vv_ γ m_X6_isFull 3 0 [(0, .ref 142), (1, .int l1), (2, .int l2)] [] σ Q := by
  unfold p_X6_isFull_0 at zh
  refine vr_aload_n dX6_isFull_0 rfl rfl ?_
  refine vr_getR dX6_isFull_1 fl_LitmusTester_Parser_39 (wC_142 zw) (Or.inl ⟨_, rfl⟩) (wR_142_1 zw) ?_
  refine vr_iload_n dX6_isFull_4 rfl rfl ?_
  obtain ⟨v3, s1, zw1, zf_2, zh⟩ := zh
  refine vc_V (As := [.int l1]) (rest := []) dX6_isFull_5 cV_LitmusTester_Parser_167 (wC_137 zw) rfl rfl (Nat.le_of_ble_eq_true rfl) (Nat.le_of_ble_eq_true rfl) (co_n zf_2 ?_)
  replace zw := zw1
  refine vr_bipush dX6_isFull_8 (v := (7 : Int32)) (by decide) ?_
  refine vr_ic_ge dX6_isFull_10 (tgt := 25) rfl (fun zd_4 => ?_) (fun zd_4 => ?_)
  · replace zh := zh.1 zd_4
    refine vr_iconst dX6_isFull_25 (v := (1 : Int32)) (by decide) ?_
    exact vr_zret dX6_isFull_26 rfl (Or.inr rfl) zh
  · replace zh := zh.2 zd_4
    refine vr_aload_n dX6_isFull_13 rfl rfl ?_
    refine vr_getR dX6_isFull_14 fl_LitmusTester_Parser_39 (wC_142 zw) (Or.inl ⟨_, rfl⟩) (wR_142_1 zw) ?_
    obtain ⟨v7, s5, zw1, zf_6, zh⟩ := zh
    refine vc_V (As := []) (rest := []) dX6_isFull_17 cV_LitmusTester_Parser_171 (wC_137 zw) rfl rfl (Nat.le_of_ble_eq_true rfl) (Nat.le_of_ble_eq_true rfl) (co_n zf_6 ?_)
    replace zw := zw1
    refine vr_bipush dX6_isFull_20 (v := (10 : Int32)) (by decide) ?_
    refine vr_ic_lt dX6_isFull_22 (tgt := 27) rfl (fun zd_8 => ?_) (fun zd_8 => ?_)
    · replace zh := zh.1 zd_8
      refine vr_iload_n dX6_isFull_27 rfl rfl ?_
      refine vr_iconst dX6_isFull_28 (v := (3 : Int32)) (by decide) ?_
      refine vr_ic_eq dX6_isFull_29 (tgt := 60) rfl (fun zd_9 => ?_) (fun zd_9 => ?_)
      · replace zh := zh.1 zd_9
        refine vr_iconst dX6_isFull_60 (v := (0 : Int32)) (by decide) ?_
        exact vr_zret dX6_isFull_61 rfl (Or.inl rfl) zh
      · replace zh := zh.2 zd_9
        refine vr_aload_n dX6_isFull_32 rfl rfl ?_
        refine vr_getR dX6_isFull_33 fl_LitmusTester_Parser_39 (wC_142 zw) (Or.inl ⟨_, rfl⟩) (wR_142_1 zw) ?_
        refine vr_iload_n dX6_isFull_36 rfl rfl ?_
        obtain ⟨v12, s10, zw1, zf_11, zh⟩ := zh
        refine vc_V (As := [.int l1]) (rest := []) dX6_isFull_37 cV_LitmusTester_Parser_174 (wC_137 zw) rfl rfl (Nat.le_of_ble_eq_true rfl) (Nat.le_of_ble_eq_true rfl) (co_n zf_11 ?_)
        replace zw := zw1
        refine vr_iconst dX6_isFull_40 (v := (4 : Int32)) (by decide) ?_
        refine vr_ic_ge dX6_isFull_41 (tgt := 56) rfl (fun zd_13 => ?_) (fun zd_13 => ?_)
        · replace zh := zh.1 zd_13
          refine vr_iconst dX6_isFull_56 (v := (1 : Int32)) (by decide) ?_
          refine vr_goto dX6_isFull_57 (tgt := 61) rfl ?_
          exact vr_zret dX6_isFull_61 rfl (Or.inr rfl) zh
        · replace zh := zh.2 zd_13
          refine vr_aload_n dX6_isFull_44 rfl rfl ?_
          refine vr_getR dX6_isFull_45 fl_LitmusTester_Parser_39 (wC_142 zw) (Or.inl ⟨_, rfl⟩) (wR_142_1 zw) ?_
          obtain ⟨v16, s14, zw1, zf_15, zh⟩ := zh
          refine vc_V (As := []) (rest := []) dX6_isFull_48 cV_LitmusTester_Parser_177 (wC_137 zw) rfl rfl (Nat.le_of_ble_eq_true rfl) (Nat.le_of_ble_eq_true rfl) (co_n zf_15 ?_)
          replace zw := zw1
          refine vr_bipush dX6_isFull_51 (v := (8 : Int32)) (by decide) ?_
          refine vr_ic_lt dX6_isFull_53 (tgt := 60) rfl (fun zd_17 => ?_) (fun zd_17 => ?_)
          · replace zh := zh.1 zd_17
            refine vr_iconst dX6_isFull_60 (v := (0 : Int32)) (by decide) ?_
            exact vr_zret dX6_isFull_61 rfl (Or.inl rfl) zh
          · replace zh := zh.2 zd_17
            refine vr_iconst dX6_isFull_56 (v := (1 : Int32)) (by decide) ?_
            refine vr_goto dX6_isFull_57 (tgt := 61) rfl ?_
            exact vr_zret dX6_isFull_61 rfl (Or.inr rfl) zh
    · replace zh := zh.2 zd_8
      refine vr_iconst dX6_isFull_25 (v := (1 : Int32)) (by decide) ?_
      exact vr_zret dX6_isFull_26 rfl (Or.inr rfl) zh
theorem e_X6_isFull {γ : ga_T} {l1 : Int32} {l2 : Int32} {σ : st_T} {Q : rs_T → st_T → Prop} (zw : Wd σ) (zh : p_X6_isFull_0 γ l1 l2 σ Q) : sp_ γ m_X6_isFull 3 [.ref 142, .int l1, .int l2] σ Q := sp_of (pl_X6_isFull) rfl (Nat.le_of_ble_eq_true rfl) (g_X6_isFull_0 zw zh)
def p_X6_readLocation_0 (γ : ga_T) (σ : st_T) (Q : rs_T → st_T → Prop) : Prop :=
  ∃ (v3 : Nat) (s1 : st_T), Wd s1 ∧ fn_ γ m_X10_sign 0 [.ref 143] σ (.ref v3) s1 ∧
  v3 < 21 ∧
  (v3 = 3 →
    ∃ (v8 : Int64) (s6 : st_T), Wd s6 ∧ fn_ γ m_X10_name 0 [.ref 143] s1 (.long v8) s6 ∧
    ∃ (v11 : Int32) (s9 : st_T), Wd s9 ∧ fn_ γ m_X7_locationNamed 0 [.ref 137, .long v8] s6 (.int v11) s9 ∧
    (v11 = (-1 : Int32) →
      ∃ (v15 : Int32) (s13 : st_T), Wd s13 ∧ fn_ γ m_X6_fail 1 [.ref 142, .int (4 : Int32)] (pt_I s9 142 4 v11) (.int v15) s13 ∧
      (v15 = 0 ∨ v15 = 1) ∧
      Q (.inl (some (.int v15))) s13
    ) ∧ (¬ v11 = (-1 : Int32) →
      ∃ s17, Wd s17 ∧ fw_ γ m_X10_advance 1 [.ref 143] (pt_I s9 142 4 v11) s17 ∧
      Q (.inl (some (.int (1 : Int32)))) s17
    )
  ) ∧ (¬ v3 = 3 →
    ∃ (v21 : Int32) (s19 : st_T), Wd s19 ∧ fn_ γ m_X6_fail 1 [.ref 142, .int (1 : Int32)] s1 (.int v21) s19 ∧
    (v21 = 0 ∨ v21 = 1) ∧
    Q (.inl (some (.int v21))) s19
  )
set_option maxRecDepth 10000 in
theorem g_X6_readLocation_0 {γ : ga_T} {σ : st_T} {Q : rs_T → st_T → Prop} (zw : Wd σ) (zh : p_X6_readLocation_0 γ σ Q) : vv_ γ m_X6_readLocation 2 0 [(0, .ref 142)] [] σ Q := by
  unfold p_X6_readLocation_0 at zh
  refine vr_aload_n dX6_readLocation_0 rfl rfl ?_
  refine vr_getR dX6_readLocation_1 fl_LitmusTester_Parser_35 (wC_142 zw) (Or.inl ⟨_, rfl⟩) (wR_142_0 zw) ?_
  obtain ⟨v3, s1, zw1, zf_2, zh⟩ := zh
  refine vc_V (As := []) (rest := []) dX6_readLocation_4 cV_LitmusTester_Parser_52 (wC_143 zw) rfl rfl (Nat.le_of_ble_eq_true rfl) (Nat.le_of_ble_eq_true rfl) (co_n zf_2 ?_)
  replace zw := zw1
  refine vr_getE dX6_readLocation_7 (i := 3) (by decide) tw_635 ?_
  obtain ⟨zg_4, zh⟩ := zh
  refine vr_acmp_eq dX6_readLocation_10 (tgt := 19) rfl zg_4 (by decide) (fun zd_5 => ?_) (fun zd_5 => ?_)
  · replace zh := zh.1 zd_5
    refine vr_aload_n dX6_readLocation_19 rfl rfl ?_
    refine vr_aload_n dX6_readLocation_20 rfl rfl ?_
    refine vr_getR dX6_readLocation_21 fl_LitmusTester_Parser_39 (wC_142 zw) (Or.inl ⟨_, rfl⟩) (wR_142_1 zw) ?_
    refine vr_aload_n dX6_readLocation_24 rfl rfl ?_
    refine vr_getR dX6_readLocation_25 fl_LitmusTester_Parser_35 (wC_142 zw) (Or.inl ⟨_, rfl⟩) (wR_142_0 zw) ?_
    obtain ⟨v8, s6, zw1, zf_7, zh⟩ := zh
    refine vc_V (As := []) (rest := [.ref 137, .ref 142]) dX6_readLocation_28 cV_LitmusTester_Parser_105 (wC_143 zw) rfl rfl (Nat.le_of_ble_eq_true rfl) (Nat.le_of_ble_eq_true rfl) (co_n zf_7 ?_)
    replace zw := zw1
    obtain ⟨v11, s9, zw1, zf_10, zh⟩ := zh
    refine vc_V (As := [.long v8]) (rest := [.ref 142]) dX6_readLocation_31 cV_LitmusTester_Parser_109 (wC_137 zw) rfl rfl (Nat.le_of_ble_eq_true rfl) (Nat.le_of_ble_eq_true rfl) (co_n zf_10 ?_)
    replace zw := zw1
    refine vr_putI dX6_readLocation_34 fl_LitmusTester_Parser_18 (wC_142 zw) rfl (fz_6_4) ?_
    refine vr_aload_n dX6_readLocation_37 rfl rfl ?_
    refine vr_getI dX6_readLocation_38 fl_LitmusTester_Parser_18 (wC_142 zw) rfl ?_
    refine vv_top (w := .int v11) rfl ?_
    refine vr_iconst dX6_readLocation_41 (v := (-1 : Int32)) (by decide) ?_
    refine vr_ic_ne dX6_readLocation_42 (tgt := 51) rfl (fun zd_12 => ?_) (fun zd_12 => ?_)
    · replace zh := zh.2 zd_12
      refine vr_aload_n dX6_readLocation_51 rfl rfl ?_
      refine vr_getR dX6_readLocation_52 fl_LitmusTester_Parser_35 (wC_142 zw) (Or.inl ⟨_, rfl⟩) (wR_142_0 zw) ?_
      obtain ⟨s17, zw1, zf_18, zh⟩ := zh
      refine vc_V (As := []) (rest := []) dX6_readLocation_55 cV_LitmusTester_Parser_75 (wC_143 zw) rfl rfl (Nat.le_of_ble_eq_true rfl) (Nat.le_of_ble_eq_true rfl) (co_v zf_18 ?_)
      replace zw := zw1
      refine vr_iconst dX6_readLocation_58 (v := (1 : Int32)) (by decide) ?_
      exact vr_zret dX6_readLocation_59 rfl (Or.inr rfl) zh
    · replace zh := zh.1 zd_12
      refine vr_aload_n dX6_readLocation_45 rfl rfl ?_
      refine vr_iconst dX6_readLocation_46 (v := (4 : Int32)) (by decide) ?_
      obtain ⟨v15, s13, zw1, zf_14, zh⟩ := zh
      refine vc_V (As := [.int (4 : Int32)]) (rest := []) dX6_readLocation_47 cV_LitmusTester_Parser_92 (wC_142 zw) rfl rfl (Nat.le_of_ble_eq_true rfl) (Nat.le_of_ble_eq_true rfl) (co_n zf_14 ?_)
      replace zw := zw1
      obtain ⟨zb_16, zh⟩ := zh
      exact vr_zret dX6_readLocation_50 rfl zb_16 zh
  · replace zh := zh.2 zd_5
    refine vr_aload_n dX6_readLocation_13 rfl rfl ?_
    refine vr_iconst dX6_readLocation_14 (v := (1 : Int32)) (by decide) ?_
    obtain ⟨v21, s19, zw1, zf_20, zh⟩ := zh
    refine vc_V (As := [.int (1 : Int32)]) (rest := []) dX6_readLocation_15 cV_LitmusTester_Parser_92 (wC_142 zw) rfl rfl (Nat.le_of_ble_eq_true rfl) (Nat.le_of_ble_eq_true rfl) (co_n zf_20 ?_)
    replace zw := zw1
    obtain ⟨zb_22, zh⟩ := zh
    exact vr_zret dX6_readLocation_18 rfl zb_22 zh
theorem e_X6_readLocation {γ : ga_T} {σ : st_T} {Q : rs_T → st_T → Prop} (zw : Wd σ) (zh : p_X6_readLocation_0 γ σ Q) : sp_ γ m_X6_readLocation 2 [.ref 142] σ Q := sp_of (pl_X6_readLocation) rfl (Nat.le_of_ble_eq_true rfl) (g_X6_readLocation_0 zw zh)
def p_X6_readTarget_0 (γ : ga_T) (l1 : Int32) (σ : st_T) (Q : rs_T → st_T → Prop) : Prop :=
  ∃ (v3 : Nat) (s1 : st_T), Wd s1 ∧ fn_ γ m_X10_sign 0 [.ref 143] σ (.ref v3) s1 ∧
  v3 < 21 ∧
  (v3 = 2 →
    ∃ (v8 : Int32) (s6 : st_T), Wd s6 ∧ fn_ γ m_X10_number 1 [.ref 143] s1 (.int v8) s6 ∧
    ∃ (v11 : Int32) (s9 : st_T), Wd s9 ∧ fn_ γ m_X7_isTarget 1 [.ref 137, .int l1, .int v8] (pt_I s6 142 5 v8) (.int v11) s9 ∧
    (v11 = (0 : Int32) →
      ∃ s13, Wd s13 ∧ fw_ γ m_X10_advance 1 [.ref 143] s9 s13 ∧
      Q (.inl (some (.int (1 : Int32)))) s13
    ) ∧ (¬ v11 = (0 : Int32) →
      ∃ (v17 : Int32) (s15 : st_T), Wd s15 ∧ fn_ γ m_X6_fail 1 [.ref 142, .int (3 : Int32)] s9 (.int v17) s15 ∧
      (v17 = 0 ∨ v17 = 1) ∧
      Q (.inl (some (.int v17))) s15
    )
  ) ∧ (¬ v3 = 2 →
    ∃ (v21 : Int32) (s19 : st_T), Wd s19 ∧ fn_ γ m_X6_fail 1 [.ref 142, .int (1 : Int32)] s1 (.int v21) s19 ∧
    (v21 = 0 ∨ v21 = 1) ∧
    Q (.inl (some (.int v21))) s19
  )
set_option maxRecDepth 10000 in
theorem g_X6_readTarget_0 {γ : ga_T} {l1 : Int32} {σ : st_T} {Q : rs_T → st_T → Prop} (zw : Wd σ) (zh : p_X6_readTarget_0 γ l1 σ Q) : vv_ γ m_X6_readTarget 2 0 [(0, .ref 142), (1, .int l1)] [] σ Q := by
  unfold p_X6_readTarget_0 at zh
  refine vr_aload_n dX6_readTarget_0 rfl rfl ?_
  refine vr_getR dX6_readTarget_1 fl_LitmusTester_Parser_35 (wC_142 zw) (Or.inl ⟨_, rfl⟩) (wR_142_0 zw) ?_
  obtain ⟨v3, s1, zw1, zf_2, zh⟩ := zh
  refine vc_V (As := []) (rest := []) dX6_readTarget_4 cV_LitmusTester_Parser_52 (wC_143 zw) rfl rfl (Nat.le_of_ble_eq_true rfl) (Nat.le_of_ble_eq_true rfl) (co_n zf_2 ?_)
  replace zw := zw1
  refine vr_getE dX6_readTarget_7 (i := 2) (by decide) tw_723 ?_
  obtain ⟨zg_4, zh⟩ := zh
  refine vr_acmp_eq dX6_readTarget_10 (tgt := 19) rfl zg_4 (by decide) (fun zd_5 => ?_) (fun zd_5 => ?_)
  · replace zh := zh.1 zd_5
    refine vr_aload_n dX6_readTarget_19 rfl rfl ?_
    refine vr_aload_n dX6_readTarget_20 rfl rfl ?_
    refine vr_getR dX6_readTarget_21 fl_LitmusTester_Parser_35 (wC_142 zw) (Or.inl ⟨_, rfl⟩) (wR_142_0 zw) ?_
    obtain ⟨v8, s6, zw1, zf_7, zh⟩ := zh
    refine vc_V (As := []) (rest := [.ref 142]) dX6_readTarget_24 cV_LitmusTester_Parser_116 (wC_143 zw) rfl rfl (Nat.le_of_ble_eq_true rfl) (Nat.le_of_ble_eq_true rfl) (co_n zf_7 ?_)
    replace zw := zw1
    refine vr_putI dX6_readTarget_27 fl_LitmusTester_Parser_21 (wC_142 zw) rfl (fz_6_5) ?_
    refine vr_aload_n dX6_readTarget_30 rfl rfl ?_
    refine vr_getR dX6_readTarget_31 fl_LitmusTester_Parser_39 (wC_142 zw) (Or.inl ⟨_, rfl⟩) (wR_142_1 zw) ?_
    refine vr_iload_n dX6_readTarget_34 rfl rfl ?_
    refine vr_aload_n dX6_readTarget_35 rfl rfl ?_
    refine vr_getI dX6_readTarget_36 fl_LitmusTester_Parser_21 (wC_142 zw) rfl ?_
    refine vv_top (w := .int v8) rfl ?_
    obtain ⟨v11, s9, zw1, zf_10, zh⟩ := zh
    refine vc_V (As := [.int l1, .int v8]) (rest := []) dX6_readTarget_39 cV_LitmusTester_Parser_183 (wC_137 zw) rfl rfl (Nat.le_of_ble_eq_true rfl) (Nat.le_of_ble_eq_true rfl) (co_n zf_10 ?_)
    replace zw := zw1
    refine vr_if_eq dX6_readTarget_42 (tgt := 51) rfl (fun zd_12 => ?_) (fun zd_12 => ?_)
    · replace zh := zh.1 zd_12
      refine vr_aload_n dX6_readTarget_51 rfl rfl ?_
      refine vr_getR dX6_readTarget_52 fl_LitmusTester_Parser_35 (wC_142 zw) (Or.inl ⟨_, rfl⟩) (wR_142_0 zw) ?_
      obtain ⟨s13, zw1, zf_14, zh⟩ := zh
      refine vc_V (As := []) (rest := []) dX6_readTarget_55 cV_LitmusTester_Parser_75 (wC_143 zw) rfl rfl (Nat.le_of_ble_eq_true rfl) (Nat.le_of_ble_eq_true rfl) (co_v zf_14 ?_)
      replace zw := zw1
      refine vr_iconst dX6_readTarget_58 (v := (1 : Int32)) (by decide) ?_
      exact vr_zret dX6_readTarget_59 rfl (Or.inr rfl) zh
    · replace zh := zh.2 zd_12
      refine vr_aload_n dX6_readTarget_45 rfl rfl ?_
      refine vr_iconst dX6_readTarget_46 (v := (3 : Int32)) (by decide) ?_
      obtain ⟨v17, s15, zw1, zf_16, zh⟩ := zh
      refine vc_V (As := [.int (3 : Int32)]) (rest := []) dX6_readTarget_47 cV_LitmusTester_Parser_92 (wC_142 zw) rfl rfl (Nat.le_of_ble_eq_true rfl) (Nat.le_of_ble_eq_true rfl) (co_n zf_16 ?_)
      replace zw := zw1
      obtain ⟨zb_18, zh⟩ := zh
      exact vr_zret dX6_readTarget_50 rfl zb_18 zh
  · replace zh := zh.2 zd_5
    refine vr_aload_n dX6_readTarget_13 rfl rfl ?_
    refine vr_iconst dX6_readTarget_14 (v := (1 : Int32)) (by decide) ?_
    obtain ⟨v21, s19, zw1, zf_20, zh⟩ := zh
    refine vc_V (As := [.int (1 : Int32)]) (rest := []) dX6_readTarget_15 cV_LitmusTester_Parser_92 (wC_142 zw) rfl rfl (Nat.le_of_ble_eq_true rfl) (Nat.le_of_ble_eq_true rfl) (co_n zf_20 ?_)
    replace zw := zw1
    obtain ⟨zb_22, zh⟩ := zh
    exact vr_zret dX6_readTarget_18 rfl zb_22 zh
theorem e_X6_readTarget {γ : ga_T} {l1 : Int32} {σ : st_T} {Q : rs_T → st_T → Prop} (zw : Wd σ) (zh : p_X6_readTarget_0 γ l1 σ Q) : sp_ γ m_X6_readTarget 2 [.ref 142, .int l1] σ Q := sp_of (pl_X6_readTarget) rfl (Nat.le_of_ble_eq_true rfl) (g_X6_readTarget_0 zw zh)
def p_X6_readValue_0 (γ : ga_T) (l1 : Int32) (σ : st_T) (Q : rs_T → st_T → Prop) : Prop :=
  ∃ (v3 : Nat) (s1 : st_T), Wd s1 ∧ fn_ γ m_X10_sign 0 [.ref 143] σ (.ref v3) s1 ∧
  v3 < 21 ∧
  (v3 = 2 →
    ∃ (v8 : Int32) (s6 : st_T), Wd s6 ∧ fn_ γ m_X10_number 1 [.ref 143] s1 (.int v8) s6 ∧
    ∃ (v11 : Int32) (s9 : st_T), Wd s9 ∧ fn_ γ m_X7_isTarget 1 [.ref 137, .int l1, .int v8] (pt_I s6 142 7 v8) (.int v11) s9 ∧
    (v11 = (0 : Int32) →
      ∃ (v15 : Int32) (s13 : st_T), Wd s13 ∧ fn_ γ m_X6_fail 1 [.ref 142, .int (4 : Int32)] s9 (.int v15) s13 ∧
      (v15 = 0 ∨ v15 = 1) ∧
      Q (.inl (some (.int v15))) s13
    ) ∧ (¬ v11 = (0 : Int32) →
      ∃ s17, Wd s17 ∧ fw_ γ m_X10_advance 1 [.ref 143] s9 s17 ∧
      Q (.inl (some (.int (1 : Int32)))) s17
    )
  ) ∧ (¬ v3 = 2 →
    ∃ (v21 : Int32) (s19 : st_T), Wd s19 ∧ fn_ γ m_X6_isValue 2 [.ref 142] s1 (.int v21) s19 ∧
    (v21 = (0 : Int32) →
      Q (.inl (some (.int (0 : Int32)))) s19
    ) ∧ (¬ v21 = (0 : Int32) →
      ∃ (v25 : Int32) (s23 : st_T), Wd s23 ∧ fn_ γ m_X10_number 1 [.ref 143] s19 (.int v25) s23 ∧
      ∃ s26, Wd s26 ∧ fw_ γ m_X10_advance 1 [.ref 143] (pt_I s23 142 6 v25) s26 ∧
      Q (.inl (some (.int (1 : Int32)))) s26
    )
  )
set_option maxRecDepth 10000 in
theorem g_X6_readValue_0 {γ : ga_T} {l1 : Int32} {σ : st_T} {Q : rs_T → st_T → Prop} (zw : Wd σ) (zh : p_X6_readValue_0 γ l1 σ Q) : vv_ γ m_X6_readValue 3 0 [(0, .ref 142), (1, .int l1)] [] σ Q := by
  unfold p_X6_readValue_0 at zh
  refine vr_aload_n dX6_readValue_0 rfl rfl ?_
  refine vr_getR dX6_readValue_1 fl_LitmusTester_Parser_35 (wC_142 zw) (Or.inl ⟨_, rfl⟩) (wR_142_0 zw) ?_
  obtain ⟨v3, s1, zw1, zf_2, zh⟩ := zh
  refine vc_V (As := []) (rest := []) dX6_readValue_4 cV_LitmusTester_Parser_52 (wC_143 zw) rfl rfl (Nat.le_of_ble_eq_true rfl) (Nat.le_of_ble_eq_true rfl) (co_n zf_2 ?_)
  replace zw := zw1
  refine vr_getE dX6_readValue_7 (i := 2) (by decide) tw_723 ?_
  obtain ⟨zg_4, zh⟩ := zh
  refine vr_acmp_ne dX6_readValue_10 (tgt := 45) rfl zg_4 (by decide) (fun zd_5 => ?_) (fun zd_5 => ?_)
  · replace zh := zh.2 zd_5
    refine vr_aload_n dX6_readValue_45 rfl rfl ?_
    obtain ⟨v21, s19, zw1, zf_20, zh⟩ := zh
    refine vc_V (As := []) (rest := []) dX6_readValue_46 cV_LitmusTester_Parser_113 (wC_142 zw) rfl rfl (Nat.le_of_ble_eq_true rfl) (Nat.le_of_ble_eq_true rfl) (co_n zf_20 ?_)
    replace zw := zw1
    refine vr_if_eq dX6_readValue_49 (tgt := 66) rfl (fun zd_22 => ?_) (fun zd_22 => ?_)
    · replace zh := zh.1 zd_22
      refine vr_iconst dX6_readValue_66 (v := (0 : Int32)) (by decide) ?_
      exact vr_zret dX6_readValue_67 rfl (Or.inl rfl) zh
    · replace zh := zh.2 zd_22
      refine vr_aload_n dX6_readValue_52 rfl rfl ?_
      refine vr_aload_n dX6_readValue_53 rfl rfl ?_
      refine vr_getR dX6_readValue_54 fl_LitmusTester_Parser_35 (wC_142 zw) (Or.inl ⟨_, rfl⟩) (wR_142_0 zw) ?_
      obtain ⟨v25, s23, zw1, zf_24, zh⟩ := zh
      refine vc_V (As := []) (rest := [.ref 142]) dX6_readValue_57 cV_LitmusTester_Parser_116 (wC_143 zw) rfl rfl (Nat.le_of_ble_eq_true rfl) (Nat.le_of_ble_eq_true rfl) (co_n zf_24 ?_)
      replace zw := zw1
      refine vr_putI dX6_readValue_60 fl_LitmusTester_Parser_24 (wC_142 zw) rfl (fz_6_6) ?_
      refine vr_goto dX6_readValue_63 (tgt := 68) rfl ?_
      refine vr_aload_n dX6_readValue_68 rfl rfl ?_
      refine vr_getR dX6_readValue_69 fl_LitmusTester_Parser_35 (wC_142 zw) (Or.inl ⟨_, rfl⟩) (wR_142_0 zw) ?_
      obtain ⟨s26, zw1, zf_27, zh⟩ := zh
      refine vc_V (As := []) (rest := []) dX6_readValue_72 cV_LitmusTester_Parser_75 (wC_143 zw) rfl rfl (Nat.le_of_ble_eq_true rfl) (Nat.le_of_ble_eq_true rfl) (co_v zf_27 ?_)
      replace zw := zw1
      refine vr_iconst dX6_readValue_75 (v := (1 : Int32)) (by decide) ?_
      exact vr_zret dX6_readValue_76 rfl (Or.inr rfl) zh
  · replace zh := zh.1 zd_5
    refine vr_aload_n dX6_readValue_13 rfl rfl ?_
    refine vr_aload_n dX6_readValue_14 rfl rfl ?_
    refine vr_getR dX6_readValue_15 fl_LitmusTester_Parser_35 (wC_142 zw) (Or.inl ⟨_, rfl⟩) (wR_142_0 zw) ?_
    obtain ⟨v8, s6, zw1, zf_7, zh⟩ := zh
    refine vc_V (As := []) (rest := [.ref 142]) dX6_readValue_18 cV_LitmusTester_Parser_116 (wC_143 zw) rfl rfl (Nat.le_of_ble_eq_true rfl) (Nat.le_of_ble_eq_true rfl) (co_n zf_7 ?_)
    replace zw := zw1
    refine vr_putI dX6_readValue_21 fl_LitmusTester_Parser_27 (wC_142 zw) rfl (fz_6_7) ?_
    refine vr_aload_n dX6_readValue_24 rfl rfl ?_
    refine vr_getR dX6_readValue_25 fl_LitmusTester_Parser_39 (wC_142 zw) (Or.inl ⟨_, rfl⟩) (wR_142_1 zw) ?_
    refine vr_iload_n dX6_readValue_28 rfl rfl ?_
    refine vr_aload_n dX6_readValue_29 rfl rfl ?_
    refine vr_getI dX6_readValue_30 fl_LitmusTester_Parser_27 (wC_142 zw) rfl ?_
    refine vv_top (w := .int v8) rfl ?_
    obtain ⟨v11, s9, zw1, zf_10, zh⟩ := zh
    refine vc_V (As := [.int l1, .int v8]) (rest := []) dX6_readValue_33 cV_LitmusTester_Parser_183 (wC_137 zw) rfl rfl (Nat.le_of_ble_eq_true rfl) (Nat.le_of_ble_eq_true rfl) (co_n zf_10 ?_)
    replace zw := zw1
    refine vr_if_ne dX6_readValue_36 (tgt := 68) rfl (fun zd_12 => ?_) (fun zd_12 => ?_)
    · replace zh := zh.2 zd_12
      refine vr_aload_n dX6_readValue_68 rfl rfl ?_
      refine vr_getR dX6_readValue_69 fl_LitmusTester_Parser_35 (wC_142 zw) (Or.inl ⟨_, rfl⟩) (wR_142_0 zw) ?_
      obtain ⟨s17, zw1, zf_18, zh⟩ := zh
      refine vc_V (As := []) (rest := []) dX6_readValue_72 cV_LitmusTester_Parser_75 (wC_143 zw) rfl rfl (Nat.le_of_ble_eq_true rfl) (Nat.le_of_ble_eq_true rfl) (co_v zf_18 ?_)
      replace zw := zw1
      refine vr_iconst dX6_readValue_75 (v := (1 : Int32)) (by decide) ?_
      exact vr_zret dX6_readValue_76 rfl (Or.inr rfl) zh
    · replace zh := zh.1 zd_12
      refine vr_aload_n dX6_readValue_39 rfl rfl ?_
      refine vr_iconst dX6_readValue_40 (v := (4 : Int32)) (by decide) ?_
      obtain ⟨v15, s13, zw1, zf_14, zh⟩ := zh
      refine vc_V (As := [.int (4 : Int32)]) (rest := []) dX6_readValue_41 cV_LitmusTester_Parser_92 (wC_142 zw) rfl rfl (Nat.le_of_ble_eq_true rfl) (Nat.le_of_ble_eq_true rfl) (co_n zf_14 ?_)
      replace zw := zw1
      obtain ⟨zb_16, zh⟩ := zh
      exact vr_zret dX6_readValue_44 rfl zb_16 zh
theorem e_X6_readValue {γ : ga_T} {l1 : Int32} {σ : st_T} {Q : rs_T → st_T → Prop} (zw : Wd σ) (zh : p_X6_readValue_0 γ l1 σ Q) : sp_ γ m_X6_readValue 3 [.ref 142, .int l1] σ Q := sp_of (pl_X6_readValue) rfl (Nat.le_of_ble_eq_true rfl) (g_X6_readValue_0 zw zh)
def p_X6_readCondition_0 (γ : ga_T) (d : Nat) (l1 : Int32) (σ : st_T) (Q : rs_T → st_T → Prop) : Prop :=
  vv_ γ m_X6_readCondition (d + 1) 4 [(0, .ref 142), (1, .int l1), (2, .int (1 : Int32)), (3, .int (0 : Int32))] [] σ Q
set_option maxRecDepth 10000 in
theorem g_X6_readCondition_0 {γ : ga_T} {d : Nat} {l1 : Int32} {σ : st_T} {Q : rs_T → st_T → Prop} (zhd : 40 ≤ d) (zw : Wd σ) (zh : p_X6_readCondition_0 γ d l1 σ Q) : vv_ γ m_X6_readCondition (d + 1) 0 [(0, .ref 142), (1, .int l1)] [] σ Q := by
  unfold p_X6_readCondition_0 at zh
  refine vr_iconst dX6_readCondition_0 (v := (1 : Int32)) (by decide) ?_
  refine vr_istore_n dX6_readCondition_1 rfl (Nat.le_of_ble_eq_true rfl) (vv_eq (ls' := [(0, .ref 142), (1, .int l1), (2, .int (1 : Int32))]) rfl ?_)
  refine vr_iconst dX6_readCondition_2 (v := (0 : Int32)) (by decide) ?_
  refine vr_istore_n dX6_readCondition_3 rfl (Nat.le_of_ble_eq_true rfl) (vv_eq (ls' := [(0, .ref 142), (1, .int l1), (2, .int (1 : Int32)), (3, .int (0 : Int32))]) rfl ?_)
  exact vv_sub (ls' := [(0, .ref 142), (1, .int l1), (2, .int (1 : Int32)), (3, .int (0 : Int32))]) ⟨rfl, rfl, rfl, rfl, trivial⟩ zh
theorem e_X6_readCondition {γ : ga_T} {d : Nat} {l1 : Int32} {σ : st_T} {Q : rs_T → st_T → Prop} (zhd : 40 ≤ d) (zw : Wd σ) (zh : p_X6_readCondition_0 γ d l1 σ Q) : sp_ γ m_X6_readCondition (d + 1) [.ref 142, .int l1] σ Q := sp_of (pl_X6_readCondition) rfl (Nat.le_of_ble_eq_true rfl) (g_X6_readCondition_0 zhd zw zh)
def p_X6_readCondition_4 (γ : ga_T) (d : Nat) (l1 : Int32) (l2 : Int32) (l3 : Int32) (σ : st_T) (Q : rs_T → st_T → Prop) : Prop :=
  ((16 : Int32) < l3 →
    Q (.inl (some (.int (1 : Int32)))) σ
  ) ∧ (¬ (16 : Int32) < l3 →
    (l2 = (0 : Int32) →
      Q (.inl (some (.int (1 : Int32)))) σ
    ) ∧ (¬ l2 = (0 : Int32) →
      vv_ γ m_X6_readCondition (d + 1) 17 [(0, .ref 142), (1, .int l1), (2, .int l2), (3, .int l3), (4, .int (0 : Int32))] [] σ Q
    )
  )
set_option maxRecDepth 10000 in
theorem g_X6_readCondition_4 {γ : ga_T} {d : Nat} {l1 : Int32} {l2 : Int32} {l3 : Int32} {σ : st_T} {Q : rs_T → st_T → Prop} (zhd : 40 ≤ d) (zw : Wd σ) (zh : p_X6_readCondition_4 γ d l1 l2 l3 σ Q) : vv_ γ m_X6_readCondition (d + 1) 4 [(0, .ref 142), (1, .int l1), (2, .int l2), (3, .int l3)] [] σ Q := by
  unfold p_X6_readCondition_4 at zh
  refine vr_iload_n dX6_readCondition_4 rfl rfl ?_
  refine vr_bipush dX6_readCondition_5 (v := (16 : Int32)) (by decide) ?_
  refine vr_ic_gt dX6_readCondition_7 (tgt := 93) rfl (fun zd_1 => ?_) (fun zd_1 => ?_)
  · replace zh := zh.1 zd_1
    refine vr_iconst dX6_readCondition_93 (v := (1 : Int32)) (by decide) ?_
    exact vr_zret dX6_readCondition_94 rfl (Or.inr rfl) zh
  · replace zh := zh.2 zd_1
    refine vr_iload_n dX6_readCondition_10 rfl rfl ?_
    refine vr_if_eq dX6_readCondition_11 (tgt := 93) rfl (fun zd_2 => ?_) (fun zd_2 => ?_)
    · replace zh := zh.1 zd_2
      refine vr_iconst dX6_readCondition_93 (v := (1 : Int32)) (by decide) ?_
      exact vr_zret dX6_readCondition_94 rfl (Or.inr rfl) zh
    · replace zh := zh.2 zd_2
      refine vr_iconst dX6_readCondition_14 (v := (0 : Int32)) (by decide) ?_
      refine vr_istore dX6_readCondition_15 (Nat.le_of_ble_eq_true rfl) (vv_eq (ls' := [(0, .ref 142), (1, .int l1), (2, .int l2), (3, .int l3), (4, .int (0 : Int32))]) rfl ?_)
      exact vv_sub (ls' := [(0, .ref 142), (1, .int l1), (2, .int l2), (3, .int l3), (4, .int (0 : Int32))]) ⟨rfl, rfl, rfl, rfl, rfl, trivial⟩ zh
def p_X6_readCondition_17 (γ : ga_T) (d : Nat) (l1 : Int32) (l2 : Int32) (l3 : Int32) (l4 : Int32) (σ : st_T) (Q : rs_T → st_T → Prop) : Prop :=
  ((16 : Int32) < l4 →
    (l3 ≤ (0 : Int32) →
      ∃ (v5 : Int32) (s3 : st_T), Wd s3 ∧ fn_ γ m_X6_isPassed 2 [.ref 142, .ref 12] σ (.int v5) s3 ∧
      vv_ γ m_X6_readCondition (d + 1) 4 [(0, .ref 142), (1, .int l1), (2, .int v5), (3, .int (l3 + 1))] [] s3 Q
    ) ∧ (¬ l3 ≤ (0 : Int32) →
      ∃ s6, Wd s6 ∧ fw_ γ m_X7_addToCondition 0 [.ref 137, .int (-3 : Int32)] σ s6 ∧
      ∃ (v10 : Int32) (s8 : st_T), Wd s8 ∧ fn_ γ m_X6_isPassed 2 [.ref 142, .ref 12] s6 (.int v10) s8 ∧
      vv_ γ m_X6_readCondition (d + 1) 4 [(0, .ref 142), (1, .int l1), (2, .int v10), (3, .int (l3 + 1))] [] s8 Q
    )
  ) ∧ (¬ (16 : Int32) < l4 →
    (l2 = (0 : Int32) →
      (l3 ≤ (0 : Int32) →
        ∃ (v15 : Int32) (s13 : st_T), Wd s13 ∧ fn_ γ m_X6_isPassed 2 [.ref 142, .ref 12] σ (.int v15) s13 ∧
        vv_ γ m_X6_readCondition (d + 1) 4 [(0, .ref 142), (1, .int l1), (2, .int v15), (3, .int (l3 + 1))] [] s13 Q
      ) ∧ (¬ l3 ≤ (0 : Int32) →
        ∃ s16, Wd s16 ∧ fw_ γ m_X7_addToCondition 0 [.ref 137, .int (-3 : Int32)] σ s16 ∧
        ∃ (v20 : Int32) (s18 : st_T), Wd s18 ∧ fn_ γ m_X6_isPassed 2 [.ref 142, .ref 12] s16 (.int v20) s18 ∧
        vv_ γ m_X6_readCondition (d + 1) 4 [(0, .ref 142), (1, .int l1), (2, .int v20), (3, .int (l3 + 1))] [] s18 Q
      )
    ) ∧ (¬ l2 = (0 : Int32) →
      ∃ (v23 : Int32) (s21 : st_T), Wd s21 ∧ fn_ γ m_X6_readUnit d [.ref 142, .int l1] σ (.int v23) s21 ∧
      (v23 = (0 : Int32) →
        Q (.inl (some (.int (0 : Int32)))) s21
      ) ∧ (¬ v23 = (0 : Int32) →
        (l4 ≤ (0 : Int32) →
          ∃ (v28 : Int32) (s26 : st_T), Wd s26 ∧ fn_ γ m_X6_isPassed 2 [.ref 142, .ref 13] s21 (.int v28) s26 ∧
          vv_ γ m_X6_readCondition (d + 1) 17 [(0, .ref 142), (1, .int l1), (2, .int v28), (3, .int l3), (4, .int (l4 + 1))] [] s26 Q
        ) ∧ (¬ l4 ≤ (0 : Int32) →
          ∃ s29, Wd s29 ∧ fw_ γ m_X7_addToCondition 0 [.ref 137, .int (-2 : Int32)] s21 s29 ∧
          ∃ (v33 : Int32) (s31 : st_T), Wd s31 ∧ fn_ γ m_X6_isPassed 2 [.ref 142, .ref 13] s29 (.int v33) s31 ∧
          vv_ γ m_X6_readCondition (d + 1) 17 [(0, .ref 142), (1, .int l1), (2, .int v33), (3, .int l3), (4, .int (l4 + 1))] [] s31 Q
        )
      )
    )
  )
set_option maxRecDepth 10000 in
theorem g_X6_readCondition_17 {γ : ga_T} {d : Nat} {l1 : Int32} {l2 : Int32} {l3 : Int32} {l4 : Int32} {σ : st_T} {Q : rs_T → st_T → Prop} (zhd : 40 ≤ d) (zw : Wd σ) (zh : p_X6_readCondition_17 γ d l1 l2 l3 l4 σ Q) : vv_ γ m_X6_readCondition (d + 1) 17 [(0, .ref 142), (1, .int l1), (2, .int l2), (3, .int l3), (4, .int l4)] [] σ Q := by
  unfold p_X6_readCondition_17 at zh
  refine vr_iload dX6_readCondition_17 rfl ?_
  refine vr_bipush dX6_readCondition_19 (v := (16 : Int32)) (by decide) ?_
  refine vr_ic_gt dX6_readCondition_21 (tgt := 66) rfl (fun zd_1 => ?_) (fun zd_1 => ?_)
  · replace zh := zh.1 zd_1
    refine vr_iload_n dX6_readCondition_66 rfl rfl ?_
    refine vr_if_le dX6_readCondition_67 (tgt := 79) rfl (fun zd_2 => ?_) (fun zd_2 => ?_)
    · replace zh := zh.1 zd_2
      refine vr_aload_n dX6_readCondition_79 rfl rfl ?_
      refine vr_getE dX6_readCondition_80 (i := 12) (by decide) tw_803 ?_
      obtain ⟨v5, s3, zw1, zf_4, zh⟩ := zh
      refine vc_V (As := [.ref 12]) (rest := []) dX6_readCondition_83 cV_LitmusTester_Parser_195 (wC_142 zw) rfl rfl (Nat.le_of_ble_eq_true rfl) (by omega) (co_n zf_4 ?_)
      replace zw := zw1
      refine vr_istore_n dX6_readCondition_86 rfl (Nat.le_of_ble_eq_true rfl) (vv_eq (ls' := [(0, .ref 142), (1, .int l1), (2, .int v5), (3, .int l3), (4, .int l4)]) rfl ?_)
      refine vr_iinc dX6_readCondition_87 (x := l3) (v := (l3 + 1)) rfl (ii_ (by decide)) (Nat.le_of_ble_eq_true rfl) (vv_eq (ls' := [(0, .ref 142), (1, .int l1), (2, .int v5), (3, .int (l3 + 1)), (4, .int l4)]) rfl ?_)
      refine vr_goto dX6_readCondition_90 (tgt := 4) rfl ?_
      exact vv_sub (ls' := [(0, .ref 142), (1, .int l1), (2, .int v5), (3, .int (l3 + 1))]) ⟨rfl, rfl, rfl, rfl, trivial⟩ zh
    · replace zh := zh.2 zd_2
      refine vr_aload_n dX6_readCondition_70 rfl rfl ?_
      refine vr_getR dX6_readCondition_71 fl_LitmusTester_Parser_39 (wC_142 zw) (Or.inl ⟨_, rfl⟩) (wR_142_1 zw) ?_
      refine vr_bipush dX6_readCondition_74 (v := (-3 : Int32)) (by decide) ?_
      obtain ⟨s6, zw1, zf_7, zh⟩ := zh
      refine vc_V (As := [.int (-3 : Int32)]) (rest := []) dX6_readCondition_76 cV_LitmusTester_Parser_189 (wC_137 zw) rfl rfl (Nat.le_of_ble_eq_true rfl) (by omega) (co_v zf_7 ?_)
      replace zw := zw1
      refine vr_aload_n dX6_readCondition_79 rfl rfl ?_
      refine vr_getE dX6_readCondition_80 (i := 12) (by decide) tw_803 ?_
      obtain ⟨v10, s8, zw1, zf_9, zh⟩ := zh
      refine vc_V (As := [.ref 12]) (rest := []) dX6_readCondition_83 cV_LitmusTester_Parser_195 (wC_142 zw) rfl rfl (Nat.le_of_ble_eq_true rfl) (by omega) (co_n zf_9 ?_)
      replace zw := zw1
      refine vr_istore_n dX6_readCondition_86 rfl (Nat.le_of_ble_eq_true rfl) (vv_eq (ls' := [(0, .ref 142), (1, .int l1), (2, .int v10), (3, .int l3), (4, .int l4)]) rfl ?_)
      refine vr_iinc dX6_readCondition_87 (x := l3) (v := (l3 + 1)) rfl (ii_ (by decide)) (Nat.le_of_ble_eq_true rfl) (vv_eq (ls' := [(0, .ref 142), (1, .int l1), (2, .int v10), (3, .int (l3 + 1)), (4, .int l4)]) rfl ?_)
      refine vr_goto dX6_readCondition_90 (tgt := 4) rfl ?_
      exact vv_sub (ls' := [(0, .ref 142), (1, .int l1), (2, .int v10), (3, .int (l3 + 1))]) ⟨rfl, rfl, rfl, rfl, trivial⟩ zh
  · replace zh := zh.2 zd_1
    refine vr_iload_n dX6_readCondition_24 rfl rfl ?_
    refine vr_if_eq dX6_readCondition_25 (tgt := 66) rfl (fun zd_11 => ?_) (fun zd_11 => ?_)
    · replace zh := zh.1 zd_11
      refine vr_iload_n dX6_readCondition_66 rfl rfl ?_
      refine vr_if_le dX6_readCondition_67 (tgt := 79) rfl (fun zd_12 => ?_) (fun zd_12 => ?_)
      · replace zh := zh.1 zd_12
        refine vr_aload_n dX6_readCondition_79 rfl rfl ?_
        refine vr_getE dX6_readCondition_80 (i := 12) (by decide) tw_803 ?_
        obtain ⟨v15, s13, zw1, zf_14, zh⟩ := zh
        refine vc_V (As := [.ref 12]) (rest := []) dX6_readCondition_83 cV_LitmusTester_Parser_195 (wC_142 zw) rfl rfl (Nat.le_of_ble_eq_true rfl) (by omega) (co_n zf_14 ?_)
        replace zw := zw1
        refine vr_istore_n dX6_readCondition_86 rfl (Nat.le_of_ble_eq_true rfl) (vv_eq (ls' := [(0, .ref 142), (1, .int l1), (2, .int v15), (3, .int l3), (4, .int l4)]) rfl ?_)
        refine vr_iinc dX6_readCondition_87 (x := l3) (v := (l3 + 1)) rfl (ii_ (by decide)) (Nat.le_of_ble_eq_true rfl) (vv_eq (ls' := [(0, .ref 142), (1, .int l1), (2, .int v15), (3, .int (l3 + 1)), (4, .int l4)]) rfl ?_)
        refine vr_goto dX6_readCondition_90 (tgt := 4) rfl ?_
        exact vv_sub (ls' := [(0, .ref 142), (1, .int l1), (2, .int v15), (3, .int (l3 + 1))]) ⟨rfl, rfl, rfl, rfl, trivial⟩ zh
      · replace zh := zh.2 zd_12
        refine vr_aload_n dX6_readCondition_70 rfl rfl ?_
        refine vr_getR dX6_readCondition_71 fl_LitmusTester_Parser_39 (wC_142 zw) (Or.inl ⟨_, rfl⟩) (wR_142_1 zw) ?_
        refine vr_bipush dX6_readCondition_74 (v := (-3 : Int32)) (by decide) ?_
        obtain ⟨s16, zw1, zf_17, zh⟩ := zh
        refine vc_V (As := [.int (-3 : Int32)]) (rest := []) dX6_readCondition_76 cV_LitmusTester_Parser_189 (wC_137 zw) rfl rfl (Nat.le_of_ble_eq_true rfl) (by omega) (co_v zf_17 ?_)
        replace zw := zw1
        refine vr_aload_n dX6_readCondition_79 rfl rfl ?_
        refine vr_getE dX6_readCondition_80 (i := 12) (by decide) tw_803 ?_
        obtain ⟨v20, s18, zw1, zf_19, zh⟩ := zh
        refine vc_V (As := [.ref 12]) (rest := []) dX6_readCondition_83 cV_LitmusTester_Parser_195 (wC_142 zw) rfl rfl (Nat.le_of_ble_eq_true rfl) (by omega) (co_n zf_19 ?_)
        replace zw := zw1
        refine vr_istore_n dX6_readCondition_86 rfl (Nat.le_of_ble_eq_true rfl) (vv_eq (ls' := [(0, .ref 142), (1, .int l1), (2, .int v20), (3, .int l3), (4, .int l4)]) rfl ?_)
        refine vr_iinc dX6_readCondition_87 (x := l3) (v := (l3 + 1)) rfl (ii_ (by decide)) (Nat.le_of_ble_eq_true rfl) (vv_eq (ls' := [(0, .ref 142), (1, .int l1), (2, .int v20), (3, .int (l3 + 1)), (4, .int l4)]) rfl ?_)
        refine vr_goto dX6_readCondition_90 (tgt := 4) rfl ?_
        exact vv_sub (ls' := [(0, .ref 142), (1, .int l1), (2, .int v20), (3, .int (l3 + 1))]) ⟨rfl, rfl, rfl, rfl, trivial⟩ zh
    · replace zh := zh.2 zd_11
      refine vr_aload_n dX6_readCondition_28 rfl rfl ?_
      refine vr_iload_n dX6_readCondition_29 rfl rfl ?_
      obtain ⟨v23, s21, zw1, zf_22, zh⟩ := zh
      refine vc_V (As := [.int l1]) (rest := []) dX6_readCondition_30 cV_LitmusTester_Parser_186 (wC_142 zw) rfl rfl (Nat.le_of_ble_eq_true rfl) (Nat.le_refl _) (co_n zf_22 ?_)
      replace zw := zw1
      refine vr_if_ne dX6_readCondition_33 (tgt := 38) rfl (fun zd_24 => ?_) (fun zd_24 => ?_)
      · replace zh := zh.2 zd_24
        refine vr_iload dX6_readCondition_38 rfl ?_
        refine vr_if_le dX6_readCondition_40 (tgt := 52) rfl (fun zd_25 => ?_) (fun zd_25 => ?_)
        · replace zh := zh.1 zd_25
          refine vr_aload_n dX6_readCondition_52 rfl rfl ?_
          refine vr_getE dX6_readCondition_53 (i := 13) (by decide) tw_797 ?_
          obtain ⟨v28, s26, zw1, zf_27, zh⟩ := zh
          refine vc_V (As := [.ref 13]) (rest := []) dX6_readCondition_56 cV_LitmusTester_Parser_195 (wC_142 zw) rfl rfl (Nat.le_of_ble_eq_true rfl) (by omega) (co_n zf_27 ?_)
          replace zw := zw1
          refine vr_istore_n dX6_readCondition_59 rfl (Nat.le_of_ble_eq_true rfl) (vv_eq (ls' := [(0, .ref 142), (1, .int l1), (2, .int v28), (3, .int l3), (4, .int l4)]) rfl ?_)
          refine vr_iinc dX6_readCondition_60 (x := l4) (v := (l4 + 1)) rfl (ii_ (by decide)) (Nat.le_of_ble_eq_true rfl) (vv_eq (ls' := [(0, .ref 142), (1, .int l1), (2, .int v28), (3, .int l3), (4, .int (l4 + 1))]) rfl ?_)
          refine vr_goto dX6_readCondition_63 (tgt := 17) rfl ?_
          exact vv_sub (ls' := [(0, .ref 142), (1, .int l1), (2, .int v28), (3, .int l3), (4, .int (l4 + 1))]) ⟨rfl, rfl, rfl, rfl, rfl, trivial⟩ zh
        · replace zh := zh.2 zd_25
          refine vr_aload_n dX6_readCondition_43 rfl rfl ?_
          refine vr_getR dX6_readCondition_44 fl_LitmusTester_Parser_39 (wC_142 zw) (Or.inl ⟨_, rfl⟩) (wR_142_1 zw) ?_
          refine vr_bipush dX6_readCondition_47 (v := (-2 : Int32)) (by decide) ?_
          obtain ⟨s29, zw1, zf_30, zh⟩ := zh
          refine vc_V (As := [.int (-2 : Int32)]) (rest := []) dX6_readCondition_49 cV_LitmusTester_Parser_189 (wC_137 zw) rfl rfl (Nat.le_of_ble_eq_true rfl) (by omega) (co_v zf_30 ?_)
          replace zw := zw1
          refine vr_aload_n dX6_readCondition_52 rfl rfl ?_
          refine vr_getE dX6_readCondition_53 (i := 13) (by decide) tw_797 ?_
          obtain ⟨v33, s31, zw1, zf_32, zh⟩ := zh
          refine vc_V (As := [.ref 13]) (rest := []) dX6_readCondition_56 cV_LitmusTester_Parser_195 (wC_142 zw) rfl rfl (Nat.le_of_ble_eq_true rfl) (by omega) (co_n zf_32 ?_)
          replace zw := zw1
          refine vr_istore_n dX6_readCondition_59 rfl (Nat.le_of_ble_eq_true rfl) (vv_eq (ls' := [(0, .ref 142), (1, .int l1), (2, .int v33), (3, .int l3), (4, .int l4)]) rfl ?_)
          refine vr_iinc dX6_readCondition_60 (x := l4) (v := (l4 + 1)) rfl (ii_ (by decide)) (Nat.le_of_ble_eq_true rfl) (vv_eq (ls' := [(0, .ref 142), (1, .int l1), (2, .int v33), (3, .int l3), (4, .int (l4 + 1))]) rfl ?_)
          refine vr_goto dX6_readCondition_63 (tgt := 17) rfl ?_
          exact vv_sub (ls' := [(0, .ref 142), (1, .int l1), (2, .int v33), (3, .int l3), (4, .int (l4 + 1))]) ⟨rfl, rfl, rfl, rfl, rfl, trivial⟩ zh
      · replace zh := zh.1 zd_24
        refine vr_iconst dX6_readCondition_36 (v := (0 : Int32)) (by decide) ?_
        exact vr_zret dX6_readCondition_37 rfl (Or.inl rfl) zh
def p_X6_isPassed_0 (γ : ga_T) (l1 : Nat) (σ : st_T) (Q : rs_T → st_T → Prop) : Prop :=
  ∃ (v3 : Nat) (s1 : st_T), Wd s1 ∧ fn_ γ m_X10_sign 0 [.ref 143] σ (.ref v3) s1 ∧
  v3 < 21 ∧
  l1 < 21 ∧
  (v3 = l1 →
    ∃ s7, Wd s7 ∧ fw_ γ m_X10_advance 1 [.ref 143] s1 s7 ∧
    Q (.inl (some (.int (1 : Int32)))) s7
  ) ∧ (¬ v3 = l1 →
    Q (.inl (some (.int (0 : Int32)))) s1
  )
set_option maxRecDepth 10000 in
theorem g_X6_isPassed_0 {γ : ga_T} {l1 : Nat} {σ : st_T} {Q : rs_T → st_T → Prop} (zw : Wd σ) (zh : p_X6_isPassed_0 γ l1 σ Q) : vv_ γ m_X6_isPassed 2 0 [(0, .ref 142), (1, .ref l1)] [] σ Q := by
  unfold p_X6_isPassed_0 at zh
  refine vr_aload_n dX6_isPassed_0 rfl rfl ?_
  refine vr_getR dX6_isPassed_1 fl_LitmusTester_Parser_35 (wC_142 zw) (Or.inl ⟨_, rfl⟩) (wR_142_0 zw) ?_
  obtain ⟨v3, s1, zw1, zf_2, zh⟩ := zh
  refine vc_V (As := []) (rest := []) dX6_isPassed_4 cV_LitmusTester_Parser_52 (wC_143 zw) rfl rfl (Nat.le_of_ble_eq_true rfl) (Nat.le_of_ble_eq_true rfl) (co_n zf_2 ?_)
  replace zw := zw1
  refine vr_aload_n dX6_isPassed_7 rfl rfl ?_
  obtain ⟨zg_4, zh⟩ := zh
  obtain ⟨zg_5, zh⟩ := zh
  refine vr_acmp_ne dX6_isPassed_8 (tgt := 15) rfl zg_4 zg_5 (fun zd_6 => ?_) (fun zd_6 => ?_)
  · replace zh := zh.2 zd_6
    refine vr_iconst dX6_isPassed_15 (v := (0 : Int32)) (by decide) ?_
    refine vr_istore_n dX6_isPassed_16 rfl (Nat.le_of_ble_eq_true rfl) (vv_eq (ls' := [(0, .ref 142), (1, .ref l1), (2, .int (0 : Int32))]) rfl ?_)
    refine vr_iload_n dX6_isPassed_17 rfl rfl ?_
    refine vr_if_eq dX6_isPassed_18 (tgt := 28) rfl (fun _ => ?_) (fun c => absurd (by decide) c)
    refine vr_iload_n dX6_isPassed_28 rfl rfl ?_
    exact vr_zret dX6_isPassed_29 rfl (Or.inl rfl) zh
  · replace zh := zh.1 zd_6
    refine vr_iconst dX6_isPassed_11 (v := (1 : Int32)) (by decide) ?_
    refine vr_goto dX6_isPassed_12 (tgt := 16) rfl ?_
    refine vr_istore_n dX6_isPassed_16 rfl (Nat.le_of_ble_eq_true rfl) (vv_eq (ls' := [(0, .ref 142), (1, .ref l1), (2, .int (1 : Int32))]) rfl ?_)
    refine vr_iload_n dX6_isPassed_17 rfl rfl ?_
    refine vr_if_eq dX6_isPassed_18 (tgt := 28) rfl (fun c => absurd c (by decide)) (fun _ => ?_)
    refine vr_aload_n dX6_isPassed_21 rfl rfl ?_
    refine vr_getR dX6_isPassed_22 fl_LitmusTester_Parser_35 (wC_142 zw) (Or.inl ⟨_, rfl⟩) (wR_142_0 zw) ?_
    obtain ⟨s7, zw1, zf_8, zh⟩ := zh
    refine vc_V (As := []) (rest := []) dX6_isPassed_25 cV_LitmusTester_Parser_75 (wC_143 zw) rfl rfl (Nat.le_of_ble_eq_true rfl) (Nat.le_of_ble_eq_true rfl) (co_v zf_8 ?_)
    replace zw := zw1
    refine vr_iload_n dX6_isPassed_28 rfl rfl ?_
    exact vr_zret dX6_isPassed_29 rfl (Or.inr rfl) zh
theorem e_X6_isPassed {γ : ga_T} {l1 : Nat} {σ : st_T} {Q : rs_T → st_T → Prop} (zw : Wd σ) (zh : p_X6_isPassed_0 γ l1 σ Q) : sp_ γ m_X6_isPassed 2 [.ref 142, .ref l1] σ Q := sp_of (pl_X6_isPassed) rfl (Nat.le_of_ble_eq_true rfl) (g_X6_isPassed_0 zw zh)
def p_X6_readUnit_0 (γ : ga_T) (d : Nat) (l1 : Int32) (σ : st_T) (Q : rs_T → st_T → Prop) : Prop :=
  ∃ (v3 : Nat) (s1 : st_T), Wd s1 ∧ fn_ γ m_X10_sign 0 [.ref 143] σ (.ref v3) s1 ∧
  v3 < 21 ∧
  (v3 = 14 →
    vv_ γ m_X6_readUnit (d + 1) 42 [(0, .ref 142), (1, .int l1), (2, .ref v3)] [] s1 Q
  ) ∧ (¬ v3 = 14 →
    v3 < 21 ∧
    (v3 = 19 →
      vv_ γ m_X6_readUnit (d + 1) 42 [(0, .ref 142), (1, .int l1), (2, .ref v3)] [] s1 Q
    ) ∧ (¬ v3 = 19 →
      v3 < 21 ∧
      (v3 = 4 →
        vv_ γ m_X6_readUnit (d + 1) 42 [(0, .ref 142), (1, .int l1), (2, .ref v3)] [] s1 Q
      ) ∧ (¬ v3 = 4 →
        v3 < 21 ∧
        (v3 = 3 →
          vv_ γ m_X6_readUnit (d + 1) 42 [(0, .ref 142), (1, .int l1), (2, .ref v3)] [] s1 Q
        ) ∧ (¬ v3 = 3 →
          ∃ (v14 : Int32) (s12 : st_T), Wd s12 ∧ fn_ γ m_X6_fail 1 [.ref 142, .int (1 : Int32)] s1 (.int v14) s12 ∧
          (v14 = 0 ∨ v14 = 1) ∧
          Q (.inl (some (.int v14))) s12
        )
      )
    )
  )
set_option maxRecDepth 10000 in
theorem g_X6_readUnit_0 {γ : ga_T} {d : Nat} {l1 : Int32} {σ : st_T} {Q : rs_T → st_T → Prop} (zhd : 40 ≤ d) (zw : Wd σ) (zh : p_X6_readUnit_0 γ d l1 σ Q) : vv_ γ m_X6_readUnit (d + 1) 0 [(0, .ref 142), (1, .int l1)] [] σ Q := by
  unfold p_X6_readUnit_0 at zh
  refine vr_aload_n dX6_readUnit_0 rfl rfl ?_
  refine vr_getR dX6_readUnit_1 fl_LitmusTester_Parser_35 (wC_142 zw) (Or.inl ⟨_, rfl⟩) (wR_142_0 zw) ?_
  obtain ⟨v3, s1, zw1, zf_2, zh⟩ := zh
  refine vc_V (As := []) (rest := []) dX6_readUnit_4 cV_LitmusTester_Parser_52 (wC_143 zw) rfl rfl (Nat.le_of_ble_eq_true rfl) (by omega) (co_n zf_2 ?_)
  replace zw := zw1
  refine vr_astore_n dX6_readUnit_7 rfl (Nat.le_of_ble_eq_true rfl) (vv_eq (ls' := [(0, .ref 142), (1, .int l1), (2, .ref v3)]) rfl ?_)
  refine vr_aload_n dX6_readUnit_8 rfl rfl ?_
  refine vr_getE dX6_readUnit_9 (i := 14) (by decide) tw_754 ?_
  obtain ⟨zg_4, zh⟩ := zh
  refine vr_acmp_eq dX6_readUnit_12 (tgt := 42) rfl zg_4 (by decide) (fun zd_5 => ?_) (fun zd_5 => ?_)
  · replace zh := zh.1 zd_5
    exact vv_sub (ls' := [(0, .ref 142), (1, .int l1), (2, .ref v3)]) ⟨rfl, rfl, rfl, trivial⟩ zh
  · replace zh := zh.2 zd_5
    refine vr_aload_n dX6_readUnit_15 rfl rfl ?_
    refine vr_getE dX6_readUnit_16 (i := 19) (by decide) tw_756 ?_
    obtain ⟨zg_6, zh⟩ := zh
    refine vr_acmp_eq dX6_readUnit_19 (tgt := 42) rfl zg_6 (by decide) (fun zd_7 => ?_) (fun zd_7 => ?_)
    · replace zh := zh.1 zd_7
      exact vv_sub (ls' := [(0, .ref 142), (1, .int l1), (2, .ref v3)]) ⟨rfl, rfl, rfl, trivial⟩ zh
    · replace zh := zh.2 zd_7
      refine vr_aload_n dX6_readUnit_22 rfl rfl ?_
      refine vr_getE dX6_readUnit_23 (i := 4) (by decide) tw_648 ?_
      obtain ⟨zg_8, zh⟩ := zh
      refine vr_acmp_eq dX6_readUnit_26 (tgt := 42) rfl zg_8 (by decide) (fun zd_9 => ?_) (fun zd_9 => ?_)
      · replace zh := zh.1 zd_9
        exact vv_sub (ls' := [(0, .ref 142), (1, .int l1), (2, .ref v3)]) ⟨rfl, rfl, rfl, trivial⟩ zh
      · replace zh := zh.2 zd_9
        refine vr_aload_n dX6_readUnit_29 rfl rfl ?_
        refine vr_getE dX6_readUnit_30 (i := 3) (by decide) tw_635 ?_
        obtain ⟨zg_10, zh⟩ := zh
        refine vr_acmp_eq dX6_readUnit_33 (tgt := 42) rfl zg_10 (by decide) (fun zd_11 => ?_) (fun zd_11 => ?_)
        · replace zh := zh.1 zd_11
          exact vv_sub (ls' := [(0, .ref 142), (1, .int l1), (2, .ref v3)]) ⟨rfl, rfl, rfl, trivial⟩ zh
        · replace zh := zh.2 zd_11
          refine vr_aload_n dX6_readUnit_36 rfl rfl ?_
          refine vr_iconst dX6_readUnit_37 (v := (1 : Int32)) (by decide) ?_
          obtain ⟨v14, s12, zw1, zf_13, zh⟩ := zh
          refine vc_V (As := [.int (1 : Int32)]) (rest := []) dX6_readUnit_38 cV_LitmusTester_Parser_92 (wC_142 zw) rfl rfl (Nat.le_of_ble_eq_true rfl) (by omega) (co_n zf_13 ?_)
          replace zw := zw1
          obtain ⟨zb_15, zh⟩ := zh
          exact vr_zret dX6_readUnit_41 rfl zb_15 zh
theorem e_X6_readUnit {γ : ga_T} {d : Nat} {l1 : Int32} {σ : st_T} {Q : rs_T → st_T → Prop} (zhd : 40 ≤ d) (zw : Wd σ) (zh : p_X6_readUnit_0 γ d l1 σ Q) : sp_ γ m_X6_readUnit (d + 1) [.ref 142, .int l1] σ Q := sp_of (pl_X6_readUnit) rfl (Nat.le_of_ble_eq_true rfl) (g_X6_readUnit_0 zhd zw zh)
def p_X6_readUnit_42 (γ : ga_T) (d : Nat) (l1 : Int32) (l2 : Nat) (σ : st_T) (Q : rs_T → st_T → Prop) : Prop :=
  l2 < 21 ∧
  (l2 = 4 →
    ∃ (v5 : Int32) (s3 : st_T), Wd s3 ∧ fn_ γ m_X10_number 1 [.ref 143] σ (.int v5) s3 ∧
    ∃ (v8 : Int32) (s6 : st_T), Wd s6 ∧ fn_ γ m_X7_threads 0 [.ref 137] s3 (.int v8) s6 ∧
    (v5 < v8 →
      vv_ γ m_X6_readUnit (d + 1) 72 [(0, .ref 142), (1, .int l1), (2, .ref l2)] [] s6 Q
    ) ∧ (¬ v5 < v8 →
      ∃ (v12 : Int32) (s10 : st_T), Wd s10 ∧ fn_ γ m_X6_fail 1 [.ref 142, .int (2 : Int32)] s6 (.int v12) s10 ∧
      (v12 = 0 ∨ v12 = 1) ∧
      Q (.inl (some (.int v12))) s10
    )
  ) ∧ (¬ l2 = 4 →
    vv_ γ m_X6_readUnit (d + 1) 72 [(0, .ref 142), (1, .int l1), (2, .ref l2)] [] σ Q
  )
set_option maxRecDepth 10000 in
theorem g_X6_readUnit_42 {γ : ga_T} {d : Nat} {l1 : Int32} {l2 : Nat} {σ : st_T} {Q : rs_T → st_T → Prop} (zhd : 40 ≤ d) (zw : Wd σ) (zh : p_X6_readUnit_42 γ d l1 l2 σ Q) : vv_ γ m_X6_readUnit (d + 1) 42 [(0, .ref 142), (1, .int l1), (2, .ref l2)] [] σ Q := by
  unfold p_X6_readUnit_42 at zh
  refine vr_aload_n dX6_readUnit_42 rfl rfl ?_
  refine vr_getE dX6_readUnit_43 (i := 4) (by decide) tw_648 ?_
  obtain ⟨zg_1, zh⟩ := zh
  refine vr_acmp_ne dX6_readUnit_46 (tgt := 72) rfl zg_1 (by decide) (fun zd_2 => ?_) (fun zd_2 => ?_)
  · replace zh := zh.2 zd_2
    exact vv_sub (ls' := [(0, .ref 142), (1, .int l1), (2, .ref l2)]) ⟨rfl, rfl, rfl, trivial⟩ zh
  · replace zh := zh.1 zd_2
    refine vr_aload_n dX6_readUnit_49 rfl rfl ?_
    refine vr_getR dX6_readUnit_50 fl_LitmusTester_Parser_35 (wC_142 zw) (Or.inl ⟨_, rfl⟩) (wR_142_0 zw) ?_
    obtain ⟨v5, s3, zw1, zf_4, zh⟩ := zh
    refine vc_V (As := []) (rest := []) dX6_readUnit_53 cV_LitmusTester_Parser_116 (wC_143 zw) rfl rfl (Nat.le_of_ble_eq_true rfl) (by omega) (co_n zf_4 ?_)
    replace zw := zw1
    refine vr_aload_n dX6_readUnit_56 rfl rfl ?_
    refine vr_getR dX6_readUnit_57 fl_LitmusTester_Parser_39 (wC_142 zw) (Or.inl ⟨_, rfl⟩) (wR_142_1 zw) ?_
    obtain ⟨v8, s6, zw1, zf_7, zh⟩ := zh
    refine vc_V (As := []) (rest := [.int v5]) dX6_readUnit_60 cV_LitmusTester_Parser_126 (wC_137 zw) rfl rfl (Nat.le_of_ble_eq_true rfl) (by omega) (co_n zf_7 ?_)
    replace zw := zw1
    refine vr_ic_lt dX6_readUnit_63 (tgt := 72) rfl (fun zd_9 => ?_) (fun zd_9 => ?_)
    · replace zh := zh.1 zd_9
      exact vv_sub (ls' := [(0, .ref 142), (1, .int l1), (2, .ref l2)]) ⟨rfl, rfl, rfl, trivial⟩ zh
    · replace zh := zh.2 zd_9
      refine vr_aload_n dX6_readUnit_66 rfl rfl ?_
      refine vr_iconst dX6_readUnit_67 (v := (2 : Int32)) (by decide) ?_
      obtain ⟨v12, s10, zw1, zf_11, zh⟩ := zh
      refine vc_V (As := [.int (2 : Int32)]) (rest := []) dX6_readUnit_68 cV_LitmusTester_Parser_92 (wC_142 zw) rfl rfl (Nat.le_of_ble_eq_true rfl) (by omega) (co_n zf_11 ?_)
      replace zw := zw1
      obtain ⟨zb_13, zh⟩ := zh
      exact vr_zret dX6_readUnit_71 rfl zb_13 zh
def p_X6_readUnit_72 (γ : ga_T) (d : Nat) (l1 : Int32) (l2 : Nat) (σ : st_T) (Q : rs_T → st_T → Prop) : Prop :=
  l2 < 21 ∧
  (l2 = 3 →
    ∃ (v5 : Int64) (s3 : st_T), Wd s3 ∧ fn_ γ m_X10_name 0 [.ref 143] σ (.long v5) s3 ∧
    ∃ (v8 : Int32) (s6 : st_T), Wd s6 ∧ fn_ γ m_X7_locationNamed 0 [.ref 137, .long v5] s3 (.int v8) s6 ∧
    (v8 = (-1 : Int32) →
      ∃ (v12 : Int32) (s10 : st_T), Wd s10 ∧ fn_ γ m_X6_fail 1 [.ref 142, .int (4 : Int32)] s6 (.int v12) s10 ∧
      (v12 = 0 ∨ v12 = 1) ∧
      Q (.inl (some (.int v12))) s10
    ) ∧ (¬ v8 = (-1 : Int32) →
      vv_ γ m_X6_readUnit (d + 1) 103 [(0, .ref 142), (1, .int l1), (2, .ref l2)] [] s6 Q
    )
  ) ∧ (¬ l2 = 3 →
    vv_ γ m_X6_readUnit (d + 1) 103 [(0, .ref 142), (1, .int l1), (2, .ref l2)] [] σ Q
  )
set_option maxRecDepth 10000 in
theorem g_X6_readUnit_72 {γ : ga_T} {d : Nat} {l1 : Int32} {l2 : Nat} {σ : st_T} {Q : rs_T → st_T → Prop} (zhd : 40 ≤ d) (zw : Wd σ) (zh : p_X6_readUnit_72 γ d l1 l2 σ Q) : vv_ γ m_X6_readUnit (d + 1) 72 [(0, .ref 142), (1, .int l1), (2, .ref l2)] [] σ Q := by
  unfold p_X6_readUnit_72 at zh
  refine vr_aload_n dX6_readUnit_72 rfl rfl ?_
  refine vr_getE dX6_readUnit_73 (i := 3) (by decide) tw_635 ?_
  obtain ⟨zg_1, zh⟩ := zh
  refine vr_acmp_ne dX6_readUnit_76 (tgt := 103) rfl zg_1 (by decide) (fun zd_2 => ?_) (fun zd_2 => ?_)
  · replace zh := zh.2 zd_2
    exact vv_sub (ls' := [(0, .ref 142), (1, .int l1), (2, .ref l2)]) ⟨rfl, rfl, rfl, trivial⟩ zh
  · replace zh := zh.1 zd_2
    refine vr_aload_n dX6_readUnit_79 rfl rfl ?_
    refine vr_getR dX6_readUnit_80 fl_LitmusTester_Parser_39 (wC_142 zw) (Or.inl ⟨_, rfl⟩) (wR_142_1 zw) ?_
    refine vr_aload_n dX6_readUnit_83 rfl rfl ?_
    refine vr_getR dX6_readUnit_84 fl_LitmusTester_Parser_35 (wC_142 zw) (Or.inl ⟨_, rfl⟩) (wR_142_0 zw) ?_
    obtain ⟨v5, s3, zw1, zf_4, zh⟩ := zh
    refine vc_V (As := []) (rest := [.ref 137]) dX6_readUnit_87 cV_LitmusTester_Parser_105 (wC_143 zw) rfl rfl (Nat.le_of_ble_eq_true rfl) (by omega) (co_n zf_4 ?_)
    replace zw := zw1
    obtain ⟨v8, s6, zw1, zf_7, zh⟩ := zh
    refine vc_V (As := [.long v5]) (rest := []) dX6_readUnit_90 cV_LitmusTester_Parser_109 (wC_137 zw) rfl rfl (Nat.le_of_ble_eq_true rfl) (by omega) (co_n zf_7 ?_)
    replace zw := zw1
    refine vr_iconst dX6_readUnit_93 (v := (-1 : Int32)) (by decide) ?_
    refine vr_ic_ne dX6_readUnit_94 (tgt := 103) rfl (fun zd_9 => ?_) (fun zd_9 => ?_)
    · replace zh := zh.2 zd_9
      exact vv_sub (ls' := [(0, .ref 142), (1, .int l1), (2, .ref l2)]) ⟨rfl, rfl, rfl, trivial⟩ zh
    · replace zh := zh.1 zd_9
      refine vr_aload_n dX6_readUnit_97 rfl rfl ?_
      refine vr_iconst dX6_readUnit_98 (v := (4 : Int32)) (by decide) ?_
      obtain ⟨v12, s10, zw1, zf_11, zh⟩ := zh
      refine vc_V (As := [.int (4 : Int32)]) (rest := []) dX6_readUnit_99 cV_LitmusTester_Parser_92 (wC_142 zw) rfl rfl (Nat.le_of_ble_eq_true rfl) (by omega) (co_n zf_11 ?_)
      replace zw := zw1
      obtain ⟨zb_13, zh⟩ := zh
      exact vr_zret dX6_readUnit_102 rfl zb_13 zh
def p_X6_readUnit_103 (γ : ga_T) (d : Nat) (l1 : Int32) (l2 : Nat) (σ : st_T) (Q : rs_T → st_T → Prop) : Prop :=
  ((4 : Int32) < l1 →
    ∃ (v4 : Int32) (s2 : st_T), Wd s2 ∧ fn_ γ m_X6_fail 1 [.ref 142, .int (5 : Int32)] σ (.int v4) s2 ∧
    (v4 = 0 ∨ v4 = 1) ∧
    Q (.inl (some (.int v4))) s2
  ) ∧ (¬ (4 : Int32) < l1 →
    ((st_I σ 142 3) < (16 : Int32) →
      vv_ γ m_X6_readUnit (d + 1) 123 [(0, .ref 142), (1, .int l1), (2, .ref l2)] [] σ Q
    ) ∧ (¬ (st_I σ 142 3) < (16 : Int32) →
      ∃ (v9 : Int32) (s7 : st_T), Wd s7 ∧ fn_ γ m_X6_fail 1 [.ref 142, .int (5 : Int32)] σ (.int v9) s7 ∧
      (v9 = 0 ∨ v9 = 1) ∧
      Q (.inl (some (.int v9))) s7
    )
  )
set_option maxRecDepth 10000 in
theorem g_X6_readUnit_103 {γ : ga_T} {d : Nat} {l1 : Int32} {l2 : Nat} {σ : st_T} {Q : rs_T → st_T → Prop} (zhd : 40 ≤ d) (zw : Wd σ) (zh : p_X6_readUnit_103 γ d l1 l2 σ Q) : vv_ γ m_X6_readUnit (d + 1) 103 [(0, .ref 142), (1, .int l1), (2, .ref l2)] [] σ Q := by
  unfold p_X6_readUnit_103 at zh
  refine vr_iload_n dX6_readUnit_103 rfl rfl ?_
  refine vr_iconst dX6_readUnit_104 (v := (4 : Int32)) (by decide) ?_
  refine vr_ic_gt dX6_readUnit_105 (tgt := 117) rfl (fun zd_1 => ?_) (fun zd_1 => ?_)
  · replace zh := zh.1 zd_1
    refine vr_aload_n dX6_readUnit_117 rfl rfl ?_
    refine vr_iconst dX6_readUnit_118 (v := (5 : Int32)) (by decide) ?_
    obtain ⟨v4, s2, zw1, zf_3, zh⟩ := zh
    refine vc_V (As := [.int (5 : Int32)]) (rest := []) dX6_readUnit_119 cV_LitmusTester_Parser_92 (wC_142 zw) rfl rfl (Nat.le_of_ble_eq_true rfl) (by omega) (co_n zf_3 ?_)
    replace zw := zw1
    obtain ⟨zb_5, zh⟩ := zh
    exact vr_zret dX6_readUnit_122 rfl zb_5 zh
  · replace zh := zh.2 zd_1
    refine vr_aload_n dX6_readUnit_108 rfl rfl ?_
    refine vr_getI dX6_readUnit_109 fl_LitmusTester_Parser_15 (wC_142 zw) rfl ?_
    refine vr_bipush dX6_readUnit_112 (v := (16 : Int32)) (by decide) ?_
    refine vr_ic_lt dX6_readUnit_114 (tgt := 123) rfl (fun zd_6 => ?_) (fun zd_6 => ?_)
    · replace zh := zh.1 zd_6
      exact vv_sub (ls' := [(0, .ref 142), (1, .int l1), (2, .ref l2)]) ⟨rfl, rfl, rfl, trivial⟩ zh
    · replace zh := zh.2 zd_6
      refine vr_aload_n dX6_readUnit_117 rfl rfl ?_
      refine vr_iconst dX6_readUnit_118 (v := (5 : Int32)) (by decide) ?_
      obtain ⟨v9, s7, zw1, zf_8, zh⟩ := zh
      refine vc_V (As := [.int (5 : Int32)]) (rest := []) dX6_readUnit_119 cV_LitmusTester_Parser_92 (wC_142 zw) rfl rfl (Nat.le_of_ble_eq_true rfl) (by omega) (co_n zf_8 ?_)
      replace zw := zw1
      obtain ⟨zb_10, zh⟩ := zh
      exact vr_zret dX6_readUnit_122 rfl zb_10 zh
def p_X6_readUnit_123 (γ : ga_T) (d : Nat) (l1 : Int32) (l2 : Nat) (σ : st_T) (Q : rs_T → st_T → Prop) : Prop :=
  l2 < 21 ∧
  (l2 = 4 →
    ∃ (v5 : Int32) (s3 : st_T), Wd s3 ∧ fn_ γ m_X6_readComparison 3 [.ref 142] (pt_I σ 142 3 ((st_I σ 142 3) + (1 : Int32))) (.int v5) s3 ∧
    (v5 = 0 ∨ v5 = 1) ∧
    Q (.inl (some (.int v5))) s3
  ) ∧ (¬ l2 = 4 →
    l2 < 21 ∧
    (l2 = 3 →
      ∃ (v11 : Int32) (s9 : st_T), Wd s9 ∧ fn_ γ m_X6_readComparison 3 [.ref 142] (pt_I σ 142 3 ((st_I σ 142 3) + (1 : Int32))) (.int v11) s9 ∧
      (v11 = 0 ∨ v11 = 1) ∧
      Q (.inl (some (.int v11))) s9
    ) ∧ (¬ l2 = 3 →
      ∃ s13, Wd s13 ∧ fw_ γ m_X10_advance 1 [.ref 143] (pt_I σ 142 3 ((st_I σ 142 3) + (1 : Int32))) s13 ∧
      l2 < 21 ∧
      (l2 = 14 →
        ∃ (v19 : Int32) (s17 : st_T), Wd s17 ∧ fn_ γ m_X6_readNegated d [.ref 142, .int (l1 + (1 : Int32))] s13 (.int v19) s17 ∧
        (v19 = 0 ∨ v19 = 1) ∧
        Q (.inl (some (.int v19))) s17
      ) ∧ (¬ l2 = 14 →
        ∃ (v23 : Int32) (s21 : st_T), Wd s21 ∧ fn_ γ m_X6_readCondition d [.ref 142, .int (l1 + (1 : Int32))] s13 (.int v23) s21 ∧
        (v23 = (0 : Int32) →
          Q (.inl (some (.int (0 : Int32)))) s21
        ) ∧ (¬ v23 = (0 : Int32) →
          ∃ (v27 : Int32) (s25 : st_T), Wd s25 ∧ fn_ γ m_X6_expect 2 [.ref 142, .ref 20] s21 (.int v27) s25 ∧
          (v27 = (0 : Int32) →
            Q (.inl (some (.int (0 : Int32)))) s25
          ) ∧ (¬ v27 = (0 : Int32) →
            Q (.inl (some (.int (1 : Int32)))) s25
          )
        )
      )
    )
  )
set_option maxRecDepth 10000 in
theorem g_X6_readUnit_123 {γ : ga_T} {d : Nat} {l1 : Int32} {l2 : Nat} {σ : st_T} {Q : rs_T → st_T → Prop} (zhd : 40 ≤ d) (zw : Wd σ) (zh : p_X6_readUnit_123 γ d l1 l2 σ Q) : vv_ γ m_X6_readUnit (d + 1) 123 [(0, .ref 142), (1, .int l1), (2, .ref l2)] [] σ Q := by
  unfold p_X6_readUnit_123 at zh
  refine vr_aload_n dX6_readUnit_123 rfl rfl ?_
  refine vr_dup dX6_readUnit_124 rfl ?_
  refine vr_getI dX6_readUnit_125 fl_LitmusTester_Parser_15 (wC_142 zw) rfl ?_
  refine vr_iconst dX6_readUnit_128 (v := (1 : Int32)) (by decide) ?_
  refine vr_iadd dX6_readUnit_129 ?_
  refine vr_putI dX6_readUnit_130 fl_LitmusTester_Parser_15 (wC_142 zw) rfl (fz_6_3) ?_
  refine vr_aload_n dX6_readUnit_133 rfl rfl ?_
  refine vr_getE dX6_readUnit_134 (i := 4) (by decide) tw_648 ?_
  obtain ⟨zg_1, zh⟩ := zh
  refine vr_acmp_eq dX6_readUnit_137 (tgt := 147) rfl zg_1 (by decide) (fun zd_2 => ?_) (fun zd_2 => ?_)
  · replace zh := zh.1 zd_2
    refine vr_aload_n dX6_readUnit_147 rfl rfl ?_
    obtain ⟨v5, s3, zw1, zf_4, zh⟩ := zh
    refine vc_V (As := []) (rest := []) dX6_readUnit_148 cV_LitmusTester_Parser_207 (wC_142 zw) rfl rfl (Nat.le_of_ble_eq_true rfl) (by omega) (co_n zf_4 ?_)
    replace zw := zw1
    obtain ⟨zb_6, zh⟩ := zh
    exact vr_zret dX6_readUnit_151 rfl zb_6 zh
  · replace zh := zh.2 zd_2
    refine vr_aload_n dX6_readUnit_140 rfl rfl ?_
    refine vr_getE dX6_readUnit_141 (i := 3) (by decide) tw_635 ?_
    obtain ⟨zg_7, zh⟩ := zh
    refine vr_acmp_ne dX6_readUnit_144 (tgt := 152) rfl zg_7 (by decide) (fun zd_8 => ?_) (fun zd_8 => ?_)
    · replace zh := zh.2 zd_8
      refine vr_aload_n dX6_readUnit_152 rfl rfl ?_
      refine vr_getR dX6_readUnit_153 fl_LitmusTester_Parser_35 (wC_142 zw) (Or.inl ⟨_, rfl⟩) (wR_142_0 zw) ?_
      obtain ⟨s13, zw1, zf_14, zh⟩ := zh
      refine vc_V (As := []) (rest := []) dX6_readUnit_156 cV_LitmusTester_Parser_75 (wC_143 zw) rfl rfl (Nat.le_of_ble_eq_true rfl) (by omega) (co_v zf_14 ?_)
      replace zw := zw1
      refine vr_aload_n dX6_readUnit_159 rfl rfl ?_
      refine vr_getE dX6_readUnit_160 (i := 14) (by decide) tw_754 ?_
      obtain ⟨zg_15, zh⟩ := zh
      refine vr_acmp_ne dX6_readUnit_163 (tgt := 176) rfl zg_15 (by decide) (fun zd_16 => ?_) (fun zd_16 => ?_)
      · replace zh := zh.2 zd_16
        refine vr_aload_n dX6_readUnit_176 rfl rfl ?_
        refine vr_iload_n dX6_readUnit_177 rfl rfl ?_
        refine vr_iconst dX6_readUnit_178 (v := (1 : Int32)) (by decide) ?_
        refine vr_iadd dX6_readUnit_179 ?_
        obtain ⟨v23, s21, zw1, zf_22, zh⟩ := zh
        refine vc_V (As := [.int (l1 + (1 : Int32))]) (rest := []) dX6_readUnit_180 cV_LitmusTester_Parser_78 (wC_142 zw) rfl rfl (Nat.le_of_ble_eq_true rfl) (Nat.le_refl _) (co_n zf_22 ?_)
        replace zw := zw1
        refine vr_if_eq dX6_readUnit_183 (tgt := 200) rfl (fun zd_24 => ?_) (fun zd_24 => ?_)
        · replace zh := zh.1 zd_24
          refine vr_iconst dX6_readUnit_200 (v := (0 : Int32)) (by decide) ?_
          exact vr_zret dX6_readUnit_201 rfl (Or.inl rfl) zh
        · replace zh := zh.2 zd_24
          refine vr_aload_n dX6_readUnit_186 rfl rfl ?_
          refine vr_getE dX6_readUnit_187 (i := 20) (by decide) tw_795 ?_
          obtain ⟨v27, s25, zw1, zf_26, zh⟩ := zh
          refine vc_V (As := [.ref 20]) (rest := []) dX6_readUnit_190 cV_LitmusTester_Parser_85 (wC_142 zw) rfl rfl (Nat.le_of_ble_eq_true rfl) (by omega) (co_n zf_26 ?_)
          replace zw := zw1
          refine vr_if_eq dX6_readUnit_193 (tgt := 200) rfl (fun zd_28 => ?_) (fun zd_28 => ?_)
          · replace zh := zh.1 zd_28
            refine vr_iconst dX6_readUnit_200 (v := (0 : Int32)) (by decide) ?_
            exact vr_zret dX6_readUnit_201 rfl (Or.inl rfl) zh
          · replace zh := zh.2 zd_28
            refine vr_iconst dX6_readUnit_196 (v := (1 : Int32)) (by decide) ?_
            refine vr_goto dX6_readUnit_197 (tgt := 201) rfl ?_
            exact vr_zret dX6_readUnit_201 rfl (Or.inr rfl) zh
      · replace zh := zh.1 zd_16
        refine vr_aload_n dX6_readUnit_166 rfl rfl ?_
        refine vr_iload_n dX6_readUnit_167 rfl rfl ?_
        refine vr_iconst dX6_readUnit_168 (v := (1 : Int32)) (by decide) ?_
        refine vr_iadd dX6_readUnit_169 ?_
        obtain ⟨v19, s17, zw1, zf_18, zh⟩ := zh
        refine vc_V (As := [.int (l1 + (1 : Int32))]) (rest := []) dX6_readUnit_170 cV_LitmusTester_Parser_210 (wC_142 zw) rfl rfl (Nat.le_of_ble_eq_true rfl) (Nat.le_refl _) (co_n zf_18 ?_)
        replace zw := zw1
        refine vr_goto dX6_readUnit_173 (tgt := 201) rfl ?_
        obtain ⟨zb_20, zh⟩ := zh
        exact vr_zret dX6_readUnit_201 rfl zb_20 zh
    · replace zh := zh.1 zd_8
      refine vr_aload_n dX6_readUnit_147 rfl rfl ?_
      obtain ⟨v11, s9, zw1, zf_10, zh⟩ := zh
      refine vc_V (As := []) (rest := []) dX6_readUnit_148 cV_LitmusTester_Parser_207 (wC_142 zw) rfl rfl (Nat.le_of_ble_eq_true rfl) (by omega) (co_n zf_10 ?_)
      replace zw := zw1
      obtain ⟨zb_12, zh⟩ := zh
      exact vr_zret dX6_readUnit_151 rfl zb_12 zh
def p_X6_readNegated_0 (γ : ga_T) (d : Nat) (l1 : Int32) (σ : st_T) (Q : rs_T → st_T → Prop) : Prop :=
  ∃ (v3 : Int32) (s1 : st_T), Wd s1 ∧ fn_ γ m_X6_readUnit d [.ref 142, .int l1] σ (.int v3) s1 ∧
  ∃ s4, Wd s4 ∧ fw_ γ m_X7_addToCondition 0 [.ref 137, .int (-1 : Int32)] s1 s4 ∧
  (v3 = 0 ∨ v3 = 1) ∧
  Q (.inl (some (.int v3))) s4
set_option maxRecDepth 10000 in
theorem g_X6_readNegated_0 {γ : ga_T} {d : Nat} {l1 : Int32} {σ : st_T} {Q : rs_T → st_T → Prop} (zhd : 40 ≤ d) (zw : Wd σ) (zh : p_X6_readNegated_0 γ d l1 σ Q) : vv_ γ m_X6_readNegated (d + 1) 0 [(0, .ref 142), (1, .int l1)] [] σ Q := by
  unfold p_X6_readNegated_0 at zh
  refine vr_aload_n dX6_readNegated_0 rfl rfl ?_
  refine vr_iload_n dX6_readNegated_1 rfl rfl ?_
  obtain ⟨v3, s1, zw1, zf_2, zh⟩ := zh
  refine vc_V (As := [.int l1]) (rest := []) dX6_readNegated_2 cV_LitmusTester_Parser_186 (wC_142 zw) rfl rfl (Nat.le_of_ble_eq_true rfl) (Nat.le_refl _) (co_n zf_2 ?_)
  replace zw := zw1
  refine vr_istore_n dX6_readNegated_5 rfl (Nat.le_of_ble_eq_true rfl) (vv_eq (ls' := [(0, .ref 142), (1, .int l1), (2, .int v3)]) rfl ?_)
  refine vr_aload_n dX6_readNegated_6 rfl rfl ?_
  refine vr_getR dX6_readNegated_7 fl_LitmusTester_Parser_39 (wC_142 zw) (Or.inl ⟨_, rfl⟩) (wR_142_1 zw) ?_
  refine vr_iconst dX6_readNegated_10 (v := (-1 : Int32)) (by decide) ?_
  obtain ⟨s4, zw1, zf_5, zh⟩ := zh
  refine vc_V (As := [.int (-1 : Int32)]) (rest := []) dX6_readNegated_11 cV_LitmusTester_Parser_189 (wC_137 zw) rfl rfl (Nat.le_of_ble_eq_true rfl) (by omega) (co_v zf_5 ?_)
  replace zw := zw1
  refine vr_iload_n dX6_readNegated_14 rfl rfl ?_
  obtain ⟨zb_6, zh⟩ := zh
  exact vr_zret dX6_readNegated_15 rfl zb_6 zh
theorem e_X6_readNegated {γ : ga_T} {d : Nat} {l1 : Int32} {σ : st_T} {Q : rs_T → st_T → Prop} (zhd : 40 ≤ d) (zw : Wd σ) (zh : p_X6_readNegated_0 γ d l1 σ Q) : sp_ γ m_X6_readNegated (d + 1) [.ref 142, .int l1] σ Q := sp_of (pl_X6_readNegated) rfl (Nat.le_of_ble_eq_true rfl) (g_X6_readNegated_0 zhd zw zh)
def p_X6_readComparison_0 (γ : ga_T) (σ : st_T) (Q : rs_T → st_T → Prop) : Prop :=
  ∃ (v3 : Nat) (s1 : st_T), Wd s1 ∧ fn_ γ m_X10_sign 0 [.ref 143] σ (.ref v3) s1 ∧
  v3 < 21 ∧
  (v3 = 3 →
    ∃ (v8 : Int64) (s6 : st_T), Wd s6 ∧ fn_ γ m_X10_name 0 [.ref 143] s1 (.long v8) s6 ∧
    ∃ (v11 : Int32) (s9 : st_T), Wd s9 ∧ fn_ γ m_X7_locationNamed 0 [.ref 137, .long v8] s6 (.int v11) s9 ∧
    ∃ (v14 : Int32) (s12 : st_T), Wd s12 ∧ fn_ γ m_X7_locationShift 0 [.ref 137, .int v11] s9 (.int v14) s12 ∧
    ∃ s15, Wd s15 ∧ fw_ γ m_X10_advance 1 [.ref 143] s12 s15 ∧
    ∃ (v19 : Nat) (s17 : st_T), Wd s17 ∧ fn_ γ m_X10_sign 0 [.ref 143] s15 (.ref v19) s17 ∧
    v19 < 21 ∧
    (v19 = 18 →
      ∃ (v24 : Int32) (s22 : st_T), Wd s22 ∧ fn_ γ m_X6_expect 2 [.ref 142, .ref 18] s17 (.int v24) s22 ∧
      (v24 = (0 : Int32) →
        Q (.inl (some (.int (0 : Int32)))) s22
      ) ∧ (¬ v24 = (0 : Int32) →
        ∃ (v28 : Int32) (s26 : st_T), Wd s26 ∧ fn_ γ m_X6_isValue 2 [.ref 142] s22 (.int v28) s26 ∧
        (v28 = (0 : Int32) →
          Q (.inl (some (.int (0 : Int32)))) s26
        ) ∧ (¬ v28 = (0 : Int32) →
          ∃ (v32 : Int32) (s30 : st_T), Wd s30 ∧ fn_ γ m_X10_number 1 [.ref 143] s26 (.int v32) s30 ∧
          ∃ (v35 : Int32) (s33 : st_T), Wd s33 ∧ fn_ γ m_X7_comparison 0 [.int v14, .int (1 : Int32), .int v32] s30 (.int v35) s33 ∧
          ∃ s36, Wd s36 ∧ fw_ γ m_X7_addToCondition 0 [.ref 137, .int v35] s33 s36 ∧
          ∃ s38, Wd s38 ∧ fw_ γ m_X10_advance 1 [.ref 143] s36 s38 ∧
          Q (.inl (some (.int (1 : Int32)))) s38
        )
      )
    ) ∧ (¬ v19 = 18 →
      ∃ (v42 : Int32) (s40 : st_T), Wd s40 ∧ fn_ γ m_X6_expect 2 [.ref 142, .ref 17] s17 (.int v42) s40 ∧
      (v42 = (0 : Int32) →
        Q (.inl (some (.int (0 : Int32)))) s40
      ) ∧ (¬ v42 = (0 : Int32) →
        ∃ (v46 : Int32) (s44 : st_T), Wd s44 ∧ fn_ γ m_X6_isValue 2 [.ref 142] s40 (.int v46) s44 ∧
        (v46 = (0 : Int32) →
          Q (.inl (some (.int (0 : Int32)))) s44
        ) ∧ (¬ v46 = (0 : Int32) →
          ∃ (v50 : Int32) (s48 : st_T), Wd s48 ∧ fn_ γ m_X10_number 1 [.ref 143] s44 (.int v50) s48 ∧
          ∃ (v53 : Int32) (s51 : st_T), Wd s51 ∧ fn_ γ m_X7_comparison 0 [.int v14, .int (0 : Int32), .int v50] s48 (.int v53) s51 ∧
          ∃ s54, Wd s54 ∧ fw_ γ m_X7_addToCondition 0 [.ref 137, .int v53] s51 s54 ∧
          ∃ s56, Wd s56 ∧ fw_ γ m_X10_advance 1 [.ref 143] s54 s56 ∧
          Q (.inl (some (.int (1 : Int32)))) s56
        )
      )
    )
  ) ∧ (¬ v3 = 3 →
    ∃ (v60 : Int32) (s58 : st_T), Wd s58 ∧ fn_ γ m_X10_number 1 [.ref 143] s1 (.int v60) s58 ∧
    ∃ s61, Wd s61 ∧ fw_ γ m_X10_advance 1 [.ref 143] s58 s61 ∧
    ∃ (v65 : Int32) (s63 : st_T), Wd s63 ∧ fn_ γ m_X6_expect 2 [.ref 142, .ref 16] s61 (.int v65) s63 ∧
    (v65 = (0 : Int32) →
      Q (.inl (some (.int (0 : Int32)))) s63
    ) ∧ (¬ v65 = (0 : Int32) →
      ∃ (v69 : Int32) (s67 : st_T), Wd s67 ∧ fn_ γ m_X6_isTargetOf 2 [.ref 142, .int v60] s63 (.int v69) s67 ∧
      (v69 = (0 : Int32) →
        Q (.inl (some (.int (0 : Int32)))) s67
      ) ∧ (¬ v69 = (0 : Int32) →
        ∃ (v73 : Int32) (s71 : st_T), Wd s71 ∧ fn_ γ m_X10_number 1 [.ref 143] s67 (.int v73) s71 ∧
        ∃ (v76 : Int32) (s74 : st_T), Wd s74 ∧ fn_ γ m_X7_registerShift 1 [.ref 137, .int v60, .int v73] s71 (.int v76) s74 ∧
        ∃ s77, Wd s77 ∧ fw_ γ m_X10_advance 1 [.ref 143] s74 s77 ∧
        ∃ (v81 : Nat) (s79 : st_T), Wd s79 ∧ fn_ γ m_X10_sign 0 [.ref 143] s77 (.ref v81) s79 ∧
        v81 < 21 ∧
        (v81 = 18 →
          ∃ (v86 : Int32) (s84 : st_T), Wd s84 ∧ fn_ γ m_X6_expect 2 [.ref 142, .ref 18] s79 (.int v86) s84 ∧
          (v86 = (0 : Int32) →
            Q (.inl (some (.int (0 : Int32)))) s84
          ) ∧ (¬ v86 = (0 : Int32) →
            ∃ (v90 : Int32) (s88 : st_T), Wd s88 ∧ fn_ γ m_X6_isValue 2 [.ref 142] s84 (.int v90) s88 ∧
            (v90 = (0 : Int32) →
              Q (.inl (some (.int (0 : Int32)))) s88
            ) ∧ (¬ v90 = (0 : Int32) →
              ∃ (v94 : Int32) (s92 : st_T), Wd s92 ∧ fn_ γ m_X10_number 1 [.ref 143] s88 (.int v94) s92 ∧
              ∃ (v97 : Int32) (s95 : st_T), Wd s95 ∧ fn_ γ m_X7_comparison 0 [.int v76, .int (1 : Int32), .int v94] s92 (.int v97) s95 ∧
              ∃ s98, Wd s98 ∧ fw_ γ m_X7_addToCondition 0 [.ref 137, .int v97] s95 s98 ∧
              ∃ s100, Wd s100 ∧ fw_ γ m_X10_advance 1 [.ref 143] s98 s100 ∧
              Q (.inl (some (.int (1 : Int32)))) s100
            )
          )
        ) ∧ (¬ v81 = 18 →
          ∃ (v104 : Int32) (s102 : st_T), Wd s102 ∧ fn_ γ m_X6_expect 2 [.ref 142, .ref 17] s79 (.int v104) s102 ∧
          (v104 = (0 : Int32) →
            Q (.inl (some (.int (0 : Int32)))) s102
          ) ∧ (¬ v104 = (0 : Int32) →
            ∃ (v108 : Int32) (s106 : st_T), Wd s106 ∧ fn_ γ m_X6_isValue 2 [.ref 142] s102 (.int v108) s106 ∧
            (v108 = (0 : Int32) →
              Q (.inl (some (.int (0 : Int32)))) s106
            ) ∧ (¬ v108 = (0 : Int32) →
              ∃ (v112 : Int32) (s110 : st_T), Wd s110 ∧ fn_ γ m_X10_number 1 [.ref 143] s106 (.int v112) s110 ∧
              ∃ (v115 : Int32) (s113 : st_T), Wd s113 ∧ fn_ γ m_X7_comparison 0 [.int v76, .int (0 : Int32), .int v112] s110 (.int v115) s113 ∧
              ∃ s116, Wd s116 ∧ fw_ γ m_X7_addToCondition 0 [.ref 137, .int v115] s113 s116 ∧
              ∃ s118, Wd s118 ∧ fw_ γ m_X10_advance 1 [.ref 143] s116 s118 ∧
              Q (.inl (some (.int (1 : Int32)))) s118
            )
          )
        )
      )
    )
  )
set_option maxRecDepth 10000 in
theorem g_X6_readComparison_0 {γ : ga_T} {σ : st_T} {Q : rs_T → st_T → Prop} (zw : Wd σ) (zh : p_X6_readComparison_0 γ σ Q) : vv_ γ m_X6_readComparison 3 0 [(0, .ref 142)] [] σ Q := by
  unfold p_X6_readComparison_0 at zh
  refine vr_iconst dX6_readComparison_0 (v := (0 : Int32)) (by decide) ?_
  refine vr_istore_n dX6_readComparison_1 rfl (Nat.le_of_ble_eq_true rfl) (vv_eq (ls' := [(0, .ref 142), (1, .int (0 : Int32))]) rfl ?_)
  refine vr_aload_n dX6_readComparison_2 rfl rfl ?_
  refine vr_getR dX6_readComparison_3 fl_LitmusTester_Parser_35 (wC_142 zw) (Or.inl ⟨_, rfl⟩) (wR_142_0 zw) ?_
  obtain ⟨v3, s1, zw1, zf_2, zh⟩ := zh
  refine vc_V (As := []) (rest := []) dX6_readComparison_6 cV_LitmusTester_Parser_52 (wC_143 zw) rfl rfl (Nat.le_of_ble_eq_true rfl) (Nat.le_of_ble_eq_true rfl) (co_n zf_2 ?_)
  replace zw := zw1
  refine vr_getE dX6_readComparison_9 (i := 3) (by decide) tw_635 ?_
  obtain ⟨zg_4, zh⟩ := zh
  refine vr_acmp_ne dX6_readComparison_12 (tgt := 40) rfl zg_4 (by decide) (fun zd_5 => ?_) (fun zd_5 => ?_)
  · replace zh := zh.2 zd_5
    refine vr_aload_n dX6_readComparison_40 rfl rfl ?_
    refine vr_getR dX6_readComparison_41 fl_LitmusTester_Parser_35 (wC_142 zw) (Or.inl ⟨_, rfl⟩) (wR_142_0 zw) ?_
    obtain ⟨v60, s58, zw1, zf_59, zh⟩ := zh
    refine vc_V (As := []) (rest := []) dX6_readComparison_44 cV_LitmusTester_Parser_116 (wC_143 zw) rfl rfl (Nat.le_of_ble_eq_true rfl) (Nat.le_of_ble_eq_true rfl) (co_n zf_59 ?_)
    replace zw := zw1
    refine vr_istore_n dX6_readComparison_47 rfl (Nat.le_of_ble_eq_true rfl) (vv_eq (ls' := [(0, .ref 142), (1, .int (0 : Int32)), (2, .int v60)]) rfl ?_)
    refine vr_aload_n dX6_readComparison_48 rfl rfl ?_
    refine vr_getR dX6_readComparison_49 fl_LitmusTester_Parser_35 (wC_142 zw) (Or.inl ⟨_, rfl⟩) (wR_142_0 zw) ?_
    obtain ⟨s61, zw1, zf_62, zh⟩ := zh
    refine vc_V (As := []) (rest := []) dX6_readComparison_52 cV_LitmusTester_Parser_75 (wC_143 zw) rfl rfl (Nat.le_of_ble_eq_true rfl) (Nat.le_of_ble_eq_true rfl) (co_v zf_62 ?_)
    replace zw := zw1
    refine vr_aload_n dX6_readComparison_55 rfl rfl ?_
    refine vr_getE dX6_readComparison_56 (i := 16) (by decide) tw_766 ?_
    obtain ⟨v65, s63, zw1, zf_64, zh⟩ := zh
    refine vc_V (As := [.ref 16]) (rest := []) dX6_readComparison_59 cV_LitmusTester_Parser_85 (wC_142 zw) rfl rfl (Nat.le_of_ble_eq_true rfl) (Nat.le_of_ble_eq_true rfl) (co_n zf_64 ?_)
    replace zw := zw1
    refine vr_if_eq dX6_readComparison_62 (tgt := 73) rfl (fun zd_66 => ?_) (fun zd_66 => ?_)
    · replace zh := zh.1 zd_66
      refine vr_iconst dX6_readComparison_73 (v := (0 : Int32)) (by decide) ?_
      exact vr_zret dX6_readComparison_74 rfl (Or.inl rfl) zh
    · replace zh := zh.2 zd_66
      refine vr_aload_n dX6_readComparison_65 rfl rfl ?_
      refine vr_iload_n dX6_readComparison_66 rfl rfl ?_
      obtain ⟨v69, s67, zw1, zf_68, zh⟩ := zh
      refine vc_V (As := [.int v60]) (rest := []) dX6_readComparison_67 cV_LitmusTester_Parser_222 (wC_142 zw) rfl rfl (Nat.le_of_ble_eq_true rfl) (Nat.le_of_ble_eq_true rfl) (co_n zf_68 ?_)
      replace zw := zw1
      refine vr_if_ne dX6_readComparison_70 (tgt := 75) rfl (fun zd_70 => ?_) (fun zd_70 => ?_)
      · replace zh := zh.2 zd_70
        refine vr_aload_n dX6_readComparison_75 rfl rfl ?_
        refine vr_getR dX6_readComparison_76 fl_LitmusTester_Parser_39 (wC_142 zw) (Or.inl ⟨_, rfl⟩) (wR_142_1 zw) ?_
        refine vr_iload_n dX6_readComparison_79 rfl rfl ?_
        refine vr_aload_n dX6_readComparison_80 rfl rfl ?_
        refine vr_getR dX6_readComparison_81 fl_LitmusTester_Parser_35 (wC_142 zw) (Or.inl ⟨_, rfl⟩) (wR_142_0 zw) ?_
        obtain ⟨v73, s71, zw1, zf_72, zh⟩ := zh
        refine vc_V (As := []) (rest := [.int v60, .ref 137]) dX6_readComparison_84 cV_LitmusTester_Parser_116 (wC_143 zw) rfl rfl (Nat.le_of_ble_eq_true rfl) (Nat.le_of_ble_eq_true rfl) (co_n zf_72 ?_)
        replace zw := zw1
        obtain ⟨v76, s74, zw1, zf_75, zh⟩ := zh
        refine vc_V (As := [.int v60, .int v73]) (rest := []) dX6_readComparison_87 cV_LitmusTester_Parser_225 (wC_137 zw) rfl rfl (Nat.le_of_ble_eq_true rfl) (Nat.le_of_ble_eq_true rfl) (co_n zf_75 ?_)
        replace zw := zw1
        refine vr_istore_n dX6_readComparison_90 rfl (Nat.le_of_ble_eq_true rfl) (vv_eq (ls' := [(0, .ref 142), (1, .int v76), (2, .int v60)]) rfl ?_)
        refine vr_aload_n dX6_readComparison_91 rfl rfl ?_
        refine vr_getR dX6_readComparison_92 fl_LitmusTester_Parser_35 (wC_142 zw) (Or.inl ⟨_, rfl⟩) (wR_142_0 zw) ?_
        obtain ⟨s77, zw1, zf_78, zh⟩ := zh
        refine vc_V (As := []) (rest := []) dX6_readComparison_95 cV_LitmusTester_Parser_75 (wC_143 zw) rfl rfl (Nat.le_of_ble_eq_true rfl) (Nat.le_of_ble_eq_true rfl) (co_v zf_78 ?_)
        replace zw := zw1
        refine vr_aload_n dX6_readComparison_98 rfl rfl ?_
        refine vr_getR dX6_readComparison_99 fl_LitmusTester_Parser_35 (wC_142 zw) (Or.inl ⟨_, rfl⟩) (wR_142_0 zw) ?_
        obtain ⟨v81, s79, zw1, zf_80, zh⟩ := zh
        refine vc_V (As := []) (rest := []) dX6_readComparison_102 cV_LitmusTester_Parser_52 (wC_143 zw) rfl rfl (Nat.le_of_ble_eq_true rfl) (Nat.le_of_ble_eq_true rfl) (co_n zf_80 ?_)
        replace zw := zw1
        refine vr_getE dX6_readComparison_105 (i := 18) (by decide) tw_780 ?_
        obtain ⟨zg_82, zh⟩ := zh
        refine vr_acmp_ne dX6_readComparison_108 (tgt := 115) rfl zg_82 (by decide) (fun zd_83 => ?_) (fun zd_83 => ?_)
        · replace zh := zh.2 zd_83
          refine vr_iconst dX6_readComparison_115 (v := (0 : Int32)) (by decide) ?_
          refine vr_istore_n dX6_readComparison_116 rfl (Nat.le_of_ble_eq_true rfl) (vv_eq (ls' := [(0, .ref 142), (1, .int v76), (2, .int (0 : Int32))]) rfl ?_)
          refine vr_aload_n dX6_readComparison_117 rfl rfl ?_
          refine vr_iload_n dX6_readComparison_118 rfl rfl ?_
          refine vr_if_eq dX6_readComparison_119 (tgt := 128) rfl (fun _ => ?_) (fun c => absurd (by decide) c)
          refine vr_getE dX6_readComparison_128 (i := 17) (by decide) tw_782 ?_
          obtain ⟨v104, s102, zw1, zf_103, zh⟩ := zh
          refine vc_V (As := [.ref 17]) (rest := []) dX6_readComparison_131 cV_LitmusTester_Parser_85 (wC_142 zw) rfl rfl (Nat.le_of_ble_eq_true rfl) (Nat.le_of_ble_eq_true rfl) (co_n zf_103 ?_)
          replace zw := zw1
          refine vr_if_eq dX6_readComparison_134 (tgt := 144) rfl (fun zd_105 => ?_) (fun zd_105 => ?_)
          · replace zh := zh.1 zd_105
            refine vr_iconst dX6_readComparison_144 (v := (0 : Int32)) (by decide) ?_
            exact vr_zret dX6_readComparison_145 rfl (Or.inl rfl) zh
          · replace zh := zh.2 zd_105
            refine vr_aload_n dX6_readComparison_137 rfl rfl ?_
            obtain ⟨v108, s106, zw1, zf_107, zh⟩ := zh
            refine vc_V (As := []) (rest := []) dX6_readComparison_138 cV_LitmusTester_Parser_113 (wC_142 zw) rfl rfl (Nat.le_of_ble_eq_true rfl) (Nat.le_of_ble_eq_true rfl) (co_n zf_107 ?_)
            replace zw := zw1
            refine vr_if_ne dX6_readComparison_141 (tgt := 146) rfl (fun zd_109 => ?_) (fun zd_109 => ?_)
            · replace zh := zh.2 zd_109
              refine vr_aload_n dX6_readComparison_146 rfl rfl ?_
              refine vr_getR dX6_readComparison_147 fl_LitmusTester_Parser_39 (wC_142 zw) (Or.inl ⟨_, rfl⟩) (wR_142_1 zw) ?_
              refine vr_iload_n dX6_readComparison_150 rfl rfl ?_
              refine vr_iload_n dX6_readComparison_151 rfl rfl ?_
              refine vr_aload_n dX6_readComparison_152 rfl rfl ?_
              refine vr_getR dX6_readComparison_153 fl_LitmusTester_Parser_35 (wC_142 zw) (Or.inl ⟨_, rfl⟩) (wR_142_0 zw) ?_
              obtain ⟨v112, s110, zw1, zf_111, zh⟩ := zh
              refine vc_V (As := []) (rest := [.int (0 : Int32), .int v76, .ref 137]) dX6_readComparison_156 cV_LitmusTester_Parser_116 (wC_143 zw) rfl rfl (Nat.le_of_ble_eq_true rfl) (Nat.le_of_ble_eq_true rfl) (co_n zf_111 ?_)
              replace zw := zw1
              obtain ⟨v115, s113, zw1, zf_114, zh⟩ := zh
              refine vc_S (As := [.int v76, .int (0 : Int32), .int v112]) (rest := [.ref 137]) dX6_readComparison_159 cS_LitmusTester_Parser_235 rfl rfl (Nat.le_of_ble_eq_true rfl) (Nat.le_of_ble_eq_true rfl) (co_n zf_114 ?_)
              replace zw := zw1
              obtain ⟨s116, zw1, zf_117, zh⟩ := zh
              refine vc_V (As := [.int v115]) (rest := []) dX6_readComparison_162 cV_LitmusTester_Parser_189 (wC_137 zw) rfl rfl (Nat.le_of_ble_eq_true rfl) (Nat.le_of_ble_eq_true rfl) (co_v zf_117 ?_)
              replace zw := zw1
              refine vr_aload_n dX6_readComparison_165 rfl rfl ?_
              refine vr_getR dX6_readComparison_166 fl_LitmusTester_Parser_35 (wC_142 zw) (Or.inl ⟨_, rfl⟩) (wR_142_0 zw) ?_
              obtain ⟨s118, zw1, zf_119, zh⟩ := zh
              refine vc_V (As := []) (rest := []) dX6_readComparison_169 cV_LitmusTester_Parser_75 (wC_143 zw) rfl rfl (Nat.le_of_ble_eq_true rfl) (Nat.le_of_ble_eq_true rfl) (co_v zf_119 ?_)
              replace zw := zw1
              refine vr_iconst dX6_readComparison_172 (v := (1 : Int32)) (by decide) ?_
              exact vr_zret dX6_readComparison_173 rfl (Or.inr rfl) zh
            · replace zh := zh.1 zd_109
              refine vr_iconst dX6_readComparison_144 (v := (0 : Int32)) (by decide) ?_
              exact vr_zret dX6_readComparison_145 rfl (Or.inl rfl) zh
        · replace zh := zh.1 zd_83
          refine vr_iconst dX6_readComparison_111 (v := (1 : Int32)) (by decide) ?_
          refine vr_goto dX6_readComparison_112 (tgt := 116) rfl ?_
          refine vr_istore_n dX6_readComparison_116 rfl (Nat.le_of_ble_eq_true rfl) (vv_eq (ls' := [(0, .ref 142), (1, .int v76), (2, .int (1 : Int32))]) rfl ?_)
          refine vr_aload_n dX6_readComparison_117 rfl rfl ?_
          refine vr_iload_n dX6_readComparison_118 rfl rfl ?_
          refine vr_if_eq dX6_readComparison_119 (tgt := 128) rfl (fun c => absurd c (by decide)) (fun _ => ?_)
          refine vr_getE dX6_readComparison_122 (i := 18) (by decide) tw_780 ?_
          refine vr_goto dX6_readComparison_125 (tgt := 131) rfl ?_
          obtain ⟨v86, s84, zw1, zf_85, zh⟩ := zh
          refine vc_V (As := [.ref 18]) (rest := []) dX6_readComparison_131 cV_LitmusTester_Parser_85 (wC_142 zw) rfl rfl (Nat.le_of_ble_eq_true rfl) (Nat.le_of_ble_eq_true rfl) (co_n zf_85 ?_)
          replace zw := zw1
          refine vr_if_eq dX6_readComparison_134 (tgt := 144) rfl (fun zd_87 => ?_) (fun zd_87 => ?_)
          · replace zh := zh.1 zd_87
            refine vr_iconst dX6_readComparison_144 (v := (0 : Int32)) (by decide) ?_
            exact vr_zret dX6_readComparison_145 rfl (Or.inl rfl) zh
          · replace zh := zh.2 zd_87
            refine vr_aload_n dX6_readComparison_137 rfl rfl ?_
            obtain ⟨v90, s88, zw1, zf_89, zh⟩ := zh
            refine vc_V (As := []) (rest := []) dX6_readComparison_138 cV_LitmusTester_Parser_113 (wC_142 zw) rfl rfl (Nat.le_of_ble_eq_true rfl) (Nat.le_of_ble_eq_true rfl) (co_n zf_89 ?_)
            replace zw := zw1
            refine vr_if_ne dX6_readComparison_141 (tgt := 146) rfl (fun zd_91 => ?_) (fun zd_91 => ?_)
            · replace zh := zh.2 zd_91
              refine vr_aload_n dX6_readComparison_146 rfl rfl ?_
              refine vr_getR dX6_readComparison_147 fl_LitmusTester_Parser_39 (wC_142 zw) (Or.inl ⟨_, rfl⟩) (wR_142_1 zw) ?_
              refine vr_iload_n dX6_readComparison_150 rfl rfl ?_
              refine vr_iload_n dX6_readComparison_151 rfl rfl ?_
              refine vr_aload_n dX6_readComparison_152 rfl rfl ?_
              refine vr_getR dX6_readComparison_153 fl_LitmusTester_Parser_35 (wC_142 zw) (Or.inl ⟨_, rfl⟩) (wR_142_0 zw) ?_
              obtain ⟨v94, s92, zw1, zf_93, zh⟩ := zh
              refine vc_V (As := []) (rest := [.int (1 : Int32), .int v76, .ref 137]) dX6_readComparison_156 cV_LitmusTester_Parser_116 (wC_143 zw) rfl rfl (Nat.le_of_ble_eq_true rfl) (Nat.le_of_ble_eq_true rfl) (co_n zf_93 ?_)
              replace zw := zw1
              obtain ⟨v97, s95, zw1, zf_96, zh⟩ := zh
              refine vc_S (As := [.int v76, .int (1 : Int32), .int v94]) (rest := [.ref 137]) dX6_readComparison_159 cS_LitmusTester_Parser_235 rfl rfl (Nat.le_of_ble_eq_true rfl) (Nat.le_of_ble_eq_true rfl) (co_n zf_96 ?_)
              replace zw := zw1
              obtain ⟨s98, zw1, zf_99, zh⟩ := zh
              refine vc_V (As := [.int v97]) (rest := []) dX6_readComparison_162 cV_LitmusTester_Parser_189 (wC_137 zw) rfl rfl (Nat.le_of_ble_eq_true rfl) (Nat.le_of_ble_eq_true rfl) (co_v zf_99 ?_)
              replace zw := zw1
              refine vr_aload_n dX6_readComparison_165 rfl rfl ?_
              refine vr_getR dX6_readComparison_166 fl_LitmusTester_Parser_35 (wC_142 zw) (Or.inl ⟨_, rfl⟩) (wR_142_0 zw) ?_
              obtain ⟨s100, zw1, zf_101, zh⟩ := zh
              refine vc_V (As := []) (rest := []) dX6_readComparison_169 cV_LitmusTester_Parser_75 (wC_143 zw) rfl rfl (Nat.le_of_ble_eq_true rfl) (Nat.le_of_ble_eq_true rfl) (co_v zf_101 ?_)
              replace zw := zw1
              refine vr_iconst dX6_readComparison_172 (v := (1 : Int32)) (by decide) ?_
              exact vr_zret dX6_readComparison_173 rfl (Or.inr rfl) zh
            · replace zh := zh.1 zd_91
              refine vr_iconst dX6_readComparison_144 (v := (0 : Int32)) (by decide) ?_
              exact vr_zret dX6_readComparison_145 rfl (Or.inl rfl) zh
      · replace zh := zh.1 zd_70
        refine vr_iconst dX6_readComparison_73 (v := (0 : Int32)) (by decide) ?_
        exact vr_zret dX6_readComparison_74 rfl (Or.inl rfl) zh
  · replace zh := zh.1 zd_5
    refine vr_aload_n dX6_readComparison_15 rfl rfl ?_
    refine vr_getR dX6_readComparison_16 fl_LitmusTester_Parser_39 (wC_142 zw) (Or.inl ⟨_, rfl⟩) (wR_142_1 zw) ?_
    refine vr_aload_n dX6_readComparison_19 rfl rfl ?_
    refine vr_getR dX6_readComparison_20 fl_LitmusTester_Parser_39 (wC_142 zw) (Or.inl ⟨_, rfl⟩) (wR_142_1 zw) ?_
    refine vr_aload_n dX6_readComparison_23 rfl rfl ?_
    refine vr_getR dX6_readComparison_24 fl_LitmusTester_Parser_35 (wC_142 zw) (Or.inl ⟨_, rfl⟩) (wR_142_0 zw) ?_
    obtain ⟨v8, s6, zw1, zf_7, zh⟩ := zh
    refine vc_V (As := []) (rest := [.ref 137, .ref 137]) dX6_readComparison_27 cV_LitmusTester_Parser_105 (wC_143 zw) rfl rfl (Nat.le_of_ble_eq_true rfl) (Nat.le_of_ble_eq_true rfl) (co_n zf_7 ?_)
    replace zw := zw1
    obtain ⟨v11, s9, zw1, zf_10, zh⟩ := zh
    refine vc_V (As := [.long v8]) (rest := [.ref 137]) dX6_readComparison_30 cV_LitmusTester_Parser_109 (wC_137 zw) rfl rfl (Nat.le_of_ble_eq_true rfl) (Nat.le_of_ble_eq_true rfl) (co_n zf_10 ?_)
    replace zw := zw1
    obtain ⟨v14, s12, zw1, zf_13, zh⟩ := zh
    refine vc_V (As := [.int v11]) (rest := []) dX6_readComparison_33 cV_LitmusTester_Parser_216 (wC_137 zw) rfl rfl (Nat.le_of_ble_eq_true rfl) (Nat.le_of_ble_eq_true rfl) (co_n zf_13 ?_)
    replace zw := zw1
    refine vr_istore_n dX6_readComparison_36 rfl (Nat.le_of_ble_eq_true rfl) (vv_eq (ls' := [(0, .ref 142), (1, .int v14)]) rfl ?_)
    refine vr_goto dX6_readComparison_37 (tgt := 91) rfl ?_
    refine vr_aload_n dX6_readComparison_91 rfl rfl ?_
    refine vr_getR dX6_readComparison_92 fl_LitmusTester_Parser_35 (wC_142 zw) (Or.inl ⟨_, rfl⟩) (wR_142_0 zw) ?_
    obtain ⟨s15, zw1, zf_16, zh⟩ := zh
    refine vc_V (As := []) (rest := []) dX6_readComparison_95 cV_LitmusTester_Parser_75 (wC_143 zw) rfl rfl (Nat.le_of_ble_eq_true rfl) (Nat.le_of_ble_eq_true rfl) (co_v zf_16 ?_)
    replace zw := zw1
    refine vr_aload_n dX6_readComparison_98 rfl rfl ?_
    refine vr_getR dX6_readComparison_99 fl_LitmusTester_Parser_35 (wC_142 zw) (Or.inl ⟨_, rfl⟩) (wR_142_0 zw) ?_
    obtain ⟨v19, s17, zw1, zf_18, zh⟩ := zh
    refine vc_V (As := []) (rest := []) dX6_readComparison_102 cV_LitmusTester_Parser_52 (wC_143 zw) rfl rfl (Nat.le_of_ble_eq_true rfl) (Nat.le_of_ble_eq_true rfl) (co_n zf_18 ?_)
    replace zw := zw1
    refine vr_getE dX6_readComparison_105 (i := 18) (by decide) tw_780 ?_
    obtain ⟨zg_20, zh⟩ := zh
    refine vr_acmp_ne dX6_readComparison_108 (tgt := 115) rfl zg_20 (by decide) (fun zd_21 => ?_) (fun zd_21 => ?_)
    · replace zh := zh.2 zd_21
      refine vr_iconst dX6_readComparison_115 (v := (0 : Int32)) (by decide) ?_
      refine vr_istore_n dX6_readComparison_116 rfl (Nat.le_of_ble_eq_true rfl) (vv_eq (ls' := [(0, .ref 142), (1, .int v14), (2, .int (0 : Int32))]) rfl ?_)
      refine vr_aload_n dX6_readComparison_117 rfl rfl ?_
      refine vr_iload_n dX6_readComparison_118 rfl rfl ?_
      refine vr_if_eq dX6_readComparison_119 (tgt := 128) rfl (fun _ => ?_) (fun c => absurd (by decide) c)
      refine vr_getE dX6_readComparison_128 (i := 17) (by decide) tw_782 ?_
      obtain ⟨v42, s40, zw1, zf_41, zh⟩ := zh
      refine vc_V (As := [.ref 17]) (rest := []) dX6_readComparison_131 cV_LitmusTester_Parser_85 (wC_142 zw) rfl rfl (Nat.le_of_ble_eq_true rfl) (Nat.le_of_ble_eq_true rfl) (co_n zf_41 ?_)
      replace zw := zw1
      refine vr_if_eq dX6_readComparison_134 (tgt := 144) rfl (fun zd_43 => ?_) (fun zd_43 => ?_)
      · replace zh := zh.1 zd_43
        refine vr_iconst dX6_readComparison_144 (v := (0 : Int32)) (by decide) ?_
        exact vr_zret dX6_readComparison_145 rfl (Or.inl rfl) zh
      · replace zh := zh.2 zd_43
        refine vr_aload_n dX6_readComparison_137 rfl rfl ?_
        obtain ⟨v46, s44, zw1, zf_45, zh⟩ := zh
        refine vc_V (As := []) (rest := []) dX6_readComparison_138 cV_LitmusTester_Parser_113 (wC_142 zw) rfl rfl (Nat.le_of_ble_eq_true rfl) (Nat.le_of_ble_eq_true rfl) (co_n zf_45 ?_)
        replace zw := zw1
        refine vr_if_ne dX6_readComparison_141 (tgt := 146) rfl (fun zd_47 => ?_) (fun zd_47 => ?_)
        · replace zh := zh.2 zd_47
          refine vr_aload_n dX6_readComparison_146 rfl rfl ?_
          refine vr_getR dX6_readComparison_147 fl_LitmusTester_Parser_39 (wC_142 zw) (Or.inl ⟨_, rfl⟩) (wR_142_1 zw) ?_
          refine vr_iload_n dX6_readComparison_150 rfl rfl ?_
          refine vr_iload_n dX6_readComparison_151 rfl rfl ?_
          refine vr_aload_n dX6_readComparison_152 rfl rfl ?_
          refine vr_getR dX6_readComparison_153 fl_LitmusTester_Parser_35 (wC_142 zw) (Or.inl ⟨_, rfl⟩) (wR_142_0 zw) ?_
          obtain ⟨v50, s48, zw1, zf_49, zh⟩ := zh
          refine vc_V (As := []) (rest := [.int (0 : Int32), .int v14, .ref 137]) dX6_readComparison_156 cV_LitmusTester_Parser_116 (wC_143 zw) rfl rfl (Nat.le_of_ble_eq_true rfl) (Nat.le_of_ble_eq_true rfl) (co_n zf_49 ?_)
          replace zw := zw1
          obtain ⟨v53, s51, zw1, zf_52, zh⟩ := zh
          refine vc_S (As := [.int v14, .int (0 : Int32), .int v50]) (rest := [.ref 137]) dX6_readComparison_159 cS_LitmusTester_Parser_235 rfl rfl (Nat.le_of_ble_eq_true rfl) (Nat.le_of_ble_eq_true rfl) (co_n zf_52 ?_)
          replace zw := zw1
          obtain ⟨s54, zw1, zf_55, zh⟩ := zh
          refine vc_V (As := [.int v53]) (rest := []) dX6_readComparison_162 cV_LitmusTester_Parser_189 (wC_137 zw) rfl rfl (Nat.le_of_ble_eq_true rfl) (Nat.le_of_ble_eq_true rfl) (co_v zf_55 ?_)
          replace zw := zw1
          refine vr_aload_n dX6_readComparison_165 rfl rfl ?_
          refine vr_getR dX6_readComparison_166 fl_LitmusTester_Parser_35 (wC_142 zw) (Or.inl ⟨_, rfl⟩) (wR_142_0 zw) ?_
          obtain ⟨s56, zw1, zf_57, zh⟩ := zh
          refine vc_V (As := []) (rest := []) dX6_readComparison_169 cV_LitmusTester_Parser_75 (wC_143 zw) rfl rfl (Nat.le_of_ble_eq_true rfl) (Nat.le_of_ble_eq_true rfl) (co_v zf_57 ?_)
          replace zw := zw1
          refine vr_iconst dX6_readComparison_172 (v := (1 : Int32)) (by decide) ?_
          exact vr_zret dX6_readComparison_173 rfl (Or.inr rfl) zh
        · replace zh := zh.1 zd_47
          refine vr_iconst dX6_readComparison_144 (v := (0 : Int32)) (by decide) ?_
          exact vr_zret dX6_readComparison_145 rfl (Or.inl rfl) zh
    · replace zh := zh.1 zd_21
      refine vr_iconst dX6_readComparison_111 (v := (1 : Int32)) (by decide) ?_
      refine vr_goto dX6_readComparison_112 (tgt := 116) rfl ?_
      refine vr_istore_n dX6_readComparison_116 rfl (Nat.le_of_ble_eq_true rfl) (vv_eq (ls' := [(0, .ref 142), (1, .int v14), (2, .int (1 : Int32))]) rfl ?_)
      refine vr_aload_n dX6_readComparison_117 rfl rfl ?_
      refine vr_iload_n dX6_readComparison_118 rfl rfl ?_
      refine vr_if_eq dX6_readComparison_119 (tgt := 128) rfl (fun c => absurd c (by decide)) (fun _ => ?_)
      refine vr_getE dX6_readComparison_122 (i := 18) (by decide) tw_780 ?_
      refine vr_goto dX6_readComparison_125 (tgt := 131) rfl ?_
      obtain ⟨v24, s22, zw1, zf_23, zh⟩ := zh
      refine vc_V (As := [.ref 18]) (rest := []) dX6_readComparison_131 cV_LitmusTester_Parser_85 (wC_142 zw) rfl rfl (Nat.le_of_ble_eq_true rfl) (Nat.le_of_ble_eq_true rfl) (co_n zf_23 ?_)
      replace zw := zw1
      refine vr_if_eq dX6_readComparison_134 (tgt := 144) rfl (fun zd_25 => ?_) (fun zd_25 => ?_)
      · replace zh := zh.1 zd_25
        refine vr_iconst dX6_readComparison_144 (v := (0 : Int32)) (by decide) ?_
        exact vr_zret dX6_readComparison_145 rfl (Or.inl rfl) zh
      · replace zh := zh.2 zd_25
        refine vr_aload_n dX6_readComparison_137 rfl rfl ?_
        obtain ⟨v28, s26, zw1, zf_27, zh⟩ := zh
        refine vc_V (As := []) (rest := []) dX6_readComparison_138 cV_LitmusTester_Parser_113 (wC_142 zw) rfl rfl (Nat.le_of_ble_eq_true rfl) (Nat.le_of_ble_eq_true rfl) (co_n zf_27 ?_)
        replace zw := zw1
        refine vr_if_ne dX6_readComparison_141 (tgt := 146) rfl (fun zd_29 => ?_) (fun zd_29 => ?_)
        · replace zh := zh.2 zd_29
          refine vr_aload_n dX6_readComparison_146 rfl rfl ?_
          refine vr_getR dX6_readComparison_147 fl_LitmusTester_Parser_39 (wC_142 zw) (Or.inl ⟨_, rfl⟩) (wR_142_1 zw) ?_
          refine vr_iload_n dX6_readComparison_150 rfl rfl ?_
          refine vr_iload_n dX6_readComparison_151 rfl rfl ?_
          refine vr_aload_n dX6_readComparison_152 rfl rfl ?_
          refine vr_getR dX6_readComparison_153 fl_LitmusTester_Parser_35 (wC_142 zw) (Or.inl ⟨_, rfl⟩) (wR_142_0 zw) ?_
          obtain ⟨v32, s30, zw1, zf_31, zh⟩ := zh
          refine vc_V (As := []) (rest := [.int (1 : Int32), .int v14, .ref 137]) dX6_readComparison_156 cV_LitmusTester_Parser_116 (wC_143 zw) rfl rfl (Nat.le_of_ble_eq_true rfl) (Nat.le_of_ble_eq_true rfl) (co_n zf_31 ?_)
          replace zw := zw1
          obtain ⟨v35, s33, zw1, zf_34, zh⟩ := zh
          refine vc_S (As := [.int v14, .int (1 : Int32), .int v32]) (rest := [.ref 137]) dX6_readComparison_159 cS_LitmusTester_Parser_235 rfl rfl (Nat.le_of_ble_eq_true rfl) (Nat.le_of_ble_eq_true rfl) (co_n zf_34 ?_)
          replace zw := zw1
          obtain ⟨s36, zw1, zf_37, zh⟩ := zh
          refine vc_V (As := [.int v35]) (rest := []) dX6_readComparison_162 cV_LitmusTester_Parser_189 (wC_137 zw) rfl rfl (Nat.le_of_ble_eq_true rfl) (Nat.le_of_ble_eq_true rfl) (co_v zf_37 ?_)
          replace zw := zw1
          refine vr_aload_n dX6_readComparison_165 rfl rfl ?_
          refine vr_getR dX6_readComparison_166 fl_LitmusTester_Parser_35 (wC_142 zw) (Or.inl ⟨_, rfl⟩) (wR_142_0 zw) ?_
          obtain ⟨s38, zw1, zf_39, zh⟩ := zh
          refine vc_V (As := []) (rest := []) dX6_readComparison_169 cV_LitmusTester_Parser_75 (wC_143 zw) rfl rfl (Nat.le_of_ble_eq_true rfl) (Nat.le_of_ble_eq_true rfl) (co_v zf_39 ?_)
          replace zw := zw1
          refine vr_iconst dX6_readComparison_172 (v := (1 : Int32)) (by decide) ?_
          exact vr_zret dX6_readComparison_173 rfl (Or.inr rfl) zh
        · replace zh := zh.1 zd_29
          refine vr_iconst dX6_readComparison_144 (v := (0 : Int32)) (by decide) ?_
          exact vr_zret dX6_readComparison_145 rfl (Or.inl rfl) zh
theorem e_X6_readComparison {γ : ga_T} {σ : st_T} {Q : rs_T → st_T → Prop} (zw : Wd σ) (zh : p_X6_readComparison_0 γ σ Q) : sp_ γ m_X6_readComparison 3 [.ref 142] σ Q := sp_of (pl_X6_readComparison) rfl (Nat.le_of_ble_eq_true rfl) (g_X6_readComparison_0 zw zh)
def p_X6_isTargetOf_0 (γ : ga_T) (l1 : Int32) (σ : st_T) (Q : rs_T → st_T → Prop) : Prop :=
  ∃ (v3 : Nat) (s1 : st_T), Wd s1 ∧ fn_ γ m_X10_sign 0 [.ref 143] σ (.ref v3) s1 ∧
  v3 < 21 ∧
  (v3 = 2 →
    ∃ (v8 : Int32) (s6 : st_T), Wd s6 ∧ fn_ γ m_X10_number 1 [.ref 143] s1 (.int v8) s6 ∧
    ∃ (v11 : Int32) (s9 : st_T), Wd s9 ∧ fn_ γ m_X7_isTarget 1 [.ref 137, .int l1, .int v8] s6 (.int v11) s9 ∧
    (v11 = (0 : Int32) →
      ∃ (v15 : Int32) (s13 : st_T), Wd s13 ∧ fn_ γ m_X6_fail 1 [.ref 142, .int (4 : Int32)] s9 (.int v15) s13 ∧
      (v15 = (0 : Int32) →
        Q (.inl (some (.int (0 : Int32)))) s13
      ) ∧ (¬ v15 = (0 : Int32) →
        Q (.inl (some (.int (1 : Int32)))) s13
      )
    ) ∧ (¬ v11 = (0 : Int32) →
      Q (.inl (some (.int (1 : Int32)))) s9
    )
  ) ∧ (¬ v3 = 2 →
    ∃ (v19 : Int32) (s17 : st_T), Wd s17 ∧ fn_ γ m_X6_fail 1 [.ref 142, .int (1 : Int32)] s1 (.int v19) s17 ∧
    (v19 = 0 ∨ v19 = 1) ∧
    Q (.inl (some (.int v19))) s17
  )
set_option maxRecDepth 10000 in
theorem g_X6_isTargetOf_0 {γ : ga_T} {l1 : Int32} {σ : st_T} {Q : rs_T → st_T → Prop} (zw : Wd σ) (zh : p_X6_isTargetOf_0 γ l1 σ Q) : vv_ γ m_X6_isTargetOf 2 0 [(0, .ref 142), (1, .int l1)] [] σ Q := by
  unfold p_X6_isTargetOf_0 at zh
  refine vr_aload_n dX6_isTargetOf_0 rfl rfl ?_
  refine vr_getR dX6_isTargetOf_1 fl_LitmusTester_Parser_35 (wC_142 zw) (Or.inl ⟨_, rfl⟩) (wR_142_0 zw) ?_
  obtain ⟨v3, s1, zw1, zf_2, zh⟩ := zh
  refine vc_V (As := []) (rest := []) dX6_isTargetOf_4 cV_LitmusTester_Parser_52 (wC_143 zw) rfl rfl (Nat.le_of_ble_eq_true rfl) (Nat.le_of_ble_eq_true rfl) (co_n zf_2 ?_)
  replace zw := zw1
  refine vr_getE dX6_isTargetOf_7 (i := 2) (by decide) tw_723 ?_
  obtain ⟨zg_4, zh⟩ := zh
  refine vr_acmp_eq dX6_isTargetOf_10 (tgt := 19) rfl zg_4 (by decide) (fun zd_5 => ?_) (fun zd_5 => ?_)
  · replace zh := zh.1 zd_5
    refine vr_aload_n dX6_isTargetOf_19 rfl rfl ?_
    refine vr_getR dX6_isTargetOf_20 fl_LitmusTester_Parser_39 (wC_142 zw) (Or.inl ⟨_, rfl⟩) (wR_142_1 zw) ?_
    refine vr_iload_n dX6_isTargetOf_23 rfl rfl ?_
    refine vr_aload_n dX6_isTargetOf_24 rfl rfl ?_
    refine vr_getR dX6_isTargetOf_25 fl_LitmusTester_Parser_35 (wC_142 zw) (Or.inl ⟨_, rfl⟩) (wR_142_0 zw) ?_
    obtain ⟨v8, s6, zw1, zf_7, zh⟩ := zh
    refine vc_V (As := []) (rest := [.int l1, .ref 137]) dX6_isTargetOf_28 cV_LitmusTester_Parser_116 (wC_143 zw) rfl rfl (Nat.le_of_ble_eq_true rfl) (Nat.le_of_ble_eq_true rfl) (co_n zf_7 ?_)
    replace zw := zw1
    obtain ⟨v11, s9, zw1, zf_10, zh⟩ := zh
    refine vc_V (As := [.int l1, .int v8]) (rest := []) dX6_isTargetOf_31 cV_LitmusTester_Parser_183 (wC_137 zw) rfl rfl (Nat.le_of_ble_eq_true rfl) (Nat.le_of_ble_eq_true rfl) (co_n zf_10 ?_)
    replace zw := zw1
    refine vr_if_ne dX6_isTargetOf_34 (tgt := 45) rfl (fun zd_12 => ?_) (fun zd_12 => ?_)
    · replace zh := zh.2 zd_12
      refine vr_iconst dX6_isTargetOf_45 (v := (1 : Int32)) (by decide) ?_
      refine vr_goto dX6_isTargetOf_46 (tgt := 50) rfl ?_
      exact vr_zret dX6_isTargetOf_50 rfl (Or.inr rfl) zh
    · replace zh := zh.1 zd_12
      refine vr_aload_n dX6_isTargetOf_37 rfl rfl ?_
      refine vr_iconst dX6_isTargetOf_38 (v := (4 : Int32)) (by decide) ?_
      obtain ⟨v15, s13, zw1, zf_14, zh⟩ := zh
      refine vc_V (As := [.int (4 : Int32)]) (rest := []) dX6_isTargetOf_39 cV_LitmusTester_Parser_92 (wC_142 zw) rfl rfl (Nat.le_of_ble_eq_true rfl) (Nat.le_of_ble_eq_true rfl) (co_n zf_14 ?_)
      replace zw := zw1
      refine vr_if_eq dX6_isTargetOf_42 (tgt := 49) rfl (fun zd_16 => ?_) (fun zd_16 => ?_)
      · replace zh := zh.1 zd_16
        refine vr_iconst dX6_isTargetOf_49 (v := (0 : Int32)) (by decide) ?_
        exact vr_zret dX6_isTargetOf_50 rfl (Or.inl rfl) zh
      · replace zh := zh.2 zd_16
        refine vr_iconst dX6_isTargetOf_45 (v := (1 : Int32)) (by decide) ?_
        refine vr_goto dX6_isTargetOf_46 (tgt := 50) rfl ?_
        exact vr_zret dX6_isTargetOf_50 rfl (Or.inr rfl) zh
  · replace zh := zh.2 zd_5
    refine vr_aload_n dX6_isTargetOf_13 rfl rfl ?_
    refine vr_iconst dX6_isTargetOf_14 (v := (1 : Int32)) (by decide) ?_
    obtain ⟨v19, s17, zw1, zf_18, zh⟩ := zh
    refine vc_V (As := [.int (1 : Int32)]) (rest := []) dX6_isTargetOf_15 cV_LitmusTester_Parser_92 (wC_142 zw) rfl rfl (Nat.le_of_ble_eq_true rfl) (Nat.le_of_ble_eq_true rfl) (co_n zf_18 ?_)
    replace zw := zw1
    obtain ⟨zb_20, zh⟩ := zh
    exact vr_zret dX6_isTargetOf_18 rfl zb_20 zh
theorem e_X6_isTargetOf {γ : ga_T} {l1 : Int32} {σ : st_T} {Q : rs_T → st_T → Prop} (zw : Wd σ) (zh : p_X6_isTargetOf_0 γ l1 σ Q) : sp_ γ m_X6_isTargetOf 2 [.ref 142, .int l1] σ Q := sp_of (pl_X6_isTargetOf) rfl (Nat.le_of_ble_eq_true rfl) (g_X6_isTargetOf_0 zw zh)
