def p_J7_fill_53178_0 (γ : ga_T) (l0 : Nat) (l1 : Int32) (σ : st_T) (Q : rs_T → st_T → Prop) : Prop :=
  ∃ n1, st_S σ l0 = (21, n1) ∧
  vv_ γ m_J7_fill_53178 0 5 [(0, .ref l0), (1, .int l1), (2, .int (0 : Int32)), (3, .int (Int32.ofNat n1))] [] σ Q
set_option maxRecDepth 10000 in
theorem g_J7_fill_53178_0 {γ : ga_T} {l0 : Nat} {l1 : Int32} {σ : st_T} {Q : rs_T → st_T → Prop} (zh : p_J7_fill_53178_0 γ l0 l1 σ Q) : vv_ γ m_J7_fill_53178 0 0 [(0, .ref l0), (1, .int l1)] [] σ Q := by
  unfold p_J7_fill_53178_0 at zh
  refine vr_iconst dJ7_fill_53178_0 (v := (0 : Int32)) (by decide) ?_
  refine vr_istore_n dJ7_fill_53178_1 rfl (Nat.le_of_ble_eq_true rfl) (vv_eq (ls' := [(0, .ref l0), (1, .int l1), (2, .int (0 : Int32))]) rfl ?_)
  refine vr_aload_n dJ7_fill_53178_2 rfl rfl ?_
  obtain ⟨n1, zs_2, zh⟩ := zh
  refine vr_alen dJ7_fill_53178_3 zs_2 (Nat.le_of_ble_eq_true rfl) (Nat.le_of_ble_eq_true rfl) (v := (Int32.ofNat n1)) rfl ?_
  refine vr_istore_n dJ7_fill_53178_4 rfl (Nat.le_of_ble_eq_true rfl) (vv_eq (ls' := [(0, .ref l0), (1, .int l1), (2, .int (0 : Int32)), (3, .int (Int32.ofNat n1))]) rfl ?_)
  exact vv_sub (ls' := [(0, .ref l0), (1, .int l1), (2, .int (0 : Int32)), (3, .int (Int32.ofNat n1))]) ⟨rfl, rfl, rfl, rfl, trivial⟩ zh
theorem e_J7_fill_53178 {γ : ga_T} {l0 : Nat} {l1 : Int32} {σ : st_T} {Q : rs_T → st_T → Prop} (zh : p_J7_fill_53178_0 γ l0 l1 σ Q) : sp_ γ m_J7_fill_53178 0 [.ref l0, .int l1] σ Q := sp_of (pl_J7_fill_53178) rfl (Nat.le_of_ble_eq_true rfl) (g_J7_fill_53178_0 zh)
def p_J7_fill_53178_5 (γ : ga_T) (l0 : Nat) (l1 : Int32) (l2 : Int32) (l3 : Int32) (σ : st_T) (Q : rs_T → st_T → Prop) : Prop :=
  (l3 ≤ l2 →
    Q (.inl none) σ
  ) ∧ (¬ l3 ≤ l2 →
    ∃ n2, st_S σ l0 = (21, n2) ∧
    vp_in l2 n2 ∧
    vv_ γ m_J7_fill_53178 0 5 [(0, .ref l0), (1, .int l1), (2, .int (l2 + 1)), (3, .int l3)] [] (pt_I σ l0 l2.toNatClampNeg l1) Q
  )
set_option maxRecDepth 10000 in
theorem g_J7_fill_53178_5 {γ : ga_T} {l0 : Nat} {l1 : Int32} {l2 : Int32} {l3 : Int32} {σ : st_T} {Q : rs_T → st_T → Prop} (zh : p_J7_fill_53178_5 γ l0 l1 l2 l3 σ Q) : vv_ γ m_J7_fill_53178 0 5 [(0, .ref l0), (1, .int l1), (2, .int l2), (3, .int l3)] [] σ Q := by
  unfold p_J7_fill_53178_5 at zh
  refine vr_iload_n dJ7_fill_53178_5 rfl rfl ?_
  refine vr_iload_n dJ7_fill_53178_6 rfl rfl ?_
  refine vr_ic_ge dJ7_fill_53178_7 (tgt := 20) rfl (fun zd_1 => ?_) (fun zd_1 => ?_)
  · replace zh := zh.1 zd_1
    exact vr_vret dJ7_fill_53178_20 rfl zh
  · replace zh := zh.2 zd_1
    refine vr_aload_n dJ7_fill_53178_10 rfl rfl ?_
    refine vr_iload_n dJ7_fill_53178_11 rfl rfl ?_
    refine vr_iload_n dJ7_fill_53178_12 rfl rfl ?_
    obtain ⟨n2, zs_3, zh⟩ := zh
    obtain ⟨zi_4, zh⟩ := zh
    refine vr_iastore dJ7_fill_53178_13 zs_3 zi_4 ?_
    refine vr_iinc dJ7_fill_53178_14 (x := l2) (v := (l2 + 1)) rfl (ii_ (by decide)) (Nat.le_of_ble_eq_true rfl) (vv_eq (ls' := [(0, .ref l0), (1, .int l1), (2, .int (l2 + 1)), (3, .int l3)]) rfl ?_)
    refine vr_goto dJ7_fill_53178_17 (tgt := 5) rfl ?_
    exact vv_sub (ls' := [(0, .ref l0), (1, .int l1), (2, .int (l2 + 1)), (3, .int l3)]) ⟨rfl, rfl, rfl, rfl, trivial⟩ zh
def p_J7_copyOf_c38d5_0 (γ : ga_T) (l0 : Nat) (l1 : Int32) (σ : st_T) (Q : rs_T → st_T → Prop) : Prop :=
  ∃ n1, st_S σ l0 = (22, n1) ∧
  (l1 = (Int32.ofNat n1) →
    False
  ) ∧ (¬ l1 = (Int32.ofNat n1) →
    ¬ l1 < 0 ∧ ∃ N6, l1.toNatClampNeg = N6 ∧ N6 * 8 ≤ 536870912 ∧
    ∃ n10, st_S (pt_N σ 22 N6 N6) l0 = (22, n10) ∧
    ¬ (if l1 < (Int32.ofNat n10) then l1 else (Int32.ofNat n10)) < 0 ∧
    0 + (if l1 < (Int32.ofNat n10) then l1 else (Int32.ofNat n10)).toNatClampNeg ≤ n10 ∧
    0 + (if l1 < (Int32.ofNat n10) then l1 else (Int32.ofNat n10)).toNatClampNeg ≤ N6 ∧
    Q (.inl (some (.ref (st_n σ)))) (pt_V (pt_N σ 22 N6 N6) (st_n σ) (va_cpy (st_L (pt_N σ 22 N6 N6) l0) (st_L (pt_N σ 22 N6 N6) (st_n σ)) 0 0 (if l1 < (Int32.ofNat n10) then l1 else (Int32.ofNat n10)).toNatClampNeg))
  )
set_option maxRecDepth 10000 in
theorem g_J7_copyOf_c38d5_0 {γ : ga_T} {l0 : Nat} {l1 : Int32} {σ : st_T} {Q : rs_T → st_T → Prop} (zh : p_J7_copyOf_c38d5_0 γ l0 l1 σ Q) : vv_ γ m_J7_copyOf_c38d5 1 0 [(0, .ref l0), (1, .int l1)] [] σ Q := by
  unfold p_J7_copyOf_c38d5_0 at zh
  refine vr_iload_n dJ7_copyOf_c38d5_0 rfl rfl ?_
  refine vr_aload_n dJ7_copyOf_c38d5_1 rfl rfl ?_
  obtain ⟨n1, zs_2, zh⟩ := zh
  refine vr_alen dJ7_copyOf_c38d5_2 zs_2 (Nat.le_of_ble_eq_true rfl) (Nat.le_of_ble_eq_true rfl) (v := (Int32.ofNat n1)) rfl ?_
  refine vr_ic_ne dJ7_copyOf_c38d5_3 (tgt := 14) rfl (fun zd_3 => ?_) (fun zd_3 => ?_)
  · replace zh := zh.2 zd_3
    refine vr_iload_n dJ7_copyOf_c38d5_14 rfl rfl ?_
    obtain ⟨zn_4, N6, zN_7, zb_5, zh⟩ := zh
    refine vr_newJ dJ7_copyOf_c38d5_15 tw_214 zn_4 zN_7 zb_5 ?_
    refine vr_astore_n dJ7_copyOf_c38d5_17 rfl (Nat.le_of_ble_eq_true rfl) (vv_eq (ls' := [(0, .ref l0), (1, .int l1), (2, .ref (st_n σ))]) rfl ?_)
    refine vr_aload_n dJ7_copyOf_c38d5_18 rfl rfl ?_
    refine vr_iconst dJ7_copyOf_c38d5_19 (v := (0 : Int32)) (by decide) ?_
    refine vr_aload_n dJ7_copyOf_c38d5_20 rfl rfl ?_
    refine vr_iconst dJ7_copyOf_c38d5_21 (v := (0 : Int32)) (by decide) ?_
    refine vr_aload_n dJ7_copyOf_c38d5_22 rfl rfl ?_
    obtain ⟨n10, zs_11, zh⟩ := zh
    refine vr_alen dJ7_copyOf_c38d5_23 zs_11 (Nat.le_of_ble_eq_true rfl) (Nat.le_of_ble_eq_true rfl) (v := (Int32.ofNat n10)) rfl ?_
    refine vr_iload_n dJ7_copyOf_c38d5_24 rfl rfl ?_
    refine vr_mmin dJ7_copyOf_c38d5_25 mm_java_util_Arrays_304 (Nat.le_of_ble_eq_true rfl) (Nat.le_of_ble_eq_true rfl) ?_
    obtain ⟨zy_12, zh⟩ := zh
    obtain ⟨zy_13, zh⟩ := zh
    obtain ⟨zy_14, zh⟩ := zh
    refine vr_copyL dJ7_copyOf_c38d5_28 ay_java_util_Arrays_150 zs_11 (pN_S (σ := σ)) (by decide) (by decide) zy_12 zy_13 zy_14 (Nat.le_of_ble_eq_true rfl) (Nat.le_of_ble_eq_true rfl) ?_
    refine vv_so (σ2 := (pt_V (pt_N σ 22 N6 N6) (st_n σ) (va_cpy (st_L (pt_N σ 22 N6 N6) l0) (st_L (pt_N σ 22 N6 N6) (st_n σ)) 0 0 (if l1 < (Int32.ofNat n10) then l1 else (Int32.ofNat n10)).toNatClampNeg))) rfl ?_
    refine vr_aload_n dJ7_copyOf_c38d5_31 rfl rfl ?_
    exact vr_aret dJ7_copyOf_c38d5_32 rfl (Or.inr ⟨_, rfl⟩) zh
  · replace zh := zh.1 zd_3
    refine vr_aload_n dJ7_copyOf_c38d5_6 rfl rfl ?_
    exact zh.elim
theorem e_J7_copyOf_c38d5 {γ : ga_T} {l0 : Nat} {l1 : Int32} {σ : st_T} {Q : rs_T → st_T → Prop} (zh : p_J7_copyOf_c38d5_0 γ l0 l1 σ Q) : sp_ γ m_J7_copyOf_c38d5 1 [.ref l0, .int l1] σ Q := sp_of (pl_J7_copyOf_c38d5) rfl (Nat.le_of_ble_eq_true rfl) (g_J7_copyOf_c38d5_0 zh)
