/-! constant strings: their lengths and characters -/
section ST
variable {γ : ga_T} {σ : st_T}
def kb_ (a : Nat) : List Int32 := (sc_q a).2.2.2
def kx_ (x : Int32) : Int32 := ((((x &&& (255 : Int32)).toUInt32 % 65536).toInt32))
theorem kb_len : ∀ a : Nat, a < 46 → (kb_ a).length < 100 := by decide +kernel
theorem kb_all : ∀ a : Nat, a < 46 → (kb_ a).all (fun x => decide (kx_ x = x) && decide (narrow .char (.int x) = .int x)) = true := by decide +kernel
theorem kb_at {a k : Nat} (h : a < 46) (hk : k < (kb_ a).length) : kx_ ((kb_ a).getD k 0) = (kb_ a).getD k 0 ∧ narrow .char (.int ((kb_ a).getD k 0)) = .int ((kb_ a).getD k 0) := by
  have y := List.all_eq_true.mp (kb_all a h) ((kb_ a)[k]) (List.getElem_mem hk)
  rw [Bool.and_eq_true, decide_eq_true_eq, decide_eq_true_eq] at y
  rw [List.getD_eq_getElem?_getD, List.getElem?_eq_getElem hk]
  exact y
theorem c_strlen (zw : Wd σ) {a : Nat} (h : a < 46) : fn_ γ m_J0_length_8abf5 1 [.ref (30 + a)] σ (.int (i_ ((kb_ a).length : Int))) σ := fn_q (fun Q zQ => e_J0_length_8abf5 zw (by
  unfold p_J0_length_8abf5_0
  refine ⟨h, h, h, _, σ, zw, fn_q (fun Q2 zQ2 => e_J0_coder_7d493 zw ⟨h, zQ2⟩), ?_⟩
  have e : (Int32.ofNat (sc_q a).2.2.2.length >>> ((0 : Int32) &&& 31)) = i_ ((kb_ a).length : Int) := by
    rw [i_nat, i_lit 0, i_lit 31]
    have y := i_shr (m := (kb_ a).length) (s := 0) (by decide) (Nat.lt_trans (kb_len a h) (by decide))
    rw [Nat.pow_zero, Nat.div_one] at y
    exact y
  rw [e]
  exact zQ))
theorem c_check (zw : Wd σ) {k n : Nat} (h : k < n) (hn : n < 2147483648) : fw_ γ m_J0_checkIndex_df160 9 [.int (i_ (k : Int)), .int (i_ (n : Int))] σ σ := fw_q (fun Q zQ => e_J0_checkIndex_df160 zw (by
  unfold p_J0_checkIndex_df160_0
  refine ⟨i_ (k : Int), σ, zw, fn_q (fun Q2 zQ2 => e_J3_checkIndex_8e157 zw ?_), zQ⟩
  unfold p_J3_checkIndex_8e157_0
  simp (disch := omega) only [i_lit, i_lt]
  exact ⟨fun z => by omega, fun _ => ⟨fun _ => zQ2, fun z => by omega⟩⟩))
theorem c_charAt1 (zw : Wd σ) {a k : Nat} (h : a < 46) (hk : k < (kb_ a).length) : fn_ γ m_J1_charAt_3b067 10 [.ref (80 + a), .int (i_ (k : Int))] σ (.int ((kb_ a).getD k 0)) σ := fn_q (fun Q zQ => sp_of (pl_J1_charAt_3b067) rfl (Nat.le_of_ble_eq_true rfl) (by
  have yl := kb_len a h
  have yx := kb_at h hk
  refine vr_iload_n dJ1_charAt_3b067_0 rfl rfl ?_
  refine vr_aload_n dJ1_charAt_3b067_1 rfl rfl ?_
  refine vr_strlen dJ1_charAt_3b067_2 h rfl ?_
  have y := c_check (γ := γ) zw hk (by omega)
  refine vc_S (As := [.int (i_ (k : Int)), .int (Int32.ofNat (sc_q a).2.2.2.length)]) (rest := []) dJ1_charAt_3b067_3 cS_java_lang_StringLatin1_9 rfl rfl (Nat.le_of_ble_eq_true rfl) (Nat.le_of_ble_eq_true rfl) (co_v (by rw [i_nat]; exact y) ?_)
  refine vr_aload_n dJ1_charAt_3b067_6 rfl rfl ?_
  refine vr_iload_n dJ1_charAt_3b067_7 rfl rfl ?_
  refine vr_strbyte dJ1_charAt_3b067_8 h (i_in (by omega) (by have y : (sc_q a).2.2.2.length = (kb_ a).length := rfl; omega) (by omega)) ?_
  refine vr_sipush dJ1_charAt_3b067_9 (v := (255 : Int32)) (by decide) ?_
  refine vr_iand dJ1_charAt_3b067_12 ?_
  refine vr_i2c dJ1_charAt_3b067_13 ?_
  have e : ((((sc_q a).2.2.2.getD (i_ (k : Int)).toNatClampNeg 0 &&& (255 : Int32)).toUInt32 % 65536).toInt32) = (kb_ a).getD k 0 := by
    rw [i_cl (by omega), Int.toNat_natCast]
    exact yx.1
  rw [e]
  exact vr_nret dJ1_charAt_3b067_14 rfl yx.2 zQ))
theorem c_charAt (zw : Wd σ) {a k : Nat} (h : a < 46) (hk : k < (kb_ a).length) : fn_ γ m_J0_charAt_5068e 12 [.ref (30 + a), .int (i_ (k : Int))] σ (.int ((kb_ a).getD k 0)) σ := fn_q (fun Q zQ => e_J0_charAt_5068e zw (by
  unfold p_J0_charAt_5068e_0
  refine ⟨h, _, σ, zw, fn_q (fun Q2 zQ2 => e_J0_isLatin1_aae02 zw ⟨h, zQ2⟩), fun z => absurd z (by decide), fun _ => ⟨h, _, σ, zw, c_charAt1 zw h hk, (kb_at h hk).2, zQ⟩⟩))
end ST
