/-! longs of the machine as numbers -/
section LB
theorem l_bv (n : Nat) : (lN n).toBitVec = BitVec.ofNat 64 n := rfl
theorem l_and {m k : Nat} (q1 : m < 2 ^ 64) (q2 : k < 2 ^ 64) : lN m &&& lN k = lN (m &&& k) := by
  apply Int64.toBitVec_inj.mp
  apply BitVec.eq_of_toNat_eq
  rw [Int64.toBitVec_and, l_bv, l_bv, l_bv, BitVec.toNat_and, BitVec.toNat_ofNat, BitVec.toNat_ofNat, BitVec.toNat_ofNat, Nat.mod_eq_of_lt q1, Nat.mod_eq_of_lt q2, Nat.mod_eq_of_lt (Nat.lt_of_le_of_lt Nat.and_le_left q1)]
theorem l_or {m k : Nat} (q1 : m < 2 ^ 64) (q2 : k < 2 ^ 64) : lN m ||| lN k = lN (m ||| k) := by
  apply Int64.toBitVec_inj.mp
  apply BitVec.eq_of_toNat_eq
  rw [Int64.toBitVec_or, l_bv, l_bv, l_bv, BitVec.toNat_or, BitVec.toNat_ofNat, BitVec.toNat_ofNat, BitVec.toNat_ofNat, Nat.mod_eq_of_lt q1, Nat.mod_eq_of_lt q2, Nat.mod_eq_of_lt (Nat.or_lt_two_pow q1 q2)]
theorem l_xor {m k : Nat} (q1 : m < 2 ^ 64) (q2 : k < 2 ^ 64) : lN m ^^^ lN k = lN (m ^^^ k) := by
  apply Int64.toBitVec_inj.mp
  apply BitVec.eq_of_toNat_eq
  rw [Int64.toBitVec_xor, l_bv, l_bv, l_bv, BitVec.toNat_xor, BitVec.toNat_ofNat, BitVec.toNat_ofNat, BitVec.toNat_ofNat, Nat.mod_eq_of_lt q1, Nat.mod_eq_of_lt q2, Nat.mod_eq_of_lt (Nat.xor_lt_two_pow q1 q2)]
theorem l_sh {s : Nat} (q : s < 64) : (i_ (s : Int)).toInt64 &&& 63 = lN s := by
  rw [← i_nat, show (Int32.ofNat s).toInt64 = lN s from nI_l (n := s) (by omega), show (63 : Int64) = lN 63 from rfl, l_and (by omega) (by omega)]
  rw [show s &&& 63 = s % 2 ^ 6 from Nat.and_two_pow_sub_one_eq_mod s 6, Nat.mod_eq_of_lt (by omega)]
theorem l_sm {s : Nat} (q : s < 64) : ((lN s).toBitVec.smod 64).toNat = s := by
  have z : ∀ s : Fin 64, ((BitVec.ofNat 64 s.1).smod 64).toNat = s.1 := by decide
  exact z ⟨s, q⟩
theorem l_shr {n s : Nat} (q : s < 64) (q1 : n < 2 ^ 63) : lN n >>> ((i_ (s : Int)).toInt64 &&& 63) = lN (n / 2 ^ s) := by
  rw [l_sh q]
  apply Int64.toBitVec_inj.mp
  apply BitVec.eq_of_toNat_eq
  show ((lN n).toBitVec.sshiftRight ((lN s).toBitVec.smod 64).toNat).toNat = _
  rw [l_sm q, BitVec.sshiftRight_eq_of_msb_false, BitVec.toNat_ushiftRight, l_bv, l_bv, BitVec.toNat_ofNat, BitVec.toNat_ofNat, Nat.mod_eq_of_lt (by omega), Nat.mod_eq_of_lt (Nat.lt_of_le_of_lt (Nat.div_le_self _ _) (by omega)), Nat.shiftRight_eq_div_pow]
  rw [l_bv, BitVec.msb_eq_decide, BitVec.toNat_ofNat, Nat.mod_eq_of_lt (by omega)]
  exact decide_eq_false (by omega)
theorem l_shl {n s : Nat} (q : s < 64) (q1 : n * 2 ^ s < 2 ^ 64) : lN n <<< ((i_ (s : Int)).toInt64 &&& 63) = lN (n * 2 ^ s) := by
  rw [l_sh q]
  apply Int64.toBitVec_inj.mp
  apply BitVec.eq_of_toNat_eq
  have q2 : n < 2 ^ 64 := Nat.lt_of_le_of_lt (Nat.le_mul_of_pos_right n (Nat.two_pow_pos s)) q1
  show ((lN n).toBitVec <<< ((lN s).toBitVec.smod 64)).toNat = _
  rw [BitVec.shiftLeft_eq', l_sm q, BitVec.toNat_shiftLeft, l_bv, l_bv, BitVec.toNat_ofNat, BitVec.toNat_ofNat, Nat.mod_eq_of_lt q2, Nat.shiftLeft_eq]
theorem l_lit (n : Nat) : (no_index (OfNat.ofNat n) : Int64) = lN (no_index (OfNat.ofNat n)) := rfl
theorem l_int {z : Nat} (q : z < 2 ^ 31) : (i_ (z : Int)).toInt64 = lN z := by rw [← i_nat]; exact nI_l q
theorem l_i32 (n : Nat) : (lN n).toInt32 = i_ ((n % 2 ^ 32 : Nat) : Int) := by
  rw [lN_i, ← i_nat]
  apply Int32.toBitVec_inj.mp
  apply BitVec.eq_of_toNat_eq
  show (BitVec.ofNat 32 n).toNat = (BitVec.ofNat 32 (n % 2 ^ 32)).toNat
  rw [BitVec.toNat_ofNat, BitVec.toNat_ofNat, Nat.mod_mod]
/-- a digit set: state & ~(3 << s) | v << s -/
def sd_ (n s v : Nat) : Nat := (n &&& ((3 * 2 ^ s) ^^^ (2 ^ 64 - 1))) ||| v * 2 ^ s
theorem l_m1 : (-1 : Int64) = lN (2 ^ 64 - 1) := by decide
theorem l_setd {n s v : Nat} (q : s < 60) (q1 : n < 2 ^ 63) (q2 : v < 4) : (lN n &&& ((lN 3 <<< ((i_ (s : Int)).toInt64 &&& 63)) ^^^ (-1 : Int64))) ||| ((i_ (v : Int)).toInt64 <<< ((i_ (s : Int)).toInt64 &&& 63)) = lN (sd_ n s v) := by
  have z1 : 2 ^ s ≤ 2 ^ 59 := Nat.pow_le_pow_right (by decide) (by omega)
  rw [l_int (z := v) (by omega), l_shl (by omega) (by omega), l_shl (by omega) (Nat.lt_of_lt_of_le (Nat.mul_lt_mul_of_pos_right q2 (Nat.two_pow_pos s)) (by omega)), l_m1, l_xor (by omega) (by omega), l_and (by omega) (Nat.xor_lt_two_pow (by omega) (by omega)), l_or (Nat.lt_of_le_of_lt Nat.and_le_left (by omega)) (Nat.lt_of_lt_of_le (Nat.mul_lt_mul_of_pos_right q2 (Nat.two_pow_pos s)) (by omega))]
  rfl
theorem sd_tb {n s v : Nat} (q : s < 60) (q1 : n < 2 ^ 63) (q2 : v < 4) (k : Nat) : (sd_ n s v).testBit k = if s ≤ k ∧ k < s + 2 then v.testBit (k - s) else n.testBit k := by
  unfold sd_
  rw [Nat.testBit_or, Nat.testBit_and, Nat.testBit_xor, Nat.mul_comm 3, Nat.mul_comm v, Nat.testBit_two_pow_mul, Nat.testBit_two_pow_mul]
  rw [show (2 : Nat) ^ 64 - 1 = 2 ^ 64 - 1 from rfl, Nat.testBit_two_pow_sub_one]
  by_cases z1 : k < s
  · have z2 : ¬ k ≥ s := by omega
    rw [if_neg (show ¬ (s ≤ k ∧ k < s + 2) by omega)]
    simp [z2, show k < 64 by omega]
  · have z2 : k ≥ s := by omega
    by_cases z3 : k < s + 2
    · rw [if_pos (show s ≤ k ∧ k < s + 2 by omega)]
      have z4 : (3 : Nat).testBit (k - s) = true := by
        have z5 : k - s = 0 ∨ k - s = 1 := by omega
        rcases z5 with e | e <;> rw [e] <;> rfl
      simp [z2, z4, show k < 64 by omega]
    · rw [if_neg (show ¬ (s ≤ k ∧ k < s + 2) by omega)]
      have z4 : (3 : Nat).testBit (k - s) = false := Nat.testBit_lt_two_pow (Nat.lt_of_lt_of_le (by decide : 3 < 2 ^ 2) (Nat.pow_le_pow_right (by decide) (by omega)))
      have z5 : v.testBit (k - s) = false := Nat.testBit_lt_two_pow (Nat.lt_of_lt_of_le (show v < 2 ^ 2 from q2) (Nat.pow_le_pow_right (by decide) (by omega)))
      by_cases z6 : k < 64
      · simp [z2, z4, z5, z6]
      · have z7 : n.testBit k = false := Nat.testBit_lt_two_pow (Nat.lt_of_lt_of_le q1 (Nat.pow_le_pow_right (by decide) (by omega)))
        simp [z4, z5, z7]
/-- one more in a field that has room -/
theorem ad_tb {n q w x : Nat} (h1 : n / 2 ^ q % 2 ^ w = x) (h2 : x + 1 < 2 ^ w) (k : Nat) : (n + 2 ^ q).testBit k = if q ≤ k ∧ k < q + w then (x + 1).testBit (k - q) else n.testBit k := by
  have e1 : n = 2 ^ q * (2 ^ w * (n / 2 ^ q / 2 ^ w) + x) + n % 2 ^ q := by
    have z1 := Nat.div_add_mod n (2 ^ q)
    have z2 := Nat.div_add_mod (n / 2 ^ q) (2 ^ w)
    rw [h1] at z2
    rw [z2, z1]
  have e2 : n + 2 ^ q = 2 ^ q * (2 ^ w * (n / 2 ^ q / 2 ^ w) + (x + 1)) + n % 2 ^ q := by
    have z3 : 2 ^ q * (2 ^ w * (n / 2 ^ q / 2 ^ w) + (x + 1)) = 2 ^ q * (2 ^ w * (n / 2 ^ q / 2 ^ w) + x) + 2 ^ q := by
      rw [← Nat.add_assoc, Nat.mul_add _ _ 1, Nat.mul_one]
    omega
  have h3 := Nat.mod_lt n (Nat.two_pow_pos q)
  generalize hC : n / 2 ^ q / 2 ^ w = C at e1 e2
  generalize hA : n % 2 ^ q = A at e1 e2 h3
  rw [e2, Nat.testBit_two_pow_mul_add _ h3]
  by_cases z1 : k < q
  · rw [if_pos z1, if_neg (by omega), e1, Nat.testBit_two_pow_mul_add _ h3, if_pos z1]
  · rw [if_neg z1, Nat.testBit_two_pow_mul_add _ h2]
    by_cases z2 : k - q < w
    · rw [if_pos z2, if_pos (by omega)]
    · rw [if_neg z2, if_neg (by omega), e1, Nat.testBit_two_pow_mul_add _ h3, if_neg z1, Nat.testBit_two_pow_mul_add _ (by omega : x < 2 ^ w), if_neg z2]
end LB
