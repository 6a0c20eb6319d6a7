/-! ints of the machine as integers -/
section IN
def i_ (z : Int) : Int32 := Int32.ofInt z
theorem i_lit (n : Nat) : (no_index (OfNat.ofNat n) : Int32) = i_ (no_index (OfNat.ofNat n)) := Int32.ofInt_eq_ofNat.symm
theorem i_nat (n : Nat) : Int32.ofNat n = i_ n := Int32.ofInt_eq_ofNat.symm
theorem i_add (a b : Int) : i_ a + i_ b = i_ (a + b) := (Int32.ofInt_add a b).symm
theorem i_sub (a b : Int) : i_ a - i_ b = i_ (a - b) := (Int32.ofInt_sub a b).symm
theorem i_mul (a b : Int) : i_ a * i_ b = i_ (a * b) := (Int32.ofInt_mul a b).symm
theorem i_neg (a : Int) : -i_ a = i_ (-a) := Int32.neg_ofInt
theorem i_to {a : Int} (q1 : -2147483648 ≤ a) (q2 : a < 2147483648) : (i_ a).toInt = a := Int32.toInt_ofInt_of_le q1 q2
theorem i_of (x : Int32) : x = i_ x.toInt := (Int32.ofInt_toInt x).symm
theorem i_rng (x : Int32) : -2147483648 ≤ x.toInt ∧ x.toInt < 2147483648 := ⟨Int32.le_toInt x, Int32.toInt_lt x⟩
theorem i_ex (x : Int32) : ∃ z : Int, x = i_ z ∧ -2147483648 ≤ z ∧ z < 2147483648 := ⟨x.toInt, i_of x, i_rng x⟩
theorem i_lt {a b : Int} (q1 : -2147483648 ≤ a ∧ a < 2147483648) (q2 : -2147483648 ≤ b ∧ b < 2147483648) : (i_ a < i_ b) = (a < b) := by
  rw [Int32.lt_iff_toInt_lt, i_to q1.1 q1.2, i_to q2.1 q2.2]
theorem i_le {a b : Int} (q1 : -2147483648 ≤ a ∧ a < 2147483648) (q2 : -2147483648 ≤ b ∧ b < 2147483648) : (i_ a ≤ i_ b) = (a ≤ b) := by
  rw [Int32.le_iff_toInt_le, i_to q1.1 q1.2, i_to q2.1 q2.2]
theorem i_eq {a b : Int} (q1 : -2147483648 ≤ a ∧ a < 2147483648) (q2 : -2147483648 ≤ b ∧ b < 2147483648) : (i_ a = i_ b) = (a = b) := by
  rw [← Int32.toInt_inj, i_to q1.1 q1.2, i_to q2.1 q2.2]
theorem i_cl {a : Int} (q1 : -2147483648 ≤ a ∧ a < 2147483648) : (i_ a).toNatClampNeg = a.toNat := by
  rw [← Int32.toNat_toInt, i_to q1.1 q1.2]
theorem i_in {a : Int} {n : Nat} (q1 : 0 ≤ a) (q2 : a < n) (q3 : a < 2147483648) : vp_in (i_ a) n := by
  rw [vp_in_iff, i_to (by omega) q3]
  exact ⟨q1, q2⟩
theorem i_in_iff {a : Int} {n : Nat} (q1 : -2147483648 ≤ a ∧ a < 2147483648) : vp_in (i_ a) n = (0 ≤ a ∧ a < n) := by
  rw [vp_in_iff, i_to q1.1 q1.2]
end IN
section IB
theorem i_bv (m : Nat) : (i_ (m : Int)).toBitVec = BitVec.ofNat 32 m := by
  show (Int32.ofInt (m : Int)).toBitVec = _
  rw [Int32.ofInt_eq_ofNat]
  rfl
theorem i_and {m k : Nat} (q1 : m < 2 ^ 32) (q2 : k < 2 ^ 32) : i_ (m : Int) &&& i_ (k : Int) = i_ ((m &&& k : Nat) : Int) := by
  apply Int32.toBitVec_inj.mp
  apply BitVec.eq_of_toNat_eq
  rw [Int32.toBitVec_and, i_bv, i_bv, i_bv, BitVec.toNat_and, BitVec.toNat_ofNat, BitVec.toNat_ofNat, BitVec.toNat_ofNat, Nat.mod_eq_of_lt q1, Nat.mod_eq_of_lt q2, Nat.mod_eq_of_lt (Nat.lt_of_le_of_lt Nat.and_le_left q1)]
theorem i_or {m k : Nat} (q1 : m < 2 ^ 32) (q2 : k < 2 ^ 32) : i_ (m : Int) ||| i_ (k : Int) = i_ ((m ||| k : Nat) : Int) := by
  apply Int32.toBitVec_inj.mp
  apply BitVec.eq_of_toNat_eq
  rw [Int32.toBitVec_or, i_bv, i_bv, i_bv, BitVec.toNat_or, BitVec.toNat_ofNat, BitVec.toNat_ofNat, BitVec.toNat_ofNat, Nat.mod_eq_of_lt q1, Nat.mod_eq_of_lt q2, Nat.mod_eq_of_lt (Nat.or_lt_two_pow q1 q2)]
theorem i_xor {m k : Nat} (q1 : m < 2 ^ 32) (q2 : k < 2 ^ 32) : i_ (m : Int) ^^^ i_ (k : Int) = i_ ((m ^^^ k : Nat) : Int) := by
  apply Int32.toBitVec_inj.mp
  apply BitVec.eq_of_toNat_eq
  rw [Int32.toBitVec_xor, i_bv, i_bv, i_bv, BitVec.toNat_xor, BitVec.toNat_ofNat, BitVec.toNat_ofNat, BitVec.toNat_ofNat, Nat.mod_eq_of_lt q1, Nat.mod_eq_of_lt q2, Nat.mod_eq_of_lt (Nat.xor_lt_two_pow q1 q2)]
theorem i_sm {s : Nat} (q : s < 32) : ((i_ (s : Int)).toBitVec.smod 32).toNat = s := by
  rw [i_bv]
  have z : ∀ s : Fin 32, ((BitVec.ofNat 32 s.1).smod 32).toNat = s.1 := by decide
  exact z ⟨s, q⟩
theorem i_31 {s : Nat} (q : s < 32) : i_ (s : Int) &&& i_ 31 = i_ (s : Int) := by
  rw [show (31 : Int) = ((31 : Nat) : Int) from rfl, i_and (by omega) (by decide)]
  rw [show s &&& 31 = s % 2 ^ 5 from Nat.and_two_pow_sub_one_eq_mod s 5, Nat.mod_eq_of_lt (by omega)]
theorem i_shl {m s : Nat} (q : s < 32) (q1 : m * 2 ^ s < 2 ^ 32) : i_ (m : Int) <<< (i_ (s : Int) &&& i_ 31) = i_ ((m * 2 ^ s : Nat) : Int) := by
  rw [i_31 q, ← i_nat, ← i_nat]
  exact pk_shlN _ s (by rw [i_nat]; exact i_sm q) q1
theorem i_shrI {z : Int} {s : Nat} (q : s < 32) (q1 : -2147483648 ≤ z ∧ z < 2147483648) : i_ z >>> (i_ (s : Int) &&& i_ 31) = i_ (z >>> s) := by
  rw [i_31 q]
  apply Int32.toInt_inj.mp
  rw [pk_shr _ _ s (i_sm q), i_to q1.1 q1.2]
  have e1 : -2147483648 ≤ z >>> s ∧ z >>> s < 2147483648 := by
    rw [Int.shiftRight_eq_div_pow]
    have h3 : (0 : Int) < ((2 ^ s : Nat) : Int) := by exact_mod_cast Nat.two_pow_pos s
    constructor
    · apply (Int.le_ediv_iff_mul_le h3).mpr
      have h4 : (1 : Int) ≤ ((2 ^ s : Nat) : Int) := h3
      have h5 := Int.mul_le_mul_of_nonneg_left h4 (show (0 : Int) ≤ 2147483648 by decide)
      omega
    · apply (Int.ediv_lt_iff_lt_mul h3).mpr
      have h4 : (1 : Int) ≤ ((2 ^ s : Nat) : Int) := h3
      have h5 := Int.mul_le_mul_of_nonneg_left h4 (show (0 : Int) ≤ 2147483648 by decide)
      omega
  rw [i_to e1.1 e1.2]
theorem i_shr {m s : Nat} (q : s < 32) (q1 : m < 2 ^ 31) : i_ (m : Int) >>> (i_ (s : Int) &&& i_ 31) = i_ ((m / 2 ^ s : Nat) : Int) := by
  rw [i_shrI q (by omega), Int.shiftRight_eq_div_pow]
  rfl
/-- masks -/
def bm_ (f : Nat → Bool) : Nat → Nat
  | 0 => 0
  | n + 1 => bm_ f n + (if f n = true then 2 ^ n else 0)
theorem bm_lt (f : Nat → Bool) : ∀ n, bm_ f n < 2 ^ n
  | 0 => Nat.one_pos
  | n + 1 => by
    have q := bm_lt f n
    unfold bm_
    split <;> rw [Nat.pow_succ] <;> omega
theorem bm_tb (f : Nat → Bool) (j : Nat) : ∀ n, (bm_ f n).testBit j = (decide (j < n) && f j)
  | 0 => by simp [bm_]
  | n + 1 => by
    have q := bm_tb f j n
    have q2 := bm_lt f n
    unfold bm_
    by_cases z1 : f n = true
    · rw [if_pos z1, Nat.add_comm]
      by_cases z2 : j = n
      · subst z2
        rw [Nat.testBit_two_pow_add_eq, Nat.testBit_lt_two_pow q2]
        simp [z1]
      · by_cases z3 : j < n
        · rw [Nat.testBit_two_pow_add_gt z3, q]
          simp [z3, Nat.lt_succ_of_lt z3]
        · have z4 : ¬ j < n + 1 := by omega
          have q3 : 2 ^ n + bm_ f n < 2 ^ (n + 1) := by rw [Nat.pow_succ]; omega
          rw [Nat.testBit_lt_two_pow (Nat.lt_of_lt_of_le q3 (Nat.pow_le_pow_right (by decide) (by omega)))]
          simp [z4]
    · rw [if_neg z1, Nat.add_zero, q]
      by_cases z2 : j = n
      · subst z2
        simp [z1]
      · by_cases z3 : j < n
        · simp [z3, Nat.lt_succ_of_lt z3]
        · have z4 : ¬ j < n + 1 := by omega
          simp [z3, z4]
theorem bm_or (f : Nat → Bool) {i n : Nat} (q : i < n) : bm_ f n ||| 2 ^ i = bm_ (fun j => f j || decide (j = i)) n := by
  apply Nat.eq_of_testBit_eq
  intro j
  rw [Nat.testBit_or, bm_tb, bm_tb, Nat.testBit_two_pow]
  by_cases z : i = j
  · subst z
    simp [q]
  · have z2 : ¬ j = i := fun e => z e.symm
    simp [z, z2]
theorem bm_cg {f g : Nat → Bool} : ∀ {n : Nat}, (∀ j, j < n → f j = g j) → bm_ f n = bm_ g n
  | 0, _ => rfl
  | n + 1, q => by
    unfold bm_
    rw [bm_cg (fun j zj => q j (Nat.lt_succ_of_lt zj)), q n (Nat.lt_succ_self n)]
/-- counts, first places -/
def ct_ (f : Nat → Bool) : Nat → Nat
  | 0 => 0
  | n + 1 => ct_ f n + (if f n = true then 1 else 0)
theorem ct_le (f : Nat → Bool) : ∀ n, ct_ f n ≤ n
  | 0 => Nat.le_refl _
  | n + 1 => by
    have q := ct_le f n
    unfold ct_
    split <;> omega
def an_ (f : Nat → Bool) : Nat → Bool
  | 0 => false
  | n + 1 => an_ f n || f n
theorem an_iff (f : Nat → Bool) : ∀ n, an_ f n = true ↔ ∃ j, j < n ∧ f j = true
  | 0 => by
    constructor
    · intro z; cases z
    · rintro ⟨j, z, _⟩; exact absurd z (Nat.not_lt_zero j)
  | n + 1 => by
    unfold an_
    rw [Bool.or_eq_true, an_iff f n]
    constructor
    · rintro (⟨j, z1, z2⟩ | z)
      · exact ⟨j, by omega, z2⟩
      · exact ⟨n, by omega, z⟩
    · rintro ⟨j, z1, z2⟩
      by_cases z : j = n
      · exact Or.inr (z ▸ z2)
      · exact Or.inl ⟨j, by omega, z2⟩
theorem ct_cg {f g : Nat → Bool} : ∀ {n : Nat}, (∀ j, j < n → f j = g j) → ct_ f n = ct_ g n
  | 0, _ => rfl
  | n + 1, q => by
    unfold ct_
    rw [ct_cg (fun j zj => q j (Nat.lt_succ_of_lt zj)), q n (Nat.lt_succ_self n)]
end IB
section FQ
variable {γ : ga_T} {μ : mr_T} {d : Nat} {as : List Value} {σ σ1 : st_T}
theorem fn_q {v : Value} (q : ∀ Q : rs_T → st_T → Prop, Q (.inl (some v)) σ1 → sp_ γ μ d as σ Q) : fn_ γ μ d as σ v σ1 := q _ ⟨rfl, rfl⟩
theorem fw_q (q : ∀ Q : rs_T → st_T → Prop, Q (.inl none) σ1 → sp_ γ μ d as σ Q) : fw_ γ μ d as σ σ1 := q _ ⟨rfl, rfl⟩
theorem ft_q {E : String} (q : ∀ Q : rs_T → st_T → Prop, Q (.inr E) σ1 → sp_ γ μ d as σ Q) : ft_ γ μ d as σ E σ1 := q _ ⟨rfl, rfl⟩
theorem qi_ {Q : rs_T → st_T → Prop} {x y : Int} (q : Q (.inl (some (.int (i_ x)))) σ) (e : x = y) : Q (.inl (some (.int (i_ y)))) σ := e ▸ q
theorem qv_ {Q : rs_T → st_T → Prop} {x y : Int32} (q : Q (.inl (some (.int x))) σ) (e : x = y) : Q (.inl (some (.int y))) σ := e ▸ q
end FQ
/-! an abstract program: its instructions, threads, locations, initial values, properties -/
abbrev pr_T : Type := Nat × Nat × Nat × (Nat → Int) × (Nat → Nat → Int)
def pN_ (p : pr_T) : Nat := p.1
def pT_ (p : pr_T) : Nat := p.2.1
def pL_ (p : pr_T) : Nat := p.2.2.1
def pI_ (p : pr_T) : Nat → Int := p.2.2.2.1
def pC_ (p : pr_T) : Nat → Nat → Int := p.2.2.2.2
/-- a property of an instruction, -1 where there is none -/
def pp_ (p : pr_T) (z k : Int) : Int := if 0 ≤ z ∧ z < pN_ p ∧ 0 ≤ k ∧ k < 6 then pC_ p z.toNat k.toNat else -1
def Bp_ (p : pr_T) : Prop := pN_ p ≤ 10 ∧ pT_ p ≤ 4 ∧ pL_ p ≤ 3 ∧ (∀ l, 0 ≤ pI_ p l ∧ pI_ p l ≤ 3) ∧ ∀ i k, -1 ≤ pC_ p i k ∧ pC_ p i k ≤ 3
theorem pp_rng {p : pr_T} (zb : Bp_ p) (z k : Int) : -1 ≤ pp_ p z k ∧ pp_ p z k ≤ 3 := by
  unfold pp_
  split
  · exact zb.2.2.2.2 _ _
  · omega
/-- the class holds it at the object a -/
def Rp_ (σ : st_T) (a : Nat) (p : pr_T) : Prop := Bp_ p ∧ st_I σ a 6 = i_ (pN_ p) ∧ st_I σ a 5 = i_ (pT_ p) ∧ st_I σ a 4 = i_ (pL_ p) ∧
  (∀ l, l < pL_ p → st_I σ (a + 2) l = i_ (pI_ p l)) ∧ ∀ i k, i < pN_ p → k < 6 → st_I σ (a + 3) (6 * i + k) = i_ (pC_ p i k)
