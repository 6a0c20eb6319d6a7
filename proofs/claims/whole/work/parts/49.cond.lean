/-! conditions: the class's units in postfix order; a stack of truth values -/
section CD
def uc_ (c : Nat) (u : Int) : Bool := if u.toNat / 4 % 2 = 0 then decide (c / 2 ^ (u.toNat / 8) % 4 = u.toNat % 4) else decide (c / 2 ^ (u.toNat / 8) % 4 < u.toNat % 4)
def us_ (c : Nat) (B : List Bool) (u : Int) : List Bool :=
  if u = -1 then (match B with | b :: r => (!b) :: r | [] => [])
  else if u = -2 then (match B with | a :: b :: r => (b && a) :: r | X => X)
  else if u = -3 then (match B with | a :: b :: r => (b || a) :: r | X => X)
  else uc_ c u :: B
/-- a list of units takes a stack of d values to one of e, looking at b bits -/
def ug_ (b : Nat) : List Int → Nat → Nat → Prop
  | [], d, e => d = e
  | u :: t, d, e => (u = -1 ∧ 1 ≤ d ∧ ug_ b t d e) ∨ ((u = -2 ∨ u = -3) ∧ 2 ≤ d ∧ ug_ b t (d - 1) e) ∨ (0 ≤ u ∧ u.toNat / 8 + 2 ≤ b ∧ u.toNat / 8 % 2 = 0 ∧ ug_ b t (d + 1) e)
theorem ug_len (b : Nat) : ∀ (L : List Int) (d e : Nat), ug_ b L d e → d ≤ e + L.length ∧ e ≤ d + L.length
  | [], d, e, z => by
    have z : d = e := z
    subst z
    exact ⟨Nat.le_refl _, Nat.le_refl _⟩
  | u :: t, d, e, z => by
    rw [List.length_cons]
    rcases z with ⟨-, -, z⟩ | ⟨-, z1, z⟩ | ⟨-, -, -, z⟩
    · have y := ug_len b t _ _ z
      omega
    · have y := ug_len b t _ _ z
      omega
    · have y := ug_len b t _ _ z
      omega
theorem ug_app (b : Nat) : ∀ (L M : List Int) (d e f : Nat), ug_ b L d e → ug_ b M e f → ug_ b (L ++ M) d f
  | [], M, d, e, f, z, y => by
    have z : d = e := z
    subst z
    exact y
  | u :: t, M, d, e, f, z, y => by
    rcases z with ⟨z1, z2, z⟩ | ⟨z1, z2, z⟩ | ⟨z1, z2, z3, z⟩
    · exact Or.inl ⟨z1, z2, ug_app b t M _ _ _ z y⟩
    · exact Or.inr (Or.inl ⟨z1, z2, ug_app b t M _ _ _ z y⟩)
    · exact Or.inr (Or.inr ⟨z1, z2, z3, ug_app b t M _ _ _ z y⟩)
/-- a stack as a number, its top the lowest bit -/
def sv_ : List Bool → Nat
  | [] => 0
  | b :: r => (if b = true then 1 else 0) + 2 * sv_ r
theorem sv_lt : ∀ B : List Bool, sv_ B < 2 ^ B.length
  | [] => Nat.one_pos
  | b :: r => by
    have q := sv_lt r
    rw [sv_, List.length_cons, Nat.pow_succ]
    split <;> omega
theorem n_x1 (s : Nat) : s ^^^ 1 = s / 2 * 2 + (s + 1) % 2 := by
  have e1 : (s ^^^ 1) / 2 = s / 2 := by rw [Nat.xor_div_two]; simp
  have e2 : (s ^^^ 1) % 2 = (s + 1) % 2 := by
    have y := Nat.xor_mod_two_pow (a := s) (b := 1) (n := 1)
    rw [show (2 : Nat) ^ 1 = 2 from rfl] at y
    rw [y]
    rcases (show s % 2 = 0 ∨ s % 2 = 1 by omega) with z | z
    · rw [z]
      show (0 ^^^ 1 : Nat) = _
      rw [show (0 ^^^ 1 : Nat) = 1 from rfl]
      omega
    · rw [z]
      show (1 ^^^ 1 : Nat) = _
      rw [show (1 ^^^ 1 : Nat) = 0 from rfl]
      omega
  omega
theorem n_am2 {s : Nat} (q : s < 4294967296) : s &&& 4294967294 = s / 2 * 2 := by
  have e1 : (s &&& 4294967294) / 2 = s / 2 := by
    rw [Nat.and_div_two, show (4294967294 : Nat) / 2 = 2 ^ 31 - 1 from rfl, Nat.and_two_pow_sub_one_eq_mod, Nat.mod_eq_of_lt (by omega)]
  have e2 : (s &&& 4294967294) % 2 = 0 := by
    rw [show (2 : Nat) = 2 ^ 1 from rfl, Nat.and_mod_two_pow]
    simp
  omega
theorem n_om2 {s : Nat} (q : s < 4294967296) : s ||| 4294967294 = 4294967294 + s % 2 := by
  have e1 : (s ||| 4294967294) / 2 = 2147483647 := by
    rw [Nat.or_div_two, show (4294967294 : Nat) / 2 = 2147483647 from rfl]
    apply Nat.eq_of_testBit_eq
    intro j
    rw [Nat.testBit_or, show (2147483647 : Nat) = 2 ^ 31 - 1 from rfl, Nat.testBit_two_pow_sub_one]
    by_cases y : j < 31
    · simp [y]
    · rw [Nat.testBit_lt_two_pow (Nat.lt_of_lt_of_le (show s / 2 < 2 ^ 31 by omega) (Nat.pow_le_pow_right (by decide) (by omega)))]
      simp
  have e2 : (s ||| 4294967294) % 2 = s % 2 := by
    rw [show (2 : Nat) = 2 ^ 1 from rfl, Nat.or_mod_two_pow]
    simp
  omega
theorem n_o1 (s b : Nat) (q : b < 2) : s ||| b = s / 2 * 2 + max (s % 2) b := by
  have e1 : (s ||| b) / 2 = s / 2 := by rw [Nat.or_div_two, show b / 2 = 0 by omega, Nat.or_zero]
  have e2 : (s ||| b) % 2 = max (s % 2) b := by
    rw [show (2 : Nat) = 2 ^ 1 from rfl, Nat.or_mod_two_pow, show (2 : Nat) ^ 1 = 2 from rfl]
    have y : s % 2 < 2 := Nat.mod_lt _ (by decide)
    have key : ∀ x y : Fin 2, (x.1 ||| y.1 % 2) = max x.1 y.1 := by decide
    exact key ⟨s % 2, y⟩ ⟨b, q⟩
  omega
theorem n_a4 (s : Nat) : s &&& 4 = 4 * (s / 4 % 2) := by
  have e1 : (s &&& 4) = (s &&& 4) / 4 * 4 + (s &&& 4) % 4 := by omega
  have e2 : (s &&& 4) / 4 = s / 4 % 2 := by
    rw [show (4 : Nat) = 2 ^ 2 from rfl, Nat.and_div_two_pow, show (2 : Nat) ^ 2 / 2 ^ 2 = 1 from rfl, Nat.and_one_is_mod]
  have e3 : (s &&& 4) % 4 = 0 := by
    have y := Nat.and_mod_two_pow (a := s) (b := 4) (n := 2)
    rw [show (2 : Nat) ^ 2 = 4 from rfl] at y
    rw [y, show (4 : Nat) % 4 = 0 from rfl, Nat.and_zero]
  omega
theorem n_a3 (s : Nat) : s &&& 3 = s % 4 := Nat.and_two_pow_sub_one_eq_mod s 2
theorem n_a1 (s : Nat) : s &&& 1 = s % 2 := Nat.and_one_is_mod s
theorem i_m2 : i_ (-2) = i_ ((4294967294 : Nat) : Int) := by decide
theorem u_not {s : Nat} (q : s < 2147483648) : i_ (s : Int) ^^^ i_ 1 = i_ ((s / 2 * 2 + (s + 1) % 2 : Nat) : Int) := by
  rw [show (1 : Int) = ((1 : Nat) : Int) from rfl, i_xor (by omega) (by decide), n_x1]
theorem u_and {s : Nat} (q : s < 2147483648) : (i_ (s : Int) >>> (i_ 1 &&& i_ 31)) &&& (i_ (s : Int) ||| i_ (-2)) = i_ ((s / 4 * 2 + (s / 2 % 2) * (s % 2) : Nat) : Int) := by
  rw [show (1 : Int) = ((1 : Nat) : Int) from rfl, i_shr (by decide) q, i_m2, i_or (by omega) (by decide), n_om2 (by omega), i_and (by omega) (by omega)]
  rw [show s / 2 ^ 1 = s / 2 from rfl]
  rcases (show s % 2 = 0 ∨ s % 2 = 1 by omega) with y | y
  · rw [y, Nat.add_zero, n_am2 (by omega)]
    congr 2
    omega
  · rw [y, show (4294967294 : Nat) + 1 = 2 ^ 32 - 1 from rfl, Nat.and_two_pow_sub_one_eq_mod, Nat.mod_eq_of_lt (by omega)]
    congr 2
    omega
theorem u_or {s : Nat} (q : s < 2147483648) : (i_ (s : Int) >>> (i_ 1 &&& i_ 31)) ||| (i_ (s : Int) &&& i_ 1) = i_ ((s / 4 * 2 + max (s / 2 % 2) (s % 2) : Nat) : Int) := by
  rw [show (1 : Int) = ((1 : Nat) : Int) from rfl, i_shr (by decide) q, i_and (by omega) (by decide), n_a1, i_or (by omega) (by omega), show s / 2 ^ 1 = s / 2 from rfl, n_o1 _ _ (by omega)]
  congr 2
  omega
theorem u_psh {s b : Nat} (q : s < 1073741824) (q2 : b < 2) : (i_ (s : Int) <<< (i_ 1 &&& i_ 31)) ||| i_ (b : Int) = i_ ((b + 2 * s : Nat) : Int) := by
  rw [show (1 : Int) = ((1 : Nat) : Int) from rfl, i_shl (by decide) (by omega), i_or (by omega) (by omega), show s * 2 ^ 1 = s * 2 from rfl, n_o1 _ _ q2]
  congr 2
  omega
end CD
