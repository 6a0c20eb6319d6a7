/-! the class's machine, prepared for a program, a model and a set of waiting items -/
def Mc_ (σ : st_T) (p : pr_T) (m : Nat) (F : Nat → Bool) : Prop := m < 3 ∧ st_I σ 153 11 = i_ m ∧ st_I σ 153 12 = i_ (bm_ F 10) ∧
  (∀ i, i < pN_ p → st_I σ 154 i = i_ (pC_ p i 1) ∧ st_I σ 155 i = i_ (pC_ p i 2) ∧ st_I σ 156 i = i_ (2 * ((pL_ p : Int) - 1 - pC_ p i 2)) ∧
    st_I σ 157 i = i_ ((cb_ p : Int) - 2 * (2 * pC_ p i 0 + pC_ p i 3 + 1)) ∧ st_I σ 158 i = i_ (if pC_ p i 5 = -1 then -1 else (cb_ p : Int) - 2 * (2 * pC_ p i 0 + pC_ p i 5 + 1)) ∧ st_I σ 159 i = i_ (pC_ p i 4)) ∧
  (∀ t, t < pT_ p → st_I σ 160 t = i_ (gB0_ p t) ∧ st_I σ 161 t = i_ (gl_ (gcl_ p m F) t) ∧ st_I σ 162 t = i_ (bm_ (fun i => decide (pC_ p i 0 = t) && decide (pC_ p i 1 = 0)) (pN_ p))) ∧
  (∀ l, l < pL_ p → st_I σ 163 l = i_ (bm_ (fun i => decide (pC_ p i 2 = l) && decide (pC_ p i 1 = 0)) (pN_ p)))
def Vg_ (p : pr_T) (S : gs_T) : Prop := Vs_ (pT_ p) (pL_ p) S ∧ (∀ t, sP_ S t ≤ gl_ (gcl_ p 0 (fun _ => false)) t) ∧ ∀ n, sW_ S n = true → n < pN_ p ∧ pC_ p n 1 = 0
theorem low_ {c j : Nat} (q1 : c < 2 ^ 31) (q2 : c.testBit j = true) (q3 : ∀ i, i < j → c.testBit i = false) : i_ (c : Int) &&& (-i_ (c : Int)) = i_ ((2 ^ j : Nat) : Int) := by
  have e0 : c % 2 ^ j = 0 := by
    apply Nat.eq_of_testBit_eq
    intro i
    rw [Nat.testBit_mod_two_pow, Nat.zero_testBit]
    by_cases y : i < j
    · rw [q3 i y, Bool.and_false]
    · rw [decide_eq_false y, Bool.false_and]
  have e1 : c / 2 ^ j % 2 = 1 := by
    have y := q2
    rw [Nat.testBit_eq_decide_div_mod_eq, decide_eq_true_eq] at y
    exact y
  obtain ⟨q, hq⟩ : ∃ q, c / 2 ^ j = 2 * q + 1 := ⟨c / 2 ^ j / 2, by omega⟩
  have e2 : c = 2 ^ j * (2 * q + 1) := by
    have y := Nat.div_add_mod c (2 ^ j)
    rw [e0, hq] at y
    omega
  have p1 := Nat.two_pow_pos j
  have e3 : c = 2 ^ (j + 1) * q + 2 ^ j := by rw [e2, Nat.mul_add, Nat.mul_one, Nat.pow_succ, Nat.mul_assoc]
  have e4 : c - 1 = 2 ^ (j + 1) * q + (2 ^ j - 1) := by omega
  have p2 : 2 ^ j < 2 ^ (j + 1) := by rw [Nat.pow_succ]; omega
  apply Int32.toBitVec_inj.mp
  apply BitVec.eq_of_toNat_eq
  rw [Int32.toBitVec_and, BitVec.toNat_and, Int32.toBitVec_neg, BitVec.toNat_neg, i_bv, i_bv, BitVec.toNat_ofNat, BitVec.toNat_ofNat, Nat.mod_eq_of_lt (show c < 2 ^ 32 by omega)]
  have j31 : j < 31 := by
    by_cases y : j < 31
    · exact y
    · have := Nat.testBit_lt_two_pow (x := c) (i := j) (Nat.lt_of_lt_of_le q1 (Nat.pow_le_pow_right (by decide) (by omega)))
      rw [q2] at this; cases this
  have p3 : 2 ^ j < 2 ^ 32 := Nat.pow_lt_pow_right (by decide) (by omega)
  rw [Nat.mod_eq_of_lt (show 2 ^ 32 - c < 2 ^ 32 by omega), Nat.mod_eq_of_lt p3]
  apply Nat.eq_of_testBit_eq
  intro i
  rw [Nat.testBit_and, Nat.testBit_two_pow, show 2 ^ 32 - c = 2 ^ 32 - (c - 1 + 1) by omega, Nat.testBit_two_pow_sub_succ (by omega)]
  by_cases y1 : i < j
  · rw [q3 i y1, decide_eq_false (show ¬ j = i by omega), Bool.false_and]
  · by_cases y2 : i = j
    · subst y2
      rw [q2, e4, Nat.testBit_two_pow_mul_add _ (by omega), if_pos (by omega), Nat.testBit_lt_two_pow (show 2 ^ i - 1 < 2 ^ i by omega)]
      simp; omega
    · have y3 : c.testBit i = (c - 1).testBit i := by
        rw [e4, Nat.testBit_two_pow_mul_add _ (by omega), if_neg (by omega)]
        conv => lhs; rw [e3]
        rw [Nat.testBit_two_pow_mul_add _ p2, if_neg (by omega)]
      rw [y3, decide_eq_false (show ¬ j = i by omega)]
      cases (c - 1).testBit i <;> simp
section MC
variable {γ : ga_T} {σ : st_T} {p : pr_T} {m : Nat} {F : Nat → Bool} {S : gs_T} {t : Nat}
theorem c_bitCount {j : Nat} (q : j < 10) : fn_ γ m_J6_bitCount_0f7a4 0 [.int (i_ ((2 ^ j : Nat) : Int) - 1)] σ (.int (i_ j)) σ := fn_q (fun Q zQ => e_J6_bitCount_0f7a4 (by
  unfold p_J6_bitCount_0f7a4_0
  have z : j = 0 ∨ j = 1 ∨ j = 2 ∨ j = 3 ∨ j = 4 ∨ j = 5 ∨ j = 6 ∨ j = 7 ∨ j = 8 ∨ j = 9 := by omega
  rcases z with rfl | rfl | rfl | rfl | rfl | rfl | rfl | rfl | rfl | rfl <;> exact qv_ zQ (by decide)))
theorem c_positionShift (zw : Wd σ) {l : Int} : fn_ γ m_X4_positionShift 0 [.int (i_ l)] σ (.int (i_ (32 + 3 * l))) σ := fn_q (fun Q zQ => e_X4_positionShift zw (by
  unfold p_X4_positionShift_0
  simp only [i_lit, i_mul, i_add]
  exact zQ))
theorem c_withDigit (zw : Wd σ) {n s v : Nat} (q : s < 60) (q1 : n < 2 ^ 63) (q2 : v < 4) : fn_ γ m_X4_withDigit 0 [.long (lN n), .int (i_ s), .int (i_ v)] σ (.long (lN (sd_ n s v))) σ := fn_q (fun Q zQ => e_X4_withDigit zw (by
  unfold p_X4_withDigit_0
  rw [← l_setd q q1 q2] at zQ
  exact zQ))
theorem l_dig {n s : Nat} (q : s < 64) (q1 : n < 2 ^ 63) : (lN n >>> ((i_ (s : Int)).toInt64 &&& 63)).toInt32 &&& i_ 3 = i_ ((n / 2 ^ s % 2 ^ 2 : Nat) : Int) := by
  rw [l_shr q q1, l_i32, show (3 : Int) = ((3 : Nat) : Int) from rfl, i_and (Nat.mod_lt _ (by decide)) (by decide), show n / 2 ^ s % 2 ^ 32 &&& 3 = n / 2 ^ s % 2 ^ 32 % 2 ^ 2 from Nat.and_two_pow_sub_one_eq_mod _ 2, Nat.mod_mod_of_dvd _ (by decide)]
theorem l_dig3 {n s : Nat} (q : s < 64) (q1 : n < 2 ^ 63) : (lN n >>> ((i_ (s : Int)).toInt64 &&& 63)).toInt32 &&& i_ 7 = i_ ((n / 2 ^ s % 2 ^ 3 : Nat) : Int) := by
  rw [l_shr q q1, l_i32, show (7 : Int) = ((7 : Nat) : Int) from rfl, i_and (Nat.mod_lt _ (by decide)) (by decide), show n / 2 ^ s % 2 ^ 32 &&& 7 = n / 2 ^ s % 2 ^ 32 % 2 ^ 3 from Nat.and_two_pow_sub_one_eq_mod _ 3, Nat.mod_mod_of_dvd _ (by decide)]
theorem en_63 {p : pr_T} {S : gs_T} : en_ p S < 2 ^ 63 := Nat.lt_trans (en_lt S) (by decide)
theorem c_waitingOf (zw : Wd σ) (zP : Wp_ p) (zM : Mc_ σ p m F) (zV : Vg_ p S) (q1 : t < pT_ p) : fn_ γ m_X4_waitingOf 0 [.ref 153, .long (lN (en_ p S)), .int (i_ t)] σ (.int (i_ (bm_ (fun j => sW_ S j && decide (pC_ p j 0 = t)) (pN_ p)))) σ := fn_q (fun Q zQ => e_X4_waitingOf zw (by
  have b1 := zP.1.2.1
  have b2 := zP.1.1
  unfold p_X4_waitingOf_0
  simp (disch := omega) only [i_lit, i_lt, i_le, i_in_iff, i_cl]
  refine ⟨fun z => by omega, fun z => ⟨fun z2 => by omega, fun _ => ⟨⟨by omega, by omega⟩, ?_⟩⟩⟩
  rw [Int.toNat_natCast, (zM.2.2.2.2.1 t q1).2.2, show (22 : Int) = ((22 : Nat) : Int) from rfl, l_shr (by decide) en_63, l_i32, i_and (Nat.mod_lt _ (by decide)) (Nat.lt_trans (bm_lt _ _) (Nat.pow_lt_pow_right (by decide) (by omega)))]
  refine qi_ zQ (congrArg Int.ofNat ?_)
  apply Nat.eq_of_testBit_eq
  intro j
  rw [bm_tb, Nat.testBit_and, Nat.testBit_mod_two_pow, Nat.testBit_div_two_pow, bm_tb]
  by_cases y : j < pN_ p
  · rw [decide_eq_true y, decide_eq_true (show j < 32 by omega), Nat.add_comm j 22, cw_W (en_cw S) (show j < 10 by omega)]
    simp only [Bool.true_and]
    cases y2 : sW_ S j with
    | false => rfl
    | true =>
      rw [decide_eq_true (zV.2.2 j y2).2, Bool.and_true]
  · rw [decide_eq_false y]
    simp))
theorem c_waitingFor (zw : Wd σ) (zP : Wp_ p) (zM : Mc_ σ p m F) (zV : Vg_ p S) (q1 : t < pT_ p) {l : Nat} (q2 : l < pL_ p) : fn_ γ m_X4_waitingFor 1 [.ref 153, .long (lN (en_ p S)), .int (i_ t), .int (i_ l)] σ (.int (i_ (bm_ (fun j => sW_ S j && decide (pC_ p j 0 = t) && decide (pC_ p j 2 = l)) (pN_ p)))) σ := fn_q (fun Q zQ => e_X4_waitingFor zw (by
  have b1 := zP.1.2.2.1
  have b2 := zP.1.1
  have b3 : (2 : Nat) ^ pN_ p < 2 ^ 32 := Nat.pow_lt_pow_right (by decide) (by omega)
  unfold p_X4_waitingFor_0
  simp (disch := omega) only [i_lit, i_lt, i_le, i_in_iff, i_cl]
  refine ⟨fun z => by omega, fun z => ⟨fun z2 => by omega, fun _ => ⟨_, _, zw, c_waitingOf zw zP zM zV q1, ⟨by omega, by omega⟩, ?_⟩⟩⟩
  rw [Int.toNat_natCast, zM.2.2.2.2.2 l q2, i_and (Nat.lt_trans (bm_lt _ _) b3) (Nat.lt_trans (bm_lt _ _) b3)]
  refine qi_ zQ (congrArg Int.ofNat ?_)
  apply Nat.eq_of_testBit_eq
  intro j
  rw [bm_tb, Nat.testBit_and, bm_tb, bm_tb]
  by_cases y : j < pN_ p
  · rw [decide_eq_true y]
    simp only [Bool.true_and]
    cases y2 : sW_ S j with
    | false => rfl
    | true =>
      rw [decide_eq_true (zV.2.2 j y2).2, Bool.and_true]
  · rw [decide_eq_false y]
    simp))
theorem c_waitingForN (zw : Wd σ) {l : Int} (q2 : l = -1) {x : Int64} : fn_ γ m_X4_waitingFor 1 [.ref 153, .long x, .int (i_ t), .int (i_ l)] σ (.int (i_ 0)) σ := fn_q (fun Q zQ => e_X4_waitingFor zw (by
  subst q2
  unfold p_X4_waitingFor_0
  simp (disch := omega) only [i_lit, i_lt]
  exact ⟨fun _ => zQ, fun z => by omega⟩))
theorem c_next (zw : Wd σ) (zP : Wp_ p) (zM : Mc_ σ p m F) (zV : Vg_ p S) (q1 : t < pT_ p) : fn_ γ m_X4_next 1 [.ref 153, .long (lN (en_ p S)), .int (i_ t)] σ (.int (i_ (if sP_ S t < gl_ (gcl_ p m F) t then ((gB0_ p t + sP_ S t : Nat) : Int) else -1))) σ := fn_q (fun Q zQ => e_X4_next zw (by
  have b1 := zP.1.2.1
  have b2 := zP.1.1
  have b3 := (zV.1.1 t).1
  have b4 := gl_7 (m := m) (F := F) zP t
  have b5 := gB_le (p := p) t
  unfold p_X4_next_0
  simp (disch := omega) only [i_lit, i_lt]
  refine ⟨fun z => by omega, fun z => ⟨fun _ => ⟨_, _, zw, c_positionShift zw, ?_⟩, fun z2 => by omega⟩⟩
  rw [show (32 + 3 * (t : Int)) = ((32 + 3 * t : Nat) : Int) by omega, l_dig3 (by omega) en_63, cw_P (en_cw S) (by omega) b3]
  simp (disch := omega) only [i_in_iff, i_cl]
  rw [Int.toNat_natCast, (zM.2.2.2.2.1 t q1).2.1, (zM.2.2.2.2.1 t q1).1]
  simp (disch := omega) only [i_le, i_add]
  refine ⟨⟨by omega, by omega⟩, fun z2 => ?_, fun z2 => ⟨⟨by omega, by omega⟩, ?_⟩⟩
  · rw [if_neg (by omega)] at zQ
    exact zQ
  · rw [if_pos (by omega)] at zQ
    exact qi_ zQ (by omega)))
/-- a mask and the first place in it -/
theorem bm_0 {f : Nat → Bool} {n : Nat} (z : ∀ j, j < n → f j = false) : bm_ f n = 0 := by
  apply Nat.eq_of_testBit_eq
  intro j
  rw [bm_tb, Nat.zero_testBit]
  by_cases y : j < n
  · rw [z j y, Bool.and_false]
  · rw [decide_eq_false y, Bool.false_and]
/-- of the waiting stores of a thread: all lie in its range -/
theorem gw_rng (zP : Wp_ p) (zV : Vg_ p S) {f : Nat → Bool} {j : Nat} : (sW_ S j && decide (pC_ p j 0 = t) && f j) = true ↔ (gB0_ p t ≤ j ∧ j < gB0_ p t + gl_ (gcl_ p m F) t ∧ (sW_ S j && f j) = true) := by
  have y1 := gB_mono zP (Nat.le_succ t)
  have y2 : gl_ (gcl_ p m F) t = gB0_ p (t + 1) - gB0_ p t := rfl
  constructor
  · intro z
    simp only [Bool.and_eq_true, decide_eq_true_eq] at z ⊢
    have z1 := (zV.2.2 j z.1.1).1
    have z2 := (gB_th zP z1).mp z.1.2
    exact ⟨z2.1, by omega, z.1.1, z.2⟩
  · rintro ⟨z1, z2, z3⟩
    simp only [Bool.and_eq_true, decide_eq_true_eq] at z3 ⊢
    have z4 := (zV.2.2 j z3.1).1
    exact ⟨⟨z3.1, (gB_th zP z4).mpr ⟨z1, by omega⟩⟩, z3.2⟩
theorem gw_first (zP : Wp_ p) (zV : Vg_ p S) (f : Nat → Bool) (n : Nat) : f1_ (fun j => sW_ S j && f j) (gl_ (gcl_ p m F) t) (gB0_ p t) = some n ↔ (n < pN_ p ∧ (sW_ S n && decide (pC_ p n 0 = t) && f n) = true ∧ ∀ j, j < n → (sW_ S j && decide (pC_ p j 0 = t) && f j) = false) := by
  rw [f1_some]
  constructor
  · rintro ⟨z1, z2, z3, z4⟩
    have z5 := (gw_rng (m := m) (F := F) (t := t) (f := f) (j := n) zP zV).mpr ⟨z1, z2, z3⟩
    refine ⟨?_, z5, fun j zj => ?_⟩
    · simp only [Bool.and_eq_true] at z3
      exact (zV.2.2 n z3.1).1
    · cases y : (sW_ S j && decide (pC_ p j 0 = t) && f j) with
      | false => rfl
      | true =>
        have z6 := (gw_rng (m := m) (F := F) zP zV).mp y
        rw [z4 j z6.1 zj] at z6
        cases z6.2.2
  · rintro ⟨z0, z1, z2⟩
    have z3 := (gw_rng (m := m) (F := F) zP zV).mp z1
    refine ⟨z3.1, z3.2.1, z3.2.2, fun j z4 z5 => ?_⟩
    cases y : (sW_ S j && f j) with
    | false => rfl
    | true =>
      have z6 := (gw_rng (m := m) (F := F) zP zV).mpr ⟨z4, by omega, y⟩
      rw [z2 j z5] at z6
      cases z6
theorem gw_nofirst (zP : Wp_ p) (zV : Vg_ p S) (f : Nat → Bool) : f1_ (fun j => sW_ S j && f j) (gl_ (gcl_ p m F) t) (gB0_ p t) = none ↔ ∀ j, (sW_ S j && decide (pC_ p j 0 = t) && f j) = false := by
  rw [f1_none]
  constructor
  · intro z j
    cases y : (sW_ S j && decide (pC_ p j 0 = t) && f j) with
    | false => rfl
    | true =>
      have z6 := (gw_rng (m := m) (F := F) zP zV).mp y
      rw [z j z6.1 z6.2.1] at z6
      cases z6.2.2
  · intro z j z1 z2
    cases y : (sW_ S j && f j) with
    | false => rfl
    | true =>
      have z6 := (gw_rng (m := m) (F := F) zP zV).mpr ⟨z1, z2, y⟩
      rw [z j] at z6
      cases z6
theorem low_bm {f : Nat → Bool} {N j : Nat} (q0 : N ≤ 10) (q1 : j < N) (q2 : f j = true) (q3 : ∀ i, i < j → f i = false) : i_ ((bm_ f N : Nat) : Int) &&& (-i_ ((bm_ f N : Nat) : Int)) = i_ ((2 ^ j : Nat) : Int) :=
  low_ (Nat.lt_trans (bm_lt f N) (Nat.pow_lt_pow_right (by decide) (by omega))) (by rw [bm_tb, decide_eq_true q1, q2]; rfl) (fun i zi => by rw [bm_tb, q3 i zi, Bool.and_false])
theorem ga1_eq : ga1_ (gcl_ p m F) S t = f1_ (fun j => sW_ S j && (fun _ => true) j) (gl_ (gcl_ p m F) t) (gB0_ p t) := by
  unfold ga1_
  congr 1
  funext j
  simp
theorem p2_inj {a b : Nat} (q1 : a < 10) (q2 : b < 10) : (i_ ((2 ^ a : Nat) : Int) = i_ ((2 ^ b : Nat) : Int)) = (a = b) := by
  have z1 : 2 ^ a < 2 ^ 10 := Nat.pow_lt_pow_right (by decide) q1
  have z2 : 2 ^ b < 2 ^ 10 := Nat.pow_lt_pow_right (by decide) q2
  have z3 : 2 ^ a = 2 ^ b ↔ a = b := ⟨fun z => by
    rcases Nat.lt_trichotomy a b with y | y | y
    · have := Nat.pow_lt_pow_right (a := 2) (by decide) y; omega
    · exact y
    · have := Nat.pow_lt_pow_right (a := 2) (by decide) y; omega, fun z => by rw [z]⟩
  rw [← z3]
  generalize 2 ^ a = x at *
  generalize 2 ^ b = y at *
  rw [i_eq (by omega) (by omega)]
  apply propext
  omega
theorem c_committed (zw : Wd σ) (zP : Wp_ p) (zM : Mc_ σ p m F) (zV : Vg_ p S) (q1 : t < pT_ p) {l : Nat} (q2 : l < pL_ p) : fn_ γ m_X4_committed 2 [.ref 153, .long (lN (en_ p S)), .int (i_ t), .int (i_ l)] σ (.int (i_ (match gn_ (gcl_ p m F) S t l with | some n => (n : Int) | none => -1))) σ := fn_q (fun Q zQ => e_X4_committed zw (by
  have b2 := zP.1.1
  have b4 := zM.1
  unfold p_X4_committed_0
  refine ⟨_, _, zw, c_waitingFor zw zP zM zV q1 q2, _, _, zw, c_waitingOf zw zP zM zV q1, ?_⟩
  rw [zM.2.1]
  have hd : gw1_ (gcl_ p m F) S t l = f1_ (fun j => sW_ S j && (fun j => decide (pC_ p j 2 = l)) j) (gl_ (gcl_ p m F) t) (gB0_ p t) := rfl
  unfold gn_ at zQ
  rw [hd] at zQ
  rw [show gm_ (gcl_ p m F) = m from rfl, ga1_eq] at zQ
  cases y : f1_ (fun j => sW_ S j && (fun j => decide (pC_ p j 2 = l)) j) (gl_ (gcl_ p m F) t) (gB0_ p t) with
  | none =>
    rw [y] at zQ
    have y1 := (gw_nofirst zP zV _).mp y
    rw [bm_0 (fun j _ => y1 j)]
    have y2 : i_ ((0 : Nat) : Int) &&& (-i_ ((0 : Nat) : Int)) = i_ 0 := by decide
    rw [y2]
    simp only [i_lit]
    exact ⟨fun _ => ⟨fun _ => ⟨fun _ => zQ, fun z => absurd trivial z⟩, fun _ => ⟨fun _ => zQ, fun _ => zQ⟩⟩, fun _ => ⟨fun _ => zQ, fun z => absurd trivial z⟩⟩
  | some n =>
    rw [y] at zQ
    obtain ⟨y1, y2, y3⟩ := (gw_first zP zV _ n).mp y
    rw [low_bm (by omega) y1 y2 y3]
    have b5 : 2 ^ n < 2 ^ 10 := Nat.pow_lt_pow_right (by decide) (by omega)
    have b6 := Nat.two_pow_pos n
    have y4 : i_ ((2 ^ n : Nat) : Int) ≠ 0 := by
      generalize 2 ^ n = x at *
      rw [i_lit, ne_eq, i_eq (by omega) (by omega)]
      omega
    -- the first of all that wait
    cases u : f1_ (fun j => sW_ S j && (fun _ => true) j) (gl_ (gcl_ p m F) t) (gB0_ p t) with
    | none =>
      have u1 := (gw_nofirst zP zV _).mp u n
      simp only [Bool.and_eq_true, Bool.and_true] at y2 u1
      rw [y2.1.1, y2.1.2] at u1
      cases u1
    | some n2 =>
      rw [u] at zQ
      dsimp only at zQ
      obtain ⟨u1, u2, u3⟩ := (gw_first zP zV _ n2).mp u
      simp only [Bool.and_true] at u2 u3
      rw [low_bm (by omega) u1 u2 u3]
      have e1 := p2_inj (a := n) (b := n2) (by omega) (by omega)
      refine ⟨fun z => ?_, fun z => ⟨fun z2 => absurd z2 y4, fun _ => ⟨_, _, zw, c_bitCount (by omega), ?_⟩⟩⟩
      · rw [i_lit, i_eq (by omega) (by omega)] at z
        refine ⟨fun z2 => ⟨fun z3 => absurd z3 y4, fun _ => ⟨_, _, zw, c_bitCount (by omega), ?_⟩⟩, fun z2 => ⟨fun z3 => absurd z3 y4, fun _ => ?_⟩⟩
        · rw [e1] at z2
          rw [z2] at zQ ⊢
          rw [if_neg (fun w => w.2 rfl)] at zQ
          exact zQ
        · rw [e1] at z2
          rw [if_pos ⟨by omega, fun w => z2 (Option.some.inj w).symm⟩] at zQ
          exact zQ
      · rw [i_lit, i_eq (by omega) (by omega)] at z
        rw [if_neg (fun w => z (by omega))] at zQ
        exact zQ))
theorem l_forwarding (zw : Wd σ) {f : Nat → Bool} {N : Nat} (q : N ≤ 10) {Q : rs_T → st_T → Prop} (zQ : Q (.inl (some (.int (i_ (match f2_ f N 0 with | some n => (n : Int) | none => -1))))) σ) : ∀ k : Nat, k ≤ 10 → (∀ j, k ≤ j → j < N → f j = false) → vv_ γ m_X4_forwarding 2 14 [(5, .int (i_ ((bm_ f N : Nat) : Int))), (6, .int (i_ ((k : Int) - 1)))] [] σ Q := by
  intro k
  induction k with
  | zero =>
    intro _ z
    have y : f2_ f N 0 = none := (f2_none f N 0).mpr (fun j _ z2 => z j (Nat.zero_le _) (by omega))
    rw [y] at zQ
    refine g_X4_forwarding_14 zw ?_
    unfold p_X4_forwarding_14
    simp (disch := omega) only [i_lit, i_lt, i_neg]
    exact ⟨fun _ => zQ, fun z => by omega⟩
  | succ k ih =>
    intro zk z
    refine g_X4_forwarding_14 zw ?_
    unfold p_X4_forwarding_14
    have b1 : bm_ f N < 2 ^ 31 := Nat.lt_trans (bm_lt f N) (Nat.pow_lt_pow_right (by decide) (by omega))
    rw [show ((k + 1 : Nat) : Int) - 1 = (k : Int) by omega]
    simp (disch := omega) only [i_lit, i_lt, i_neg]
    refine ⟨fun z => by omega, fun _ => ?_⟩
    rw [i_shr (by omega) b1, show (1 : Int) = ((1 : Nat) : Int) from rfl, i_and (Nat.lt_of_le_of_lt (Nat.div_le_self _ _) (by omega)) (by decide)]
    have e1 : bm_ f N / 2 ^ k &&& 1 = (if (bm_ f N).testBit k = true then 1 else 0) := by
      rw [Nat.and_one_is_mod, Nat.testBit_eq_decide_div_mod_eq]
      by_cases y : bm_ f N / 2 ^ k % 2 = 1
      · rw [if_pos (decide_eq_true y), y]
      · rw [if_neg (by simp; omega)]
        omega
    rw [e1, bm_tb]
    by_cases y : (decide (k < N) && f k) = true
    · rw [if_pos y]
      simp only [Bool.and_eq_true, decide_eq_true_eq] at y
      have y2 : f2_ f N 0 = some k := (f2_some f N 0).mpr ⟨Nat.zero_le _, by omega, y.2, fun j z1 z2 => z j (by omega) (by omega)⟩
      rw [y2] at zQ
      exact ⟨fun z => absurd z (by decide), fun _ => zQ⟩
    · rw [if_neg y]
      refine ⟨fun _ => ?_, fun z => absurd rfl z⟩
      have z2 := ih (by omega) (fun j z1 z2 => by
        by_cases z3 : j = k
        · subst z3
          rw [decide_eq_true z2, Bool.true_and] at y
          exact Bool.eq_false_iff.mpr y
        · exact z j (by omega) z2)
      rw [i_add]
      exact z2
end MC
