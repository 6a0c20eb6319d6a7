/-! the class's output; its changes -/
section OU
variable {γ : ga_T} {σ σ1 : st_T} {P : pq_T}
def Xo_ (σ : st_T) (O : List Int) : Prop := O.length ≤ 320 ∧ st_I σ 130 1 = i_ (O.length : Int) ∧ ∀ (k : Nat) (z : Int), O[k]? = some z → st_I σ 131 k = i_ z
def of_ (σ σ1 : st_T) : Prop := (∀ b, b ≠ 130 → b ≠ 131 → eh_ σ σ1 b) ∧ st_n σ1 = st_n σ ∧ st_c σ1 = st_c σ ∧ st_u σ1 = st_u σ
theorem of_rf : of_ σ σ := ⟨fun b _ _ => eh_rf b, rfl, rfl, rfl⟩
theorem of_tr {σ2 : st_T} (h : of_ σ σ1) (k : of_ σ1 σ2) : of_ σ σ2 := ⟨fun b z z2 => eh_tr (h.1 b z z2) (k.1 b z z2), k.2.1.trans h.2.1, k.2.2.1.trans h.2.2.1, k.2.2.2.trans h.2.2.2⟩
theorem by8 : ∀ n : Nat, n < 128 → ((Int32.ofNat n).toInt8.toInt32).toInt8.toInt32 = Int32.ofNat n := by decide +kernel
/-- something is put out -/
def Out_ (γ : ga_T) (μ : mr_T) (d : Nat) (as : List Value) (σ : st_T) (O X : List Int) : Prop := ∃ s, fw_ γ μ d as σ s ∧ Wd s ∧ Xo_ s (O ++ X) ∧ of_ σ s
theorem c_put (zw : Wd σ) {O : List Int} (h : Xo_ σ O) (hl : O.length < 320) {z : Int} (hz : 0 ≤ z ∧ z < 128) : Out_ γ m_X5_put 0 [.ref 130, .int (i_ z)] σ O [z] := by
  obtain ⟨h1, h2, h3⟩ := h
  obtain ⟨m, rfl⟩ : ∃ m : Nat, z = m := ⟨z.toNat, by omega⟩
  refine ⟨pt_I (pt_I σ 131 O.length (i_ (m : Int))) 130 1 (i_ ((O.length + 1 : Nat) : Int)), fw_q (fun Q zQ => e_X5_put zw ?_), zw, ⟨?_, ?_, fun k x hx => ?_⟩, ⟨fun b z1 z2 => eh_tr (eh_I z2) (eh_I z1), rfl, rfl, rfl⟩⟩
  · unfold p_X5_put_0
    have ec : (i_ (O.length : Int)).toNatClampNeg = O.length := by rw [i_cl (by omega), Int.toNat_natCast]
    have e8 := by8 m (by omega)
    rw [i_nat] at e8
    rw [h2, ec, e8]
    simp (disch := omega) only [i_lit, i_lt, i_le, i_in_iff, i_add]
    exact ⟨fun z => by omega, fun _ => ⟨fun z => by omega, fun _ => ⟨by omega, zQ⟩⟩⟩
  · rw [List.length_append]
    exact hl
  · rw [st_sI, List.length_append]
    rfl
  · rw [st_pI, if_neg (by omega), st_pI]
    by_cases y : k < O.length
    · rw [List.getElem?_append_left y] at hx
      rw [if_neg (by omega)]
      exact h3 k x hx
    · have z2 := (List.getElem?_eq_some_iff.mp hx).1
      rw [List.length_append, List.length_singleton] at z2
      have z3 : k = O.length := by omega
      subst z3
      rw [List.getElem?_append_right (Nat.le_refl _), Nat.sub_self] at hx
      have hx : some (m : Int) = some x := hx
      rw [if_pos ⟨rfl, rfl⟩, Option.some.inj hx]
theorem kb_pos : ∀ a : Nat, a < 46 → (kb_ a).all (fun x => decide (0 ≤ x.toInt ∧ x.toInt < 128)) = true := by decide +kernel
def kt_ (a : Nat) : List Int := (kb_ a).map (fun x => x.toInt)
theorem c_putText (zw : Wd σ) {O : List Int} (h : Xo_ σ O) {a : Nat} (ha : a < 46) (hl : O.length + (kb_ a).length ≤ 320) : Out_ γ m_X5_putText 13 [.ref 130, .ref (30 + a)] σ O (kt_ a) := by
  have l100 := kb_len a ha
  have key : sp_ γ m_X5_putText 13 [.ref 130, .ref (30 + a)] σ (fun r s => r = .inl none ∧ (Wd s ∧ Xo_ s (O ++ kt_ a) ∧ of_ σ s)) := by
    refine e_X5_putText zw ?_
    unfold p_X5_putText_0
    have lp : ∀ (k i : Nat) (s : st_T), k + i = (kb_ a).length → Wd s → Xo_ s (O ++ (kt_ a).take i) → of_ σ s → vv_ γ m_X5_putText 13 2 [(0, .ref 130), (1, .ref (30 + a)), (2, .int (i_ (i : Int)))] [] s (fun r s => r = .inl none ∧ (Wd s ∧ Xo_ s (O ++ kt_ a) ∧ of_ σ s)) := by
      intro k
      induction k with
      | zero =>
        intro i s zi w x f
        have zi : i = (kb_ a).length := by omega
        subst zi
        rw [List.take_of_length_le (by unfold kt_; rw [List.length_map]; exact Nat.le_refl _)] at x
        refine g_X5_putText_2 w ?_
        unfold p_X5_putText_2
        exact ⟨ha, _, s, w, c_strlen w ha, fun _ => ⟨rfl, w, x, f⟩, fun z => absurd (Int32.le_refl _) z⟩
      | succ k ih =>
        intro i s zi w x f
        have hi : i < (kb_ a).length := by omega
        have hb := List.all_eq_true.mp (kb_pos a ha) ((kb_ a)[i]) (List.getElem_mem hi)
        rw [decide_eq_true_eq] at hb
        have eg : (kb_ a).getD i 0 = i_ ((kb_ a)[i]).toInt := by
          rw [List.getD_eq_getElem?_getD, List.getElem?_eq_getElem hi]
          exact i_of _
        have lt : (O ++ (kt_ a).take i).length < 320 := by
          rw [List.length_append, List.length_take]
          omega
        obtain ⟨s2, a1, a2, a3, a4⟩ := c_put (γ := γ) w x lt hb
        have ca := c_charAt (γ := γ) w ha hi
        rw [eg] at ca
        refine g_X5_putText_2 w ?_
        unfold p_X5_putText_2
        refine ⟨ha, _, s, w, c_strlen w ha, ?_⟩
        simp (disch := omega) only [i_le]
        refine ⟨fun z => by omega, fun _ => ⟨ha, _, s, w, ca, s2, a2, a1, ?_⟩⟩
        have et : (kt_ a).take (i + 1) = (kt_ a).take i ++ [((kb_ a)[i]).toInt] := by
          rw [List.take_add_one]
          congr 1
          unfold kt_
          rw [List.getElem?_map, List.getElem?_eq_getElem hi]
          rfl
        have y := ih (i + 1) s2 (by omega) a2 (by rw [et, ← List.append_assoc]; exact a3) (of_tr f a4)
        rw [show ((i + 1 : Nat) : Int) = (i : Int) + 1 by omega, ← i_add, ← i_lit 1] at y
        exact y
    exact lp (kb_ a).length 0 σ (by omega) zw (by rw [List.take_zero, List.append_nil]; exact h) of_rf
  obtain ⟨s, y1, y2, y3, y4⟩ := fw_of key
  exact ⟨s, y1, y2, y3, y4⟩
/-- the digits of a name -/
theorem n32_dig : ∀ (k : Nat) (l : List Int), l.length = k → (∀ c ∈ l, 97 ≤ c ∧ c ≤ 122) → ∀ j, (j < k → ∃ c, l[k - 1 - j]? = some c ∧ n32_ l / 32 ^ j % 32 = (c - 96).toNat) ∧ (k ≤ j → n32_ l / 32 ^ j % 32 = 0) := by
  intro k
  induction k with
  | zero =>
    intro l hl h j
    have hl : l = [] := List.eq_nil_of_length_eq_zero hl
    subst hl
    refine ⟨fun z => by omega, fun _ => ?_⟩
    show 0 / 32 ^ j % 32 = 0
    rw [Nat.zero_div]
  | succ k ih =>
    intro l hl h j
    rcases List.eq_nil_or_concat l with rfl | ⟨t, c, rfl⟩
    · cases hl
    · rw [List.concat_eq_append] at h hl ⊢
      rw [List.length_append, List.length_singleton] at hl
      have hc := h c (List.mem_append_right _ (List.mem_singleton.mpr rfl))
      have ih := ih t (by omega) (fun d z => h d (List.mem_append_left _ z))
      rw [n32_app]
      cases j with
      | zero =>
        rw [Nat.pow_zero, Nat.div_one]
        refine ⟨fun _ => ⟨c, ?_, by omega⟩, fun z => by omega⟩
        rw [List.getElem?_append_right (by omega), show k + 1 - 1 - 0 - t.length = 0 by omega]
        rfl
      | succ j =>
        have e : (32 * n32_ t + (c - 96).toNat) / 32 ^ (j + 1) = n32_ t / 32 ^ j := by
          rw [Nat.pow_succ, Nat.mul_comm (32 ^ j) 32, ← Nat.div_div_eq_div_mul]
          congr 1
          omega
        rw [e]
        refine ⟨fun z => ?_, fun z => (ih j).2 (by omega)⟩
        obtain ⟨d, z1, z2⟩ := (ih j).1 (by omega)
        refine ⟨d, ?_, z2⟩
        rw [List.getElem?_append_left (by omega), show k + 1 - 1 - (j + 1) = k - 1 - j by omega]
        exact z1
theorem c_putName (zw : Wd σ) {O l : List Int} (h : Xo_ σ O) (hN : Nam_ l) (hl : O.length + 9 ≤ 320) : Out_ γ m_X5_putName 1 [.ref 130, .long (ncd_ l)] σ O (32 :: l) := by
  have y1 : 32 ^ l.length ≤ 32 ^ 8 := Nat.pow_le_pow_right (by decide) hN.1
  have en : ncd_ l = lN (n32_ l) := ncd_n l 0 hN.2.2 (by
    rw [Nat.zero_add, Nat.mul_one]
    exact Nat.le_trans y1 (by decide))
  have nl : n32_ l < 32 ^ 8 := by
    have y := n32_lt l 0 hN.2.2
    rw [Nat.zero_add, Nat.mul_one] at y
    exact Nat.lt_of_lt_of_le y y1
  have dg := n32_dig l.length l rfl hN.2.2
  have l8 := hN.1
  have key : sp_ γ m_X5_putName 1 [.ref 130, .long (ncd_ l)] σ (fun r s => r = .inl none ∧ (Wd s ∧ Xo_ s (O ++ (32 :: l)) ∧ of_ σ s)) := by
    refine e_X5_putName zw ?_
    unfold p_X5_putName_0
    obtain ⟨s1, a1, a2, a3, a4⟩ := c_put (γ := γ) zw h (by omega) (z := 32) (by decide)
    refine ⟨s1, a2, a1, ?_⟩
    have fin : ∀ s, Wd s → Xo_ s (O ++ (32 :: l)) → of_ σ s → vv_ γ m_X5_putName 1 9 [(0, .ref 130), (1, .long (ncd_ l)), (3, .int (i_ (-5)))] [] s (fun r s => r = .inl none ∧ (Wd s ∧ Xo_ s (O ++ (32 :: l)) ∧ of_ σ s)) := by
      intro s w x f
      refine g_X5_putName_9 w ?_
      unfold p_X5_putName_9
      exact ⟨fun _ => ⟨rfl, w, x, f⟩, fun z => absurd (by decide) z⟩
    have lp : ∀ (k : Nat) (s : st_T), k ≤ 8 → Wd s → Xo_ s (O ++ (32 :: l.take (l.length - k))) → of_ σ s → vv_ γ m_X5_putName 1 9 [(0, .ref 130), (1, .long (ncd_ l)), (3, .int (i_ (5 * (k : Int) - 5)))] [] s (fun r s => r = .inl none ∧ (Wd s ∧ Xo_ s (O ++ (32 :: l)) ∧ of_ σ s)) := by
      intro k
      induction k with
      | zero =>
        intro s hk w x f
        rw [Nat.sub_zero, List.take_length] at x
        exact fin s w x f
      | succ k ih =>
        intro s hk w x f
        have es : 5 * ((k + 1 : Nat) : Int) - 5 = ((5 * k : Nat) : Int) := by omega
        rw [es]
        have ed : (lN (n32_ l) >>> ((i_ ((5 * k : Nat) : Int)).toInt64 &&& 63)).toInt32 &&& (31 : Int32) = i_ ((n32_ l / 32 ^ k % 32 : Nat) : Int) := by
          rw [l_shr (by omega) (Nat.lt_trans nl (by decide)), l_i32, i_lit 31, show i_ (OfNat.ofNat 31) = i_ ((31 : Nat) : Int) from rfl, i_and (Nat.mod_lt _ (by decide)) (by decide), show n32_ l / 2 ^ (5 * k) % 2 ^ 32 &&& 31 = n32_ l / 2 ^ (5 * k) % 2 ^ 32 % 2 ^ 5 from Nat.and_two_pow_sub_one_eq_mod _ 5, Nat.mod_mod_of_dvd _ (by decide), Nat.pow_mul]
        have e5 : i_ ((5 * k : Nat) : Int) + (-5 : Int32) = i_ (5 * (k : Int) - 5) := by
          rw [show (-5 : Int32) = i_ (-5) from rfl, i_add, show ((5 * k : Nat) : Int) + -5 = 5 * (k : Int) - 5 by omega]
        refine g_X5_putName_9 w ?_
        unfold p_X5_putName_9
        rw [en, ed, e5]
        rw [en] at ih
        have h0 : ¬ i_ ((5 * k : Nat) : Int) < (0 : Int32) := by
          simp (disch := omega) only [i_lit, i_lt]
          omega
        refine ⟨fun z => absurd z h0, fun _ => ?_⟩
        by_cases y : k < l.length
        · obtain ⟨c, z1, z2⟩ := (dg k).1 y
          have hc := hN.2.2 c (List.mem_of_getElem? z1)
          rw [z2]
          simp (disch := omega) only [i_lit, i_eq, i_add, i_sub]
          refine ⟨fun z => by omega, fun _ => ?_⟩
          have et : l.take (l.length - k) = l.take (l.length - (k + 1)) ++ [c] := by
            rw [show l.length - k = (l.length - (k + 1)) + 1 by omega, List.take_add_one]
            congr 1
            rw [show l.length - (k + 1) = l.length - 1 - k by omega, z1]
            rfl
          have ll : (O ++ (32 :: l.take (l.length - (k + 1)))).length < 320 := by
            rw [List.length_append, List.length_cons, List.length_take]
            omega
          obtain ⟨s2, b1, b2, b3, b4⟩ := c_put (γ := γ) w x ll (z := c) (by omega)
          rw [show (OfNat.ofNat 97 : Int) + (((c - 96).toNat : Nat) : Int) - OfNat.ofNat 1 = c by show (97 : Int) + (((c - 96).toNat : Nat) : Int) - 1 = c; omega]
          refine ⟨s2, b2, b1, ih s2 (by omega) b2 ?_ (of_tr f b4)⟩
          rw [et]
          rw [List.append_assoc] at b3
          exact b3
        · rw [(dg k).2 (by omega)]
          refine ⟨fun _ => ih s (by omega) w ?_ f, fun z => absurd rfl z⟩
          rw [show l.length - k = l.length - (k + 1) by omega]
          exact x
    have y := lp 8 s1 (Nat.le_refl _) a2 (by rw [show l.length - 8 = 0 by omega, List.take_zero]; exact a3) a4
    exact y
  obtain ⟨s, y1, y2, y3, y4⟩ := fw_of key
  exact ⟨s, y1, y2, y3, y4⟩
def org_ (z : Int) : List Int := if z = -1 then [] else [32, 114, 48 + z]
def onu_ (z : Int) : List Int := if z = -1 then [] else [32, 48 + z]
theorem out_nil {μ : mr_T} {d : Nat} {as : List Value} {O : List Int} (zw : Wd σ) (h : Xo_ σ O) (q : fw_ γ μ d as σ σ) : Out_ γ μ d as σ O [] := ⟨σ, q, zw, by rw [List.append_nil]; exact h, of_rf⟩
theorem c_putReg (zw : Wd σ) {O : List Int} (h : Xo_ σ O) (hl : O.length + 3 ≤ 320) {z : Int} (hz : -1 ≤ z ∧ z ≤ 3) : Out_ γ m_X5_putRegister 14 [.ref 130, .int (i_ z)] σ O (org_ z) := by
  unfold org_
  by_cases y : z = -1
  · rw [if_pos y]
    refine out_nil zw h (fw_q (fun Q zQ => e_X5_putRegister zw ?_))
    unfold p_X5_putRegister_0
    rw [y]
    exact ⟨fun _ => zQ, fun z => absurd rfl z⟩
  · rw [if_neg y]
    have e11 : kt_ 11 = [32, 114] := by decide +kernel
    have l11 : (kb_ 11).length = 2 := by decide +kernel
    obtain ⟨s1, a1, a2, a3, a4⟩ := c_putText (γ := γ) zw h (a := 11) (by decide) (by rw [l11]; omega)
    rw [e11] at a3
    obtain ⟨s2, b1, b2, b3, b4⟩ := c_put (γ := γ) a2 a3 (by rw [List.length_append]; show O.length + 2 < 320; omega) (z := 48 + z) (by omega)
    refine ⟨s2, fw_q (fun Q zQ => e_X5_putRegister zw ?_), b2, by rw [List.append_assoc] at b3; exact b3, of_tr a4 b4⟩
    unfold p_X5_putRegister_0
    simp (disch := omega) only [i_lit, i_neg, i_eq, i_add]
    exact ⟨fun q => absurd q y, fun _ => ⟨s1, a2, a1, s2, b2, b1, zQ⟩⟩
theorem c_putNum (zw : Wd σ) {O : List Int} (h : Xo_ σ O) (hl : O.length + 2 ≤ 320) {z : Int} (hz : -1 ≤ z ∧ z ≤ 3) : Out_ γ m_X5_putNumber 1 [.ref 130, .int (i_ z)] σ O (onu_ z) := by
  unfold onu_
  by_cases y : z = -1
  · rw [if_pos y]
    refine out_nil zw h (fw_q (fun Q zQ => e_X5_putNumber zw ?_))
    unfold p_X5_putNumber_0
    rw [y]
    exact ⟨fun _ => zQ, fun z => absurd rfl z⟩
  · rw [if_neg y]
    obtain ⟨s1, a1, a2, a3, a4⟩ := c_put (γ := γ) zw h (by omega) (z := 32) (by decide)
    obtain ⟨s2, b1, b2, b3, b4⟩ := c_put (γ := γ) a2 a3 (by rw [List.length_append]; show O.length + 1 < 320; omega) (z := 48 + z) (by omega)
    refine ⟨s2, fw_q (fun Q zQ => e_X5_putNumber zw ?_), b2, by rw [List.append_assoc] at b3; exact b3, of_tr a4 b4⟩
    unfold p_X5_putNumber_0
    simp (disch := omega) only [i_lit, i_neg, i_eq, i_add]
    exact ⟨fun q => absurd q y, fun _ => ⟨s1, a2, a1, s2, b2, b1, zQ⟩⟩
end OU
