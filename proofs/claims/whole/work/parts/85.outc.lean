/-! the class's output: a declaration, an instruction; its changes -/
section OV
variable {γ : ga_T} {σ σ1 : st_T} {P : pq_T}
theorem pq_of (h : Pq_ σ 132 P) (k : of_ σ σ1) : Pq_ σ1 132 P := pq_eh h (k.1 _ (by decide) (by decide)) (k.1 _ (by decide) (by decide)) (k.1 _ (by decide) (by decide)) (k.1 _ (by decide) (by decide)) (k.1 _ (by decide) (by decide))
theorem c_nameOf (zw : Wd σ) (h : Pq_ σ 132 P) {l : Nat} (hl : l < pL_ P.1) : fn_ γ m_X7_nameOf 0 [.ref 132, .int (i_ (l : Int))] σ (.long (ncd_ (P.2.1 l))) σ := fn_q (fun Q zQ => e_X7_nameOf (Or.inl rfl) zw (by
  have b3 := h.1.1.2.2.1
  have y := h.2.1 l hl
  unfold p_X7_nameOf_0
  simp (disch := omega) only [i_lit, i_lt, i_le, i_in_iff, i_cl, Int.toNat_natCast]
  refine ⟨fun z => by omega, fun _ => ⟨fun z => by omega, fun _ => ⟨by omega, ?_⟩⟩⟩
  have y : st_L σ (132 + 1) l = ncd_ (P.2.1 l) := y
  rw [y]
  exact zQ))
def odc_ (P : pq_T) (l : Nat) : List Int := [108, 111, 99] ++ ((32 :: P.2.1 l) ++ (onu_ (pI_ P.1 l) ++ [59]))
theorem onu_len (z : Int) : (onu_ z).length ≤ 2 := by
  unfold onu_
  split
  · exact Nat.zero_le _
  · exact Nat.le_refl _
theorem org_len (z : Int) : (org_ z).length ≤ 3 := by
  unfold org_
  split
  · exact Nat.zero_le _
  · exact Nat.le_refl _
theorem c_putDecl (zw : Wd σ) (h : Pq_ σ 132 P) (hN : Nv_ P) {O : List Int} (hO : Xo_ σ O) {l : Nat} (hl : l < pL_ P.1) (hlen : O.length + 15 ≤ 320) : Out_ γ m_X5_putDeclaration 14 [.ref 130, .ref 132, .int (i_ (l : Int))] σ O (odc_ P l) := by
  have nm := hN l hl
  have n8 := nm.1
  have pi := h.1.1.2.2.2.1 l
  have e12 : kt_ 12 = [108, 111, 99] := by decide +kernel
  have l12 : (kb_ 12).length = 3 := by decide +kernel
  obtain ⟨s1, a1, a2, a3, a4⟩ := c_putText (γ := γ) zw hO (a := 12) (by decide) (by rw [l12]; omega)
  rw [e12] at a3
  have L1 : (O ++ [108, 111, 99]).length = O.length + 3 := by rw [List.length_append]; rfl
  obtain ⟨s2, b1, b2, b3, b4⟩ := c_putName (γ := γ) a2 a3 nm (by rw [L1]; omega)
  have L2 : (O ++ [108, 111, 99] ++ (32 :: P.2.1 l)).length = O.length + 3 + ((P.2.1 l).length + 1) := by rw [List.length_append, L1]; rfl
  have h1 := pq_of h a4
  have h2 := pq_of h1 b4
  obtain ⟨s3, c1, c2, c3, c4⟩ := c_putNum (γ := γ) b2 b3 (by rw [L2]; omega) (z := pI_ P.1 l) (by omega)
  have ol := onu_len (pI_ P.1 l)
  obtain ⟨s4, d1, d2, d3, d4⟩ := c_put (γ := γ) c2 c3 (by rw [List.length_append, L2]; omega) (z := 59) (by decide)
  refine ⟨s4, fw_q (fun Q zQ => e_X5_putDeclaration zw ?_), d2, ?_, of_tr (of_tr (of_tr a4 b4) c4) d4⟩
  · unfold p_X5_putDeclaration_0
    exact ⟨s1, a2, a1, _, s1, a2, c_nameOf a2 h1 hl, s2, b2, b1, _, s2, b2, c_initialOf (Or.inl rfl) b2 h2.1 hl, s3, c2, c1, s4, d2, d1, zQ⟩
  · unfold odc_
    rw [List.append_assoc, List.append_assoc, List.append_assoc] at d3
    exact d3
def okd_ (k : Int) : Nat := if k = 0 then 13 else if k = 1 then 14 else if k = 2 then 15 else 16
def oin_ (P : pq_T) (i : Nat) : List Int := kt_ (okd_ (pC_ P.1 i 1)) ++ (org_ (pC_ P.1 i 3) ++ ((if pC_ P.1 i 1 = 3 then [] else 32 :: P.2.1 (pC_ P.1 i 2).toNat) ++ (onu_ (pC_ P.1 i 4) ++ (org_ (pC_ P.1 i 5) ++ [59]))))
theorem kb_51 : ∀ a : Nat, a < 46 → 13 ≤ a → a ≤ 16 → (kb_ a).length ≤ 5 := by decide +kernel
theorem kt_len (a : Nat) : (kt_ a).length = (kb_ a).length := List.length_map _
theorem l_oend {s : st_T} (w : Wd s) (h : Pq_ s 132 P) {i : Nat} (hi : i < pN_ P.1) {O : List Int} (hO : Xo_ s O) (hl : O.length + 6 ≤ 320) : ∃ s1 s2 s3, Wd s1 ∧ Wd s2 ∧ Wd s3 ∧ fn_ γ m_X7_property 0 [.ref 132, .int (i_ (i : Int)), .int (4 : Int32)] s (.int (i_ (pC_ P.1 i 4))) s ∧ fw_ γ m_X5_putNumber 1 [.ref 130, .int (i_ (pC_ P.1 i 4))] s s1 ∧
    fn_ γ m_X7_property 0 [.ref 132, .int (i_ (i : Int)), .int (5 : Int32)] s1 (.int (i_ (pC_ P.1 i 5))) s1 ∧ fw_ γ m_X5_putRegister 14 [.ref 130, .int (i_ (pC_ P.1 i 5))] s1 s2 ∧ fw_ γ m_X5_put 0 [.ref 130, .int (59 : Int32)] s2 s3 ∧ Xo_ s3 (O ++ (onu_ (pC_ P.1 i 4) ++ (org_ (pC_ P.1 i 5) ++ [59]))) ∧ of_ s s3 := by
  have hN := h.1.1.1
  have r4 := h.1.1.2.2.2.2 i 4
  have r5 := h.1.1.2.2.2.2 i 5
  have l4 := onu_len (pC_ P.1 i 4)
  have l5 := org_len (pC_ P.1 i 5)
  have p4 := c_property (γ := γ) (a := 132) (z := i) (k := ((4 : Nat) : Int)) (Or.inl rfl) w h.1 (by omega) (by omega)
  rw [pp_in hi (by decide)] at p4
  obtain ⟨s1, a1, a2, a3, a4⟩ := c_putNum (γ := γ) w hO (by omega) r4
  have h1 := pq_of h a4
  have p5 := c_property (γ := γ) (a := 132) (z := i) (k := ((5 : Nat) : Int)) (Or.inl rfl) a2 h1.1 (by omega) (by omega)
  rw [pp_in hi (by decide)] at p5
  obtain ⟨s2, b1, b2, b3, b4⟩ := c_putReg (γ := γ) a2 a3 (by rw [List.length_append]; omega) r5
  obtain ⟨s3, c1, c2, c3, c4⟩ := c_put (γ := γ) b2 b3 (by rw [List.length_append, List.length_append]; omega) (z := 59) (by decide)
  refine ⟨s1, s2, s3, a2, b2, c2, p4, a1, p5, b1, c1, ?_, of_tr (of_tr a4 b4) c4⟩
  rw [List.append_assoc, List.append_assoc] at c3
  exact c3
theorem c_putInstr (zw : Wd σ) (h : Pq_ σ 132 P) (hN : Nv_ P) {O : List Int} (hO : Xo_ σ O) {i : Nat} (hi : i < pN_ P.1) (hk : 0 ≤ pC_ P.1 i 1) (hlo : pC_ P.1 i 1 ≠ 3 → 0 ≤ pC_ P.1 i 2 ∧ pC_ P.1 i 2 < pL_ P.1) (hlen : O.length + 23 ≤ 320) : Out_ γ m_X5_putInstruction 15 [.ref 130, .ref 132, .int (i_ (i : Int))] σ O (oin_ P i) := by
  have hN10 := h.1.1.1
  have b3 := h.1.1.2.2.1
  have r1 := h.1.1.2.2.2.2 i 1
  have r3 := h.1.1.2.2.2.2 i 3
  have p1 := c_property (γ := γ) (a := 132) (z := i) (k := ((1 : Nat) : Int)) (Or.inl rfl) zw h.1 (by omega) (by omega)
  rw [pp_in hi (by decide)] at p1
  obtain ⟨a, ea⟩ : ∃ a, a = okd_ (pC_ P.1 i 1) := ⟨_, rfl⟩
  have ha : 13 ≤ a ∧ a ≤ 16 := by
    rw [ea]
    unfold okd_
    repeat' split
    all_goals omega
  have la := kb_51 a (by omega) ha.1 ha.2
  obtain ⟨s1, a1, a2, a3, a4⟩ := c_putText (γ := γ) zw hO (a := a) (by omega) (by omega)
  have h1 := pq_of h a4
  have L1 : (O ++ kt_ a).length = O.length + (kb_ a).length := by rw [List.length_append, kt_len]
  have p3 := c_property (γ := γ) (a := 132) (z := i) (k := ((3 : Nat) : Int)) (Or.inl rfl) a2 h1.1 (by omega) (by omega)
  rw [pp_in hi (by decide)] at p3
  obtain ⟨s2, b1, b2, b3', b4⟩ := c_putReg (γ := γ) a2 a3 (by rw [L1]; omega) r3
  have h2 := pq_of h1 b4
  have l3 := org_len (pC_ P.1 i 3)
  have L2 : (O ++ kt_ a ++ org_ (pC_ P.1 i 3)).length ≤ O.length + 8 := by rw [List.length_append, L1]; omega
  by_cases y3 : pC_ P.1 i 1 = 3
  · obtain ⟨t1, t2, t3, w1, w2, w3, q1, q2, q3, q4, q5, q6, q7⟩ := l_oend (γ := γ) b2 h2 hi b3' (by omega)
    have e16 : a = 16 := by
      rw [ea]
      unfold okd_
      rw [if_neg (by omega), if_neg (by omega), if_neg (by omega)]
    subst e16
    refine ⟨t3, fw_q (fun Q zQ => e_X5_putInstruction zw ?_), w3, ?_, of_tr (of_tr a4 b4) q7⟩
    · unfold p_X5_putInstruction_0
      refine ⟨_, σ, zw, p1, ?_⟩
      rw [y3]
      exact ⟨fun z => absurd z (by decide), fun _ => ⟨fun z => absurd z (by decide), fun _ => ⟨fun z => absurd z (by decide), fun _ => ⟨s1, a2, a1, _, s1, a2, p3, s2, b2, b1, fun _ => ⟨_, s2, b2, q1, t1, w1, q2, _, t1, w1, q3, t2, w2, q4, t3, w3, q5, zQ⟩, fun z => absurd rfl z⟩⟩⟩⟩
    · unfold oin_
      rw [if_pos y3, ← ea, List.nil_append]
      rw [List.append_assoc, List.append_assoc] at q6
      exact q6
  · have hl := hlo y3
    obtain ⟨l, el⟩ : ∃ l : Nat, pC_ P.1 i 2 = l := ⟨(pC_ P.1 i 2).toNat, by omega⟩
    have nm := hN l (by omega)
    have p2 := c_property (γ := γ) (a := 132) (z := i) (k := ((2 : Nat) : Int)) (Or.inl rfl) b2 h2.1 (by omega) (by omega)
    rw [pp_in hi (by decide), el] at p2
    obtain ⟨s3, c1, c2, c3, c4⟩ := c_putName (γ := γ) b2 b3' nm (by omega)
    have h3 := pq_of h2 c4
    have n8 := nm.1
    obtain ⟨t1, t2, t3, w1, w2, w3, q1, q2, q3, q4, q5, q6, q7⟩ := l_oend (γ := γ) c2 h3 hi c3 (by rw [List.length_append, List.length_cons]; omega)
    have q6b : Xo_ t3 (O ++ oin_ P i) := by
      unfold oin_
      rw [if_neg y3, ← ea, el, Int.toNat_natCast]
      rw [List.append_assoc, List.append_assoc, List.append_assoc] at q6
      exact q6
    have hk2 : pC_ P.1 i 1 = 0 ∨ pC_ P.1 i 1 = 1 ∨ pC_ P.1 i 1 = 2 := by omega
    refine ⟨t3, fw_q (fun Q zQ => e_X5_putInstruction zw ?_), w3, q6b, of_tr (of_tr (of_tr a4 b4) c4) q7⟩
    unfold p_X5_putInstruction_0
    refine ⟨_, σ, zw, p1, ?_⟩
    rcases hk2 with hk2 | hk2 | hk2
    · have e16 : a = 13 := by rw [ea, hk2]; rfl
      subst e16
      rw [hk2]
      exact ⟨fun _ => ⟨s1, a2, a1, _, s1, a2, p3, s2, b2, b1, fun z => absurd z (by decide), fun _ => ⟨_, s2, b2, p2, _, s2, b2, c_nameOf b2 h2 (by omega), s3, c2, c1, _, s3, c2, q1, t1, w1, q2, _, t1, w1, q3, t2, w2, q4, t3, w3, q5, zQ⟩⟩, fun z => absurd rfl z⟩
    · have e16 : a = 14 := by rw [ea, hk2]; rfl
      subst e16
      rw [hk2]
      exact ⟨fun z => absurd z (by decide), fun _ => ⟨fun _ => ⟨s1, a2, a1, _, s1, a2, p3, s2, b2, b1, fun z => absurd z (by decide), fun _ => ⟨_, s2, b2, p2, _, s2, b2, c_nameOf b2 h2 (by omega), s3, c2, c1, _, s3, c2, q1, t1, w1, q2, _, t1, w1, q3, t2, w2, q4, t3, w3, q5, zQ⟩⟩, fun z => absurd rfl z⟩⟩
    · have e16 : a = 15 := by rw [ea, hk2]; rfl
      subst e16
      rw [hk2]
      exact ⟨fun z => absurd z (by decide), fun _ => ⟨fun z => absurd z (by decide), fun _ => ⟨fun _ => ⟨s1, a2, a1, _, s1, a2, p3, s2, b2, b1, fun z => absurd z (by decide), fun _ => ⟨_, s2, b2, p2, _, s2, b2, c_nameOf b2 h2 (by omega), s3, c2, c1, _, s3, c2, q1, t1, w1, q2, _, t1, w1, q3, t2, w2, q4, t3, w3, q5, zQ⟩⟩, fun z => absurd rfl z⟩⟩⟩
theorem c_putLine (zw : Wd σ) {O : List Int} (hO : Xo_ σ O) {a : Nat} (ha : a < 46) (hl : O.length + (kb_ a).length + 1 ≤ 320) : Out_ γ m_X5_putLine 14 [.ref 130, .ref (30 + a)] σ O (kt_ a ++ [59]) := by
  obtain ⟨s1, a1, a2, a3, a4⟩ := c_putText (γ := γ) zw hO ha (by omega)
  obtain ⟨s2, b1, b2, b3, b4⟩ := c_put (γ := γ) a2 a3 (by rw [List.length_append, kt_len]; omega) (z := 59) (by decide)
  refine ⟨s2, fw_q (fun Q zQ => e_X5_putLine zw ?_), b2, by rw [List.append_assoc] at b3; exact b3, of_tr a4 b4⟩
  unfold p_X5_putLine_0
  exact ⟨s1, a2, a1, s2, b2, b1, zQ⟩
/-- changes, the latest last -/
def Xc_ (σ : st_T) (C : List Nat) : Prop := C.length ≤ 8 ∧ st_I σ 179 1 = i_ (C.length : Int) ∧ ∀ (k : Nat) (c : Nat), C[k]? = some c → st_I σ 180 k = i_ (c : Int)
def cf2_ (σ σ1 : st_T) : Prop := (∀ b, b ≠ 179 → b ≠ 180 → eh_ σ σ1 b) ∧ st_n σ1 = st_n σ ∧ st_c σ1 = st_c σ ∧ st_u σ1 = st_u σ
def cad_ (C : List Nat) (c : Nat) : List Nat := (if C.length = 8 then C.drop 1 else C) ++ [c]
theorem c_chadd (zw : Wd σ) {C : List Nat} (h : Xc_ σ C) (c : Nat) : ∃ s, fw_ γ m_X0_add 1 [.ref 179, .int (i_ (c : Int))] σ s ∧ Wd s ∧ Xc_ s (cad_ C c) ∧ cf2_ σ s := by
  obtain ⟨h1, h2, h3⟩ := h
  have app : ∀ (s : st_T) (D : List Nat), Wd s → D.length < 8 → (∀ (k : Nat) (c : Nat), D[k]? = some c → st_I s 180 k = i_ (c : Int)) → Xc_ (pt_I (pt_I s 180 D.length (i_ (c : Int))) 179 1 (i_ ((D.length + 1 : Nat) : Int))) (D ++ [c]) := by
    intro s D w hD hk
    refine ⟨by rw [List.length_append]; exact hD, by rw [st_sI, List.length_append]; rfl, fun k x hx => ?_⟩
    rw [st_pI, if_neg (by omega), st_pI]
    by_cases y : k < D.length
    · rw [List.getElem?_append_left y] at hx
      rw [if_neg (by omega)]
      exact hk k x hx
    · have z2 := (List.getElem?_eq_some_iff.mp hx).1
      rw [List.length_append, List.length_singleton] at z2
      have z3 : k = D.length := by omega
      subst z3
      rw [List.getElem?_append_right (Nat.le_refl _), Nat.sub_self] at hx
      have hx : some c = some x := hx
      rw [if_pos ⟨rfl, rfl⟩, Option.some.inj hx]
  unfold cad_
  by_cases y : C.length = 8
  · rw [if_pos y]
    obtain ⟨sa, ea⟩ : ∃ sa, sa = pt_W σ 180 (va_cpy (st_I σ 180) (st_I σ 180) 1 0 7) := ⟨_, rfl⟩
    have la : (C.drop 1).length = 7 := by rw [List.length_drop]; omega
    have X := app (pt_I sa 179 1 (i_ ((7 : Nat) : Int))) (C.drop 1) (by rw [ea]; exact zw) (by omega) (fun k x hx => by
      have hk := (List.getElem?_eq_some_iff.mp hx).1
      rw [List.getElem?_drop] at hx
      rw [st_pI, if_neg (by omega), ea, st_pW, if_pos rfl, pk_cpy_in (Nat.zero_le _) (by omega), Nat.sub_zero]
      exact h3 _ x hx)
    rw [la] at X
    refine ⟨_, fw_q (fun Q zQ => e_X0_add zw ?_), (show Wd (pt_I (pt_I (pt_I sa 179 1 (i_ ((7 : Nat) : Int))) 180 7 (i_ (c : Int))) 179 1 (i_ ((7 + 1 : Nat) : Int))) by rw [ea]; exact zw), X, ⟨fun b z1 z2 => ?_, by rw [ea]; rfl, by rw [ea]; rfl, by rw [ea]; rfl⟩⟩
    · unfold p_X0_add_0
      rw [← ea, h2, y]
      have e179 : st_I sa 179 1 = i_ ((8 : Nat) : Int) := by rw [ea, st_pW, if_neg (by omega), h2, y]
      have em8 : i_ ((8 : Nat) : Int) - (1 : Int32) = i_ ((7 : Nat) : Int) := by decide
      rw [e179, em8]
      refine ⟨fun _ => ⟨fun z => absurd z (by decide), fun _ => ⟨fun z => absurd z (by decide), fun _ => ⟨i_in (by decide) (by decide) (by decide), zQ⟩⟩⟩, fun z => absurd (by decide) z⟩
    · exact eh_tr (by rw [ea]; exact eh_W z2) (eh_tr (eh_I z1) (eh_tr (eh_I z2) (eh_I z1)))
  · rw [if_neg y]
    refine ⟨_, fw_q (fun Q zQ => e_X0_add zw ?_), (show Wd (pt_I (pt_I σ 180 C.length (i_ (c : Int))) 179 1 (i_ ((C.length + 1 : Nat) : Int))) from zw), app σ C zw (by omega) h3, ⟨fun b z1 z2 => eh_tr (eh_I z2) (eh_I z1), rfl, rfl, rfl⟩⟩
    unfold p_X0_add_0
    have ec : (i_ (C.length : Int)).toNatClampNeg = C.length := by rw [i_cl (by omega), Int.toNat_natCast]
    rw [h2, ec]
    simp (disch := omega) only [i_lit, i_eq, i_lt, i_le, i_in_iff, i_add]
    refine ⟨fun z => absurd z (by show ¬ (C.length : Int) = 8; omega), fun _ => ⟨fun z => by omega, fun _ => ⟨fun z => by omega, fun _ => ⟨by omega, zQ⟩⟩⟩⟩
theorem c_take (zw : Wd σ) {C : List Nat} (h : Xc_ σ C) : (C = [] ∧ fn_ γ m_X0_takeLatest 0 [.ref 179] σ (.int (i_ (-1))) σ) ∨ ∃ (D : List Nat) (c : Nat), C = D ++ [c] ∧ ∃ s, fn_ γ m_X0_takeLatest 0 [.ref 179] σ (.int (i_ (c : Int))) s ∧ Wd s ∧ Xc_ s D ∧ cf2_ σ s := by
  obtain ⟨h1, h2, h3⟩ := h
  rcases List.eq_nil_or_concat C with rfl | ⟨D, c, rfl⟩
  · left
    refine ⟨rfl, fn_q (fun Q zQ => e_X0_takeLatest zw ?_)⟩
    unfold p_X0_takeLatest_0
    rw [h2]
    exact ⟨fun _ => zQ, fun z => absurd (by decide) z⟩
  · right
    rw [List.concat_eq_append] at h1 h2 h3 ⊢
    have lD : (D ++ [c]).length = D.length + 1 := by rw [List.length_append]; rfl
    rw [lD] at h1 h2
    have hc := h3 D.length c (by rw [List.getElem?_append_right (Nat.le_refl _), Nat.sub_self]; rfl)
    refine ⟨D, c, rfl, pt_I σ 179 1 (i_ (D.length : Int)), fn_q (fun Q zQ => e_X0_takeLatest zw ?_), zw, ⟨by omega, st_sI _ _ _ _, fun k x hx => ?_⟩, ⟨fun b z1 z2 => eh_I z1, rfl, rfl, rfl⟩⟩
    · unfold p_X0_takeLatest_0
      have em : i_ ((D.length + 1 : Nat) : Int) - (1 : Int32) = i_ (D.length : Int) := by
        rw [i_lit 1, i_sub]
        congr 1
        show ((D.length + 1 : Nat) : Int) - 1 = _
        omega
      rw [h2, em, i_cl (by omega), Int.toNat_natCast, hc]
      simp (disch := omega) only [i_lit, i_le, i_in_iff]
      exact ⟨fun z => by omega, fun _ => ⟨fun _ => ⟨by omega, zQ⟩, fun z => by omega⟩⟩
    · have hk := (List.getElem?_eq_some_iff.mp hx).1
      rw [st_pI, if_neg (by omega)]
      exact h3 k x (by rw [List.getElem?_append_left hk]; exact hx)
end OV
