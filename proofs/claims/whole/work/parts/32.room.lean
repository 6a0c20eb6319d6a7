/-! the table of states: room for one more -/
section RM
variable {γ : ga_T} {σ : st_T}
theorem i_div {m k : Nat} (q1 : m < 2147483648) (q2 : k < 2147483648) : i_ (m : Int) / i_ (k : Int) = i_ ((m / k : Nat) : Int) := by
  rw [← i_nat, ← i_nat, ← i_nat]
  exact (Int32.ofNat_div q1 q2).symm
/-- a longer copy of a row of longs -/
theorem c_copyOfL {b n N : Nat} (h1 : st_S σ b = (22, n)) (h2 : n < N) (h3 : N ≤ 1048576) (h4 : b < st_n σ) : ∃ σ1, fn_ γ m_J7_copyOf_c38d5 1 [.ref b, .int (i_ (N : Int))] σ (.ref (st_n σ)) σ1 ∧
    (Wd σ → Wd σ1) ∧ (∀ a, a < st_n σ → eh_ σ σ1 a) ∧ st_S σ1 (st_n σ) = (22, N) ∧ (∀ j, j < n → st_L σ1 (st_n σ) j = st_L σ b j) ∧ st_n σ1 = st_n σ + 1 ∧ st_c σ1 = st_c σ + 1 ∧ st_u σ1 = st_u σ + N := by
  refine ⟨pt_V (pt_N σ 22 N N) (st_n σ) (va_cpy (st_L (pt_N σ 22 N N) b) (st_L (pt_N σ 22 N N) (st_n σ)) 0 0 n), fn_q (fun Q zQ => e_J7_copyOf_c38d5 ?_), fun w => Wd_N w, fun a z => eh_tr (eh_N z) (eh_V (by omega)), if_pos rfl, fun j z => ?_, rfl, rfl, rfl⟩
  · unfold p_J7_copyOf_c38d5_0
    refine ⟨n, h1, ?_⟩
    rw [i_nat]
    simp (disch := omega) only [i_eq, i_lit, i_lt, i_cl, Int.toNat_natCast]
    refine ⟨fun z => by omega, fun _ => ⟨by omega, N, rfl, by omega, n, ?_, ?_⟩⟩
    · show (if b = st_n σ then (22, N) else st_S σ b) = _
      rw [if_neg (by omega)]
      exact h1
    · rw [i_nat]
      simp (disch := omega) only [i_lt]
      rw [if_neg (by omega)]
      simp (disch := omega) only [i_lt, i_cl, Int.toNat_natCast]
      exact ⟨by omega, by omega, by omega, zQ⟩
  · rw [st_pV, if_pos rfl, pk_cpy_in (Nat.zero_le j) (by omega)]
    show (if b = st_n σ then 0 else st_L σ b (0 + (j - 0))) = _
    rw [if_neg (by omega), Nat.zero_add, Nat.sub_zero]
variable {L : List (Nat × Int64)} {b0 b1 b2 n0 n2 e : Nat}
theorem ta_W (zT : Ta_ σ L b0 b1 b2 n0 n2 e) (f : Nat → Int32) : Ta_ (pt_W σ b2 f) L b0 b1 b2 n0 n2 e := by
  have y := ta_ne zT
  obtain ⟨h1, h2, h3, ⟨h4, h5⟩, h6, h7⟩ := zT
  refine ⟨h1, h2, h3, ⟨?_, ?_⟩, h6, h7⟩
  · rw [st_pW, if_neg (Ne.symm y.2.2.2.2)]
    exact h4
  · rw [st_pW, if_neg (Ne.symm y.2.2.2.2)]
    exact h5
theorem wa_some {i : Nat} (h : i < L.length) : ∃ x, L[i]? = some x ∧ x.1 = wa_ L i := by
  refine ⟨_, List.getElem?_eq_getElem h, ?_⟩
  rw [wa_eq (List.getElem?_eq_getElem h)]
/-- all numbers are laid again -/
theorem l_refill (zw : Wd σ) (zT : Ta_ σ L b0 b1 b2 n0 n2 e) (z5 : L.length < 2 ^ e) (z6 : ∀ i j, i < L.length → j < L.length → wa_ L i = wa_ L j → i = j) {Q : rs_T → st_T → Prop} (zQ : ∀ f sl, (∀ s, s < 2 ^ e → f s = i_ ((sl s : Nat) : Int)) → Sv_ sl (wa_ L) e L.length → Q (.inl none) (pt_W σ b2 f)) :
    ∀ k i : Nat, k + i = L.length → ∀ f sl, (∀ s, s < 2 ^ e → f s = i_ ((sl s : Nat) : Int)) → Sv_ sl (wa_ L) e i → vv_ γ m_X9_makeRoom 2 81 [(0, .ref 148), (1, .int (i_ (i : Int)))] [] (pt_W σ b2 f) Q := by
  have y1 := ta_len zT
  intro k
  induction k with
  | zero =>
    intro i zi f sl q1 q2
    have zi : i = L.length := by omega
    subst zi
    refine g_X9_makeRoom_81 zw ?_
    unfold p_X9_makeRoom_81
    rw [(ta_W zT f).2.2.2.1.2]
    exact ⟨fun _ => zQ f sl q1 q2, fun z => absurd (Int32.le_refl _) z⟩
  | succ k ih =>
    intro i zi f sl q1 q2
    have zW := ta_W zT f
    have zv : Wd (pt_W σ b2 f) := zw
    obtain ⟨x, x1, x2⟩ := wa_some (L := L) (i := i) (by omega)
    have x3 := (zT.2.2.2.2.2 i x x1).2.2
    have zS : Sl_ (pt_W σ b2 f) b2 e sl := fun s z => by
      rw [st_pW, if_pos rfl]
      exact q1 s z
    obtain ⟨s, y6, y5, y3⟩ := c_slot (γ := γ) zv zW zS q2 (by omega) x3 (by omega)
    have y8 : Sv_ (fun j => if j = s then i + 1 else sl j) (wa_ L) e (i + 1) := by
      rcases y3 with y3 | y3
      · exact y3.2.2 (wa_ L) (fun _ _ => rfl) x2.symm
      · have z3 := z6 _ _ (by omega) (by omega) (y3.2.2.trans x2)
        omega
    refine g_X9_makeRoom_81 zw ?_
    unfold p_X9_makeRoom_81
    rw [zW.2.2.2.1.2]
    simp (disch := omega) only [i_le]
    refine ⟨fun z => by omega, fun _ => ⟨_, _, zv, c_stateAt zv zW x1, _, _, zv, y5, ?_⟩⟩
    have y9 := ih (i + 1) (by omega) (fun j => if j = s then i_ (((i + 1 : Nat)) : Int) else f j) (fun j => if j = s then i + 1 else sl j) (fun j z => by
      by_cases y : j = s
      · rw [if_pos y, if_pos y]
      · rw [if_neg y, if_neg y]
        exact q1 j z) y8
    simp (disch := omega) only [i_lit, i_lt]
    refine ⟨fun z => by omega, fun _ => ⟨b2, zT.1.2.2, n2, zT.2.1.2.2, ?_⟩⟩
    rw [i_nat]
    simp (disch := omega) only [i_le, i_in_iff, i_cl, Int.toNat_natCast]
    refine ⟨fun z => by omega, fun _ => ⟨by omega, ?_⟩⟩
    rw [pW_I, i_add]
    rw [show ((i + 1 : Nat) : Int) = (i : Int) + 1 by omega] at y9
    exact y9
end RM
