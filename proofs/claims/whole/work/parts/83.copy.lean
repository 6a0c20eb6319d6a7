/-! Program: it is copied, fences are put in and taken out; changes -/
section CF
variable {γ : ga_T} {a : Nat} {σ σ1 : st_T} {P : pq_T}
theorem c_copyFrom (zw : Wd σ) (h : Pq_ σ 137 P) : ∃ σ1, fw_ γ m_X7_copyFrom 1 [.ref 132, .ref 137] σ σ1 ∧ Wd σ1 ∧ Pq_ σ1 132 P ∧ gq_ 132 σ σ1 := by
  have key : sp_ γ m_X7_copyFrom 1 [.ref 132, .ref 137] σ (fun r s => r = .inl none ∧ (Wd s ∧ Pq_ s 132 P ∧ gq_ 132 σ s)) := by
    refine e_X7_copyFrom (a := 132) (Or.inl rfl) zw ?_
    unfold p_X7_copyFrom_0
    generalize e1 : pt_V σ 133 (va_cpy (st_L σ 138) (st_L σ 133) 0 0 3) = s1
    generalize e2 : pt_W s1 134 (va_cpy (st_I s1 139) (st_I s1 134) 0 0 3) = s2
    generalize e3 : pt_W s2 135 (va_cpy (st_I s2 140) (st_I s2 135) 0 0 60) = s3
    generalize e4 : pt_W s3 136 (va_cpy (st_I s3 141) (st_I s3 136) 0 0 32) = s4
    have w4 : Wd s4 := by rw [← e4, ← e3, ← e2, ← e1]; exact zw
    have o1 : ∀ b, b ≠ 133 → eh_ σ s1 b := fun b z => by rw [← e1]; exact eh_V z
    have o2 : ∀ b, b ≠ 134 → eh_ s1 s2 b := fun b z => by rw [← e2]; exact eh_W z
    have o3 : ∀ b, b ≠ 135 → eh_ s2 s3 b := fun b z => by rw [← e3]; exact eh_W z
    have o4 : ∀ b, b ≠ 136 → eh_ s3 s4 b := fun b z => by rw [← e4]; exact eh_W z
    have q1 : ∀ j, j < 3 → st_L s1 133 j = st_L σ 138 j := fun j zj => by
      rw [← e1, st_pV, if_pos rfl, pk_cpy_in (Nat.zero_le _) (by omega), Nat.zero_add, Nat.sub_zero]
    have q2 : ∀ j, j < 3 → st_I s2 134 j = st_I s1 139 j := fun j zj => by
      rw [← e2, st_pW, if_pos rfl, pk_cpy_in (Nat.zero_le _) (by omega), Nat.zero_add, Nat.sub_zero]
    have q3 : ∀ j, j < 60 → st_I s3 135 j = st_I s2 140 j := fun j zj => by
      rw [← e3, st_pW, if_pos rfl, pk_cpy_in (Nat.zero_le _) (by omega), Nat.zero_add, Nat.sub_zero]
    have q4 : ∀ j, j < 32 → st_I s4 136 j = st_I s3 141 j := fun j zj => by
      rw [← e4, st_pW, if_pos rfl, pk_cpy_in (Nat.zero_le _) (by omega), Nat.zero_add, Nat.sub_zero]
    have d4 : ∀ j, st_I s4 137 j = st_I σ 137 j := fun j => by
      rw [(o4 137 (by decide)).1, (o3 137 (by decide)).1, (o2 137 (by decide)).1, (o1 137 (by decide)).1]
    obtain ⟨⟨⟨r1, r2, r3, r4, r5⟩, r6, r7, r8, r9, r10⟩, b2, b3, b4, b5⟩ := h
    generalize e5 : pt_I s4 132 4 (st_I s4 137 4) = s5
    generalize e6 : pt_I s5 132 5 (st_I s4 137 5) = s6
    generalize e7 : pt_I s6 132 6 (st_I s4 137 6) = s7
    have w7 : Wd s7 := by rw [← e7, ← e6, ← e5]; exact w4
    have o7 : ∀ b, b ≠ 132 → eh_ s4 s7 b := fun b z => by
      rw [← e7, ← e6, ← e5]
      exact eh_tr (eh_tr (eh_I z) (eh_I z)) (eh_I z)
    have f4 : st_I s7 132 4 = st_I σ 137 4 := by
      rw [← e7, st_pI, if_neg (by omega), ← e6, st_pI, if_neg (by omega), ← e5, st_sI, d4]
    have f5 : st_I s7 132 5 = st_I σ 137 5 := by
      rw [← e7, st_pI, if_neg (by omega), ← e6, st_sI, d4]
    have f6 : st_I s7 132 6 = st_I σ 137 6 := by
      rw [← e7, st_sI, d4]
    refine ⟨rfl, w7, ⟨⟨⟨r1, r2, r3, r4, r5⟩, ?_, ?_, ?_, fun l zl => ?_, fun i k z1 z2 => ?_⟩, fun l zl => ?_, b3, ?_, fun k u z => ?_⟩, ⟨fun b zb => ?_, ?_, ?_, ?_⟩⟩
    · rw [st_pI, if_neg (by omega), f6]
      exact r6
    · rw [st_pI, if_neg (by omega), f5]
      exact r7
    · rw [st_pI, if_neg (by omega), f4]
      exact r8
    · have y := r9 l zl
      rw [st_pI, if_neg (by omega), (o7 134 (by decide)).1, (o4 134 (by decide)).1, (o3 134 (by decide)).1, q2 l (by omega), (o1 139 (by decide)).1]
      exact y
    · have y := r10 i k z1 z2
      rw [st_pI, if_neg (by omega), (o7 135 (by decide)).1, (o4 135 (by decide)).1, q3 _ (by omega), (o2 140 (by decide)).1, (o1 140 (by decide)).1]
      exact y
    · have y := b2 l zl
      show st_L s7 133 l = _
      rw [(o7 133 (by decide)).2.1, (o4 133 (by decide)).2.1, (o3 133 (by decide)).2.1, (o2 133 (by decide)).2.1, q1 l (by omega)]
      exact y
    · rw [st_sI, d4]
      exact b4
    · have y := b5 k u z
      have zk := (List.getElem?_eq_some_iff.mp z).1
      rw [st_pI, if_neg (by omega), (o7 136 (by decide)).1, q4 k (by omega), (o3 141 (by decide)).1, (o2 141 (by decide)).1, (o1 141 (by decide)).1]
      exact y
    · exact eh_tr (o1 b (by omega)) (eh_tr (o2 b (by omega)) (eh_tr (o3 b (by omega)) (eh_tr (o4 b (by omega)) (eh_tr (o7 b (by omega)) (eh_I (by omega))))))
    · rw [← e7, ← e6, ← e5, ← e4, ← e3, ← e2, ← e1]
      rfl
    · rw [← e7, ← e6, ← e5, ← e4, ← e3, ← e2, ← e1]
      rfl
    · rw [← e7, ← e6, ← e5, ← e4, ← e3, ← e2, ← e1]
      rfl
  obtain ⟨σ1, y1, y2⟩ := fw_of key
  exact ⟨σ1, y1, y2⟩
/-- a fence is put before an instruction -/
def ppf_ (p : pr_T) (i0 t : Nat) : pr_T := (pN_ p + 1, pT_ p, pL_ p, pI_ p, fun i k => if i < i0 then pC_ p i k else if i = i0 then rw6_ t 3 (-1) (-1) (-1) (-1) k else pC_ p (i - 1) k)
theorem c_putFence (zha : is_pg a) (zw : Wd σ) (h : Pq_ σ a P) (hN : pN_ P.1 < 10) {i0 t : Nat} (hi : i0 ≤ pN_ P.1) (ht : t < 4) : ∃ σ1, fw_ γ m_X7_putFence 1 [.ref a, .int (i_ (i0 : Int)), .int (i_ (t : Int))] σ σ1 ∧ Wd σ1 ∧ Pq_ σ1 a (ppf_ P.1 i0 t, P.2) ∧ gq_ a σ σ1 := by
  obtain ⟨⟨⟨r1, r2, r3, r4, r5⟩, r6, r7, r8, r9, r10⟩, b2, b3, b4, b5⟩ := h
  obtain ⟨sa, ea⟩ : ∃ sa, sa = pt_W σ (a + 3) (va_cpy (st_I σ (a + 3)) (st_I σ (a + 3)) (6 * i0) (6 * i0 + 6) (6 * (pN_ P.1 - i0))) := ⟨_, rfl⟩
  obtain ⟨s0, e0⟩ : ∃ s0, s0 = pt_I sa a 6 (i_ ((pN_ P.1 + 1 : Nat) : Int)) := ⟨_, rfl⟩
  have w0 : Wd s0 := by rw [e0, ea]; exact zw
  have ka : ∀ b, b ≠ a + 3 → eh_ σ sa b := fun b z => by rw [ea]; exact eh_W z
  have k0 : ∀ b, b ≠ a → eh_ sa s0 b := fun b z => by rw [e0]; exact eh_I z
  have n0 : st_I s0 a 6 = i_ ((pN_ P.1 + 1 : Nat) : Int) := by rw [e0]; exact st_sI _ _ _ _
  have o0 : ∀ j, j ≠ 6 → st_I s0 a j = st_I σ a j := fun j zj => by rw [e0, st_pI, if_neg (by omega), (ka a (by omega)).1]
  have c0 : ∀ j, st_I s0 (a + 3) j = if 6 * i0 + 6 ≤ j ∧ j < 6 * i0 + 6 + 6 * (pN_ P.1 - i0) then st_I σ (a + 3) (6 * i0 + (j - (6 * i0 + 6))) else st_I σ (a + 3) j := fun j => by
    rw [(k0 (a + 3) (by omega)).1, ea, st_pW, if_pos rfl]
    rfl
  obtain ⟨row, hrow⟩ : ∃ row, row = rw6_ (t : Int) 3 (-1) (-1) (-1) (-1) := ⟨_, rfl⟩
  obtain ⟨s1, a1, w1, R1⟩ := c_row (γ := γ) zha (row_0 (row := row) w0) (i := i0) (by omega) (by decide)
  obtain ⟨s2, a2, w2, R2⟩ := c_row (γ := γ) zha R1 (by omega) (by decide)
  obtain ⟨s3, a3, w3, R3⟩ := c_row (γ := γ) zha R2 (by omega) (by decide)
  obtain ⟨s4, a4, w4, R4⟩ := c_row (γ := γ) zha R3 (by omega) (by decide)
  obtain ⟨s5, a5, w5, R5⟩ := c_row (γ := γ) zha R4 (by omega) (by decide)
  obtain ⟨s6, a6, w6, R6⟩ := c_row (γ := γ) zha R5 (by omega) (by decide)
  have q0 : row 0 = t := by rw [hrow]; rfl
  have q1 : row (0 + 1) = 3 := by rw [hrow]; rfl
  have q2 : row (0 + 1 + 1) = -1 := by rw [hrow]; rfl
  have q3 : row (0 + 1 + 1 + 1) = -1 := by rw [hrow]; rfl
  have q4 : row (0 + 1 + 1 + 1 + 1) = -1 := by rw [hrow]; rfl
  have q5 : row (0 + 1 + 1 + 1 + 1 + 1) = -1 := by rw [hrow]; rfl
  rw [q0] at a1
  rw [q1] at a2
  rw [q2] at a3
  rw [q3] at a4
  rw [q4] at a5
  rw [q5] at a6
  obtain ⟨-, f1, f2, f3, f4, f5⟩ := R6
  refine ⟨s6, fw_q (fun Q zQ => e_X7_putFence zha zw ?_), w6, ⟨⟨⟨hN, r2, r3, r4, fun i j => ?_⟩, ?_, ?_, ?_, fun m zm => ?_, fun i j z1 z2 => ?_⟩, fun m zm => ?_, b3, ?_, fun m u z => ?_⟩, ?_⟩
  · unfold p_X7_putFence_0
    have x1 : i_ (i0 : Int) * (6 : Int32) = i_ ((6 * i0 : Nat) : Int) := by
      rw [i_lit 6, i_mul]
      congr 1
      show (i0 : Int) * 6 = _
      omega
    have x2 : i_ ((6 * i0 : Nat) : Int) + (6 : Int32) = i_ ((6 * i0 + 6 : Nat) : Int) := by
      rw [i_lit 6, i_add]
      rfl
    have x3 : (i_ (pN_ P.1 : Int) - i_ (i0 : Int)) * (6 : Int32) = i_ ((6 * (pN_ P.1 - i0) : Nat) : Int) := by
      rw [i_lit 6, i_sub, i_mul]
      congr 1
      show ((pN_ P.1 : Int) - (i0 : Int)) * 6 = _
      omega
    rw [r6, x1, x2, x3, i_cl (by omega), i_cl (by omega), i_cl (by omega), Int.toNat_natCast, Int.toNat_natCast, Int.toNat_natCast, ← ea]
    have x4 : st_I sa a 6 + 1 = i_ ((pN_ P.1 + 1 : Nat) : Int) := by
      rw [(ka a (by omega)).1, r6, i_lit 1, i_add]
      rfl
    rw [x4, ← e0]
    simp (disch := omega) only [i_lit, i_le, i_lt]
    exact ⟨fun z => by omega, fun _ => ⟨fun z => by omega, fun _ => ⟨fun z => by omega, fun _ => ⟨by omega, by omega, by omega, by omega, by omega, s1, w1, a1, s2, w2, a2, s3, w3, a3, s4, w4, a4, s5, w5, a5, s6, w6, a6, zQ⟩⟩⟩⟩
  · show -1 ≤ (if i < i0 then pC_ P.1 i j else if i = i0 then rw6_ (t : Int) 3 (-1) (-1) (-1) (-1) j else pC_ P.1 (i - 1) j) ∧ (if i < i0 then pC_ P.1 i j else if i = i0 then rw6_ (t : Int) 3 (-1) (-1) (-1) (-1) j else pC_ P.1 (i - 1) j) ≤ 3
    split
    · exact r5 i j
    · split
      · unfold rw6_
        repeat' split
        all_goals omega
      · exact r5 (i - 1) j
  · rw [(f1 a (by omega)).1, n0]
    rfl
  · rw [(f1 a (by omega)).1, o0 5 (by decide)]
    exact r7
  · rw [(f1 a (by omega)).1, o0 4 (by decide)]
    exact r8
  · rw [(f1 (a + 2) (by omega)).1, (k0 (a + 2) (by omega)).1, (ka (a + 2) (by omega)).1]
    exact r9 m zm
  · have z1 : i < pN_ P.1 + 1 := z1
    rw [f2, c0]
    show _ = i_ (if i < i0 then pC_ P.1 i j else if i = i0 then rw6_ (t : Int) 3 (-1) (-1) (-1) (-1) j else pC_ P.1 (i - 1) j)
    by_cases y : i < i0
    · rw [if_pos y, if_neg (by omega), if_neg (by omega)]
      exact r10 i j (by omega) z2
    · rw [if_neg y]
      by_cases y2 : i = i0
      · subst y2
        rw [if_pos rfl, if_pos (by omega), hrow, show 6 * i + j - 6 * i = j by omega]
      · rw [if_neg y2, if_neg (by omega), if_pos (by omega), show 6 * i0 + (6 * i + j - (6 * i0 + 6)) = 6 * (i - 1) + j by omega]
        exact r10 (i - 1) j (by omega) z2
  · rw [(f1 (a + 1) (by omega)).2.1, (k0 (a + 1) (by omega)).2.1, (ka (a + 1) (by omega)).2.1]
    exact b2 m zm
  · rw [(f1 a (by omega)).1, o0 7 (by decide)]
    exact b4
  · rw [(f1 (a + 4) (by omega)).1, (k0 (a + 4) (by omega)).1, (ka (a + 4) (by omega)).1]
    exact b5 m u z
  · refine ⟨fun b zb => eh_tr (ka b (by omega)) (eh_tr (k0 b (by omega)) (f1 b (by omega))), ?_, ?_, ?_⟩
    · rw [f3, e0, ea]; rfl
    · rw [f4, e0, ea]; rfl
    · rw [f5, e0, ea]; rfl
/-- an instruction is taken out -/
def ppd_ (p : pr_T) (i0 : Nat) : pr_T := (pN_ p - 1, pT_ p, pL_ p, pI_ p, fun i k => if i < i0 then pC_ p i k else pC_ p (i + 1) k)
theorem c_drop (zha : is_pg a) (zw : Wd σ) (h : Pq_ σ a P) {i0 : Nat} (hi : i0 < pN_ P.1) : ∃ σ1, fw_ γ m_X7_dropInstruction 1 [.ref a, .int (i_ (i0 : Int))] σ σ1 ∧ Wd σ1 ∧ Pq_ σ1 a (ppd_ P.1 i0, P.2) ∧ gq_ a σ σ1 := by
  obtain ⟨⟨⟨r1, r2, r3, r4, r5⟩, r6, r7, r8, r9, r10⟩, b2, b3, b4, b5⟩ := h
  obtain ⟨sa, ea⟩ : ∃ sa, sa = pt_W σ (a + 3) (va_cpy (st_I σ (a + 3)) (st_I σ (a + 3)) (6 * i0 + 6) (6 * i0) (6 * (pN_ P.1 - i0 - 1))) := ⟨_, rfl⟩
  obtain ⟨s0, e0⟩ : ∃ s0, s0 = pt_I sa a 6 (i_ ((pN_ P.1 - 1 : Nat) : Int)) := ⟨_, rfl⟩
  have w0 : Wd s0 := by rw [e0, ea]; exact zw
  have ka : ∀ b, b ≠ a + 3 → eh_ σ sa b := fun b z => by rw [ea]; exact eh_W z
  have k0 : ∀ b, b ≠ a → eh_ sa s0 b := fun b z => by rw [e0]; exact eh_I z
  have n0 : st_I s0 a 6 = i_ ((pN_ P.1 - 1 : Nat) : Int) := by rw [e0]; exact st_sI _ _ _ _
  have o0 : ∀ j, j ≠ 6 → st_I s0 a j = st_I σ a j := fun j zj => by rw [e0, st_pI, if_neg (by omega), (ka a (by omega)).1]
  have c0 : ∀ j, st_I s0 (a + 3) j = if 6 * i0 ≤ j ∧ j < 6 * i0 + 6 * (pN_ P.1 - i0 - 1) then st_I σ (a + 3) (6 * i0 + 6 + (j - 6 * i0)) else st_I σ (a + 3) j := fun j => by
    rw [(k0 (a + 3) (by omega)).1, ea, st_pW, if_pos rfl]
    rfl
  refine ⟨s0, fw_q (fun Q zQ => e_X7_dropInstruction zha zw ?_), w0, ⟨⟨⟨by show pN_ P.1 - 1 ≤ 10; omega, r2, r3, r4, fun i j => ?_⟩, n0, ?_, ?_, fun m zm => ?_, fun i j z1 z2 => ?_⟩, fun m zm => ?_, b3, ?_, fun m u z => ?_⟩, ?_⟩
  · unfold p_X7_dropInstruction_0
    have x1 : i_ (i0 : Int) * (6 : Int32) = i_ ((6 * i0 : Nat) : Int) := by
      rw [i_lit 6, i_mul]
      congr 1
      show (i0 : Int) * 6 = _
      omega
    have x2 : i_ ((6 * i0 : Nat) : Int) + (6 : Int32) = i_ ((6 * i0 + 6 : Nat) : Int) := by
      rw [i_lit 6, i_add]
      rfl
    have x3 : ((i_ (pN_ P.1 : Int) - i_ (i0 : Int)) - (1 : Int32)) * (6 : Int32) = i_ ((6 * (pN_ P.1 - i0 - 1) : Nat) : Int) := by
      rw [i_lit 6, i_lit 1, i_sub, i_sub, i_mul]
      congr 1
      show ((pN_ P.1 : Int) - (i0 : Int) - 1) * 6 = _
      omega
    rw [r6, x1, x2, x3, i_cl (by omega), i_cl (by omega), i_cl (by omega), Int.toNat_natCast, Int.toNat_natCast, Int.toNat_natCast, ← ea]
    have x4 : st_I sa a 6 - 1 = i_ ((pN_ P.1 - 1 : Nat) : Int) := by
      rw [(ka a (by omega)).1, r6, i_lit 1, i_sub]
      congr 1
      show (pN_ P.1 : Int) - 1 = _
      omega
    rw [x4, ← e0]
    simp (disch := omega) only [i_lit, i_le, i_lt]
    exact ⟨fun z => by omega, fun _ => ⟨fun z => by omega, fun _ => ⟨fun z => by omega, fun _ => ⟨by omega, by omega, by omega, by omega, by omega, zQ⟩⟩⟩⟩
  · show -1 ≤ (if i < i0 then pC_ P.1 i j else pC_ P.1 (i + 1) j) ∧ (if i < i0 then pC_ P.1 i j else pC_ P.1 (i + 1) j) ≤ 3
    split
    · exact r5 i j
    · exact r5 (i + 1) j
  · rw [o0 5 (by decide)]
    exact r7
  · rw [o0 4 (by decide)]
    exact r8
  · rw [(k0 (a + 2) (by omega)).1, (ka (a + 2) (by omega)).1]
    exact r9 m zm
  · have z1 : i < pN_ P.1 - 1 := z1
    rw [c0]
    show _ = i_ (if i < i0 then pC_ P.1 i j else pC_ P.1 (i + 1) j)
    by_cases y : i < i0
    · rw [if_pos y, if_neg (by omega)]
      exact r10 i j (by omega) z2
    · rw [if_neg y, if_pos (by omega), show 6 * i0 + 6 + (6 * i + j - 6 * i0) = 6 * (i + 1) + j by omega]
      exact r10 (i + 1) j (by omega) z2
  · rw [(k0 (a + 1) (by omega)).2.1, (ka (a + 1) (by omega)).2.1]
    exact b2 m zm
  · rw [o0 7 (by decide)]
    exact b4
  · rw [(k0 (a + 4) (by omega)).1, (ka (a + 4) (by omega)).1]
    exact b5 m u z
  · exact ⟨fun b zb => eh_tr (ka b (by omega)) (k0 b (by omega)), by rw [e0, ea]; rfl, by rw [e0, ea]; rfl, by rw [e0, ea]; rfl⟩
end CF
