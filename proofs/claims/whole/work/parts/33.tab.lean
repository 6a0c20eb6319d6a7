/-! the table of states: what its methods do -/
section TK
variable {γ : ga_T} {σ σ1 : st_T} {L : List (Nat × Int64)} {b0 b1 b2 n0 n2 e : Nat}
abbrev tk_T : Type := Nat × Nat × Nat × Nat × Nat × Nat
def Nd_ (L : List (Nat × Int64)) : Prop := ∀ i j, i < L.length → j < L.length → wa_ L i = wa_ L j → i = j
def Tk_ (σ : st_T) (L : List (Nat × Int64)) (t : tk_T) : Prop := Ta_ σ L t.1 t.2.1 t.2.2.1 t.2.2.2.1 t.2.2.2.2.1 t.2.2.2.2.2 ∧
  (∃ sl, Sl_ σ t.2.2.1 t.2.2.2.2.2 sl ∧ Sv_ sl (wa_ L) t.2.2.2.2.2 L.length) ∧ 2 * L.length ≤ 2 ^ t.2.2.2.2.2 ∧ (∃ k, t.2.2.2.1 = 2 ^ k) ∧ (∃ k, t.2.2.2.2.1 = 2 ^ k) ∧ Nd_ L
/-- what a change of the table leaves as it was -/
def tf_ (σ : st_T) (t : tk_T) (σ1 : st_T) (t' : tk_T) : Prop := (∀ a, a < st_n σ → a ≠ 148 → a ≠ t.1 → a ≠ t.2.1 → a ≠ t.2.2.1 → eh_ σ σ1 a) ∧
  ((t'.1 = t.1 ∨ st_n σ ≤ t'.1) ∧ (t'.2.1 = t.2.1 ∨ st_n σ ≤ t'.2.1) ∧ (t'.2.2.1 = t.2.2.1 ∨ st_n σ ≤ t'.2.2.1)) ∧ (t.2.2.2.1 ≤ t'.2.2.2.1 ∧ t.2.2.2.2.1 ≤ t'.2.2.2.2.1) ∧ st_n σ ≤ st_n σ1 ∧
  128 * st_c σ1 + t.2.2.2.1 + t.2.2.2.2.1 ≤ 128 * st_c σ + t'.2.2.2.1 + t'.2.2.2.2.1 ∧ st_u σ1 + 4 * t.2.2.2.1 + 2 * t.2.2.2.2.1 ≤ st_u σ + 4 * t'.2.2.2.1 + 2 * t'.2.2.2.2.1
theorem tf_rf (t : tk_T) : tf_ σ t σ t := ⟨fun a _ _ _ _ _ => eh_rf a, ⟨Or.inl rfl, Or.inl rfl, Or.inl rfl⟩, ⟨Nat.le_refl _, Nat.le_refl _⟩, Nat.le_refl _, Nat.le_refl _, Nat.le_refl _⟩
theorem tf_tr {σ2 : st_T} {t t1 t2 : tk_T} (h : tf_ σ t σ1 t1) (k : tf_ σ1 t1 σ2 t2) : tf_ σ t σ2 t2 := by
  obtain ⟨h1, ⟨h2, h3, h4⟩, ⟨h5, h6⟩, h7, h8, h9⟩ := h
  obtain ⟨k1, ⟨k2, k3, k4⟩, ⟨k5, k6⟩, k7, k8, k9⟩ := k
  refine ⟨fun a z1 z2 z3 z4 z5 => eh_tr (h1 a z1 z2 z3 z4 z5) (k1 a (by omega) z2 (by omega) (by omega) (by omega)), ⟨by omega, by omega, by omega⟩, ⟨by omega, by omega⟩, by omega, by omega, by omega⟩
theorem ta_use {b2' n2' e' : Nat} (zT : Ta_ σ L b0 b1 b2 n0 n2 e) (zU : Us_ σ σ1 b2 n2 b2' n2' (2 ^ e')) (q1 : 9 ≤ e') (q2 : e' ≤ 20) (q3 : 2 ^ e' ≤ 2 * n0) (q4 : n2' ≤ 1048576) (z220 : 220 ≤ st_n σ) : Ta_ σ1 L b0 b1 b2' n0 n2' e' := by
  have y := ta_ne zT
  obtain ⟨⟨h1, h2, h3⟩, ⟨h4, h5, h6⟩, ⟨h7, h8, h9, h10⟩, ⟨h11, h12⟩, ⟨h13, h14, h15, h16, h17, h18, h19⟩, h20⟩ := zT
  obtain ⟨u1, u2, u3, u4, u5, u6, u7, u8, u9, u10⟩ := zU
  have e0 := u9 b0 h8.2 y.2.2.1 (Ne.symm y.1)
  have e1 := u9 b1 h9.2 y.2.2.2.1 (Ne.symm y.2.1)
  have en : st_n σ ≤ st_n σ1 := by
    rcases u10 with u | u
    · omega
    · omega
  refine ⟨⟨by rw [u8 0 (by decide)]; exact h1, by rw [u8 1 (by decide)]; exact h2, u2⟩, ⟨by rw [e0.2.2.2]; exact h4, by rw [e1.2.2.2]; exact h5, u3⟩, ⟨h7, ⟨h8.1, Nat.lt_of_lt_of_le h8.2 en⟩, ⟨h9.1, Nat.lt_of_lt_of_le h9.2 en⟩, ?_⟩, ⟨u6, by rw [u7 4 (by decide)]; exact h12⟩, ⟨q1, q2, u4, q4, q3, h18, h19⟩, fun i x z => ?_⟩
  · rcases u10 with u | u
    · rw [u.1]
      exact ⟨h10.1, Nat.lt_of_lt_of_le h10.2 en⟩
    · rw [u.1]
      exact ⟨Or.inr z220, by omega⟩
  · have z1 := h20 i x z
    rw [e0.2.1, e1.2.1]
    exact z1
theorem c_clear (zw : Wd σ) {t : tk_T} (zT : Tk_ σ L t) : ∃ σ1 t', fw_ γ m_X9_clear 1 [.ref 148] σ σ1 ∧ Wd σ1 ∧ Tk_ σ1 [] t' ∧ tf_ σ t σ1 t' := by
  obtain ⟨b0, b1, b2, n0, n2, e⟩ := t
  obtain ⟨zT, -, zL, ⟨k0, hk0⟩, ⟨k2, hk2⟩, -⟩ := zT
  dsimp only at zT zL hk0 hk2
  have y := ta_ne zT
  have y1 := zT.2.2.2.2.1
  have yn := zT.2.2.1
  have p9 : 2 ^ 9 ≤ 2 ^ e := Nat.pow_le_pow_right (by decide) y1.1
  have zv : Wd (pt_I σ 148 4 (i_ 0)) := zw
  have zT' : Ta_ (pt_I σ 148 4 (i_ 0)) [] b0 b1 b2 n0 n2 e := ⟨zT.1, zT.2.1, zT.2.2.1, ⟨by rw [st_pI, if_neg (by omega)]; exact zT.2.2.2.1.1, st_sI _ _ _ _⟩, ⟨y1.1, y1.2.1, y1.2.2.1, y1.2.2.2.1, y1.2.2.2.2.1, y1.2.2.2.2.2.1, Nat.zero_le _⟩, fun i x z => by simp at z⟩
  obtain ⟨σ1, b2', n2', u1, u2⟩ := c_useSlots (γ := γ) (N := 512) zv zT'.1.2.2 zT'.2.1.2.2 y1.2.2.2.1 y.2.2.2.2 (by decide) yn.2.2.2.2
  have u3 : b2' = b2 ∧ n2' = n2 ∧ st_n σ1 = st_n σ ∧ st_c σ1 = st_c σ ∧ st_u σ1 = st_u σ := by
    rcases u2.2.2.2.2.2.2.2.2.2 with u | u
    · exact u
    · omega
  obtain ⟨u4, u5, u6, u7, u8⟩ := u3
  subst u4 u5
  have p5 : 2 ^ 9 ≤ 2 * n0 := Nat.le_trans p9 y1.2.2.2.2.1
  refine ⟨σ1, (b0, b1, b2', n0, n2', 9), fw_q (fun Q zQ => e_X9_clear zw ?_), u2.1, ⟨ta_use (e' := 9) zT' u2 (by decide) (by decide) p5 y1.2.2.2.1 zw.2.2, ⟨fun _ => 0, fun s z => u2.2.2.2.2.1 s z, sv_0 _ _⟩, (show (0 : Nat) ≤ 2 ^ 9 from Nat.zero_le _), ⟨k0, hk0⟩, ⟨k2, hk2⟩, fun i j z => absurd z (Nat.not_lt_zero i)⟩, ?_⟩
  · unfold p_X9_clear_0
    exact ⟨σ1, u2.1, u1, zQ⟩
  · refine ⟨fun a z1 z2 z3 z4 z5 => eh_tr (eh_I z2) (u2.2.2.2.2.2.2.2.2.1 a z1 z2 z5), ⟨Or.inl rfl, Or.inl rfl, Or.inl rfl⟩, ⟨Nat.le_refl _, Nat.le_refl _⟩, by omega, ?_, ?_⟩
    · show 128 * st_c σ1 + n0 + n2' ≤ 128 * st_c σ + n0 + n2'
      omega
    · show st_u σ1 + 4 * n0 + 2 * n2' ≤ st_u σ + 4 * n0 + 2 * n2'
      omega
end TK
