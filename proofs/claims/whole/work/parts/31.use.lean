/-! the table of states: its slots made empty -/
section US
variable {γ : ga_T} {σ : st_T} {b b2 n n2 N : Nat}
theorem st_sI (σ : st_T) (a k : Nat) (v : Int32) : st_I (pt_I σ a k v) a k = v := by
  rw [st_pI]
  exact if_pos ⟨rfl, rfl⟩
theorem st_sL (σ : st_T) (a k : Nat) (v : Int64) : st_L (pt_L σ a k v) a k = v := by
  rw [st_pL]
  exact if_pos ⟨rfl, rfl⟩
theorem st_sR (σ : st_T) (a k : Nat) (v : Option Nat) : st_R (pt_R σ a k v) a k = v := by
  rw [st_pR]
  exact if_pos ⟨rfl, rfl⟩
theorem l_useSlots (zw : Wd σ) (h1 : st_R σ 148 2 = some b) (h2 : st_S σ b = (21, n)) (h3 : N ≤ n) (h4 : n ≤ 1048576) (h5 : st_I σ 148 3 = i_ (N : Int)) (h6 : b ≠ 148) {Q : rs_T → st_T → Prop} (zQ : Q (.inl none) (pt_W σ b (fun j => if j < N then 0 else st_I σ b j))) :
    ∀ k i : Nat, k + i = N → vv_ γ m_X9_useSlots 0 29 [(0, .ref 148), (2, .int (i_ (i : Int)))] [] (pt_W σ b (fun j => if j < i then 0 else st_I σ b j)) Q := by
  intro k
  induction k with
  | zero =>
    intro i zi
    have zi : i = N := by omega
    subst zi
    refine g_X9_useSlots_29 zw ?_
    unfold p_X9_useSlots_29
    rw [st_pW, if_neg (Ne.symm h6), h5]
    exact ⟨fun _ => zQ, fun z => absurd (Int32.le_refl _) z⟩
  | succ k ih =>
    intro i zi
    have y9 := ih (i + 1) (by omega)
    refine g_X9_useSlots_29 zw ?_
    unfold p_X9_useSlots_29
    rw [st_pW, if_neg (Ne.symm h6), h5]
    simp (disch := omega) only [i_le]
    refine ⟨fun z => by omega, fun _ => ⟨b, h1, n, h2, ?_⟩⟩
    rw [i_nat]
    simp (disch := omega) only [i_le, i_in_iff, i_cl, Int.toNat_natCast]
    refine ⟨fun z => by omega, fun _ => ⟨by omega, ?_⟩⟩
    rw [pW_I, pW_g σ b _ (fun j => if j < i + 1 then 0 else st_I σ b j) (fun j => ?_)]
    · rw [show ((i + 1 : Nat) : Int) = (i : Int) + 1 by omega, ← i_add, ← i_lit 1] at y9
      exact y9
    · by_cases z3 : j = i
      · rw [if_pos z3, if_pos (by omega)]
      · by_cases z4 : j < i
        · rw [if_neg z3, if_pos z4, if_pos (by omega)]
        · rw [if_neg z3, if_neg z4, if_neg (by omega)]
/-- what useSlots leaves -/
def Us_ (σ σ1 : st_T) (b2 n2 b2' n2' N : Nat) : Prop := Wd σ1 ∧ st_R σ1 148 2 = some b2' ∧ st_S σ1 b2' = (21, n2') ∧ N ≤ n2' ∧ (∀ s, s < N → st_I σ1 b2' s = 0) ∧ st_I σ1 148 3 = i_ (N : Int) ∧
  (∀ j, j ≠ 3 → st_I σ1 148 j = st_I σ 148 j) ∧ (∀ j, j ≠ 2 → st_R σ1 148 j = st_R σ 148 j) ∧ (∀ a, a < st_n σ → a ≠ 148 → a ≠ b2 → eh_ σ σ1 a) ∧
  ((b2' = b2 ∧ n2' = n2 ∧ st_n σ1 = st_n σ ∧ st_c σ1 = st_c σ ∧ st_u σ1 = st_u σ) ∨ (b2' = st_n σ ∧ n2' = N ∧ n2 < N ∧ st_n σ1 = st_n σ + 1 ∧ st_c σ1 = st_c σ + 1 ∧ st_u σ1 = st_u σ + N))
theorem c_useSlots (zw : Wd σ) (h1 : st_R σ 148 2 = some b2) (h2 : st_S σ b2 = (21, n2)) (h4 : n2 ≤ 1048576) (h6 : b2 ≠ 148) (h7 : N ≤ 1048576) (h8 : b2 < st_n σ) :
    ∃ σ1 b2' n2', fw_ γ m_X9_useSlots 0 [.ref 148, .int (i_ (N : Int))] σ σ1 ∧ Us_ σ σ1 b2 n2 b2' n2' N := by
  have z148 := zw.2.2
  by_cases y : N ≤ n2
  · refine ⟨pt_W (pt_I σ 148 3 (i_ (N : Int))) b2 (fun j => if j < N then 0 else st_I (pt_I σ 148 3 (i_ (N : Int))) b2 j), b2, n2, fw_q (fun Q zQ => e_X9_useSlots zw ?_), ?_⟩
    · unfold p_X9_useSlots_0
      refine ⟨b2, h1, n2, h2, ?_⟩
      rw [i_nat]
      simp (disch := omega) only [i_le]
      refine ⟨fun _ => ?_, fun z => by omega⟩
      have y9 := l_useSlots (γ := γ) (σ := pt_I σ 148 3 (i_ (N : Int))) zw h1 h2 y h4 (st_sI _ _ _ _) h6 zQ N 0 (by omega)
      rw [pW_id _ _ _ (fun j => if_neg (Nat.not_lt_zero j))] at y9
      exact y9
    · refine ⟨zw, h1, h2, y, fun s z => ?_, ?_, fun j z => ?_, fun j _ => rfl, fun a z1 z2 z3 => ?_, Or.inl ⟨rfl, rfl, rfl, rfl, rfl⟩⟩
      · rw [st_pW, if_pos rfl, if_pos z]
      · rw [st_pW, if_neg (Ne.symm h6), st_pI, if_pos ⟨rfl, rfl⟩]
      · rw [st_pW, if_neg (Ne.symm h6), st_pI, if_neg (fun x => z x.2)]
      · exact eh_tr (eh_I z2) (eh_W z3)
  · refine ⟨pt_W (pt_R (pt_N (pt_I σ 148 3 (i_ (N : Int))) 21 N N) 148 2 (some (st_n σ))) (st_n σ) (fun j => if j < N then 0 else st_I (pt_R (pt_N (pt_I σ 148 3 (i_ (N : Int))) 21 N N) 148 2 (some (st_n σ))) (st_n σ) j), st_n σ, N, fw_q (fun Q zQ => e_X9_useSlots zw ?_), ?_⟩
    · unfold p_X9_useSlots_0
      refine ⟨b2, h1, n2, h2, ?_⟩
      rw [i_nat]
      simp (disch := omega) only [i_le, i_lit, i_lt, i_cl, Int.toNat_natCast]
      refine ⟨fun z => by omega, fun _ => ⟨by omega, N, rfl, by omega, ?_⟩⟩
      have y9 := l_useSlots (γ := γ) (σ := pt_R (pt_N (pt_I σ 148 3 (i_ (N : Int))) 21 N N) 148 2 (some (st_n σ))) (b := st_n σ) (n := N) (Wd_R (Wd_N zw) wN_148_2) (st_sR _ _ _ _) (if_pos rfl) (Nat.le_refl _) h7 (by
        show (if 148 = st_n σ then 0 else st_I (pt_I σ 148 3 (i_ (N : Int))) 148 3) = _
        rw [if_neg (by omega), st_pI, if_pos ⟨rfl, rfl⟩]) (by omega) zQ N 0 (by omega)
      rw [pW_id _ _ _ (fun j => if_neg (Nat.not_lt_zero j))] at y9
      exact y9
    · refine ⟨Wd_R (Wd_N zw) wN_148_2, st_sR _ _ _ _, if_pos rfl, Nat.le_refl _, fun s z => ?_, ?_, fun j z => ?_, fun j z => ?_, fun a z1 z2 z3 => ?_, Or.inr ⟨rfl, rfl, by omega, rfl, rfl, rfl⟩⟩
      · rw [st_pW, if_pos rfl, if_pos z]
      · rw [st_pW, if_neg (by omega)]
        show (if 148 = st_n σ then 0 else st_I (pt_I σ 148 3 (i_ (N : Int))) 148 3) = _
        rw [if_neg (by omega), st_pI, if_pos ⟨rfl, rfl⟩]
      · rw [st_pW, if_neg (by omega)]
        show (if 148 = st_n σ then 0 else st_I (pt_I σ 148 3 (i_ (N : Int))) 148 j) = _
        rw [if_neg (by omega), st_pI, if_neg (fun x => z x.2)]
      · show (if 148 = 148 ∧ j = 2 then some (st_n σ) else if 148 = st_n σ then none else st_R σ 148 j) = _
        rw [if_neg (fun x => z x.2), if_neg (by omega)]
      · refine eh_tr (eh_tr (eh_tr (eh_I z2) (eh_N z1)) (eh_R z2)) (eh_W (by omega))
end US
