/-! the class's machine: a step that reads another value than a code has -/
section CT
variable {γ : ga_T} {σ : st_T} {p : pr_T} {m : Nat} {F : Nat → Bool} {S S2 : gs_T} {t : Nat}
/-- the digit of a register in a code -/
def dr_ (p : pr_T) (c q : Nat) : Nat := c / 2 ^ (2 * (2 * pT_ p + pL_ p - 1 - q)) % 4
def ctr_ (p : pr_T) (c : Nat) (S S2 : gs_T) (t : Nat) : Bool :=
  decide (sP_ S t < gl_ (gcl_ p 0 (fun _ => false)) t ∧ sP_ S2 t ≠ sP_ S t ∧ (pC_ p (gB0_ p t + sP_ S t) 1 = 1 ∨ pC_ p (gB0_ p t + sP_ S t) 1 = 2) ∧ sR_ S2 (2 * t + (pC_ p (gB0_ p t + sP_ S t) 3).toNat) ≠ dr_ p c (2 * t + (pC_ p (gB0_ p t + sP_ S t) 3).toNat))
theorem l_and3 {n : Nat} (q : n < 2 ^ 63) : lN n &&& (3 : Int64) = lN (n % 4) := by
  rw [show (3 : Int64) = lN 3 from rfl, l_and (Nat.lt_trans q (by decide)) (by decide), n_a3]
theorem lN_0 {n : Nat} (q : n < 4) : (lN n = (0 : Int64)) = (n = 0) := by
  rw [show (0 : Int64) = lN 0 from rfl]
  exact lN_inj (by omega) (by omega)
theorem xor4 {a b : Nat} (q1 : a < 4) (q2 : b < 4) : (a ^^^ b = 0) = (a = b) := by
  have key : ∀ x y : Fin 4, (x.1 ^^^ y.1 = 0) = (x.1 = y.1) := by decide
  exact key ⟨a, q1⟩ ⟨b, q2⟩
theorem c_contra (zw : Wd σ) (zP : Wp_ p) (zM : Mc_ σ p m F) (zV : Vg_ p S) (zV2 : Vg_ p S2) (q1 : t < pT_ p) {c : Nat} (zc : c < 4194304) : fn_ γ m_X4_isContradicted 2 [.ref 153, .long (lN (en_ p S)), .long (lN (en_ p S2)), .int (i_ (t : Int)), .int (i_ (c : Int))] σ (.int (i_ (if ctr_ p c S S2 t = true then 1 else 0))) σ := fn_q (fun Q zQ => e_X4_isContradicted zw (by
  have b1 := zP.1.2.1
  have b2 := zP.1.1
  have b3 := zP.1.2.2.1
  have b4 := gl_le (m := m) (F := F) (t := t) zP
  have b0 := gl_T (m := m) (F := F) zP (t := t)
  unfold p_X4_isContradicted_0
  refine ⟨_, _, zw, c_next zw zP zM zV q1, ?_⟩
  have eg : gl_ (gcl_ p 0 (fun _ => false)) t = gl_ (gcl_ p m F) t := rfl
  by_cases y1 : sP_ S t < gl_ (gcl_ p m F) t
  · rw [if_pos y1]
    obtain ⟨n, hn⟩ : ∃ n, n = gB0_ p t + sP_ S t := ⟨_, rfl⟩
    rw [← hn]
    have zn : n < pN_ p := by omega
    have bn := zP.2.1 n zn
    have bk := zP.1.2.2.2.2 n 1
    have zth : pC_ p n 0 = t := (gB_th zP zn).mpr ⟨by omega, by
      have y5 : gl_ (gcl_ p m F) t = gB0_ p (t + 1) - gB0_ p t := rfl
      omega⟩
    have mt := zM.2.2.2.1 n zn
    simp (disch := omega) only [i_lit, i_lt, i_le, i_in_iff, i_cl, Int.toNat_natCast]
    refine ⟨fun z => by omega, fun _ => ⟨fun z => by omega, fun _ => ⟨_, _, zw, c_next zw zP zM zV2 q1, ?_⟩⟩⟩
    have eq2 : ((if sP_ S2 t < gl_ (gcl_ p m F) t then ((gB0_ p t + sP_ S2 t : Nat) : Int) else -1) = (n : Int)) = (sP_ S2 t = sP_ S t) := by
      apply propext
      split
      · omega
      · constructor
        · omega
        · omega
    have rng : -2147483648 ≤ (if sP_ S2 t < gl_ (gcl_ p m F) t then ((gB0_ p t + sP_ S2 t : Nat) : Int) else -1) ∧ (if sP_ S2 t < gl_ (gcl_ p m F) t then ((gB0_ p t + sP_ S2 t : Nat) : Int) else -1) < 2147483648 := by
      split
      · omega
      · omega
    rw [i_eq rng (by omega), eq2, mt.1, mt.2.2.2.1]
    have ebl : ∀ b, ctr_ p c S S2 t = b → Q (.inl (some (.int (i_ (if b = true then 1 else 0))))) σ := fun b e => e ▸ zQ
    refine ⟨fun y2 => ?_, fun y2 => ⟨by omega, ?_⟩⟩
    · exact ebl false (by
        unfold ctr_
        exact decide_eq_false (fun z => z.2.1 y2))
    · simp (disch := omega) only [i_eq]
      have key : (pC_ p n 1 = 1 ∨ pC_ p n 1 = 2) → ((((lN (en_ p S2) ^^^ (i_ (c : Int)).toInt64) >>> ((i_ ((cb_ p : Int) - 2 * (2 * pC_ p n 0 + pC_ p n 3 + 1))).toInt64 &&& 63)) &&& (3 : Int64)) = (0 : Int64)) = (sR_ S2 (2 * t + (pC_ p n 3).toNat) = dr_ p c (2 * t + (pC_ p n 3).toNat)) := by
        intro hk
        have hr := bn.2.2.2.2.2.1 (by omega)
        obtain ⟨q, hq⟩ : ∃ q, q = 2 * t + (pC_ p n 3).toNat := ⟨_, rfl⟩
        have q5 : q < 2 * pT_ p := by omega
        rw [← hq]
        rw [show (cb_ p : Int) - 2 * (2 * pC_ p n 0 + pC_ p n 3 + 1) = ((2 * (2 * pT_ p + pL_ p - 1 - q) : Nat) : Int) by unfold cb_; omega]
        obtain ⟨s, hs⟩ : ∃ s, s = 2 * (2 * pT_ p + pL_ p - 1 - q) := ⟨_, rfl⟩
        have k1 := cw_R (en_cw (p := p) S2) zV2.1 (q := q) (by omega) (by omega) q5
        rw [← hs, show (2 : Nat) ^ 2 = 4 from rfl] at k1
        unfold dr_
        rw [← hs, l_int (by omega), l_xor (Nat.lt_trans en_63 (by decide)) (by omega), l_shr (by omega) (Nat.xor_lt_two_pow en_63 (by omega)), l_and3 (Nat.lt_of_le_of_lt (Nat.div_le_self _ _) (Nat.xor_lt_two_pow en_63 (by omega)))]
        rw [lN_0 (Nat.mod_lt _ (by decide)), Nat.xor_div_two_pow, show (4 : Nat) = 2 ^ 2 from rfl, Nat.xor_mod_two_pow, show (2 : Nat) ^ 2 = 4 from rfl, k1]
        exact xor4 ((zV2.1.2.1 q).1) (Nat.mod_lt _ (by decide))
      have eb := fun (hk : pC_ p n 1 = 1 ∨ pC_ p n 1 = 2) => key hk
      refine ⟨fun y3 => ⟨by omega, ?_⟩, fun y3 => ⟨by omega, fun y4 => ⟨by omega, ?_⟩, fun y4 => ?_⟩⟩
      · rw [eb (Or.inl y3)]
        refine ⟨fun y5 => ebl false ?_, fun y5 => ebl true ?_⟩
        · unfold ctr_
          rw [← hn]
          exact decide_eq_false (fun z => z.2.2.2 y5)
        · unfold ctr_
          rw [← hn]
          exact decide_eq_true ⟨y1, y2, Or.inl y3, y5⟩
      · rw [eb (Or.inr y4)]
        refine ⟨fun y5 => ebl false ?_, fun y5 => ebl true ?_⟩
        · unfold ctr_
          rw [← hn]
          exact decide_eq_false (fun z => z.2.2.2 y5)
        · unfold ctr_
          rw [← hn]
          exact decide_eq_true ⟨y1, y2, Or.inr y4, y5⟩
      · refine ebl false ?_
        unfold ctr_
        rw [← hn]
        exact decide_eq_false (fun z => by have z5 := z.2.2.1; omega)
  · rw [if_neg y1]
    rw [show ctr_ p c S S2 t = false from decide_eq_false (fun z => y1 z.1)] at zQ
    simp (disch := omega) only [i_lit, i_lt]
    exact ⟨fun _ => zQ, fun z => by omega⟩))
end CT
