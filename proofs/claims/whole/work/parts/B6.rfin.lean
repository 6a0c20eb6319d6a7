/-! the reference: final states, codes -/
section RF
variable {γ : ga_T} {σ : st_T} {g : gm_T} {K : Nat} {S : gs_T} {p : pr_T}
/-- digits to the base 4, the first one being the most significant one -/
def dg_ (f : Nat → Nat) : Nat → Nat
  | 0 => 0
  | n + 1 => 4 * dg_ f n + f n
theorem dg_lt {f : Nat → Nat} (h : ∀ j, f j < 4) : ∀ n, dg_ f n < 2 ^ (2 * n)
  | 0 => Nat.one_pos
  | n + 1 => by
    have y := dg_lt h n
    have z := h n
    show 4 * dg_ f n + f n < _
    rw [show 2 * (n + 1) = 2 * n + 2 by omega, Nat.pow_add]
    omega
theorem dg_tb {f : Nat → Nat} (h : ∀ j, f j < 4) : ∀ n k, (dg_ f n).testBit k = if k < 2 * n then (f (n - 1 - k / 2)).testBit (k % 2) else false
  | 0, k => by
    rw [if_neg (by omega)]
    exact Nat.zero_testBit k
  | n + 1, k => by
    have ih := dg_tb h n (k - 2)
    show (4 * dg_ f n + f n).testBit k = _
    rw [show (4 : Nat) = 2 ^ 2 from rfl, Nat.testBit_two_pow_mul_add _ (h n)]
    by_cases y : k < 2
    · rw [if_pos y, if_pos (by omega), show n + 1 - 1 - k / 2 = n by omega, Nat.mod_eq_of_lt y]
    · rw [if_neg y, ih]
      by_cases y2 : k < 2 * (n + 1)
      · rw [if_pos y2, if_pos (by omega), show n - 1 - (k - 2) / 2 = n + 1 - 1 - k / 2 by omega, show (k - 2) % 2 = k % 2 by omega]
      · rw [if_neg y2, if_neg (by omega)]
def rc_ (p : pr_T) (S : gs_T) : Nat := dg_ (cD_ (pT_ p) S) (2 * pT_ p + pL_ p)
theorem rc_cc (zB : Bp_ p) (hd : ∀ j, cD_ (pT_ p) S j < 4) : cc_ p S = rc_ p S := by
  apply Nat.eq_of_testBit_eq
  intro k
  have b1 := zB.2.1
  have b2 := zB.2.2.1
  unfold cc_ rc_
  rw [Nat.testBit_mod_two_pow, dg_tb hd, en_cw S k]
  unfold cB_
  by_cases y : k < 22
  · rw [decide_eq_true y, Bool.true_and, if_pos y]
  · rw [decide_eq_false y, Bool.false_and, if_neg (by omega)]
theorem cD_r (v : Vr_ g K S) (T j : Nat) : cD_ T S j < 4 := by
  unfold cD_
  split
  · exact (v.2.1 _).1
  · exact (v.2.2.1 _).1
theorem rc_22 (zB : Bp_ p) (v : Vr_ g K S) : rc_ p S < 4194304 := by
  have b1 := zB.2.1
  have b2 := zB.2.2.1
  exact Nat.lt_of_lt_of_le (dg_lt (cD_r v _) _) (Nat.le_trans (Nat.pow_le_pow_right (by decide) (show 2 * (2 * pT_ p + pL_ p) ≤ 22 by omega)) (by decide))
theorem c_rcode (zw : Wd σ) (hg : Gw_ g K) (v : Vr_ g K S) (zN : Nr_ σ p) : fn_ γ m_X12_codeOf 1 [.ref 185, .long (lN (kr_ g K S))] σ (.int (i_ (rc_ p S : Int))) σ := by
  obtain ⟨zB, -, nT, nL, -, -⟩ := zN
  have b1 := zB.2.1
  have b2 := zB.2.2.1
  have hd := cD_r v (pT_ p)
  have hlt : ∀ n, n ≤ 11 → dg_ (cD_ (pT_ p) S) n < 4194304 := fun n hn => Nat.lt_of_lt_of_le (dg_lt hd n) (Nat.le_trans (Nat.pow_le_pow_right (by decide) (show 2 * n ≤ 22 by omega)) (by decide))
  refine fn_q (fun Q zQ => e_X12_codeOf zw ?_)
  unfold p_X12_codeOf_0
  have key2 : ∀ k l : Nat, k + l = pL_ p → vv_ γ m_X12_codeOf 1 48 [(0, .ref 185), (1, .long (lN (kr_ g K S))), (3, .int (i_ (dg_ (cD_ (pT_ p) S) (2 * pT_ p + l) : Int))), (4, .int (i_ (l : Int)))] [] σ Q := by
    intro k
    induction k with
    | zero =>
      intro l zl
      have zl : l = pL_ p := by omega
      subst zl
      refine g_X12_codeOf_48 zw ?_
      unfold p_X12_codeOf_48
      rw [nL]
      exact ⟨fun _ => zQ, fun z => absurd (Int32.le_refl _) z⟩
    | succ k ih =>
      intro l zl
      have ihn := ih (l + 1) (by omega)
      refine g_X12_codeOf_48 zw ?_
      unfold p_X12_codeOf_48
      rw [nL]
      refine ⟨fun z => ?_, fun _ => ⟨_, _, zw, c_rmem zw hg v (by omega), ?_⟩⟩
      · rw [i_le (by omega) (by omega)] at z
        omega
      · have e : cD_ (pT_ p) S (2 * pT_ p + l) = sM_ S l := by
          unfold cD_
          rw [if_neg (by omega), show 2 * pT_ p + l - 2 * pT_ p = l by omega]
        have e2 : dg_ (cD_ (pT_ p) S) (2 * pT_ p + (l + 1)) = 4 * dg_ (cD_ (pT_ p) S) (2 * pT_ p + l) + sM_ S l := by
          rw [← e]
          rfl
        rw [e2, show ((l + 1 : Nat) : Int) = (l : Int) + 1 by omega, ← i_add, ← i_lit 1] at ihn
        rw [k4_, i_mul, i_add, show (4 : Int) * ((dg_ (cD_ (pT_ p) S) (2 * pT_ p + l) : Nat) : Int) + ((sM_ S l : Nat) : Int) = ((4 * dg_ (cD_ (pT_ p) S) (2 * pT_ p + l) + sM_ S l : Nat) : Int) by omega]
        exact ihn
  have key : ∀ k t : Nat, k + t = pT_ p → vv_ γ m_X12_codeOf 1 5 [(0, .ref 185), (1, .long (lN (kr_ g K S))), (3, .int (i_ (dg_ (cD_ (pT_ p) S) (2 * t) : Int))), (4, .int (i_ (t : Int)))] [] σ Q := by
    intro k
    induction k with
    | zero =>
      intro t zt
      have zt : t = pT_ p := by omega
      subst zt
      refine g_X12_codeOf_5 zw ?_
      unfold p_X12_codeOf_5
      rw [nT]
      exact ⟨fun _ => key2 (pL_ p) 0 (by omega), fun z => absurd (Int32.le_refl _) z⟩
    | succ k ih =>
      intro t zt
      have ihn := ih (t + 1) (by omega)
      refine g_X12_codeOf_5 zw ?_
      unfold p_X12_codeOf_5
      rw [nT]
      have r0 := c_rreg (γ := γ) zw hg v (t := t) (r := 0) (by omega) (by decide)
      have r1 := c_rreg (γ := γ) zw hg v (t := t) (r := 1) (by omega) (by decide)
      refine ⟨fun z => ?_, fun _ => ⟨_, _, zw, r0, _, _, zw, r1, ?_⟩⟩
      · rw [i_le (by omega) (by omega)] at z
        omega
      · have e0 : cD_ (pT_ p) S (2 * t) = sR_ S (2 * t + 0) := by
          unfold cD_
          rw [if_pos (by omega), Nat.add_zero]
        have e1 : cD_ (pT_ p) S (2 * t + 1) = sR_ S (2 * t + 1) := by
          unfold cD_
          rw [if_pos (by omega)]
        have e2 : dg_ (cD_ (pT_ p) S) (2 * (t + 1)) = 16 * dg_ (cD_ (pT_ p) S) (2 * t) + 4 * sR_ S (2 * t + 0) + sR_ S (2 * t + 1) := by
          rw [← e0, ← e1]
          show 4 * (4 * dg_ (cD_ (pT_ p) S) (2 * t) + cD_ (pT_ p) S (2 * t)) + cD_ (pT_ p) S (2 * t + 1) = _
          omega
        rw [e2, show ((t + 1 : Nat) : Int) = (t : Int) + 1 by omega, ← i_add, ← i_lit 1] at ihn
        rw [k16_, k4_, i_mul, i_mul, i_add, i_add, show (16 : Int) * ((dg_ (cD_ (pT_ p) S) (2 * t) : Nat) : Int) + (4 : Int) * ((sR_ S (2 * t + 0) : Nat) : Int) + ((sR_ S (2 * t + 1) : Nat) : Int) = ((16 * dg_ (cD_ (pT_ p) S) (2 * t) + 4 * sR_ S (2 * t + 0) + sR_ S (2 * t + 1) : Nat) : Int) by omega]
        exact ihn
  exact key (pT_ p) 0 (by omega)
/-- a final state -/
def rf2_ (g : gm_T) (K : Nat) (S : gs_T) : Bool := decide (sP_ S 0 = gl_ g 0 ∧ sP_ S 1 = gl_ g 1 ∧ sP_ S 2 = gl_ g 2 ∧ sP_ S 3 = gl_ g 3) && !an_ (sW_ S) K
theorem rf2_iff : rf2_ g K S = true ↔ (∀ t, t < 4 → sP_ S t = gl_ g t) ∧ ∀ n, n < K → sW_ S n = false := by
  unfold rf2_
  rw [Bool.and_eq_true, decide_eq_true_eq, Bool.not_eq_true']
  constructor
  · rintro ⟨⟨a, b, c, d⟩, e⟩
    refine ⟨fun t ht => ?_, fun n hn => ?_⟩
    · have : t = 0 ∨ t = 1 ∨ t = 2 ∨ t = 3 := by omega
      rcases this with rfl | rfl | rfl | rfl
      · exact a
      · exact b
      · exact c
      · exact d
    · cases h : sW_ S n with
      | false => rfl
      | true =>
        have := (an_iff (sW_ S) K).mpr ⟨n, hn, h⟩
        rw [e] at this
        cases this
  · rintro ⟨a, b⟩
    exact ⟨⟨a 0 (by decide), a 1 (by decide), a 2 (by decide), a 3 (by decide)⟩, an_f _ _ b⟩
theorem rf2_w (hg : Gw_ g K) (v : Vr_ g K S) : (kr_ g K S / 2 ^ 38 = 0) ↔ ∀ n, n < K → sW_ S n = false := by
  constructor
  · intro h n hn
    rw [Bool.eq_false_iff]
    intro hw
    have hs := (v.2.2.2.2 n hw).2.1
    have y := cr_W (kr_cr hg S) hn hs
    rw [hw] at y
    have y2 := Nat.testBit_div_two_pow (kr_ g K S) (n := 38) (i := sbn_ g n)
    rw [h, Nat.zero_testBit, Nat.add_comm, y] at y2
    cases y2
  · intro h
    apply Nat.eq_of_testBit_eq
    intro i
    rw [Nat.testBit_div_two_pow, Nat.zero_testBit, kr_cr hg S]
    unfold cR_
    rw [if_neg (by omega), if_neg (by omega), if_neg (by omega)]
    exact an_f _ _ (fun j hj => by rw [h j hj, Bool.and_false])
theorem c_rfinal (zw : Wd σ) (zM : Mr_ σ g K) (v : Vr_ g K S) : fn_ γ m_X12_isFinal 1 [.ref 185, .long (lN (kr_ g K S))] σ (.int (if rf2_ g K S = true then 1 else 0)) σ := by
  obtain ⟨hg, hm, hB, hI⟩ := id zM
  have hK := hg.1
  refine fn_q (fun Q zQ => e_X12_isFinal zw ?_)
  unfold p_X12_isFinal_0
  have key : ∀ k t : Nat, k + t = 4 → (∀ u, u < t → sP_ S u = gl_ g u) → vv_ γ m_X12_isFinal 1 2 [(0, .ref 185), (1, .long (lN (kr_ g K S))), (3, .int (i_ (t : Int)))] [] σ Q := by
    intro k
    induction k with
    | zero =>
      intro t zt hu
      have zt : t = 4 := by omega
      subst zt
      refine g_X12_isFinal_2 zw ?_
      unfold p_X12_isFinal_2
      refine ⟨fun _ => ?_, fun z => absurd (by decide) z⟩
      rw [show (38 : Int32) = i_ ((38 : Nat) : Int) from rfl, l_shr (by decide) kr_63, show (0 : Int64) = lN 0 from rfl, lN_inj (Nat.lt_of_le_of_lt (Nat.div_le_self _ _) (Nat.lt_trans kr_63 (by decide))) (by decide), rf2_w hg v]
      refine ⟨fun z => ?_, fun z => ?_⟩
      · rw [if_pos (rf2_iff.mpr ⟨hu, z⟩)] at zQ
        exact zQ
      · rw [if_neg (fun y => z (rf2_iff.mp y).2)] at zQ
        exact zQ
    | succ k ih =>
      intro t zt hu
      have ht : t < 4 := by omega
      obtain ⟨k1, k2, k3⟩ := gk_ hg ht
      have hP := v.2.2.2.1 t ht
      refine g_X12_isFinal_2 zw ?_
      unfold p_X12_isFinal_2
      rw [show i_ (t : Int) + (1 : Int32) = i_ ((t + 1 : Nat) : Int) by rw [k1_, i_add]; exact congrArg i_ (by omega)]
      rw [i_cl (a := (t : Int)) (by omega), i_cl (a := ((t + 1 : Nat) : Int)) (by omega), Int.toNat_natCast, Int.toNat_natCast]
      refine ⟨fun z => ?_, fun _ => ⟨_, _, zw, c_rnext zw hg v ht, i_in (by omega) (by omega) (by omega), i_in (by omega) (by omega) (by omega), ?_⟩⟩
      · rw [k4_, i_le (by omega) (by omega)] at z
        omega
      · rw [hB t (by omega), hB (t + 1) (by omega), i_sub, i_eq (by omega) (by omega)]
        refine ⟨fun z => ?_, fun z => ?_⟩
        · have ihn := ih (t + 1) (by omega) (fun u z1 => by
            by_cases e : u = t
            · rw [e]; omega
            · exact hu u (by omega))
          rw [show ((t + 1 : Nat) : Int) = (t : Int) + 1 by omega, ← i_add, ← i_lit 1] at ihn
          rw [show i_ ((t + 1 : Nat) : Int) = i_ (t : Int) + (1 : Int32) by rw [k1_, i_add]; exact congrArg i_ (by omega)]
          exact ihn
        · rw [if_neg (fun y => z (by have := (rf2_iff.mp y).1 t ht; omega))] at zQ
          exact zQ
  exact key 4 0 rfl (fun u z => absurd z (Nat.not_lt_zero u))
end RF
