section ME
variable {γ : ga_T} {σ : st_T} {p : pr_T} {m : Nat} {F : Nat → Bool} {S : gs_T} {t n : Nat}
theorem en_moved (zP : Wp_ p) (zV : Vg_ p S) (q1 : t < pT_ p) (q2 : sP_ S t < gl_ (gcl_ p m F) t) : lN (en_ p S) + ((1 : Int64) <<< ((i_ (32 + 3 * (t : Int))).toInt64 &&& 63)) = lN (en_ p (un_ (sP_ S) t (sP_ S t + 1), sR_ S, sM_ S, sW_ S)) := by
  have b1 := gl_7 (m := m) (F := F) zP t
  have b2 := zP.1.2.1
  rw [show (32 + 3 * (t : Int)) = ((32 + 3 * t : Nat) : Int) by omega, l_lit, l_shl (by omega) (by rw [Nat.one_mul]; exact Nat.pow_lt_pow_right (by decide) (by omega)), Nat.one_mul, lN_add]
  rw [en_of (cw_step (en_cw S) (by omega) (by omega))]
theorem af_blk (zw : Wd σ) (zP : Wp_ p) (zM : Mc_ σ p m F) (zV : Vg_ p S) (q1 : t < pT_ p) (q2 : sP_ S t < gl_ (gcl_ p m F) t) (zn : n = gB0_ p t + sP_ S t) (q3 : ¬ (F n = true ∧ ga1_ (gcl_ p m F) S t ≠ none)) {Q : rs_T → st_T → Prop}
    (zQ : Q (.inl (some (.long (match gx_ (gcl_ p m F) S t with | some S2 => lN (en_ p S2) | none => -1)))) σ) :
    ∃ (v11 : Int32) (s9 : st_T), Wd s9 ∧ fn_ γ m_X4_positionShift 0 [.int (i_ t)] σ (.int v11) s9 ∧
    vp_in (i_ n) 10 ∧
    (((st_I s9 154 (i_ n).toNatClampNeg).toInt < 0 ∨ 2 < (st_I s9 154 (i_ n).toNatClampNeg).toInt) →
      Q (.inl (some (.long ((lN (en_ p S)) + ((1 : Int64) <<< (v11.toInt64 &&& 63)))))) s9
    ) ∧
    ((st_I s9 154 (i_ n).toNatClampNeg).toInt = 0 →
      ((st_I s9 153 11) = (0 : Int32) →
        ∃ (v16 : Int32) (s14 : st_T), Wd s14 ∧ fn_ γ m_X4_valueOf 0 [.ref 153, .long (lN (en_ p S)), .int (i_ n)] s9 (.int v16) s14 ∧
        ∃ (v19 : Int64) (s17 : st_T), Wd s17 ∧ fn_ γ m_X4_written 1 [.ref 153, .long ((lN (en_ p S)) + ((1 : Int64) <<< (v11.toInt64 &&& 63))), .int (i_ n), .int v16] s14 (.long v19) s17 ∧
        Q (.inl (some (.long v19))) s17
      ) ∧ (¬ (st_I s9 153 11) = (0 : Int32) →
        Q (.inl (some (.long (((lN (en_ p S)) + ((1 : Int64) <<< (v11.toInt64 &&& 63))) ||| ((1 : Int64) <<< (((22 : Int32) + (i_ n)).toInt64 &&& 63)))))) s9
      )
    ) ∧
    ((st_I s9 154 (i_ n).toNatClampNeg).toInt = 1 →
      vp_in (i_ n) 10 ∧
      ∃ (v23 : Int32) (u1 : st_T), Wd u1 ∧ fn_ γ m_X4_forwarding 2 [.ref 153, .long (lN (en_ p S)), .int (i_ t), .int (st_I s9 155 (i_ n).toNatClampNeg)] s9 (.int v23) u1 ∧
      ∃ (v26 : Int64) (u4 : st_T), Wd u4 ∧ fn_ γ m_X4_withRead 1 [.ref 153, .long ((lN (en_ p S)) + ((1 : Int64) <<< (v11.toInt64 &&& 63))), .int (i_ n), .int v23] u1 (.long v26) u4 ∧
      Q (.inl (some (.long v26))) u4
    ) ∧
    ((st_I s9 154 (i_ n).toNatClampNeg).toInt = 2 →
      ∃ (v29 : Int64) (u7 : st_T), Wd u7 ∧ fn_ γ m_X4_withRead 1 [.ref 153, .long ((lN (en_ p S)) + ((1 : Int64) <<< (v11.toInt64 &&& 63))), .int (i_ n), .int (-1 : Int32)] s9 (.long v29) u7 ∧
      ∃ (v32 : Int32) (s30 : st_T), Wd s30 ∧ fn_ γ m_X4_valueOf 0 [.ref 153, .long (lN (en_ p S)), .int (i_ n)] u7 (.int v32) s30 ∧
      ∃ (v35 : Int64) (s33 : st_T), Wd s33 ∧ fn_ γ m_X4_written 1 [.ref 153, .long v29, .int (i_ n), .int v32] s30 (.long v35) s33 ∧
      Q (.inl (some (.long v35))) s33
    ) := by
  have b1 := zP.1.1
  have b2 := zP.1.2.1
  have b3 := zP.1.2.2.1
  have b4 := gl_7 (m := m) (F := F) zP t
  have hn : n < pN_ p := by
    have y1 := gB_le (p := p) (t + 1)
    have y2 : gl_ (gcl_ p m F) t = gB0_ p (t + 1) - gB0_ p t := rfl
    omega
  have ht : pC_ p n 0 = t := (gB_th zP hn).mpr (by
    have y2 : gl_ (gcl_ p m F) t = gB0_ p (t + 1) - gB0_ p t := rfl
    omega)
  have b5 := zP.1.2.2.2.2 n 1
  obtain ⟨k1, k2, k3, k4, k5, k6, k7, k8, k9⟩ := zP.2.1 n hn
  obtain ⟨m1, m2, -, -, -, -⟩ := zM.2.2.2.1 n hn
  have vP := vs_P zV.1 q1 (by omega)
  have hx : gx_ (gcl_ p m F) S t = (if pC_ p n 1 = 0 then (if m = 0 then some (un_ (sP_ S) t (sP_ S t + 1), sR_ S, un_ (sM_ S) (pC_ p n 2).toNat (gv_ (gcl_ p m F) S t n), sW_ S) else some (un_ (sP_ S) t (sP_ S t + 1), sR_ S, sM_ S, ub_ (sW_ S) n true))
    else if pC_ p n 1 = 1 then some (un_ (sP_ S) t (sP_ S t + 1), un_ (sR_ S) (2 * t + (pC_ p n 3).toNat) (match gw2_ (gcl_ p m F) S t (pC_ p n 2) with | some j => gv_ (gcl_ p m F) S t j | none => sM_ S (pC_ p n 2).toNat), sM_ S, sW_ S)
    else if pC_ p n 1 = 2 then some (un_ (sP_ S) t (sP_ S t + 1), un_ (sR_ S) (2 * t + (pC_ p n 3).toNat) (sM_ S (pC_ p n 2).toNat), un_ (sM_ S) (pC_ p n 2).toNat (gv_ (gcl_ p m F) S t n), sW_ S)
    else some (un_ (sP_ S) t (sP_ S t + 1), sR_ S, sM_ S, sW_ S)) := by
    unfold gx_
    rw [zn] at q3 ⊢
    exact if_neg (fun y => y.elim (fun y => y q2) (fun y => q3 y))
  rw [hx] at zQ
  refine ⟨_, _, zw, c_positionShift zw, i_in (by omega) (by omega) (by omega), ?_⟩
  rw [i_cl (by omega), Int.toNat_natCast, m1, m2, zM.2.1, i_to (by omega) (by omega), en_moved (m := m) (F := F) zP zV q1 q2]
  refine ⟨fun z => ?_, fun z => ⟨fun z2 => ?_, fun z2 => ?_⟩, fun z => ⟨i_in (by omega) (by omega) (by omega), ?_⟩, fun z => ?_⟩
  · rw [if_neg (by omega), if_neg (by omega), if_neg (by omega)] at zQ
    exact zQ
  · rw [i_lit, i_eq (by have := zM.1; omega) (by omega)] at z2
    rw [if_pos z, if_pos (by omega)] at zQ
    refine ⟨_, _, zw, c_valueOf zw zP zM zV.1 hn ht (Or.inl z), ?_⟩
    exact ⟨_, _, zw, c_written zw zP zM vP hn (by omega) (gv_lt zP zV.1 hn), zQ⟩
  · rw [i_lit, i_eq (by have := zM.1; omega) (by omega)] at z2
    rw [if_pos z, if_neg (by omega)] at zQ
    rw [i_lit, i_add, show (22 + (n : Int)) = ((22 + n : Nat) : Int) by omega, l_lit, l_shl (by omega) (by rw [Nat.one_mul]; exact Nat.pow_lt_pow_right (by decide) (by omega)), Nat.one_mul, l_or (Nat.lt_trans (en_lt _) (by decide)) (Nat.pow_lt_pow_right (by decide) (by omega))]
    rw [en_of (cw_setW (en_cw _) (by omega))]
    exact zQ
  · rw [if_neg (by omega), if_pos z] at zQ
    have k5 := k5 (by omega)
    have e2 : pC_ p n 2 = ((pC_ p n 2).toNat : Int) := by omega
    have zf := c_forwarding (γ := γ) zw zP zM zV q1 (l := (pC_ p n 2).toNat) (by omega)
    rw [← e2] at zf
    have zj : ∀ k, gw2_ (gcl_ p m F) S t (pC_ p n 2) = some k → k < pN_ p ∧ pC_ p k 0 = t ∧ pC_ p k 1 = 0 := fun k zk => by
      have y0 : gw2_ (gcl_ p m F) S t (pC_ p n 2) = f2_ (fun j => sW_ S j && (fun j => decide (pC_ p j 2 = pC_ p n 2)) j) (gl_ (gcl_ p m F) t) (gB0_ p t) := rfl
      rw [y0, f2_some] at zk
      have y1 := (gw_rng (m := m) (F := F) zP zV (f := fun j => decide (pC_ p j 2 = pC_ p n 2))).mpr ⟨zk.1, zk.2.1, zk.2.2.1⟩
      simp only [Bool.and_eq_true, decide_eq_true_eq] at y1
      have y2 := zV.2.2 k y1.1.1
      exact ⟨y2.1, y1.1.2, y2.2⟩
    cases hj : gw2_ (gcl_ p m F) S t (pC_ p n 2) with
    | none =>
      rw [hj] at zf zQ
      exact ⟨_, _, zw, zf, _, _, zw, c_withRead (γ := γ) zw zP zM vP hn ht (Or.inl z) none (fun k zk => by cases zk), zQ⟩
    | some j =>
      rw [hj] at zf zQ
      exact ⟨_, _, zw, zf, _, _, zw, c_withRead (γ := γ) zw zP zM vP hn ht (Or.inl z) (some j) (fun k zk => by cases zk; exact zj j hj), zQ⟩
  · rw [if_neg (by omega), if_neg (by omega), if_pos z] at zQ
    have zr := c_withRead (γ := γ) zw zP zM vP hn ht (Or.inr z) none (fun k zk => by cases zk)
    rw [show (-1 : Int32) = i_ (-1) by decide]
    refine ⟨_, _, zw, zr, _, _, zw, c_valueOf zw zP zM zV.1 hn ht (Or.inr z), ?_⟩
    have vR := vs_R (q := 2 * t + (pC_ p n 3).toNat) (v := sM_ S (pC_ p n 2).toNat) vP (by have := k6 (Or.inr z); omega) (zV.1.2.2.1 _).1
    exact ⟨_, _, zw, c_written zw zP zM vR hn (by omega) (gv_lt zP zV.1 hn), zQ⟩
theorem bm_bit {f : Nat → Bool} {N k : Nat} (q : N ≤ 30) (q2 : k < 31) : (i_ ((bm_ f N : Nat) : Int) >>> (i_ (k : Int) &&& i_ 31)) &&& i_ 1 = i_ (if (decide (k < N) && f k) = true then 1 else 0) := by
  have b1 : bm_ f N < 2 ^ 31 := Nat.lt_trans (bm_lt f N) (Nat.pow_lt_pow_right (by decide) (by omega))
  rw [i_shr (by omega) b1, show (1 : Int) = ((1 : Nat) : Int) from rfl, i_and (Nat.lt_of_le_of_lt (Nat.div_le_self _ _) (by omega)) (by decide)]
  have e1 : bm_ f N / 2 ^ k &&& 1 = (if (bm_ f N).testBit k = true then 1 else 0) := by
    rw [Nat.and_one_is_mod, Nat.testBit_eq_decide_div_mod_eq]
    by_cases y : bm_ f N / 2 ^ k % 2 = 1
    · rw [if_pos (decide_eq_true y), y]
    · rw [if_neg (by simp; omega)]
      omega
  rw [e1, bm_tb]
  split <;> rfl
theorem c_after (zw : Wd σ) (zP : Wp_ p) (zM : Mc_ σ p m F) (zV : Vg_ p S) (q1 : t < pT_ p) {w : Nat} (q2 : w ≤ pL_ p) : fn_ γ m_X4_after 3 [.ref 153, .long (lN (en_ p S)), .int (i_ t), .int (i_ w)] σ (.long (match gt_ (gcl_ p m F) S t w with | some S2 => lN (en_ p S2) | none => -1)) σ := fn_q (fun Q zQ => e_X4_after zw (by
  have b1 := zP.1.1
  have b2 := zP.1.2.1
  have b3 := zP.1.2.2.1
  unfold p_X4_after_0
  unfold gt_ at zQ
  have e0 : (i_ ((w : Nat) : Int) = (0 : Int32)) = (w = 0) := by
    rw [i_lit, i_eq (by omega) (by omega)]
    apply propext
    omega
  rw [e0]
  refine ⟨fun hw => ?_, fun hw => ?_⟩
  · rw [if_pos hw] at zQ
    refine ⟨_, _, zw, c_next zw zP zM zV q1, ?_⟩
    by_cases hP : sP_ S t < gl_ (gcl_ p m F) t
    · rw [if_pos hP]
      have hn : gB0_ p t + sP_ S t < pN_ p := by
        have y1 := gB_le (p := p) (t + 1)
        have y2 : gl_ (gcl_ p m F) t = gB0_ p (t + 1) - gB0_ p t := rfl
        omega
      obtain ⟨n, zn⟩ : ∃ n, n = gB0_ p t + sP_ S t := ⟨_, rfl⟩
      rw [← zn] at hn ⊢
      refine ⟨fun z => ?_, fun _ => ⟨fun _ => ⟨fun _ => ?_, fun z => absurd hw z⟩, fun z => ?_⟩⟩
      · rw [i_lit, i_lt (by omega) (by omega)] at z
        omega
      · rw [zM.2.2.1]
        have eb := bm_bit (f := F) (N := 10) (k := n) (by decide) (by omega)
        rw [decide_eq_true (show n < 10 by omega), Bool.true_and] at eb
        rw [i_lit 31, i_lit 1, eb]
        by_cases hF : F n = true
        · rw [if_pos hF]
          refine ⟨fun z => absurd z (by decide), fun _ => ⟨_, _, zw, c_waitingOf zw zP zM zV q1, ?_⟩⟩
          rw [i_lit 0, bm_eq0 b1]
          refine ⟨fun z => ?_, fun z => ?_⟩
          · exact af_blk zw zP zM zV q1 hP zn (fun y => y.2 ((ga1_none zP zV).mpr z)) zQ
          · have y : gx_ (gcl_ p m F) S t = none := by
              unfold gx_
              rw [zn] at hF
              exact if_pos (Or.inr ⟨hF, fun y => z ((ga1_none zP zV).mp y)⟩)
            rw [y] at zQ
            exact zQ
        · rw [if_neg hF]
          exact ⟨fun _ => af_blk zw zP zM zV q1 hP zn (fun y => hF y.1) zQ, fun z => absurd rfl z⟩
      · rw [i_lit, i_lt (by omega) (by omega)] at z
        omega
    · rw [if_neg hP]
      have y : gx_ (gcl_ p m F) S t = none := by
        unfold gx_
        exact if_pos (Or.inl hP)
      rw [y] at zQ
      exact ⟨fun _ => zQ, fun z => absurd (by decide) z⟩
  · rw [if_neg hw] at zQ
    obtain ⟨l, rfl⟩ : ∃ l, w = l + 1 := ⟨w - 1, by omega⟩
    rw [show l + 1 - 1 = l by omega] at zQ
    rw [i_lit 1, i_sub, show (((l + 1 : Nat) : Int) - 1) = (l : Int) by omega]
    refine ⟨_, _, zw, c_committed zw zP zM zV q1 (by omega), ?_⟩
    unfold gc_ at zQ
    cases hg : gn_ (gcl_ p m F) S t l with
    | none =>
      rw [hg] at zQ
      exact ⟨fun _ => zQ, fun z => absurd (by decide) z⟩
    | some n =>
      rw [hg] at zQ
      dsimp only at zQ ⊢
      have hw1 : gw1_ (gcl_ p m F) S t l = some n := by
        unfold gn_ at hg
        cases y : gw1_ (gcl_ p m F) S t l with
        | none => rw [y] at hg; cases hg
        | some k =>
          rw [y] at hg
          dsimp only at hg
          split at hg
          · cases hg
          · exact hg
      have y0 : gw1_ (gcl_ p m F) S t l = f1_ (fun j => sW_ S j && (fun j => decide (pC_ p j 2 = l)) j) (gl_ (gcl_ p m F) t) (gB0_ p t) := rfl
      rw [y0] at hw1
      obtain ⟨y1, y2, y3⟩ := (gw_first zP zV _ n).mp hw1
      simp only [Bool.and_eq_true, decide_eq_true_eq] at y2
      have y4 := zV.2.2 n y2.1.1
      refine ⟨fun z => ?_, fun _ => ⟨fun _ => ⟨fun z => absurd z hw, fun _ => ⟨_, _, zw, c_valueOf zw zP zM zV.1 y1 y2.1.2 (Or.inl y4.2), ?_⟩⟩, fun z => ?_⟩⟩
      · rw [i_lit, i_lt (by omega) (by omega)] at z
        omega
      · rw [i_lit 22, i_add, show (22 + (n : Int)) = ((22 + n : Nat) : Int) by omega, l_lit, l_shl (by omega) (by rw [Nat.one_mul]; exact Nat.pow_lt_pow_right (by decide) (by omega)), Nat.one_mul, l_xor (Nat.lt_trans (en_lt _) (by decide)) (Nat.pow_lt_pow_right (by decide) (by omega))]
        rw [en_of (cw_clrW (en_cw _) (by omega) y2.1.1)]
        have vW := vs_W (i := n) (v := false) zV.1 (by omega)
        refine ⟨_, _, zw, c_written zw zP zM vW y1 (by omega) (gv_lt zP zV.1 y1), ?_⟩
        rw [show (pC_ p n 2).toNat = l by omega]
        exact zQ
      · rw [i_lit, i_lt (by omega) (by omega)] at z
        omega))
end ME
