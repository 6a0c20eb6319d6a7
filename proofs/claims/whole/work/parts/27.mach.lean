section MD
variable {γ : ga_T} {σ : st_T} {p : pr_T} {m : Nat} {F : Nat → Bool} {S : gs_T} {t n : Nat}
theorem gw2_eq (zP : Wp_ p) (zV : Vg_ p S) (l : Int) : gw2_ (gcl_ p m F) S t l = f2_ (fun j => sW_ S j && decide (pC_ p j 0 = t) && decide (pC_ p j 2 = l)) (pN_ p) 0 := by
  have y0 : gw2_ (gcl_ p m F) S t l = f2_ (fun j => sW_ S j && (fun j => decide (pC_ p j 2 = l)) j) (gl_ (gcl_ p m F) t) (gB0_ p t) := rfl
  rw [y0]
  cases y : f2_ (fun j => sW_ S j && decide (pC_ p j 0 = t) && decide (pC_ p j 2 = l)) (pN_ p) 0 with
  | none =>
    rw [f2_none] at y ⊢
    intro j z1 z2
    cases y3 : (sW_ S j && (fun j => decide (pC_ p j 2 = l)) j) with
    | false => rfl
    | true =>
      have z3 := (gw_rng (m := m) (F := F) zP zV (f := fun j => decide (pC_ p j 2 = l))).mpr ⟨z1, z2, y3⟩
      simp only [Bool.and_eq_true] at z3
      have z4 := y j (Nat.zero_le _) (by have := (zV.2.2 j z3.1.1).1; omega)
      rw [z3.1.1, z3.1.2, z3.2] at z4
      cases z4
  | some k =>
    rw [f2_some] at y ⊢
    obtain ⟨-, y1, y2, y3⟩ := y
    have z3 := (gw_rng (m := m) (F := F) zP zV (f := fun j => decide (pC_ p j 2 = l))).mp y2
    refine ⟨z3.1, z3.2.1, z3.2.2, fun j z1 z2 => ?_⟩
    cases y4 : (sW_ S j && (fun j => decide (pC_ p j 2 = l)) j) with
    | false => rfl
    | true =>
      have z5 := (gw_rng (m := m) (F := F) zP zV (f := fun j => decide (pC_ p j 2 = l))).mpr ⟨by omega, z2, y4⟩
      have z6 := z5
      simp only [Bool.and_eq_true] at z6
      have z7 := y3 j z1 (by have := (zV.2.2 j z6.1.1).1; omega)
      rw [z5] at z7
      cases z7
theorem c_forwarding (zw : Wd σ) (zP : Wp_ p) (zM : Mc_ σ p m F) (zV : Vg_ p S) (q1 : t < pT_ p) {l : Nat} (q2 : l < pL_ p) : fn_ γ m_X4_forwarding 2 [.ref 153, .long (lN (en_ p S)), .int (i_ t), .int (i_ l)] σ (.int (i_ (match gw2_ (gcl_ p m F) S t l with | some n => (n : Int) | none => -1))) σ := fn_q (fun Q zQ => e_X4_forwarding zw (by
  unfold p_X4_forwarding_0
  refine ⟨_, _, zw, c_waitingFor zw zP zM zV q1 q2, ?_⟩
  rw [gw2_eq zP zV] at zQ
  exact l_forwarding zw zP.1.1 zQ 10 (Nat.le_refl _) (fun j z1 z2 => by have := zP.1.1; omega)))
theorem ga1_none (zP : Wp_ p) (zV : Vg_ p S) : ga1_ (gcl_ p m F) S t = none ↔ bm_ (fun j => sW_ S j && decide (pC_ p j 0 = t)) (pN_ p) = 0 := by
  rw [ga1_eq, gw_nofirst zP zV]
  constructor
  · intro z
    exact bm_0 (fun j _ => by have := z j; simp only [Bool.and_true] at this; exact this)
  · intro z j
    simp only [Bool.and_true]
    cases y : (sW_ S j && decide (pC_ p j 0 = t)) with
    | false => rfl
    | true =>
      have z2 : (bm_ (fun j => sW_ S j && decide (pC_ p j 0 = t)) (pN_ p)).testBit j = true := by
        rw [bm_tb, y]
        simp only [Bool.and_eq_true] at y
        rw [decide_eq_true (zV.2.2 j y.1).1]
        rfl
      rw [z, Nat.zero_testBit] at z2
      cases z2
theorem bm_eq0 {f : Nat → Bool} {N : Nat} (q : N ≤ 10) : (i_ ((bm_ f N : Nat) : Int) = i_ 0) = (bm_ f N = 0) := by
  have y : bm_ f N < 2 ^ 10 := Nat.lt_of_lt_of_le (bm_lt f N) (Nat.pow_le_pow_right (by decide) q)
  rw [i_eq (by omega) (by omega)]
  apply propext
  omega
theorem c_parts (zw : Wd σ) (zP : Wp_ p) (zM : Mc_ σ p m F) (zR : Rp_ σ 132 p) (zV : Vg_ p S) (q1 : t < pT_ p) : fn_ γ m_X4_parts 1 [.ref 153, .long (lN (en_ p S)), .int (i_ t)] σ (.int (i_ (if ga1_ (gcl_ p m F) S t = none then 1 else 1 + (pL_ p : Int)))) σ := fn_q (fun Q zQ => e_X4_parts zw (by
  unfold p_X4_parts_0
  refine ⟨_, _, zw, c_waitingOf zw zP zM zV q1, ?_⟩
  rw [i_lit, bm_eq0 zP.1.1]
  refine ⟨fun z => ?_, fun z => ⟨_, _, zw, c_locations (Or.inl rfl) zw zR, ?_⟩⟩
  · rw [if_pos ((ga1_none zP zV).mpr z)] at zQ
    exact zQ
  · rw [if_neg (fun y => z ((ga1_none zP zV).mp y))] at zQ
    rw [i_lit, i_add]
    exact zQ))
theorem th_lt (zP : Wp_ p) (q : n < pN_ p) (zt : pC_ p n 0 = t) : t < pT_ p := by
  have := (zP.2.1 n q).2.1
  omega
theorem c_valueOf (zw : Wd σ) (zP : Wp_ p) (zM : Mc_ σ p m F) (zV : Vs_ (pT_ p) (pL_ p) S) (q1 : n < pN_ p) (zt : pC_ p n 0 = t) (zk : pC_ p n 1 = 0 ∨ pC_ p n 1 = 2) : fn_ γ m_X4_valueOf 0 [.ref 153, .long (lN (en_ p S)), .int (i_ n)] σ (.int (i_ (gv_ (gcl_ p m F) S t n))) σ := fn_q (fun Q zQ => e_X4_valueOf zw (by
  have b1 := zP.1.1
  have b2 := zP.1.2.1
  have b3 := zP.1.2.2.1
  have b4 := th_lt zP q1 zt
  have b5 := zP.1.2.2.2.2 n 5
  obtain ⟨-, -, -, -, m5, m6⟩ := zM.2.2.2.1 n q1
  obtain ⟨k1, k2, k3, k4, k5, k6, k7, k8, k9⟩ := zP.2.1 n q1
  have k9 := k9 zk
  unfold p_X4_valueOf_0
  simp (disch := omega) only [i_lit, i_lt, i_in_iff, i_cl, i_neg, Int.toNat_natCast]
  refine ⟨fun z => by omega, fun _ => ⟨fun _ => ⟨⟨by omega, by omega⟩, ?_⟩, fun z => by omega⟩⟩
  rw [m5, m6]
  unfold gv_ at zQ
  have e1 : gC_ (gcl_ p m F) n 5 = pC_ p n 5 := rfl
  have e2 : gC_ (gcl_ p m F) n 4 = pC_ p n 4 := rfl
  rw [e1, e2] at zQ
  by_cases y : pC_ p n 5 = -1
  · rw [if_pos y] at zQ ⊢
    exact ⟨fun _ => ⟨⟨by omega, by omega⟩, qi_ zQ (by omega)⟩, fun z => absurd rfl z⟩
  · rw [if_neg y] at zQ ⊢
    have y2 : 0 ≤ pC_ p n 5 ∧ pC_ p n 5 ≤ 1 := by omega
    obtain ⟨q, hq⟩ : ∃ q : Nat, q = 2 * t + (pC_ p n 5).toNat := ⟨_, rfl⟩
    have e3 : (cb_ p : Int) - 2 * (2 * pC_ p n 0 + pC_ p n 5 + 1) = ((2 * (2 * pT_ p + pL_ p - 1 - q) : Nat) : Int) := by
      unfold cb_
      omega
    rw [e3]
    refine ⟨fun z => ?_, fun _ => ⟨⟨by omega, by omega⟩, ?_⟩⟩
    · rw [i_eq (by omega) (by omega)] at z
      omega
    · rw [l_dig (by omega) en_63, cw_R (en_cw S) zV b2 b3 (by omega)]
      rw [← hq] at zQ
      exact zQ))
theorem vs_P (zV : Vs_ (pT_ p) (pL_ p) S) (q1 : t < pT_ p) (q2 : sP_ S t < 7) : Vs_ (pT_ p) (pL_ p) (un_ (sP_ S) t (sP_ S t + 1), sR_ S, sM_ S, sW_ S) := by
  refine ⟨fun u => ?_, zV.2.1, zV.2.2.1, zV.2.2.2⟩
  show un_ (sP_ S) t (sP_ S t + 1) u < 8 ∧ (_ → un_ (sP_ S) t (sP_ S t + 1) u = 0)
  unfold un_
  by_cases y : u = t
  · rw [if_pos y]; exact ⟨by omega, fun z => by omega⟩
  · rw [if_neg y]; exact zV.1 u
theorem vs_R (zV : Vs_ (pT_ p) (pL_ p) S) {q v : Nat} (q1 : q < 2 * pT_ p) (q2 : v < 4) : Vs_ (pT_ p) (pL_ p) (sP_ S, un_ (sR_ S) q v, sM_ S, sW_ S) := by
  refine ⟨zV.1, fun u => ?_, zV.2.2.1, zV.2.2.2⟩
  show un_ (sR_ S) q v u < 4 ∧ (_ → un_ (sR_ S) q v u = 0)
  unfold un_
  by_cases y : u = q
  · rw [if_pos y]; exact ⟨q2, fun z => by omega⟩
  · rw [if_neg y]; exact zV.2.1 u
theorem vs_M (zV : Vs_ (pT_ p) (pL_ p) S) {l v : Nat} (q1 : l < pL_ p) (q2 : v < 4) : Vs_ (pT_ p) (pL_ p) (sP_ S, sR_ S, un_ (sM_ S) l v, sW_ S) := by
  refine ⟨zV.1, zV.2.1, fun u => ?_, zV.2.2.2⟩
  show un_ (sM_ S) l v u < 4 ∧ (_ → un_ (sM_ S) l v u = 0)
  unfold un_
  by_cases y : u = l
  · rw [if_pos y]; exact ⟨q2, fun z => by omega⟩
  · rw [if_neg y]; exact zV.2.2.1 u
theorem vs_W (zV : Vs_ (pT_ p) (pL_ p) S) {i : Nat} {v : Bool} (q1 : i < 10) : Vs_ (pT_ p) (pL_ p) (sP_ S, sR_ S, sM_ S, ub_ (sW_ S) i v) := by
  refine ⟨zV.1, zV.2.1, zV.2.2.1, fun u zu => ?_⟩
  show ub_ (sW_ S) i v u = false
  unfold ub_
  rw [if_neg (by omega)]
  exact zV.2.2.2 u zu
theorem gv_lt (zP : Wp_ p) (zV : Vs_ (pT_ p) (pL_ p) S) (q1 : n < pN_ p) : gv_ (gcl_ p m F) S t n < 4 := by
  unfold gv_
  split
  · have b := zP.1.2.2.2.2 n 4
    show (pC_ p n 4).toNat < 4
    omega
  · exact (zV.2.1 _).1
theorem c_written (zw : Wd σ) (zP : Wp_ p) (zM : Mc_ σ p m F) (zV : Vs_ (pT_ p) (pL_ p) S) (q1 : n < pN_ p) (zk : pC_ p n 1 ≠ 3) {v : Nat} (q2 : v < 4) : fn_ γ m_X4_written 1 [.ref 153, .long (lN (en_ p S)), .int (i_ n), .int (i_ v)] σ (.long (lN (en_ p (sP_ S, sR_ S, un_ (sM_ S) (pC_ p n 2).toNat v, sW_ S)))) σ := fn_q (fun Q zQ => e_X4_written zw (by
  have b1 := zP.1.1
  have b2 := zP.1.2.1
  have b3 := zP.1.2.2.1
  obtain ⟨-, -, m3, -⟩ := zM.2.2.2.1 n q1
  have k5 := (zP.2.1 n q1).2.2.2.2.1 zk
  unfold p_X4_written_0
  simp (disch := omega) only [i_lit, i_lt, i_le, i_in_iff, i_cl, i_neg, Int.toNat_natCast]
  refine ⟨fun z => by omega, fun _ => ⟨fun z => by omega, fun _ => ⟨⟨by omega, by omega⟩, ?_⟩⟩⟩
  have e1 : 2 * ((pL_ p : Int) - 1 - pC_ p n 2) = ((2 * (pL_ p - 1 - (pC_ p n 2).toNat) : Nat) : Int) := by omega
  rw [m3, e1]
  refine ⟨_, _, zw, c_withDigit zw (by omega) en_63 q2, ?_⟩
  rw [en_of (cw_setM (en_cw S) b2 b3 (l := (pC_ p n 2).toNat) (by omega) q2)]
  exact zQ))
theorem c_withRead (zw : Wd σ) (zP : Wp_ p) (zM : Mc_ σ p m F) (zV : Vs_ (pT_ p) (pL_ p) S) (q1 : n < pN_ p) (zt : pC_ p n 0 = t) (zk : pC_ p n 1 = 1 ∨ pC_ p n 1 = 2) (j : Option Nat) (zj : ∀ k, j = some k → k < pN_ p ∧ pC_ p k 0 = t ∧ pC_ p k 1 = 0) :
    fn_ γ m_X4_withRead 1 [.ref 153, .long (lN (en_ p S)), .int (i_ n), .int (i_ (match j with | some k => (k : Int) | none => -1))] σ (.long (lN (en_ p (sP_ S, un_ (sR_ S) (2 * t + (pC_ p n 3).toNat) (match j with | some k => gv_ (gcl_ p m F) S t k | none => sM_ S (pC_ p n 2).toNat), sM_ S, sW_ S)))) σ := fn_q (fun Q zQ => e_X4_withRead zw (by
  have b1 := zP.1.1
  have b2 := zP.1.2.1
  have b3 := zP.1.2.2.1
  have b4 := th_lt zP q1 zt
  obtain ⟨-, -, m3, m4, -⟩ := zM.2.2.2.1 n q1
  obtain ⟨k1, k2, k3, k4, k5, k6, k7, k8, k9⟩ := zP.2.1 n q1
  have k5 := k5 (by omega)
  have k6 := k6 zk
  have e1 : 2 * ((pL_ p : Int) - 1 - pC_ p n 2) = ((2 * (pL_ p - 1 - (pC_ p n 2).toNat) : Nat) : Int) := by omega
  obtain ⟨q, hq⟩ : ∃ q : Nat, q = 2 * t + (pC_ p n 3).toNat := ⟨_, rfl⟩
  have e3 : (cb_ p : Int) - 2 * (2 * pC_ p n 0 + pC_ p n 3 + 1) = ((2 * (2 * pT_ p + pL_ p - 1 - q) : Nat) : Int) := by
    unfold cb_
    omega
  rw [← hq] at zQ
  unfold p_X4_withRead_0
  simp (disch := omega) only [i_lit, i_lt, i_le, i_in_iff, i_cl, i_neg, Int.toNat_natCast]
  refine ⟨fun z => by omega, fun _ => ⟨fun _ => ?_, fun z => by omega⟩⟩
  rw [m3, m4, e1, e3]
  cases j with
  | none =>
    dsimp only at zQ ⊢
    refine ⟨fun _ => ⟨⟨by omega, by omega⟩, ⟨by omega, by omega⟩, ?_⟩, fun z => absurd rfl z⟩
    rw [l_dig (by omega) en_63, cw_M (en_cw S) zV b2 b3 (by omega)]
    refine ⟨_, _, zw, c_withDigit zw (by omega) en_63 (zV.2.2.1 _).1, ?_⟩
    rw [en_of (cw_setR (en_cw S) b2 b3 (by omega) (zV.2.2.1 _).1)]
    exact zQ
  | some k =>
    obtain ⟨j1, j2, j3⟩ := zj k rfl
    dsimp only at zQ ⊢
    refine ⟨fun z => ?_, fun _ => ⟨_, _, zw, c_valueOf zw zP zM zV j1 j2 (Or.inl j3), ⟨by omega, by omega⟩, ?_⟩⟩
    · rw [i_eq (by omega) (by omega)] at z
      omega
    · rw [m4, e3]
      refine ⟨_, _, zw, c_withDigit zw (by omega) en_63 (gv_lt zP zV j1), ?_⟩
      rw [en_of (cw_setR (en_cw S) b2 b3 (by omega) (gv_lt zP zV j1))]
      exact zQ))
end MD
