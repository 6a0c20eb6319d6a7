/-! the table of states: room is made, a state is added -/
section AD
variable {γ : ga_T} {σ σ1 s10 s16 : st_T} {L : List (Nat × Int64)} {b0 b1 b2 n0 n2 e N : Nat}
theorem ta_grow (z220 : 220 ≤ st_n σ) (zT : Ta_ σ L b0 b1 b2 n0 n2 e) (zN : N = 2 * n0) (hN : N ≤ 524288)
    (h1 : ∀ a, a < st_n σ → eh_ σ s10 a) (h2 : st_S s10 (st_n σ) = (22, N)) (h3 : ∀ j, j < n0 → st_L s10 (st_n σ) j = st_L σ b0 j) (h4 : st_n s10 = st_n σ + 1)
    (k1 : ∀ a, a < st_n s10 → eh_ (pt_R s10 148 0 (some (st_n σ))) s16 a) (k2 : st_S s16 (st_n s10) = (22, N)) (k3 : ∀ j, j < n0 → st_L s16 (st_n s10) j = st_L s10 b1 j) (k4 : st_n s16 = st_n s10 + 1) :
    Ta_ (pt_R s16 148 1 (some (st_n s10))) L (st_n σ) (st_n s10) b2 N n2 e ∧ ∀ a, a < st_n σ → a ≠ 148 → eh_ σ (pt_R s16 148 1 (some (st_n s10))) a := by
  have y := ta_ne zT
  obtain ⟨⟨r1, r2, r3⟩, ⟨r4, r5, r6⟩, ⟨r7, r8, r9, r10⟩, ⟨r11, r12⟩, ⟨r13, r14, r15, r16, r17, r18, r19⟩, r20⟩ := zT
  have x0 : ∀ a, a < st_n σ → a ≠ 148 → eh_ σ (pt_R s16 148 1 (some (st_n s10))) a := fun a z1 z2 => eh_tr (eh_tr (eh_tr (h1 a z1) (eh_R z2)) (k1 a (by omega))) (eh_R z2)
  have x1 := k1 148 (by omega)
  have x2 := h1 148 (by omega)
  have x3 := x0 b2 r10.2 y.2.2.2.2
  have x4 := k1 (st_n σ) (by omega)
  refine ⟨⟨⟨?_, st_sR _ _ _ _, ?_⟩, ⟨?_, k2, ?_⟩, ⟨by omega, ⟨Or.inr z220, ?_⟩, ⟨Or.inr (by omega), ?_⟩, ⟨r10.1, ?_⟩⟩, ⟨?_, ?_⟩, ⟨r13, r14, r15, r16, by omega, hN, by omega⟩, fun i x z => ?_⟩, x0⟩
  · rw [st_pR, if_neg (by omega), x1.2.2.1, st_sR]
  · rw [st_pR, if_neg (by omega), x1.2.2.1, st_pR, if_neg (by omega), x2.2.2.1]
    exact r3
  · show st_S s16 (st_n σ) = _
    rw [x4.2.2.2]
    exact h2
  · rw [x3.2.2.2]
    exact r6
  · show st_n σ < st_n s16
    omega
  · show st_n s10 < st_n s16
    omega
  · show b2 < st_n s16
    have z := r10.2
    omega
  · show st_I s16 148 3 = _
    rw [x1.1]
    show st_I s10 148 3 = _
    rw [x2.1]
    exact r11
  · show st_I s16 148 4 = _
    rw [x1.1]
    show st_I s10 148 4 = _
    rw [x2.1]
    exact r12
  · have z1 := r20 i x z
    have z2 := (List.getElem?_eq_some_iff.mp z).1
    refine ⟨?_, ?_, z1.2.2⟩
    · show st_L s16 (st_n σ) i = _
      rw [x4.2.1]
      show st_L s10 (st_n σ) i = _
      rw [h3 i (by omega)]
      exact z1.1
    · show st_L s16 (st_n s10) i = _
      rw [k3 i (by omega), (h1 b1 r9.2).2.1]
      exact z1.2.1
theorem p2_le {a b : Nat} (h : 2 ^ a < 2 ^ b) : 2 * 2 ^ a ≤ 2 ^ b := by
  have y : a < b := (Nat.pow_lt_pow_iff_right (by decide)).mp h
  have y1 : 2 ^ (a + 1) ≤ 2 ^ b := Nat.pow_le_pow_right (by decide) y
  rw [Nat.pow_succ] at y1
  omega
def Rm_ (σ : st_T) (L : List (Nat × Int64)) (t : tk_T) : rs_T → st_T → Prop := fun r s => r = .inl none ∧ ∃ t', Wd s ∧ Tk_ s L t' ∧ tf_ σ t s t' ∧ 2 * L.length < 2 ^ t'.2.2.2.2.2
theorem l_room (zw : Wd σ) (zT : Ta_ σ L b0 b1 b2 n0 n2 e) (q1 : 2 * L.length = 2 ^ e) (q2 : e ≤ 18) (q3 : 2 ^ e ≤ n0) (q4 : ∃ k, n0 = 2 ^ k) (q5 : ∃ k, n2 = 2 ^ k) (q6 : Nd_ L) :
    ∃ s20, fw_ γ m_X9_useSlots 0 [.ref 148, .int (i_ ((2 ^ (e + 1) : Nat) : Int))] σ s20 ∧ Wd s20 ∧ vv_ γ m_X9_makeRoom 2 81 [(0, .ref 148), (1, .int (i_ ((0 : Nat) : Int)))] [] s20 (Rm_ σ L (b0, b1, b2, n0, n2, e)) := by
  have y := ta_ne zT
  have y1 := zT.2.2.2.2.1
  have yn := zT.2.2.1
  have p1 : 2 ^ (e + 1) = 2 * 2 ^ e := by rw [Nat.pow_succ, Nat.mul_comm]
  have p2 : 2 ^ (e + 1) ≤ 2 ^ 19 := Nat.pow_le_pow_right (by decide) (by omega)
  have p3 : 2 ^ 10 ≤ 2 ^ (e + 1) := Nat.pow_le_pow_right (by decide) (by omega)
  have p4 : 2 ^ (e + 1) ≤ 1048576 := Nat.le_trans p2 (by decide)
  obtain ⟨σ1, b2', n2', u1, u2⟩ := c_useSlots (γ := γ) (N := 2 ^ (e + 1)) zw zT.1.2.2 zT.2.1.2.2 y1.2.2.2.1 y.2.2.2.2 p4 yn.2.2.2.2
  have u10 := u2.2.2.2.2.2.2.2.2.2
  have u3 : n2' ≤ 1048576 ∧ (∃ k, n2' = 2 ^ k) ∧ n2 ≤ n2' ∧ (b2' = b2 ∨ st_n σ ≤ b2') ∧ 128 * st_c σ1 + n2 ≤ 128 * st_c σ + n2' ∧ st_u σ1 + 2 * n2 ≤ st_u σ + 2 * n2' ∧ st_n σ ≤ st_n σ1 := by
    rcases u10 with ⟨v1, v2, v3, v4, v5⟩ | ⟨v1, v2, v3, v4, v5, v6⟩
    · exact ⟨by rw [v2]; exact y1.2.2.2.1, by rw [v2]; exact q5, by omega, Or.inl v1, by omega, by omega, by omega⟩
    · obtain ⟨k, hk⟩ := q5
      have v7 : 2 * n2 ≤ 2 ^ (e + 1) := by
        rw [hk] at v3 ⊢
        exact p2_le v3
      have v8 : ∃ k, n2' = 2 ^ k := ⟨e + 1, v2⟩
      generalize 2 ^ (e + 1) = E at p1 p2 p3 p4 v2 v3 v6 v7
      generalize 2 ^ e = E1 at p1 q1 q3 y1
      have p5 : (1024 : Nat) ≤ E := p3
      exact ⟨by omega, v8, by omega, Or.inr (by omega), by omega, by omega, by omega⟩
  have zT' : Ta_ σ1 L b0 b1 b2' n0 n2' (e + 1) := ta_use zT u2 (by omega) (by omega) (by rw [p1]; exact Nat.mul_le_mul_left 2 q3) u3.1 zw.2.2
  refine ⟨σ1, u1, u2.1, ?_⟩
  have y9 := l_refill (γ := γ) u2.1 zT' (by rw [p1]; have z := Nat.two_pow_pos e; omega) q6 (Q := Rm_ σ L (b0, b1, b2, n0, n2, e)) (fun f sl f1 f2 => ?_) L.length 0 (by omega) (st_I σ1 b2') (fun _ => 0) (fun s z => u2.2.2.2.2.1 s z) (sv_0 _ _)
  · rw [pW_id _ _ _ (fun _ => rfl)] at y9
    exact y9
  · refine ⟨rfl, (b0, b1, b2', n0, n2', e + 1), u2.1, ⟨ta_W zT' f, ⟨sl, fun s z => ?_, f2⟩, ?_, q4, u3.2.1, q6⟩, ⟨fun a z1 z2 z3 z4 z5 => ?_, ⟨Or.inl rfl, Or.inl rfl, u3.2.2.2.1⟩, ⟨Nat.le_refl _, u3.2.2.1⟩, u3.2.2.2.2.2.2, ?_, ?_⟩, ?_⟩
    · show st_I (pt_W σ1 b2' f) b2' s = _
      rw [st_pW, if_pos rfl]
      exact f1 s z
    · show 2 * L.length ≤ 2 ^ (e + 1)
      omega
    · have z6 : a ≠ b2' := by
        have z5' : a ≠ b2 := z5
        have z7 := u3.2.2.2.1
        omega
      exact eh_tr (u2.2.2.2.2.2.2.2.2.1 a z1 z2 z5) (eh_W z6)
    · show 128 * st_c σ1 + n0 + n2 ≤ 128 * st_c σ + n0 + n2'
      have z := u3.2.2.2.2.1
      omega
    · show st_u σ1 + 4 * n0 + 2 * n2 ≤ st_u σ + 4 * n0 + 2 * n2'
      have z := u3.2.2.2.2.2.1
      omega
    · show 2 * L.length < 2 ^ (e + 1)
      have z := Nat.two_pow_pos e
      omega
theorem c_makeRoom (zw : Wd σ) {t : tk_T} (zT : Tk_ σ L t) (q0 : L.length ≤ 131072) : ∃ σ1 t', fw_ γ m_X9_makeRoom 2 [.ref 148] σ σ1 ∧ Wd σ1 ∧ Tk_ σ1 L t' ∧ tf_ σ t σ1 t' ∧ 2 * L.length < 2 ^ t'.2.2.2.2.2 := by
  obtain ⟨b0, b1, b2, n0, n2, e⟩ := t
  have zT0 := zT
  obtain ⟨zT, zs, zL, zk0, zk2, zN⟩ := zT
  dsimp only at zT zL zk0 zk2
  have y := ta_ne zT
  have y1 := zT.2.2.2.2.1
  have yl := ta_len zT
  have z220 := zw.2.2
  obtain ⟨e', he⟩ : ∃ e', e = e' + 1 := ⟨e - 1, by omega⟩
  have p1 : 2 ^ e = 2 * 2 ^ e' := by rw [he, Nat.pow_succ, Nat.mul_comm]
  have key : sp_ γ m_X9_makeRoom 2 [.ref 148] σ (Rm_ σ L (b0, b1, b2, n0, n2, e)) := by
    refine e_X9_makeRoom zw ?_
    unfold p_X9_makeRoom_0
    rw [zT.2.2.2.1.1, zT.2.2.2.1.2]
    have jd : i_ ((2 ^ e : Nat) : Int) / i_ 2 = i_ ((2 ^ e' : Nat) : Int) := by
      have z := i_div (m := 2 ^ e) (k := 2) (by omega) (by omega)
      rw [show 2 ^ e / 2 = 2 ^ e' by omega] at z
      exact z
    rw [i_lit 2]
    rw [jd]
    simp (disch := omega) only [i_lit, i_le]
    refine ⟨fun z => by omega, fun _ => ⟨fun z => ?_, fun z => ?_⟩⟩
    · have q1 : 2 * L.length = 2 ^ e := by omega
      have q2 : e ≤ 18 := by
        have z1 : 2 ^ e ≤ 2 ^ 18 := by
          rw [← q1]
          exact Nat.mul_le_mul_left 2 q0
        exact (Nat.pow_le_pow_iff_right (by decide)).mp z1
      refine ⟨b0, zT.1.1, n0, zT.2.1.1, ?_⟩
      rw [i_nat]
      simp (disch := omega) only [i_lt]
      refine ⟨fun z1 => ?_, fun z1 => ?_⟩
      · have q3 : 2 ^ e ≤ n0 := by
          obtain ⟨k, hk⟩ := zk0
          have z2 : 2 ^ e' < n0 := by omega
          rw [p1, hk]
          rw [hk] at z2
          exact p2_le z2
        obtain ⟨s20, v1, v2, v3⟩ := l_room (γ := γ) zw zT q1 q2 q3 zk0 zk2 zN
        rw [i_mul, show (2 : Int) * ((2 ^ e : Nat) : Int) = ((2 ^ (e + 1) : Nat) : Int) by rw [Nat.pow_succ]; omega]
        exact ⟨s20, v2, v1, v3⟩
      · have q3 : L.length = n0 := by omega
        have z2 : 2 ^ 9 ≤ 2 ^ e := Nat.pow_le_pow_right (by decide) y1.1
        have z3 : 2 ^ e ≤ 2 ^ 18 := Nat.pow_le_pow_right (by decide) q2
        have z4 : (512 : Nat) ≤ 2 ^ e := z2
        have z5 : 2 ^ e ≤ 262144 := z3
        have yn := zT.2.2.1
        obtain ⟨s10, v1, v2, v3, v4, v5, v6, v7, v8⟩ := c_copyOfL (γ := γ) (N := 2 * n0) zT.2.1.1 (by omega) (by omega) yn.2.1.2
        have w1 : Wd (pt_R s10 148 0 (some (st_n σ))) := Wd_R (v2 zw) wN_148_0
        have v9 := v3 b1 yn.2.2.1.2
        have v10 := v3 148 (by omega)
        obtain ⟨s16, k1, k2, k3, k4, k5, k6, k7, k8⟩ := c_copyOfL (γ := γ) (σ := pt_R s10 148 0 (some (st_n σ))) (b := b1) (n := n0) (N := 2 * n0) (by
          show st_S s10 b1 = _
          rw [v9.2.2.2]
          exact zT.2.1.2.1) (by omega) (by omega) (by
          show b1 < st_n s10
          have z := yn.2.2.1.2
          omega)
        have w2 : Wd (pt_R s16 148 1 (some (st_n s10))) := Wd_R (k2 w1) wN_148_1
        obtain ⟨zT', x0⟩ := ta_grow z220 zT rfl (by omega) v3 v4 v5 v6 k3 k4 k5 k6
        obtain ⟨s20, u1, u2, u3⟩ := l_room (γ := γ) w2 zT' q1 q2 (by omega) (by
          obtain ⟨k, hk⟩ := zk0
          exact ⟨k + 1, by rw [hk, Nat.pow_succ, Nat.mul_comm]⟩) zk2 zN
        have j1 : st_I s10 148 4 = i_ (L.length : Int) := by
          rw [v10.1]
          exact zT.2.2.2.1.2
        have j2 : st_I s16 148 3 = i_ ((2 ^ e : Nat) : Int) := zT'.2.2.2.1.1
        have j3 : i_ 2 * i_ (L.length : Int) = i_ ((2 * n0 : Nat) : Int) := by
          rw [i_mul]
          congr 1
          omega
        have j4 : i_ 2 * i_ ((2 ^ e : Nat) : Int) = i_ ((2 ^ (e + 1) : Nat) : Int) := by
          rw [i_mul, Nat.pow_succ]
          congr 1
          omega
        rw [j3]
        refine ⟨st_n σ, s10, v2 zw, v1, b1, ?_, ?_⟩
        · rw [st_pR, if_neg (by omega), v10.2.2.1]
          exact zT.1.2.1
        · rw [j1, j3]
          refine ⟨st_n s10, s16, k2 w1, k1, ?_⟩
          rw [j2, j4]
          refine ⟨s20, u2, u1, vv_up u3 (fun r s hr => ?_)⟩
          obtain ⟨hr, t', h1, h2, h3, h4⟩ := hr
          refine ⟨hr, t', h1, h2, tf_tr (t1 := (st_n σ, st_n s10, b2, 2 * n0, n2, e)) ⟨fun a a1 a2 _ _ _ => x0 a a1 a2, ⟨Or.inr (Nat.le_refl _), Or.inr (by show st_n σ ≤ st_n s10; omega), Or.inl rfl⟩, ⟨by show n0 ≤ 2 * n0; omega, Nat.le_refl _⟩, ?_, ?_, ?_⟩ h3, h4⟩
          · show st_n σ ≤ st_n s16
            have k6' : st_n s16 = st_n s10 + 1 := k6
            omega
          · show 128 * st_c s16 + n0 + n2 ≤ 128 * st_c σ + 2 * n0 + n2
            have k7' : st_c s16 = st_c s10 + 1 := k7
            omega
          · show st_u s16 + 4 * n0 + 2 * n2 ≤ st_u σ + 4 * (2 * n0) + 2 * n2
            have k8' : st_u s16 = st_u s10 + 2 * n0 := k8
            omega
    · exact ⟨rfl, (b0, b1, b2, n0, n2, e), zw, zT0, tf_rf _, by show 2 * L.length < 2 ^ e; omega⟩
  obtain ⟨σ1, h1, t', h2, h3, h4, h5⟩ := fw_of (P := fun s => ∃ t', Wd s ∧ Tk_ s L t' ∧ tf_ σ (b0, b1, b2, n0, n2, e) s t' ∧ 2 * L.length < 2 ^ t'.2.2.2.2.2) key
  exact ⟨σ1, t', h1, h2, h3, h4, h5⟩
end AD
