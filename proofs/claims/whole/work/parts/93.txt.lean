/-! the text: appended, cut, a name looked for -/
section TE
variable {γ : ga_T} {σ σ1 : st_T} {A : ca_T} {R : rt_T}
/-- what stands when handles of the table and of the findings are as they were -/
theorem j_mk (h : J_ σ A R) (hw : Wd σ1) (hn : st_n σ1 = st_n σ) (hc : st_c σ1 = st_c σ) (hu : st_u σ1 = st_u σ) (he : ∀ b, (147 ≤ b ∧ b ≤ 163) ∨ 185 ≤ b → eh_ σ σ1 b) {A' : ca_T}
    (ht : Tx_ σ1 (aB_ A') (an2_ A') ∧ st_I σ1 128 1 = i_ (an2_ A' : Int)) (hp : Pq_ σ1 132 (aP_ A') ∧ Pg_ (aP_ A')) (ho : Xo_ σ1 (aO_ A') ∧ Xc_ σ1 (aC_ A') ∧ Ep_ σ1 (aE_ A')) (hk : ∀ m, m < 3 → Kn_ σ1 (fa_ m) m (aP_ A') (rf_ R m)) : J_ σ1 A' R ∧ Co_ σ R 0 σ1 R := by
  obtain ⟨⟨w, x1, x2⟩, ⟨p1, p2⟩, ⟨o1, o2, o3⟩, ⟨L0, T0⟩, kn, d1, d2⟩ := h
  have y := T0.1.2.2.1
  have y1 := y.2.1.1
  have y2 := y.2.2.1.1
  have y3 := y.2.2.2.1
  refine ⟨⟨⟨hw, ht⟩, hp, ho, ⟨L0, tk_eh T0 (by rw [hn]; exact Nat.le_refl _) (he 148 (by omega)) (he _ (by omega)) (he _ (by omega)) (he _ (by omega))⟩, hk, d1, d2⟩, fun b q1 q2 => he b (by omega), by rw [hn]; exact Nat.le_refl _, ?_, ?_⟩
  · rw [hc]; omega
  · rw [hu]; omega
theorem j_kn (h : J_ σ A R) (hn : st_n σ1 = st_n σ) (he : ∀ b, (164 ≤ b ∧ b ≤ 178) ∨ 220 ≤ b → eh_ σ σ1 b) {m : Nat} (hm : m < 3) : Kn_ σ1 (fa_ m) m (aP_ A) (rf_ R m) := by
  have k := h.2.2.2.2.1 m hm
  have fm := fa_in m
  have w1 := k.1.2.2.1.1.1
  have w2 := k.1.2.2.1.2.1
  exact kn_eh k (by rw [hn]; exact Nat.le_refl _) (he _ (by omega)) (he _ (by omega)) (he _ (by omega)) (he _ (by omega)) (he _ (by omega))
/-- only the text changes -/
theorem j_t (h : J_ σ A R) (hw : Wd σ1) (hn : st_n σ1 = st_n σ) (hc : st_c σ1 = st_c σ) (hu : st_u σ1 = st_u σ) (he : ∀ b, b ≠ 128 → b ≠ 129 → eh_ σ σ1 b) {B : Nat → Int} {n : Nat} (ht : Tx_ σ1 B n) (hl : st_I σ1 128 1 = i_ (n : Int)) : J_ σ1 (B, n, A.2.2) R ∧ Co_ σ R 0 σ1 R :=
  j_mk (A' := (B, n, A.2.2)) h hw hn hc hu (fun b z => he b (by omega) (by omega)) ⟨ht, hl⟩ ⟨pq_eh h.2.1.1 (he _ (by omega) (by omega)) (he _ (by omega) (by omega)) (he _ (by omega) (by omega)) (he _ (by omega) (by omega)) (he _ (by omega) (by omega)), h.2.1.2⟩
    ⟨Xo_eh h.2.2.1.1 (he _ (by omega) (by omega)) (he _ (by omega) (by omega)), Xc_eh h.2.2.1.2.1 (he _ (by omega) (by omega)) (he _ (by omega) (by omega)), Ep_eh h.2.2.1.2.2 (he _ (by omega) (by omega)) (he _ (by omega) (by omega)) (he _ (by omega) (by omega)) (he _ (by omega) (by omega))⟩
    (fun m hm => j_kn h hn (fun b z => he b (by omega) (by omega)) hm)
/-- a byte of an int, as it is stored -/
def by_ (x : Int32) (s : Nat) : Int := (((x.toUInt32 >>> ((i_ (s : Int)).toUInt32 &&& Int32.toUInt32 31)).toInt32).toInt8).toInt
theorem by_rng (x : Int32) (s : Nat) : -128 ≤ by_ x s ∧ by_ x s < 128 := ⟨Int8.le_toInt _, Int8.toInt_lt _⟩
theorem by_eq (x : Int32) (s : Nat) : ((((x.toUInt32 >>> ((i_ (s : Int)).toUInt32 &&& Int32.toUInt32 31)).toInt32).toInt8.toInt32).toInt8.toInt32) = i_ (by_ x s) := by
  rw [Int8.toInt8_toInt32]
  unfold by_ i_
  apply Int32.toInt_inj.mp
  rw [Int8.toInt_toInt32, Int32.toInt_ofInt_of_le (by have := Int8.le_toInt (((x.toUInt32 >>> (Int32.toUInt32 (Int32.ofInt (s : Int)) &&& Int32.toUInt32 31)).toInt32).toInt8); omega) (by have := Int8.toInt_lt (((x.toUInt32 >>> (Int32.toUInt32 (Int32.ofInt (s : Int)) &&& Int32.toUInt32 31)).toInt32).toInt8); omega)]
def ap_ (B : Nat → Int) (n : Nat) (v : Int) : Nat → Int := fun j => if j = n then v else B j
/-- what bytes put behind the text change -/
def Tb_ (σ : st_T) (B : Nat → Int) (n : Nat) (σ1 : st_T) : Prop := Wd σ1 ∧ Tx_ σ1 B n ∧ st_I σ1 128 1 = i_ (n : Int) ∧ (∀ b, b ≠ 128 → b ≠ 129 → eh_ σ σ1 b) ∧ st_n σ1 = st_n σ ∧ st_c σ1 = st_c σ ∧ st_u σ1 = st_u σ
theorem tb_put {B : Nat → Int} {n : Nat} (h : Tb_ σ B n σ1) (hn : n < 600) {v : Int} (hv : -128 ≤ v ∧ v < 128) : Tb_ σ (ap_ B n v) (n + 1) (pt_I (pt_I σ1 129 n (i_ v)) 128 1 (i_ ((n + 1 : Nat) : Int))) := by
  obtain ⟨h1, ⟨h2, h3⟩, h4, h5, h6, h7, h8⟩ := h
  refine ⟨h1, ⟨by omega, fun i zi => ?_⟩, st_sI _ _ _ _, fun b z1 z2 => eh_tr (h5 b z1 z2) (eh_tr (eh_I z2) (eh_I z1)), h6, h7, h8⟩
  rw [st_pI, if_neg (by omega), st_pI]
  unfold ap_
  by_cases e : i = n
  · rw [if_pos ⟨rfl, e⟩, if_pos e]
    exact ⟨rfl, hv⟩
  · rw [if_neg (fun z => e z.2), if_neg e]
    exact h3 i (by omega)
def ap4_ (B : Nat → Int) (n : Nat) (x : Int32) : Nat → Int := ap_ (ap_ (ap_ (ap_ B n (by_ x 24)) (n + 1) (by_ x 16)) (n + 2) (by_ x 8)) (n + 3) (by_ x 0)
theorem c_put4 {B : Nat → Int} {n : Nat} (h : Tb_ σ B n σ1) (hn : n ≤ 596) (x : Int32) : ∃ s, fw_ γ m_X11_putFourBytes 0 [.ref 128, .int x] σ1 s ∧ Tb_ σ (ap4_ B n x) (n + 4) s := by
  have step : ∀ (Q : rs_T → st_T → Prop) (B : Nat → Int) (n s : Nat) (σ2 : st_T), Tb_ σ B n σ2 → n < 600 → s < 32 → vv_ γ m_X11_putFourBytes 0 3 [(0, .ref 128), (1, .int x), (2, .int (i_ ((s : Int) - 8)))] [] (pt_I (pt_I σ2 129 n (i_ (by_ x s))) 128 1 (i_ ((n + 1 : Nat) : Int))) Q → vv_ γ m_X11_putFourBytes 0 3 [(0, .ref 128), (1, .int x), (2, .int (i_ (s : Int)))] [] σ2 Q := by
    intro Q B n s σ2 h hn hs hQ
    refine g_X11_putFourBytes_3 h.1 ?_
    unfold p_X11_putFourBytes_3
    rw [h.2.2.1, by_eq]
    simp (disch := omega) only [i_lit, i_neg, i_lt, i_le, i_in_iff, i_cl, Int.toNat_natCast, i_add]
    refine ⟨fun z => by omega, fun _ => ⟨fun z => by omega, fun _ => ⟨fun z => by omega, fun _ => ⟨by omega, ?_⟩⟩⟩⟩
    exact hQ
  have t1 := tb_put h (by omega) (by_rng x 24)
  have t2 := tb_put t1 (by omega) (by_rng x 16)
  have t3 := tb_put t2 (by omega) (by_rng x 8)
  have t4 := tb_put t3 (by omega) (by_rng x 0)
  refine ⟨_, fw_q (fun Q zQ => e_X11_putFourBytes h.1 ?_), t4⟩
  unfold p_X11_putFourBytes_0
  refine step Q B n 24 σ1 h (by omega) (by decide) (step Q _ (n + 1) 16 _ t1 (by omega) (by decide) (step Q _ (n + 2) 8 _ t2 (by omega) (by decide) (step Q _ (n + 3) 0 _ t3 (by omega) (by decide) ?_)))
  refine g_X11_putFourBytes_3 t4.1 ?_
  unfold p_X11_putFourBytes_3
  refine ⟨fun _ => zQ, fun z => absurd (show i_ (((0 : Nat) : Int) - 8) < 0 by decide) z⟩
def ap20_ (B : Nat → Int) (n : Nat) (a b c d e : Int32) : Nat → Int := ap4_ (ap4_ (ap4_ (ap4_ (ap4_ B n a) (n + 4) b) (n + 8) c) (n + 12) d) (n + 16) e
theorem c_append (h : J_ σ A R) (a b c d e : Int32) : Ans_ γ m_X11_append 1 [.ref 128, .int a, .int b, .int c, .int d, .int e] σ R (if an2_ A ≤ 580 then (ap20_ (aB_ A) (an2_ A) a b c d e, an2_ A + 20, A.2.2) else A) (if an2_ A ≤ 580 then ri_ ((an2_ A + 20 : Nat) : Int) else ri_ (-1)) := by
  have w := h.1.1
  have y := h.1.2.1.1
  have hl := h.1.2.2
  by_cases hn : an2_ A ≤ 580
  · rw [if_pos hn, if_pos hn]
    have t0 : Tb_ σ (aB_ A) (an2_ A) σ := ⟨w, h.1.2.1, hl, fun b _ _ => eh_rf b, rfl, rfl, rfl⟩
    obtain ⟨s1, f1, t1⟩ := c_put4 (γ := γ) t0 (by omega) a
    obtain ⟨s2, f2, t2⟩ := c_put4 (γ := γ) t1 (by omega) b
    obtain ⟨s3, f3, t3⟩ := c_put4 (γ := γ) t2 (by omega) c
    obtain ⟨s4, f4, t4⟩ := c_put4 (γ := γ) t3 (by omega) d
    obtain ⟨s5, f5, t5⟩ := c_put4 (γ := γ) t4 (by omega) e
    obtain ⟨j1, j2⟩ := j_t h t5.1 t5.2.2.2.2.1 t5.2.2.2.2.2.1 t5.2.2.2.2.2.2 t5.2.2.2.1 t5.2.1 t5.2.2.1
    refine ⟨s5, R, sq_ (fun Q zQ => e_X11_append w ?_), j1, co_1 j2⟩
    unfold p_X11_append_0
    rw [hl]
    simp (disch := omega) only [i_lit, i_le]
    exact ⟨fun _ => ⟨s1, t1.1, f1, s2, t2.1, f2, s3, t3.1, f3, s4, t4.1, f4, s5, t5.1, f5, by rw [t5.2.2.1]; exact zQ⟩, fun z => by omega⟩
  · rw [if_neg hn, if_neg hn]
    refine an0_ h (fun Q zQ => e_X11_append w ?_)
    unfold p_X11_append_0
    rw [hl]
    simp (disch := omega) only [i_lit, i_neg, i_le]
    exact ⟨fun z => by omega, fun _ => zQ⟩
theorem j_len (h : J_ σ A R) {n : Nat} (hn : n ≤ an2_ A) : J_ (pt_I σ 128 1 (i_ (n : Int))) (aB_ A, n, A.2.2) R ∧ Co_ σ R 0 (pt_I σ 128 1 (i_ (n : Int))) R :=
  j_t (σ1 := pt_I σ 128 1 (i_ (n : Int))) (B := aB_ A) (n := n) h h.1.1 rfl rfl rfl (fun b z1 z2 => eh_I z1) ⟨by have := h.1.2.1.1; omega, fun i zi => by rw [st_pI, if_neg (by omega)]; exact h.1.2.1.2 i (by omega)⟩ (st_sI _ _ _ _)
theorem c_truncate (h : J_ σ A R) {z : Int} (q1 : -2147483648 ≤ z ∧ z < 2147483648) : Ans_ γ m_X11_truncate 0 [.ref 128, .int (i_ z)] σ R (if 0 ≤ z ∧ z ≤ an2_ A then (aB_ A, z.toNat, A.2.2) else A) (rb_ (decide (0 ≤ z ∧ z ≤ an2_ A))) := by
  have w := h.1.1
  have y := h.1.2.1.1
  have hl := h.1.2.2
  by_cases hn : 0 ≤ z ∧ z ≤ an2_ A
  · rw [if_pos hn, decide_eq_true hn]
    obtain ⟨c, rfl⟩ : ∃ c : Nat, z = c := ⟨z.toNat, by omega⟩
    rw [Int.toNat_natCast]
    obtain ⟨j1, j2⟩ := j_len h (n := c) (by omega)
    refine ⟨_, R, sq_ (fun Q zQ => e_X11_truncate w ?_), j1, co_1 j2⟩
    unfold p_X11_truncate_0
    rw [hl]
    simp (disch := omega) only [i_lit, i_lt, i_le]
    exact ⟨fun z => by omega, fun _ => ⟨fun _ => zQ, fun z => by omega⟩⟩
  · rw [if_neg hn, decide_eq_false hn]
    refine an0_ h (fun Q zQ => e_X11_truncate w ?_)
    unfold p_X11_truncate_0
    rw [hl]
    simp (disch := omega) only [i_lit, i_lt, i_le]
    exact ⟨fun _ => zQ, fun _ => ⟨fun z => by omega, fun _ => zQ⟩⟩
theorem c_bufferLength (h : J_ σ A R) : Ans_ γ m_X11_bufferLength 0 [.ref 128] σ R A (ri_ (an2_ A)) := an0_ h (fun Q zQ => e_X11_bufferLength h.1.1 (by
  unfold p_X11_bufferLength_0
  rw [h.1.2.2]
  exact zQ))
end TE
