/-! the reference: define, findLocation -/
section DF
variable {γ : ga_T} {σ σ1 s : st_T} {B : Nat → Int} {n k i t c : Nat} {z : Int} {P : pq_T} {S S2 : qs_T} {p : pr_T} {A : ca_T} {e : String → Nat}
def sS_ (σ : st_T) (n : Nat) : st_T := pt_I (pt_I (pt_I (pt_I σ 185 0 (0 : Int32)) 185 11 (i_ (n : Int))) 185 2 (0 : Int32)) 185 12 (0 : Int32)
def dSt_ (a k : Nat) : Prop := a = 185 ∧ (k = 0 ∨ k = 11 ∨ k = 2 ∨ k = 12)
theorem sS_ro : ro_ dSt_ σ (sS_ σ n) := ro_I (ro_I (ro_I (ro_I ro_rf ⟨rfl, Or.inl rfl⟩) ⟨rfl, Or.inr (Or.inl rfl)⟩) ⟨rfl, Or.inr (Or.inr (Or.inl rfl))⟩) ⟨rfl, Or.inr (Or.inr (Or.inr rfl))⟩
theorem c_rstarts (h : Jr_ σ A c) : fw_ γ m_X12_starts 0 [.ref 185] σ (sS_ σ (an2_ A)) := fw_q (fun Q zQ => e_X12_starts h.1 (by
  unfold p_X12_starts_0
  rw [h.2.2.1.2.1]
  exact zQ))
theorem sS_bf (h : Jr_ σ A c) (hB : ∀ i, i < an2_ A → -128 ≤ aB_ A i ∧ aB_ A i < 128) : Bf_ (sS_ σ (an2_ A)) (aB_ A) (an2_ A) := by
  obtain ⟨b1, b2, b3⟩ := h.2.2.1
  refine ⟨b1, ?_, fun i hi => ⟨?_, hB i hi⟩⟩
  · unfold sS_
    rw [st_pI, if_neg (by omega), st_pI, if_neg (by omega), st_sI]
  · rw [(sS_ro.2 186 i (fun y => by unfold dSt_ at y; omega)).1]
    exact b3 i hi
theorem l_clr (zw : Wd σ) {Q : rs_T → st_T → Prop} (zQ : ∀ s, Wd s → ro_ (fun a _ => a = 188) σ s → (∀ j, j < 174 → st_I s 188 j = 0) → vv_ γ m_X12_define 62 6 [(0, .ref 185), (1, .int (i_ ((174 : Nat) : Int)))] [] s Q) :
    ∀ (d j : Nat) (s : st_T), d + j = 174 → Wd s → ro_ (fun a _ => a = 188) σ s → (∀ v, v < j → st_I s 188 v = 0) → vv_ γ m_X12_define 62 6 [(0, .ref 185), (1, .int (i_ (j : Int)))] [] s Q := by
  intro d
  induction d with
  | zero =>
    intro j s hj w r a
    have hj : j = 174 := by omega
    subst hj
    exact zQ s w r a
  | succ d ih =>
    intro j s hj w r a
    refine g_X12_define_6 w ?_
    unfold p_X12_define_6
    refine ⟨fun y => ?_, fun _ => ?_⟩
    · rw [k174_, i_le (by omega) (by omega)] at y
      omega
    · rw [k1_, i_add, i_cl (by omega), Int.toNat_natCast]
      refine ⟨i_in (by omega) (by omega) (by omega), ih (j + 1) (pt_I s 188 j (0 : Int32)) (by omega) w (ro_I r rfl) (fun v hv => ?_)⟩
      rw [st_pI]
      by_cases c : v = j
      · rw [if_pos ⟨rfl, c⟩]
      · rw [if_neg (by omega)]
        exact a v (by omega)
theorem l_cp63 {Q : rs_T → st_T → Prop} (zQ : ∀ s, Wd s → ro_ (fun a _ => a = 187) σ s → (∀ j, j < 174 → st_I s 187 j = st_I σ 188 j) → vv_ γ m_X12_define 62 90 [(0, .ref 185), (1, .int (0 : Int32))] [] s Q) :
    ∀ (d j : Nat) (s : st_T), d + j = 174 → Wd s → ro_ (fun a _ => a = 187) σ s → (∀ v, v < j → st_I s 187 v = st_I σ 188 v) → vv_ γ m_X12_define 62 63 [(0, .ref 185), (1, .int (i_ (j : Int)))] [] s Q := by
  intro d
  induction d with
  | zero =>
    intro j s hj w r a
    have hj : j = 174 := by omega
    subst hj
    refine g_X12_define_63 w ?_
    unfold p_X12_define_63
    exact ⟨fun _ => zQ s w r a, fun y => absurd (show (174 : Int32) ≤ i_ ((174 : Nat) : Int) by decide) y⟩
  | succ d ih =>
    intro j s hj w r a
    refine g_X12_define_63 w ?_
    unfold p_X12_define_63
    refine ⟨fun y => ?_, fun _ => ?_⟩
    · rw [k174_, i_le (by omega) (by omega)] at y
      omega
    · rw [k1_, i_add, i_cl (by omega), Int.toNat_natCast]
      refine ⟨i_in (by omega) (by omega) (by omega), i_in (by omega) (by omega) (by omega), ih (j + 1) (pt_I s 187 j (st_I s 188 j)) (by omega) w (ro_I r rfl) (fun v hv => ?_)⟩
      rw [st_pI]
      by_cases c : v = j
      · rw [if_pos ⟨rfl, c⟩, c]
        exact (r.2 188 j (fun y => by omega)).1
      · rw [if_neg (by omega)]
        exact a v (by omega)
theorem l_cp90 {Q : rs_T → st_T → Prop} (zQ : ∀ s, Wd s → ro_ (fun a _ => a = 190) σ s → (∀ j, j < 24 → st_I s 190 j = st_I σ 192 j) → vv_ γ m_X12_define 62 116 [(0, .ref 185), (1, .int (0 : Int32))] [] s Q) :
    ∀ (d j : Nat) (s : st_T), d + j = 24 → Wd s → ro_ (fun a _ => a = 190) σ s → (∀ v, v < j → st_I s 190 v = st_I σ 192 v) → vv_ γ m_X12_define 62 90 [(0, .ref 185), (1, .int (i_ (j : Int)))] [] s Q := by
  intro d
  induction d with
  | zero =>
    intro j s hj w r a
    have hj : j = 24 := by omega
    subst hj
    refine g_X12_define_90 w ?_
    unfold p_X12_define_90
    exact ⟨fun _ => zQ s w r a, fun y => absurd (show (24 : Int32) ≤ i_ ((24 : Nat) : Int) by decide) y⟩
  | succ d ih =>
    intro j s hj w r a
    refine g_X12_define_90 w ?_
    unfold p_X12_define_90
    refine ⟨fun y => ?_, fun _ => ?_⟩
    · rw [show (24 : Int32) = i_ 24 by decide, i_le (by omega) (by omega)] at y
      omega
    · rw [k1_, i_add, i_cl (by omega), Int.toNat_natCast]
      refine ⟨i_in (by omega) (by omega) (by omega), i_in (by omega) (by omega) (by omega), ih (j + 1) (pt_I s 190 j (st_I s 192 j)) (by omega) w (ro_I r rfl) (fun v hv => ?_)⟩
      rw [st_pI]
      by_cases c : v = j
      · rw [if_pos ⟨rfl, c⟩, c]
        exact (r.2 192 j (fun y => by omega)).1
      · rw [if_neg (by omega)]
        exact a v (by omega)
theorem l_cp116 {Q : rs_T → st_T → Prop} (zQ : ∀ s, Wd s → ro_ (fun a _ => a = 191) σ s → (∀ j, j < 3 → st_I s 191 j = st_I σ 193 j) → vv_ γ m_X12_define 62 141 [(0, .ref 185), (1, .int (0 : Int32))] [] s Q) :
    ∀ (d j : Nat) (s : st_T), d + j = 3 → Wd s → ro_ (fun a _ => a = 191) σ s → (∀ v, v < j → st_I s 191 v = st_I σ 193 v) → vv_ γ m_X12_define 62 116 [(0, .ref 185), (1, .int (i_ (j : Int)))] [] s Q := by
  intro d
  induction d with
  | zero =>
    intro j s hj w r a
    have hj : j = 3 := by omega
    subst hj
    refine g_X12_define_116 w ?_
    unfold p_X12_define_116
    exact ⟨fun _ => zQ s w r a, fun y => absurd (show (3 : Int32) ≤ i_ ((3 : Nat) : Int) by decide) y⟩
  | succ d ih =>
    intro j s hj w r a
    refine g_X12_define_116 w ?_
    unfold p_X12_define_116
    refine ⟨fun y => ?_, fun _ => ?_⟩
    · rw [k3_, i_le (by omega) (by omega)] at y
      omega
    · rw [k1_, i_add, i_cl (by omega), Int.toNat_natCast]
      refine ⟨i_in (by omega) (by omega) (by omega), i_in (by omega) (by omega) (by omega), ih (j + 1) (pt_I s 191 j (st_I s 193 j)) (by omega) w (ro_I r rfl) (fun v hv => ?_)⟩
      rw [st_pI]
      by_cases c : v = j
      · rw [if_pos ⟨rfl, c⟩, c]
        exact (r.2 193 j (fun y => by omega)).1
      · rw [if_neg (by omega)]
        exact a v (by omega)
theorem l_cp141 {Q : rs_T → st_T → Prop} {u : Nat} (hu : u ≤ 40) (h21 : st_I σ 185 21 = i_ (u : Int)) (zQ : ∀ s, Wd s → ro_ (fun a _ => a = 194) σ s → (∀ j, j < u → st_I s 194 j = st_I σ 195 j) → Q (.inl (some (.int (st_I s 187 0)))) (pt_I (pt_I (pt_I s 185 20 (i_ (u : Int))) 185 10 (0 : Int32)) 185 47 (0 : Int32))) :
    ∀ (d j : Nat) (s : st_T), d + j = u → Wd s → ro_ (fun a _ => a = 194) σ s → (∀ v, v < j → st_I s 194 v = st_I σ 195 v) → vv_ γ m_X12_define 62 141 [(0, .ref 185), (1, .int (i_ (j : Int)))] [] s Q := by
  intro d
  induction d with
  | zero =>
    intro j s hj w r a
    have hj : j = u := by omega
    subst hj
    refine g_X12_define_141 w ?_
    unfold p_X12_define_141
    rw [(r.2 185 21 (fun y => by omega)).1, h21]
    refine ⟨fun _ => ?_, fun y => absurd (Int32.le_refl _) y⟩
    have y := zQ s w r a
    exact y
  | succ d ih =>
    intro j s hj w r a
    refine g_X12_define_141 w ?_
    unfold p_X12_define_141
    rw [(r.2 185 21 (fun y => by omega)).1, h21]
    refine ⟨fun y => ?_, fun _ => ?_⟩
    · rw [i_le (by omega) (by omega)] at y
      omega
    · rw [k1_, i_add, i_cl (by omega), Int.toNat_natCast]
      refine ⟨i_in (by omega) (by omega) (by omega), i_in (by omega) (by omega) (by omega), ih (j + 1) (pt_I s 194 j (st_I s 195 j)) (by omega) w (ro_I r rfl) (fun v hv => ?_)⟩
      rw [st_pI]
      by_cases c : v = j
      · rw [if_pos ⟨rfl, c⟩, c]
        exact (r.2 195 j (fun y => by omega)).1
      · rw [if_neg (by omega)]
        exact a v (by omega)
theorem pr_len {S : qs_T} (h : PR_ B n (.inl S)) (hu : S.2.2 ≤ 16) : S.2.1.2.2.length ≤ 31 := by
  have pe : ∀ S2 : qs_T, PE_ B n S2 (.inl S) → S = S2 := fun S2 h => by
    unfold PE_ at h
    split at h
    · exact Sum.inl.inj h
    · cases h
  rcases h with ⟨e, -, b⟩ | ⟨S1, a, ⟨e, -, b⟩ | ⟨S2, b, ⟨c, d⟩ | ⟨c, ⟨e, -, d⟩ | ⟨S3, d, ⟨e, -, f⟩ | ⟨S4, e, f⟩⟩⟩⟩⟩
  · cases b
  · cases b
  · rw [pe S2 d, (thl_w 5 S1 S2 (lcl_w 4 _ S1 w_P0 a) b).2.2]
    exact Nat.zero_le _
  · cases d
  · cases f
  · have w2 := (thl_w 5 S1 S2 (lcl_w 4 _ S1 w_P0 a) b).2.2
    have y := (Rd_post (by decide) d).2.2.2.2
    have y : S3.2.1.2.2.length + 2 * S2.2.2 + 1 ≤ S2.2.1.2.2.length + 2 * S3.2.2 := y
    rw [w2] at y
    have y : S3.2.1.2.2.length + 2 * S2.2.2 + 1 ≤ 0 + 2 * S3.2.2 := y
    rw [pe S4 f] at hu ⊢
    rw [xp_S2 e] at hu ⊢
    omega
/-- what define leaves -/
def dfA_ (A : ca_T) (r : qs_T ⊕ Nat) : ca_T := match r with
  | .inl S => (aB_ A, 0, S.2.1, aO_ A, [], none)
  | .inr _ => (aB_ A, 0, A.2.2)
def dfR_ (r : qs_T ⊕ Nat) : rs_T := match r with
  | .inl S => ri_ (pN_ S.2.1.1)
  | .inr e => ri_ (-(e : Int))
theorem r_define (h : Jr_ σ A c) (hB : ∀ i, i < an2_ A → -128 ≤ aB_ A i ∧ aB_ A i < 128) : ∃ r, PR_ (aB_ A) (an2_ A) r ∧ Ra_ γ m_X12_define 62 [.ref 185] σ (dfA_ A r) c e (dfR_ r) := by
  have bf0 := sS_bf h hB
  have w0 : Wd (sS_ σ (an2_ A)) := h.1
  have b600 := bf0.1
  obtain ⟨s0, es0⟩ : ∃ s0, s0 = sS_ σ (an2_ A) := ⟨_, rfl⟩
  have r0 : ro_ dSt_ σ s0 := by rw [es0]; exact sS_ro
  have e2 : st_I s0 185 2 = 0 := by
    rw [es0]
    unfold sS_
    rw [st_pI, if_neg (by omega), st_sI]
  have e12 : st_I s0 185 12 = 0 := by
    rw [es0]
    exact st_sI _ _ _ _
  have e0 : st_I s0 185 0 = i_ 0 := by
    rw [es0]
    unfold sS_
    rw [st_pI, if_neg (by omega), st_pI, if_neg (by omega), st_pI, if_neg (by omega), st_sI]
    rfl
  rw [← es0] at bf0 w0
  suffices key : sp_ γ m_X12_define 62 [.ref 185] σ (fun q s => ∃ v, q = .inl (some v) ∧ ∃ r, PR_ (aB_ A) (an2_ A) r ∧ ∃ c', Jr_ s (dfA_ A r) c' ∧ c' ≤ c + 100 ∧ ro_ dM_ σ s ∧ rok_ e (dfR_ r) v (st_I s 185 0)) by
    obtain ⟨v, s, f, r, h1, c', h2, h3, h4, h5⟩ := fn_of (P := fun v s => ∃ r, PR_ (aB_ A) (an2_ A) r ∧ ∃ c', Jr_ s (dfA_ A r) c' ∧ c' ≤ c + 100 ∧ ro_ dM_ σ s ∧ rok_ e (dfR_ r) v (st_I s 185 0)) key
    exact ⟨r, h1, s, v, c', f, h2, h3, h4, h5⟩
  refine e_X12_define h.1 ?_
  unfold p_X12_define_0
  refine ⟨s0, w0, by rw [es0]; exact c_rstarts h, ?_⟩
  refine l_clr (σ := s0) w0 (fun s1 w1 r1 c1 => ?_) 174 0 s0 rfl w0 ro_rf (fun v hv => by omega)
  refine g_X12_define_6 w1 ?_
  unfold p_X12_define_6
  refine ⟨fun _ => ?_, fun y => absurd (show (174 : Int32) ≤ i_ ((174 : Nat) : Int) by decide) y⟩
  have w2 : Wd (pt_I (pt_I s1 185 21 (0 : Int32)) 185 22 (0 : Int32)) := w1
  have r2 : ro_ dV_ s0 (pt_I (pt_I s1 185 21 (0 : Int32)) 185 22 (0 : Int32)) := ro_I (ro_I (ro_up r1 (fun a k y => Or.inl y)) dV_21) dV_22
  have c2 : ∀ j, j < 174 → st_I (pt_I (pt_I s1 185 21 (0 : Int32)) 185 22 (0 : Int32)) 188 j = 0 := fun j hj => by
    rw [st_pI, if_neg (by omega), st_pI, if_neg (by omega)]
    exact c1 j hj
  have q21 : st_I (pt_I (pt_I s1 185 21 (0 : Int32)) 185 22 (0 : Int32)) 185 21 = 0 := by rw [st_pI, if_neg (by omega), st_sI]
  have q22 : st_I (pt_I (pt_I s1 185 21 (0 : Int32)) 185 22 (0 : Int32)) 185 22 = 0 := st_sI _ _ _ _
  have q12 : st_I (pt_I (pt_I s1 185 21 (0 : Int32)) 185 22 (0 : Int32)) 185 12 = i_ ((0 : Nat) : Int) := by
    rw [st_pI, if_neg (by omega), st_pI, if_neg (by omega), (r1.2 185 12 (fun y => by omega)).1]
    exact e12
  have bf2 : Bf_ (pt_I (pt_I s1 185 21 (0 : Int32)) 185 22 (0 : Int32)) (aB_ A) (an2_ A) := bf_ro r2 (fun a k y z => by unfold dV_ at y; omega) bf0
  generalize pt_I (pt_I s1 185 21 (0 : Int32)) 185 22 (0 : Int32) = s2 at w2 r2 c2 q21 q22 q12 bf2 ⊢
  obtain ⟨s3, f1, f2, f3, f4⟩ := c_rgo (γ := γ) w2 bf2 (Nat.zero_le _) q12
  have R3 : Rpc_ s3 (aB_ A) (an2_ A) (0, P0_, 0) := by
    have o : ∀ a k, ¬ dF_ a k → st_I s3 a k = st_I s2 a k := fun a k z => (f3.2 a k z).1
    refine ⟨⟨f2, bf_F f3 bf2, f4⟩, w_P0.1.1, fun l hl => absurd hl (Nat.not_lt_zero l), ⟨?_, ?_, ?_, fun l hl => absurd hl (Nat.not_lt_zero l), fun i k hi _ => absurd hi (Nat.not_lt_zero i)⟩, fun l hl => absurd hl (Nat.not_lt_zero l), ⟨Nat.zero_le _, Nat.zero_le _⟩, ?_, fun k x hx => (by cases hx), ?_⟩
    · exact (o 188 0 (fun y => by unfold dF_ at y; omega)).trans (c2 0 (by decide))
    · exact (o 188 1 (fun y => by unfold dF_ at y; omega)).trans (c2 1 (by decide))
    · exact (o 188 2 (fun y => by unfold dF_ at y; omega)).trans (c2 2 (by decide))
    · exact (o 185 21 (fun y => by unfold dF_ at y; omega)).trans q21
    · exact (o 185 22 (fun y => by unfold dF_ at y; omega)).trans q22
  have r3 : ro_ dV_ s0 s3 := ro_tr r2 (ro_up f3 (fun a k => dF_V))
  obtain ⟨v, s4, r, g1, g2, g3⟩ := c_rprog (γ := γ) R3
  have r4 : ro_ dV_ s0 s4 := ro_tr r3 g3.2.1
  have vM : ∀ a k, dV_ a k ∨ dSt_ a k → dM_ a k := fun a k y => by
    unfold dV_ dSt_ at y
    unfold dM_
    omega
  have rM : ro_ dM_ σ s4 := ro_tr (ro_up r0 (fun a k y => vM a k (Or.inr y))) (ro_up r4 (fun a k y => vM a k (Or.inl y)))
  have o4 : ∀ a k, ¬ dV_ a k → ¬ dSt_ a k → st_I s4 a k = st_I σ a k := fun a k y z => (r4.2 a k y).1.trans (r0.2 a k z).1
  have t0 : st_I s4 185 0 = i_ 0 := (r4.2 185 0 (fun y => by unfold dV_ at y; omega)).1.trans e0
  have t2 : st_I s4 185 2 = i_ ((0 : Nat) : Int) := (r4.2 185 2 (fun y => by unfold dV_ at y; omega)).1.trans e2
  obtain ⟨-, O, ⟨⟨b1, b2, b3⟩, q, ⟨o1, o2⟩, ⟨cc1, cc2⟩, ex⟩⟩ := h
  refine ⟨s3, f2, f1, ?_⟩
  rcases g3.2.2 with ⟨rfl, S, u1, u2⟩ | ⟨rfl, x, u1, u2⟩
  · subst u1
    refine ⟨1, s4, g3.1, g1, fun y => absurd y (by decide), fun _ => ?_⟩
    obtain ⟨hB2, hN2, hR2, hD2, hU2, h21, h195, h22⟩ := u2.2
    have u16 := hU2.2
    have ul := hU2.1
    have lL := hB2.2.2.1
    have lN := hB2.1
    refine l_cp63 (σ := s4) (fun s5 w5 r5 c5 => ?_) 174 0 s4 rfl g3.1 ro_rf (fun v hv => by omega)
    refine l_cp90 (σ := s5) (fun s6 w6 r6 c6 => ?_) 24 0 s5 rfl w5 ro_rf (fun v hv => by omega)
    refine l_cp116 (σ := s6) (fun s7 w7 r7 c7 => ?_) 3 0 s6 rfl w6 ro_rf (fun v hv => by omega)
    have D7 : ro_ (fun a _ => a = 187 ∨ a = 190 ∨ a = 191) s4 s7 := ro_tr (ro_tr (ro_up r5 (fun a k y => Or.inl y)) (ro_up r6 (fun a k y => Or.inr (Or.inl y)))) (ro_up r7 (fun a k y => Or.inr (Or.inr y)))
    refine l_cp141 (σ := s7) (u := S.2.1.2.2.length) (by omega) ((D7.2 185 21 (fun y => by omega)).1.trans h21) (fun s8 w8 r8 c8 => ?_) S.2.1.2.2.length 0 s7 (Nat.add_zero _) w7 ro_rf (fun v hv => by omega)
    have D8 : ro_ (fun a k => a = 187 ∨ a = 190 ∨ a = 191 ∨ a = 194 ∨ (a = 185 ∧ (k = 20 ∨ k = 10 ∨ k = 47))) s4 (pt_I (pt_I (pt_I s8 185 20 (i_ (S.2.1.2.2.length : Int))) 185 10 (0 : Int32)) 185 47 (0 : Int32)) := ro_I (ro_I (ro_I (ro_tr (ro_up D7 (fun a k y => by omega)) (ro_up r8 (fun a k y => by omega))) (by omega)) (by omega)) (by omega)
    have p87 : ∀ j, j < 174 → st_I (pt_I (pt_I (pt_I s8 185 20 (i_ (S.2.1.2.2.length : Int))) 185 10 (0 : Int32)) 185 47 (0 : Int32)) 187 j = st_I s4 188 j := fun j hj => by
      rw [st_pI, if_neg (by omega), st_pI, if_neg (by omega), st_pI, if_neg (by omega), (r8.2 187 j (fun y => by omega)).1, (r7.2 187 j (fun y => by omega)).1, (r6.2 187 j (fun y => by omega)).1]
      exact c5 j hj
    have p90 : ∀ j, j < 24 → st_I (pt_I (pt_I (pt_I s8 185 20 (i_ (S.2.1.2.2.length : Int))) 185 10 (0 : Int32)) 185 47 (0 : Int32)) 190 j = st_I s4 192 j := fun j hj => by
      rw [st_pI, if_neg (by omega), st_pI, if_neg (by omega), st_pI, if_neg (by omega), (r8.2 190 j (fun y => by omega)).1, (r7.2 190 j (fun y => by omega)).1, c6 j hj]
      exact (r5.2 192 j (fun y => by omega)).1
    have p91 : ∀ j, j < 3 → st_I (pt_I (pt_I (pt_I s8 185 20 (i_ (S.2.1.2.2.length : Int))) 185 10 (0 : Int32)) 185 47 (0 : Int32)) 191 j = st_I s4 193 j := fun j hj => by
      rw [st_pI, if_neg (by omega), st_pI, if_neg (by omega), st_pI, if_neg (by omega), (r8.2 191 j (fun y => by omega)).1, c7 j hj, (r6.2 193 j (fun y => by omega)).1]
      exact (r5.2 193 j (fun y => by omega)).1
    have p94 : ∀ j, j < S.2.1.2.2.length → st_I (pt_I (pt_I (pt_I s8 185 20 (i_ (S.2.1.2.2.length : Int))) 185 10 (0 : Int32)) 185 47 (0 : Int32)) 194 j = st_I s4 195 j := fun j hj => by
      rw [st_pI, if_neg (by omega), st_pI, if_neg (by omega), st_pI, if_neg (by omega), c8 j hj]
      exact (D7.2 195 j (fun y => by omega)).1
    have e87 : st_I s8 187 0 = i_ (pN_ S.2.1.1 : Int) := by
      have y := p87 0 (by decide)
      rw [st_pI, if_neg (by omega), st_pI, if_neg (by omega), st_pI, if_neg (by omega)] at y
      exact y.trans hR2.1
    have k5 : ∀ k, k ≠ 20 → k ≠ 10 → k ≠ 47 → st_I (pt_I (pt_I (pt_I s8 185 20 (i_ (S.2.1.2.2.length : Int))) 185 10 (0 : Int32)) 185 47 (0 : Int32)) 185 k = st_I s4 185 k := fun k z1 z2 z3 => (D8.2 185 k (fun y => by omega)).1
    rw [e87]
    refine ⟨_, rfl, .inl S, g2, c, ⟨w8, ?_, ?_, ⟨⟨hB2, ?_, ?_, ?_, fun l hl => ?_, fun i k hi hk => ?_⟩, fun l hl => ?_, ?_, ?_, fun k x hx => ?_⟩, ⟨?_, fun k z hz => ?_⟩, ⟨?_, trivial⟩, ?_⟩, by omega, ro_tr rM (ro_up D8 (fun a k y => by unfold dM_; omega)), rfl, ?_⟩
    · refine rt0_cg (fun a k z => ?_) O
      rw [(D8.2 a k (fun y => by omega)).1]
      exact o4 a k (fun y => by unfold dV_ at y; omega) (fun y => by unfold dSt_ at y; omega)
    · exact ⟨Nat.zero_le _, (k5 2 (by decide) (by decide) (by decide)).trans t2, fun k hk => absurd hk (Nat.not_lt_zero k)⟩
    · exact (p87 0 (by omega)).trans hR2.1
    · exact (p87 1 (by omega)).trans hR2.2.1
    · exact (p87 2 (by omega)).trans hR2.2.2.1
    · have hl : l < pL_ S.2.1.1 := hl
      have y := hR2.2.2.2.1 l hl
      rw [Nat.zero_add] at y
      exact (p87 _ (by omega)).trans y
    · have hi : i < pN_ S.2.1.1 := hi
      have y := hR2.2.2.2.2 i k hi hk
      rw [Nat.zero_add] at y
      exact (p87 _ (by omega)).trans y
    · have hl : l < pL_ S.2.1.1 := hl
      obtain ⟨y1, y2⟩ := hD2 l hl
      have n8 := (hN2 l hl).1
      refine ⟨(p91 l (by omega)).trans y1, fun k x hx => ?_⟩
      have lk := (List.getElem?_eq_some_iff.mp hx).1
      have lk : k < (S.2.1.2.1 l).length := lk
      exact (p90 _ (by omega)).trans (y2 k x hx)
    · show S.2.1.2.2.length ≤ 31
      have l31 := pr_len g2 u16
      exact l31
    · rw [st_pI, if_neg (by omega), st_pI, if_neg (by omega)]
      exact st_sI _ _ _ _
    · have lk := (List.getElem?_eq_some_iff.mp hx).1
      have lk : k < S.2.1.2.2.length := lk
      exact (p94 k lk).trans (h195 k x hx)
    · exact (k5 56 (by decide) (by decide) (by decide)).trans ((o4 185 56 (fun y => by unfold dV_ at y; omega) (fun y => by unfold dSt_ at y; omega)).trans o1)
    · rw [(D8.2 218 k (fun y => by omega)).1]
      exact (o4 218 k (fun y => by unfold dV_ at y; omega) (fun y => by unfold dSt_ at y; omega)).trans (o2 k z hz)
    · rw [st_pI, if_neg (by omega)]
      exact st_sI _ _ _ _
    · exact st_sI _ _ _ _
    · exact (k5 0 (by decide) (by decide) (by decide)).trans t0
  · subst u1
    obtain ⟨at', kd, x1, x2, x3, x4, x5⟩ := u2
    refine ⟨0, s4, g3.1, g1, fun _ => ?_, fun y => absurd rfl y⟩
    rw [x4, x5, k8_, i_mul, i_add]
    have g : ∀ a k, ¬ (dV_ a k ∨ dSt_ a k) → st_I s4 a k = st_I σ a k := fun a k z => o4 a k (fun y => z (Or.inl y)) (fun y => z (Or.inr y))
    refine ⟨_, rfl, .inr x, g2, c, ⟨g3.1, rt0_cg (fun a k z => g a k (by unfold dV_ dSt_; omega)) O, ⟨Nat.zero_le _, t2, fun k hk => absurd hk (Nat.not_lt_zero k)⟩, rq_cg (fun a k z => g a k (by unfold dV_ dSt_; omega)) q, ⟨(g _ _ (by unfold dV_ dSt_; omega)).trans o1, fun k z y => (g _ _ (by unfold dV_ dSt_; omega)).trans (o2 k z y)⟩, ⟨(g _ _ (by unfold dV_ dSt_; omega)).trans cc1, krr_cg (fun k => g _ _ (by unfold dV_ dSt_; omega)) _ _ cc2⟩, re_cg (fun a k z => g a k (by unfold dV_ dSt_; omega)) ex⟩, by omega, rM, ?_, t0⟩
    show Value.int (-(i_ ((8 : Int) * (at' : Int) + (kd : Int)))) = Value.int (i_ (-(x : Int)))
    rw [i_neg, x1]
    exact congrArg (fun v => Value.int (i_ v)) (by omega)
end DF
