/-! the class finds the first execution -/
section KF
variable {γ : ga_T} {σ σ1 : st_T} {p : pr_T} {m : Nat} {F : Nat → Bool} {S S2 : gs_T} {L0 : List (Nat × Int64)} {t0 t1 : tk_T} {c : Nat}
/-- the frame of the searches: table, path, machine and explanation alone change -/
def kf_ (σ : st_T) (t : tk_T) (σ1 : st_T) (t' : tk_T) : Prop := (∀ a, a < st_n σ → a ≠ 148 → a ≠ 152 → (a < 153 ∨ 163 < a) → (a < 181 ∨ 184 < a) → a ≠ t.1 → a ≠ t.2.1 → a ≠ t.2.2.1 → eh_ σ σ1 a) ∧
  ((t'.1 = t.1 ∨ st_n σ ≤ t'.1) ∧ (t'.2.1 = t.2.1 ∨ st_n σ ≤ t'.2.1) ∧ (t'.2.2.1 = t.2.2.1 ∨ st_n σ ≤ t'.2.2.1)) ∧ (t.2.2.2.1 ≤ t'.2.2.2.1 ∧ t.2.2.2.2.1 ≤ t'.2.2.2.2.1) ∧ st_n σ ≤ st_n σ1 ∧
  128 * st_c σ1 + t.2.2.2.1 + t.2.2.2.2.1 ≤ 128 * st_c σ + t'.2.2.2.1 + t'.2.2.2.2.1 ∧ st_u σ1 + 4 * t.2.2.2.1 + 2 * t.2.2.2.2.1 ≤ st_u σ + 4 * t'.2.2.2.1 + 2 * t'.2.2.2.2.1
theorem kf_tr {s s2 : st_T} {t t2 : tk_T} (h : kf_ σ t0 s t) (k : kf_ s t s2 t2) : kf_ σ t0 s2 t2 := by
  obtain ⟨h1, ⟨h2, h3, h4⟩, ⟨h5, h6⟩, h7, h8, h9⟩ := h
  obtain ⟨k1, ⟨k2, k3, k4⟩, ⟨k5, k6⟩, k7, k8, k9⟩ := k
  refine ⟨fun a z1 z2 z6 y1 y2 z3 z4 z5 => eh_tr (h1 a z1 z2 z6 y1 y2 z3 z4 z5) (k1 a (by omega) z2 z6 y1 y2 (by omega) (by omega) (by omega)), ⟨by omega, by omega, by omega⟩, ⟨by omega, by omega⟩, by omega, by omega, by omega⟩
theorem kf_tf {s : st_T} {t : tk_T} (h : tf_ σ t0 s t) : kf_ σ t0 s t := ⟨fun a z1 z2 _ _ _ z4 z5 z6 => h.1 a z1 z2 z4 z5 z6, h.2⟩
theorem kf_pf {s : st_T} {t : tk_T} (h : pf_ σ t0 s t) : kf_ σ t0 s t := ⟨fun a z1 z2 z3 _ _ z4 z5 z6 => h.1 a z1 z2 z3 z4 z5 z6, h.2⟩
theorem kf_mf {s : st_T} (h : mf_ σ s) : kf_ σ t0 s t0 := ⟨fun a z1 _ _ z2 _ _ _ _ => h.1 a z2, ⟨Or.inl rfl, Or.inl rfl, Or.inl rfl⟩, ⟨Nat.le_refl _, Nat.le_refl _⟩, by rw [h.2.1]; exact Nat.le_refl _, by rw [h.2.2.1]; exact Nat.le_refl _, by rw [h.2.2.2]; exact Nat.le_refl _⟩
theorem kf_xf {s : st_T} (h : xf_ σ s) : kf_ σ t0 s t0 := ⟨fun a z1 _ _ _ z2 _ _ _ => h.1 a z2, ⟨Or.inl rfl, Or.inl rfl, Or.inl rfl⟩, ⟨Nat.le_refl _, Nat.le_refl _⟩, by rw [h.2.1]; exact Nat.le_refl _, by rw [h.2.2.1]; exact Nat.le_refl _, by rw [h.2.2.2.1]; exact Nat.le_refl _⟩
theorem kf_low (zw : Wd σ) (zT : Tk_ σ L0 t0) {s : st_T} {t : tk_T} (h : kf_ σ t0 s t) {a : Nat} (q : a < 148 ∨ 163 < a) (q2 : a < 181 ∨ 184 < a) (q1 : a < 220) : eh_ σ s a := by
  obtain ⟨b0, b1, b2, n0, n2, e⟩ := t0
  have y := zT.1.2.2.1
  have z := zw.2.2
  have y1 : (149 ≤ b0 ∧ b0 ≤ 151) ∨ 220 ≤ b0 := y.2.1.1
  have y2 : (149 ≤ b1 ∧ b1 ≤ 151) ∨ 220 ≤ b1 := y.2.2.1.1
  have y3 : (149 ≤ b2 ∧ b2 ≤ 151) ∨ 220 ≤ b2 := y.2.2.2.1
  have z1 : a ≠ b0 := by omega
  have z2 : a ≠ b1 := by omega
  have z3 : a ≠ b2 := by omega
  exact h.1 a (by omega) (by omega) (by omega) (by omega) q2 z1 z2 z3
theorem tk_xf {L : List (Nat × Int64)} {s : st_T} (h : xf_ σ s) (zT : Tk_ σ L t0) : Tk_ s L t0 := by
  have y := zT.1.2.2.1
  have y1 := y.2.1.1
  have y2 := y.2.2.1.1
  have y3 := y.2.2.2.1
  exact tk_eh zT (by rw [h.2.1]; exact Nat.le_refl _) (h.1 148 (by omega)) (h.1 _ (by omega)) (h.1 _ (by omega)) (h.1 _ (by omega))
theorem l_first (zP : Wp_ p) {Q : rs_T → st_T → Prop} : ∀ (r : List (Nat × Nat)) (S : gs_T) (e : ex_T) (s : st_T), Lp_ p (gcl_ p m F) c S r → Vg_ p S → Wd s → Mc_ s p m F → Rp_ s 132 p → st_L s 153 14 = lN (en_ p (s1k_ p (pT_ p))) → Xp_ s e → e.1.length + r.length ≤ 18 → Pw_ s e.1.length r → e.2.2.length + wpt_ p S ≤ 8 →
    (∀ s', Wd s' → Xp_ s' (xr_ p (gcl_ p m F) S e r) → xf_ s s' → Q (.inl (some (.int (i_ 1)))) s') →
    vv_ γ m_X2_findFirst 81 56 [(0, .ref 147), (3, .ref 181), (4, .long (lN (en_ p S))), (6, .int (i_ (e.1.length : Int)))] [] s Q := by
  intro r
  induction r with
  | nil =>
    intro S e s zL zV zw zM zR hE zX zl zp zwp zK
    have zf : fi_ p S = true := zL.1
    have zl : e.1.length + 0 ≤ 18 := zl
    refine g_X2_findFirst_56 zw ?_
    unfold p_X2_findFirst_56
    have k1 := zK s zw zX xf_rf
    simp (disch := omega) only [i_lit, i_le]
    refine ⟨fun _ => k1, fun _ => ⟨_, s, zw, c_isFinal zw hE, ?_⟩⟩
    rw [if_pos zf]
    exact ⟨fun z => absurd z (by decide), fun _ => k1⟩
  | cons q r ih =>
    intro S e s zL zV zw zM zR hE zX zl zp zwp zK
    obtain ⟨zf, zt, zw2, ⟨S2, e1, zL2⟩, -, -⟩ := zL
    obtain ⟨t, w⟩ := q
    dsimp only at zt zw2 e1
    have b1 := zP.1.2.1
    have b3 := zP.1.2.2.1
    rw [List.length_cons] at zl
    have ws := wpt_step zP e1 e
    have hp := zp 0 (t, w) rfl
    rw [Nat.add_zero] at hp
    have hp : st_I s 152 e.1.length = i_ ((10 * t + w : Nat) : Int) := hp
    obtain ⟨s2, k1, k2, k3, k4⟩ := c_addStep (γ := γ) zw zP zM zR zV zt zw2 e1 zX (by omega) (by omega)
    have M2 : Mc_ s2 p m F := mc_eh (fun a y1 y2 => k4.1 a (by omega)) zM
    have R2 : Rp_ s2 132 p := rp_eh zR (k4.1 132 (by omega)) (k4.1 134 (by omega)) (k4.1 135 (by omega))
    have ca := c_after (γ := γ) k2 zP M2 zV zt zw2
    rw [e1] at ca
    have el : (xs_ p (gcl_ p m F) S (t, w) e).1.length = e.1.length + 1 := by rw [xs_len zP e1, List.length_append]; rfl
    have y := ih S2 (xs_ p (gcl_ p m F) S (t, w) e) s2 zL2 (vg_step zP zV zt zw2 e1) k2 M2 R2 (by rw [(k4.1 153 (by omega)).2.1]; exact hE) k3 (by rw [el]; omega) (fun i q hq => by
      have z := zp (i + 1) q hq
      rw [(k4.1 152 (by omega)).1, el, show e.1.length + 1 + i = e.1.length + (i + 1) by omega]
      exact z) (by omega) (fun s' a1 a2 a3 => zK s' a1 (by
      show Xp_ s' (match gt_ (gcl_ p m F) S t w with | some S2 => xr_ p (gcl_ p m F) S2 (xs_ p (gcl_ p m F) S (t, w) e) r | none => e)
      rw [e1]
      exact a2) (xf_tr k4 a3))
    rw [el, show ((e.1.length + 1 : Nat) : Int) = (e.1.length : Int) + 1 by omega, ← i_add, ← i_lit 1] at y
    refine g_X2_findFirst_56 zw ?_
    unfold p_X2_findFirst_56
    simp (disch := omega) only [i_lit, i_le, i_in_iff, i_cl, Int.toNat_natCast]
    refine ⟨fun z => by omega, fun _ => ⟨_, s, zw, c_isFinal zw hE, ?_⟩⟩
    rw [if_neg (by rw [zf]; decide)]
    have ed : i_ ((10 * t + w : Nat) : Int) / i_ 10 = i_ (t : Int) := by
      rw [show (10 : Int) = ((10 : Nat) : Int) from rfl, i_div (by omega) (by decide), show (10 * t + w) / 10 = t by omega]
    have em : i_ ((10 * t + w : Nat) : Int) - i_ (t : Int) * i_ 10 = i_ (w : Int) := by
      rw [i_mul, i_sub, show ((10 * t + w : Nat) : Int) - (t : Int) * 10 = (w : Int) by omega]
    refine ⟨fun _ => ⟨by omega, by omega, s2, k2, ?_, _, s2, k2, ?_, y⟩, fun z => absurd rfl z⟩
    · rw [hp]
      show fw_ γ m_X1_addStep 3 [.ref 181, .ref 153, .long (lN (en_ p S)), .int (i_ ((10 * t + w : Nat) : Int) / i_ 10), .int (i_ ((10 * t + w : Nat) : Int) - i_ ((10 * t + w : Nat) : Int) / i_ 10 * i_ 10)] s s2
      rw [ed, em]
      exact k1
    · rw [hp]
      show fn_ γ m_X4_after 3 [.ref 153, .long (lN (en_ p S)), .int (i_ ((10 * t + w : Nat) : Int) / i_ 10), .int (i_ ((10 * t + w : Nat) : Int) - i_ ((10 * t + w : Nat) : Int) / i_ 10 * i_ 10)] s2 (.long (lN (en_ p S2))) s2
      rw [ed, em]
      exact ca
theorem c_findFirst (zw : Wd σ) (zP : Wp_ p) (zR : Rp_ σ 132 p) (zT : Tk_ σ L0 t0) (q1 : m < 3) (hb : Bd_ p m (F0_ p)) (zc : c < 4194304) (hL : Ld_ p (gcl_ p m (F0_ p)) c (s0k_ p (pL_ p))) :
    ∃ σ1 r M' t1, fn_ γ m_X2_findFirst 81 [.ref 147, .int (i_ (m : Int)), .int (i_ (c : Int)), .ref 181] σ (.int (i_ 1)) σ1 ∧ Wd σ1 ∧ Tk_ σ1 (wm_ p M') t1 ∧ M'.length ≤ 131072 ∧ kf_ σ t0 σ1 t1 ∧ Lp_ p (gcl_ p m (F0_ p)) c (s0k_ p (pL_ p)) r ∧ (∃ O, Xp_ σ1 (xr_ p (gcl_ p m (F0_ p)) (s0k_ p (pL_ p)) ([], O, []) r)) ∧ st_I σ1 181 6 = i_ 1 := by
  obtain ⟨sb, a1, a2, a3, a4, a5, a6⟩ := c_prepare (γ := γ) zw zP zR (F := F0_ p) q1
  have zT1 := mf_tk zw a3 zT
  have zR1 := rp_mf zR a3
  obtain ⟨s3, t3, d1, d2, d3, d4⟩ := c_clear (γ := γ) a2 zT1
  have lo3 := fun {a : Nat} (z1 : a < 148 ∨ 151 < a) (z2 : a < 220) => tf_low a2 zT1 d4 (a := a) z1 z2
  have M3 : Mc_ s3 p m (F0_ p) := mc_eh (fun a y1 y2 => lo3 (by omega) (by omega)) a4
  have R3 : Rp_ s3 132 p := rp_eh zR1 (lo3 (a := 132) (by omega) (by omega)) (lo3 (a := 134) (by omega) (by omega)) (lo3 (a := 135) (by omega) (by omega))
  have E13 : st_L s3 153 13 = lN (en_ p (s0k_ p (pL_ p))) := by rw [(lo3 (a := 153) (by omega) (by omega)).2.1]; exact a5
  have E14 : st_L s3 153 14 = lN (en_ p (s1k_ p (pT_ p))) := by rw [(lo3 (a := 153) (by omega) (by omega)).2.1]; exact a6
  have X3 : Dx_ s3 p m (F0_ p) t3 s3 [] := ⟨t3, d2, d3, pf_tf (tf_rf t3), fun q hq => by cases hq⟩
  have l18 := lft_0 (k := pL_ p) zP
  obtain ⟨v, s4, e1, e2, M', e3, -, e5⟩ := c_leads (γ := γ) d2 zP d3 M3 R3 E14 hb zc 18 (s0k_ p (pL_ p)) 0 79 s3 [] l18 (by omega) rfl (rs_0 zP) X3 (fun q hq => by cases hq)
  rcases e5 with ⟨-, z, -⟩ | ⟨rfl, r, g1, g2, g3⟩
  · exact absurd hL z
  · have M4 := dx_mc d2 d3 M3 e3
    have R4 := dx_R d2 d3 R3 e3
    have F4 := dx_E d2 d3 E14 e3
    have len4 := dx_len zP hb e3
    obtain ⟨t4, -, f2, f3, -⟩ := id e3
    have E13b : st_L s4 153 13 = lN (en_ p (s0k_ p (pL_ p))) := by rw [(pf_low d2 d3 f3 (a := 153) (by omega) (by omega) (by omega)).2.1]; exact E13
    obtain ⟨s5, h5⟩ : ∃ s5, s5 = pt_I (pt_I (pt_I (pt_I s4 181 6 0) 181 4 0) 181 5 0) 181 6 1 := ⟨_, rfl⟩
    have w5 : Wd s5 := by rw [h5]; exact e2
    have k5 : ∀ a, a ≠ 181 → eh_ s4 s5 a := fun a z => by
      rw [h5]
      exact eh_tr (eh_tr (eh_tr (eh_I z) (eh_I z)) (eh_I z)) (eh_I z)
    have n5 : st_n s5 = st_n s4 ∧ st_c s5 = st_c s4 ∧ st_u s5 = st_u s4 := by
      rw [h5]
      exact ⟨rfl, rfl, rfl⟩
    have T5 : Tk_ s5 (wm_ p M') t4 := by
      have y := f2.1.2.2.1
      have y1 := y.2.1.1
      have y2 := y.2.2.1.1
      have y3 := y.2.2.2.1
      exact tk_eh f2 (by rw [n5.1]; exact Nat.le_refl _) (k5 148 (by omega)) (k5 _ (by omega)) (k5 _ (by omega)) (k5 _ (by omega))
    have X5 : Xp_ s5 (([] : List (Nat × Nat)), (fun i => (st_I s5 183 i).toInt), ([] : List Nat)) := by
      refine ⟨⟨?_, Nat.zero_le _, fun i q z => by cases z⟩, ⟨?_, Nat.zero_le _, fun i n z => by cases z⟩, fun i _ => i_of _⟩
      · rw [h5]
        rfl
      · rw [h5]
        rfl
    have key : sp_ γ m_X2_findFirst 81 [.ref 147, .int (i_ (m : Int)), .int (i_ (c : Int)), .ref 181] σ (fun rr s => ∃ v, rr = .inl (some v) ∧ (v = .int (i_ 1) ∧ Wd s ∧ Xp_ s (xr_ p (gcl_ p m (F0_ p)) (s0k_ p (pL_ p)) ([], (fun i => (st_I s5 183 i).toInt), []) r) ∧ xf_ s5 s)) := by
      refine e_X2_findFirst zw ?_
      unfold p_X2_findFirst_0
      refine ⟨_, σ, zw, c_waits pg_132 zw zR, sb, a2, a1, s3, d2, d1, _, s3, d2, c_start d2 E13, _, s4, e2, e1, fun z => absurd z (by decide), fun _ => ⟨s5, w5, by rw [h5]; exact c_xbegin e2, _, s5, w5, c_start w5 (by rw [(k5 153 (by omega)).2.1]; exact E13b), ?_⟩⟩
      refine l_first (e := (([] : List (Nat × Nat)), (fun i => (st_I s5 183 i).toInt), ([] : List Nat))) zP r (s0k_ p (pL_ p)) s5 g1 (vg_0 zP) w5 (mc_eh (fun a y1 y2 => k5 a (by omega)) M4) (rp_eh R4 (k5 132 (by omega)) (k5 134 (by omega)) (k5 135 (by omega))) (by rw [(k5 153 (by omega)).2.1]; exact F4) X5 (by rw [show ([] : List (Nat × Nat)).length = 0 from rfl]; omega) (fun i q hq => ?_) (by have y := wpt_0 (k := pL_ p) zP; rw [show ([] : List Nat).length = 0 from rfl]; omega) (fun s' b1 b2 b3 => ⟨_, rfl, rfl, b1, b2, b3⟩)
      rw [(k5 152 (by omega)).1]
      exact g3 i q hq
    obtain ⟨v, σ1, y1, rfl, y2, y3, y4⟩ := fn_of key
    have k6 : kf_ s4 t4 s5 t4 := ⟨fun a z1 _ _ _ z2 _ _ _ => k5 a (by omega), ⟨Or.inl rfl, Or.inl rfl, Or.inl rfl⟩, ⟨Nat.le_refl _, Nat.le_refl _⟩, by rw [n5.1]; exact Nat.le_refl _, by rw [n5.2.1]; exact Nat.le_refl _, by rw [n5.2.2]; exact Nat.le_refl _⟩
    refine ⟨σ1, r, M', t4, y1, y2, tk_xf y4 T5, len4, ?_, g1, ⟨_, y3⟩, ?_⟩
    · exact kf_tr (kf_tr (kf_tr (kf_tr (kf_mf a3) (kf_tf d4)) (kf_pf f3)) k6) (kf_xf y4)
    · rw [y4.2.2.2.2, h5]
      rfl
end KF
