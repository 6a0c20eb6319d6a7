/-! the findings of a model are made once -/
section FI
variable {γ : ga_T} {σ σ1 : st_T} {A : ca_T} {R : rt_T} {m : Nat}
def rq_ (R : rt_T) (m : Nat) (f : fk_T) : rt_T := if m = 0 then (R.1, f, R.2.2.1, R.2.2.2) else if m = 1 then (R.1, R.2.1, f, R.2.2.2) else (R.1, R.2.1, R.2.2.1, f)
theorem fa_in (m : Nat) : fa_ m = 164 ∨ fa_ m = 169 ∨ fa_ m = 174 := fa_fi m
theorem fa_ne {m k : Nat} (hm : m < 3) (hk : k < 3) (e : m ≠ k) : fa_ m + 5 ≤ fa_ k ∨ fa_ k + 5 ≤ fa_ m := by
  have e1 : m = 0 ∨ m = 1 ∨ m = 2 := by omega
  have e2 : k = 0 ∨ k = 1 ∨ k = 2 := by omega
  rcases e1 with rfl | rfl | rfl <;> rcases e2 with rfl | rfl | rfl <;> first | omega | (unfold fa_; simp)
theorem rq_1 (R : rt_T) (m : Nat) (f : fk_T) : (rq_ R m f).1 = R.1 := by
  unfold rq_
  split
  · rfl
  · split
    · rfl
    · rfl
theorem rq_z (R : rt_T) {m : Nat} (hm : m < 3) (f : fk_T) : zR_ (rq_ R m f) + 128 * (rf_ R m).2.2 = zR_ R + 128 * f.2.2 ∧ yR_ (rq_ R m f) + 4 * (rf_ R m).2.2 = yR_ R + 4 * f.2.2 := by
  unfold zR_ yR_
  rw [rq_1]
  have y : ∀ k, k < 3 → rf_ (rq_ R m f) k = if k = m then f else rf_ R k := fun k hk => rf_at R f hm hk
  rw [y 0 (by decide), y 1 (by decide), y 2 (by decide)]
  have e1 : m = 0 ∨ m = 1 ∨ m = 2 := by omega
  rcases e1 with rfl | rfl | rfl
  · rw [if_pos rfl, if_neg (by decide), if_neg (by decide)]
    omega
  · rw [if_pos rfl, if_neg (by decide), if_neg (by decide)]
    omega
  · rw [if_pos rfl, if_neg (by decide), if_neg (by decide)]
    omega
theorem j_gf {f1 : fk_T} (hm : m < 3) (h : J_ σ A R) (hw : Wd σ1) (k : gf_ σ (fa_ m) (rf_ R m) σ1 f1) (hk : Kn_ σ1 (fa_ m) m (aP_ A) f1) : J_ σ1 A (rq_ R m f1) ∧ Co_ σ R 0 σ1 (rq_ R m f1) := by
  obtain ⟨⟨w, x1, x2⟩, ⟨p1, p2⟩, ⟨o1, o2, o3⟩, ⟨L0, T0⟩, kn, d1, d2⟩ := h
  have z220 := w.2.2
  have zF : Fr_ σ (fa_ m) (rf_ R m) := (kn m hm).1
  have lo : ∀ j, (j < 164 ∨ 178 < j) → j < 220 → eh_ σ σ1 j := fun j q1 q2 => gf_low (fa_fi m) zF k z220 q1 q2
  have rf : ∀ k, k < 3 → rf_ (rq_ R m f1) k = if k = m then f1 else rf_ R k := fun k hk => rf_at R f1 hm hk
  have fm := fa_in m
  have y1 := zF.2.2.1.1.1
  have y2 := zF.2.2.1.2.1
  have c1 := k.2.1.1
  have c2 := k.2.1.2
  have oth : ∀ j, j < 3 → j ≠ m → ∀ b, (b = (rf_ R j).1 ∨ b = (rf_ R j).2.1) → eh_ σ σ1 b := by
    intro j hj hne b hb
    obtain ⟨⟨-, -, ⟨q1, q2⟩, -⟩, -⟩ := kn j hj
    obtain ⟨e1, e2, e3, e4⟩ := d2 j m hj hm hne
    have fj := fa_ne hj hm hne
    rcases hb with rfl | rfl
    · have y := q1.1
      exact k.1 _ q1.2 (by omega) (by omega) (by omega)
    · have y := q2.1
      exact k.1 _ q2.2 (by omega) (by omega) (by omega)
  refine ⟨⟨⟨hw, ⟨x1.1, fun i zi => by rw [(lo 129 (by omega) (by omega)).1]; exact x1.2 i zi⟩, by rw [(lo 128 (by omega) (by omega)).1]; exact x2⟩, ⟨pq_eh p1 (lo _ (by omega) (by omega)) (lo _ (by omega) (by omega)) (lo _ (by omega) (by omega)) (lo _ (by omega) (by omega)) (lo _ (by omega) (by omega)), p2⟩, ⟨Xo_eh o1 (lo _ (by omega) (by omega)) (lo _ (by omega) (by omega)), Xc_eh o2 (lo _ (by omega) (by omega)) (lo _ (by omega) (by omega)), Ep_eh o3 (lo _ (by omega) (by omega)) (lo _ (by omega) (by omega)) (lo _ (by omega) (by omega)) (lo _ (by omega) (by omega))⟩, ⟨L0, by rw [rq_1]; exact tk_gf (fa_fi m) zF T0 (d1 m hm) k z220⟩, fun j hj => ?_, fun j hj => ?_, fun j i hj hi hne => ?_⟩, ⟨fun j q1 q2 => lo j (by omega) q2, k.2.2.2.1, ?_, ?_⟩⟩
  · rw [rf j hj]
    by_cases e : j = m
    · rw [if_pos e, e]
      exact hk
    · rw [if_neg e]
      have fj := fa_ne hj hm e
      have fj2 := fa_in j
      exact kn_eh (kn j hj) k.2.2.2.1 (k.1 _ (by omega) (by omega) (by omega) (by omega)) (k.1 _ (by omega) (by omega) (by omega) (by omega)) (k.1 _ (by omega) (by omega) (by omega) (by omega)) (oth j hj e _ (Or.inl rfl)) (oth j hj e _ (Or.inr rfl))
  · rw [rf j hj, rq_1]
    by_cases e : j = m
    · rw [if_pos e]
      obtain ⟨⟨e1, e2, e3⟩, e4, e5, e6⟩ := d1 m hm
      have t1 := T0.1.2.2.1.2.1.2
      have t2 := T0.1.2.2.1.2.2.1.2
      have t3 := T0.1.2.2.1.2.2.2.2
      exact ⟨⟨by omega, by omega, by omega⟩, by omega, by omega, by omega⟩
    · rw [if_neg e]
      exact d1 j hj
  · rw [rf j hj, rf i hi]
    by_cases e : j = m
    · rw [if_pos e, if_neg (show ¬ i = m by omega)]
      obtain ⟨e1, e2, e3, e4⟩ := d2 m i hm hi (by omega)
      obtain ⟨⟨-, -, ⟨q1, q2⟩, -⟩, -⟩ := kn i hi
      have w1 := q1.2
      have w2 := q2.2
      exact ⟨by omega, by omega, by omega, by omega⟩
    · rw [if_neg e]
      by_cases e9 : i = m
      · rw [if_pos e9]
        obtain ⟨e1, e2, e3, e4⟩ := d2 j m hj hm (by omega)
        obtain ⟨⟨-, -, ⟨q1, q2⟩, -⟩, -⟩ := kn j hj
        have w1 := q1.2
        have w2 := q2.2
        exact ⟨by omega, by omega, by omega, by omega⟩
      · rw [if_neg e9]
        exact d2 j i hj hi hne
  · have y := (rq_z R hm f1).1
    have y3 := k.2.2.2.2.1
    have y4 := k.2.2.1
    omega
  · have y := (rq_z R hm f1).2
    have y3 := k.2.2.2.2.2
    have y4 := k.2.2.1
    omega
theorem c_kept (zw : Wd σ) (hm : m < 3) : fn_ γ m_X11_kept 0 [.ref 128, .int (i_ (m : Int))] σ (.ref (fa_ m)) σ := fn_q (fun Q zQ => e_X11_kept zw (by
  unfold p_X11_kept_0
  have e1 : m = 0 ∨ m = 1 ∨ m = 2 := by omega
  unfold fa_ at zQ
  rcases e1 with rfl | rfl | rfl
  · exact ⟨fun _ => zQ, fun z => absurd rfl z⟩
  · exact ⟨fun z => absurd z (by decide), fun _ => ⟨fun _ => zQ, fun z => absurd rfl z⟩⟩
  · exact ⟨fun z => absurd z (by decide), fun _ => ⟨fun z => absurd z (by decide), fun _ => zQ⟩⟩))
theorem ex_kf {t0 : tk_T} {L0 : List (Nat × Int64)} {p : pr_T} {F : Nat → Bool} {s : st_T} (zw : Wd σ) (T0 : Tk_ σ L0 t0) (h : Ex_ σ t0 p m F s) : ∃ t, kf_ σ t0 s t ∧ Wd s ∧ Tk_ s (wm_ p (bf_ p m F)) t ∧ st_L s 153 14 = lN (en_ p (s1k_ p (pT_ p))) ∧ Mc_ s p m F ∧ st_L s 153 13 = lN (en_ p (s0k_ p (pL_ p))) ∧ ∀ a, 181 ≤ a → a ≤ 184 → eh_ σ s a := by
  obtain ⟨t, sb, h1, h2, h3, h4, h5, h6, h7, h8⟩ := h
  have k := mf_tk zw h1 T0
  refine ⟨t, kf_tr (kf_mf h1) (kf_tf h2), h3, h4, h8, h5, h7, fun a q1 q2 => eh_tr (h1.1 a (by omega)) ?_⟩
  obtain ⟨b0, b1, b2, n0, n2, e⟩ := t0
  have y := k.1.2.2.1
  have z : 220 ≤ st_n sb := by rw [h1.2.1]; exact zw.2.2
  have y1 : (149 ≤ b0 ∧ b0 ≤ 151) ∨ 220 ≤ b0 := y.2.1.1
  have y2 : (149 ≤ b1 ∧ b1 ≤ 151) ∨ 220 ≤ b1 := y.2.2.1.1
  have y3 : (149 ≤ b2 ∧ b2 ≤ 151) ∨ 220 ≤ b2 := y.2.2.2.1
  have z1 : a ≠ b0 := by omega
  have z2 : a ≠ b1 := by omega
  have z3 : a ≠ b2 := by omega
  exact h2.1 a (by omega) (by omega) z1 z2 z3
theorem j_ex {p : pr_T} {F : Nat → Bool} {k : Nat} {s : st_T} (h : J_ σ A R) (q : Ex_ σ R.1 p k F s) : ∃ t, Wd s ∧ Tk_ s (wm_ p (bf_ p k F)) t ∧ st_L s 153 14 = lN (en_ p (s1k_ p (pT_ p))) ∧ J_ s A (t, R.2) ∧ Co_ σ R 0 s (t, R.2) ∧ ∀ a, 164 ≤ a → a ≤ 178 → eh_ σ s a := by
  obtain ⟨L0, T0⟩ := h.2.2.2.1
  obtain ⟨t, k1, k2, k3, k4, k5, k6, k7⟩ := ex_kf h.1.1 T0 q
  have y := j_kf h k2 k3 k1 (Ep_eh h.2.2.1.2.2 (k7 181 (by omega) (by omega)) (k7 182 (by omega) (by omega)) (k7 183 (by omega) (by omega)) (k7 184 (by omega) (by omega)))
  exact ⟨t, k2, k3, k4, y.1, y.2, fun a q1 q2 => kf_low h.1.1 T0 k1 (by omega) (by omega) (by omega)⟩
/-- what the findings of a model are when they are known -/
def Kk_ (σ : st_T) (m : Nat) (P : pq_T) (f : fk_T) : Prop := Fl_ σ (fa_ m) f (ocs_ P.1 m (F0_ P.1)) ∧ st_I σ (fa_ m) 3 = i_ ((bf_ P.1 m (F0_ P.1)).length : Int)
theorem c_findings (h : J_ σ A R) (hb : Bq_ (aP_ A).1) (hm : m < 3) : ∃ σ1 R1, fn_ γ m_X11_findings 5 [.ref 128, .int (i_ (m : Int))] σ (.ref (fa_ m)) σ1 ∧ J_ σ1 A R1 ∧ Co_ σ R 0 σ1 R1 ∧ Kk_ σ1 m (aP_ A) (rf_ R1 m) ∧ st_I σ1 (fa_ m) 4 = i_ 1 ∧ ∀ k, k < 3 → st_I σ (fa_ k) 4 = i_ 1 → st_I σ1 (fa_ k) 4 = i_ 1 := by
  obtain ⟨⟨w, x1, x2⟩, ⟨p1, p2⟩, -, ⟨L0, T0⟩, kn, d1, d2⟩ := id h
  have ka := c_kept (γ := γ) w hm
  obtain ⟨b1, b2, b3, b4⟩ := hb m hm
  have fm := fa_fi m
  obtain ⟨zF, zk, zg⟩ := kn m hm
  rcases zk with zk | ⟨k1, k2, k3⟩
  · have zi := c_fknown (γ := γ) fm w (Or.inl zk)
    obtain ⟨s, e1, e2⟩ := c_explore (γ := γ) w p2.1 p1.1 T0 hm b2
    obtain ⟨t, f1, f2, f3, f4, f5, f6⟩ := j_ex h e2
    have zF2 : Fr_ s (fa_ m) (rf_ R m) := (f4.2.2.2.2.1 m hm).1
    have zD2 : Dj_ t (rf_ R m) := f4.2.2.2.2.2.1 m hm
    obtain ⟨σ1, f9, S, g1, g2, g3, g4, g5, g6, g7, g8⟩ := c_report (γ := γ) fm f1 f2 f3 zF2 zD2 b1
    have eS := ocs_un g4 g5
    rw [eS] at g3
    have zw2 := f1.2.2
    have fr := fr_ne fm zF2
    have fin := fa_in m
    have a3 : eh_ s σ1 (fa_ m + 3) := g6.1 _ (by omega) (by omega) (by omega) (by omega)
    have a4 : eh_ s σ1 (fa_ m + 4) := g6.1 _ (by omega) (by omega) (by omega) (by omega)
    have zgs := (f4.2.2.2.2.1 m hm).2.2
    have kk : Kn_ σ1 (fa_ m) m (aP_ A) f9 := ⟨g3.1, Or.inr ⟨g8, g3, g7⟩, fun j zj => by rw [a3.1, a4.1]; exact zgs j zj⟩
    obtain ⟨r1, r2⟩ := j_gf hm f4 g2 g6 kk
    refine ⟨σ1, rq_ (t, R.2) m f9, fn_q (fun Q zQ => e_X11_findings w ?_), r1, co_tr f5 r2, ?_, ?_, fun k hk q => ?_⟩
    · unfold p_X11_findings_0
      exact ⟨_, σ, w, ka, fm, _, σ, w, zi, fun _ => ⟨_, σ, w, c_waits (Or.inl rfl) w p1.1, s, f1, e1, σ1, g2, g1, zQ⟩, fun z => absurd zk z⟩
    · have e : rf_ (rq_ (t, R.2) m f9) m = f9 := by
        have y := rf_at (t, R.2) f9 hm hm
        rw [if_pos rfl] at y
        exact y
      rw [e]
      exact ⟨g3, g7⟩
    · exact g8
    · by_cases e : k = m
      · rw [e]
        exact g8
      · have fk := fa_ne hk hm e
        have fk2 := fa_in k
        have w1 := zF2.2.2.1.1.1
        have w2 := zF2.2.2.1.2.1
        rw [(g6.1 (fa_ k) (by omega) (by omega) (by omega) (by omega)).1, (f6 (fa_ k) (by omega) (by omega)).1]
        exact q
  · have zi := c_fknown (γ := γ) fm w (Or.inr k1)
    refine ⟨σ, R, fn_q (fun Q zQ => e_X11_findings w ?_), h, co_rf R, ⟨k2, k3⟩, k1, fun k _ q => q⟩
    unfold p_X11_findings_0
    exact ⟨_, σ, w, ka, fm, _, σ, w, zi, fun z => absurd (k1.symm.trans z) (by decide), fun _ => zQ⟩
theorem kk_of (h : J_ σ A R) (hm : m < 3) (k : st_I σ (fa_ m) 4 = i_ 1) : Kk_ σ m (aP_ A) (rf_ R m) := by
  rcases (h.2.2.2.2.1 m hm).2.1 with y | y
  · rw [k] at y
    exact absurd y (by decide)
  · exact ⟨y.2.1, y.2.2⟩
end FI
