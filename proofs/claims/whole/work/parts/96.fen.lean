/-! fences in gaps, tried -/
section FE
variable {γ : ga_T} {σ σ1 : st_T} {A : ca_T} {R : rt_T} {m : Nat}
/-- outcomes and matches with fences in gaps -/
def gO_ (P : pq_T) (m G : Nat) : Nat := cn_ (fi_ P.1) (bf_ P.1 m (FG_ P.1 G)) (bf_ P.1 m (FG_ P.1 G)).length
def gM_ (P : pq_T) (m G : Nat) : Nat := cn_ (fm_ P.1 P.2.2) (bf_ P.1 m (FG_ P.1 G)) (bf_ P.1 m (FG_ P.1 G)).length
theorem gO_le {P : pq_T} (hb : Bq_ P.1) (hm : m < 3) {G : Nat} (hG : G < 64) : gO_ P m G ≤ 131072 ∧ gM_ P m G ≤ 131072 := by
  have y := (hb m hm).2.2.1 G hG 131072
  exact ⟨Nat.le_trans (cn_le _ _) y, Nat.le_trans (cn_le _ _) y⟩
theorem j_keep (h : J_ σ A R) (hm : m < 3) {G : Nat} (hG : G < 64) : J_ (pt_I (pt_I σ (fa_ m + 3) G (i_ (gO_ (aP_ A) m G : Int))) (fa_ m + 4) G (i_ (gM_ (aP_ A) m G : Int))) A R ∧ Co_ σ R 0 (pt_I (pt_I σ (fa_ m + 3) G (i_ (gO_ (aP_ A) m G : Int))) (fa_ m + 4) G (i_ (gM_ (aP_ A) m G : Int))) R := by
  have fm := fa_in m
  have he : ∀ (v w : Int32) (b : Nat), b ≠ fa_ m + 3 → b ≠ fa_ m + 4 → eh_ σ (pt_I (pt_I σ (fa_ m + 3) G v) (fa_ m + 4) G w) b := fun v w b z1 z2 => eh_tr (eh_I z1) (eh_I z2)
  have hw : ∀ (v w : Int32), Wd (pt_I (pt_I σ (fa_ m + 3) G v) (fa_ m + 4) G w) := fun v w => h.1.1
  have hI : ∀ (v w : Int32) (b j : Nat), st_I (pt_I (pt_I σ (fa_ m + 3) G v) (fa_ m + 4) G w) b j = if b = fa_ m + 4 ∧ j = G then w else if b = fa_ m + 3 ∧ j = G then v else st_I σ b j := fun v w b j => by
    rw [st_pI, st_pI]
  generalize hv : i_ (gO_ (aP_ A) m G : Int) = v
  generalize hx : i_ (gM_ (aP_ A) m G : Int) = x
  have hs : st_n (pt_I (pt_I σ (fa_ m + 3) G v) (fa_ m + 4) G x) = st_n σ := rfl
  have hc : st_c (pt_I (pt_I σ (fa_ m + 3) G v) (fa_ m + 4) G x) = st_c σ := rfl
  have hu : st_u (pt_I (pt_I σ (fa_ m + 3) G v) (fa_ m + 4) G x) = st_u σ := rfl
  have he := he v x
  have hw := hw v x
  have hI := hI v x
  generalize pt_I (pt_I σ (fa_ m + 3) G v) (fa_ m + 4) G x = s at *
  refine j_mk h hw hs hc hu (fun b z => he b (by omega) (by omega)) ⟨⟨h.1.2.1.1, fun i zi => by rw [(he 129 (by omega) (by omega)).1]; exact h.1.2.1.2 i zi⟩, by rw [(he 128 (by omega) (by omega)).1]; exact h.1.2.2⟩ ⟨pq_eh h.2.1.1 (he _ (by omega) (by omega)) (he _ (by omega) (by omega)) (he _ (by omega) (by omega)) (he _ (by omega) (by omega)) (he _ (by omega) (by omega)), h.2.1.2⟩
    ⟨Xo_eh h.2.2.1.1 (he _ (by omega) (by omega)) (he _ (by omega) (by omega)), Xc_eh h.2.2.1.2.1 (he _ (by omega) (by omega)) (he _ (by omega) (by omega)), Ep_eh h.2.2.1.2.2 (he _ (by omega) (by omega)) (he _ (by omega) (by omega)) (he _ (by omega) (by omega)) (he _ (by omega) (by omega))⟩ (fun k hk => ?_)
  have kn := h.2.2.2.2.1 k hk
  have fk := fa_in k
  have w1 := kn.1.2.2.1.1.1
  have w2 := kn.1.2.2.1.2.1
  by_cases e : k = m
  · subst e
    obtain ⟨⟨⟨r1, r2⟩, ⟨s1, s2⟩, ⟨q1, q2⟩, n1⟩, k1, g⟩ := kn
    have h0 := he (fa_ k) (by omega) (by omega)
    have h1 := he (rf_ R k).1 (by omega) (by omega)
    have h2 := he (rf_ R k).2.1 (by omega) (by omega)
    have F : Fr_ s (fa_ k) (rf_ R k) := ⟨⟨by rw [h0.2.2.1]; exact r1, by rw [h0.2.2.1]; exact r2⟩, ⟨h1.2.2.2.trans s1, h2.2.2.2.trans s2⟩, ⟨⟨q1.1, by rw [hs]; exact q1.2⟩, ⟨q2.1, by rw [hs]; exact q2.2⟩⟩, n1⟩
    refine ⟨F, ?_, fun j zj => ?_⟩
    · rw [h0.1, h0.1]
      rcases k1 with k1 | ⟨k1, k2, k3⟩
      · exact Or.inl k1
      · exact Or.inr ⟨k1, ⟨F, by rw [h0.1]; exact k2.2.1, k2.2.2.1, fun i q z => by rw [h1.1, h2.2.1]; exact k2.2.2.2 i q z⟩, k3⟩
    · rw [hI, hI]
      by_cases ej : j = G
      · rw [if_neg (by omega), if_pos ⟨rfl, ej⟩, if_pos ⟨rfl, ej⟩, ej, ← hv, ← hx]
        exact Or.inr ⟨rfl, rfl⟩
      · rw [if_neg (fun z => ej z.2), if_neg (fun z => ej z.2), if_neg (fun z => ej z.2), if_neg (fun z => ej z.2)]
        exact g j zj
  · have fe := fa_ne hk hm e
    exact kn_eh kn (by rw [hs]; exact Nat.le_refl _) (he _ (by omega) (by omega)) (he _ (by omega) (by omega)) (he _ (by omega) (by omega)) (he _ (by omega) (by omega)) (he _ (by omega) (by omega))
theorem c_tryFences (h : J_ σ A R) (hb : Bq_ (aP_ A).1) (hm : m < 3) {G : Nat} (hG : G < 64) : ∃ σ1 R1, fw_ γ m_X11_tryFences 5 [.ref 128, .int (i_ (m : Int)), .int (i_ (G : Int))] σ σ1 ∧ J_ σ1 A R1 ∧ Co_ σ R 0 σ1 R1 ∧ st_I σ1 (fa_ m + 3) G = i_ (gO_ (aP_ A) m G : Int) ∧ st_I σ1 (fa_ m + 4) G = i_ (gM_ (aP_ A) m G : Int) := by
  have w := h.1.1
  have fm := fa_fi m
  have fin := fa_in m
  obtain ⟨l1, l2⟩ := gO_le hb hm hG
  have kn := (h.2.2.2.2.1 m hm).2.2 G hG
  have c1 := c_kept (γ := γ) w hm
  have c2 := c_fencedO (γ := γ) fm w hG
  rcases kn with kn | ⟨k1, k2⟩
  · obtain ⟨L0, T0⟩ := h.2.2.2.1
    obtain ⟨s, e1, e2⟩ := c_explore (γ := γ) w h.2.1.2.1 h.2.1.1.1 T0 hm ((hb m hm).2.2.1 G hG)
    obtain ⟨t, f1, f2, f3, f4, f5, f6⟩ := j_ex h e2
    obtain ⟨e, u1, u2⟩ := f4.2.1.2.2.2
    have b1 := f4.2.1.1.1.1.2.1
    have b2 := f4.2.1.1.1.1.2.2.1
    have z1 := c_outcomes (γ := γ) f1 f2 f3
    have z2 := c_matches (γ := γ) f1 f2 f3 (pq_cx f4.2.1.1) u2 u1 (by unfold cb_; omega)
    have z3 := c_keep (γ := γ) fm f1 hG (i_ (gO_ (aP_ A) m G : Int)) (i_ (gM_ (aP_ A) m G : Int))
    obtain ⟨j1, j2⟩ := j_keep f4 hm hG
    refine ⟨_, (t, R.2), fw_q (fun Q zQ => e_X11_tryFences w ?_), j1, co_tr f5 j2, ?_, ?_⟩
    · unfold p_X11_tryFences_0
      refine ⟨_, σ, w, c1, fm, _, σ, w, c2, fun _ => ⟨_, σ, w, c_waitsWith (Or.inl rfl) w h.2.1.1.1 hG, s, f1, e1, _, s, f1, z1, _, s, f1, z2, fm, _, ?_, z3, zQ⟩, fun z => absurd kn z⟩
      exact f1
    · rw [st_pI, if_neg (by omega), st_sI]
    · rw [st_sI]
  · refine ⟨σ, R, fw_q (fun Q zQ => e_X11_tryFences w ?_), h, co_rf R, k1, k2⟩
    unfold p_X11_tryFences_0
    refine ⟨_, σ, w, c1, fm, _, σ, w, c2, ?_⟩
    rw [k1]
    change ((i_ ((gO_ (aP_ A) m G : Nat) : Int) = -1 → _) ∧ (¬ i_ ((gO_ (aP_ A) m G : Nat) : Int) = -1 → _))
    simp (disch := omega) only [i_lit, i_neg, i_eq]
    exact ⟨fun z => by omega, fun _ => zQ⟩
def gaps_ (A : ca_T) : Nat := ct_ (gb_ (aP_ A).1) (pN_ (aP_ A).1)
theorem c_matchesWith (h : J_ σ A R) (hb : Bq_ (aP_ A).1) {z y : Int} (q1 : -2147483648 ≤ z ∧ z < 2147483648) (q2 : -2147483648 ≤ y ∧ y < 2147483648) : Ans_ γ m_X11_matchesWith 9 [.ref 128, .int (i_ z), .int (i_ y)] σ R A (mq_ z (fun m => if 0 ≤ y ∧ y.toNat < 2 ^ gaps_ A then ri_ (gM_ (aP_ A) m y.toNat) else iae_)) := by
  have w := h.1.1
  refine am_ h q1 (fun m hm e hf => ?_) (fun Q s zs zf zQ => e_X11_matchesWith h.1.1 (by
    unfold p_X11_matchesWith_0
    exact Or.inr ⟨s, zs, zf, zQ⟩))
  subst e
  have g6 : gaps_ A ≤ 6 := gaps_6 h.2.1.2.1
  have cg : fn_ γ m_X7_gaps 2 [.ref 132] σ (.int (i_ ((gaps_ A : Nat) : Int))) σ := c_gaps (Or.inl rfl) w h.2.1.1.1
  have hp := Nat.two_pow_pos (gaps_ A)
  have hp2 : 2 ^ gaps_ A ≤ 2 ^ 6 := Nat.pow_le_pow_right (by decide) g6
  have sh : ∀ c : Nat, y = c → (i_ y >>> (i_ ((gaps_ A : Nat) : Int) &&& (31 : Int32)) = (0 : Int32)) = (c < 2 ^ gaps_ A) := fun c hc => by
    rw [hc, show (31 : Int32) = i_ 31 from rfl, i_shr (by omega) (by omega), i_lit 0, ← Nat.div_eq_zero_iff_lt hp]
    have d := Nat.div_le_self c (2 ^ gaps_ A)
    generalize c / 2 ^ gaps_ A = D at d ⊢
    rw [show i_ (OfNat.ofNat 0) = i_ 0 from rfl, i_eq (by omega) (by decide)]
    exact propext ⟨fun z => by omega, fun z => by omega⟩
  by_cases hy : 0 ≤ y ∧ y.toNat < 2 ^ gaps_ A
  · rw [if_pos hy]
    obtain ⟨c, rfl⟩ : ∃ c : Nat, y = c := ⟨y.toNat, by omega⟩
    rw [Int.toNat_natCast] at hy ⊢
    obtain ⟨σ1, R1, f1, f2, f3, f4, f5⟩ := c_tryFences (γ := γ) h hb hm (G := c) (by omega)
    refine ⟨σ1, R1, sq_ (fun Q zQ => e_X11_matchesWith w ?_), f2, co_1 f3⟩
    have cm := c_fencedM (γ := γ) (fa_fi m) f2.1.1 (g := c) (by omega)
    rw [f5] at cm
    unfold p_X11_matchesWith_0
    refine Or.inl ⟨σ, w, hf, fun z => absurd z ?_, fun _ => ⟨_, σ, w, cg, fun _ => ⟨σ1, f2.1.1, f1, _, σ1, f2.1.1, c_kept f2.1.1 hm, fa_fi m, _, σ1, f2.1.1, cm, zQ⟩, fun z => absurd z ?_⟩⟩
    · simp (disch := omega) only [i_lit, i_lt]
      omega
    · rw [sh c rfl]
      exact fun z => z hy.2
  · rw [if_neg hy]
    refine anX_ h (fun Q zQ => e_X11_matchesWith w ?_)
    unfold p_X11_matchesWith_0
    refine Or.inl ⟨σ, w, hf, fun _ => zQ, fun z0 => ⟨_, σ, w, cg, fun z => ?_, fun _ => zQ⟩⟩
    rw [show (0 : Int32) = i_ 0 from rfl, i_lt q2 (by decide)] at z0
    obtain ⟨c, rfl⟩ : ∃ c : Nat, y = c := ⟨y.toNat, by omega⟩
    rw [sh c rfl] at z
    exact absurd ⟨by omega, z⟩ hy
end FE
