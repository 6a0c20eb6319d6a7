/-! the class searches the first execution: the search itself -/
section LE
variable {γ : ga_T} {σ : st_T} {p : pr_T} {m : Nat} {F : Nat → Bool} {L0 : List (Nat × Int64)} {t0 : tk_T} {c : Nat}
def Hi_ (σ : st_T) (p : pr_T) (m : Nat) (F : Nat → Bool) (t0 : tk_T) (c : Nat) (S : gs_T) (M : List (gs_T × Int64)) (s : st_T) (M' : List (gs_T × Int64)) (t : Nat) : Prop := Dx_ σ p m F t0 s M' ∧ (∀ q ∈ M', q ∈ M ∨ lft_ p q.1 < lft_ p S) ∧ (∀ q ∈ M', lft_ p q.1 < lft_ p S → ¬ Ld_ p (gcl_ p m F) c q.1) ∧
  ∀ u v S2, u < t → v ≤ pL_ p → gt_ (gcl_ p m F) S u v = some S2 → ¬ Ld_ p (gcl_ p m F) c S2
theorem dx_pt {s : st_T} {M : List (gs_T × Int64)} (h : Dx_ σ p m F t0 s M) (k : Nat) (v : Int32) : Dx_ σ p m F t0 (pt_I s 152 k v) M := by
  obtain ⟨t, h1, h2, h3, h4⟩ := h
  have y := h2.1.2.2.1
  have y1 := y.2.1.1
  have y2 := y.2.2.1.1
  have y3 := y.2.2.2.1
  exact ⟨t, h1, tk_eh h2 (Nat.le_refl _) (eh_I (by decide)) (eh_I (by omega)) (eh_I (by omega)) (eh_I (by omega)), pf_I h3, h4⟩
theorem l_has30 (zw : Wd σ) (zP : Wp_ p) (zT : Tk_ σ L0 t0) (zM : Mc_ σ p m F) (zR : Rp_ σ 132 p) (hb : Bd_ p m F) (zc : c < 4194304) {S : gs_T} {d D : Nat} {M : List (gs_T × Int64)} (zS : Rs_ p m F S) (zd : d + lft_ p S ≤ 18) (zD : 40 ≤ D) (zf : fi_ p S = false)
    (ih : ∀ S2 s M2, lft_ p S2 < lft_ p S → Rs_ p m F S2 → Dx_ σ p m F t0 s M2 → (∀ q ∈ M2, lft_ p q.1 ≤ lft_ p S2 → ¬ Ld_ p (gcl_ p m F) c q.1) → ∃ v s2, fn_ γ m_X2_leadsTo D [.ref 147, .int (i_ (c : Int)), .long (lN (en_ p S2)), .int (i_ ((d + 1 : Nat) : Int))] s v s2 ∧ Wd s2 ∧ Ro_ σ p m F t0 c S2 (d + 1) M2 (lft_ p S2 + 1) v s2)
    {t : Nat} (zt : t < pT_ p) {P : Nat} (zP1 : P = 1 ∨ P = 1 + pL_ p) (zP2 : P = 1 → ∀ v S2, 1 ≤ v → gt_ (gcl_ p m F) S t v = some S2 → False)
    (K : ∀ s M', Hi_ σ p m F t0 c S M s M' (t + 1) → vv_ γ m_X2_hasStepTo (D + 1) 3 [(0, .ref 147), (1, .int (i_ (c : Int))), (2, .long (lN (en_ p S))), (4, .int (i_ (d : Int))), (5, .int (i_ ((t + 1 : Nat) : Int)))] [] s (fun r s => ∃ v, r = .inl (some v) ∧ Wd s ∧ Ro_ σ p m F t0 c S d M (lft_ p S) v s)) :
    ∀ (n w : Nat) (s : st_T) (M' : List (gs_T × Int64)), n + w = P → Hi_ σ p m F t0 c S M s M' t → (∀ v S2, v < w → gt_ (gcl_ p m F) S t v = some S2 → ¬ Ld_ p (gcl_ p m F) c S2) →
      vv_ γ m_X2_hasStepTo (D + 1) 30 [(0, .ref 147), (1, .int (i_ (c : Int))), (2, .long (lN (en_ p S))), (4, .int (i_ (d : Int))), (5, .int (i_ (t : Int))), (6, .int (i_ (P : Int))), (7, .int (i_ (w : Int)))] [] s (fun r s => ∃ v, r = .inl (some v) ∧ Wd s ∧ Ro_ σ p m F t0 c S d M (lft_ p S) v s) := by
  have b1 := zP.1.2.1
  have b3 := zP.1.2.2.1
  have zV := rs_vg zP zS
  intro n
  induction n with
  | zero =>
    intro w s M' zn zH zdw
    have zn : w = P := by omega
    subst zn
    obtain ⟨t1, h1, -⟩ := id zH.1
    have k1 := K s M' ⟨zH.1, zH.2.1, zH.2.2.1, fun u v S2 q1 q2 q3 => by
      by_cases y : u < t
      · exact zH.2.2.2 u v S2 y q2 q3
      · have y2 : u = t := by omega
        subst y2
        by_cases y3 : v < w
        · exact zdw v S2 y3 q3
        · rcases zP1 with y4 | y4
          · exact (zP2 y4 v S2 (by omega) q3).elim
          · omega⟩
    rw [show ((t + 1 : Nat) : Int) = (t : Int) + 1 by omega, ← i_add, ← i_lit 1] at k1
    refine g_X2_hasStepTo_30 zD h1 ?_
    unfold p_X2_hasStepTo_30
    exact ⟨fun _ => k1, fun z => absurd (Int32.le_refl _) z⟩
  | succ n ih2 =>
    intro w s M' zn zH zdw
    obtain ⟨t1, h1, h2, h3, h4⟩ := id zH.1
    have zMs := dx_mc zw zT zM zH.1
    have wL : w ≤ pL_ p := by omega
    have next := ih2 (w + 1)
    rw [show ((w + 1 : Nat) : Int) = (w : Int) + 1 by omega, ← i_add, ← i_lit 1] at next
    refine g_X2_hasStepTo_30 zD h1 ?_
    unfold p_X2_hasStepTo_30
    simp (disch := omega) only [i_le]
    refine ⟨fun z => by omega, fun _ => ⟨_, s, h1, c_after h1 zP zMs zV zt wL, ?_⟩⟩
    cases e : gt_ (gcl_ p m F) S t w with
    | none =>
      refine ⟨fun _ => next s M' (by omega) zH (fun v S2 z1 z2 => ?_), fun z => absurd rfl z⟩
      by_cases y : v = w
      · rw [y, e] at z2; cases z2
      · exact zdw v S2 (by omega) z2
    | some S2 =>
      have zV2 := vg_step zP zV zt wL e
      have zS2 := rs_step zP hb zS zt wL e
      have zl := lft_step zP e
      refine ⟨fun z => absurd z (lN_m1 (Nat.lt_trans (en_lt _) (by decide))), fun _ => ⟨_, s, h1, c_contra h1 zP zMs zV zV2 zt zc, ?_⟩⟩
      by_cases yc : ctr_ p c S S2 t = true
      · rw [if_pos yc]
        refine ⟨fun z => absurd z (by decide), fun _ => next s M' (by omega) zH (fun v S3 z1 z2 => ?_)⟩
        by_cases y : v = w
        · rw [y, e] at z2
          rw [← Option.some.inj z2]
          exact ctr_dead zP zV zt wL e yc
        · exact zdw v S3 (by omega) z2
      · rw [if_neg yc]
        obtain ⟨v, s2, k1, k2, k3⟩ := ih S2 s M' zl zS2 zH.1 (fun q hq z => zH.2.2.1 q hq (by omega))
        rw [show ((d + 1 : Nat) : Int) = (d : Int) + 1 by omega, ← i_add, ← i_lit 1] at k1
        obtain ⟨M2, r1, r2, r3⟩ := k3
        refine ⟨fun _ => ?_, fun z => absurd rfl z⟩
        simp (disch := omega) only [i_lit, i_lt, i_le]
        refine ⟨fun z => by omega, fun _ => ⟨fun z => by omega, fun _ => ?_⟩⟩
        rcases r3 with ⟨rfl, r4, r5⟩ | ⟨rfl, r, r4, r5, r6⟩
        · refine ⟨i_ 0, s2, k2, k1, fun _ => ?_, fun z => absurd rfl z⟩
          refine next s2 M2 (by omega) ⟨r1, fun q hq => ?_, fun q hq z => ?_, zH.2.2.2⟩ (fun v S3 z1 z2 => ?_)
          · rcases r2 q hq with z | z
            · exact zH.2.1 q z
            · exact Or.inr (by omega)
          · rcases r2 q hq with z2 | z2
            · exact zH.2.2.1 q z2 z
            · exact r5 q hq z2
          · by_cases y : v = w
            · rw [y, e] at z2
              rw [← Option.some.inj z2]
              exact r4
            · exact zdw v S3 (by omega) z2
        · refine ⟨i_ 1, s2, k2, k1, fun z => absurd z (by decide), fun _ => ?_⟩
          simp (disch := omega) only [i_in_iff, i_cl, Int.toNat_natCast, i_mul, i_add]
          refine ⟨by omega, _, rfl, k2, M2, dx_pt r1 _ _, fun q hq => ?_, Or.inr ⟨rfl, (t, w) :: r, ⟨zf, zt, wL, ⟨S2, e, r4⟩, zH.2.2.2, zdw⟩, by rw [List.length_cons]; omega, fun i q hq => ?_⟩⟩
          · rcases r2 q hq with z | z
            · exact zH.2.1 q z
            · exact Or.inr (by omega)
          · cases i with
            | zero =>
              have hq : some (t, w) = some q := hq
              rw [← Option.some.inj hq, Nat.add_zero, st_sI, show (10 : Int) * (t : Int) + (w : Int) = ((10 * t + w : Nat) : Int) by omega]
            | succ i =>
              have z := r6 i q hq
              rw [st_pI, if_neg (by omega), show d + (i + 1) = d + 1 + i by omega]
              exact z
theorem l_has3 (zw : Wd σ) (zP : Wp_ p) (zT : Tk_ σ L0 t0) (zM : Mc_ σ p m F) (zR : Rp_ σ 132 p) (hb : Bd_ p m F) (zc : c < 4194304) {S : gs_T} {d D : Nat} {M : List (gs_T × Int64)} (zS : Rs_ p m F S) (zd : d + lft_ p S ≤ 18) (zD : 40 ≤ D) (zf : fi_ p S = false)
    (ih : ∀ S2 s M2, lft_ p S2 < lft_ p S → Rs_ p m F S2 → Dx_ σ p m F t0 s M2 → (∀ q ∈ M2, lft_ p q.1 ≤ lft_ p S2 → ¬ Ld_ p (gcl_ p m F) c q.1) → ∃ v s2, fn_ γ m_X2_leadsTo D [.ref 147, .int (i_ (c : Int)), .long (lN (en_ p S2)), .int (i_ ((d + 1 : Nat) : Int))] s v s2 ∧ Wd s2 ∧ Ro_ σ p m F t0 c S2 (d + 1) M2 (lft_ p S2 + 1) v s2) :
    ∀ (n t : Nat) (s : st_T) (M' : List (gs_T × Int64)), n + t = pT_ p → Hi_ σ p m F t0 c S M s M' t →
      vv_ γ m_X2_hasStepTo (D + 1) 3 [(0, .ref 147), (1, .int (i_ (c : Int))), (2, .long (lN (en_ p S))), (4, .int (i_ (d : Int))), (5, .int (i_ (t : Int)))] [] s (fun r s => ∃ v, r = .inl (some v) ∧ Wd s ∧ Ro_ σ p m F t0 c S d M (lft_ p S) v s) := by
  have b1 := zP.1.2.1
  have b3 := zP.1.2.2.1
  have zV := rs_vg zP zS
  intro n
  induction n with
  | zero =>
    intro t s M' zn zH
    have zn : t = pT_ p := by omega
    subst zn
    obtain ⟨t1, h1, -⟩ := id zH.1
    refine g_X2_hasStepTo_3 zD h1 ?_
    unfold p_X2_hasStepTo_3
    refine ⟨_, s, h1, c_mthreads h1 (dx_R zw zT zR zH.1), fun _ => ⟨_, rfl, h1, M', zH.1, zH.2.1, Or.inl ⟨rfl, fun y => ?_, zH.2.2.1⟩⟩, fun z => absurd (Int32.le_refl _) z⟩
    rcases ld_cases zP zV y with ⟨y1, -⟩ | ⟨-, u, v, S2, y1, y2, y3, y4⟩
    · rw [zf] at y1; cases y1
    · exact zH.2.2.2 u v S2 y1 y2 y3 y4
  | succ n ih2 =>
    intro t s M' zn zH
    obtain ⟨t1, h1, h2, h3, h4⟩ := id zH.1
    have zMs := dx_mc zw zT zM zH.1
    have zRs := dx_R zw zT zR zH.1
    have zt : t < pT_ p := by omega
    have kp := c_parts (γ := γ) h1 zP zMs zRs zV zt
    refine g_X2_hasStepTo_3 zD h1 ?_
    unfold p_X2_hasStepTo_3
    refine ⟨_, s, h1, c_mthreads h1 zRs, ?_⟩
    simp (disch := omega) only [i_le]
    refine ⟨fun z => by omega, fun _ => ⟨_, s, h1, kp, ?_⟩⟩
    obtain ⟨P, hP⟩ : ∃ P : Nat, P = if ga1_ (gcl_ p m F) S t = none then 1 else 1 + pL_ p := ⟨_, rfl⟩
    rw [show (if ga1_ (gcl_ p m F) S t = none then (1 : Int) else 1 + (pL_ p : Int)) = (P : Int) by
      rw [hP]
      split
      · rfl
      · omega]
    refine l_has30 zw zP zT zM zR hb zc zS zd zD zf ih zt (P := P) ?_ ?_ (fun s' M2 zH2 => ih2 (t + 1) s' M2 (by omega) zH2) P 0 s M' (by omega) zH (fun v S2 z => by omega)
    · rw [hP]
      split
      · exact Or.inl rfl
      · exact Or.inr rfl
    · intro hp v S2 z1 z2
      by_cases y : ga1_ (gcl_ p m F) S t = none
      · unfold gt_ at z2
        rw [if_neg (by omega), gc_none y] at z2
        cases z2
      · rw [if_neg y] at hP
        have y1 : pL_ p = 0 := by omega
        have y2 : ∃ n, ga1_ (gcl_ p m F) S t = some n := by
          cases hh : ga1_ (gcl_ p m F) S t with
          | none => exact absurd hh y
          | some n => exact ⟨n, rfl⟩
        obtain ⟨n, hn⟩ := y2
        have y3 := (f1_some _ _ _).mp hn
        have y4 := zV.2.2 n y3.2.2.1
        have y5 := (zP.2.1 n y4.1).2.2.2.2.1 (by rw [y4.2]; decide)
        omega
theorem c_leads (zw : Wd σ) (zP : Wp_ p) (zT : Tk_ σ L0 t0) (zM : Mc_ σ p m F) (zR : Rp_ σ 132 p) (hE : st_L σ 153 14 = lN (en_ p (s1k_ p (pT_ p)))) (hb : Bd_ p m F) (zc : c < 4194304) : ∀ (k : Nat) (S : gs_T) (d D : Nat) (s : st_T) (M : List (gs_T × Int64)), lft_ p S ≤ k → d + lft_ p S ≤ 18 → D + 2 * d = 79 → Rs_ p m F S → Dx_ σ p m F t0 s M → (∀ q ∈ M, lft_ p q.1 ≤ lft_ p S → ¬ Ld_ p (gcl_ p m F) c q.1) →
    ∃ v s2, fn_ γ m_X2_leadsTo (D + 1) [.ref 147, .int (i_ (c : Int)), .long (lN (en_ p S)), .int (i_ (d : Int))] s v s2 ∧ Wd s2 ∧ Ro_ σ p m F t0 c S d M (lft_ p S + 1) v s2 := by
  intro k
  induction k with
  | zero =>
    intro S d D s M z1 z2 z3 zS zX zI
    obtain ⟨t1, h1, h2, h3, h4⟩ := id zX
    have zV := rs_vg zP zS
    have zfin := lft_fin zP zV (by omega)
    have kE := dx_E zw zT hE zX
    refine fn_of (e_X2_leadsTo (by omega) h1 ?_)
    unfold p_X2_leadsTo_0
    refine ⟨_, s, h1, c_isFinal h1 kE, ?_⟩
    rw [if_pos zfin]
    have y1 := cc_lt (p := p) S
    refine ⟨fun z => absurd z (by decide), fun _ => ⟨_, s, h1, c_codeOf h1, ?_⟩⟩
    simp (disch := omega) only [i_eq]
    refine ⟨fun z => ⟨_, rfl, h1, M, zX, fun q hq => Or.inl hq, Or.inr ⟨rfl, [], ⟨zfin, by omega⟩, by rw [List.length_nil]; omega, fun i q hq => by cases hq⟩⟩, fun z => ⟨_, rfl, h1, M, zX, fun q hq => Or.inl hq, Or.inl ⟨rfl, fun y => ?_, fun q hq zq => zI q hq (by omega)⟩⟩⟩
    rcases ld_cases zP zV y with ⟨-, y2⟩ | ⟨y2, -⟩
    · omega
    · rw [zfin] at y2; cases y2
  | succ k ihk =>
    intro S d D s M z1 z2 z3 zS zX zI
    obtain ⟨t1, h1, h2, h3, h4⟩ := id zX
    have zV := rs_vg zP zS
    have kE := dx_E zw zT hE zX
    have y1 := cc_lt (p := p) S
    have hl := dx_len zP hb zX
    refine fn_of (e_X2_leadsTo (by omega) h1 ?_)
    unfold p_X2_leadsTo_0
    refine ⟨_, s, h1, c_isFinal h1 kE, ?_⟩
    by_cases zfin : fi_ p S = true
    · rw [if_pos zfin]
      refine ⟨fun z => absurd z (by decide), fun _ => ⟨_, s, h1, c_codeOf h1, ?_⟩⟩
      simp (disch := omega) only [i_eq]
      refine ⟨fun z => ⟨_, rfl, h1, M, zX, fun q hq => Or.inl hq, Or.inr ⟨rfl, [], ⟨zfin, by omega⟩, by rw [List.length_nil]; omega, fun i q hq => by cases hq⟩⟩, fun z => ⟨_, rfl, h1, M, zX, fun q hq => Or.inl hq, Or.inl ⟨rfl, fun y => ?_, fun q hq zq => zI q hq (by omega)⟩⟩⟩
      rcases ld_cases zP zV y with ⟨-, y2⟩ | ⟨y2, -⟩
      · omega
      · rw [zfin] at y2; cases y2
    · rw [if_neg zfin]
      have zf : fi_ p S = false := Bool.eq_false_iff.mpr zfin
      have l1 : 1 ≤ lft_ p S := by
        by_cases y : lft_ p S = 0
        · exact absurd (lft_fin zP zV y) zfin
        · omega
      have w0 : en_ p S < 9223372036854775808 := Nat.lt_trans (en_lt _) (by decide)
      have el : (wm_ p M).length = M.length := List.length_map _
      refine ⟨fun _ => ?_, fun z => absurd rfl z⟩
      simp (disch := omega) only [i_lit, i_le]
      refine ⟨fun z => by omega, fun _ => ⟨_, s, h1, c_contains h1 h2 w0, ?_⟩⟩
      by_cases yin : in_ (wm_ p M) (en_ p S) = true
      · rw [if_pos yin]
        refine ⟨fun z => absurd z (by decide), fun _ => ⟨_, rfl, h1, M, zX, fun q hq => Or.inl hq, Or.inl ⟨rfl, ?_, fun q hq zq => zI q hq (by omega)⟩⟩⟩
        unfold in_ at yin
        rw [List.any_eq_true] at yin
        obtain ⟨x, hx, ex⟩ := yin
        obtain ⟨q, hq, rfl⟩ := List.mem_map.mp hx
        have e1 := en_eq zP (rs_vg zP (h4 q hq)) zV (of_decide_eq_true ex)
        have y2 := zI q hq (by rw [e1]; exact Nat.le_refl _)
        rw [e1] at y2
        exact y2
      · rw [if_neg yin]
        have hno : ∀ i, i < (wm_ p M).length → wa_ (wm_ p M) i ≠ en_ p S := fun i zi e => yin ((in_iff _).mpr ⟨i, zi, e⟩)
        obtain ⟨s1, t2, a1, a2, a3, a4⟩ := c_add (γ := γ) h1 h2 (by omega) w0 0
        rw [ad_none _ _ _ hno] at a3
        have a3 : Tk_ s1 (wm_ p (M ++ [(S, 0)])) t2 := by
          unfold wm_
          rw [List.map_append]
          exact a3
        have X1 : Dx_ σ p m F t0 s1 (M ++ [(S, 0)]) := ⟨t2, a2, a3, pf_tr h3 (pf_tf a4), fun q hq => by
          rcases List.mem_append.mp hq with hq | hq
          · exact h4 q hq
          · rw [List.mem_singleton] at hq
            rw [hq]
            exact zS⟩
        refine ⟨fun _ => ⟨s1, a2, a1, ?_⟩, fun z => absurd rfl z⟩
        obtain ⟨D2, hD2⟩ : ∃ D2, D = D2 + 1 := ⟨D - 1, by omega⟩
        subst hD2
        have key : ∃ v s2, fn_ γ m_X2_hasStepTo (D2 + 1) [.ref 147, .int (i_ (c : Int)), .long (lN (en_ p S)), .int (i_ (d : Int))] s1 v s2 ∧ Wd s2 ∧ Ro_ σ p m F t0 c S d (M ++ [(S, 0)]) (lft_ p S) v s2 := by
          refine fn_of (e_X2_hasStepTo (by omega) a2 ?_)
          unfold p_X2_hasStepTo_0
          obtain ⟨D3, hD3⟩ : ∃ D3, D2 = D3 + 1 := ⟨D2 - 1, by omega⟩
          refine l_has3 zw zP zT zM zR hb zc zS z2 (by omega) zf (fun S2 s' M2 q1 q2 q3 q4 => ?_) (pT_ p) 0 s1 _ (by omega) ⟨X1, fun q hq => Or.inl hq, fun q hq zq => ?_, fun u v S2 z => by omega⟩
          · rw [hD3]
            exact ihk S2 (d + 1) D3 s' M2 (by omega) (by omega) (by omega) q2 q3 q4
          · rcases List.mem_append.mp hq with hq | hq
            · exact zI q hq (by omega)
            · rw [List.mem_singleton] at hq
              rw [hq] at zq
              exact absurd zq (Nat.lt_irrefl _)
        obtain ⟨v, s2, b1, b2, M', b3, b4, b5⟩ := key
        have conv : ∀ q ∈ M', q ∈ M ∨ lft_ p q.1 < lft_ p S + 1 := fun q hq => by
          rcases b4 q hq with z | z
          · rcases List.mem_append.mp z with z | z
            · exact Or.inl z
            · rw [List.mem_singleton] at z
              rw [z]
              exact Or.inr (Nat.lt_succ_self _)
          · exact Or.inr (by omega)
        rcases b5 with ⟨rfl, b6, b7⟩ | ⟨rfl, b6⟩
        · refine ⟨i_ 0, s2, b2, b1, Or.inl rfl, _, rfl, b2, M', b3, conv, Or.inl ⟨rfl, b6, fun q hq zq => ?_⟩⟩
          rcases b4 q hq with z | z
          · rcases List.mem_append.mp z with z | z
            · exact zI q z (by omega)
            · rw [List.mem_singleton] at z
              rw [z]
              exact b6
          · exact b7 q hq z
        · exact ⟨i_ 1, s2, b2, b1, Or.inr rfl, _, rfl, b2, M', b3, conv, Or.inr ⟨rfl, b6⟩⟩
end LE
