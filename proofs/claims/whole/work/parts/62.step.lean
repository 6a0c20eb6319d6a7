/-! the explanation: a step is added -/
section AS
variable {γ : ga_T} {σ : st_T} {p : pr_T} {m : Nat} {F : Nat → Bool} {S S2 : gs_T} {t w : Nat}
theorem c_addStep (zw : Wd σ) (zP : Wp_ p) (zM : Mc_ σ p m F) (zR : Rp_ σ 132 p) (zV : Vg_ p S) (q1 : t < pT_ p) (q2 : w ≤ pL_ p) (zs : gt_ (gcl_ p m F) S t w = some S2) {e : ex_T} (h : Xp_ σ e) (h1 : e.1.length < 18) (h2 : (xs_ p (gcl_ p m F) S (t, w) e).2.2.length ≤ 8) :
    ∃ σ1, fw_ γ m_X1_addStep 3 [.ref 181, .ref 153, .long (lN (en_ p S)), .int (i_ (t : Int)), .int (i_ (w : Int))] σ σ1 ∧ Wd σ1 ∧ Xp_ σ1 (xs_ p (gcl_ p m F) S (t, w) e) ∧ xf_ σ σ1 := by
  have b1 := zP.1.2.1
  have b2 := zP.1.1
  have b3 := zP.1.2.2.1
  obtain ⟨s1, es⟩ : ∃ s1, s1 = pt_I (pt_I σ 182 e.1.length (i_ ((10 * t + w : Nat) : Int))) 181 4 (i_ ((e.1.length + 1 : Nat) : Int)) := ⟨_, rfl⟩
  have w1 : Wd s1 := by rw [es]; exact zw
  have X1 : Xp_ s1 (e.1 ++ [(t, w)], e.2) := by rw [es]; exact xp_step h h1 (t, w)
  have f1 : xf_ σ s1 := by
    rw [es]
    exact xf_tr (xf_I (by omega) (by omega)) (xf_I (by omega) (by omega))
  have M1 : Mc_ s1 p m F := mc_eh (fun a y1 y2 => f1.1 a (by omega)) zM
  have R1 : Rp_ s1 132 p := rp_eh zR (f1.1 132 (by omega)) (f1.1 134 (by omega)) (f1.1 135 (by omega))
  have e1 : pt_I (pt_I σ 182 (i_ (e.1.length : Int)).toNatClampNeg (((10 : Int32) * i_ (t : Int)) + i_ (w : Int))) 181 4 (i_ (e.1.length : Int) + 1) = s1 := by
    rw [es, i_cl (by omega), Int.toNat_natCast, i_lit 10, i_mul, i_add, i_lit 1, i_add]
    rfl
  by_cases y0 : w = 0
  · subst y0
    have zx : gx_ (gcl_ p m F) S t = some S2 := zs
    obtain ⟨z1, z2, z3, z4⟩ := gx_sum zx
    have yn := th_n zP z1
    have nx := c_next (γ := γ) w1 zP M1 zV q1
    rw [if_pos z1] at nx
    have ex : xs_ p (gcl_ p m F) S (t, 0) e = (e.1 ++ [(t, 0)], if pC_ p (gB0_ p t + sP_ S t) 1 = 1 ∨ pC_ p (gB0_ p t + sP_ S t) 1 = 2 then (fun i => if i = gB0_ p t + sP_ S t then (match gw2_ (gcl_ p m F) S t (pC_ p (gB0_ p t + sP_ S t) 2) with | some j => (j : Int) | none => ltw_ p e.2.2 (pC_ p (gB0_ p t + sP_ S t) 2)) else e.2.1 i) else e.2.1,
      if pC_ p (gB0_ p t + sP_ S t) 1 = 2 ∨ (pC_ p (gB0_ p t + sP_ S t) 1 = 0 ∧ m = 0) then e.2.2 ++ [gB0_ p t + sP_ S t] else e.2.2) := if_pos rfl
    rw [ex] at h2 ⊢
    have h2 : (if pC_ p (gB0_ p t + sP_ S t) 1 = 2 ∨ (pC_ p (gB0_ p t + sP_ S t) 1 = 0 ∧ m = 0) then e.2.2 ++ [gB0_ p t + sP_ S t] else e.2.2).length ≤ 8 := h2
    have z4b : (gw2_ (gcl_ p m F) S t (pC_ p (gB0_ p t + sP_ S t) 2)) = (gw2_ (gcl_ p m F) S t (pC_ p (gB0_ p t + sP_ S t) 2)) := rfl
    obtain ⟨n, hn⟩ : ∃ n, n = gB0_ p t + sP_ S t := ⟨_, rfl⟩
    rw [← hn] at yn nx h2 ⊢
    have zn := yn.1
    have bn := zP.2.1 n zn
    have bk := zP.1.2.2.2.2 n 1
    have pr1 : fn_ γ m_X7_property 0 [.ref 132, .int (i_ (n : Int)), .int (1 : Int32)] s1 (.int (i_ (pC_ p n 1))) s1 := by
      have y := c_property (γ := γ) pg_132 w1 R1 (z := n) (k := ((1 : Nat) : Int)) (by omega) (by omega)
      rw [pp_in zn (by decide)] at y
      exact y
    have pr2 : fn_ γ m_X7_property 0 [.ref 132, .int (i_ (n : Int)), .int (2 : Int32)] s1 (.int (i_ (pC_ p n 2))) s1 := by
      have y := c_property (γ := γ) pg_132 w1 R1 (z := n) (k := ((2 : Nat) : Int)) (by omega) (by omega)
      rw [pp_in zn (by decide)] at y
      exact y
    have hd : ∀ Q : rs_T → st_T → Prop, (∃ (v138 : Int32) (s136 : st_T), Wd s136 ∧ fn_ γ m_X7_property 0 [.ref 132, .int (i_ (n : Int)), .int (1 : Int32)] s1 (.int v138) s136) := fun _ => ⟨_, _, w1, pr1⟩
    have wr : ∀ (s : st_T) (e2 : ex_T), Wd s → Xp_ s e2 → e2.2.2 = e.2.2 → e.2.2.length < 8 → ∃ s2, fw_ γ m_X1_addWriter 0 [.ref 181, .int (i_ (n : Int))] s s2 ∧ Wd s2 ∧ Xp_ s2 (e2.1, e2.2.1, e.2.2 ++ [n]) ∧ xf_ s s2 := by
      intro s e2 a1 a2 a3 a4
      refine ⟨_, c_addWriter a1 a2 (by rw [a3]; exact a4) _, a1, ?_, xf_tr (xf_I (by omega) (by omega)) (xf_I (by omega) (by omega))⟩
      rw [← a3]
      exact xp_wr a2 (by rw [a3]; exact a4) (by omega)
    have hk : pC_ p n 1 = 0 ∨ pC_ p n 1 = 1 ∨ pC_ p n 1 = 2 ∨ pC_ p n 1 = 3 := by omega
    rcases hk with hk | hk | hk | hk
    · by_cases hm : m = 0
      · rw [if_pos (Or.inr ⟨hk, hm⟩)] at h2
        rw [if_neg (show ¬ (pC_ p n 1 = 1 ∨ pC_ p n 1 = 2) by omega), if_pos (Or.inr ⟨hk, hm⟩)]
        rw [List.length_append] at h2
        obtain ⟨s2, k1, k2, k3, k4⟩ := wr s1 _ w1 X1 rfl (by simp at h2; omega)
        refine ⟨s2, fw_q (fun Q zQ => e_X1_addStep zw ?_), k2, k3, xf_tr f1 k4⟩
        unfold p_X1_addStep_0
        rw [h.1.1, e1]
        simp (disch := omega) only [i_lit, i_le, i_in_iff]
        refine ⟨fun z => by omega, fun _ => ⟨by omega, fun _ => ⟨_, s1, w1, nx, _, s1, w1, pr1, _, s1, w1, pr2, ?_⟩, fun z => absurd rfl z⟩⟩
        rw [hk]
        have ub := c_unbuf (γ := γ) w1 M1
        rw [if_pos hm] at ub
        refine ⟨fun z => absurd z (by decide), fun _ => ⟨fun z => absurd z (by decide), fun _ => ⟨fun z => absurd z (by decide), fun _ => ⟨fun _ => ⟨_, s1, w1, ub, fun z => absurd z (by decide), fun _ => ⟨s2, k2, k1, zQ⟩⟩, fun z => absurd rfl z⟩⟩⟩⟩
      · rw [if_neg (show ¬ (pC_ p n 1 = 1 ∨ pC_ p n 1 = 2) by omega), if_neg (show ¬ (pC_ p n 1 = 2 ∨ pC_ p n 1 = 0 ∧ m = 0) by omega)]
        refine ⟨s1, fw_q (fun Q zQ => e_X1_addStep zw ?_), w1, X1, f1⟩
        unfold p_X1_addStep_0
        rw [h.1.1, e1]
        simp (disch := omega) only [i_lit, i_le, i_in_iff]
        refine ⟨fun z => by omega, fun _ => ⟨by omega, fun _ => ⟨_, s1, w1, nx, _, s1, w1, pr1, _, s1, w1, pr2, ?_⟩, fun z => absurd rfl z⟩⟩
        rw [hk]
        have ub := c_unbuf (γ := γ) w1 M1
        rw [if_neg hm] at ub
        refine ⟨fun z => absurd z (by decide), fun _ => ⟨fun z => absurd z (by decide), fun _ => ⟨fun z => absurd z (by decide), fun _ => ⟨fun _ => ⟨_, s1, w1, ub, fun _ => zQ, fun z => absurd rfl z⟩, fun z => absurd rfl z⟩⟩⟩⟩
    · obtain ⟨l, hl⟩ : ∃ l : Nat, pC_ p n 2 = l := ⟨(pC_ p n 2).toNat, by omega⟩
      rw [if_pos (Or.inl hk), if_neg (show ¬ (pC_ p n 1 = 2 ∨ pC_ p n 1 = 0 ∧ m = 0) by omega), hl]
      have fo := c_forwarding (γ := γ) w1 zP M1 zV q1 (l := l) (by omega)
      obtain ⟨z, hz⟩ : ∃ z : Int, z = (match gw2_ (gcl_ p m F) S t (l : Int) with | some j => (j : Int) | none => ltw_ p e.2.2 (l : Int)) := ⟨_, rfl⟩
      refine ⟨pt_I s1 183 n (i_ z), fw_q (fun Q zQ => e_X1_addStep zw ?_), w1, by rw [← hz]; exact xp_org X1 n z, xf_tr f1 (xf_I (by omega) (by omega))⟩
      unfold p_X1_addStep_0
      rw [h.1.1, e1]
      simp (disch := omega) only [i_lit, i_neg, i_le, i_in_iff]
      refine ⟨fun z => by omega, fun _ => ⟨by omega, fun _ => ⟨_, s1, w1, nx, _, s1, w1, pr1, _, s1, w1, pr2, ?_⟩, fun z => absurd rfl z⟩⟩
      rw [hk]
      refine ⟨fun _ => ?_, fun z => absurd rfl z⟩
      simp (disch := omega) only [i_lt, i_le, i_cl, Int.toNat_natCast]
      refine ⟨fun z => by omega, fun _ => ⟨fun z => by omega, fun _ => ⟨_, s1, w1, by rw [hl]; exact fo, ?_⟩⟩⟩
      have v10 : vp_in (i_ (n : Int)) 10 := i_in (by omega) (by omega) (by omega)
      cases hg : gw2_ (gcl_ p m F) S t (l : Int) with
      | none =>
        rw [hg] at hz
        have hz : z = ltw_ p e.2.2 (l : Int) := hz
        refine ⟨fun _ => ⟨_, s1, w1, by rw [hl]; exact c_latest w1 R1 X1 (by omega), v10, fun z => absurd z (by decide), fun _ => ⟨fun z => absurd z (by decide), fun _ => ?_⟩⟩, fun z => absurd rfl z⟩
        rw [hz] at zQ
        exact zQ
      | some j =>
        rw [hg] at hz
        have hz : z = (j : Int) := hz
        have hj : j < 10 := by
          have y := (f2_some _ _ _).mp hg
          have y2 : j < gB0_ p t + gl_ (gcl_ p m F) t := y.2.1
          have y3 := gl_le (m := m) (F := F) (t := t) zP
          omega
        refine ⟨fun y => ?_, fun _ => ⟨v10, fun z => absurd z (by decide), fun _ => ⟨fun z => absurd z (by decide), fun _ => ?_⟩⟩⟩
        · have y : i_ (j : Int) = i_ (-1) := y
          rw [i_eq (by omega) (by omega)] at y
          omega
        · rw [hz] at zQ
          exact zQ
    · obtain ⟨l, hl⟩ : ∃ l : Nat, pC_ p n 2 = l := ⟨(pC_ p n 2).toNat, by omega⟩
      rw [if_pos (Or.inl hk)] at h2
      rw [List.length_append] at h2
      rw [if_pos (Or.inr hk), if_pos (Or.inl hk), hl]
      have fo := c_forwarding (γ := γ) w1 zP M1 zV q1 (l := l) (by omega)
      obtain ⟨z, hz⟩ : ∃ z : Int, z = (match gw2_ (gcl_ p m F) S t (l : Int) with | some j => (j : Int) | none => ltw_ p e.2.2 (l : Int)) := ⟨_, rfl⟩
      have X2 := xp_org X1 n z
      obtain ⟨s2, k1, k2, k3, k4⟩ := wr (pt_I s1 183 n (i_ z)) _ w1 X2 rfl (by simp at h2; omega)
      refine ⟨s2, fw_q (fun Q zQ => e_X1_addStep zw ?_), k2, by rw [← hz]; exact k3, xf_tr (xf_tr f1 (xf_I (by omega) (by omega))) k4⟩
      unfold p_X1_addStep_0
      rw [h.1.1, e1]
      simp (disch := omega) only [i_lit, i_neg, i_le, i_in_iff]
      refine ⟨fun z => by omega, fun _ => ⟨by omega, fun _ => ⟨_, s1, w1, nx, _, s1, w1, pr1, _, s1, w1, pr2, ?_⟩, fun z => absurd rfl z⟩⟩
      rw [hk]
      refine ⟨fun z => absurd z (by decide), fun _ => ⟨fun _ => ?_, fun z => absurd rfl z⟩⟩
      simp (disch := omega) only [i_lt, i_le, i_cl, Int.toNat_natCast]
      refine ⟨fun z => by omega, fun _ => ⟨fun z => by omega, fun _ => ⟨_, s1, w1, by rw [hl]; exact fo, ?_⟩⟩⟩
      have v10 : vp_in (i_ (n : Int)) 10 := i_in (by omega) (by omega) (by omega)
      cases hg : gw2_ (gcl_ p m F) S t (l : Int) with
      | none =>
        rw [hg] at hz
        have hz : z = ltw_ p e.2.2 (l : Int) := hz
        rw [hz] at k1
        refine ⟨fun _ => ⟨_, s1, w1, by rw [hl]; exact c_latest w1 R1 X1 (by omega), v10, fun _ => ⟨s2, k2, k1, zQ⟩, fun z => absurd trivial z⟩, fun z => absurd rfl z⟩
      | some j =>
        rw [hg] at hz
        have hz : z = (j : Int) := hz
        have hj : j < 10 := by
          have y := (f2_some _ _ _).mp hg
          have y2 : j < gB0_ p t + gl_ (gcl_ p m F) t := y.2.1
          have y3 := gl_le (m := m) (F := F) (t := t) zP
          omega
        rw [hz] at k1
        refine ⟨fun y => ?_, fun _ => ⟨v10, fun _ => ⟨s2, k2, k1, zQ⟩, fun z => absurd trivial z⟩⟩
        have y : i_ (j : Int) = i_ (-1) := y
        rw [i_eq (by omega) (by omega)] at y
        omega
    · rw [if_neg (show ¬ (pC_ p n 1 = 1 ∨ pC_ p n 1 = 2) by omega), if_neg (show ¬ (pC_ p n 1 = 2 ∨ pC_ p n 1 = 0 ∧ m = 0) by omega)]
      refine ⟨s1, fw_q (fun Q zQ => e_X1_addStep zw ?_), w1, X1, f1⟩
      unfold p_X1_addStep_0
      rw [h.1.1, e1]
      simp (disch := omega) only [i_lit, i_le, i_in_iff]
      refine ⟨fun z => by omega, fun _ => ⟨by omega, fun _ => ⟨_, s1, w1, nx, _, s1, w1, pr1, _, s1, w1, pr2, ?_⟩, fun z => absurd rfl z⟩⟩
      rw [hk]
      exact ⟨fun z => absurd z (by decide), fun _ => ⟨fun z => absurd z (by decide), fun _ => ⟨fun z => absurd z (by decide), fun _ => ⟨fun z => absurd z (by decide), fun _ => zQ⟩⟩⟩⟩
  · have zx : gc_ (gcl_ p m F) S t (w - 1) = some S2 := by
      unfold gt_ at zs
      rw [if_neg y0] at zs
      exact zs
    obtain ⟨n, z1, -⟩ := gc_sum zx
    have y1 := gn_sum z1
    have y2 : n < gB0_ p t + gl_ (gcl_ p m F) t := y1.2.1
    have y3 := gl_le (m := m) (F := F) (t := t) zP
    have ex : xs_ p (gcl_ p m F) S (t, w) e = (e.1 ++ [(t, w)], e.2.1, e.2.2 ++ [n]) := by
      unfold xs_
      rw [if_neg y0]
      dsimp only
      rw [z1]
    rw [ex] at h2 ⊢
    have h2 : (e.2.2 ++ [n]).length ≤ 8 := h2
    rw [List.length_append, List.length_singleton] at h2
    have cm := c_committed (γ := γ) w1 zP M1 zV q1 (l := w - 1) (by omega)
    rw [z1] at cm
    have X3 := xp_wr X1 (show e.2.2.length < 8 by omega) (n := n) (by omega)
    refine ⟨_, fw_q (fun Q zQ => e_X1_addStep zw ?_), ?_, X3, xf_tr f1 (xf_tr (xf_I (by omega) (by omega)) (xf_I (by omega) (by omega)))⟩
    · unfold p_X1_addStep_0
      rw [h.1.1, e1]
      simp (disch := omega) only [i_lit, i_le, i_in_iff, i_eq]
      refine ⟨fun z => by omega, fun _ => ⟨by omega, fun z => by omega, fun _ => ⟨_, s1, w1, by rw [show i_ (w : Int) - i_ (OfNat.ofNat 1) = i_ ((w - 1 : Nat) : Int) by rw [i_sub]; show i_ ((w : Int) - 1) = _; congr 1; omega]; exact cm, _, ?_, c_addWriter w1 X1 (show e.2.2.length < 8 by omega) _, zQ⟩⟩⟩
      exact w1
    · exact w1
end AS
