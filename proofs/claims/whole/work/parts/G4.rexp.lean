/-! the reference's explanation: which states lead on -/
section RX4
variable {γ : ga_T} {σ s s0 : st_T} {p : pr_T} {g : gm_T} {K t w c m b : Nat} {S S0 S2 : gs_T} {e : ex_T} {LD : gs_T → Prop} {x : gs_T × Int64}
/-- a state is final, with this code -/
def FC_ (p : pr_T) (g : gm_T) (K cd : Nat) (S : gs_T) : Prop := rf2_ g K S = true ∧ rc_ p S = cd
theorem rc_lt (zB : Bp_ p) (v : Vr_ g K S) : rc_ p S < 4194304 := by
  rw [← rc_cc zB (cD_r v (pT_ p))]
  unfold cc_
  exact Nat.mod_lt _ (by decide)
theorem ls_dn (hx : (br_ g K S0)[b]? = some x) (h : (LD x.1 ∧ st_I s 217 b = i_ 1) ∨ (¬ LD x.1 ∧ st_I s 217 b = i_ 0)) (h2 : Ls_ s g K S0 LD (b + 1)) : Ls_ s g K S0 LD b := fun j y z hy => by
  by_cases c : j = b
  · subst c
    rw [hx] at hy
    rw [← Option.some.inj hy]
    exact h
  · exact h2 j y (by omega) hy
/-- what is known of a state's steps -/
def Ik_ (s : st_T) (p : pr_T) (g : gm_T) (K cd b : Nat) (LD : gs_T → Prop) (S : gs_T) (t w : Nat) : Prop := (LD S ∧ st_I s 217 b = i_ 1) ∨ (st_I s 217 b = i_ 0 ∧ ¬ FC_ p g K cd S ∧ (∀ u v S2, u < t → v < 4 → gt_ g S u v = some S2 → ¬ LD S2) ∧ ∀ v S2, v < w → gt_ g S t v = some S2 → ¬ LD S2)
theorem l_ld {cd : Nat} {Q : rs_T → st_T → Prop} (zM : Mr_ s0 g K) (h0 : Vr_ g K S0) (hb : Br_ g K S0) (zT : Rk_ s0 (wq_ g K (br_ g K S0)) c) (hx : (br_ g K S0)[b]? = some x) (hb2 : b < 65535)
    (hLD : LD x.1 ↔ (FC_ p g K cd x.1 ∨ ∃ t w S2, t < 4 ∧ w < 4 ∧ gt_ g x.1 t w = some S2 ∧ LD S2))
    (back : ∀ s, Wd s → ro_ dZ_ s0 s → Ls_ s g K S0 LD b → vv_ γ m_X12_explain 7 39 [(0, .ref 185), (2, .int (i_ (cd : Int))), (3, .int (i_ ((b : Int) - 1)))] [] s Q) :
    ∀ k t : Nat, t + k = 4 → ∀ s, Wd s → ro_ dZ_ s0 s → Ls_ s g K S0 LD (b + 1) → Ik_ s p g K cd b LD x.1 t 0 → vv_ γ m_X12_explain 7 84 [(0, .ref 185), (2, .int (i_ (cd : Int))), (3, .int (i_ (b : Int))), (4, .int (i_ (t : Int)))] [] s Q := by
  have hg := zM.1
  have vi : vp_in (i_ (b : Int)) 65536 := i_in (by omega) (by omega) (by omega)
  have hr : Rl_ g K S0 x.1 := ⟨x, List.mem_of_getElem? hx, rfl⟩
  have vS := rl_v hg h0 hr
  have e0 : (0 : Int32) = i_ ((0 : Nat) : Int) := by decide
  have es : ∀ v : Nat, i_ (v : Int) + (1 : Int32) = i_ ((v + 1 : Nat) : Int) := fun v => by
    rw [k1_, i_add]
    rfl
  have em : i_ (b : Int) + (-1 : Int32) = i_ ((b : Int) - 1) := by
    rw [km1_, i_add]
    rfl
  intro k
  induction k with
  | zero =>
    intro t zt s w r hL hI
    have zt : t = 4 := by omega
    subst zt
    refine g_X12_explain_84 w ?_
    unfold p_X12_explain_84
    rw [em]
    refine ⟨fun _ => back s w r (ls_dn hx ?_ hL), fun y => absurd (by decide) y⟩
    rcases hI with h | ⟨h1, h2, h3, -⟩
    · exact Or.inl h
    · refine Or.inr ⟨fun y => ?_, h1⟩
      rcases hLD.mp y with y | ⟨u, v, S3, y1, y2, y3, y4⟩
      · exact h2 y
      · exact h3 u v S3 y1 y2 y3 y4
  | succ k ih =>
    intro t zt s w r hL hI
    have inner : ∀ k2 v : Nat, v + k2 = 4 → ∀ s, Wd s → ro_ dZ_ s0 s → Ls_ s g K S0 LD (b + 1) → Ik_ s p g K cd b LD x.1 t v → vv_ γ m_X12_explain 7 102 [(0, .ref 185), (2, .int (i_ (cd : Int))), (3, .int (i_ (b : Int))), (4, .int (i_ (t : Int))), (5, .int (i_ (v : Int)))] [] s Q := by
      intro k2
      induction k2 with
      | zero =>
        intro v zv s w r hL hI
        have zv : v = 4 := by omega
        subst zv
        refine g_X12_explain_102 w ?_
        unfold p_X12_explain_102
        rw [es t]
        refine ⟨fun _ => ih (t + 1) (by omega) s w r hL ?_, fun y => absurd (by decide) y⟩
        rcases hI with h | ⟨h1, h2, h3, h4⟩
        · exact Or.inl h
        · refine Or.inr ⟨h1, h2, fun u v S3 y1 y2 y3 => ?_, fun v S3 y => absurd y (Nat.not_lt_zero v)⟩
          by_cases c : u = t
          · subst c
            exact h4 v S3 y2 y3
          · exact h3 u v S3 (by omega) y2 y3
      | succ k2 ih2 =>
        intro v zv s w r hL hI
        refine g_X12_explain_102 w ?_
        unfold p_X12_explain_102
        have nl : ¬ (3 : Int32) < i_ (v : Int) := by
          rw [k3_, i_lt (by omega) (by omega)]
          omega
        rw [es t, es v, i_cl (a := (b : Int)) (by omega), Int.toNat_natCast]
        refine ⟨fun y => absurd y nl, fun _ => ⟨vi, fun h217 => ⟨vi, ?_⟩, fun h217 => ?_⟩⟩
        · rcases hI with ⟨-, h⟩ | ⟨h1, h2, h3, h4⟩
          · rw [h] at h217
            exact absurd h217 (by decide)
          · have hi := (rk_dZ r zT).2.2.1.2.2 b (kr_ g K x.1, x.2) (by
              unfold wq_
              rw [List.getElem?_map, hx]
              rfl)
            rw [hi.1]
            rcases c_rstep (γ := γ) w (mr_dZ r zM) vS (show t < 4 by omega) (w := v) (by omega) with ⟨e1, f1⟩ | ⟨S3, s2, f1, e1, r2, e2, e3, e4⟩
            · refine ⟨_, s, w, f1, fun _ => ⟨vi, ih2 (v + 1) (by omega) _ (show Wd (pt_I s 217 b 0) from w) (ro_I r (show dZ_ _ _ by unfold dZ_; omega)) (ls_cg (fun j hj => by rw [st_pI, if_neg (by omega)]) hL) (Or.inr ⟨st_sI _ _ _ _, h2, h3, fun u S4 y1 y2 => ?_⟩)⟩, fun y => absurd rfl y⟩
              by_cases c : u = v
              · subst c
                rw [e1] at y2
                cases y2
              · exact h4 u S4 (by omega) y2
            · have w2 := ro_wd r2 w
              have rz := ro_tr r (ro_up r2 (fun a k z => dS_Z z))
              have vS3 := vr_step hg vS (show t < 4 by omega) (show v < 4 by omega) e1
              obtain ⟨sn, j, y, n1, n2, n3, n4, n5⟩ := l_xslot (γ := γ) w2 hg h0 (rk_dZ rz zT) (rl_step hg h0 hb hr (show t < 4 by omega) (show v < 4 by omega) e1)
              have bj : b < j := by
                have hx' := hx
                have n5' := n5
                unfold br_ at hx' n5'
                exact bn_after (d := dep_ g K) (P := Vr_ g K) h0 (fun S t w S2 z z1 z2 z3 => vr_step hg z z1 z2 z3) (fun S t w S2 z z1 z2 z3 => dep_t hg z z1 z3) hx' n5' (dep_t hg vS (show t < 4 by omega) e1)
              have hL2 : Ls_ s2 g K S0 LD (b + 1) := ls_cg (fun j hj => (r2.2 217 j (fun y => by have := dS_q y; omega)).1) hL
              have hj := hL2 j _ (by omega) n5
              refine ⟨_, s2, w2, f1, fun y => absurd y (by decide), fun _ => ⟨_, s2, w2, by rw [e2]; exact n2, i_in (by omega) (by omega) (by omega), ?_⟩⟩
              rw [i_cl (a := (sn : Int)) (by omega), Int.toNat_natCast, n3, i_cl (a := (j : Int)) (by omega), Int.toNat_natCast]
              refine ⟨i_in (by omega) (by omega) (by omega), ?_⟩
              rcases hj with ⟨d1, d2⟩ | ⟨d1, d2⟩
              · rw [d2]
                exact ⟨fun y => absurd y (by decide), fun _ => ⟨vi, ih2 (v + 1) (by omega) _ (show Wd (pt_I s2 217 b 1) from w2) (ro_I rz (show dZ_ _ _ by unfold dZ_; omega)) (ls_cg (fun j hj => by rw [st_pI, if_neg (by omega)]) hL2) (Or.inl ⟨hLD.mpr (Or.inr ⟨t, v, S3, by omega, by omega, e1, d1⟩), st_sI _ _ _ _⟩)⟩⟩
              · rw [d2]
                refine ⟨fun _ => ⟨vi, ih2 (v + 1) (by omega) _ (show Wd (pt_I s2 217 b 0) from w2) (ro_I rz (show dZ_ _ _ by unfold dZ_; omega)) (ls_cg (fun j hj => by rw [st_pI, if_neg (by omega)]) hL2) (Or.inr ⟨st_sI _ _ _ _, h2, h3, fun u S4 y1 y2 => ?_⟩)⟩, fun y => absurd rfl y⟩
                by_cases c : u = v
                · subst c
                  rw [e1] at y2
                  rw [← Option.some.inj y2]
                  exact d1
                · exact h4 u S4 (by omega) y2
        · rcases hI with h | ⟨h1, -⟩
          · exact ih (t + 1) (by omega) s w r hL (Or.inl h)
          · rw [h1] at h217
            exact absurd rfl h217
    refine g_X12_explain_84 w ?_
    unfold p_X12_explain_84
    have nl : ¬ (4 : Int32) ≤ i_ (t : Int) := by
      rw [k4_, i_le (by omega) (by omega)]
      omega
    rw [em, i_cl (a := (b : Int)) (by omega), Int.toNat_natCast]
    refine ⟨fun y => absurd y nl, fun _ => ⟨vi, fun h217 => ?_, fun h217 => back s w r (ls_dn hx ?_ hL)⟩⟩
    · have y := inner 4 0 rfl s w r hL hI
      exact y
    · rcases hI with h | ⟨h1, -⟩
      · exact Or.inl h
      · rw [h1] at h217
        exact absurd rfl h217
theorem l_leads {cd : Nat} {Q : rs_T → st_T → Prop} (zM : Mr_ s0 g K) (zN : Nr_ s0 p) (h0 : Vr_ g K S0) (hb : Br_ g K S0) (zT : Rk_ s0 (wq_ g K (br_ g K S0)) c) (hcd : cd < 4194304) (hLD : ∀ S, Rl_ g K S0 S → (LD S ↔ (FC_ p g K cd S ∨ ∃ t w S2, t < 4 ∧ w < 4 ∧ gt_ g S t w = some S2 ∧ LD S2)))
    (zQ : ∀ s, Wd s → ro_ dZ_ s0 s → Ls_ s g K S0 LD 0 → vv_ γ m_X12_explain 7 196 [(0, .ref 185), (3, .int (0 : Int32))] [] (pt_I (pt_I s 185 47 (1 : Int32)) 185 53 (0 : Int32)) Q) :
    ∀ b : Nat, b ≤ (br_ g K S0).length → ∀ s, Wd s → ro_ dZ_ s0 s → Ls_ s g K S0 LD b → vv_ γ m_X12_explain 7 39 [(0, .ref 185), (2, .int (i_ (cd : Int))), (3, .int (i_ ((b : Int) - 1)))] [] s Q := by
  have hg := zM.1
  have lM : (br_ g K S0).length ≤ 65535 := by
    have := zT.2.1
    unfold wq_ at this
    rw [List.length_map] at this
    exact this
  intro b
  induction b with
  | zero =>
    intro _ s w r hL
    refine g_X12_explain_39 w ?_
    unfold p_X12_explain_39
    exact ⟨fun _ => zQ s w r hL, fun y => absurd (by decide) y⟩
  | succ b ih =>
    intro hlen s w r hL
    obtain ⟨x, hx⟩ : ∃ x, (br_ g K S0)[b]? = some x := ⟨_, List.getElem?_eq_getElem (by omega)⟩
    have hr : Rl_ g K S0 x.1 := ⟨x, List.mem_of_getElem? hx, rfl⟩
    have vS := rl_v hg h0 hr
    have e0 : (0 : Int32) = i_ ((0 : Nat) : Int) := by decide
    have vi : vp_in (i_ (b : Int)) 65536 := i_in (by omega) (by omega) (by omega)
    have nl : ¬ i_ (b : Int) < (0 : Int32) := by
      rw [k0_, i_lt (by omega) (by omega)]
      omega
    have go := l_ld (γ := γ) (Q := Q) zM h0 hb zT hx (by omega) (hLD x.1 hr) (ih (by omega)) 4 0 rfl
    have hi := (rk_dZ r zT).2.2.1.2.2 b (kr_ g K x.1, x.2) (by
      unfold wq_
      rw [List.getElem?_map, hx]
      rfl)
    have cL : ∀ v : Int32, Ls_ (pt_I s 217 b v) g K S0 LD (b + 1) := fun v => ls_cg (fun j hj => by rw [st_pI, if_neg (by omega)]) hL
    have cR : ∀ v : Int32, ro_ dZ_ s0 (pt_I s 217 b v) := fun v => ro_I r (show dZ_ _ _ by unfold dZ_; omega)
    have no : ¬ FC_ p g K cd x.1 → vv_ γ m_X12_explain 7 84 [(0, .ref 185), (2, .int (i_ (cd : Int))), (3, .int (i_ (b : Int))), (4, .int (0 : Int32))] [] (pt_I s 217 b (0 : Int32)) Q := fun h => go _ w (cR _) (cL _) (Or.inr ⟨st_sI _ _ _ _, h, fun u v S2 y => absurd y (Nat.not_lt_zero u), fun v S2 y => absurd y (Nat.not_lt_zero v)⟩)
    have ye : FC_ p g K cd x.1 → vv_ γ m_X12_explain 7 84 [(0, .ref 185), (2, .int (i_ (cd : Int))), (3, .int (i_ (b : Int))), (4, .int (0 : Int32))] [] (pt_I s 217 b (1 : Int32)) Q := fun h => go _ w (cR _) (cL _) (Or.inl ⟨(hLD x.1 hr).mpr (Or.inl h), st_sI _ _ _ _⟩)
    refine g_X12_explain_39 w ?_
    unfold p_X12_explain_39
    rw [show ((b + 1 : Nat) : Int) - 1 = (b : Int) by omega, i_cl (a := (b : Int)) (by omega), Int.toNat_natCast, hi.1]
    refine ⟨fun y => absurd y nl, fun _ => ⟨vi, _, s, w, c_rfinal w (mr_dZ r zM) vS, fun y => ⟨vi, no (fun h => ?_)⟩, fun y => ⟨vi, i_ (rc_ p x.1 : Int), s, w, by rw [hi.1]; exact c_rcode w hg vS (nr_ro r (fun k z => by unfold dZ_ at z; omega) zN), fun y2 => ⟨vi, ye ⟨?_, ?_⟩⟩, fun y2 => ⟨vi, no (fun h => ?_)⟩⟩⟩⟩
    · rw [if_pos h.1] at y
      exact absurd y (by decide)
    · by_cases h : rf2_ g K x.1 = true
      · exact h
      · rw [if_neg h] at y
        exact absurd rfl y
    · have y3 := rc_lt zN.1 vS
      rw [i_eq (by omega) (by omega)] at y2
      omega
    · rw [h.2] at y2
      exact y2 rfl
end RX4
