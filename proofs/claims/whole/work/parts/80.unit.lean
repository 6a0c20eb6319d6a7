/-! the class's parser: units of a condition -/
section UN
variable {γ : ga_T} {B : Nat → Int} {n : Nat}
theorem pc_unit {σ : st_T} {S : qs_T} (h : Pc_ σ B n S) (hu : S.2.2 < 16) : Pc_ (pt_I σ 142 3 (i_ ((S.2.2 + 1 : Nat) : Int))) B n (S.1, S.2.1, S.2.2 + 1) := by
  obtain ⟨h1, h2, h3, h4, h5, h6⟩ := h
  exact ⟨h1, at_eh h2 (eh_I (by decide)) (eh_I (by decide)) (eh_I (by decide)) (eh_I (by decide)), pq_eh h3 (eh_I (by decide)) (eh_I (by decide)) (eh_I (by decide)) (eh_I (by decide)) (eh_I (by decide)), h4, st_sI _ _ _ _, hu, by rw [st_pI, if_neg (by omega)]; exact h6.2⟩
theorem Rd_0s {d : Nat} {S : qs_T} (c1 : csg_ B n S.1 ≠ 14 ∧ csg_ B n S.1 ≠ 19 ∧ csg_ B n S.1 ≠ 4 ∧ csg_ B n S.1 ≠ 3) : Rd_ B n 0 d S (.inr (er_ B n S.1 1)) := ⟨1, by unfold rd_; rw [if_pos rfl, if_pos c1]⟩
theorem Rd_0t {d : Nat} {S : qs_T} (c2 : csg_ B n S.1 = 4 ∧ ¬ tnu_ B n S.1 < pT_ S.2.1.1) : Rd_ B n 0 d S (.inr (er_ B n S.1 2)) := ⟨1, by unfold rd_; rw [if_pos rfl, if_neg (fun z => z.2.2.1 c2.1), if_pos c2]⟩
theorem Rd_0l {d : Nat} {S : qs_T} (c3 : csg_ B n S.1 = 3 ∧ lnm_ S.2.1 (tby_ B n S.1) = -1) : Rd_ B n 0 d S (.inr (er_ B n S.1 4)) := ⟨1, by unfold rd_; rw [if_pos rfl, if_neg (fun z => z.2.2.2 c3.1), if_neg (fun z => by rw [c3.1] at z; exact absurd z.1 (by decide)), if_pos c3]⟩
/-- none of the errors before a unit is counted -/
def U0_ (B : Nat → Int) (n : Nat) (S : qs_T) : Prop := ¬ (csg_ B n S.1 ≠ 14 ∧ csg_ B n S.1 ≠ 19 ∧ csg_ B n S.1 ≠ 4 ∧ csg_ B n S.1 ≠ 3) ∧ ¬ (csg_ B n S.1 = 4 ∧ ¬ tnu_ B n S.1 < pT_ S.2.1.1) ∧ ¬ (csg_ B n S.1 = 3 ∧ lnm_ S.2.1 (tby_ B n S.1) = -1)
theorem Rd_0m {d : Nat} {S : qs_T} (h : U0_ B n S) (c4 : 4 < d ∨ 16 ≤ S.2.2) : Rd_ B n 0 d S (.inr (er_ B n S.1 5)) := ⟨1, by unfold rd_; rw [if_pos rfl, if_neg h.1, if_neg h.2.1, if_neg h.2.2, if_pos c4]⟩
theorem Rd_0c {d : Nat} {S : qs_T} (h : U0_ B n S) (c4 : ¬ (4 < d ∨ 16 ≤ S.2.2)) (c5 : csg_ B n S.1 = 4 ∨ csg_ B n S.1 = 3) : Rd_ B n 0 d S (cmp_ B n (S.1, S.2.1, S.2.2 + 1)) := ⟨1, by unfold rd_; rw [if_pos rfl, if_neg h.1, if_neg h.2.1, if_neg h.2.2, if_neg c4, if_pos c5]⟩
theorem Rd_0n {d : Nat} {S S2 : qs_T} (h : U0_ B n S) (c4 : ¬ (4 < d ∨ 16 ≤ S.2.2)) (c6 : csg_ B n S.1 = 14) (h1 : Rd_ B n 0 (d + 1) (S.1 + 1, S.2.1, S.2.2 + 1) (.inl S2)) : Rd_ B n 0 d S (.inl (S2.1, pac_ S2.2.1 (-1), S2.2.2)) := by
  obtain ⟨f, h1⟩ := h1
  refine ⟨f + 1, ?_⟩
  unfold rd_
  rw [if_pos rfl, if_neg h.1, if_neg h.2.1, if_neg h.2.2, if_neg c4, if_neg (by omega), if_pos c6, h1]
  rfl
theorem Rd_0ne {d e : Nat} {S : qs_T} (h : U0_ B n S) (c4 : ¬ (4 < d ∨ 16 ≤ S.2.2)) (c6 : csg_ B n S.1 = 14) (h1 : Rd_ B n 0 (d + 1) (S.1 + 1, S.2.1, S.2.2 + 1) (.inr e)) : Rd_ B n 0 d S (.inr e) := by
  obtain ⟨f, h1⟩ := h1
  refine ⟨f + 1, ?_⟩
  unfold rd_
  rw [if_pos rfl, if_neg h.1, if_neg h.2.1, if_neg h.2.2, if_neg c4, if_neg (by omega), if_pos c6, h1]
  rfl
theorem Rd_0p {d : Nat} {S S2 : qs_T} (h : U0_ B n S) (c4 : ¬ (4 < d ∨ 16 ≤ S.2.2)) (c6 : csg_ B n S.1 = 19) (h1 : Rd_ B n 1 (d + 1) (S.1 + 1, S.2.1, S.2.2 + 1) (.inl S2)) : Rd_ B n 0 d S (xp_ B n 20 S2) := by
  obtain ⟨f, h1⟩ := h1
  refine ⟨f + 1, ?_⟩
  unfold rd_
  rw [if_pos rfl, if_neg h.1, if_neg h.2.1, if_neg h.2.2, if_neg c4, if_neg (by omega), if_neg (by omega), h1]
  rfl
theorem Rd_0pe {d e : Nat} {S : qs_T} (h : U0_ B n S) (c4 : ¬ (4 < d ∨ 16 ≤ S.2.2)) (c6 : csg_ B n S.1 = 19) (h1 : Rd_ B n 1 (d + 1) (S.1 + 1, S.2.1, S.2.2 + 1) (.inr e)) : Rd_ B n 0 d S (.inr e) := by
  obtain ⟨f, h1⟩ := h1
  refine ⟨f + 1, ?_⟩
  unfold rd_
  rw [if_pos rfl, if_neg h.1, if_neg h.2.1, if_neg h.2.2, if_neg c4, if_neg (by omega), if_neg (by omega), h1]
  rfl
def QU_ (s : st_T) (B : Nat → Int) (n d : Nat) (S : qs_T) : rs_T → st_T → Prop := fun rr s2 => ∃ v, rr = .inl (some v) ∧ ∃ b, v = .int b ∧ ∃ r, Wd s2 ∧ Rd_ B n 0 d S r ∧ Po_ s B n r b s2
theorem qu_bool {s s2 : st_T} {d : Nat} {S : qs_T} {r : qs_T ⊕ Nat} {v : Int32} (h1 : Wd s2) (h2 : Rd_ B n 0 d S r) (h3 : Po_ s B n r v s2) : (v = 0 ∨ v = 1) ∧ QU_ s B n d S (.inl (some (.int v))) s2 := by
  refine ⟨?_, _, rfl, _, rfl, r, h1, h2, h3⟩
  rcases h3.2 with ⟨rfl, -⟩ | ⟨rfl, -⟩
  · exact Or.inr rfl
  · exact Or.inl rfl
theorem l_u103 {d D : Nat} (hD : 41 ≤ D) (hd : d ≤ 5) (hU : d ≤ 4 → UC_ γ B n (d + 1) (D - 1)) {S : qs_T} {s : st_T} (hP : Pc_ s B n S) (hl : S.2.1.2.2.length ≤ 2 * S.2.2) (h0 : U0_ B n S) : vv_ γ m_X6_readUnit (D + 1) 103 [(0, .ref 142), (1, .int (i_ (d : Int))), (2, .ref (csg_ B n S.1))] [] s (QU_ s B n d S) := by
  have y16 := hP.2.2.2.2.2.1
  refine g_X6_readUnit_103 (by omega) hP.1 ?_
  unfold p_X6_readUnit_103
  rw [hP.2.2.2.2.1]
  simp (disch := omega) only [i_lit, i_lt]
  refine ⟨fun z => ?_, fun z => ⟨fun z2 => ?_, fun z2 => ?_⟩⟩
  · obtain ⟨s2, a1, a2, a3, -⟩ := c_fail (γ := γ) hP 5
    exact ⟨_, s2, a2, a1, qu_bool a2 (Rd_0m h0 (Or.inl (by omega))) a3⟩
  · have c4 : ¬ (4 < d ∨ 16 ≤ S.2.2) := by omega
    have hu := pc_unit hP (by omega)
    have yu : yf_ s (pt_I s 142 3 (i_ ((S.2.2 + 1 : Nat) : Int))) := yf_I (by decide)
    have wu : Wd (pt_I s 142 3 (i_ ((S.2.2 + 1 : Nat) : Int))) := hP.1
    have e3 : st_I s 142 3 + 1 = i_ ((S.2.2 + 1 : Nat) : Int) := by
      rw [hP.2.2.2.2.1, i_lit 1, i_add]
      rfl
    refine g_X6_readUnit_123 (by omega) hP.1 ?_
    unfold p_X6_readUnit_123
    rw [e3]
    refine ⟨csg_21, fun z3 => ?_, fun z3 => ⟨csg_21, fun z4 => ?_, fun z4 => ?_⟩⟩
    · obtain ⟨v, s2, b1, b2, b3⟩ := c_rcomp (γ := γ) hu (by show S.2.1.2.2.length < 31; omega) (Or.inr ⟨z3, by
        by_cases y : tnu_ B n S.1 < pT_ S.2.1.1
        · exact y
        · exact absurd ⟨z3, y⟩ h0.2.1⟩)
      exact ⟨v, s2, b2, b1, qu_bool b2 (Rd_0c h0 c4 (Or.inl z3)) (po_tr yu b3)⟩
    · obtain ⟨v, s2, b1, b2, b3⟩ := c_rcomp (γ := γ) hu (by show S.2.1.2.2.length < 31; omega) (Or.inl ⟨z4, fun y => h0.2.2 ⟨z4, y⟩⟩)
      exact ⟨v, s2, b2, b1, qu_bool b2 (Rd_0c h0 c4 (Or.inr z4)) (po_tr yu b3)⟩
    · have z5 : csg_ B n S.1 = 14 ∨ csg_ B n S.1 = 19 := by
        have y := h0.1
        omega
      obtain ⟨s1, d1, d2, d3, d4, -⟩ := pc_adv (γ := γ) hu (by show csg_ B n S.1 ≠ 0; omega)
      have hU1 := hU (by omega)
      have f1 := yf_tr yu d4
      have hl1 : S.2.1.2.2.length ≤ 2 * (S.2.2 + 1) := by omega
      refine ⟨s1, d2, d1, csg_21, fun z6 => ?_, fun z6 => ?_⟩
      · -- not
        obtain ⟨v, s2, r, b1, b2, b3, b4, b5⟩ := hU1 (S.1 + 1, S.2.1, S.2.2 + 1) s1 d3 hl1
        have ed : i_ (d : Int) + 1 = i_ ((d + 1 : Nat) : Int) := by
          rw [i_lit 1, i_add]
          rfl
        obtain ⟨D2, hD2⟩ : ∃ D2, D = D2 + 1 := ⟨D - 1, by omega⟩
        subst hD2
        rw [Nat.add_sub_cancel] at b1
        have f4 := yf_tr f1 b4
        rw [ed]
        rcases b5 with ⟨rfl, S2, rfl, c2⟩ | ⟨rfl, e, rfl, c2, c3⟩
        · obtain ⟨p1, p2, p3, p4, p5⟩ := Rd_post (by decide) b3
          rw [if_pos (by decide)] at p4 p5
          have p3 : S.2.2 + 1 ≤ 16 → S2.2.2 ≤ 16 := p3
          have p5 : S2.2.1.2.2.length + 2 * (S.2.2 + 1) + 1 ≤ S.2.1.2.2.length + 2 * S2.2.2 := p5
          have p16 := p3 (by omega)
          obtain ⟨s5, i1, i2, i3, i4⟩ := c_addCond (γ := γ) (Or.inr rfl) b2 c2.2.2.1 (by omega) (-1)
          obtain ⟨j1, j2, -⟩ := pc_gq c2 (P := pac_ S2.2.1 (-1)) i2 i4 i3 c2.2.2.2.1
          have rn : fn_ γ m_X6_readNegated (D2 + 1) [.ref 142, .int (i_ ((d + 1 : Nat) : Int))] s1 (.int (i_ 1)) s5 := fn_q (fun Q zQ => e_X6_readNegated (by omega) d2 (by
            unfold p_X6_readNegated_0
            exact ⟨_, s2, b2, b1, s5, i2, i1, Or.inr rfl, zQ⟩))
          exact ⟨_, s5, i2, rn, qu_bool i2 (Rd_0n h0 c4 z6 b3) ⟨yf_tr f4 j2, Or.inl ⟨rfl, _, rfl, j1⟩⟩⟩
        · obtain ⟨s5, i1, i2, i3, i4, i5⟩ := c_addW (γ := γ) c3 (-1)
          have rn : fn_ γ m_X6_readNegated (D2 + 1) [.ref 142, .int (i_ ((d + 1 : Nat) : Int))] s1 (.int (i_ 0)) s5 := fn_q (fun Q zQ => e_X6_readNegated (by omega) d2 (by
            unfold p_X6_readNegated_0
            exact ⟨_, s2, b2, b1, s5, i2, i1, Or.inl rfl, zQ⟩))
          exact ⟨_, s5, i2, rn, qu_bool i2 (Rd_0ne h0 c4 z6 b3) ⟨yf_tr f4 i4, Or.inr ⟨rfl, e, rfl, by rw [i5]; exact c2, i3⟩⟩⟩
      · have z7 : csg_ B n S.1 = 19 := by omega
        obtain ⟨D2, hD2⟩ : ∃ D2, D = D2 + 1 := ⟨D - 1, by omega⟩
        subst hD2
        rw [Nat.add_sub_cancel] at hU1
        have ed : i_ (d : Int) + 1 = i_ ((d + 1 : Nat) : Int) := by
          rw [i_lit 1, i_add]
          rfl
        rw [ed]
        obtain ⟨v, s2, r, b1, b2, b3, b4, b5⟩ := c_cond (by omega) hU1 (S.1 + 1, S.2.1, S.2.2 + 1) s1 d3 hl1
        refine ⟨v, s2, b2, b1, ?_⟩
        have f4 := yf_tr f1 b4
        rcases b5 with ⟨rfl, S2, rfl, c2⟩ | ⟨rfl, e, rfl, c2, c3⟩
        · refine ⟨fun z => absurd z (by decide), fun _ => ?_⟩
          obtain ⟨v2, s3, e1, e2, e3, -⟩ := c_expect (γ := γ) c2 (c := 20) (by decide)
          refine ⟨v2, s3, e2, e1, ?_⟩
          have q := (qu_bool (d := d) e2 (Rd_0p h0 c4 z7 b3) (po_tr f4 e3)).2
          rcases e3.2 with ⟨rfl, -⟩ | ⟨rfl, -⟩
          · exact ⟨fun z => absurd z (by decide), fun _ => q⟩
          · exact ⟨fun _ => q, fun z => absurd rfl z⟩
        · exact ⟨fun _ => (qu_bool b2 (Rd_0pe h0 c4 z7 b3) ⟨f4, Or.inr ⟨rfl, e, rfl, c2, c3⟩⟩).2, fun z => absurd rfl z⟩
  · obtain ⟨s2, a1, a2, a3, -⟩ := c_fail (γ := γ) hP 5
    exact ⟨_, s2, a2, a1, qu_bool a2 (Rd_0m h0 (Or.inr (by omega))) a3⟩
theorem c_unit1 {d D : Nat} (hD : 41 ≤ D) (hd : d ≤ 5) (hU : d ≤ 4 → UC_ γ B n (d + 1) (D - 1)) : UC_ γ B n d (D + 1) := by
  intro S s hP hl
  have b2 := hP.2.2.1.1.1.2.1
  have b3 := hP.2.2.1.1.1.2.2.1
  suffices key : sp_ γ m_X6_readUnit (D + 1) [.ref 142, .int (i_ (d : Int))] s (QU_ s B n d S) by
    obtain ⟨v, s2, y1, b, rfl, r, y2, y3, y4⟩ := fn_of key
    exact ⟨b, s2, r, y1, y2, y3, y4⟩
  refine e_X6_readUnit (by omega) hP.1 ?_
  unfold p_X6_readUnit_0
  have go : ¬ (csg_ B n S.1 ≠ 14 ∧ csg_ B n S.1 ≠ 19 ∧ csg_ B n S.1 ≠ 4 ∧ csg_ B n S.1 ≠ 3) → vv_ γ m_X6_readUnit (D + 1) 42 [(0, .ref 142), (1, .int (i_ (d : Int))), (2, .ref (csg_ B n S.1))] [] s (QU_ s B n d S) := by
    intro hc
    have g72 : ¬ (csg_ B n S.1 = 4 ∧ ¬ tnu_ B n S.1 < pT_ S.2.1.1) → vv_ γ m_X6_readUnit (D + 1) 72 [(0, .ref 142), (1, .int (i_ (d : Int))), (2, .ref (csg_ B n S.1))] [] s (QU_ s B n d S) := by
      intro hc2
      refine g_X6_readUnit_72 (by omega) hP.1 ?_
      unfold p_X6_readUnit_72
      refine ⟨csg_21, fun z => ?_, fun z => l_u103 hD hd hU hP hl ⟨hc, hc2, fun y => z y.1⟩⟩
      obtain ⟨t1, t2⟩ := csg_3 z
      have nm := c_name (γ := γ) hP.1 hP.2.1 (csg_n (by rw [z]; decide))
      rw [t1] at nm
      have ln := c_named (γ := γ) (Or.inr rfl) hP.1 hP.2.2.1 hP.2.2.2.1 t2
      have lr : lnm_ S.2.1 (tby_ B n S.1) = -1 ∨ (((0 : Nat) : Int) ≤ lnm_ S.2.1 (tby_ B n S.1) ∧ lnm_ S.2.1 (tby_ B n S.1) < (0 + pL_ S.2.1.1 : Nat)) := pl_rg (fun i => decide (S.2.1.2.1 i = tby_ B n S.1)) (pL_ S.2.1.1) 0 0
      refine ⟨_, s, hP.1, nm, _, s, hP.1, ln, ?_⟩
      simp (disch := omega) only [i_lit, i_neg, i_eq]
      refine ⟨fun z2 => ?_, fun z2 => l_u103 hD hd hU hP hl ⟨hc, hc2, fun y => z2 y.2⟩⟩
      obtain ⟨s2, a1, a2, a3, -⟩ := c_fail (γ := γ) hP 4
      exact ⟨_, s2, a2, a1, qu_bool a2 (Rd_0l ⟨z, z2⟩) a3⟩
    refine g_X6_readUnit_42 (by omega) hP.1 ?_
    unfold p_X6_readUnit_42
    refine ⟨csg_21, fun z => ?_, fun z => g72 (fun y => z y.1)⟩
    obtain ⟨nu, nu2, nu3⟩ := c_num4 (γ := γ) hP.1 hP.2.1 z
    refine ⟨_, s, hP.1, nu, _, s, hP.1, c_threads (Or.inr rfl) hP.1 hP.2.2.1.1, ?_⟩
    simp (disch := omega) only [i_lt]
    refine ⟨fun z2 => g72 (fun y => y.2 z2), fun z2 => ?_⟩
    obtain ⟨s2, a1, a2, a3, -⟩ := c_fail (γ := γ) hP 2
    exact ⟨_, s2, a2, a1, qu_bool a2 (Rd_0t ⟨z, z2⟩) a3⟩
  refine ⟨_, s, hP.1, c_sign hP.1 hP.2.1, csg_21, fun z => go (fun y => y.1 z), fun z => ⟨csg_21, fun z2 => go (fun y => y.2.1 z2), fun z2 => ⟨csg_21, fun z3 => go (fun y => y.2.2.1 z3), fun z3 => ⟨csg_21, fun z4 => go (fun y => y.2.2.2 z4), fun z4 => ?_⟩⟩⟩⟩
  obtain ⟨s2, a1, a2, a3, -⟩ := c_fail (γ := γ) hP 1
  exact ⟨_, s2, a2, a1, qu_bool a2 (Rd_0s ⟨z, z2, z3, z4⟩) a3⟩
theorem c_units : ∀ (j d D : Nat), j + d = 5 → 41 + 2 * j ≤ D → UC_ γ B n d (D + 1) := by
  intro j
  induction j with
  | zero =>
    intro d D hj hD
    exact c_unit1 (by omega) (by omega) (fun h => by omega)
  | succ j ih =>
    intro d D hj hD
    refine c_unit1 (by omega) (by omega) (fun h => ?_)
    have y := ih (d + 1) (D - 2) (by omega) (by omega)
    rw [show D - 2 + 1 = D - 1 by omega] at y
    exact y
theorem c_cond0 : CC_ γ B n 0 60 := c_cond (by decide) (c_units 5 0 58 rfl (by decide))
end UN
