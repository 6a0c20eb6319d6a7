/-! the class's parser: a declaration, the parts of an instruction -/
section PB
variable {γ : ga_T} {σ σ1 : st_T} {B : Nat → Int} {n k : Nat}
theorem pc_gq {S : qs_T} (h : Pc_ σ B n S) {P : pq_T} (hw : Wd σ1) (hq : gq_ 137 σ σ1) (hP : Pq_ σ1 137 P) (hN : Nv_ P) : Pc_ σ1 B n (S.1, P, S.2.2) ∧ yf_ σ σ1 ∧ (∀ j, st_I σ1 142 j = st_I σ 142 j) := by
  obtain ⟨h1, h2, h3, h4, h5, h6⟩ := h
  exact ⟨⟨hw, at_eh h2 (hq.1 _ (by omega)) (hq.1 _ (by omega)) (hq.1 _ (by omega)) (hq.1 _ (by omega)), hP, hN, by rw [(hq.1 142 (by omega)).1]; exact h5, h6.1, by rw [(hq.1 142 (by omega)).1]; exact h6.2⟩, yf_gq hq, fun j => (hq.1 142 (by omega)).1 j⟩
theorem nv_al {P : pq_T} (h : Nv_ P) {l : List Int} (hl : Nam_ l) (v : Int) : Nv_ (pal_ P l v) := by
  intro i zi
  have zi : i < pL_ P.1 + 1 := zi
  show Nam_ (upd_ P.2.1 (pL_ P.1) l i)
  unfold upd_
  split
  · exact hl
  · exact h i (by omega)
def dec_ (B : Nat → Int) (n : Nat) (S : qs_T) : qs_T ⊕ Nat :=
  if 3 ≤ pL_ S.2.1.1 then .inr (er_ B n S.1 5)
  else if csg_ B n (S.1 + 1) ≠ 3 then .inr (er_ B n (S.1 + 1) 1)
  else if lnm_ S.2.1 (tby_ B n (S.1 + 1)) ≠ -1 then .inr (er_ B n (S.1 + 1) 3)
  else match vl_ B n (S.1 + 2, S.2) with
    | .inl _ => xp_ B n 15 (S.1 + 3, pal_ S.2.1 (tby_ B n (S.1 + 1)) (tnu_ B n (S.1 + 2)), S.2.2)
    | .inr e => .inr e
theorem vl_inl {S S2 : qs_T} (h : vl_ B n S = .inl S2) : S2 = S ∧ csg_ B n S.1 = 4 ∧ tnu_ B n S.1 ≤ 3 := by
  unfold vl_ at h
  split at h
  · next y =>
    split at h
    · next y2 => exact ⟨(Sum.inl.inj h).symm, y, y2⟩
    · cases h
  · cases h
theorem c_decl {S : qs_T} (h : Pc_ σ B n S) (hs : csg_ B n S.1 = 5) : ∃ v s, fn_ γ m_X6_readDeclaration 3 [.ref 142] σ (.int v) s ∧ Wd s ∧ Po_ σ B n (dec_ B n S) v s := by
  have zR := h.2.2.1.1
  have b3 := zR.1.2.2.1
  have lc := c_locations (γ := γ) (Or.inr rfl) h.1 zR
  by_cases y1 : 3 ≤ pL_ S.2.1.1
  · obtain ⟨s, a1, a2, a3, -⟩ := c_fail (γ := γ) h 5
    refine ⟨i_ 0, s, fn_q (fun Q zQ => e_X6_readDeclaration h.1 ?_), a2, by unfold dec_; rw [if_pos y1]; exact a3⟩
    unfold p_X6_readDeclaration_0
    refine ⟨_, σ, h.1, lc, ?_⟩
    simp (disch := omega) only [i_lit, i_lt]
    exact ⟨fun z => by omega, fun _ => ⟨_, s, a2, a1, Or.inl rfl, zQ⟩⟩
  · obtain ⟨s1, a1, a2, a3, a4, -⟩ := pc_adv (γ := γ) h (by omega)
    by_cases y2 : csg_ B n (S.1 + 1) = 3
    · obtain ⟨t1, t2⟩ := csg_3 y2
      have nm := c_name (γ := γ) a2 a3.2.1 (csg_n (by rw [show ((S.1 + 1, S.2) : qs_T).1 = S.1 + 1 from rfl, y2]; decide))
      have nm : fn_ γ m_X10_name 0 [.ref 143] s1 (.long (ncd_ (tby_ B n (S.1 + 1)))) s1 := by
        rw [← t1]
        exact nm
      have ln := c_named (γ := γ) (Or.inr rfl) a2 a3.2.2.1 a3.2.2.2.1 t2
      have lr := pl_rg (fun i => decide (S.2.1.2.1 i = tby_ B n (S.1 + 1))) (pL_ S.2.1.1) 0 0
      have lr : lnm_ S.2.1 (tby_ B n (S.1 + 1)) = -1 ∨ (((0 : Nat) : Int) ≤ lnm_ S.2.1 (tby_ B n (S.1 + 1)) ∧ lnm_ S.2.1 (tby_ B n (S.1 + 1)) < (0 + pL_ S.2.1.1 : Nat)) := lr
      have ln : fn_ γ m_X7_locationNamed 0 [.ref 137, .long (ncd_ (tby_ B n (S.1 + 1)))] s1 (.int (i_ (lnm_ S.2.1 (tby_ B n (S.1 + 1))))) s1 := ln
      by_cases y3 : lnm_ S.2.1 (tby_ B n (S.1 + 1)) = -1
      · obtain ⟨s2, d1, d2, d3, d4, -⟩ := pc_adv (γ := γ) a3 (by show csg_ B n (S.1 + 1) ≠ 0; omega)
        obtain ⟨v, s3, e1, e2, e3, -⟩ := c_isValue (γ := γ) d3
        have ex : dec_ B n S = match vl_ B n (S.1 + 2, S.2) with
            | .inl _ => xp_ B n 15 (S.1 + 3, pal_ S.2.1 (tby_ B n (S.1 + 1)) (tnu_ B n (S.1 + 2)), S.2.2)
            | .inr e => .inr e := by
          unfold dec_
          rw [if_neg y1, if_neg (fun z => z y2), if_neg (fun z => z y3)]
        rcases e3 with ⟨e3, ⟨rfl, S2, f1, f2⟩ | ⟨rfl, e, f1, f2, f3⟩⟩
        · have f1 : vl_ B n (S.1 + 2, S.2) = .inl S2 := f1
          obtain ⟨rfl, g1, g2⟩ := vl_inl f1
          rw [f1] at ex
          obtain ⟨nu, nu2, -⟩ := c_num4 (γ := γ) e2 f2.2.1 g1
          obtain ⟨s4, i1, i2, i3, i4⟩ := c_addLocation (γ := γ) (Or.inr rfl) e2 f2.2.2.1 (by show pL_ S.2.1.1 < 3; omega) (tby_ B n (S.1 + 1)) (v := tnu_ B n (S.1 + 2)) ⟨nu2, g2⟩
          obtain ⟨j1, j2, -⟩ := pc_gq f2 i2 i4 i3 (nv_al a3.2.2.2.1 t2 _)
          obtain ⟨s5, k1, k2, k3, k4, -⟩ := pc_adv (γ := γ) j1 (by show csg_ B n (S.1 + 2) ≠ 0; have g1 : csg_ B n (S.1 + 2) = 4 := g1; omega)
          obtain ⟨v2, s6, l1, l2, l3, -⟩ := c_expect (γ := γ) k3 (c := 15) (by decide)
          refine ⟨v2, s6, fn_q (fun Q zQ => e_X6_readDeclaration h.1 ?_), l2, ?_⟩
          · unfold p_X6_readDeclaration_0
            refine ⟨_, σ, h.1, lc, ?_⟩
            simp (disch := omega) only [i_lit, i_lt]
            refine ⟨fun _ => ⟨s1, a2, a1, _, s1, a2, c_sign a2 a3.2.1, csg_21, fun _ => ⟨_, s1, a2, nm, _, s1, a2, ln, ?_⟩, fun z => absurd y2 z⟩, fun z => by omega⟩
            rw [y3]
            refine ⟨fun _ => ⟨s2, d2, d1, _, s3, e2, e1, fun z => absurd z (by decide), fun _ => ⟨_, s3, e2, nu, s4, i2, i1, s5, k2, k1, v2, s6, l2, l1, ?_, zQ⟩⟩, fun z => absurd rfl z⟩
            rcases l3.2 with ⟨rfl, -⟩ | ⟨rfl, -⟩
            · exact Or.inr rfl
            · exact Or.inl rfl
          · rw [ex]
            exact po_tr (yf_tr (yf_tr (yf_tr (yf_tr a4 d4) e3) j2) k4) l3
        · have f1 : vl_ B n (S.1 + 2, S.2) = .inr e := f1
          rw [f1] at ex
          refine ⟨i_ 0, s3, fn_q (fun Q zQ => e_X6_readDeclaration h.1 ?_), e2, ?_⟩
          · unfold p_X6_readDeclaration_0
            refine ⟨_, σ, h.1, lc, ?_⟩
            simp (disch := omega) only [i_lit, i_lt]
            refine ⟨fun _ => ⟨s1, a2, a1, _, s1, a2, c_sign a2 a3.2.1, csg_21, fun _ => ⟨_, s1, a2, nm, _, s1, a2, ln, ?_⟩, fun z => absurd y2 z⟩, fun z => by omega⟩
            rw [y3]
            exact ⟨fun _ => ⟨s2, d2, d1, _, s3, e2, e1, fun _ => zQ, fun z => absurd rfl z⟩, fun z => absurd rfl z⟩
          · rw [ex]
            exact ⟨yf_tr (yf_tr a4 d4) e3, Or.inr ⟨rfl, e, rfl, f2, f3⟩⟩
      · obtain ⟨s, d1, d2, d3, -⟩ := c_fail (γ := γ) a3 3
        refine ⟨i_ 0, s, fn_q (fun Q zQ => e_X6_readDeclaration h.1 ?_), d2, ?_⟩
        · unfold p_X6_readDeclaration_0
          refine ⟨_, σ, h.1, lc, ?_⟩
          simp (disch := omega) only [i_lit, i_lt]
          refine ⟨fun _ => ⟨s1, a2, a1, _, s1, a2, c_sign a2 a3.2.1, csg_21, fun _ => ⟨_, s1, a2, nm, _, s1, a2, ln, ?_⟩, fun z => absurd y2 z⟩, fun z => by omega⟩
          simp (disch := omega) only [i_neg, i_eq]
          exact ⟨fun z => absurd z y3, fun _ => ⟨_, s, d2, d1, Or.inl rfl, zQ⟩⟩
        · unfold dec_
          rw [if_neg y1, if_neg (fun z => z y2), if_pos y3]
          exact po_tr a4 d3
    · obtain ⟨s, d1, d2, d3, -⟩ := c_fail (γ := γ) a3 1
      refine ⟨i_ 0, s, fn_q (fun Q zQ => e_X6_readDeclaration h.1 ?_), d2, ?_⟩
      · unfold p_X6_readDeclaration_0
        refine ⟨_, σ, h.1, lc, ?_⟩
        simp (disch := omega) only [i_lit, i_lt]
        exact ⟨fun _ => ⟨s1, a2, a1, _, s1, a2, c_sign a2 a3.2.1, csg_21, fun z => absurd z y2, fun _ => ⟨_, s, d2, d1, Or.inl rfl, zQ⟩⟩, fun z => by omega⟩
      · unfold dec_
        rw [if_neg y1, if_pos y2]
        exact po_tr a4 d3
/-- the parts of an instruction: what is read, and the state behind it -/
def itg_ (p : pr_T) (t r : Int) : Bool := an_ (fun i => decide (pp_ p i 0 = t ∧ pp_ p i 3 = r)) (pN_ p)
def rtg_ (B : Nat → Int) (n : Nat) (t : Nat) (S : qs_T) : (Int × qs_T) ⊕ Nat :=
  if csg_ B n S.1 = 2 then (if itg_ S.2.1.1 t (tnu_ B n S.1) = true then .inr (er_ B n S.1 3) else .inl (tnu_ B n S.1, (S.1 + 1, S.2))) else .inr (er_ B n S.1 1)
def rlo_ (B : Nat → Int) (n : Nat) (S : qs_T) : (Int × qs_T) ⊕ Nat :=
  if csg_ B n S.1 = 3 then (if lnm_ S.2.1 (tby_ B n S.1) = -1 then .inr (er_ B n S.1 4) else .inl (lnm_ S.2.1 (tby_ B n S.1), (S.1 + 1, S.2))) else .inr (er_ B n S.1 1)
def rva_ (B : Nat → Int) (n : Nat) (t : Nat) (S : qs_T) : ((Int × Int) × qs_T) ⊕ Nat :=
  if csg_ B n S.1 = 2 then (if itg_ S.2.1.1 t (tnu_ B n S.1) = true then .inl ((-1, tnu_ B n S.1), (S.1 + 1, S.2)) else .inr (er_ B n S.1 4))
  else match vl_ B n S with
    | .inl _ => .inl ((tnu_ B n S.1, -1), (S.1 + 1, S.2))
    | .inr e => .inr e
/-- how such a reading ends: fields are set, the others stay -/
def Pv_ {α : Type} (σ : st_T) (B : Nat → Int) (n : Nat) (r : (α × qs_T) ⊕ Nat) (v : Int32) (s : st_T) (f : st_T → α → Prop) : Prop := yf_ σ s ∧ ((v = i_ 1 ∧ ∃ x S, r = .inl (x, S) ∧ Pc_ s B n S ∧ f s x) ∨ (v = i_ 0 ∧ ∃ e, r = .inr e ∧ st_I s 142 2 = i_ ((e : Nat) : Int) ∧ Wk_ s))
theorem c_target {S : qs_T} (h : Pc_ σ B n S) {t : Nat} (ht : t < 4) : ∃ v s, fn_ γ m_X6_readTarget 2 [.ref 142, .int (i_ (t : Int))] σ (.int v) s ∧ Wd s ∧ Pv_ σ B n (rtg_ B n t S) v s (fun s x => st_I s 142 5 = i_ x ∧ (x = 0 ∨ x = 1) ∧ ∀ j, j ≠ 5 → j ≠ 2 → st_I s 142 j = st_I σ 142 j) := by
  by_cases y1 : csg_ B n S.1 = 2
  · obtain ⟨-, -, g3, -⟩ := csg_2 y1
    have nu := c_num2 (γ := γ) h.1 h.2.1 y1
    have h2 := pc_I h (j := 5) (by decide) (i_ (tnu_ B n S.1))
    have it := c_isTarget (γ := γ) (t := t) (r := tnu_ B n S.1) (Or.inr rfl) h2.1 h2.2.2.1.1 (by omega) (by omega)
    by_cases y2 : itg_ S.2.1.1 t (tnu_ B n S.1) = true
    · have y2b := y2
      unfold itg_ at y2b
      rw [if_pos y2b] at it
      obtain ⟨s, a1, a2, a3, -⟩ := c_fail (γ := γ) h2 3
      refine ⟨i_ 0, s, fn_q (fun Q zQ => e_X6_readTarget h.1 ?_), a2, ?_⟩
      · unfold p_X6_readTarget_0
        exact ⟨_, σ, h.1, c_sign h.1 h.2.1, csg_21, fun _ => ⟨_, σ, h.1, nu, _, _, h2.1, it, fun z => absurd z (by decide), fun _ => ⟨_, s, a2, a1, Or.inl rfl, zQ⟩⟩, fun z => absurd y1 z⟩
      · unfold rtg_
        rw [if_pos y1, if_pos y2]
        obtain ⟨b1, ⟨b2, -⟩ | ⟨-, e, b3, b4⟩⟩ := a3
        · exact absurd b2 (by decide)
        · exact ⟨yf_tr (yf_I (by decide)) b1, Or.inr ⟨rfl, e, by rw [← Sum.inr.inj b3], b4⟩⟩
    · have y2b := y2
      unfold itg_ at y2b
      rw [if_neg y2b] at it
      obtain ⟨s, a1, a2, a3, a4, a5⟩ := pc_adv (γ := γ) h2 (by omega)
      refine ⟨i_ 1, s, fn_q (fun Q zQ => e_X6_readTarget h.1 ?_), a2, yf_tr (yf_I (by decide)) a4, Or.inl ⟨rfl, tnu_ B n S.1, (S.1 + 1, S.2), by unfold rtg_; rw [if_pos y1, if_neg y2], a3, ?_, g3, fun j z1 z2 => ?_⟩⟩
      · unfold p_X6_readTarget_0
        exact ⟨_, σ, h.1, c_sign h.1 h.2.1, csg_21, fun _ => ⟨_, σ, h.1, nu, _, _, h2.1, it, fun _ => ⟨s, a2, a1, zQ⟩, fun z => absurd rfl z⟩, fun z => absurd y1 z⟩
      · rw [a5]
        exact st_sI _ _ _ _
      · rw [a5, st_pI, if_neg (by omega)]
  · obtain ⟨s, a1, a2, a3, -⟩ := c_fail (γ := γ) h 1
    refine ⟨i_ 0, s, fn_q (fun Q zQ => e_X6_readTarget h.1 ?_), a2, ?_⟩
    · unfold p_X6_readTarget_0
      exact ⟨_, σ, h.1, c_sign h.1 h.2.1, csg_21, fun z => absurd z y1, fun _ => ⟨_, s, a2, a1, Or.inl rfl, zQ⟩⟩
    · unfold rtg_
      rw [if_neg y1]
      obtain ⟨b1, ⟨b2, -⟩ | ⟨-, e, b3, b4⟩⟩ := a3
      · exact absurd b2 (by decide)
      · exact ⟨b1, Or.inr ⟨rfl, e, by rw [← Sum.inr.inj b3], b4⟩⟩
theorem c_rlocation {S : qs_T} (h : Pc_ σ B n S) : ∃ v s, fn_ γ m_X6_readLocation 2 [.ref 142] σ (.int v) s ∧ Wd s ∧ Pv_ σ B n (rlo_ B n S) v s (fun s x => st_I s 142 4 = i_ x ∧ (0 ≤ x ∧ x < pL_ S.2.1.1) ∧ ∀ j, j ≠ 4 → j ≠ 2 → st_I s 142 j = st_I σ 142 j) := by
  have b3 := h.2.2.1.1.1.2.2.1
  by_cases y1 : csg_ B n S.1 = 3
  · obtain ⟨t1, t2⟩ := csg_3 y1
    have nm := c_name (γ := γ) h.1 h.2.1 (csg_n (by rw [y1]; decide))
    rw [t1] at nm
    have ln := c_named (γ := γ) (Or.inr rfl) h.1 h.2.2.1 h.2.2.2.1 t2
    have lr : lnm_ S.2.1 (tby_ B n S.1) = -1 ∨ (((0 : Nat) : Int) ≤ lnm_ S.2.1 (tby_ B n S.1) ∧ lnm_ S.2.1 (tby_ B n S.1) < (0 + pL_ S.2.1.1 : Nat)) := pl_rg (fun i => decide (S.2.1.2.1 i = tby_ B n S.1)) (pL_ S.2.1.1) 0 0
    have h2 := pc_I h (j := 4) (by decide) (i_ (lnm_ S.2.1 (tby_ B n S.1)))
    by_cases y2 : lnm_ S.2.1 (tby_ B n S.1) = -1
    · obtain ⟨s, a1, a2, a3, -⟩ := c_fail (γ := γ) h2 4
      refine ⟨i_ 0, s, fn_q (fun Q zQ => e_X6_readLocation h.1 ?_), a2, ?_⟩
      · unfold p_X6_readLocation_0
        refine ⟨_, σ, h.1, c_sign h.1 h.2.1, csg_21, fun _ => ⟨_, σ, h.1, nm, _, σ, h.1, ln, fun _ => ⟨_, s, a2, a1, Or.inl rfl, zQ⟩, fun z => ?_⟩, fun z => absurd y1 z⟩
        rw [y2] at z
        exact absurd rfl z
      · unfold rlo_
        rw [if_pos y1, if_pos y2]
        obtain ⟨b1, ⟨b2, -⟩ | ⟨-, e, b3, b4⟩⟩ := a3
        · exact absurd b2 (by decide)
        · exact ⟨yf_tr (yf_I (by decide)) b1, Or.inr ⟨rfl, e, by rw [← Sum.inr.inj b3], b4⟩⟩
    · obtain ⟨s, a1, a2, a3, a4, a5⟩ := pc_adv (γ := γ) h2 (by omega)
      refine ⟨i_ 1, s, fn_q (fun Q zQ => e_X6_readLocation h.1 ?_), a2, yf_tr (yf_I (by decide)) a4, Or.inl ⟨rfl, lnm_ S.2.1 (tby_ B n S.1), (S.1 + 1, S.2), by unfold rlo_; rw [if_pos y1, if_neg y2], a3, ?_, by omega, fun j z1 z2 => ?_⟩⟩
      · unfold p_X6_readLocation_0
        refine ⟨_, σ, h.1, c_sign h.1 h.2.1, csg_21, fun _ => ⟨_, σ, h.1, nm, _, σ, h.1, ln, fun z => ?_, fun _ => ⟨s, a2, a1, zQ⟩⟩, fun z => absurd y1 z⟩
        have z : i_ (lnm_ S.2.1 (tby_ B n S.1)) = i_ (-1) := z
        rw [i_eq (by omega) (by omega)] at z
        exact absurd z y2
      · rw [a5]
        exact st_sI _ _ _ _
      · rw [a5, st_pI, if_neg (by omega)]
  · obtain ⟨s, a1, a2, a3, -⟩ := c_fail (γ := γ) h 1
    refine ⟨i_ 0, s, fn_q (fun Q zQ => e_X6_readLocation h.1 ?_), a2, ?_⟩
    · unfold p_X6_readLocation_0
      exact ⟨_, σ, h.1, c_sign h.1 h.2.1, csg_21, fun z => absurd z y1, fun _ => ⟨_, s, a2, a1, Or.inl rfl, zQ⟩⟩
    · unfold rlo_
      rw [if_neg y1]
      obtain ⟨b1, ⟨b2, -⟩ | ⟨-, e, b3, b4⟩⟩ := a3
      · exact absurd b2 (by decide)
      · exact ⟨b1, Or.inr ⟨rfl, e, by rw [← Sum.inr.inj b3], b4⟩⟩
theorem c_rvalue {S : qs_T} (h : Pc_ σ B n S) {t : Nat} (ht : t < 4) (h6 : st_I σ 142 6 = i_ (-1)) (h7 : st_I σ 142 7 = i_ (-1)) : ∃ v s, fn_ γ m_X6_readValue 3 [.ref 142, .int (i_ (t : Int))] σ (.int v) s ∧ Wd s ∧ Pv_ σ B n (rva_ B n t S) v s (fun s x => st_I s 142 6 = i_ x.1 ∧ st_I s 142 7 = i_ x.2 ∧ ((0 ≤ x.1 ∧ x.1 ≤ 3 ∧ x.2 = -1) ∨ (x.1 = -1 ∧ 0 ≤ x.2 ∧ x.2 ≤ 1)) ∧ ∀ j, j ≠ 6 → j ≠ 7 → j ≠ 2 → st_I s 142 j = st_I σ 142 j) := by
  by_cases y1 : csg_ B n S.1 = 2
  · obtain ⟨-, -, g3, -⟩ := csg_2 y1
    have nu := c_num2 (γ := γ) h.1 h.2.1 y1
    have h2 := pc_I h (j := 7) (by decide) (i_ (tnu_ B n S.1))
    have it := c_isTarget (γ := γ) (t := t) (r := tnu_ B n S.1) (Or.inr rfl) h2.1 h2.2.2.1.1 (by omega) (by omega)
    by_cases y2 : itg_ S.2.1.1 t (tnu_ B n S.1) = true
    · have y2b := y2
      unfold itg_ at y2b
      rw [if_pos y2b] at it
      obtain ⟨s, a1, a2, a3, a4, a5⟩ := pc_adv (γ := γ) h2 (by omega)
      refine ⟨i_ 1, s, fn_q (fun Q zQ => e_X6_readValue h.1 ?_), a2, yf_tr (yf_I (by decide)) a4, Or.inl ⟨rfl, (-1, tnu_ B n S.1), (S.1 + 1, S.2), by unfold rva_; rw [if_pos y1, if_pos y2], a3, ?_, ?_, Or.inr ⟨rfl, by show 0 ≤ tnu_ B n S.1; omega, by show tnu_ B n S.1 ≤ 1; omega⟩, fun j z1 z2 z3 => ?_⟩⟩
      · unfold p_X6_readValue_0
        exact ⟨_, σ, h.1, c_sign h.1 h.2.1, csg_21, fun _ => ⟨_, σ, h.1, nu, _, _, h2.1, it, fun z => absurd z (by decide), fun _ => ⟨s, a2, a1, zQ⟩⟩, fun z => absurd y1 z⟩
      · rw [a5, st_pI, if_neg (by omega)]
        exact h6
      · rw [a5]
        exact st_sI _ _ _ _
      · rw [a5, st_pI, if_neg (by omega)]
    · have y2b := y2
      unfold itg_ at y2b
      rw [if_neg y2b] at it
      obtain ⟨s, a1, a2, a3, -⟩ := c_fail (γ := γ) h2 4
      refine ⟨i_ 0, s, fn_q (fun Q zQ => e_X6_readValue h.1 ?_), a2, ?_⟩
      · unfold p_X6_readValue_0
        exact ⟨_, σ, h.1, c_sign h.1 h.2.1, csg_21, fun _ => ⟨_, σ, h.1, nu, _, _, h2.1, it, fun _ => ⟨_, s, a2, a1, Or.inl rfl, zQ⟩, fun z => absurd rfl z⟩, fun z => absurd y1 z⟩
      · unfold rva_
        rw [if_pos y1, if_neg y2]
        obtain ⟨b1, ⟨b2, -⟩ | ⟨-, e, b3, b4⟩⟩ := a3
        · exact absurd b2 (by decide)
        · exact ⟨yf_tr (yf_I (by decide)) b1, Or.inr ⟨rfl, e, by rw [← Sum.inr.inj b3], b4⟩⟩
  · obtain ⟨v, s3, e1, e2, e3, e4⟩ := c_isValue (γ := γ) h
    have ex : rva_ B n t S = match vl_ B n S with
        | .inl _ => .inl ((tnu_ B n S.1, -1), (S.1 + 1, S.2))
        | .inr e => .inr e := by
      unfold rva_
      rw [if_neg y1]
    rcases e3 with ⟨e3, ⟨rfl, S2, f1, f2⟩ | ⟨rfl, e, f1, f2, f3⟩⟩
    · obtain ⟨rfl, g1, g2⟩ := vl_inl f1
      rw [f1] at ex
      obtain ⟨nu, nu2, -⟩ := c_num4 (γ := γ) e2 f2.2.1 g1
      have h2 := pc_I f2 (j := 6) (by decide) (i_ (tnu_ B n S2.1))
      obtain ⟨s, a1, a2, a3, a4, a5⟩ := pc_adv (γ := γ) h2 (by omega)
      refine ⟨i_ 1, s, fn_q (fun Q zQ => e_X6_readValue h.1 ?_), a2, yf_tr (yf_tr e3 (yf_I (by decide))) a4, Or.inl ⟨rfl, (tnu_ B n S2.1, -1), (S2.1 + 1, S2.2), ex, a3, ?_, ?_, Or.inl ⟨nu2, g2, rfl⟩, fun j z1 z2 z3 => ?_⟩⟩
      · unfold p_X6_readValue_0
        exact ⟨_, σ, h.1, c_sign h.1 h.2.1, csg_21, fun z => absurd z y1, fun _ => ⟨_, s3, e2, e1, fun z => absurd z (by decide), fun _ => ⟨_, s3, e2, nu, s, a2, a1, zQ⟩⟩⟩
      · rw [a5]
        exact st_sI _ _ _ _
      · rw [a5, st_pI, if_neg (by omega), e4 7 (by decide)]
        exact h7
      · rw [a5, st_pI, if_neg (by omega), e4 j z3]
    · rw [f1] at ex
      refine ⟨i_ 0, s3, fn_q (fun Q zQ => e_X6_readValue h.1 ?_), e2, e3, Or.inr ⟨rfl, e, ex, f2, f3⟩⟩
      unfold p_X6_readValue_0
      exact ⟨_, σ, h.1, c_sign h.1 h.2.1, csg_21, fun z => absurd z y1, fun _ => ⟨_, s3, e2, e1, fun _ => zQ, fun z => absurd rfl z⟩⟩
end PB
