/-! the class's parser: conditions -/
section CC
variable {γ : ga_T} {B : Nat → Int} {n : Nat}
theorem c_addW {σ : st_T} (h : Wk_ σ) (u : Int32) : ∃ s, fw_ γ m_X7_addToCondition 0 [.ref 137, .int u] σ s ∧ Wd s ∧ Wk_ s ∧ yf_ σ s ∧ ∀ j, st_I s 142 j = st_I σ 142 j := by
  obtain ⟨h1, c, h2, h3⟩ := h
  by_cases y : c = 32
  · subst y
    refine ⟨σ, fw_q (fun Q zQ => e_X7_addToCondition (Or.inr rfl) h1 ?_), h1, ⟨h1, 32, h2, h3⟩, yf_rf, fun j => rfl⟩
    unfold p_X7_addToCondition_0
    rw [h3]
    exact ⟨fun _ => zQ, fun z => absurd (by decide) z⟩
  · have e4 : st_I (pt_I σ (137 + 4) c u) 137 7 = i_ (c : Int) := by
      rw [st_pI, if_neg (by omega)]
      exact h3
    refine ⟨pt_I (pt_I σ (137 + 4) c u) 137 7 (i_ ((c + 1 : Nat) : Int)), fw_q (fun Q zQ => e_X7_addToCondition (Or.inr rfl) h1 ?_), h1, ⟨h1, c + 1, by omega, st_sI _ _ _ _⟩, yf_tr (yf_I (by decide)) (yf_I (by decide)), fun j => by rw [st_pI, if_neg (by omega), st_pI, if_neg (by omega)]⟩
    unfold p_X7_addToCondition_0
    have ec : (i_ (c : Int)).toNatClampNeg = c := by rw [i_cl (by omega), Int.toNat_natCast]
    rw [h3, ec, e4]
    simp (disch := omega) only [i_lit, i_le, i_in_iff, i_add]
    exact ⟨fun z => by omega, fun _ => ⟨by omega, zQ⟩⟩
/-- reading a unit, a condition, at a depth -/
def UC_ (γ : ga_T) (B : Nat → Int) (n d D : Nat) : Prop := ∀ (S : qs_T) (s : st_T), Pc_ s B n S → S.2.1.2.2.length ≤ 2 * S.2.2 → ∃ v s2 r, fn_ γ m_X6_readUnit D [.ref 142, .int (i_ (d : Int))] s (.int v) s2 ∧ Wd s2 ∧ Rd_ B n 0 d S r ∧ Po_ s B n r v s2
def CC_ (γ : ga_T) (B : Nat → Int) (n d D : Nat) : Prop := ∀ (S : qs_T) (s : st_T), Pc_ s B n S → S.2.1.2.2.length ≤ 2 * S.2.2 → ∃ v s2 r, fn_ γ m_X6_readCondition D [.ref 142, .int (i_ (d : Int))] s (.int v) s2 ∧ Wd s2 ∧ Rd_ B n 1 d S r ∧ Po_ s B n r v s2
/-- what stands behind the units joined by and -/
def ET_ (γ : ga_T) (d D o : Nat) (s : st_T) (Q : rs_T → st_T → Prop) : Prop :=
  (i_ (o : Int) ≤ (0 : Int32) →
    ∃ (v5 : Int32) (s3 : st_T), Wd s3 ∧ fn_ γ m_X6_isPassed 2 [.ref 142, .ref 12] s (.int v5) s3 ∧
    vv_ γ m_X6_readCondition (D + 1) 4 [(0, .ref 142), (1, .int (i_ (d : Int))), (2, .int v5), (3, .int (i_ (o : Int) + 1))] [] s3 Q
  ) ∧ (¬ i_ (o : Int) ≤ (0 : Int32) →
    ∃ s6, Wd s6 ∧ fw_ γ m_X7_addToCondition 0 [.ref 137, .int (-3 : Int32)] s s6 ∧
    ∃ (v10 : Int32) (s8 : st_T), Wd s8 ∧ fn_ γ m_X6_isPassed 2 [.ref 142, .ref 12] s6 (.int v10) s8 ∧
    vv_ γ m_X6_readCondition (D + 1) 4 [(0, .ref 142), (1, .int (i_ (d : Int))), (2, .int v10), (3, .int (i_ (o : Int) + 1))] [] s8 Q
  )
theorem l_ands {d D o : Nat} (hD : 40 ≤ D) (hU : UC_ γ B n d D) {σ0 : st_T} {Q : rs_T → st_T → Prop} : ∀ (j a : Nat) (S : qs_T) (s s2 : st_T), j + a = 17 → 1 ≤ a → a ≤ S.2.2 → S.2.1.2.2.length + 1 ≤ 2 * S.2.2 → yf_ σ0 s → Pc_ s B n S → Wd s2 → yf_ s s2 → Pc_ s2 B n (if csg_ B n S.1 = 13 then (S.1 + 1, S.2) else S) →
    (∀ e s3, Rd_ B n 4 d S (.inr e) → Wd s3 → yf_ σ0 s3 → st_I s3 142 2 = i_ ((e : Nat) : Int) → Wk_ s3 → Q (.inl (some (.int (0 : Int32)))) s3) →
    (∀ S2 s3, Rd_ B n 4 d S (.inl S2) → yf_ σ0 s3 → Pc_ s3 B n S2 → ET_ γ d D o s3 Q) →
    vv_ γ m_X6_readCondition (D + 1) 17 [(0, .ref 142), (1, .int (i_ (d : Int))), (2, .int (i_ (if csg_ B n S.1 = 13 then 1 else 0))), (3, .int (i_ (o : Int))), (4, .int (i_ (a : Int)))] [] s2 Q := by
  intro j
  induction j with
  | zero =>
    intro a S s s2 ja a1 aS hl hf hP w2 hf2 hP2 hE hK
    have y := hP.2.2.2.2.2.1
    omega
  | succ j ih =>
    intro a S s s2 ja a1 aS hl hf hP w2 hf2 hP2 hE hK
    have y16 := hP.2.2.2.2.2.1
    refine g_X6_readCondition_17 hD w2 ?_
    unfold p_X6_readCondition_17
    refine ⟨fun z => ?_, fun _ => ?_⟩
    · simp (disch := omega) only [i_lit, i_lt] at z
      omega
    by_cases y : csg_ B n S.1 = 13
    · rw [if_pos y] at hP2 ⊢
      refine ⟨fun z => absurd z (by decide), fun _ => ?_⟩
      obtain ⟨v, s4, r, b1, b2, b3, b4, b5⟩ := hU (S.1 + 1, S.2) s2 hP2 (by show S.2.1.2.2.length ≤ 2 * S.2.2; omega)
      refine ⟨v, s4, b2, b1, ?_⟩
      have f4 := yf_tr (yf_tr hf hf2) b4
      rcases b5 with ⟨rfl, S2, rfl, c2⟩ | ⟨rfl, e, rfl, c2, c3⟩
      · refine ⟨fun z => absurd z (by decide), fun _ => ?_⟩
        obtain ⟨p1, p2, p3, p4, p5⟩ := Rd_post (by decide) b3
        rw [if_pos (by decide)] at p4 p5
        have p3 : S.2.2 ≤ 16 → S2.2.2 ≤ 16 := p3
        have p4 : S.2.2 + 1 ≤ S2.2.2 := p4
        have p5 : S2.2.1.2.2.length + 2 * S.2.2 + 1 ≤ S.2.1.2.2.length + 2 * S2.2.2 := p5
        have p16 := p3 y16
        refine ⟨fun z => ?_, fun _ => ?_⟩
        · simp (disch := omega) only [i_lit, i_le] at z
          omega
        obtain ⟨s5, i1, i2, i3, i4⟩ := c_addCond (γ := γ) (Or.inr rfl) b2 c2.2.2.1 (by omega) (-2)
        obtain ⟨j1, j2, -⟩ := pc_gq c2 (P := pac_ S2.2.1 (-2)) i2 i4 i3 c2.2.2.2.1
        obtain ⟨s6, k1, k2, k3, k4⟩ := c_isPassed (γ := γ) j1 (c := 13) (by decide)
        refine ⟨s5, i2, i1, _, s6, k2, k1, ?_⟩
        have z := ih (a + 1) (S2.1, pac_ S2.2.1 (-2), S2.2.2) s5 s6 (by omega) (by omega) (by show a + 1 ≤ S2.2.2; omega) (by
          show (S2.2.1.2.2 ++ [-2]).length + 1 ≤ 2 * S2.2.2
          rw [List.length_append, List.length_singleton]
          omega) (yf_tr f4 j2) j1 k2 k3 k4 (fun e s3 h1 => hE e s3 (Rd_4 y b3 h1)) (fun S3 s3 h1 => hK S3 s3 (Rd_4 y b3 h1))
        rw [show ((a + 1 : Nat) : Int) = (a : Int) + 1 by omega, ← i_add, ← i_lit 1] at z
        exact z
      · exact ⟨fun _ => hE e s4 (Rd_4e y b3) b2 f4 c2 c3, fun z => absurd rfl z⟩
    · rw [if_neg y] at hP2 ⊢
      exact ⟨fun _ => hK S s2 (Rd_40 y) (yf_tr hf hf2) hP2, fun z => absurd rfl z⟩
theorem l_ands0 {d D o : Nat} (hD : 40 ≤ D) (hU : UC_ γ B n d D) {σ0 : st_T} {Q : rs_T → st_T → Prop} (S : qs_T) (s : st_T) (hl : S.2.1.2.2.length ≤ 2 * S.2.2) (hf : yf_ σ0 s) (hP : Pc_ s B n S)
    (hE : ∀ e s3, Rd_ B n 2 d S (.inr e) → Wd s3 → yf_ σ0 s3 → st_I s3 142 2 = i_ ((e : Nat) : Int) → Wk_ s3 → Q (.inl (some (.int (0 : Int32)))) s3)
    (hK : ∀ S2 s3, Rd_ B n 2 d S (.inl S2) → yf_ σ0 s3 → Pc_ s3 B n S2 → ET_ γ d D o s3 Q) :
    vv_ γ m_X6_readCondition (D + 1) 17 [(0, .ref 142), (1, .int (i_ (d : Int))), (2, .int (i_ 1)), (3, .int (i_ (o : Int))), (4, .int (0 : Int32))] [] s Q := by
  have y16 := hP.2.2.2.2.2.1
  refine g_X6_readCondition_17 hD hP.1 ?_
  unfold p_X6_readCondition_17
  refine ⟨fun z => absurd z (by decide), fun _ => ⟨fun z => absurd z (by decide), fun _ => ?_⟩⟩
  obtain ⟨v, s4, r, b1, b2, b3, b4, b5⟩ := hU S s hP hl
  refine ⟨v, s4, b2, b1, ?_⟩
  have f4 := yf_tr hf b4
  rcases b5 with ⟨rfl, S2, rfl, c2⟩ | ⟨rfl, e, rfl, c2, c3⟩
  · refine ⟨fun z => absurd z (by decide), fun _ => ⟨fun _ => ?_, fun z => absurd (by decide) z⟩⟩
    obtain ⟨p1, p2, p3, p4, p5⟩ := Rd_post (by decide) b3
    rw [if_pos (by decide)] at p4 p5
    obtain ⟨s6, k1, k2, k3, k4⟩ := c_isPassed (γ := γ) c2 (c := 13) (by decide)
    exact ⟨_, s6, k2, k1, l_ands hD hU 16 1 S2 s4 s6 rfl (by decide) (by omega) (by omega) f4 c2 k2 k3 k4 (fun e s3 h1 => hE e s3 (Rd_2 b3 h1)) (fun S3 s3 h1 => hK S3 s3 (Rd_2 b3 h1))⟩
  · exact ⟨fun _ => hE e s4 (Rd_2e b3) b2 f4 c2 c3, fun z => absurd rfl z⟩
theorem l_ors {d D : Nat} (hD : 40 ≤ D) (hU : UC_ γ B n d D) {σ0 : st_T} {Q : rs_T → st_T → Prop} : ∀ (j o : Nat) (S : qs_T) (s s2 : st_T), j + o = 17 → 1 ≤ o → o ≤ S.2.2 → S.2.1.2.2.length + 1 ≤ 2 * S.2.2 → yf_ σ0 s → Pc_ s B n S → Wd s2 → yf_ s s2 → Pc_ s2 B n (if csg_ B n S.1 = 12 then (S.1 + 1, S.2) else S) →
    (∀ e s3, Rd_ B n 3 d S (.inr e) → Wd s3 → yf_ σ0 s3 → st_I s3 142 2 = i_ ((e : Nat) : Int) → Wk_ s3 → Q (.inl (some (.int (0 : Int32)))) s3) →
    (∀ S2 s3, Rd_ B n 3 d S (.inl S2) → yf_ σ0 s3 → Pc_ s3 B n S2 → Q (.inl (some (.int (1 : Int32)))) s3) →
    vv_ γ m_X6_readCondition (D + 1) 4 [(0, .ref 142), (1, .int (i_ (d : Int))), (2, .int (i_ (if csg_ B n S.1 = 12 then 1 else 0))), (3, .int (i_ (o : Int)))] [] s2 Q := by
  intro j
  induction j with
  | zero =>
    intro o S s s2 jo o1 oS hl hf hP w2 hf2 hP2 hE hK
    have y := hP.2.2.2.2.2.1
    omega
  | succ j ih =>
    intro o S s s2 jo o1 oS hl hf hP w2 hf2 hP2 hE hK
    have y16 := hP.2.2.2.2.2.1
    refine g_X6_readCondition_4 hD w2 ?_
    unfold p_X6_readCondition_4
    refine ⟨fun z => ?_, fun _ => ?_⟩
    · simp (disch := omega) only [i_lit, i_lt] at z
      omega
    by_cases y : csg_ B n S.1 = 12
    · rw [if_pos y] at hP2 ⊢
      refine ⟨fun z => absurd z (by decide), fun _ => ?_⟩
      refine l_ands0 hD hU (S.1 + 1, S.2) s2 (by show S.2.1.2.2.length ≤ 2 * S.2.2; omega) (yf_tr hf hf2) hP2 (fun e s3 h1 => hE e s3 (Rd_3e y h1)) (fun S2 s3 b3 f3 c2 => ?_)
      obtain ⟨p1, p2, p3, p4, p5⟩ := Rd_post (by decide) b3
      rw [if_pos (by decide)] at p4 p5
      have p3 : S.2.2 ≤ 16 → S2.2.2 ≤ 16 := p3
      have p4 : S.2.2 + 1 ≤ S2.2.2 := p4
      have p5 : S2.2.1.2.2.length + 2 * S.2.2 + 1 ≤ S.2.1.2.2.length + 2 * S2.2.2 := p5
      have p16 := p3 y16
      refine ⟨fun z => ?_, fun _ => ?_⟩
      · simp (disch := omega) only [i_lit, i_le] at z
        omega
      obtain ⟨s5, i1, i2, i3, i4⟩ := c_addCond (γ := γ) (Or.inr rfl) c2.1 c2.2.2.1 (by omega) (-3)
      obtain ⟨j1, j2, -⟩ := pc_gq c2 (P := pac_ S2.2.1 (-3)) i2 i4 i3 c2.2.2.2.1
      obtain ⟨s6, k1, k2, k3, k4⟩ := c_isPassed (γ := γ) j1 (c := 12) (by decide)
      refine ⟨s5, i2, i1, _, s6, k2, k1, ?_⟩
      have z := ih (o + 1) (S2.1, pac_ S2.2.1 (-3), S2.2.2) s5 s6 (by omega) (by omega) (by show o + 1 ≤ S2.2.2; omega) (by
        show (S2.2.1.2.2 ++ [-3]).length + 1 ≤ 2 * S2.2.2
        rw [List.length_append, List.length_singleton]
        omega) (yf_tr f3 j2) j1 k2 k3 k4 (fun e s3 h1 => hE e s3 (Rd_3 y b3 h1)) (fun S3 s3 h1 => hK S3 s3 (Rd_3 y b3 h1))
      rw [show ((o + 1 : Nat) : Int) = (o : Int) + 1 by omega, ← i_add, ← i_lit 1] at z
      exact z
    · rw [if_neg y] at hP2 ⊢
      exact ⟨fun _ => hK S s2 (Rd_30 y) (yf_tr hf hf2) hP2, fun z => absurd rfl z⟩
theorem c_cond {d D : Nat} (hD : 40 ≤ D) (hU : UC_ γ B n d D) : CC_ γ B n d (D + 1) := by
  intro S s hP hl
  have key : sp_ γ m_X6_readCondition (D + 1) [.ref 142, .int (i_ (d : Int))] s (fun rr s2 => ∃ v, rr = .inl (some v) ∧ ∃ b, v = .int b ∧ ∃ r, Wd s2 ∧ Rd_ B n 1 d S r ∧ Po_ s B n r b s2) := by
    refine e_X6_readCondition hD hP.1 ?_
    unfold p_X6_readCondition_0
    refine g_X6_readCondition_4 hD hP.1 ?_
    unfold p_X6_readCondition_4
    refine ⟨fun z => absurd z (by decide), fun _ => ⟨fun z => absurd z (by decide), fun _ => ?_⟩⟩
    refine l_ands0 (o := 0) hD hU S s hl yf_rf hP (fun e s3 h1 h2 h3 h4 h5 => ⟨_, rfl, _, rfl, _, h2, Rd_1e h1, h3, Or.inr ⟨rfl, e, rfl, h4, h5⟩⟩) (fun S2 s3 b3 f3 c2 => ?_)
    obtain ⟨p1, p2, p3, p4, p5⟩ := Rd_post (by decide) b3
    rw [if_pos (by decide)] at p4 p5
    refine ⟨fun _ => ?_, fun z => absurd (by decide) z⟩
    obtain ⟨s6, k1, k2, k3, k4⟩ := c_isPassed (γ := γ) c2 (c := 12) (by decide)
    refine ⟨_, s6, k2, k1, ?_⟩
    exact l_ors hD hU 16 1 S2 s3 s6 rfl (by decide) (by omega) (by omega) f3 c2 k2 k3 k4 (fun e s4 h1 h2 h3 h4 h5 => ⟨_, rfl, _, rfl, _, h2, Rd_1 b3 h1, h3, Or.inr ⟨rfl, e, rfl, h4, h5⟩⟩) (fun S3 s4 h1 h2 h3 => ⟨_, rfl, _, rfl, _, h3.1, Rd_1 b3 h1, h2, Or.inl ⟨rfl, S3, rfl, h3⟩⟩)
  obtain ⟨v, s2, y1, b, rfl, r, y2, y3, y4⟩ := fn_of key
  exact ⟨b, s2, r, y1, y2, y3, y4⟩
end CC
