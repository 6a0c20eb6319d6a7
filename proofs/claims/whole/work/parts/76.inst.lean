/-! the class's parser: an instruction -/
section PI
variable {γ : ga_T} {σ σ1 : st_T} {B : Nat → Int} {n k : Nat}
def ins_ (B : Nat → Int) (n : Nat) (t : Nat) (kd : Int) (S : qs_T) : qs_T ⊕ Nat :=
  if full_ S.2.1.1 t kd = true then .inr (er_ B n S.1 5)
  else match (if kd = 1 ∨ kd = 2 then rtg_ B n t (S.1 + 1, S.2) else .inl (-1, (S.1 + 1, S.2)) : (Int × qs_T) ⊕ Nat) with
  | .inr e => .inr e
  | .inl (g, S2) => match (if kd = 3 then .inl (-1, S2) else rlo_ B n S2 : (Int × qs_T) ⊕ Nat) with
    | .inr e => .inr e
    | .inl (l, S3) => match (if kd = 0 ∨ kd = 2 then rva_ B n t S3 else .inl ((-1, -1), S3) : ((Int × Int) × qs_T) ⊕ Nat) with
      | .inr e => .inr e
      | .inl (x, S4) => match xp_ B n 15 S4 with
        | .inr e => .inr e
        | .inl S5 => .inl (S5.1, pai_ S5.2.1 kd l g x.1 x.2, S5.2.2)
/-- the end of an instruction -/
def PQ_ (σ : st_T) (B : Nat → Int) (n : Nat) (r : qs_T ⊕ Nat) : rs_T → st_T → Prop := fun rr s => ∃ v, rr = .inl (some v) ∧ ∃ b, v = .int b ∧ Wd s ∧ Po_ σ B n r b s
theorem l_itail {S4 : qs_T} {s : st_T} (h : Pc_ s B n S4) (hf : yf_ σ s) (hN : pN_ S4.2.1.1 < 10) {kd l g c x : Int} (k1 : 0 ≤ kd ∧ kd ≤ 3) (k2 : -1 ≤ l ∧ l ≤ 3) (k3 : -1 ≤ g ∧ g ≤ 3) (k4 : -1 ≤ c ∧ c ≤ 3) (k5 : -1 ≤ x ∧ x ≤ 3) (f4 : st_I s 142 4 = i_ l) (f5 : st_I s 142 5 = i_ g) (f6 : st_I s 142 6 = i_ c) (f7 : st_I s 142 7 = i_ x) {r : qs_T ⊕ Nat}
    (hr : r = match xp_ B n 15 S4 with | .inr e => .inr e | .inl S5 => .inl (S5.1, pai_ S5.2.1 kd l g c x, S5.2.2)) :
    ∃ (v : Int32) (s1 : st_T), Wd s1 ∧ fn_ γ m_X6_expect 2 [.ref 142, .ref 15] s (.int v) s1 ∧
      (v = (0 : Int32) → PQ_ σ B n r (.inl (some (.int (0 : Int32)))) s1) ∧ (¬ v = (0 : Int32) → ∃ s2, Wd s2 ∧ fw_ γ m_X7_addInstruction 1 [.ref 137, .int (i_ kd), .int (st_I s1 142 4), .int (st_I s1 142 5), .int (st_I s1 142 6), .int (st_I s1 142 7)] s1 s2 ∧ PQ_ σ B n r (.inl (some (.int (1 : Int32)))) s2) := by
  obtain ⟨v, s1, a1, a2, ⟨a3, a4⟩, a5⟩ := c_expect (γ := γ) h (c := 15) (by decide)
  refine ⟨v, s1, a2, a1, ?_⟩
  rcases a4 with ⟨rfl, S5, b1, b2⟩ | ⟨rfl, e, b1, b2, b3⟩
  · rw [b1] at hr
    have e5 : S5.2 = S4.2 := by
      unfold xp_ at b1
      split at b1
      · rw [← Sum.inl.inj b1]
      · cases b1
    refine ⟨fun z => absurd z (by decide), fun _ => ?_⟩
    obtain ⟨s2, c1, c2, c3, c4⟩ := c_addInstr (γ := γ) (k := kd) (l := l) (g := g) (c := c) (s := x) (Or.inr rfl) a2 b2.2.2.1 (by rw [e5]; exact hN) (by omega) k2 k3 k4 k5
    obtain ⟨d1, d2, -⟩ := pc_gq b2 (P := pai_ S5.2.1 kd l g c x) c2 c4 c3 b2.2.2.2.1
    rw [a5 4 (by decide), a5 5 (by decide), a5 6 (by decide), a5 7 (by decide), f4, f5, f6, f7]
    exact ⟨s2, c2, c1, _, rfl, _, rfl, c2, yf_tr (yf_tr hf a3) d2, Or.inl ⟨rfl, _, hr, d1⟩⟩
  · rw [b1] at hr
    exact ⟨fun _ => ⟨_, rfl, _, rfl, a2, yf_tr hf a3, Or.inr ⟨rfl, e, hr, b2, b3⟩⟩, fun z => absurd rfl z⟩
theorem rtg_S {t : Nat} {S S2 : qs_T} {g : Int} (h : rtg_ B n t S = .inl (g, S2)) : S2.2 = S.2 := by
  unfold rtg_ at h
  split at h
  · split at h
    · cases h
    · have y := Sum.inl.inj h
      rw [← (Prod.mk.inj y).2]
  · cases h
theorem rlo_S {S S2 : qs_T} {g : Int} (h : rlo_ B n S = .inl (g, S2)) : S2.2 = S.2 := by
  unfold rlo_ at h
  split at h
  · split at h
    · cases h
    · have y := Sum.inl.inj h
      rw [← (Prod.mk.inj y).2]
  · cases h
theorem rva_S {t : Nat} {S S2 : qs_T} {x : Int × Int} (h : rva_ B n t S = .inl (x, S2)) : S2.2 = S.2 := by
  unfold rva_ at h
  split at h
  · split at h
    · have y := Sum.inl.inj h
      rw [← (Prod.mk.inj y).2]
    · cases h
  · split at h
    · have y := Sum.inl.inj h
      rw [← (Prod.mk.inj y).2]
    · cases h
theorem full_N {p : pr_T} {t : Nat} {kd : Int} (h : ¬ full_ p t kd = true) : pN_ p < 10 := by
  unfold full_ at h
  rw [decide_eq_true_eq] at h
  omega
theorem c_instr {S : qs_T} (h : Pc_ σ B n S) {t : Nat} (ht : t < 4) {kd : Int} (hk : kd = kd_ (csg_ B n S.1)) (hk0 : kd ≠ -1) : ∃ v s, fn_ γ m_X6_readInstruction 4 [.ref 142, .int (i_ (t : Int)), .int (i_ kd)] σ (.int v) s ∧ Wd s ∧ Po_ σ B n (ins_ B n t kd S) v s := by
  have kr : (kd = 0 ∨ kd = 1 ∨ kd = 2 ∨ kd = 3) ∧ csg_ B n S.1 ≠ 0 := by
    rw [hk] at hk0 ⊢
    unfold kd_ at hk0 ⊢
    by_cases z1 : csg_ B n S.1 = 7
    · rw [if_pos z1]; omega
    · rw [if_neg z1] at hk0 ⊢
      by_cases z2 : csg_ B n S.1 = 8
      · rw [if_pos z2]; omega
      · rw [if_neg z2] at hk0 ⊢
        by_cases z3 : csg_ B n S.1 = 9
        · rw [if_pos z3]; omega
        · rw [if_neg z3] at hk0 ⊢
          by_cases z4 : csg_ B n S.1 = 10
          · rw [if_pos z4]; omega
          · rw [if_neg z4] at hk0
            exact absurd rfl hk0
  have b3 := h.2.2.1.1.1.2.2.1
  have fu := c_isFull (γ := γ) h ht (kd := kd) (by omega)
  suffices key : sp_ γ m_X6_readInstruction 4 [.ref 142, .int (i_ (t : Int)), .int (i_ kd)] σ (PQ_ σ B n (ins_ B n t kd S)) by
    obtain ⟨v, s, y1, b, rfl, y2, y3⟩ := fn_of key
    exact ⟨b, s, y1, y2, y3⟩
  refine e_X6_readInstruction h.1 ?_
  unfold p_X6_readInstruction_0
  by_cases yf : full_ S.2.1.1 t kd = true
  · rw [if_pos yf] at fu
    obtain ⟨s, a1, a2, a3, -⟩ := c_fail (γ := γ) h 5
    refine ⟨_, σ, h.1, fu, fun z => absurd z (by decide), fun _ => ⟨_, s, a2, a1, Or.inl rfl, _, rfl, _, rfl, a2, ?_⟩⟩
    unfold ins_
    rw [if_pos yf]
    exact a3
  · rw [if_neg yf] at fu
    have hN := full_N yf
    refine ⟨_, σ, h.1, fu, fun _ => ?_, fun z => absurd rfl z⟩
    obtain ⟨sa, esa⟩ : ∃ sa, sa = pt_I (pt_I (pt_I (pt_I σ 142 4 (-1)) 142 5 (-1)) 142 6 (-1)) 142 7 (-1) := ⟨_, rfl⟩
    have ha : Pc_ sa B n S := by
      rw [esa]
      exact pc_I (pc_I (pc_I (pc_I h (by decide) _) (by decide) _) (by decide) _) (by decide) _
    have ya : yf_ σ sa := by
      rw [esa]
      exact yf_tr (yf_tr (yf_tr (yf_I (by decide)) (yf_I (by decide))) (yf_I (by decide))) (yf_I (by decide))
    have a4 : st_I sa 142 4 = i_ (-1) ∧ st_I sa 142 5 = i_ (-1) ∧ st_I sa 142 6 = i_ (-1) ∧ st_I sa 142 7 = i_ (-1) := by
      rw [esa]
      refine ⟨?_, ?_, ?_, ?_⟩
      · rw [st_pI, if_neg (by omega), st_pI, if_neg (by omega), st_pI, if_neg (by omega), st_sI]; rfl
      · rw [st_pI, if_neg (by omega), st_pI, if_neg (by omega), st_sI]; rfl
      · rw [st_pI, if_neg (by omega), st_sI]; rfl
      · rw [st_sI]; rfl
    obtain ⟨s5, d1, d2, d3, d4, d5⟩ := pc_adv (γ := γ) ha kr.2
    have y5 := yf_tr ya d4
    have f4 : st_I s5 142 4 = i_ (-1) := by rw [d5]; exact a4.1
    have f5 : st_I s5 142 5 = i_ (-1) := by rw [d5]; exact a4.2.1
    have f6 : st_I s5 142 6 = i_ (-1) := by rw [d5]; exact a4.2.2.1
    have f7 : st_I s5 142 7 = i_ (-1) := by rw [d5]; exact a4.2.2.2
    refine ⟨s5, d2, by rw [esa] at d1; exact d1, ?_⟩
    rcases kr.1 with rfl | rfl | rfl | rfl
    · -- store
      have ex : ins_ B n t 0 S = match rlo_ B n (S.1 + 1, S.2) with
        | .inr e => .inr e
        | .inl (l, S3) => match rva_ B n t S3 with
          | .inr e => .inr e
          | .inl (x, S4) => match xp_ B n 15 S4 with
            | .inr e => .inr e
            | .inl S5 => .inl (S5.1, pai_ S5.2.1 0 l (-1) x.1 x.2, S5.2.2) := by
        unfold ins_
        rw [if_neg yf]
        rfl
      refine ⟨fun z => absurd z (by decide), fun _ => ⟨fun z => absurd z (by decide), fun _ => ⟨fun _ => ⟨fun z => absurd z (by decide), fun _ => ?_⟩, fun z => absurd rfl z⟩⟩⟩
      obtain ⟨v, s6, e1, e2, e3, e4⟩ := c_rlocation (γ := γ) d3
      refine ⟨v, s6, e2, e1, ?_⟩
      rcases e4 with ⟨rfl, l, S3, g1, g2, g3, g4, g5⟩ | ⟨rfl, e, g1, g2, g3⟩
      · rw [g1] at ex
        refine ⟨fun z => absurd z (by decide), fun _ => ?_⟩
        obtain ⟨v, s7, i1, i2, i3, i4⟩ := c_rvalue (γ := γ) g2 ht (by rw [g5 6 (by decide) (by decide)]; exact f6) (by rw [g5 7 (by decide) (by decide)]; exact f7)
        refine ⟨v, s7, i2, i1, ?_⟩
        rcases i4 with ⟨rfl, x, S4, j1, j2, j3, j4, j5, j6⟩ | ⟨rfl, e, j1, j2, j3⟩
        · have ex : ins_ B n t 0 S = match rva_ B n t S3 with
          | .inr e => .inr e
          | .inl (x, S4) => match xp_ B n 15 S4 with
            | .inr e => .inr e
            | .inl S5 => .inl (S5.1, pai_ S5.2.1 0 l (-1) x.1 x.2, S5.2.2) := ex
          rw [j1] at ex
          refine ⟨fun z => absurd z (by decide), fun _ => ?_⟩
          have g4 : 0 ≤ l ∧ l < pL_ S.2.1.1 := g4
          refine l_itail j2 (yf_tr (yf_tr y5 e3) i3) (by rw [rva_S j1, rlo_S g1]; exact hN) (by omega) (by omega) (g := -1) (by omega) (by omega) (by omega) (by rw [j6 4 (by decide) (by decide) (by decide)]; exact g3) (by rw [j6 5 (by decide) (by decide) (by decide), g5 5 (by decide) (by decide)]; exact f5) j3 j4 ex
        · have ex : ins_ B n t 0 S = match rva_ B n t S3 with
          | .inr e => .inr e
          | .inl (x, S4) => match xp_ B n 15 S4 with
            | .inr e => .inr e
            | .inl S5 => .inl (S5.1, pai_ S5.2.1 0 l (-1) x.1 x.2, S5.2.2) := ex
          rw [j1] at ex
          exact ⟨fun _ => ⟨_, rfl, _, rfl, i2, yf_tr (yf_tr y5 e3) i3, Or.inr ⟨rfl, e, ex, j2, j3⟩⟩, fun z => absurd rfl z⟩
      · rw [g1] at ex
        exact ⟨fun _ => ⟨_, rfl, _, rfl, e2, yf_tr y5 e3, Or.inr ⟨rfl, e, ex, g2, g3⟩⟩, fun z => absurd rfl z⟩
    · -- load
      have ex : ins_ B n t 1 S = match rtg_ B n t (S.1 + 1, S.2) with
        | .inr e => .inr e
        | .inl (g, S2) => match rlo_ B n S2 with
          | .inr e => .inr e
          | .inl (l, S4) => match xp_ B n 15 S4 with
            | .inr e => .inr e
            | .inl S5 => .inl (S5.1, pai_ S5.2.1 1 l g (-1) (-1), S5.2.2) := by
        unfold ins_
        rw [if_neg yf]
        rfl
      refine ⟨fun _ => ⟨fun z => absurd z (by decide), fun _ => ⟨fun z => absurd z (by decide), fun _ => ?_⟩⟩, fun z => absurd rfl z⟩
      obtain ⟨v, s6, e1, e2, e3, e4⟩ := c_target (γ := γ) d3 ht
      refine ⟨v, s6, e2, e1, ?_⟩
      rcases e4 with ⟨rfl, g, S3, g1, g2, g3, g4, g5⟩ | ⟨rfl, e, g1, g2, g3⟩
      · rw [g1] at ex
        have ex : ins_ B n t 1 S = match rlo_ B n S3 with
          | .inr e => .inr e
          | .inl (l, S4) => match xp_ B n 15 S4 with
            | .inr e => .inr e
            | .inl S5 => .inl (S5.1, pai_ S5.2.1 1 l g (-1) (-1), S5.2.2) := ex
        refine ⟨fun z => absurd z (by decide), fun _ => ⟨fun z => absurd z (by decide), fun _ => ?_⟩⟩
        obtain ⟨v, s7, i1, i2, i3, i4⟩ := c_rlocation (γ := γ) g2
        refine ⟨v, s7, i2, i1, ?_⟩
        rcases i4 with ⟨rfl, l, S4, j1, j2, j3, j4, j5⟩ | ⟨rfl, e, j1, j2, j3⟩
        · rw [j1] at ex
          have b3 := g2.2.2.1.1.1.2.2.1
          refine ⟨fun z => absurd z (by decide), fun _ => ?_⟩
          refine l_itail j2 (yf_tr (yf_tr y5 e3) i3) (by rw [rlo_S j1, rtg_S g1]; exact hN) (by omega) (by omega) (by omega) (c := -1) (x := -1) (by omega) (by omega) j3 (by rw [j5 5 (by decide) (by decide)]; exact g3) (by rw [j5 6 (by decide) (by decide), g5 6 (by decide) (by decide)]; exact f6) (by rw [j5 7 (by decide) (by decide), g5 7 (by decide) (by decide)]; exact f7) ex
        · rw [j1] at ex
          exact ⟨fun _ => ⟨_, rfl, _, rfl, i2, yf_tr (yf_tr y5 e3) i3, Or.inr ⟨rfl, e, ex, j2, j3⟩⟩, fun z => absurd rfl z⟩
      · rw [g1] at ex
        exact ⟨fun _ => ⟨_, rfl, _, rfl, e2, yf_tr y5 e3, Or.inr ⟨rfl, e, ex, g2, g3⟩⟩, fun z => absurd rfl z⟩
    · -- swap
      have ex : ins_ B n t 2 S = match rtg_ B n t (S.1 + 1, S.2) with
        | .inr e => .inr e
        | .inl (g, S2) => match rlo_ B n S2 with
          | .inr e => .inr e
          | .inl (l, S3) => match rva_ B n t S3 with
            | .inr e => .inr e
            | .inl (x, S4) => match xp_ B n 15 S4 with
              | .inr e => .inr e
              | .inl S5 => .inl (S5.1, pai_ S5.2.1 2 l g x.1 x.2, S5.2.2) := by
        unfold ins_
        rw [if_neg yf]
        rfl
      refine ⟨fun z => absurd z (by decide), fun _ => ⟨fun _ => ⟨fun z => absurd z (by decide), fun _ => ⟨fun _ => ?_, fun z => absurd rfl z⟩⟩, fun z => absurd rfl z⟩⟩
      obtain ⟨v, s6, e1, e2, e3, e4⟩ := c_target (γ := γ) d3 ht
      refine ⟨v, s6, e2, e1, ?_⟩
      rcases e4 with ⟨rfl, g, S3, g1, g2, g3, g4, g5⟩ | ⟨rfl, e, g1, g2, g3⟩
      · rw [g1] at ex
        have ex : ins_ B n t 2 S = match rlo_ B n S3 with
          | .inr e => .inr e
          | .inl (l, S3) => match rva_ B n t S3 with
            | .inr e => .inr e
            | .inl (x, S4) => match xp_ B n 15 S4 with
              | .inr e => .inr e
              | .inl S5 => .inl (S5.1, pai_ S5.2.1 2 l g x.1 x.2, S5.2.2) := ex
        refine ⟨fun z => absurd z (by decide), fun _ => ⟨fun z => absurd z (by decide), fun _ => ?_⟩⟩
        obtain ⟨v, s7, i1, i2, i3, i4⟩ := c_rlocation (γ := γ) g2
        refine ⟨v, s7, i2, i1, ?_⟩
        rcases i4 with ⟨rfl, l, S4, j1, j2, j3, j4, j5⟩ | ⟨rfl, e, j1, j2, j3⟩
        · rw [j1] at ex
          have ex : ins_ B n t 2 S = match rva_ B n t S4 with
            | .inr e => .inr e
            | .inl (x, S4) => match xp_ B n 15 S4 with
              | .inr e => .inr e
              | .inl S5 => .inl (S5.1, pai_ S5.2.1 2 l g x.1 x.2, S5.2.2) := ex
          have b3 := g2.2.2.1.1.1.2.2.1
          refine ⟨fun z => absurd z (by decide), fun _ => ?_⟩
          obtain ⟨v, s8, l1, l2, l3, l4⟩ := c_rvalue (γ := γ) j2 ht (by rw [j5 6 (by decide) (by decide), g5 6 (by decide) (by decide)]; exact f6) (by rw [j5 7 (by decide) (by decide), g5 7 (by decide) (by decide)]; exact f7)
          refine ⟨v, s8, l2, l1, ?_⟩
          rcases l4 with ⟨rfl, x, S6, m1, m2, m3, m4, m5, m6⟩ | ⟨rfl, e, m1, m2, m3⟩
          · rw [m1] at ex
            refine ⟨fun z => absurd z (by decide), fun _ => ?_⟩
            refine l_itail m2 (yf_tr (yf_tr (yf_tr y5 e3) i3) l3) (by rw [rva_S m1, rlo_S j1, rtg_S g1]; exact hN) (by omega) (by omega) (by omega) (by omega) (by omega) (by rw [m6 4 (by decide) (by decide) (by decide)]; exact j3) (by rw [m6 5 (by decide) (by decide) (by decide), j5 5 (by decide) (by decide)]; exact g3) m3 m4 ex
          · rw [m1] at ex
            exact ⟨fun _ => ⟨_, rfl, _, rfl, l2, yf_tr (yf_tr (yf_tr y5 e3) i3) l3, Or.inr ⟨rfl, e, ex, m2, m3⟩⟩, fun z => absurd rfl z⟩
        · rw [j1] at ex
          exact ⟨fun _ => ⟨_, rfl, _, rfl, i2, yf_tr (yf_tr y5 e3) i3, Or.inr ⟨rfl, e, ex, j2, j3⟩⟩, fun z => absurd rfl z⟩
      · rw [g1] at ex
        exact ⟨fun _ => ⟨_, rfl, _, rfl, e2, yf_tr y5 e3, Or.inr ⟨rfl, e, ex, g2, g3⟩⟩, fun z => absurd rfl z⟩
    · -- fence
      have ex : ins_ B n t 3 S = match xp_ B n 15 (S.1 + 1, S.2) with
        | .inr e => .inr e
        | .inl S5 => .inl (S5.1, pai_ S5.2.1 3 (-1) (-1) (-1) (-1), S5.2.2) := by
        unfold ins_
        rw [if_neg yf]
        rfl
      refine ⟨fun z => absurd z (by decide), fun _ => ⟨fun z => absurd z (by decide), fun _ => ⟨fun z => absurd z (by decide), fun _ => ⟨fun z => absurd z (by decide), fun _ => ⟨fun _ => ?_, fun z => absurd rfl z⟩⟩⟩⟩⟩
      exact l_itail d3 y5 hN (by omega) (by omega) (by omega) (by omega) (by omega) f4 f5 f6 f7 ex
end PI
