/-! the class's parser: parse -/
section PZ
variable {γ : ga_T} {σ : st_T} {B : Nat → Int} {n : Nat}
theorem l_perr {σ0 s : st_T} {k : (qs_T ⊕ Nat) → Prop} {e : Nat} (h1 : Wd s) (h2 : yf_ σ0 s) (h3 : st_I s 142 2 = i_ ((e : Nat) : Int)) (h4 : k (.inr e)) (l3 : Int32) : vv_ γ m_X6_parse 61 64 [(0, .ref 142), (2, .int (i_ 0)), (3, .int l3)] [] s (QP_ σ0 B n k) := by
  have q := qp_err (B := B) (n := n) h1 h2 h3 h4
  refine g_X6_parse_64 h1 ?_
  unfold p_X6_parse_64
  exact ⟨fun _ => ⟨fun _ => ⟨fun _ => q, fun z => absurd rfl z⟩, fun z => absurd rfl z⟩, fun _ => ⟨fun _ => ⟨fun _ => ⟨fun _ => q, fun z => absurd rfl z⟩, fun z => absurd rfl z⟩, fun z => absurd rfl z⟩⟩
theorem l_thrs {σ0 : st_T} {k : (qs_T ⊕ Nat) → Prop} : ∀ (f : Nat) (S : qs_T) (s : st_T), f ≤ 5 → yf_ σ0 s → Pc_ s B n S → S.2.1.2.2.length ≤ 2 * S.2.2 →
    (∀ r, ((∃ e, thl_ B n f S = .inr e ∧ r = .inr e) ∨ ∃ S2, thl_ B n f S = .inl S2 ∧ ((csg_ B n S2.1 ≠ 11 ∧ PE_ B n S2 r) ∨ (csg_ B n S2.1 = 11 ∧ ((∃ e, Rd_ B n 1 0 (S2.1 + 1, S2.2) (.inr e) ∧ r = .inr e) ∨ ∃ S3, Rd_ B n 1 0 (S2.1 + 1, S2.2) (.inl S3) ∧ ((∃ e, xp_ B n 15 S3 = .inr e ∧ r = .inr e) ∨ ∃ S4, xp_ B n 15 S3 = .inl S4 ∧ PE_ B n S4 r))))) → k r) →
    vv_ γ m_X6_parse 61 64 [(0, .ref 142), (2, .int (i_ 1)), (3, .int (i_ ((5 - f : Nat) : Int)))] [] s (QP_ σ0 B n k) := by
  intro f
  induction f with
  | zero =>
    intro S s hf8 hf hP hl hk
    obtain ⟨v14, s12, a1, a2, a3, a4, a5⟩ := l_ptail (γ := γ) hP hf hl (fun r hr => hk r (Or.inr ⟨S, rfl, hr⟩))
    refine g_X6_parse_64 hP.1 ?_
    unfold p_X6_parse_64
    exact ⟨fun _ => ⟨fun z => absurd z (by decide), fun _ => ⟨v14, s12, a1, a2, a3, a4, fun z => ⟨fun z0 => absurd z0 (by decide), fun _ => a5 z⟩⟩⟩, fun z => absurd (by decide) z⟩
  | succ f ih =>
    intro S s hf8 hf hP hl hk
    refine g_X6_parse_64 hP.1 ?_
    unfold p_X6_parse_64
    have hlt : ¬ (4 : Int32) < i_ ((5 - (f + 1) : Nat) : Int) := by
      simp (disch := omega) only [i_lit, i_lt]
      omega
    refine ⟨fun z => absurd z hlt, fun _ => ⟨fun z => absurd z (by decide), fun _ => ⟨_, s, hP.1, c_sign hP.1 hP.2.1, csg_21, fun z => ?_, fun z => ⟨fun z0 => absurd z0 (by decide), fun _ => ?_⟩⟩⟩⟩
    · obtain ⟨v, s2, a1, a2, a3, a4⟩ := c_thread (γ := γ) hP z
      refine ⟨v, s2, a2, a1, ?_⟩
      rw [i_lit 1, i_add, show ((5 - (f + 1) : Nat) : Int) + OfNat.ofNat 1 = ((5 - f : Nat) : Int) by show ((5 - (f + 1) : Nat) : Int) + 1 = _; omega]
      have et : thl_ B n (f + 1) S = match thr_ B n S with
        | .inr e => .inr e
        | .inl S2 => thl_ B n f S2 := if_pos z
      rcases a4 with ⟨rfl, S2, b1, b2⟩ | ⟨rfl, e, b1, b2, b3⟩
      · rw [b1] at et
        have et : thl_ B n (f + 1) S = thl_ B n f S2 := et
        rw [et] at hk
        have c := thr_c b1
        exact ih S2 s2 (by omega) (yf_tr hf a3) b2 (by rw [c.1, c.2]; exact hl) hk
      · rw [b1] at et
        exact l_perr a2 (yf_tr hf a3) b2 (hk _ (Or.inl ⟨e, et, rfl⟩)) _
    · have et : thl_ B n (f + 1) S = .inl S := if_neg z
      obtain ⟨v14, s12, a1, a2, a3, a4, a5⟩ := l_ptail (γ := γ) hP hf hl (fun r hr => hk r (Or.inr ⟨S, et, hr⟩))
      exact ⟨v14, s12, a1, a2, a3, a4, fun z => ⟨fun z0 => absurd z0 (by decide), fun _ => a5 z⟩⟩
theorem l_decs {σ0 : st_T} {k : (qs_T ⊕ Nat) → Prop} : ∀ (f : Nat) (S : qs_T) (s : st_T), f ≤ 4 → yf_ σ0 s → Pc_ s B n S → S.2.1.2.2.length ≤ 2 * S.2.2 →
    (∀ r, ((∃ e, lcl_ B n f S = .inr e ∧ r = .inr e) ∨ ∃ S1, lcl_ B n f S = .inl S1 ∧ ((∃ e, thl_ B n 5 S1 = .inr e ∧ r = .inr e) ∨ ∃ S2, thl_ B n 5 S1 = .inl S2 ∧ ((csg_ B n S2.1 ≠ 11 ∧ PE_ B n S2 r) ∨ (csg_ B n S2.1 = 11 ∧ ((∃ e, Rd_ B n 1 0 (S2.1 + 1, S2.2) (.inr e) ∧ r = .inr e) ∨ ∃ S3, Rd_ B n 1 0 (S2.1 + 1, S2.2) (.inl S3) ∧ ((∃ e, xp_ B n 15 S3 = .inr e ∧ r = .inr e) ∨ ∃ S4, xp_ B n 15 S3 = .inl S4 ∧ PE_ B n S4 r)))))) → k r) →
    vv_ γ m_X6_parse 61 29 [(0, .ref 142), (2, .int (i_ 1)), (3, .int (i_ ((4 - f : Nat) : Int)))] [] s (QP_ σ0 B n k) := by
  intro f
  induction f with
  | zero =>
    intro S s hf8 hf hP hl hk
    refine g_X6_parse_29 hP.1 ?_
    unfold p_X6_parse_29
    exact ⟨fun _ => l_thrs 5 S s (Nat.le_refl _) hf hP hl (fun r hr => hk r (Or.inr ⟨S, rfl, hr⟩)), fun z => absurd (by decide) z⟩
  | succ f ih =>
    intro S s hf8 hf hP hl hk
    refine g_X6_parse_29 hP.1 ?_
    unfold p_X6_parse_29
    have hlt : ¬ (3 : Int32) < i_ ((4 - (f + 1) : Nat) : Int) := by
      simp (disch := omega) only [i_lit, i_lt]
      omega
    refine ⟨fun z => absurd z hlt, fun _ => ⟨fun z => absurd z (by decide), fun _ => ⟨_, s, hP.1, c_sign hP.1 hP.2.1, csg_21, fun z => ?_, fun z => ?_⟩⟩⟩
    · obtain ⟨v, s2, a1, a2, a3, a4⟩ := c_decl (γ := γ) hP z
      refine ⟨v, s2, a2, a1, ?_⟩
      rw [i_lit 1, i_add, show ((4 - (f + 1) : Nat) : Int) + OfNat.ofNat 1 = ((4 - f : Nat) : Int) by show ((4 - (f + 1) : Nat) : Int) + 1 = _; omega]
      have et : lcl_ B n (f + 1) S = match dec_ B n S with
        | .inr e => .inr e
        | .inl S2 => lcl_ B n f S2 := if_pos z
      rcases a4 with ⟨rfl, S2, b1, b2⟩ | ⟨rfl, e, b1, b2, b3⟩
      · rw [b1] at et
        have et : lcl_ B n (f + 1) S = lcl_ B n f S2 := et
        rw [et] at hk
        have c := dec_c b1
        exact ih S2 s2 (by omega) (yf_tr hf a3) b2 (by rw [c.1, c.2]; exact hl) hk
      · rw [b1] at et
        have q := fun l3 => l_perr (γ := γ) (B := B) (n := n) a2 (yf_tr hf a3) b2 (hk _ (Or.inl ⟨e, et, rfl⟩)) l3
        refine g_X6_parse_29 a2 ?_
        unfold p_X6_parse_29
        exact ⟨fun _ => q _, fun _ => ⟨fun _ => q _, fun z => absurd rfl z⟩⟩
    · have et : lcl_ B n (f + 1) S = .inl S := if_neg z
      exact l_thrs 5 S s (Nat.le_refl _) hf hP hl (fun r hr => hk r (Or.inr ⟨S, et, hr⟩))
/-- parse: what it answers, what it leaves -/
theorem c_parse (zw : Wd σ) (zX : Tx_ σ B n) : ∃ v s r, fn_ γ m_X6_parse 61 [.ref 142, .int (i_ (n : Int))] σ (.int v) s ∧ Wd s ∧ yf_ σ s ∧ PR_ B n r ∧ ((∃ S, r = .inl S ∧ v = i_ 0 ∧ Pc_ s B n S) ∨ ∃ e, r = .inr e ∧ v = i_ ((e : Nat) : Int)) := by
  obtain ⟨s0, e0⟩ : ∃ s0, s0 = pt_I (pt_I σ 142 2 (0 : Int32)) 142 3 (0 : Int32) := ⟨_, rfl⟩
  have w0 : Wd s0 := by rw [e0]; exact zw
  obtain ⟨a1, a2⟩ := c_pclear (γ := γ) (a := 137) (Or.inr rfl) w0
  obtain ⟨s1, e1⟩ : ∃ s1, s1 = pt_I (pt_I (pt_I (pt_I s0 137 4 (0 : Int32)) 137 5 (0 : Int32)) 137 6 (0 : Int32)) 137 7 (0 : Int32) := ⟨_, rfl⟩
  rw [← e1] at a1 a2
  have w1 : Wd s1 := by rw [e1]; exact w0
  have k1 : ∀ b, b ≠ 137 → eh_ s0 s1 b := fun b z => by
    rw [e1]
    exact eh_tr (eh_tr (eh_tr (eh_I z) (eh_I z)) (eh_I z)) (eh_I z)
  have k0 : ∀ b, b ≠ 142 → eh_ σ s0 b := fun b z => by
    rw [e0]
    exact eh_tr (eh_I z) (eh_I z)
  have n1 : st_n s1 = st_n σ ∧ st_c s1 = st_c σ ∧ st_u s1 = st_u σ := by
    rw [e1, e0]
    exact ⟨rfl, rfl, rfl⟩
  have x1 : Tx_ s1 B n := ⟨zX.1, fun i zi => by rw [(k1 129 (by decide)).1, (k0 129 (by decide)).1]; exact zX.2 i zi⟩
  obtain ⟨s3, b1, b2, b3, b4, b5, b6⟩ := c_split (γ := γ) w1 x1
  have y3 : yf_ σ s3 := ⟨fun b zb => eh_tr (k0 b (by omega)) (eh_tr (k1 b (by omega)) (b3.1 b (by omega))), by rw [b3.2.1, n1.1], by rw [b3.2.2.1, n1.2.1], by rw [b3.2.2.2, n1.2.2]⟩
  have f142 : ∀ j, st_I s3 142 j = st_I s0 142 j := fun j => by rw [(b3.1 142 (by omega)).1, (k1 142 (by decide)).1]
  have P3 : Pc_ s3 B n (0, P0_, 0) := ⟨b2, ⟨zX.1, b6, b4, b5, fun u zu => by omega⟩, pq_eh a2 (b3.1 _ (by omega)) (b3.1 _ (by omega)) (b3.1 _ (by omega)) (b3.1 _ (by omega)) (b3.1 _ (by omega)), fun l zl => absurd zl (Nat.not_lt_zero _), by rw [f142, e0]; exact st_sI _ _ _ _, Nat.zero_le _, by
    rw [f142, e0, st_pI, if_neg (by omega)]
    exact st_sI _ _ _ _⟩
  have key : sp_ γ m_X6_parse 61 [.ref 142, .int (i_ (n : Int))] σ (QP_ σ B n (PR_ B n)) := by
    refine e_X6_parse zw ?_
    unfold p_X6_parse_0
    rw [← e0]
    exact ⟨s1, w1, a1, s3, b2, b1, l_decs 4 (0, P0_, 0) s3 (Nat.le_refl _) y3 P3 (Nat.le_refl _) (fun r hr => hr)⟩
  obtain ⟨v, s, y1, r, y2, y4, y5, y6⟩ := fn_of key
  rcases y6 with ⟨S, rfl, rfl, z3⟩ | ⟨e, rfl, rfl⟩
  · exact ⟨_, s, _, y1, y4, y5, y2, Or.inl ⟨S, rfl, rfl, z3⟩⟩
  · exact ⟨_, s, _, y1, y4, y5, y2, Or.inr ⟨e, rfl, rfl⟩⟩
end PZ
