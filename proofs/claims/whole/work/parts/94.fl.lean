/-! the class looks for a location by its name -/
section FLo
variable {γ : ga_T} {σ σ1 : st_T} {A : ca_T} {R : rt_T} {P : pq_T}
/-- letters, at most eight, or none -/
def Na0_ (l : List Int) : Prop := l.length ≤ 8 ∧ ∀ c ∈ l, 97 ≤ c ∧ c ≤ 122
theorem ncd_0 {l : List Int} (h : Na0_ l) : ncd_ l = lN (n32_ l) ∧ n32_ l < 32 ^ 8 := by
  have y := n32_lt l 0 h.2
  have y2 : 32 ^ l.length ≤ 32 ^ 8 := Nat.pow_le_pow_right (by decide) h.1
  refine ⟨ncd_n l 0 h.2 (Nat.le_trans (by rw [Nat.zero_add, Nat.mul_one]; exact y2) (Nat.pow_le_pow_right (by decide) (by decide))), ?_⟩
  unfold n32_
  omega
theorem ncd_inj0 {l m : List Int} (h1 : Na0_ l) (h2 : Na0_ m) : (ncd_ l = ncd_ m) = (l = m) := by
  apply propext
  constructor
  · intro e
    obtain ⟨e1, b1⟩ := ncd_0 h1
    obtain ⟨e2, b2⟩ := ncd_0 h2
    rw [e1, e2, lN_inj (Nat.lt_trans b1 (by decide)) (Nat.lt_trans b2 (by decide))] at e
    exact n32_inj l.length l m rfl h1.2 h2.2 e
  · intro e
    rw [e]
theorem c_named0 {a : Nat} (zha : is_pg a) (zw : Wd σ) (zQ0 : Pq_ σ a P) (zN : Nv_ P) {l : List Int} (hl : Na0_ l) : fn_ γ m_X7_locationNamed 0 [.ref a, .long (ncd_ l)] σ (.int (i_ (lnm_ P l))) σ := by
  have b3 := zQ0.1.1.2.2.1
  have b4 := zQ0.1.2.2.2.1
  refine fn_q (fun Q zQ => e_X7_locationNamed zha zw ?_)
  unfold p_X7_locationNamed_0
  have key : ∀ k i : Nat, k + i = pL_ P.1 → lnm_ P l = pl_ (fun i => decide (P.2.1 i = l)) 0 k i → vv_ γ m_X7_locationNamed 0 2 [(0, .ref a), (1, .long (ncd_ l)), (3, .int (i_ (i : Int)))] [] σ Q := by
    intro k
    induction k with
    | zero =>
      intro i zi e
      have zi : i = pL_ P.1 := by omega
      subst zi
      rw [e] at zQ
      refine g_X7_locationNamed_2 zha zw ?_
      unfold p_X7_locationNamed_2
      rw [b4]
      exact ⟨fun _ => zQ, fun z => absurd (Int32.le_refl _) z⟩
    | succ k ih =>
      intro i zi e
      have e : lnm_ P l = if decide (P.2.1 i = l) = true then (if (0 : Int) = 0 then (i : Int) else pl_ (fun i => decide (P.2.1 i = l)) (0 - 1) k (i + 1)) else pl_ (fun i => decide (P.2.1 i = l)) 0 k (i + 1) := e
      have hn := zQ0.2.1 i (by omega)
      have hi := zN i (by omega)
      refine g_X7_locationNamed_2 zha zw ?_
      unfold p_X7_locationNamed_2
      rw [b4]
      simp (disch := omega) only [i_lit, i_le, i_in_iff, i_cl, Int.toNat_natCast, i_add]
      rw [hn, ncd_inj0 ⟨hi.1, hi.2.2⟩ hl]
      refine ⟨fun z => by omega, fun _ => ⟨fun z => by omega, fun _ => ⟨by omega, fun z => ?_, fun z => ?_⟩⟩⟩
      · rw [e, if_pos (decide_eq_true z), if_pos rfl] at zQ
        exact zQ
      · rw [if_neg (by rw [decide_eq_true_eq]; exact z)] at e
        exact ih (i + 1) (by omega) e
  exact key (pL_ P.1) 0 rfl rfl
/-- the first bytes of the text -/
def bs_ (B : Nat → Int) (n : Nat) : List Int := (List.range n).map B
theorem bs_s (B : Nat → Int) (n : Nat) : bs_ B (n + 1) = bs_ B n ++ [B n] := by
  unfold bs_
  rw [List.range_succ, List.map_append]
  rfl
theorem bs_len (B : Nat → Int) (n : Nat) : (bs_ B n).length = n := by
  unfold bs_
  rw [List.length_map, List.length_range]
theorem bs_mem {B : Nat → Int} {n : Nat} {c : Int} (h : c ∈ bs_ B n) : ∃ i, i < n ∧ c = B i := by
  unfold bs_ at h
  obtain ⟨i, z1, z2⟩ := List.mem_map.mp h
  exact ⟨i, List.mem_range.mp z1, z2.symm⟩
def fdl_ (A : ca_T) : Int := if an2_ A ≤ 8 ∧ (bs_ (aB_ A) (an2_ A)).all isl_ = true then lnm_ (aP_ A) (bs_ (aB_ A) (an2_ A)) else -1
theorem c_findLocation (h : J_ σ A R) : Ans_ γ m_X11_findLocation 1 [.ref 128] σ R (aB_ A, 0, A.2.2) (ri_ (fdl_ A)) := by
  have w := h.1.1
  have hl := h.1.2.2
  obtain ⟨j1, j2⟩ := j_len h (n := 0) (Nat.zero_le _)
  have t := h.1.2.1
  refine ⟨_, R, sq_ (fun Q zQ => e_X11_findLocation w ?_), j1, co_1 j2⟩
  have w1 := j1.1.1
  have P1 := j1.2.1
  have t2 : ∀ i, i < an2_ A → st_I (pt_I σ 128 1 (i_ ((0 : Nat) : Int))) 129 i = i_ (aB_ A i) := fun i zi => by
    rw [st_pI, if_neg (by omega)]
    exact (t.2 i zi).1
  have e0 : pt_I σ 128 1 (0 : Int32) = pt_I σ 128 1 (i_ ((0 : Nat) : Int)) := rfl
  unfold p_X11_findLocation_0
  rw [hl, e0]
  generalize pt_I σ 128 1 (i_ ((0 : Nat) : Int)) = s at zQ j1 w1 P1 t2 ⊢
  unfold fdl_ at zQ
  have t9 := t.1
  simp (disch := omega) only [i_lit, i_le, i_neg]
  refine ⟨fun z8 => ?_, fun z8 => ?_⟩
  · have key : ∀ k i : Nat, k + i = an2_ A → (∀ j, j < i → isl_ (aB_ A j) = true) → vv_ γ m_X11_findLocation 1 23 [(0, .ref 128), (1, .int (i_ (an2_ A : Int))), (2, .long (ncd_ (bs_ (aB_ A) i))), (4, .int (i_ (i : Int)))] [] s Q := by
      intro k
      induction k with
      | zero =>
        intro i zi hlet
        have zi : i = an2_ A := by omega
        subst zi
        have al : (bs_ (aB_ A) (an2_ A)).all isl_ = true := by
          rw [List.all_eq_true]
          intro c hc
          obtain ⟨j, z1, rfl⟩ := bs_mem hc
          exact hlet j z1
        have n0 : Na0_ (bs_ (aB_ A) (an2_ A)) := ⟨by rw [bs_len]; omega, fun c hc => by
          obtain ⟨j, z1, rfl⟩ := bs_mem hc
          have y := hlet j z1
          unfold isl_ at y
          exact of_decide_eq_true y⟩
        rw [if_pos ⟨by omega, al⟩] at zQ
        refine g_X11_findLocation_23 w1 ?_
        unfold p_X11_findLocation_23
        exact ⟨fun _ => ⟨_, s, w1, c_named0 (Or.inl rfl) w1 P1.1 P1.2.2.1 n0, zQ⟩, fun z => absurd (Int32.le_refl _) z⟩
      | succ k ih =>
        intro i zi hlet
        have b := (t.2 i (by omega)).2
        refine g_X11_findLocation_23 w1 ?_
        unfold p_X11_findLocation_23
        simp (disch := omega) only [i_lit, i_le, i_neg, i_in_iff, i_cl, Int.toNat_natCast]
        rw [t2 i (by omega)]
        refine ⟨fun z => by omega, fun _ => ⟨fun z => by omega, fun _ => ⟨by omega, _, s, w1, c_isLetter w1 b, ?_⟩⟩⟩
        by_cases u : isl_ (aB_ A i) = true
        · rw [if_pos u]
          refine ⟨fun z => absurd z (by decide), fun _ => ⟨by omega, _, s, w1, c_withLetter w1 _ _, ?_⟩⟩
          have ih1 := ih (i + 1) (by omega) (fun j z1 => by
            by_cases e : j = i
            · rw [e]; exact u
            · exact hlet j (by omega))
          have e2 : ncd_ (bs_ (aB_ A) (i + 1)) = wc_ (ncd_ (bs_ (aB_ A) i)) (i_ (aB_ A i)) := by
            unfold ncd_
            rw [bs_s, List.foldl_append]
            rfl
          rw [e2] at ih1
          rw [t2 i (by omega), i_add]
          exact ih1
        · rw [if_neg u]
          refine ⟨fun _ => ?_, fun z => absurd rfl z⟩
          rw [if_neg (fun z => by
            have y := List.all_eq_true.mp z.2 (aB_ A i) (by unfold bs_; exact List.mem_map.mpr ⟨i, List.mem_range.mpr (by omega), rfl⟩)
            exact u y)] at zQ
          exact zQ
    exact key (an2_ A) 0 (by omega) (fun j z => by omega)
  · rw [if_neg (fun z => by omega)] at zQ
    exact zQ
end FLo
