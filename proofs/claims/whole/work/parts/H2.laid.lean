/-! what is laid, and the program: the same steps (T7), where things lie -/
section LA
variable {p : pr_T} {G m i j n t : Nat} {z : Int} {W : Nat → Bool}
def Ln_ (p : pr_T) (G : Nat) (z : Int) (i : Nat) : Nat := (ly_ p G z i).length
def fl_n (p : pr_T) (G i : Nat) : Nat := (lyf_ p G i).length
def la_ (p : pr_T) (G : Nat) (z : Int) (i : Nat) : Nat := Ln_ p G z i + fl_n p G i
theorem gb_in (zP : Wp_ p) (hi : i ≤ pN_ p) (h : gb_ p i = true) : 0 < i ∧ i < pN_ p ∧ pC_ p i 1 ≠ 3 ∧ pC_ p (i - 1) 0 = pC_ p i 0 := by
  unfold gb_ at h
  obtain ⟨h1, h2, h3, h4⟩ := of_decide_eq_true h
  have e1 : pp_ p ((i : Int) - 1) 0 = pC_ p (i - 1) 0 := by
    rw [show (i : Int) - 1 = ((i - 1 : Nat) : Int) by omega]
    exact pp_in (k := 0) (by omega) (by decide)
  by_cases c : i < pN_ p
  · have e2 : pp_ p (i : Int) 0 = pC_ p i 0 := pp_in (k := 0) c (by decide)
    have e3 : pp_ p (i : Int) 1 = pC_ p i 1 := pp_in (k := 1) c (by decide)
    rw [e1, e2] at h2
    rw [e3] at h4
    exact ⟨h1, c, h4, h2⟩
  · exfalso
    have e2 : pp_ p (i : Int) 0 = -1 := by
      unfold pp_
      rw [if_neg (by omega)]
    rw [e1, e2] at h2
    have := (zP.2.1 (i - 1) (by omega)).1
    omega
theorem fl_n1 : fl_n p G i ≤ 1 := by
  have y := lyf_len (p := p) (G := G) i
  unfold fl_n
  split at y <;> omega
theorem fl_gb (h : fl_n p G i ≠ 0) : gb_ p i = true := by
  have y := lyf_len (p := p) (G := G) i
  unfold fl_n at h
  by_cases c : gb_ p i = true
  · exact c
  · rw [if_neg c] at y
    omega
theorem fl_e (h : fl_n p G i ≠ 0) : lyf_ p G i = [-1] := by
  unfold fl_n lyf_ at h
  unfold lyf_
  split
  · rfl
  · rename_i c
    rw [if_neg c] at h
    exact absurd rfl h
theorem Ln_s (p : pr_T) (G : Nat) (z : Int) (i : Nat) : Ln_ p G z (i + 1) = Ln_ p G z i + fl_n p G i + (if (i : Int) = z then 0 else 1) := by
  unfold Ln_
  rw [ly_s]
  unfold lyi_ fl_n
  split <;> rfl
theorem Ln_mono (h : i ≤ j) : Ln_ p G z i ≤ Ln_ p G z j := by
  have y := (ly_mono (p := p) (G := G) (z := z) i (j - i)).1
  rw [show i + (j - i) = j by omega] at y
  exact y
theorem la_s (hz : (i : Int) ≠ z) : Ln_ p G z (i + 1) = la_ p G z i + 1 := by
  rw [Ln_s, if_neg hz]
  rfl
theorem la_lt (hz : (i : Int) ≠ z) (h : i < j) : la_ p G z i < la_ p G z j := by
  have y := Ln_mono (p := p) (G := G) (z := z) (show i + 1 ≤ j from h)
  rw [la_s hz] at y
  unfold la_ at y ⊢
  omega
theorem la_inj (hz : (i : Int) ≠ z) (hz2 : (j : Int) ≠ z) (h : la_ p G z i = la_ p G z j) : i = j := by
  by_cases c : i < j
  · have := la_lt (p := p) (G := G) hz c
    omega
  · by_cases c2 : j < i
    · have := la_lt (p := p) (G := G) hz2 c2
      omega
    · omega
theorem ly_get (hi : i < pN_ p) (hz : (i : Int) ≠ z) : (ly_ p G z (pN_ p))[la_ p G z i]? = some (i : Int) := by
  obtain ⟨T, e⟩ := ly_pre (p := p) (G := G) (z := z) (i + 1) (pN_ p - (i + 1))
  rw [show i + 1 + (pN_ p - (i + 1)) = pN_ p by omega] at e
  have e2 : ly_ p G z (i + 1) = ly_ p G z i ++ lyf_ p G i ++ [(i : Int)] := by
    show ly_ p G z i ++ lyf_ p G i ++ lyi_ z i = _
    unfold lyi_
    rw [if_neg hz]
  have el : (ly_ p G z i ++ lyf_ p G i).length = la_ p G z i := by
    rw [List.length_append]
    rfl
  rw [e, e2, List.append_assoc, List.getElem?_append_right (by omega), el, Nat.sub_self]
  rfl
theorem ly_getf (hi : i < pN_ p) (h : fl_n p G i ≠ 0) : (ly_ p G z (pN_ p))[Ln_ p G z i]? = some (-1) := by
  obtain ⟨T, e⟩ := ly_pre (p := p) (G := G) (z := z) (i + 1) (pN_ p - (i + 1))
  rw [show i + 1 + (pN_ p - (i + 1)) = pN_ p by omega] at e
  have e2 : ly_ p G z (i + 1) = ly_ p G z i ++ ([-1] ++ lyi_ z i) := by
    show ly_ p G z i ++ lyf_ p G i ++ lyi_ z i = _
    rw [fl_e h, List.append_assoc]
  have el : (ly_ p G z i).length = Ln_ p G z i := rfl
  rw [e, e2, List.append_assoc, List.getElem?_append_right (by omega), el, Nat.sub_self]
  rfl
theorem ly_inv : ∀ (k n : Nat) (y : Int), (ly_ p G z k)[n]? = some y → y = -1 ∨ ∃ i, i < k ∧ (i : Int) ≠ z ∧ y = i ∧ n = la_ p G z i
  | 0, n, y, h => by cases h
  | k + 1, n, y, h => by
    have e2 : ly_ p G z (k + 1) = ly_ p G z k ++ (lyf_ p G k ++ lyi_ z k) := by
      show ly_ p G z k ++ lyf_ p G k ++ lyi_ z k = _
      rw [List.append_assoc]
    rw [e2] at h
    by_cases c : n < (ly_ p G z k).length
    · rw [List.getElem?_append_left c] at h
      rcases ly_inv k n y h with e | ⟨i, i1, i2, i3, i4⟩
      · exact Or.inl e
      · exact Or.inr ⟨i, by omega, i2, i3, i4⟩
    · rw [List.getElem?_append_right (by omega)] at h
      by_cases c2 : n - (ly_ p G z k).length < (lyf_ p G k).length
      · rw [List.getElem?_append_left c2] at h
        have hf : fl_n p G k ≠ 0 := by
          unfold fl_n
          omega
        rw [fl_e hf] at h
        have hm := List.mem_of_getElem? h
        exact Or.inl (List.mem_singleton.mp hm)
      · rw [List.getElem?_append_right (by omega)] at h
        unfold lyi_ at h
        by_cases c3 : (k : Int) = z
        · rw [if_pos c3] at h
          cases h
        · rw [if_neg c3] at h
          have hl := (List.getElem?_eq_some_iff.mp h).1
          rw [List.length_singleton] at hl
          have hm := List.mem_singleton.mp (List.mem_of_getElem? h)
          refine Or.inr ⟨k, by omega, c3, hm, ?_⟩
          unfold la_ Ln_ fl_n
          omega
/-- waiting stores, where they lie -/
def Wm_ (p : pr_T) (G : Nat) (z : Int) (W : Nat → Bool) (n : Nat) : Bool := match (ly_ p G z (pN_ p))[n]? with
  | some y => decide (y ≠ -1) && W y.toNat
  | none => false
theorem wm_at (hi : i < pN_ p) (hz : (i : Int) ≠ z) : Wm_ p G z W (la_ p G z i) = W i := by
  unfold Wm_
  rw [ly_get hi hz]
  dsimp only
  rw [decide_eq_true (by omega : (i : Int) ≠ -1), Bool.true_and, Int.toNat_natCast]
theorem wm_inv (h : Wm_ p G z W n = true) : ∃ i, i < pN_ p ∧ (i : Int) ≠ z ∧ n = la_ p G z i ∧ W i = true := by
  unfold Wm_ at h
  cases e : (ly_ p G z (pN_ p))[n]? with
  | none =>
    rw [e] at h
    cases h
  | some y =>
    rw [e] at h
    dsimp only at h
    rw [Bool.and_eq_true, decide_eq_true_eq] at h
    rcases ly_inv _ _ _ e with e2 | ⟨i, i1, i2, i3, i4⟩
    · exact absurd e2 h.1
    · refine ⟨i, i1, i2, i4, ?_⟩
      have := h.2
      rw [i3, Int.toNat_natCast] at this
      exact this
theorem wm_ub (hi : i < pN_ p) (hz : (i : Int) ≠ z) (b : Bool) : Wm_ p G z (ub_ W i b) = ub_ (Wm_ p G z W) (la_ p G z i) b := funext (fun n => by
  show _ = if n = la_ p G z i then b else Wm_ p G z W n
  by_cases c : n = la_ p G z i
  · rw [if_pos c, c, wm_at hi hz]
    exact if_pos rfl
  · rw [if_neg c]
    unfold Wm_
    cases e : (ly_ p G z (pN_ p))[n]? with
    | none => rfl
    | some y =>
      dsimp only
      rcases ly_inv _ _ _ e with e2 | ⟨j, i1, i2, i3, i4⟩
      · rw [e2]
        rfl
      · rw [i3, Int.toNat_natCast]
        have e5 : ub_ W i b j = W j := if_neg (fun y => c (by rw [i4, y]))
        rw [e5])
/-- segments -/
theorem seg_to (t : Nat) (hz : (i : Int) ≠ z) (h1 : gB0_ p t ≤ i) (h2 : i < gB0_ p (t + 1)) : Ln_ p G z (gB0_ p t) ≤ la_ p G z i ∧ la_ p G z i < Ln_ p G z (gB0_ p (t + 1)) := by
  have y1 := Ln_mono (p := p) (G := G) (z := z) h1
  have y2 := Ln_mono (p := p) (G := G) (z := z) (show i + 1 ≤ gB0_ p (t + 1) from h2)
  rw [la_s hz] at y2
  refine ⟨?_, y2⟩
  unfold la_
  omega
theorem seg_of (t : Nat) (hz : (i : Int) ≠ z) (h1 : Ln_ p G z (gB0_ p t) ≤ la_ p G z i) (h2 : la_ p G z i < Ln_ p G z (gB0_ p (t + 1))) : gB0_ p t ≤ i ∧ i < gB0_ p (t + 1) := by
  constructor
  · by_cases c : i < gB0_ p t
    · have y2 := Ln_mono (p := p) (G := G) (z := z) (show i + 1 ≤ gB0_ p t from c)
      rw [la_s hz] at y2
      omega
    · omega
  · by_cases c : gB0_ p (t + 1) ≤ i
    · have y1 := Ln_mono (p := p) (G := G) (z := z) c
      unfold la_ at h2
      omega
    · omega
/-- first and last places correspond -/
theorem cor1 {P P' : Nat → Bool} (h1 : ∀ i, i < pN_ p → (i : Int) ≠ z → P' (la_ p G z i) = P i) (h2 : ∀ n, P' n = true → ∃ i, i < pN_ p ∧ (i : Int) ≠ z ∧ n = la_ p G z i) (h3 : ∀ i, P i = true → i < pN_ p ∧ (i : Int) ≠ z) (hB : gB0_ p t ≤ gB0_ p (t + 1)) :
    f1_ P' (Ln_ p G z (gB0_ p (t + 1)) - Ln_ p G z (gB0_ p t)) (Ln_ p G z (gB0_ p t)) = (f1_ P (gB0_ p (t + 1) - gB0_ p t) (gB0_ p t)).map (la_ p G z) := by
  have hL := Ln_mono (p := p) (G := G) (z := z) hB
  cases e : f1_ P (gB0_ p (t + 1) - gB0_ p t) (gB0_ p t) with
  | none =>
    have e := (f1_none _ _ _).mp e
    refine (f1_none _ _ _).mpr (fun n n1 n2 => ?_)
    cases k : P' n with
    | false => rfl
    | true =>
      obtain ⟨i, i1, i2, i3⟩ := h2 n k
      subst i3
      obtain ⟨y1, y2⟩ := seg_of t i2 n1 (by omega)
      rw [h1 i i1 i2, e i y1 (by omega)] at k
      cases k
  | some i =>
    obtain ⟨e1, e2, e3, e4⟩ := (f1_some _ _ _).mp e
    obtain ⟨i1, i2⟩ := h3 i e3
    obtain ⟨y1, y2⟩ := seg_to (p := p) (G := G) (z := z) t i2 e1 (by omega)
    refine (f1_some _ _ _).mpr ⟨y1, by omega, by rw [h1 i i1 i2]; exact e3, fun n n1 n2 => ?_⟩
    cases k : P' n with
    | false => rfl
    | true =>
      obtain ⟨j, j1, j2, j3⟩ := h2 n k
      subst j3
      obtain ⟨x1, x2⟩ := seg_of t j2 n1 (by omega)
      have lt : j < i := by
        by_cases c : i ≤ j
        · by_cases c2 : i = j
          · subst c2
            omega
          · have := la_lt (p := p) (G := G) i2 (show i < j by omega)
            omega
        · omega
      rw [h1 j j1 j2, e4 j x1 lt] at k
      cases k
theorem cor2 {P P' : Nat → Bool} (h1 : ∀ i, i < pN_ p → (i : Int) ≠ z → P' (la_ p G z i) = P i) (h2 : ∀ n, P' n = true → ∃ i, i < pN_ p ∧ (i : Int) ≠ z ∧ n = la_ p G z i) (h3 : ∀ i, P i = true → i < pN_ p ∧ (i : Int) ≠ z) (hB : gB0_ p t ≤ gB0_ p (t + 1)) :
    f2_ P' (Ln_ p G z (gB0_ p (t + 1)) - Ln_ p G z (gB0_ p t)) (Ln_ p G z (gB0_ p t)) = (f2_ P (gB0_ p (t + 1) - gB0_ p t) (gB0_ p t)).map (la_ p G z) := by
  have hL := Ln_mono (p := p) (G := G) (z := z) hB
  cases e : f2_ P (gB0_ p (t + 1) - gB0_ p t) (gB0_ p t) with
  | none =>
    have e := (f2_none _ _ _).mp e
    refine (f2_none _ _ _).mpr (fun n n1 n2 => ?_)
    cases k : P' n with
    | false => rfl
    | true =>
      obtain ⟨i, i1, i2, i3⟩ := h2 n k
      subst i3
      obtain ⟨y1, y2⟩ := seg_of t i2 n1 (by omega)
      rw [h1 i i1 i2, e i y1 (by omega)] at k
      cases k
  | some i =>
    obtain ⟨e1, e2, e3, e4⟩ := (f2_some _ _ _).mp e
    obtain ⟨i1, i2⟩ := h3 i e3
    obtain ⟨y1, y2⟩ := seg_to (p := p) (G := G) (z := z) t i2 e1 (by omega)
    refine (f2_some _ _ _).mpr ⟨y1, by omega, by rw [h1 i i1 i2]; exact e3, fun n n1 n2 => ?_⟩
    cases k : P' n with
    | false => rfl
    | true =>
      obtain ⟨j, j1, j2, j3⟩ := h2 n k
      subst j3
      obtain ⟨x1, x2⟩ := seg_of (p := p) (G := G) (z := z) t j2 (by omega) (by omega)
      have lt : i < j := by
        by_cases c : j ≤ i
        · by_cases c2 : i = j
          · subst c2
            omega
          · have := la_lt (p := p) (G := G) j2 (show j < i by omega)
            omega
        · omega
      rw [h1 j j1 j2, e4 j lt (by omega)] at k
      cases k
end LA
