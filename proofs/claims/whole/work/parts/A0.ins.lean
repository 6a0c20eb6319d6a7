/-! instructions put in and taken out: programs stay well formed -/
section PI
variable {p : pr_T}
theorem ct_insG {f G : Nat → Bool} {b : Bool} {i0 : Nat} (g1 : ∀ i, i < i0 → G i = f i) (g2 : G i0 = b) (g3 : ∀ i, i0 < i → G i = f (i - 1)) : ∀ n, i0 ≤ n → ct_ G (n + 1) = ct_ f n + (if b = true then 1 else 0) := by
  have base : ∀ k, k ≤ i0 → ct_ G k = ct_ f k := fun k hk => ct_cg (fun j hj => g1 j (by omega))
  have at0 : ct_ G (i0 + 1) = ct_ f i0 + (if b = true then 1 else 0) := by
    rw [show ct_ G (i0 + 1) = ct_ G i0 + (if G i0 = true then 1 else 0) from rfl, base i0 (Nat.le_refl _), g2]
  intro n
  induction n with
  | zero =>
    intro h
    have h0 : i0 = 0 := by omega
    rw [h0] at at0
    exact at0
  | succ n ih =>
    intro h
    by_cases e : i0 = n + 1
    · rw [e] at at0
      exact at0
    · rw [show ct_ G (n + 1 + 1) = ct_ G (n + 1) + (if G (n + 1) = true then 1 else 0) from rfl, ih (by omega), g3 (n + 1) (by omega), Nat.add_sub_cancel, show ct_ f (n + 1) = ct_ f n + (if f n = true then 1 else 0) from rfl]
      omega
theorem ct_ins (f : Nat → Bool) (b : Bool) (i0 : Nat) : ∀ n, i0 ≤ n → ct_ (fun i => if i < i0 then f i else if i = i0 then b else f (i - 1)) (n + 1) = ct_ f n + (if b = true then 1 else 0) :=
  ct_insG (fun i h => if_pos h) (by
    show (if i0 < i0 then _ else if i0 = i0 then _ else _) = _
    rw [if_neg (by omega), if_pos rfl]) (fun i h => by
    show (if i < i0 then _ else if i = i0 then _ else _) = _
    rw [if_neg (by omega), if_neg (by omega)])
theorem pf_lt {i0 t i : Nat} (h : i < i0) (k : Nat) : pC_ (ppf_ p i0 t) i k = pC_ p i k := if_pos h
theorem pf_eq {i0 t : Nat} (k : Nat) : pC_ (ppf_ p i0 t) i0 k = rw6_ t 3 (-1) (-1) (-1) (-1) k := by
  show (if i0 < i0 then _ else if i0 = i0 then _ else _) = _
  rw [if_neg (by omega), if_pos rfl]
theorem pf_gt {i0 t i : Nat} (h : i0 < i) (k : Nat) : pC_ (ppf_ p i0 t) i k = pC_ p (i - 1) k := by
  show (if i < i0 then _ else if i = i0 then _ else _) = _
  rw [if_neg (by omega), if_neg (by omega)]
theorem pd_lt {i0 i : Nat} (h : i < i0) (k : Nat) : pC_ (ppd_ p i0) i k = pC_ p i k := if_pos h
theorem pd_ge {i0 i : Nat} (h : i0 ≤ i) (k : Nat) : pC_ (ppd_ p i0) i k = pC_ p (i + 1) k := if_neg (by omega)
/-- counting where a fence was put in -/
theorem ct_pf {i0 t : Nat} (hi : i0 ≤ pN_ p) (f : (Nat → Int) → Bool) : ct_ (fun i => f (pC_ (ppf_ p i0 t) i)) (pN_ p + 1) = ct_ (fun i => f (pC_ p i)) (pN_ p) + (if f (rw6_ t 3 (-1) (-1) (-1) (-1)) = true then 1 else 0) := by
  rw [← ct_ins (fun i => f (pC_ p i)) (f (rw6_ t 3 (-1) (-1) (-1) (-1))) i0 (pN_ p) hi]
  refine ct_cg (fun j _ => ?_)
  by_cases a : j < i0
  · rw [if_pos a, show pC_ (ppf_ p i0 t) j = pC_ p j from funext (fun k => pf_lt a k)]
  · rw [if_neg a]
    by_cases b : j = i0
    · rw [if_pos b, b, show pC_ (ppf_ p i0 t) i0 = rw6_ t 3 (-1) (-1) (-1) (-1) from funext (fun k => pf_eq k)]
    · rw [if_neg b, show pC_ (ppf_ p i0 t) j = pC_ p (j - 1) from funext (fun k => pf_gt (by omega) k)]
theorem ct_pd {i0 : Nat} (hi : i0 < pN_ p) (f : (Nat → Int) → Bool) : ct_ (fun i => f (pC_ p i)) (pN_ p) = ct_ (fun i => f (pC_ (ppd_ p i0) i)) (pN_ p - 1) + (if f (pC_ p i0) = true then 1 else 0) := by
  rw [← ct_ins (fun i => f (pC_ (ppd_ p i0) i)) (f (pC_ p i0)) i0 (pN_ p - 1) (by omega), show pN_ p - 1 + 1 = pN_ p by omega]
  refine ct_cg (fun j _ => ?_)
  by_cases a : j < i0
  · rw [if_pos a, show pC_ (ppd_ p i0) j = pC_ p j from funext (fun k => pd_lt a k)]
  · rw [if_neg a]
    by_cases b : j = i0
    · rw [if_pos b, b]
    · rw [if_neg b, show pC_ (ppd_ p i0) (j - 1) = pC_ p j from funext (fun k => by rw [pd_ge (by omega) k, show j - 1 + 1 = j by omega])]
theorem rw6_b (t : Nat) (ht : t < 4) (k : Nat) : -1 ≤ rw6_ t 3 (-1) (-1) (-1) (-1) k ∧ rw6_ t 3 (-1) (-1) (-1) (-1) k ≤ 3 := by
  unfold rw6_
  split
  · omega
  · split
    · omega
    · split
      · omega
      · split
        · omega
        · split
          · omega
          · split <;> omega
theorem wp_ins (zP : Wp_ p) {i0 t : Nat} (hi : i0 ≤ pN_ p) (hN : pN_ p < 10) (ht : t < pT_ p) (h1 : ∀ i, i < i0 → pC_ p i 0 ≤ t) (h2 : ∀ i, i0 ≤ i → i < pN_ p → (t : Int) ≤ pC_ p i 0) (h7 : ct_ (fun i => decide (pC_ p i 0 = t)) (pN_ p) < 7) : Wp_ (ppf_ p i0 t) := by
  obtain ⟨⟨b1, b2, b3, b4, b5⟩, w1, w2, w3, w4, w5, w6, w7⟩ := zP
  have eN : pN_ (ppf_ p i0 t) = pN_ p + 1 := rfl
  have eT : pT_ (ppf_ p i0 t) = pT_ p := rfl
  have eL : pL_ (ppf_ p i0 t) = pL_ p := rfl
  have cas : ∀ (i : Nat), i < pN_ p + 1 → (i = i0 ∧ ∀ k, pC_ (ppf_ p i0 t) i k = rw6_ t 3 (-1) (-1) (-1) (-1) k) ∨ (i ≠ i0 ∧ ∃ j, j < pN_ p ∧ ((i < i0 ∧ j = i) ∨ (i0 < i ∧ j = i - 1)) ∧ ∀ k, pC_ (ppf_ p i0 t) i k = pC_ p j k) := by
    intro i zi
    by_cases a : i < i0
    · exact Or.inr ⟨by omega, i, by omega, Or.inl ⟨a, rfl⟩, fun k => pf_lt a k⟩
    · by_cases b : i = i0
      · left
        refine ⟨b, fun k => ?_⟩
        rw [b]
        exact pf_eq k
      · exact Or.inr ⟨b, i - 1, by omega, Or.inr ⟨by omega, rfl⟩, fun k => pf_gt (by omega) k⟩
  have r0 : rw6_ t 3 (-1) (-1) (-1) (-1) 0 = t := rfl
  have r1 : rw6_ t 3 (-1) (-1) (-1) (-1) 1 = 3 := rfl
  have r2 : rw6_ t 3 (-1) (-1) (-1) (-1) 2 = -1 := rfl
  have r3 : rw6_ t 3 (-1) (-1) (-1) (-1) 3 = -1 := rfl
  have r4 : rw6_ t 3 (-1) (-1) (-1) (-1) 4 = -1 := rfl
  have r5 : rw6_ t 3 (-1) (-1) (-1) (-1) 5 = -1 := rfl
  refine ⟨⟨by omega, b2, b3, b4, fun i k => ?_⟩, fun i zi => ?_, fun i j zij zj => ?_, fun i j zi zj e0 e3 e1 => ?_, fun i zi e5 => ?_, fun u => ?_, fun u => ?_, ?_⟩
  · show -1 ≤ (if i < i0 then pC_ p i k else if i = i0 then rw6_ t 3 (-1) (-1) (-1) (-1) k else pC_ p (i - 1) k) ∧ (if i < i0 then pC_ p i k else if i = i0 then rw6_ t 3 (-1) (-1) (-1) (-1) k else pC_ p (i - 1) k) ≤ 3
    split
    · exact b5 _ _
    · split
      · exact rw6_b t (by omega) k
      · exact b5 _ _
  · rw [eT, eL]
    rcases cas i zi with ⟨a1, a2⟩ | ⟨a1, j, a2, a3, a4⟩
    · simp only [a2, r0, r1, r2, r3, r4, r5]
      refine ⟨by omega, by omega, by omega, fun _ => ⟨trivial, trivial, trivial, trivial⟩, fun z => absurd rfl z, fun z => by omega, fun z => by omega, fun z => by omega, fun z => by omega⟩
    · simp only [a4]
      exact w1 j a2
  · rw [eN] at zj
    rcases cas i (by omega) with ⟨a1, a2⟩ | ⟨a1, i', a2, a3, a4⟩
    · rcases cas j zj with ⟨c1, c2⟩ | ⟨c1, j', c2, c3, c4⟩
      · rw [a2, c2]; exact Int.le_refl _
      · rw [a2, c4, r0]
        exact h2 j' (by omega) c2
    · rcases cas j zj with ⟨c1, c2⟩ | ⟨c1, j', c2, c3, c4⟩
      · rw [a4, c2, r0]
        exact h1 i' (by omega)
      · rw [a4, c4]
        exact w2 i' j' (by omega) c2
  · rw [eN] at zi zj
    rcases cas i zi with ⟨a1, a2⟩ | ⟨a1, i', a2, a3, a4⟩
    · rw [a2] at e1
      exact absurd r3 e1
    · rcases cas j zj with ⟨c1, c2⟩ | ⟨c1, j', c2, c3, c4⟩
      · rw [e3, c2] at e1
        exact absurd r3 e1
      · rw [a4] at e1
        rw [a4, c4] at e0 e3
        have y := w3 i' j' a2 c2 e0 e3 e1
        omega
  · rw [eN] at zi
    rcases cas i zi with ⟨a1, a2⟩ | ⟨a1, i', a2, a3, a4⟩
    · rw [a2] at e5
      exact absurd r5 e5
    · rw [a4] at e5
      obtain ⟨j, y1, y2, y3⟩ := w4 i' a2 e5
      rw [a4, a4]
      by_cases c : j < i0
      · exact ⟨j, by omega, by rw [pf_lt c]; exact y2, by rw [pf_lt c]; exact y3⟩
      · exact ⟨j + 1, by omega, by rw [pf_gt (by omega), Nat.add_sub_cancel]; exact y2, by rw [pf_gt (by omega), Nat.add_sub_cancel]; exact y3⟩
  · have y := ct_pf (p := p) (t := t) hi (fun c => decide (c 0 = u))
    rw [eN]
    rw [y]
    have y2 := w5 u
    show ct_ (fun i => decide (pC_ p i 0 = u)) (pN_ p) + (if decide (rw6_ t 3 (-1) (-1) (-1) (-1) 0 = u) = true then 1 else 0) ≤ 7
    rw [r0]
    by_cases e : (t : Int) = u
    · rw [decide_eq_true e, if_pos rfl, ← e]
      omega
    · rw [decide_eq_false e, if_neg (by decide)]
      exact y2
  · have y := ct_pf (p := p) (t := t) hi (fun c => decide (c 0 = u ∧ c 1 ≠ 3))
    rw [eN, y]
    have y2 := w6 u
    show ct_ (fun i => decide (pC_ p i 0 = u ∧ pC_ p i 1 ≠ 3)) (pN_ p) + (if decide (rw6_ t 3 (-1) (-1) (-1) (-1) 0 = u ∧ rw6_ t 3 (-1) (-1) (-1) (-1) 1 ≠ 3) = true then 1 else 0) ≤ 4
    rw [r1, decide_eq_false (fun z => z.2 rfl), if_neg (by decide)]
    exact y2
  · have y := ct_pf (p := p) (t := t) hi (fun c => decide (c 1 ≠ 3))
    rw [eN, y]
    show ct_ (fun i => decide (pC_ p i 1 ≠ 3)) (pN_ p) + (if decide (rw6_ t 3 (-1) (-1) (-1) (-1) 1 ≠ 3) = true then 1 else 0) ≤ 8
    rw [r1, decide_eq_false (fun z => z rfl), if_neg (by decide)]
    exact w7
theorem wp_del (zP : Wp_ p) {i0 : Nat} (hi : i0 < pN_ p) (h3 : pC_ p i0 1 = 3) : Wp_ (ppd_ p i0) := by
  obtain ⟨⟨b1, b2, b3, b4, b5⟩, w1, w2, w3, w4, w5, w6, w7⟩ := zP
  have eN : pN_ (ppd_ p i0) = pN_ p - 1 := rfl
  have eT : pT_ (ppd_ p i0) = pT_ p := rfl
  have eL : pL_ (ppd_ p i0) = pL_ p := rfl
  have cas : ∀ (i : Nat), i < pN_ p - 1 → ∃ j, j < pN_ p ∧ ((i < i0 ∧ j = i) ∨ (i0 ≤ i ∧ j = i + 1)) ∧ ∀ k, pC_ (ppd_ p i0) i k = pC_ p j k := by
    intro i zi
    by_cases a : i < i0
    · exact ⟨i, by omega, Or.inl ⟨a, rfl⟩, fun k => pd_lt a k⟩
    · exact ⟨i + 1, by omega, Or.inr ⟨by omega, rfl⟩, fun k => pd_ge (by omega) k⟩
  have f0 := (w1 i0 hi).2.2.2.1 h3
  refine ⟨⟨by omega, b2, b3, b4, fun i k => ?_⟩, fun i zi => ?_, fun i j zij zj => ?_, fun i j zi zj e0 e3 e1 => ?_, fun i zi e5 => ?_, fun u => ?_, fun u => ?_, ?_⟩
  · show -1 ≤ (if i < i0 then pC_ p i k else pC_ p (i + 1) k) ∧ (if i < i0 then pC_ p i k else pC_ p (i + 1) k) ≤ 3
    split
    · exact b5 _ _
    · exact b5 _ _
  · rw [eT, eL]
    obtain ⟨j, a2, a3, a4⟩ := cas i zi
    simp only [a4]
    exact w1 j a2
  · rw [eN] at zj
    obtain ⟨i', a2, a3, a4⟩ := cas i (by omega)
    obtain ⟨j', c2, c3, c4⟩ := cas j zj
    rw [a4, c4]
    exact w2 i' j' (by omega) c2
  · rw [eN] at zi zj
    obtain ⟨i', a2, a3, a4⟩ := cas i zi
    obtain ⟨j', c2, c3, c4⟩ := cas j zj
    rw [a4] at e1
    rw [a4, c4] at e0 e3
    have y := w3 i' j' a2 c2 e0 e3 e1
    omega
  · rw [eN] at zi
    obtain ⟨i', a2, a3, a4⟩ := cas i zi
    rw [a4] at e5
    obtain ⟨j, y1, y2, y3⟩ := w4 i' a2 e5
    have b0 := (w1 i' a2).2.2.2.2.2.2.2
    have b5' := b5 i' 5
    have jn : j ≠ i0 := fun e => by
      rw [e, f0.2.1] at y3
      exact e5 y3.symm
    rw [a4, a4]
    by_cases c : j < i0
    · exact ⟨j, by omega, by rw [pd_lt c]; exact y2, by rw [pd_lt c]; exact y3⟩
    · exact ⟨j - 1, by omega, by rw [pd_ge (by omega), show j - 1 + 1 = j by omega]; exact y2, by rw [pd_ge (by omega), show j - 1 + 1 = j by omega]; exact y3⟩
  · have y := ct_pd hi (fun c => decide (c 0 = u))
    have y2 := w5 u
    rw [eN]
    exact Nat.le_trans (Nat.le_trans (Nat.le_add_right _ _) (Nat.le_of_eq y.symm)) y2
  · have y := ct_pd hi (fun c => decide (c 0 = u ∧ c 1 ≠ 3))
    have y2 := w6 u
    rw [eN]
    exact Nat.le_trans (Nat.le_trans (Nat.le_add_right _ _) (Nat.le_of_eq y.symm)) y2
  · have y := ct_pd hi (fun c => decide (c 1 ≠ 3))
    rw [eN]
    exact Nat.le_trans (Nat.le_trans (Nat.le_add_right _ _) (Nat.le_of_eq y.symm)) w7
/-- beyond the six properties nothing stands -/
def Cn_ (p : pr_T) : Prop := ∀ i k, 6 ≤ k → pC_ p i k = -1
theorem rw6_6 (t k0 l g c s : Int) {k : Nat} (h : 6 ≤ k) : rw6_ t k0 l g c s k = -1 := by
  unfold rw6_
  rw [if_neg (by omega), if_neg (by omega), if_neg (by omega), if_neg (by omega), if_neg (by omega), if_neg (by omega)]
theorem cn_ins (h : Cn_ p) (i0 t : Nat) : Cn_ (ppf_ p i0 t) := by
  intro i k hk
  show (if i < i0 then pC_ p i k else if i = i0 then rw6_ t 3 (-1) (-1) (-1) (-1) k else pC_ p (i - 1) k) = -1
  split
  · exact h _ _ hk
  · split
    · exact rw6_6 _ _ _ _ _ _ hk
    · exact h _ _ hk
theorem cn_del (h : Cn_ p) (i0 : Nat) : Cn_ (ppd_ p i0) := by
  intro i k hk
  show (if i < i0 then pC_ p i k else pC_ p (i + 1) k) = -1
  split
  · exact h _ _ hk
  · exact h _ _ hk
theorem pr_ext {p q : pr_T} (h1 : pN_ p = pN_ q) (h2 : pT_ p = pT_ q) (h3 : pL_ p = pL_ q) (h4 : pI_ p = pI_ q) (h5 : pC_ p = pC_ q) : p = q := by
  obtain ⟨a1, a2, a3, a4, a5⟩ := p
  obtain ⟨b1, b2, b3, b4, b5⟩ := q
  have h1 : a1 = b1 := h1
  have h2 : a2 = b2 := h2
  have h3 : a3 = b3 := h3
  have h4 : a4 = b4 := h4
  have h5 : a5 = b5 := h5
  rw [h1, h2, h3, h4, h5]
theorem pd_pf (i0 t : Nat) : ppd_ (ppf_ p i0 t) i0 = p := by
  refine pr_ext rfl rfl rfl rfl (funext (fun i => funext (fun k => ?_)))
  by_cases a : i < i0
  · rw [pd_lt a, pf_lt a]
  · rw [pd_ge (by omega), pf_gt (by omega), Nat.add_sub_cancel]
theorem pf_pd (hP : Wp_ p) (hC : Cn_ p) {i0 t : Nat} (hi : i0 < pN_ p) (h0 : pC_ p i0 0 = t) (h3 : pC_ p i0 1 = 3) : ppf_ (ppd_ p i0) i0 t = p := by
  have f0 := (hP.2.1 i0 hi).2.2.2.1 h3
  refine pr_ext (show pN_ p - 1 + 1 = pN_ p by omega) rfl rfl rfl (funext (fun i => funext (fun k => ?_)))
  by_cases a : i < i0
  · rw [pf_lt a, pd_lt a]
  · by_cases b : i = i0
    · subst b
      rw [pf_eq]
      by_cases k6 : 6 ≤ k
      · rw [rw6_6 _ _ _ _ _ _ k6, hC _ _ k6]
      · have ek : k = 0 ∨ k = 1 ∨ k = 2 ∨ k = 3 ∨ k = 4 ∨ k = 5 := by omega
        rcases ek with rfl | rfl | rfl | rfl | rfl | rfl
        · exact h0.symm
        · exact h3.symm
        · exact f0.1.symm
        · exact f0.2.1.symm
        · exact f0.2.2.1.symm
        · exact f0.2.2.2.symm
    · rw [pf_gt (by omega), pd_ge (by omega), show i - 1 + 1 = i by omega]
/-- a change undone; changes that can be undone, the latest first -/
def cu_ (p : pr_T) (c : Nat) : pr_T := if c / 4 % 2 = 1 then ppd_ p (c / 8) else ppf_ p (c / 8) (c % 4)
def Hr_ : pr_T → List Nat → Prop
  | _, [] => True
  | p, c :: r => (c / 4 % 2 = 1 → c / 8 < pN_ p) ∧ (c / 4 % 2 ≠ 1 → c / 8 ≤ pN_ p ∧ pN_ p < 10) ∧ Wp_ (cu_ p c) ∧ Hr_ (cu_ p c) r
def Hv_ (p : pr_T) (C : List Nat) : Prop := Hr_ p C.reverse
theorem hr_pre : ∀ (r s : List Nat) (p : pr_T), Hr_ p (r ++ s) → Hr_ p r
  | [], _, _, _ => True.intro
  | _ :: r, s, _, h => ⟨h.1, h.2.1, h.2.2.1, hr_pre r s _ h.2.2.2⟩
theorem hv_add {c : Nat} {C : List Nat} {q : pr_T} (h1 : c / 4 % 2 = 1 → c / 8 < pN_ q) (h2 : c / 4 % 2 ≠ 1 → c / 8 ≤ pN_ q ∧ pN_ q < 10) (h3 : cu_ q c = p) (hP : Wp_ p) (h : Hv_ p C) : Hv_ q (cad_ C c) := by
  unfold Hv_ cad_
  rw [List.reverse_append]
  refine ⟨h1, h2, by rw [h3]; exact hP, ?_⟩
  show Hr_ (cu_ q c) (if C.length = 8 then C.drop 1 else C).reverse
  rw [h3]
  split
  · cases C with
    | nil => exact True.intro
    | cons a C =>
      unfold Hv_ at h
      rw [List.reverse_cons] at h
      exact hr_pre _ _ _ h
  · exact h
theorem hv_take {c : Nat} {C : List Nat} (h : Hv_ p (C ++ [c])) : (c / 4 % 2 = 1 → c / 8 < pN_ p) ∧ (c / 4 % 2 ≠ 1 → c / 8 ≤ pN_ p ∧ pN_ p < 10) ∧ Wp_ (cu_ p c) ∧ Hv_ (cu_ p c) C := by
  unfold Hv_ at h
  rw [List.reverse_append] at h
  exact h
theorem cn_cu (h : Cn_ p) (c : Nat) : Cn_ (cu_ p c) := by
  unfold cu_
  split
  · exact cn_del h _
  · exact cn_ins h _ _
theorem cu_TL (c : Nat) : pT_ (cu_ p c) = pT_ p ∧ pL_ (cu_ p c) = pL_ p := by
  unfold cu_
  split
  · exact ⟨rfl, rfl⟩
  · exact ⟨rfl, rfl⟩
theorem pg_of {P : pq_T} {q : pr_T} (h : Pg_ P) (hq : Wp_ q) (e1 : pT_ q = pT_ P.1) (e2 : pL_ q = pL_ P.1) : Pg_ (q, P.2) := by
  refine ⟨hq, fun l hl => h.2.1 l (by rw [← e2]; exact hl), ?_⟩
  obtain ⟨e, h1, h2⟩ := h.2.2
  refine ⟨e, h1, ?_⟩
  show ug_ (cb_ q) P.2.2 0 e
  have eb : cb_ q = cb_ P.1 := by unfold cb_; rw [e1, e2]
  rw [eb]
  exact h2
end PI
