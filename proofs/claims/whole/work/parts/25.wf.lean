/-! well-formed programs, and the machine of the class's instructions -/
def Wp_ (p : pr_T) : Prop := Bp_ p ∧
  (∀ i, i < pN_ p → 0 ≤ pC_ p i 0 ∧ pC_ p i 0 < pT_ p ∧ 0 ≤ pC_ p i 1 ∧
    (pC_ p i 1 = 3 → pC_ p i 2 = -1 ∧ pC_ p i 3 = -1 ∧ pC_ p i 4 = -1 ∧ pC_ p i 5 = -1) ∧
    (pC_ p i 1 ≠ 3 → 0 ≤ pC_ p i 2 ∧ pC_ p i 2 < pL_ p) ∧
    ((pC_ p i 1 = 1 ∨ pC_ p i 1 = 2) → 0 ≤ pC_ p i 3 ∧ pC_ p i 3 ≤ 1) ∧
    (pC_ p i 1 = 0 → pC_ p i 3 = -1) ∧
    (pC_ p i 1 = 1 → pC_ p i 4 = -1 ∧ pC_ p i 5 = -1) ∧
    ((pC_ p i 1 = 0 ∨ pC_ p i 1 = 2) → (0 ≤ pC_ p i 4 ∧ pC_ p i 5 = -1) ∨ (pC_ p i 4 = -1 ∧ 0 ≤ pC_ p i 5 ∧ pC_ p i 5 ≤ 1))) ∧
  (∀ i j, i ≤ j → j < pN_ p → pC_ p i 0 ≤ pC_ p j 0) ∧
  (∀ i j, i < pN_ p → j < pN_ p → pC_ p i 0 = pC_ p j 0 → pC_ p i 3 = pC_ p j 3 → pC_ p i 3 ≠ -1 → i = j) ∧
  (∀ i, i < pN_ p → pC_ p i 5 ≠ -1 → ∃ j, j < i ∧ pC_ p j 0 = pC_ p i 0 ∧ pC_ p j 3 = pC_ p i 5) ∧
  (∀ t : Int, ct_ (fun i => decide (pC_ p i 0 = t)) (pN_ p) ≤ 7) ∧ (∀ t : Int, ct_ (fun i => decide (pC_ p i 0 = t ∧ pC_ p i 1 ≠ 3)) (pN_ p) ≤ 4) ∧
  ct_ (fun i => decide (pC_ p i 1 ≠ 3)) (pN_ p) ≤ 8
theorem ct_mono {f : Nat → Bool} : ∀ {n : Nat}, (∀ i j, i ≤ j → j < n → f j = true → f i = true) → ∀ i, i < n → (f i = true ↔ i < ct_ f n)
  | 0, _, i, zi => absurd zi (Nat.not_lt_zero i)
  | n + 1, z, i, zi => by
    have ih := ct_mono (f := f) (n := n) (fun a b q1 q2 q3 => z a b q1 (Nat.lt_succ_of_lt q2) q3)
    have l1 := ct_le f n
    rw [ct_]
    by_cases y : f n = true
    · rw [if_pos y]
      have e : ct_ f n = n := by
        by_cases y2 : n = 0
        · subst y2; rfl
        · have y3 := (ih (n - 1) (by omega)).mp (z (n - 1) n (by omega) (by omega) y)
          omega
      rw [e]
      exact ⟨fun _ => zi, fun _ => z i n (by omega) (by omega) y⟩
    · rw [if_neg y, Nat.add_zero]
      by_cases y2 : i = n
      · subst y2
        exact ⟨fun q => absurd q y, fun q => by omega⟩
      · exact ih i (by omega)
theorem ct_split (f g : Nat → Bool) : ∀ n, ct_ (fun i => f i && g i) n + ct_ (fun i => f i && !g i) n = ct_ f n
  | 0 => rfl
  | n + 1 => by
    have ih := ct_split f g n
    simp only [ct_]
    by_cases y1 : f n = true <;> by_cases y2 : g n = true <;> simp [y1, y2] <;> omega
/-- the class's machine -/
def gB0_ (p : pr_T) (t : Nat) : Nat := ct_ (fun i => decide (pC_ p i 0 < t)) (pN_ p)
def gcl_ (p : pr_T) (m : Nat) (F : Nat → Bool) : gm_T := (pC_ p, gB0_ p, F, m)
section WF
variable {p : pr_T} {m : Nat} {F : Nat → Bool}
theorem gB_lt (z : Wp_ p) {i t : Nat} (zi : i < pN_ p) : i < gB0_ p t ↔ pC_ p i 0 < t := by
  have q := ct_mono (f := fun i => decide (pC_ p i 0 < t)) (n := pN_ p) (fun a b q1 q2 q3 => by
    have y := z.2.2.1 a b q1 q2
    simp only [decide_eq_true_eq] at q3 ⊢
    omega) i zi
  rw [decide_eq_true_eq] at q
  exact q.symm
theorem gB_le (t : Nat) : gB0_ p t ≤ pN_ p := ct_le _ _
theorem gB_0 (z : Wp_ p) : gB0_ p 0 = 0 := by
  by_cases y : gB0_ p 0 = 0
  · exact y
  · have y2 := gB_le (p := p) 0
    have y3 := (gB_lt z (i := 0) (t := 0) (by omega)).mp (by omega)
    have y4 := (z.2.1 0 (by omega)).1
    omega
theorem gB_T (z : Wp_ p) {t : Nat} (zt : pT_ p ≤ t) : gB0_ p t = pN_ p := by
  have y2 := gB_le (p := p) t
  by_cases y : gB0_ p t = pN_ p
  · exact y
  · have y3 : ¬ gB0_ p t < gB0_ p t := Nat.lt_irrefl _
    rw [gB_lt z (i := gB0_ p t) (by omega)] at y3
    have y4 := (z.2.1 (gB0_ p t) (by omega)).2.1
    omega
theorem gB_mono (z : Wp_ p) {t u : Nat} (q : t ≤ u) : gB0_ p t ≤ gB0_ p u := by
  have y1 := gB_le (p := p) t
  have y2 := gB_le (p := p) u
  by_cases y : gB0_ p t ≤ gB0_ p u
  · exact y
  · have y3 := (gB_lt z (i := gB0_ p u) (t := t) (by omega)).mp (by omega)
    have y4 : ¬ gB0_ p u < gB0_ p u := Nat.lt_irrefl _
    rw [gB_lt z (i := gB0_ p u) (by omega)] at y4
    omega
theorem gB_th (z : Wp_ p) {i t : Nat} (zi : i < pN_ p) : pC_ p i 0 = t ↔ (gB0_ p t ≤ i ∧ i < gB0_ p (t + 1)) := by
  have q1 := gB_lt z (t := t) zi
  have q2 := gB_lt z (t := t + 1) zi
  have q3 := (z.2.1 i zi).1
  constructor
  · intro e
    refine ⟨?_, q2.mpr (by omega)⟩
    by_cases y : gB0_ p t ≤ i
    · exact y
    · have := q1.mp (by omega); omega
  · rintro ⟨e1, e2⟩
    have y1 := q2.mp e2
    have y2 : ¬ pC_ p i 0 < t := fun y => by
      have := q1.mpr y
      omega
    omega
theorem gl_ct (z : Wp_ p) (t : Nat) : gl_ (gcl_ p m F) t = ct_ (fun i => decide (pC_ p i 0 = t)) (pN_ p) := by
  show gB0_ p (t + 1) - gB0_ p t = _
  unfold gB0_
  have q := ct_split (fun i => decide (pC_ p i 0 < ((t + 1 : Nat) : Int))) (fun i => decide (pC_ p i 0 < t)) (pN_ p)
  have e1 : ct_ (fun i => decide (pC_ p i 0 < ((t + 1 : Nat) : Int)) && decide (pC_ p i 0 < t)) (pN_ p) = ct_ (fun i => decide (pC_ p i 0 < t)) (pN_ p) := ct_cg (fun j _ => by
    by_cases y : pC_ p j 0 < t
    · simp [y]; omega
    · simp [y])
  have e2 : ct_ (fun i => decide (pC_ p i 0 < ((t + 1 : Nat) : Int)) && !decide (pC_ p i 0 < t)) (pN_ p) = ct_ (fun i => decide (pC_ p i 0 = t)) (pN_ p) := ct_cg (fun j _ => by
    by_cases y : pC_ p j 0 = t
    · simp [y]; omega
    · simp [y]; omega)
  rw [e1, e2] at q
  omega
theorem gl_7 (z : Wp_ p) (t : Nat) : gl_ (gcl_ p m F) t ≤ 7 := by
  rw [gl_ct z]
  exact z.2.2.2.2.2.1 t
theorem gl_T (z : Wp_ p) {t : Nat} (zt : pT_ p ≤ t) : gl_ (gcl_ p m F) t = 0 := by
  show gB0_ p (t + 1) - gB0_ p t = 0
  rw [gB_T z zt, gB_T z (by omega : pT_ p ≤ t + 1)]
  omega
/-- what is true of a state that the class's machine comes to -/
def Vc_ (p : pr_T) (S : gs_T) : Prop := Vs_ (pT_ p) (pL_ p) S ∧ (∀ t, sP_ S t ≤ gl_ (gcl_ p 0 F) t) ∧ ∀ n, sW_ S n = true → n < pN_ p ∧ pC_ p n 1 = 0
/-- the word -/
def en_ (p : pr_T) (S : gs_T) : Nat := bm_ (cB_ (pT_ p) (pL_ p) S) 44
theorem en_cw (S : gs_T) : Cw_ (pT_ p) (pL_ p) (en_ p S) S := by
  intro k
  unfold en_
  rw [bm_tb]
  by_cases y : k < 44
  · simp [y]
  · unfold cB_
    rw [if_neg (by omega), if_neg (by omega), if_neg y]
    simp
theorem en_lt (S : gs_T) : en_ p S < 2 ^ 44 := bm_lt _ _
theorem en_of {s : Nat} {S : gs_T} (z : Cw_ (pT_ p) (pL_ p) s S) : s = en_ p S := cw_inj z (en_cw S)
end WF
