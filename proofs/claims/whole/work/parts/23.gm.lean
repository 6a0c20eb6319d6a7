/-! the machine that both programs execute: items (properties, first item of each thread, which of them wait for an empty buffer, the model), states (positions, registers, memory, waiting stores) -/
abbrev gs_T : Type := (Nat → Nat) × (Nat → Nat) × (Nat → Nat) × (Nat → Bool)
def sP_ (S : gs_T) : Nat → Nat := S.1
def sR_ (S : gs_T) : Nat → Nat := S.2.1
def sM_ (S : gs_T) : Nat → Nat := S.2.2.1
def sW_ (S : gs_T) : Nat → Bool := S.2.2.2
abbrev gm_T : Type := (Nat → Nat → Int) × (Nat → Nat) × (Nat → Bool) × Nat
def gC_ (g : gm_T) : Nat → Nat → Int := g.1
def gB_ (g : gm_T) : Nat → Nat := g.2.1
def gK_ (g : gm_T) : Nat → Bool := g.2.2.1
def gm_ (g : gm_T) : Nat := g.2.2.2
def un_ (f : Nat → Nat) (i v : Nat) : Nat → Nat := fun j => if j = i then v else f j
def ub_ (f : Nat → Bool) (i : Nat) (v : Bool) : Nat → Bool := fun j => if j = i then v else f j
/-- the first, the last place from i on, k places long, at which f holds -/
def f1_ (f : Nat → Bool) : Nat → Nat → Option Nat
  | 0, _ => none
  | k + 1, i => if f i = true then some i else f1_ f k (i + 1)
def f2_ (f : Nat → Bool) : Nat → Nat → Option Nat
  | 0, _ => none
  | k + 1, i => match f2_ f k (i + 1) with
    | some j => some j
    | none => if f i = true then some i else none
theorem f1_none (f : Nat → Bool) : ∀ k i, f1_ f k i = none ↔ ∀ j, i ≤ j → j < i + k → f j = false
  | 0, i => by
    constructor
    · intro _ j z1 z2; omega
    · intro _; rfl
  | k + 1, i => by
    rw [f1_]
    by_cases z : f i = true
    · rw [if_pos z]
      constructor
      · intro z1; cases z1
      · intro z1
        have z2 := z1 i (Nat.le_refl _) (by omega)
        rw [z] at z2; cases z2
    · rw [if_neg z, f1_none f k (i + 1)]
      constructor
      · intro z1 j z2 z3
        by_cases z4 : j = i
        · rw [z4]; exact Bool.eq_false_iff.mpr z
        · exact z1 j (by omega) (by omega)
      · intro z1 j z2 z3
        exact z1 j (by omega) (by omega)
theorem f1_some (f : Nat → Bool) {n : Nat} : ∀ k i, f1_ f k i = some n ↔ (i ≤ n ∧ n < i + k ∧ f n = true ∧ ∀ j, i ≤ j → j < n → f j = false)
  | 0, i => by
    constructor
    · intro z; cases z
    · intro z; omega
  | k + 1, i => by
    rw [f1_]
    by_cases z : f i = true
    · rw [if_pos z]
      constructor
      · intro z1
        cases z1
        exact ⟨Nat.le_refl _, by omega, z, fun j z1 z2 => by omega⟩
      · rintro ⟨z1, z2, z3, z4⟩
        by_cases z5 : i = n
        · rw [z5]
        · have z6 := z4 i (Nat.le_refl _) (by omega)
          rw [z] at z6; cases z6
    · rw [if_neg z, f1_some f k (i + 1)]
      constructor
      · rintro ⟨z1, z2, z3, z4⟩
        refine ⟨by omega, by omega, z3, fun j z5 z6 => ?_⟩
        by_cases z7 : j = i
        · rw [z7]; exact Bool.eq_false_iff.mpr z
        · exact z4 j (by omega) z6
      · rintro ⟨z1, z2, z3, z4⟩
        refine ⟨?_, by omega, z3, fun j z5 z6 => z4 j (by omega) z6⟩
        by_cases z7 : i = n
        · rw [z7] at z; exact absurd z3 z
        · omega
theorem f2_none (f : Nat → Bool) : ∀ k i, f2_ f k i = none ↔ ∀ j, i ≤ j → j < i + k → f j = false
  | 0, i => by
    constructor
    · intro _ j z1 z2; omega
    · intro _; rfl
  | k + 1, i => by
    have ih := f2_none f k (i + 1)
    rw [f2_]
    cases z0 : f2_ f k (i + 1) with
    | some j0 =>
      rw [z0] at ih
      constructor
      · intro z1; cases z1
      · intro z1
        have z2 := ih.mpr (fun j z2 z3 => z1 j (by omega) (by omega))
        cases z2
    | none =>
      have z9 := ih.mp z0
      show (if f i = true then some i else none) = none ↔ _
      by_cases z : f i = true
      · rw [if_pos z]
        constructor
        · intro z1; cases z1
        · intro z1
          have z2 := z1 i (Nat.le_refl _) (by omega)
          rw [z] at z2; cases z2
      · rw [if_neg z]
        constructor
        · intro _ j z2 z3
          by_cases z4 : j = i
          · rw [z4]; exact Bool.eq_false_iff.mpr z
          · exact z9 j (by omega) (by omega)
        · intro _; rfl
theorem f2_some (f : Nat → Bool) {n : Nat} : ∀ k i, f2_ f k i = some n ↔ (i ≤ n ∧ n < i + k ∧ f n = true ∧ ∀ j, n < j → j < i + k → f j = false)
  | 0, i => by
    constructor
    · intro z; cases z
    · intro z; omega
  | k + 1, i => by
    have ih := f2_some f (n := n) k (i + 1)
    have ih0 := f2_none f k (i + 1)
    rw [f2_]
    cases z0 : f2_ f k (i + 1) with
    | some j0 =>
      rw [z0] at ih
      show some j0 = some n ↔ _
      rw [ih]
      constructor
      · rintro ⟨z1, z2, z3, z4⟩
        exact ⟨by omega, by omega, z3, fun j z5 z6 => z4 j z5 (by omega)⟩
      · rintro ⟨z1, z2, z3, z4⟩
        refine ⟨?_, by omega, z3, fun j z5 z6 => z4 j z5 (by omega)⟩
        by_cases z7 : n = i
        · exfalso
          have z8 := (f2_some f (n := j0) k (i + 1)).mp z0
          have z9 := z4 j0 (by omega) (by omega)
          rw [z8.2.2.1] at z9; cases z9
        · omega
    | none =>
      have z9 := ih0.mp z0
      show (if f i = true then some i else none) = some n ↔ _
      by_cases z : f i = true
      · rw [if_pos z]
        constructor
        · intro z1
          cases z1
          exact ⟨Nat.le_refl _, by omega, z, fun j z2 z3 => z9 j (by omega) (by omega)⟩
        · rintro ⟨z1, z2, z3, z4⟩
          by_cases z7 : n = i
          · rw [z7]
          · have z8 := z9 n (by omega) (by omega)
            rw [z3] at z8; cases z8
      · rw [if_neg z]
        constructor
        · intro z1; cases z1
        · rintro ⟨z1, z2, z3, z4⟩
          by_cases z7 : n = i
          · rw [z7] at z3; exact absurd z3 z
          · have z8 := z9 n (by omega) (by omega)
            rw [z3] at z8; cases z8
/-- the items of a thread, its waiting stores -/
def gl_ (g : gm_T) (t : Nat) : Nat := gB_ g (t + 1) - gB_ g t
def ga1_ (g : gm_T) (S : gs_T) (t : Nat) : Option Nat := f1_ (sW_ S) (gl_ g t) (gB_ g t)
def gw1_ (g : gm_T) (S : gs_T) (t : Nat) (l : Int) : Option Nat := f1_ (fun n => sW_ S n && decide (gC_ g n 2 = l)) (gl_ g t) (gB_ g t)
def gw2_ (g : gm_T) (S : gs_T) (t : Nat) (l : Int) : Option Nat := f2_ (fun n => sW_ S n && decide (gC_ g n 2 = l)) (gl_ g t) (gB_ g t)
/-- the value that an item writes -/
def gv_ (g : gm_T) (S : gs_T) (t n : Nat) : Nat := if gC_ g n 5 = -1 then (gC_ g n 4).toNat else sR_ S (2 * t + (gC_ g n 5).toNat)
/-- the next item of a thread is executed -/
def gx_ (g : gm_T) (S : gs_T) (t : Nat) : Option gs_T :=
  let n := gB_ g t + sP_ S t
  if ¬ sP_ S t < gl_ g t ∨ (gK_ g n = true ∧ ga1_ g S t ≠ none) then none
  else
    let l := (gC_ g n 2).toNat
    let r := 2 * t + (gC_ g n 3).toNat
    let P := un_ (sP_ S) t (sP_ S t + 1)
    if gC_ g n 1 = 0 then (if gm_ g = 0 then some (P, sR_ S, un_ (sM_ S) l (gv_ g S t n), sW_ S) else some (P, sR_ S, sM_ S, ub_ (sW_ S) n true))
    else if gC_ g n 1 = 1 then some (P, un_ (sR_ S) r (match gw2_ g S t (gC_ g n 2) with | some j => gv_ g S t j | none => sM_ S l), sM_ S, sW_ S)
    else if gC_ g n 1 = 2 then some (P, un_ (sR_ S) r (sM_ S l), un_ (sM_ S) l (gv_ g S t n), sW_ S)
    else some (P, sR_ S, sM_ S, sW_ S)
/-- the store that is committed next to a location -/
def gn_ (g : gm_T) (S : gs_T) (t l : Nat) : Option Nat := match gw1_ g S t l with
  | none => none
  | some n => if gm_ g = 1 ∧ ga1_ g S t ≠ some n then none else some n
def gc_ (g : gm_T) (S : gs_T) (t l : Nat) : Option gs_T := match gn_ g S t l with
  | none => none
  | some n => some (sP_ S, sR_ S, un_ (sM_ S) l (gv_ g S t n), ub_ (sW_ S) n false)
def gt_ (g : gm_T) (S : gs_T) (t w : Nat) : Option gs_T := if w = 0 then gx_ g S t else gc_ g S t (w - 1)
