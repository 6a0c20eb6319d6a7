/-! bits of a small number; gaps are at most six -/
section BI
variable {γ : ga_T} {σ : st_T}
def sh_ (x : Int32) (k : Int32) : Int32 := (x.toUInt32 >>> (k.toUInt32 &&& Int32.toUInt32 31)).toInt32
def bca_ (x : Int32) : Int32 := x - (sh_ x 1 &&& 1431655765)
def bcb_ (x : Int32) : Int32 := (x &&& 858993459) + (sh_ x 2 &&& 858993459)
def bcc_ (x : Int32) : Int32 := (x + sh_ x 4) &&& 252645135
def bcd_ (x : Int32) : Int32 := x + sh_ x 8
def bce_ (x : Int32) : Int32 := (x + sh_ x 16) &&& 63
def pcn_ (G : Nat) : Nat := ct_ (fun b => G.testBit b) 6
theorem bc_all : ∀ G : Fin 64, bce_ (bcd_ (bcc_ (bcb_ (bca_ (i_ ((G.val : Nat) : Int)))))) = i_ ((pcn_ G.val : Nat) : Int) := by decide
theorem c_bits {G : Nat} (hG : G < 64) : fn_ γ m_J6_bitCount_0f7a4 0 [.int (i_ (G : Int))] σ (.int (i_ ((pcn_ G : Nat) : Int))) σ := fn_q (fun Q zQ => e_J6_bitCount_0f7a4 (by
  unfold p_J6_bitCount_0f7a4_0
  have y := bc_all ⟨G, hG⟩
  dsimp only at y
  rw [← y] at zQ
  exact zQ))
theorem pcn_le (G : Nat) : pcn_ G ≤ 6 := ct_le _ _
/-- gaps -/
theorem gb_ct (p : pr_T) (t : Int) : ∀ n, n ≤ pN_ p → ct_ (fun i => gb_ p i && decide (pC_ p i 0 = t)) n ≤ ct_ (fun i => decide (pC_ p i 0 = t ∧ pC_ p i 1 ≠ 3)) n - 1 := by
  have ep : ∀ (i k : Nat), i < pN_ p → k < 6 → pp_ p i k = pC_ p i k := fun i k hi hk => by
    unfold pp_
    rw [if_pos (by omega), Int.toNat_natCast, Int.toNat_natCast]
  intro n
  induction n with
  | zero => intro _; exact Nat.le_refl _
  | succ n ih =>
    intro hn
    have ih := ih (by omega)
    rw [ct_, ct_]
    by_cases g : gb_ p n = true
    · by_cases e : pC_ p n 0 = t
      · unfold gb_ at g
        obtain ⟨g1, g2, g3, g4⟩ := of_decide_eq_true g
        obtain ⟨k, rfl⟩ : ∃ k, n = k + 1 := ⟨n - 1, by omega⟩
        rw [show ((k + 1 : Nat) : Int) - 1 = ((k : Nat) : Int) by omega] at g2 g3
        have a0 := ep k 0 (by omega) (by decide)
        have a1 := ep k 1 (by omega) (by decide)
        have b0 := ep (k + 1) 0 (by omega) (by decide)
        have b1 := ep (k + 1) 1 (by omega) (by decide)
        rw [show ((0 : Nat) : Int) = 0 from rfl] at a0 b0
        rw [show ((1 : Nat) : Int) = 1 from rfl] at a1 b1
        rw [a0, b0] at g2
        rw [a1] at g3
        rw [b1] at g4
        have y : 1 ≤ ct_ (fun i => decide (pC_ p i 0 = t ∧ pC_ p i 1 ≠ 3)) (k + 1) := ct_one (n0 := k) (by omega) (decide_eq_true ⟨g2.trans e, g3⟩)
        rw [decide_eq_true (show pC_ p (k + 1) 0 = t ∧ pC_ p (k + 1) 1 ≠ 3 from ⟨e, g4⟩), if_pos rfl]
        generalize ct_ (fun i => decide (pC_ p i 0 = t ∧ pC_ p i 1 ≠ 3)) (k + 1) = b at *
        split <;> omega
      · rw [decide_eq_false e, Bool.and_false, if_neg (by decide), decide_eq_false (fun z => e z.1)]
        exact ih
    · rw [Bool.eq_false_iff.mpr g, Bool.false_and, if_neg (by decide)]
      split <;> omega
theorem ct_th (p : pr_T) (f : Nat → Bool) : ∀ n, (∀ i, i < n → 0 ≤ pC_ p i 0 ∧ pC_ p i 0 < 4) → ct_ f n = ct_ (fun i => f i && decide (pC_ p i 0 = 0)) n + ct_ (fun i => f i && decide (pC_ p i 0 = 1)) n + ct_ (fun i => f i && decide (pC_ p i 0 = 2)) n + ct_ (fun i => f i && decide (pC_ p i 0 = 3)) n := by
  intro n
  induction n with
  | zero => intro _; rfl
  | succ n ih =>
    intro h
    have ih := ih (fun i z => h i (by omega))
    have y := h n (by omega)
    simp only [ct_]
    by_cases e : f n = true
    · have z : pC_ p n 0 = 0 ∨ pC_ p n 0 = 1 ∨ pC_ p n 0 = 2 ∨ pC_ p n 0 = 3 := by omega
      rcases z with z | z | z | z <;> simp [e, z] <;> omega
    · simp [e]; omega
theorem gaps_6 {p : pr_T} (zP : Wp_ p) : ct_ (gb_ p) (pN_ p) ≤ 6 := by
  have hT := zP.1.2.1
  have th : ∀ i, i < pN_ p → 0 ≤ pC_ p i 0 ∧ pC_ p i 0 < 4 := fun i zi => by
    have y := zP.2.1 i zi
    have y1 := y.1
    have y2 := y.2.1
    omega
  have e1 := ct_th p (gb_ p) (pN_ p) th
  have e2 := ct_th p (fun i => decide (pC_ p i 1 ≠ 3)) (pN_ p) th
  have sw : ∀ t : Int, ct_ (fun i => decide (pC_ p i 1 ≠ 3) && decide (pC_ p i 0 = t)) (pN_ p) = ct_ (fun i => decide (pC_ p i 0 = t ∧ pC_ p i 1 ≠ 3)) (pN_ p) := fun t => ct_cg (fun j _ => by
    by_cases a : pC_ p j 0 = t <;> by_cases b : pC_ p j 1 = 3 <;> simp [a, b])
  rw [sw, sw, sw, sw] at e2
  have g := fun t => gb_ct p t (pN_ p) (Nat.le_refl _)
  have g0 := g 0
  have g1 := g 1
  have g2 := g 2
  have g3 := g 3
  have l8 := zP.2.2.2.2.2.2.2
  have l4 := zP.2.2.2.2.2.2.1
  have m0 := l4 0
  have m1 := l4 1
  have m2 := l4 2
  have m3 := l4 3
  omega
end BI
