/-! Program: which instructions wait, how much is buffered, what races -/
section WT
variable {γ : ga_T} {a : Nat} {σ : st_T} {p : pr_T}
def F0_ (p : pr_T) (i : Nat) : Bool := decide (pp_ p i 1 = 3 ∨ pp_ p i 1 = 2)
theorem f0_lt {i : Nat} (h : F0_ p i = true) : i < pN_ p := by
  unfold F0_ pp_ at h
  rw [decide_eq_true_eq] at h
  by_cases y : i < pN_ p
  · exact y
  · rw [if_neg (by omega)] at h
    omega
theorem bm_put {f : Nat → Bool} {i : Nat} (q : i < 10) : i_ ((bm_ f 10 : Nat) : Int) ||| (i_ 1 <<< (i_ (i : Int) &&& i_ 31)) = i_ ((bm_ (fun j => f j || decide (j = i)) 10 : Nat) : Int) := by
  have p1 : 2 ^ i ≤ 2 ^ 10 := Nat.pow_le_pow_right (by decide) (by omega)
  have p2 := bm_lt f 10
  rw [show (1 : Int) = ((1 : Nat) : Int) from rfl, i_shl (by omega) (by omega), Nat.one_mul, i_or (by omega) (by omega), bm_or f q]
theorem c_waits (zha : is_pg a) (zw : Wd σ) (zR : Rp_ σ a p) : fn_ γ m_X7_waits 1 [.ref a] σ (.int (i_ ((bm_ (F0_ p) 10 : Nat) : Int))) σ := by
  have r4 := zR.2.1
  have r1 := zR.1.1
  refine fn_q (fun Q zQ => e_X7_waits zha zw ?_)
  unfold p_X7_waits_0
  have key : ∀ k i : Nat, k + i = pN_ p → vv_ γ m_X7_waits 1 4 [(0, .ref a), (1, .int (i_ ((bm_ (fun j => F0_ p j && decide (j < i)) 10 : Nat) : Int))), (2, .int (i_ (i : Int)))] [] σ Q := by
    intro k
    induction k with
    | zero =>
      intro i zi
      have zi : i = pN_ p := by omega
      subst zi
      refine g_X7_waits_4 zha zw ?_
      unfold p_X7_waits_4
      rw [r4]
      refine ⟨fun _ => ?_, fun z => absurd (Int32.le_refl _) z⟩
      rw [bm_cg (g := F0_ p) (fun j _ => by
        cases h : F0_ p j with
        | false => rfl
        | true => rw [decide_eq_true (f0_lt h)]; rfl)]
      exact zQ
    | succ k ih =>
      intro i zi
      have z2 := ih (i + 1) (by omega)
      rw [show ((i + 1 : Nat) : Int) = (i : Int) + 1 by omega, ← i_add, ← i_lit 1] at z2
      have b1 := pp_rng zR.1 i 1
      refine g_X7_waits_4 zha zw ?_
      unfold p_X7_waits_4
      rw [r4]
      simp (disch := omega) only [i_lit, i_le]
      refine ⟨fun z => by omega, fun _ => ⟨_, _, zw, c_property zha zw zR (by omega) (by omega), ?_⟩⟩
      have yes : F0_ p i = true → i_ ((bm_ (fun j => F0_ p j && decide (j < i)) 10 : Nat) : Int) ||| (i_ 1 <<< (i_ (i : Int) &&& i_ 31)) = i_ ((bm_ (fun j => F0_ p j && decide (j < i + 1)) 10 : Nat) : Int) := fun h => by
        rw [bm_put (by omega)]
        congr 2
        refine bm_cg (fun j _ => ?_)
        by_cases y : j = i
        · subst y
          rw [h, decide_eq_true (rfl : j = j), decide_eq_true (Nat.lt_succ_self j)]
          simp
        · rw [decide_eq_false y, Bool.or_false]
          congr 2
          exact propext ⟨fun _ => by omega, fun _ => by omega⟩
      have no : F0_ p i = false → bm_ (fun j => F0_ p j && decide (j < i + 1)) 10 = bm_ (fun j => F0_ p j && decide (j < i)) 10 := fun h => bm_cg (fun j _ => by
        by_cases y : j = i
        · subst y
          rw [h, Bool.false_and, Bool.false_and]
        · congr 2
          exact propext ⟨fun _ => by omega, fun _ => by omega⟩)
      simp (disch := omega) only [i_eq]
      refine ⟨fun z => ?_, fun z => ⟨fun z3 => ?_, fun z3 => ?_⟩⟩
      · rw [show i_ (OfNat.ofNat 1) = i_ 1 from rfl, show i_ (OfNat.ofNat 31) = i_ 31 from rfl, yes (decide_eq_true (Or.inl z))]
        exact z2
      · rw [show i_ (OfNat.ofNat 1) = i_ 1 from rfl, show i_ (OfNat.ofNat 31) = i_ 31 from rfl, yes (decide_eq_true (Or.inr z3))]
        exact z2
      · rw [no (decide_eq_false (by omega))] at z2
        exact z2
  have y := key (pN_ p) 0 (by omega)
  rw [bm_0 (f := fun j => F0_ p j && decide (j < 0)) (fun j _ => by simp)] at y
  exact y
theorem pl_rg (f : Nat → Bool) : ∀ (k i : Nat) (z : Int), pl_ f z k i = -1 ∨ ((i : Int) ≤ pl_ f z k i ∧ pl_ f z k i < (i + k : Nat)) := by
  intro k
  induction k with
  | zero => intro i z; exact Or.inl rfl
  | succ k ih =>
    intro i z
    unfold pl_
    split
    · split
      · right; omega
      · rcases ih (i + 1) (z - 1) with h | h
        · exact Or.inl h
        · right; omega
    · rcases ih (i + 1) z with h | h
      · exact Or.inl h
      · right; omega
/-- the instruction behind a gap -/
def pg_ (p : pr_T) (g : Nat) : Int := pl_ (gb_ p) g (pN_ p) 0
/-- which instructions wait when there are fences in gaps -/
def FG_ (p : pr_T) (G : Nat) (i : Nat) : Bool := F0_ p i || an_ (fun g => G.testBit g && decide (pg_ p g = i)) 6
theorem c_waitsWith (zha : is_pg a) (zw : Wd σ) (zR : Rp_ σ a p) {G : Nat} (zG : G < 64) : fn_ γ m_X7_waitsWith 3 [.ref a, .int (i_ (G : Int))] σ (.int (i_ ((bm_ (FG_ p G) 10 : Nat) : Int))) σ := by
  have r1 := zR.1.1
  refine fn_q (fun Q zQ => e_X7_waitsWith zha zw ?_)
  unfold p_X7_waitsWith_0
  refine ⟨_, _, zw, c_waits zha zw zR, ?_⟩
  have key : ∀ k g : Nat, k + g = 6 → vv_ γ m_X7_waitsWith 3 7 [(0, .ref a), (1, .int (i_ (G : Int))), (2, .int (i_ ((bm_ (fun j => F0_ p j || an_ (fun g => G.testBit g && decide (pg_ p g = j)) g) 10 : Nat) : Int))), (3, .int (i_ (g : Int)))] [] σ Q := by
    intro k
    induction k with
    | zero =>
      intro g zg
      have zg : g = 6 := by omega
      subst zg
      refine g_X7_waitsWith_7 zha zw ?_
      unfold p_X7_waitsWith_7
      exact ⟨fun _ => zQ, fun z => absurd (by decide) z⟩
    | succ k ih =>
      intro g zg
      have z2 := ih (g + 1) (by omega)
      rw [show ((g + 1 : Nat) : Int) = (g : Int) + 1 by omega, ← i_add, ← i_lit 1] at z2
      refine g_X7_waitsWith_7 zha zw ?_
      unfold p_X7_waitsWith_7
      have rg : pg_ p g = -1 ∨ (((0 : Nat) : Int) ≤ pg_ p g ∧ pg_ p g < (0 + pN_ p : Nat)) := pl_rg (gb_ p) (pN_ p) 0 g
      have eb : (i_ (G : Int) >>> (i_ (g : Int) &&& i_ 31)) &&& i_ 1 = i_ (if G.testBit g = true then 1 else 0) := by
        rw [i_shr (by omega) (by omega), show (1 : Int) = ((1 : Nat) : Int) from rfl, i_and (Nat.lt_of_le_of_lt (Nat.div_le_self _ _) (by omega)) (by decide), n_a1, Nat.testBit_eq_decide_div_mod_eq]
        by_cases y : G / 2 ^ g % 2 = 1
        · rw [decide_eq_true y, y]
          rfl
        · rw [decide_eq_false y, show G / 2 ^ g % 2 = 0 by omega]
          rfl
      simp (disch := omega) only [i_lit, i_le, i_neg]
      refine ⟨fun z => by omega, fun _ => ⟨_, _, zw, c_placeOfGap zha zw zR (by omega), ?_⟩⟩
      rw [show i_ (OfNat.ofNat 31) = i_ 31 from rfl, show i_ (OfNat.ofNat 1) = i_ 1 from rfl, eb, show pl_ (gb_ p) (g : Int) (pN_ p) 0 = pg_ p g from rfl]
      have step : ∀ b, (G.testBit g && decide (b = true)) = (G.testBit g && decide (b = true)) := fun _ => rfl
      have same : (∀ j, j < 10 → (G.testBit g && decide (pg_ p g = (j : Nat))) = false) → bm_ (fun j => F0_ p j || an_ (fun g => G.testBit g && decide (pg_ p g = j)) (g + 1)) 10 = bm_ (fun j => F0_ p j || an_ (fun g => G.testBit g && decide (pg_ p g = j)) g) 10 := fun h => bm_cg (fun j zj => by
        show (F0_ p j || (an_ (fun g => G.testBit g && decide (pg_ p g = j)) g || (G.testBit g && decide (pg_ p g = j)))) = _
        rw [h j zj, Bool.or_false])
      by_cases yb : G.testBit g = true
      · rw [if_pos yb]
        refine ⟨fun z => absurd z (by decide), fun _ => ?_⟩
        simp (disch := omega) only [i_eq]
        refine ⟨fun z => ?_, fun z => ?_⟩
        · rw [same (fun j _ => by rw [decide_eq_false (by omega), Bool.and_false])] at z2
          exact z2
        · obtain ⟨i, hi⟩ : ∃ i : Nat, pg_ p g = i := ⟨(pg_ p g).toNat, by omega⟩
          rw [hi, bm_put (by omega)]
          have e : bm_ (fun j => (F0_ p j || an_ (fun g => G.testBit g && decide (pg_ p g = j)) g) || decide (j = i)) 10 = bm_ (fun j => F0_ p j || an_ (fun g => G.testBit g && decide (pg_ p g = j)) (g + 1)) 10 := bm_cg (fun j _ => by
            show _ = (F0_ p j || (an_ (fun g => G.testBit g && decide (pg_ p g = j)) g || (G.testBit g && decide (pg_ p g = j))))
            rw [Bool.or_assoc, yb, Bool.true_and, hi]
            congr 2
            exact decide_eq_decide.mpr ⟨fun z => by omega, fun z => by omega⟩)
          rw [e]
          exact z2
      · rw [if_neg yb]
        refine ⟨fun _ => ?_, fun z => absurd rfl z⟩
        rw [same (fun j _ => by rw [Bool.eq_false_iff.mpr yb, Bool.false_and])] at z2
        exact z2
  have y := key 6 0 rfl
  rw [show bm_ (fun j => F0_ p j || an_ (fun g => G.testBit g && decide (pg_ p g = j)) 0) 10 = bm_ (F0_ p) 10 from bm_cg (fun j _ => Bool.or_false _)] at y
  exact y
/-- the greatest number of stores of a thread in its buffer: greatest, and at the end -/
def mb_ (p : pr_T) (t : Int) : Nat → Nat × Nat
  | 0 => (0, 0)
  | i + 1 => if pp_ p i 0 = t then (max (mb_ p t i).1 (if pp_ p i 1 = 3 ∨ pp_ p i 1 = 2 then 0 else if pp_ p i 1 = 0 then (mb_ p t i).2 + 1 else (mb_ p t i).2), if pp_ p i 1 = 3 ∨ pp_ p i 1 = 2 then 0 else if pp_ p i 1 = 0 then (mb_ p t i).2 + 1 else (mb_ p t i).2) else mb_ p t i
theorem mb_le (t : Int) : ∀ i, (mb_ p t i).1 ≤ i ∧ (mb_ p t i).2 ≤ i
  | 0 => ⟨Nat.le_refl _, Nat.le_refl _⟩
  | i + 1 => by
    have y := mb_le t i
    unfold mb_
    split
    · dsimp only
      split
      · exact ⟨by omega, by omega⟩
      · split
        · exact ⟨by omega, by omega⟩
        · exact ⟨by omega, by omega⟩
    · omega
theorem c_mostBuf (zha : is_pg a) (zw : Wd σ) (zR : Rp_ σ a p) {t : Int} (q1 : -2147483648 ≤ t ∧ t < 2147483648) : fn_ γ m_X7_mostStoresBuffered 1 [.ref a, .int (i_ t)] σ (.int (i_ ((mb_ p t (pN_ p)).1 : Int))) σ := by
  have r4 := zR.2.1
  have r1 := zR.1.1
  refine fn_q (fun Q zQ => e_X7_mostStoresBuffered zha zw ?_)
  unfold p_X7_mostStoresBuffered_0
  have key : ∀ k i : Nat, k + i = pN_ p → vv_ γ m_X7_mostStoresBuffered 1 7 [(0, .ref a), (1, .int (i_ t)), (2, .int (i_ ((mb_ p t i).1 : Int))), (3, .int (i_ ((mb_ p t i).2 : Int))), (4, .int (i_ (i : Int)))] [] σ Q := by
    intro k
    induction k with
    | zero =>
      intro i zi
      have zi : i = pN_ p := by omega
      subst zi
      refine g_X7_mostStoresBuffered_7 zha zw ?_
      unfold p_X7_mostStoresBuffered_7
      rw [r4]
      exact ⟨fun _ => zQ, fun z => absurd (Int32.le_refl _) z⟩
    | succ k ih =>
      intro i zi
      have z2 := ih (i + 1) (by omega)
      rw [show ((i + 1 : Nat) : Int) = (i : Int) + 1 by omega] at z2
      have b0 := pp_rng zR.1 i 0
      have b1 := pp_rng zR.1 i 1
      have bm := mb_le (p := p) t i
      refine g_X7_mostStoresBuffered_7 zha zw ?_
      unfold p_X7_mostStoresBuffered_7
      rw [r4]
      simp (disch := omega) only [i_lit, i_le, i_add]
      refine ⟨fun z => by omega, fun _ => ⟨_, _, zw, c_property zha zw zR (by omega) (by omega), ?_⟩⟩
      unfold mb_ at z2
      have mx : ∀ x y : Nat, x < 100 → y < 100 → (if i_ (x : Int) < i_ (y : Int) then i_ (y : Int) else i_ (x : Int)) = i_ ((max x y : Nat) : Int) := fun x y hx hy => by
        by_cases z : x < y
        · rw [if_pos (by rw [i_lt (by omega) (by omega)]; omega), Nat.max_eq_right (by omega)]
        · rw [if_neg (by rw [i_lt (by omega) (by omega)]; omega), Nat.max_eq_left (by omega)]
      simp (disch := omega) only [i_eq]
      refine ⟨fun z => ⟨_, _, zw, c_property zha zw zR (by omega) (by omega), ?_⟩, fun z => ?_⟩
      · rw [if_pos z] at z2
        simp (disch := omega) only [i_eq]
        refine ⟨fun z3 => ?_, fun z3 => ⟨fun z4 => ?_, fun z4 => ⟨fun z5 => ?_, fun z5 => ?_⟩⟩⟩
        · rw [if_pos (Or.inl z3)] at z2
          rw [show i_ (OfNat.ofNat 0) = i_ ((0 : Nat) : Int) from rfl, mx _ _ (by omega) (by omega)]
          exact z2
        · rw [if_pos (Or.inr z4)] at z2
          rw [show i_ (OfNat.ofNat 0) = i_ ((0 : Nat) : Int) from rfl, mx _ _ (by omega) (by omega)]
          exact z2
        · rw [if_neg (by omega), if_pos z5] at z2
          rw [show (((mb_ p t i).2 : Nat) : Int) + OfNat.ofNat 1 = (((mb_ p t i).2 + 1 : Nat) : Int) from rfl, mx _ _ (by omega) (by omega)]
          exact z2
        · rw [if_neg (by omega), if_neg z5] at z2
          rw [mx _ _ (by omega) (by omega)]
          exact z2
      · rw [if_neg z] at z2
        exact z2
  exact key (pN_ p) 0 (by omega)
/-- two instructions race -/
def ir_ (p : pr_T) (x y : Int) : Bool := decide (pp_ p x 2 = pp_ p y 2 ∧ pp_ p x 1 ≠ 3 ∧ pp_ p y 1 ≠ 3 ∧ (pp_ p x 1 ≠ 1 ∨ pp_ p y 1 ≠ 1) ∧ ¬ (pp_ p x 1 = 2 ∧ pp_ p y 1 = 2) ∧ pp_ p x 0 ≠ pp_ p y 0)
theorem c_isRacing (zha : is_pg a) (zw : Wd σ) (zR : Rp_ σ a p) {x y : Int} (q1 : -2147483648 ≤ x ∧ x < 2147483648) (q2 : -2147483648 ≤ y ∧ y < 2147483648) : fn_ γ m_X7_isRacing 1 [.ref a, .int (i_ x), .int (i_ y)] σ (.int (i_ (if ir_ p x y = true then 1 else 0))) σ := fn_q (fun Q zQ => e_X7_isRacing zha zw (by
  have b1 := pp_rng zR.1 x 1
  have b2 := pp_rng zR.1 y 1
  have b3 := pp_rng zR.1 x 2
  have b4 := pp_rng zR.1 y 2
  have b5 := pp_rng zR.1 x 0
  have b6 := pp_rng zR.1 y 0
  have hl : ∀ b, ir_ p x y = b → Q (.inl (some (.int (i_ (if b = true then 1 else 0))))) σ := fun b e => e ▸ zQ
  unfold ir_ at hl
  unfold p_X7_isRacing_0
  simp only [i_lit]
  refine ⟨_, _, zw, c_property zha zw zR q1 (by omega), _, _, zw, c_property zha zw zR q2 (by omega), _, _, zw, c_property zha zw zR q1 (by omega), _, _, zw, c_property zha zw zR q2 (by omega), ?_⟩
  simp (disch := omega) only [i_eq]
  generalize pp_ p x 1 = k1 at *
  generalize pp_ p y 1 = k2 at *
  generalize e3 : pp_ p x 2 = k3 at *
  generalize e4 : pp_ p y 2 = k4 at *
  repeat' first | intro _ | refine And.intro ?_ ?_
  all_goals first
    | exact hl false (decide_eq_false (by omega))
    | skip
  all_goals refine ⟨_, _, zw, c_property zha zw zR q1 (by omega), _, _, zw, c_property zha zw zR q2 (by omega), ?_⟩
  all_goals simp (disch := omega) only [i_eq]
  all_goals refine And.intro (fun _ => ?_) (fun _ => ?_)
  all_goals first
    | exact hl false (decide_eq_false (by omega))
    | exact hl true (decide_eq_true (by omega))))
end WT
