/-! what a change of the table leaves alone -/
section FR
variable {σ σ1 : st_T} {p : pr_T} {L : List (Nat × Int64)} {t t1 : tk_T} {m : Nat} {F : Nat → Bool}
theorem tf_low (zw : Wd σ) (zT : Tk_ σ L t) (h : tf_ σ t σ1 t1) {a : Nat} (q : a < 148 ∨ 151 < a) (q1 : a < 220) : eh_ σ σ1 a := by
  obtain ⟨b0, b1, b2, n0, n2, e⟩ := t
  have y := zT.1.2.2.1
  have z := zw.2.2
  have y1 : (149 ≤ b0 ∧ b0 ≤ 151) ∨ 220 ≤ b0 := y.2.1.1
  have y2 : (149 ≤ b1 ∧ b1 ≤ 151) ∨ 220 ≤ b1 := y.2.2.1.1
  have y3 : (149 ≤ b2 ∧ b2 ≤ 151) ∨ 220 ≤ b2 := y.2.2.2.1
  have z1 : a ≠ b0 := by omega
  have z2 : a ≠ b1 := by omega
  have z3 : a ≠ b2 := by omega
  exact h.1 a (by omega) (by omega) z1 z2 z3
theorem mc_eh (h : ∀ a, 153 ≤ a → a ≤ 163 → eh_ σ σ1 a) (zM : Mc_ σ p m F) : Mc_ σ1 p m F := by
  obtain ⟨y1, y2, y3, y4, y5, y6⟩ := zM
  refine ⟨y1, ?_, ?_, fun i zi => ?_, fun t zt => ?_, fun l zl => ?_⟩
  · rw [(h 153 (by decide) (by decide)).1]
    exact y2
  · rw [(h 153 (by decide) (by decide)).1]
    exact y3
  · rw [(h 154 (by decide) (by decide)).1, (h 155 (by decide) (by decide)).1, (h 156 (by decide) (by decide)).1, (h 157 (by decide) (by decide)).1, (h 158 (by decide) (by decide)).1, (h 159 (by decide) (by decide)).1]
    exact y4 i zi
  · rw [(h 160 (by decide) (by decide)).1, (h 161 (by decide) (by decide)).1, (h 162 (by decide) (by decide)).1]
    exact y5 t zt
  · rw [(h 163 (by decide) (by decide)).1]
    exact y6 l zl
theorem gc_none {g : gm_T} {S : gs_T} {u : Nat} (h : ga1_ g S u = none) (l : Nat) : gc_ g S u l = none := by
  have y := (f1_none _ _ _).mp h
  have y1 : gw1_ g S u l = none := by
    refine (f1_none _ _ _).mpr (fun j z1 z2 => ?_)
    rw [y j z1 z2, Bool.false_and]
  unfold gc_ gn_
  rw [y1]
theorem bw_none (k : gs_T → Nat) {g : gm_T} {S : gs_T} {x : Int64} {u : Nat} {M : List (gs_T × Int64)} (h : ga1_ g S u = none) : ∀ w, bw_ k g S x u M (1 + w) = bw_ k g S x u M 1 := by
  intro w
  induction w with
  | zero => rfl
  | succ w ih =>
    have y : gt_ g S u (1 + w) = none := by
      unfold gt_
      rw [if_neg (by omega)]
      exact gc_none h _
    show (match gt_ g S u (1 + w) with | some S2 => ad_ k (bw_ k g S x u M (1 + w)) S2 x | none => bw_ k g S x u M (1 + w)) = _
    rw [y]
    exact ih
theorem lN_m1 {n : Nat} (q : n < 9223372036854775808) : ¬ lN n = (-1 : Int64) := by
  rw [l_m1, lN_inj (Nat.lt_trans q (by decide)) (by decide)]
  intro z
  rw [z] at q
  exact absurd q (by decide)
end FR
