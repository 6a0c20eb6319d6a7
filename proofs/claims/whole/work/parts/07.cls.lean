theorem cl_in0 : ∀ w ∈ wsX00, w ∈ tg_ := by decide +kernel
theorem cl_in1 : ∀ w ∈ wsX10, w ∈ tg_ := by decide +kernel
theorem cl_in2 : ∀ w ∈ wsX20, w ∈ tg_ := by decide +kernel
theorem cl_in3 : ∀ w ∈ wsX30, w ∈ tg_ := by decide +kernel
theorem cl_in4 : ∀ w ∈ wsX40, w ∈ tg_ := by decide +kernel
theorem cl_in5 : ∀ w ∈ wsX50, w ∈ tg_ := by decide +kernel
theorem cl_in6 : ∀ w ∈ wsX60, w ∈ tg_ := by decide +kernel
theorem cl_in7 : ∀ w ∈ wsX70, w ∈ tg_ := by decide +kernel
theorem cl_in9 : ∀ w ∈ wsX90, w ∈ tg_ := by decide +kernel
theorem cl_in10 : ∀ w ∈ wsX100, w ∈ tg_ := by decide +kernel
theorem cl_in11 : ∀ w ∈ wsX110, w ∈ tg_ := by decide +kernel
theorem cl_in12 : ∀ w ∈ wsX120, w ∈ tg_ := by decide +kernel
/-- what is known of each class of the pool -/
def cl_p (ci : Nat) (q : vw_C) : Prop := (∀ w ∈ u_ws q.1 q.2.1 q.2.2, w ∈ tg_) ∧ (∀ k, k < q.2.2 → parseFieldDescriptor (q.2.1 k).2.2.1 = some (ty_f ci k)) ∧ (∀ a, a < q.2.2 → ∀ b, b < q.2.2 → a ≠ b → (q.2.1 a).2.1 ≠ (q.2.1 b).2.1) ∧ nf_ ci = q.2.2
theorem cl_ok {ci : Nat} {q : vw_C} (h : vwCl[ci]? = some q) : cl_p ci q := by
  match ci, h with
  | 0, h => cases h; exact ⟨cl_in0, tyX0_ok, nmX0, rfl⟩
  | 1, h => cases h; exact ⟨cl_in1, tyX1_ok, nmX1, rfl⟩
  | 2, h => cases h; exact ⟨cl_in2, tyX2_ok, nmX2, rfl⟩
  | 3, h => cases h; exact ⟨cl_in3, tyX3_ok, nmX3, rfl⟩
  | 4, h => cases h; exact ⟨cl_in4, tyX4_ok, nmX4, rfl⟩
  | 5, h => cases h; exact ⟨cl_in5, tyX5_ok, nmX5, rfl⟩
  | 6, h => cases h; exact ⟨cl_in6, tyX6_ok, nmX6, rfl⟩
  | 7, h => cases h; exact ⟨cl_in7, tyX7_ok, nmX7, rfl⟩
  | 8, h => cases h; exact ⟨cl_in9, tyX9_ok, nmX9, rfl⟩
  | 9, h => cases h; exact ⟨cl_in10, tyX10_ok, nmX10, rfl⟩
  | 10, h => cases h; exact ⟨cl_in11, tyX11_ok, nmX11, rfl⟩
  | 11, h => cases h; exact ⟨cl_in12, tyX12_ok, nmX12, rfl⟩
  | n + 12, h => simp [vwCl] at h
