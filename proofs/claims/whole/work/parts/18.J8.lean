theorem pW_I (σ : st_T) (a k : Nat) (f : Nat → Int32) (x : Int32) : pt_I (pt_W σ a f) a k x = pt_W σ a (fun j => if j = k then x else f j) := by
  unfold pt_I pt_W
  congr 1
  funext b j
  by_cases zb : b = a
  · by_cases zj : j = k
    · simp [zb, zj]
    · simp [zb, zj]
  · simp [zb]
theorem pW_g (σ : st_T) (a : Nat) (f g : Nat → Int32) (z : ∀ j, f j = g j) : pt_W σ a f = pt_W σ a g := by rw [show f = g from funext z]
theorem pW_id (σ : st_T) (a : Nat) (f : Nat → Int32) (z : ∀ j, f j = st_I σ a j) : pt_W σ a f = σ := by
  rw [show f = st_I σ a from funext z]
  unfold pt_W
  show (_, σ.2) = σ
  rw [show (fun b j => if b = a then st_I σ a j else σ.1 b j) = σ.1 from ?_]
  funext b j
  by_cases zb : b = a
  · rw [if_pos zb, zb]; rfl
  · rw [if_neg zb]
theorem fill_l {γ : ga_T} {q n : Nat} {v : Int32} {σ : st_T} (zs : st_S σ q = (21, n)) (zn : n < 2 ^ 31) : ∀ k i : Nat, k + i = n → vv_ γ m_J7_fill_53178 0 5 [(0, .ref q), (1, .int v), (2, .int (Int32.ofNat i)), (3, .int (Int32.ofNat n))] [] (pt_W σ q (fun j => if j < i then v else st_I σ q j)) (fun r s => r = .inl none ∧ s = pt_W σ q (fun j => if j < n then v else st_I σ q j)) := by
  intro k
  induction k with
  | zero =>
    intro i zi
    have zi : i = n := by omega
    subst zi
    exact g_J7_fill_53178_5 ⟨fun _ => ⟨rfl, rfl⟩, fun z => absurd (Int32.le_refl _) z⟩
  | succ k ih =>
    intro i zi
    refine g_J7_fill_53178_5 ⟨fun z => absurd z (nI_ge (by omega) zn), fun _ => ⟨n, zs, vp_in_nI (by omega) zn, ?_⟩⟩
    have z2 := ih (i + 1) (by omega)
    rw [show (Int32.ofNat i).toNatClampNeg = i from nI_clamp (by omega), pW_I]
    rw [show Int32.ofNat (i + 1) = Int32.ofNat i + 1 from nI_succ i] at z2
    rw [pW_g σ q _ (fun j => if j < i + 1 then v else st_I σ q j) (fun j => ?_)]
    · exact z2
    · by_cases z3 : j = i
      · rw [if_pos z3, if_pos (by omega)]
      · by_cases z4 : j < i
        · rw [if_neg z3, if_pos z4, if_pos (by omega)]
        · rw [if_neg z3, if_neg z4, if_neg (by omega)]
theorem fill_c {γ : ga_T} {q n : Nat} {v : Int32} {σ : st_T} (zs : st_S σ q = (21, n)) (zn : n < 2 ^ 31) : fw_ γ m_J7_fill_53178 0 [.ref q, .int v] σ (pt_W σ q (fun j => if j < n then v else st_I σ q j)) := by
  refine e_J7_fill_53178 ⟨n, zs, ?_⟩
  have z := fill_l (γ := γ) (v := v) zs zn n 0 (by omega)
  rw [pW_id σ q (fun j => if j < 0 then v else st_I σ q j) (fun j => if_neg (Nat.not_lt_zero j))] at z
  exact z
