/-! how many states (T2): sums grow with what threads add, and don't depend on the order of threads -/
section DM
variable {a b c d a' b' c' d' n : Nat} {E E0 E1 E2 E3 V V0 V1 V2 V3 : List (Nat × Nat)}
theorem mu_ex (a b c d : Nat) : mu_ a b c d * (fc_ a * fc_ b * fc_ c * fc_ d) = fc_ (a + b + c + d) := by
  rw [← wds_mu]
  exact wds_len _ a b c d rfl
theorem mu_01 (a b c d : Nat) : mu_ a b c d = mu_ b a c d := by
  unfold mu_
  rw [Nat.add_comm a b, Nat.mul_comm (fc_ a) (fc_ b)]
theorem mu_12 (a b c d : Nat) : mu_ a b c d = mu_ a c b d := by
  unfold mu_
  rw [show a + b + c + d = a + c + b + d by omega, Nat.mul_assoc (fc_ a) (fc_ b) (fc_ c), Nat.mul_comm (fc_ b) (fc_ c), ← Nat.mul_assoc (fc_ a) (fc_ c) (fc_ b)]
theorem mu_23 (a b c d : Nat) : mu_ a b c d = mu_ a b d c := by
  unfold mu_
  rw [show a + b + c + d = a + b + d + c by omega, Nat.mul_assoc (fc_ a * fc_ b) (fc_ c) (fc_ d), Nat.mul_comm (fc_ c) (fc_ d), ← Nat.mul_assoc (fc_ a * fc_ b) (fc_ d) (fc_ c)]
theorem mu_s (a b c d : Nat) : mu_ a b c d ≤ mu_ (a + 1) b c d := by
  have y := mu_ex a b c d
  have z := mu_ex (a + 1) b c d
  have e : fc_ (a + 1 + b + c + d) = (a + b + c + d + 1) * fc_ (a + b + c + d) := by
    rw [show a + 1 + b + c + d = (a + b + c + d) + 1 by omega]
    rfl
  have e2 : fc_ (a + 1) = (a + 1) * fc_ a := rfl
  rw [e, e2, ← y] at z
  have pos : 0 < fc_ a * fc_ b * fc_ c * fc_ d := Nat.mul_pos (Nat.mul_pos (Nat.mul_pos (fc_pos a) (fc_pos b)) (fc_pos c)) (fc_pos d)
  have z2 : (mu_ (a + 1) b c d * (a + 1)) * (fc_ a * fc_ b * fc_ c * fc_ d) = ((a + b + c + d + 1) * mu_ a b c d) * (fc_ a * fc_ b * fc_ c * fc_ d) := by
    rw [Nat.mul_assoc (a + b + c + d + 1), ← z]
    simp only [Nat.mul_assoc]
  have z3 := Nat.eq_of_mul_eq_mul_right pos z2
  have z4 : (a + 1) * mu_ a b c d ≤ (a + 1) * mu_ (a + 1) b c d := by
    rw [Nat.mul_comm (a + 1) (mu_ (a + 1) b c d), z3]
    exact Nat.mul_le_mul_right _ (by omega)
  exact Nat.le_of_mul_le_mul_left z4 (Nat.succ_pos a)
theorem mu_m0 (h : a ≤ a') : mu_ a b c d ≤ mu_ a' b c d := by
  induction a' with
  | zero =>
    rw [show a = 0 by omega]
    exact Nat.le_refl _
  | succ a' ih =>
    by_cases e : a = a' + 1
    · rw [e]
      exact Nat.le_refl _
    · exact Nat.le_trans (ih (by omega)) (mu_s a' b c d)
theorem mu_m1 (h : b ≤ b') : mu_ a b c d ≤ mu_ a b' c d := by
  rw [mu_01 a b, mu_01 a b']
  exact mu_m0 h
theorem mu_m2 (h : c ≤ c') : mu_ a b c d ≤ mu_ a b c' d := by
  rw [mu_12 a b c, mu_12 a b c']
  exact mu_m1 h
theorem mu_m3 (h : d ≤ d') : mu_ a b c d ≤ mu_ a b c d' := by
  rw [mu_23 a b c d, mu_23 a b c d']
  exact mu_m2 h
/-- one list of what a thread adds is under another -/
def Dm_ (E V : List (Nat × Nat)) : Prop := ∀ f, Mo_ f → sumf_ f E ≤ sumf_ f V
theorem vsm_le (h0 : Dm_ E0 V0) (h1 : Dm_ E1 V1) (h2 : Dm_ E2 V2) (h3 : Dm_ E3 V3) : vsm_ E0 E1 E2 E3 ≤ vsm_ V0 V1 V2 V3 := by
  unfold vsm_
  refine Nat.le_trans (h0 _ (fun x y hx hy => ?_)) (sumf_le _ (fun a _ => Nat.le_trans (h1 _ (fun x y hx hy => ?_)) (sumf_le _ (fun b _ => Nat.le_trans (h2 _ (fun x y hx hy => ?_)) (sumf_le _ (fun c _ => h3 _ (fun x y hx hy => ?_)))))))
  · exact sumf_le _ (fun b _ => sumf_le _ (fun c _ => sumf_le _ (fun d _ => Nat.mul_le_mul (mu_m0 hx) (mu_m0 hy))))
  · exact sumf_le _ (fun c _ => sumf_le _ (fun d _ => Nat.mul_le_mul (mu_m1 hx) (mu_m1 hy)))
  · exact sumf_le _ (fun d _ => Nat.mul_le_mul (mu_m2 hx) (mu_m2 hy))
  · exact Nat.mul_le_mul (mu_m3 hx) (mu_m3 hy)
theorem sumf_add {α : Type} (f h : α → Nat) : ∀ (L : List α), sumf_ (fun x => f x + h x) L = sumf_ f L + sumf_ h L
  | [] => rfl
  | x :: L => by
    show f x + h x + sumf_ (fun x => f x + h x) L = f x + sumf_ f L + (h x + sumf_ h L)
    rw [sumf_add f h L]
    omega
theorem sumf_0 {α : Type} : ∀ (L : List α), sumf_ (fun _ => 0) L = 0
  | [] => rfl
  | x :: L => by
    show 0 + sumf_ (fun _ => 0) L = 0
    rw [sumf_0 L]
theorem sumf_sw {α β : Type} (F : α → β → Nat) : ∀ (A : List α) (B : List β), sumf_ (fun x => sumf_ (fun y => F x y) B) A = sumf_ (fun y => sumf_ (fun x => F x y) A) B
  | [], B => (sumf_0 B).symm
  | x :: A, B => by
    show sumf_ (fun y => F x y) B + sumf_ (fun x => sumf_ (fun y => F x y) B) A = sumf_ (fun y => F x y + sumf_ (fun x => F x y) A) B
    rw [sumf_sw F A B, sumf_add]
theorem vsm_01 : vsm_ E0 E1 E2 E3 = vsm_ E1 E0 E2 E3 := by
  unfold vsm_
  rw [sumf_sw]
  refine sumf_cg _ (fun b _ => sumf_cg _ (fun a _ => sumf_cg _ (fun c _ => sumf_cg _ (fun d _ => ?_))))
  rw [mu_01 a.1, mu_01 a.2]
theorem vsm_12 : vsm_ E0 E1 E2 E3 = vsm_ E0 E2 E1 E3 := by
  unfold vsm_
  refine sumf_cg _ (fun a _ => ?_)
  rw [sumf_sw]
  refine sumf_cg _ (fun c _ => sumf_cg _ (fun b _ => sumf_cg _ (fun d _ => ?_)))
  rw [mu_12 a.1, mu_12 a.2]
theorem vsm_23 : vsm_ E0 E1 E2 E3 = vsm_ E0 E1 E3 E2 := by
  unfold vsm_
  refine sumf_cg _ (fun a _ => sumf_cg _ (fun b _ => ?_))
  rw [sumf_sw]
  refine sumf_cg _ (fun d _ => sumf_cg _ (fun c _ => ?_))
  rw [mu_23 a.1, mu_23 a.2]
/-- four things may be taken in order -/
theorem sort4 {α : Type} {P : α → α → α → α → Prop} (k : α → Nat) (s01 : ∀ a b c d, P a b c d → P b a c d) (s12 : ∀ a b c d, P a b c d → P a c b d) (s23 : ∀ a b c d, P a b c d → P a b d c) (h : ∀ a b c d, k b ≤ k a → k c ≤ k b → k d ≤ k c → P a b c d) (a b c d : α) : P a b c d := by
  have c1 : ∀ a b c d, k b ≤ k a → k c ≤ k b → k d ≤ k b → P a b c d := fun a b c d h1 h2 h3 => by
    by_cases e : k d ≤ k c
    · exact h a b c d h1 h2 e
    · exact s23 a b d c (h a b d c h1 h3 (by omega))
  have c2 : ∀ a b c d, k b ≤ k a → k c ≤ k a → k d ≤ k a → P a b c d := fun a b c d h1 h2 h3 => by
    by_cases e1 : k c ≤ k b ∧ k d ≤ k b
    · exact c1 a b c d h1 e1.1 e1.2
    · by_cases e2 : k b ≤ k c ∧ k d ≤ k c
      · exact s12 a c b d (c1 a c b d h2 e2.1 e2.2)
      · exact s23 a b d c (s12 a d b c (c1 a d b c h3 (by omega) (by omega)))
  by_cases e1 : k b ≤ k a ∧ k c ≤ k a ∧ k d ≤ k a
  · exact c2 a b c d e1.1 e1.2.1 e1.2.2
  · by_cases e2 : k a ≤ k b ∧ k c ≤ k b ∧ k d ≤ k b
    · exact s01 b a c d (c2 b a c d e2.1 e2.2.1 e2.2.2)
    · by_cases e3 : k a ≤ k c ∧ k b ≤ k c ∧ k d ≤ k c
      · exact s12 a c b d (s01 c a b d (c2 c a b d e3.1 e3.2.1 e3.2.2))
      · exact s23 a b d c (s12 a d b c (s01 d a b c (c2 d a b c (by omega) (by omega) (by omega))))
end DM
