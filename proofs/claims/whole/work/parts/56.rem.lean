/-! what a step changes; how many steps are left; final states; a step that reads another value leads nowhere -/
section RM
variable {g : gm_T} {p : pr_T} {S S2 : gs_T} {m t w : Nat} {F : Nat → Bool}
theorem gx_sum (q : gx_ g S t = some S2) : sP_ S t < gl_ g t ∧ sP_ S2 = un_ (sP_ S) t (sP_ S t + 1) ∧ (sW_ S2 = sW_ S ∨ (gC_ g (gB_ g t + sP_ S t) 1 = 0 ∧ sW_ S2 = ub_ (sW_ S) (gB_ g t + sP_ S t) true)) ∧
    (sR_ S2 = sR_ S ∨ ((gC_ g (gB_ g t + sP_ S t) 1 = 1 ∨ gC_ g (gB_ g t + sP_ S t) 1 = 2) ∧ ∃ v, sR_ S2 = un_ (sR_ S) (2 * t + (gC_ g (gB_ g t + sP_ S t) 3).toNat) v)) := by
  unfold gx_ at q
  dsimp only at q
  split at q
  · cases q
  · next z =>
    have z1 : sP_ S t < gl_ g t := by
      by_cases y : sP_ S t < gl_ g t
      · exact y
      · exact absurd (Or.inl y) z
    split at q
    · next y =>
      split at q
      · rw [← Option.some.inj q]
        exact ⟨z1, rfl, Or.inl rfl, Or.inl rfl⟩
      · rw [← Option.some.inj q]
        exact ⟨z1, rfl, Or.inr ⟨y, rfl⟩, Or.inl rfl⟩
    · split at q
      · next y =>
        rw [← Option.some.inj q]
        exact ⟨z1, rfl, Or.inl rfl, Or.inr ⟨Or.inl y, _, rfl⟩⟩
      · split at q
        · next y =>
          rw [← Option.some.inj q]
          exact ⟨z1, rfl, Or.inl rfl, Or.inr ⟨Or.inr y, _, rfl⟩⟩
        · rw [← Option.some.inj q]
          exact ⟨z1, rfl, Or.inl rfl, Or.inl rfl⟩
theorem gn_sum {l n : Nat} (q : gn_ g S t l = some n) : gB_ g t ≤ n ∧ n < gB_ g t + gl_ g t ∧ sW_ S n = true ∧ gC_ g n 2 = l := by
  have y2 : gw1_ g S t l = some n := by
    unfold gn_ at q
    cases y : gw1_ g S t l with
    | none => rw [y] at q; cases q
    | some k =>
      rw [y] at q
      dsimp only at q
      split at q
      · cases q
      · exact q
  have y1 := (f1_some _ _ _).mp y2
  have y3 := y1.2.2.1
  rw [Bool.and_eq_true, decide_eq_true_eq] at y3
  exact ⟨y1.1, y1.2.1, y3.1, y3.2⟩
theorem gc_sum {l : Nat} (q : gc_ g S t l = some S2) : ∃ n, gn_ g S t l = some n ∧ sP_ S2 = sP_ S ∧ sR_ S2 = sR_ S ∧ sW_ S2 = ub_ (sW_ S) n false := by
  unfold gc_ at q
  cases hn : gn_ g S t l with
  | none =>
    rw [hn] at q
    cases q
  | some n =>
    rw [hn] at q
    rw [← Option.some.inj q]
    exact ⟨n, rfl, rfl, rfl, rfl⟩
theorem ct_pt {f f2 : Nat → Bool} {n0 : Nat} : ∀ {N : Nat}, n0 < N → f n0 = true → f2 n0 = false → (∀ j, j ≠ n0 → f2 j = f j) → ct_ f N = ct_ f2 N + 1
  | 0, z, _, _, _ => absurd z (Nat.not_lt_zero _)
  | N + 1, z, z1, z2, z3 => by
    unfold ct_
    by_cases y : n0 = N
    · subst y
      rw [if_pos z1, if_neg (by rw [z2]; decide), ct_cg (fun j zj => z3 j (by omega))]
    · rw [ct_pt (by omega : n0 < N) z1 z2 z3, z3 N (fun e => y e.symm)]
      omega
theorem ct_mo {f f2 : Nat → Bool} : ∀ {N : Nat}, (∀ j, j < N → f j = true → f2 j = true) → ct_ f N ≤ ct_ f2 N
  | 0, _ => Nat.le_refl _
  | N + 1, z => by
    have ih := ct_mo (f := f) (f2 := f2) (N := N) (fun j zj => z j (by omega))
    have y := z N (Nat.lt_succ_self _)
    unfold ct_
    by_cases y1 : f N = true
    · rw [if_pos y1, if_pos (y y1)]
      omega
    · rw [if_neg y1]
      omega
theorem ct_l1 {f f2 : Nat → Bool} {n0 : Nat} (z3 : ∀ j, j ≠ n0 → f2 j = f j) : ∀ N : Nat, ct_ f2 N ≤ ct_ f N + 1 := by
  intro N
  by_cases y : n0 < N
  · by_cases y1 : f2 n0 = true
    · by_cases y2 : f n0 = true
      · refine Nat.le_succ_of_le (ct_mo (fun j _ z => ?_))
        by_cases y3 : j = n0
        · rw [y3]; exact y2
        · rw [← z3 j y3]; exact z
      · rw [ct_pt y y1 (Bool.eq_false_iff.mpr y2) (fun j z => (z3 j z).symm)]
        exact Nat.le_refl _
    · refine Nat.le_succ_of_le (ct_mo (fun j _ z => ?_))
      by_cases y3 : j = n0
      · rw [y3] at z; exact absurd z y1
      · rw [← z3 j y3]; exact z
  · rw [ct_cg (fun j zj => z3 j (by omega))]
    exact Nat.le_succ _
theorem ct_one {f : Nat → Bool} {n0 N : Nat} (z : n0 < N) (z1 : f n0 = true) : 1 ≤ ct_ f N := by
  have y := ct_pt (f := f) (f2 := fun j => if j = n0 then false else f j) z z1 (if_pos rfl) (fun j zj => if_neg zj)
  omega
/-- an instruction that is not executed yet; how many steps are left -/
def ux_ (p : pr_T) (S : gs_T) (n : Nat) : Bool := decide (gB0_ p (pC_ p n 0).toNat + sP_ S (pC_ p n 0).toNat ≤ n)
def lft_ (p : pr_T) (S : gs_T) : Nat := ct_ (ux_ p S) (pN_ p) + ct_ (fun n => ux_ p S n && decide (pC_ p n 1 = 0)) (pN_ p) + ct_ (sW_ S) (pN_ p)
theorem th_n (zP : Wp_ p) {k : Nat} (q : k < gl_ (gcl_ p m F) t) : gB0_ p t + k < pN_ p ∧ pC_ p (gB0_ p t + k) 0 = t := by
  have y1 := gl_le (m := m) (F := F) (t := t) zP
  have y5 : gl_ (gcl_ p m F) t = gB0_ p (t + 1) - gB0_ p t := rfl
  have zn : gB0_ p t + k < pN_ p := by omega
  exact ⟨zn, (gB_th zP zn).mpr ⟨by omega, by omega⟩⟩
theorem lft_x (zP : Wp_ p) (q : gx_ (gcl_ p m F) S t = some S2) : lft_ p S2 < lft_ p S := by
  obtain ⟨z1, z2, z3, -⟩ := gx_sum q
  have y := th_n zP z1
  have z3 : sW_ S2 = sW_ S ∨ (pC_ p (gB0_ p t + sP_ S t) 1 = 0 ∧ sW_ S2 = ub_ (sW_ S) (gB0_ p t + sP_ S t) true) := z3
  obtain ⟨n, hn⟩ : ∃ n, n = gB0_ p t + sP_ S t := ⟨_, rfl⟩
  rw [← hn] at y z3
  have u1 : ux_ p S n = true := decide_eq_true (by rw [y.2, Int.toNat_natCast]; omega)
  have u2 : ux_ p S2 n = false := decide_eq_false (by
    rw [y.2, Int.toNat_natCast, z2]
    unfold un_
    rw [if_pos rfl]
    omega)
  have u3 : ∀ j, j ≠ n → ux_ p S2 j = ux_ p S j := by
    intro j zj
    unfold ux_
    rw [z2]
    unfold un_
    by_cases e : (pC_ p j 0).toNat = t
    · rw [e, if_pos rfl]
      congr 1
      apply propext
      constructor
      · omega
      · omega
    · rw [if_neg e]
  have c1 := ct_pt y.1 u1 u2 u3
  have c2 : ct_ (fun n => ux_ p S2 n && decide (pC_ p n 1 = 0)) (pN_ p) ≤ ct_ (fun n => ux_ p S n && decide (pC_ p n 1 = 0)) (pN_ p) := ct_mo (fun j _ z => by
    rw [Bool.and_eq_true] at z ⊢
    refine ⟨?_, z.2⟩
    by_cases e : j = n
    · rw [e]; exact u1
    · rw [← u3 j e]; exact z.1)
  unfold lft_
  rcases z3 with z3 | ⟨k0, z3⟩
  · rw [z3]
    omega
  · have c3 : ct_ (fun n => ux_ p S n && decide (pC_ p n 1 = 0)) (pN_ p) = ct_ (fun n => ux_ p S2 n && decide (pC_ p n 1 = 0)) (pN_ p) + 1 := ct_pt y.1 (by
      show (ux_ p S n && decide (pC_ p n 1 = 0)) = true
      rw [u1, decide_eq_true k0]
      rfl) (by
      show (ux_ p S2 n && decide (pC_ p n 1 = 0)) = false
      rw [u2]
      rfl) (fun j zj => by
      show (ux_ p S2 j && decide (pC_ p j 1 = 0)) = (ux_ p S j && decide (pC_ p j 1 = 0))
      rw [u3 j zj])
    have c4 := ct_l1 (f := sW_ S) (f2 := sW_ S2) (n0 := n) (fun j zj => by
      rw [z3]
      exact if_neg zj) (pN_ p)
    omega
theorem lft_c (zP : Wp_ p) {l : Nat} (q : gc_ (gcl_ p m F) S t l = some S2) : lft_ p S2 < lft_ p S := by
  obtain ⟨n, z1, z2, z3, z4⟩ := gc_sum q
  have y := gn_sum z1
  have y1 := gl_le (m := m) (F := F) (t := t) zP
  have y3 : n < gB0_ p t + gl_ (gcl_ p m F) t := y.2.1
  have c1 := ct_pt (f := sW_ S) (f2 := sW_ S2) (n0 := n) (N := pN_ p) (by omega) y.2.2.1 (by rw [z4]; exact if_pos rfl) (fun j zj => by rw [z4]; exact if_neg zj)
  have e : ux_ p S2 = ux_ p S := by
    funext j
    unfold ux_
    rw [z2]
  unfold lft_
  rw [e]
  omega
theorem lft_step (zP : Wp_ p) (q : gt_ (gcl_ p m F) S t w = some S2) : lft_ p S2 < lft_ p S := by
  unfold gt_ at q
  split at q
  · exact lft_x zP q
  · exact lft_c zP q
theorem lft_0 (zP : Wp_ p) {k : Nat} : lft_ p (s0k_ p k) ≤ 18 := by
  have y1 := zP.1.1
  have y2 := ct_le (ux_ p (s0k_ p k)) (pN_ p)
  have y3 : ct_ (fun n => ux_ p (s0k_ p k) n && decide (pC_ p n 1 = 0)) (pN_ p) ≤ ct_ (fun i => decide (pC_ p i 1 ≠ 3)) (pN_ p) := ct_mo (fun j _ z => by
    rw [Bool.and_eq_true, decide_eq_true_eq] at z
    rw [decide_eq_true_eq]
    omega)
  have y4 := zP.2.2.2.2.2.2.2
  have y5 : ct_ (sW_ (s0k_ p k)) (pN_ p) = 0 := by
    have key : ∀ N, ct_ (fun _ => false) N = 0 := by
      intro N
      induction N with
      | zero => rfl
      | succ N ih =>
        unfold ct_
        rw [ih]
        rfl
    exact key _
  unfold lft_
  omega
theorem fi_iff (zP : Wp_ p) (zV : Vg_ p S) : fi_ p S = true ↔ (∀ t, t < pT_ p → sP_ S t = gl_ (gcl_ p 0 (fun _ => false)) t) ∧ ∀ n, sW_ S n = false := by
  have b1 := zP.1.2.1
  unfold fi_
  rw [decide_eq_true_eq]
  have w1 := en_cw (p := p) S
  have w2 := en_cw (p := p) (s1k_ p (pT_ p))
  constructor
  · intro e
    constructor
    · intro t zt
      have e1 := cw_P w1 (t := t) (by omega) (zV.1.1 t).1
      have g7 : gl_ (gcl_ p 0 (fun _ => false)) t ≤ 7 := gl_7 zP t
      have e3 : sP_ (s1k_ p (pT_ p)) t = gl_ (gcl_ p 0 (fun _ => false)) t := if_pos zt
      have e2 := cw_P w2 (t := t) (by omega) (by rw [e3]; omega)
      rw [e3] at e2
      rw [← e1, ← e2, show 32 + 3 * t = 22 + (10 + 3 * t) by omega, Nat.pow_add, ← Nat.div_div_eq_div_mul, ← Nat.div_div_eq_div_mul, e]
    · intro n
      by_cases zn : n < 10
      · have e1 := cw_W w1 (i := n) zn
        have e2 := cw_W w2 (i := n) zn
        rw [← e1, Nat.add_comm 22 n, ← Nat.testBit_div_two_pow, e, Nat.testBit_div_two_pow, Nat.add_comm n 22, e2]
        rfl
      · exact zV.1.2.2.2 n (by omega)
  · rintro ⟨z1, z2⟩
    apply Nat.eq_of_testBit_eq
    intro k
    rw [Nat.testBit_div_two_pow, Nat.testBit_div_two_pow, w1, w2]
    unfold cB_
    rw [if_neg (show ¬ k + 22 < 22 by omega), if_neg (show ¬ k + 22 < 22 by omega)]
    by_cases y1 : k + 22 < 32
    · rw [if_pos y1, if_pos y1, z2]
      rfl
    · rw [if_neg y1, if_neg y1]
      by_cases y2 : k + 22 < 44
      · rw [if_pos y2, if_pos y2]
        congr 1
        by_cases y3 : (k + 22 - 32) / 3 < pT_ p
        · rw [z1 _ y3]
          exact (if_pos y3).symm
        · rw [(zV.1.1 _).2 (by omega)]
          exact (if_neg y3).symm
      · rw [if_neg y2, if_neg y2]
theorem lft_fin (zP : Wp_ p) (zV : Vg_ p S) (h : lft_ p S = 0) : fi_ p S = true := by
  rw [fi_iff zP zV]
  unfold lft_ at h
  constructor
  · intro t zt
    have y := zV.2.1 t
    by_cases y1 : sP_ S t < gl_ (gcl_ p 0 (fun _ => false)) t
    · have y2 := th_n zP y1
      have y3 := ct_one (f := ux_ p S) y2.1 (decide_eq_true (by rw [y2.2, Int.toNat_natCast]; omega))
      omega
    · omega
  · intro n
    cases hn : sW_ S n with
    | false => rfl
    | true =>
      have y3 := ct_one (f := sW_ S) (zV.2.2 n hn).1 hn
      omega
/-- paths -/
def rn_ (g : gm_T) : gs_T → List (Nat × Nat) → Option gs_T
  | S, [] => some S
  | S, q :: r => match gt_ g S q.1 q.2 with
    | some S2 => rn_ g S2 r
    | none => none
def Ld_ (p : pr_T) (g : gm_T) (c : Nat) (S : gs_T) : Prop := ∃ path S2, (∀ q ∈ path, q.1 < pT_ p ∧ q.2 ≤ pL_ p) ∧ rn_ g S path = some S2 ∧ fi_ p S2 = true ∧ cc_ p S2 = c
theorem ld_fin {g : gm_T} {c : Nat} (h : fi_ p S = true) (e : cc_ p S = c) : Ld_ p g c S := ⟨[], S, fun q z => (by cases z), rfl, h, e⟩
theorem ld_step {g : gm_T} {c : Nat} (q1 : t < pT_ p) (q2 : w ≤ pL_ p) (e : gt_ g S t w = some S2) (h : Ld_ p g c S2) : Ld_ p g c S := by
  obtain ⟨path, S3, h1, h2, h3, h4⟩ := h
  refine ⟨(t, w) :: path, S3, fun q z => ?_, ?_, h3, h4⟩
  · rcases List.mem_cons.mp z with rfl | z
    · exact ⟨q1, q2⟩
    · exact h1 q z
  · show (match gt_ g S t w with | some S2 => rn_ g S2 path | none => none) = _
    rw [e]
    exact h2
theorem fi_stop (zP : Wp_ p) (zV : Vg_ p S) (h : fi_ p S = true) (q1 : t < pT_ p) : gt_ (gcl_ p m F) S t w = none := by
  have y := (fi_iff zP zV).mp h
  cases e : gt_ (gcl_ p m F) S t w with
  | none => rfl
  | some S3 =>
    unfold gt_ at e
    split at e
    · have z := (gx_sum e).1
      have z2 := y.1 t q1
      have z3 : gl_ (gcl_ p m F) t = gl_ (gcl_ p 0 (fun _ => false)) t := rfl
      omega
    · obtain ⟨n, z1, -⟩ := gc_sum e
      have z2 := (gn_sum z1).2.2.1
      rw [y.2] at z2
      cases z2
theorem ld_cases (zP : Wp_ p) (zV : Vg_ p S) {c : Nat} (h : Ld_ p (gcl_ p m F) c S) : (fi_ p S = true ∧ cc_ p S = c) ∨ (fi_ p S = false ∧ ∃ t w S2, t < pT_ p ∧ w ≤ pL_ p ∧ gt_ (gcl_ p m F) S t w = some S2 ∧ Ld_ p (gcl_ p m F) c S2) := by
  obtain ⟨path, S3, h1, h2, h3, h4⟩ := h
  cases path with
  | nil =>
    have h2 : some S = some S3 := h2
    have h2 := Option.some.inj h2
    subst h2
    exact Or.inl ⟨h3, h4⟩
  | cons q r =>
    have hq := h1 q (List.mem_cons_self)
    have h2 : (match gt_ (gcl_ p m F) S q.1 q.2 with | some S2 => rn_ (gcl_ p m F) S2 r | none => none) = some S3 := h2
    right
    cases e : gt_ (gcl_ p m F) S q.1 q.2 with
    | none => rw [e] at h2; cases h2
    | some S2 =>
      rw [e] at h2
      refine ⟨?_, q.1, q.2, S2, hq.1, hq.2, e, r, S3, fun x zx => h1 x (List.mem_cons_of_mem _ zx), h2, h3, h4⟩
      cases hf : fi_ p S with
      | false => rfl
      | true =>
        rw [fi_stop zP zV hf hq.1] at e
        cases e
end RM
