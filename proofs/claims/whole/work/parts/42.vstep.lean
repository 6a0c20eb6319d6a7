/-! a step leads from a state of the program to one -/
section VS
variable {p : pr_T} {S S2 : gs_T} {m t w : Nat} {F : Nat → Bool}
theorem gl_le (zP : Wp_ p) : gB0_ p t + gl_ (gcl_ p m F) t ≤ pN_ p := by
  have y : gB0_ p t ≤ gB0_ p (t + 1) := gB_mono zP (Nat.le_succ t)
  have y1 : gB0_ p (t + 1) ≤ pN_ p := gB_le (t + 1)
  show gB0_ p t + (gB0_ p (t + 1) - gB0_ p t) ≤ _
  omega
theorem vg_P (zP : Wp_ p) (zV : Vg_ p S) (q1 : t < pT_ p) (q2 : sP_ S t < gl_ (gcl_ p m F) t) : Vg_ p (un_ (sP_ S) t (sP_ S t + 1), sR_ S, sM_ S, sW_ S) := by
  have y : gl_ (gcl_ p m F) t ≤ 7 := gl_7 zP t
  refine ⟨vs_P zV.1 q1 (by omega), fun u => ?_, zV.2.2⟩
  show un_ (sP_ S) t (sP_ S t + 1) u ≤ _
  unfold un_
  by_cases z : u = t
  · rw [if_pos z, z]
    exact q2
  · rw [if_neg z]
    exact zV.2.1 u
theorem vg_R (zV : Vg_ p S) {q v : Nat} (q1 : q < 2 * pT_ p) (q2 : v < 4) : Vg_ p (sP_ S, un_ (sR_ S) q v, sM_ S, sW_ S) := ⟨vs_R zV.1 q1 q2, zV.2.1, zV.2.2⟩
theorem vg_M (zV : Vg_ p S) {l v : Nat} (q1 : l < pL_ p) (q2 : v < 4) : Vg_ p (sP_ S, sR_ S, un_ (sM_ S) l v, sW_ S) := ⟨vs_M zV.1 q1 q2, zV.2.1, zV.2.2⟩
theorem vg_W (zV : Vg_ p S) {i : Nat} {v : Bool} (q1 : i < 10) (q2 : v = true → i < pN_ p ∧ pC_ p i 1 = 0) : Vg_ p (sP_ S, sR_ S, sM_ S, ub_ (sW_ S) i v) := by
  refine ⟨vs_W zV.1 q1, zV.2.1, fun n zn => ?_⟩
  have zn : ub_ (sW_ S) i v n = true := zn
  unfold ub_ at zn
  by_cases z : n = i
  · rw [if_pos z] at zn
    rw [z]
    exact q2 zn
  · rw [if_neg z] at zn
    exact zV.2.2 n zn
theorem vg_x (zP : Wp_ p) (zV : Vg_ p S) (q1 : t < pT_ p) (q : gx_ (gcl_ p m F) S t = some S2) : Vg_ p S2 := by
  unfold gx_ at q
  dsimp only at q
  split at q
  · cases q
  · next z =>
    have z1 : sP_ S t < gl_ (gcl_ p m F) t := by
      by_cases y : sP_ S t < gl_ (gcl_ p m F) t
      · exact y
      · exact absurd (Or.inl y) z
    have z2 : gB0_ p t + gl_ (gcl_ p m F) t ≤ pN_ p := gl_le zP
    have zn : gB0_ p t + sP_ S t < pN_ p := by omega
    have zB := zP.1
    have zc := zP.2.1 _ zn
    have v1 := vg_P zP zV q1 z1
    have q : (if pC_ p (gB0_ p t + sP_ S t) 1 = 0 then (if m = 0 then some (un_ (sP_ S) t (sP_ S t + 1), sR_ S, un_ (sM_ S) (pC_ p (gB0_ p t + sP_ S t) 2).toNat (gv_ (gcl_ p m F) S t (gB0_ p t + sP_ S t)), sW_ S) else some (un_ (sP_ S) t (sP_ S t + 1), sR_ S, sM_ S, ub_ (sW_ S) (gB0_ p t + sP_ S t) true))
      else if pC_ p (gB0_ p t + sP_ S t) 1 = 1 then some (un_ (sP_ S) t (sP_ S t + 1), un_ (sR_ S) (2 * t + (pC_ p (gB0_ p t + sP_ S t) 3).toNat) (match gw2_ (gcl_ p m F) S t (pC_ p (gB0_ p t + sP_ S t) 2) with | some j => gv_ (gcl_ p m F) S t j | none => sM_ S (pC_ p (gB0_ p t + sP_ S t) 2).toNat), sM_ S, sW_ S)
      else if pC_ p (gB0_ p t + sP_ S t) 1 = 2 then some (un_ (sP_ S) t (sP_ S t + 1), un_ (sR_ S) (2 * t + (pC_ p (gB0_ p t + sP_ S t) 3).toNat) (sM_ S (pC_ p (gB0_ p t + sP_ S t) 2).toNat), un_ (sM_ S) (pC_ p (gB0_ p t + sP_ S t) 2).toNat (gv_ (gcl_ p m F) S t (gB0_ p t + sP_ S t)), sW_ S)
      else some (un_ (sP_ S) t (sP_ S t + 1), sR_ S, sM_ S, sW_ S)) = some S2 := q
    have hv := gv_lt (m := m) (F := F) (t := t) zP zV.1 zn
    generalize gB0_ p t + sP_ S t = n at q zn zc hv
    have yN := zB.1
    split at q
    · next y =>
      split at q
      · rw [← Option.some.inj q]
        exact vg_M v1 (by omega) hv
      · rw [← Option.some.inj q]
        exact vg_W v1 (by omega) (fun _ => ⟨zn, y⟩)
    · split at q
      · next y =>
        rw [← Option.some.inj q]
        refine vg_R v1 (by omega) ?_
        cases hj : gw2_ (gcl_ p m F) S t (pC_ p n 2) with
        | none => exact (zV.1.2.2.1 _).1
        | some j =>
          have y1 := (f2_some _ _ _).mp hj
          have y2 : j < gB0_ p t + gl_ (gcl_ p m F) t := y1.2.1
          exact gv_lt zP zV.1 (by omega)
      · split at q
        · rw [← Option.some.inj q]
          exact vg_M (vg_R v1 (by omega) (zV.1.2.2.1 _).1) (by omega) hv
        · rw [← Option.some.inj q]
          exact v1
theorem vg_c (zP : Wp_ p) (zV : Vg_ p S) {l : Nat} (q1 : l < pL_ p) (q : gc_ (gcl_ p m F) S t l = some S2) : Vg_ p S2 := by
  unfold gc_ at q
  cases hn : gn_ (gcl_ p m F) S t l with
  | none =>
    rw [hn] at q
    cases q
  | some n =>
    rw [hn] at q
    have y2 : gw1_ (gcl_ p m F) S t l = some n := by
      unfold gn_ at hn
      cases y : gw1_ (gcl_ p m F) S t l with
      | none => rw [y] at hn; cases hn
      | some k =>
        rw [y] at hn
        dsimp only at hn
        split at hn
        · cases hn
        · exact hn
    have y1 := (f1_some _ _ _).mp y2
    have y3 : n < gB0_ p t + gl_ (gcl_ p m F) t := y1.2.1
    have y4 : gB0_ p t + gl_ (gcl_ p m F) t ≤ pN_ p := gl_le zP
    have yN := zP.1.1
    rw [← Option.some.inj q]
    exact vg_W (vg_M zV q1 (gv_lt zP zV.1 (by omega))) (by omega) (fun z => absurd z (by decide))
theorem vg_step (zP : Wp_ p) (zV : Vg_ p S) (q1 : t < pT_ p) (q2 : w ≤ pL_ p) (q : gt_ (gcl_ p m F) S t w = some S2) : Vg_ p S2 := by
  unfold gt_ at q
  split at q
  · exact vg_x zP zV q1 q
  · exact vg_c zP zV (by omega) q
end VS
