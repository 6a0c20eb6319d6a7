/-! what is parsed is a good program -/
section VA
variable {B : Nat → Int} {n k : Nat} {p : pr_T} {P : pq_T}
theorem ppi0 {j : Nat} (hj : j < pN_ p) : pp_ p (j : Int) 0 = pC_ p j 0 := ppi_ (k := 0) hj (by decide)
theorem ppi1 {j : Nat} (hj : j < pN_ p) : pp_ p (j : Int) 1 = pC_ p j 1 := ppi_ (k := 1) hj (by decide)
theorem ppi3 {j : Nat} (hj : j < pN_ p) : pp_ p (j : Int) 3 = pC_ p j 3 := ppi_ (k := 3) hj (by decide)
theorem num4_rng (h2 : csg_ B n k = 4) : 0 ≤ tnu_ B n k := by
  obtain ⟨a1, a2, a3, a4, a5⟩ := csg_4 h2
  have hr := tst_rg (B := B) a1
  have al : ∀ j, tq_ B n k ≤ j → j < tst_ B n (tq_ B n k) → isd_ (B j) = true := fun j z1 z2 => ru_all (fun i => isd_ (B i)) (n - tq_ B n k) (tq_ B n k) j z1 (by rw [← a5]; omega)
  have e1 : tnu_ B n k = nv_ B (tq_ B n k) (tst_ B n (tq_ B n k) - tq_ B n k) := if_pos h2
  rw [e1]
  have d0 := al (tq_ B n k) (Nat.le_refl _) (by omega)
  unfold isd_ at d0
  rw [decide_eq_true_eq] at d0
  unfold nv_
  split
  · omega
  · split
    · omega
    · have d1 := al (tq_ B n k + 1) (by omega) (by omega)
      unfold isd_ at d1
      rw [decide_eq_true_eq] at d1
      omega
theorem wp_addL (zP : Wp_ p) (h : pL_ p < 3) {v : Int} (hv : 0 ≤ v ∧ v ≤ 3) : Wp_ (pN_ p, pT_ p, pL_ p + 1, upd_ (pI_ p) (pL_ p) v, pC_ p) := by
  obtain ⟨⟨b1, b2, b3, b4, b5⟩, w1, w2⟩ := zP
  refine ⟨⟨b1, b2, h, fun l => ?_, b5⟩, fun i zi => ?_, w2⟩
  · show 0 ≤ (if l = pL_ p then v else pI_ p l) ∧ (if l = pL_ p then v else pI_ p l) ≤ 3
    split
    · exact hv
    · exact b4 l
  · obtain ⟨y0, y1, y2, y3, y4, y5⟩ := w1 i zi
    refine ⟨y0, y1, y2, y3, fun z => ?_, y5⟩
    have y := y4 z
    refine ⟨y.1, ?_⟩
    show pC_ p i 2 < ((pL_ p + 1 : Nat) : Int)
    have yy := y.2
    omega
theorem wp_addT (zP : Wp_ p) (h : pT_ p < 4) : Wp_ (pN_ p, pT_ p + 1, pL_ p, pI_ p, pC_ p) := by
  obtain ⟨⟨b1, b2, b3, b4, b5⟩, w1, w2⟩ := zP
  refine ⟨⟨b1, h, b3, b4, b5⟩, fun i zi => ?_, w2⟩
  obtain ⟨y0, y1, y2⟩ := w1 i zi
  refine ⟨y0, ?_, y2⟩
  show pC_ p i 0 < ((pT_ p + 1 : Nat) : Int)
  omega
/-- an instruction behind the others -/
theorem wp_addI (zP : Wp_ p) (hN : pN_ p < 10) {row : Nat → Int} (hb : ∀ k, -1 ≤ row k ∧ row k ≤ 3) (hT : 0 < pT_ p) (h0 : row 0 = (pT_ p : Int) - 1) (hk : 0 ≤ row 1)
    (k3 : row 1 = 3 → row 2 = -1 ∧ row 3 = -1 ∧ row 4 = -1 ∧ row 5 = -1) (kl : row 1 ≠ 3 → 0 ≤ row 2 ∧ row 2 < pL_ p) (kr : (row 1 = 1 ∨ row 1 = 2) → 0 ≤ row 3 ∧ row 3 ≤ 1) (k0 : row 1 = 0 → row 3 = -1) (k1 : row 1 = 1 → row 4 = -1 ∧ row 5 = -1)
    (kv : (row 1 = 0 ∨ row 1 = 2) → (0 ≤ row 4 ∧ row 5 = -1) ∨ (row 4 = -1 ∧ 0 ≤ row 5 ∧ row 5 ≤ 1))
    (hu : row 3 ≠ -1 → ∀ j, j < pN_ p → ¬ (pC_ p j 0 = row 0 ∧ pC_ p j 3 = row 3)) (hs : row 5 ≠ -1 → ∃ j, j < pN_ p ∧ pC_ p j 0 = row 0 ∧ pC_ p j 3 = row 5)
    (c7 : ct_ (fun i => decide (pC_ p i 0 = row 0)) (pN_ p) < 7) (c4 : row 1 ≠ 3 → ct_ (fun i => decide (pC_ p i 0 = row 0 ∧ pC_ p i 1 ≠ 3)) (pN_ p) < 4) (c8 : row 1 ≠ 3 → ct_ (fun i => decide (pC_ p i 1 ≠ 3)) (pN_ p) < 8) : Wp_ (pN_ p + 1, pT_ p, pL_ p, pI_ p, upd_ (pC_ p) (pN_ p) row) := by
  obtain ⟨⟨b1, b2, b3, b4, b5⟩, w1, w2, w3, w4, w5, w6, w7⟩ := zP
  have eo : ∀ i, i < pN_ p → upd_ (pC_ p) (pN_ p) row i = pC_ p i := fun i zi => if_neg (by omega)
  have en : upd_ (pC_ p) (pN_ p) row (pN_ p) = row := if_pos rfl
  have cas : ∀ i, i < pN_ p + 1 → i < pN_ p ∨ i = pN_ p := fun i zi => by omega
  have ct : ∀ f : (Nat → Int) → Bool, ct_ (fun i => f (upd_ (pC_ p) (pN_ p) row i)) (pN_ p + 1) = ct_ (fun i => f (pC_ p i)) (pN_ p) + (if f row = true then 1 else 0) := fun f => by
    rw [show ct_ (fun i => f (upd_ (pC_ p) (pN_ p) row i)) (pN_ p + 1) = ct_ (fun i => f (upd_ (pC_ p) (pN_ p) row i)) (pN_ p) + (if f (upd_ (pC_ p) (pN_ p) row (pN_ p)) = true then 1 else 0) from rfl, en]
    congr 1
    exact ct_cg (fun j hj => by rw [eo j hj])
  refine ⟨⟨hN, b2, b3, b4, fun i k => ?_⟩, fun i zi => ?_, fun i j zij zj => ?_, fun i j zi zj e0 e3 e1 => ?_, fun i zi e5 => ?_, fun u => ?_, fun u => ?_, ?_⟩
  · show -1 ≤ (if i = pN_ p then row else pC_ p i) k ∧ (if i = pN_ p then row else pC_ p i) k ≤ 3
    split
    · exact hb k
    · exact b5 i k
  · show 0 ≤ upd_ (pC_ p) (pN_ p) row i 0 ∧ upd_ (pC_ p) (pN_ p) row i 0 < pT_ p ∧ 0 ≤ upd_ (pC_ p) (pN_ p) row i 1 ∧
      (upd_ (pC_ p) (pN_ p) row i 1 = 3 → upd_ (pC_ p) (pN_ p) row i 2 = -1 ∧ upd_ (pC_ p) (pN_ p) row i 3 = -1 ∧ upd_ (pC_ p) (pN_ p) row i 4 = -1 ∧ upd_ (pC_ p) (pN_ p) row i 5 = -1) ∧
      (upd_ (pC_ p) (pN_ p) row i 1 ≠ 3 → 0 ≤ upd_ (pC_ p) (pN_ p) row i 2 ∧ upd_ (pC_ p) (pN_ p) row i 2 < pL_ p) ∧
      ((upd_ (pC_ p) (pN_ p) row i 1 = 1 ∨ upd_ (pC_ p) (pN_ p) row i 1 = 2) → 0 ≤ upd_ (pC_ p) (pN_ p) row i 3 ∧ upd_ (pC_ p) (pN_ p) row i 3 ≤ 1) ∧
      (upd_ (pC_ p) (pN_ p) row i 1 = 0 → upd_ (pC_ p) (pN_ p) row i 3 = -1) ∧
      (upd_ (pC_ p) (pN_ p) row i 1 = 1 → upd_ (pC_ p) (pN_ p) row i 4 = -1 ∧ upd_ (pC_ p) (pN_ p) row i 5 = -1) ∧
      ((upd_ (pC_ p) (pN_ p) row i 1 = 0 ∨ upd_ (pC_ p) (pN_ p) row i 1 = 2) → (0 ≤ upd_ (pC_ p) (pN_ p) row i 4 ∧ upd_ (pC_ p) (pN_ p) row i 5 = -1) ∨ (upd_ (pC_ p) (pN_ p) row i 4 = -1 ∧ 0 ≤ upd_ (pC_ p) (pN_ p) row i 5 ∧ upd_ (pC_ p) (pN_ p) row i 5 ≤ 1))
    rcases cas i zi with y | y
    · rw [eo i y]
      exact w1 i y
    · rw [y, en]
      exact ⟨by omega, by omega, hk, k3, kl, kr, k0, k1, kv⟩
  · show upd_ (pC_ p) (pN_ p) row i 0 ≤ upd_ (pC_ p) (pN_ p) row j 0
    rcases cas j zj with y | y
    · rw [eo i (by omega), eo j y]
      exact w2 i j zij y
    · rw [y, en]
      rcases cas i (by omega) with x | x
      · rw [eo i x, h0]
        have := (w1 i x).2.1
        omega
      · rw [x, en]
        exact Int.le_refl _
  · have e0 : upd_ (pC_ p) (pN_ p) row i 0 = upd_ (pC_ p) (pN_ p) row j 0 := e0
    have e3 : upd_ (pC_ p) (pN_ p) row i 3 = upd_ (pC_ p) (pN_ p) row j 3 := e3
    have e1 : upd_ (pC_ p) (pN_ p) row i 3 ≠ -1 := e1
    rcases cas i zi with x | x
    · rcases cas j zj with y | y
      · rw [eo i x, eo j y] at e0 e3
        rw [eo i x] at e1
        exact w3 i j x y e0 e3 e1
      · rw [eo i x, y, en] at e0 e3
        rw [eo i x] at e1
        exact absurd ⟨e0, e3⟩ (hu (by rw [← e3]; exact e1) i x)
    · rcases cas j zj with y | y
      · rw [eo j y, x, en] at e0 e3
        rw [x, en] at e1
        exact absurd ⟨e0.symm, e3.symm⟩ (hu e1 j y)
      · omega
  · have e5 : upd_ (pC_ p) (pN_ p) row i 5 ≠ -1 := e5
    show ∃ j, j < i ∧ upd_ (pC_ p) (pN_ p) row j 0 = upd_ (pC_ p) (pN_ p) row i 0 ∧ upd_ (pC_ p) (pN_ p) row j 3 = upd_ (pC_ p) (pN_ p) row i 5
    rcases cas i zi with x | x
    · rw [eo i x] at e5 ⊢
      obtain ⟨j, y1, y2, y3⟩ := w4 i x e5
      exact ⟨j, y1, by rw [eo j (by omega)]; exact y2, by rw [eo j (by omega)]; exact y3⟩
    · rw [x, en] at e5 ⊢
      obtain ⟨j, y1, y2, y3⟩ := hs e5
      exact ⟨j, y1, by rw [eo j y1]; exact y2, by rw [eo j y1]; exact y3⟩
  · have y := ct (fun c => decide (c 0 = u))
    show ct_ (fun i => decide (upd_ (pC_ p) (pN_ p) row i 0 = u)) (pN_ p + 1) ≤ 7
    have y2 := w5 u
    rw [y]
    by_cases e : row 0 = u
    · rw [decide_eq_true e, if_pos rfl, ← e]
      omega
    · rw [decide_eq_false e, if_neg (by decide)]
      exact y2
  · have y := ct (fun c => decide (c 0 = u ∧ c 1 ≠ 3))
    show ct_ (fun i => decide (upd_ (pC_ p) (pN_ p) row i 0 = u ∧ upd_ (pC_ p) (pN_ p) row i 1 ≠ 3)) (pN_ p + 1) ≤ 4
    have y2 := w6 u
    rw [y]
    by_cases e : row 0 = u ∧ row 1 ≠ 3
    · have y4 := c4 e.2
      rw [decide_eq_true e, if_pos rfl, ← e.1]
      omega
    · rw [decide_eq_false e, if_neg (by decide)]
      exact y2
  · have y := ct (fun c => decide (c 1 ≠ 3))
    show ct_ (fun i => decide (upd_ (pC_ p) (pN_ p) row i 1 ≠ 3)) (pN_ p + 1) ≤ 8
    rw [y]
    by_cases e : row 1 ≠ 3
    · have y4 := c8 e
      rw [decide_eq_true e, if_pos rfl]
      omega
    · rw [decide_eq_false e, if_neg (by decide)]
      exact w7
/-- all accesses of threads below t -/
theorem acs_ct (hP : Wp_ p) : ∀ t : Nat, acs_ p t = ct_ (fun i => decide (pC_ p i 0 < t ∧ pC_ p i 1 ≠ 3)) (pN_ p)
  | 0 => by
    have y : ct_ (fun i => decide (pC_ p i 0 < ((0 : Nat) : Int) ∧ pC_ p i 1 ≠ 3)) (pN_ p) = ct_ (fun _ => false) (pN_ p) := ct_cg (fun j hj => decide_eq_false (fun z => by
      have := (hP.2.1 j hj).1
      omega))
    rw [y]
    have z : ∀ m, ct_ (fun _ => false) m = 0 := fun m => by
      induction m with
      | zero => rfl
      | succ m ih => rw [ct_, ih]; rfl
    rw [z]
    rfl
  | t + 1 => by
    show acs_ p t + ct_ (fun i => decide (pp_ p i 0 = (t : Nat) ∧ pp_ p i 1 ≠ 3)) (pN_ p) = _
    rw [acs_ct hP t]
    have y := ct_split (fun i => decide (pC_ p i 0 < ((t + 1 : Nat) : Int) ∧ pC_ p i 1 ≠ 3)) (fun i => decide (pC_ p i 0 < t)) (pN_ p)
    have e1 : ct_ (fun i => decide (pC_ p i 0 < ((t + 1 : Nat) : Int) ∧ pC_ p i 1 ≠ 3) && decide (pC_ p i 0 < t)) (pN_ p) = ct_ (fun i => decide (pC_ p i 0 < t ∧ pC_ p i 1 ≠ 3)) (pN_ p) := ct_cg (fun j _ => by
      by_cases a : pC_ p j 0 < t
      · simp [a]; omega
      · simp [a])
    have e2 : ct_ (fun i => decide (pC_ p i 0 < ((t + 1 : Nat) : Int) ∧ pC_ p i 1 ≠ 3) && !decide (pC_ p i 0 < t)) (pN_ p) = ct_ (fun i => decide (pp_ p i 0 = (t : Nat) ∧ pp_ p i 1 ≠ 3)) (pN_ p) := ct_cg (fun j hj => by
      rw [ppi0 hj, ppi1 hj]
      by_cases a : pC_ p j 0 = t
      · simp [a]
        intro _
        omega
      · by_cases b : pC_ p j 0 < t
        · simp [a, b]
        · simp [a, b]; omega)
    rw [e1, e2] at y
    exact y
theorem lnm_rng {l : List Int} (h : lnm_ P l ≠ -1) : 0 ≤ lnm_ P l ∧ lnm_ P l < pL_ P.1 := by
  unfold lnm_ at h ⊢
  rcases pl_spec (fun i => decide (P.2.1 i = l)) (pL_ P.1) 0 0 with e | ⟨j, e, e1, e2, e3⟩
  · exact absurd e h
  · rw [e]
    omega
theorem itg_iff {t r : Int} : itg_ p t r = true ↔ ∃ j, j < pN_ p ∧ pC_ p j 0 = t ∧ pC_ p j 3 = r := by
  unfold itg_
  rw [an_iff]
  constructor
  · rintro ⟨j, h1, h2⟩
    rw [decide_eq_true_eq, ppi0 h1, ppi3 h1] at h2
    exact ⟨j, h1, h2⟩
  · rintro ⟨j, h1, h2⟩
    refine ⟨j, h1, ?_⟩
    rw [decide_eq_true_eq, ppi0 h1, ppi3 h1]
    exact h2
/-- what readings answer -/
theorem rtg_v {t : Nat} {S S2 : qs_T} {g : Int} (h : rtg_ B n t S = .inl (g, S2)) : (g = 0 ∨ g = 1) ∧ itg_ S.2.1.1 t g = false := by
  unfold rtg_ at h
  split at h
  · next c =>
    split at h
    · cases h
    · next c2 =>
      have y := (Prod.mk.inj (Sum.inl.inj h)).1
      rw [← y]
      exact ⟨(csg_2 c).2.2.1, Bool.eq_false_iff.mpr c2⟩
  · cases h
theorem rlo_v {S S2 : qs_T} {g : Int} (h : rlo_ B n S = .inl (g, S2)) : 0 ≤ g ∧ g < pL_ S.2.1.1 := by
  unfold rlo_ at h
  split at h
  · split at h
    · cases h
    · next c2 =>
      have y := (Prod.mk.inj (Sum.inl.inj h)).1
      rw [← y]
      exact lnm_rng c2
  · cases h
theorem rva_v {t : Nat} {S S2 : qs_T} {x : Int × Int} (h : rva_ B n t S = .inl (x, S2)) : (0 ≤ x.1 ∧ x.1 ≤ 3 ∧ x.2 = -1) ∨ (x.1 = -1 ∧ (x.2 = 0 ∨ x.2 = 1) ∧ itg_ S.2.1.1 t x.2 = true) := by
  unfold rva_ at h
  split at h
  · next c =>
    split at h
    · next c2 =>
      have y := (Prod.mk.inj (Sum.inl.inj h)).1
      rw [← y]
      exact Or.inr ⟨rfl, (csg_2 c).2.2.1, c2⟩
    · cases h
  · cases hv : vl_ B n S with
    | inr e => rw [hv] at h; cases h
    | inl S3 =>
      rw [hv] at h
      have y := (Prod.mk.inj (Sum.inl.inj h)).1
      rw [← y]
      obtain ⟨-, a1, a2⟩ := vl_inl hv
      exact Or.inl ⟨num4_rng a1, a2, rfl⟩
def Wx_ (P : pq_T) : Prop := Wp_ P.1 ∧ Cn_ P.1 ∧ P.2.2 = []
theorem ins_w {kd : Int} {S S2 : qs_T} (hk : 0 ≤ kd ∧ kd ≤ 3) (hT : 0 < pT_ S.2.1.1) (hW : Wx_ S.2.1) (h : ins_ B n (pT_ S.2.1.1 - 1) kd S = .inl S2) : Wx_ S2.2.1 ∧ pT_ S2.2.1.1 = pT_ S.2.1.1 := by
  obtain ⟨W, C, e0⟩ := hW
  unfold ins_ at h
  split at h
  · cases h
  · next cf =>
    have cf2 : ¬ (7 ≤ ct_ (fun i => decide (pp_ S.2.1.1 i 0 = ((pT_ S.2.1.1 - 1 : Nat) : Int))) (pN_ S.2.1.1) ∨ 10 ≤ pN_ S.2.1.1 ∨ (kd ≠ 3 ∧ (4 ≤ ct_ (fun i => decide (pp_ S.2.1.1 i 0 = ((pT_ S.2.1.1 - 1 : Nat) : Int) ∧ pp_ S.2.1.1 i 1 ≠ 3)) (pN_ S.2.1.1) ∨ 8 ≤ acs_ S.2.1.1 (pT_ S.2.1.1)))) := fun z => cf (decide_eq_true z)
    cases h1 : (if kd = 1 ∨ kd = 2 then rtg_ B n (pT_ S.2.1.1 - 1) (S.1 + 1, S.2) else .inl (-1, (S.1 + 1, S.2)) : (Int × qs_T) ⊕ Nat) with
    | inr e => rw [h1] at h; cases h
    | inl y1 =>
      obtain ⟨g, S3⟩ := y1
      rw [h1] at h
      dsimp only at h
      have q3 : S3.2 = S.2 := by
        split at h1
        · exact rtg_S (S := (S.1 + 1, S.2)) h1
        · rw [← (Prod.mk.inj (Sum.inl.inj h1)).2]
      cases h2 : (if kd = 3 then .inl (-1, S3) else rlo_ B n S3 : (Int × qs_T) ⊕ Nat) with
      | inr e => rw [h2] at h; cases h
      | inl y2 =>
        obtain ⟨l, S4⟩ := y2
        rw [h2] at h
        dsimp only at h
        have q4 : S4.2 = S3.2 := by
          split at h2
          · rw [← (Prod.mk.inj (Sum.inl.inj h2)).2]
          · exact rlo_S h2
        cases h3 : (if kd = 0 ∨ kd = 2 then rva_ B n (pT_ S.2.1.1 - 1) S4 else .inl ((-1, -1), S4) : ((Int × Int) × qs_T) ⊕ Nat) with
        | inr e => rw [h3] at h; cases h
        | inl y3 =>
          obtain ⟨x, S5⟩ := y3
          rw [h3] at h
          dsimp only at h
          have q5 : S5.2 = S4.2 := by
            split at h3
            · exact rva_S h3
            · rw [← (Prod.mk.inj (Sum.inl.inj h3)).2]
          cases h4 : xp_ B n 15 S5 with
          | inr e => rw [h4] at h; cases h
          | inl S6 =>
            rw [h4] at h
            dsimp only at h
            obtain ⟨-, q6⟩ := xp_S h4
            have e6 : S6.2 = S.2 := by rw [q6]; show S5.2 = S.2; rw [q5, q4, q3]
            rw [e6] at h
            have h := (Sum.inl.inj h).symm
            rw [h]
            show Wx_ (pai_ S.2.1 kd l g x.1 x.2) ∧ pT_ S.2.1.1 = pT_ S.2.1.1
            have g1 : (kd = 1 ∨ kd = 2) → (g = 0 ∨ g = 1) ∧ itg_ S.2.1.1 ((pT_ S.2.1.1 - 1 : Nat) : Int) g = false := fun z => by
              rw [if_pos z] at h1
              exact rtg_v (S := (S.1 + 1, S.2)) h1
            have g2 : ¬ (kd = 1 ∨ kd = 2) → g = -1 := fun z => by
              rw [if_neg z] at h1
              exact (Prod.mk.inj (Sum.inl.inj h1)).1.symm
            have l1 : kd ≠ 3 → 0 ≤ l ∧ l < pL_ S.2.1.1 := fun z => by
              rw [if_neg z] at h2
              have y := rlo_v h2
              rw [q3] at y
              exact y
            have l2 : kd = 3 → l = -1 := fun z => by
              rw [if_pos z] at h2
              exact (Prod.mk.inj (Sum.inl.inj h2)).1.symm
            have x1 : (kd = 0 ∨ kd = 2) → (0 ≤ x.1 ∧ x.1 ≤ 3 ∧ x.2 = -1) ∨ (x.1 = -1 ∧ (x.2 = 0 ∨ x.2 = 1) ∧ itg_ S.2.1.1 ((pT_ S.2.1.1 - 1 : Nat) : Int) x.2 = true) := fun z => by
              rw [if_pos z] at h3
              have y := rva_v h3
              rw [q4, q3] at y
              exact y
            have x2 : ¬ (kd = 0 ∨ kd = 2) → x.1 = -1 ∧ x.2 = -1 := fun z => by
              rw [if_neg z] at h3
              have y := (Prod.mk.inj (Sum.inl.inj h3)).1
              rw [← y]
              exact ⟨rfl, rfl⟩
            have b3 := W.1.2.2.1
            have b2 := W.1.2.1
            have et : ((pT_ S.2.1.1 : Int) - 1) = ((pT_ S.2.1.1 - 1 : Nat) : Int) := by omega
            have gr : -1 ≤ g ∧ g ≤ 1 := by
              by_cases z : kd = 1 ∨ kd = 2
              · have := (g1 z).1; omega
              · have := g2 z; omega
            have lr : -1 ≤ l ∧ l ≤ 3 := by
              by_cases z : kd = 3
              · have := l2 z; omega
              · have := l1 z; omega
            have xr : (-1 ≤ x.1 ∧ x.1 ≤ 3) ∧ (-1 ≤ x.2 ∧ x.2 ≤ 1) := by
              by_cases z : kd = 0 ∨ kd = 2
              · rcases x1 z with y | y
                · omega
                · have := y.1; have := y.2.1; omega
              · have := x2 z; omega
            refine ⟨⟨wp_addI W (by omega) (row := rw6_ ((pT_ S.2.1.1 : Int) - 1) kd l g x.1 x.2) (fun k => ?_) hT rfl hk.1 (fun z => ?_) (fun z => l1 z) (fun z => ?_) (fun z => g2 (by have z : kd = 0 := z; omega)) (fun z => x2 (by have z : kd = 1 := z; omega)) (fun z => ?_) (fun z j hj e => ?_) (fun z => ?_) ?_ (fun z => ?_) (fun z => ?_), fun i k k6 => ?_, e0⟩, rfl⟩
            · unfold rw6_
              split
              · omega
              · split
                · omega
                · split
                  · omega
                  · split
                    · omega
                    · split
                      · omega
                      · split <;> omega
            · have z : kd = 3 := z
              have y := x2 (by omega)
              exact ⟨l2 z, g2 (by omega), y.1, y.2⟩
            · have y := (g1 z).1
              show 0 ≤ g ∧ g ≤ 1
              omega
            · rcases x1 z with y | y
              · exact Or.inl ⟨y.1, y.2.2⟩
              · refine Or.inr ⟨y.1, ?_⟩
                show 0 ≤ x.2 ∧ x.2 ≤ 1
                have := y.2.1
                omega
            · have z : g ≠ -1 := z
              have e : pC_ S.2.1.1 j 0 = ((pT_ S.2.1.1 : Int) - 1) ∧ pC_ S.2.1.1 j 3 = g := e
              rw [et] at e
              have zk : kd = 1 ∨ kd = 2 := Classical.byContradiction (fun q => z (g2 q))
              have y := (g1 zk).2
              have y2 : itg_ S.2.1.1 ((pT_ S.2.1.1 - 1 : Nat) : Int) g = true := itg_iff.mpr ⟨j, hj, e⟩
              rw [y] at y2
              cases y2
            · have z : x.2 ≠ -1 := z
              show ∃ j, j < pN_ S.2.1.1 ∧ pC_ S.2.1.1 j 0 = ((pT_ S.2.1.1 : Int) - 1) ∧ pC_ S.2.1.1 j 3 = x.2
              rw [et]
              have zk : kd = 0 ∨ kd = 2 := Classical.byContradiction (fun q => z (x2 q).2)
              rcases x1 zk with y | y
              · exact absurd y.2.2 z
              · exact itg_iff.mp y.2.2
            · show ct_ (fun i => decide (pC_ S.2.1.1 i 0 = ((pT_ S.2.1.1 : Int) - 1))) (pN_ S.2.1.1) < 7
              have e : ct_ (fun i => decide (pp_ S.2.1.1 i 0 = ((pT_ S.2.1.1 - 1 : Nat) : Int))) (pN_ S.2.1.1) = ct_ (fun i => decide (pC_ S.2.1.1 i 0 = ((pT_ S.2.1.1 : Int) - 1))) (pN_ S.2.1.1) := ct_cg (fun j hj => by rw [ppi0 hj, et])
              omega
            · show ct_ (fun i => decide (pC_ S.2.1.1 i 0 = ((pT_ S.2.1.1 : Int) - 1) ∧ pC_ S.2.1.1 i 1 ≠ 3)) (pN_ S.2.1.1) < 4
              have z : kd ≠ 3 := z
              have e : ct_ (fun i => decide (pp_ S.2.1.1 i 0 = ((pT_ S.2.1.1 - 1 : Nat) : Int) ∧ pp_ S.2.1.1 i 1 ≠ 3)) (pN_ S.2.1.1) = ct_ (fun i => decide (pC_ S.2.1.1 i 0 = ((pT_ S.2.1.1 : Int) - 1) ∧ pC_ S.2.1.1 i 1 ≠ 3)) (pN_ S.2.1.1) := ct_cg (fun j hj => by rw [ppi0 hj, ppi1 hj, et])
              omega
            · have z : kd ≠ 3 := z
              have e := acs_ct W (pT_ S.2.1.1)
              have e2 : ct_ (fun i => decide (pC_ S.2.1.1 i 0 < (pT_ S.2.1.1 : Int) ∧ pC_ S.2.1.1 i 1 ≠ 3)) (pN_ S.2.1.1) = ct_ (fun i => decide (pC_ S.2.1.1 i 1 ≠ 3)) (pN_ S.2.1.1) := ct_cg (fun j hj => by
                have y := (W.2.1 j hj).2.1
                simp [y])
              omega
            · show upd_ (pC_ S.2.1.1) (pN_ S.2.1.1) (rw6_ ((pT_ S.2.1.1 : Int) - 1) kd l g x.1 x.2) i k = -1
              unfold upd_
              split
              · exact rw6_6 _ _ _ _ _ _ k6
              · exact C i k k6
theorem itl_w : ∀ (f : Nat) (S S2 : qs_T), 0 < pT_ S.2.1.1 → Wx_ S.2.1 → itl_ B n (pT_ S.2.1.1 - 1) f S = .inl S2 → Wx_ S2.2.1 ∧ pT_ S2.2.1.1 = pT_ S.2.1.1
  | 0, S, S2, hT, hW, h => by
    have h : (Sum.inl S : qs_T ⊕ Nat) = .inl S2 := h
    rw [← Sum.inl.inj h]
    exact ⟨hW, rfl⟩
  | f + 1, S, S2, hT, hW, h => by
    have h : (if kd_ (csg_ B n S.1) = -1 then .inl S else match ins_ B n (pT_ S.2.1.1 - 1) (kd_ (csg_ B n S.1)) S with
      | .inr e => .inr e
      | .inl S2 => itl_ B n (pT_ S.2.1.1 - 1) f S2 : qs_T ⊕ Nat) = .inl S2 := h
    by_cases y : kd_ (csg_ B n S.1) = -1
    · rw [if_pos y] at h
      rw [← Sum.inl.inj h]
      exact ⟨hW, rfl⟩
    · rw [if_neg y] at h
      have kr : 0 ≤ kd_ (csg_ B n S.1) ∧ kd_ (csg_ B n S.1) ≤ 3 := by
        unfold kd_ at y ⊢
        split
        · omega
        · split
          · omega
          · split
            · omega
            · split
              · omega
              · rename_i a1 a2 a3 a4
                rw [if_neg a1, if_neg a2, if_neg a3, if_neg a4] at y
                exact absurd rfl y
      cases h1 : ins_ B n (pT_ S.2.1.1 - 1) (kd_ (csg_ B n S.1)) S with
      | inr e => rw [h1] at h; cases h
      | inl S3 =>
        rw [h1] at h
        obtain ⟨a, b⟩ := ins_w kr hT hW h1
        rw [← b] at h
        obtain ⟨c, d⟩ := itl_w f S3 S2 (by omega) a h
        exact ⟨c, d.trans b⟩
theorem thr_w {S S2 : qs_T} (hW : Wx_ S.2.1) (h : thr_ B n S = .inl S2) : Wx_ S2.2.1 := by
  unfold thr_ at h
  split at h
  · cases h
  · cases h1 : xp_ B n 15 (S.1 + 1, pat_ S.2.1, S.2.2) with
    | inr e => rw [h1] at h; cases h
    | inl S3 =>
      rw [h1] at h
      obtain ⟨-, a⟩ := xp_S h1
      have e1 : S3.2.1 = pat_ S.2.1 := by rw [a]
      have eT : pT_ S3.2.1.1 = pT_ S.2.1.1 + 1 := by rw [e1]; rfl
      have h : itl_ B n (pT_ S.2.1.1) 8 S3 = .inl S2 := h
      rw [show pT_ S.2.1.1 = pT_ S3.2.1.1 - 1 by omega] at h
      refine (itl_w 8 S3 S2 (by omega) ?_ h).1
      rw [e1]
      exact ⟨wp_addT hW.1 (by omega), hW.2.1, hW.2.2⟩
theorem thl_w : ∀ (f : Nat) (S S2 : qs_T), Wx_ S.2.1 → thl_ B n f S = .inl S2 → Wx_ S2.2.1
  | 0, S, S2, hW, h => by
    have h : (Sum.inl S : qs_T ⊕ Nat) = .inl S2 := h
    rw [← Sum.inl.inj h]
    exact hW
  | f + 1, S, S2, hW, h => by
    have h : (if csg_ B n S.1 = 6 then (match thr_ B n S with
      | .inr e => .inr e
      | .inl S2 => thl_ B n f S2) else .inl S : qs_T ⊕ Nat) = .inl S2 := h
    by_cases y : csg_ B n S.1 = 6
    · rw [if_pos y] at h
      cases h1 : thr_ B n S with
      | inr e => rw [h1] at h; cases h
      | inl S3 =>
        rw [h1] at h
        exact thl_w f S3 S2 (thr_w hW h1) h
    · rw [if_neg y] at h
      rw [← Sum.inl.inj h]
      exact hW
theorem dec_w {S S2 : qs_T} (hW : Wx_ S.2.1) (h : dec_ B n S = .inl S2) : Wx_ S2.2.1 := by
  unfold dec_ at h
  split at h
  · cases h
  · split at h
    · cases h
    · split at h
      · cases h
      · split at h
        · next S4 hv =>
          obtain ⟨-, a⟩ := xp_S h
          obtain ⟨-, v1, v2⟩ := vl_inl hv
          rw [a]
          exact ⟨wp_addL hW.1 (by omega) ⟨num4_rng v1, v2⟩, hW.2.1, hW.2.2⟩
        · cases h
theorem lcl_w : ∀ (f : Nat) (S S2 : qs_T), Wx_ S.2.1 → lcl_ B n f S = .inl S2 → Wx_ S2.2.1
  | 0, S, S2, hW, h => by
    have h : (Sum.inl S : qs_T ⊕ Nat) = .inl S2 := h
    rw [← Sum.inl.inj h]
    exact hW
  | f + 1, S, S2, hW, h => by
    have h : (if csg_ B n S.1 = 5 then (match dec_ B n S with
      | .inr e => .inr e
      | .inl S2 => lcl_ B n f S2) else .inl S : qs_T ⊕ Nat) = .inl S2 := h
    by_cases y : csg_ B n S.1 = 5
    · rw [if_pos y] at h
      cases h1 : dec_ B n S with
      | inr e => rw [h1] at h; cases h
      | inl S3 =>
        rw [h1] at h
        exact lcl_w f S3 S2 (dec_w hW h1) h
    · rw [if_neg y] at h
      rw [← Sum.inl.inj h]
      exact hW
theorem w_P0 : Wx_ P0_ := by
  have z : ∀ (f : Nat → Bool), ct_ f 0 = 0 := fun _ => rfl
  refine ⟨⟨⟨Nat.zero_le _, Nat.zero_le _, Nat.zero_le _, fun l => ⟨Int.le_refl _, (show (0 : Int) ≤ 3 by decide)⟩, fun i k => ⟨Int.le_refl _, (show (-1 : Int) ≤ 3 by decide)⟩⟩, fun i zi => absurd zi (Nat.not_lt_zero i), fun i j _ zj => absurd zj (Nat.not_lt_zero j), fun i j zi => absurd zi (Nat.not_lt_zero i), fun i zi => absurd zi (Nat.not_lt_zero i), fun t => Nat.zero_le _, fun t => Nat.zero_le _, Nat.zero_le _⟩, fun i k _ => rfl, rfl⟩
end VA
