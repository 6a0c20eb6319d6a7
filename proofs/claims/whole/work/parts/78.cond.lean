/-! conditions are read: the grammar; what is read of it -/
section RD
variable {B : Nat → Int} {n : Nat}
def ob_ (r : Option (qs_T ⊕ Nat)) (f : qs_T → Option (qs_T ⊕ Nat)) : Option (qs_T ⊕ Nat) := match r with
  | none => none
  | some (.inr e) => some (.inr e)
  | some (.inl S) => f S
/-- w = 0 a unit, 1 a condition, 2 units joined by and, 3 what follows with or, 4 what follows with and -/
def rd_ (B : Nat → Int) (n : Nat) : Nat → Nat → Nat → qs_T → Option (qs_T ⊕ Nat)
  | 0, _, _, _ => none
  | f + 1, w, d, S =>
    if w = 0 then
      (if csg_ B n S.1 ≠ 14 ∧ csg_ B n S.1 ≠ 19 ∧ csg_ B n S.1 ≠ 4 ∧ csg_ B n S.1 ≠ 3 then some (.inr (er_ B n S.1 1))
      else if csg_ B n S.1 = 4 ∧ ¬ tnu_ B n S.1 < pT_ S.2.1.1 then some (.inr (er_ B n S.1 2))
      else if csg_ B n S.1 = 3 ∧ lnm_ S.2.1 (tby_ B n S.1) = -1 then some (.inr (er_ B n S.1 4))
      else if 4 < d ∨ 16 ≤ S.2.2 then some (.inr (er_ B n S.1 5))
      else if csg_ B n S.1 = 4 ∨ csg_ B n S.1 = 3 then some (cmp_ B n (S.1, S.2.1, S.2.2 + 1))
      else if csg_ B n S.1 = 14 then ob_ (rd_ B n f 0 (d + 1) (S.1 + 1, S.2.1, S.2.2 + 1)) (fun S2 => some (.inl (S2.1, pac_ S2.2.1 (-1), S2.2.2)))
      else ob_ (rd_ B n f 1 (d + 1) (S.1 + 1, S.2.1, S.2.2 + 1)) (fun S2 => some (xp_ B n 20 S2)))
    else if w = 1 then ob_ (rd_ B n f 2 d S) (fun S2 => rd_ B n f 3 d S2)
    else if w = 2 then ob_ (rd_ B n f 0 d S) (fun S2 => rd_ B n f 4 d S2)
    else if w = 3 then (if csg_ B n S.1 = 12 then ob_ (rd_ B n f 2 d (S.1 + 1, S.2)) (fun S2 => rd_ B n f 3 d (S2.1, pac_ S2.2.1 (-3), S2.2.2)) else some (.inl S))
    else (if csg_ B n S.1 = 13 then ob_ (rd_ B n f 0 d (S.1 + 1, S.2)) (fun S2 => rd_ B n f 4 d (S2.1, pac_ S2.2.1 (-2), S2.2.2)) else some (.inl S))
theorem ob_mono {x x2 : Option (qs_T ⊕ Nat)} {k k2 : qs_T → Option (qs_T ⊕ Nat)} {r : qs_T ⊕ Nat} (h1 : ∀ y, x = some y → x2 = some y) (h2 : ∀ S y, k S = some y → k2 S = some y) (h : ob_ x k = some r) : ob_ x2 k2 = some r := by
  cases x with
  | none => cases h
  | some y =>
    rw [h1 y rfl]
    cases y with
    | inl S => exact h2 S r h
    | inr e => exact h
theorem rd_mono : ∀ (f w d : Nat) (S : qs_T) (r : qs_T ⊕ Nat), rd_ B n f w d S = some r → rd_ B n (f + 1) w d S = some r := by
  intro f
  induction f with
  | zero =>
    intro w d S r h
    cases h
  | succ f ih =>
    intro w d S r h
    unfold rd_ at h ⊢
    by_cases w0 : w = 0
    · rw [if_pos w0] at h ⊢
      by_cases c1 : csg_ B n S.1 ≠ 14 ∧ csg_ B n S.1 ≠ 19 ∧ csg_ B n S.1 ≠ 4 ∧ csg_ B n S.1 ≠ 3
      · rw [if_pos c1] at h ⊢
        exact h
      · rw [if_neg c1] at h ⊢
        by_cases c2 : csg_ B n S.1 = 4 ∧ ¬ tnu_ B n S.1 < pT_ S.2.1.1
        · rw [if_pos c2] at h ⊢
          exact h
        · rw [if_neg c2] at h ⊢
          by_cases c3 : csg_ B n S.1 = 3 ∧ lnm_ S.2.1 (tby_ B n S.1) = -1
          · rw [if_pos c3] at h ⊢
            exact h
          · rw [if_neg c3] at h ⊢
            by_cases c4 : 4 < d ∨ 16 ≤ S.2.2
            · rw [if_pos c4] at h ⊢
              exact h
            · rw [if_neg c4] at h ⊢
              by_cases c5 : csg_ B n S.1 = 4 ∨ csg_ B n S.1 = 3
              · rw [if_pos c5] at h ⊢
                exact h
              · rw [if_neg c5] at h ⊢
                by_cases c6 : csg_ B n S.1 = 14
                · rw [if_pos c6] at h ⊢
                  exact ob_mono (fun y => ih _ _ _ y) (fun _ _ y => y) h
                · rw [if_neg c6] at h ⊢
                  exact ob_mono (fun y => ih _ _ _ y) (fun _ _ y => y) h
    · rw [if_neg w0] at h ⊢
      by_cases w1 : w = 1
      · rw [if_pos w1] at h ⊢
        exact ob_mono (fun y => ih _ _ _ y) (fun S y => ih _ _ S y) h
      · rw [if_neg w1] at h ⊢
        by_cases w2 : w = 2
        · rw [if_pos w2] at h ⊢
          exact ob_mono (fun y => ih _ _ _ y) (fun S y => ih _ _ S y) h
        · rw [if_neg w2] at h ⊢
          by_cases w3 : w = 3
          · rw [if_pos w3] at h ⊢
            by_cases c : csg_ B n S.1 = 12
            · rw [if_pos c] at h ⊢
              exact ob_mono (fun y => ih _ _ _ y) (fun S y => ih _ _ _ y) h
            · rw [if_neg c] at h ⊢
              exact h
          · rw [if_neg w3] at h ⊢
            by_cases c : csg_ B n S.1 = 13
            · rw [if_pos c] at h ⊢
              exact ob_mono (fun y => ih _ _ _ y) (fun S y => ih _ _ _ y) h
            · rw [if_neg c] at h ⊢
              exact h
theorem rd_up {f w d : Nat} {S : qs_T} {r : qs_T ⊕ Nat} (h : rd_ B n f w d S = some r) : ∀ v, rd_ B n (f + v) w d S = some r := by
  intro v
  induction v with
  | zero => exact h
  | succ v ih => exact rd_mono _ _ _ _ _ ih
def Rd_ (B : Nat → Int) (n w d : Nat) (S : qs_T) (r : qs_T ⊕ Nat) : Prop := ∃ f, rd_ B n f w d S = some r
/-- two readings, one behind the other -/
theorem rd_seq {f1 f2 w1 w2 d1 d2 : Nat} {S1 S2 : qs_T} {r : qs_T ⊕ Nat} {k : qs_T → qs_T} (h1 : rd_ B n f1 w1 d1 S1 = some (.inl S2)) (h2 : rd_ B n f2 w2 d2 (k S2) = some r) : ob_ (rd_ B n (f1 + f2) w1 d1 S1) (fun S => rd_ B n (f1 + f2) w2 d2 (k S)) = some r := by
  rw [rd_up h1 f2]
  show rd_ B n (f1 + f2) w2 d2 (k S2) = some r
  rw [Nat.add_comm]
  exact rd_up h2 f1
theorem rd_err {f1 w1 d1 : Nat} {S1 : qs_T} {e : Nat} {k : qs_T → Option (qs_T ⊕ Nat)} (h1 : rd_ B n f1 w1 d1 S1 = some (.inr e)) : ob_ (rd_ B n f1 w1 d1 S1) k = some (.inr e) := by
  rw [h1]
  rfl
theorem Rd_2 {d : Nat} {S S2 : qs_T} {r : qs_T ⊕ Nat} (h1 : Rd_ B n 0 d S (.inl S2)) (h2 : Rd_ B n 4 d S2 r) : Rd_ B n 2 d S r := by
  obtain ⟨f1, h1⟩ := h1
  obtain ⟨f2, h2⟩ := h2
  exact ⟨f1 + f2 + 1, rd_seq (k := fun S => S) h1 h2⟩
theorem Rd_2e {d e : Nat} {S : qs_T} (h1 : Rd_ B n 0 d S (.inr e)) : Rd_ B n 2 d S (.inr e) := by
  obtain ⟨f1, h1⟩ := h1
  exact ⟨f1 + 1, rd_err h1⟩
theorem Rd_1 {d : Nat} {S S2 : qs_T} {r : qs_T ⊕ Nat} (h1 : Rd_ B n 2 d S (.inl S2)) (h2 : Rd_ B n 3 d S2 r) : Rd_ B n 1 d S r := by
  obtain ⟨f1, h1⟩ := h1
  obtain ⟨f2, h2⟩ := h2
  exact ⟨f1 + f2 + 1, rd_seq (k := fun S => S) h1 h2⟩
theorem Rd_1e {d e : Nat} {S : qs_T} (h1 : Rd_ B n 2 d S (.inr e)) : Rd_ B n 1 d S (.inr e) := by
  obtain ⟨f1, h1⟩ := h1
  exact ⟨f1 + 1, rd_err h1⟩
theorem Rd_3 {d : Nat} {S S2 : qs_T} {r : qs_T ⊕ Nat} (hc : csg_ B n S.1 = 12) (h1 : Rd_ B n 2 d (S.1 + 1, S.2) (.inl S2)) (h2 : Rd_ B n 3 d (S2.1, pac_ S2.2.1 (-3), S2.2.2) r) : Rd_ B n 3 d S r := by
  obtain ⟨f1, h1⟩ := h1
  obtain ⟨f2, h2⟩ := h2
  refine ⟨f1 + f2 + 1, ?_⟩
  show (if csg_ B n S.1 = 12 then _ else _) = _
  rw [if_pos hc]
  exact rd_seq (k := fun S2 => (S2.1, pac_ S2.2.1 (-3), S2.2.2)) h1 h2
theorem Rd_3e {d e : Nat} {S : qs_T} (hc : csg_ B n S.1 = 12) (h1 : Rd_ B n 2 d (S.1 + 1, S.2) (.inr e)) : Rd_ B n 3 d S (.inr e) := by
  obtain ⟨f1, h1⟩ := h1
  refine ⟨f1 + 1, ?_⟩
  show (if csg_ B n S.1 = 12 then _ else _) = _
  rw [if_pos hc]
  exact rd_err h1
theorem Rd_30 {d : Nat} {S : qs_T} (hc : ¬ csg_ B n S.1 = 12) : Rd_ B n 3 d S (.inl S) := ⟨1, if_neg hc⟩
theorem Rd_4 {d : Nat} {S S2 : qs_T} {r : qs_T ⊕ Nat} (hc : csg_ B n S.1 = 13) (h1 : Rd_ B n 0 d (S.1 + 1, S.2) (.inl S2)) (h2 : Rd_ B n 4 d (S2.1, pac_ S2.2.1 (-2), S2.2.2) r) : Rd_ B n 4 d S r := by
  obtain ⟨f1, h1⟩ := h1
  obtain ⟨f2, h2⟩ := h2
  refine ⟨f1 + f2 + 1, ?_⟩
  show (if csg_ B n S.1 = 13 then _ else _) = _
  rw [if_pos hc]
  exact rd_seq (k := fun S2 => (S2.1, pac_ S2.2.1 (-2), S2.2.2)) h1 h2
theorem Rd_4e {d e : Nat} {S : qs_T} (hc : csg_ B n S.1 = 13) (h1 : Rd_ B n 0 d (S.1 + 1, S.2) (.inr e)) : Rd_ B n 4 d S (.inr e) := by
  obtain ⟨f1, h1⟩ := h1
  refine ⟨f1 + 1, ?_⟩
  show (if csg_ B n S.1 = 13 then _ else _) = _
  rw [if_pos hc]
  exact rd_err h1
theorem Rd_40 {d : Nat} {S : qs_T} (hc : ¬ csg_ B n S.1 = 13) : Rd_ B n 4 d S (.inl S) := ⟨1, if_neg hc⟩
/-- what a reading of a condition leaves as it was, how much it adds -/
def Rp2_ (w : Nat) (S S2 : qs_T) : Prop := S2.2.1.1 = S.2.1.1 ∧ S2.2.1.2.1 = S.2.1.2.1 ∧ (S.2.2 ≤ 16 → S2.2.2 ≤ 16) ∧ S.2.2 + (if w ≤ 2 then 1 else 0) ≤ S2.2.2 ∧ S2.2.1.2.2.length + 2 * S.2.2 + (if w ≤ 2 then 1 else 0) ≤ S.2.1.2.2.length + 2 * S2.2.2
theorem cmt_post {s : Nat} {S S2 : qs_T} (h : cmt_ B n s S = .inl S2) : S2.2.1.1 = S.2.1.1 ∧ S2.2.1.2.1 = S.2.1.2.1 ∧ S2.2.2 = S.2.2 ∧ S2.2.1.2.2.length = S.2.1.2.2.length + 1 := by
  unfold cmt_ at h
  cases h1 : xp_ B n (if csg_ B n S.1 = 18 then 18 else 17) S with
  | inr e => rw [h1] at h; cases h
  | inl S3 =>
    rw [h1] at h
    have h3 : (match vl_ B n S3 with
      | .inr e => .inr e
      | .inl S4 => .inl (S4.1 + 1, pac_ S4.2.1 ((8 * s + (if csg_ B n S.1 = 18 then 4 else 0) + (tnu_ B n S4.1).toNat : Nat) : Int), S4.2.2) : qs_T ⊕ Nat) = .inl S2 := h
    clear h
    cases h2 : vl_ B n S3 with
    | inr e => rw [h2] at h3; cases h3
    | inl S4 =>
      rw [h2] at h3
      have h4 := Sum.inl.inj h3
      obtain ⟨rfl, -⟩ := vl_inl h2
      obtain ⟨-, e2⟩ := xp_S h1
      rw [← h4, e2]
      exact ⟨rfl, rfl, rfl, List.length_append⟩
theorem cmp_post {S S2 : qs_T} (h : cmp_ B n S = .inl S2) : S2.2.1.1 = S.2.1.1 ∧ S2.2.1.2.1 = S.2.1.2.1 ∧ S2.2.2 = S.2.2 ∧ S2.2.1.2.2.length = S.2.1.2.2.length + 1 := by
  unfold cmp_ at h
  by_cases y : csg_ B n S.1 = 3
  · rw [if_pos y] at h
    exact cmt_post (S := (S.1 + 1, S.2)) h
  · rw [if_neg y] at h
    cases h1 : xp_ B n 16 (S.1 + 1, S.2) with
    | inr e => rw [h1] at h; cases h
    | inl S3 =>
      rw [h1] at h
      obtain ⟨-, rfl⟩ := xp_S h1
      have h : (if csg_ B n (S.1 + 1 + 1) ≠ 2 then .inr (er_ B n (S.1 + 1 + 1) 1)
        else if itg_ S.2.1.1 (tnu_ B n S.1) (tnu_ B n (S.1 + 1 + 1)) = true then cmt_ B n ((cb_ S.2.1.1 : Int) - 2 * (2 * tnu_ B n S.1 + tnu_ B n (S.1 + 1 + 1) + 1)).toNat (S.1 + 1 + 1 + 1, S.2)
        else .inr (er_ B n (S.1 + 1 + 1) 4) : qs_T ⊕ Nat) = .inl S2 := h
      split at h
      · cases h
      · split at h
        · exact cmt_post (S := (S.1 + 1 + 1 + 1, S.2)) h
        · cases h
theorem ob_inl {x : Option (qs_T ⊕ Nat)} {k : qs_T → Option (qs_T ⊕ Nat)} {S2 : qs_T} (h : ob_ x k = some (.inl S2)) : ∃ S, x = some (.inl S) ∧ k S = some (.inl S2) := by
  cases x with
  | none => cases h
  | some y =>
    cases y with
    | inl S => exact ⟨S, rfl, h⟩
    | inr e => cases h
theorem rd_post : ∀ (f w d : Nat) (S S2 : qs_T), w ≤ 4 → rd_ B n f w d S = some (.inl S2) → Rp2_ w S S2 := by
  intro f
  induction f with
  | zero =>
    intro w d S S2 _ h
    cases h
  | succ f ih =>
    intro w d S S2 hw h
    unfold rd_ at h
    by_cases w0 : w = 0
    · subst w0
      rw [if_pos rfl] at h
      split at h
      · cases h
      · split at h
        · cases h
        · split at h
          · cases h
          · split at h
            · cases h
            · next c4 =>
              split at h
              · have h := Option.some.inj h
                obtain ⟨a1, a2, a3, a4⟩ := cmp_post h
                have a1 : S2.2.1.1 = S.2.1.1 := a1
                have a2 : S2.2.1.2.1 = S.2.1.2.1 := a2
                have a3 : S2.2.2 = S.2.2 + 1 := a3
                have a4 : S2.2.1.2.2.length = S.2.1.2.2.length + 1 := a4
                refine ⟨a1, a2, fun _ => by omega, ?_, ?_⟩
                · rw [if_pos (by decide)]; omega
                · rw [if_pos (by decide)]; omega
              · split at h
                · obtain ⟨S3, h1, h2⟩ := ob_inl h
                  have y := ih 0 (d + 1) _ _ (by decide) h1
                  obtain ⟨a1, a2, a3, a4, a5⟩ := y
                  have h2 := Sum.inl.inj (Option.some.inj h2)
                  rw [← h2]
                  rw [if_pos (by decide)] at a4 a5
                  have a1 : S3.2.1.1 = S.2.1.1 := a1
                  have a2 : S3.2.1.2.1 = S.2.1.2.1 := a2
                  have a3 : S.2.2 + 1 ≤ 16 → S3.2.2 ≤ 16 := a3
                  have a4 : S.2.2 + 1 + 1 ≤ S3.2.2 := a4
                  have a5 : S3.2.1.2.2.length + 2 * (S.2.2 + 1) + 1 ≤ S.2.1.2.2.length + 2 * S3.2.2 := a5
                  refine ⟨a1, a2, fun _ => ?_, ?_, ?_⟩
                  · show S3.2.2 ≤ 16
                    omega
                  · rw [if_pos (by decide)]
                    show S.2.2 + 1 ≤ S3.2.2
                    omega
                  · rw [if_pos (by decide)]
                    show (S3.2.1.2.2 ++ [-1]).length + 2 * S.2.2 + 1 ≤ S.2.1.2.2.length + 2 * S3.2.2
                    rw [List.length_append, List.length_singleton]
                    omega
                · obtain ⟨S3, h1, h2⟩ := ob_inl h
                  have y := ih 1 (d + 1) _ _ (by decide) h1
                  obtain ⟨a1, a2, a3, a4, a5⟩ := y
                  obtain ⟨-, rfl⟩ := xp_S (Option.some.inj h2)
                  rw [if_pos (by decide)] at a4 a5
                  have a3 : S.2.2 + 1 ≤ 16 → S3.2.2 ≤ 16 := a3
                  have a4 : S.2.2 + 1 + 1 ≤ S3.2.2 := a4
                  have a5 : S3.2.1.2.2.length + 2 * (S.2.2 + 1) + 1 ≤ S.2.1.2.2.length + 2 * S3.2.2 := a5
                  refine ⟨a1, a2, fun _ => ?_, ?_, ?_⟩
                  · show S3.2.2 ≤ 16
                    omega
                  · rw [if_pos (by decide)]
                    show S.2.2 + 1 ≤ S3.2.2
                    omega
                  · rw [if_pos (by decide)]
                    show S3.2.1.2.2.length + 2 * S.2.2 + 1 ≤ S.2.1.2.2.length + 2 * S3.2.2
                    omega
    · rw [if_neg w0] at h
      by_cases w1 : w = 1
      · subst w1
        rw [if_pos rfl] at h
        obtain ⟨S3, h1, h2⟩ := ob_inl h
        obtain ⟨a1, a2, a3, a4, a5⟩ := ih 2 d _ _ (by decide) h1
        obtain ⟨b1, b2, b3, b4, b5⟩ := ih 3 d _ _ (by decide) h2
        rw [if_pos (by decide)] at a4 a5
        rw [if_neg (by decide)] at b4 b5
        refine ⟨b1.trans a1, b2.trans a2, fun z => b3 (a3 z), ?_, ?_⟩
        · rw [if_pos (by decide)]; omega
        · rw [if_pos (by decide)]; omega
      · rw [if_neg w1] at h
        by_cases w2 : w = 2
        · subst w2
          rw [if_pos rfl] at h
          obtain ⟨S3, h1, h2⟩ := ob_inl h
          obtain ⟨a1, a2, a3, a4, a5⟩ := ih 0 d _ _ (by decide) h1
          obtain ⟨b1, b2, b3, b4, b5⟩ := ih 4 d _ _ (by decide) h2
          rw [if_pos (by decide)] at a4 a5
          rw [if_neg (by decide)] at b4 b5
          refine ⟨b1.trans a1, b2.trans a2, fun z => b3 (a3 z), ?_, ?_⟩
          · rw [if_pos (by decide)]; omega
          · rw [if_pos (by decide)]; omega
        · rw [if_neg w2] at h
          have key : ∀ (v c : Nat) (u : Int), v ≤ 2 → 3 ≤ w → (∃ S3, rd_ B n f v d (S.1 + 1, S.2) = some (.inl S3) ∧ rd_ B n f w d (S3.1, pac_ S3.2.1 u, S3.2.2) = some (.inl S2)) → Rp2_ w S S2 := by
            rintro v c u hv hw3 ⟨S3, h1, h2⟩
            obtain ⟨a1, a2, a3, a4, a5⟩ := ih v d _ _ (by omega) h1
            obtain ⟨b1, b2, b3, b4, b5⟩ := ih w d _ _ hw h2
            rw [if_pos hv] at a4 a5
            rw [if_neg (by omega)] at b4 b5
            have a3 : S.2.2 ≤ 16 → S3.2.2 ≤ 16 := a3
            have a4 : S.2.2 + 1 ≤ S3.2.2 := a4
            have a5 : S3.2.1.2.2.length + 2 * S.2.2 + 1 ≤ S.2.1.2.2.length + 2 * S3.2.2 := a5
            have b3 : S3.2.2 ≤ 16 → S2.2.2 ≤ 16 := b3
            have b4 : S3.2.2 + 0 ≤ S2.2.2 := b4
            have b5 : S2.2.1.2.2.length + 2 * S3.2.2 + 0 ≤ (S3.2.1.2.2 ++ [u]).length + 2 * S2.2.2 := b5
            rw [List.length_append, List.length_singleton] at b5
            refine ⟨b1.trans a1, b2.trans a2, fun z => b3 (a3 z), ?_, ?_⟩
            · rw [if_neg (by omega)]; omega
            · rw [if_neg (by omega)]; omega
          have same : S2 = S → 3 ≤ w → Rp2_ w S S2 := fun e h3 => by
            rw [e]
            refine ⟨rfl, rfl, fun z => z, ?_, ?_⟩
            · rw [if_neg (by omega)]; omega
            · rw [if_neg (by omega)]; omega
          by_cases w3 : w = 3
          · rw [if_pos w3] at h
            split at h
            · obtain ⟨S3, h1, h2⟩ := ob_inl h
              exact key 2 12 (-3) (by decide) (by omega) ⟨S3, h1, by rw [w3]; exact h2⟩
            · exact same (Sum.inl.inj (Option.some.inj h)).symm (by omega)
          · rw [if_neg w3] at h
            have w4 : w = 4 := by omega
            split at h
            · obtain ⟨S3, h1, h2⟩ := ob_inl h
              exact key 0 13 (-2) (by decide) (by omega) ⟨S3, h1, by rw [w4]; exact h2⟩
            · exact same (Sum.inl.inj (Option.some.inj h)).symm (by omega)
theorem Rd_post {w d : Nat} {S S2 : qs_T} (hw : w ≤ 4) (h : Rd_ B n w d S (.inl S2)) : Rp2_ w S S2 := by
  obtain ⟨f, h⟩ := h
  exact rd_post f w d S S2 hw h
end RD
