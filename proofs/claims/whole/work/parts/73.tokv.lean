/-! tokens: values and bytes of the one that the class stands on -/
section TV
variable {γ : ga_T} {σ : st_T} {B : Nat → Int} {n k : Nat}
/-- the bytes of token k, its number -/
def tby_ (B : Nat → Int) (n k : Nat) : List Int := (List.range (tst_ B n (tq_ B n k) - tq_ B n k)).map (fun j => B (tq_ B n k + j))
def tnu_ (B : Nat → Int) (n k : Nat) : Int := if csg_ B n k = 4 then nv_ B (tq_ B n k) (tst_ B n (tq_ B n k) - tq_ B n k) else B (tq_ B n k + 1) - 48
theorem kwi_5 : ∀ (l : List Int32) (o : Nat), l ≠ [] → ∀ k c, kwi_ l o k c = o ∨ (5 ≤ kwi_ l o k c)
  | l, o, h, 0, c => Or.inl rfl
  | l, o, h, k + 1, c => by
    unfold kwi_
    split
    · next z =>
      right
      by_cases y : 5 ≤ c
      · exact y
      · exfalso
        have key : ∀ c : Nat, c < 5 → kb_ (sg_tx.getD c 0) = [] := by decide +kernel
        rw [key c (by omega)] at z
        exact h z.symm
    · exact kwi_5 l o h k (c + 1)
theorem bl_ne {s m : Nat} (h : 1 ≤ m) : bl_ B s m ≠ [] := by
  intro e
  have y := bl_len (B := B) s m
  rw [e] at y
  have y : 0 = m := y
  omega
/-- the sign NUMBER, REGISTER or NAME: what the token is -/
theorem csg_4 (h : csg_ B n k = 4) : tq_ B n k < n ∧ isd_ (B (tq_ B n k)) = true ∧ isl_ (B (tq_ B n k)) = false ∧ tst_ B n (tq_ B n k) - tq_ B n k ≤ 2 ∧ tst_ B n (tq_ B n k) = ru_ (fun i => isd_ (B i)) (n - tq_ B n k) (tq_ B n k) := by
  have hn := csg_n (B := B) (n := n) (k := k) (by rw [h]; decide)
  unfold csg_ at h
  rw [if_pos hn] at h
  have hr := tst_rg (B := B) hn
  refine ⟨hn, ?_⟩
  unfold tsg_ at h
  by_cases y1 : isl_ (B (tq_ B n k)) = true
  · rw [if_pos y1] at h
    unfold wsg_ at h
    exfalso
    split at h
    · cases h
    · split at h
      · cases h
      · rcases kwi_5 (bl_ B (tq_ B n k) (tst_ B n (tq_ B n k) - tq_ B n k)) 3 (bl_ne (by omega)) 21 0 with z | z
        · rw [z] at h; cases h
        · omega
  · rw [if_neg y1] at h
    by_cases y2 : isd_ (B (tq_ B n k)) = true
    · rw [if_pos y2] at h
      split at h
      · cases h
      · refine ⟨y2, Bool.eq_false_iff.mpr y1, by omega, ?_⟩
        conv => lhs; unfold tst_
        rw [if_neg y1, if_pos y2]
    · rw [if_neg y2] at h
      exfalso
      rcases kwi_5 (bl_ B (tq_ B n k) 1) 1 (bl_ne (by omega)) 21 0 with z | z
      · rw [z] at h; cases h
      · omega
theorem csg_w {c : Nat} (hc : c = 2 ∨ c = 3) (h : csg_ B n k = c) : tq_ B n k < n ∧ isl_ (B (tq_ B n k)) = true ∧ wsg_ B (tq_ B n k) (tst_ B n (tq_ B n k) - tq_ B n k) = c ∧ tst_ B n (tq_ B n k) = ru_ (fun i => ial_ (B i)) (n - tq_ B n k) (tq_ B n k) := by
  have hn := csg_n (B := B) (n := n) (k := k) (by omega)
  unfold csg_ at h
  rw [if_pos hn] at h
  refine ⟨hn, ?_⟩
  unfold tsg_ at h
  by_cases y1 : isl_ (B (tq_ B n k)) = true
  · rw [if_pos y1] at h
    refine ⟨y1, h, ?_⟩
    conv => lhs; unfold tst_
    rw [if_pos y1]
  · rw [if_neg y1] at h
    exfalso
    by_cases y2 : isd_ (B (tq_ B n k)) = true
    · rw [if_pos y2] at h
      split at h <;> omega
    · rw [if_neg y2] at h
      rcases kwi_5 (bl_ B (tq_ B n k) 1) 1 (bl_ne (by omega)) 21 0 with z | z <;> omega
theorem wf_let : ∀ (m i : Nat) (x : Int64) (d : Int), (wf_ B m i x d).2 = -1 → (∀ j, i ≤ j → j < i + m → ial_ (B j) = true) → (∀ j, i ≤ j → j < i + m → isl_ (B j) = true) ∧ (wf_ B m i x d).1 = ((List.range m).map (fun j => B (i + j))).foldl (fun x c => wc_ x (i_ c)) x
  | 0, i, x, d, h, ha => ⟨fun j z1 z2 => by omega, rfl⟩
  | m + 1, i, x, d, h, ha => by
    have ws := wf_s (B := B) m i x d
    rw [ws] at h ⊢
    by_cases y : isl_ (B (i + m)) = true
    · rw [if_pos y] at h ⊢
      have ih := wf_let m i x d h (fun j z1 z2 => ha j z1 (by omega))
      refine ⟨fun j z1 z2 => ?_, ?_⟩
      · by_cases e : j = i + m
        · rw [e]; exact y
        · exact ih.1 j z1 (by omega)
      · rw [List.range_succ, List.map_append, List.foldl_append, ← ih.2]
        rfl
    · rw [if_neg y] at h
      exfalso
      have h : B (i + m) - 48 = -1 := h
      have z := ha (i + m) (by omega) (by omega)
      unfold ial_ isd_ at z
      rw [Bool.or_eq_true, decide_eq_true_eq] at z
      rcases z with z | z
      · exact y z
      · omega
theorem csg_3 (h : csg_ B n k = 3) : tvl_ B n (tq_ B n k) = ncd_ (tby_ B n k) ∧ Nam_ (tby_ B n k) := by
  obtain ⟨h1, h2, h3, h4⟩ := csg_w (Or.inr rfl) h
  have hr := tst_rg (B := B) h1
  obtain ⟨m, hm⟩ : ∃ m, m = tst_ B n (tq_ B n k) - tq_ B n k := ⟨_, rfl⟩
  have al : ∀ j, tq_ B n k ≤ j → j < tq_ B n k + m → ial_ (B j) = true := fun j z1 z2 => ru_all (fun i => ial_ (B i)) (n - tq_ B n k) (tq_ B n k) j z1 (by rw [← h4]; omega)
  unfold tvl_ tby_
  rw [if_pos h2]
  rw [← hm] at h3 ⊢
  unfold wsg_ at h3
  unfold wvl_
  generalize hq : wf_ B m (tq_ B n k) 0 (-1) = q at h3 ⊢
  by_cases y1 : wiv_ m q = true
  · rw [if_pos y1] at h3; cases h3
  · rw [if_neg y1] at h3 ⊢
    by_cases y2 : wrg_ m q = true
    · rw [if_pos y2] at h3; cases h3
    · rw [if_neg y2]
      have y3 : m ≤ 8 ∧ q.2 = -1 := by
        unfold wiv_ at y1
        rw [Bool.or_eq_true, Bool.and_eq_true, decide_eq_true_eq, decide_eq_true_eq, Bool.not_eq_true'] at y1
        have y4 : wrg_ m q = false := Bool.eq_false_iff.mpr y2
        constructor
        · omega
        · by_cases z : q.2 = -1
          · exact z
          · exact absurd (Or.inr ⟨z, y4⟩) y1
      have wl := wf_let m (tq_ B n k) 0 (-1) (by rw [hq]; exact y3.2) al
      rw [hq] at wl
      refine ⟨wl.2, ?_, ?_, fun c hc => ?_⟩
      · rw [List.length_map, List.length_range]
        exact y3.1
      · rw [List.length_map, List.length_range]
        omega
      · obtain ⟨j, hj, rfl⟩ := List.mem_map.mp hc
        rw [List.mem_range] at hj
        have z := wl.1 (tq_ B n k + j) (by omega) (by omega)
        unfold isl_ at z
        rw [decide_eq_true_eq] at z
        exact z
theorem c_num4 (zw : Wd σ) (h : At_ σ B n k) (h2 : csg_ B n k = 4) : fn_ γ m_X10_number 1 [.ref 143] σ (.int (i_ (tnu_ B n k))) σ ∧ 0 ≤ tnu_ B n k ∧ tnu_ B n k < 100 := by
  obtain ⟨a1, a2, a3, a4, a5⟩ := csg_4 h2
  have hr := tst_rg (B := B) a1
  have al : ∀ j, tq_ B n k ≤ j → j < tst_ B n (tq_ B n k) → isd_ (B j) = true := fun j z1 z2 => ru_all (fun i => isd_ (B i)) (n - tq_ B n k) (tq_ B n k) j z1 (by rw [← a5]; omega)
  have e1 : tnu_ B n k = nv_ B (tq_ B n k) (tst_ B n (tq_ B n k) - tq_ B n k) := if_pos h2
  have rg : 0 ≤ tnu_ B n k ∧ tnu_ B n k < 100 := by
    rw [e1]
    have d0 := al (tq_ B n k) (Nat.le_refl _) (by omega)
    unfold isd_ at d0
    rw [decide_eq_true_eq] at d0
    unfold nv_
    split
    · omega
    · split
      · omega
      · have d1 := al (tq_ B n k + 1) (by omega) (by omega)
        unfold isd_ at d1
        rw [decide_eq_true_eq] at d1
        omega
  refine ⟨?_, rg⟩
  have y := c_number (γ := γ) zw h a1
  have e2 : tvl_ B n (tq_ B n k) = (i_ (tnu_ B n k)).toInt64 := by
    unfold tvl_
    rw [if_neg (by rw [a3]; decide), if_pos a2, e1]
  rw [e2] at y
  obtain ⟨x, hx⟩ : ∃ x : Nat, tnu_ B n k = x := ⟨(tnu_ B n k).toNat, by omega⟩
  rw [hx, l_int (by omega), l_i32, Nat.mod_eq_of_lt (by omega)] at y
  rw [hx]
  exact y
theorem csg_2 (h : csg_ B n k = 2) : tq_ B n k < n ∧ tnu_ B n k = B (tq_ B n k + 1) - 48 ∧ (tnu_ B n k = 0 ∨ tnu_ B n k = 1) ∧ tvl_ B n (tq_ B n k) = (i_ (tnu_ B n k)).toInt64 ∧ tst_ B n (tq_ B n k) - tq_ B n k = 2 ∧ B (tq_ B n k) = 114 := by
  obtain ⟨h1, h2, h3, h4⟩ := csg_w (Or.inl rfl) h
  have hr := tst_rg (B := B) h1
  have e1 : tnu_ B n k = B (tq_ B n k + 1) - 48 := if_neg (by rw [h]; decide)
  obtain ⟨m, hm⟩ : ∃ m, m = tst_ B n (tq_ B n k) - tq_ B n k := ⟨_, rfl⟩
  have al : ∀ j, tq_ B n k ≤ j → j < tq_ B n k + m → ial_ (B j) = true := fun j z1 z2 => ru_all (fun i => ial_ (B i)) (n - tq_ B n k) (tq_ B n k) j z1 (by rw [← h4]; omega)
  have hl : 97 ≤ B (tq_ B n k) ∧ B (tq_ B n k) ≤ 122 := by
    unfold isl_ at h2
    rw [decide_eq_true_eq] at h2
    exact h2
  have h2b := h2
  rw [← hm] at h3 ⊢
  unfold wsg_ at h3
  by_cases y1 : wiv_ m (wf_ B m (tq_ B n k) 0 (-1)) = true
  · rw [if_pos y1] at h3; cases h3
  · rw [if_neg y1] at h3
    by_cases y2 : wrg_ m (wf_ B m (tq_ B n k) 0 (-1)) = true
    · have y3 := of_decide_eq_true y2
      obtain ⟨z1, z2, z3⟩ := y3
      have ev : tvl_ B n (tq_ B n k) = (i_ (wf_ B m (tq_ B n k) 0 (-1)).2).toInt64 := by
        unfold tvl_
        rw [if_pos h2b, ← hm]
        unfold wvl_
        rw [if_neg y1, if_pos y2]
      subst z1
      have l0 : B (tq_ B n k) = 114 ∧ isl_ (B (tq_ B n k + 1)) = false := by
        have ew : wf_ B 2 (tq_ B n k) 0 (-1) = if isl_ (B (tq_ B n k + 1)) = true then (wc_ (wc_ 0 (i_ (B (tq_ B n k)))) (i_ (B (tq_ B n k + 1))), -1) else (wc_ 0 (i_ (B (tq_ B n k))), B (tq_ B n k + 1) - 48) := by
          rw [wf_s]
          have e0 : wf_ B 1 (tq_ B n k) 0 (-1) = (wc_ 0 (i_ (B (tq_ B n k))), -1) := by
            show (if isl_ (B (tq_ B n k)) = true then _ else _) = _
            rw [if_pos h2b]
            rfl
          rw [e0]
        have e114 : wc_ 0 114 = lN 18 := by decide
        have ex : wc_ 0 (i_ (B (tq_ B n k))) = lN (32 * 0 + (B (tq_ B n k) - 96).toNat) := wc_n (x := 0) (by decide) hl
        by_cases y : isl_ (B (tq_ B n k + 1)) = true
        · rw [ew, if_pos y] at z2
          have hl2 : 97 ≤ B (tq_ B n k + 1) ∧ B (tq_ B n k + 1) ≤ 122 := by
            unfold isl_ at y
            rw [decide_eq_true_eq] at y
            exact y
          have z2 : wc_ (wc_ 0 (i_ (B (tq_ B n k)))) (i_ (B (tq_ B n k + 1))) = wc_ 0 114 := z2
          rw [ex, wc_n (by have p11 : (32 : Nat) ^ 11 = 36028797018963968 := by decide
                           omega) hl2, e114, lN_inj (by omega) (by omega)] at z2
          omega
        · rw [ew, if_neg y] at z2
          have z2 : wc_ 0 (i_ (B (tq_ B n k))) = wc_ 0 114 := z2
          rw [ex, e114, lN_inj (by omega) (by omega)] at z2
          exact ⟨by omega, Bool.eq_false_iff.mpr y⟩
      have ew2 : (wf_ B 2 (tq_ B n k) 0 (-1)).2 = B (tq_ B n k + 1) - 48 := by
        rw [wf_s, if_neg (by rw [l0.2]; decide)]
      have dg : isd_ (B (tq_ B n k + 1)) = true := by
        have z := al (tq_ B n k + 1) (by omega) (by omega)
        unfold ial_ at z
        rw [l0.2, Bool.false_or] at z
        exact z
      unfold isd_ at dg
      rw [decide_eq_true_eq] at dg
      rw [ew2] at z3 ev
      refine ⟨h1, e1, by omega, by rw [ev, e1], rfl, l0.1⟩
    · rw [if_neg y2] at h3
      exfalso
      rcases kwi_5 (bl_ B (tq_ B n k) m) 3 (bl_ne (by omega)) 21 0 with z | z <;> omega
theorem c_num2 (zw : Wd σ) (h : At_ σ B n k) (h2 : csg_ B n k = 2) : fn_ γ m_X10_number 1 [.ref 143] σ (.int (i_ (tnu_ B n k))) σ := by
  obtain ⟨a1, -, a3, a4, -⟩ := csg_2 h2
  have y := c_number (γ := γ) zw h a1
  rw [a4] at y
  obtain ⟨x, hx⟩ : ∃ x : Nat, tnu_ B n k = x := ⟨(tnu_ B n k).toNat, by omega⟩
  rw [hx, l_int (by omega), l_i32, Nat.mod_eq_of_lt (by omega)] at y
  rw [hx]
  exact y
end TV
