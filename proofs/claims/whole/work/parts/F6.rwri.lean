/-! the reference: write -/
section RWR
variable {γ : ga_T} {σ σ1 s : st_T} {n k i t c : Nat} {A : ca_T} {e : String → Nat} {P : pq_T} {O X : List Int} {z : Int}
def dO2_ (a k : Nat) : Prop := a = 218 ∨ (a = 185 ∧ k = 56)
def Ot_ (σ : st_T) (O : List Int) (s : st_T) : Prop := Wd s ∧ ro_ dO2_ σ s ∧ st_I s 185 56 = i_ (O.length : Int) ∧ ∀ (k : Nat) (z : Int), O[k]? = some z → st_I s 218 k = i_ z
theorem c_rprints (h : Ot_ σ O s) (hl : O.length < 1000) (hz : 0 ≤ z ∧ z < 128) : ∃ s1, fw_ γ m_X12_prints 0 [.ref 185, .int (i_ z)] s s1 ∧ Ot_ σ (O ++ [z]) s1 := by
  obtain ⟨h1, h2, h3, h4⟩ := h
  obtain ⟨m, rfl⟩ : ∃ m : Nat, z = m := ⟨z.toNat, by omega⟩
  refine ⟨pt_I (pt_I s 218 O.length (i_ (m : Int))) 185 56 (i_ ((O.length + 1 : Nat) : Int)), fw_q (fun Q zQ => e_X12_prints h1 ?_), h1, ro_I (ro_I h2 (Or.inl rfl)) (Or.inr ⟨rfl, rfl⟩), ?_, fun k x hx => ?_⟩
  · unfold p_X12_prints_0
    have e8 := by8 m (by omega)
    rw [i_nat] at e8
    rw [h3, i_cl (by omega), Int.toNat_natCast, e8, k1_, i_add]
    exact ⟨i_in (by omega) (by omega) (by omega), zQ⟩
  · rw [st_sI, List.length_append]
    rfl
  · rw [st_pI, if_neg (by omega), st_pI]
    by_cases y : k < O.length
    · rw [List.getElem?_append_left y] at hx
      rw [if_neg (by omega)]
      exact h4 k x hx
    · have z2 := (List.getElem?_eq_some_iff.mp hx).1
      rw [List.length_append, List.length_singleton] at z2
      have z3 : k = O.length := by omega
      subst z3
      rw [List.getElem?_append_right (Nat.le_refl _), Nat.sub_self] at hx
      have hx : some (m : Int) = some x := hx
      rw [if_pos ⟨rfl, rfl⟩, Option.some.inj hx]
theorem c_rptext (h : Ot_ σ O s) {a : Nat} (ha : a < 46) (hl : O.length ≤ 800) : ∃ s1, fw_ γ m_X12_printsText 13 [.ref 185, .ref (30 + a)] s s1 ∧ Ot_ σ (O ++ kt_ a) s1 := by
  have l100 := kb_len a ha
  refine fw_of (P := fun s1 => Ot_ σ (O ++ kt_ a) s1) (e_X12_printsText h.1 ?_)
  unfold p_X12_printsText_0
  have lp : ∀ (k i : Nat) (s : st_T), k + i = (kb_ a).length → Ot_ σ (O ++ (kt_ a).take i) s → vv_ γ m_X12_printsText 13 2 [(0, .ref 185), (1, .ref (30 + a)), (2, .int (i_ (i : Int)))] [] s (fun r s => r = .inl none ∧ Ot_ σ (O ++ kt_ a) s) := by
    intro k
    induction k with
    | zero =>
      intro i s zi x
      have w := x.1
      have zi : i = (kb_ a).length := by omega
      subst zi
      rw [List.take_of_length_le (by unfold kt_; rw [List.length_map]; exact Nat.le_refl _)] at x
      refine g_X12_printsText_2 w ?_
      unfold p_X12_printsText_2
      exact ⟨ha, _, s, w, c_strlen w ha, fun _ => ⟨rfl, x⟩, fun z => absurd (Int32.le_refl _) z⟩
    | succ k ih =>
      intro i s zi x
      have w := x.1
      have hi : i < (kb_ a).length := by omega
      have hb := List.all_eq_true.mp (kb_pos a ha) ((kb_ a)[i]) (List.getElem_mem hi)
      rw [decide_eq_true_eq] at hb
      have eg : (kb_ a).getD i 0 = i_ ((kb_ a)[i]).toInt := by
        rw [List.getD_eq_getElem?_getD, List.getElem?_eq_getElem hi]
        exact i_of _
      have lt : (O ++ (kt_ a).take i).length < 1000 := by
        rw [List.length_append, List.length_take]
        omega
      obtain ⟨s2, a1, a2⟩ := c_rprints (γ := γ) x lt hb
      have ca := c_charAt (γ := γ) w ha hi
      rw [eg] at ca
      have et : (kt_ a).take (i + 1) = (kt_ a).take i ++ [((kb_ a)[i]).toInt] := by
        refine take_s ?_
        unfold kt_
        rw [List.getElem?_map, List.getElem?_eq_getElem hi]
        rfl
      refine g_X12_printsText_2 w ?_
      unfold p_X12_printsText_2
      refine ⟨ha, _, s, w, c_strlen w ha, fun z => ?_, fun _ => ⟨ha, _, s, w, ca, s2, a2.1, a1, ?_⟩⟩
      · rw [i_le (by omega) (by omega)] at z
        omega
      · rw [k1_, i_add]
        refine ih (i + 1) s2 (by omega) ?_
        rw [et, ← List.append_assoc]
        exact a2
  exact lp (kb_ a).length 0 s rfl (by rw [List.take_zero, List.append_nil]; exact h)
theorem c_rpname (h : Ot_ σ O s) (hq : Rq_ σ P) (hN : Nv_ P) {l : Nat} (hl : l < pL_ P.1) (ho : O.length ≤ 800) : ∃ s1, fw_ γ m_X12_printsName 1 [.ref 185, .int (i_ (l : Int))] s s1 ∧ Ot_ σ (O ++ (32 :: P.2.1 l)) s1 := by
  have b3 := hq.1.1.2.2.1
  obtain ⟨q1, q2⟩ := hq.2.1 l hl
  obtain ⟨n8, n1, nc⟩ := hN l hl
  obtain ⟨s0, a1, a2⟩ := c_rprints (γ := γ) h (z := 32) (by omega) (by omega)
  refine fw_of (P := fun s1 => Ot_ σ (O ++ (32 :: P.2.1 l)) s1) (e_X12_printsName h.1 ?_)
  unfold p_X12_printsName_0
  refine ⟨s0, a2.1, a1, ?_⟩
  have lp : ∀ (k i : Nat) (s : st_T), k + i = (P.2.1 l).length → Ot_ σ ((O ++ [32]) ++ (P.2.1 l).take i) s → vv_ γ m_X12_printsName 1 8 [(0, .ref 185), (1, .int (i_ (l : Int))), (2, .int (i_ (i : Int)))] [] s (fun r s => r = .inl none ∧ Ot_ σ (O ++ (32 :: P.2.1 l)) s) := by
    intro k
    induction k with
    | zero =>
      intro i s zi x
      have w := x.1
      have zi : i = (P.2.1 l).length := by omega
      subst zi
      rw [List.take_length, List.append_assoc] at x
      refine g_X12_printsName_8 w ?_
      unfold p_X12_printsName_8
      rw [i_cl (by omega), Int.toNat_natCast, (x.2.1.2 191 l (fun y => by unfold dO2_ at y; omega)).1, q1]
      exact ⟨i_in (by omega) (by omega) (by omega), fun _ => ⟨rfl, x⟩, fun z => absurd (Int32.le_refl _) z⟩
    | succ k ih =>
      intro i s zi x
      have w := x.1
      obtain ⟨y, hy⟩ : ∃ y, (P.2.1 l)[i]? = some y := ⟨_, List.getElem?_eq_getElem (by omega)⟩
      have cy := nc y (List.mem_of_getElem? hy)
      have lt : ((O ++ [32]) ++ (P.2.1 l).take i).length < 1000 := by
        rw [List.length_append, List.length_append, List.length_take, List.length_singleton]
        omega
      obtain ⟨s2, d1, d2⟩ := c_rprints (γ := γ) (z := y) x lt (by omega)
      refine g_X12_printsName_8 w ?_
      unfold p_X12_printsName_8
      rw [i_cl (by omega), Int.toNat_natCast, (x.2.1.2 191 l (fun y => by unfold dO2_ at y; omega)).1, q1, i_le (by omega) (by omega), k8_, k1_, i_mul, i_add, i_add, i_cl (by omega), show ((8 : Int) * (l : Int) + (i : Int)).toNat = 8 * l + i by omega, (x.2.1.2 190 _ (fun y => by unfold dO2_ at y; omega)).1, q2 i y hy]
      refine ⟨i_in (by omega) (by omega) (by omega), fun z => by omega, fun _ => ⟨i_in (by omega) (by omega) (by omega), s2, d2.1, d1, ih (i + 1) s2 (by omega) ?_⟩⟩
      rw [take_s hy, ← List.append_assoc]
      exact d2
  exact lp (P.2.1 l).length 0 s0 rfl (by rw [List.take_zero, List.append_nil]; exact a2)
theorem kt_all : kt_ 38 = [108, 111, 99] ∧ kt_ 45 = kt_ 1 ++ [59] ∧ kt_ 44 = [32, 114] ∧ kt_ 34 = kt_ 13 ∧ kt_ 35 = kt_ 14 ∧ kt_ 36 = kt_ 15 ∧ kt_ 37 = kt_ 16 := by decide +kernel
theorem c_rpreg (h : Ot_ σ O s) (hz : 0 ≤ z ∧ z ≤ 3) (ho : O.length ≤ 700) : ∃ s1, fw_ γ m_X12_printsRegister 14 [.ref 185, .int (i_ z)] s s1 ∧ Ot_ σ (O ++ [32, 114, 48 + z]) s1 := by
  obtain ⟨s1, a1, a2⟩ := c_rptext (γ := γ) h (a := 44) (by decide) (by omega)
  rw [kt_all.2.2.1] at a2
  obtain ⟨s2, b1, b2⟩ := c_rprints (γ := γ) (z := 48 + z) a2 (by rw [List.length_append]; show _ + 2 < _; omega) (by omega)
  rw [List.append_assoc] at b2
  refine ⟨s2, fw_q (fun Q zQ => e_X12_printsRegister h.1 ?_), b2⟩
  unfold p_X12_printsRegister_0
  rw [show (48 : Int32) = i_ 48 by decide, i_add]
  exact ⟨s1, a2.1, a1, s2, b2.1, b1, zQ⟩
end RWR
