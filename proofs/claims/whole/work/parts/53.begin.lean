/-! findings: a new row is begun, codes are added; what was counted with fences -/
section BE
variable {γ : ga_T} {σ σ1 : st_T} {a : Nat} {L : List (Nat × Int64)} {t : fk_T}
theorem c_begin (ha : is_fi a) (zw : Wd σ) (zF : Fr_ σ a t) {k : Nat} (zk : k ≤ 65536) (s : Int32) : ∃ σ1 t', fw_ γ m_X3_begin 0 [.ref a, .int (i_ (k : Int)), .int s] σ σ1 ∧ Wd σ1 ∧ Fl_ σ1 a t' [] ∧ k ≤ t'.2.2 ∧ (∀ h, h < st_n σ → h ≠ a → eh_ σ σ1 h) ∧ ((t'.1 = t.1 ∨ st_n σ ≤ t'.1) ∧ (t'.2.1 = t.2.1 ∨ st_n σ ≤ t'.2.1)) ∧ t.2.2 ≤ t'.2.2 ∧ st_n σ ≤ st_n σ1 ∧
    st_c σ1 + t.2.2 ≤ st_c σ + t'.2.2 ∧ st_u σ1 + 4 * t.2.2 ≤ st_u σ + 4 * t'.2.2 ∧ st_I σ1 a 3 = s ∧ st_I σ1 a 4 = i_ 1 := by
  have y := fr_ne ha zF
  obtain ⟨b0, b1, n⟩ := t
  obtain ⟨⟨r1, r2⟩, ⟨s1, s2⟩, ⟨h1, h2⟩, n1⟩ := zF
  dsimp only at r1 r2 s1 s2 h1 h2 n1 y
  have z220 := zw.2.2
  have ya : a < 180 := by rcases ha with rfl | rfl | rfl <;> decide
  by_cases yk : k ≤ n
  · refine ⟨pt_I (pt_I (pt_I σ a 2 0) a 3 s) a 4 1, (b0, b1, n), fw_q (fun Q zQ => e_X3_begin ha zw ?_), zw, ⟨⟨⟨r1, r2⟩, ⟨s1, s2⟩, ⟨h1, h2⟩, n1⟩, by rw [st_pI, if_neg (by omega), st_pI, if_neg (by omega), st_pI, if_pos ⟨rfl, rfl⟩]; rfl, Nat.zero_le _, fun i q z => by simp at z⟩, yk, fun h z1 z2 => eh_tr (eh_tr (eh_I z2) (eh_I z2)) (eh_I z2), ⟨Or.inl rfl, Or.inl rfl⟩, Nat.le_refl _, Nat.le_refl _, Nat.le_refl _, Nat.le_refl _, ?_, st_sI _ _ _ _⟩
    · unfold p_X3_begin_0
      refine ⟨b0, r1, n, s1, ?_⟩
      rw [i_nat]
      simp (disch := omega) only [i_lt]
      refine ⟨fun z => by omega, fun _ => ⟨b1, r2, n, s2, ?_⟩⟩
      rw [i_nat]
      simp (disch := omega) only [i_le]
      exact ⟨fun _ => zQ, fun z => by omega⟩
    · show st_I (pt_I (pt_I (pt_I σ a 2 0) a 3 s) a 4 1) a 3 = s
      rw [st_pI, if_neg (by omega), st_pI, if_pos ⟨rfl, rfl⟩]
  · obtain ⟨σ0, e0⟩ : ∃ σ0, σ0 = pt_I (pt_I (pt_I σ a 2 0) a 3 s) a 4 1 := ⟨_, rfl⟩
    have v0 : Wd σ0 := by rw [e0]; exact zw
    have n0 : st_n σ0 = st_n σ := by rw [e0]; rfl
    have c0 : st_c σ0 = st_c σ := by rw [e0]; rfl
    have u0 : st_u σ0 = st_u σ := by rw [e0]; rfl
    have w3 : st_I σ0 a 3 = s := by rw [e0, st_pI, if_neg (by omega), st_pI, if_pos ⟨rfl, rfl⟩]
    have w4 : st_I σ0 a 4 = 1 := by rw [e0]; exact st_sI _ _ _ _
    have w2 : st_I σ0 a 2 = 0 := by rw [e0, st_pI, if_neg (by omega), st_pI, if_neg (by omega), st_pI, if_pos ⟨rfl, rfl⟩]
    have eh0 : ∀ h, h ≠ a → eh_ σ σ0 h := fun h z2 => by rw [e0]; exact eh_tr (eh_tr (eh_I z2) (eh_I z2)) (eh_I z2)
    refine ⟨pt_R (pt_N (pt_R (pt_N σ0 21 (2 * k) (2 * k)) a 0 (some (st_n σ0))) 22 (2 * k) (2 * k)) a 1 (some (st_n (pt_R (pt_N σ0 21 (2 * k) (2 * k)) a 0 (some (st_n σ0))))), (st_n σ, st_n σ + 1, 2 * k), fw_q (fun Q zQ => e_X3_begin ha zw ?_), Wd_R (Wd_N (Wd_R (Wd_N v0) (wN_fi_0 ha))) (wN_fi_1 ha), ?_, (show k ≤ 2 * k by omega), ?_, ⟨Or.inr (Nat.le_refl _), Or.inr (Nat.le_succ _)⟩, (show n ≤ 2 * k by omega), (show st_n σ ≤ st_n σ0 + 1 + 1 by omega), (show st_c σ0 + 1 + 1 + n ≤ st_c σ + 2 * k by omega), (show st_u σ0 + 2 * k + 2 * k + 4 * n ≤ st_u σ + 4 * (2 * k) by omega), ?_, ?_⟩
    · unfold p_X3_begin_0
      refine ⟨b0, r1, n, s1, ?_⟩
      rw [i_nat, ← e0]
      simp (disch := omega) only [i_lit, i_mul, i_lt, i_cl]
      refine ⟨fun _ => ⟨by omega, 2 * k, by omega, by omega, by omega, 2 * k, by omega, by omega, zQ⟩, fun z => by omega⟩
    · refine ⟨⟨⟨?_, ?_⟩, ⟨?_, ?_⟩, ⟨⟨Or.inr z220, ?_⟩, ⟨Or.inr (Nat.le_succ_of_le z220), ?_⟩⟩, (show 2 * k ≤ 131072 by omega)⟩, ?_, Nat.zero_le _, fun i q z => by simp at z⟩
      · show (if a = a ∧ 0 = 1 then _ else if a = st_n σ0 + 1 then none else if a = a ∧ 0 = 0 then some (st_n σ0) else _) = some (st_n σ)
        rw [if_neg (by omega), if_neg (by omega), if_pos ⟨rfl, rfl⟩, n0]
      · rw [st_sR]
        show some (st_n σ0 + 1) = some (st_n σ + 1)
        rw [n0]
      · show (if st_n σ = st_n σ0 + 1 then _ else if st_n σ = st_n σ0 then (21, 2 * k) else _) = (21, 2 * k)
        rw [if_neg (by omega), if_pos n0.symm]
      · show (if st_n σ + 1 = st_n σ0 + 1 then (22, 2 * k) else _) = (22, 2 * k)
        rw [if_pos (by omega)]
      · show st_n σ < st_n σ0 + 1 + 1
        omega
      · show st_n σ + 1 < st_n σ0 + 1 + 1
        omega
      · show (if a = st_n σ0 + 1 then 0 else if a = st_n σ0 then 0 else st_I σ0 a 2) = i_ 0
        rw [if_neg (by omega), if_neg (by omega), w2]
        rfl
    · intro h z1 z2
      have z3 : h < st_n σ0 := by omega
      exact eh_tr (eh_tr (eh_tr (eh_tr (eh0 h z2) (eh_N z3)) (eh_R z2)) (eh_N (show h < st_n σ0 + 1 by omega))) (eh_R z2)
    · show (if a = st_n σ0 + 1 then 0 else if a = st_n σ0 then 0 else st_I σ0 a 3) = s
      rw [if_neg (by omega), if_neg (by omega), w3]
    · show (if a = st_n σ0 + 1 then 0 else if a = st_n σ0 then 0 else st_I σ0 a 4) = i_ 1
      rw [if_neg (by omega), if_neg (by omega), w4]
      rfl
theorem c_fadd (ha : is_fi a) (zw : Wd σ) (zF : Fl_ σ a t L) (zl : L.length < t.2.2) {c : Nat} (zc : c < 4194304) (x : Int64) : ∃ σ1, fw_ γ m_X3_add 0 [.ref a, .int (i_ (c : Int)), .long x] σ σ1 ∧ Wd σ1 ∧ Fl_ σ1 a t (L ++ [(c, x)]) ∧ ff_ σ a t σ1 t := by
  have y := fr_ne ha zF.1
  obtain ⟨⟨⟨r1, r2⟩, ⟨s1, s2⟩, hh, n1⟩, f1, f2, f3⟩ := zF
  have el : (i_ (L.length : Int)).toNatClampNeg = L.length := by rw [i_cl (by omega)]; exact Int.toNat_natCast _
  have e2 : st_I (pt_I σ t.1 L.length (i_ (c : Int))) a 2 = i_ (L.length : Int) := by
    rw [st_pI, if_neg (fun z => y.2.1 z.1.symm)]
    exact f1
  refine ⟨pt_I (pt_L (pt_I σ t.1 L.length (i_ (c : Int))) t.2.1 L.length x) a 2 (i_ (L.length : Int) + 1), fw_q (fun Q zQ => e_X3_add ha zw ?_), zw, ⟨⟨⟨r1, r2⟩, ⟨s1, s2⟩, hh, n1⟩, ?_, ?_, fun i q hq => ?_⟩, ⟨fun h _ z2 z3 z4 => eh_tr (eh_tr (eh_I z3) (eh_L z4)) (eh_I z2), ⟨Or.inl rfl, Or.inl rfl⟩, Nat.le_refl _, Nat.le_refl _, Nat.le_refl _, Nat.le_refl _, fun j zj => ?_⟩⟩
  · unfold p_X3_add_0
    rw [f1, el]
    refine ⟨t.1, r1, t.2.2, s1, ?_⟩
    rw [i_nat, e2, el]
    simp (disch := omega) only [i_le]
    refine ⟨fun z => by omega, fun _ => ⟨t.2.1, r2, t.2.2, s2, ?_⟩⟩
    rw [i_nat]
    simp (disch := omega) only [i_le, i_in_iff]
    exact ⟨fun z => by omega, fun _ => ⟨by omega, by omega, zQ⟩⟩
  · show st_I (pt_I (pt_L (pt_I σ t.1 L.length (i_ (c : Int))) t.2.1 L.length x) a 2 (i_ (L.length : Int) + 1)) a 2 = _
    rw [st_sI, List.length_append, List.length_singleton, i_lit 1, i_add]
    rfl
  · rw [List.length_append, List.length_singleton]
    omega
  · rw [show st_I (pt_I (pt_L (pt_I σ t.1 L.length (i_ (c : Int))) t.2.1 L.length x) a 2 (i_ (L.length : Int) + 1)) t.1 i = if t.1 = a ∧ i = 2 then _ else if t.1 = t.1 ∧ i = L.length then i_ (c : Int) else st_I σ t.1 i from rfl, show st_L (pt_I (pt_L (pt_I σ t.1 L.length (i_ (c : Int))) t.2.1 L.length x) a 2 (i_ (L.length : Int) + 1)) t.2.1 i = if t.2.1 = t.2.1 ∧ i = L.length then x else st_L σ t.2.1 i from rfl, if_neg (fun z => y.2.1 z.1)]
    by_cases z : i < L.length
    · rw [List.getElem?_append_left z] at hq
      rw [if_neg (by omega), if_neg (by omega)]
      exact f3 i q hq
    · have z2 := (List.getElem?_eq_some_iff.mp hq).1
      rw [List.length_append, List.length_singleton] at z2
      have z3 : i = L.length := by omega
      subst z3
      rw [List.getElem?_append_right (Nat.le_refl _), Nat.sub_self] at hq
      have hq := Option.some.inj hq
      subst hq
      rw [if_pos ⟨rfl, rfl⟩, if_pos ⟨rfl, rfl⟩]
      exact ⟨rfl, rfl, zc⟩
  · show (if a = a ∧ j = 2 then _ else if a = t.1 ∧ j = L.length then _ else st_I σ a j) = st_I σ a j
    rw [if_neg (by omega), if_neg (fun z => y.2.1 z.1.symm)]
theorem c_keep (ha : is_fi a) (zw : Wd σ) {g : Nat} (zg : g < 64) (v w : Int32) : fw_ γ m_X3_keepFenced 0 [.ref a, .int (i_ (g : Int)), .int v, .int w] σ (pt_I (pt_I σ (a + 3) g v) (a + 4) g w) := fw_q (fun Q zQ => e_X3_keepFenced ha zw (by
  unfold p_X3_keepFenced_0
  simp (disch := omega) only [i_lit, i_le, i_lt, i_in_iff, i_cl, Int.toNat_natCast]
  exact ⟨fun z => by omega, fun _ => ⟨fun z => by omega, fun _ => ⟨fun z => by omega, fun _ => ⟨by omega, by omega, zQ⟩⟩⟩⟩))
theorem c_fencedO (ha : is_fi a) (zw : Wd σ) {g : Nat} (zg : g < 64) : fn_ γ m_X3_fencedOutcomes 0 [.ref a, .int (i_ (g : Int))] σ (.int (st_I σ (a + 3) g)) σ := fn_q (fun Q zQ => e_X3_fencedOutcomes ha zw (by
  unfold p_X3_fencedOutcomes_0
  simp (disch := omega) only [i_lit, i_le, i_lt, i_in_iff, i_cl, Int.toNat_natCast]
  exact ⟨fun z => by omega, fun _ => ⟨fun z => by omega, fun _ => ⟨by omega, zQ⟩⟩⟩))
theorem c_fencedM (ha : is_fi a) (zw : Wd σ) {g : Nat} (zg : g < 64) : fn_ γ m_X3_fencedMatches 0 [.ref a, .int (i_ (g : Int))] σ (.int (st_I σ (a + 4) g)) σ := fn_q (fun Q zQ => e_X3_fencedMatches ha zw (by
  unfold p_X3_fencedMatches_0
  simp (disch := omega) only [i_lit, i_le, i_lt, i_in_iff, i_cl, Int.toNat_natCast]
  exact ⟨fun z => by omega, fun _ => ⟨fun z => by omega, fun _ => ⟨by omega, zQ⟩⟩⟩))
theorem c_fill {b n : Nat} (zw : Wd σ) (h1 : st_S σ b = (21, n)) (h2 : n < 2147483648) (v : Int32) : fw_ γ m_J7_fill_53178 0 [.ref b, .int v] σ (pt_W σ b (fun j => if j < n then v else st_I σ b j)) := fw_q (fun Q zQ => e_J7_fill_53178 (by
  unfold p_J7_fill_53178_0
  refine ⟨n, h1, ?_⟩
  rw [i_nat]
  have key : ∀ (k i : Nat), k + i = n → vv_ γ m_J7_fill_53178 0 5 [(0, .ref b), (1, .int v), (2, .int (i_ (i : Int))), (3, .int (i_ (n : Int)))] [] (pt_W σ b (fun j => if j < i then v else st_I σ b j)) Q := by
    intro k
    induction k with
    | zero =>
      intro i zi
      have zi : i = n := by omega
      subst zi
      refine g_J7_fill_53178_5 ?_
      unfold p_J7_fill_53178_5
      exact ⟨fun _ => zQ, fun z => absurd (Int32.le_refl _) z⟩
    | succ k ih =>
      intro i zi
      have y := ih (i + 1) (by omega)
      rw [show ((i + 1 : Nat) : Int) = (i : Int) + 1 by omega, ← i_add, ← i_lit 1] at y
      refine g_J7_fill_53178_5 ?_
      unfold p_J7_fill_53178_5
      simp (disch := omega) only [i_le, i_in_iff, i_cl, Int.toNat_natCast]
      refine ⟨fun z => by omega, fun _ => ⟨n, h1, ?_⟩⟩
      refine ⟨by omega, ?_⟩
      have es : pt_I (pt_W σ b (fun j => if j < i then v else st_I σ b j)) b i v = pt_W σ b (fun j => if j < i + 1 then v else st_I σ b j) := by
        rw [pW_I]
        congr 1
        funext j
        by_cases z : j = i
        · subst z
          rw [if_pos rfl, if_pos (by omega)]
        · rw [if_neg z]
          by_cases z2 : j < i
          · rw [if_pos z2, if_pos (by omega)]
          · rw [if_neg z2, if_neg (by omega)]
      rw [es]
      exact y
  have y := key n 0 (by omega)
  rw [pW_id _ _ _ (fun j => if_neg (Nat.not_lt_zero j))] at y
  exact y))
theorem c_forget (ha : is_fi a) (zw : Wd σ) : fw_ γ m_X3_forget 1 [.ref a] σ (pt_W (pt_I σ a 4 0) (a + 3) (fun j => if j < 64 then -1 else st_I (pt_I σ a 4 0) (a + 3) j)) := fw_q (fun Q zQ => e_X3_forget ha zw (by
  unfold p_X3_forget_0
  have zv : Wd (pt_I σ a 4 0) := zw
  exact ⟨_, (show Wd (pt_W (pt_I σ a 4 0) (a + 3) _) from zw), c_fill zv (wS_fi3 zv ha) (by decide) _, zQ⟩))
end BE
