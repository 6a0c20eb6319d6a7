/-! findings: their rows, what they answer -/
section FN
variable {γ : ga_T} {σ σ1 : st_T} {a : Nat} {L : List (Nat × Int64)}
abbrev fk_T : Type := Nat × Nat × Nat
def hf_ (σ : st_T) (a b : Nat) : Prop := ((b = a + 1 ∨ b = a + 2) ∨ 220 ≤ b) ∧ b < st_n σ
/-- the rows of the findings at a: codes, ways, how long both are -/
def Fr_ (σ : st_T) (a : Nat) (t : fk_T) : Prop := (st_R σ a 0 = some t.1 ∧ st_R σ a 1 = some t.2.1) ∧ (st_S σ t.1 = (21, t.2.2) ∧ st_S σ t.2.1 = (22, t.2.2)) ∧ (hf_ σ a t.1 ∧ hf_ σ a t.2.1) ∧ t.2.2 ≤ 131072
def Fl_ (σ : st_T) (a : Nat) (t : fk_T) (L : List (Nat × Int64)) : Prop := Fr_ σ a t ∧ st_I σ a 2 = i_ (L.length : Int) ∧ L.length ≤ t.2.2 ∧ ∀ i q, L[i]? = some q → st_I σ t.1 i = i_ (q.1 : Int) ∧ st_L σ t.2.1 i = q.2 ∧ q.1 < 4194304
theorem fr_ne (ha : is_fi a) {t : fk_T} (h : Fr_ σ a t) : t.1 ≠ t.2.1 ∧ t.1 ≠ a ∧ t.2.1 ≠ a ∧ t.1 ≠ a + 3 ∧ t.1 ≠ a + 4 ∧ t.2.1 ≠ a + 3 ∧ t.2.1 ≠ a + 4 := by
  obtain ⟨-, ⟨h1, h2⟩, ⟨h3, h4⟩, -⟩ := h
  have y3 := h3.1
  have y4 := h4.1
  have y : a < 180 := by rcases ha with rfl | rfl | rfl <;> decide
  refine ⟨fun z => ?_, by omega, by omega, by omega, by omega, by omega, by omega⟩
  rw [z, h2] at h1
  exact absurd (show (22 : Nat) = 21 from congrArg Prod.fst h1) (by decide)
/-- what a change of the findings leaves as it was -/
def ff_ (σ : st_T) (a : Nat) (t : fk_T) (σ1 : st_T) (t' : fk_T) : Prop := (∀ h, h < st_n σ → h ≠ a → h ≠ t.1 → h ≠ t.2.1 → eh_ σ σ1 h) ∧
  ((t'.1 = t.1 ∨ st_n σ ≤ t'.1) ∧ (t'.2.1 = t.2.1 ∨ st_n σ ≤ t'.2.1)) ∧ t.2.2 ≤ t'.2.2 ∧ st_n σ ≤ st_n σ1 ∧
  st_c σ1 + t.2.2 ≤ st_c σ + t'.2.2 ∧ st_u σ1 + 4 * t.2.2 ≤ st_u σ + 4 * t'.2.2 ∧ (∀ j, 2 < j → st_I σ1 a j = st_I σ a j)
theorem ff_rf (t : fk_T) : ff_ σ a t σ t := ⟨fun _ _ _ _ _ => eh_rf _, ⟨Or.inl rfl, Or.inl rfl⟩, Nat.le_refl _, Nat.le_refl _, Nat.le_refl _, Nat.le_refl _, fun _ _ => rfl⟩
theorem ff_tr {σ2 : st_T} {t t1 t2 : fk_T} (h : ff_ σ a t σ1 t1) (k : ff_ σ1 a t1 σ2 t2) : ff_ σ a t σ2 t2 := by
  obtain ⟨h1, ⟨h2, h3⟩, h5, h7, h8, h9, h10⟩ := h
  obtain ⟨k1, ⟨k2, k3⟩, k5, k7, k8, k9, k10⟩ := k
  refine ⟨fun b z1 z2 z3 z4 => eh_tr (h1 b z1 z2 z3 z4) (k1 b (by omega) z2 (by omega) (by omega)), ⟨by omega, by omega⟩, by omega, by omega, by omega, by omega, fun j z => (k10 j z).trans (h10 j z)⟩
theorem c_fsize (ha : is_fi a) (zw : Wd σ) {t : fk_T} (zF : Fl_ σ a t L) : fn_ γ m_X3_size 0 [.ref a] σ (.int (i_ (L.length : Int))) σ := fn_q (fun Q zQ => e_X3_size ha zw (by
  unfold p_X3_size_0
  rw [zF.2.1]
  exact zQ))
theorem c_fstates (ha : is_fi a) (zw : Wd σ) : fn_ γ m_X3_states 0 [.ref a] σ (.int (st_I σ a 3)) σ := fn_q (fun Q zQ => e_X3_states ha zw (by
  unfold p_X3_states_0
  exact zQ))
theorem c_fknown (ha : is_fi a) (zw : Wd σ) (h : st_I σ a 4 = 0 ∨ st_I σ a 4 = 1) : fn_ γ m_X3_isKnown 0 [.ref a] σ (.int (st_I σ a 4)) σ := fn_q (fun Q zQ => e_X3_isKnown ha zw (by
  unfold p_X3_isKnown_0
  exact ⟨h, zQ⟩))
/-- the code, the ways at an index -/
def cf_ (L : List (Nat × Int64)) (z : Int) : Int := if 0 ≤ z then (match L[z.toNat]? with | some q => (q.1 : Int) | none => -1) else -1
def we_ (L : List (Nat × Int64)) (z : Int) : Int64 := if 0 ≤ z then (match L[z.toNat]? with | some q => q.2 | none => 0) else 0
theorem cf_at {i : Nat} {q : Nat × Int64} (h : L[i]? = some q) : cf_ L (i : Int) = q.1 := by
  unfold cf_
  rw [if_pos (by omega), Int.toNat_natCast, h]
theorem we_at {i : Nat} {q : Nat × Int64} (h : L[i]? = some q) : we_ L (i : Int) = q.2 := by
  unfold we_
  rw [if_pos (by omega), Int.toNat_natCast, h]
theorem c_codeAt (ha : is_fi a) (zw : Wd σ) {t : fk_T} (zF : Fl_ σ a t L) {z : Int} (q1 : -2147483648 ≤ z ∧ z < 2147483648) : fn_ γ m_X3_codeAt 0 [.ref a, .int (i_ z)] σ (.int (i_ (cf_ L z))) σ := fn_q (fun Q zQ => e_X3_codeAt ha zw (by
  obtain ⟨⟨⟨r1, r2⟩, ⟨s1, s2⟩, -, n1⟩, f1, f2, f3⟩ := zF
  unfold p_X3_codeAt_0
  rw [f1]
  simp (disch := omega) only [i_lit, i_neg, i_lt, i_le]
  refine ⟨fun z1 => ?_, fun z1 => ⟨fun z2 => ?_, fun z2 => ⟨_, r1, _, s1, ?_⟩⟩⟩
  · exact qi_ zQ (by unfold cf_; rw [if_neg (by omega)])
  · exact qi_ zQ (by unfold cf_; rw [if_pos (by omega), List.getElem?_eq_none (by omega)])
  · obtain ⟨q, hq⟩ : ∃ q, L[z.toNat]? = some q := ⟨_, List.getElem?_eq_getElem (by omega)⟩
    have e := f3 _ _ hq
    rw [i_nat]
    simp (disch := omega) only [i_le, i_in_iff, i_cl]
    refine ⟨fun z3 => by omega, fun _ => ⟨by omega, ?_⟩⟩
    rw [e.1]
    exact qi_ zQ (by unfold cf_; rw [if_pos (by omega), hq])))
theorem c_execAt (ha : is_fi a) (zw : Wd σ) {t : fk_T} (zF : Fl_ σ a t L) {z : Int} (q1 : -2147483648 ≤ z ∧ z < 2147483648) : fn_ γ m_X3_executionsAt 0 [.ref a, .int (i_ z)] σ (.long (we_ L z)) σ := fn_q (fun Q zQ => e_X3_executionsAt ha zw (by
  obtain ⟨⟨⟨r1, r2⟩, ⟨s1, s2⟩, -, n1⟩, f1, f2, f3⟩ := zF
  have qw : ∀ x : Int64, we_ L z = x → Q (.inl (some (.long x))) σ := fun x e => e ▸ zQ
  unfold p_X3_executionsAt_0
  rw [f1]
  simp (disch := omega) only [i_lit, i_neg, i_lt, i_le]
  refine ⟨fun z1 => ?_, fun z1 => ⟨fun z2 => ?_, fun z2 => ⟨_, r2, _, s2, ?_⟩⟩⟩
  · exact qw _ (by unfold we_; rw [if_neg (by omega)])
  · exact qw _ (by unfold we_; rw [if_pos (by omega), List.getElem?_eq_none (by omega)])
  · obtain ⟨q, hq⟩ : ∃ q, L[z.toNat]? = some q := ⟨_, List.getElem?_eq_getElem (by omega)⟩
    have e := f3 _ _ hq
    rw [i_nat]
    simp (disch := omega) only [i_le, i_in_iff, i_cl]
    refine ⟨fun z3 => by omega, fun _ => ⟨by omega, ?_⟩⟩
    rw [e.2.1]
    exact qw _ (by unfold we_; rw [if_pos (by omega), hq])))
/-- codes increase -/
def So_ (L : List (Nat × Int64)) : Prop := ∀ i j, i < j → j < L.length → wa_ L i < wa_ L j
/-- the place of a code -/
def fp_ (L : List (Nat × Int64)) (c : Int) : Int := match L.findIdx? (fun q => decide ((q.1 : Int) = c)) with | some i => (i : Int) | none => -1
theorem fp_at (hS : So_ L) {i : Nat} {c : Int} (zi : i < L.length) (e : (wa_ L i : Int) = c) : fp_ L c = i := by
  have y : L.findIdx? (fun q => decide ((q.1 : Int) = c)) = some i := by
    rw [List.findIdx?_eq_some_iff_getElem]
    have g : ∀ j (zj : j < L.length), (L[j].1) = wa_ L j := fun j zj => (wa_eq (List.getElem?_eq_getElem zj)).symm
    refine ⟨zi, ?_, fun j zj => ?_⟩
    · rw [g]
      exact decide_eq_true e
    · rw [g]
      have y := hS j i zj zi
      rw [decide_eq_true_eq]
      omega
  unfold fp_
  rw [y]
theorem fp_no {c : Int} (h : ∀ i, i < L.length → (wa_ L i : Int) ≠ c) : fp_ L c = -1 := by
  have y : L.findIdx? (fun q => decide ((q.1 : Int) = c)) = none := by
    rw [List.findIdx?_eq_none_iff]
    intro x hx
    obtain ⟨i, zi⟩ := List.getElem?_of_mem hx
    have y1 := (List.getElem?_eq_some_iff.mp zi).1
    have y2 := h i y1
    rw [wa_eq zi] at y2
    exact decide_eq_false y2
  unfold fp_
  rw [y]
theorem c_placeOf (ha : is_fi a) (zw : Wd σ) {t : fk_T} (zF : Fl_ σ a t L) (hS : So_ L) {c : Int} (q1 : -2147483648 ≤ c ∧ c < 2147483648) : fn_ γ m_X3_placeOf 1 [.ref a, .int (i_ c)] σ (.int (i_ (fp_ L c))) σ := by
  have hn : L.length ≤ 131072 := Nat.le_trans zF.2.2.1 zF.1.2.2.2
  refine fn_q (fun Q zQ => e_X3_placeOf ha zw ?_)
  unfold p_X3_placeOf_0
  rw [zF.2.1]
  simp only [i_lit, i_sub]
  have key : ∀ (k : Nat) (lo hi : Int) (n : Nat), k + n = 18 → 0 ≤ lo → hi < L.length → -1 ≤ hi → lo ≤ L.length → hi + 1 - lo < 2 ^ k → (∀ i : Nat, i < L.length → (i : Int) < lo → (wa_ L i : Int) ≠ c) → (∀ i : Nat, i < L.length → hi < (i : Int) → (wa_ L i : Int) ≠ c) →
      vv_ γ m_X3_placeOf 1 12 [(0, .ref a), (1, .int (i_ c)), (2, .int (i_ lo)), (3, .int (i_ hi)), (4, .int (i_ (n : Int)))] [] σ Q := by
    intro k
    induction k with
    | zero =>
      intro lo hi n z1 z2 z3 z4 z5 z6 z7 z8
      refine g_X3_placeOf_12 ha zw ?_
      unfold p_X3_placeOf_12
      simp (disch := omega) only [i_lit, i_neg, i_le, i_lt]
      refine ⟨fun z => by omega, fun _ => ⟨fun _ => ?_, fun z => by omega⟩⟩
      rw [fp_no (fun i zi => by
        by_cases y : (i : Int) < lo
        · exact z7 i zi y
        · exact z8 i zi (by omega))] at zQ
      exact zQ
    | succ k ih =>
      intro lo hi n z1 z2 z3 z4 z5 z6 z7 z8
      refine g_X3_placeOf_12 ha zw ?_
      unfold p_X3_placeOf_12
      simp (disch := omega) only [i_lit, i_neg, i_le, i_lt]
      refine ⟨fun z => by omega, fun _ => ⟨fun z => ?_, fun z => ?_⟩⟩
      · rw [fp_no (fun i zi => by
          by_cases y : (i : Int) < lo
          · exact z7 i zi y
          · exact z8 i zi (by omega))] at zQ
        exact zQ
      · obtain ⟨x, hx⟩ : ∃ x : Nat, lo + hi = x := ⟨(lo + hi).toNat, by omega⟩
        obtain ⟨m, hm⟩ : ∃ m : Nat, m = x / 2 := ⟨_, rfl⟩
        have em : (i_ lo + i_ hi) / i_ 2 = i_ (m : Int) := by
          rw [i_add, hx, show (2 : Int) = ((2 : Nat) : Int) from rfl, i_div (by omega) (by omega), hm]
        obtain ⟨q, hq⟩ : ∃ q, L[m]? = some q := ⟨_, List.getElem?_eq_getElem (by omega)⟩
        have y3 := (zF.2.2.2 _ _ hq).2.2
        have ew := wa_eq hq
        have y1 := c_codeAt (γ := γ) ha zw zF (z := m) (by omega)
        rw [cf_at hq] at y1
        rw [em]
        refine ⟨_, _, zw, y1, ?_⟩
        simp (disch := omega) only [i_eq]
        refine ⟨fun z9 => ?_, fun z9 => ⟨_, _, zw, y1, ?_⟩⟩
        · rw [fp_at hS (i := m) (by omega) (by rw [ew]; exact z9)] at zQ
          exact zQ
        · simp (disch := omega) only [i_le, i_add, i_sub]
          have p1 : (2 : Int) ^ (k + 1) = 2 * 2 ^ k := by rw [Int.pow_succ, Int.mul_comm]
          refine ⟨fun y2 => ?_, fun y2 => ?_⟩
          · refine ih lo ((m : Int) - 1) (n + 1) (by omega) z2 (by omega) (by omega) z5 (by omega) z7 (fun i zi y5 => ?_)
            by_cases y6 : i = m
            · rw [y6, ew]
              exact z9
            · have y7 := hS m i (by omega) zi
              rw [ew] at y7
              omega
          · refine ih ((m : Int) + 1) hi (n + 1) (by omega) (by omega) z3 z4 (by omega) (by omega) (fun i zi y5 => ?_) z8
            by_cases y6 : i = m
            · rw [y6, ew]
              exact z9
            · have y7 := hS i m (by omega) (by omega)
              rw [ew] at y7
              omega
  exact key 18 0 ((L.length : Int) - 1) 0 rfl (Int.le_refl _) (by omega) (by omega) (by omega) (by
    show (L.length : Int) - 1 + 1 - 0 < (262144 : Int)
    omega) (fun i _ z => by omega) (fun i _ z => by omega)
end FN
