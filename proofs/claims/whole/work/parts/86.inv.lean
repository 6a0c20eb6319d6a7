/-! the class between two calls -/
section JV
variable {γ : ga_T} {σ σ1 : st_T} {P : pq_T}
/-- text, program, output, changes, explanation -/
abbrev ca_T : Type := (Nat → Int) × Nat × pq_T × List Int × List Nat × Option ex_T
def aB_ (A : ca_T) : Nat → Int := A.1
def an2_ (A : ca_T) : Nat := A.2.1
def aP_ (A : ca_T) : pq_T := A.2.2.1
def aO_ (A : ca_T) : List Int := A.2.2.2.1
def aC_ (A : ca_T) : List Nat := A.2.2.2.2.1
def aE_ (A : ca_T) : Option ex_T := A.2.2.2.2.2
/-- the rows that were made: of the table, of the findings of the three models -/
abbrev rt_T : Type := tk_T × fk_T × fk_T × fk_T
def rf_ (R : rt_T) (m : Nat) : fk_T := if m = 0 then R.2.1 else if m = 1 then R.2.2.1 else R.2.2.2
def fa_ (m : Nat) : Nat := if m = 0 then 164 else if m = 1 then 169 else 174
theorem fa_fi (m : Nat) : is_fi (fa_ m) := by
  unfold fa_
  split
  · exact Or.inl rfl
  · split
    · exact Or.inr (Or.inl rfl)
    · exact Or.inr (Or.inr rfl)
/-- a good program: well formed, its names and its condition too -/
def Pg_ (P : pq_T) : Prop := Wp_ P.1 ∧ Nv_ P ∧ ∃ e, e ≤ 1 ∧ ug_ (cb_ P.1) P.2.2 0 e
/-- the state spaces are small -/
def Bq_ (p : pr_T) : Prop := ∀ m, m < 3 → (bf_ p m (F0_ p)).length ≤ 65536 ∧ Bd_ p m (F0_ p) ∧ (∀ G, G < 64 → Bd_ p m (FG_ p G)) ∧ ∀ i, pC_ p i 1 = 3 → Bd_ p m (fun j => F0_ p j && decide (j ≠ i))
/-- the outcomes with their ways, sorted -/
def ocs_ (p : pr_T) (m : Nat) (F : Nat → Bool) : List (Nat × Int64) := (rl_ p (bf_ p m F)).mergeSort (fun x y => decide (x.1 ≤ y.1))
/-- what findings hold of a model -/
def Kn_ (σ : st_T) (a m : Nat) (P : pq_T) (f : fk_T) : Prop := Fr_ σ a f ∧
  (st_I σ a 4 = i_ 0 ∨ (st_I σ a 4 = i_ 1 ∧ Fl_ σ a f (ocs_ P.1 m (F0_ P.1)) ∧ st_I σ a 3 = i_ ((bf_ P.1 m (F0_ P.1)).length : Int))) ∧
  ∀ g, g < 64 → st_I σ (a + 3) g = i_ (-1) ∨ (st_I σ (a + 3) g = i_ (cn_ (fi_ P.1) (bf_ P.1 m (FG_ P.1 g)) (bf_ P.1 m (FG_ P.1 g)).length : Int) ∧ st_I σ (a + 4) g = i_ (cn_ (fm_ P.1 P.2.2) (bf_ P.1 m (FG_ P.1 g)) (bf_ P.1 m (FG_ P.1 g)).length : Int))
def Ep_ (σ : st_T) (E : Option ex_T) : Prop := match E with
  | none => st_I σ 181 6 = i_ 0 ∧ ∃ o, Xp_ σ ([], o, [])
  | some e => st_I σ 181 6 = i_ 1 ∧ Xp_ σ e
/-- findings and table have rows of their own -/
def Dr_ (R : rt_T) : Prop := (∀ m, m < 3 → Dj_ R.1 (rf_ R m)) ∧ ∀ m k, m < 3 → k < 3 → m ≠ k → (rf_ R m).1 ≠ (rf_ R k).1 ∧ (rf_ R m).1 ≠ (rf_ R k).2.1 ∧ (rf_ R m).2.1 ≠ (rf_ R k).1 ∧ (rf_ R m).2.1 ≠ (rf_ R k).2.1
def J_ (σ : st_T) (A : ca_T) (R : rt_T) : Prop := (Wd σ ∧ Tx_ σ (aB_ A) (an2_ A) ∧ st_I σ 128 1 = i_ (an2_ A : Int)) ∧ (Pq_ σ 132 (aP_ A) ∧ Pg_ (aP_ A)) ∧ (Xo_ σ (aO_ A) ∧ Xc_ σ (aC_ A) ∧ Ep_ σ (aE_ A)) ∧
  (∃ L, Tk_ σ L R.1) ∧ (∀ m, m < 3 → Kn_ σ (fa_ m) m (aP_ A) (rf_ R m)) ∧ Dr_ R
/-- what it costs -/
def zR_ (R : rt_T) : Nat := R.1.2.2.2.1 + R.1.2.2.2.2.1 + 128 * ((rf_ R 0).2.2 + (rf_ R 1).2.2 + (rf_ R 2).2.2)
def yR_ (R : rt_T) : Nat := 4 * R.1.2.2.2.1 + 2 * R.1.2.2.2.2.1 + 4 * ((rf_ R 0).2.2 + (rf_ R 1).2.2 + (rf_ R 2).2.2)
def Co_ (σ : st_T) (R : rt_T) (x : Nat) (σ1 : st_T) (R1 : rt_T) : Prop := (∀ h, 185 ≤ h → h < 220 → eh_ σ σ1 h) ∧ st_n σ ≤ st_n σ1 ∧ 128 * st_c σ1 + zR_ R ≤ 128 * st_c σ + zR_ R1 + 128 * x ∧ st_u σ1 + yR_ R ≤ st_u σ + yR_ R1 + 6 * x
theorem co_rf (R : rt_T) : Co_ σ R 0 σ R := ⟨fun h _ _ => eh_rf h, Nat.le_refl _, Nat.le_refl _, Nat.le_refl _⟩
theorem co_tr {σ2 : st_T} {R R1 R2 : rt_T} {x y : Nat} (h : Co_ σ R x σ1 R1) (k : Co_ σ1 R1 y σ2 R2) : Co_ σ R (x + y) σ2 R2 := by
  obtain ⟨h1, h2, h3, h4⟩ := h
  obtain ⟨k1, k2, k3, k4⟩ := k
  exact ⟨fun a z1 z2 => eh_tr (h1 a z1 z2) (k1 a z1 z2), by omega, by omega, by omega⟩
theorem kn_eh {a m : Nat} {f : fk_T} (h : Kn_ σ a m P f) (hn : st_n σ ≤ st_n σ1) (h0 : eh_ σ σ1 a) (h3 : eh_ σ σ1 (a + 3)) (h4 : eh_ σ σ1 (a + 4)) (h1 : eh_ σ σ1 f.1) (h2 : eh_ σ σ1 f.2.1) : Kn_ σ1 a m P f := by
  obtain ⟨⟨⟨r1, r2⟩, ⟨s1, s2⟩, ⟨q1, q2⟩, n1⟩, k, g⟩ := h
  have F : Fr_ σ1 a f := ⟨⟨by rw [h0.2.2.1]; exact r1, by rw [h0.2.2.1]; exact r2⟩, ⟨h1.2.2.2.trans s1, h2.2.2.2.trans s2⟩, ⟨⟨q1.1, Nat.lt_of_lt_of_le q1.2 hn⟩, ⟨q2.1, Nat.lt_of_lt_of_le q2.2 hn⟩⟩, n1⟩
  refine ⟨F, ?_, fun j zj => ?_⟩
  · rw [h0.1, h0.1]
    rcases k with k | ⟨k1, k2, k3⟩
    · exact Or.inl k
    · exact Or.inr ⟨k1, ⟨F, by rw [h0.1]; exact k2.2.1, k2.2.2.1, fun i q z => by rw [h1.1, h2.2.1]; exact k2.2.2.2 i q z⟩, k3⟩
  · rw [h3.1, h4.1]
    exact g j zj
theorem rf_at (R : rt_T) (f : fk_T) {m k : Nat} (hm : m < 3) (hk : k < 3) : rf_ (if m = 0 then (R.1, f, R.2.2.1, R.2.2.2) else if m = 1 then (R.1, R.2.1, f, R.2.2.2) else (R.1, R.2.1, R.2.2.1, f)) k = if k = m then f else rf_ R k := by
  unfold rf_
  have e1 : m = 0 ∨ m = 1 ∨ m = 2 := by omega
  have e2 : k = 0 ∨ k = 1 ∨ k = 2 := by omega
  rcases e1 with rfl | rfl | rfl <;> rcases e2 with rfl | rfl | rfl <;> rfl
theorem Xo_eh {O : List Int} (h : Xo_ σ O) (h1 : eh_ σ σ1 130) (h2 : eh_ σ σ1 131) : Xo_ σ1 O := ⟨h.1, by rw [h1.1]; exact h.2.1, fun k z y => by rw [h2.1]; exact h.2.2 k z y⟩
theorem Xc_eh {C : List Nat} (h : Xc_ σ C) (h1 : eh_ σ σ1 179) (h2 : eh_ σ σ1 180) : Xc_ σ1 C := ⟨h.1, by rw [h1.1]; exact h.2.1, fun k z y => by rw [h2.1]; exact h.2.2 k z y⟩
theorem Xp_eh {e : ex_T} (h : Xp_ σ e) (h1 : eh_ σ σ1 181) (h2 : eh_ σ σ1 182) (h3 : eh_ σ σ1 183) (h4 : eh_ σ σ1 184) : Xp_ σ1 e :=
  ⟨⟨by rw [h1.1]; exact h.1.1, h.1.2.1, fun i q z => by rw [h2.1]; exact h.1.2.2 i q z⟩, ⟨by rw [h1.1]; exact h.2.1.1, h.2.1.2.1, fun i q z => by rw [h4.1]; exact h.2.1.2.2 i q z⟩, fun i z => by rw [h3.1]; exact h.2.2 i z⟩
theorem Ep_eh {E : Option ex_T} (h : Ep_ σ E) (h1 : eh_ σ σ1 181) (h2 : eh_ σ σ1 182) (h3 : eh_ σ σ1 183) (h4 : eh_ σ σ1 184) : Ep_ σ1 E := by
  cases E with
  | none =>
    obtain ⟨k1, o, k2⟩ := h
    exact ⟨by rw [h1.1]; exact k1, o, Xp_eh k2 h1 h2 h3 h4⟩
  | some e => exact ⟨by rw [h1.1]; exact h.1, Xp_eh h.2 h1 h2 h3 h4⟩
/-- what a search leaves: table, machine, path change -/
theorem j_kf {A : ca_T} {R : rt_T} {L : List (Nat × Int64)} {t : tk_T} (h : J_ σ A R) (hw : Wd σ1) (hT : Tk_ σ1 L t) (k : kf_ σ R.1 σ1 t) {E : Option ex_T} (hE : Ep_ σ1 E) : J_ σ1 (aB_ A, an2_ A, aP_ A, aO_ A, aC_ A, E) (t, R.2) ∧ Co_ σ R 0 σ1 (t, R.2) := by
  obtain ⟨⟨w, x1, x2⟩, ⟨p1, p2⟩, ⟨o1, o2, o3⟩, ⟨L0, T0⟩, kn, d1, d2⟩ := h
  have lo := fun {a : Nat} z1 z2 z3 => kf_low w T0 k (a := a) z1 z2 z3
  have row : ∀ m, m < 3 → ∀ b, (b = (rf_ R m).1 ∨ b = (rf_ R m).2.1) → eh_ σ σ1 b := by
    intro m hm b hb
    obtain ⟨⟨-, -, ⟨q1, q2⟩, -⟩, -⟩ := kn m hm
    obtain ⟨⟨e1, e2, e3⟩, e4, e5, e6⟩ := d1 m hm
    have fa : fa_ m = 164 ∨ fa_ m = 169 ∨ fa_ m = 174 := fa_fi m
    rcases hb with rfl | rfl
    · have y := q1.1
      exact k.1 _ q1.2 (by omega) (by omega) (by omega) (by omega) e1.symm e2.symm e3.symm
    · have y := q2.1
      exact k.1 _ q2.2 (by omega) (by omega) (by omega) (by omega) e4.symm e5.symm e6.symm
  refine ⟨⟨⟨hw, ⟨x1.1, fun i zi => by rw [(lo (a := 129) (by omega) (by omega) (by omega)).1]; exact x1.2 i zi⟩, by rw [(lo (a := 128) (by omega) (by omega) (by omega)).1]; exact x2⟩, ⟨pq_eh p1 (lo (by omega) (by omega) (by omega)) (lo (by omega) (by omega) (by omega)) (lo (by omega) (by omega) (by omega)) (lo (by omega) (by omega) (by omega)) (lo (by omega) (by omega) (by omega)), p2⟩, ⟨Xo_eh o1 (lo (by omega) (by omega) (by omega)) (lo (by omega) (by omega) (by omega)), Xc_eh o2 (lo (by omega) (by omega) (by omega)) (lo (by omega) (by omega) (by omega)), hE⟩, ⟨L, hT⟩, fun m hm => ?_, fun m hm => ?_, d2⟩, ⟨fun h z1 z2 => lo (by omega) (by omega) z2, k.2.2.2.1, ?_, ?_⟩⟩
  · have fa : fa_ m = 164 ∨ fa_ m = 169 ∨ fa_ m = 174 := fa_fi m
    exact kn_eh (kn m hm) k.2.2.2.1 (lo (by omega) (by omega) (by omega)) (lo (by omega) (by omega) (by omega)) (lo (by omega) (by omega) (by omega)) (row m hm _ (Or.inl rfl)) (row m hm _ (Or.inr rfl))
  · obtain ⟨⟨-, -, ⟨q1, q2⟩, -⟩, -⟩ := kn m hm
    obtain ⟨⟨e1, e2, e3⟩, e4, e5, e6⟩ := d1 m hm
    have y1 := q1.2
    have y2 := q2.2
    obtain ⟨⟨c1, c2, c3⟩, -⟩ := k.2
    show Dj_ t (rf_ R m)
    exact ⟨⟨by omega, by omega, by omega⟩, by omega, by omega, by omega⟩
  · have y := k.2.2.2.2.1
    show 128 * st_c σ1 + zR_ R ≤ 128 * st_c σ + (t.2.2.2.1 + t.2.2.2.2.1 + 128 * ((rf_ R 0).2.2 + (rf_ R 1).2.2 + (rf_ R 2).2.2)) + 128 * 0
    unfold zR_
    omega
  · have y := k.2.2.2.2.2
    show st_u σ1 + yR_ R ≤ st_u σ + (4 * t.2.2.2.1 + 2 * t.2.2.2.2.1 + 4 * ((rf_ R 0).2.2 + (rf_ R 1).2.2 + (rf_ R 2).2.2)) + 6 * 0
    unfold yR_
    omega
end JV
