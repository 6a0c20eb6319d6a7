/-! the class searches the first execution with an outcome -/
section DF
variable {γ : ga_T} {σ : st_T} {p : pr_T} {m : Nat} {F : Nat → Bool} {L0 : List (Nat × Int64)} {t0 : tk_T} {c : Nat}
/-- the frame: table and path alone change -/
def pf_ (σ : st_T) (t : tk_T) (σ1 : st_T) (t' : tk_T) : Prop := (∀ a, a < st_n σ → a ≠ 148 → a ≠ 152 → a ≠ t.1 → a ≠ t.2.1 → a ≠ t.2.2.1 → eh_ σ σ1 a) ∧
  ((t'.1 = t.1 ∨ st_n σ ≤ t'.1) ∧ (t'.2.1 = t.2.1 ∨ st_n σ ≤ t'.2.1) ∧ (t'.2.2.1 = t.2.2.1 ∨ st_n σ ≤ t'.2.2.1)) ∧ (t.2.2.2.1 ≤ t'.2.2.2.1 ∧ t.2.2.2.2.1 ≤ t'.2.2.2.2.1) ∧ st_n σ ≤ st_n σ1 ∧
  128 * st_c σ1 + t.2.2.2.1 + t.2.2.2.2.1 ≤ 128 * st_c σ + t'.2.2.2.1 + t'.2.2.2.2.1 ∧ st_u σ1 + 4 * t.2.2.2.1 + 2 * t.2.2.2.2.1 ≤ st_u σ + 4 * t'.2.2.2.1 + 2 * t'.2.2.2.2.1
theorem pf_tf {s : st_T} {t : tk_T} (h : tf_ σ t0 s t) : pf_ σ t0 s t := ⟨fun a z1 z2 _ z4 z5 z6 => h.1 a z1 z2 z4 z5 z6, h.2⟩
theorem pf_tr {s s2 : st_T} {t t2 : tk_T} (h : pf_ σ t0 s t) (k : pf_ s t s2 t2) : pf_ σ t0 s2 t2 := by
  obtain ⟨h1, ⟨h2, h3, h4⟩, ⟨h5, h6⟩, h7, h8, h9⟩ := h
  obtain ⟨k1, ⟨k2, k3, k4⟩, ⟨k5, k6⟩, k7, k8, k9⟩ := k
  refine ⟨fun a z1 z2 z6 z3 z4 z5 => eh_tr (h1 a z1 z2 z6 z3 z4 z5) (k1 a (by omega) z2 z6 (by omega) (by omega) (by omega)), ⟨by omega, by omega, by omega⟩, ⟨by omega, by omega⟩, by omega, by omega, by omega⟩
theorem pf_I {s : st_T} {t : tk_T} {k : Nat} {v : Int32} (h : pf_ σ t0 s t) : pf_ σ t0 (pt_I s 152 k v) t := ⟨fun a z1 z2 z3 z4 z5 z6 => eh_tr (h.1 a z1 z2 z3 z4 z5 z6) (eh_I z3), h.2⟩
theorem pf_low (zw : Wd σ) (zT : Tk_ σ L0 t0) {s : st_T} {t : tk_T} (h : pf_ σ t0 s t) {a : Nat} (q : a < 148 ∨ 151 < a) (q2 : a ≠ 152) (q1 : a < 220) : eh_ σ s a := by
  obtain ⟨b0, b1, b2, n0, n2, e⟩ := t0
  have y := zT.1.2.2.1
  have z := zw.2.2
  have y1 : (149 ≤ b0 ∧ b0 ≤ 151) ∨ 220 ≤ b0 := y.2.1.1
  have y2 : (149 ≤ b1 ∧ b1 ≤ 151) ∨ 220 ≤ b1 := y.2.2.1.1
  have y3 : (149 ≤ b2 ∧ b2 ≤ 151) ∨ 220 ≤ b2 := y.2.2.2.1
  have z1 : a ≠ b0 := by omega
  have z2 : a ≠ b1 := by omega
  have z3 : a ≠ b2 := by omega
  exact h.1 a (by omega) (by omega) q2 z1 z2 z3
/-- during the search: the table holds the states that were tried -/
def Dx_ (σ : st_T) (p : pr_T) (m : Nat) (F : Nat → Bool) (t0 : tk_T) (s : st_T) (M : List (gs_T × Int64)) : Prop := ∃ t, Wd s ∧ Tk_ s (wm_ p M) t ∧ pf_ σ t0 s t ∧ ∀ q ∈ M, Rs_ p m F q.1
/-- from a state on, these are the least steps that lead to the code -/
def Lp_ (p : pr_T) (g : gm_T) (c : Nat) : gs_T → List (Nat × Nat) → Prop
  | S, [] => fi_ p S = true ∧ cc_ p S = c
  | S, q :: r => fi_ p S = false ∧ q.1 < pT_ p ∧ q.2 ≤ pL_ p ∧ (∃ S2, gt_ g S q.1 q.2 = some S2 ∧ Lp_ p g c S2 r) ∧
      (∀ u v S2, u < q.1 → v ≤ pL_ p → gt_ g S u v = some S2 → ¬ Ld_ p g c S2) ∧ (∀ v S2, v < q.2 → gt_ g S q.1 v = some S2 → ¬ Ld_ p g c S2)
def Pw_ (s : st_T) (d : Nat) (r : List (Nat × Nat)) : Prop := ∀ i q, r[i]? = some q → st_I s 152 (d + i) = i_ ((10 * q.1 + q.2 : Nat) : Int)
/-- what the search leaves: nothing found, or the least path -/
def Ro_ (σ : st_T) (p : pr_T) (m : Nat) (F : Nat → Bool) (t0 : tk_T) (c : Nat) (S : gs_T) (d : Nat) (M : List (gs_T × Int64)) (b : Nat) (v : Value) (s : st_T) : Prop := ∃ M', Dx_ σ p m F t0 s M' ∧ (∀ q ∈ M', q ∈ M ∨ lft_ p q.1 < b) ∧
  ((v = .int (i_ 0) ∧ ¬ Ld_ p (gcl_ p m F) c S ∧ ∀ q ∈ M', lft_ p q.1 < b → ¬ Ld_ p (gcl_ p m F) c q.1) ∨ (v = .int (i_ 1) ∧ ∃ r, Lp_ p (gcl_ p m F) c S r ∧ d + r.length ≤ 18 ∧ Pw_ s d r))
theorem dx_mc (zw : Wd σ) (zT : Tk_ σ L0 t0) (zM : Mc_ σ p m F) {s : st_T} {M : List (gs_T × Int64)} (h : Dx_ σ p m F t0 s M) : Mc_ s p m F := by
  obtain ⟨t, -, -, h3, -⟩ := h
  exact mc_eh (fun a y1 y2 => pf_low zw zT h3 (by omega) (by omega) (by omega)) zM
theorem dx_E (zw : Wd σ) (zT : Tk_ σ L0 t0) (hE : st_L σ 153 14 = lN (en_ p (s1k_ p (pT_ p)))) {s : st_T} {M : List (gs_T × Int64)} (h : Dx_ σ p m F t0 s M) : st_L s 153 14 = lN (en_ p (s1k_ p (pT_ p))) := by
  obtain ⟨t, -, -, h3, -⟩ := h
  rw [(pf_low zw zT h3 (a := 153) (by omega) (by omega) (by omega)).2.1]
  exact hE
theorem dx_R (zw : Wd σ) (zT : Tk_ σ L0 t0) (zR : Rp_ σ 132 p) {s : st_T} {M : List (gs_T × Int64)} (h : Dx_ σ p m F t0 s M) : Rp_ s 132 p := by
  obtain ⟨t, -, -, h3, -⟩ := h
  exact rp_eh zR (pf_low zw zT h3 (a := 132) (by omega) (by omega) (by omega)) (pf_low zw zT h3 (a := 134) (by omega) (by omega) (by omega)) (pf_low zw zT h3 (a := 135) (by omega) (by omega) (by omega))
theorem dx_len (zP : Wp_ p) (hb : Bd_ p m F) {s : st_T} {M : List (gs_T × Int64)} (h : Dx_ σ p m F t0 s M) : M.length ≤ 131072 := by
  obtain ⟨t, -, h2, -, h4⟩ := h
  have hn : Nd_ (wm_ p M) := h2.2.2.2.2.2
  have el : (wm_ p M).length = M.length := List.length_map _
  have ew : ∀ i q, M[i]? = some q → wa_ (wm_ p M) i = en_ p q.1 := fun i q z => wa_eq (x := (en_ p q.1, q.2)) (by
    unfold wm_
    rw [List.getElem?_map, z]
    rfl)
  have key : ∀ i, ∃ j, i < M.length → (j < (bf_ p m F).length ∧ ∃ q q2, M[i]? = some q ∧ (bf_ p m F)[j]? = some q2 ∧ q2.1 = q.1) := by
    intro i
    by_cases z : i < M.length
    · obtain ⟨q2, h5, h6⟩ := h4 (M[i]) (List.getElem_mem z)
      obtain ⟨j, hj⟩ := List.getElem?_of_mem h5
      exact ⟨j, fun _ => ⟨(List.getElem?_eq_some_iff.mp hj).1, M[i], q2, List.getElem?_eq_getElem z, hj, h6⟩⟩
    · exact ⟨0, fun y => absurd y z⟩
  have y := ph_ (bf_ p m F).length M.length (fun i => (key i).choose) (fun i zi => ((key i).choose_spec zi).1) (fun i j zi zj e => by
    obtain ⟨-, q, q2, k1, k2, k3⟩ := (key i).choose_spec zi
    obtain ⟨-, r, r2, l1, l2, l3⟩ := (key j).choose_spec zj
    have e : (key i).choose = (key j).choose := e
    rw [e, l2] at k2
    rw [Option.some.inj k2] at l3
    refine hn i j (by omega) (by omega) ?_
    rw [ew i q k1, ew j r l1, ← k3, ← l3])
  exact Nat.le_trans y (hb 131072)
end DF
