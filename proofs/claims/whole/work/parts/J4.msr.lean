/-! how many states (T2): what a thread adds to the sum -/
section MS
variable {a b n nx ny k : Nat}
def mst_ (a : Nat) (D : List (Nat × Nat)) (nx ny : Nat) : List (Nat × Nat) :=
  if a = 0 then [(nx, ny)] else if a = 1 then D ++ (D.filter (fun x => decide (x.1 = nx))).map (fun x => (x.1 + 1, x.2)) else if a = 3 then D.filter (fun x => decide (x.1 ≠ nx)) ++ (D.filter (fun x => decide (x.1 = nx))).map (fun x => (x.1 + 1, x.2)) else D ++ D.map (fun x => (x.1, x.2 + 1))
def mls_ : List Nat → List (Nat × Nat) → Nat → Nat → List (Nat × Nat)
  | [], D, _, _ => D
  | a :: L, D, nx, ny => D ++ mls_ L (mst_ a D nx ny) (nx + (if px_ a = true then 1 else 0)) (ny + (if py_ a = true then 1 else 0))
theorem cst_mst (a : Nat) (D : List cf2_T) (nx ny k : Nat) : (cstep_ a D nx ny k).map Prod.snd = mst_ a (D.map Prod.snd) nx ny := by
  unfold cstep_ mst_
  by_cases h0 : a = 0
  · rw [if_pos h0, if_pos h0]
    rfl
  · rw [if_neg h0, if_neg h0]
    by_cases h1 : a = 1
    · rw [if_pos h1, if_pos h1, List.map_append, List.map_map, List.map_map, List.filter_map, List.map_map]
      rfl
    · rw [if_neg h1, if_neg h1]
      by_cases h3 : a = 3
      · rw [if_pos h3, if_pos h3, List.map_append, List.map_map, List.map_map, List.filter_map, List.filter_map, List.map_map]
        rfl
      · rw [if_neg h3, if_neg h3, List.map_append, List.map_map, List.map_map, List.map_map]
        rfl
theorem cls_mls : ∀ (L : List Nat) (D : List cf2_T) (nx ny k : Nat), (cls_ L D nx ny k).map Prod.snd = mls_ L (D.map Prod.snd) nx ny
  | [], _, _, _, _ => rfl
  | a :: L, D, nx, ny, k => by
    show (D ++ cls_ L (cstep_ a D nx ny k) _ _ (k + 1)).map Prod.snd = D.map Prod.snd ++ mls_ L (mst_ a (D.map Prod.snd) nx ny) _ _
    rw [List.map_append, cls_mls L, cst_mst]
def tx_ (L : List Nat) : Nat := cnt_ L 1 + cnt_ L 3
theorem tx_cons (a : Nat) (L : List Nat) : tx_ (a :: L) = tx_ L + (if px_ a = true then 1 else 0) := by
  unfold tx_
  rw [cnt_cons, cnt_cons]
  by_cases h1 : a = 1
  · subst h1
    show cnt_ L 1 + 1 + (cnt_ L 3 + 0) = _ + 1
    omega
  · by_cases h3 : a = 3
    · subst h3
      show cnt_ L 1 + 0 + (cnt_ L 3 + 1) = _ + 1
      omega
    · rw [if_neg h1, if_neg h3, if_neg (show ¬ px_ a = true from fun y => (of_decide_eq_true y).elim h1 h3)]
      simp only [Nat.add_zero]
theorem ty_cons (a : Nat) (L : List Nat) : cnt_ (a :: L) 2 = cnt_ L 2 + (if py_ a = true then 1 else 0) := by
  rw [cnt_cons]
  by_cases h : a = 2
  · rw [if_pos h, if_pos (show py_ a = true from decide_eq_true h)]
  · rw [if_neg h, if_neg (show ¬ py_ a = true from fun y => h (of_decide_eq_true y))]
/-- is there an access? -/
def hac_ (L : List Nat) : Bool := L.any (fun a => decide (a ≠ 0))
def nrm_ : Bool → List Nat → List Nat
  | _, [] => []
  | fl, a :: L => if a = 0 then (if (fl || !hac_ L) = true then nrm_ fl L else 0 :: nrm_ true L) else a :: nrm_ false L
def exn_ : Bool → List Nat → Nat
  | _, [] => 0
  | fl, a :: L => if a = 0 then (if (fl || !hac_ L) = true then exn_ fl L + 1 else exn_ true L) else exn_ false L
def Mo_ (f : Nat × Nat → Nat) : Prop := ∀ x y : Nat × Nat, x.1 ≤ y.1 → x.2 ≤ y.2 → f x ≤ f y
theorem hac_no {L : List Nat} (h : hac_ L = false) : ∀ a, a ∈ L → a = 0 := fun a ha => by
  unfold hac_ at h
  have y := List.any_eq_false.mp h a ha
  rw [decide_eq_true_eq] at y
  exact Classical.byContradiction y
theorem mls_0 (f : Nat × Nat → Nat) : ∀ (L : List Nat) (fl : Bool), (∀ a, a ∈ L → a = 0) → sumf_ f (mls_ L [(nx, ny)] nx ny) = (L.length + 1) * f (nx, ny) ∧ nrm_ fl L = [] ∧ exn_ fl L = L.length ∧ ∀ D, sumf_ f (mls_ L D nx ny) = sumf_ f D + L.length * f (nx, ny)
  | [], fl, _ => ⟨by
    show f (nx, ny) + 0 = (0 + 1) * f (nx, ny)
    omega, rfl, rfl, fun D => by
    show sumf_ f D = sumf_ f D + 0 * f (nx, ny)
    omega⟩
  | a :: L, fl, h => by
    have e := h a List.mem_cons_self
    subst e
    obtain ⟨i1, i2, i3, -⟩ := mls_0 f L fl (fun b hb => h b (List.mem_cons_of_mem _ hb))
    have hh : hac_ L = false := by
      unfold hac_
      refine List.any_eq_false.mpr (fun b hb => ?_)
      rw [decide_eq_true_eq]
      exact fun y => y (h b (List.mem_cons_of_mem _ hb))
    have e1 : ∀ D, mls_ (0 :: L) D nx ny = D ++ mls_ L [(nx, ny)] nx ny := fun D => rfl
    have e2 : (fl || !hac_ L) = true := by
      rw [hh]
      cases fl <;> rfl
    refine ⟨?_, ?_, ?_, fun D => ?_⟩
    · rw [e1, sumf_app, i1, List.length_cons]
      show f (nx, ny) + 0 + _ = _
      rw [Nat.add_zero, Nat.add_comm, ← Nat.succ_mul]
    · show (if 0 = 0 then (if (fl || !hac_ L) = true then nrm_ fl L else 0 :: nrm_ true L) else _) = []
      rw [if_pos rfl, if_pos e2, i2]
    · show (if 0 = 0 then (if (fl || !hac_ L) = true then exn_ fl L + 1 else exn_ true L) else _) = _
      rw [if_pos rfl, if_pos e2, i3, List.length_cons]
    · rw [e1, sumf_app, i1, List.length_cons]
theorem nrm_le {f : Nat × Nat → Nat} (hf : Mo_ f) : ∀ (L : List Nat) (fl : Bool) (D : List (Nat × Nat)) (nx ny : Nat), (fl = true → D = [(nx, ny)]) → sumf_ f (mls_ L D nx ny) ≤ sumf_ f (mls_ (nrm_ fl L) D nx ny) + exn_ fl L * f (nx + tx_ L, ny + cnt_ L 2)
  | [], fl, D, nx, ny, _ => Nat.le_add_right _ _
  | a :: L, fl, D, nx, ny, hfl => by
    by_cases h0 : a = 0
    · subst h0
      have c1 : tx_ (0 :: L) = tx_ L := by
        rw [tx_cons]
        rfl
      have c2 : cnt_ (0 :: L) 2 = cnt_ L 2 := by
        rw [cnt_cons]
        rfl
      have e1 : mls_ (0 :: L) D nx ny = D ++ mls_ L [(nx, ny)] nx ny := rfl
      have en : nrm_ fl (0 :: L) = (if (fl || !hac_ L) = true then nrm_ fl L else 0 :: nrm_ true L) := if_pos rfl
      have ee : exn_ fl (0 :: L) = (if (fl || !hac_ L) = true then exn_ fl L + 1 else exn_ true L) := if_pos rfl
      have ih := nrm_le hf L true [(nx, ny)] nx ny (fun _ => rfl)
      rw [c1, c2, e1, sumf_app, en, ee]
      cases fl with
      | true =>
        have eD := hfl rfl
        rw [if_pos (show (true || !hac_ L) = true from rfl), if_pos (show (true || !hac_ L) = true from rfl), eD]
        have ft : f (nx, ny) ≤ f (nx + tx_ L, ny + cnt_ L 2) := hf _ _ (Nat.le_add_right _ _) (Nat.le_add_right _ _)
        have es : sumf_ f [(nx, ny)] = f (nx, ny) := Nat.add_zero _
        rw [es, Nat.succ_mul]
        omega
      | false =>
        cases hh : hac_ L with
        | false =>
          obtain ⟨i1, i2, i3, i4⟩ := mls_0 (nx := nx) (ny := ny) f L false (hac_no hh)
          have z1 : ∀ t, t ≠ 0 → cnt_ L t = 0 := fun t ht => by
            unfold cnt_
            rw [List.filter_eq_nil_iff.mpr (fun b hb => by
              rw [decide_eq_true_eq, hac_no hh b hb]
              exact fun y => ht y.symm)]
            rfl
          rw [if_pos (show (false || !false) = true from rfl), if_pos (show (false || !false) = true from rfl), i2, i3, i1, show tx_ L = 0 by unfold tx_; rw [z1 1 (by decide), z1 3 (by decide)], z1 2 (by decide)]
          exact Nat.le_refl _
        | true =>
          rw [if_neg (show ¬ (false || !true) = true by decide), if_neg (show ¬ (false || !true) = true by decide)]
          have e3 : mls_ (0 :: nrm_ true L) D nx ny = D ++ mls_ (nrm_ true L) [(nx, ny)] nx ny := rfl
          rw [e3, sumf_app]
          omega
    · have en : nrm_ fl (a :: L) = a :: nrm_ false L := if_neg h0
      have ee : exn_ fl (a :: L) = exn_ false L := if_neg h0
      have ih := nrm_le hf L false (mst_ a D nx ny) (nx + (if px_ a = true then 1 else 0)) (ny + (if py_ a = true then 1 else 0)) (fun y => by cases y)
      have c1 : nx + (if px_ a = true then 1 else 0) + tx_ L = nx + tx_ (a :: L) := by
        rw [tx_cons]
        omega
      have c2 : ny + (if py_ a = true then 1 else 0) + cnt_ L 2 = ny + cnt_ (a :: L) 2 := by
        rw [ty_cons]
        omega
      rw [c1, c2] at ih
      rw [en, ee]
      show sumf_ f (D ++ mls_ L (mst_ a D nx ny) _ _) ≤ sumf_ f (D ++ mls_ (nrm_ false L) (mst_ a D nx ny) _ _) + _
      rw [sumf_app, sumf_app]
      omega
/-- accesses, with at most one fence between two -/
def acc_ (L : List Nat) : List Nat := L.filter (fun a => decide (a ≠ 0))
def shp_ : List Nat → List (List Nat)
  | [] => [[]]
  | a :: r => (shp_ r ++ (if r = [] then [] else (shp_ r).map (fun s => 0 :: s))).map (fun s => a :: s)
theorem acc_0 (L : List Nat) : acc_ (0 :: L) = acc_ L := List.filter_cons_of_neg (by decide)
theorem acc_a {a : Nat} (h : a ≠ 0) (L : List Nat) : acc_ (a :: L) = a :: acc_ L := List.filter_cons_of_pos (p := fun a => decide (a ≠ 0)) (decide_eq_true h)
theorem acc_nil {L : List Nat} (h : hac_ L = false) : acc_ L = [] := List.filter_eq_nil_iff.mpr (fun b hb => by
  rw [decide_eq_true_eq]
  exact fun y => y (hac_no h b hb))
theorem nrm_shp : ∀ (L : List Nat), nrm_ true L ∈ shp_ (acc_ L) ∧ nrm_ false L ∈ shp_ (acc_ L) ++ (if acc_ L = [] then [] else (shp_ (acc_ L)).map (fun s => 0 :: s))
  | [] => ⟨List.mem_singleton.mpr rfl, List.mem_append.mpr (Or.inl (List.mem_singleton.mpr rfl))⟩
  | a :: L => by
    obtain ⟨i1, i2⟩ := nrm_shp L
    by_cases h0 : a = 0
    · subst h0
      have en : ∀ fl, nrm_ fl (0 :: L) = (if (fl || !hac_ L) = true then nrm_ fl L else 0 :: nrm_ true L) := fun fl => if_pos rfl
      rw [acc_0, en, en]
      refine ⟨by rw [if_pos (show (true || !hac_ L) = true from rfl)]; exact i1, ?_⟩
      cases hh : hac_ L with
      | false =>
        rw [if_pos (show (false || !false) = true from rfl)]
        exact i2
      | true =>
        rw [if_neg (show ¬ (false || !true) = true by decide)]
        have ne : acc_ L ≠ [] := fun y => by
          unfold hac_ at hh
          obtain ⟨b, b1, b2⟩ := List.any_eq_true.mp hh
          have z := List.filter_eq_nil_iff.mp y b b1
          exact z b2
        rw [if_neg ne]
        exact List.mem_append.mpr (Or.inr (List.mem_map.mpr ⟨_, i1, rfl⟩))
    · have en : ∀ fl, nrm_ fl (a :: L) = a :: nrm_ false L := fun fl => if_neg h0
      rw [acc_a h0, en, en]
      have y : a :: nrm_ false L ∈ shp_ (a :: acc_ L) := List.mem_map.mpr ⟨_, i2, rfl⟩
      exact ⟨y, List.mem_append.mpr (Or.inl y)⟩
/-- sums by counting -/
theorem sumf_cnt {f : Nat × Nat → Nat} : ∀ (E V : List (Nat × Nat)), (∀ v, v ∈ E → E.count v ≤ V.count v) → sumf_ f E ≤ sumf_ f V
  | [], _, _ => Nat.zero_le _
  | v :: E, V, h => by
    have hv := h v List.mem_cons_self
    rw [List.count_cons_self] at hv
    have m : v ∈ V := List.count_pos_iff.mp (by omega)
    obtain ⟨A, B, e⟩ := List.append_of_mem m
    subst e
    have ih := sumf_cnt (f := f) E (A ++ B) (fun u hu => by
      have y := h u (List.mem_cons_of_mem _ hu)
      rw [List.count_append, List.count_cons] at y
      rw [List.count_cons] at y
      rw [List.count_append]
      omega)
    rw [sumf_app] at ih
    rw [sumf_app]
    show f v + sumf_ f E ≤ sumf_ f A + (f v + sumf_ f B)
    omega
end MS
