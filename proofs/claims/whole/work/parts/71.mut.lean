/-! Program: names, condition; how it is built -/
section MU
variable {γ : ga_T} {a : Nat} {σ σ1 : st_T} {p : pr_T}
/-- the class's number of a name -/
def ncd_ (l : List Int) : Int64 := l.foldl (fun x c => wc_ x (i_ c)) 0
/-- a program with the names of its locations and its condition -/
abbrev pq_T : Type := pr_T × (Nat → List Int) × List Int
def Pq_ (σ : st_T) (a : Nat) (P : pq_T) : Prop := Rp_ σ a P.1 ∧ (∀ l, l < pL_ P.1 → st_L σ (a + 1) l = ncd_ (P.2.1 l)) ∧ P.2.2.length ≤ 31 ∧ st_I σ a 7 = i_ (P.2.2.length : Int) ∧ ∀ k u, P.2.2[k]? = some u → st_I σ (a + 4) k = i_ u
theorem pq_eh {P : pq_T} (h : Pq_ σ a P) (h0 : eh_ σ σ1 a) (h1 : eh_ σ σ1 (a + 1)) (h2 : eh_ σ σ1 (a + 2)) (h3 : eh_ σ σ1 (a + 3)) (h4 : eh_ σ σ1 (a + 4)) : Pq_ σ1 a P := by
  obtain ⟨b1, b2, b3, b4, b5⟩ := h
  exact ⟨rp_eh b1 h0 h2 h3, fun l z => by rw [h1.2.1]; exact b2 l z, b3, by rw [h0.1]; exact b4, fun k u z => by rw [h4.1]; exact b5 k u z⟩
theorem pq_cx {P : pq_T} (h : Pq_ σ a P) : Cx_ σ a P.2.2 := ⟨h.2.2.1, h.2.2.2.1, h.2.2.2.2⟩
def p0_ : pr_T := (0, 0, 0, fun _ => 0, fun _ _ => -1)
def P0_ : pq_T := (p0_, fun _ => [], [])
theorem c_pclear (zha : is_pg a) (zw : Wd σ) : fw_ γ m_X7_clear 0 [.ref a] σ (pt_I (pt_I (pt_I (pt_I σ a 4 0) a 5 0) a 6 0) a 7 0) ∧ Pq_ (pt_I (pt_I (pt_I (pt_I σ a 4 0) a 5 0) a 6 0) a 7 0) a P0_ := by
  refine ⟨fw_q (fun Q zQ => e_X7_clear zha zw zQ), ⟨⟨⟨by decide, by decide, by decide, fun l => ⟨Int.le_refl _, by show (0 : Int) ≤ 3; decide⟩, fun i k => ⟨Int.le_refl _, by show (-1 : Int) ≤ 3; decide⟩⟩, ?_, ?_, ?_, fun l z => absurd z (Nat.not_lt_zero _), fun i k z => absurd z (Nat.not_lt_zero _)⟩, fun l z => absurd z (Nat.not_lt_zero _), Nat.zero_le _, ?_, fun k u z => ?_⟩⟩
  · rw [st_pI, if_neg (by omega)]
    exact st_sI _ _ _ _
  · rw [st_pI, if_neg (by omega), st_pI, if_neg (by omega)]
    exact st_sI _ _ _ _
  · rw [st_pI, if_neg (by omega), st_pI, if_neg (by omega), st_pI, if_neg (by omega)]
    exact st_sI _ _ _ _
  · exact st_sI _ _ _ _
  · have z : ([] : List Int)[k]? = some u := z
    cases z
/-- the location of a name -/
def lnm_ (P : pq_T) (l : List Int) : Int := pl_ (fun i => decide (P.2.1 i = l)) 0 (pL_ P.1) 0
/-- what is a name: letters, at most eight -/
def Nam_ (l : List Int) : Prop := l.length ≤ 8 ∧ 1 ≤ l.length ∧ ∀ c ∈ l, 97 ≤ c ∧ c ≤ 122
def n32_ (l : List Int) : Nat := l.foldl (fun x c => 32 * x + (c - 96).toNat) 0
theorem n32_lt : ∀ (l : List Int) (x : Nat), (∀ c ∈ l, 97 ≤ c ∧ c ≤ 122) → l.foldl (fun x c => 32 * x + (c - 96).toNat) x < 32 ^ l.length * (x + 1)
  | [], x, _ => by
    show x < 32 ^ 0 * (x + 1)
    omega
  | c :: t, x, h => by
    have y := n32_lt t (32 * x + (c - 96).toNat) (fun d z => h d (List.mem_cons_of_mem _ z))
    have hc := h c List.mem_cons_self
    rw [List.foldl_cons, List.length_cons, Nat.pow_succ]
    refine Nat.lt_of_lt_of_le y ?_
    rw [Nat.mul_assoc]
    refine Nat.mul_le_mul_left _ ?_
    omega
theorem wc_n {x : Nat} {c : Int} (hx : x < 32 ^ 11) (hc : 97 ≤ c ∧ c ≤ 122) : wc_ (lN x) (i_ c) = lN (32 * x + (c - 96).toNat) := by
  have p11 : (32 : Nat) ^ 11 = 36028797018963968 := by decide
  rw [p11] at hx
  unfold wc_
  have e1 : (i_ c - 97 + 1) = i_ (((c - 96).toNat : Nat) : Int) := by
    rw [i_lit 97, i_sub, i_lit 1, i_add]
    congr 1
    show c - 97 + 1 = _
    omega
  rw [e1, l_int (by omega), show ((5 : Int32).toInt64 &&& 63) = ((i_ ((5 : Nat) : Int)).toInt64 &&& 63) from rfl, l_shl (by decide) (by omega), l_or (by omega) (by omega)]
  congr 1
  apply Nat.eq_of_testBit_eq
  intro j
  have key : x * 2 ^ 5 ||| (c - 96).toNat = 2 ^ 5 * x + (c - 96).toNat := by
    rw [Nat.mul_comm]
    exact (Nat.two_pow_add_eq_or_of_lt (by omega) x).symm
  rw [key]
theorem ncd_n : ∀ (l : List Int) (x : Nat), (∀ c ∈ l, 97 ≤ c ∧ c ≤ 122) → 32 ^ l.length * (x + 1) ≤ 32 ^ 11 → l.foldl (fun x c => wc_ x (i_ c)) (lN x) = lN (l.foldl (fun x c => 32 * x + (c - 96).toNat) x)
  | [], x, _, _ => rfl
  | c :: t, x, h, hl => by
    have hc := h c List.mem_cons_self
    rw [List.length_cons, Nat.pow_succ] at hl
    have h1 : 1 ≤ 32 ^ t.length := Nat.pow_pos (by decide)
    have h2 : 32 ^ t.length * (32 * (x + 1)) ≤ 32 ^ 11 := by rw [← Nat.mul_assoc]; exact hl
    have h3 : 32 * (x + 1) ≤ 32 ^ 11 := Nat.le_trans (Nat.le_mul_of_pos_left _ h1) h2
    have h4 : 32 ^ t.length * (32 * x + (c - 96).toNat + 1) ≤ 32 ^ 11 := Nat.le_trans (Nat.mul_le_mul_left _ (by omega)) h2
    rw [List.foldl_cons, List.foldl_cons, wc_n (by omega) hc]
    exact ncd_n t _ (fun d z => h d (List.mem_cons_of_mem _ z)) h4
theorem n32_app (l : List Int) (c : Int) : n32_ (l ++ [c]) = 32 * n32_ l + (c - 96).toNat := by
  unfold n32_
  rw [List.foldl_append]
  rfl
theorem n32_inj : ∀ (k : Nat) (l m : List Int), l.length = k → (∀ c ∈ l, 97 ≤ c ∧ c ≤ 122) → (∀ c ∈ m, 97 ≤ c ∧ c ≤ 122) → n32_ l = n32_ m → l = m := by
  intro k
  induction k with
  | zero =>
    intro l m hl h1 h2 e
    have hl : l = [] := List.eq_nil_of_length_eq_zero hl
    subst hl
    rcases List.eq_nil_or_concat m with rfl | ⟨t, c, rfl⟩
    · rfl
    · exfalso
      rw [List.concat_eq_append] at e h2
      rw [n32_app] at e
      have hc := h2 c (List.mem_append_right _ (List.mem_singleton.mpr rfl))
      have e : 0 = 32 * n32_ t + (c - 96).toNat := e
      omega
  | succ k ih =>
    intro l m hl h1 h2 e
    rcases List.eq_nil_or_concat l with rfl | ⟨t, c, rfl⟩
    · cases hl
    · rw [List.concat_eq_append] at e h1 hl ⊢
      rw [List.length_append, List.length_singleton] at hl
      have hc := h1 c (List.mem_append_right _ (List.mem_singleton.mpr rfl))
      rcases List.eq_nil_or_concat m with rfl | ⟨t2, c2, rfl⟩
      · exfalso
        rw [n32_app] at e
        have e : 32 * n32_ t + (c - 96).toNat = 0 := e
        omega
      · rw [List.concat_eq_append] at e h2 ⊢
        have hc2 := h2 c2 (List.mem_append_right _ (List.mem_singleton.mpr rfl))
        rw [n32_app, n32_app] at e
        have e1 : n32_ t = n32_ t2 := by omega
        have e2 : c = c2 := by omega
        rw [ih t t2 (by omega) (fun d z => h1 d (List.mem_append_left _ z)) (fun d z => h2 d (List.mem_append_left _ z)) e1, e2]
theorem ncd_inj {l m : List Int} (h1 : Nam_ l) (h2 : Nam_ m) : (ncd_ l = ncd_ m) = (l = m) := by
  apply propext
  constructor
  · intro e
    have b : ∀ x : List Int, Nam_ x → ncd_ x = lN (n32_ x) ∧ n32_ x < 32 ^ 8 := fun x hx => by
      have y1 : 32 ^ x.length ≤ 32 ^ 8 := Nat.pow_le_pow_right (by decide) hx.1
      refine ⟨ncd_n x 0 hx.2.2 ?_, ?_⟩
      · rw [Nat.zero_add, Nat.mul_one]
        exact Nat.le_trans y1 (by decide)
      · have y := n32_lt x 0 hx.2.2
        rw [Nat.zero_add, Nat.mul_one] at y
        exact Nat.lt_of_lt_of_le y y1
    obtain ⟨a1, a2⟩ := b l h1
    obtain ⟨b1, b2⟩ := b m h2
    rw [a1, b1, lN_inj (Nat.lt_trans a2 (by decide)) (Nat.lt_trans b2 (by decide))] at e
    exact n32_inj l.length l m rfl h1.2.2 h2.2.2 e
  · intro e
    rw [e]
end MU
