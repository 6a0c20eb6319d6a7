/-! the machine of the class is prepared: its instructions -/
section PI
variable {γ : ga_T} {σ s : st_T} {p : pr_T}
def Pi_ (σ s : st_T) (p : pr_T) (k : Nat) : Prop := Wd s ∧ mf_ σ s ∧ (∀ j, st_I s 153 j = st_I σ 153 j) ∧ (∀ j, st_L s 153 j = st_L σ 153 j) ∧ (∀ j, st_I s 160 j = st_I σ 160 j) ∧ (∀ j, st_I s 161 j = st_I σ 161 j) ∧
  (∀ i, i < k → st_I s 154 i = i_ (pC_ p i 1) ∧ st_I s 155 i = i_ (pC_ p i 2) ∧ st_I s 156 i = i_ (2 * ((pL_ p : Int) - 1 - pC_ p i 2)) ∧
    st_I s 157 i = i_ ((cb_ p : Int) - 2 * (2 * pC_ p i 0 + pC_ p i 3 + 1)) ∧ st_I s 158 i = i_ (if pC_ p i 5 = -1 then -1 else (cb_ p : Int) - 2 * (2 * pC_ p i 0 + pC_ p i 5 + 1)) ∧ st_I s 159 i = i_ (pC_ p i 4)) ∧
  (∀ t, t < pT_ p → st_I s 162 t = i_ (bm_ (fun i => decide (i < k) && (decide (pC_ p i 0 = t) && decide (pC_ p i 1 = 0))) (pN_ p))) ∧
  (∀ l, l < pL_ p → st_I s 163 l = i_ (bm_ (fun i => decide (i < k) && (decide (pC_ p i 2 = l) && decide (pC_ p i 1 = 0))) (pN_ p)))
theorem pp_eq {i : Nat} (q : i < pN_ p) (k : Int) (q1 : 0 ≤ k ∧ k < 6) : pp_ p i k = pC_ p i k.toNat := by
  unfold pp_
  rw [if_pos (by omega), Int.toNat_natCast]
theorem bm_st {f : Nat → Bool} {k n : Nat} (q : f k = false) : bm_ (fun i => decide (i < k + 1) && f i) n = bm_ (fun i => decide (i < k) && f i) n := by
  refine bm_cg (fun i _ => ?_)
  by_cases y : i = k
  · rw [y, q, Bool.and_false, Bool.and_false]
  · by_cases y1 : i < k
    · rw [decide_eq_true y1, decide_eq_true (show i < k + 1 by omega)]
    · rw [decide_eq_false y1, decide_eq_false (show ¬ i < k + 1 by omega)]
theorem bm_sv {f : Nat → Bool} {k n : Nat} (q : f k = true) (q1 : k < n) : bm_ (fun i => decide (i < k) && f i) n ||| 2 ^ k = bm_ (fun i => decide (i < k + 1) && f i) n := by
  rw [bm_or _ q1]
  refine bm_cg (fun i _ => ?_)
  by_cases y : i = k
  · rw [y, q, decide_eq_true (show k < k + 1 by omega), decide_eq_true (rfl : k = k), Bool.or_true]
    rfl
  · rw [decide_eq_false y, Bool.or_false]
    by_cases y1 : i < k
    · rw [decide_eq_true y1, decide_eq_true (show i < k + 1 by omega)]
    · rw [decide_eq_false y1, decide_eq_false (show ¬ i < k + 1 by omega)]
/-- the store after the six properties are laid -/
def b6_ (s : st_T) (i : Nat) (a b c d e f : Int32) : st_T := pt_I (pt_I (pt_I (pt_I (pt_I (pt_I s 154 i a) 155 i b) 159 i c) 156 i d) 157 i e) 158 i f
theorem b6_i {i : Nat} {a b c d e f : Int32} : st_I (b6_ s i a b c d e f) 154 i = a ∧ st_I (b6_ s i a b c d e f) 155 i = b ∧ st_I (b6_ s i a b c d e f) 156 i = d ∧ st_I (b6_ s i a b c d e f) 157 i = e ∧ st_I (b6_ s i a b c d e f) 158 i = f ∧ st_I (b6_ s i a b c d e f) 159 i = c := by
  unfold b6_
  simp only [st_pI]
  refine ⟨?_, ?_, ?_, ?_, ?_, ?_⟩ <;> simp
theorem b6_j {i j : Nat} {a b c d e f : Int32} (q : j ≠ i) (x : Nat) : st_I (b6_ s i a b c d e f) x j = st_I s x j := by
  unfold b6_
  simp only [st_pI, q, and_false, if_false]
theorem b6_x {i j : Nat} {a b c d e f : Int32} {x : Nat} (q : x < 154 ∨ 159 < x) : st_I (b6_ s i a b c d e f) x j = st_I s x j := by
  unfold b6_
  rw [st_pI, if_neg (by omega), st_pI, if_neg (by omega), st_pI, if_neg (by omega), st_pI, if_neg (by omega), st_pI, if_neg (by omega), st_pI, if_neg (by omega)]
theorem b6_mf {i : Nat} {a b c d e f : Int32} : mf_ s (b6_ s i a b c d e f) := mf_tr (mf_tr (mf_tr (mf_tr (mf_tr (mf_I (by decide)) (mf_I (by decide))) (mf_I (by decide))) (mf_I (by decide))) (mf_I (by decide))) (mf_I (by decide))
def B6_ (s : st_T) (p : pr_T) (i : Nat) : st_T := b6_ s i (i_ (pC_ p i 1)) (i_ (pC_ p i 2)) (i_ (pC_ p i 4)) (i_ (2 * ((pL_ p : Int) - 1 - pC_ p i 2))) (i_ ((cb_ p : Int) - 2 * (2 * pC_ p i 0 + pC_ p i 3 + 1))) (i_ (if pC_ p i 5 = -1 then -1 else (cb_ p : Int) - 2 * (2 * pC_ p i 0 + pC_ p i 5 + 1)))
theorem pi_no {i : Nat} (zs : Pi_ σ s p i) (q : pC_ p i 1 ≠ 0) : Pi_ σ (B6_ s p i) p (i + 1) := by
  obtain ⟨w1, w2, w3, w4, w5, w6, w7, w8, w9⟩ := zs
  refine ⟨w1, mf_tr w2 b6_mf, fun j => ?_, w4, fun j => ?_, fun j => ?_, fun j zj => ?_, fun t zt => ?_, fun l zl => ?_⟩
  · unfold B6_
    rw [b6_x (by omega)]
    exact w3 j
  · unfold B6_
    rw [b6_x (by omega)]
    exact w5 j
  · unfold B6_
    rw [b6_x (by omega)]
    exact w6 j
  · by_cases y : j = i
    · rw [y]
      exact b6_i
    · unfold B6_
      rw [b6_j y, b6_j y, b6_j y, b6_j y, b6_j y, b6_j y]
      exact w7 j (by omega)
  · unfold B6_
    rw [b6_x (by omega), w8 t zt, bm_st (f := fun i => decide (pC_ p i 0 = t) && decide (pC_ p i 1 = 0)) (by rw [decide_eq_false q, Bool.and_false])]
  · unfold B6_
    rw [b6_x (by omega), w9 l zl, bm_st (f := fun i => decide (pC_ p i 2 = l) && decide (pC_ p i 1 = 0)) (by rw [decide_eq_false q, Bool.and_false])]
theorem pi_st {i t0 l0 : Nat} {x y : Int32} (zs : Pi_ σ s p i) (q : pC_ p i 1 = 0) (q1 : i < pN_ p) (q2 : pC_ p i 0 = t0) (q3 : pC_ p i 2 = l0)
    (hx : x = i_ (bm_ (fun j => decide (j < i + 1) && (decide (pC_ p j 0 = t0) && decide (pC_ p j 1 = 0))) (pN_ p))) (hy : y = i_ (bm_ (fun j => decide (j < i + 1) && (decide (pC_ p j 2 = l0) && decide (pC_ p j 1 = 0))) (pN_ p))) :
    Pi_ σ (pt_I (pt_I (B6_ s p i) 162 t0 x) 163 l0 y) p (i + 1) := by
  obtain ⟨w1, w2, w3, w4, w5, w6, w7, w8, w9⟩ := zs
  have e1 : ∀ a j, a < 162 → st_I (pt_I (pt_I (B6_ s p i) 162 t0 x) 163 l0 y) a j = st_I (B6_ s p i) a j := fun a j z => by
    rw [st_pI, if_neg (by omega), st_pI, if_neg (by omega)]
  refine ⟨w1, mf_tr (mf_tr (mf_tr w2 b6_mf) (mf_I (by decide))) (mf_I (by decide)), fun j => ?_, w4, fun j => ?_, fun j => ?_, fun j zj => ?_, fun t zt => ?_, fun l zl => ?_⟩
  · rw [e1 153 j (by decide)]
    unfold B6_
    rw [b6_x (by omega)]
    exact w3 j
  · rw [e1 160 j (by decide)]
    unfold B6_
    rw [b6_x (by omega)]
    exact w5 j
  · rw [e1 161 j (by decide)]
    unfold B6_
    rw [b6_x (by omega)]
    exact w6 j
  · rw [e1 154 j (by decide), e1 155 j (by decide), e1 156 j (by decide), e1 157 j (by decide), e1 158 j (by decide), e1 159 j (by decide)]
    by_cases y : j = i
    · rw [y]
      exact b6_i
    · unfold B6_
      rw [b6_j y, b6_j y, b6_j y, b6_j y, b6_j y, b6_j y]
      exact w7 j (by omega)
  · rw [st_pI, if_neg (by omega), st_pI]
    by_cases z : t = t0
    · rw [if_pos ⟨rfl, z⟩, hx, z]
    · rw [if_neg (fun z1 => z z1.2)]
      unfold B6_
      rw [b6_x (by omega), w8 t zt, bm_st (f := fun i => decide (pC_ p i 0 = t) && decide (pC_ p i 1 = 0)) (by
        rw [decide_eq_false (by omega), Bool.false_and])]
  · rw [st_pI]
    by_cases z : l = l0
    · rw [if_pos ⟨rfl, z⟩, hy, z]
    · rw [if_neg (fun z1 => z z1.2), st_pI, if_neg (by omega)]
      unfold B6_
      rw [b6_x (by omega), w9 l zl, bm_st (f := fun i => decide (pC_ p i 2 = l) && decide (pC_ p i 1 = 0)) (by
        rw [decide_eq_false (by omega), Bool.false_and])]
end PI
