/-! how many states (T2): all programs but those with four threads of two accesses at one location -/
section MO9
variable {p : pr_T} {G m t i s k X n : Nat} {z : Int} {fz : Bool} {L A B : List Nat} {f : Nat → Bool}
def na_ (p : pr_T) (t : Nat) : Nat := ct_ (fun j => decide (pC_ p (gB0_ p t + j) 1 ≠ 3)) (gB0_ p (t + 1) - gB0_ p t)
def nfe_ (p : pr_T) (t : Nat) : Nat := ct_ (fun j => decide (pC_ p (gB0_ p t + j) 1 = 3)) (gB0_ p (t + 1) - gB0_ p t)
def nc_ (p : pr_T) (X t : Nat) : Nat := ct_ (fun j => decide (pC_ p (gB0_ p t + j) 1 ≠ 3 ∧ pC_ p (gB0_ p t + j) 2 = (X : Int))) (gB0_ p (t + 1) - gB0_ p t)
theorem ct_no : ∀ n, (∀ j, j < n → f j = false) → ct_ f n = 0
  | 0, _ => rfl
  | n + 1, h => by
    rw [ct_s, ct_no n (fun j hj => h j (by omega)), h n (by omega)]
    rfl
theorem ct_seg4 (zP : Wp_ p) (f : Nat → Bool) : ct_ f (pN_ p) = ct_ (fun j => f (gB0_ p 0 + j)) (gB0_ p 1 - gB0_ p 0) + ct_ (fun j => f (gB0_ p 1 + j)) (gB0_ p 2 - gB0_ p 1) + ct_ (fun j => f (gB0_ p 2 + j)) (gB0_ p 3 - gB0_ p 2) + ct_ (fun j => f (gB0_ p 3 + j)) (gB0_ p 4 - gB0_ p 3) := by
  have b0 := gB_0 zP
  have b4 := gB_T zP (show pT_ p ≤ 4 from zP.1.2.1)
  have m0 := gB_m (p := p) 0
  have m1 := gB_m (p := p) 1
  have m2 := gB_m (p := p) 2
  have m3 := gB_m (p := p) 3
  simp only [Nat.zero_add, Nat.reduceAdd] at m0 m1 m2 m3
  have a3 := ct_add f (gB0_ p 3) (gB0_ p 4 - gB0_ p 3)
  have a2 := ct_add f (gB0_ p 2) (gB0_ p 3 - gB0_ p 2)
  have a1 := ct_add f (gB0_ p 1) (gB0_ p 2 - gB0_ p 1)
  have a0 := ct_add f (gB0_ p 0) (gB0_ p 1 - gB0_ p 0)
  rw [show gB0_ p 3 + (gB0_ p 4 - gB0_ p 3) = pN_ p by omega] at a3
  rw [show gB0_ p 2 + (gB0_ p 3 - gB0_ p 2) = gB0_ p 3 by omega] at a2
  rw [show gB0_ p 1 + (gB0_ p 2 - gB0_ p 1) = gB0_ p 2 by omega] at a1
  rw [show gB0_ p 0 + (gB0_ p 1 - gB0_ p 0) = gB0_ p 1 by omega] at a0
  have e0 : ct_ f (gB0_ p 0) = 0 := by
    rw [b0]
    rfl
  omega
theorem ct_thr (zP : Wp_ p) (f : Nat → Bool) : ct_ (fun j => f (gB0_ p t + j)) (gB0_ p (t + 1) - gB0_ p t) ≤ ct_ (fun i => decide (pC_ p i 0 = (t : Int)) && f i) (pN_ p) := by
  have m0 := gB_m (p := p) t
  have gN := gB_le (p := p) (t + 1)
  have a1 := ct_add (fun i => decide (pC_ p i 0 = (t : Int)) && f i) (gB0_ p t) (gB0_ p (t + 1) - gB0_ p t)
  have a2 := ct_add (fun i => decide (pC_ p i 0 = (t : Int)) && f i) (gB0_ p (t + 1)) (pN_ p - gB0_ p (t + 1))
  rw [show gB0_ p t + (gB0_ p (t + 1) - gB0_ p t) = gB0_ p (t + 1) by omega] at a1
  rw [show gB0_ p (t + 1) + (pN_ p - gB0_ p (t + 1)) = pN_ p by omega] at a2
  have e : ct_ (fun j => decide (pC_ p (gB0_ p t + j) 0 = (t : Int)) && f (gB0_ p t + j)) (gB0_ p (t + 1) - gB0_ p t) = ct_ (fun j => f (gB0_ p t + j)) (gB0_ p (t + 1) - gB0_ p t) := ct_cgw _ (fun j hj => by
    rw [decide_eq_true ((gB_th (t := t) zP (show gB0_ p t + j < pN_ p by omega)).mpr ⟨by omega, by omega⟩), Bool.true_and])
  omega
theorem na_4 (zP : Wp_ p) : na_ p t ≤ 4 := by
  refine Nat.le_trans (ct_thr zP (fun i => decide (pC_ p i 1 ≠ 3))) ?_
  refine Nat.le_trans (Nat.le_of_eq (ct_cgw _ (fun i _ => ?_))) (zP.2.2.2.2.2.2.1 (t : Int))
  exact (Bool.decide_and _ _).symm
theorem na_8 (zP : Wp_ p) : na_ p 0 + na_ p 1 + na_ p 2 + na_ p 3 ≤ 8 := by
  have y := ct_seg4 zP (fun i => decide (pC_ p i 1 ≠ 3))
  have z := zP.2.2.2.2.2.2.2
  rw [y] at z
  exact z
theorem na_nf (t : Nat) : na_ p t + nfe_ p t = gB0_ p (t + 1) - gB0_ p t := by
  unfold na_ nfe_
  have key : ∀ n, ct_ (fun j => decide (pC_ p (gB0_ p t + j) 1 ≠ 3)) n + ct_ (fun j => decide (pC_ p (gB0_ p t + j) 1 = 3)) n = n := fun n => by
    induction n with
    | zero => rfl
    | succ n ih =>
      rw [ct_s, ct_s]
      by_cases h : pC_ p (gB0_ p t + n) 1 = 3
      · rw [decide_eq_true h, decide_eq_false (fun y => y h), if_neg (show ¬ (false = true) from fun y => by cases y), if_pos rfl]
        omega
      · rw [decide_eq_false h, decide_eq_true (show pC_ p (gB0_ p t + n) 1 ≠ 3 from h), if_neg (show ¬ (false = true) from fun y => by cases y), if_pos rfl]
        omega
  exact key _
theorem na_10 (zP : Wp_ p) : na_ p 0 + na_ p 1 + na_ p 2 + na_ p 3 + nfe_ p 0 + nfe_ p 1 + nfe_ p 2 + nfe_ p 3 ≤ 10 := by
  have b0 := gB_0 zP
  have b4 := gB_T zP (show pT_ p ≤ 4 from zP.1.2.1)
  have m0 := gB_m (p := p) 0
  have m1 := gB_m (p := p) 1
  have m2 := gB_m (p := p) 2
  have m3 := gB_m (p := p) 3
  have n0 := na_nf (p := p) 0
  have n1 := na_nf (p := p) 1
  have n2 := na_nf (p := p) 2
  have n3 := na_nf (p := p) 3
  have b := zP.1.1
  simp only [Nat.zero_add, Nat.reduceAdd] at m0 m1 m2 m3 n0 n1 n2 n3
  omega
theorem thr_lab (zP : Wp_ p) (hz : Zk_ p z) (t : Nat) : lbl_ (gly_ p G z m) fz X t = sl_ p G z fz X (gB0_ p t) (gB0_ p (t + 1) - gB0_ p t) ∧ (acc_ (lbl_ (gly_ p G z m) fz X t)).length = na_ p t ∧ tx_ (lbl_ (gly_ p G z m) fz X t) = nc_ p X t ∧ exn_ true (lbl_ (gly_ p G z m) fz X t) ≤ nfe_ p t ∧ ∀ a, a ∈ acc_ (lbl_ (gly_ p G z m) fz X t) → a = 1 ∨ a = 2 ∨ (fz = true ∧ a = 3) := by
  have m0 := gB_m (p := p) t
  have gN := gB_le (p := p) (t + 1)
  have e : lbl_ (gly_ p G z m) fz X t = sl_ p G z fz X (gB0_ p t) (gB0_ p (t + 1) - gB0_ p t) := by
    have y := lbl_sl (p := p) (G := G) (m := m) (z := z) (fz := fz) (X := X) (s := gB0_ p t) (gB0_ p (t + 1) - gB0_ p t) (by omega)
    rw [show gB0_ p t + (gB0_ p (t + 1) - gB0_ p t) = gB0_ p (t + 1) by omega] at y
    exact y
  have y := sl_pat (G := G) (fz := fz) (X := X) (t := t) (s := gB0_ p t) (n := gB0_ p (t + 1)) zP hz (fun j j1 j2 => (gB_th (t := t) zP (by omega)).mpr ⟨j1, j2⟩) (by
    by_cases c : gB0_ p t = 0
    · exact Or.inl c
    · refine Or.inr (fun y => ?_)
      have := ((gB_th (t := t) zP (show gB0_ p t - 1 < pN_ p by omega)).mp y).1
      omega) gN (gB0_ p (t + 1) - gB0_ p t) (by omega)
  have x := exn_pat (sl_ p G z fz X (gB0_ p t) (gB0_ p (t + 1) - gB0_ p t)) true false (fun y => by cases y)
  rw [e]
  refine ⟨rfl, sl_acc hz _ (by omega), sl_tx hz _ (by omega), ?_, fun a ha => sl_mem _ a ha⟩
  unfold nfe_
  omega
theorem s0_P (t : Nat) : sP_ (s0k_ p (pL_ p)) t = 0 := rfl
theorem s0_R (q : Nat) : sR_ (s0k_ p (pL_ p)) q = 0 := rfl
theorem br_gen (zP : Wp_ p) (hm : m < 3) (hz : Zk_ p z) (X : Nat) (hv : vld_ (na_ p 0) (na_ p 1) (na_ p 2) (na_ p 3) (nc_ p X 0 + nc_ p X 1 + nc_ p X 2 + nc_ p X 3) = true) (h34 : ∀ t, na_ p t ≤ 3 ∨ (na_ p t = 4 ∧ nc_ p X t = 0)) : Br_ (gly_ p G z m) (Kl_ p G z) (s0k_ p (pL_ p)) := by
  have hg := gw_ly (G := G) (z := z) zP hm
  refine br_wl hg (un_ly zP hm hz) (vr_0 zP.1 hg) s0_P s0_R false X ?_
  rw [wl_len]
  have en : ∀ t, ∃ i, i < 16 ∧ en_L i = acc_ (lbl_ (gly_ p G z m) false X t) := fun t => by
    obtain ⟨-, l2, l3, -, l5⟩ := thr_lab (G := G) (m := m) (fz := false) (X := X) zP hz t
    have l12 : ∀ a, a ∈ acc_ (lbl_ (gly_ p G z m) false X t) → a = 1 ∨ a = 2 := fun a ha => by
      rcases l5 a ha with y | y | ⟨y, -⟩
      · exact Or.inl y
      · exact Or.inr y
      · cases y
    refine enL_of l12 ?_
    rw [l2]
    rcases h34 t with y | ⟨y1, y2⟩
    · exact Or.inl y
    · refine Or.inr ⟨y1, fun a ha => ?_⟩
      rcases l12 a ha with e | e
      · exfalso
        rw [y2] at l3
        have z1 : 0 < cnt_ (acc_ (lbl_ (gly_ p G z m) false X t)) 1 := by
          unfold cnt_
          exact List.length_pos_of_mem (List.mem_filter.mpr ⟨ha, decide_eq_true e⟩)
        rw [cnt_acc _ (by decide)] at z1
        unfold tx_ at l3
        omega
      · exact e
  have dm : ∀ t i, i < 16 → en_L i = acc_ (lbl_ (gly_ p G z m) false X t) → Dm_ ((CL_ (gly_ p G z m) false X t).map Prod.snd) (exq_ (en_W i (nfe_ p t))) := fun t i hi he => by
    have e : (CL_ (gly_ p G z m) false X t).map Prod.snd = mls_ (lbl_ (gly_ p G z m) false X t) [(0, 0)] 0 0 := cls_mls _ _ _ _ _
    rw [e]
    exact dm_en hi he.symm (thr_lab (G := G) (m := m) (fz := false) (X := X) zP hz t).2.2.2.1
  obtain ⟨i0, a0, b0⟩ := en 0
  obtain ⟨i1, a1, b1⟩ := en 1
  obtain ⟨i2, a2, b2⟩ := en 2
  obtain ⟨i3, a3, b3⟩ := en 3
  have len : ∀ t i, en_L i = acc_ (lbl_ (gly_ p G z m) false X t) → (en_L i).length = na_ p t ∧ tx_ (en_L i) = nc_ p X t := fun t i he => by
    obtain ⟨-, l2, l3, -, -⟩ := thr_lab (G := G) (m := m) (fz := false) (X := X) zP hz t
    rw [he]
    refine ⟨l2, ?_⟩
    rw [← l3]
    unfold tx_
    rw [cnt_acc _ (by decide), cnt_acc _ (by decide)]
  refine Nat.le_trans (vsm_le (dm 0 i0 a0 b0) (dm 1 i1 a1 b1) (dm 2 i2 a2 b2) (dm 3 i3 a3 b3)) ?_
  have n10 := na_10 zP
  refine vl_all (i0, nfe_ p 0) (i1, nfe_ p 1) (i2, nfe_ p 2) (i3, nfe_ p 3) a0 a1 a2 a3 ?_ ?_
  · show vld_ (en_L i0).length (en_L i1).length (en_L i2).length (en_L i3).length (tx_ (en_L i0) + tx_ (en_L i1) + tx_ (en_L i2) + tx_ (en_L i3)) = true
    rw [(len 0 i0 b0).1, (len 1 i1 b1).1, (len 2 i2 b2).1, (len 3 i3 b3).1, (len 0 i0 b0).2, (len 1 i1 b1).2, (len 2 i2 b2).2, (len 3 i3 b3).2]
    exact hv
  · show (en_L i0).length + (en_L i1).length + (en_L i2).length + (en_L i3).length + nfe_ p 0 + nfe_ p 1 + nfe_ p 2 + nfe_ p 3 ≤ 10
    rw [(len 0 i0 b0).1, (len 1 i1 b1).1, (len 2 i2 b2).1, (len 3 i3 b3).1]
    omega
/-- four threads of two accesses, all at one location -/
def Spl_ (p : pr_T) (X : Nat) : Prop := X < 3 ∧ (∀ t, t < 4 → na_ p t = 2) ∧ ∀ i, i < pN_ p → pC_ p i 1 ≠ 3 → pC_ p i 2 = (X : Int)
def hrd_ (a b c d : Nat) : Bool := !(decide (a + b + c + d = 8) && decide (a * a + b * b + c * c + d * d ≤ 20)) || ((decide (a ≤ 3) && decide (b ≤ 3) && decide (c ≤ 3) && decide (d ≤ 3)) && (!decide (a * a + b * b + c * c + d * d = 16) || (decide (a = 2) && decide (b = 2) && decide (c = 2) && decide (d = 2))))
theorem hrd_t : (List.range 5).all (fun a => (List.range 5).all (fun b => (List.range 5).all (fun c => (List.range 5).all (fun d => hrd_ a b c d)))) = true := by decide +kernel
theorem hard_3 (a : Nat) (ha : a < 5) (b : Nat) (hb : b < 5) (c : Nat) (hc : c < 5) (d : Nat) (hd : d < 5) (h1 : a + b + c + d = 8) (h2 : a * a + b * b + c * c + d * d ≤ 20) : (a ≤ 3 ∧ b ≤ 3 ∧ c ≤ 3 ∧ d ≤ 3) ∧ (a * a + b * b + c * c + d * d = 16 → a = 2 ∧ b = 2 ∧ c = 2 ∧ d = 2) := by
  have y := List.all_eq_true.mp hrd_t a (List.mem_range.mpr ha)
  have y := List.all_eq_true.mp y b (List.mem_range.mpr hb)
  have y := List.all_eq_true.mp y c (List.mem_range.mpr hc)
  have y := List.all_eq_true.mp y d (List.mem_range.mpr hd)
  unfold hrd_ at y
  rw [decide_eq_true h1, decide_eq_true h2, Bool.true_and, Bool.not_true, Bool.false_or, Bool.and_eq_true, Bool.and_eq_true, Bool.and_eq_true, Bool.and_eq_true] at y
  obtain ⟨⟨⟨⟨y1, y2⟩, y3⟩, y4⟩, y5⟩ := y
  refine ⟨⟨of_decide_eq_true y1, of_decide_eq_true y2, of_decide_eq_true y3, of_decide_eq_true y4⟩, fun h => ?_⟩
  rw [decide_eq_true h, Bool.not_true, Bool.false_or, Bool.and_eq_true, Bool.and_eq_true, Bool.and_eq_true] at y5
  obtain ⟨⟨⟨z1, z2⟩, z3⟩, z4⟩ := y5
  exact ⟨of_decide_eq_true z1, of_decide_eq_true z2, of_decide_eq_true z3, of_decide_eq_true z4⟩
theorem ct_eqv {f h : Nat → Bool} : ∀ n, (∀ j, j < n → h j = true → f j = true) → ct_ h n = ct_ f n → ∀ j, j < n → f j = true → h j = true
  | 0, _, _, j, hj, _ => absurd hj (Nat.not_lt_zero j)
  | n + 1, hi, e, j, hj, hf => by
    have le := ct_mo (f := h) (f2 := f) (N := n) (fun j hj => hi j (by omega))
    rw [ct_s, ct_s] at e
    have le1 : (if h n = true then 1 else 0) ≤ (if f n = true then 1 else 0 : Nat) := by
      by_cases c : h n = true
      · rw [if_pos c, if_pos (hi n (by omega) c)]
        exact Nat.le_refl _
      · rw [if_neg c]
        exact Nat.zero_le _
    by_cases jn : j = n
    · subst jn
      by_cases c : h j = true
      · exact c
      · rw [if_neg c, if_pos hf] at e
        omega
    · exact ct_eqv n (fun j hj => hi j (by omega)) (by omega) j (by omega) hf
theorem nc_sum (zP : Wp_ p) (X : Nat) : nc_ p X 0 + nc_ p X 1 + nc_ p X 2 + nc_ p X 3 = ct_ (fun i => decide (pC_ p i 1 ≠ 3 ∧ pC_ p i 2 = (X : Int))) (pN_ p) := (ct_seg4 zP (fun i => decide (pC_ p i 1 ≠ 3 ∧ pC_ p i 2 = (X : Int)))).symm
theorem na_sum (zP : Wp_ p) : na_ p 0 + na_ p 1 + na_ p 2 + na_ p 3 = ct_ (fun i => decide (pC_ p i 1 ≠ 3)) (pN_ p) := (ct_seg4 zP (fun i => decide (pC_ p i 1 ≠ 3))).symm
theorem br_most (zP : Wp_ p) (hm : m < 3) (hz : Zk_ p z) (hsp : ∀ X, ¬ Spl_ p X) : Br_ (gly_ p G z m) (Kl_ p G z) (s0k_ p (pL_ p)) := by
  have n8 := na_8 zP
  have n4 : ∀ t, na_ p t ≤ 4 := fun t => na_4 zP
  by_cases hard : na_ p 0 + na_ p 1 + na_ p 2 + na_ p 3 = 8 ∧ na_ p 0 * na_ p 0 + na_ p 1 * na_ p 1 + na_ p 2 * na_ p 2 + na_ p 3 * na_ p 3 ≤ 20
  · have a0 := n4 0
    have a1 := n4 1
    have a2 := n4 2
    have a3 := n4 3
    obtain ⟨h3, h2⟩ := hard_3 (na_ p 0) (by omega) (na_ p 1) (by omega) (na_ p 2) (by omega) (na_ p 3) (by omega) hard.1 hard.2
    -- an access
    have ex : ∃ i, i < pN_ p ∧ pC_ p i 1 ≠ 3 := Classical.byContradiction (fun y => by
      have z0 := ct_no (f := fun i => decide (pC_ p i 1 ≠ 3)) (pN_ p) (fun j hj => decide_eq_false (fun k => y ⟨j, hj, k⟩))
      rw [← na_sum zP] at z0
      omega)
    obtain ⟨i0, i1, i2⟩ := ex
    have lk := (zP.2.1 i0 i1).2.2.2.2.1 i2
    have bL := zP.1.2.2.1
    obtain ⟨X, hX⟩ : ∃ X : Nat, pC_ p i0 2 = X := ⟨(pC_ p i0 2).toNat, by omega⟩
    have c1 : 1 ≤ nc_ p X 0 + nc_ p X 1 + nc_ p X 2 + nc_ p X 3 := by
      rw [nc_sum zP]
      exact ct_one i1 (decide_eq_true ⟨i2, hX⟩)
    have nsp : ¬ (na_ p 0 * na_ p 0 + na_ p 1 * na_ p 1 + na_ p 2 * na_ p 2 + na_ p 3 * na_ p 3 = 16 ∧ nc_ p X 0 + nc_ p X 1 + nc_ p X 2 + nc_ p X 3 = 8) := fun y => by
      obtain ⟨e0, e1, e2, e3⟩ := h2 y.1
      refine hsp X ⟨by omega, fun t ht => ?_, fun i hi hk => ?_⟩
      · rcases (show t = 0 ∨ t = 1 ∨ t = 2 ∨ t = 3 by omega) with d | d | d | d <;> subst d <;> assumption
      · have e := ct_eqv (f := fun i => decide (pC_ p i 1 ≠ 3)) (h := fun i => decide (pC_ p i 1 ≠ 3 ∧ pC_ p i 2 = (X : Int))) (pN_ p) (fun j _ hj => decide_eq_true (of_decide_eq_true hj).1) (by rw [← nc_sum zP, ← na_sum zP]; omega) i hi (decide_eq_true hk)
        exact (of_decide_eq_true e).2
    refine br_gen zP hm hz X ?_ (fun t => ?_)
    · unfold vld_
      rw [decide_eq_true n8, decide_eq_true hard.1, decide_eq_true hard.2, decide_eq_true c1, Bool.true_and, Bool.true_and, Bool.true_and, Bool.true_and]
      have e : (!(decide (na_ p 0 * na_ p 0 + na_ p 1 * na_ p 1 + na_ p 2 * na_ p 2 + na_ p 3 * na_ p 3 = 16) && decide (nc_ p X 0 + nc_ p X 1 + nc_ p X 2 + nc_ p X 3 = 8))) = true := by
        rw [← Bool.decide_and, Bool.not_eq_true', decide_eq_false nsp]
      rw [e, Bool.or_true]
    · refine Or.inl ?_
      by_cases ht : t < 4
      · rcases (show t = 0 ∨ t = 1 ∨ t = 2 ∨ t = 3 by omega) with d | d | d | d <;> subst d <;> omega
      · have e : na_ p t = 0 := by
          unfold na_
          have b4 := gB_T zP (show pT_ p ≤ t by have := zP.1.2.1; omega)
          have b5 := gB_T zP (show pT_ p ≤ t + 1 by have := zP.1.2.1; omega)
          rw [b4, b5, Nat.sub_self]
          rfl
        omega
  · have bL := zP.1.2.2.1
    have c0 : ∀ t, nc_ p 3 t = 0 := fun t => by
      have gN := gB_le (p := p) (t + 1)
      refine ct_no _ (fun j hj => decide_eq_false (fun y => ?_))
      have lk := (zP.2.1 (gB0_ p t + j) (by omega)).2.2.2.2.1 y.1
      have := y.2
      omega
    refine br_gen zP hm hz 3 ?_ (fun t => ?_)
    · unfold vld_
      rw [c0, c0, c0, c0, decide_eq_true n8, decide_eq_true (show 0 + 0 + 0 + 0 = 0 from rfl), Bool.true_and, Bool.true_and]
      by_cases d : na_ p 0 + na_ p 1 + na_ p 2 + na_ p 3 < 8
      · rw [decide_eq_true d]
        rfl
      · rw [decide_eq_true (show 20 < na_ p 0 * na_ p 0 + na_ p 1 * na_ p 1 + na_ p 2 * na_ p 2 + na_ p 3 * na_ p 3 by
          have y : ¬ (na_ p 0 * na_ p 0 + na_ p 1 * na_ p 1 + na_ p 2 * na_ p 2 + na_ p 3 * na_ p 3 ≤ 20) := fun y => hard ⟨by omega, y⟩
          omega), Bool.or_true]
        rfl
    · have := n4 t
      by_cases d : na_ p t ≤ 3
      · exact Or.inl d
      · exact Or.inr ⟨by omega, c0 t⟩
end MO9
