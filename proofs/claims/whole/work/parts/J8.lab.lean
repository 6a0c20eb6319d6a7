/-! how many states (T2): the labels of what is laid -/
section LB
variable {p : pr_T} {G m t i s k X n : Nat} {z : Int} {fz : Bool} {L A B : List Nat}
def li_ (p : pr_T) (fz : Bool) (X i : Nat) : Nat := if pC_ p i 1 = 3 then 0 else if pC_ p i 2 = (X : Int) then (if (fz && decide (pC_ p i 1 ≠ 0)) = true then 3 else 1) else 2
def sl_ (p : pr_T) (G : Nat) (z : Int) (fz : Bool) (X s : Nat) : Nat → List Nat
  | 0 => []
  | k + 1 => sl_ p G z fz X s k ++ (if fl_n p G (s + k) ≠ 0 then [0] else []) ++ (if ((s + k : Nat) : Int) = z then [] else [li_ p fz X (s + k)])
theorem li_0 : li_ p fz X i = 0 ↔ pC_ p i 1 = 3 := by
  unfold li_
  by_cases h : pC_ p i 1 = 3
  · rw [if_pos h]
    exact ⟨fun _ => h, fun _ => rfl⟩
  · rw [if_neg h]
    constructor
    · intro y
      split at y
      · split at y <;> omega
      · omega
    · intro y
      exact absurd y h
theorem li_px : px_ (li_ p fz X i) = decide (pC_ p i 1 ≠ 3 ∧ pC_ p i 2 = (X : Int)) := by
  unfold li_
  by_cases h : pC_ p i 1 = 3
  · rw [if_pos h, decide_eq_false (fun y => y.1 h)]
    rfl
  · rw [if_neg h]
    by_cases h2 : pC_ p i 2 = (X : Int)
    · rw [if_pos h2, decide_eq_true (show pC_ p i 1 ≠ 3 ∧ pC_ p i 2 = (X : Int) from ⟨h, h2⟩)]
      split <;> rfl
    · rw [if_neg h2, decide_eq_false (fun y => h2 y.2)]
      rfl
theorem li_in : li_ p fz X i = 0 ∨ li_ p fz X i = 1 ∨ li_ p fz X i = 2 ∨ (fz = true ∧ li_ p fz X i = 3) := by
  unfold li_
  split
  · exact Or.inl rfl
  · split
    · split
      · next h =>
        rw [Bool.and_eq_true] at h
        exact Or.inr (Or.inr (Or.inr ⟨h.1, rfl⟩))
      · exact Or.inr (Or.inl rfl)
    · exact Or.inr (Or.inr (Or.inl rfl))
theorem lbl_sl : ∀ k, s + k ≤ pN_ p → (List.range' 0 (Ln_ p G z (s + k) - Ln_ p G z s)).map (fun j => lbn_ (gly_ p G z m) fz X (Ln_ p G z s + j)) = sl_ p G z fz X s k
  | 0, _ => by
    rw [Nat.add_zero, Nat.sub_self]
    rfl
  | k + 1, hk => by
    have ih := lbl_sl k (by omega)
    have mo := Ln_mono (p := p) (G := G) (z := z) (show s ≤ s + k by omega)
    have ls := Ln_s p G z (s + k)
    have f1 := fl_n1 (p := p) (G := G) (i := s + k)
    have iN : s + k < pN_ p := by omega
    have step1 : (List.range' (Ln_ p G z (s + k) - Ln_ p G z s) (fl_n p G (s + k))).map (fun j => lbn_ (gly_ p G z m) fz X (Ln_ p G z s + j)) = (if fl_n p G (s + k) ≠ 0 then [0] else []) := by
      by_cases f0 : fl_n p G (s + k) = 0
      · rw [f0, if_neg (fun y => y rfl)]
        rfl
      · rw [if_pos f0, show fl_n p G (s + k) = 1 by omega]
        show [lbn_ (gly_ p G z m) fz X (Ln_ p G z s + (Ln_ p G z (s + k) - Ln_ p G z s))] = [0]
        rw [show Ln_ p G z s + (Ln_ p G z (s + k) - Ln_ p G z s) = Ln_ p G z (s + k) by omega, lbn_3 (lay_C3 iN f0)]
    have step2 : (List.range' (Ln_ p G z (s + k) - Ln_ p G z s + fl_n p G (s + k)) (if ((s + k : Nat) : Int) = z then 0 else 1)).map (fun j => lbn_ (gly_ p G z m) fz X (Ln_ p G z s + j)) = (if ((s + k : Nat) : Int) = z then [] else [li_ p fz X (s + k)]) := by
      by_cases hz : ((s + k : Nat) : Int) = z
      · rw [if_pos hz, if_pos hz]
        rfl
      · rw [if_neg hz, if_neg hz]
        show [lbn_ (gly_ p G z m) fz X (Ln_ p G z s + (Ln_ p G z (s + k) - Ln_ p G z s + fl_n p G (s + k)))] = _
        rw [show Ln_ p G z s + (Ln_ p G z (s + k) - Ln_ p G z s + fl_n p G (s + k)) = la_ p G z (s + k) by unfold la_; omega]
        unfold lbn_ li_
        rw [lay_C iN hz, lay_C iN hz]
    have e : Ln_ p G z (s + (k + 1)) - Ln_ p G z s = (Ln_ p G z (s + k) - Ln_ p G z s + fl_n p G (s + k)) + (if ((s + k : Nat) : Int) = z then 0 else 1) := by
      rw [show s + (k + 1) = s + k + 1 by omega, ls]
      omega
    have r1 := List.range'_append_1 (s := 0) (m := Ln_ p G z (s + k) - Ln_ p G z s + fl_n p G (s + k)) (n := if ((s + k : Nat) : Int) = z then 0 else 1)
    have r2 := List.range'_append_1 (s := 0) (m := Ln_ p G z (s + k) - Ln_ p G z s) (n := fl_n p G (s + k))
    rw [Nat.zero_add] at r1 r2
    rw [e, ← r1, ← r2, List.map_append, List.map_append, ih, step1, step2]
    rfl
theorem ct_add (f : Nat → Bool) (a : Nat) : ∀ b, ct_ f (a + b) = ct_ f a + ct_ (fun j => f (a + j)) b
  | 0 => rfl
  | b + 1 => by
    rw [← Nat.add_assoc, ct_s, ct_add f a b, ct_s, Nat.add_assoc]
theorem acc_app : acc_ (A ++ B) = acc_ A ++ acc_ B := List.filter_append _ _
theorem tx_app : tx_ (A ++ B) = tx_ A + tx_ B := by
  unfold tx_
  rw [cnt_app, cnt_app]
  omega
theorem sl_acc (hz : Zk_ p z) : ∀ k, s + k ≤ pN_ p → (acc_ (sl_ p G z fz X s k)).length = ct_ (fun j => decide (pC_ p (s + j) 1 ≠ 3)) k
  | 0, _ => rfl
  | k + 1, hk => by
    show (acc_ (sl_ p G z fz X s k ++ (if fl_n p G (s + k) ≠ 0 then [0] else []) ++ (if ((s + k : Nat) : Int) = z then [] else [li_ p fz X (s + k)]))).length = _
    have e1 : acc_ (if fl_n p G (s + k) ≠ 0 then [0] else []) = [] := by
      split
      · rfl
      · rfl
    rw [acc_app, acc_app, e1, List.append_nil, List.length_append, sl_acc hz k (by omega), ct_s]
    by_cases h3 : pC_ p (s + k) 1 = 3
    · rw [decide_eq_false (fun y => y h3), if_neg (show ¬ (false = true) from fun y => by cases y)]
      split
      · rfl
      · rw [li_0.mpr h3]
        rfl
    · have hzi : ((s + k : Nat) : Int) ≠ z := fun y => h3 (hz _ (by omega) y)
      rw [if_neg hzi, decide_eq_true h3, acc_a (fun y => h3 (li_0.mp y))]
      rfl
theorem sl_mem : ∀ k a, a ∈ acc_ (sl_ p G z fz X s k) → a = 1 ∨ a = 2 ∨ (fz = true ∧ a = 3)
  | 0, a, h => by cases h
  | k + 1, a, h => by
    have h : a ∈ acc_ (sl_ p G z fz X s k ++ (if fl_n p G (s + k) ≠ 0 then [0] else []) ++ (if ((s + k : Nat) : Int) = z then [] else [li_ p fz X (s + k)])) := h
    rw [acc_app, acc_app] at h
    rcases List.mem_append.mp h with h | h
    · rcases List.mem_append.mp h with h | h
      · exact sl_mem k a h
      · obtain ⟨h1, h2⟩ := List.mem_filter.mp h
        split at h1
        · rw [List.mem_singleton.mp h1] at h2
          cases h2
        · cases h1
    · obtain ⟨h1, h2⟩ := List.mem_filter.mp h
      split at h1
      · cases h1
      · have e := List.mem_singleton.mp h1
        have ne := of_decide_eq_true h2
        rcases li_in (p := p) (fz := fz) (X := X) (i := s + k) with y | y | y | y
        · omega
        · exact Or.inl (by omega)
        · exact Or.inr (Or.inl (by omega))
        · exact Or.inr (Or.inr ⟨y.1, by omega⟩)
theorem sl_tx (hz : Zk_ p z) : ∀ k, s + k ≤ pN_ p → tx_ (sl_ p G z fz X s k) = ct_ (fun j => decide (pC_ p (s + j) 1 ≠ 3 ∧ pC_ p (s + j) 2 = (X : Int))) k
  | 0, _ => rfl
  | k + 1, hk => by
    show tx_ (sl_ p G z fz X s k ++ (if fl_n p G (s + k) ≠ 0 then [0] else []) ++ (if ((s + k : Nat) : Int) = z then [] else [li_ p fz X (s + k)])) = _
    have e1 : tx_ (if fl_n p G (s + k) ≠ 0 then [0] else []) = 0 := by
      split
      · rfl
      · rfl
    rw [tx_app, tx_app, e1, Nat.add_zero, sl_tx hz k (by omega), ct_s, ← li_px (p := p) (fz := fz) (X := X) (i := s + k)]
    by_cases hzi : ((s + k : Nat) : Int) = z
    · rw [if_pos hzi, li_0.mpr (hz _ (by omega) hzi)]
      rfl
    · rw [if_neg hzi, tx_cons]
      show _ + (0 + _) = _
      rw [Nat.zero_add]
/-- fences between two accesses that stand side by side -/
def hd1_ : List Nat → Bool
  | [] => false
  | b :: _ => decide (b ≠ 0)
def ptn_ : Bool → List Nat → Nat
  | _, [] => 0
  | pv, a :: L => if a = 0 then (if (pv && hd1_ L) = true then 1 else 0) + ptn_ false L else ptn_ true L
theorem exn_pat : ∀ (L : List Nat) (fl pv : Bool), (pv = true → fl = false) → exn_ fl L + ptn_ pv L ≤ cnt_ L 0
  | [], _, _, _ => Nat.le_refl _
  | a :: L, fl, pv, h => by
    rw [cnt_cons]
    by_cases h0 : a = 0
    · subst h0
      rw [if_pos rfl]
      have ee : exn_ fl (0 :: L) = (if (fl || !hac_ L) = true then exn_ fl L + 1 else exn_ true L) := if_pos rfl
      have ep : ptn_ pv (0 :: L) = (if (pv && hd1_ L) = true then 1 else 0) + ptn_ false L := if_pos rfl
      rw [ee, ep]
      by_cases c : (fl || !hac_ L) = true
      · rw [if_pos c]
        have ih := exn_pat L fl false (fun y => by cases y)
        have np : ¬ (pv && hd1_ L) = true := fun y => by
          rw [Bool.and_eq_true] at y
          rw [h y.1, Bool.false_or] at c
          have hh : hac_ L = true := by
            cases L with
            | nil => cases y.2
            | cons b L =>
              unfold hac_
              exact List.any_eq_true.mpr ⟨b, List.mem_cons_self, y.2⟩
          rw [hh] at c
          cases c
        rw [if_neg np]
        omega
      · rw [if_neg c]
        have ih := exn_pat L true false (fun y => by cases y)
        split <;> omega
    · rw [if_neg h0]
      have ee : exn_ fl (a :: L) = exn_ false L := if_neg h0
      have ep : ptn_ pv (a :: L) = ptn_ true L := if_neg h0
      rw [ee, ep]
      exact exn_pat L false true (fun _ => rfl)
theorem pat_ge (B : List Nat) : ∀ (A : List Nat) (pv : Bool), ptn_ pv A ≤ ptn_ pv (A ++ B)
  | [], _ => Nat.zero_le _
  | a :: A, pv => by
    show (if a = 0 then (if (pv && hd1_ A) = true then 1 else 0) + ptn_ false A else ptn_ true A) ≤ (if a = 0 then (if (pv && hd1_ (A ++ B)) = true then 1 else 0) + ptn_ false (A ++ B) else ptn_ true (A ++ B))
    have i1 := pat_ge B A false
    have i2 := pat_ge B A true
    have hh : (if (pv && hd1_ A) = true then 1 else 0) ≤ (if (pv && hd1_ (A ++ B)) = true then 1 else 0 : Nat) := by
      cases A with
      | nil =>
        have e : (pv && hd1_ []) = false := Bool.and_false _
        rw [e]
        exact Nat.zero_le _
      | cons b A => exact Nat.le_refl _
    split
    · omega
    · exact i2
theorem pat_3 {a b : Nat} (ha : a ≠ 0) (hb : b ≠ 0) : ∀ (A : List Nat) (pv : Bool), ptn_ pv (A ++ [a]) + 1 ≤ ptn_ pv (A ++ [a, 0, b])
  | [], pv => by
    have e1 : ptn_ pv ([] ++ [a]) = 0 := if_neg ha
    have e2 : ptn_ pv ([] ++ [a, 0, b]) = 1 := by
      show (if a = 0 then _ else (if 0 = 0 then (if (true && decide (b ≠ 0)) = true then 1 else 0) + (if b = 0 then _ else 0) else _)) = 1
      rw [if_neg ha, if_pos rfl, if_neg hb, decide_eq_true hb]
      rfl
    rw [e1, e2]
    exact Nat.le_refl _
  | x :: A, pv => by
    show (if x = 0 then (if (pv && hd1_ (A ++ [a])) = true then 1 else 0) + ptn_ false (A ++ [a]) else ptn_ true (A ++ [a])) + 1 ≤ (if x = 0 then (if (pv && hd1_ (A ++ [a, 0, b])) = true then 1 else 0) + ptn_ false (A ++ [a, 0, b]) else ptn_ true (A ++ [a, 0, b]))
    have i1 := pat_3 ha hb A false
    have i2 := pat_3 ha hb A true
    have hh : hd1_ (A ++ [a]) = hd1_ (A ++ [a, 0, b]) := by
      cases A with
      | nil => rfl
      | cons y A => rfl
    rw [hh]
    split
    · omega
    · exact i2
theorem gb_in2 (zP : Wp_ p) (hi : i ≤ pN_ p) (h : gb_ p i = true) : pC_ p (i - 1) 1 ≠ 3 := by
  have y := gb_in zP hi h
  unfold gb_ at h
  obtain ⟨h1, h2, h3, h4⟩ := of_decide_eq_true h
  have e1 : pp_ p ((i : Int) - 1) 1 = pC_ p (i - 1) 1 := by
    rw [show (i : Int) - 1 = ((i - 1 : Nat) : Int) by omega]
    exact pp_in (k := 1) (by omega) (by decide)
  rw [e1] at h3
  exact h3
theorem sl_pat (zP : Wp_ p) (hz : Zk_ p z) (hs : ∀ j, s ≤ j → j < n → pC_ p j 0 = (t : Int)) (hs2 : s = 0 ∨ pC_ p (s - 1) 0 ≠ (t : Int)) (hn : n ≤ pN_ p) : ∀ k, s + k ≤ n → ct_ (fun j => decide (fl_n p G (s + j) ≠ 0)) k ≤ ptn_ false (sl_ p G z fz X s k) ∧ cnt_ (sl_ p G z fz X s k) 0 ≤ ct_ (fun j => decide (fl_n p G (s + j) ≠ 0)) k + ct_ (fun j => decide (pC_ p (s + j) 1 = 3)) k
  | 0, _ => ⟨Nat.le_refl _, Nat.le_refl _⟩
  | k + 1, hk => by
    obtain ⟨i1, i2⟩ := sl_pat zP hz hs hs2 hn k (by omega)
    have e : sl_ p G z fz X s (k + 1) = sl_ p G z fz X s k ++ (if fl_n p G (s + k) ≠ 0 then [0] else []) ++ (if ((s + k : Nat) : Int) = z then [] else [li_ p fz X (s + k)]) := rfl
    rw [ct_s, ct_s]
    constructor
    · by_cases f0 : fl_n p G (s + k) = 0
      · rw [decide_eq_false (fun y => y f0), if_neg (by decide), Nat.add_zero, e, List.append_assoc]
        exact Nat.le_trans i1 (pat_ge _ _ _)
      · rw [decide_eq_true f0, if_pos rfl]
        have gb := fl_gb f0
        obtain ⟨g1, g2, g3, g4⟩ := gb_in zP (by omega) gb
        have g5 := gb_in2 zP (by omega) gb
        have zi : ((s + k : Nat) : Int) ≠ z := fun y => g3 (hz _ g2 y)
        have hb : li_ p fz X (s + k) ≠ 0 := fun y => g3 (li_0.mp y)
        have tk := hs (s + k) (by omega) (by omega)
        cases k with
        | zero =>
          exfalso
          rw [Nat.add_zero] at g1 g4 tk
          rcases hs2 with y | y
          · omega
          · exact y (g4.trans tk)
        | succ k =>
          have zi2 : ((s + k : Nat) : Int) ≠ z := fun y => by
            rw [show s + (k + 1) - 1 = s + k by omega] at g5
            exact g5 (hz _ (by omega) y)
          have ha : li_ p fz X (s + k) ≠ 0 := fun y => by
            rw [show s + (k + 1) - 1 = s + k by omega] at g5
            exact g5 (li_0.mp y)
          have e2 : sl_ p G z fz X s (k + 1) = (sl_ p G z fz X s k ++ (if fl_n p G (s + k) ≠ 0 then [0] else [])) ++ [li_ p fz X (s + k)] := by
            show sl_ p G z fz X s k ++ (if fl_n p G (s + k) ≠ 0 then [0] else []) ++ (if ((s + k : Nat) : Int) = z then [] else [li_ p fz X (s + k)]) = _
            rw [if_neg zi2]
          rw [e, if_pos f0, if_neg zi]
          rw [e2] at i1 ⊢
          have y := pat_3 ha hb (sl_ p G z fz X s k ++ (if fl_n p G (s + k) ≠ 0 then [0] else [])) false
          have e3 : (sl_ p G z fz X s k ++ (if fl_n p G (s + k) ≠ 0 then [0] else [])) ++ [li_ p fz X (s + k)] ++ [0] ++ [li_ p fz X (s + (k + 1))] = (sl_ p G z fz X s k ++ (if fl_n p G (s + k) ≠ 0 then [0] else [])) ++ [li_ p fz X (s + k), 0, li_ p fz X (s + (k + 1))] := by
            rw [List.append_assoc, List.append_assoc]
            rfl
          rw [e3]
          omega
    · rw [e, cnt_app, cnt_app]
      have c1 : cnt_ (if fl_n p G (s + k) ≠ 0 then [0] else []) 0 = (if decide (fl_n p G (s + k) ≠ 0) = true then 1 else 0) := by
        by_cases f0 : fl_n p G (s + k) = 0
        · rw [if_neg (fun y => y f0), decide_eq_false (fun y => y f0)]
          rfl
        · rw [if_pos f0, decide_eq_true f0]
          rfl
      have c2 : cnt_ (if ((s + k : Nat) : Int) = z then [] else [li_ p fz X (s + k)]) 0 ≤ (if decide (pC_ p (s + k) 1 = 3) = true then 1 else 0) := by
        split
        · exact Nat.zero_le _
        · rw [cnt_cons]
          show 0 + (if li_ p fz X (s + k) = 0 then 1 else 0) ≤ _
          by_cases h3 : pC_ p (s + k) 1 = 3
          · rw [if_pos (li_0.mpr h3), decide_eq_true h3]
            exact Nat.le_refl _
          · rw [if_neg (fun y => h3 (li_0.mp y))]
            exact Nat.zero_le _
      rw [c1]
      omega
end LB
