/-! tokens: blanks, letters, digits, the signs that are always written alike -/
section TO
variable {γ : ga_T} {σ σ1 : st_T} {B : Nat → Int} {n : Nat}
def isl_ (z : Int) : Bool := decide (97 ≤ z ∧ z ≤ 122)
def isd_ (z : Int) : Bool := decide (48 ≤ z ∧ z ≤ 57)
def isb_ (z : Int) : Bool := decide (z = 32 ∨ z = 10)
/-- the first place from i on, at most k places away, at which f does not hold -/
def ru_ (f : Nat → Bool) : Nat → Nat → Nat
  | 0, i => i
  | k + 1, i => if f i = true then ru_ f k (i + 1) else i
theorem ru_rg (f : Nat → Bool) : ∀ k i, i ≤ ru_ f k i ∧ ru_ f k i ≤ i + k
  | 0, i => ⟨Nat.le_refl _, Nat.le_refl _⟩
  | k + 1, i => by
    have y := ru_rg f k (i + 1)
    unfold ru_
    split
    · omega
    · omega
/-- the text that the class holds: n bytes -/
def Tx_ (σ : st_T) (B : Nat → Int) (n : Nat) : Prop := n ≤ 600 ∧ ∀ i, i < n → st_I σ 129 i = i_ (B i) ∧ -128 ≤ B i ∧ B i < 128
theorem pt_self (σ : st_T) (a k : Nat) : pt_I σ a k (st_I σ a k) = σ := by
  obtain ⟨f1, f2, f3, f4, f5, f6, f7⟩ := σ
  show ((fun b j => if b = a ∧ j = k then f1 a k else f1 b j), f2, f3, f4, f5, f6, f7) = (f1, f2, f3, f4, f5, f6, f7)
  congr 1
  funext b j
  split
  · next z => rw [z.1, z.2]
  · rfl
theorem pt_twice (σ : st_T) (a k : Nat) (v w : Int32) : pt_I (pt_I σ a k v) a k w = pt_I σ a k w := by
  obtain ⟨f1, f2, f3, f4, f5, f6, f7⟩ := σ
  show ((fun b j => if b = a ∧ j = k then w else if b = a ∧ j = k then v else f1 b j), f2, f3, f4, f5, f6, f7) = ((fun b j => if b = a ∧ j = k then w else f1 b j), f2, f3, f4, f5, f6, f7)
  congr 1
  funext b j
  split
  · rfl
  · rfl
theorem c_isLetter (zw : Wd σ) {z : Int} (q : -128 ≤ z ∧ z < 128) : fn_ γ m_X10_isLetter 0 [.int (i_ z)] σ (.int (i_ (if isl_ z = true then 1 else 0))) σ := fn_q (fun Q zQ => e_X10_isLetter zw (by
  unfold p_X10_isLetter_0
  simp (disch := omega) only [i_lit, i_lt]
  refine ⟨fun z1 => ?_, fun z1 => ⟨fun z2 => ?_, fun z2 => ?_⟩⟩
  · rw [show isl_ z = false from decide_eq_false (by omega)] at zQ
    exact zQ
  · rw [show isl_ z = false from decide_eq_false (by omega)] at zQ
    exact zQ
  · rw [show isl_ z = true from decide_eq_true (by omega)] at zQ
    exact zQ))
theorem c_isDigit (zw : Wd σ) {z : Int} (q : -128 ≤ z ∧ z < 128) : fn_ γ m_X10_isDigit 0 [.int (i_ z)] σ (.int (i_ (if isd_ z = true then 1 else 0))) σ := fn_q (fun Q zQ => e_X10_isDigit zw (by
  unfold p_X10_isDigit_0
  simp (disch := omega) only [i_lit, i_lt]
  refine ⟨fun z1 => ?_, fun z1 => ⟨fun z2 => ?_, fun z2 => ?_⟩⟩
  · rw [show isd_ z = false from decide_eq_false (by omega)] at zQ
    exact zQ
  · rw [show isd_ z = false from decide_eq_false (by omega)] at zQ
    exact zQ
  · rw [show isd_ z = true from decide_eq_true (by omega)] at zQ
    exact zQ))
def wc_ (x : Int64) (c : Int32) : Int64 := (x <<< ((5 : Int32).toInt64 &&& 63)) ||| ((c - 97 + 1).toInt64)
theorem c_withLetter (zw : Wd σ) (x : Int64) (c : Int32) : fn_ γ m_X10_withLetter 0 [.long x, .int c] σ (.long (wc_ x c)) σ := fn_q (fun Q zQ => e_X10_withLetter zw zQ)
theorem c_setValue (zw : Wd σ) {t : Nat} (q : t ≤ 600) (v : Int64) : fw_ γ m_X10_setValue 0 [.ref 143, .int (i_ (t : Int)), .long v] σ (pt_L σ 146 t v) := fw_q (fun Q zQ => e_X10_setValue zw (by
  unfold p_X10_setValue_0
  simp (disch := omega) only [i_lit, i_lt, i_le, i_in_iff, i_cl, Int.toNat_natCast]
  exact ⟨fun z => by omega, fun _ => ⟨fun z => by omega, fun _ => ⟨by omega, zQ⟩⟩⟩))
theorem c_skip (zw : Wd σ) (zX : Tx_ σ B n) (h4 : st_I σ 143 4 = i_ (n : Int)) {i : Nat} (h5 : st_I σ 143 5 = i_ (i : Int)) (hi : i ≤ n) : fw_ γ m_X10_skipBlanks 0 [.ref 143] σ (pt_I σ 143 5 (i_ (ru_ (fun i => isb_ (B i)) (n - i) i : Int))) := by
  refine fw_q (fun Q zQ => ?_)
  have hn := zX.1
  obtain ⟨T, hT⟩ : ∃ T, T = pt_I σ 143 5 (i_ (ru_ (fun i => isb_ (B i)) (n - i) i : Int)) := ⟨_, rfl⟩
  rw [← hT] at zQ
  have key : ∀ (k j : Nat) (s : st_T), k + j = n → Wd s → Tx_ s B n → st_I s 143 4 = i_ (n : Int) → st_I s 143 5 = i_ (j : Int) → pt_I s 143 5 (i_ (ru_ (fun i => isb_ (B i)) k j : Int)) = T → vv_ γ m_X10_skipBlanks 0 0 [(0, .ref 143)] [] s Q := by
    intro k
    induction k with
    | zero =>
      intro j s zj w x a4 a5 he
      have zj : j = n := by omega
      subst zj
      have e : pt_I s 143 5 (i_ (j : Int)) = s := by
        rw [← a5]
        exact pt_self _ _ _
      rw [show ru_ (fun i => isb_ (B i)) 0 j = j from rfl, e] at he
      rw [← he] at zQ
      refine g_X10_skipBlanks_0 w ?_
      unfold p_X10_skipBlanks_0
      rw [a4, a5]
      exact ⟨fun _ => zQ, fun z => absurd (Int32.le_refl _) z⟩
    | succ k ih =>
      intro j s zj w x a4 a5 he
      have xb := x.2 j (by omega)
      refine g_X10_skipBlanks_0 w ?_
      unfold p_X10_skipBlanks_0
      rw [a4, a5]
      simp (disch := omega) only [i_le, i_in_iff, i_cl, Int.toNat_natCast]
      rw [xb.1]
      simp (disch := omega) only [i_lit, i_eq, i_add]
      unfold ru_ at he
      have go : isb_ (B j) = true → vv_ γ m_X10_skipBlanks 0 0 [(0, .ref 143)] [] (pt_I s 143 5 (i_ ((j : Int) + 1))) Q := fun hb => by
        rw [if_pos hb] at he
        refine ih (j + 1) _ (by omega) (show Wd (pt_I s 143 5 (i_ ((j : Int) + 1))) from w) ⟨x.1, fun i zi => ?_⟩ ?_ ?_ ?_
        · rw [st_pI, if_neg (by omega)]
          exact x.2 i zi
        · rw [st_pI, if_neg (by omega)]
          exact a4
        · rw [st_sI]
          rfl
        · rw [← he]
          exact pt_twice _ _ _ _ _
      refine ⟨fun z => by omega, fun _ => ⟨by omega, fun z => go (decide_eq_true (Or.inl z)), fun z => ⟨by omega, fun z2 => go (decide_eq_true (Or.inr z2)), fun z2 => ?_⟩⟩⟩
      rw [if_neg (by unfold isb_; rw [decide_eq_true_eq]; omega)] at he
      have e : pt_I s 143 5 (i_ (j : Int)) = s := by
        rw [← a5]
        exact pt_self _ _ _
      rw [e] at he
      rw [← he] at zQ
      exact zQ
  refine sp_of (pl_X10_skipBlanks) rfl (Nat.le_of_ble_eq_true rfl) (key (n - i) i σ (by omega) zw zX h4 h5 hT.symm)
/-- m bytes from i on -/
def bl_ (B : Nat → Int) (i m : Nat) : List Int32 := (List.range m).map (fun k => i_ (B (i + k)))
def kwi_ (l : List Int32) (o : Nat) : Nat → Nat → Nat
  | 0, _ => o
  | k + 1, c => if kb_ (sg_tx.getD c 0) = l then c else kwi_ l o k (c + 1)
theorem bl_len (i m : Nat) : (bl_ B i m).length = m := by
  unfold bl_
  rw [List.length_map, List.length_range]
theorem bl_at {i m k : Nat} (h : k < m) : (bl_ B i m)[k]? = some (i_ (B (i + k))) := by
  unfold bl_
  rw [List.getElem?_map, List.getElem?_range h]
  rfl
theorem bl_eq {l : List Int32} {i m : Nat} (h1 : l.length = m) (h2 : ∀ k, k < m → l.getD k 0 = i_ (B (i + k))) : l = bl_ B i m := by
  apply List.ext_getElem?
  intro k
  by_cases y : k < m
  · rw [bl_at y, List.getElem?_eq_getElem (by omega)]
    have z := h2 k y
    rw [List.getD_eq_getElem?_getD, List.getElem?_eq_getElem (by omega)] at z
    exact congrArg some z
  · rw [List.getElem?_eq_none (by omega), List.getElem?_eq_none (by rw [bl_len]; omega)]
theorem sg_46 : ∀ c : Nat, c < 21 → sg_tx.getD c 0 < 46 := by decide +kernel
theorem c_fixedSign (zw : Wd σ) (zX : Tx_ σ B n) (h4 : st_I σ 143 4 = i_ (n : Int)) {s m : Nat} (h5 : st_I σ 143 5 = i_ ((s + m : Nat) : Int)) (hm : s + m ≤ n) (o : Nat) : fn_ γ m_X10_fixedSign 13 [.ref 143, .int (i_ (s : Int)), .ref o] σ (.ref (kwi_ (bl_ B s m) o 21 0)) σ := by
  refine fn_q (fun Q zQ => e_X10_fixedSign zw ?_)
  have hn := zX.1
  unfold p_X10_fixedSign_0
  have key : ∀ (k c : Nat), k + c = 21 → kwi_ (bl_ B s m) o 21 0 = kwi_ (bl_ B s m) o k c → vv_ γ m_X10_fixedSign 13 11 [(0, .ref 143), (1, .int (i_ (s : Int))), (2, .ref o), (3, .ref 21), (4, .int (21 : Int32)), (5, .int (i_ (c : Int)))] [] σ Q := by
    intro k
    induction k with
    | zero =>
      intro c zc e
      have zc : c = 21 := by omega
      subst zc
      rw [e] at zQ
      refine g_X10_fixedSign_11 zw ?_
      unfold p_X10_fixedSign_11
      exact ⟨fun _ => zQ, fun z => absurd (by decide) z⟩
    | succ k ih =>
      intro c zc e
      have c46 := sg_46 c (by omega)
      have l100 := kb_len _ c46
      have nx := ih (c + 1) (by omega)
      rw [show ((c + 1 : Nat) : Int) = (c : Int) + 1 by omega, ← i_add, ← i_lit 1] at nx
      unfold kwi_ at e
      have e : kwi_ (bl_ B s m) o 21 0 = if kb_ (sg_tx.getD c 0) = bl_ B s m then c else kwi_ (bl_ B s m) o k (c + 1) := e
      refine g_X10_fixedSign_11 zw ?_
      unfold p_X10_fixedSign_11
      have ec : (i_ (c : Int)).toNatClampNeg = c := by rw [i_cl (by omega), Int.toNat_natCast]
      rw [ec]
      have sl := c_strlen (γ := γ) zw c46
      simp (disch := omega) only [i_lit, i_le, i_in_iff]
      refine ⟨fun z => by omega, fun _ => ⟨by omega, by omega, c46, _, σ, zw, sl, ?_⟩⟩
      rw [h5]
      simp (disch := omega) only [i_sub, i_eq]
      have no : ∀ x : Int32, kb_ (sg_tx.getD c 0) ≠ bl_ B s m → vv_ γ m_X10_fixedSign 13 51 [(0, .ref 143), (1, .int (i_ (s : Int))), (2, .ref o), (3, .ref 21), (4, .int (21 : Int32)), (5, .int (i_ (c : Int))), (6, .ref c), (7, .int (0 : Int32)), (8, .int x)] [] σ Q := fun x hne => by
        refine g_X10_fixedSign_51 zw ?_
        unfold p_X10_fixedSign_51
        rw [if_neg hne] at e
        exact ⟨fun _ => ⟨fun _ => nx e, fun z => absurd rfl z⟩, fun z => absurd rfl z⟩
      refine ⟨fun z => ?_, fun z => no _ (fun he => z (by rw [he, bl_len]; omega))⟩
      have hlen : (kb_ (sg_tx.getD c 0)).length = m := by omega
      have inner : ∀ (k2 i : Nat), k2 + i = m → (∀ j, j < i → (kb_ (sg_tx.getD c 0)).getD j 0 = i_ (B (s + j))) → vv_ γ m_X10_fixedSign 13 51 [(0, .ref 143), (1, .int (i_ (s : Int))), (2, .ref o), (3, .ref 21), (4, .int (21 : Int32)), (5, .int (i_ (c : Int))), (6, .ref c), (7, .int (1 : Int32)), (8, .int (i_ (i : Int)))] [] σ Q := by
        intro k2
        induction k2 with
        | zero =>
          intro i zi hj
          have zi : i = m := by omega
          subst zi
          rw [if_pos (bl_eq hlen hj)] at e
          rw [e] at zQ
          refine g_X10_fixedSign_51 zw ?_
          unfold p_X10_fixedSign_51
          refine ⟨fun z => absurd z (by decide), fun _ => ⟨by omega, c46, _, σ, zw, sl, ?_⟩⟩
          rw [hlen]
          exact ⟨fun _ => ⟨fun z => absurd z (by decide), fun _ => zQ⟩, fun z => absurd (Int32.le_refl _) z⟩
        | succ k2 ih2 =>
          intro i zi hj
          have n2 := ih2 (i + 1) (by omega)
          rw [show ((i + 1 : Nat) : Int) = (i : Int) + 1 by omega, ← i_add, ← i_lit 1] at n2
          have ca := c_charAt (γ := γ) zw c46 (k := i) (by omega)
          have xb := zX.2 (s + i) (by omega)
          refine g_X10_fixedSign_51 zw ?_
          unfold p_X10_fixedSign_51
          refine ⟨fun z => absurd z (by decide), fun _ => ⟨by omega, c46, _, σ, zw, sl, ?_⟩⟩
          rw [hlen, h4, i_add, show (s : Int) + (i : Int) = ((s + i : Nat) : Int) by omega]
          simp (disch := omega) only [i_le]
          refine ⟨fun z => by omega, fun _ => ⟨fun z => by omega, fun _ => ⟨by omega, c46, _, σ, zw, ca, i_in (by omega) (by omega) (by omega), ?_⟩⟩⟩
          rw [i_cl (by omega), Int.toNat_natCast, xb.1]
          refine ⟨fun z2 => n2 (fun j zj => ?_), fun z2 => no _ (fun he => z2 ?_)⟩
          · by_cases y : j = i
            · rw [y]; exact z2
            · exact hj j (by omega)
          · rw [he, List.getD_eq_getElem?_getD, bl_at (by omega)]
            rfl
      exact inner m 0 (by omega) (fun j zj => by omega)
  exact key 21 0 rfl rfl
end TO
