/-! tokens: words and numbers -/
section SC
variable {γ : ga_T} {σ σ1 : st_T} {B : Nat → Int} {n : Nat}
def ial_ (z : Int) : Bool := isl_ z || isd_ z
/-- letters and the last digit of k bytes from i on -/
def wf_ (B : Nat → Int) : Nat → Nat → Int64 → Int → Int64 × Int
  | 0, _, x, d => (x, d)
  | k + 1, i, x, d => if isl_ (B i) = true then wf_ B k (i + 1) (wc_ x (i_ (B i))) d else wf_ B k (i + 1) x (B i - 48)
def wrg_ (m : Nat) (q : Int64 × Int) : Bool := decide (m = 2 ∧ q.1 = wc_ 0 114 ∧ q.2 < 2)
def wiv_ (m : Nat) (q : Int64 × Int) : Bool := decide (8 < m) || (decide (q.2 ≠ -1) && !wrg_ m q)
/-- the sign and the value of a word -/
def wsg_ (B : Nat → Int) (s m : Nat) : Nat := if wiv_ m (wf_ B m s 0 (-1)) = true then 1 else if wrg_ m (wf_ B m s 0 (-1)) = true then 2 else kwi_ (bl_ B s m) 3 21 0
def wvl_ (B : Nat → Int) (s m : Nat) : Int64 := if wiv_ m (wf_ B m s 0 (-1)) = true then -1 else if wrg_ m (wf_ B m s 0 (-1)) = true then (i_ (wf_ B m s 0 (-1)).2).toInt64 else (wf_ B m s 0 (-1)).1
/-- what a scan of token t leaves alone -/
def sf_ (t : Nat) (σ σ1 : st_T) : Prop := (∀ a, a ≠ 143 → a ≠ 146 → eh_ σ σ1 a) ∧ (∀ j, j ≠ 5 → st_I σ1 143 j = st_I σ 143 j) ∧ (∀ j, j ≠ t → st_L σ1 146 j = st_L σ 146 j) ∧ st_n σ1 = st_n σ ∧ st_c σ1 = st_c σ ∧ st_u σ1 = st_u σ
theorem wf_rg : ∀ (k i : Nat) (x : Int64) (d : Int), (∀ j, i ≤ j → j < i + k → ial_ (B j) = true) → (-1 ≤ d ∧ d ≤ 9) → -1 ≤ (wf_ B k i x d).2 ∧ (wf_ B k i x d).2 ≤ 9
  | 0, i, x, d, _, h => h
  | k + 1, i, x, d, h1, h => by
    unfold wf_
    split
    · exact wf_rg k (i + 1) _ d (fun j z1 z2 => h1 j (by omega) (by omega)) h
    · next z =>
      refine wf_rg k (i + 1) _ _ (fun j z1 z2 => h1 j (by omega) (by omega)) ?_
      have y := h1 i (Nat.le_refl _) (by omega)
      unfold ial_ at y
      rw [Bool.or_eq_true] at y
      rcases y with y | y
      · exact absurd y z
      · unfold isd_ at y
        rw [decide_eq_true_eq] at y
        omega
theorem wf_s : ∀ (k i : Nat) (x : Int64) (d : Int), wf_ B (k + 1) i x d = if isl_ (B (i + k)) = true then (wc_ (wf_ B k i x d).1 (i_ (B (i + k))), (wf_ B k i x d).2) else ((wf_ B k i x d).1, B (i + k) - 48)
  | 0, i, x, d => by
    show (if isl_ (B i) = true then (wc_ x (i_ (B i)), d) else (x, B i - 48)) = _
    rfl
  | k + 1, i, x, d => by
    have y := fun x d => wf_s k (i + 1) x d
    rw [show i + 1 + k = i + (k + 1) by omega] at y
    show (if isl_ (B i) = true then wf_ B (k + 1) (i + 1) (wc_ x (i_ (B i))) d else wf_ B (k + 1) (i + 1) x (B i - 48)) = _
    have e : wf_ B (k + 1) i x d = if isl_ (B i) = true then wf_ B k (i + 1) (wc_ x (i_ (B i))) d else wf_ B k (i + 1) x (B i - 48) := rfl
    rw [e]
    by_cases z : isl_ (B i) = true
    · rw [if_pos z, if_pos z, y]
    · rw [if_neg z, if_neg z, y]
theorem ru_all (f : Nat → Bool) : ∀ k i j, i ≤ j → j < ru_ f k i → f j = true
  | 0, i, j, z1, z2 => by
    have z2 : j < i := z2
    omega
  | k + 1, i, j, z1, z2 => by
    unfold ru_ at z2
    split at z2
    · next z =>
      by_cases y : j = i
      · rw [y]; exact z
      · exact ru_all f k (i + 1) j (by omega) z2
    · omega
theorem tx_p (zX : Tx_ σ B n) (v : Int32) : Tx_ (pt_I σ 143 5 v) B n := ⟨zX.1, fun i zi => by rw [st_pI, if_neg (by omega)]; exact zX.2 i zi⟩
theorem tx_l (zX : Tx_ σ B n) (k : Nat) (v : Int64) : Tx_ (pt_L σ 146 k v) B n := zX
theorem c_scanWord (zw : Wd σ) (zX : Tx_ σ B n) (h4 : st_I σ 143 4 = i_ (n : Int)) {s t : Nat} (h5 : st_I σ 143 5 = i_ (s : Int)) (hs : s ≤ n) (ht : t ≤ 600) (hv : st_L σ 146 t = -1) : ∃ σ1, fn_ γ m_X10_scanWord 14 [.ref 143, .int (i_ (t : Int))] σ (.ref (wsg_ B s (ru_ (fun i => ial_ (B i)) (n - s) s - s))) σ1 ∧ Wd σ1 ∧
    st_I σ1 143 5 = i_ (ru_ (fun i => ial_ (B i)) (n - s) s : Int) ∧ st_L σ1 146 t = wvl_ B s (ru_ (fun i => ial_ (B i)) (n - s) s - s) ∧ sf_ t σ σ1 := by
  have hn := zX.1
  obtain ⟨J, hJ⟩ : ∃ J, J = ru_ (fun i => ial_ (B i)) (n - s) s := ⟨_, rfl⟩
  have rg := ru_rg (fun i => ial_ (B i)) (n - s) s
  have al := ru_all (fun i => ial_ (B i)) (n - s) s
  rw [← hJ] at rg al ⊢
  obtain ⟨m, hm⟩ : ∃ m, J = s + m := ⟨J - s, by omega⟩
  rw [show J - s = m by omega]
  have fr : ∀ (P : Nat → Prop), P 0 → True := fun _ _ => trivial
  obtain ⟨σ1, hσ1⟩ : ∃ σ1, σ1 = if wiv_ m (wf_ B m s 0 (-1)) = true then pt_I σ 143 5 (i_ (J : Int)) else pt_L (pt_I σ 143 5 (i_ (J : Int))) 146 t (wvl_ B s m) := ⟨_, rfl⟩
  have w1 : Wd σ1 := by
    rw [hσ1]
    split
    · exact zw
    · exact zw
  refine ⟨σ1, fn_q (fun Q zQ => e_X10_scanWord zw ?_), w1, ?_, ?_, ?_⟩
  · unfold p_X10_scanWord_0
    rw [h5]
    have fin : ∀ (s41 : st_T), s41 = pt_I σ 143 5 (i_ (J : Int)) → (((st_I s41 143 5) - i_ (s : Int)) = (2 : Int32) →
          ∃ (v48 : Int64) (s46 : st_T), Wd s46 ∧ fn_ γ m_X10_withLetter 0 [.long (0 : Int64), .int (114 : Int32)] s41 (.long v48) s46 ∧
          ((wf_ B m s 0 (-1)).1 = v48 →
            ((2 : Int32) ≤ i_ (wf_ B m s 0 (-1)).2 →
              ((8 : Int32) < ((st_I s41 143 5) - i_ (s : Int)) →
                Q (.inl (some (.ref 1))) s46
              ) ∧ (¬ (8 : Int32) < ((st_I s41 143 5) - i_ (s : Int)) →
                (i_ (wf_ B m s 0 (-1)).2 = (-1 : Int32) →
                  ∃ s53, Wd s53 ∧ fw_ γ m_X10_setValue 0 [.ref 143, .int (i_ (t : Int)), .long (wf_ B m s 0 (-1)).1] s46 s53 ∧
                  ∃ (v57 : Nat) (s55 : st_T), Wd s55 ∧ fn_ γ m_X10_fixedSign 13 [.ref 143, .int (i_ (s : Int)), .ref 3] s53 (.ref v57) s55 ∧
                  Q (.inl (some (.ref v57))) s55
                ) ∧ (¬ i_ (wf_ B m s 0 (-1)).2 = (-1 : Int32) →
                  Q (.inl (some (.ref 1))) s46
                )
              )
            ) ∧ (¬ (2 : Int32) ≤ i_ (wf_ B m s 0 (-1)).2 →
              ((8 : Int32) < ((st_I s41 143 5) - i_ (s : Int)) →
                Q (.inl (some (.ref 1))) s46
              ) ∧ (¬ (8 : Int32) < ((st_I s41 143 5) - i_ (s : Int)) →
                (i_ (wf_ B m s 0 (-1)).2 = (-1 : Int32) →
                  ∃ s60, Wd s60 ∧ fw_ γ m_X10_setValue 0 [.ref 143, .int (i_ (t : Int)), .long ((i_ (wf_ B m s 0 (-1)).2).toInt64)] s46 s60 ∧
                  Q (.inl (some (.ref 2))) s60
                ) ∧ (¬ i_ (wf_ B m s 0 (-1)).2 = (-1 : Int32) →
                  ∃ s62, Wd s62 ∧ fw_ γ m_X10_setValue 0 [.ref 143, .int (i_ (t : Int)), .long ((i_ (wf_ B m s 0 (-1)).2).toInt64)] s46 s62 ∧
                  Q (.inl (some (.ref 2))) s62
                )
              )
            )
          ) ∧ (¬ (wf_ B m s 0 (-1)).1 = v48 →
            ((8 : Int32) < ((st_I s41 143 5) - i_ (s : Int)) →
              Q (.inl (some (.ref 1))) s46
            ) ∧ (¬ (8 : Int32) < ((st_I s41 143 5) - i_ (s : Int)) →
              (i_ (wf_ B m s 0 (-1)).2 = (-1 : Int32) →
                ∃ s66, Wd s66 ∧ fw_ γ m_X10_setValue 0 [.ref 143, .int (i_ (t : Int)), .long (wf_ B m s 0 (-1)).1] s46 s66 ∧
                ∃ (v70 : Nat) (s68 : st_T), Wd s68 ∧ fn_ γ m_X10_fixedSign 13 [.ref 143, .int (i_ (s : Int)), .ref 3] s66 (.ref v70) s68 ∧
                Q (.inl (some (.ref v70))) s68
              ) ∧ (¬ i_ (wf_ B m s 0 (-1)).2 = (-1 : Int32) →
                Q (.inl (some (.ref 1))) s46
              )
            )
          )
        ) ∧ (¬ ((st_I s41 143 5) - i_ (s : Int)) = (2 : Int32) →
          ((8 : Int32) < ((st_I s41 143 5) - i_ (s : Int)) →
            Q (.inl (some (.ref 1))) s41
          ) ∧ (¬ (8 : Int32) < ((st_I s41 143 5) - i_ (s : Int)) →
            (i_ (wf_ B m s 0 (-1)).2 = (-1 : Int32) →
              ∃ s73, Wd s73 ∧ fw_ γ m_X10_setValue 0 [.ref 143, .int (i_ (t : Int)), .long (wf_ B m s 0 (-1)).1] s41 s73 ∧
              ∃ (v77 : Nat) (s75 : st_T), Wd s75 ∧ fn_ γ m_X10_fixedSign 13 [.ref 143, .int (i_ (s : Int)), .ref 3] s73 (.ref v77) s75 ∧
              Q (.inl (some (.ref v77))) s75
            ) ∧ (¬ i_ (wf_ B m s 0 (-1)).2 = (-1 : Int32) →
              Q (.inl (some (.ref 1))) s41
            )
          )
        ) := by
      intro s41 e41
      have w41 : Wd s41 := by rw [e41]; exact zw
      have x41 : Tx_ s41 B n := by rw [e41]; exact tx_p zX _
      have h41 : st_I s41 143 5 = i_ (J : Int) := by rw [e41]; exact st_sI _ _ _ _
      have k41 : st_I s41 143 4 = i_ (n : Int) := by rw [e41, st_pI, if_neg (by omega)]; exact h4
      have dr := wf_rg (B := B) m s 0 (-1) (fun j z1 z2 => al j z1 (by omega)) (by omega)
      rw [← e41] at hσ1
      unfold wsg_ at zQ
      unfold wvl_ at hσ1
      generalize hq : wf_ B m s 0 (-1) = q at dr hσ1 zQ ⊢
      rw [h41]
      have inv : (8 < m ∨ (q.2 ≠ -1 ∧ ¬ (m = 2 ∧ q.1 = wc_ 0 114 ∧ q.2 < 2))) → Q (.inl (some (.ref 1))) s41 := fun h => by
        have y : wiv_ m q = true := by
          unfold wiv_ wrg_
          rw [Bool.or_eq_true, Bool.and_eq_true, decide_eq_true_eq, decide_eq_true_eq, Bool.not_eq_true', decide_eq_false_iff_not]
          exact h
        rw [if_pos y] at hσ1 zQ
        rw [← hσ1]
        exact zQ
      have reg : ¬ 8 < m → (m = 2 ∧ q.1 = wc_ 0 114 ∧ q.2 < 2) → Q (.inl (some (.ref 2))) (pt_L s41 146 t (i_ q.2).toInt64) := fun h1 h2 => by
        have y0 : wrg_ m q = true := decide_eq_true h2
        have y : ¬ wiv_ m q = true := by
          unfold wiv_
          rw [y0, decide_eq_false h1]
          simp
        rw [if_neg y, if_neg y, if_pos y0] at hσ1
        rw [if_neg y, if_pos y0] at zQ
        rw [← hσ1]
        exact zQ
      have nam : ¬ 8 < m → q.2 = -1 → ¬ (m = 2 ∧ q.1 = wc_ 0 114 ∧ q.2 < 2) → ∃ s53, Wd s53 ∧ fw_ γ m_X10_setValue 0 [.ref 143, .int (i_ (t : Int)), .long q.1] s41 s53 ∧
                  ∃ (v57 : Nat) (s55 : st_T), Wd s55 ∧ fn_ γ m_X10_fixedSign 13 [.ref 143, .int (i_ (s : Int)), .ref 3] s53 (.ref v57) s55 ∧
                  Q (.inl (some (.ref v57))) s55 := fun h1 h3 h2 => by
        have y0 : ¬ wrg_ m q = true := fun z => h2 (of_decide_eq_true z)
        have y : ¬ wiv_ m q = true := by
          unfold wiv_
          rw [decide_eq_false h1, decide_eq_false (fun z => z h3)]
          simp
        rw [if_neg y, if_neg y, if_neg y0] at hσ1
        rw [if_neg y, if_neg y0] at zQ
        have w2 : Wd (pt_L s41 146 t q.1) := w41
        refine ⟨pt_L s41 146 t q.1, w2, c_setValue w41 ht _, _, _, w2, c_fixedSign (B := B) (n := n) (s := s) (m := m) w2 (tx_l x41 t _) k41 (by rw [← hm]; exact h41) (by omega) 3, ?_⟩
        rw [← hσ1]
        exact zQ
      clear zQ
      simp (disch := omega) only [i_lit, i_neg, i_sub, i_eq, i_lt, i_le]
      refine ⟨fun z1 => ⟨_, s41, w41, c_withLetter w41 _ _, fun z2 => ⟨fun z3 => ⟨fun z4 => inv (Or.inl (by omega)), fun z4 => ⟨fun z5 => by omega, fun z5 => inv (Or.inr ⟨z5, by omega⟩)⟩⟩, fun z3 => ⟨fun z4 => inv (Or.inl (by omega)), fun z4 => ⟨fun z5 => ⟨_, (show Wd (pt_L s41 146 t (i_ q.2).toInt64) from w41), c_setValue w41 ht _, reg (by omega) ⟨by omega, z2, by omega⟩⟩, fun z5 => ⟨_, (show Wd (pt_L s41 146 t (i_ q.2).toInt64) from w41), c_setValue w41 ht _, reg (by omega) ⟨by omega, z2, by omega⟩⟩⟩⟩⟩, fun z2 => ⟨fun z4 => inv (Or.inl (by omega)), fun z4 => ⟨fun z5 => nam (by omega) z5 (fun z => z2 z.2.1), fun z5 => inv (Or.inr ⟨z5, fun z => z2 z.2.1⟩)⟩⟩⟩, fun z1 => ⟨fun z4 => inv (Or.inl (by omega)), fun z4 => ⟨fun z5 => nam (by omega) z5 (fun z => by omega), fun z5 => inv (Or.inr ⟨z5, fun z => by omega⟩)⟩⟩⟩
    have key : ∀ (k p : Nat) (sp : st_T), k + p = n → s ≤ p → J = ru_ (fun i => ial_ (B i)) k p → sp = pt_I σ 143 5 (i_ (p : Int)) → vv_ γ m_X10_scanWord 14 10 [(0, .ref 143), (1, .int (i_ (t : Int))), (2, .int (i_ (s : Int))), (3, .long (wf_ B (p - s) s 0 (-1)).1), (5, .int (i_ (wf_ B (p - s) s 0 (-1)).2))] [] sp Q := by
      intro k
      induction k with
      | zero =>
        intro p sp zp zs zJ zsp
        have zJ : J = p := zJ
        subst zJ
        have wp : Wd sp := by rw [zsp]; exact zw
        have h41 : st_I sp 143 5 = i_ (J : Int) := by rw [zsp]; exact st_sI _ _ _ _
        have k41 : st_I sp 143 4 = i_ (n : Int) := by rw [zsp, st_pI, if_neg (by omega)]; exact h4
        refine g_X10_scanWord_10 wp ?_
        unfold p_X10_scanWord_10
        rw [show J - s = m by omega]
        refine ⟨fun _ => fin sp zsp, fun z => absurd ?_ z⟩
        rw [h41, k41, show n = J by omega]
        exact Int32.le_refl _
      | succ k ih =>
        intro p sp zp zs zJ zsp
        have wp : Wd sp := by rw [zsp]; exact zw
        have h41 : st_I sp 143 5 = i_ (p : Int) := by rw [zsp]; exact st_sI _ _ _ _
        have k41 : st_I sp 143 4 = i_ (n : Int) := by rw [zsp, st_pI, if_neg (by omega)]; exact h4
        have xp : Tx_ sp B n := by rw [zsp]; exact tx_p zX _
        have xb := xp.2 p (by omega)
        have isL := c_isLetter (γ := γ) wp (z := B p) xb.2
        have isD := c_isDigit (γ := γ) wp (z := B p) xb.2
        have nx : pt_I sp 143 5 (i_ ((p : Int) + 1)) = pt_I σ 143 5 (i_ ((p + 1 : Nat) : Int)) := by
          rw [zsp, pt_twice]
          rfl
        have e5 : (i_ (p : Int)).toNatClampNeg = p := by rw [i_cl (by omega), Int.toNat_natCast]
        have v600 : vp_in (i_ (p : Int)) 600 := i_in (by omega) (by omega) (by omega)
        have ws := wf_s (B := B) (p - s) s 0 (-1)
        rw [show s + (p - s) = p by omega, show p - s + 1 = p + 1 - s by omega] at ws
        refine g_X10_scanWord_10 wp ?_
        unfold p_X10_scanWord_10
        refine ⟨fun z => ?_, fun _ => ?_⟩
        · rw [h41, k41, i_le (by omega) (by omega)] at z
          omega
        rw [h41, e5, xb.1]
        refine ⟨v600, _, sp, wp, isL, ?_⟩
        rw [h41, e5, xb.1]
        by_cases y1 : isl_ (B p) = true
        · rw [if_pos y1] at isL ws ⊢
          refine ⟨fun z => absurd z (by decide), fun _ => ⟨v600, _, sp, wp, isL, fun z => absurd z (by decide), fun _ => ?_⟩⟩
          rw [h41, e5, xb.1]
          refine ⟨v600, _, sp, wp, c_withLetter wp _ _, ?_⟩
          rw [h41, i_lit 1, i_add]
          have zJ2 : J = ru_ (fun i => ial_ (B i)) k (p + 1) := by
            unfold ru_ at zJ
            rw [if_pos (show ial_ (B p) = true by unfold ial_; rw [y1]; rfl)] at zJ
            exact zJ
          have y := ih (p + 1) (pt_I sp 143 5 (i_ ((p : Int) + 1))) (by omega) (by omega) zJ2 nx
          rw [ws] at y
          exact y
        · rw [if_neg y1] at isL ws ⊢
          refine ⟨fun _ => ⟨v600, _, sp, wp, isD, ?_⟩, fun z => absurd rfl z⟩
          by_cases y2 : isd_ (B p) = true
          · rw [if_pos y2]
            refine ⟨fun z => absurd z (by decide), fun _ => ?_⟩
            rw [h41, e5, xb.1]
            refine ⟨v600, _, sp, wp, isL, fun _ => ?_, fun z => absurd rfl z⟩
            rw [h41, e5, xb.1, i_lit 1, i_add, i_lit 48, i_sub]
            have zJ2 : J = ru_ (fun i => ial_ (B i)) k (p + 1) := by
              unfold ru_ at zJ
              rw [if_pos (show ial_ (B p) = true by unfold ial_; rw [y2, Bool.or_true])] at zJ
              exact zJ
            have y := ih (p + 1) (pt_I sp 143 5 (i_ ((p : Int) + 1))) (by omega) (by omega) zJ2 nx
            rw [ws] at y
            exact ⟨v600, y⟩
          · rw [if_neg y2]
            have zJ2 : J = p := by
              unfold ru_ at zJ
              rw [if_neg (show ¬ ial_ (B p) = true by unfold ial_; rw [Bool.or_eq_true]; exact fun z => z.elim y1 y2)] at zJ
              exact zJ
            have f := fin sp (by rw [zJ2]; exact zsp)
            rw [show p - s = m by omega]
            rw [h41] at f
            exact ⟨fun _ => by rw [h41]; exact f, fun z => absurd rfl z⟩
    have es : pt_I σ 143 5 (i_ (s : Int)) = σ := by
      rw [← h5]
      exact pt_self _ _ _
    have y := key (n - s) s σ (by omega) (Nat.le_refl _) hJ es.symm
    rw [Nat.sub_self] at y
    exact y
  · rw [hσ1]
    split
    · exact st_sI _ _ _ _
    · show st_I (pt_I σ 143 5 (i_ (J : Int))) 143 5 = _
      exact st_sI _ _ _ _
  · rw [hσ1]
    split
    · next y =>
      unfold wvl_
      rw [if_pos y]
      exact hv
    · next y => exact if_pos ⟨rfl, rfl⟩
  · rw [hσ1]
    split
    · exact ⟨fun a z1 z2 => eh_I z1, fun j zj => by rw [st_pI, if_neg (by omega)], fun j _ => rfl, rfl, rfl, rfl⟩
    · exact ⟨fun a z1 z2 => eh_tr (eh_I z1) (eh_L z2), fun j zj => by
        show st_I (pt_I σ 143 5 (i_ (J : Int))) 143 j = _
        rw [st_pI, if_neg (by omega)], fun j zj => if_neg (fun z => zj z.2), rfl, rfl, rfl⟩
end SC
