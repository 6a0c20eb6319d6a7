/-! the smallest set of gaps; is a fence needed -/
section SM
variable {γ : ga_T} {σ σ1 : st_T} {A A' : ca_T} {R : rt_T} {m : Nat}
theorem an_of {μ : mr_T} {d : Nat} {as : List Value} {r : rs_T} (h : sp_ γ μ d as σ (fun q s => q = r ∧ ∃ R1, J_ s A' R1 ∧ Co_ σ R 0 s R1)) : Ans_ γ μ d as σ R A' r := by
  obtain ⟨q, s, ⟨rfl, R1, h1, h2⟩, h3⟩ := h
  exact ⟨s, R1, ⟨_, _, ⟨rfl, rfl⟩, h3⟩, h1, co_1 h2⟩
/-- the first set of n for which f holds, small sets first -/
def sset_ (f : Nat → Bool) (n : Nat) : Nat → Nat → Option Nat
  | 0, _ => none
  | k + 1, s => match f1_ (fun G => decide (pcn_ G = s) && f G) n 0 with
    | some G => some G
    | none => sset_ f n k (s + 1)
def om_ (o : Option Nat) : Int := match o with
  | some G => (G : Int)
  | none => -1
def stst_ (A : ca_T) (m : Nat) (rep : Bool) (G : Nat) : Bool := if rep = true then decide (gO_ (aP_ A) m G = (O_ A 0).length) else decide (gM_ (aP_ A) m G = 0)
theorem c_smallestSet (h : J_ σ A R) (hb : Bq_ (aP_ A).1) (hm : m < 3) (rep : Bool) : ∃ σ1 R1, fn_ γ m_X11_smallestSet 6 [.ref 128, .int (i_ (m : Int)), .int (i_ (if rep = true then 1 else 0))] σ (.int (i_ (om_ (sset_ (stst_ A m rep) (2 ^ gaps_ A) 7 0)))) σ1 ∧ J_ σ1 A R1 ∧ Co_ σ R 0 σ1 R1 := by
  have key : sp_ γ m_X11_smallestSet 6 [.ref 128, .int (i_ (m : Int)), .int (i_ (if rep = true then 1 else 0))] σ (fun q s => q = ri_ (om_ (sset_ (stst_ A m rep) (2 ^ gaps_ A) 7 0)) ∧ ∃ R1, J_ s A R1 ∧ Co_ σ R 0 s R1) := by
    refine e_X11_smallestSet h.1.1 ?_
    have g6 : gaps_ A ≤ 6 := gaps_6 h.2.1.2.1
    have hp2 : 2 ^ gaps_ A ≤ 2 ^ 6 := Nat.pow_le_pow_right (by decide) g6
    obtain ⟨s1, R1, f1, f2, f3, f4, -, -⟩ := c_findings (γ := γ) h hb (m := 0) (by decide)
    have n1 : (O_ A 0).length ≤ 131072 := kk_len f4
    have F1 : Fl_ s1 164 (rf_ R1 0) (O_ A 0) := f4.1
    have cg : fn_ γ m_X7_gaps 2 [.ref 132] s1 (.int (i_ ((gaps_ A : Nat) : Int))) s1 := c_gaps (Or.inl rfl) f2.1.1 f2.2.1.1.1
    generalize hQ : (fun (q : rs_T) (s : st_T) => q = ri_ (om_ (sset_ (stst_ A m rep) (2 ^ gaps_ A) 7 0)) ∧ ∃ R1, J_ s A R1 ∧ Co_ σ R 0 s R1) = Q
    have zQ : ∀ s R', J_ s A R' → Co_ σ R 0 s R' → Q (ri_ (om_ (sset_ (stst_ A m rep) (2 ^ gaps_ A) 7 0))) s := fun s R' a b => by
      rw [← hQ]
      exact ⟨rfl, R', a, b⟩
    clear hQ
    unfold p_X11_smallestSet_0
    refine ⟨_, s1, f2.1.1, f1, fa_fi 0, _, s1, f2.1.1, c_fsize (fa_fi 0) f2.1.1 F1, _, s1, f2.1.1, cg, ?_⟩
    rw [show (1 : Int32) = i_ ((1 : Nat) : Int) from rfl, show (31 : Int32) = i_ 31 from rfl, i_shl (by omega) (by omega), Nat.one_mul]
    have tst : ∀ G, stst_ A m rep G = if rep = true then decide (gO_ (aP_ A) m G = (O_ A 0).length) else decide (gM_ (aP_ A) m G = 0) := fun _ => rfl
    generalize (O_ A 0).length = N at n1 tst ⊢
    generalize stst_ A m rep = f at tst zQ ⊢
    generalize hn : 2 ^ gaps_ A = n at hp2 zQ ⊢
    have inner : ∀ (s : Nat), s ≤ 6 → (∀ G, f1_ (fun G => decide (pcn_ G = s) && f G) n 0 = some G → ∀ s2 R2, J_ s2 A R2 → Co_ σ R 0 s2 R2 → Q (ri_ (G : Int)) s2) → (f1_ (fun G => decide (pcn_ G = s) && f G) n 0 = none → ∀ s2 R2, J_ s2 A R2 → Co_ σ R 0 s2 R2 → vv_ γ m_X11_smallestSet 6 23 [(0, .ref 128), (1, .int (i_ (m : Int))), (2, .int (i_ (if rep = true then 1 else 0))), (3, .int (i_ (N : Int))), (4, .int (i_ (n : Int))), (5, .int (i_ ((s + 1 : Nat) : Int)))] [] s2 Q) →
        ∀ k i : Nat, k + i = n → f1_ (fun G => decide (pcn_ G = s) && f G) n 0 = f1_ (fun G => decide (pcn_ G = s) && f G) k i → ∀ s2 R2, J_ s2 A R2 → Co_ σ R 0 s2 R2 → vv_ γ m_X11_smallestSet 6 33 [(0, .ref 128), (1, .int (i_ (m : Int))), (2, .int (i_ (if rep = true then 1 else 0))), (3, .int (i_ (N : Int))), (4, .int (i_ (n : Int))), (5, .int (i_ (s : Int))), (6, .int (i_ (i : Int)))] [] s2 Q := by
      intro s hs hsome hnone k
      induction k with
      | zero =>
        intro i zi e s2 R2 hj hc
        refine g_X11_smallestSet_33 hj.1.1 ?_
        unfold p_X11_smallestSet_33
        simp (disch := omega) only [i_le]
        refine ⟨fun _ => ?_, fun z => by omega⟩
        rw [i_lit 1, i_add]
        exact hnone (e.trans rfl) s2 R2 hj hc
      | succ k ih =>
        intro i zi e s2 R2 hj hc
        rw [f1_] at e
        have bc := c_bits (γ := γ) (σ := s2) (G := i) (by omega)
        have bl := pcn_le i
        have nx := ih (i + 1) (by omega)
        rw [show ((i + 1 : Nat) : Int) = (i : Int) + 1 by omega, ← i_add, ← i_lit 1] at nx
        refine g_X11_smallestSet_33 hj.1.1 ?_
        unfold p_X11_smallestSet_33
        refine ⟨fun z => ?_, fun _ => ⟨_, s2, hj.1.1, bc, fun zb => ?_, fun zb => ?_⟩⟩
        · rw [i_le (by omega) (by omega)] at z
          omega
        · rw [i_eq (by omega) (by omega)] at zb
          have zb : pcn_ i = s := by omega
          obtain ⟨s3, R3, t1, t2, t3, t4, t5⟩ := c_tryFences (γ := γ) hj hb hm (G := i) (by omega)
          obtain ⟨l1, l2⟩ := gO_le hb hm (G := i) (by omega)
          have hc3 := co_tr hc t3
          refine ⟨s3, t2.1.1, t1, _, s3, t2.1.1, c_kept t2.1.1 hm, ?_⟩
          rw [decide_eq_true zb, Bool.true_and] at e
          have ti := tst i
          cases rep with
          | false =>
            rw [if_neg (by decide)] at ti
            have cm := c_fencedM (γ := γ) (fa_fi m) t2.1.1 (g := i) (by omega)
            rw [t5] at cm
            refine ⟨fun _ => ⟨fa_fi m, _, s3, t2.1.1, cm, fun z => ?_, fun z => ?_⟩, fun z => absurd rfl z⟩
            · rw [show (0 : Int32) = i_ 0 from rfl, i_eq (by omega) (by decide)] at z
              rw [ti, if_pos (decide_eq_true (by omega))] at e
              exact hsome i e s3 R3 t2 hc3
            · rw [show (0 : Int32) = i_ 0 from rfl, i_eq (by omega) (by decide)] at z
              rw [ti, if_neg (by rw [decide_eq_true_eq]; omega)] at e
              exact nx e s3 R3 t2 hc3
          | true =>
            rw [if_pos rfl] at ti
            have cm := c_fencedO (γ := γ) (fa_fi m) t2.1.1 (g := i) (by omega)
            rw [t4] at cm
            refine ⟨fun z => absurd z (by decide), fun _ => ⟨fa_fi m, _, s3, t2.1.1, cm, fun z => ?_, fun z => ?_⟩⟩
            · rw [i_eq (by omega) (by omega)] at z
              rw [ti, if_pos (decide_eq_true (by omega))] at e
              exact hsome i e s3 R3 t2 hc3
            · rw [i_eq (by omega) (by omega)] at z
              rw [ti, if_neg (by rw [decide_eq_true_eq]; omega)] at e
              exact nx e s3 R3 t2 hc3
        · rw [i_eq (by omega) (by omega)] at zb
          rw [decide_eq_false (by omega), Bool.false_and, if_neg (by decide)] at e
          exact nx e s2 R2 hj hc
    generalize hT : sset_ f n 7 0 = T at zQ
    have outer : ∀ k s : Nat, k + s = 7 → T = sset_ f n k s → ∀ s2 R2, J_ s2 A R2 → Co_ σ R 0 s2 R2 → vv_ γ m_X11_smallestSet 6 23 [(0, .ref 128), (1, .int (i_ (m : Int))), (2, .int (i_ (if rep = true then 1 else 0))), (3, .int (i_ (N : Int))), (4, .int (i_ (n : Int))), (5, .int (i_ (s : Int)))] [] s2 Q := by
      intro k
      induction k with
      | zero =>
        intro s zs e s2 R2 hj hc
        refine g_X11_smallestSet_23 hj.1.1 ?_
        unfold p_X11_smallestSet_23
        simp (disch := omega) only [i_lit, i_neg, i_lt]
        refine ⟨fun _ => ?_, fun z => by omega⟩
        have y := zQ s2 R2 hj hc
        rw [e] at y
        exact y
      | succ k ih =>
        intro s zs e s2 R2 hj hc
        refine g_X11_smallestSet_23 hj.1.1 ?_
        unfold p_X11_smallestSet_23
        simp (disch := omega) only [i_lit, i_lt]
        refine ⟨fun z => by omega, fun _ => ?_⟩
        rw [sset_] at e
        refine inner s (by omega) (fun G hG s3 R3 a b => ?_) (fun hG s3 R3 a b => ?_) n 0 (by omega) rfl s2 R2 hj hc
        · rw [hG] at e
          have y := zQ s3 R3 a b
          rw [e] at y
          exact y
        · rw [hG] at e
          exact ih (s + 1) (by omega) e s3 R3 a b
    exact outer 7 0 (by decide) hT.symm s1 R1 f2 f3
  obtain ⟨q, s, ⟨rfl, R1, h1, h2⟩, h3⟩ := key
  exact ⟨s, R1, ⟨_, _, ⟨rfl, rfl⟩, h3⟩, h1, h2⟩
theorem c_repairingFences (h : J_ σ A R) (hb : Bq_ (aP_ A).1) {z : Int} (q1 : -2147483648 ≤ z ∧ z < 2147483648) : Ans_ γ m_X11_repairingFences 9 [.ref 128, .int (i_ z)] σ R A (mq_ z (fun m => ri_ (om_ (sset_ (stst_ A m true) (2 ^ gaps_ A) 7 0)))) := by
  refine am_ h q1 (fun m hm e hf => ?_) (fun Q s zs zf zQ => e_X11_repairingFences h.1.1 (by
    unfold p_X11_repairingFences_0
    exact Or.inr ⟨s, zs, zf, zQ⟩))
  subst e
  obtain ⟨σ1, R1, f1, f2, f3⟩ := c_smallestSet (γ := γ) h hb hm true
  refine ⟨σ1, R1, sq_ (fun Q zQ => e_X11_repairingFences h.1.1 ?_), f2, co_1 f3⟩
  unfold p_X11_repairingFences_0
  exact Or.inl ⟨σ, h.1.1, hf, _, σ1, f2.1.1, f1, zQ⟩
theorem c_fewestFences (h : J_ σ A R) (hb : Bq_ (aP_ A).1) {z : Int} (q1 : -2147483648 ≤ z ∧ z < 2147483648) : Ans_ γ m_X11_fewestFences 10 [.ref 128, .int (i_ z)] σ R A (mq_ z (fun m => if 0 < (O_ A 0).countP (fun q => uf_ q.1 (aP_ A).2.2) then ri_ (-1) else ri_ (om_ (sset_ (stst_ A m false) (2 ^ gaps_ A) 7 0)))) := by
  refine am_ h q1 (fun m hm e hf => ?_) (fun Q s zs zf zQ => e_X11_fewestFences h.1.1 (by
    unfold p_X11_fewestFences_0
    exact Or.inr ⟨s, zs, zf, zQ⟩))
  subst e
  obtain ⟨s1, R1, f1, f2, f3⟩ := c_matchCount (γ := γ) h hb (z := 0) (by decide)
  obtain ⟨s2, R2, g1, g2, g3, g4, -, -⟩ := c_findings (γ := γ) h hb (m := 0) (by decide)
  have n1 : (O_ A 0).length ≤ 131072 := kk_len g4
  have n2 : (O_ A 0).countP (fun q => uf_ q.1 (aP_ A).2.2) ≤ (O_ A 0).length := List.countP_le_length
  have f1 : fn_ γ m_X11_matchCount 9 [.ref 128, .int (0 : Int32)] σ (.int (i_ (((O_ A 0).countP (fun q => uf_ q.1 (aP_ A).2.2) : Nat) : Int))) s1 := f1
  by_cases c : 0 < (O_ A 0).countP (fun q => uf_ q.1 (aP_ A).2.2)
  · rw [if_pos c]
    refine ⟨s1, R1, sq_ (fun Q zQ => e_X11_fewestFences h.1.1 ?_), f2, f3⟩
    unfold p_X11_fewestFences_0
    refine Or.inl ⟨σ, h.1.1, hf, Or.inl ⟨_, s1, f2.1.1, f1, fun z => ?_, fun _ => zQ⟩⟩
    rw [show (0 : Int32) = i_ 0 from rfl, i_le (by omega) (by decide)] at z
    omega
  · rw [if_neg c]
    obtain ⟨s3, R3, k1, k2, k3⟩ := c_smallestSet (γ := γ) f2 hb hm false
    have k4 : Co_ σ R (1 + 0) s3 R3 := co_tr f3 k3
    refine ⟨s3, R3, sq_ (fun Q zQ => e_X11_fewestFences h.1.1 ?_), k2, k4⟩
    unfold p_X11_fewestFences_0
    refine Or.inl ⟨σ, h.1.1, hf, Or.inl ⟨_, s1, f2.1.1, f1, fun _ => ⟨_, s3, k2.1.1, k1, zQ⟩, fun z => absurd ?_ z⟩⟩
    rw [show (0 : Int32) = i_ 0 from rfl, i_le (by omega) (by decide)]
    omega
/-- waiting instructions, one left out -/
theorem wt_not {F : Nat → Bool} {i : Nat} (hi : i < 10) : i_ ((bm_ F 10 : Nat) : Int) &&& (((1 : Int32) <<< (i_ (i : Int) &&& 31)) ^^^ (-1 : Int32)) = i_ ((bm_ (fun j => F j && decide (j ≠ i)) 10 : Nat) : Int) := by
  have b1 := bm_lt F 10
  have b2 := bm_lt (fun j => F j && decide (j ≠ i)) 10
  have p2 : 2 ^ i < 2 ^ 10 := Nat.pow_lt_pow_right (by decide) hi
  rw [show (-1 : Int32) = i_ ((2 ^ 32 - 1 : Nat) : Int) by decide, show (1 : Int32) = i_ ((1 : Nat) : Int) from rfl, show (31 : Int32) = i_ 31 from rfl, i_shl (by omega) (by omega), Nat.one_mul, i_xor (by omega) (by decide), i_and (by omega) (Nat.xor_lt_two_pow (by omega) (by decide))]
  congr 1
  congr 1
  apply Nat.eq_of_testBit_eq
  intro k
  rw [Nat.testBit_and, Nat.testBit_xor, bm_tb, bm_tb, Nat.testBit_two_pow_sub_one, Nat.testBit_two_pow]
  by_cases k1 : k < 10
  · by_cases k2 : k = i
    · simp [k1, k2]
      omega
    · have k3 : ¬ i = k := fun z => k2 z.symm
      simp [k1, k2, k3]
      intro _
      omega
  · simp [k1]
theorem c_isFenceNeeded (h : J_ σ A R) (hb : Bq_ (aP_ A).1) {z y : Int} (q1 : -2147483648 ≤ z ∧ z < 2147483648) (q2 : -2147483648 ≤ y ∧ y < 2147483648) : Ans_ γ m_X11_isFenceNeeded 9 [.ref 128, .int (i_ z), .int (i_ y)] σ R A (mq_ z (fun m => im_ A y (fun i => if pC_ (aP_ A).1 i 1 = 3 then rb_ (decide (cn_ (fi_ (aP_ A).1) (bf_ (aP_ A).1 m (fun j => F0_ (aP_ A).1 j && decide (j ≠ i))) (bf_ (aP_ A).1 m (fun j => F0_ (aP_ A).1 j && decide (j ≠ i))).length ≠ (O_ A m).length)) else nse_))) := by
  refine am_ h q1 (fun m hm e hf => ?_) (fun Q s zs zf zQ => e_X11_isFenceNeeded h.1.1 (by
    unfold p_X11_isFenceNeeded_0
    exact Or.inr ⟨s, zs, zf, zQ⟩))
  subst e
  refine ai_ h q2 (fun i hi e hf2 => ?_) (fun Q s zs zf zQ => e_X11_isFenceNeeded h.1.1 (by
    unfold p_X11_isFenceNeeded_0
    exact Or.inl ⟨σ, h.1.1, hf, Or.inr ⟨s, zs, zf, zQ⟩⟩)) (fun _ => rfl)
  subst e
  have w := h.1.1
  have b0 := h.2.1.1.1.1.1
  have b3 := h.2.1.1.1.1.2.2.2.2 i 1
  have pr := c_property (γ := γ) (Or.inl rfl) w h.2.1.1.1 (z := i) (k := 1) (by omega) (by omega)
  have ep : pp_ (aP_ A).1 i 1 = pC_ (aP_ A).1 i 1 := by
    unfold pp_
    rw [if_pos (by omega), Int.toNat_natCast]
    rfl
  rw [ep] at pr
  by_cases e3 : pC_ (aP_ A).1 i 1 = 3
  · rw [if_pos e3]
    have hf3 : fw_ γ m_X11_requireFence 8 [.ref 128, .int (i_ (i : Int))] σ σ := fw_q (fun Q zQ => e_X11_requireFence w ⟨_, σ, w, pr, fun _ => zQ, fun z => absurd (by rw [e3]; rfl) z⟩)
    obtain ⟨s1, R1, f1, f2, f3, f4, -, -⟩ := c_findings (γ := γ) h hb hm
    have n1 : (O_ A m).length ≤ 131072 := kk_len f4
    have F1 : Fl_ s1 (fa_ m) (rf_ R1 m) (O_ A m) := f4.1
    have w1 := f2.1.1
    obtain ⟨L0, T0⟩ := f2.2.2.2.1
    have bd := (hb m hm).2.2.2 i e3
    obtain ⟨s, e1, e2⟩ := c_explore (γ := γ) w1 f2.2.1.2.1 f2.2.1.1.1 T0 hm bd
    obtain ⟨t, k1, k2, k3, k4, k5, k6⟩ := j_ex f2 e2
    have z1 := c_outcomes (γ := γ) k1 k2 k3
    have bl : cn_ (fi_ (aP_ A).1) (bf_ (aP_ A).1 m (fun j => F0_ (aP_ A).1 j && decide (j ≠ i))) (bf_ (aP_ A).1 m (fun j => F0_ (aP_ A).1 j && decide (j ≠ i))).length ≤ 131072 := Nat.le_trans (cn_le _ _) (bd 131072)
    have e1 : fw_ γ m_X2_explore 4 [.ref 147, .int (i_ (m : Int)), .int (i_ ((bm_ (F0_ (aP_ A).1) 10 : Nat) : Int) &&& (((1 : Int32) <<< (i_ (i : Int) &&& 31)) ^^^ (-1 : Int32)))] s1 s := by
      rw [wt_not (by omega)]
      exact e1
    refine ⟨s, (t, R1.2), sq_ (fun Q zQ => e_X11_isFenceNeeded w ?_), k4, co_1 (co_tr f3 k5)⟩
    generalize cn_ (fi_ (aP_ A).1) (bf_ (aP_ A).1 m (fun j => F0_ (aP_ A).1 j && decide (j ≠ i))) (bf_ (aP_ A).1 m (fun j => F0_ (aP_ A).1 j && decide (j ≠ i))).length = x at *
    generalize O_ A m = L at *
    unfold p_X11_isFenceNeeded_0
    refine Or.inl ⟨σ, w, hf, Or.inl ⟨σ, w, hf2, Or.inl ⟨σ, w, hf3, _, s1, w1, f1, fa_fi m, _, s1, w1, c_fsize (fa_fi m) w1 F1, _, s1, w1, c_waits (Or.inl rfl) w1 f2.2.1.1.1, s, k1, e1, _, s, k1, z1, fun zz => ?_, fun zz => ?_⟩⟩⟩
    · rw [i_eq (by omega) (by omega)] at zz
      rw [decide_eq_false (by omega)] at zQ
      exact zQ
    · rw [i_eq (by omega) (by omega)] at zz
      rw [decide_eq_true (by omega)] at zQ
      exact zQ
  · rw [if_neg e3]
    have hf3 : ft_ γ m_X11_requireFence 8 [.ref 128, .int (i_ (i : Int))] σ "java/util/NoSuchElementException" (pt_X σ 1 6) := ft_q (fun Q zQ => e_X11_requireFence w ⟨_, σ, w, pr, fun z => by
      rw [show (3 : Int32) = i_ 3 from rfl, i_eq (by omega) (by decide)] at z
      exact absurd z e3, fun _ => zQ⟩)
    refine anX_ h (fun Q zQ => e_X11_isFenceNeeded w ?_)
    unfold p_X11_isFenceNeeded_0
    exact Or.inl ⟨σ, w, hf, Or.inl ⟨σ, w, hf2, Or.inr ⟨pt_X σ 1 6, w, hf3, zQ⟩⟩⟩
end SM
