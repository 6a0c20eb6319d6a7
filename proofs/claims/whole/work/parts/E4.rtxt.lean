/-! the reference reads: what a token is -/
section TX
variable {γ : ga_T} {σ σ1 s : st_T} {B : Nat → Int} {n k i : Nat} {z : Int} {P : pq_T}
/-- token k is there -/
def Ptk_ (s : st_T) (B : Nat → Int) (n k : Nat) : Prop := Wd s ∧ Bf_ s B n ∧ Tat_ s B n (tq_ B n k)
def te_ (B : Nat → Int) (n k : Nat) : Nat := if tq_ B n k < n then tst_ B n (tq_ B n k) else n
theorem te_le : tq_ B n k ≤ te_ B n k ∧ te_ B n k ≤ n := by
  have h := tq_le (B := B) (n := n) k
  unfold te_
  split
  · next y =>
    have := tst_rg (B := B) y
    omega
  · omega
theorem pt_g (h : Ptk_ s B n k) : st_I s 185 12 = i_ (te_ B n k : Int) ∧ st_I s 185 13 = i_ (tq_ B n k : Int) ∧ st_I s 185 14 = i_ (sso_ (csg_ B n k)) ∧ (csg_ B n k = 4 → st_I s 185 15 = i_ (tnu_ B n k)) ∧ (csg_ B n k = 2 → st_I s 185 15 = i_ (tnu_ B n k)) := by
  obtain ⟨-, -, a, b, c, d, e⟩ := h
  refine ⟨a, b, c, fun h4 => ?_, fun h2 => ?_⟩
  · have hn := csg_n (by rw [h4]; decide)
    have h5 := h4
    unfold csg_ at h5
    rw [if_pos hn] at h5
    rw [d hn h5]
    unfold tnu_
    rw [if_pos h4]
  · have hn := csg_n (by rw [h2]; decide)
    have h5 := h2
    unfold csg_ at h5
    rw [if_pos hn] at h5
    rw [e hn h5]
    unfold tnu_
    rw [if_neg (by rw [h2]; decide)]
theorem sso_rg (c : Nat) : 0 ≤ sso_ c ∧ sso_ c ≤ 5 := by
  unfold sso_
  repeat (first | omega | split)
theorem sso_2 {c : Nat} (h : c < 21) : (sso_ c = 2 ↔ c = 3 ∨ (5 ≤ c ∧ c ≤ 14)) ∧ (sso_ c = 3 ↔ c = 2) ∧ (sso_ c = 4 ↔ c = 4) ∧ (sso_ c = 5 ↔ 15 ≤ c) ∧ (sso_ c = 1 ↔ c = 1) ∧ (sso_ c = 0 ↔ c = 0) := by
  have key : ∀ c : Fin 21, (sso_ c.val = 2 ↔ c.val = 3 ∨ (5 ≤ c.val ∧ c.val ≤ 14)) ∧ (sso_ c.val = 3 ↔ c.val = 2) ∧ (sso_ c.val = 4 ↔ c.val = 4) ∧ (sso_ c.val = 5 ↔ 15 ≤ c.val) ∧ (sso_ c.val = 1 ↔ c.val = 1) ∧ (sso_ c.val = 0 ↔ c.val = 0) := by decide
  exact key ⟨c, h⟩
/-- the token after -/
theorem tq_next (h : csg_ B n k ≠ 0) : tq_ B n (k + 1) = ru_ (fun i => isb_ (B i)) (n - te_ B n k) (te_ B n k) := by
  have hn := csg_n h
  unfold te_
  rw [if_pos hn]
  show (if tq_ B n k < n then _ else _) = _
  rw [if_pos hn]
theorem c_rgo2 (h : Ptk_ σ B n k) (hc : csg_ B n k ≠ 0) : ∃ s, fw_ γ m_X12_go 2 [.ref 185] σ s ∧ Wd s ∧ ro_ dF_ σ s ∧ Ptk_ s B n (k + 1) := by
  obtain ⟨s, f1, f2, f3, f4⟩ := c_rgo (γ := γ) h.1 h.2.1 (te_le (B := B) (n := n) (k := k)).2 (pt_g h).1
  rw [← tq_next hc] at f4
  exact ⟨s, f1, f2, f3, f2, bf_F f3 h.2.1, f4⟩
/-- a word that is no register and not invalid -/
theorem tok_let (h : csg_ B n k = 3 ∨ (5 ≤ csg_ B n k ∧ csg_ B n k ≤ 14)) : tq_ B n k < n ∧ te_ B n k = tst_ B n (tq_ B n k) ∧ te_ B n k - tq_ B n k ≤ 8 ∧ 0 < te_ B n k - tq_ B n k ∧ (∀ j, tq_ B n k ≤ j → j < te_ B n k → isl_ (B j) = true) ∧ csg_ B n k = kwi_ (bl_ B (tq_ B n k) (te_ B n k - tq_ B n k)) 3 21 0 := by
  have hn := csg_n (B := B) (n := n) (k := k) (by omega)
  have et : te_ B n k = tst_ B n (tq_ B n k) := if_pos hn
  have tr := tst_rg (B := B) hn
  have ec : csg_ B n k = tsg_ B n (tq_ B n k) := if_pos hn
  rw [et, ec]
  rw [ec] at h
  have el : isl_ (B (tq_ B n k)) = true := by
    cases e : isl_ (B (tq_ B n k)) with
    | true => rfl
    | false =>
      exfalso
      unfold tsg_ at h
      rw [if_neg (by rw [e]; decide)] at h
      split at h
      · split at h <;> omega
      · rcases kwi_sp (bl_ B (tq_ B n k) 1) 1 21 0 with y | ⟨-, y2, y3⟩
        · omega
        · have l1 : (kb_ (sg_tx.getD (kwi_ (bl_ B (tq_ B n k) 1) 1 21 0) 0)).length = 1 := by rw [y3, bl_len]
          have l2 := sg_len ⟨kwi_ (bl_ B (tq_ B n k) 1) 1 21 0, by omega⟩
          exact l2 l1
  have eg : tsg_ B n (tq_ B n k) = wsg_ B (tq_ B n k) (tst_ B n (tq_ B n k) - tq_ B n k) := by
    unfold tsg_
    rw [if_pos el]
  have ert : tst_ B n (tq_ B n k) = ru_ (fun i => ial_ (B i)) (n - tq_ B n k) (tq_ B n k) := by
    unfold tst_
    rw [if_pos el]
  rw [eg] at h ⊢
  rcases wsg_c (m := tst_ B n (tq_ B n k) - tq_ B n k) (by omega) el (fun j z1 z2 => ru_all (fun i => ial_ (B i)) (n - tq_ B n k) (tq_ B n k) j z1 (by rw [← ert]; omega)) with ⟨-, -, -, c4⟩ | ⟨-, -, c3⟩ | ⟨c1, c2, c3⟩
  · omega
  · omega
  · exact ⟨hn, rfl, c2, by omega, fun j z1 z2 => c1 j z1 (by omega), c3⟩
theorem sgn_inj : ∀ c v : Fin 21, 5 ≤ c.val → kb_ (sg_tx.getD c.val 0) = kb_ (sg_tx.getD v.val 0) → c = v := by decide +kernel
/-- a sign is what its bytes are -/
theorem tok_eq {c : Nat} (hc : 5 ≤ c ∧ c ≤ 14) (h : csg_ B n k = 3 ∨ (5 ≤ csg_ B n k ∧ csg_ B n k ≤ 14)) : csg_ B n k = c ↔ bl_ B (tq_ B n k) (te_ B n k - tq_ B n k) = kb_ (sg_tx.getD c 0) := by
  obtain ⟨-, -, -, h4, -, h6⟩ := tok_let h
  constructor
  · intro e
    rcases kwi_sp (bl_ B (tq_ B n k) (te_ B n k - tq_ B n k)) 3 21 0 with y | ⟨-, -, y3⟩
    · rw [← h6] at y
      omega
    · rw [← h6, e] at y3
      exact y3.symm
  · intro e
    obtain ⟨-, y2, y3⟩ := kwi_hit (bl_ B (tq_ B n k) (te_ B n k - tq_ B n k)) 3 e.symm 21 0 (Nat.zero_le _) (by omega)
    rw [← h6] at y2 y3
    rw [e] at y3
    have y := sgn_inj ⟨c, by omega⟩ ⟨csg_ B n k, by omega⟩ hc.1 y3.symm
    exact (congrArg Fin.val y).symm
theorem c_risText (h : Ptk_ s B n k) {a c : Nat} (ha : a < 46) (hc : 5 ≤ c ∧ c ≤ 14) (hk : kb_ a = kb_ (sg_tx.getD c 0)) : fn_ γ m_X12_isText 13 [.ref 185, .ref (30 + a)] s (.int (if decide (csg_ B n k = c) = true then 1 else 0)) s := fn_q (fun Q zQ => e_X12_isText h.1 (by
  have w := h.1
  obtain ⟨g1, g2, g3, -, -⟩ := pt_g h
  have c21 := csg_21 (B := B) (n := n) (k := k)
  have s2 := (sso_2 c21).1
  have sr := sso_rg (csg_ B n k)
  have te := te_le (B := B) (n := n) (k := k)
  have h6 := h.2.1.1
  have kl := kb_len a ha
  have no : csg_ B n k ≠ c → Q (.inl (some (.int 0))) s := fun e => by
    rw [decide_eq_false e] at zQ
    exact zQ
  unfold p_X12_isText_0
  rw [g1, g2, g3, k2_, i_eq (by omega) (by omega), i_sub]
  refine ⟨fun y => ⟨ha, _, s, w, c_strlen w ha, ?_⟩, fun y => no (fun e => y (s2.mpr (by omega)))⟩
  have lw := s2.mp y
  have te2 := tok_eq hc lw
  obtain ⟨t1, t2, t3, t4, t5, t6⟩ := tok_let lw
  rw [i_eq (by omega) (by omega)]
  refine ⟨fun y2 => ?_, fun y2 => no (fun e => y2 ?_)⟩
  · have key : ∀ (d j : Nat), d + j = (kb_ a).length → (∀ v, v < j → (kb_ a).getD v 0 = i_ (B (tq_ B n k + v))) → vv_ γ m_X12_isText 13 28 [(0, .ref 185), (1, .ref (30 + a)), (2, .int (i_ (j : Int)))] [] s Q := by
      intro d
      induction d with
      | zero =>
        intro j hj hv
        refine g_X12_isText_28 w ?_
        unfold p_X12_isText_28
        refine ⟨ha, _, s, w, c_strlen w ha, fun _ => ?_, fun y => ?_⟩
        · have e : csg_ B n k = c := te2.mpr (by
            rw [← hk]
            exact (bl_eq (by omega) (fun v hv2 => hv v (by omega))).symm)
          rw [decide_eq_true e] at zQ
          exact zQ
        · rw [i_le (by omega) (by omega)] at y
          omega
      | succ d ih =>
        intro j hj hv
        have bj := (h.2.1.2.2 (tq_ B n k + j) (by omega)).2
        have lj := t5 (tq_ B n k + j) (by omega) (by omega)
        unfold isl_ at lj
        rw [decide_eq_true_eq] at lj
        refine g_X12_isText_28 w ?_
        unfold p_X12_isText_28
        refine ⟨ha, _, s, w, c_strlen w ha, fun y => ?_, fun _ => ?_⟩
        · rw [i_le (by omega) (by omega)] at y
          omega
        rw [g2, i_add]
        refine ⟨i_in (by omega) (by omega) (by omega), ha, _, s, w, c_charAt w ha (show j < (kb_ a).length by omega), ?_⟩
        rw [i_cl (by omega), show ((tq_ B n k : Int) + (j : Int)).toNat = tq_ B n k + j by omega, (h.2.1.2.2 (tq_ B n k + j) (by omega)).1, show B (tq_ B n k + j) % 256 = B (tq_ B n k + j) by omega, k1_, i_add]
        refine ⟨fun e => ih (j + 1) (by omega) (fun v hv2 => ?_), fun e => no (fun e2 => e ?_)⟩
        · by_cases c : v = j
          · rw [c]
            exact e.symm
          · exact hv v (by omega)
        · have e3 := te2.mp e2
          rw [← hk] at e3
          have e4 := bl_at (B := B) (i := tq_ B n k) (show j < te_ B n k - tq_ B n k by omega)
          rw [e3] at e4
          rw [List.getD_eq_getElem?_getD, e4]
          rfl
    exact key (kb_ a).length 0 rfl (fun v hv => by omega)
  · have e3 := te2.mp e
    have e4 : (bl_ B (tq_ B n k) (te_ B n k - tq_ B n k)).length = (kb_ a).length := by rw [e3, hk]
    rw [bl_len] at e4
    omega))
theorem kb_34 : kb_ 34 = kb_ (sg_tx.getD 7 0) ∧ kb_ 35 = kb_ (sg_tx.getD 8 0) ∧ kb_ 36 = kb_ (sg_tx.getD 9 0) ∧ kb_ 37 = kb_ (sg_tx.getD 10 0) ∧ kb_ 38 = kb_ (sg_tx.getD 5 0) ∧ kb_ 39 = kb_ (sg_tx.getD 6 0) ∧ kb_ 40 = kb_ (sg_tx.getD 11 0) ∧ kb_ 41 = kb_ (sg_tx.getD 12 0) ∧ kb_ 42 = kb_ (sg_tx.getD 13 0) ∧ kb_ 43 = kb_ (sg_tx.getD 14 0) := by decide +kernel
theorem c_kindNow (h : Ptk_ s B n k) : fn_ γ m_X12_kindNow 14 [.ref 185] s (.int (i_ (kd_ (csg_ B n k)))) s := fn_q (fun Q zQ => e_X12_kindNow h.1 (by
  have w := h.1
  obtain ⟨b0, b1, b2, b3, -⟩ := kb_34
  have t0 := c_risText (γ := γ) h (a := 34) (c := 7) (by decide) (by decide) b0
  have t1 := c_risText (γ := γ) h (a := 35) (c := 8) (by decide) (by decide) b1
  have t2 := c_risText (γ := γ) h (a := 36) (c := 9) (by decide) (by decide) b2
  have t3 := c_risText (γ := γ) h (a := 37) (c := 10) (by decide) (by decide) b3
  have kw : ∀ j : Nat, j < 4 → fn_ γ m_X12_kindWord 0 [.int (i_ (j : Int))] s (.ref (30 + (34 + j))) s := fun j hj => fn_q (fun Q zQ => e_X12_kindWord w (by
    unfold p_X12_kindWord_0
    rw [k0_, k1_, k2_, i_eq (by omega) (by omega), i_eq (by omega) (by omega), i_eq (by omega) (by omega)]
    refine ⟨fun e => ?_, fun e => ⟨fun e1 => ?_, fun e1 => ⟨fun e2 => ?_, fun e2 => ?_⟩⟩⟩
    · rw [show j = 0 by omega] at zQ
      exact zQ
    · rw [show j = 1 by omega] at zQ
      exact zQ
    · rw [show j = 2 by omega] at zQ
      exact zQ
    · rw [show j = 3 by omega] at zQ
      exact zQ))
  have ne : ∀ {c : Nat}, (if decide (csg_ B n k = c) = true then (1 : Int32) else 0) = 0 → csg_ B n k ≠ c := fun {c} e e2 => by
    rw [decide_eq_true e2] at e
    exact absurd e (by decide)
  have ye : ∀ {c : Nat}, ¬ (if decide (csg_ B n k = c) = true then (1 : Int32) else 0) = 0 → csg_ B n k = c := fun {c} e => by
    by_cases e2 : csg_ B n k = c
    · exact e2
    · rw [decide_eq_false e2] at e
      exact absurd rfl e
  unfold p_X12_kindNow_0
  refine g_X12_kindNow_2 w ⟨fun y => absurd y (by decide), fun _ => ⟨34, s, w, kw 0 (by decide), _, s, w, t0, fun y0 => ?_, fun y0 => ?_⟩⟩
  · refine g_X12_kindNow_2 w ⟨fun y => absurd y (by decide), fun _ => ⟨35, s, w, kw 1 (by decide), _, s, w, t1, fun y1 => ?_, fun y1 => ?_⟩⟩
    · refine g_X12_kindNow_2 w ⟨fun y => absurd y (by decide), fun _ => ⟨36, s, w, kw 2 (by decide), _, s, w, t2, fun y2 => ?_, fun y2 => ?_⟩⟩
      · refine g_X12_kindNow_2 w ⟨fun y => absurd y (by decide), fun _ => ⟨37, s, w, kw 3 (by decide), _, s, w, t3, fun y3 => ?_, fun y3 => ?_⟩⟩
        · refine g_X12_kindNow_2 w ⟨fun _ => ?_, fun y => absurd (by decide) y⟩
          exact qi_ zQ (by unfold kd_; rw [if_neg (ne y0), if_neg (ne y1), if_neg (ne y2), if_neg (ne y3)])
        · exact qi_ zQ (by unfold kd_; rw [if_neg (ne y0), if_neg (ne y1), if_neg (ne y2), if_pos (ye y3)])
      · exact qi_ zQ (by unfold kd_; rw [if_neg (ne y0), if_neg (ne y1), if_pos (ye y2)])
    · exact qi_ zQ (by unfold kd_; rw [if_neg (ne y0), if_pos (ye y1)])
  · exact qi_ zQ (by unfold kd_; rw [if_pos (ye y0)])))
theorem kd_rg (c : Nat) : -1 ≤ kd_ c ∧ kd_ c ≤ 3 ∧ (kd_ c = -1 ↔ ¬ (7 ≤ c ∧ c ≤ 10)) := by
  unfold kd_
  repeat (first | omega | split)
theorem c_risName (h : Ptk_ s B n k) : fn_ γ m_X12_isName 15 [.ref 185] s (.int (if decide (csg_ B n k = 3) = true then 1 else 0)) s := fn_q (fun Q zQ => e_X12_isName h.1 (by
  have w := h.1
  obtain ⟨-, -, -, -, b4, b5, b6, b7, b8, b9⟩ := kb_34
  obtain ⟨g1, g2, g3, -, -⟩ := pt_g h
  have c21 := csg_21 (B := B) (n := n) (k := k)
  have s2 := (sso_2 c21).1
  have sr := sso_rg (csg_ B n k)
  have kr := kd_rg (csg_ B n k)
  have no : csg_ B n k ≠ 3 → Q (.inl (some (.int 0))) s := fun e => by
    rw [decide_eq_false e] at zQ
    exact zQ
  have ne : ∀ {c : Nat}, (if decide (csg_ B n k = c) = true then (1 : Int32) else 0) = 0 → csg_ B n k ≠ c := fun {c} e e2 => by
    rw [decide_eq_true e2] at e
    exact absurd e (by decide)
  have ye : ∀ {c : Nat}, ¬ (if decide (csg_ B n k = c) = true then (1 : Int32) else 0) = 0 → csg_ B n k = c := fun {c} e => by
    by_cases e2 : csg_ B n k = c
    · exact e2
    · rw [decide_eq_false e2] at e
      exact absurd rfl e
  unfold p_X12_isName_0
  rw [g3, k2_, i_eq (by omega) (by omega)]
  refine ⟨fun y => ⟨_, s, w, c_kindNow h, ?_⟩, fun y => no (fun e => y (s2.mpr (by omega)))⟩
  have lw := s2.mp y
  rw [show (-1 : Int32) = i_ (-1) by decide, i_eq (by omega) (by omega)]
  refine ⟨fun yk => ⟨_, s, w, c_risText h (by decide) (by decide) b4, fun y4 => ⟨_, s, w, c_risText h (by decide) (by decide) b5, fun y5 => ⟨_, s, w, c_risText h (by decide) (by decide) b6, fun y6 => ⟨_, s, w, c_risText h (by decide) (by decide) b7, fun y7 => ⟨_, s, w, c_risText h (by decide) (by decide) b8, fun y8 => ⟨_, s, w, c_risText h (by decide) (by decide) b9, fun y9 => ?_, fun y9 => no ?_⟩, fun y8 => no ?_⟩, fun y7 => no ?_⟩, fun y6 => no ?_⟩, fun y5 => no ?_⟩, fun y4 => no ?_⟩, fun yk => no ?_⟩
  · have n4 := ne y4
    have n5 := ne y5
    have n6 := ne y6
    have n7 := ne y7
    have n8 := ne y8
    have n9 := ne y9
    have e : csg_ B n k = 3 := by
      have := kr.2.2.mp yk
      omega
    rw [decide_eq_true e] at zQ
    exact zQ
  · rw [ye y9]; decide
  · rw [ye y8]; decide
  · rw [ye y7]; decide
  · rw [ye y6]; decide
  · rw [ye y5]; decide
  · rw [ye y4]; decide
  · intro e
    rw [e] at yk
    exact yk rfl))
end TX
