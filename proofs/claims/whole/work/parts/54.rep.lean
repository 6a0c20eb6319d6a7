/-! the class's search: matches are counted, findings are reported -/
section RE
variable {γ : ga_T} {σ σ1 : st_T} {p : pr_T} {M : List (gs_T × Int64)} {t : tk_T} {C : List Int} {b e : Nat}
theorem cc_lt (S : gs_T) : cc_ p S < 4194304 := Nat.mod_lt _ (by decide)
/-- the states that fulfil a condition -/
def fm_ (p : pr_T) (C : List Int) (S : gs_T) : Bool := fi_ p S && uf_ (cc_ p S) C
theorem c_matches (zw : Wd σ) (zT : Tk_ σ (wm_ p M) t) (hE : st_L σ 153 14 = lN (en_ p (s1k_ p (pT_ p)))) (zC : Cx_ σ 132 C) (zu : ug_ b C 0 e) (ze : e ≤ 1) (zb : b ≤ 22) : fn_ γ m_X2_matches 1 [.ref 147] σ (.int (i_ (cn_ (fm_ p C) M M.length : Int))) σ := by
  have yl := ta_len zT.1
  have el : (wm_ p M).length = M.length := List.length_map _
  have z1 := c_tsize (γ := γ) zw zT.1
  rw [el] at z1 yl
  refine fn_q (fun Q zQ => e_X2_matches zw ?_)
  unfold p_X2_matches_0
  have key : ∀ k n : Nat, k + n = M.length → vv_ γ m_X2_matches 1 4 [(0, .ref 147), (1, .int (i_ (cn_ (fm_ p C) M n : Int))), (2, .int (i_ (n : Int)))] [] σ Q := by
    intro k
    induction k with
    | zero =>
      intro n zi
      have zi : n = M.length := by omega
      subst zi
      refine g_X2_matches_4 zw ?_
      unfold p_X2_matches_4
      exact ⟨_, σ, zw, z1, fun _ => zQ, fun z => absurd (Int32.le_refl _) z⟩
    | succ k ih =>
      intro n zi
      obtain ⟨q, hq⟩ : ∃ q, M[n]? = some q := ⟨_, List.getElem?_eq_getElem (by omega)⟩
      have hq2 : (wm_ p M)[n]? = some (en_ p q.1, q.2) := by
        unfold wm_
        rw [List.getElem?_map, hq]
        rfl
      have y := ih (n + 1) (by omega)
      rw [cn_s hq, show ((n + 1 : Nat) : Int) = (n : Int) + 1 by omega, ← i_add] at y
      refine g_X2_matches_4 zw ?_
      unfold p_X2_matches_4
      refine ⟨_, σ, zw, z1, ?_⟩
      simp (disch := omega) only [i_le]
      refine ⟨fun z => by omega, fun _ => ⟨_, σ, zw, c_stateAt zw zT.1 hq2, _, σ, zw, c_isFinal zw hE, ?_⟩⟩
      by_cases yf : fi_ p q.1 = true
      · rw [if_pos yf]
        refine ⟨fun z => absurd z (by decide), fun _ => ⟨_, σ, zw, c_codeOf zw, _, σ, zw, c_isFul (pg_132) zw zC zu ze zb (cc_lt _), ?_⟩⟩
        by_cases yu : uf_ (cc_ p q.1) C = true
        · rw [if_pos (by unfold fm_; rw [yf, yu]; rfl)] at y
          rw [if_pos yu]
          refine ⟨fun z => absurd z (by decide), fun _ => ?_⟩
          rw [i_lit 1, i_add]
          exact y
        · rw [if_neg (by unfold fm_; rw [yf, Bool.true_and]; exact yu)] at y
          rw [if_neg yu]
          exact ⟨fun _ => y, fun z => absurd rfl z⟩
      · rw [if_neg (by unfold fm_; rw [Bool.and_eq_true]; exact fun z => yf z.1)] at y
        rw [if_neg yf]
        exact ⟨fun _ => y, fun z => absurd rfl z⟩
  exact key M.length 0 (by omega)
/-- what is reported of a list of states -/
def rl_ (p : pr_T) (M : List (gs_T × Int64)) : List (Nat × Int64) := (M.filter (fun q => fi_ p q.1)).map (fun q => (cc_ p q.1, q.2))
theorem rl_len (n : Nat) : (rl_ p (M.take n)).length = cn_ (fi_ p) M n := by
  unfold rl_ cn_
  rw [List.length_map, List.countP_eq_length_filter]
theorem rl_s {n : Nat} {q : gs_T × Int64} (h : M[n]? = some q) : rl_ p (M.take (n + 1)) = rl_ p (M.take n) ++ (if fi_ p q.1 = true then [(cc_ p q.1, q.2)] else []) := by
  unfold rl_
  rw [List.take_add_one, h, List.filter_append, List.map_append]
  congr 1
  show List.map _ (List.filter _ [q]) = _
  rw [List.filter_cons, List.filter_nil]
  split
  · rfl
  · rfl
theorem cn_mono (f : gs_T → Bool) {n k : Nat} (h : n ≤ k) : cn_ f M n ≤ cn_ f M k := by
  unfold cn_
  exact List.Sublist.countP_le (List.take_sublist_take_left h)
theorem tk_eh {L : List (Nat × Int64)} (zT : Tk_ σ L t) (hn : st_n σ ≤ st_n σ1) (h0 : eh_ σ σ1 148) (h1 : eh_ σ σ1 t.1) (h2 : eh_ σ σ1 t.2.1) (h3 : eh_ σ σ1 t.2.2.1) : Tk_ σ1 L t := by
  obtain ⟨b0, b1, b2, n0, n2, e⟩ := t
  obtain ⟨⟨⟨r1, r2, r3⟩, ⟨r4, r5, r6⟩, ⟨r7, r8, r9, r10⟩, ⟨r11, r12⟩, r13, r20⟩, ⟨sl, q1, q2⟩, q3⟩ := zT
  refine ⟨⟨⟨by rw [h0.2.2.1]; exact r1, by rw [h0.2.2.1]; exact r2, by rw [h0.2.2.1]; exact r3⟩, ⟨h1.2.2.2.trans r4, h2.2.2.2.trans r5, h3.2.2.2.trans r6⟩, ⟨r7, ⟨r8.1, Nat.lt_of_lt_of_le r8.2 hn⟩, ⟨r9.1, Nat.lt_of_lt_of_le r9.2 hn⟩, ⟨r10.1, Nat.lt_of_lt_of_le r10.2 hn⟩⟩, ⟨by rw [h0.1]; exact r11, by rw [h0.1]; exact r12⟩, r13, fun i x z => ?_⟩, ⟨sl, fun j zj => ?_, q2⟩, q3⟩
  · have z1 := r20 i x z
    exact ⟨(h1.2.1 i).trans z1.1, (h2.2.1 i).trans z1.2.1, z1.2.2⟩
  · exact (h3.1 j).trans (q1 j zj)
/-- the rows of findings are none of the table's -/
def Dj_ (t : tk_T) (f : fk_T) : Prop := (t.1 ≠ f.1 ∧ t.2.1 ≠ f.1 ∧ t.2.2.1 ≠ f.1) ∧ (t.1 ≠ f.2.1 ∧ t.2.1 ≠ f.2.1 ∧ t.2.2.1 ≠ f.2.1)
def gf_ (σ : st_T) (a : Nat) (t : fk_T) (σ1 : st_T) (t' : fk_T) : Prop := (∀ h, h < st_n σ → h ≠ a → h ≠ t.1 → h ≠ t.2.1 → eh_ σ σ1 h) ∧
  ((t'.1 = t.1 ∨ st_n σ ≤ t'.1) ∧ (t'.2.1 = t.2.1 ∨ st_n σ ≤ t'.2.1)) ∧ t.2.2 ≤ t'.2.2 ∧ st_n σ ≤ st_n σ1 ∧
  st_c σ1 + t.2.2 ≤ st_c σ + t'.2.2 ∧ st_u σ1 + 4 * t.2.2 ≤ st_u σ + 4 * t'.2.2
theorem gf_tr {a : Nat} {σ2 : st_T} {f f1 f2 : fk_T} (h : gf_ σ a f σ1 f1) (k : gf_ σ1 a f1 σ2 f2) : gf_ σ a f σ2 f2 := by
  obtain ⟨h1, ⟨h2, h3⟩, h5, h7, h8, h9⟩ := h
  obtain ⟨k1, ⟨k2, k3⟩, k5, k7, k8, k9⟩ := k
  exact ⟨fun b z1 z2 z3 z4 => eh_tr (h1 b z1 z2 z3 z4) (k1 b (by omega) z2 (by omega) (by omega)), ⟨by omega, by omega⟩, by omega, by omega, by omega, by omega⟩
theorem gf_ff {a : Nat} {f f1 : fk_T} (h : ff_ σ a f σ1 f1) : gf_ σ a f σ1 f1 := ⟨h.1, h.2.1, h.2.2.1, h.2.2.2.1, h.2.2.2.2.1, h.2.2.2.2.2.1⟩
theorem gf_low {a : Nat} {f f1 : fk_T} (ha : is_fi a) (zF : Fr_ σ a f) (h : gf_ σ a f σ1 f1) (z220 : 220 ≤ st_n σ) {j : Nat} (q : j < 164 ∨ 178 < j) (q1 : j < 220) : eh_ σ σ1 j := by
  have ya : 164 ≤ a ∧ a < 175 := by rcases ha with rfl | rfl | rfl <;> decide
  have y1 := zF.2.2.1.1.1
  have y2 := zF.2.2.1.2.1
  exact h.1 j (by omega) (by omega) (by omega) (by omega)
theorem tk_gf {L : List (Nat × Int64)} {a : Nat} {f f1 : fk_T} (ha : is_fi a) (zF : Fr_ σ a f) (zT : Tk_ σ L t) (hd : Dj_ t f) (h : gf_ σ a f σ1 f1) (z220 : 220 ≤ st_n σ) : Tk_ σ1 L t := by
  have y := zT.1.2.2.1
  have ya : 164 ≤ a ∧ a < 175 := by rcases ha with rfl | rfl | rfl <;> decide
  have y1 := y.2.1
  have y2 := y.2.2.1
  have y3 := y.2.2.2
  obtain ⟨⟨d1, d2, d3⟩, d4, d5, d6⟩ := hd
  refine tk_eh zT h.2.2.2.1 (gf_low ha zF h z220 (Or.inl (by decide)) (by decide)) ?_ ?_ ?_
  · exact h.1 _ y1.2 (by have z := y1.1; omega) d1 d4
  · exact h.1 _ y2.2 (by have z := y2.1; omega) d2 d5
  · exact h.1 _ y3.2 (by have z := y3.1; omega) d3 d6
theorem c_report {a : Nat} {f : fk_T} (ha : is_fi a) (zw : Wd σ) (zT : Tk_ σ (wm_ p M) t) (hE : st_L σ 153 14 = lN (en_ p (s1k_ p (pT_ p)))) (zF : Fr_ σ a f) (hd : Dj_ t f) (hM : M.length ≤ 65536) : ∃ σ1 f1 S, fw_ γ m_X2_report 2 [.ref 147, .ref a] σ σ1 ∧ Wd σ1 ∧ Fl_ σ1 a f1 S ∧ List.Perm S (rl_ p M) ∧ Sp_ S S.length ∧ gf_ σ a f σ1 f1 ∧ st_I σ1 a 3 = i_ (M.length : Int) ∧ st_I σ1 a 4 = i_ 1 := by
  have z220 := zw.2.2
  have key : sp_ γ m_X2_report 2 [.ref 147, .ref a] σ (fun rr s => rr = .inl none ∧ ∃ f1 S, Wd s ∧ Fl_ s a f1 S ∧ List.Perm S (rl_ p M) ∧ Sp_ S S.length ∧ gf_ σ a f s f1 ∧ st_I s a 3 = i_ (M.length : Int) ∧ st_I s a 4 = i_ 1) := by
    refine e_X2_report zw ?_
    unfold p_X2_report_0
    have yl := ta_len zT.1
    have el : (wm_ p M).length = M.length := List.length_map _
    have z1 := c_tsize (γ := γ) zw zT.1
    rw [el] at z1 yl
    have hc : cn_ (fi_ p) M M.length ≤ 65536 := Nat.le_trans (cn_le _ _) hM
    obtain ⟨s1, f1, k1, k2, k3, k4, k5, k6, k7, k8, k9, k10, k11, k12⟩ := c_begin (γ := γ) ha zw zF hc (i_ (M.length : Int))
    refine ⟨_, σ, zw, c_outcomes zw zT hE, _, σ, zw, z1, ha, s1, k2, k1, ?_⟩
    have g1 : gf_ σ a f s1 f1 := ⟨fun h z1 z2 _ _ => k5 h z1 z2, k6, k7, k8, k9, k10⟩
    have hl : ∀ (k n : Nat) (s : st_T), k + n = M.length → Wd s → Fl_ s a f1 (rl_ p (M.take n)) → gf_ σ a f s f1 → st_I s a 3 = i_ (M.length : Int) → st_I s a 4 = i_ 1 →
        vv_ γ m_X2_report 2 17 [(0, .ref 147), (1, .ref a), (2, .int (i_ (n : Int)))] [] s (fun rr s => rr = .inl none ∧ ∃ f1 S, Wd s ∧ Fl_ s a f1 S ∧ List.Perm S (rl_ p M) ∧ Sp_ S S.length ∧ gf_ σ a f s f1 ∧ st_I s a 3 = i_ (M.length : Int) ∧ st_I s a 4 = i_ 1) := by
      intro k
      induction k with
      | zero =>
        intro n s zi zs zf zg a3 a4
        have zi : n = M.length := by omega
        subst zi
        have zT2 := tk_gf ha zF zT hd zg z220
        have z2 := c_tsize (γ := γ) zs zT2.1
        rw [el] at z2
        obtain ⟨s2, S, b1, b2, b3, b4, b5, b6⟩ := c_sort (γ := γ) ha zs zf
        rw [List.take_length] at b4 b5
        refine g_X2_report_17 zs ?_
        unfold p_X2_report_17
        refine ⟨_, s, zs, z2, fun _ => ⟨ha, s2, b2, b1, rfl, f1, S, b2, b3, b4, by rw [b4.length_eq]; exact b5, gf_tr zg (gf_ff b6), ?_, ?_⟩, fun z => absurd (Int32.le_refl _) z⟩
        · rw [b6.2.2.2.2.2.2 3 (by decide)]
          exact a3
        · rw [b6.2.2.2.2.2.2 4 (by decide)]
          exact a4
      | succ k ih =>
        intro n s zi zs zf zg a3 a4
        have zT2 := tk_gf ha zF zT hd zg z220
        have z2 := c_tsize (γ := γ) zs zT2.1
        rw [el] at z2
        have hE2 : st_L s 153 14 = lN (en_ p (s1k_ p (pT_ p))) := by
          rw [(gf_low ha zF zg z220 (j := 153) (Or.inl (by decide)) (by decide)).2.1]
          exact hE
        obtain ⟨q, hq⟩ : ∃ q, M[n]? = some q := ⟨_, List.getElem?_eq_getElem (by omega)⟩
        have hq2 : (wm_ p M)[n]? = some (en_ p q.1, q.2) := by
          unfold wm_
          rw [List.getElem?_map, hq]
          rfl
        have y := ih (n + 1)
        rw [rl_s hq, show ((n + 1 : Nat) : Int) = (n : Int) + 1 by omega, ← i_add] at y
        refine g_X2_report_17 zs ?_
        unfold p_X2_report_17
        refine ⟨_, s, zs, z2, ?_⟩
        simp (disch := omega) only [i_le]
        refine ⟨fun z => by omega, fun _ => ⟨_, s, zs, c_stateAt zs zT2.1 hq2, _, s, zs, c_isFinal zs hE2, ?_⟩⟩
        by_cases yf : fi_ p q.1 = true
        · rw [if_pos yf] at y ⊢
          have yc : cn_ (fi_ p) M (n + 1) ≤ cn_ (fi_ p) M M.length := cn_mono _ (by omega)
          rw [cn_s hq, if_pos yf] at yc
          obtain ⟨s3, e1, e2, e3, e4⟩ := c_fadd (γ := γ) ha zs zf (by rw [rl_len]; omega) (cc_lt (p := p) q.1) q.2
          refine ⟨fun z => absurd z (by decide), fun _ => ⟨_, s, zs, c_codeOf zs, _, s, zs, c_waysAt zs zT2.1 hq2, ha, s3, e2, e1, ?_⟩⟩
          refine y s3 (by omega) e2 e3 (gf_tr zg (gf_ff e4)) ?_ ?_
          · rw [e4.2.2.2.2.2.2 3 (by decide)]
            exact a3
          · rw [e4.2.2.2.2.2.2 4 (by decide)]
            exact a4
        · rw [if_neg yf, List.append_nil] at y
          rw [if_neg yf]
          exact ⟨fun _ => y s (by omega) zs zf zg a3 a4, fun z => absurd rfl z⟩
    exact hl M.length 0 s1 (by omega) k2 k3 g1 k11 k12
  obtain ⟨σ1, y1, f1, S, y2⟩ := fw_of key
  exact ⟨σ1, f1, S, y1, y2⟩
end RE
