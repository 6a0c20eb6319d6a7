/-! the reference reads: names, numbers, ends -/
section PS
variable {γ : ga_T} {σ σ1 s : st_T} {B : Nat → Int} {n k i : Nat} {z : Int} {P : pq_T} {S : qs_T}
def dV_ (a k : Nat) : Prop := a = 188 ∨ a = 192 ∨ a = 193 ∨ a = 195 ∨ (a = 185 ∧ ((12 ≤ k ∧ k ≤ 17) ∨ k = 21 ∨ k = 22))
theorem dF_V {a k : Nat} (h : dF_ a k) : dV_ a k := by
  unfold dF_ at h
  unfold dV_
  omega
/-- the draft -/
def Dft_ (s : st_T) (P : pq_T) (u : Nat) : Prop := Bp_ P.1 ∧ Nv_ P ∧ Nrow_ s 188 0 P.1 ∧ (∀ l, l < pL_ P.1 → st_I s 193 l = i_ ((P.2.1 l).length : Int) ∧ ∀ k x, (P.2.1 l)[k]? = some x → st_I s 192 (8 * l + k) = i_ x) ∧
  (P.2.2.length ≤ 2 * u ∧ u ≤ 16) ∧ st_I s 185 21 = i_ (P.2.2.length : Int) ∧ (∀ k x, P.2.2[k]? = some x → st_I s 195 k = i_ (tru_ (2 * pT_ P.1 + pL_ P.1) x)) ∧ st_I s 185 22 = i_ (u : Int)
theorem dft_F (r : ro_ dF_ σ s) {u : Nat} (h : Dft_ σ P u) : Dft_ s P u := by
  obtain ⟨a, b, c, d, e, f, g, i⟩ := h
  have o : ∀ a k, ¬ dF_ a k → st_I s a k = st_I σ a k := fun a k z => (r.2 a k z).1
  have n : ∀ a k, a = 188 ∨ a = 192 ∨ a = 193 ∨ a = 195 ∨ (a = 185 ∧ 21 ≤ k) → ¬ dF_ a k := fun a k z y => by
    unfold dF_ at y
    omega
  exact ⟨a, b, nrow_cg (fun k => o _ _ (n _ _ (by omega))) c, fun l zl => ⟨(o _ _ (n _ _ (by omega))).trans (d l zl).1, fun k x hx => (o _ _ (n _ _ (by omega))).trans ((d l zl).2 k x hx)⟩, e, (o _ _ (n _ _ (by omega))).trans f, fun k x hx => (o _ _ (n _ _ (by omega))).trans (g k x hx), (o _ _ (n _ _ (by omega))).trans i⟩
def Rpc_ (s : st_T) (B : Nat → Int) (n : Nat) (S : qs_T) : Prop := Ptk_ s B n S.1 ∧ Dft_ s S.2.1 S.2.2
def Erx_ (s : st_T) (e : Nat) : Prop := ∃ a d : Nat, e = 8 * a + d ∧ a ≤ 600 ∧ d ≤ 7 ∧ st_I s 185 17 = i_ (a : Int) ∧ st_I s 185 16 = i_ (d : Int)
/-- what a reader leaves -/
def Rpo_ (σ : st_T) (B : Nat → Int) (n : Nat) (r : qs_T ⊕ Nat) (v : Value) (s : st_T) : Prop := Wd s ∧ ro_ dV_ σ s ∧ ((v = .int 1 ∧ ∃ S, r = .inl S ∧ Rpc_ s B n S) ∨ (v = .int 0 ∧ ∃ e, r = .inr e ∧ Erx_ s e))
theorem rpo_tr {r : qs_T ⊕ Nat} {v : Value} (r1 : ro_ dV_ σ σ1) (h : Rpo_ σ1 B n r v s) : Rpo_ σ B n r v s := ⟨h.1, ro_tr r1 h.2.1, h.2.2⟩
theorem c_rbad (h : Ptk_ s B n k) {e : Nat} (he : e ≤ 5) (h1 : e = 1 ∨ csg_ B n k ≠ 1) (r : qs_T ⊕ Nat) (hr : r = .inr (er_ B n k e)) : ∃ s1, fn_ γ m_X12_bad 0 [.ref 185, .int (i_ (e : Int))] s (.int 0) s1 ∧ Rpo_ s B n r (.int 0) s1 := by
  obtain ⟨g1, g2, g3, -, -⟩ := pt_g h
  have c21 := csg_21 (B := B) (n := n) (k := k)
  have s1 := (sso_2 c21).2.2.2.2.1
  have sr := sso_rg (csg_ B n k)
  have te := te_le (B := B) (n := n) (k := k)
  have h6 := h.2.1.1
  have d16 : dV_ 185 16 := Or.inr (Or.inr (Or.inr (Or.inr ⟨rfl, Or.inl (by decide)⟩)))
  have d17 : dV_ 185 17 := Or.inr (Or.inr (Or.inr (Or.inr ⟨rfl, Or.inl (by decide)⟩)))
  have key : fn_ γ m_X12_bad 0 [.ref 185, .int (i_ (e : Int))] s (.int 0) (pt_I (pt_I s 185 16 (i_ (e : Int))) 185 17 (i_ (tq_ B n k : Int))) := fn_q (fun Q zQ => e_X12_bad h.1 (by
    unfold p_X12_bad_0
    rw [g2, g3]
    refine ⟨fun y => ?_, fun _ => zQ⟩
    rw [k1_, i_eq (by omega) (by omega)] at y
    rcases h1 with e1 | e1
    · rw [e1] at zQ
      exact zQ
    · exact absurd (s1.mp y) e1))
  exact ⟨_, key, h.1, ro_I (ro_I ro_rf d16) d17, Or.inr ⟨rfl, _, hr, tq_ B n k, e, rfl, by omega, by omega, st_sI _ _ _ _, by rw [st_pI, if_neg (by omega), st_sI]⟩⟩
/-- a sign of one byte -/
theorem tok_sym (h : 15 ≤ csg_ B n k) : tq_ B n k < n ∧ kb_ (sg_tx.getD (csg_ B n k) 0) = [i_ (B (tq_ B n k))] := by
  have hn := csg_n (B := B) (n := n) (k := k) (by omega)
  have ec : csg_ B n k = tsg_ B n (tq_ B n k) := if_pos hn
  have tr := tst_rg (B := B) hn
  refine ⟨hn, ?_⟩
  rw [ec] at h ⊢
  cases el : isl_ (B (tq_ B n k)) with
  | true =>
    exfalso
    unfold tsg_ at h
    rw [if_pos el] at h
    have kl := kwi_lt (m := tst_ B n (tq_ B n k) - tq_ B n k) (by omega) el
    unfold wsg_ at h
    split at h
    · omega
    · split at h
      · omega
      · omega
  | false =>
    cases ed : isd_ (B (tq_ B n k)) with
    | true =>
      exfalso
      unfold tsg_ at h
      rw [if_neg (by rw [el]; decide), if_pos ed] at h
      split at h <;> omega
    | false =>
      have eg : tsg_ B n (tq_ B n k) = kwi_ [i_ (B (tq_ B n k))] 1 21 0 := by
        unfold tsg_
        rw [if_neg (by rw [el]; decide), if_neg (by rw [ed]; decide)]
        rfl
      rw [eg] at h ⊢
      rcases kwi_sp [i_ (B (tq_ B n k))] 1 21 0 with y | ⟨-, -, y3⟩
      · omega
      · exact y3
theorem c_risSym (h : Ptk_ s B n k) {c : Nat} {x : Int} (hc : 15 ≤ c ∧ c ≤ 20) (hx : 0 ≤ x ∧ x < 128) (hk : kb_ (sg_tx.getD c 0) = [i_ x]) : fn_ γ m_X12_isSymbol 1 [.ref 185, .int (i_ x)] s (.int (if decide (csg_ B n k = c) = true then 1 else 0)) s := fn_q (fun Q zQ => e_X12_isSymbol h.1 (by
  have w := h.1
  obtain ⟨g1, g2, g3, -, -⟩ := pt_g h
  have c21 := csg_21 (B := B) (n := n) (k := k)
  have s5 := (sso_2 c21).2.2.2.1
  have sr := sso_rg (csg_ B n k)
  have te := te_le (B := B) (n := n) (k := k)
  unfold p_X12_isSymbol_0
  rw [g2, g3, show (5 : Int32) = i_ 5 by decide, i_eq (by omega) (by omega)]
  refine ⟨fun y => ?_, fun y => ?_⟩
  · obtain ⟨t1, t2⟩ := tok_sym (s5.mp y)
    have by1 := c_rbyteAt (γ := γ) (i := tq_ B n k) w h.2.1 (by omega)
    have bq := (h.2.1.2.2 _ t1).2
    rw [if_pos t1] at by1
    refine ⟨_, s, w, by1, ?_⟩
    rw [i_eq (by omega) (by omega)]
    refine ⟨fun e => ?_, fun e => ?_⟩
    · have e2 : csg_ B n k = c := by
        have e3 : kb_ (sg_tx.getD c 0) = kb_ (sg_tx.getD (csg_ B n k) 0) := by
          rw [hk, t2, show B (tq_ B n k) = x by omega]
        exact (congrArg Fin.val (sgn_inj ⟨c, by omega⟩ ⟨csg_ B n k, by omega⟩ (show 5 ≤ c by omega) e3)).symm
      rw [decide_eq_true e2] at zQ
      exact zQ
    · have e2 : csg_ B n k ≠ c := fun e3 => e (by
        rw [e3, hk] at t2
        have y2 := (List.cons.inj t2).1
        rw [i_eq (by omega) (by omega)] at y2
        omega)
      rw [decide_eq_false e2] at zQ
      exact zQ
  · have e2 : csg_ B n k ≠ c := fun e3 => y (s5.mpr (by omega))
    rw [decide_eq_false e2] at zQ
    exact zQ))
/-- a sign is asked for -/
theorem c_rends (h : Rpc_ σ B n S) : ∃ v s, fn_ γ m_X12_ends 3 [.ref 185] σ v s ∧ Rpo_ σ B n (xp_ B n 15 S) v s := by
  have y := c_risSym (γ := γ) h.1 (c := 15) (x := 59) (by decide) (by decide) sg_sym.1
  have key : sp_ γ m_X12_ends 3 [.ref 185] σ (fun r s => ∃ v, r = .inl (some v) ∧ Rpo_ σ B n (xp_ B n 15 S) v s) := by
    refine e_X12_ends h.1.1 ?_
    unfold p_X12_ends_0
    refine ⟨_, σ, h.1.1, y, ?_⟩
    by_cases c : csg_ B n S.1 = 15
    · rw [decide_eq_true c]
      obtain ⟨s, f1, f2, f3, f4⟩ := c_rgo2 (γ := γ) h.1 (by rw [c]; decide)
      refine ⟨fun y => absurd y (by decide), fun _ => ⟨s, f2, f1, _, rfl, f2, ro_up f3 (fun a k => dF_V), Or.inl ⟨rfl, (S.1 + 1, S.2), ?_, f4, dft_F f3 h.2⟩⟩⟩
      unfold xp_
      rw [if_pos c]
    · rw [decide_eq_false c]
      obtain ⟨s, f1, f2⟩ := c_rbad (γ := γ) h.1 (e := 1) (by decide) (Or.inl rfl) (xp_ B n 15 S) (by unfold xp_; rw [if_neg c])
      exact ⟨fun _ => ⟨_, s, f2.1, f1, Or.inl rfl, _, rfl, f2⟩, fun y => absurd rfl y⟩
  exact fn_of key
/-- a name among the draft's -/
theorem c_rnamed (zw : Wd s) (h : Bf_ s B n) {u : Nat} (d : Nv_ P ∧ pL_ P.1 ≤ 3 ∧ st_I s 188 2 = i_ (pL_ P.1 : Int) ∧ (∀ l, l < pL_ P.1 → st_I s 193 l = i_ ((P.2.1 l).length : Int) ∧ ∀ k x, (P.2.1 l)[k]? = some x → st_I s 192 (8 * l + k) = i_ x)) {q : Nat} (hq : q + u ≤ n) :
    fn_ γ m_X12_named 0 [.ref 185, .int (i_ (q : Int)), .int (i_ (u : Int))] s (.int (i_ (lnm_ P ((List.range u).map (fun j => B (q + j)))))) s := fn_q (fun Q zQ => e_X12_named zw (by
  obtain ⟨nv, l3, e2, d4⟩ := d
  have h6 := h.1
  obtain ⟨T, hT⟩ : ∃ T, T = (List.range u).map (fun j => B (q + j)) := ⟨_, rfl⟩
  rw [← hT] at zQ
  have lT : T.length = u := by rw [hT, List.length_map, List.length_range]
  have aT : ∀ j, j < u → T[j]? = some (B (q + j)) := fun j hj => by
    rw [hT, List.getElem?_map, List.getElem?_range hj]
    rfl
  unfold p_X12_named_0
  have key : ∀ (d l : Nat), d + l = pL_ P.1 → lnm_ P T = pl_ (fun i => decide (P.2.1 i = T)) 0 d l → vv_ γ m_X12_named 0 2 [(0, .ref 185), (1, .int (i_ (q : Int))), (2, .int (i_ (u : Int))), (3, .int (i_ (l : Int)))] [] s Q := by
    intro d
    induction d with
    | zero =>
      intro l hl hn
      refine g_X12_named_2 zw ?_
      unfold p_X12_named_2
      rw [e2, show l = pL_ P.1 by omega]
      rw [hn] at zQ
      exact ⟨fun _ => zQ, fun y => absurd (Int32.le_refl _) y⟩
    | succ d ih =>
      intro l hl hn
      obtain ⟨d41, d42⟩ := d4 l (by omega)
      obtain ⟨n8, n1, nc⟩ := nv l (by omega)
      rw [pl_] at hn
      have yes : P.2.1 l = T → Q (.inl (some (.int (i_ (l : Int))))) s := fun e => by
        rw [if_pos (decide_eq_true e), if_pos rfl] at hn
        rw [hn] at zQ
        exact zQ
      have no : P.2.1 l ≠ T → vv_ γ m_X12_named 0 2 [(0, .ref 185), (1, .int (i_ (q : Int))), (2, .int (i_ (u : Int))), (3, .int (i_ ((l : Int) + 1)))] [] s Q := fun e => by
        rw [if_neg (by rw [decide_eq_true_eq]; exact e)] at hn
        exact ih (l + 1) (by omega) hn
      have inner0 : ∀ j : Nat, P.2.1 l ≠ T → vv_ γ m_X12_named 0 32 [(0, .ref 185), (1, .int (i_ (q : Int))), (2, .int (i_ (u : Int))), (3, .int (i_ (l : Int))), (4, .int (0 : Int32)), (5, .int (i_ (j : Int)))] [] s Q := fun j e => by
        refine g_X12_named_32 zw ?_
        unfold p_X12_named_32
        rw [k1_, i_add]
        exact ⟨fun _ => ⟨fun _ => no e, fun y => absurd rfl y⟩, fun _ => ⟨fun _ => ⟨fun _ => no e, fun y => absurd rfl y⟩, fun y => absurd rfl y⟩⟩
      refine g_X12_named_2 zw ?_
      unfold p_X12_named_2
      rw [e2, i_le (by omega) (by omega), i_cl (by omega), Int.toNat_natCast, d41, i_eq (by omega) (by omega)]
      refine ⟨fun y => by omega, fun _ => ⟨i_in (by omega) (by omega) (by omega), fun e => ?_, fun e => inner0 0 (fun e3 => e (by rw [e3, lT]))⟩⟩
      have e : (P.2.1 l).length = u := by omega
      have inner : ∀ (b j : Nat), b + j = u → (∀ v, v < j → (P.2.1 l)[v]? = T[v]?) → vv_ γ m_X12_named 0 32 [(0, .ref 185), (1, .int (i_ (q : Int))), (2, .int (i_ (u : Int))), (3, .int (i_ (l : Int))), (4, .int (1 : Int32)), (5, .int (i_ (j : Int)))] [] s Q := by
        intro b
        induction b with
        | zero =>
          intro j hj hv
          refine g_X12_named_32 zw ?_
          unfold p_X12_named_32
          rw [i_le (by omega) (by omega)]
          refine ⟨fun _ => ⟨fun y => absurd y (by decide), fun _ => yes (List.ext_getElem? (fun v => ?_))⟩, fun y => by omega⟩
          by_cases c : v < j
          · exact hv v c
          · rw [List.getElem?_eq_none (by omega), List.getElem?_eq_none (by omega)]
        | succ b ihb =>
          intro j hj hv
          obtain ⟨x, hx⟩ : ∃ x, (P.2.1 l)[j]? = some x := ⟨_, List.getElem?_eq_getElem (by omega)⟩
          have cx := nc x (List.mem_of_getElem? hx)
          have bq := (h.2.2 (q + j) (by omega)).2
          have aj := aT j (by omega)
          refine g_X12_named_32 zw ?_
          unfold p_X12_named_32
          rw [i_le (by omega) (by omega), k8_, k1_, i_mul, i_add, i_add, i_add, i_add]
          refine ⟨fun y => by omega, fun _ => ⟨fun y => absurd y (by decide), fun _ => ⟨i_in (by omega) (by omega) (by omega), i_in (by omega) (by omega) (by omega), ?_⟩⟩⟩
          rw [i_cl (by omega), i_cl (by omega), show ((8 : Int) * (l : Int) + (j : Int)).toNat = 8 * l + j by omega, show ((q : Int) + (j : Int)).toNat = q + j by omega, d42 j x hx, (h.2.2 (q + j) (by omega)).1, i_eq (by omega) (by omega)]
          refine ⟨fun y => ihb (j + 1) (by omega) (fun v hv2 => ?_), fun y => inner0 (j + 1) (fun e3 => y ?_)⟩
          · by_cases c : v = j
            · rw [c, hx, aj, show B (q + j) = x by omega]
            · exact hv v (by omega)
          · rw [e3, aj] at hx
            have := Option.some.inj hx
            omega
      exact inner u 0 rfl (fun v hv => by omega)
  exact key (pL_ P.1) 0 (Nat.add_zero _) rfl))
end PS
