/-! the reference reads: instructions, threads -/
section IN
variable {γ : ga_T} {σ σ1 s : st_T} {B : Nat → Int} {n k i t : Nat} {z : Int} {P : pq_T} {S : qs_T} {p : pr_T}
def cti_ (p : pr_T) (t : Int) (f : Bool) : Nat := ct_ (fun i => (decide (t = -1) || decide (pC_ p i 0 = t)) && (!f || decide (pC_ p i 1 ≠ 3))) (pN_ p)
theorem c_rinsOf (zw : Wd s) (hB : Bp_ p) (hR : Nrow_ s 188 0 p) {t : Int} (ht : -1 ≤ t ∧ t < 4) (f : Bool) : fn_ γ m_X12_instructionsOf 1 [.ref 185, .int (i_ t), .int (if f = true then 1 else 0)] s (.int (i_ (cti_ p t f : Int))) s := fn_q (fun Q zQ => e_X12_instructionsOf zw (by
  have bN := hB.1
  have bc := hB.2.2.2.2
  unfold p_X12_instructionsOf_0
  have key : ∀ (d j : Nat), d + j = pN_ p → vv_ γ m_X12_instructionsOf 1 5 [(0, .ref 185), (1, .int (i_ t)), (2, .int (if f = true then (1 : Int32) else 0)), (3, .int (i_ (ct_ (fun i => (decide (t = -1) || decide (pC_ p i 0 = t)) && (!f || decide (pC_ p i 1 ≠ 3))) j : Int))), (4, .int (i_ (j : Int)))] [] s Q := by
    intro d
    induction d with
    | zero =>
      intro j hj
      refine g_X12_instructionsOf_5 zw ?_
      unfold p_X12_instructionsOf_5
      rw [hR.1, show j = pN_ p by omega]
      exact ⟨fun _ => zQ, fun y => absurd (Int32.le_refl _) y⟩
    | succ d ih =>
      intro j hj
      have y := ih (j + 1) (by omega)
      rw [ct_s] at y
      have cl := ct_le (fun i => (decide (t = -1) || decide (pC_ p i 0 = t)) && (!f || decide (pC_ p i 1 ≠ 3))) j
      have c0 := bc j 0
      have c1 := bc j 1
      have yes : (decide (t = -1) || decide (pC_ p j 0 = t)) = true → (f = true → pC_ p j 1 ≠ 3) → vv_ γ m_X12_instructionsOf 1 5 [(0, .ref 185), (1, .int (i_ t)), (2, .int (if f = true then (1 : Int32) else 0)), (3, .int (i_ ((ct_ (fun i => (decide (t = -1) || decide (pC_ p i 0 = t)) && (!f || decide (pC_ p i 1 ≠ 3))) j : Int) + 1))), (4, .int (i_ ((j : Int) + 1)))] [] s Q := fun h1 h2 => by
        have e : ((decide (t = -1) || decide (pC_ p j 0 = t)) && (!f || decide (pC_ p j 1 ≠ 3))) = true := by
          rw [h1, Bool.true_and]
          cases f with
          | false => rfl
          | true => exact decide_eq_true (h2 rfl)
        rw [e, show (if true = true then 1 else 0) = 1 from rfl] at y
        exact y
      have no : ((decide (t = -1) || decide (pC_ p j 0 = t)) = false ∨ (f = true ∧ pC_ p j 1 = 3)) → vv_ γ m_X12_instructionsOf 1 5 [(0, .ref 185), (1, .int (i_ t)), (2, .int (if f = true then (1 : Int32) else 0)), (3, .int (i_ ((ct_ (fun i => (decide (t = -1) || decide (pC_ p i 0 = t)) && (!f || decide (pC_ p i 1 ≠ 3))) j : Int) + 0))), (4, .int (i_ ((j : Int) + 1)))] [] s Q := fun h => by
        have e : ((decide (t = -1) || decide (pC_ p j 0 = t)) && (!f || decide (pC_ p j 1 ≠ 3))) = false := by
          rcases h with h | ⟨h1, h2⟩
          · rw [h, Bool.false_and]
          · rw [h1, h2]
            show (_ && (false || decide ((3 : Int) ≠ 3))) = false
            rw [show (false || decide ((3 : Int) ≠ 3)) = false by decide, Bool.and_false]
        rw [e, show (if false = true then 1 else 0) = 0 from rfl] at y
        rw [Int.add_zero]
        exact y
      refine g_X12_instructionsOf_5 zw ?_
      unfold p_X12_instructionsOf_5
      rw [hR.1, i_le (by omega) (by omega), show (-1 : Int32) = i_ (-1) by decide, i_eq (by omega) (by omega), k1_, k0_, i_add, i_add, i_add]
      refine ⟨fun y => by omega, fun _ => ⟨fun e1 => ?_, fun e1 => ⟨_, s, zw, c_rat8 (k := 0) zw bN hR (by omega) (by decide), ?_⟩⟩⟩
      · have d1 : (decide (t = -1) || decide (pC_ p j 0 = t)) = true := by rw [decide_eq_true e1, Bool.true_or]
        cases f with
        | false => exact ⟨fun _ => yes d1 (fun z => by cases z), fun y => absurd rfl y⟩
        | true =>
          refine ⟨fun y => absurd y (by decide), fun _ => ⟨_, s, zw, c_rat8 (k := 1) zw bN hR (by omega) (by decide), ?_⟩⟩
          rw [k3_, i_eq (by omega) (by omega)]
          exact ⟨fun e => no (Or.inr ⟨rfl, e⟩), fun e => yes d1 (fun _ => e)⟩
      · rw [i_eq (by omega) (by omega)]
        refine ⟨fun e2 => ?_, fun e2 => no (Or.inl (by rw [decide_eq_false e1, decide_eq_false e2]; rfl))⟩
        have d1 : (decide (t = -1) || decide (pC_ p j 0 = t)) = true := by rw [decide_eq_true e2, Bool.or_true]
        cases f with
        | false => exact ⟨fun _ => yes d1 (fun z => by cases z), fun y => absurd rfl y⟩
        | true =>
          refine ⟨fun y => absurd y (by decide), fun _ => ⟨_, s, zw, c_rat8 (k := 1) zw bN hR (by omega) (by decide), ?_⟩⟩
          rw [k3_, i_eq (by omega) (by omega)]
          exact ⟨fun e => no (Or.inr ⟨rfl, e⟩), fun e => yes d1 (fun _ => e)⟩
  exact key (pN_ p) 0 rfl))
theorem ct_all (n : Nat) : ct_ (fun _ => true) n = n := by
  induction n with
  | zero => rfl
  | succ n ih =>
    rw [ct_s, ih]
    rfl
theorem full_c (zP : Wp_ p) {kd : Int} (ht : t < 4) : (full_ p t kd = true ↔ (cti_ p t false = 7 ∨ cti_ p (-1) false = 10 ∨ (kd ≠ 3 ∧ (cti_ p t true = 4 ∨ cti_ p (-1) true = 8)))) ∧ cti_ p t false ≤ 7 ∧ cti_ p (-1) false ≤ 10 ∧ cti_ p t true ≤ 4 ∧ cti_ p (-1) true ≤ 8 := by
  obtain ⟨zB, z2, z3, z4, z5, z6, z7, z8⟩ := zP
  have e1 : cti_ p t false = ct_ (fun i => decide (pC_ p i 0 = (t : Int))) (pN_ p) := ct_cg (fun j hj => by
    rw [decide_eq_false (show ¬ (t : Int) = -1 by omega), Bool.false_or]
    show (_ && (true || _)) = _
    rw [Bool.true_or, Bool.and_true])
  have e2 : cti_ p (-1) false = pN_ p := by
    refine Eq.trans (ct_cg (fun j hj => ?_)) (ct_all (pN_ p))
    rfl
  have e3 : cti_ p t true = ct_ (fun i => decide (pC_ p i 0 = (t : Int) ∧ pC_ p i 1 ≠ 3)) (pN_ p) := ct_cg (fun j hj => by
    rw [decide_eq_false (show ¬ (t : Int) = -1 by omega), Bool.false_or]
    show (_ && (false || _)) = _
    rw [Bool.false_or, Bool.decide_and])
  have e4 : cti_ p (-1) true = ct_ (fun i => decide (pC_ p i 1 ≠ 3)) (pN_ p) := ct_cg (fun j hj => rfl)
  have f1 : ct_ (fun i => decide (pp_ p i 0 = (t : Nat))) (pN_ p) = ct_ (fun i => decide (pC_ p i 0 = (t : Int))) (pN_ p) := ct_cg (fun j hj => by rw [ppi0 hj])
  have f2 : ct_ (fun i => decide (pp_ p i 0 = (t : Nat) ∧ pp_ p i 1 ≠ 3)) (pN_ p) = ct_ (fun i => decide (pC_ p i 0 = (t : Int) ∧ pC_ p i 1 ≠ 3)) (pN_ p) := ct_cg (fun j hj => by rw [ppi0 hj, ppi1 hj])
  have f3 : acs_ p (pT_ p) = ct_ (fun i => decide (pC_ p i 1 ≠ 3)) (pN_ p) := by
    rw [acs_ct ⟨zB, z2, z3, z4, z5, z6, z7, z8⟩ (pT_ p)]
    refine ct_cg (fun j hj => decide_eq_decide.mpr ⟨fun h => h.2, fun h => ⟨(z2 j hj).2.1, h⟩⟩)
  have b1 := z6 (t : Int)
  have b2 := z7 (t : Int)
  have b0 := zB.1
  refine ⟨?_, by omega, by omega, by omega, by omega⟩
  unfold full_
  rw [decide_eq_true_eq, f1, f2, f3, ← e1, ← e3, ← e4, e2]
  rw [← e1] at b1
  rw [← e3] at b2
  rw [← e4] at z8
  constructor
  · rintro (h | h | ⟨h1, h2⟩)
    · exact Or.inl (by omega)
    · exact Or.inr (Or.inl (by omega))
    · exact Or.inr (Or.inr ⟨h1, by omega⟩)
  · rintro (h | h | ⟨h1, h2⟩)
    · exact Or.inl (by omega)
    · exact Or.inr (Or.inl (by omega))
    · exact Or.inr (Or.inr ⟨h1, by omega⟩)
theorem bp_pai (h : Bp_ P.1) (hN : pN_ P.1 < 10) {k l g c x : Int} (hT : 0 < pT_ P.1) (hk : -1 ≤ k ∧ k ≤ 3) (hl : -1 ≤ l ∧ l ≤ 3) (hg : -1 ≤ g ∧ g ≤ 3) (hc : -1 ≤ c ∧ c ≤ 3) (hx : -1 ≤ x ∧ x ≤ 3) : Bp_ (pai_ P k l g c x).1 := ⟨hN, h.2.1, h.2.2.1, h.2.2.2.1, fun i j => by
  have h4 := h.2.1
  show -1 ≤ upd_ (pC_ P.1) (pN_ P.1) (rw6_ ((pT_ P.1 : Int) - 1) k l g c x) i j ∧ upd_ (pC_ P.1) (pN_ P.1) (rw6_ ((pT_ P.1 : Int) - 1) k l g c x) i j ≤ 3
  unfold upd_
  by_cases e : i = pN_ P.1
  · rw [if_pos e]
    unfold rw6_
    repeat (first | omega | split)
  · rw [if_neg e]
    exact h.2.2.2.2 i j⟩
/-- what is written into the draft while an instruction is read -/
def dI_ (b a k : Nat) : Prop := dF_ a k ∨ (a = 188 ∧ (k = 0 ∨ (b ≤ k ∧ k < b + 6)))
theorem dI_V {b a k : Nat} (h : dI_ b a k) : dV_ a k := by
  unfold dI_ dF_ at h
  unfold dV_
  omega
/-- an instruction's end -/
theorem fin_i (h : Rpc_ σ B n S) (h0 : S.2.1.2.2 = []) (hN : pN_ S.2.1.1 < 10) (hT : 0 < pT_ S.2.1.1) {k' : Nat} {kd l g c x : Int} (hk : -1 ≤ kd ∧ kd ≤ 3) (hl : -1 ≤ l ∧ l ≤ 3) (hg : -1 ≤ g ∧ g ≤ 3) (hc : -1 ≤ c ∧ c ≤ 3) (hx : -1 ≤ x ∧ x ≤ 3)
    (p : Ptk_ s B n k') (r : ro_ (dI_ (6 + 6 * pN_ S.2.1.1)) σ s) (e0 : st_I s 188 0 = i_ ((pN_ S.2.1.1 + 1 : Nat) : Int)) (c0 : st_I s 188 (6 + 6 * pN_ S.2.1.1 + 0) = i_ ((pT_ S.2.1.1 : Int) - 1)) (c1 : st_I s 188 (6 + 6 * pN_ S.2.1.1 + 1) = i_ kd) (c2 : st_I s 188 (6 + 6 * pN_ S.2.1.1 + 2) = i_ l) (c3 : st_I s 188 (6 + 6 * pN_ S.2.1.1 + 3) = i_ g) (c4 : st_I s 188 (6 + 6 * pN_ S.2.1.1 + 4) = i_ c) (c5 : st_I s 188 (6 + 6 * pN_ S.2.1.1 + 5) = i_ x) :
    ∃ v s', fn_ γ m_X12_ends 3 [.ref 185] s (.int v) s' ∧ (v = 0 ∨ v = 1) ∧ Wd s' ∧ Rpo_ σ B n (match xp_ B n 15 (k', S.2) with | .inr e => .inr e | .inl S5 => .inl (S5.1, pai_ S5.2.1 kd l g c x, S5.2.2)) (.int v) s' := by
  obtain ⟨hp, hB, hNm, hR, hD, hU, h21, h195, h22⟩ := id h
  have o : ∀ a k, ¬ dI_ (6 + 6 * pN_ S.2.1.1) a k → st_I s a k = st_I σ a k := fun a k z => (r.2 a k z).1
  have n8 : ∀ k, k < 6 + 6 * pN_ S.2.1.1 → k ≠ 0 → st_I s 188 k = st_I σ 188 k := fun k z1 z2 => o _ _ (fun y => by unfold dI_ dF_ at y; omega)
  have b10 := hB.1
  have b3 := hB.2.2.1
  have F : Rpc_ s B n (k', pai_ S.2.1 kd l g c x, S.2.2) := by
    refine ⟨p, bp_pai hB hN hT hk hl hg hc hx, hNm, ⟨e0, ?_, ?_, fun l' zl => ?_, fun i k zi zk => ?_⟩, fun l' zl => ?_, hU, ?_, fun k x hx => ?_, ?_⟩
    · exact (n8 1 (by omega) (by decide)).trans hR.2.1
    · exact (n8 2 (by omega) (by decide)).trans hR.2.2.1
    · have zl : l' < pL_ S.2.1.1 := zl
      exact (n8 _ (by omega) (by omega)).trans (hR.2.2.2.1 l' zl)
    · have zi : i < pN_ S.2.1.1 + 1 := zi
      show _ = i_ (upd_ (pC_ S.2.1.1) (pN_ S.2.1.1) (rw6_ ((pT_ S.2.1.1 : Int) - 1) kd l g c x) i k)
      unfold upd_
      rw [Nat.zero_add]
      by_cases e : i = pN_ S.2.1.1
      · rw [if_pos e, e]
        unfold rw6_
        rcases (show k = 0 ∨ k = 1 ∨ k = 2 ∨ k = 3 ∨ k = 4 ∨ k = 5 by omega) with e | e | e | e | e | e
        · rw [e, c0]; rfl
        · rw [e, c1]; rfl
        · rw [e, c2]; rfl
        · rw [e, c3]; rfl
        · rw [e, c4]; rfl
        · rw [e, c5]; rfl
      · rw [if_neg e, n8 _ (by omega) (by omega)]
        have y := hR.2.2.2.2 i k (by omega) zk
        rw [Nat.zero_add] at y
        exact y
    · have zl : l' < pL_ S.2.1.1 := zl
      exact ⟨(o _ _ (fun y => by unfold dI_ dF_ at y; omega)).trans (hD l' zl).1, fun k x hx => (o _ _ (fun y => by unfold dI_ dF_ at y; omega)).trans ((hD l' zl).2 k x hx)⟩
    · exact (o _ _ (fun y => by unfold dI_ dF_ at y; omega)).trans h21
    · have hx : S.2.1.2.2[k]? = some x := hx
      rw [h0] at hx
      cases hx
    · exact (o _ _ (fun y => by unfold dI_ dF_ at y; omega)).trans h22
  obtain ⟨v, s4, k1, k2⟩ := c_rends (γ := γ) F
  have er : xp_ B n 15 (k', pai_ S.2.1 kd l g c x, S.2.2) = (match xp_ B n 15 (k', S.2) with | .inr e => .inr e | .inl S5 => .inl (S5.1, pai_ S5.2.1 kd l g c x, S5.2.2)) := by
    have x1 : xp_ B n 15 (k', S.2) = if csg_ B n k' = 15 then .inl (k' + 1, S.2) else .inr (er_ B n k' 1) := rfl
    have x2 : xp_ B n 15 (k', pai_ S.2.1 kd l g c x, S.2.2) = if csg_ B n k' = 15 then .inl (k' + 1, pai_ S.2.1 kd l g c x, S.2.2) else .inr (er_ B n k' 1) := rfl
    rw [x1, x2]
    by_cases e : csg_ B n k' = 15
    · rw [if_pos e, if_pos e]
    · rw [if_neg e, if_neg e]
  rw [er] at k2
  have k3 := rpo_tr (ro_up r (fun a k => dI_V)) k2
  rcases k2.2.2 with ⟨rfl, -⟩ | ⟨rfl, -⟩
  · exact ⟨1, s4, k1, Or.inr rfl, k2.1, k3⟩
  · exact ⟨0, s4, k1, Or.inl rfl, k2.1, k3⟩
end IN
