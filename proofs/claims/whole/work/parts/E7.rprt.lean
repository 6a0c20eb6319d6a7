/-! the reference reads: the parts of an instruction -/
section PT
variable {γ : ga_T} {σ σ1 s : st_T} {B : Nat → Int} {n k i t : Nat} {z : Int} {P : pq_T} {S : qs_T} {p : pr_T}
theorem c_rat8 (zw : Wd s) (hB : pN_ p ≤ 10) (hR : Nrow_ s 188 0 p) {i k : Nat} (q1 : i < pN_ p) (q2 : k < 6) : fn_ γ m_X12_at 0 [.ref 188, .int (i_ (i : Int)), .int (i_ (k : Int))] s (.int (i_ (pC_ p i k))) s := by
  have y := hR.2.2.2.2 i k q1 q2
  rw [Nat.zero_add] at y
  refine fn_q (fun Q2 zQ2 => e_X12_at zw ?_)
  unfold p_X12_at_0
  refine ⟨174, wS_188 zw, ?_⟩
  rw [show ((6 : Int32) + ((6 : Int32) * i_ (i : Int))) + i_ (k : Int) = i_ ((6 + 6 * i + k : Nat) : Int) by rw [k6_, i_mul, i_add, i_add]; exact congrArg i_ (by omega), i_cl (by omega), Int.toNat_natCast, y]
  exact ⟨i_in (by omega) (by omega) (by omega), zQ2⟩
theorem c_ritg (zw : Wd s) (hB : Bp_ p) (hR : Nrow_ s 188 0 p) {r : Int} (ht : t < 4) (hr : 0 ≤ r ∧ r ≤ 1) : fn_ γ m_X12_isTarget 1 [.ref 185, .int (i_ (t : Int)), .int (i_ r)] s (.int (if itg_ p (t : Int) r = true then 1 else 0)) s := fn_q (fun Q zQ => e_X12_isTarget zw (by
  have bN := hB.1
  have bc := hB.2.2.2.2
  unfold p_X12_isTarget_0
  have key : ∀ (d j : Nat), d + j = pN_ p → (∀ v, v < j → ¬ (pC_ p v 0 = t ∧ pC_ p v 3 = r)) → vv_ γ m_X12_isTarget 1 2 [(0, .ref 185), (1, .int (i_ (t : Int))), (2, .int (i_ r)), (3, .int (i_ (j : Int)))] [] s Q := by
    intro d
    induction d with
    | zero =>
      intro j hj hv
      refine g_X12_isTarget_2 zw ?_
      unfold p_X12_isTarget_2
      rw [hR.1, show j = pN_ p by omega]
      have e : itg_ p (t : Int) r = false := by
        cases e : itg_ p (t : Int) r with
        | false => rfl
        | true =>
          obtain ⟨v, v1, v2⟩ := itg_iff.mp e
          exact absurd v2 (hv v (by omega))
      rw [e] at zQ
      exact ⟨fun _ => zQ, fun y => absurd (Int32.le_refl _) y⟩
    | succ d ih =>
      intro j hj hv
      have c0 := bc j 0
      have c3 := bc j 3
      refine g_X12_isTarget_2 zw ?_
      unfold p_X12_isTarget_2
      rw [hR.1, i_le (by omega) (by omega)]
      refine ⟨fun y => by omega, fun _ => ⟨_, s, zw, c_rat8 (k := 0) zw bN hR (by omega) (by decide), ?_⟩⟩
      have nx : ¬ (pC_ p j 0 = t ∧ pC_ p j 3 = r) → vv_ γ m_X12_isTarget 1 2 [(0, .ref 185), (1, .int (i_ (t : Int))), (2, .int (i_ r)), (3, .int (i_ ((j : Int) + 1)))] [] s Q := fun h => ih (j + 1) (by omega) (fun v hv2 => by
        by_cases c : v = j
        · rw [c]
          exact h
        · exact hv v (by omega))
      rw [i_eq (by omega) (by omega), k1_, i_add]
      refine ⟨fun y => ⟨_, s, zw, c_rat8 (k := 3) zw bN hR (by omega) (by decide), ?_⟩, fun y => nx (fun h => y h.1)⟩
      rw [i_eq (by omega) (by omega)]
      refine ⟨fun y2 => ?_, fun y2 => nx (fun h => y2 h.2)⟩
      have e : itg_ p (t : Int) r = true := itg_iff.mpr ⟨j, by omega, y, y2⟩
      rw [e] at zQ
      exact zQ
  exact key (pN_ p) 0 rfl (fun v hv => by omega)))
/-- a cell of the row that is written -/
def dC_ (c a k : Nat) : Prop := dF_ a k ∨ (a = 188 ∧ k = c)
theorem dC_V {c a k : Nat} (h : dC_ c a k) : dV_ a k := by
  unfold dC_ dF_ at h
  unfold dV_
  omega
theorem tnu2 (h : csg_ B n k = 2) : 0 ≤ tnu_ B n k ∧ tnu_ B n k ≤ 1 := by
  have := (csg_2 h).2.2.1
  omega
theorem c_rtgt (h : Ptk_ σ B n S.1) (hB : Bp_ S.2.1.1) (hR : Nrow_ σ 188 0 S.2.1.1) (ht : t < 4) {b : Nat} (hb : b < 160) :
    (csg_ B n S.1 = 2 ∧ rtg_ B n t S = .inl (tnu_ B n S.1, (S.1 + 1, S.2)) ∧ ∃ s, fn_ γ m_X12_readsTarget 3 [.ref 185, .int (i_ (b : Int)), .int (i_ (t : Int))] σ (.int 1) s ∧ Ptk_ s B n (S.1 + 1) ∧ ro_ (dC_ (b + 3)) σ s ∧ st_I s 188 (b + 3) = i_ (tnu_ B n S.1)) ∨
    ∃ e s, rtg_ B n t S = .inr e ∧ fn_ γ m_X12_readsTarget 3 [.ref 185, .int (i_ (b : Int)), .int (i_ (t : Int))] σ (.int 0) s ∧ Rpo_ σ B n (.inr e) (.int 0) s := by
  obtain ⟨g1, g2, g3, -, g5⟩ := pt_g h
  have c21 := csg_21 (B := B) (n := n) (k := S.1)
  have s3 := (sso_2 c21).2.1
  have sr := sso_rg (csg_ B n S.1)
  by_cases c2 : csg_ B n S.1 = 2
  · have tn := tnu2 c2
    have it := c_ritg (γ := γ) h.1 hB hR ht tn
    have e3 : sso_ (csg_ B n S.1) = 3 := s3.mpr c2
    cases eI : itg_ S.2.1.1 (t : Int) (tnu_ B n S.1) with
    | true =>
      right
      rw [eI] at it
      obtain ⟨s, f1, f2⟩ := c_rbad (γ := γ) h (e := 3) (by decide) (Or.inr (by rw [c2]; decide)) (.inr (er_ B n S.1 3)) rfl
      refine ⟨_, s, by unfold rtg_; rw [if_pos c2, if_pos eI], fn_q (fun Q zQ => e_X12_readsTarget h.1 ?_), f2⟩
      unfold p_X12_readsTarget_0
      rw [g3, g5 c2, e3]
      exact ⟨fun _ => ⟨_, σ, h.1, it, fun y => absurd y (by decide), fun _ => ⟨_, s, f2.1, f1, Or.inl rfl, zQ⟩⟩, fun y => absurd (by decide) y⟩
    | false =>
      left
      rw [eI] at it
      have h1 : Ptk_ (pt_I σ 188 (b + 3) (i_ (tnu_ B n S.1))) B n S.1 := ptk_ro (D := fun a k => a = 188 ∧ k = b + 3) (ro_I ro_rf ⟨rfl, rfl⟩) (fun a k y z => by omega) h
      obtain ⟨s, f1, f2, f3, f4⟩ := c_rgo2 (γ := γ) h1 (by rw [c2]; decide)
      refine ⟨c2, by unfold rtg_; rw [if_pos c2, if_neg (by rw [eI]; decide)], s, fn_q (fun Q zQ => e_X12_readsTarget h.1 ?_), f4, ro_tr (ro_I ro_rf (Or.inr ⟨rfl, rfl⟩)) (ro_up f3 (fun a k y => Or.inl y)), ?_⟩
      · unfold p_X12_readsTarget_0
        rw [g3, g5 c2, e3]
        refine ⟨fun _ => ⟨_, σ, h.1, it, fun _ => ?_, fun y => absurd rfl y⟩, fun y => absurd (by decide) y⟩
        rw [g5 c2, k3_, i_add, i_cl (by omega), show ((b : Int) + 3).toNat = b + 3 by omega]
        exact ⟨i_in (by omega) (by omega) (by omega), s, f2, f1, zQ⟩
      · rw [(f3.2 188 (b + 3) (fun y => by unfold dF_ at y; omega)).1]
        exact st_sI _ _ _ _
  · right
    obtain ⟨s, f1, f2⟩ := c_rbad (γ := γ) h (e := 1) (by decide) (Or.inl rfl) (.inr (er_ B n S.1 1)) rfl
    refine ⟨_, s, by unfold rtg_; rw [if_neg c2], fn_q (fun Q zQ => e_X12_readsTarget h.1 ?_), f2⟩
    unfold p_X12_readsTarget_0
    rw [g3, k3_, i_eq (by omega) (by omega)]
    exact ⟨fun y => absurd (s3.mp y) c2, fun _ => ⟨_, s, f2.1, f1, Or.inl rfl, zQ⟩⟩
theorem c_rplc (h : Ptk_ σ B n S.1) (hd : Nv_ S.2.1 ∧ pL_ S.2.1.1 ≤ 3 ∧ st_I σ 188 2 = i_ (pL_ S.2.1.1 : Int) ∧ (∀ l, l < pL_ S.2.1.1 → st_I σ 193 l = i_ ((S.2.1.2.1 l).length : Int) ∧ ∀ k x, (S.2.1.2.1 l)[k]? = some x → st_I σ 192 (8 * l + k) = i_ x)) {b : Nat} (hb : 6 ≤ b ∧ b < 160) :
    (csg_ B n S.1 = 3 ∧ lnm_ S.2.1 (tby_ B n S.1) ≠ -1 ∧ rlo_ B n S = .inl (lnm_ S.2.1 (tby_ B n S.1), (S.1 + 1, S.2)) ∧ ∃ s, fn_ γ m_X12_readsPlace 16 [.ref 185, .int (i_ (b : Int))] σ (.int 1) s ∧ Ptk_ s B n (S.1 + 1) ∧ ro_ (dC_ (b + 2)) σ s ∧ st_I s 188 (b + 2) = i_ (lnm_ S.2.1 (tby_ B n S.1))) ∨
    ∃ e s, rlo_ B n S = .inr e ∧ fn_ γ m_X12_readsPlace 16 [.ref 185, .int (i_ (b : Int))] σ (.int 0) s ∧ Rpo_ σ B n (.inr e) (.int 0) s := by
  obtain ⟨g1, g2, g3, -, -⟩ := pt_g h
  have nm := c_risName (γ := γ) h
  by_cases c3 : csg_ B n S.1 = 3
  · rw [decide_eq_true c3] at nm
    obtain ⟨t1, t2, t3, t4, t5, -⟩ := tok_let (Or.inl c3)
    have tb := tby_te t1
    have te := te_le (B := B) (n := n) (k := S.1)
    have h6 := h.2.1.1
    have nn := c_rnamed (γ := γ) (P := S.2.1) (q := tq_ B n S.1) (u := te_ B n S.1 - tq_ B n S.1) h.1 h.2.1 hd (by omega)
    rw [← tb] at nn
    have bn := lnm_bd S.2.1 (tby_ B n S.1) hd.2.1
    have e12 : (st_I σ 185 12) - (st_I σ 185 13) = i_ ((te_ B n S.1 - tq_ B n S.1 : Nat) : Int) := by
      rw [g1, g2, i_sub]
      exact congrArg i_ (by omega)
    have h1 : Ptk_ (pt_I σ 188 (b + 2) (i_ (lnm_ S.2.1 (tby_ B n S.1)))) B n S.1 := ptk_ro (D := fun a k => a = 188 ∧ k = b + 2) (ro_I ro_rf ⟨rfl, rfl⟩) (fun a k y z => by omega) h
    have r1 : ro_ (dC_ (b + 2)) σ (pt_I σ 188 (b + 2) (i_ (lnm_ S.2.1 (tby_ B n S.1)))) := ro_I ro_rf (Or.inr ⟨rfl, rfl⟩)
    by_cases cn : lnm_ S.2.1 (tby_ B n S.1) = -1
    · right
      obtain ⟨s, f1, f2⟩ := c_rbad (γ := γ) h1 (e := 4) (by decide) (Or.inr (by rw [c3]; decide)) (.inr (er_ B n S.1 4)) rfl
      refine ⟨_, s, by unfold rlo_; rw [if_pos c3, if_pos cn], fn_q (fun Q zQ => e_X12_readsPlace h.1 ?_), rpo_tr (ro_up r1 (fun a k => dC_V)) f2⟩
      unfold p_X12_readsPlace_0
      refine ⟨_, σ, h.1, nm, fun y => absurd y (by decide), fun _ => ?_⟩
      rw [e12, g2]
      refine ⟨_, σ, h.1, nn, ?_⟩
      rw [k2_, i_add, i_cl (by omega), show ((b : Int) + 2).toNat = b + 2 by omega, st_sI]
      refine ⟨i_in (by omega) (by omega) (by omega), i_in (by omega) (by omega) (by omega), fun _ => ⟨_, s, f2.1, f1, Or.inl rfl, zQ⟩, fun y => absurd (by rw [cn]; decide) y⟩
    · left
      obtain ⟨s, f1, f2, f3, f4⟩ := c_rgo2 (γ := γ) h1 (by rw [c3]; decide)
      refine ⟨c3, cn, by unfold rlo_; rw [if_pos c3, if_neg cn], s, fn_q (fun Q zQ => e_X12_readsPlace h.1 ?_), f4, ro_tr r1 (ro_up f3 (fun a k y => Or.inl y)), ?_⟩
      · unfold p_X12_readsPlace_0
        refine ⟨_, σ, h.1, nm, fun y => absurd y (by decide), fun _ => ?_⟩
        rw [e12, g2]
        refine ⟨_, σ, h.1, nn, ?_⟩
        rw [k2_, i_add, i_cl (by omega), show ((b : Int) + 2).toNat = b + 2 by omega, st_sI]
        refine ⟨i_in (by omega) (by omega) (by omega), i_in (by omega) (by omega) (by omega), fun y => ?_, fun _ => ⟨s, f2, f1, zQ⟩⟩
        rw [show (-1 : Int32) = i_ (-1) by decide, i_eq (by omega) (by omega)] at y
        exact absurd y cn
      · rw [(f3.2 188 (b + 2) (fun y => by unfold dF_ at y; omega)).1]
        exact st_sI _ _ _ _
  · right
    rw [decide_eq_false c3] at nm
    obtain ⟨s, f1, f2⟩ := c_rbad (γ := γ) h (e := 1) (by decide) (Or.inl rfl) (.inr (er_ B n S.1 1)) rfl
    refine ⟨_, s, by unfold rlo_; rw [if_neg c3], fn_q (fun Q zQ => e_X12_readsPlace h.1 ?_), f2⟩
    unfold p_X12_readsPlace_0
    exact ⟨_, σ, h.1, nm, fun _ => ⟨_, s, f2.1, f1, Or.inl rfl, zQ⟩, fun y => absurd rfl y⟩
theorem c_rvlu (h : Ptk_ σ B n S.1) (hB : Bp_ S.2.1.1) (hR : Nrow_ σ 188 0 S.2.1.1) (ht : t < 4) {b : Nat} (hb : b < 160) (e4 : st_I σ 188 (b + 4) = i_ (-1)) (e5 : st_I σ 188 (b + 5) = i_ (-1)) :
    (∃ x, rva_ B n t S = .inl (x, (S.1 + 1, S.2)) ∧ ∃ s, fn_ γ m_X12_readsValue 4 [.ref 185, .int (i_ (b : Int)), .int (i_ (t : Int))] σ (.int 1) s ∧ Ptk_ s B n (S.1 + 1) ∧ ro_ (fun a k => dF_ a k ∨ (a = 188 ∧ (k = b + 4 ∨ k = b + 5))) σ s ∧ st_I s 188 (b + 4) = i_ x.1 ∧ st_I s 188 (b + 5) = i_ x.2) ∨
    ∃ e s, rva_ B n t S = .inr e ∧ fn_ γ m_X12_readsValue 4 [.ref 185, .int (i_ (b : Int)), .int (i_ (t : Int))] σ (.int 0) s ∧ Rpo_ σ B n (.inr e) (.int 0) s := by
  obtain ⟨g1, g2, g3, -, g5⟩ := pt_g h
  have c21 := csg_21 (B := B) (n := n) (k := S.1)
  have s3 := (sso_2 c21).2.1
  have sr := sso_rg (csg_ B n S.1)
  by_cases c2 : csg_ B n S.1 = 2
  · have tn := tnu2 c2
    have it := c_ritg (γ := γ) h.1 hB hR ht tn
    have e3 : sso_ (csg_ B n S.1) = 3 := s3.mpr c2
    cases eI : itg_ S.2.1.1 (t : Int) (tnu_ B n S.1) with
    | false =>
      right
      rw [eI] at it
      obtain ⟨s, f1, f2⟩ := c_rbad (γ := γ) h (e := 4) (by decide) (Or.inr (by rw [c2]; decide)) (.inr (er_ B n S.1 4)) rfl
      refine ⟨_, s, by unfold rva_; rw [if_pos c2, if_neg (by rw [eI]; decide)], fn_q (fun Q zQ => e_X12_readsValue h.1 ?_), f2⟩
      unfold p_X12_readsValue_0
      rw [g3, g5 c2, e3]
      exact ⟨fun _ => ⟨_, σ, h.1, it, fun _ => ⟨_, s, f2.1, f1, Or.inl rfl, zQ⟩, fun y => absurd rfl y⟩, fun y => absurd (by decide) y⟩
    | true =>
      left
      rw [eI] at it
      have h1 : Ptk_ (pt_I σ 188 (b + 5) (i_ (tnu_ B n S.1))) B n S.1 := ptk_ro (D := fun a k => a = 188 ∧ k = b + 5) (ro_I ro_rf ⟨rfl, rfl⟩) (fun a k y z => by omega) h
      obtain ⟨s, f1, f2, f3, f4⟩ := c_rgo2 (γ := γ) h1 (by rw [c2]; decide)
      refine ⟨(-1, tnu_ B n S.1), by unfold rva_; rw [if_pos c2, if_pos eI], s, fn_q (fun Q zQ => e_X12_readsValue h.1 ?_), f4, ro_tr (ro_I ro_rf (Or.inr ⟨rfl, Or.inr rfl⟩)) (ro_up f3 (fun a k y => Or.inl y)), ?_, ?_⟩
      · unfold p_X12_readsValue_0
        rw [g3, g5 c2, e3]
        refine ⟨fun _ => ⟨_, σ, h.1, it, fun y => absurd y (by decide), fun _ => ?_⟩, fun y => absurd (by decide) y⟩
        rw [g5 c2, show (5 : Int32) = i_ 5 by decide, i_add, i_cl (by omega), show ((b : Int) + 5).toNat = b + 5 by omega]
        exact ⟨i_in (by omega) (by omega) (by omega), s, f2, f1, zQ⟩
      · rw [(f3.2 188 (b + 4) (fun y => by unfold dF_ at y; omega)).1, st_pI, if_neg (by omega)]
        exact e4
      · rw [(f3.2 188 (b + 5) (fun y => by unfold dF_ at y; omega)).1]
        exact st_sI _ _ _ _
  · have hs3 := c_rsmall (γ := γ) (S := S) (i := b + 4) h (by omega)
    rw [show ((b + 4 : Nat) : Int) = (b : Int) + 4 by omega] at hs3
    have call : ∀ (v : Int32) (s : st_T), fn_ γ m_X12_readsSmall 3 [.ref 185, .int (i_ ((b : Int) + 4))] σ (.int v) s → (v = 0 ∨ v = 1) → Wd s → fn_ γ m_X12_readsValue 4 [.ref 185, .int (i_ (b : Int)), .int (i_ (t : Int))] σ (.int v) s := fun v s f hv hw => fn_q (fun Q zQ => e_X12_readsValue h.1 (by
      unfold p_X12_readsValue_0
      rw [g3, k3_, i_eq (by omega) (by omega), show (4 : Int32) = i_ 4 by decide, i_add]
      exact ⟨fun y => absurd (s3.mp y) c2, fun _ => ⟨_, s, hw, f, hv, zQ⟩⟩))
    rcases hs3 with ⟨v1, v2, v3, s, f1, f2, f3, f4⟩ | ⟨e, s, v1, f1, f2⟩
    · left
      refine ⟨(tnu_ B n S.1, -1), by unfold rva_; rw [if_neg c2, v3], s, call 1 s f1 (Or.inr rfl) f2.1, f2, ro_up f3 (fun a k y => by
        rcases y with y | y
        · exact Or.inl y
        · exact Or.inr ⟨y.1, Or.inl y.2⟩), f4, ?_⟩
      rw [(f3.2 188 (b + 5) (fun y => by unfold dF_ at y; omega)).1]
      exact e5
    · right
      exact ⟨e, s, by unfold rva_; rw [if_neg c2, v1], call 0 s f1 (Or.inl rfl) f2.1, f2⟩
end PT
