/-! the reference reads: comparisons -/
section CN
variable {γ : ga_T} {σ σ1 s : st_T} {B : Nat → Int} {n k i t : Nat} {z : Int} {P : pq_T} {S S2 : qs_T} {p : pr_T}
theorem dV_21 : dV_ 185 21 := Or.inr (Or.inr (Or.inr (Or.inr ⟨rfl, Or.inr (Or.inl rfl)⟩)))
theorem dV_22 : dV_ 185 22 := Or.inr (Or.inr (Or.inr (Or.inr ⟨rfl, Or.inr (Or.inr rfl)⟩)))
theorem dV_195 {k : Nat} : dV_ 195 k := Or.inr (Or.inr (Or.inr (Or.inl rfl)))
/-- a piece is told -/
theorem c_rtells (h : Rpc_ σ B n S) (hl : S.2.1.2.2.length + 1 ≤ 2 * S.2.2) {u x : Int} (hx : x = tru_ (2 * pT_ S.2.1.1 + pL_ S.2.1.1) u) : ∃ s, fw_ γ m_X12_tells 0 [.ref 185, .int (i_ x)] σ s ∧ Wd s ∧ ro_ dV_ σ s ∧ Rpc_ s B n (S.1, pac_ S.2.1 u, S.2.2) := by
  obtain ⟨hp, hB, hNm, hR, hD, hU, h21, h195, h22⟩ := id h
  refine ⟨pt_I (pt_I σ 195 S.2.1.2.2.length (i_ x)) 185 21 (i_ ((S.2.1.2.2.length + 1 : Nat) : Int)), fw_q (fun Q zQ => e_X12_tells hp.1 ?_), hp.1, ro_I (ro_I ro_rf dV_195) dV_21, ptk_ro (D := fun a k => a = 195 ∨ (a = 185 ∧ k = 21)) (ro_I (ro_I ro_rf (Or.inl rfl)) (Or.inr ⟨rfl, rfl⟩)) (fun a k y z => by omega) hp, hB, hNm, ⟨?_, ?_, ?_, fun l zl => ?_, fun i k zi zk => ?_⟩, fun l zl => ?_, ⟨?_, hU.2⟩, ?_, fun k y hy => ?_, ?_⟩
  · unfold p_X12_tells_0
    rw [h21, k1_, i_add, i_cl (by omega), Int.toNat_natCast]
    exact ⟨i_in (by omega) (by omega) (by omega), zQ⟩
  · rw [st_pI, if_neg (by omega), st_pI, if_neg (by omega)]
    exact hR.1
  · rw [st_pI, if_neg (by omega), st_pI, if_neg (by omega)]
    exact hR.2.1
  · rw [st_pI, if_neg (by omega), st_pI, if_neg (by omega)]
    exact hR.2.2.1
  · rw [st_pI, if_neg (by omega), st_pI, if_neg (by omega)]
    exact hR.2.2.2.1 l zl
  · rw [st_pI, if_neg (by omega), st_pI, if_neg (by omega)]
    exact hR.2.2.2.2 i k zi zk
  · exact ⟨by rw [st_pI, if_neg (by omega), st_pI, if_neg (by omega)]; exact (hD l zl).1, fun k x hx => by rw [st_pI, if_neg (by omega), st_pI, if_neg (by omega)]; exact (hD l zl).2 k x hx⟩
  · show (S.2.1.2.2 ++ [u]).length ≤ _
    rw [List.length_append]
    exact hl
  · show _ = i_ ((S.2.1.2.2 ++ [u]).length : Int)
    rw [List.length_append]
    exact st_sI _ _ _ _
  · have hy : (S.2.1.2.2 ++ [u])[k]? = some y := hy
    rw [st_pI, if_neg (by omega), st_pI]
    by_cases c : k < S.2.1.2.2.length
    · rw [List.getElem?_append_left c] at hy
      rw [if_neg (by omega)]
      exact h195 k y hy
    · rw [List.getElem?_append_right (by omega)] at hy
      have c0 : k - S.2.1.2.2.length = 0 := by
        by_cases e : k - S.2.1.2.2.length = 0
        · exact e
        · rw [List.getElem?_eq_none (by show 1 ≤ _; omega)] at hy
          cases hy
      rw [c0] at hy
      have hy : u = y := Option.some.inj hy
      rw [if_pos ⟨rfl, by omega⟩, hx, hy]
      rfl
  · rw [st_pI, if_neg (by omega), st_pI, if_neg (by omega)]
    exact h22
/-- a comparison's operator and value -/
theorem c_rcmpr (h : Rpc_ σ B n S) (hl : S.2.1.2.2.length + 1 ≤ 2 * S.2.2) {s' dg : Nat} (hd : s' + dg + 1 = 2 * pT_ S.2.1.1 + pL_ S.2.1.1) : ∃ v s, fn_ γ m_X12_readsCompare 3 [.ref 185, .int (i_ (dg : Int))] σ v s ∧ Rpo_ σ B n (cmt_ B n (2 * s') S) v s := by
  obtain ⟨r0, er0⟩ : ∃ r0, r0 = cmt_ B n (2 * s') S := ⟨_, rfl⟩
  rw [← er0]
  suffices key : sp_ γ m_X12_readsCompare 3 [.ref 185, .int (i_ (dg : Int))] σ (fun r s => ∃ v, r = .inl (some v) ∧ Rpo_ σ B n r0 v s) from fn_of key
  obtain ⟨g1, g2, g3, g4, g5, g6⟩ := sg_sym
  have w := h.1.1
  have c21 := csg_21 (B := B) (n := n) (k := S.1)
  have hB := h.2.1
  have bT := hB.2.1
  have bL := hB.2.2.1
  have q1 := c_risSym (γ := γ) h.1 (c := 17) (x := 61) (by decide) (by decide) g3
  have q2 := c_risSym (γ := γ) h.1 (c := 18) (x := 60) (by decide) (by decide) g4
  have nums : ∀ (s1 : st_T) (a : Nat), (csg_ B n S.1 = 17 ∧ a = 0) ∨ (csg_ B n S.1 = 18 ∧ a = 4) → Wd s1 → ro_ dF_ σ s1 → Ptk_ s1 B n (S.1 + 1) →
      ((st_I s1 185 14) = (4 : Int32) →
        ((st_I s1 185 15) ≤ (3 : Int32) →
          ∃ s4, Wd s4 ∧ fw_ γ m_X12_tells 0 [.ref 185, .int ((((8 : Int32) * (i_ (dg : Int))) + (i_ (a : Int))) + (st_I s1 185 15))] s1 s4 ∧
          ∃ s6, Wd s6 ∧ fw_ γ m_X12_go 2 [.ref 185] s4 s6 ∧
          ∃ v, (Sum.inl (some (Value.int (1 : Int32))) : rs_T) = .inl (some v) ∧ Rpo_ σ B n r0 v s6
        ) ∧ (¬ (st_I s1 185 15) ≤ (3 : Int32) →
          ∃ (v10 : Int32) (s8 : st_T), Wd s8 ∧ fn_ γ m_X12_bad 0 [.ref 185, .int (2 : Int32)] s1 (.int v10) s8 ∧
          (v10 = 0 ∨ v10 = 1) ∧
          ∃ v, (Sum.inl (some (Value.int v10)) : rs_T) = .inl (some v) ∧ Rpo_ σ B n r0 v s8
        )
      ) ∧ (¬ (st_I s1 185 14) = (4 : Int32) →
        ∃ (v14 : Int32) (s12 : st_T), Wd s12 ∧ fn_ γ m_X12_bad 0 [.ref 185, .int (1 : Int32)] s1 (.int v14) s12 ∧
        (v14 = 0 ∨ v14 = 1) ∧
        ∃ v, (Sum.inl (some (Value.int v14)) : rs_T) = .inl (some v) ∧ Rpo_ σ B n r0 v s12
      ) := by
    intro s1 a ha w1 r1 p1
    obtain ⟨-, -, k3, k4, -⟩ := pt_g p1
    have c21 := csg_21 (B := B) (n := n) (k := S.1 + 1)
    have s4 := (sso_2 c21).2.2.1
    have sr := sso_rg (csg_ B n (S.1 + 1))
    have rV := ro_up r1 (fun a k => dF_V)
    have ex : xp_ B n (if csg_ B n S.1 = 18 then 18 else 17) S = .inl (S.1 + 1, S.2) := by
      unfold xp_
      rcases ha with ⟨c, -⟩ | ⟨c, -⟩
      · rw [if_neg (show ¬ csg_ B n S.1 = 18 by omega), if_pos c]
      · rw [if_pos c, if_pos c]
    have ea : (if csg_ B n S.1 = 18 then 4 else 0) = a := by
      rcases ha with ⟨c, e⟩ | ⟨c, e⟩
      · rw [if_neg (by omega), e]
      · rw [if_pos c, e]
    have er1 : r0 = (match vl_ B n (S.1 + 1, S.2) with | .inr e => .inr e | .inl S3 => .inl (S3.1 + 1, pac_ S3.2.1 ((8 * (2 * s') + a + (tnu_ B n S3.1).toNat : Nat) : Int), S3.2.2)) := by
      rw [er0]
      unfold cmt_
      rw [ex, ea]
      rfl
    rw [k3, show (4 : Int32) = i_ 4 by decide, i_eq (by omega) (by omega)]
    refine ⟨fun y => ?_, fun y => ?_⟩
    · have c4 := s4.mp y
      have b := nv_3 c4
      rw [k4 c4, k3_, i_le (by omega) (by omega)]
      refine ⟨fun y2 => ?_, fun y2 => ?_⟩
      · have ev : vl_ B n (S.1 + 1, S.2) = .inl (S.1 + 1, S.2) := by
          unfold vl_
          rw [if_pos c4, if_pos y2]
        rw [ev] at er1
        have er1 : r0 = .inl (S.1 + 1 + 1, pac_ S.2.1 ((8 * (2 * s') + a + (tnu_ B n (S.1 + 1)).toNat : Nat) : Int), S.2.2) := er1
        obtain ⟨v, hv⟩ : ∃ v : Nat, tnu_ B n (S.1 + 1) = v := ⟨(tnu_ B n (S.1 + 1)).toNat, by omega⟩
        rw [hv, Int.toNat_natCast] at er1
        have hx : (8 * (dg : Int) + (a : Int)) + (v : Int) = tru_ (2 * pT_ S.2.1.1 + pL_ S.2.1.1) ((8 * (2 * s') + a + v : Nat) : Int) := by
          unfold tru_
          rw [if_neg (by omega), if_neg (by omega), if_neg (by omega)]
          omega
        obtain ⟨s5, t1, t2, t3, t4⟩ := c_rtells (γ := γ) (σ := s1) (S := (S.1 + 1, S.2)) ⟨p1, dft_F r1 h.2⟩ hl hx
        obtain ⟨s6, a1, a2, a3, a4⟩ := c_rgo2 (γ := γ) t4.1 (by rw [c4]; decide)
        rw [hv, k8_, i_mul, i_add, i_add]
        exact ⟨s5, t2, t1, s6, a2, a1, _, rfl, a2, ro_tr (ro_tr rV t3) (ro_up a3 (fun a k => dF_V)), Or.inl ⟨rfl, _, er1, a4, dft_F a3 t4.2⟩⟩
      · have ev : vl_ B n (S.1 + 1, S.2) = .inr (er_ B n (S.1 + 1) 2) := by
          unfold vl_
          rw [if_pos c4, if_neg y2]
        rw [ev] at er1
        obtain ⟨s, f1, f2⟩ := c_rbad (γ := γ) p1 (e := 2) (by decide) (Or.inr (by rw [c4]; decide)) r0 er1
        exact ⟨0, s, f2.1, f1, Or.inl rfl, _, rfl, rpo_tr rV f2⟩
    · have c4 : ¬ csg_ B n (S.1 + 1) = 4 := fun e => y (s4.mpr e)
      have ev : vl_ B n (S.1 + 1, S.2) = .inr (er_ B n (S.1 + 1) 1) := by
        unfold vl_
        rw [if_neg c4]
      rw [ev] at er1
      obtain ⟨s, f1, f2⟩ := c_rbad (γ := γ) p1 (e := 1) (by decide) (Or.inl rfl) r0 er1
      exact ⟨0, s, f2.1, f1, Or.inl rfl, _, rfl, rpo_tr rV f2⟩
  refine e_X12_readsCompare w ?_
  unfold p_X12_readsCompare_0
  refine ⟨_, σ, w, q1, ?_⟩
  by_cases c17 : csg_ B n S.1 = 17
  · rw [decide_eq_true c17]
    have c18 : ¬ csg_ B n S.1 = 18 := by omega
    rw [decide_eq_false c18] at q2
    obtain ⟨s1, a1, a2, a3, a4⟩ := c_rgo2 (γ := γ) h.1 (by rw [c17]; decide)
    exact ⟨fun y => absurd y (by decide), fun _ => ⟨_, σ, w, q2, fun _ => ⟨s1, a2, a1, nums s1 0 (Or.inl ⟨c17, rfl⟩) a2 a3 a4⟩, fun y => absurd rfl y⟩⟩
  · rw [decide_eq_false c17]
    refine ⟨fun _ => ⟨_, σ, w, q2, ?_⟩, fun y => absurd rfl y⟩
    by_cases c18 : csg_ B n S.1 = 18
    · rw [decide_eq_true c18] at q2 ⊢
      obtain ⟨s1, a1, a2, a3, a4⟩ := c_rgo2 (γ := γ) h.1 (by rw [c18]; decide)
      exact ⟨fun y => absurd y (by decide), fun _ => ⟨_, σ, w, q2, fun y => absurd y (by decide), fun _ => ⟨s1, a2, a1, nums s1 4 (Or.inr ⟨c18, rfl⟩) a2 a3 a4⟩⟩⟩
    · rw [decide_eq_false c18]
      obtain ⟨s, f1, f2⟩ := c_rbad (γ := γ) h.1 (e := 1) (by decide) (Or.inl rfl) r0 (by
        rw [er0]
        unfold cmt_ xp_
        rw [if_neg c18, if_neg c17])
      exact ⟨fun _ => ⟨0, s, f2.1, f1, Or.inl rfl, _, rfl, f2⟩, fun y => absurd rfl y⟩
end CN
