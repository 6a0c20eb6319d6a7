/-! tokens: the text is split -/
section SQ
variable {γ : ga_T} {σ σ1 : st_T} {B : Nat → Int} {n : Nat}
theorem wN_144 (k : Nat) : ∀ q ∈ wdR, ¬ (q.1.1 = 144 ∧ q.1.2 = k) := by
  have y : ∀ q ∈ wdR, q.1.1 ≠ 144 := by decide +kernel
  exact fun q hq z => y q hq z.1
def po_ (B : Nat → Int) (n : Nat) : Nat → Nat
  | 0 => 0
  | k + 1 => tst_ B n (tq_ B n k)
theorem po_tq {t : Nat} (h : ∀ u, u < t → tq_ B n u < n) : po_ B n t ≤ n ∧ ru_ (fun i => isb_ (B i)) (n - po_ B n t) (po_ B n t) = tq_ B n t := by
  cases t with
  | zero => exact ⟨Nat.zero_le _, rfl⟩
  | succ k =>
    have y := h k (Nat.lt_succ_self k)
    refine ⟨(tst_rg (B := B) y).2, ?_⟩
    show _ = if tq_ B n k < n then _ else _
    rw [if_pos y]
    rfl
theorem c_split (zw : Wd σ) (zX : Tx_ σ B n) : ∃ σ1, fw_ γ m_X10_split 16 [.ref 143, .int (i_ (n : Int))] σ σ1 ∧ Wd σ1 ∧ pf2_ σ σ1 ∧ st_I σ1 143 4 = i_ (n : Int) ∧ st_I σ1 143 6 = i_ 0 ∧ Tok_ σ1 B n 601 := by
  have hn := zX.1
  have key : sp_ γ m_X10_split 16 [.ref 143, .int (i_ (n : Int))] σ (fun rr s => rr = .inl none ∧ Wd s ∧ pf2_ σ s ∧ st_I s 143 4 = i_ (n : Int) ∧ st_I s 143 6 = i_ 0 ∧ Tok_ s B n 601) := by
    refine e_X10_split zw ?_
    unfold p_X10_split_0
    have e0 : (if (600 : Int32) < i_ (n : Int) then (600 : Int32) else i_ (n : Int)) = i_ (n : Int) := by
      rw [if_neg (by simp (disch := omega) only [i_lit, i_lt]; omega)]
    rw [e0]
    have lp : ∀ (k t : Nat) (s : st_T), k + t = 601 → Wd s → Tx_ s B n → pf2_ σ s → st_I s 143 4 = i_ (n : Int) → st_I s 143 6 = i_ 0 → (∀ u, u < t → tq_ B n u < n) → st_I s 143 5 = i_ (po_ B n t : Int) → Tok_ s B n t →
        vv_ γ m_X10_split 16 27 [(0, .ref 143), (2, .int (0 : Int32)), (3, .int (i_ (t : Int)))] [] s (fun rr s => rr = .inl none ∧ Wd s ∧ pf2_ σ s ∧ st_I s 143 4 = i_ (n : Int) ∧ st_I s 143 6 = i_ 0 ∧ Tok_ s B n 601) := by
      intro k
      induction k with
      | zero =>
        intro t s zt w x f a4 a6 hu a5 T
        have zt : t = 601 := by omega
        subst zt
        refine g_X10_split_27 w ?_
        unfold p_X10_split_27
        exact ⟨fun _ => ⟨rfl, w, f, a4, a6, T⟩, fun z => absurd (by decide) z⟩
      | succ k ih =>
        intro t s zt w x f a4 a6 hu a5 T
        obtain ⟨p1, p2⟩ := po_tq hu
        have cs := c_skip (γ := γ) w x a4 a5 p1
        rw [p2] at cs
        have tle := tq_le (B := B) (n := n) t
        obtain ⟨s3, e3⟩ : ∃ s3, s3 = pt_I s 143 5 (i_ (tq_ B n t : Int)) := ⟨_, rfl⟩
        rw [← e3] at cs
        have w3 : Wd s3 := by rw [e3]; exact w
        have b5 : st_I s3 143 5 = i_ (tq_ B n t : Int) := by rw [e3]; exact st_sI _ _ _ _
        have b4 : st_I s3 143 4 = i_ (n : Int) := by rw [e3, st_pI, if_neg (by omega)]; exact a4
        have b6 : st_I s3 143 6 = i_ 0 := by rw [e3, st_pI, if_neg (by omega)]; exact a6
        have k3 : ∀ a, a ≠ 143 → eh_ s s3 a := fun a z => by rw [e3]; exact eh_I z
        have n3 : st_n s3 = st_n s ∧ st_c s3 = st_c s ∧ st_u s3 = st_u s := by rw [e3]; exact ⟨rfl, rfl, rfl⟩
        have et : (i_ (t : Int)).toNatClampNeg = t := by rw [i_cl (by omega), Int.toNat_natCast]
        have v601 : vp_in (i_ (t : Int)) 601 := i_in (by omega) (by omega) (by omega)
        refine g_X10_split_27 w ?_
        unfold p_X10_split_27
        simp (disch := omega) only [i_lit, i_lt]
        refine ⟨fun z => by omega, fun _ => ⟨fun _ => ⟨s3, w3, cs, ?_⟩, fun z => absurd trivial z⟩⟩
        rw [b4, b5, et]
        obtain ⟨s4, e4⟩ : ∃ s4, s4 = pt_L (pt_I s3 145 t (i_ (tq_ B n t : Int))) 146 t (-1) := ⟨_, rfl⟩
        have w4 : Wd s4 := by rw [e4]; exact w3
        have d4 : st_I s4 143 4 = i_ (n : Int) := by
          rw [e4]
          show st_I (pt_I s3 145 t (i_ (tq_ B n t : Int))) 143 4 = _
          rw [st_pI, if_neg (by omega)]
          exact b4
        have d5 : st_I s4 143 5 = i_ (tq_ B n t : Int) := by
          rw [e4]
          show st_I (pt_I s3 145 t (i_ (tq_ B n t : Int))) 143 5 = _
          rw [st_pI, if_neg (by omega)]
          exact b5
        have d6 : st_I s4 143 6 = i_ 0 := by
          rw [e4]
          show st_I (pt_I s3 145 t (i_ (tq_ B n t : Int))) 143 6 = _
          rw [st_pI, if_neg (by omega)]
          exact b6
        have dv : st_L s4 146 t = -1 := by rw [e4]; exact if_pos ⟨rfl, rfl⟩
        have ds : st_I s4 145 t = i_ (tq_ B n t : Int) := by
          rw [e4]
          show st_I (pt_I s3 145 t (i_ (tq_ B n t : Int))) 145 t = _
          exact st_sI _ _ _ _
        have k4 : ∀ a, a ≠ 143 → a ≠ 145 → a ≠ 146 → eh_ s s4 a := fun a z1 z2 z3 => by
          rw [e4]
          exact eh_tr (k3 a z1) (eh_tr (eh_I z2) (eh_L z3))
        have n4 : st_n s4 = st_n s ∧ st_c s4 = st_c s ∧ st_u s4 = st_u s := by rw [e4]; exact n3
        have o145 : ∀ j, j ≠ t → st_I s4 145 j = st_I s 145 j := fun j zj => by
          rw [e4]
          show st_I (pt_I s3 145 t (i_ (tq_ B n t : Int))) 145 j = _
          rw [st_pI, if_neg (fun z => zj z.2)]
          exact (k3 145 (by omega)).1 j
        have o146 : ∀ j, j ≠ t → st_L s4 146 j = st_L s 146 j := fun j zj => by
          rw [e4]
          show (if 146 = 146 ∧ j = t then _ else st_L s3 146 j) = _
          rw [if_neg (fun z => zj z.2)]
          exact (k3 146 (by omega)).2.1 j
        have x4 : Tx_ s4 B n := ⟨x.1, fun i zi => by rw [(k4 129 (by omega) (by omega) (by omega)).1]; exact x.2 i zi⟩
        simp (disch := omega) only [i_lt]
        refine ⟨fun z => ⟨v601, v601, ?_⟩, fun z => ⟨v601, v601, v601, ?_⟩⟩
        · have z : tq_ B n t < n := by omega
          obtain ⟨s8, c1, c2, c3, c4, c5⟩ := c_scanToken (γ := γ) w4 x4 d4 d5 z (by omega) dv
          rw [e4] at c1
          refine ⟨_, s8, c2, c1, v601, tsg_21 _, ?_⟩
          rw [i_add]
          refine ih (t + 1) _ (by omega) (Wd_R c2 (wN_144 t)) ⟨x.1, fun i zi => ?_⟩ ⟨fun a za => ?_, ?_⟩ ?_ ?_ (fun u zu => ?_) ?_ (fun u zu hu2 => ?_)
          · show st_I s8 129 i = _ ∧ _
            rw [(c5.1 129 (by omega) (by omega)).1]
            exact x4.2 i zi
          · exact eh_tr (f.1 a za) (eh_tr (k4 a (by omega) (by omega) (by omega)) (eh_tr (c5.1 a (by omega) (by omega)) (eh_R (by omega))))
          · refine ⟨?_, ?_, ?_⟩
            · show st_n s8 = _
              rw [c5.2.2.2.1, n4.1, f.2.1]
            · show st_c s8 = _
              rw [c5.2.2.2.2.1, n4.2.1, f.2.2.1]
            · show st_u s8 = _
              rw [c5.2.2.2.2.2, n4.2.2, f.2.2.2]
          · show st_I s8 143 4 = _
            rw [c5.2.1 4 (by decide)]
            exact d4
          · show st_I s8 143 6 = _
            rw [c5.2.1 6 (by decide)]
            exact d6
          · by_cases y : u = t
            · rw [y]; exact z
            · exact hu u (by omega)
          · exact c3
          · show st_I s8 145 u = _ ∧ (if 144 = 144 ∧ u = t then some (tsg_ B n (tq_ B n t)) else st_R s8 144 u) = _ ∧ (_ → st_L s8 146 u = _)
            by_cases y : u = t
            · subst y
              rw [if_pos ⟨rfl, rfl⟩, if_pos z, (c5.1 145 (by omega) (by omega)).1]
              exact ⟨ds, rfl, fun _ => c4⟩
            · rw [if_neg (fun q => y q.2), (c5.1 145 (by omega) (by omega)).1, (c5.1 144 (by omega) (by omega)).2.2.1, c5.2.2.1 u y, o145 u y, o146 u y, (k4 144 (by omega) (by omega) (by omega)).2.2.1]
              exact T u (by omega) (fun v zv => hu v (by omega))
        · have z : tq_ B n t = n := by omega
          rw [show pt_L (pt_I s3 145 t (i_ (tq_ B n t : Int))) 146 t (-1) = s4 from e4.symm]
          refine g_X10_split_27 (Wd_R w4 (wN_144 t)) ?_
          unfold p_X10_split_27
          have done : (Wd (pt_R s4 144 t (some 0)) ∧ pf2_ σ (pt_R s4 144 t (some 0)) ∧ st_I (pt_R s4 144 t (some 0)) 143 4 = i_ (n : Int) ∧ st_I (pt_R s4 144 t (some 0)) 143 6 = i_ 0 ∧ Tok_ (pt_R s4 144 t (some 0)) B n 601) := by
            refine ⟨Wd_R w4 (wN_144 t), ⟨fun a za => ?_, ?_⟩, d4, d6, fun u zu hu2 => ?_⟩
            · exact eh_tr (f.1 a za) (eh_tr (k4 a (by omega) (by omega) (by omega)) (eh_R (by omega)))
            · exact ⟨n4.1.trans f.2.1, n4.2.1.trans f.2.2.1, n4.2.2.trans f.2.2.2⟩
            · have y0 : ¬ t < u := fun y => by
                have y1 := hu2 t y
                omega
              show st_I s4 145 u = _ ∧ (if 144 = 144 ∧ u = t then some 0 else st_R s4 144 u) = _ ∧ (_ → st_L s4 146 u = _)
              by_cases y : u = t
              · subst y
                rw [if_pos ⟨rfl, rfl⟩, if_neg (by omega)]
                exact ⟨ds, rfl, fun q => by omega⟩
              · rw [if_neg (fun q => y q.2), o145 u y, o146 u y, (k4 144 (by omega) (by omega) (by omega)).2.2.1]
                exact T u (by omega) (fun v zv => hu v (by omega))
          exact ⟨fun _ => ⟨rfl, done⟩, fun _ => ⟨fun q => absurd q (by decide), fun _ => ⟨rfl, done⟩⟩⟩
    obtain ⟨s0, e0⟩ : ∃ s0, s0 = pt_I (pt_I (pt_I σ 143 4 (i_ (n : Int))) 143 5 (0 : Int32)) 143 6 (0 : Int32) := ⟨_, rfl⟩
    rw [← e0]
    have k0 : ∀ a, a ≠ 143 → eh_ σ s0 a := fun a z => by
      rw [e0]
      exact eh_tr (eh_tr (eh_I z) (eh_I z)) (eh_I z)
    refine lp 601 0 s0 rfl (by rw [e0]; exact zw) ⟨zX.1, fun i zi => by rw [(k0 129 (by omega)).1]; exact zX.2 i zi⟩ ⟨fun a za => k0 a (by omega), by rw [e0]; exact ⟨rfl, rfl, rfl⟩⟩ ?_ ?_ (fun u zu => by omega) ?_ (fun u zu => by omega)
    · rw [e0, st_pI, if_neg (by omega), st_pI, if_neg (by omega)]
      exact st_sI _ _ _ _
    · rw [e0]
      exact st_sI _ _ _ _
    · rw [e0, st_pI, if_neg (by omega)]
      exact st_sI _ _ _ _
  obtain ⟨σ1, y1, y2⟩ := fw_of key
  exact ⟨σ1, y1, y2⟩
end SQ
