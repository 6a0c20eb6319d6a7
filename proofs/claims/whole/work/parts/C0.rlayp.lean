/-! the reference: the whole program is laid -/
section RP
variable {γ : ga_T} {σ σ0 s : st_T} {p : pr_T} {L : List Int} {G i : Nat} {z : Int}
theorem lsn_s (x : Int) : lsn_ p (L ++ [x]) (L ++ [x]).length = lsn_ p L L.length + (if itc_ p x 1 = 0 then 1 else 0) := by
  rw [List.length_append]
  show lsn_ p (L ++ [x]) (L.length + 1) = _
  have e : lsn_ p (L ++ [x]) (L.length + 1) = lsn_ p (L ++ [x]) L.length + (if decide (lc0_ p (L ++ [x]) L.length 1 = 0) = true then 1 else 0) := rfl
  rw [e, lsn_app (Nat.le_refl _)]
  have e2 : lc0_ p (L ++ [x]) L.length 1 = itc_ p x 1 := by
    unfold lc0_
    rw [List.getElem?_append_right (Nat.le_refl _), Nat.sub_self]
    rfl
  rw [e2]
  by_cases y : itc_ p x 1 = 0
  · rw [if_pos y, if_pos (decide_eq_true y)]
  · rw [if_neg y, if_neg (by rw [decide_eq_true_eq]; exact y)]
theorem lsn_le : ∀ n, lsn_ p L n ≤ n := fun n => ct_le _ n
theorem lay_tail {l1 l4 l7 : Int32} {Q : rs_T → st_T → Prop} (h : Lz_ σ0 p L s) (hi : i < pN_ p) (hlen : L.length < 39) (hz : -1 ≤ z ∧ z < 1000)
    (hk : ∀ s', Lz_ σ0 p (L ++ lyi_ z i) s' → (∀ u, st_I s' 203 u = st_I s 203 u) → vv_ γ m_X12_laysProgram 3 28 [(0, .ref 185), (1, .int l1), (2, .int (i_ z)), (3, .int (i_ ((L ++ lyi_ z i).length : Int))), (4, .int l4), (5, .int (i_ (lsn_ p (L ++ lyi_ z i) (L ++ lyi_ z i).length : Int))), (6, .int (i_ ((i + 1 : Nat) : Int))), (7, .int l7)] [] s' Q) :
    (i_ (i : Int) = i_ z → vv_ γ m_X12_laysProgram 3 28 [(0, .ref 185), (1, .int l1), (2, .int (i_ z)), (3, .int (i_ (L.length : Int))), (4, .int l4), (5, .int (i_ (lsn_ p L L.length : Int))), (6, .int (i_ ((i + 1 : Nat) : Int))), (7, .int l7)] [] s Q) ∧
    (¬ i_ (i : Int) = i_ z → ∃ s11, Wd s11 ∧ fw_ γ m_X12_lays 2 [.ref 185, .int (i_ (L.length : Int)), .int (i_ (i : Int))] s s11 ∧
      vp_in (i_ (L.length : Int)) 40 ∧ vp_in (i_ (L.length : Int)) 40 ∧
      ((st_I s11 196 (i_ (L.length : Int)).toNatClampNeg) = (0 : Int32) → vv_ γ m_X12_laysProgram 3 28 [(0, .ref 185), (1, .int l1), (2, .int (i_ z)), (3, .int (i_ (L.length : Int) + 1)), (4, .int l4), (5, .int (i_ (lsn_ p L L.length : Int) + (1 : Int32))), (6, .int (i_ ((i + 1 : Nat) : Int))), (7, .int l7)] [] (pt_I s11 202 (i_ (L.length : Int)).toNatClampNeg (i_ (lsn_ p L L.length : Int))) Q) ∧
      (¬ (st_I s11 196 (i_ (L.length : Int)).toNatClampNeg) = (0 : Int32) → vv_ γ m_X12_laysProgram 3 28 [(0, .ref 185), (1, .int l1), (2, .int (i_ z)), (3, .int (i_ (L.length : Int) + 1)), (4, .int l4), (5, .int (i_ (lsn_ p L L.length : Int) + (0 : Int32))), (6, .int (i_ ((i + 1 : Nat) : Int))), (7, .int l7)] [] (pt_I s11 202 (i_ (L.length : Int)).toNatClampNeg (i_ (lsn_ p L L.length : Int))) Q)) := by
  have b := h.2.1.1.1
  have c5 := h.2.1.1.2.2.2.2 i 1
  have ll := lsn_le (p := p) (L := L) L.length
  rw [i_eq (by omega) (by omega)]
  refine ⟨fun y => ?_, fun y => ?_⟩
  · have e : lyi_ z i = [] := if_pos y
    rw [e, List.append_nil] at hk
    exact hk s h (fun _ => rfl)
  · have e : lyi_ z i = [(i : Int)] := if_neg y
    rw [e] at hk
    obtain ⟨s1, f1, ⟨-, f2⟩, f3, f4, f5⟩ := lz_push (γ := γ) (x := (i : Int)) h (Or.inr ⟨by omega, by omega⟩) (by omega)
    have it : itc_ p (i : Int) 1 = pC_ p i 1 := by
      unfold itc_
      rw [if_neg (by omega), Int.toNat_natCast]
    have vp : vp_in (i_ (L.length : Int)) 40 := i_in (by omega) (by omega) (by omega)
    have hk1 := hk _ (f2 _ rfl) (fun u => by rw [st_pI, if_neg (by omega)]; exact f4 u)
    rw [lsn_s] at hk1
    have el : ((L ++ [(i : Int)]).length : Int) = (L.length : Int) + 1 := by
      rw [List.length_append]
      show (((L.length + 1 : Nat)) : Int) = _
      omega
    rw [el] at hk1
    refine ⟨s1, f5, f1, vp, vp, ?_⟩
    rw [i_cl (by omega), Int.toNat_natCast, f3, it, k0_, i_eq (by omega) (by omega)]
    rw [it] at hk1
    refine ⟨fun y2 => ?_, fun y2 => ?_⟩
    · rw [if_pos y2] at hk1
      rw [k1_, i_add, i_add, show ((lsn_ p L L.length : Nat) : Int) + 1 = ((lsn_ p L L.length + 1 : Nat) : Int) by omega]
      exact hk1
    · rw [if_neg y2, Nat.add_zero] at hk1
      rw [k1_, i_add, i_add, show ((lsn_ p L L.length : Nat) : Int) + 0 = ((lsn_ p L L.length : Nat) : Int) by omega]
      exact hk1
/-- rows of begin, up to a thread -/
def Lb_ (s : st_T) (p : pr_T) (G : Nat) (z : Int) (t : Nat) : Prop := ∀ u, u < t → st_I s 203 u = i_ ((ly_ p G z (gB0_ p u)).length : Int)
theorem g31_ {G k : Nat} (hG : G < 2 ^ 30) (hk : k < 31) : ((i_ (G : Int) >>> (i_ (k : Int) &&& 31)) &&& (1 : Int32) = (1 : Int32)) ↔ G.testBit k = true := by
  rw [show (31 : Int32) = i_ 31 from rfl, i_shr (by omega) (Nat.lt_trans hG (by decide)), show (1 : Int32) = i_ ((1 : Nat) : Int) from rfl, i_and (Nat.lt_of_le_of_lt (Nat.div_le_self _ _) (by omega)) (by decide), Nat.and_one_is_mod, i_eq (by omega) (by omega), Nat.testBit_eq_decide_div_mod_eq, decide_eq_true_eq]
  omega
theorem l_lay28 (zP : Wp_ p) (hG : G < 2 ^ 30) (hz : -1 ≤ z ∧ z < 1000) {t : Nat} (ht : t < 4) {Q : rs_T → st_T → Prop}
    (hk : ∀ s, Lz_ σ0 p (ly_ p G z (gB0_ p (t + 1))) s → Lb_ s p G z (t + 1) → vv_ γ m_X12_laysProgram 3 14 [(0, .ref 185), (1, .int (i_ (G : Int))), (2, .int (i_ z)), (3, .int (i_ ((ly_ p G z (gB0_ p (t + 1))).length : Int))), (4, .int (i_ (ct_ (gb_ p) (gB0_ p (t + 1)) : Int))), (5, .int (i_ (lsn_ p (ly_ p G z (gB0_ p (t + 1))) (ly_ p G z (gB0_ p (t + 1))).length : Int))), (6, .int (i_ (gB0_ p (t + 1) : Int))), (7, .int (i_ ((t + 1 : Nat) : Int)))] [] s Q) :
    ∀ k i : Nat, k + i = pN_ p → gB0_ p t ≤ i → i ≤ gB0_ p (t + 1) → ∀ s, Lz_ σ0 p (ly_ p G z i) s → Lb_ s p G z (t + 1) → vv_ γ m_X12_laysProgram 3 28 [(0, .ref 185), (1, .int (i_ (G : Int))), (2, .int (i_ z)), (3, .int (i_ ((ly_ p G z i).length : Int))), (4, .int (i_ (ct_ (gb_ p) i : Int))), (5, .int (i_ (lsn_ p (ly_ p G z i) (ly_ p G z i).length : Int))), (6, .int (i_ (i : Int))), (7, .int (i_ (t : Int)))] [] s Q := by
  have b := zP.1.1
  have fin : ∀ i, i = gB0_ p (t + 1) → ∀ s, Lz_ σ0 p (ly_ p G z i) s → Lb_ s p G z (t + 1) → vv_ γ m_X12_laysProgram 3 14 [(0, .ref 185), (1, .int (i_ (G : Int))), (2, .int (i_ z)), (3, .int (i_ ((ly_ p G z i).length : Int))), (4, .int (i_ (ct_ (gb_ p) i : Int))), (5, .int (i_ (lsn_ p (ly_ p G z i) (ly_ p G z i).length : Int))), (6, .int (i_ (i : Int))), (7, .int (i_ (t : Int) + 1))] [] s Q := fun i e s h1 h2 => by
    subst e
    rw [k1_, i_add, show (t : Int) + 1 = ((t + 1 : Nat) : Int) by omega]
    exact hk s h1 h2
  intro k
  induction k with
  | zero =>
    intro i zi h1 h2 s hs hb
    have le := gB_le (p := p) (t + 1)
    refine g_X12_laysProgram_28 hs.1 ?_
    unfold p_X12_laysProgram_28
    rw [hs.2.1.2.1]
    refine ⟨fun _ => fin i (by omega) s hs hb, fun y => ?_⟩
    rw [i_le (by omega) (by omega)] at y
    omega
  | succ k ih =>
    intro i zi h1 h2 s hs hb
    have hi : i < pN_ p := by omega
    have th := gB_th zP (i := i) (t := t) hi
    have c0 := zP.1.2.2.2.2 i 0
    have len := ly_len p G z i
    have cg := ct_le (gb_ p) i
    refine g_X12_laysProgram_28 hs.1 ?_
    unfold p_X12_laysProgram_28
    rw [hs.2.1.2.1]
    refine ⟨fun y => ?_, fun _ => ⟨_, _, hs.1, c_rof (k := 0) hs.1 hs.2.1 hi (by decide), ?_⟩⟩
    · rw [i_le (by omega) (by omega)] at y
      omega
    · rw [i_eq (by omega) (by omega)]
      refine ⟨fun y => ⟨_, _, hs.1, c_risGap hs.1 hs.2.1 hi, ?_⟩, fun y => fin i ?_ s hs hb⟩
      · have hlt := (th.mp y).2
        have next : ∀ s', Lz_ σ0 p (ly_ p G z (i + 1)) s' → (∀ u, st_I s' 203 u = st_I s 203 u) → vv_ γ m_X12_laysProgram 3 28 [(0, .ref 185), (1, .int (i_ (G : Int))), (2, .int (i_ z)), (3, .int (i_ ((ly_ p G z (i + 1)).length : Int))), (4, .int (i_ (ct_ (gb_ p) (i + 1) : Int))), (5, .int (i_ (lsn_ p (ly_ p G z (i + 1)) (ly_ p G z (i + 1)).length : Int))), (6, .int (i_ ((i + 1 : Nat) : Int))), (7, .int (i_ (t : Int)))] [] s' Q := fun s' g1 g2 =>
          ih (i + 1) (by omega) (by omega) (by omega) s' g1 (fun u hu => by rw [g2]; exact hb u hu)
        have e1 : ∀ j : Nat, i_ (j : Int) + (1 : Int32) = i_ ((j + 1 : Nat) : Int) := fun j => by
          rw [k1_, i_add]
          exact congrArg i_ (by omega)
        by_cases yg : gb_ p i = true
        · have ec : ct_ (gb_ p) (i + 1) = ct_ (gb_ p) i + 1 := by
            show ct_ (gb_ p) i + (if gb_ p i = true then 1 else 0) = _
            rw [if_pos yg]
          rw [if_pos yg]
          refine ⟨fun y2 => absurd y2 (by decide), fun _ => ?_⟩
          rw [g31_ hG (by omega), e1 i, e1 (ct_ (gb_ p) i)]
          rw [ec] at next
          refine ⟨fun yb => ?_, fun yb => ?_⟩
          · have ef : lyf_ p G i = [-1] := by
              unfold lyf_
              rw [yg, yb]
              rfl
            have ely : ly_ p G z (i + 1) = (ly_ p G z i ++ [-1]) ++ lyi_ z i := by
              show ly_ p G z i ++ lyf_ p G i ++ lyi_ z i = _
              rw [ef]
            rw [ely] at next
            obtain ⟨s1, f1, ⟨f2, -⟩, f3, f4, f5⟩ := lz_push (γ := γ) (x := -1) hs (Or.inl rfl) (by omega)
            have e3 : itc_ p (-1) 1 = 3 := rfl
            have f2 := f2 (by rw [e3]; decide)
            rw [show i_ (-1) = (-1 : Int32) by decide] at f1
            refine ⟨s1, f5, f1, ?_⟩
            have tl := lay_tail (γ := γ) (z := z) (i := i) (l1 := i_ (G : Int)) (l4 := i_ ((ct_ (gb_ p) i + 1 : Nat) : Int)) (l7 := i_ (t : Int)) (Q := Q) f2 hi (by rw [List.length_append]; show (ly_ p G z i).length + 1 < 39; omega) hz (fun s' g1 g2 => next s' g1 (fun u => (g2 u).trans (f4 u)))
            have el : (ly_ p G z i ++ [(-1 : Int)]).length = (ly_ p G z i).length + 1 := List.length_append
            have es : lsn_ p (ly_ p G z i ++ [(-1 : Int)]) (ly_ p G z i ++ [(-1 : Int)]).length = lsn_ p (ly_ p G z i) (ly_ p G z i).length := by
              rw [lsn_s, e3]
              rfl
            rw [es, el] at tl
            rw [e1 (ly_ p G z i).length]
            exact tl
          · have ef : lyf_ p G i = [] := by
              unfold lyf_
              rw [yg, Bool.eq_false_iff.mpr yb]
              rfl
            have ely : ly_ p G z (i + 1) = ly_ p G z i ++ lyi_ z i := by
              show ly_ p G z i ++ lyf_ p G i ++ lyi_ z i = _
              rw [ef, List.append_nil]
            rw [ely] at next
            exact lay_tail (γ := γ) (z := z) (i := i) (l1 := i_ (G : Int)) (l4 := i_ ((ct_ (gb_ p) i + 1 : Nat) : Int)) (l7 := i_ (t : Int)) (Q := Q) hs hi (by omega) hz next
        · have ec : ct_ (gb_ p) (i + 1) = ct_ (gb_ p) i := by
            show ct_ (gb_ p) i + (if gb_ p i = true then 1 else 0) = _
            rw [if_neg yg]
            rfl
          rw [if_neg yg]
          refine ⟨fun _ => ?_, fun y2 => absurd rfl y2⟩
          have ef : lyf_ p G i = [] := by
            unfold lyf_
            rw [Bool.eq_false_iff.mpr yg]
            rfl
          have ely : ly_ p G z (i + 1) = ly_ p G z i ++ lyi_ z i := by
            show ly_ p G z i ++ lyf_ p G i ++ lyi_ z i = _
            rw [ef, List.append_nil]
          rw [ec, ely] at next
          rw [e1 i]
          exact lay_tail (γ := γ) (z := z) (i := i) (l1 := i_ (G : Int)) (l4 := i_ (ct_ (gb_ p) i : Int)) (l7 := i_ (t : Int)) (Q := Q) hs hi (by omega) hz next
      · have : ¬ (gB0_ p t ≤ i ∧ i < gB0_ p (t + 1)) := fun h => y (th.mpr h)
        omega
/-- the machine that is laid: gaps, the instruction left out, the model -/
def gly_ (p : pr_T) (G : Nat) (z : Int) (m : Nat) : gm_T := (lc0_ p (ly_ p G z (pN_ p)), fun t => (ly_ p G z (gB0_ p t)).length, fun n => decide (2 ≤ lc0_ p (ly_ p G z (pN_ p)) n 1), m)
def Kl_ (p : pr_T) (G : Nat) (z : Int) : Nat := (ly_ p G z (pN_ p)).length
theorem c_rlaysP (zw : Wd σ) (zN : Nr_ σ p) (zP : Wp_ p) (hG : G < 2 ^ 30) (hz : -1 ≤ z ∧ z < 1000) : ∃ s, fw_ γ m_X12_laysProgram 3 [.ref 185, .int (i_ (G : Int)), .int (i_ z)] σ s ∧ Wd s ∧ Nr_ s p ∧ Lr_ s p (ly_ p G z (pN_ p)) ∧ ro_ dL_ σ s ∧ Lb_ s p G z 5 := by
  have key : sp_ γ m_X12_laysProgram 3 [.ref 185, .int (i_ (G : Int)), .int (i_ z)] σ (fun r s => r = .inl none ∧ (Wd s ∧ Nr_ s p ∧ Lr_ s p (ly_ p G z (pN_ p)) ∧ ro_ dL_ σ s ∧ Lb_ s p G z 5)) := by
    refine e_X12_laysProgram zw ?_
    unfold p_X12_laysProgram_0
    have b := zP.1.1
    have bT := zP.1.2.1
    have lp : ∀ k t : Nat, k + t = 4 → ∀ s, Lz_ σ p (ly_ p G z (gB0_ p t)) s → Lb_ s p G z t → vv_ γ m_X12_laysProgram 3 14 [(0, .ref 185), (1, .int (i_ (G : Int))), (2, .int (i_ z)), (3, .int (i_ ((ly_ p G z (gB0_ p t)).length : Int))), (4, .int (i_ (ct_ (gb_ p) (gB0_ p t) : Int))), (5, .int (i_ (lsn_ p (ly_ p G z (gB0_ p t)) (ly_ p G z (gB0_ p t)).length : Int))), (6, .int (i_ (gB0_ p t : Int))), (7, .int (i_ (t : Int)))] [] s (fun r s => r = .inl none ∧ (Wd s ∧ Nr_ s p ∧ Lr_ s p (ly_ p G z (pN_ p)) ∧ ro_ dL_ σ s ∧ Lb_ s p G z 5)) := by
      intro k
      induction k with
      | zero =>
        intro t zt s hs hb
        have zt : t = 4 := by omega
        subst zt
        have e4 : gB0_ p 4 = pN_ p := gB_T zP (by omega)
        rw [e4] at hs ⊢
        obtain ⟨h1, h2, h3, h4⟩ := hs
        have R : ro_ dL_ s (pt_I s 203 4 (i_ ((ly_ p G z (pN_ p)).length : Int))) := ro_I ro_rf ⟨by decide, by decide⟩
        refine g_X12_laysProgram_14 h1 ?_
        unfold p_X12_laysProgram_14
        refine ⟨fun _ => ⟨rfl, ro_wd R h1, nr_ro R (fun k h => by unfold dL_ at h; omega) h2, fun n x hx => ?_, ro_tr h4 R, fun u hu => ?_⟩, fun y => absurd (by decide) y⟩
        · have f : ∀ a, a ≠ 203 → st_I (pt_I s 203 4 (i_ ((ly_ p G z (pN_ p)).length : Int))) a n = st_I s a n := fun a ha => by rw [st_pI, if_neg (fun y => ha y.1)]
          rw [f _ (by decide), f _ (by decide), f _ (by decide), f _ (by decide), f _ (by decide), f _ (by decide), f _ (by decide)]
          exact h3 n x hx
        · by_cases e : u = 4
          · rw [e, e4, st_sI]
          · rw [st_pI, if_neg (fun y => e y.2)]
            exact hb u (by omega)
      | succ k ih =>
        intro t zt s hs hb
        have ht : t < 4 := by omega
        obtain ⟨h1, h2, h3, h4⟩ := hs
        have len := ly_len p G z (gB0_ p t)
        have le := gB_le (p := p) t
        have R : ro_ dL_ s (pt_I s 203 t (i_ ((ly_ p G z (gB0_ p t)).length : Int))) := ro_I ro_rf ⟨by decide, by decide⟩
        refine g_X12_laysProgram_14 h1 ?_
        unfold p_X12_laysProgram_14
        rw [i_cl (by omega), Int.toNat_natCast]
        refine ⟨fun y => ?_, fun _ => ⟨i_in (by omega) (by omega) (by omega), ?_⟩⟩
        · rw [k4_, i_le (by omega) (by omega)] at y
          omega
        · refine l_lay28 zP hG hz ht (fun s' g1 g2 => ih (t + 1) (by omega) s' g1 g2) (pN_ p - gB0_ p t) (gB0_ p t) (by omega) (Nat.le_refl _) (gB_mono zP (Nat.le_succ t)) _ ⟨ro_wd R h1, nr_ro R (fun k h => by unfold dL_ at h; omega) h2, fun n x hx => ?_, ro_tr h4 R⟩ (fun u hu => ?_)
          · have f : ∀ a, a ≠ 203 → st_I (pt_I s 203 t (i_ ((ly_ p G z (gB0_ p t)).length : Int))) a n = st_I s a n := fun a ha => by rw [st_pI, if_neg (fun y => ha y.1)]
            rw [f _ (by decide), f _ (by decide), f _ (by decide), f _ (by decide), f _ (by decide), f _ (by decide), f _ (by decide)]
            exact h3 n x hx
          · by_cases e : u = t
            · rw [e, st_sI]
            · rw [st_pI, if_neg (fun y => e y.2)]
              exact hb u (by omega)
    have z0 := lp 4 0 rfl σ (by rw [gB_0 zP]; exact ⟨zw, zN, fun n x hx => by simp [ly_] at hx, ro_rf⟩) (fun u hu => absurd hu (Nat.not_lt_zero u))
    rw [gB_0 zP] at z0
    rw [k0_]
    exact z0
  exact fw_of key
end RP
