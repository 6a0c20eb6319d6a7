/-! the reference: a program is laid -/
section RL
variable {γ : ga_T} {σ σ1 : st_T} {p : pr_T} {L : List Int} {n : Nat}
theorem c_rof (zw : Wd σ) (zN : Nr_ σ p) {i k : Nat} (q1 : i < pN_ p) (q2 : k < 6) : fn_ γ m_X12_of 1 [.ref 185, .int (i_ (i : Int)), .int (i_ (k : Int))] σ (.int (i_ (pC_ p i k))) σ := by
  have b := zN.1.1
  have y := zN.2.2.2.2.2 i k q1 q2
  refine fn_q (fun Q zQ => e_X12_of zw ?_)
  unfold p_X12_of_0
  refine ⟨_, σ, zw, fn_q (fun Q2 zQ2 => e_X12_at zw ?_), zQ⟩
  unfold p_X12_at_0
  refine ⟨174, wS_187 zw, ?_⟩
  rw [show ((6 : Int32) + ((6 : Int32) * i_ (i : Int))) + i_ (k : Int) = i_ ((6 + 6 * i + k : Nat) : Int) by rw [k6_, i_mul, i_add, i_add]; exact congrArg i_ (by omega), i_cl (by omega), Int.toNat_natCast, y]
  exact ⟨i_in (by omega) (by omega) (by omega), zQ2⟩
theorem c_risGap (zw : Wd σ) (zN : Nr_ σ p) {i : Nat} (q1 : i < pN_ p) : fn_ γ m_X12_isGap 2 [.ref 185, .int (i_ (i : Int))] σ (.int (if gb_ p i = true then 1 else 0)) σ := by
  have b := zN.1.1
  have c5 := zN.1.2.2.2.2
  refine fn_q (fun Q zQ => e_X12_isGap zw ?_)
  unfold p_X12_isGap_0
  refine ⟨fun z => ?_, fun z => ?_⟩
  · rw [k0_, i_le (by omega) (by omega)] at z
    rw [if_neg (by unfold gb_; simp; omega)] at zQ
    exact zQ
  · rw [k0_, i_le (by omega) (by omega)] at z
    have e1 : i_ (i : Int) - (1 : Int32) = i_ ((i - 1 : Nat) : Int) := by
      rw [k1_, i_sub]
      exact congrArg i_ (by omega)
    have pe : ∀ k : Nat, k < 6 → pp_ p i k = pC_ p i k := fun k hk => by
      unfold pp_
      rw [if_pos (by omega)]
      rfl
    have pe1 : ∀ k : Nat, k < 6 → pp_ p ((i : Int) - 1) k = pC_ p (i - 1) k := fun k hk => by
      unfold pp_
      rw [if_pos (by omega), show ((i : Int) - 1).toNat = i - 1 by omega]
      rfl
    have a0 := pe 0 (by decide)
    have a1 := pe 1 (by decide)
    have a2 := pe1 0 (by decide)
    have a3 := pe1 1 (by decide)
    have b0 := c5 i 0
    have b1 := c5 i 1
    have b2 := c5 (i - 1) 0
    have b3 := c5 (i - 1) 1
    have eg : gb_ p i = decide (0 < i ∧ pC_ p (i - 1) 0 = pC_ p i 0 ∧ pC_ p (i - 1) 1 ≠ 3 ∧ pC_ p i 1 ≠ 3) := by
      unfold gb_
      have a0 : pp_ p (i : Int) 0 = pC_ p i 0 := a0
      have a1 : pp_ p (i : Int) 1 = pC_ p i 1 := a1
      have a2 : pp_ p ((i : Int) - 1) 0 = pC_ p (i - 1) 0 := a2
      have a3 : pp_ p ((i : Int) - 1) 1 = pC_ p (i - 1) 1 := a3
      rw [a0, a1, a2, a3]
    rw [eg] at zQ
    rw [e1]
    have o := fun k hk => c_rof (γ := γ) zw zN (i := i) (k := k) q1 hk
    have o1 := fun k hk => c_rof (γ := γ) zw zN (i := i - 1) (k := k) (by omega) hk
    refine ⟨_, _, zw, o 0 (by decide), _, _, zw, o1 0 (by decide), ?_⟩
    rw [i_eq (by omega) (by omega)]
    refine ⟨fun y1 => ⟨_, _, zw, o 1 (by decide), ?_⟩, fun y1 => ?_⟩
    · rw [k3_, i_eq (by omega) (by omega)]
      refine ⟨fun y2 => ?_, fun y2 => ⟨_, _, zw, o1 1 (by decide), ?_⟩⟩
      · rw [if_neg (by rw [decide_eq_true_eq]; exact fun h => h.2.2.2 y2)] at zQ
        exact zQ
      · rw [i_eq (by omega) (by omega)]
        refine ⟨fun y3 => ?_, fun y3 => ?_⟩
        · rw [if_neg (by rw [decide_eq_true_eq]; exact fun h => h.2.2.1 y3)] at zQ
          exact zQ
        · rw [if_pos (by rw [decide_eq_true_eq]; exact ⟨by omega, y1.symm, y3, y2⟩)] at zQ
          exact zQ
    · rw [if_neg (by rw [decide_eq_true_eq]; exact fun h => y1 h.2.1.symm)] at zQ
      exact zQ
/-- a property of an item: of an instruction, or of a fence in a gap (-1) -/
def itc_ (p : pr_T) (x : Int) (k : Nat) : Int := if x = -1 then (if k = 1 then 3 else -1) else pC_ p x.toNat k
def lc0_ (p : pr_T) (L : List Int) (n k : Nat) : Int := match L[n]? with
  | some x => itc_ p x k
  | none => -1
def lsn_ (p : pr_T) (L : List Int) (n : Nat) : Nat := ct_ (fun j => decide (lc0_ p L j 1 = 0)) n
def dL_ (a _k : Nat) : Prop := 196 ≤ a ∧ a ≤ 203
/-- the items' rows -/
def Lr_ (σ : st_T) (p : pr_T) (L : List Int) : Prop := ∀ n x, L[n]? = some x → st_I σ 201 n = i_ x ∧ st_I σ 196 n = i_ (itc_ p x 1) ∧ st_I σ 197 n = i_ (itc_ p x 2) ∧ st_I σ 198 n = i_ (itc_ p x 3) ∧ st_I σ 199 n = i_ (itc_ p x 4) ∧ st_I σ 200 n = i_ (itc_ p x 5) ∧ (itc_ p x 1 = 0 → st_I σ 202 n = i_ (lsn_ p L n : Int))
theorem c_rlays (zw : Wd σ) (zN : Nr_ σ p) {x : Int} (hx : x = -1 ∨ (0 ≤ x ∧ x < pN_ p)) (hn : n < 40) : fw_ γ m_X12_lays 2 [.ref 185, .int (i_ (n : Int)), .int (i_ x)] σ (pt_I (pt_I (pt_I (pt_I (pt_I (pt_I σ 201 n (i_ x)) 196 n (i_ (itc_ p x 1))) 197 n (i_ (itc_ p x 2))) 198 n (i_ (itc_ p x 3))) 199 n (i_ (itc_ p x 4))) 200 n (i_ (itc_ p x 5))) := by
  have b := zN.1.1
  refine fw_q (fun Q zQ => e_X12_lays zw ?_)
  unfold p_X12_lays_0
  rw [i_cl (by omega), Int.toNat_natCast]
  have vp : vp_in (i_ (n : Int)) 40 := i_in (by omega) (by omega) (by omega)
  rcases hx with rfl | ⟨h0, h1⟩
  · have e1 : i_ (-1) = (-1 : Int32) := by decide
    exact ⟨vp, fun _ => ⟨vp, fun _ => ⟨vp, fun _ => ⟨vp, fun _ => ⟨vp, fun _ => ⟨vp, zQ⟩, fun z => absurd e1 z⟩, fun z => absurd e1 z⟩, fun z => absurd e1 z⟩, fun z => absurd e1 z⟩, fun z => absurd e1 z⟩
  · obtain ⟨i, rfl⟩ : ∃ i : Nat, x = i := ⟨x.toNat, by omega⟩
    have e1 : ¬ i_ (i : Int) = (-1 : Int32) := by
      rw [show (-1 : Int32) = i_ (-1) by decide, i_eq (by omega) (by omega)]
      omega
    have it : ∀ k, itc_ p (i : Int) k = pC_ p i k := fun k => by
      unfold itc_
      rw [if_neg (by omega), Int.toNat_natCast]
    rw [it, it, it, it, it] at zQ
    have F : ∀ s : st_T, ro_ dL_ σ s → Wd s ∧ Nr_ s p := fun s h => ⟨ro_wd h zw, nr_ro h (fun k h => by unfold dL_ at h; omega) zN⟩
    have d : ∀ a k, 196 ≤ a → a ≤ 203 → dL_ a k := fun a k z1 z2 => ⟨z1, z2⟩
    have R0 : ro_ dL_ σ (pt_I σ 201 n (i_ (i : Int))) := ro_I ro_rf (d _ _ (by decide) (by decide))
    have R1 := ro_I (a := 196) (k := n) (x := i_ (pC_ p i 1)) R0 (d _ _ (by decide) (by decide))
    have R2 := ro_I (a := 197) (k := n) (x := i_ (pC_ p i 2)) R1 (d _ _ (by decide) (by decide))
    have R3 := ro_I (a := 198) (k := n) (x := i_ (pC_ p i 3)) R2 (d _ _ (by decide) (by decide))
    have R4 := ro_I (a := 199) (k := n) (x := i_ (pC_ p i 4)) R3 (d _ _ (by decide) (by decide))
    have hi : i < pN_ p := by omega
    refine ⟨vp, fun z => absurd z e1, fun _ => ⟨_, _, (F _ R0).1, c_rof (F _ R0).1 (F _ R0).2 (k := 1) hi (by decide), vp, fun z => absurd z e1, fun _ => ⟨_, _, (F _ R1).1, c_rof (F _ R1).1 (F _ R1).2 (k := 2) hi (by decide), vp, fun z => absurd z e1, fun _ => ⟨_, _, (F _ R2).1, c_rof (F _ R2).1 (F _ R2).2 (k := 3) hi (by decide), vp, fun z => absurd z e1, fun _ => ⟨_, _, (F _ R3).1, c_rof (F _ R3).1 (F _ R3).2 (k := 4) hi (by decide), vp, fun z => absurd z e1, fun _ => ⟨_, _, (F _ R4).1, c_rof (F _ R4).1 (F _ R4).2 (k := 5) hi (by decide), vp, zQ⟩⟩⟩⟩⟩⟩
theorem lc0_app {n k : Nat} {T : List Int} (h : n < L.length) : lc0_ p (L ++ T) n k = lc0_ p L n k := by
  unfold lc0_
  rw [List.getElem?_append_left h]
theorem lsn_app {T : List Int} {n : Nat} (h : n ≤ L.length) : lsn_ p (L ++ T) n = lsn_ p L n := ct_cg (fun j zj => by rw [lc0_app (by omega)])
theorem lr_push {x : Int} (hL : Lr_ σ p L) (h : ∀ a k, ¬ (196 ≤ a ∧ a ≤ 202 ∧ k = L.length) → 196 ≤ a → a ≤ 202 → st_I σ1 a k = st_I σ a k) (h0 : st_I σ1 201 L.length = i_ x) (h1 : st_I σ1 196 L.length = i_ (itc_ p x 1)) (h2 : st_I σ1 197 L.length = i_ (itc_ p x 2)) (h3 : st_I σ1 198 L.length = i_ (itc_ p x 3)) (h4 : st_I σ1 199 L.length = i_ (itc_ p x 4)) (h5 : st_I σ1 200 L.length = i_ (itc_ p x 5)) (h6 : itc_ p x 1 = 0 → st_I σ1 202 L.length = i_ (lsn_ p L L.length : Int)) : Lr_ σ1 p (L ++ [x]) := by
  intro n y hy
  by_cases e : n < L.length
  · rw [List.getElem?_append_left e] at hy
    obtain ⟨a0, a1, a2, a3, a4, a5, a6⟩ := hL n y hy
    have f : ∀ a, 196 ≤ a → a ≤ 202 → st_I σ1 a n = st_I σ a n := fun a z1 z2 => h a n (by omega) z1 z2
    refine ⟨(f _ (by decide) (by decide)).trans a0, (f _ (by decide) (by decide)).trans a1, (f _ (by decide) (by decide)).trans a2, (f _ (by decide) (by decide)).trans a3, (f _ (by decide) (by decide)).trans a4, (f _ (by decide) (by decide)).trans a5, fun z => ?_⟩
    rw [lsn_app (by omega)]
    exact (f _ (by decide) (by decide)).trans (a6 z)
  · have y1 := (List.getElem?_eq_some_iff.mp hy).1
    rw [List.length_append] at y1
    have y1 : n < L.length + 1 := y1
    have y2 : n = L.length := by omega
    subst y2
    rw [List.getElem?_append_right (Nat.le_refl _), Nat.sub_self] at hy
    have hy : some x = some y := hy
    rw [← Option.some.inj hy, lsn_app (Nat.le_refl _)]
    exact ⟨h0, h1, h2, h3, h4, h5, h6⟩
/-- what is laid for the first i instructions -/
def lyf_ (p : pr_T) (G : Nat) (i : Nat) : List Int := if (gb_ p i && G.testBit (ct_ (gb_ p) i)) = true then [-1] else []
def lyi_ (z : Int) (i : Nat) : List Int := if (i : Int) = z then [] else [(i : Int)]
def ly_ (p : pr_T) (G : Nat) (z : Int) : Nat → List Int
  | 0 => []
  | i + 1 => ly_ p G z i ++ lyf_ p G i ++ lyi_ z i
theorem ly_len (p : pr_T) (G : Nat) (z : Int) : ∀ i, (ly_ p G z i).length ≤ 2 * i
  | 0 => Nat.le_refl _
  | i + 1 => by
    have y := ly_len p G z i
    show (ly_ p G z i ++ lyf_ p G i ++ lyi_ z i).length ≤ _
    rw [List.length_append, List.length_append]
    have y1 : (lyf_ p G i).length ≤ 1 := by
      unfold lyf_
      split
      · exact Nat.le_refl _
      · exact Nat.zero_le _
    have y2 : (lyi_ z i).length ≤ 1 := by
      unfold lyi_
      split
      · exact Nat.zero_le _
      · exact Nat.le_refl _
    omega
/-- as the laying goes -/
def Lz_ (σ0 : st_T) (p : pr_T) (L : List Int) (s : st_T) : Prop := Wd s ∧ Nr_ s p ∧ Lr_ s p L ∧ ro_ dL_ σ0 s
theorem lz_push {σ0 s : st_T} {x : Int} (h : Lz_ σ0 p L s) (hx : x = -1 ∨ (0 ≤ x ∧ x < pN_ p)) (hn : L.length < 40) : ∃ s1, fw_ γ m_X12_lays 2 [.ref 185, .int (i_ (L.length : Int)), .int (i_ x)] s s1 ∧ ((itc_ p x 1 ≠ 0 → Lz_ σ0 p (L ++ [x]) s1) ∧ ∀ v : Int32, (v = i_ (lsn_ p L L.length : Int)) → Lz_ σ0 p (L ++ [x]) (pt_I s1 202 L.length v)) ∧ st_I s1 196 L.length = i_ (itc_ p x 1) ∧ (∀ t, st_I s1 203 t = st_I s 203 t) ∧ Wd s1 := by
  obtain ⟨h1, h2, h3, h4⟩ := h
  have d : ∀ a k, 196 ≤ a → a ≤ 203 → dL_ a k := fun a k z1 z2 => ⟨z1, z2⟩
  have R : ro_ dL_ s (pt_I (pt_I (pt_I (pt_I (pt_I (pt_I s 201 L.length (i_ x)) 196 L.length (i_ (itc_ p x 1))) 197 L.length (i_ (itc_ p x 2))) 198 L.length (i_ (itc_ p x 3))) 199 L.length (i_ (itc_ p x 4))) 200 L.length (i_ (itc_ p x 5))) :=
    ro_I (ro_I (ro_I (ro_I (ro_I (ro_I ro_rf (d _ _ (by decide) (by decide))) (d _ _ (by decide) (by decide))) (d _ _ (by decide) (by decide))) (d _ _ (by decide) (by decide))) (d _ _ (by decide) (by decide))) (d _ _ (by decide) (by decide))
  have fr : ∀ a k, ¬ (196 ≤ a ∧ a ≤ 202 ∧ k = L.length) → st_I (pt_I (pt_I (pt_I (pt_I (pt_I (pt_I s 201 L.length (i_ x)) 196 L.length (i_ (itc_ p x 1))) 197 L.length (i_ (itc_ p x 2))) 198 L.length (i_ (itc_ p x 3))) 199 L.length (i_ (itc_ p x 4))) 200 L.length (i_ (itc_ p x 5))) a k = st_I s a k := fun a k z => by
    rw [st_pI, if_neg (by omega), st_pI, if_neg (by omega), st_pI, if_neg (by omega), st_pI, if_neg (by omega), st_pI, if_neg (by omega), st_pI, if_neg (by omega)]
  refine ⟨_, c_rlays h1 h2 hx hn, ⟨fun hk => ?_, fun v hv => ?_⟩, ?_, fun t => fr 203 t (by omega), ro_wd R h1⟩
  · refine ⟨ro_wd R h1, nr_ro R (fun k h => by unfold dL_ at h; omega) h2, lr_push h3 (fun a k z _ _ => fr a k z) ?_ ?_ ?_ ?_ ?_ ?_ (fun z => absurd z hk), ro_tr h4 R⟩
    all_goals simp [st_pI]
  · have R2 : ro_ dL_ s (pt_I (pt_I (pt_I (pt_I (pt_I (pt_I (pt_I s 201 L.length (i_ x)) 196 L.length (i_ (itc_ p x 1))) 197 L.length (i_ (itc_ p x 2))) 198 L.length (i_ (itc_ p x 3))) 199 L.length (i_ (itc_ p x 4))) 200 L.length (i_ (itc_ p x 5))) 202 L.length v) := ro_I R (d _ _ (by decide) (by decide))
    refine ⟨ro_wd R2 h1, nr_ro R2 (fun k h => by unfold dL_ at h; omega) h2, lr_push h3 (fun a k z _ _ => ?_) ?_ ?_ ?_ ?_ ?_ ?_ (fun z => ?_), ro_tr h4 R2⟩
    · rw [st_pI, if_neg (by omega)]
      exact fr a k z
    · simp [st_pI]
    · simp [st_pI]
    · simp [st_pI]
    · simp [st_pI]
    · simp [st_pI]
    · simp [st_pI]
    · rw [st_sI]
      exact hv
  · simp [st_pI]
end RL
