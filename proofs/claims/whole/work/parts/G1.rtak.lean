/-! the reference's explanation: a step is told -/
section RT
variable {γ : ga_T} {σ s s1 : st_T} {p : pr_T} {g : gm_T} {K t w n k l m : Nat} {S S2 : gs_T} {e : ex_T} {W : List Nat}
/-- the rows of writers -/
def Wt_ (s : st_T) (p : pr_T) (W : List Nat) : Prop := ∀ l, l < 3 → st_I s 215 l = i_ ((wlf_ p l W).length : Int) ∧ st_I s 216 l = i_ (ltw_ p W (l : Int)) ∧ ∀ (k n : Nat), (wlf_ p l W)[k]? = some n → st_I s 214 (60 * l + k) = i_ (n : Int)
theorem wlf_app (W : List Nat) (n l : Nat) : wlf_ p l (W ++ [n]) = wlf_ p l W ++ (if pC_ p n 2 = (l : Int) then [n] else []) := by
  unfold wlf_
  rw [List.filter_append]
  by_cases c : pC_ p n 2 = (l : Int)
  · rw [if_pos c, List.filter_cons_of_pos (p := fun n => decide (pC_ p n 2 = (l : Int))) (decide_eq_true c)]
    rfl
  · rw [if_neg c, List.filter_cons_of_neg (p := fun n => decide (pC_ p n 2 = (l : Int))) (by rw [decide_eq_true_eq]; exact c)]
    rfl
theorem wlf_le (W : List Nat) (l : Nat) : (wlf_ p l W).length ≤ W.length := List.length_filter_le _ _
theorem ltw_app (W : List Nat) (n : Nat) (l : Int) : ltw_ p (W ++ [n]) l = if pp_ p n 2 = l then (n : Int) else ltw_ p W l := by
  unfold ltw_
  rw [List.foldl_append]
  rfl
def wrt_ (s : st_T) (l k : Nat) (x : Int32) : st_T := pt_I (pt_I (pt_I s 214 (60 * l + k) x) 215 l (i_ ((k + 1 : Nat) : Int))) 216 l x
theorem c_rwrites (zw : Wd s) (hl : l < 3) (hk : k < 60) (h : st_I s 215 l = i_ (k : Int)) (x : Int32) : fw_ γ m_X12_writes 0 [.ref 185, .int (i_ (l : Int)), .int x] s (wrt_ s l k x) := fw_q (fun Q zQ => e_X12_writes zw (by
  unfold p_X12_writes_0
  rw [i_cl (by omega), Int.toNat_natCast, h, k60_, i_mul, i_add, i_cl (by omega), k1_, i_add]
  have e : ((60 : Int) * l + k).toNat = 60 * l + k := by omega
  have e2 : (k : Int) + 1 = ((k + 1 : Nat) : Int) := by omega
  rw [e, e2]
  exact ⟨i_in (by omega) (by omega) (by omega), i_in (by omega) (by omega) (by omega), i_in (by omega) (by omega) (by omega), i_in (by omega) (by omega) (by omega), i_in (by omega) (by omega) (by omega), zQ⟩))
theorem wt_w (h : Wt_ s p W) (hn : n < pN_ p) (hl : pC_ p n 2 = (l : Int)) (h3 : l < 3) (hW : W.length < 60) : Wt_ (wrt_ s l (wlf_ p l W).length (i_ (n : Int))) p (W ++ [n]) := by
  intro j hj
  obtain ⟨a1, a2, a3⟩ := h j hj
  have lw := wlf_le (p := p) W l
  have lwj := wlf_le (p := p) W j
  have ep : pp_ p (n : Int) 2 = pC_ p n 2 := pp_in (k := 2) hn (by decide)
  unfold wrt_
  rw [wlf_app, ltw_app, ep]
  by_cases c : j = l
  · subst c
    rw [if_pos hl, if_pos hl]
    refine ⟨?_, ?_, fun k x hx => ?_⟩
    · rw [st_pI, if_neg (by omega), st_pI, if_pos ⟨rfl, rfl⟩, List.length_append]
      rfl
    · rw [st_sI]
    · rw [st_pI, if_neg (by omega), st_pI, if_neg (by omega), st_pI]
      by_cases z : k < (wlf_ p j W).length
      · rw [List.getElem?_append_left z] at hx
        rw [if_neg (by omega)]
        exact a3 k x hx
      · have z2 := (List.getElem?_eq_some_iff.mp hx).1
        rw [List.length_append, List.length_singleton] at z2
        have z3 : k = (wlf_ p j W).length := by omega
        subst z3
        rw [List.getElem?_append_right (Nat.le_refl _), Nat.sub_self] at hx
        have hx : some n = some x := hx
        rw [if_pos ⟨rfl, rfl⟩, Option.some.inj hx]
  · have c2 : ¬ pC_ p n 2 = (j : Int) := by omega
    rw [if_neg c2, if_neg c2, List.append_nil]
    refine ⟨?_, ?_, fun k x hx => ?_⟩
    · rw [st_pI, if_neg (by omega), st_pI, if_neg (by omega), st_pI, if_neg (by omega)]
      exact a1
    · rw [st_pI, if_neg (by omega), st_pI, if_neg (by omega), st_pI, if_neg (by omega)]
      exact a2
    · have z2 := (List.getElem?_eq_some_iff.mp hx).1
      rw [st_pI, if_neg (by omega), st_pI, if_neg (by omega), st_pI, if_neg (by omega)]
      exact a3 k x hx
def dKx_ (a k : Nat) : Prop := (212 ≤ a ∧ a ≤ 216) ∨ (a = 185 ∧ k = 53)
def dKy_ (a _k : Nat) : Prop := 214 ≤ a ∧ a ≤ 216
theorem wrt_ro (x : Int32) : ro_ dKy_ s (wrt_ s l k x) := ro_I (ro_I (ro_I ro_rf (show dKy_ _ _ by unfold dKy_; omega)) (show dKy_ _ _ by unfold dKy_; omega)) (show dKy_ _ _ by unfold dKy_; omega)
/-- what is told of a write -/
theorem tk_tail {x1 : st_T} {Q : rs_T → st_T → Prop} (w1 : Wd x1) (hn : n < pN_ p) (hN : pN_ p ≤ 10) {kd : Int} {mo : Nat} (hkd : 0 ≤ kd ∧ kd ≤ 3) (hmo : mo < 3) (hlo : kd = 0 ∨ kd = 2 → 0 ≤ pC_ p n 2 ∧ pC_ p n 2 < 3) (hW : Wt_ x1 p W) (hW2 : W.length < 60)
    (zQ : ∀ s2, Wd s2 → ro_ dKy_ x1 s2 → Wt_ s2 p (if kd = 2 ∨ (kd = 0 ∧ mo = 0) then W ++ [n] else W) → Q (.inl none) s2) :
    vp_in (i_ (n : Int)) 40 ∧ (i_ kd = (2 : Int32) → vp_in (i_ (n : Int)) 40 ∧ vp_in (i_ (n : Int)) 40 ∧ ∃ s8, Wd s8 ∧ fw_ γ m_X12_writes 0 [.ref 185, .int (i_ (pC_ p n 2)), .int (i_ (n : Int))] x1 s8 ∧ Q (.inl none) s8) ∧
    (¬ i_ kd = (2 : Int32) → vp_in (i_ (n : Int)) 40 ∧ (i_ kd = (0 : Int32) → (i_ (mo : Int) = (0 : Int32) → vp_in (i_ (n : Int)) 40 ∧ vp_in (i_ (n : Int)) 40 ∧ ∃ s8, Wd s8 ∧ fw_ γ m_X12_writes 0 [.ref 185, .int (i_ (pC_ p n 2)), .int (i_ (n : Int))] x1 s8 ∧ Q (.inl none) s8) ∧ (¬ i_ (mo : Int) = (0 : Int32) → Q (.inl none) x1)) ∧ (¬ i_ kd = (0 : Int32) → Q (.inl none) x1)) := by
  rw [k2_, k0_, i_eq (by omega) (by omega), i_eq (by omega) (by omega), i_eq (by omega) (by omega)]
  have vi : vp_in (i_ (n : Int)) 40 := i_in (by omega) (by omega) (by omega)
  have wr : (kd = 2 ∨ (kd = 0 ∧ mo = 0)) → ∃ s8, Wd s8 ∧ fw_ γ m_X12_writes 0 [.ref 185, .int (i_ (pC_ p n 2)), .int (i_ (n : Int))] x1 s8 ∧ Q (.inl none) s8 := fun h => by
    obtain ⟨b1, b2⟩ := hlo (by omega)
    obtain ⟨l, hl⟩ : ∃ l : Nat, pC_ p n 2 = l := ⟨(pC_ p n 2).toNat, by omega⟩
    have h3 : l < 3 := by omega
    have y := wt_w hW hn hl h3 hW2
    have lw := wlf_le (p := p) W l
    have f := c_rwrites (γ := γ) w1 h3 (by omega) (hW l h3).1 (i_ (n : Int))
    rw [hl]
    refine ⟨_, ro_wd (wrt_ro _) w1, f, zQ _ (ro_wd (wrt_ro _) w1) (wrt_ro _) ?_⟩
    rw [if_pos h]
    exact y
  have nw : ¬ (kd = 2 ∨ (kd = 0 ∧ mo = 0)) → Q (.inl none) x1 := fun h => zQ x1 w1 ro_rf (by rw [if_neg h]; exact hW)
  exact ⟨vi, fun y => ⟨vi, vi, wr (Or.inl y)⟩, fun y => ⟨vi, fun y2 => ⟨fun y3 => ⟨vi, vi, wr (by omega)⟩, fun y3 => nw (by omega)⟩, fun y2 => nw (by omega)⟩⟩
def dn_ (g : gm_T) (S : gs_T) (i : Nat) : Prop := ∃ t, t < 4 ∧ gB_ g t ≤ i ∧ i < gB_ g t + sP_ S t
def Xt_ (s : st_T) (p : pr_T) (g : gm_T) (S : gs_T) (e : ex_T) : Prop := (st_I s 185 53 = i_ (e.1.length : Int) ∧ ∀ i q, e.1[i]? = some q → st_I s 212 i = i_ ((10 * q.1 + q.2 : Nat) : Int)) ∧ (∀ i, i < pN_ p → (pC_ p i 1 = 1 ∨ pC_ p i 1 = 2) → dn_ g S i → st_I s 213 i = i_ (e.2.1 i)) ∧ Wt_ s p e.2.2
theorem wt_cg (f : ∀ a k, 214 ≤ a → a ≤ 216 → st_I s1 a k = st_I s a k) (h : Wt_ s p W) : Wt_ s1 p W := fun l z => ⟨(f _ _ (by decide) (by decide)).trans (h l z).1, (f _ _ (by decide) (by decide)).trans (h l z).2.1, fun k n y => (f _ _ (by decide) (by decide)).trans ((h l z).2.2 k n y)⟩
end RT
