/-! the reference's explanation: the least step -/
section RL3
variable {γ : ga_T} {σ s s1 : st_T} {p : pr_T} {g : gm_T} {K t w c m : Nat} {S S0 S2 : gs_T} {e : ex_T} {LD : gs_T → Prop}
theorem dS_q {a k : Nat} (h : dS_ a k) : a = 185 ∧ (k = 32 ∨ k = 33 ∨ k = 34) := h
theorem dKx_q {a k : Nat} (h : dKx_ a k) : (212 ≤ a ∧ a ≤ 216) ∨ (a = 185 ∧ k = 53) := h
/-- what the explanation changes -/
def dZ_ (a k : Nat) : Prop := (212 ≤ a ∧ a ≤ 217) ∨ (a = 185 ∧ (k = 32 ∨ k = 33 ∨ k = 34 ∨ k = 47 ∨ k = 53))
theorem dS_Z {a k : Nat} (h : dS_ a k) : dZ_ a k := by
  have := dS_q h
  unfold dZ_
  omega
theorem dKx_Z {a k : Nat} (h : dKx_ a k) : dZ_ a k := by
  have := dKx_q h
  unfold dZ_
  omega
theorem zI_ (h : ro_ dZ_ σ s) {a k : Nat} (z : (a < 212 ∨ 217 < a) ∧ ¬ (a = 185 ∧ (k = 32 ∨ k = 33 ∨ k = 34 ∨ k = 47 ∨ k = 53))) : st_I s a k = st_I σ a k := (h.2 a k (fun y => by unfold dZ_ at y; omega)).1
theorem zL_ (h : ro_ dZ_ σ s) {a k : Nat} (z : (a < 212 ∨ 217 < a) ∧ ¬ (a = 185 ∧ (k = 32 ∨ k = 33 ∨ k = 34 ∨ k = 47 ∨ k = 53))) : st_L s a k = st_L σ a k := (h.2 a k (fun y => by unfold dZ_ at y; omega)).2
theorem mr_dZ (h : ro_ dZ_ σ s) (zM : Mr_ σ g K) : Mr_ s g K := by
  obtain ⟨hg, m1, m2, m3⟩ := zM
  refine ⟨hg, (zI_ h (by omega)).trans m1, fun t z => (zI_ h (by omega)).trans (m2 t z), fun n z => ?_⟩
  obtain ⟨a1, a2, a3, a4, a5, a6⟩ := m3 n z
  exact ⟨(zI_ h (by omega)).trans a1, (zI_ h (by omega)).trans a2, (zI_ h (by omega)).trans a3, (zI_ h (by omega)).trans a4, (zI_ h (by omega)).trans a5, fun y => (zI_ h (by omega)).trans (a6 y)⟩
theorem rk_dZ {M : List (Nat × Int64)} (h : ro_ dZ_ σ s) (zT : Rk_ σ M c) : Rk_ s M c := by
  obtain ⟨hc, hM, ⟨i1, i2, i3⟩, ⟨sl, z1, z2⟩, hN⟩ := zT
  refine ⟨hc, hM, ⟨(zI_ h (by omega)).trans i1, (zI_ h (by omega)).trans i2, fun i x hx => ?_⟩, ⟨sl, fun q hq => ⟨fun y => ?_, fun y => ?_⟩, z2⟩, hN⟩
  · obtain ⟨a1, a2, a3⟩ := i3 i x hx
    exact ⟨(zL_ h (by omega)).trans a1, (zL_ h (by omega)).trans a2, a3⟩
  · obtain ⟨a, a1, a2, a3⟩ := (z1 q hq).1 y
    exact ⟨a, a1, a2, (zI_ h (by omega)).trans a3⟩
  · obtain ⟨a1, a2⟩ := (z1 q hq).2 y
    exact ⟨(zI_ h (by omega)).trans a1, (zI_ h (by omega)).trans a2⟩
/-- a state that is known is looked up -/
theorem l_xslot0 {M : List (gs_T × Int64)} (zw : Wd s) (hg : Gw_ g K) (hv : al_ (Vr_ g K) M) (zT : Rk_ s (wq_ g K M) c) (h : ∃ q ∈ M, q.1 = S2) :
    ∃ (sn j : Nat) (x : Int64), sn < 65536 ∧ fn_ γ m_X12_slotOf 0 [.ref 185, .long (lN (kr_ g K S2))] s (.int (i_ (sn : Int))) s ∧ st_I s 206 sn = i_ (j : Int) ∧ j < 65535 ∧ M[j]? = some (S2, x) := by
  obtain ⟨hc, hM, zI, ⟨sl, z1, z2⟩, hN⟩ := id zT
  obtain ⟨sn, p1, p2, p3⟩ := c_rslot (γ := γ) zw zT (w := kr_ g K S2) kr_63 z1 z2
  obtain ⟨q, h1, h2⟩ := h
  have v2 := hv q h1
  rw [h2] at v2
  obtain ⟨i, hi⟩ := List.getElem?_of_mem h1
  have wq : ∀ (i : Nat) (q : gs_T × Int64), M[i]? = some q → (wq_ g K M)[i]? = some (kr_ g K q.1, q.2) := fun i q hq => by
    unfold wq_
    rw [List.getElem?_map, hq]
    rfl
  have hi2 := wq i q hi
  have li := (List.getElem?_eq_some_iff.mp hi2).1
  rcases p3 with ⟨-, e2, -⟩ | ⟨e1, e2, e3⟩
  · exfalso
    refine e2 i li ?_
    rw [wa_eq hi2, h2]
  · have lq : (wq_ g K M).length = M.length := List.length_map _
    have lj : sl sn - 1 < M.length := by omega
    have hj : M[sl sn - 1]? = some M[sl sn - 1] := List.getElem?_eq_getElem lj
    have hm : M[sl sn - 1] ∈ M := List.getElem_mem lj
    revert hj hm
    generalize M[sl sn - 1] = x
    intro hj hm
    have ek : kr_ g K x.1 = kr_ g K S2 := by
      have y := wa_eq (wq _ x hj)
      rw [e3] at y
      exact y.symm
    have ex : x.1 = S2 := cr_eq (kr_cr hg x.1) (by rw [ek]; exact kr_cr hg S2) (hv x hm) v2
    refine ⟨sn, sl sn - 1, x.2, p1, p2, ((z1 sn p1).2 (by omega)).2, by omega, ?_⟩
    rw [hj, ← ex]
theorem br_al (hg : Gw_ g K) (h0 : Vr_ g K S0) : al_ (Vr_ g K) (br_ g K S0) := fun q hq => rl_v hg h0 ⟨q, hq, rfl⟩
theorem l_xslot (zw : Wd s) (hg : Gw_ g K) (h0 : Vr_ g K S0) (zT : Rk_ s (wq_ g K (br_ g K S0)) c) (h : Rl_ g K S0 S2) :
    ∃ (sn j : Nat) (x : Int64), sn < 65536 ∧ fn_ γ m_X12_slotOf 0 [.ref 185, .long (lN (kr_ g K S2))] s (.int (i_ (sn : Int))) s ∧ st_I s 206 sn = i_ (j : Int) ∧ j < 65535 ∧ (br_ g K S0)[j]? = some (S2, x) := l_xslot0 zw hg (br_al hg h0) zT h
/-- which states lead on -/
def Ls_ (s : st_T) (g : gm_T) (K : Nat) (S0 : gs_T) (LD : gs_T → Prop) (b : Nat) : Prop := ∀ (j : Nat) (x : gs_T × Int64), b ≤ j → (br_ g K S0)[j]? = some x → (LD x.1 ∧ st_I s 217 j = i_ 1) ∨ (¬ LD x.1 ∧ st_I s 217 j = i_ 0)
theorem ls_cg {b : Nat} (f : ∀ j, b ≤ j → st_I s1 217 j = st_I s 217 j) (h : Ls_ s g K S0 LD b) : Ls_ s1 g K S0 LD b := fun j x z hx => by
  rw [f j z]
  exact h j x z hx
theorem c_rleast (zw : Wd s) (zM : Mr_ s g K) (h0 : Vr_ g K S0) (hb : Br_ g K S0) (zT : Rk_ s (wq_ g K (br_ g K S0)) c) (hL : Ls_ s g K S0 LD 0) (hr : Rl_ g K S0 S) (q1 : t < 4) (q2 : w < 4) (q : gt_ g S t w = some S2) (hl : LD S2) (ha : ∀ u v S3, u < t → v < 4 → gt_ g S u v = some S3 → ¬ LD S3) (ha2 : ∀ v S3, v < w → gt_ g S t v = some S3 → ¬ LD S3)
    (hK : K = pN_ p) (hN : pN_ p ≤ 10) (hI : ∀ n, n < K → st_I s 201 n = i_ (n : Int)) (hC : ∀ n, n < K → ∀ k, gC_ g n k = pC_ p n k) (X : Xt_ s p g S e) (he : e.1.length < 40) (hW : e.2.2.length < 40) :
    ∃ s2, fn_ γ m_X12_leastStep 4 [.ref 185, .long (lN (kr_ g K S))] s (.long (lN (kr_ g K S2))) s2 ∧ Wd s2 ∧ Xt_ s2 p g S2 (xs_ p g S (t, w) e) ∧ ro_ (fun a k => dS_ a k ∨ dKx_ a k) s s2 := by
  have hg := zM.1
  have vS := rl_v hg h0 hr
  suffices h : sp_ γ m_X12_leastStep 4 [.ref 185, .long (lN (kr_ g K S))] s (fun r s2 => ∃ x, r = .inl (some x) ∧ (x = .long (lN (kr_ g K S2)) ∧ Wd s2 ∧ Xt_ s2 p g S2 (xs_ p g S (t, w) e) ∧ ro_ (fun a k => dS_ a k ∨ dKx_ a k) s s2)) by
    obtain ⟨x, s2, f, rfl, r⟩ := fn_of h
    exact ⟨s2, f, r⟩
  have zQ : ∀ s2, Wd s2 → Xt_ s2 p g S2 (xs_ p g S (t, w) e) → ro_ (fun a k => dS_ a k ∨ dKx_ a k) s s2 → (fun (r : rs_T) s2 => ∃ x, r = .inl (some x) ∧ (x = .long (lN (kr_ g K S2)) ∧ Wd s2 ∧ Xt_ s2 p g S2 (xs_ p g S (t, w) e) ∧ ro_ (fun a k => dS_ a k ∨ dKx_ a k) s s2)) (.inl (some (.long (lN (kr_ g K S2))))) s2 := fun s2 a b d => ⟨_, rfl, rfl, a, b, d⟩
  revert zQ
  generalize (fun (r : rs_T) s2 => ∃ x, r = .inl (some x) ∧ (x = .long (lN (kr_ g K S2)) ∧ Wd s2 ∧ Xt_ s2 p g S2 (xs_ p g S (t, w) e) ∧ ro_ (fun a k => dS_ a k ∨ dKx_ a k) s s2)) = Q
  intro zQ
  have es : ∀ v : Nat, i_ (v : Int) + (1 : Int32) = i_ ((v + 1 : Nat) : Int) := fun v => by
    rw [k1_, i_add]
    rfl
  have key : ∀ u, u ≤ t → (u < t → ∀ s', Wd s' → ro_ dS_ s s' → vv_ γ m_X12_leastStep 4 2 [(0, .ref 185), (1, .long (lN (kr_ g K S))), (3, .int (i_ ((u + 1 : Nat) : Int)))] [] s' Q) →
      ∀ k v : Nat, v + k = 4 → (u = t → v ≤ w) → ∀ s', Wd s' → ro_ dS_ s s' → vv_ γ m_X12_leastStep 4 10 [(0, .ref 185), (1, .long (lN (kr_ g K S))), (3, .int (i_ (u : Int))), (4, .int (i_ (v : Int)))] [] s' Q := by
    intro u hu next k
    induction k with
    | zero =>
      intro v zv huv s' w' r'
      have zv : v = 4 := by omega
      subst zv
      refine g_X12_leastStep_10 w' ?_
      unfold p_X12_leastStep_10
      rw [es u]
      exact ⟨fun _ => next (by omega) s' w' r', fun y => absurd (by decide) y⟩
    | succ k ih =>
      intro v zv huv s' w' r'
      refine g_X12_leastStep_10 w' ?_
      unfold p_X12_leastStep_10
      rw [es u, es v, k3_, i_lt (by omega) (by omega)]
      refine ⟨fun y => absurd y (by omega), fun _ => ?_⟩
      have rz' := ro_up r' (fun a k z => dS_Z z)
      rcases c_rstep (γ := γ) w' (mr_dZ rz' zM) vS (show u < 4 by omega) (w := v) (by omega) with ⟨e1, f1⟩ | ⟨S3, s2, f1, e1, r2, e2, e3, e4⟩
      · refine ⟨_, s', w', f1, fun _ => ih (v + 1) (by omega) (fun e5 => ?_) s' w' r', fun y => absurd rfl y⟩
        have h1 := huv e5
        have h2 : v ≠ w := fun e6 => by
          rw [e5, e6, q] at e1
          cases e1
        omega
      · have w2 := ro_wd r2 w'
        have r3 := ro_tr r' r2
        have rz := ro_up r3 (fun a k z => dS_Z z)
        obtain ⟨sn, j, x, n1, n2, n3, n4, n5⟩ := l_xslot (γ := γ) w2 hg h0 (rk_dZ rz zT) (rl_step hg h0 hb hr (show u < 4 by omega) (show v < 4 by omega) e1)
        have hj := hL j _ (Nat.zero_le _) n5
        have h217 : st_I s2 217 j = st_I s 217 j := (r3.2 217 j (fun y => by have := dS_q y; omega)).1
        refine ⟨_, s2, w2, f1, fun y => absurd y (by decide), fun _ => ⟨_, s2, w2, by rw [e2]; exact n2, i_in (by omega) (by omega) (by omega), ?_⟩⟩
        rw [i_cl (by omega), Int.toNat_natCast, n3, i_cl (by omega), Int.toNat_natCast, h217]
        refine ⟨i_in (by omega) (by omega) (by omega), ?_⟩
        rcases hj with ⟨d1, d2⟩ | ⟨d1, d2⟩
        · rw [d2]
          refine ⟨fun y => absurd y (by decide), fun _ => ?_⟩
          have eu : u = t := Classical.byContradiction (fun y => ha u v S3 (by omega) (by omega) e1 d1)
          subst eu
          have ev : v = w := Classical.byContradiction (fun y => ha2 v S3 (by have := huv rfl; omega) e1 d1)
          subst ev
          rw [q] at e1
          have e1 : S2 = S3 := Option.some.inj e1
          subst e1
          have I2 : ∀ n, n < K → st_I s2 201 n = i_ (n : Int) := fun n hn => by
            rw [zI_ rz (by omega)]
            exact hI n hn
          have X2 : Xt_ s2 p g S e := by
            obtain ⟨⟨a1, a2⟩, a3, a4⟩ := X
            have f : ∀ a k, ¬ (a = 185 ∧ (k = 32 ∨ k = 33 ∨ k = 34)) → st_I s2 a k = st_I s a k := fun a k z => (r3.2 a k z).1
            exact ⟨⟨(f _ _ (by omega)).trans a1, fun i q hq => (f _ _ (by omega)).trans (a2 i q hq)⟩, fun i z1 z2 z3 => (f _ _ (by omega)).trans (a3 i z1 z2 z3), wt_cg (fun a k z1 z2 => f _ _ (by omega)) a4⟩
          obtain ⟨s3, t1, t2, t3, t4⟩ := c_rtakes (γ := γ) w2 (mr_dZ rz zM) hK hN I2 hC q1 q2 q (fun y => ⟨(e3 y).2.1, (e3 y).2.2.1⟩) (fun y => e4 y) X2 he hW
          have e5 : st_L s3 185 32 = lN (kr_ g K S2) := by
            rw [(t4.2 185 32 (fun y => by have := dKx_q y; omega)).2, e2]
          refine ⟨s3, t2, t1, ?_⟩
          rw [e5]
          exact zQ s3 t2 t3 (ro_tr (ro_up r3 (fun a k y => Or.inl y)) (ro_up t4 (fun a k y => Or.inr y)))
        · rw [d2]
          refine ⟨fun _ => ih (v + 1) (by omega) (fun e5 => ?_) s2 w2 r3, fun y => absurd rfl y⟩
          have h1 := huv e5
          have h2 : v ≠ w := fun e6 => by
            rw [e5, e6, q] at e1
            rw [← Option.some.inj e1] at d1
            exact d1 hl
          omega
  have e0 : (0 : Int32) = i_ ((0 : Nat) : Int) := by decide
  have key2 : ∀ k u : Nat, u + k = t → ∀ s', Wd s' → ro_ dS_ s s' → vv_ γ m_X12_leastStep 4 2 [(0, .ref 185), (1, .long (lN (kr_ g K S))), (3, .int (i_ (u : Int)))] [] s' Q := by
    intro k
    induction k with
    | zero =>
      intro u zu s' w' r'
      refine g_X12_leastStep_2 w' ?_
      unfold p_X12_leastStep_2
      rw [k4_, i_le (by omega) (by omega), e0]
      exact ⟨fun y => absurd y (by omega), fun _ => key u (by omega) (fun y => absurd y (by omega)) 4 0 rfl (fun _ => Nat.zero_le _) s' w' r'⟩
    | succ k ih =>
      intro u zu s' w' r'
      refine g_X12_leastStep_2 w' ?_
      unfold p_X12_leastStep_2
      rw [k4_, i_le (by omega) (by omega), e0]
      exact ⟨fun y => absurd y (by omega), fun _ => key u (by omega) (fun _ => ih (u + 1) (by omega)) 4 0 rfl (fun _ => Nat.zero_le _) s' w' r'⟩
  refine e_X12_leastStep zw ?_
  unfold p_X12_leastStep_0
  rw [e0]
  exact key2 t 0 (Nat.zero_add _) s zw ro_rf
end RL3
