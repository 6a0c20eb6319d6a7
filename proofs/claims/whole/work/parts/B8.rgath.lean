/-! the reference: explores, gathers -/
section RG
variable {γ : ga_T} {σ : st_T} {g : gm_T} {K c : Nat} {p : pr_T}
/-- stamps are old ones -/
def Rt0_ (σ : st_T) (c : Nat) : Prop := c < 1073741823 ∧ st_I σ 185 40 = i_ (c : Int) ∧ ∀ q, q < 65536 → ∃ z : Int, z ≤ c ∧ 0 ≤ z ∧ st_I σ 207 q = i_ z
theorem rk_ro {M : List (Nat × Int64)} (h : Rk_ σ M c) (hc : c < 1073741823) : Rt0_ σ c := by
  obtain ⟨-, -, ⟨-, i2, -⟩, ⟨sl, z1, -⟩, -⟩ := h
  refine ⟨hc, i2, fun q hq => ?_⟩
  by_cases e : sl q = 0
  · obtain ⟨z, a1, a2, a3⟩ := (z1 q hq).1 e
    exact ⟨z, by omega, a2, a3⟩
  · exact ⟨c, Int.le_refl _, by omega, ((z1 q hq).2 e).1⟩
def dE_ (a k : Nat) : Prop := dX_ a k ∨ (a = 185 ∧ (k = 31 ∨ k = 40))
/-- the items are laid -/
def Ml_ (σ : st_T) (g : gm_T) (K : Nat) : Prop := Mr_ (pt_I σ 185 31 (i_ (gm_ g : Int))) g K
theorem vr_0 (zB : Bp_ p) (hg : Gw_ g K) : Vr_ g K (s0k_ p (pL_ p)) := by
  have b := zB.2.2.2.1
  have bL := zB.2.2.1
  refine ⟨fun t => ⟨by show 0 < 16; decide, fun _ => rfl⟩, fun q => ⟨by show 0 < 4; decide, fun _ => rfl⟩, fun l => ?_, fun t _ => Nat.zero_le _, fun n h => ?_⟩
  · show (if l < pL_ p then (pI_ p l).toNat else 0) < 4 ∧ (3 ≤ l → (if l < pL_ p then (pI_ p l).toNat else 0) = 0)
    have y := b l
    by_cases z : l < pL_ p
    · rw [if_pos z]
      exact ⟨by omega, fun z1 => by omega⟩
    · rw [if_neg z]
      exact ⟨by decide, fun _ => rfl⟩
  · have h : false = true := h
    cases h
theorem c_rexplores (zw : Wd σ) (zM : Ml_ σ g K) (zN : Nr_ σ p) (zO : Rt0_ σ c) (hb : Br_ g K (s0k_ p (pL_ p))) : ∃ s, fw_ γ m_X12_explores 4 [.ref 185, .int (i_ (gm_ g : Int))] σ s ∧ Wd s ∧ Rk_ s (wq_ g K (br_ g K (s0k_ p (pL_ p)))) (c + 1) ∧ Mr_ s g K ∧ ro_ dE_ σ s := by
  obtain ⟨c1, c2, c3⟩ := zO
  have hg := zM.1
  have v0 := vr_0 (g := g) (K := K) zN.1 hg
  have key : sp_ γ m_X12_explores 4 [.ref 185, .int (i_ (gm_ g : Int))] σ (fun r s => r = .inl none ∧ (Wd s ∧ Rk_ s (wq_ g K (br_ g K (s0k_ p (pL_ p)))) (c + 1) ∧ Mr_ s g K ∧ ro_ dE_ σ s)) := by
    refine e_X12_explores zw ?_
    unfold p_X12_explores_0
    rw [c2, show i_ (c : Int) + (1 : Int32) = i_ ((c + 1 : Nat) : Int) by rw [k1_, i_add]; exact congrArg i_ (by omega)]
    have R1 : ro_ dE_ σ (pt_I (pt_I (pt_I σ 185 31 (i_ (gm_ g : Int))) 185 40 (i_ ((c + 1 : Nat) : Int))) 185 39 (0 : Int32)) := ro_I (ro_I (ro_I ro_rf (Or.inr ⟨rfl, Or.inl rfl⟩)) (Or.inr ⟨rfl, Or.inr rfl⟩)) (Or.inl (Or.inr (Or.inr ⟨rfl, rfl⟩)))
    have R2 : ro_ (fun a k => a = 185 ∧ (k = 39 ∨ k = 40)) (pt_I σ 185 31 (i_ (gm_ g : Int))) (pt_I (pt_I (pt_I σ 185 31 (i_ (gm_ g : Int))) 185 40 (i_ ((c + 1 : Nat) : Int))) 185 39 (0 : Int32)) := ro_I (ro_I ro_rf ⟨rfl, Or.inr rfl⟩) ⟨rfl, Or.inl rfl⟩
    have W1 := ro_wd R1 zw
    have M1 := ro_mr R2 (fun a k h => by omega) zM
    have N1 := nr_ro R1 (fun k h => by unfold dE_ dX_ dS_ dT_ at h; omega) zN
    have T1 : Rk_ (pt_I (pt_I (pt_I σ 185 31 (i_ (gm_ g : Int))) 185 40 (i_ ((c + 1 : Nat) : Int))) 185 39 (0 : Int32)) [] (c + 1) := by
      refine ⟨by omega, by decide, ⟨rfl, rfl, fun i x h => by simp at h⟩, ⟨fun _ => 0, fun q hq => ⟨fun _ => ?_, fun h => absurd rfl h⟩, su_0 _⟩, fun i j h => absurd h (Nat.not_lt_zero _)⟩
      obtain ⟨z, z1, z2, z3⟩ := c3 q hq
      exact ⟨z, by omega, z2, z3⟩
    refine ⟨_, _, W1, c_rfirst W1 hg N1, ?_⟩
    obtain ⟨s2, M', j, y, f1, f2, f3, f4, f5⟩ := c_rstateOf (γ := γ) W1 T1 (w := kr_ g K (s0k_ p (pL_ p))) (Nat.lt_trans (kr_lt g K _) (by decide)) (fun _ => by decide)
    have W2 := ro_wd f3 W1
    have hj := (List.getElem?_eq_some_iff.mp f4).1
    have f5 : M' = [(kr_ g K (s0k_ p (pL_ p)), 0)] ∧ j = 0 := by
      rcases f5 with ⟨rfl, -⟩ | ⟨rfl, -, rfl, -⟩
      · exact absurd hj (Nat.not_lt_zero _)
      · exact ⟨rfl, rfl⟩
    obtain ⟨rfl, rfl⟩ := f5
    refine ⟨_, _, W2, f1, i_in (by decide) (by decide) (by decide), ?_⟩
    have R3 : ro_ dX_ (pt_I (pt_I (pt_I σ 185 31 (i_ (gm_ g : Int))) 185 40 (i_ ((c + 1 : Nat) : Int))) 185 39 (0 : Int32)) (pt_L s2 205 0 (1 : Int64)) := ro_L (ro_up f3 (fun _ _ h => Or.inr h)) (Or.inr (Or.inl ⟨by decide, by decide⟩))
    rw [i_cl (a := ((0 : Nat) : Int)) (by decide), Int.toNat_natCast, k0_]
    refine l_rx38 (c := c + 1) M1 v0 hb (fun s hs => ⟨rfl, hs.1, hs.2.1, ro_mr hs.2.2 dX_mr M1, ro_tr R1 (ro_up hs.2.2 (fun _ _ h => Or.inl h))⟩) 65535 0 rfl _ ⟨W2, ?_, R3⟩
    exact rk_set f2 f4
  exact fw_of key
def rlr_ (g : gm_T) (K : Nat) (p : pr_T) (M : List (gs_T × Int64)) : List (Nat × Int64) := (M.filter (fun q => rf2_ g K q.1)).map (fun q => (rc_ p q.1, q.2))
def dG_ (a k : Nat) : Prop := dE_ a k ∨ dO_ a k ∨ (a = 185 ∧ k = 44)
theorem rk_dO {M : List (Nat × Int64)} {σ1 : st_T} (h : ro_ (fun a k => dO_ a k ∨ (a = 185 ∧ k = 44)) σ σ1) (zT : Rk_ σ M c) : Rk_ σ1 M c := by
  obtain ⟨hc, hM, ⟨i1, i2, i3⟩, ⟨sl, z1, z2⟩, hN⟩ := zT
  have f : ∀ a k, ((a = 185 ∧ k ≠ 44) ∨ (204 ≤ a ∧ a ≤ 207)) → st_I σ1 a k = st_I σ a k ∧ st_L σ1 a k = st_L σ a k := fun a k z => h.2 a k (fun y => by unfold dO_ at y; omega)
  refine ⟨hc, hM, ⟨(f 185 39 (Or.inl ⟨rfl, by decide⟩)).1.trans i1, (f 185 40 (Or.inl ⟨rfl, by decide⟩)).1.trans i2, fun i y z => ?_⟩, ⟨sl, fun q hq => ⟨fun y => ?_, fun y => ?_⟩, z2⟩, hN⟩
  · rw [(f 204 i (Or.inr ⟨by decide, by decide⟩)).2, (f 205 i (Or.inr ⟨by decide, by decide⟩)).2]
    exact i3 i y z
  · obtain ⟨a, a1, a2, a3⟩ := (z1 q hq).1 y
    exact ⟨a, a1, a2, (f 207 q (Or.inr ⟨by decide, by decide⟩)).1.trans a3⟩
  · rw [(f 207 q (Or.inr ⟨by decide, by decide⟩)).1, (f 206 q (Or.inr ⟨by decide, by decide⟩)).1]
    exact (z1 q hq).2 y
/-- the reference's findings: the outcomes, sorted, and the states -/
def Rg_ (s : st_T) (g : gm_T) (K c : Nat) (p : pr_T) : Prop := Wd s ∧ Rk_ s (wq_ g K (br_ g K (s0k_ p (pL_ p)))) (c + 1) ∧ Mr_ s g K ∧ Oc_ s (srt_ (rlr_ g K p (br_ g K (s0k_ p (pL_ p))))) ∧ st_I s 185 44 = i_ ((srt_ (rlr_ g K p (br_ g K (s0k_ p (pL_ p))))).length : Int)
theorem rlr_nk {M : List (gs_T × Int64)} (zB : Bp_ p) (hg : Gw_ g K) (hv : al_ (Vr_ g K) M) (hL : ∀ q ∈ M, ∀ t, pT_ p ≤ t → sR_ q.1 (2 * t) = 0 ∧ sR_ q.1 (2 * t + 1) = 0) (hL2 : ∀ q ∈ M, ∀ l, pL_ p ≤ l → sM_ q.1 l = 0) (h : nk_ (kr_ g K) M) : (rlr_ g K p M).Pairwise (fun x y => x.1 ≠ y.1) := by
  unfold rlr_
  rw [List.pairwise_map]
  have h2 : List.Pairwise (fun x y : gs_T × Int64 => kr_ g K x.1 ≠ kr_ g K y.1) M := h
  refine List.Pairwise.imp_of_mem (R := fun x y : gs_T × Int64 => kr_ g K x.1 ≠ kr_ g K y.1) (fun {x y} z1 z2 z e => z ?_) (List.Pairwise.filter (fun q : gs_T × Int64 => rf2_ g K q.1) h2)
  obtain ⟨m1, f1⟩ := List.mem_filter.mp z1
  obtain ⟨m2, f2⟩ := List.mem_filter.mp z2
  have f1 := rf2_iff.mp f1
  have f2 := rf2_iff.mp f2
  have v1 := hv x m1
  have v2 := hv y m2
  have hd : ∀ j, j < 2 * pT_ p + pL_ p → cD_ (pT_ p) x.1 j = cD_ (pT_ p) y.1 j := fun j hj => by
    have d1 := cD_r v1 (pT_ p)
    have d2 := cD_r v2 (pT_ p)
    have e1 : ∀ (f : Nat → Nat), (∀ j, f j < 4) → ∀ n j, j < n → dg_ f n / 4 ^ (n - 1 - j) % 4 = f j := by
      intro f hf n
      induction n with
      | zero => intro j z; exact absurd z (Nat.not_lt_zero j)
      | succ n ih =>
        intro j z
        show (4 * dg_ f n + f n) / 4 ^ (n + 1 - 1 - j) % 4 = f j
        have hn := hf n
        by_cases e : j = n
        · subst e
          rw [show j + 1 - 1 - j = 0 by omega, Nat.pow_zero, Nat.div_one]
          omega
        · rw [show n + 1 - 1 - j = (n - 1 - j) + 1 by omega, Nat.pow_succ, Nat.mul_comm (4 ^ (n - 1 - j)) 4, ← Nat.div_div_eq_div_mul, show (4 * dg_ f n + f n) / 4 = dg_ f n by omega]
          exact ih j (by omega)
    rw [← e1 _ d1 _ j hj, ← e1 _ d2 _ j hj]
    unfold rc_ at e
    have e : dg_ (cD_ (pT_ p) x.1) (2 * pT_ p + pL_ p) = dg_ (cD_ (pT_ p) y.1) (2 * pT_ p + pL_ p) := e
    rw [e]
  have eR : sR_ x.1 = sR_ y.1 := funext (fun q => by
    by_cases z3 : q < 2 * pT_ p
    · have := hd q (by omega)
      unfold cD_ at this
      rw [if_pos z3, if_pos z3] at this
      exact this
    · have a1 := hL x m1 (q / 2) (by omega)
      have a2 := hL y m2 (q / 2) (by omega)
      have : q = 2 * (q / 2) ∨ q = 2 * (q / 2) + 1 := by omega
      rcases this with e4 | e4
      · rw [e4, a1.1, a2.1]
      · rw [e4, a1.2, a2.2])
  have eM : sM_ x.1 = sM_ y.1 := funext (fun l => by
    by_cases z3 : l < pL_ p
    · have := hd (2 * pT_ p + l) (by omega)
      unfold cD_ at this
      rw [if_neg (by omega), if_neg (by omega), show 2 * pT_ p + l - 2 * pT_ p = l by omega] at this
      exact this
    · rw [hL2 x m1 l (by omega), hL2 y m2 l (by omega)])
  have eP : sP_ x.1 = sP_ y.1 := funext (fun t => by
    by_cases z3 : t < 4
    · rw [f1.1 t z3, f2.1 t z3]
    · rw [(v1.1 t).2 (by omega), (v2.1 t).2 (by omega)])
  have eW : sW_ x.1 = sW_ y.1 := funext (fun n => by
    have a : ∀ X : gs_T, Vr_ g K X → (∀ n, n < K → sW_ X n = false) → sW_ X n = false := fun X vx hx => by
      by_cases z3 : n < K
      · exact hx n z3
      · exact Bool.eq_false_iff.mpr (fun h => z3 (vx.2.2.2.2 n h).1)
    rw [a x.1 v1 f1.2, a y.1 v2 f2.2])
  obtain ⟨⟨a1, a2, a3, a4⟩, x2⟩ := x
  obtain ⟨⟨b1, b2, b3, b4⟩, y2⟩ := y
  have eR : a2 = b2 := eR
  have eM : a3 = b3 := eM
  have eP : a1 = b1 := eP
  have eW : a4 = b4 := eW
  rw [eR, eM, eP, eW]
theorem rlr_take {M : List (gs_T × Int64)} {n : Nat} {q : gs_T × Int64} (h : M[n]? = some q) : rlr_ g K p (M.take (n + 1)) = rlr_ g K p (M.take n) ++ (if rf2_ g K q.1 = true then [(rc_ p q.1, q.2)] else []) := by
  unfold rlr_
  rw [List.take_add_one, h, List.filter_append, List.map_append]
  congr 1
  show List.map _ (List.filter _ [q]) = _
  by_cases y : rf2_ g K q.1 = true
  · rw [List.filter_cons_of_pos (by exact y), if_pos y]
    rfl
  · rw [List.filter_cons_of_neg (by exact y), if_neg y]
    rfl
theorem c_rgathers (zw : Wd σ) (zM : Ml_ σ g K) (zN : Nr_ σ p) (zO : Rt0_ σ c) (hb : Br_ g K (s0k_ p (pL_ p))) (hnk : (rlr_ g K p (br_ g K (s0k_ p (pL_ p)))).Pairwise (fun x y => x.1 ≠ y.1)) : ∃ s, fw_ γ m_X12_gathers 5 [.ref 185, .int (i_ (gm_ g : Int))] σ s ∧ Rg_ s g K c p ∧ ro_ dG_ σ s := by
  obtain ⟨s1, e1, e2, e3, e4, e5⟩ := c_rexplores (γ := γ) zw zM zN zO hb
  have hg := zM.1
  have zN1 := nr_ro e5 (fun k h => by unfold dE_ dX_ dS_ dT_ at h; omega) zN
  have hv := bn_alr hg (vr_0 (g := g) (K := K) zN.1 hg) 65535
  have hbM : (br_ g K (s0k_ p (pL_ p))).length ≤ 65535 := hb 65535
  have hv : al_ (Vr_ g K) (br_ g K (s0k_ p (pL_ p))) := hv
  have key : sp_ γ m_X12_gathers 5 [.ref 185, .int (i_ (gm_ g : Int))] σ (fun r s => r = .inl none ∧ (Rg_ s g K c p ∧ ro_ dG_ σ s)) := by
    refine e_X12_gathers zw ?_
    unfold p_X12_gathers_0
    refine ⟨s1, e2, e1, ?_⟩
    unfold Rg_
    generalize hMM : br_ g K (s0k_ p (pL_ p)) = M at *
    have el : (wq_ g K M).length = M.length := List.length_map _
    -- sorting
    have srt : ∀ n m : Nat, m ≤ n + 1 → ∀ s L, Wd s → Rk_ s (wq_ g K M) (c + 1) → Mr_ s g K → ro_ dG_ σ s → Oc_ s L → st_I s 185 44 = i_ (L.length : Int) → m ≤ L.length → List.Perm L (rlr_ g K p M) → Hp_ L 0 m → (∀ u v, u < v → m ≤ v → v < L.length → wa_ L u ≤ wa_ L v) →
        vv_ γ m_X12_gathers 5 119 [(0, .ref 185), (2, .int (i_ ((m : Int) - 1)))] [] s (fun r s => r = .inl none ∧ (Wd s ∧ Rk_ s (wq_ g K M) (c + 1) ∧ Mr_ s g K ∧ Oc_ s (srt_ (rlr_ g K p M)) ∧ st_I s 185 44 = i_ ((srt_ (rlr_ g K p M)).length : Int)) ∧ ro_ dG_ σ s) := by
      intro n
      induction n with
      | zero =>
        intro m hm s L w T Mr ro O hl hmL hp _ hs
        refine g_X12_gathers_119 w ?_
        unfold p_X12_gathers_119
        refine ⟨fun _ => ?_, fun z => ?_⟩
        · have hS : Sp_ L L.length := fun u v z1 z2 => hs u v z1 (by omega) z2
          have e := srt_un hnk hp (sp_pw hS)
          refine ⟨rfl, ⟨w, T, Mr, ?_, ?_⟩, ro⟩
          · rw [← e]; exact O
          · rw [← e]; exact hl
        · rw [k0_, i_le (by omega) (by omega)] at z
          omega
      | succ n ih =>
        intro m hm s L w T Mr ro O hl hmL hp hh hs
        by_cases hm1 : m ≤ n + 1
        · exact ih m hm1 s L w T Mr ro O hl hmL hp hh hs
        have hm2 : m = n + 2 := by omega
        subst hm2
        have hO := O.1
        refine g_X12_gathers_119 w ?_
        unfold p_X12_gathers_119
        rw [show ((n + 2 : Nat) : Int) - 1 = ((n + 1 : Nat) : Int) by omega]
        obtain ⟨s2, f1, f2, f3⟩ := c_rswaps (γ := γ) w O (a := 0) (b := n + 1) (by omega) (by omega)
        have w2 := ro_wd f3 w
        have wv := ss_wa (S := L) (a := 0) (b := n + 1) (by omega) (by omega)
        have sl := ss_len (S := L) (a := 0) (b := n + 1) (by omega) (by omega)
        have hh2 : Hp_ (ss_ L 0 (n + 1)) (0 + 1) (n + 1) := fun u d z1 z2 z3 => by
          rw [wv d, wv u, if_neg (by omega), if_neg (by omega), if_neg (by omega), if_neg (by omega)]
          exact hh u d (Nat.zero_le _) z2 (by omega)
        obtain ⟨s3, L3, k1, ⟨k2, k3, k4, k5, k6, k7⟩, k8⟩ := c_rsinks (γ := γ) w2 f2 (a := 0) (m := n + 1) (by omega) (by decide) hh2
        have ro3 : ro_ (fun a k => dO_ a k ∨ (a = 185 ∧ k = 44)) s s3 := ro_up (ro_tr f3 k4) (fun _ _ h => Or.inl h)
        have l3 : L3.length = L.length := k5.length_eq.trans sl
        refine ⟨fun z => ?_, fun _ => ⟨s2, w2, f1, s3, k2, k1, ?_⟩⟩
        · rw [k0_, i_le (by omega) (by omega)] at z
          omega
        · rw [show i_ ((n + 1 : Nat) : Int) + (-1 : Int32) = i_ (((n + 1 : Nat) : Int) - 1) by rw [show (-1 : Int32) = i_ (-1) by decide, i_add]; exact congrArg i_ (by omega)]
          have mx := hp_max hh
          have bnd : ∀ u, u < n + 1 → wa_ L3 u ≤ wa_ L 0 := k7 (wa_ L 0) (fun u hu => by
            rw [wv u, if_neg (by omega)]
            split
            · exact mx _ (by omega)
            · exact mx _ (by omega))
          refine ih (n + 1) (by omega) s3 L3 k2 (rk_dO ro3 T) (ro_mr ro3 (fun a k h => by unfold dO_ at h; omega) Mr) (ro_tr ro (ro_up ro3 (fun _ _ h => h.elim (fun h => Or.inr (Or.inl h)) (fun h => Or.inr (Or.inr h))))) k3 ?_ (by omega) (k5.trans ((ss_pm (by omega) (by omega)).trans hp)) k8 (fun u v z1 z2 z3 => ?_)
          · rw [l3]
            have y1 := (k4.2 185 44 (fun h => by unfold dO_ at h; omega)).1
            have y2 := (f3.2 185 44 (fun h => by unfold dO_ at h; omega)).1
            rw [y1, y2]
            exact hl
          · by_cases e : v = n + 1
            · subst e
              have y1 : wa_ L3 (n + 1) = wa_ L 0 := by
                rw [k6 (n + 1) (Nat.le_refl _), wv (n + 1), if_pos rfl]
              rw [y1]
              exact bnd u z1
            · have y1 : wa_ L3 v = wa_ L v := by
                rw [k6 v (by omega), wv v, if_neg e, if_neg (by omega)]
              rw [y1]
              by_cases e2 : u < n + 1
              · exact Nat.le_trans (bnd u e2) (hs 0 v (by omega) (by omega) (by omega))
              · by_cases e3 : u = n + 1
                · subst e3
                  rw [k6 (n + 1) (Nat.le_refl _), wv (n + 1), if_pos rfl]
                  exact hs 0 v (by omega) (by omega) (by omega)
                · rw [k6 u (by omega), wv u, if_neg e3, if_neg (by omega)]
                  exact hs u v z1 (by omega) (by omega)
    have hep : ∀ m : Nat, ∀ s L, Wd s → Rk_ s (wq_ g K M) (c + 1) → Mr_ s g K → ro_ dG_ σ s → Oc_ s L → st_I s 185 44 = i_ (L.length : Int) → List.Perm L (rlr_ g K p M) → m ≤ 65535 → Hp_ L m L.length →
        vv_ γ m_X12_gathers 5 93 [(0, .ref 185), (2, .int (i_ ((m : Int) - 1)))] [] s (fun r s => r = .inl none ∧ (Wd s ∧ Rk_ s (wq_ g K M) (c + 1) ∧ Mr_ s g K ∧ Oc_ s (srt_ (rlr_ g K p M)) ∧ st_I s 185 44 = i_ ((srt_ (rlr_ g K p M)).length : Int)) ∧ ro_ dG_ σ s) := by
      intro m
      induction m with
      | zero =>
        intro s L w T Mr ro O hl hp _ hh
        have hO := O.1
        refine g_X12_gathers_93 w ?_
        unfold p_X12_gathers_93
        refine ⟨fun _ => ?_, fun z => absurd (by decide) z⟩
        rw [hl, k1_, i_sub]
        exact srt L.length L.length (by omega) s L w T Mr ro O hl (Nat.le_refl _) hp hh (fun u v z1 z2 z3 => by omega)
      | succ m ih =>
        intro s L w T Mr ro O hl hp hm hh
        have hO := O.1
        refine g_X12_gathers_93 w ?_
        unfold p_X12_gathers_93
        rw [show ((m + 1 : Nat) : Int) - 1 = (m : Int) by omega, hl]
        obtain ⟨s3, L3, k1, ⟨k2, k3, k4, k5, k6, k7⟩, k8⟩ := c_rsinks (γ := γ) w O (a := m) (m := L.length) (Nat.le_refl _) (by omega) hh
        have ro3 : ro_ (fun a k => dO_ a k ∨ (a = 185 ∧ k = 44)) s s3 := ro_up k4 (fun _ _ h => Or.inl h)
        have l3 : L3.length = L.length := k5.length_eq
        refine ⟨fun z => ?_, fun _ => ⟨s3, k2, k1, ?_⟩⟩
        · rw [k0_, i_lt (by omega) (by omega)] at z
          omega
        · rw [show i_ (m : Int) + (-1 : Int32) = i_ ((m : Int) - 1) by rw [show (-1 : Int32) = i_ (-1) by decide, i_add]; exact congrArg i_ (by omega)]
          refine ih s3 L3 k2 (rk_dO ro3 T) (ro_mr ro3 (fun a k h => by unfold dO_ at h; omega) Mr) (ro_tr ro (ro_up ro3 (fun _ _ h => h.elim (fun h => Or.inr (Or.inl h)) (fun h => Or.inr (Or.inr h))))) k3 ?_ (k5.trans hp) (by omega) (by rw [l3]; exact k8)
          rw [l3, (k4.2 185 44 (fun h => by unfold dO_ at h; omega)).1]
          exact hl
    have col : ∀ k n : Nat, k + n = M.length → ∀ s, Wd s → Rk_ s (wq_ g K M) (c + 1) → Mr_ s g K → Nr_ s p → ro_ dG_ σ s → Oc_ s (rlr_ g K p (M.take n)) → st_I s 185 44 = i_ ((rlr_ g K p (M.take n)).length : Int) →
        vv_ γ m_X12_gathers 5 12 [(0, .ref 185), (2, .int (i_ (n : Int)))] [] s (fun r s => r = .inl none ∧ (Wd s ∧ Rk_ s (wq_ g K M) (c + 1) ∧ Mr_ s g K ∧ Oc_ s (srt_ (rlr_ g K p M)) ∧ st_I s 185 44 = i_ ((srt_ (rlr_ g K p M)).length : Int)) ∧ ro_ dG_ σ s) := by
      intro k
      induction k with
      | zero =>
        intro n zn s w T Mr N ro O hl
        have zn : n = M.length := by omega
        subst zn
        rw [List.take_length] at O hl
        have hO := O.1
        refine g_X12_gathers_12 w ?_
        unfold p_X12_gathers_12
        rw [T.2.2.1.1, el]
        refine ⟨fun _ => ?_, fun z => absurd (Int32.le_refl _) z⟩
        rw [hl, show (2 : Int32) = i_ ((2 : Nat) : Int) from rfl, i_div (by omega) (by omega)]
        have z := hep ((rlr_ g K p M).length / 2 + 1) s _ w T Mr ro O hl (List.Perm.refl _) (by omega) (fun u d z1 z2 z3 => by omega)
        rw [show (((rlr_ g K p M).length / 2 + 1 : Nat) : Int) - 1 = (((rlr_ g K p M).length / 2 : Nat) : Int) by omega] at z
        exact z
      | succ k ih =>
        intro n zn s w T Mr N ro O hl
        obtain ⟨q, hq⟩ : ∃ q, M[n]? = some q := ⟨_, List.getElem?_eq_getElem (by omega)⟩
        have vq := hv q (List.mem_of_getElem? hq)
        have hq2 : (wq_ g K M)[n]? = some (kr_ g K q.1, q.2) := by
          unfold wq_
          rw [List.getElem?_map, hq]
          rfl
        obtain ⟨t1, t2, -⟩ := T.2.2.1.2.2 _ _ hq2
        have hO := O.1
        have hn65 : M.length ≤ 65535 := hbM
        have tk := rlr_take (g := g) (K := K) (p := p) hq
        have ll : (rlr_ g K p (M.take n)).length ≤ n := by
          unfold rlr_
          rw [List.length_map]
          exact Nat.le_trans (List.length_filter_le _ _) (List.length_take_le _ _)
        refine g_X12_gathers_12 w ?_
        unfold p_X12_gathers_12
        rw [T.2.2.1.1, el, i_cl (by omega), Int.toNat_natCast, t1]
        refine ⟨fun z => ?_, fun _ => ⟨i_in (by omega) (by omega) (by omega), _, _, w, c_rfinal w Mr vq, ?_⟩⟩
        · rw [i_le (by omega) (by omega)] at z
          omega
        · rw [t1]
          by_cases yf : rf2_ g K q.1 = true
          · rw [if_pos yf] at tk ⊢
            refine ⟨fun z => absurd z (by decide), fun _ => ⟨i_in (by omega) (by omega) (by omega), _, _, w, c_rcode w hg vq N, ?_⟩⟩
            rw [hl, t2, i_cl (by omega), Int.toNat_natCast]
            refine ⟨i_in (by omega) (by omega) (by omega), i_in (by omega) (by omega) (by omega), i_in (by omega) (by omega) (by omega), ?_⟩
            have ro2 : ro_ (fun a k => dO_ a k ∨ (a = 185 ∧ k = 44)) s (pt_I (pt_L (pt_I s 208 (rlr_ g K p (M.take n)).length (i_ (rc_ p q.1 : Int))) 210 (rlr_ g K p (M.take n)).length q.2) 185 44 (i_ ((rlr_ g K p (M.take n)).length : Int) + (1 : Int32))) := ro_I (ro_L (ro_I ro_rf (Or.inl (Or.inl rfl))) (Or.inl (Or.inr rfl))) (Or.inr ⟨rfl, rfl⟩)
            have z := ih (n + 1) (by omega) _ (ro_wd ro2 w) (rk_dO ro2 T) (ro_mr ro2 (fun a k h => by unfold dO_ at h; omega) Mr) (nr_ro ro2 (fun k h => by unfold dO_ at h; omega) N) (ro_tr ro (ro_up ro2 (fun _ _ h => h.elim (fun h => Or.inr (Or.inl h)) (fun h => Or.inr (Or.inr h))))) (by
              rw [tk]
              refine ⟨by rw [List.length_append]; show _ + 1 ≤ 65535; omega, fun i x hx => ?_⟩
              by_cases y0 : i < (rlr_ g K p (M.take n)).length
              · rw [List.getElem?_append_left y0] at hx
                obtain ⟨a1, a2, a3⟩ := O.2 i x hx
                refine ⟨?_, ?_, a3⟩
                · rw [st_pI, if_neg (by omega), st_IL, st_pI, if_neg (by omega)]
                  exact a1
                · rw [st_LI, st_pL, if_neg (by omega), st_LI]
                  exact a2
              · have y1 := (List.getElem?_eq_some_iff.mp hx).1
                rw [List.length_append] at y1
                have y1 : i < (rlr_ g K p (M.take n)).length + 1 := y1
                have y2 : i = (rlr_ g K p (M.take n)).length := by omega
                subst y2
                rw [List.getElem?_append_right (Nat.le_refl _), Nat.sub_self] at hx
                have hx : some (rc_ p q.1, q.2) = some x := hx
                rw [← Option.some.inj hx]
                refine ⟨?_, ?_, rc_22 N.1 vq⟩
                · rw [st_pI, if_neg (by omega), st_IL, st_sI]
                · rw [st_LI, st_sL]) (by
              rw [tk, List.length_append]
              show i_ ((rlr_ g K p (M.take n)).length : Int) + (1 : Int32) = _
              rw [k1_, i_add]
              exact congrArg i_ (by show _ = (((rlr_ g K p (M.take n)).length + 1 : Nat) : Int); omega))
            rw [show ((n + 1 : Nat) : Int) = (n : Int) + 1 by omega, ← i_add, ← i_lit 1] at z
            exact z
          · rw [if_neg yf] at tk ⊢
            rw [List.append_nil] at tk
            refine ⟨fun _ => ?_, fun z => absurd rfl z⟩
            have z := ih (n + 1) (by omega) s w T Mr N ro (by rw [tk]; exact O) (by rw [tk]; exact hl)
            rw [show ((n + 1 : Nat) : Int) = (n : Int) + 1 by omega, ← i_add, ← i_lit 1] at z
            exact z
    have ro0 : ro_ (fun a k => dO_ a k ∨ (a = 185 ∧ k = 44)) s1 (pt_I s1 185 44 (0 : Int32)) := ro_I ro_rf (Or.inr ⟨rfl, rfl⟩)
    rw [k0_]
    refine col M.length 0 (by omega) _ (ro_wd ro0 e2) (rk_dO ro0 e3) (ro_mr ro0 (fun a k h => by unfold dO_ at h; omega) e4) (nr_ro ro0 (fun k h => by unfold dO_ at h; omega) zN1) (ro_tr (ro_up e5 (fun _ _ h => Or.inl h)) (ro_up ro0 (fun _ _ h => h.elim (fun h => Or.inr (Or.inl h)) (fun h => Or.inr (Or.inr h))))) ⟨Nat.zero_le _, fun i x hx => by rw [List.take_zero] at hx; simp [rlr_] at hx⟩ ?_
    rw [List.take_zero]
    exact st_sI _ _ _ _
  exact fw_of key
end RG
