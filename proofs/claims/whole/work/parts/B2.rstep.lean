/-! the reference's machine: its steps -/
/-- only these cells may be other ones -/
def ro_ (D : Nat → Nat → Prop) (σ σ1 : st_T) : Prop := σ1.2.2 = σ.2.2 ∧ ∀ a k, ¬ D a k → st_I σ1 a k = st_I σ a k ∧ st_L σ1 a k = st_L σ a k
def dS_ (a k : Nat) : Prop := a = 185 ∧ (k = 32 ∨ k = 33 ∨ k = 34)
section RN
variable {γ : ga_T} {σ σ1 σ2 : st_T} {g : gm_T} {K t n : Nat} {S : gs_T} {D E : Nat → Nat → Prop}
theorem ro_rf : ro_ D σ σ := ⟨rfl, fun _ _ _ => ⟨rfl, rfl⟩⟩
theorem ro_tr (h : ro_ D σ σ1) (k : ro_ D σ1 σ2) : ro_ D σ σ2 := ⟨k.1.trans h.1, fun a j z => ⟨(k.2 a j z).1.trans (h.2 a j z).1, (k.2 a j z).2.trans (h.2 a j z).2⟩⟩
theorem ro_up (h : ro_ D σ σ1) (e : ∀ a k, D a k → E a k) : ro_ E σ σ1 := ⟨h.1, fun a j z => h.2 a j (fun y => z (e a j y))⟩
theorem ro_I {a k : Nat} {x : Int32} (h : ro_ D σ σ1) (d : D a k) : ro_ D σ (pt_I σ1 a k x) := ro_tr h ⟨rfl, fun b j z => ⟨if_neg (fun y => z (by rw [y.1, y.2]; exact d)), rfl⟩⟩
theorem ro_L {a k : Nat} {x : Int64} (h : ro_ D σ σ1) (d : D a k) : ro_ D σ (pt_L σ1 a k x) := ro_tr h ⟨rfl, fun b j z => ⟨rfl, if_neg (fun y => z (by rw [y.1, y.2]; exact d))⟩⟩
theorem ro_wd (h : ro_ D σ σ1) (w : Wd σ) : Wd σ1 := by
  obtain ⟨e, -⟩ := h
  have eS : ∀ a, st_S σ1 a = st_S σ a := fun a => by unfold st_S; rw [e]
  have eR : ∀ a k, st_R σ1 a k = st_R σ a k := fun a k => by unfold st_R; rw [e]
  have en : st_n σ1 = st_n σ := by unfold st_n; rw [e]
  exact ⟨fun q hq => by rw [eS]; exact w.1 q hq, fun q hq => by rw [eR]; exact w.2.1 q hq, by rw [en]; exact w.2.2⟩
theorem ro_mr (h : ro_ D σ σ1) (hD : ∀ a k, D a k → ¬ (a = 185 ∧ k = 31) ∧ ¬ (196 ≤ a ∧ a ≤ 203)) (M : Mr_ σ g K) : Mr_ σ1 g K := by
  have i : ∀ a k, ((a = 185 ∧ k = 31) ∨ (196 ≤ a ∧ a ≤ 203)) → st_I σ1 a k = st_I σ a k := fun a k y => (h.2 a k (fun z => y.elim (hD a k z).1 (hD a k z).2)).1
  obtain ⟨m1, m2, m3, m4⟩ := M
  refine ⟨m1, (i _ _ (Or.inl ⟨rfl, rfl⟩)).trans m2, fun u hu => (i _ _ (Or.inr (by omega))).trans (m3 u hu), fun u hu => ?_⟩
  obtain ⟨k1, k2, k3, k4, k5, k6⟩ := m4 u hu
  exact ⟨(i _ _ (Or.inr (by omega))).trans k1, (i _ _ (Or.inr (by omega))).trans k2, (i _ _ (Or.inr (by omega))).trans k3, (i _ _ (Or.inr (by omega))).trans k4, (i _ _ (Or.inr (by omega))).trans k5, fun y => (i _ _ (Or.inr (by omega))).trans (k6 y)⟩
theorem dS_mr : ∀ a k, dS_ a k → ¬ (a = 185 ∧ k = 31) ∧ ¬ (196 ≤ a ∧ a ≤ 203) := fun a k h => by
  unfold dS_ at h
  omega
theorem dS_2 : dS_ 185 32 := ⟨rfl, Or.inl rfl⟩
theorem dS_3 : dS_ 185 33 := ⟨rfl, Or.inr (Or.inl rfl)⟩
theorem dS_4 : dS_ 185 34 := ⟨rfl, Or.inr (Or.inr rfl)⟩
theorem wz_any : wz_ g S (-1) = sW_ S := funext (fun n => by
  unfold wz_
  rw [decide_eq_true rfl, Bool.true_or, Bool.and_true])
theorem wz_loc {z : Int} (h : z ≠ -1) : wz_ g S z = (fun n => sW_ S n && decide (gC_ g n 2 = z)) := funext (fun n => by
  unfold wz_
  rw [decide_eq_false h, Bool.false_or])
theorem c_rw1 (zw : Wd σ) (zM : Mr_ σ g K) (v : Vr_ g K S) (q1 : t < 4) : fn_ γ m_X12_waiting 1 [.ref 185, .long (lN (kr_ g K S)), .int (i_ (t : Int)), .int (-1 : Int32), .int (0 : Int32)] σ (.int (i_ (wu_ (ga1_ g S t)))) σ := by
  have y := c_rwaiting (γ := γ) zw zM v q1 (z := -1) (by omega) false
  rw [if_neg (by decide), wz_any, show i_ (-1) = (-1 : Int32) by decide] at y
  exact y
theorem c_rwl (zw : Wd σ) (zM : Mr_ σ g K) (v : Vr_ g K S) (q1 : t < 4) {l : Nat} (q2 : l < 3) : fn_ γ m_X12_waiting 1 [.ref 185, .long (lN (kr_ g K S)), .int (i_ (t : Int)), .int (i_ (l : Int)), .int (0 : Int32)] σ (.int (i_ (wu_ (gw1_ g S t l)))) σ := by
  have y := c_rwaiting (γ := γ) zw zM v q1 (z := (l : Int)) (by omega) false
  rw [if_neg (by decide), wz_loc (by omega)] at y
  exact y
theorem c_rw2 (zw : Wd σ) (zM : Mr_ σ g K) (v : Vr_ g K S) (q1 : t < 4) {z : Int} (q2 : 0 ≤ z ∧ z < 3) : fn_ γ m_X12_waiting 1 [.ref 185, .long (lN (kr_ g K S)), .int (i_ (t : Int)), .int (i_ z), .int (1 : Int32)] σ (.int (i_ (wu_ (gw2_ g S t z)))) σ := by
  have y := c_rwaiting (γ := γ) zw zM v q1 (z := z) (by omega) true
  rw [if_pos rfl, wz_loc (by omega)] at y
  exact y
/-- a step keeps what holds of the reference's states -/
theorem vr_P (hg : Gw_ g K) (v : Vr_ g K S) (q1 : t < 4) (q2 : sP_ S t < gl_ g t) : Vr_ g K (un_ (sP_ S) t (sP_ S t + 1), sR_ S, sM_ S, sW_ S) := by
  have y := (gk_ hg q1).2.2
  refine ⟨fun u => ?_, v.2.1, v.2.2.1, fun u hu => ?_, fun j hj => ?_⟩
  · show un_ (sP_ S) t (sP_ S t + 1) u < 16 ∧ (4 ≤ u → un_ (sP_ S) t (sP_ S t + 1) u = 0)
    unfold un_
    by_cases e : u = t
    · rw [if_pos e]
      exact ⟨by omega, fun z => by omega⟩
    · rw [if_neg e]
      exact v.1 u
  · show un_ (sP_ S) t (sP_ S t + 1) u ≤ gl_ g u
    unfold un_
    by_cases e : u = t
    · rw [if_pos e, e]
      omega
    · rw [if_neg e]
      exact v.2.2.2.1 u hu
  · obtain ⟨z1, z2, z3, u, u1, u2, u3⟩ := v.2.2.2.2 j hj
    refine ⟨z1, z2, z3, u, u1, u2, ?_⟩
    show j < gB_ g u + un_ (sP_ S) t (sP_ S t + 1) u
    unfold un_
    by_cases e : u = t
    · rw [if_pos e]
      rw [e] at u3 ⊢
      omega
    · rw [if_neg e]
      exact u3
theorem vr_R (v : Vr_ g K S) {q x : Nat} (q1 : q < 8) (q2 : x < 4) : Vr_ g K (sP_ S, un_ (sR_ S) q x, sM_ S, sW_ S) := by
  refine ⟨v.1, fun u => ?_, v.2.2.1, v.2.2.2.1, v.2.2.2.2⟩
  show un_ (sR_ S) q x u < 4 ∧ (8 ≤ u → un_ (sR_ S) q x u = 0)
  unfold un_
  by_cases e : u = q
  · rw [if_pos e]
    exact ⟨q2, fun z => by omega⟩
  · rw [if_neg e]
    exact v.2.1 u
theorem vr_M (v : Vr_ g K S) {l x : Nat} (q1 : l < 3) (q2 : x < 4) : Vr_ g K (sP_ S, sR_ S, un_ (sM_ S) l x, sW_ S) := by
  refine ⟨v.1, v.2.1, fun u => ?_, v.2.2.2.1, v.2.2.2.2⟩
  show un_ (sM_ S) l x u < 4 ∧ (3 ≤ u → un_ (sM_ S) l x u = 0)
  unfold un_
  by_cases e : u = l
  · rw [if_pos e]
    exact ⟨q2, fun z => by omega⟩
  · rw [if_neg e]
    exact v.2.2.1 u
theorem vr_W (v : Vr_ g K S) {i : Nat} {x : Bool} (q : x = true → i < K ∧ gC_ g i 1 = 0 ∧ gm_ g ≠ 0 ∧ ∃ t, t < 4 ∧ gB_ g t ≤ i ∧ i < gB_ g t + sP_ S t) : Vr_ g K (sP_ S, sR_ S, sM_ S, ub_ (sW_ S) i x) := by
  refine ⟨v.1, v.2.1, v.2.2.1, v.2.2.2.1, fun j hj => ?_⟩
  have hj : ub_ (sW_ S) i x j = true := hj
  unfold ub_ at hj
  by_cases e : j = i
  · rw [if_pos e] at hj
    rw [e]
    exact q hj
  · rw [if_neg e] at hj
    exact v.2.2.2.2 j hj
/-- the next item, when the step is possible -/
theorem gx_eq (h : gx_ g S t ≠ none) : sP_ S t < gl_ g t ∧ ¬ (gK_ g (gB_ g t + sP_ S t) = true ∧ ga1_ g S t ≠ none) := by
  unfold gx_ at h
  dsimp only at h
  split at h
  · exact absurd rfl h
  · next z =>
    refine ⟨?_, fun y => z (Or.inr y)⟩
    by_cases y : sP_ S t < gl_ g t
    · exact y
    · exact absurd (Or.inl y) z
def gxb_ (g : gm_T) (S : gs_T) (t n : Nat) : gs_T :=
  if gC_ g n 1 = 0 then (if gm_ g = 0 then (un_ (sP_ S) t (sP_ S t + 1), sR_ S, un_ (sM_ S) (gC_ g n 2).toNat (gv_ g S t n), sW_ S) else (un_ (sP_ S) t (sP_ S t + 1), sR_ S, sM_ S, ub_ (sW_ S) n true))
    else if gC_ g n 1 = 1 then (un_ (sP_ S) t (sP_ S t + 1), un_ (sR_ S) (2 * t + (gC_ g n 3).toNat) (match gw2_ g S t (gC_ g n 2) with | some j => gv_ g S t j | none => sM_ S (gC_ g n 2).toNat), sM_ S, sW_ S)
    else if gC_ g n 1 = 2 then (un_ (sP_ S) t (sP_ S t + 1), un_ (sR_ S) (2 * t + (gC_ g n 3).toNat) (sM_ S (gC_ g n 2).toNat), un_ (sM_ S) (gC_ g n 2).toNat (gv_ g S t n), sW_ S)
    else (un_ (sP_ S) t (sP_ S t + 1), sR_ S, sM_ S, sW_ S)
theorem gx_b (h1 : sP_ S t < gl_ g t) (h2 : ¬ (gK_ g (gB_ g t + sP_ S t) = true ∧ ga1_ g S t ≠ none)) : gx_ g S t = some (gxb_ g S t (gB_ g t + sP_ S t)) := by
  unfold gx_
  dsimp only
  rw [if_neg (fun y => y.elim (fun y => y h1) h2)]
  unfold gxb_
  split
  · split
    · rfl
    · rfl
  · split
    · rfl
    · split
      · rfl
      · rfl
theorem gx_n (h : ¬ sP_ S t < gl_ g t ∨ (gK_ g (gB_ g t + sP_ S t) = true ∧ ga1_ g S t ≠ none)) : gx_ g S t = none := by
  unfold gx_
  dsimp only
  exact if_pos h
theorem ga_in {k : Nat} (v : Vr_ g K S) (h : sW_ S k = true) : k < K ∧ gC_ g k 1 = 0 := ⟨(v.2.2.2.2 k h).1, (v.2.2.2.2 k h).2.1⟩
theorem gw2_in {z : Int} {j : Nat} (v : Vr_ g K S) (h : gw2_ g S t z = some j) : j < K ∧ gC_ g j 1 = 0 ∧ gC_ g j 2 = z := by
  have y := ((f2_some _ _ _).mp h).2.2.1
  rw [Bool.and_eq_true, decide_eq_true_eq] at y
  exact ⟨(ga_in v y.1).1, (ga_in v y.1).2, y.2⟩
theorem gw1_in {z : Int} {j : Nat} (v : Vr_ g K S) (h : gw1_ g S t z = some j) : j < K ∧ gC_ g j 1 = 0 ∧ gC_ g j 2 = z ∧ sW_ S j = true := by
  have y := ((f1_some _ _ _).mp h).2.2.1
  rw [Bool.and_eq_true, decide_eq_true_eq] at y
  exact ⟨(ga_in v y.1).1, (ga_in v y.1).2, y.2, y.1⟩
theorem vr_x {S2 : gs_T} (hg : Gw_ g K) (v : Vr_ g K S) (q1 : t < 4) (q : gx_ g S t = some S2) : Vr_ g K S2 := by
  have h := gx_eq (g := g) (S := S) (t := t) (by rw [q]; intro z; cases z)
  rw [gx_b h.1 h.2] at q
  have q := Option.some.inj q
  subst q
  obtain ⟨k1, k2, k3⟩ := gk_ hg q1
  have hn : gB_ g t + sP_ S t < K := by omega
  have vP := vr_P hg v q1 h.1
  have hv := gv_r4 (t := t) hg v hn
  have kn := hg.2.2.2.2.2.2.2.1 _ hn
  unfold gxb_
  by_cases y0 : gC_ g (gB_ g t + sP_ S t) 1 = 0
  · rw [if_pos y0]
    by_cases m0 : gm_ g = 0
    · rw [if_pos m0]
      exact vr_M vP (by omega) hv
    · rw [if_neg m0]
      refine vr_W vP (fun _ => ⟨hn, y0, m0, t, q1, Nat.le_add_right _ _, ?_⟩)
      show _ < gB_ g t + un_ (sP_ S) t (sP_ S t + 1) t
      unfold un_
      rw [if_pos rfl]
      omega
  · rw [if_neg y0]
    by_cases y1 : gC_ g (gB_ g t + sP_ S t) 1 = 1
    · rw [if_pos y1]
      refine vr_R vP (by omega) ?_
      cases hj : gw2_ g S t (gC_ g (gB_ g t + sP_ S t) 2) with
      | none => exact (v.2.2.1 _).1
      | some j => exact gv_r4 hg v (gw2_in v hj).1
    · rw [if_neg y1]
      by_cases y2 : gC_ g (gB_ g t + sP_ S t) 1 = 2
      · rw [if_pos y2]
        exact vr_M (vr_R vP (by omega) (v.2.2.1 _).1) (by omega) hv
      · rw [if_neg y2]
        exact vP
theorem gn_in {l j : Nat} (v : Vr_ g K S) (h : gn_ g S t l = some j) : j < K ∧ gC_ g j 1 = 0 ∧ gC_ g j 2 = l ∧ sW_ S j = true := by
  unfold gn_ at h
  cases e : gw1_ g S t l with
  | none => rw [e] at h; cases h
  | some i =>
    rw [e] at h
    dsimp only at h
    split at h
    · cases h
    · rw [← Option.some.inj h]
      exact gw1_in v e
theorem vr_c {S2 : gs_T} {l : Nat} (hg : Gw_ g K) (v : Vr_ g K S) (q2 : l < 3) (q : gc_ g S t l = some S2) : Vr_ g K S2 := by
  unfold gc_ at q
  cases e : gn_ g S t l with
  | none => rw [e] at q; cases q
  | some j =>
    rw [e] at q
    dsimp only at q
    rw [← Option.some.inj q]
    exact vr_W (vr_M v q2 (gv_r4 hg v (gn_in v e).1)) (fun z => by cases z)
theorem vr_step {S2 : gs_T} {w : Nat} (hg : Gw_ g K) (v : Vr_ g K S) (q1 : t < 4) (q2 : w < 4) (q : gt_ g S t w = some S2) : Vr_ g K S2 := by
  unfold gt_ at q
  split at q
  · exact vr_x hg v q1 q
  · exact vr_c hg v (by omega) q
/-- what is read: from which item (-2: the memory) -/
def so_ (g : gm_T) (S : gs_T) (t : Nat) : Int := if gC_ g (gB_ g t + sP_ S t) 1 = 1 then (match gw2_ g S t (gC_ g (gB_ g t + sP_ S t) 2) with | some j => (j : Int) | none => -2) else if gC_ g (gB_ g t + sP_ S t) 1 = 2 then -2 else -1
/-- what a step leaves -/
def Sx_ (σ : st_T) (g : gm_T) (K : Nat) (S : gs_T) (t : Nat) (s : st_T) : Prop := ro_ dS_ σ s ∧ st_I s 185 33 = i_ ((gB_ g t + sP_ S t : Nat) : Int) ∧ st_I s 185 34 = i_ (so_ g S t) ∧ st_L s 185 32 = lN (kr_ g K (gxb_ g S t (gB_ g t + sP_ S t)))
theorem kr_moved (hg : Gw_ g K) (v : Vr_ g K S) (q1 : t < 4) (q2 : sP_ S t < gl_ g t) : lN (kr_ g K S) + ((1 : Int64) <<< (((4 : Int32) * (i_ (t : Int))).toInt64 &&& 63)) = lN (kr_ g K (un_ (sP_ S) t (sP_ S t + 1), sR_ S, sM_ S, sW_ S)) := by
  have y := (gk_ hg q1).2.2
  rw [rs_4, show (1 : Int64) = lN 1 from rfl, l_shl (by omega) (by rw [Nat.one_mul]; exact Nat.pow_lt_pow_right (by decide) (by omega)), Nat.one_mul, lN_add]
  rw [kr_of hg (cr_step (kr_cr hg S) q1 (by omega))]
theorem sx_I2 (σ : st_T) (b c : Int32) (x y : Int64) : st_I (pt_L (pt_I (pt_L (pt_I σ 185 33 b) 185 32 x) 185 34 c) 185 32 y) 185 33 = b ∧ st_I (pt_L (pt_I (pt_L (pt_I σ 185 33 b) 185 32 x) 185 34 c) 185 32 y) 185 34 = c ∧ st_L (pt_L (pt_I (pt_L (pt_I σ 185 33 b) 185 32 x) 185 34 c) 185 32 y) 185 32 = y := ⟨rfl, rfl, rfl⟩
set_option maxRecDepth 20000 in
theorem ce_blk (zw : Wd σ) (zM : Mr_ σ g K) (v : Vr_ g K S) (q1 : t < 4) (q2 : sP_ S t < gl_ g t) (zn : n = gB_ g t + sP_ S t) {Q : rs_T → st_T → Prop}
    (zQ : ∀ s, Sx_ σ g K S t s → Q (.inl (some (.int (1 : Int32)))) s) :
    vp_in (i_ (n : Int)) 40 ∧
    ((st_I σ 196 (i_ (n : Int)).toNatClampNeg) = (0 : Int32) →
      ((st_I σ 185 31) = (0 : Int32) →
        vp_in (i_ (n : Int)) 40 ∧
        ∃ (v15 : Int32) (s13 : st_T), Wd s13 ∧ fn_ γ m_X12_valueOf 1 [.ref 185, .long (lN (kr_ g K S)), .int (i_ (t : Int)), .int (i_ (n : Int))] (pt_I (pt_L (pt_I σ 185 33 (i_ (n : Int))) 185 32 ((lN (kr_ g K S)) + ((1 : Int64) <<< (((4 : Int32) * (i_ (t : Int))).toInt64 &&& 63)))) 185 34 (-1 : Int32)) (.int v15) s13 ∧
        ∃ (v18 : Int64) (s16 : st_T), Wd s16 ∧ fn_ γ m_X12_with 0 [.long ((lN (kr_ g K S)) + ((1 : Int64) <<< (((4 : Int32) * (i_ (t : Int))).toInt64 &&& 63))), .int ((32 : Int32) + ((2 : Int32) * (st_I σ 197 (i_ (n : Int)).toNatClampNeg))), .int v15] s13 (.long v18) s16 ∧
        Q (.inl (some (.int (1 : Int32)))) (pt_L s16 185 32 v18)
      ) ∧ (¬ (st_I σ 185 31) = (0 : Int32) →
        vp_in (i_ (n : Int)) 40 ∧
        Q (.inl (some (.int (1 : Int32)))) (pt_L (pt_I (pt_L (pt_I σ 185 33 (i_ (n : Int))) 185 32 ((lN (kr_ g K S)) + ((1 : Int64) <<< (((4 : Int32) * (i_ (t : Int))).toInt64 &&& 63)))) 185 34 (-1 : Int32)) 185 32 (((lN (kr_ g K S)) + ((1 : Int64) <<< (((4 : Int32) * (i_ (t : Int))).toInt64 &&& 63))) ||| ((1 : Int64) <<< (((38 : Int32) + (st_I σ 202 (i_ (n : Int)).toNatClampNeg)).toInt64 &&& 63))))
      )
    ) ∧ (¬ (st_I σ 196 (i_ (n : Int)).toNatClampNeg) = (0 : Int32) →
      vp_in (i_ (n : Int)) 40 ∧
      ((st_I σ 196 (i_ (n : Int)).toNatClampNeg) = (3 : Int32) →
        Q (.inl (some (.int (1 : Int32)))) (pt_I (pt_L (pt_I σ 185 33 (i_ (n : Int))) 185 32 ((lN (kr_ g K S)) + ((1 : Int64) <<< (((4 : Int32) * (i_ (t : Int))).toInt64 &&& 63)))) 185 34 (-1 : Int32))
      ) ∧ (¬ (st_I σ 196 (i_ (n : Int)).toNatClampNeg) = (3 : Int32) →
        vp_in (i_ (n : Int)) 40 ∧
        ((st_I σ 196 (i_ (n : Int)).toNatClampNeg) = (1 : Int32) →
          vp_in (i_ (n : Int)) 40 ∧
          ∃ (v27 : Int32) (σ5 : st_T), Wd σ5 ∧ fn_ γ m_X12_waiting 1 [.ref 185, .long (lN (kr_ g K S)), .int (i_ (t : Int)), .int (st_I σ 197 (i_ (n : Int)).toNatClampNeg), .int (1 : Int32)] (pt_I (pt_L (pt_I σ 185 33 (i_ (n : Int))) 185 32 ((lN (kr_ g K S)) + ((1 : Int64) <<< (((4 : Int32) * (i_ (t : Int))).toInt64 &&& 63)))) 185 34 (-1 : Int32)) (.int v27) σ5 ∧
          (v27 = (-1 : Int32) →
            (v27 = (-1 : Int32) →
              vp_in (i_ (n : Int)) 40 ∧
              ∃ (v33 : Int32) (s31 : st_T), Wd s31 ∧ fn_ γ m_X12_memoryOf 0 [.long (lN (kr_ g K S)), .int (st_I σ5 197 (i_ (n : Int)).toNatClampNeg)] (pt_I σ5 185 34 (-2 : Int32)) (.int v33) s31 ∧
              vp_in (i_ (n : Int)) 40 ∧
              ∃ (v37 : Int64) (s35 : st_T), Wd s35 ∧ fn_ γ m_X12_with 0 [.long (st_L s31 185 32), .int ((16 : Int32) + ((2 : Int32) * (((2 : Int32) * (i_ (t : Int))) + (st_I s31 198 (i_ (n : Int)).toNatClampNeg)))), .int v33] s31 (.long v37) s35 ∧
              vp_in (i_ (n : Int)) 40 ∧
              ((st_I s35 196 (i_ (n : Int)).toNatClampNeg) = (2 : Int32) →
                vp_in (i_ (n : Int)) 40 ∧
                ∃ (v43 : Int32) (s41 : st_T), Wd s41 ∧ fn_ γ m_X12_valueOf 1 [.ref 185, .long (lN (kr_ g K S)), .int (i_ (t : Int)), .int (i_ (n : Int))] (pt_L s35 185 32 v37) (.int v43) s41 ∧
                ∃ (v46 : Int64) (s44 : st_T), Wd s44 ∧ fn_ γ m_X12_with 0 [.long v37, .int ((32 : Int32) + ((2 : Int32) * (st_I s35 197 (i_ (n : Int)).toNatClampNeg))), .int v43] s41 (.long v46) s44 ∧
                Q (.inl (some (.int (1 : Int32)))) (pt_L s44 185 32 v46)
              ) ∧ (¬ (st_I s35 196 (i_ (n : Int)).toNatClampNeg) = (2 : Int32) →
                Q (.inl (some (.int (1 : Int32)))) (pt_L s35 185 32 v37)
              )
            ) ∧ (¬ v27 = (-1 : Int32) →
              ∃ (v49 : Int32) (s47 : st_T), Wd s47 ∧ fn_ γ m_X12_valueOf 1 [.ref 185, .long (lN (kr_ g K S)), .int (i_ (t : Int)), .int v27] (pt_I σ5 185 34 (-2 : Int32)) (.int v49) s47 ∧
              vp_in (i_ (n : Int)) 40 ∧
              ∃ (v53 : Int64) (s51 : st_T), Wd s51 ∧ fn_ γ m_X12_with 0 [.long (st_L s47 185 32), .int ((16 : Int32) + ((2 : Int32) * (((2 : Int32) * (i_ (t : Int))) + (st_I s47 198 (i_ (n : Int)).toNatClampNeg)))), .int v49] s47 (.long v53) s51 ∧
              vp_in (i_ (n : Int)) 40 ∧
              ((st_I s51 196 (i_ (n : Int)).toNatClampNeg) = (2 : Int32) →
                vp_in (i_ (n : Int)) 40 ∧
                ∃ (v59 : Int32) (s57 : st_T), Wd s57 ∧ fn_ γ m_X12_valueOf 1 [.ref 185, .long (lN (kr_ g K S)), .int (i_ (t : Int)), .int (i_ (n : Int))] (pt_L s51 185 32 v53) (.int v59) s57 ∧
                ∃ (v62 : Int64) (s60 : st_T), Wd s60 ∧ fn_ γ m_X12_with 0 [.long v53, .int ((32 : Int32) + ((2 : Int32) * (st_I s51 197 (i_ (n : Int)).toNatClampNeg))), .int v59] s57 (.long v62) s60 ∧
                Q (.inl (some (.int (1 : Int32)))) (pt_L s60 185 32 v62)
              ) ∧ (¬ (st_I s51 196 (i_ (n : Int)).toNatClampNeg) = (2 : Int32) →
                Q (.inl (some (.int (1 : Int32)))) (pt_L s51 185 32 v53)
              )
            )
          ) ∧ (¬ v27 = (-1 : Int32) →
            (v27 = (-1 : Int32) →
              vp_in (i_ (n : Int)) 40 ∧
              ∃ (v67 : Int32) (s65 : st_T), Wd s65 ∧ fn_ γ m_X12_memoryOf 0 [.long (lN (kr_ g K S)), .int (st_I σ5 197 (i_ (n : Int)).toNatClampNeg)] (pt_I σ5 185 34 v27) (.int v67) s65 ∧
              vp_in (i_ (n : Int)) 40 ∧
              ∃ (v71 : Int64) (s69 : st_T), Wd s69 ∧ fn_ γ m_X12_with 0 [.long (st_L s65 185 32), .int ((16 : Int32) + ((2 : Int32) * (((2 : Int32) * (i_ (t : Int))) + (st_I s65 198 (i_ (n : Int)).toNatClampNeg)))), .int v67] s65 (.long v71) s69 ∧
              vp_in (i_ (n : Int)) 40 ∧
              ((st_I s69 196 (i_ (n : Int)).toNatClampNeg) = (2 : Int32) →
                vp_in (i_ (n : Int)) 40 ∧
                ∃ (v77 : Int32) (s75 : st_T), Wd s75 ∧ fn_ γ m_X12_valueOf 1 [.ref 185, .long (lN (kr_ g K S)), .int (i_ (t : Int)), .int (i_ (n : Int))] (pt_L s69 185 32 v71) (.int v77) s75 ∧
                ∃ (v80 : Int64) (s78 : st_T), Wd s78 ∧ fn_ γ m_X12_with 0 [.long v71, .int ((32 : Int32) + ((2 : Int32) * (st_I s69 197 (i_ (n : Int)).toNatClampNeg))), .int v77] s75 (.long v80) s78 ∧
                Q (.inl (some (.int (1 : Int32)))) (pt_L s78 185 32 v80)
              ) ∧ (¬ (st_I s69 196 (i_ (n : Int)).toNatClampNeg) = (2 : Int32) →
                Q (.inl (some (.int (1 : Int32)))) (pt_L s69 185 32 v71)
              )
            ) ∧ (¬ v27 = (-1 : Int32) →
              ∃ (v83 : Int32) (s81 : st_T), Wd s81 ∧ fn_ γ m_X12_valueOf 1 [.ref 185, .long (lN (kr_ g K S)), .int (i_ (t : Int)), .int v27] (pt_I σ5 185 34 v27) (.int v83) s81 ∧
              vp_in (i_ (n : Int)) 40 ∧
              ∃ (v87 : Int64) (s85 : st_T), Wd s85 ∧ fn_ γ m_X12_with 0 [.long (st_L s81 185 32), .int ((16 : Int32) + ((2 : Int32) * (((2 : Int32) * (i_ (t : Int))) + (st_I s81 198 (i_ (n : Int)).toNatClampNeg)))), .int v83] s81 (.long v87) s85 ∧
              vp_in (i_ (n : Int)) 40 ∧
              ((st_I s85 196 (i_ (n : Int)).toNatClampNeg) = (2 : Int32) →
                vp_in (i_ (n : Int)) 40 ∧
                ∃ (v93 : Int32) (s91 : st_T), Wd s91 ∧ fn_ γ m_X12_valueOf 1 [.ref 185, .long (lN (kr_ g K S)), .int (i_ (t : Int)), .int (i_ (n : Int))] (pt_L s85 185 32 v87) (.int v93) s91 ∧
                ∃ (v96 : Int64) (s94 : st_T), Wd s94 ∧ fn_ γ m_X12_with 0 [.long v87, .int ((32 : Int32) + ((2 : Int32) * (st_I s85 197 (i_ (n : Int)).toNatClampNeg))), .int v93] s91 (.long v96) s94 ∧
                Q (.inl (some (.int (1 : Int32)))) (pt_L s94 185 32 v96)
              ) ∧ (¬ (st_I s85 196 (i_ (n : Int)).toNatClampNeg) = (2 : Int32) →
                Q (.inl (some (.int (1 : Int32)))) (pt_L s85 185 32 v87)
              )
            )
          )
        ) ∧ (¬ (st_I σ 196 (i_ (n : Int)).toNatClampNeg) = (1 : Int32) →
          vp_in (i_ (n : Int)) 40 ∧
          ∃ (v100 : Int32) (s98 : st_T), Wd s98 ∧ fn_ γ m_X12_memoryOf 0 [.long (lN (kr_ g K S)), .int (st_I σ 197 (i_ (n : Int)).toNatClampNeg)] (pt_I (pt_I (pt_L (pt_I σ 185 33 (i_ (n : Int))) 185 32 ((lN (kr_ g K S)) + ((1 : Int64) <<< (((4 : Int32) * (i_ (t : Int))).toInt64 &&& 63)))) 185 34 (-1 : Int32)) 185 34 (-2 : Int32)) (.int v100) s98 ∧
          vp_in (i_ (n : Int)) 40 ∧
          ∃ (v104 : Int64) (s102 : st_T), Wd s102 ∧ fn_ γ m_X12_with 0 [.long (st_L s98 185 32), .int ((16 : Int32) + ((2 : Int32) * (((2 : Int32) * (i_ (t : Int))) + (st_I s98 198 (i_ (n : Int)).toNatClampNeg)))), .int v100] s98 (.long v104) s102 ∧
          vp_in (i_ (n : Int)) 40 ∧
          ((st_I s102 196 (i_ (n : Int)).toNatClampNeg) = (2 : Int32) →
            vp_in (i_ (n : Int)) 40 ∧
            ∃ (v110 : Int32) (s108 : st_T), Wd s108 ∧ fn_ γ m_X12_valueOf 1 [.ref 185, .long (lN (kr_ g K S)), .int (i_ (t : Int)), .int (i_ (n : Int))] (pt_L s102 185 32 v104) (.int v110) s108 ∧
            ∃ (v113 : Int64) (s111 : st_T), Wd s111 ∧ fn_ γ m_X12_with 0 [.long v104, .int ((32 : Int32) + ((2 : Int32) * (st_I s102 197 (i_ (n : Int)).toNatClampNeg))), .int v110] s108 (.long v113) s111 ∧
            Q (.inl (some (.int (1 : Int32)))) (pt_L s111 185 32 v113)
          ) ∧ (¬ (st_I s102 196 (i_ (n : Int)).toNatClampNeg) = (2 : Int32) →
            Q (.inl (some (.int (1 : Int32)))) (pt_L s102 185 32 v104)
          )
        )
      )
    ) := by
  obtain ⟨hg, hm, hB, hI⟩ := id zM
  obtain ⟨k1, k2, k3⟩ := gk_ hg q1
  have hK := hg.1
  have hn : n < K := by omega
  obtain ⟨h1, h2, h3, -, -, h6⟩ := hI n hn
  have kn := hg.2.2.2.2.2.2.2.1 n hn
  have hv := gv_r4 (t := t) hg v hn
  have vP := vr_P hg v q1 q2
  have vp : vp_in (i_ (n : Int)) 40 := i_in (by omega) (by omega) (by omega)
  have hm3 := hg.2.2.2.2.2.2.1
  subst zn
  rw [kr_moved hg v q1 q2]
  simp only [i_cl (show -2147483648 ≤ ((gB_ g t + sP_ S t : Nat) : Int) ∧ ((gB_ g t + sP_ S t : Nat) : Int) < 2147483648 by omega), Int.toNat_natCast]
  generalize hnn : gB_ g t + sP_ S t = n at *
  have done : ∀ (s : st_T), Sx_ σ g K S t s → Q (.inl (some (.int (1 : Int32)))) s := zQ
  have R0 : ∀ x c, ro_ dS_ σ (pt_I (pt_L (pt_I σ 185 33 (i_ (n : Int))) 185 32 x) 185 34 c) := fun x c => ro_I (ro_L (ro_I ro_rf dS_3) dS_2) dS_4
  have W0 : ∀ x c, Wd (pt_I (pt_L (pt_I σ 185 33 (i_ (n : Int))) 185 32 x) 185 34 c) := fun x c => ro_wd (R0 x c) zw
  have M0 : ∀ x c, Mr_ (pt_I (pt_L (pt_I σ 185 33 (i_ (n : Int))) 185 32 x) 185 34 c) g K := fun x c => ro_mr (R0 x c) dS_mr zM
  rw [h1]
  refine ⟨vp, fun y0 => ?_, fun y0 => ⟨vp, fun y3 => ?_, fun y3 => ⟨vp, fun y1 => ⟨vp, ?_⟩, fun y1 => ⟨vp, ?_⟩⟩⟩⟩
  · rw [k0_, i_eq (by omega) (by omega)] at y0
    have e2 : gC_ g n 2 = ((gC_ g n 2).toNat : Int) := by omega
    have s0 : so_ g S t = -1 := by unfold so_; rw [hnn, if_neg (by omega), if_neg (by omega)]
    rw [hm]
    refine ⟨fun m0 => ⟨vp, ?_⟩, fun m0 => ⟨vp, ?_⟩⟩
    · rw [k0_, i_eq (by omega) (by omega)] at m0
      refine ⟨_, _, W0 _ _, c_rval (W0 _ _) (M0 _ _) v q1 hn (Or.inl y0), ?_⟩
      rw [h2, e2, rs_M]
      refine ⟨_, _, W0 _ _, c_rwith (W0 _ _) (by omega) kr_63 hv, done _ ⟨ro_L (R0 _ _) dS_2, ?_, ?_, ?_⟩⟩
      · rw [hnn]; rfl
      · rw [s0]; rfl
      · rw [hnn, kr_of hg (cr_setM hg (kr_cr hg _) (by omega) hv)]
        unfold gxb_
        rw [if_pos y0, if_pos (by omega)]
        rfl
    · rw [k0_, i_eq (by omega) (by omega)] at m0
      have b := sbn_8 hg hn y0
      refine done _ ⟨ro_L (R0 _ _) dS_2, ?_, ?_, ?_⟩
      · rw [hnn]; rfl
      · rw [s0]; rfl
      · rw [hnn, h6 y0, rs_W, show (1 : Int64) = lN 1 from rfl, l_shl (by omega) (by rw [Nat.one_mul]; exact Nat.pow_lt_pow_right (by decide) (by omega)), Nat.one_mul, l_or (Nat.lt_trans kr_63 (by decide)) (Nat.pow_lt_pow_right (by decide) (by omega))]
        rw [kr_of hg (cr_setW hn y0 (kr_cr hg _))]
        unfold gxb_
        rw [if_pos y0, if_neg (by omega)]
        rfl
  · rw [k3_, i_eq (by omega) (by omega)] at y3
    refine done _ ⟨R0 _ _, ?_, ?_, ?_⟩
    · rw [hnn]; rfl
    · unfold so_; rw [hnn, if_neg (by omega), if_neg (by omega)]; rfl
    · rw [hnn]
      unfold gxb_
      rw [if_neg (by omega), if_neg (by omega), if_neg (by omega)]
      rfl
  · rw [k1_, i_eq (by omega) (by omega)] at y1
    have e2 : gC_ g n 2 = ((gC_ g n 2).toNat : Int) := by omega
    have e3 : gC_ g n 3 = ((gC_ g n 3).toNat : Int) := by omega
    have ew := c_rw2 (γ := γ) (W0 (lN (kr_ g K (un_ (sP_ S) t (sP_ S t + 1), sR_ S, sM_ S, sW_ S))) (-1)) (M0 _ _) v q1 (z := gC_ g n 2) (by omega)
    rw [h2]
    refine ⟨_, _, W0 _ _, ew, ?_⟩
    rw [show (-1 : Int32) = i_ (-1) by decide]
    cases hj : gw2_ g S t (gC_ g n 2) with
    | none =>
      refine ⟨fun _ => ⟨fun _ => ⟨vp, ?_⟩, fun z => absurd rfl z⟩, fun z => absurd rfl z⟩
      have R1 : ro_ dS_ σ (pt_I (pt_I (pt_L (pt_I σ 185 33 (i_ (n : Int))) 185 32 (lN (kr_ g K (un_ (sP_ S) t (sP_ S t + 1), sR_ S, sM_ S, sW_ S)))) 185 34 (i_ (-1))) 185 34 (-2 : Int32)) := ro_I (R0 _ _) dS_4
      have W1 := ro_wd R1 zw
      have hx := (v.2.2.1 (gC_ g n 2).toNat).1
      have em := c_rmem (γ := γ) W1 hg v (l := (gC_ g n 2).toNat) (by omega)
      rw [← e2] at em
      refine ⟨i_ (sM_ S (gC_ g n 2).toNat : Int), _, W1, ?_, vp, ?_⟩
      · show fn_ γ m_X12_memoryOf 0 [.long (lN (kr_ g K S)), .int (st_I σ 197 n)] _ _ _
        rw [h2]
        exact em
      · have er := c_rwith (γ := γ) W1 (s := kr_ g K (un_ (sP_ S) t (sP_ S t + 1), sR_ S, sM_ S, sW_ S)) (x := 16 + 2 * (2 * t + (gC_ g n 3).toNat)) (y := sM_ S (gC_ g n 2).toNat) (by omega) kr_63 hx
        obtain ⟨xv, hxv⟩ : ∃ xv, xv = lN (sd_ (kr_ g K (un_ (sP_ S) t (sP_ S t + 1), sR_ S, sM_ S, sW_ S)) (16 + 2 * (2 * t + (gC_ g n 3).toNat)) (sM_ S (gC_ g n 2).toNat)) := ⟨_, rfl⟩
        rw [← hxv] at er
        refine ⟨xv, _, W1, ?_, vp, fun z => ?_, fun z => ?_⟩
        · show fn_ γ m_X12_with 0 [.long (lN (kr_ g K (un_ (sP_ S) t (sP_ S t + 1), sR_ S, sM_ S, sW_ S))), .int ((16 : Int32) + ((2 : Int32) * (((2 : Int32) * (i_ (t : Int))) + (st_I σ 198 n)))), _] _ _ _
          rw [h3, e3, rs_R]
          exact er
        · have z : st_I σ 196 n = (2 : Int32) := z
          rw [h1, k2_, i_eq (by omega) (by omega)] at z
          omega
        · refine done _ ⟨ro_L R1 dS_2, ?_, ?_, ?_⟩
          · rw [hnn]; rfl
          · unfold so_; rw [hnn, if_pos y1, hj]; rfl
          · show xv = _
            rw [hxv, hnn, kr_of hg (cr_setR hg (kr_cr hg _) (by omega) hx)]
            unfold gxb_
            rw [if_neg (by omega), if_pos y1, hj]
            rfl
    | some j =>
      have jn := gw2_in v hj
      have ne : ¬ i_ (wu_ (some j)) = i_ (-1) := by
        show ¬ i_ ((j : Nat) : Int) = i_ (-1)
        rw [i_eq (by omega) (by omega)]
        omega
      refine ⟨fun z => absurd z ne, fun _ => ⟨fun z => absurd z ne, fun _ => ?_⟩⟩
      have R1 : ro_ dS_ σ (pt_I (pt_I (pt_L (pt_I σ 185 33 (i_ (n : Int))) 185 32 (lN (kr_ g K (un_ (sP_ S) t (sP_ S t + 1), sR_ S, sM_ S, sW_ S)))) 185 34 (i_ (-1))) 185 34 (i_ (wu_ (some j)))) := ro_I (R0 _ _) dS_4
      have W1 := ro_wd R1 zw
      have hx := gv_r4 (t := t) hg v jn.1
      have em := c_rval (γ := γ) W1 (ro_mr R1 dS_mr zM) v q1 jn.1 (Or.inl jn.2.1)
      refine ⟨_, _, W1, em, vp, ?_⟩
      have er := c_rwith (γ := γ) W1 (s := kr_ g K (un_ (sP_ S) t (sP_ S t + 1), sR_ S, sM_ S, sW_ S)) (x := 16 + 2 * (2 * t + (gC_ g n 3).toNat)) (by omega) kr_63 hx
      obtain ⟨xv, hxv⟩ : ∃ xv, xv = lN (sd_ (kr_ g K (un_ (sP_ S) t (sP_ S t + 1), sR_ S, sM_ S, sW_ S)) (16 + 2 * (2 * t + (gC_ g n 3).toNat)) (gv_ g S t j)) := ⟨_, rfl⟩
      rw [← hxv] at er
      refine ⟨xv, _, W1, ?_, vp, fun z => ?_, fun z => ?_⟩
      · show fn_ γ m_X12_with 0 [.long (lN (kr_ g K (un_ (sP_ S) t (sP_ S t + 1), sR_ S, sM_ S, sW_ S))), .int ((16 : Int32) + ((2 : Int32) * (((2 : Int32) * (i_ (t : Int))) + (st_I σ 198 n)))), _] _ _ _
        rw [h3, e3, rs_R]
        exact er
      · have z : st_I σ 196 n = (2 : Int32) := z
        rw [h1, k2_, i_eq (by omega) (by omega)] at z
        omega
      · refine done _ ⟨ro_L R1 dS_2, ?_, ?_, ?_⟩
        · rw [hnn]; rfl
        · unfold so_; rw [hnn, if_pos y1, hj]; rfl
        · show xv = _
          rw [hxv, hnn, kr_of hg (cr_setR hg (kr_cr hg _) (by omega) hx)]
          unfold gxb_
          rw [if_neg (by omega), if_pos y1, hj]
          rfl
  · rw [k0_, i_eq (by omega) (by omega)] at y0
    rw [k1_, i_eq (by omega) (by omega)] at y1
    rw [k3_, i_eq (by omega) (by omega)] at y3
    have y2 : gC_ g n 1 = 2 := by omega
    have e2 : gC_ g n 2 = ((gC_ g n 2).toNat : Int) := by omega
    have e3 : gC_ g n 3 = ((gC_ g n 3).toNat : Int) := by omega
    have R1 : ro_ dS_ σ (pt_I (pt_I (pt_L (pt_I σ 185 33 (i_ (n : Int))) 185 32 (lN (kr_ g K (un_ (sP_ S) t (sP_ S t + 1), sR_ S, sM_ S, sW_ S)))) 185 34 (-1 : Int32)) 185 34 (-2 : Int32)) := ro_I (R0 _ _) dS_4
    have W1 := ro_wd R1 zw
    have hx := (v.2.2.1 (gC_ g n 2).toNat).1
    have em := c_rmem (γ := γ) W1 hg v (l := (gC_ g n 2).toNat) (by omega)
    rw [← e2] at em
    rw [h2]
    refine ⟨_, _, W1, em, vp, ?_⟩
    have er := c_rwith (γ := γ) W1 (s := kr_ g K (un_ (sP_ S) t (sP_ S t + 1), sR_ S, sM_ S, sW_ S)) (x := 16 + 2 * (2 * t + (gC_ g n 3).toNat)) (by omega) kr_63 hx
    have ek := kr_of hg (cr_setR hg (kr_cr hg (un_ (sP_ S) t (sP_ S t + 1), sR_ S, sM_ S, sW_ S)) (q := 2 * t + (gC_ g n 3).toNat) (by omega) hx)
    rw [ek] at er
    refine ⟨lN (kr_ g K (un_ (sP_ S) t (sP_ S t + 1), un_ (sR_ S) (2 * t + (gC_ g n 3).toNat) (sM_ S (gC_ g n 2).toNat), sM_ S, sW_ S)), _, W1, ?_, vp, fun z => ⟨vp, ?_⟩, fun z => ?_⟩
    · show fn_ γ m_X12_with 0 [.long (lN (kr_ g K (un_ (sP_ S) t (sP_ S t + 1), sR_ S, sM_ S, sW_ S))), .int ((16 : Int32) + ((2 : Int32) * (((2 : Int32) * (i_ (t : Int))) + (st_I σ 198 n)))), _] _ _ _
      rw [h3, e3, rs_R]
      exact er
    · have R2 := ro_L (x := lN (kr_ g K (un_ (sP_ S) t (sP_ S t + 1), un_ (sR_ S) (2 * t + (gC_ g n 3).toNat) (sM_ S (gC_ g n 2).toNat), sM_ S, sW_ S))) R1 dS_2
      have W2 := ro_wd R2 zw
      refine ⟨_, _, W2, c_rval W2 (ro_mr R2 dS_mr zM) v q1 hn (Or.inr y2), ?_⟩
      refine ⟨lN (sd_ (kr_ g K (un_ (sP_ S) t (sP_ S t + 1), un_ (sR_ S) (2 * t + (gC_ g n 3).toNat) (sM_ S (gC_ g n 2).toNat), sM_ S, sW_ S)) (32 + 2 * (gC_ g n 2).toNat) (gv_ g S t n)), _, W2, ?_, ?_⟩
      · show fn_ γ m_X12_with 0 [.long _, .int ((32 : Int32) + ((2 : Int32) * (st_I σ 197 n))), _] _ _ _
        rw [h2, e2, rs_M, ← e2]
        exact c_rwith W2 (by omega) kr_63 hv
      · refine done _ ⟨ro_L R2 dS_2, ?_, ?_, ?_⟩
        · rw [hnn]; rfl
        · unfold so_; rw [hnn, if_neg (by omega), if_pos y2]; rfl
        · rw [hnn, kr_of hg (cr_setM hg (kr_cr hg _) (by omega) hv)]
          unfold gxb_
          rw [if_neg (by omega), if_neg (by omega), if_pos y2]
          rfl
    · have z : ¬ st_I σ 196 n = (2 : Int32) := z
      rw [h1, k2_, i_eq (by omega) (by omega)] at z
      omega
end RN
