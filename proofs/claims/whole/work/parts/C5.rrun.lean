/-! the reference: a run; queries over outcomes -/
section RU
variable {γ : ga_T} {σ σ1 : st_T} {A A' : ca_T} {c m G : Nat} {z y : Int} {p : pr_T} {e : String → Nat}
/-- what is laid is small enough: gaps' fences, or one fence left out -/
def Bz_ (p : pr_T) : Prop := ∀ (G m : Nat) (z : Int), m < 3 → ((G < 64 ∧ z = -1) ∨ (G = 0 ∧ 0 ≤ z ∧ z < pN_ p ∧ pC_ p z.toNat 1 = 3)) → Br_ (gly_ p G z m) (Kl_ p G z) (s0k_ p (pL_ p))
theorem bz_0 (h : Bz_ p) {m : Nat} (hm : m < 3) : Br_ (gly_ p 0 (-1) m) (Kl_ p 0 (-1)) (s0k_ p (pL_ p)) := h 0 m (-1) hm (Or.inl ⟨by decide, rfl⟩)
/-- the outcomes of what is laid -/
def OR_ (p : pr_T) (G : Nat) (z : Int) (m : Nat) : List (Nat × Int64) := srt_ (rlr_ (gly_ p G z m) (Kl_ p G z) p (br_ (gly_ p G z m) (Kl_ p G z) (s0k_ p (pL_ p))))
theorem vz_bn (zP : Wp_ p) (hm : m < 3) (n : Nat) : al_ (fun S => Vr_ (gly_ p G z m) (Kl_ p G z) S ∧ Vy_ p S) (bn_ (kr_ (gly_ p G z m) (Kl_ p G z)) (gly_ p G z m) 4 4 (s0k_ p (pL_ p)) n) :=
  bn_alP _ ⟨vr_0 zP.1 (gw_ly zP hm), fun _ _ => rfl, fun l hl => by
    show (if l < pL_ p then (pI_ p l).toNat else 0) = 0
    rw [if_neg (by omega)]⟩ (fun S t w S2 h z1 z2 z3 => ⟨vr_step (gw_ly zP hm) h.1 z1 z2 z3, vy_step zP hm h.1 h.2 z1 z2 z3⟩) n
theorem rlr_pw (zP : Wp_ p) (hm : m < 3) : (rlr_ (gly_ p G z m) (Kl_ p G z) p (br_ (gly_ p G z m) (Kl_ p G z) (s0k_ p (pL_ p)))).Pairwise (fun x y => x.1 ≠ y.1) := by
  have al := vz_bn (G := G) (z := z) zP hm 65535
  exact rlr_nk zP.1 (gw_ly zP hm) (fun q hq => (al q hq).1) (fun q hq t ht => ⟨(al q hq).2.1 _ (by omega), (al q hq).2.1 _ (by omega)⟩) (fun q hq l hl => (al q hq).2.2 l hl) (nk_bn _ _ _ _ _ _)
/-- what a run leaves -/
def Rf_ (s : st_T) (p : pr_T) (G : Nat) (z : Int) (m c : Nat) : Prop := Rg_ s (gly_ p G z m) (Kl_ p G z) c p ∧ Nr_ s p ∧ Lr_ s p (ly_ p G z (pN_ p))
def dRn_ (a k : Nat) : Prop := dL_ a k ∨ dG_ a k
theorem dR_W {a k : Nat} (h : dRn_ a k) : dW_ a k := by
  unfold dRn_ at h
  unfold dL_ dG_ dE_ dX_ dS_ dT_ dO_ at h
  unfold dW_
  omega
theorem dRn_0 {s : st_T} (r : ro_ dRn_ σ s) : st_I s 185 0 = st_I σ 185 0 := (r.2 185 0 (fun y => by unfold dRn_ dL_ dG_ dE_ dX_ dS_ dT_ dO_ at y; omega)).1
theorem dW_M {a k : Nat} (h : dW_ a k) : dM_ a k := h.1
theorem jr_run (h : Jr_ σ A c) (hc : c < 1073741822) {s : st_T} (r : ro_ dRn_ σ s) {M : List (Nat × Int64)} (k : Rk_ s M (c + 1)) : Jr_ s A (c + 1) := ⟨ro_wd r h.1, rk_ro k (by omega), jm_ro r (fun _ _ z _ _ => dR_W z) h.2.2⟩
theorem l_rrun (h : Jr_ σ A c) (hc : c < 1073741822) (zP : Wp_ (aP_ A).1) (hm : m < 3) (hG : G < 64) (hz : -1 ≤ z ∧ z < 1000) (hb : Br_ (gly_ (aP_ A).1 G z m) (Kl_ (aP_ A).1 G z) (s0k_ (aP_ A).1 (pL_ (aP_ A).1))) :
    ∃ s1 s2, fw_ γ m_X12_laysProgram 3 [.ref 185, .int (i_ (G : Int)), .int (i_ z)] σ s1 ∧ Wd s1 ∧ fw_ γ m_X12_gathers 5 [.ref 185, .int (i_ (m : Int))] s1 s2 ∧ Rf_ s2 (aP_ A).1 G z m c ∧ ro_ dRn_ σ s2 ∧ Jr_ s2 A (c + 1) := by
  obtain ⟨s1, f1, w1, n1, l1, r1, b1⟩ := c_rlaysP (γ := γ) h.1 h.2.2.2.1.1 zP (Nat.lt_trans hG (by decide)) hz
  have O1 : Rt0_ s1 c := rt0_cg (fun a k y => (r1.2 a k (fun y2 => by unfold dL_ at y2; omega)).1) h.2.1
  obtain ⟨s2, f2, g2, r2⟩ := c_rgathers (γ := γ) w1 (ml_ly (m := m) zP hm l1 b1) n1 O1 hb (rlr_pw zP hm)
  have r3 : ro_ dRn_ σ s2 := ro_tr (ro_up r1 (fun _ _ y => Or.inl y)) (ro_up r2 (fun _ _ y => Or.inr y))
  refine ⟨s1, s2, f1, w1, f2, ⟨g2, nr_ro r3 (fun k y => by have y := dR_W y; unfold dW_ at y; omega) h.2.2.2.1.1, fun n x hx => ?_⟩, r3, jr_run h hc r3 g2.2.1⟩
  have f : ∀ a, 196 ≤ a → a ≤ 202 → st_I s2 a n = st_I s1 a n := fun a z1 z2 => (r2.2 a n (fun y => by unfold dG_ dE_ dX_ dS_ dT_ dO_ at y; omega)).1
  rw [f 196 (by decide) (by decide), f 197 (by decide) (by decide), f 198 (by decide) (by decide), f 199 (by decide) (by decide), f 200 (by decide) (by decide), f 201 (by decide) (by decide), f 202 (by decide) (by decide)]
  exact l1 n x hx
theorem c_outcomesOf (h : Jr_ σ A c) (hc : c < 1073741822) (zP : Wp_ (aP_ A).1) (hm : m < 3) (hb : Bz_ (aP_ A).1) :
    ∃ s, fw_ γ m_X12_outcomesOf 6 [.ref 185, .int (i_ (m : Int))] σ s ∧ Rf_ s (aP_ A).1 0 (-1) m c ∧ ro_ dRn_ σ s ∧ Jr_ s A (c + 1) := by
  obtain ⟨s1, s2, f1, w1, f2, g1, g2, g3⟩ := l_rrun (γ := γ) (G := 0) (z := -1) h hc zP hm (by decide) (by decide) (bz_0 hb hm)
  refine ⟨s2, fw_q (fun Q zQ => e_X12_outcomesOf h.1 ?_), g1, g2, g3⟩
  unfold p_X12_outcomesOf_0
  rw [show i_ ((0 : Nat) : Int) = (0 : Int32) by decide, show i_ (-1) = (-1 : Int32) by decide] at f1
  exact ⟨s1, w1, f1, s2, g3.1, f2, zQ⟩
theorem or_O (zP : Wp_ (aP_ A).1) (hm : m < 3) (hb : Bz_ (aP_ A).1) : OR_ (aP_ A).1 0 (-1) m = O_ A m := by
  unfold OR_
  rw [rlr_t1 zP hm (bz_0 hb hm)]
  rfl
/-- the outcomes are laid there -/
theorem rf_oc (zP : Wp_ (aP_ A).1) (hm : m < 3) (hb : Bz_ (aP_ A).1) {s : st_T} (h : Rf_ s (aP_ A).1 0 (-1) m c) : Oc_ s (O_ A m) ∧ st_I s 185 44 = i_ ((O_ A m).length : Int) := by
  rw [← or_O zP hm hb]
  exact ⟨h.1.2.2.2.1, h.1.2.2.2.2⟩
theorem rf_mn (zP : Wp_ (aP_ A).1) (hm : m < 3) (hb : Bz_ (aP_ A).1) {s : st_T} (h : Rf_ s (aP_ A).1 0 (-1) m c) : st_I s 185 39 = i_ ((bf_ (aP_ A).1 m (F0_ (aP_ A).1)).length : Int) := by
  rw [h.1.2.1.2.2.1.1, ← br_t1 zP hm (bz_0 hb hm)]
  unfold wq_
  rw [List.length_map]
/-- what each query begins with -/
theorem rq1_ {BODY K2 : st_T → Prop} (zw : Wd σ) (q0 : -2147483648 ≤ z ∧ z < 2147483648) (h1 : 0 ≤ z ∧ z < 3 → BODY (pt_I σ 185 0 (i_ 0))) (h2 : ¬ (0 ≤ z ∧ z < 3) → K2 (pt_I σ 185 0 (i_ 1))) :
    ∃ (v3 : Int32) (s1 : st_T), Wd s1 ∧ fn_ γ m_X12_isNoModel 1 [.ref 185, .int (i_ z)] σ (.int v3) s1 ∧
    ∃ (v6 : Int32) (s4 : st_T), Wd s4 ∧ fn_ γ m_X12_fails 0 [.ref 185, .int v3, .int (0 : Int32), .int (0 : Int32)] s1 (.int v6) s4 ∧
    (v6 = (0 : Int32) → BODY s4) ∧ (¬ v6 = (0 : Int32) → K2 s4) := by
  have f := c_rfails (γ := γ) zw (a := decide (¬ (0 ≤ z ∧ z < 3))) (b := false) (d := false)
  rw [Bool.or_false, Bool.or_false] at f
  refine ⟨_, σ, zw, c_risNo zw q0, _, _, (show Wd (pt_I σ 185 0 _) from zw), f, fun y => ?_, fun y => ?_⟩
  · by_cases u : 0 ≤ z ∧ z < 3
    · have e1 : decide (¬ (0 ≤ z ∧ z < 3)) = false := decide_eq_false (fun y => y u)
      rw [e1]
      exact h1 u
    · rw [if_pos (by rw [decide_eq_true_eq]; exact u)] at y
      exact absurd y (by decide)
  · by_cases u : 0 ≤ z ∧ z < 3
    · rw [if_neg (by rw [decide_eq_true_eq]; exact fun y => y u)] at y
      exact absurd rfl y
    · have e1 : decide (¬ (0 ≤ z ∧ z < 3)) = true := decide_eq_true u
      rw [e1]
      exact h2 u
/-- the end of a query -/
def Re2_ (σ : st_T) (A' : ca_T) (c : Nat) (e : String → Nat) (r : rs_T) : rs_T → st_T → Prop := fun q s => ∃ v, q = .inl (some v) ∧ ∃ c', Jr_ s A' c' ∧ c' ≤ c + 100 ∧ ro_ dM_ σ s ∧ rok_ e r v (st_I s 185 0)
theorem ra_of {μ : mr_T} {d : Nat} {as : List Value} {r : rs_T} (h : sp_ γ μ d as σ (Re2_ σ A' c e r)) : Ra_ γ μ d as σ A' c e r := by
  obtain ⟨v, s, h1, c', h2, h3, h4, h5⟩ := fn_of (P := fun v s => ∃ c', Jr_ s A' c' ∧ c' ≤ c + 100 ∧ ro_ dM_ σ s ∧ rok_ e r v (st_I s 185 0)) h
  exact ⟨s, v, c', h1, h2, h3, h4, h5⟩
theorem re_failV (h : Jr_ σ A c) {r : rs_T} {E : String} (hr : r = .inr E) {k : Nat} (hk : e E = k) {v : Value} (hv : Vn_ e v) : Re2_ σ A c e r (.inl (some v)) (pt_I σ 185 0 (i_ (k : Int))) := by
  refine ⟨v, rfl, c, th_jr h _, by omega, ro_up (th_I _) (fun a k z => by unfold dM_; omega), ?_⟩
  rw [hr]
  refine ⟨?_, hv⟩
  rw [st_sI, hk]
theorem re_fail (h : Jr_ σ A c) {r : rs_T} {E : String} (hr : r = .inr E) {k : Nat} (hk : e E = k) (v : Int32) (hv : e "" ≠ 9 := by decide) : Re2_ σ A c e r (.inl (some (.int v))) (pt_I σ 185 0 (i_ (k : Int))) := re_failV h hr hk (Or.inl ⟨v, rfl, hv⟩)
theorem re_failL (h : Jr_ σ A c) {r : rs_T} {E : String} (hr : r = .inr E) {k : Nat} (hk : e E = k) (v : Int64) (hv : e "" = 9 := by decide) : Re2_ σ A c e r (.inl (some (.long v))) (pt_I σ 185 0 (i_ (k : Int))) := re_failV h hr hk (Or.inr ⟨v, rfl, hv⟩)
/-- an answer after a run -/
theorem re_run (h : Jr_ σ A c) {s s2 : st_T} {c' : Nat} (r1 : ro_ dM_ (pt_I σ 185 0 (i_ 0)) s2) (j : Jr_ s2 A' c') (hc : c' ≤ c + 100) (h0 : st_I s2 185 0 = i_ 0) {r : rs_T} {v : Value} (hr : r = .inl (some v)) : Re2_ σ A' c e r (.inl (some v)) s2 := by
  refine ⟨v, rfl, c', j, hc, ro_tr (ro_up (th_I _) (fun a k z => by unfold dM_; omega)) r1, ?_⟩
  rw [hr]
  exact ⟨rfl, h0⟩
/-- outcomes that the reference has laid, and nothing else happened -/
def Rw_ (σ : st_T) (A : ca_T) (m c : Nat) (s : st_T) : Prop := Rf_ s (aP_ A).1 0 (-1) m c ∧ ro_ dRn_ (pt_I σ 185 0 (i_ 0)) s ∧ Jr_ s A (c + 1) ∧ Oc_ s (O_ A m) ∧ st_I s 185 44 = i_ ((O_ A m).length : Int)
theorem c_rw0 (h : Jr_ σ A c) (hc : c < 1073741822) (zP : Wp_ (aP_ A).1) (hm : m < 3) (hb : Bz_ (aP_ A).1) : ∃ s, fw_ γ m_X12_outcomesOf 6 [.ref 185, .int (i_ (m : Int))] (pt_I σ 185 0 (i_ 0)) s ∧ Rw_ σ A m c s := by
  obtain ⟨s, f1, f2, f3, f4⟩ := c_outcomesOf (γ := γ) (th_jr h (i_ 0)) hc zP hm hb
  obtain ⟨o1, o2⟩ := rf_oc zP hm hb f2
  exact ⟨s, f1, f2, f3, f4, o1, o2⟩
/-- an answer after a run -/
theorem rw_ans {s s2 : st_T} (k : Rw_ σ A m c s) {D : Nat → Nat → Prop} (hD : ∀ a k, D a k → dW_ a k ∧ ¬ (a = 185 ∧ (k = 0 ∨ k = 40)) ∧ a ≠ 207) (r : ro_ D s s2) {r' : rs_T} {v : Value} (hr : r' = .inl (some v)) : Re2_ σ A c e r' (.inl (some v)) s2 := by
  obtain ⟨k1, k2, k3, -, -⟩ := k
  refine ⟨v, rfl, c + 1, ⟨ro_wd r k3.1, rt0_cg (fun a j z => (r.2 a j (fun y => by have := hD a j y; omega)).1) k3.2.1, jm_ro r (fun a j z _ _ => (hD a j z).1) k3.2.2⟩, by omega, ro_tr (ro_tr (ro_up (th_I _) (fun a k z => by unfold dM_; omega)) (ro_up k2 (fun a j y => dW_M (dR_W y)))) (ro_up r (fun a j y => dW_M (hD a j y).1)), ?_⟩
  rw [hr]
  refine ⟨rfl, ?_⟩
  rw [(r.2 185 0 (fun y => (hD _ _ y).2.1 ⟨rfl, Or.inl rfl⟩)).1, dRn_0 k2]
  exact st_sI _ _ _ _
theorem rw_ans0 {s : st_T} (k : Rw_ σ A m c s) {r' : rs_T} {v : Value} (hr : r' = .inl (some v)) : Re2_ σ A c e r' (.inl (some v)) s := rw_ans (D := fun _ _ => False) k (fun _ _ z => z.elim) ro_rf hr
end RU
