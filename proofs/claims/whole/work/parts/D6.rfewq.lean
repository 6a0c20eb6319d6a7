/-! the reference: the fewest fences -/
section RQ
variable {γ : ga_T} {σ σ1 s : st_T} {A A' : ca_T} {c m n : Nat} {z y : Int} {e : String → Nat} {p : pr_T} {L M : List (Nat × Int64)}
/-- the reference stands, its answer's cell as it was, so many runs done -/
def Fw_ (σ : st_T) (A : ca_T) (c : Nat) (o : Option (List (Nat × Int64))) (s : st_T) : Prop := Jr_ s A c ∧ ro_ dW_ σ s ∧ st_I s 185 0 = st_I σ 185 0 ∧ ∀ M, o = some M → Oth_ s M
theorem oth_ro {D : Nat → Nat → Prop} (r : ro_ D σ s) (hD : ∀ a k, D a k → ¬ (a = 209 ∨ (a = 185 ∧ k = 45))) (h : Oth_ σ M) : Oth_ s M := ⟨(r.2 _ _ (fun y => hD _ _ y (Or.inr ⟨rfl, rfl⟩))).1.trans h.1, fun i q hq => (r.2 _ _ (fun y => hD _ _ y (Or.inl rfl))).1.trans (h.2 i q hq)⟩
theorem dRn_9 {a k : Nat} (h : dRn_ a k) : ¬ (a = 209 ∨ (a = 185 ∧ k = 45)) := by
  unfold dRn_ dL_ dG_ dE_ dX_ dS_ dT_ dO_ at h
  omega
theorem dP_9 {a k : Nat} (h : dP_ a k) : ¬ (a = 209 ∨ (a = 185 ∧ k = 45)) := by
  unfold dP_ at h
  omega
/-- one run more -/
theorem fw_run {o : Option (List (Nat × Int64))} (h : Fw_ σ A c o s) (hc : c < 1073741822) (zP : Wp_ (aP_ A).1) (hm : m < 3) {G : Nat} (hG : G < 64) (hz : (z = -1) ∨ (G = 0 ∧ 0 ≤ z ∧ z < pN_ (aP_ A).1 ∧ pC_ (aP_ A).1 z.toNat 1 = 3)) (hb : Bz_ (aP_ A).1) :
    ∃ s1 s2, Wd s1 ∧ fw_ γ m_X12_laysProgram 3 [.ref 185, .int (i_ (G : Int)), .int (i_ z)] s s1 ∧ fw_ γ m_X12_gathers 5 [.ref 185, .int (i_ (m : Int))] s1 s2 ∧ Fw_ σ A (c + 1) o s2 ∧ Oc_ s2 (OR_ (aP_ A).1 G z m) ∧ st_I s2 185 44 = i_ ((OR_ (aP_ A).1 G z m).length : Int) := by
  obtain ⟨h1, h2, h3, h4⟩ := h
  have bN := zP.1.1
  obtain ⟨s1, s2, f1, w1, f2, g1, g2, g3⟩ := l_rrun (γ := γ) (z := z) h1 hc zP hm hG (by omega) (hb G m z hm (by
    rcases hz with y | ⟨y1, y2⟩
    · exact Or.inl ⟨hG, y⟩
    · exact Or.inr ⟨y1, y2⟩))
  exact ⟨s1, s2, w1, f1, f2, ⟨g3, ro_tr h2 (ro_up g2 (fun a k y => dR_W y)), (dRn_0 g2).trans h3, fun M e => oth_ro g2 (fun a k => dRn_9) (h4 M e)⟩, g1.1.2.2.2.1, g1.1.2.2.2.2⟩
theorem fw_dP {o : Option (List (Nat × Int64))} {s2 : st_T} (h : Fw_ σ A c o s) (r : ro_ dP_ s s2) : Fw_ σ A c o s2 := by
  obtain ⟨h1, h2, h3, h4⟩ := h
  exact ⟨⟨ro_wd r h1.1, rt0_cg (fun a j u => (r.2 a j (fun y => by unfold dP_ at y; omega)).1) h1.2.1, jm_ro r (fun a j u _ _ => (dP_W a j u).1) h1.2.2⟩, ro_tr h2 (ro_up r (fun a j u => (dP_W a j u).1)), (r.2 185 0 (fun y => by unfold dP_ at y; omega)).1.trans h3, fun M e => oth_ro r (fun a k => dP_9) (h4 M e)⟩
theorem fw_end {o : Option (List (Nat × Int64))} (h : Fw_ (pt_I σ 185 0 (i_ 0)) A' c o s) {c0 : Nat} (hc : c ≤ c0 + 100) {r' : rs_T} {v : Value} (hr : r' = .inl (some v)) : Re2_ σ A' c0 e r' (.inl (some v)) s := by
  obtain ⟨h1, h2, h3, -⟩ := h
  refine ⟨v, rfl, c, h1, hc, ro_tr (ro_up (th_I _) (fun a k z => by unfold dM_; omega)) (ro_up h2 (fun a k y => dW_M y)), ?_⟩
  rw [hr]
  exact ⟨rfl, by rw [h3, st_sI]⟩
theorem fw_0 (h : Jr_ σ A c) : Fw_ (pt_I σ 185 0 (i_ 0)) A c none (pt_I σ 185 0 (i_ 0)) := ⟨th_jr h _, ro_rf, rfl, fun _ y => by cases y⟩
/-- what is asked of a set of fences -/
def tst2_ (P : pq_T) (m : Nat) (o : Option (List (Nat × Int64))) (G : Nat) : Bool := match o with
  | some M => decide ((OR_ P.1 G (-1) m).map Prod.fst = M.map Prod.fst)
  | none => decide ((OR_ P.1 G (-1) m).countP (fun q => uf_ q.1 P.2.2) = 0)
def obo_ (o : Option (List (Nat × Int64))) : Int32 := match o with
  | some _ => 1
  | none => 0
theorem ct_s (f : Nat → Bool) (n : Nat) : ct_ f (n + 1) = ct_ f n + (if f n = true then 1 else 0) := rfl
theorem ctm_ (f : Nat → Bool) {i j : Nat} (h : i ≤ j) : ct_ f i ≤ ct_ f j := by
  induction j with
  | zero =>
    rw [show i = 0 by omega]
    exact Nat.le_refl _
  | succ j ih =>
    by_cases e : i = j + 1
    · rw [e]
      exact Nat.le_refl _
    · rw [ct_s]
      have := ih (by omega)
      omega
theorem ct_lt_s (n k : Nat) : ct_ (fun G => decide (pcn_ G < k + 1)) n = ct_ (fun G => decide (pcn_ G < k)) n + ct_ (fun G => decide (pcn_ G = k)) n := by
  induction n with
  | zero => rfl
  | succ n ih =>
    rw [ct_s, ct_s, ct_s, ih]
    by_cases a : pcn_ n < k
    · rw [if_pos (decide_eq_true (show pcn_ n < k + 1 by omega)), if_pos (decide_eq_true a), if_neg (by rw [decide_eq_true_eq]; omega)]
      omega
    · by_cases b : pcn_ n = k
      · rw [if_pos (decide_eq_true (show pcn_ n < k + 1 by omega)), if_neg (by rw [decide_eq_true_eq]; omega), if_pos (decide_eq_true b)]
        omega
      · rw [if_neg (by rw [decide_eq_true_eq]; omega), if_neg (by rw [decide_eq_true_eq]; omega), if_neg (by rw [decide_eq_true_eq]; omega)]
        omega
theorem c_rfewest {o : Option (List (Nat × Int64))} (h : Fw_ σ A c o s) (hc : c + 70 < 1073741822) (zP : Wp_ (aP_ A).1) (g : Gc_ (aP_ A)) (hm : m < 3) (hb : Bz_ (aP_ A).1) (bM : ∀ M, o = some M → M.length ≤ 65535 ∧ ∀ q ∈ M, q.1 < 4194304) :
    ∃ s1 c1, fn_ γ m_X12_fewest 6 [.ref 185, .int (i_ (m : Int)), .int (obo_ o)] s (.int (i_ (om_ (sset_ (tst2_ (aP_ A) m o) (2 ^ gaps_ A) 9 0)))) s1 ∧ Fw_ σ A c1 o s1 ∧ c1 ≤ c + 64 := by
  have g6 : gaps_ A ≤ 6 := gaps_6 zP
  have hp2 : 2 ^ gaps_ A ≤ 2 ^ 6 := Nat.pow_le_pow_right (by decide) g6
  obtain ⟨n, hn⟩ : ∃ n, n = 2 ^ gaps_ A := ⟨_, rfl⟩
  rw [← hn] at hp2 ⊢
  obtain ⟨f, hf⟩ : ∃ f, f = tst2_ (aP_ A) m o := ⟨_, rfl⟩
  have w := h.1.1
  have key : sp_ γ m_X12_fewest 6 [.ref 185, .int (i_ (m : Int)), .int (obo_ o)] s (fun r q => ∃ v, r = .inl (some v) ∧ (v = .int (i_ (om_ (sset_ f n 9 0))) ∧ ∃ c1, Fw_ σ A c1 o q ∧ c1 ≤ c + 64)) := by
    refine e_X12_fewest w ?_
    unfold p_X12_fewest_0
    refine ⟨_, s, w, c_rgapMany w h.1.2.2.2.1.1, ?_⟩
    have e1 : (1 : Int32) <<< (i_ (ct_ (gb_ (aP_ A).1) (pN_ (aP_ A).1) : Int) &&& (31 : Int32)) = i_ (n : Int) := by
      rw [show (1 : Int32) = i_ ((1 : Nat) : Int) from rfl, show (31 : Int32) = i_ 31 from rfl]
      have gg : ct_ (gb_ (aP_ A).1) (pN_ (aP_ A).1) = gaps_ A := rfl
      rw [gg, i_shl (by omega) (by rw [Nat.one_mul]; exact Nat.lt_of_le_of_lt (Nat.pow_le_pow_right (by decide) g6) (by decide)), Nat.one_mul, hn]
    rw [e1]
    have outer : ∀ (d k : Nat) (s : st_T) (c1 : Nat), d + k = 9 → Fw_ σ A c1 o s → c1 ≤ c + ct_ (fun G => decide (pcn_ G < k)) n → sset_ f n 9 0 = sset_ f n d k → vv_ γ m_X12_fewest 6 10 [(0, .ref 185), (1, .int (i_ (m : Int))), (2, .int (obo_ o)), (3, .int (i_ (n : Int))), (4, .int (i_ (k : Int)))] [] s (fun r q => ∃ v, r = .inl (some v) ∧ (v = .int (i_ (om_ (sset_ f n 9 0))) ∧ ∃ c1, Fw_ σ A c1 o q ∧ c1 ≤ c + 64)) := by
      intro d
      induction d with
      | zero =>
        intro k s c1 hk h1 h2 h3
        have hk : k = 9 := by omega
        subst hk
        have cl := ct_le (fun G => decide (pcn_ G < 9)) n
        refine g_X12_fewest_10 h1.1.1 ?_
        unfold p_X12_fewest_10
        refine ⟨fun _ => ⟨_, rfl, by rw [h3]; rfl, c1, h1, by omega⟩, fun y => absurd (show (8 : Int32) < i_ ((9 : Nat) : Int) by decide) y⟩
      | succ d ih =>
        intro k s c1 hk h1 h2 h3
        refine g_X12_fewest_10 h1.1.1 ?_
        unfold p_X12_fewest_10
        rw [k8_, i_lt (by omega) (by omega)]
        refine ⟨fun y => by omega, fun _ => ?_⟩
        have inner : ∀ (b j : Nat) (s : st_T) (c1 : Nat), b + j = n → Fw_ σ A c1 o s → c1 ≤ c + ct_ (fun G => decide (pcn_ G < k)) n + ct_ (fun G => decide (pcn_ G = k)) j → sset_ f n 9 0 = (match f1_ (fun G => decide (pcn_ G = k) && f G) b j with | some G => some G | none => sset_ f n d (k + 1)) → vv_ γ m_X12_fewest 6 20 [(0, .ref 185), (1, .int (i_ (m : Int))), (2, .int (obo_ o)), (3, .int (i_ (n : Int))), (4, .int (i_ (k : Int))), (5, .int (i_ (j : Int)))] [] s (fun r q => ∃ v, r = .inl (some v) ∧ (v = .int (i_ (om_ (sset_ f n 9 0))) ∧ ∃ c1, Fw_ σ A c1 o q ∧ c1 ≤ c + 64)) := by
          intro b
          induction b with
          | zero =>
            intro j s c1 hj h1 h2 h3
            have hj : j = n := by omega
            subst hj
            refine g_X12_fewest_20 h1.1.1 ?_
            unfold p_X12_fewest_20
            refine ⟨fun _ => ?_, fun y => absurd (Int32.le_refl _) y⟩
            rw [k1_, i_add]
            refine ih (k + 1) s c1 (by omega) h1 ?_ h3
            rw [ct_lt_s]
            omega
          | succ b ihb =>
            intro j s c1 hj h1 h2 h3
            rw [f1_] at h3
            have cl := ct_le (fun G => decide (pcn_ G < k + 1)) n
            have cs := ct_lt_s n k
            have cm : ct_ (fun G => decide (pcn_ G = k)) (j + 1) ≤ ct_ (fun G => decide (pcn_ G = k)) n := ctm_ _ (by omega)
            have c0 := ct_s (fun G => decide (pcn_ G = k)) j
            have w1 := h1.1.1
            refine g_X12_fewest_20 w1 ?_
            unfold p_X12_fewest_20
            have p6 := pcn_6 j
            rw [i_le (by omega) (by omega)]
            refine ⟨fun y => by omega, fun _ => ⟨_, s, w1, c_rbits w1 (show j < 64 by omega), ?_⟩⟩
            rw [k1_, i_add, i_eq (by omega) (by omega)]
            refine ⟨fun y => ?_, fun y => ?_⟩
            · have y : pcn_ j = k := by omega
              rw [if_pos (decide_eq_true y)] at c0
              have ct0 := ct_le (fun G => decide (pcn_ G = k)) j
              obtain ⟨s1, s2, a1, a2, a3, a4, a5, a6⟩ := fw_run (γ := γ) (z := -1) h1 (by omega) zP hm (G := j) (by omega) (Or.inl rfl) hb
              have w2 := a4.1.1
              refine ⟨s1, a1, a2, s2, w2, a3, ?_⟩
              have fin : ∀ s3, Fw_ σ A (c1 + 1) o s3 → (f j = true → (∃ v, (Sum.inl (some (Value.int (i_ (j : Int)))) : rs_T) = .inl (some v) ∧ (v = .int (i_ (om_ (sset_ f n 9 0))) ∧ ∃ c1, Fw_ σ A c1 o s3 ∧ c1 ≤ c + 64))) ∧ (f j = false → vv_ γ m_X12_fewest 6 20 [(0, .ref 185), (1, .int (i_ (m : Int))), (2, .int (obo_ o)), (3, .int (i_ (n : Int))), (4, .int (i_ (k : Int))), (5, .int (i_ ((j : Int) + 1)))] [] s3 (fun r q => ∃ v, r = .inl (some v) ∧ (v = .int (i_ (om_ (sset_ f n 9 0))) ∧ ∃ c1, Fw_ σ A c1 o q ∧ c1 ≤ c + 64))) := by
                intro s3 b1
                refine ⟨fun t => ⟨_, rfl, ?_, c1 + 1, b1, by omega⟩, fun t => ?_⟩
                · rw [decide_eq_true y, t] at h3
                  rw [h3]
                  rfl
                · rw [decide_eq_true y, t] at h3
                  exact ihb (j + 1) s3 (c1 + 1) (by omega) b1 (by omega) h3
              cases o with
              | none =>
                obtain ⟨s3, b1, b2⟩ := c_rmatches (γ := γ) w2 a5 a6 a4.1.2.2.2.1 g
                obtain ⟨k1, k2⟩ := fin s3 (fw_dP a4 b2)
                refine ⟨fun _ => ⟨_, s3, ro_wd b2 w2, b1, fun v => k1 ?_, fun v => k2 ?_⟩, fun v => absurd rfl v⟩
                · have cb := List.countP_le_length (p := fun q : Nat × Int64 => uf_ q.1 (aP_ A).2.2) (l := OR_ (aP_ A).1 j (-1) m)
                  have l5 := a5.1
                  rw [k0_, i_eq (by omega) (by omega)] at v
                  rw [hf]
                  exact decide_eq_true (by omega)
                · rw [hf]
                  refine decide_eq_false (fun v2 => v ?_)
                  rw [v2]
                  rfl
              | some M =>
                have b1 := c_areOthers (γ := γ) w2 a5 a6 (a4.2.2.2 M rfl) (bM M rfl)
                obtain ⟨k1, k2⟩ := fin s2 a4
                refine ⟨fun v => absurd v (show ¬ (1 : Int32) = 0 by decide), fun _ => ⟨_, s2, w2, b1, fun v => k2 ?_, fun v => k1 ?_⟩⟩
                · rw [hf]
                  show decide _ = false
                  cases eD : decide ((OR_ (aP_ A).1 j (-1) m).map Prod.fst = M.map Prod.fst) with
                  | false => rfl
                  | true =>
                    rw [eD] at v
                    exact absurd v (by decide)
                · rw [hf]
                  show decide _ = true
                  cases eD : decide ((OR_ (aP_ A).1 j (-1) m).map Prod.fst = M.map Prod.fst) with
                  | true => rfl
                  | false =>
                    rw [eD] at v
                    exact absurd rfl v
            · have y : ¬ pcn_ j = k := by omega
              rw [if_neg (by rw [decide_eq_true_eq]; exact y)] at c0
              rw [decide_eq_false y] at h3
              exact ihb (j + 1) s c1 (by omega) h1 (by omega) h3
        exact inner n 0 s c1 rfl h1 h2 h3
    exact outer 9 0 s c rfl h (by omega) rfl
  obtain ⟨v, s1, h1, rfl, c1, h2, h3⟩ := fn_of (P := fun v q => v = .int (i_ (om_ (sset_ f n 9 0))) ∧ ∃ c1, Fw_ σ A c1 o q ∧ c1 ≤ c + 64) key
  rw [hf] at h1
  exact ⟨s1, c1, h1, h2, h3⟩
end RQ
