/-! the reference: queries over fences; outcomes more than another model's -/
section RG
variable {γ : ga_T} {σ σ1 s : st_T} {A A' : ca_T} {c m n : Nat} {z y : Int} {e : String → Nat} {p : pr_T} {L M : List (Nat × Int64)}
theorem fw_keep (h : Fw_ σ A c none s) (o : Oc_ s L) (hl : st_I s 185 44 = i_ (L.length : Int)) : ∃ s2, fw_ γ m_X12_keepsOthers 0 [.ref 185] s s2 ∧ Fw_ σ A c (some L) s2 := by
  obtain ⟨h1, h2, h3, -⟩ := h
  obtain ⟨s2, f1, f2, r⟩ := c_keepsOthers (γ := γ) h1.1 o hl
  have d : ∀ a k, dQ_ a k → dW_ a k ∧ ¬ (a = 185 ∧ (k = 0 ∨ k = 40)) ∧ a ≠ 207 := fun a k y => by
    unfold dQ_ at y
    unfold dW_
    omega
  exact ⟨s2, f1, ⟨ro_wd r h1.1, rt0_cg (fun a j u => (r.2 a j (fun y => by have := d a j y; omega)).1) h1.2.1, jm_ro r (fun a j u _ _ => (d a j u).1) h1.2.2⟩, ro_tr h2 (ro_up r (fun a j u => (d a j u).1)), (r.2 185 0 (fun y => (d _ _ y).2.1 ⟨rfl, Or.inl rfl⟩)).1.trans h3, fun M e => by cases e; exact f2⟩
/-- the program as it is, run -/
theorem fw_out {o : Option (List (Nat × Int64))} (h : Fw_ σ A c o s) (hc : c < 1073741822) (zP : Wp_ (aP_ A).1) (hm : m < 3) (hb : Bz_ (aP_ A).1) :
    ∃ s2, fw_ γ m_X12_outcomesOf 6 [.ref 185, .int (i_ (m : Int))] s s2 ∧ Fw_ σ A (c + 1) o s2 ∧ Oc_ s2 (O_ A m) ∧ st_I s2 185 44 = i_ ((O_ A m).length : Int) := by
  obtain ⟨h1, h2, h3, h4⟩ := h
  obtain ⟨s2, f1, f2, r, f4⟩ := c_outcomesOf (γ := γ) h1 hc zP hm hb
  obtain ⟨o1, o2⟩ := rf_oc zP hm hb f2
  exact ⟨s2, f1, ⟨f4, ro_tr h2 (ro_up r (fun a k y => dR_W y)), (dRn_0 r).trans h3, fun M e => oth_ro r (fun a k => dRn_9) (h4 M e)⟩, o1, o2⟩
theorem oc_bd (o : Oc_ s L) : L.length ≤ 65535 ∧ ∀ q ∈ L, q.1 < 4194304 := ⟨o.1, fun q hq => by
  obtain ⟨i, hi⟩ := List.getElem?_of_mem hq
  exact (o.2 i q hi).2.2⟩
theorem r_matchesWith (h : Jr_ σ A c) (hc : c + 70 < 1073741822) (zP : Wp_ (aP_ A).1) (g : Gc_ (aP_ A)) (hb : Bz_ (aP_ A).1) (q1 : -2147483648 ≤ z ∧ z < 2147483648) (q2 : -2147483648 ≤ y ∧ y < 2147483648) : Ra_ γ m_X12_matchesWith 6 [.ref 185, .int (i_ z), .int (i_ y)] σ A c eI_ (mq_ z (fun m => if 0 ≤ y ∧ y.toNat < 2 ^ gaps_ A then ri_ ((OR_ (aP_ A).1 y.toNat (-1) m).countP (fun q => uf_ q.1 (aP_ A).2.2) : Int) else iae_)) := by
  have w0 : ∀ v, Wd (pt_I σ 185 0 v) := fun _ => h.1
  have ci := c_risNo (γ := γ) h.1 q1
  have g6 : gaps_ A ≤ 6 := gaps_6 zP
  have hp2 : 2 ^ gaps_ A ≤ 2 ^ 6 := Nat.pow_le_pow_right (by decide) g6
  refine ra_of (e_X12_matchesWith h.1 ?_)
  unfold p_X12_matchesWith_0
  by_cases hz : 0 ≤ z ∧ z < 3
  · obtain ⟨m, rfl⟩ : ∃ m : Nat, z = m := ⟨z.toNat, by omega⟩
    have hm : m < 3 := by omega
    rw [decide_eq_false (fun v => v hz)] at ci
    rw [mq_yes hm]
    refine ⟨_, σ, h.1, ci, fun _ => ?_, fun v => absurd rfl v⟩
    rw [k0_, i_lt (by omega) (by omega)]
    by_cases hy : 0 ≤ y
    · obtain ⟨G, rfl⟩ : ∃ G : Nat, y = G := ⟨y.toNat, by omega⟩
      rw [Int.toNat_natCast]
      refine ⟨fun v => by omega, fun _ => ⟨_, σ, h.1, c_rgapMany h.1 h.2.2.2.1.1, ?_⟩⟩
      have e1 : (1 : Int32) <<< (i_ (ct_ (gb_ (aP_ A).1) (pN_ (aP_ A).1) : Int) &&& (31 : Int32)) = i_ ((2 ^ gaps_ A : Nat) : Int) := by
        rw [show (1 : Int32) = i_ ((1 : Nat) : Int) from rfl, show (31 : Int32) = i_ 31 from rfl]
        have gg : ct_ (gb_ (aP_ A).1) (pN_ (aP_ A).1) = gaps_ A := rfl
        rw [gg, i_shl (by omega) (by rw [Nat.one_mul]; exact Nat.lt_of_le_of_lt (Nat.pow_le_pow_right (by decide) g6) (by decide)), Nat.one_mul]
      obtain ⟨n2, hn2⟩ : ∃ n2, n2 = 2 ^ gaps_ A := ⟨_, rfl⟩
      rw [← hn2] at hp2 e1 ⊢
      rw [e1, i_lt (by omega) (by omega)]
      refine ⟨fun v => ?_, fun v => ?_⟩
      · rw [if_pos ⟨by omega, by omega⟩]
        refine ⟨_, _, w0 _, c_rf000 h.1, fun _ => ?_, fun v => absurd rfl v⟩
        obtain ⟨s1, s2, a1, a2, a3, a4, a5, a6⟩ := fw_run (γ := γ) (z := -1) (fw_0 h) (by omega) zP hm (G := G) (by omega) (Or.inl rfl) hb
        obtain ⟨s3, b1, b2⟩ := c_rmatches (γ := γ) a4.1.1 a5 a6 a4.1.2.2.2.1 g
        exact ⟨s1, a1, a2, s2, a4.1.1, a3, _, s3, ro_wd b2 a4.1.1, b1, fw_end (fw_dP a4 b2) (by omega) rfl⟩
      · rw [if_neg (by omega)]
        exact ⟨_, _, w0 _, c_rf100 h.1, fun v => absurd v (by decide), fun _ => re_fail h rfl tcd_1 _⟩
    · rw [if_neg (by omega)]
      exact ⟨fun _ => ⟨_, _, w0 _, c_rf100 h.1, fun v => absurd v (by decide), fun _ => re_fail h rfl tcd_1 _⟩, fun v => by omega⟩
  · rw [decide_eq_true hz] at ci
    exact ⟨_, σ, h.1, ci, fun v => absurd v (by decide), fun _ => ⟨_, _, w0 _, c_rf100 h.1, fun v => absurd v (by decide), fun _ => re_fail h (mq_no hz) tcd_1 _⟩⟩
theorem r_fewestFences (h : Jr_ σ A c) (hc : c + 80 < 1073741822) (zP : Wp_ (aP_ A).1) (g : Gc_ (aP_ A)) (hb : Bz_ (aP_ A).1) (q1 : -2147483648 ≤ z ∧ z < 2147483648) : Ra_ γ m_X12_fewestFences 7 [.ref 185, .int (i_ z)] σ A c eI_ (mq_ z (fun m => ri_ (om_ (sset_ (tst2_ (aP_ A) m none) (2 ^ gaps_ A) 9 0)))) := by
  refine ra_of (e_X12_fewestFences h.1 ?_)
  unfold p_X12_fewestFences_0
  refine rq1_ h.1 q1 (fun hz => ?_) (fun hz => re_fail h (mq_no hz) tcd_1 _)
  obtain ⟨m, rfl⟩ : ∃ m : Nat, z = m := ⟨z.toNat, by omega⟩
  have hm : m < 3 := by omega
  obtain ⟨s1, c1, f1, f2, f3⟩ := c_rfewest (γ := γ) (fw_0 h) (by omega) zP g hm hb (fun M e => by cases e)
  exact ⟨_, s1, f2.1.1, f1, fw_end f2 (by omega) (mq_yes hm)⟩
theorem r_repairingFences (h : Jr_ σ A c) (hc : c + 80 < 1073741822) (zP : Wp_ (aP_ A).1) (g : Gc_ (aP_ A)) (hb : Bz_ (aP_ A).1) (q1 : -2147483648 ≤ z ∧ z < 2147483648) : Ra_ γ m_X12_repairingFences 7 [.ref 185, .int (i_ z)] σ A c eI_ (mq_ z (fun m => ri_ (om_ (sset_ (tst2_ (aP_ A) m (some (O_ A 0))) (2 ^ gaps_ A) 9 0)))) := by
  refine ra_of (e_X12_repairingFences h.1 ?_)
  unfold p_X12_repairingFences_0
  refine rq1_ h.1 q1 (fun hz => ?_) (fun hz => re_fail h (mq_no hz) tcd_1 _)
  obtain ⟨m, rfl⟩ : ∃ m : Nat, z = m := ⟨z.toNat, by omega⟩
  have hm : m < 3 := by omega
  obtain ⟨s1, a1, a2, a3, a4⟩ := fw_out (γ := γ) (m := 0) (fw_0 h) (by omega) zP (by decide) hb
  obtain ⟨s2, b1, b2⟩ := fw_keep (γ := γ) a2 a3 a4
  obtain ⟨s3, c1, f1, f2, f3⟩ := c_rfewest (γ := γ) b2 (by omega) zP g hm hb (fun M e => by cases e; exact oc_bd a3)
  exact ⟨s1, a2.1.1, a1, s2, b2.1.1, b1, _, s3, f2.1.1, f1, fw_end f2 (by omega) (mq_yes hm)⟩
theorem r_isFenceNeeded (h : Jr_ σ A c) (hc : c + 80 < 1073741822) (zP : Wp_ (aP_ A).1) (hb : Bz_ (aP_ A).1) (q1 : -2147483648 ≤ z ∧ z < 2147483648) (q2 : -2147483648 ≤ y ∧ y < 2147483648) : Ra_ γ m_X12_isFenceNeeded 7 [.ref 185, .int (i_ z), .int (i_ y)] σ A c eL_ (mq_ z (fun m => im_ A y (fun i => if pC_ (aP_ A).1 i 1 = 3 then rb_ (!decide ((OR_ (aP_ A).1 0 (i : Int) m).map Prod.fst = (O_ A m).map Prod.fst)) else nse_))) := by
  have zN := h.2.2.2.1.1
  have bN := zN.1.1
  have w0 : ∀ v, Wd (pt_I σ 185 0 v) := fun _ => h.1
  have ci := c_risNo (γ := γ) h.1 q1
  have hi := c_risInstr (γ := γ) h.1 zN q2
  have hf := c_risFence (γ := γ) h.1 zN q2
  have ff : ∀ b d : Bool, fn_ γ m_X12_fails 0 [.ref 185, .int (if decide (¬ (0 ≤ z ∧ z < 3)) = true then 1 else 0), .int (if b = true then 1 else 0), .int (if d = true then 1 else 0)] σ (.int (if (decide (¬ (0 ≤ z ∧ z < 3)) || b || d) = true then 1 else 0)) (pt_I σ 185 0 (i_ (if decide (¬ (0 ≤ z ∧ z < 3)) = true then 1 else if b = true then 2 else if d = true then 3 else 0))) := fun b d => c_rfails h.1
  refine ra_of (e_X12_isFenceNeeded h.1 ?_)
  unfold p_X12_isFenceNeeded_0
  refine ⟨_, σ, h.1, ci, _, σ, h.1, hi, ?_⟩
  by_cases hz : 0 ≤ z ∧ z < 3
  · obtain ⟨m, rfl⟩ : ∃ m : Nat, z = m := ⟨z.toNat, by omega⟩
    have hm : m < 3 := by omega
    have ez : decide (¬ (0 ≤ (m : Int) ∧ (m : Int) < 3)) = false := decide_eq_false (fun v => v hz)
    rw [mq_yes hm]
    rw [ez] at ff ⊢
    by_cases u : 0 ≤ y ∧ y < pN_ (aP_ A).1
    · obtain ⟨i, rfl⟩ : ∃ i : Nat, y = i := ⟨y.toNat, by omega⟩
      have eu : decide (0 ≤ (i : Int) ∧ (i : Int) < pN_ (aP_ A).1) = true := decide_eq_true u
      have im : ∀ f, im_ A (i : Int) f = f i := fun f => by
        unfold im_
        rw [if_pos u, Int.toNat_natCast]
      rw [im]
      rw [eu] at hi ⊢
      rw [Int.toNat_natCast] at hf
      refine ⟨fun v => absurd v (by decide), fun _ => ⟨_, σ, h.1, hf, ?_⟩⟩
      by_cases e3 : pC_ (aP_ A).1 i 1 = 3
      · rw [if_pos e3, decide_eq_true ⟨u.1, u.2, e3⟩]
        refine ⟨fun v => absurd v (by decide), fun _ => ⟨_, _, w0 _, ff false false, fun _ => ?_, fun v => absurd rfl v⟩⟩
        obtain ⟨s1, a1, a2, a3, a4⟩ := fw_out (γ := γ) (m := m) (fw_0 h) (by omega) zP hm hb
        obtain ⟨s2, b1, b2⟩ := fw_keep (γ := γ) a2 a3 a4
        obtain ⟨s3, s4, d1, d2, d3, d4, d5, d6⟩ := fw_run (γ := γ) (z := (i : Int)) b2 (by omega) zP hm (G := 0) (by decide) (Or.inr ⟨rfl, u.1, u.2, by rw [Int.toNat_natCast]; exact e3⟩) hb
        have k1 := c_areOthers (γ := γ) d4.1.1 d5 d6 (d4.2.2.2 _ rfl) (oc_bd a3)
        refine ⟨s1, a2.1.1, a1, s2, b2.1.1, b1, s3, d1, d2, s4, d4.1.1, d3, _, s4, d4.1.1, k1, fun v => ?_, fun v => ?_⟩
        · cases eD : decide ((OR_ (aP_ A).1 0 (i : Int) m).map Prod.fst = (O_ A m).map Prod.fst) with
          | false => exact fw_end d4 (by omega) rfl
          | true =>
            rw [eD] at v
            exact absurd v (by decide)
        · cases eD : decide ((OR_ (aP_ A).1 0 (i : Int) m).map Prod.fst = (O_ A m).map Prod.fst) with
          | true => exact fw_end d4 (by omega) rfl
          | false =>
            rw [eD] at v
            exact absurd rfl v
      · rw [if_neg e3, decide_eq_false (fun v => e3 v.2.2)]
        exact ⟨fun _ => ⟨_, _, w0 _, ff false true, fun v => absurd v (by decide), fun _ => re_fail h rfl tcd_3 _⟩, fun v => absurd rfl v⟩
    · have eu : decide (0 ≤ y ∧ y < pN_ (aP_ A).1) = false := decide_eq_false u
      have ef : decide (0 ≤ y ∧ y < pN_ (aP_ A).1 ∧ pC_ (aP_ A).1 y.toNat 1 = 3) = false := decide_eq_false (fun v => u ⟨v.1, v.2.1⟩)
      rw [ef] at hf
      rw [eu]
      exact ⟨fun _ => ⟨_, σ, h.1, hf, fun _ => ⟨_, _, w0 _, ff true true, fun v => absurd v (by decide), fun _ => re_fail h (if_neg u) tcd_2 _⟩, fun v => absurd rfl v⟩, fun v => absurd rfl v⟩
  · have ez : decide (¬ (0 ≤ z ∧ z < 3)) = true := decide_eq_true hz
    rw [ez] at ff ⊢
    have fin : ∀ s : st_T, s = pt_I σ 185 0 (i_ 1) → Re2_ σ A c eL_ (mq_ z (fun m => im_ A y (fun i => if pC_ (aP_ A).1 i 1 = 3 then rb_ (!decide ((OR_ (aP_ A).1 0 (i : Int) m).map Prod.fst = (O_ A m).map Prod.fst)) else nse_))) (.inl (some (.int 0))) s := fun s e => by
      rw [e]
      exact re_fail h (mq_no hz) tcd_1 _
    exact ⟨fun _ => ⟨_, σ, h.1, hf, fun _ => ⟨_, _, w0 _, ff true true, fun v => absurd v (by decide), fun _ => fin _ rfl⟩, fun _ => ⟨_, _, w0 _, ff true false, fun v => absurd v (by decide), fun _ => fin _ rfl⟩⟩,
      fun _ => ⟨_, σ, h.1, hf, fun _ => ⟨_, _, w0 _, ff false true, fun v => absurd v (by decide), fun _ => fin _ rfl⟩, fun _ => ⟨_, _, w0 _, ff false false, fun v => absurd v (by decide), fun _ => fin _ rfl⟩⟩⟩
end RG
