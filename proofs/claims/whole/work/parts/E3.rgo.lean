/-! the reference reads: the next token -/
section GO
variable {γ : ga_T} {σ σ1 s : st_T} {B : Nat → Int} {n k i : Nat} {z : Int}
theorem kwi_hit (l : List Int32) (o : Nat) {v : Nat} (hv : kb_ (sg_tx.getD v 0) = l) : ∀ k c, c ≤ v → v < c + k → c ≤ kwi_ l o k c ∧ kwi_ l o k c < c + k ∧ kb_ (sg_tx.getD (kwi_ l o k c) 0) = l
  | 0, c, h1, h2 => by omega
  | k + 1, c, h1, h2 => by
    unfold kwi_
    split
    · next y => exact ⟨Nat.le_refl _, by omega, y⟩
    · next y =>
      have ne : c ≠ v := fun e => y (by rw [e]; exact hv)
      obtain ⟨y1, y2, y3⟩ := kwi_hit l o hv k (c + 1) (by omega) (by omega)
      exact ⟨by omega, by omega, y3⟩
theorem sg_len : ∀ c : Fin 15, (kb_ (sg_tx.getD c.val 0)).length ≠ 1 := by decide +kernel
/-- a sign of one byte -/
theorem sym_c {b : Int} (hb : -128 ≤ b ∧ b < 128) : ((b = 59 ∨ b = 58 ∨ b = 61 ∨ b = 60 ∨ b = 40 ∨ b = 41) → 15 ≤ kwi_ [i_ b] 1 21 0 ∧ kb_ (sg_tx.getD (kwi_ [i_ b] 1 21 0) 0) = [i_ b]) ∧ (¬ (b = 59 ∨ b = 58 ∨ b = 61 ∨ b = 60 ∨ b = 40 ∨ b = 41) → kwi_ [i_ b] 1 21 0 = 1) := by
  obtain ⟨g1, g2, g3, g4, g5, g6⟩ := sg_sym
  have big : ∀ v, v < 21 → kb_ (sg_tx.getD v 0) = [i_ b] → 15 ≤ v := fun v hv e => by
    by_cases c : 15 ≤ v
    · exact c
    · exact absurd (by rw [e]; rfl) (sg_len ⟨v, by omega⟩)
  refine ⟨fun h => ?_, fun h => ?_⟩
  · obtain ⟨v, hv, e⟩ : ∃ v, v < 21 ∧ kb_ (sg_tx.getD v 0) = [i_ b] := by
      rcases h with e | e | e | e | e | e
      · exact ⟨15, by decide, by rw [e]; exact g1⟩
      · exact ⟨16, by decide, by rw [e]; exact g2⟩
      · exact ⟨17, by decide, by rw [e]; exact g3⟩
      · exact ⟨18, by decide, by rw [e]; exact g4⟩
      · exact ⟨19, by decide, by rw [e]; exact g5⟩
      · exact ⟨20, by decide, by rw [e]; exact g6⟩
    obtain ⟨y1, y2, y3⟩ := kwi_hit [i_ b] 1 e 21 0 (Nat.zero_le _) (by omega)
    exact ⟨big _ (by omega) y3, y3⟩
  · rcases kwi_sp [i_ b] 1 21 0 with y | ⟨-, y2, y3⟩
    · exact y
    · exfalso
      have c := big _ (by omega) y3
      generalize kwi_ [i_ b] 1 21 0 = v at y2 y3 c
      have no : ∀ x : Int, (x = 59 ∨ x = 58 ∨ x = 61 ∨ x = 60 ∨ x = 40 ∨ x = 41) → kb_ (sg_tx.getD v 0) ≠ [i_ x] := fun x hx e => by
        rw [e] at y3
        have y := (List.cons.inj y3).1
        rw [i_eq (by omega) (by omega)] at y
        omega
      rcases (show v = 15 ∨ v = 16 ∨ v = 17 ∨ v = 18 ∨ v = 19 ∨ v = 20 by omega) with e | e | e | e | e | e
      · exact no 59 (by omega) (by rw [e]; exact g1)
      · exact no 58 (by omega) (by rw [e]; exact g2)
      · exact no 61 (by omega) (by rw [e]; exact g3)
      · exact no 60 (by omega) (by rw [e]; exact g4)
      · exact no 40 (by omega) (by rw [e]; exact g5)
      · exact no 41 (by omega) (by rw [e]; exact g6)
/-- the token that begins at q -/
def Tat_ (s : st_T) (B : Nat → Int) (n q : Nat) : Prop := st_I s 185 12 = i_ ((if q < n then tst_ B n q else n : Nat) : Int) ∧ st_I s 185 13 = i_ (q : Int) ∧ st_I s 185 14 = i_ (sso_ (if q < n then tsg_ B n q else 0)) ∧ (q < n → tsg_ B n q = 4 → st_I s 185 15 = i_ (nv_ B q (tst_ B n q - q))) ∧ (q < n → tsg_ B n q = 2 → st_I s 185 15 = i_ (B (q + 1) - 48))
def dF12_ : dF_ 185 12 := ⟨rfl, by decide, by decide⟩
def dF13_ : dF_ 185 13 := ⟨rfl, by decide, by decide⟩
def dF14_ : dF_ 185 14 := ⟨rfl, by decide, by decide⟩
def dF15_ : dF_ 185 15 := ⟨rfl, by decide, by decide⟩
/-- digits -/
theorem l_go95 {Q : rs_T → st_T → Prop} (h : Bf_ σ B n) {q : Nat} (hq : q < n) (h0 : isl_ (B q) = false) (h1 : isd_ (B q) = true) (zQ : ∀ s, Wd s → ro_ dF_ σ s → Tat_ s B n q → Q (.inl none) s) :
    ∀ (d j : Nat) (s : st_T), d + j = n → q ≤ j → Wd s → ro_ dF_ σ s → st_I s 185 12 = i_ (j : Int) → st_I s 185 13 = i_ (q : Int) → st_I s 185 15 = i_ (nv_ B q (if j - q ≤ 2 then j - q else 2)) → (j = q ∨ tst_ B n q = ru_ (fun i => isd_ (B i)) (n - j) j) → (∀ v, q ≤ v → v < j → isd_ (B v) = true) → vv_ γ m_X12_go 2 95 [(0, .ref 185)] [] s Q := by
  have h600 := h.1
  have et : tst_ B n q = ru_ (fun i => isd_ (B i)) (n - q) q := by
    unfold tst_
    rw [if_neg (by rw [h0]; decide), if_pos h1]
  have eg : tsg_ B n q = if 2 < tst_ B n q - q then 1 else 4 := by
    unfold tsg_
    rw [if_neg (by rw [h0]; decide), if_pos h1]
  have fin : ∀ (s : st_T) (j : Nat), j = tst_ B n q → Wd s → ro_ dF_ σ s → st_I s 185 12 = i_ (j : Int) → st_I s 185 13 = i_ (q : Int) → st_I s 185 15 = i_ (nv_ B q (if j - q ≤ 2 then j - q else 2)) →
      ((((st_I s 185 12) - (st_I s 185 13)) ≤ (2 : Int32) → Q (.inl none) (pt_I s 185 14 (4 : Int32))) ∧ (¬ ((st_I s 185 12) - (st_I s 185 13)) ≤ (2 : Int32) → Q (.inl none) (pt_I s 185 14 (1 : Int32)))) := by
    intro s j hj w r a12 a13 a15
    subst hj
    have tr := tst_rg (B := B) hq
    rw [a12, a13, i_sub, k2_, i_le (by omega) (by omega)]
    refine ⟨fun y => zQ _ w (ro_I r dF14_) ⟨?_, ?_, ?_, fun _ _ => ?_, fun _ e => ?_⟩, fun y => zQ _ w (ro_I r dF14_) ⟨?_, ?_, ?_, fun _ e => ?_, fun _ e => ?_⟩⟩
    · rw [st_pI, if_neg (by omega), if_pos hq]
      exact a12
    · rw [st_pI, if_neg (by omega)]
      exact a13
    · rw [st_sI, if_pos hq, eg, if_neg (by omega)]
      rfl
    · rw [st_pI, if_neg (by omega), a15, if_pos (by omega)]
    · rw [eg, if_neg (by omega)] at e
      cases e
    · rw [st_pI, if_neg (by omega), if_pos hq]
      exact a12
    · rw [st_pI, if_neg (by omega)]
      exact a13
    · rw [st_sI, if_pos hq, eg, if_pos (by omega)]
      rfl
    · rw [eg, if_pos (by omega)] at e
      cases e
    · rw [eg, if_pos (by omega)] at e
      cases e
  intro d
  induction d with
  | zero =>
    intro j s hj hqj w r a12 a13 a15 ht hal
    have hj : j = n := by omega
    subst hj
    have ht : tst_ B j q = j := by
      rcases ht with y | y
      · omega
      · rw [y, Nat.sub_self]
        rfl
    have bf := bf_F r h
    have by1 := c_rbyteAt (γ := γ) w bf (Nat.le_refl j)
    rw [if_neg (by omega)] at by1
    have dg := c_risDig (γ := γ) (z := -1) w (by omega)
    refine g_X12_go_95 w ?_
    unfold p_X12_go_95
    rw [a12]
    refine ⟨_, s, w, by1, _, s, w, dg, fun _ => ?_, fun y => absurd rfl y⟩
    have f := fin s j ht.symm w r a12 a13 a15
    exact f
  | succ d ih =>
    intro j s hj hqj w r a12 a13 a15 ht hal
    have bf := bf_F r h
    have bj := (h.2.2 j (by omega)).2
    have by1 := c_rbyteAt (γ := γ) (i := j) w bf (by omega)
    rw [if_pos (by omega)] at by1
    have dg := c_risDig (γ := γ) (z := B j % 256) w (by omega)
    rw [isd_m bj] at dg
    have ht : tst_ B n q = ru_ (fun i => isd_ (B i)) (n - j) j := by
      rcases ht with y | y
      · rw [y]
        exact et
      · exact y
    rw [ru_step (show j < n by omega)] at ht
    refine g_X12_go_95 w ?_
    unfold p_X12_go_95
    rw [a12]
    refine ⟨_, s, w, by1, _, s, w, dg, ?_⟩
    cases ed : isd_ (B j) with
    | false =>
      rw [if_neg (by rw [ed]; decide)] at ht
      have f := fin s j ht.symm w r a12 a13 a15
      exact ⟨fun _ => f, fun y => absurd rfl y⟩
    | true =>
      rw [if_pos ed] at ht
      have bd : 48 ≤ B j ∧ B j ≤ 57 := by
        have ed2 := ed
        unfold isd_ at ed2
        rw [decide_eq_true_eq] at ed2
        exact ed2
      have hal2 : ∀ v, q ≤ v → v < j + 1 → isd_ (B v) = true := fun v z1 z2 => by
        by_cases e : v = j
        · rw [e]
          exact ed
        · exact hal v z1 (by omega)
      refine ⟨fun y => absurd y (by decide), fun _ => ?_⟩
      rw [a12, a13, i_sub, k2_, i_le (by omega) (by omega), k1_, i_add]
      refine ⟨fun y => ?_, fun y => ⟨i_in (by omega) (by omega) (by omega), ?_⟩⟩
      · refine ih (j + 1) (pt_I s 185 12 (i_ ((j : Int) + 1))) (by omega) (by omega) w (ro_I r dF12_) (st_sI _ _ _ _) (by rw [st_pI, if_neg (by omega)]; exact a13) ?_ (Or.inr ht) hal2
        rw [st_pI, if_neg (by omega), a15]
        have e2 : (if j - q ≤ 2 then j - q else 2) = 2 := by split <;> omega
        have e3 : (if j + 1 - q ≤ 2 then j + 1 - q else 2) = 2 := by split <;> omega
        rw [e2, e3]
      · rw [i_cl (by omega), Int.toNat_natCast, (bf.2.2 j (by omega)).1, a15, if_pos (by omega), k10_, i_mul, i_add, show (48 : Int32) = i_ 48 by decide, i_sub]
        refine ih (j + 1) _ (by omega) (by omega) w (ro_I (ro_I r dF15_) dF12_) (st_sI _ _ _ _) (by rw [st_pI, if_neg (by omega), st_pI, if_neg (by omega)]; exact a13) ?_ (Or.inr ht) hal2
        rw [st_pI, if_neg (by omega), st_sI, if_pos (by omega)]
        refine congrArg i_ ?_
        unfold nv_
        by_cases c : j - q = 0
        · rw [if_pos c, if_neg (by omega), if_pos (by omega), show q = j by omega]
          omega
        · rw [if_neg c, if_pos (by omega), if_neg (by omega), if_neg (by omega), show j = q + 1 by omega]
          rw [show j = q + 1 by omega] at bd
          omega
theorem c_rgo (zw : Wd σ) (h : Bf_ σ B n) {e : Nat} (he : e ≤ n) (h12 : st_I σ 185 12 = i_ (e : Int)) : ∃ s, fw_ γ m_X12_go 2 [.ref 185] σ s ∧ (Wd s ∧ ro_ dF_ σ s ∧ Tat_ s B n (ru_ (fun i => isb_ (B i)) (n - e) e)) := by
  have h600 := h.1
  refine fw_of (P := fun s => Wd s ∧ ro_ dF_ σ s ∧ Tat_ s B n (ru_ (fun i => isb_ (B i)) (n - e) e)) ?_
  obtain ⟨q, hq⟩ : ∃ q, q = ru_ (fun i => isb_ (B i)) (n - e) e := ⟨_, rfl⟩
  rw [← hq]
  have ends : ∀ s, Wd s → ro_ dF_ σ s → Tat_ s B n q → (fun (r : rs_T) (s : st_T) => r = .inl none ∧ (Wd s ∧ ro_ dF_ σ s ∧ Tat_ s B n q)) (.inl none) s := fun s w r t => ⟨rfl, w, r, t⟩
  generalize hQ : (fun (r : rs_T) (s : st_T) => r = .inl none ∧ (Wd s ∧ ro_ dF_ σ s ∧ Tat_ s B n q)) = Q at ends ⊢
  have key : ∀ (d j : Nat) (s : st_T), d + j = n → e ≤ j → Wd s → ro_ dF_ σ s → st_I s 185 12 = i_ (j : Int) → q = ru_ (fun i => isb_ (B i)) (n - j) j → p_X12_go_0 γ s Q := by
    intro d
    induction d with
    | zero =>
      intro j s hj hej w r a12 hq
      have hj : j = n := by omega
      subst hj
      rw [Nat.sub_self] at hq
      have hq : q = j := hq
      have bf := bf_F r h
      have by1 := c_rbyteAt (γ := γ) w bf (Nat.le_refl j)
      rw [if_neg (by omega)] at by1
      have w2 : Wd (pt_I s 185 13 (i_ (j : Int))) := w
      have by2 := c_rbyteAt (γ := γ) w2 (bf_F (ro_I ro_rf dF13_) bf) (Nat.le_refl j)
      rw [if_neg (by omega)] at by2
      unfold p_X12_go_0
      rw [a12]
      refine ⟨_, s, w, by1, fun y => absurd y (by decide), fun _ => ?_⟩
      rw [a12]
      refine ⟨_, s, w, by1, fun y => absurd y (by decide), fun _ => ?_⟩
      rw [a12]
      refine ⟨_, _, w2, by2, fun _ => ends _ w (ro_I (ro_I r dF13_) dF14_) ⟨?_, ?_, ?_, fun z => absurd z (by omega), fun z => absurd z (by omega)⟩, fun y => absurd rfl y⟩
      · rw [st_pI, if_neg (by omega), st_pI, if_neg (by omega), if_neg (by omega)]
        exact a12
      · rw [st_pI, if_neg (by omega), st_sI, hq]
      · rw [st_sI, if_neg (by omega)]
        rfl
    | succ d ih =>
      intro j s hj hej w r a12 hq
      have bf := bf_F r h
      have bj := (h.2.2 j (by omega)).2
      have by1 := c_rbyteAt (γ := γ) (i := j) w bf (by omega)
      rw [if_pos (by omega)] at by1
      rw [ru_step (show j < n by omega)] at hq
      have skip : isb_ (B j) = true → vv_ γ m_X12_go 2 0 [(0, .ref 185)] [] (pt_I s 185 12 (i_ ((j : Int) + 1))) Q := fun hb => by
        rw [if_pos hb] at hq
        exact g_X12_go_0 w (ih (j + 1) (pt_I s 185 12 (i_ ((j : Int) + 1))) (by omega) (by omega) w (ro_I r dF12_) (st_sI _ _ _ _) hq)
      unfold p_X12_go_0
      rw [a12]
      refine ⟨_, s, w, by1, ?_⟩
      rw [show (32 : Int32) = i_ 32 by decide, i_eq (by omega) (by omega), k1_, a12, i_add]
      refine ⟨fun y => skip (decide_eq_true (Or.inl (by omega))), fun y => ⟨_, s, w, by1, ?_⟩⟩
      rw [k10_, i_eq (by omega) (by omega), a12, i_add]
      refine ⟨fun y => skip (decide_eq_true (Or.inr (by omega))), fun y2 => ?_⟩
      have nb : isb_ (B j) = false := decide_eq_false (by omega)
      rw [if_neg (by rw [nb]; decide)] at hq
      subst hq
      have hqn : q < n := by omega
      have w2 : Wd (pt_I s 185 13 (i_ (q : Int))) := w
      have r2 := ro_I (x := i_ (q : Int)) r dF13_
      have bf2 := bf_F r2 h
      have by2 := c_rbyteAt (γ := γ) (i := q) w2 bf2 (by omega)
      rw [if_pos hqn] at by2
      have sm := c_risSmall (γ := γ) (z := B q % 256) w2 (by omega)
      have dg := c_risDig (γ := γ) (z := B q % 256) w2 (by omega)
      rw [isl_m bj] at sm
      rw [isd_m bj] at dg
      have b12 : st_I (pt_I s 185 13 (i_ (q : Int))) 185 12 = i_ (q : Int) := by rw [st_pI, if_neg (by omega)]; exact a12
      have b13 : st_I (pt_I s 185 13 (i_ (q : Int))) 185 13 = i_ (q : Int) := st_sI _ _ _ _
      generalize pt_I s 185 13 (i_ (q : Int)) = t at w2 r2 bf2 by2 sm dg b12 b13 ⊢
      refine ⟨_, t, w2, by2, fun y => ?_, fun _ => ⟨_, t, w2, sm, ?_⟩⟩
      · rw [show -i_ 1 = i_ (-1) by decide, i_eq (by omega) (by omega)] at y
        omega
      cases el : isl_ (B q) with
      | true =>
        obtain ⟨s5, f1, f2, f3, f4, f5, f6, f7⟩ := c_goWord (γ := γ) w2 bf2 hqn b12 b13 el
        refine ⟨fun y => absurd y (by decide), fun _ => ⟨s5, f2, f1, ends _ f2 (ro_tr r2 f3) ⟨by rw [if_pos hqn]; exact f4, f5, by rw [if_pos hqn]; exact f6, fun _ e4 => ?_, fun _ e2 => f7 e2⟩⟩⟩
        exfalso
        unfold tsg_ at e4
        rw [if_pos el] at e4
        have tr := tst_rg (B := B) hqn
        have k5 := kwi_5 (bl_ B q (tst_ B n q - q)) 3 (bl_ne (by omega)) 21 0
        unfold wsg_ at e4
        split at e4
        · cases e4
        · split at e4
          · cases e4
          · omega
      | false =>
        refine ⟨fun _ => ⟨_, t, w2, dg, ?_⟩, fun y => absurd rfl y⟩
        cases ed : isd_ (B q) with
        | true =>
          refine ⟨fun y => absurd y (by decide), fun _ => ?_⟩
          refine l_go95 (σ := σ) h hqn el ed ends (n - q) q _ (by omega) (Nat.le_refl _) w2 (ro_I r2 dF15_) (by rw [st_pI, if_neg (by omega)]; exact b12) (by rw [st_pI, if_neg (by omega)]; exact b13) ?_ (Or.inl rfl) (fun v z1 z2 => by omega)
          rw [st_sI, Nat.sub_self]
          rfl
        | false =>
          have et : tst_ B n q = q + 1 := by
            unfold tst_
            rw [if_neg (by rw [el]; decide), if_neg (by rw [ed]; decide)]
          have eg : tsg_ B n q = kwi_ [i_ (B q)] 1 21 0 := by
            unfold tsg_
            rw [if_neg (by rw [el]; decide), if_neg (by rw [ed]; decide)]
            rfl
          have sc := sym_c bj
          rw [← eg] at sc
          have k4 : tsg_ B n q ≠ 4 ∧ tsg_ B n q ≠ 2 := by
            by_cases c : B q = 59 ∨ B q = 58 ∨ B q = 61 ∨ B q = 60 ∨ B q = 40 ∨ B q = 41
            · have := (sc.1 c).1
              omega
            · have := sc.2 c
              omega
          have t12 : ∀ v : Int32, v = i_ (sso_ (tsg_ B n q)) → Q (.inl none) (pt_I (pt_I t 185 12 (i_ ((q : Int) + 1))) 185 14 v) := fun v hv => by
            refine ends _ w2 (ro_I (ro_I r2 dF12_) dF14_) ⟨?_, ?_, ?_, fun _ e4 => absurd e4 k4.1, fun _ e2 => absurd e2 k4.2⟩
            · rw [st_pI, if_neg (by omega), st_sI, if_pos hqn, et]
              rfl
            · rw [st_pI, if_neg (by omega), st_pI, if_neg (by omega)]
              exact b13
            · rw [st_sI, if_pos hqn, hv]
          have yes : (B q = 59 ∨ B q = 58 ∨ B q = 61 ∨ B q = 60 ∨ B q = 40 ∨ B q = 41) → Q (.inl none) (pt_I (pt_I t 185 12 (i_ ((q : Int) + 1))) 185 14 (5 : Int32)) := fun c => t12 _ (by
            have := (sc.1 c).1
            unfold sso_
            rw [if_neg (by omega), if_neg (by omega), if_neg (by omega), if_neg (by omega), if_pos this]
            rfl)
          refine ⟨fun _ => ?_, fun y => absurd rfl y⟩
          rw [show (59 : Int32) = i_ 59 by decide, show (58 : Int32) = i_ 58 by decide, show (61 : Int32) = i_ 61 by decide, show (60 : Int32) = i_ 60 by decide, show (40 : Int32) = i_ 40 by decide, show (41 : Int32) = i_ 41 by decide, i_eq (by omega) (by omega), i_eq (by omega) (by omega), i_eq (by omega) (by omega), i_eq (by omega) (by omega), i_eq (by omega) (by omega), i_eq (by omega) (by omega), b12, i_add]
          refine ⟨fun y => yes (by omega), fun y1 => ⟨fun y => yes (by omega), fun y2 => ⟨fun y => yes (by omega), fun y3 => ⟨fun y => yes (by omega), fun y4 => ⟨fun y => yes (by omega), fun y5 => ⟨fun y => yes (by omega), fun y6 => t12 _ ?_⟩⟩⟩⟩⟩⟩
          rw [sc.2 (by omega)]
          rfl
  exact e_X12_go zw (key (n - e) e σ (by omega) (Nat.le_refl _) zw ro_rf h12 hq)
end GO
