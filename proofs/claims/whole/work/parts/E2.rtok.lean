/-! the reference reads: tokens -/
section TK
variable {γ : ga_T} {σ σ1 s : st_T} {B : Nat → Int} {n k i : Nat} {z : Int}
/-- a word's sign -/
theorem wsg_c {s m : Nat} (hm : 0 < m) (h0 : isl_ (B s) = true) (al : ∀ j, s ≤ j → j < s + m → ial_ (B j) = true) :
    (m = 2 ∧ B s = 114 ∧ (B (s + 1) = 48 ∨ B (s + 1) = 49) ∧ wsg_ B s m = 2) ∨
    (¬ (m = 2 ∧ B s = 114 ∧ (B (s + 1) = 48 ∨ B (s + 1) = 49)) ∧ ((∃ j, s ≤ j ∧ j < s + m ∧ isl_ (B j) = false) ∨ 8 < m) ∧ wsg_ B s m = 1) ∨
    ((∀ j, s ≤ j → j < s + m → isl_ (B j) = true) ∧ m ≤ 8 ∧ wsg_ B s m = kwi_ (bl_ B s m) 3 21 0) := by
  have hl : 97 ≤ B s ∧ B s ≤ 122 := by
    unfold isl_ at h0
    rw [decide_eq_true_eq] at h0
    exact h0
  have hd := wf_rg (B := B) m s 0 (-1) al (by decide)
  have rg : wrg_ m (wf_ B m s 0 (-1)) = true → m = 2 ∧ B s = 114 ∧ (B (s + 1) = 48 ∨ B (s + 1) = 49) := fun y => by
    obtain ⟨z1, z2, z3⟩ := of_decide_eq_true y
    subst z1
    have ew : wf_ B 2 s 0 (-1) = if isl_ (B (s + 1)) = true then (wc_ (wc_ 0 (i_ (B s))) (i_ (B (s + 1))), -1) else (wc_ 0 (i_ (B s)), B (s + 1) - 48) := by
      rw [wf_s]
      have e0 : wf_ B 1 s 0 (-1) = (wc_ 0 (i_ (B s)), -1) := by
        show (if isl_ (B s) = true then _ else _) = _
        rw [if_pos h0]
        rfl
      rw [e0]
    have e114 : wc_ 0 114 = lN 18 := by decide
    have ex : wc_ 0 (i_ (B s)) = lN (32 * 0 + (B s - 96).toNat) := wc_n (x := 0) (by decide) hl
    by_cases y : isl_ (B (s + 1)) = true
    · rw [ew, if_pos y] at z2
      have hl2 : 97 ≤ B (s + 1) ∧ B (s + 1) ≤ 122 := by
        unfold isl_ at y
        rw [decide_eq_true_eq] at y
        exact y
      have z2 : wc_ (wc_ 0 (i_ (B s))) (i_ (B (s + 1))) = wc_ 0 114 := z2
      rw [ex, wc_n (by have p11 : (32 : Nat) ^ 11 = 36028797018963968 := by decide
                       omega) hl2, e114, lN_inj (by omega) (by omega)] at z2
      omega
    · rw [ew, if_neg y] at z2 z3
      have z2 : wc_ 0 (i_ (B s)) = wc_ 0 114 := z2
      have z3 : B (s + 1) - 48 < 2 := z3
      rw [ex, e114, lN_inj (by omega) (by omega)] at z2
      have dg := al (s + 1) (by omega) (by omega)
      unfold ial_ at dg
      rw [Bool.eq_false_iff.mpr y, Bool.false_or] at dg
      unfold isd_ at dg
      rw [decide_eq_true_eq] at dg
      exact ⟨rfl, by omega, by omega⟩
  by_cases c : m = 2 ∧ B s = 114 ∧ (B (s + 1) = 48 ∨ B (s + 1) = 49)
  · left
    refine ⟨c.1, c.2.1, c.2.2, ?_⟩
    obtain ⟨c1, c2, c3⟩ := c
    subst c1
    have nl : ¬ isl_ (B (s + 1)) = true := by
      unfold isl_
      rw [decide_eq_true_eq]
      omega
    have e2 : wf_ B 2 s 0 (-1) = (wc_ 0 (i_ (B s)), B (s + 1) - 48) := by
      rw [wf_s, if_neg nl]
      show ((if isl_ (B s) = true then _ else _ : Int64 × Int).1, _) = _
      rw [if_pos h0]
      rfl
    have w2 : wrg_ 2 (wf_ B 2 s 0 (-1)) = true := by
      unfold wrg_
      rw [decide_eq_true_eq, e2, c2]
      exact ⟨rfl, rfl, by show B (s + 1) - 48 < 2; omega⟩
    have i2 : wiv_ 2 (wf_ B 2 s 0 (-1)) = false := by
      unfold wiv_
      rw [w2, decide_eq_false (by decide)]
      show (false || (_ && false)) = false
      rw [Bool.and_false]
      rfl
    unfold wsg_
    rw [i2, if_neg (by decide), if_pos w2]
  · right
    have nr : wrg_ m (wf_ B m s 0 (-1)) = false := Bool.eq_false_iff.mpr (fun y => c (rg y))
    by_cases d : (wf_ B m s 0 (-1)).2 = -1
    · have lt := (wf_let (B := B) m s 0 (-1) d al).1
      by_cases m8 : 8 < m
      · left
        refine ⟨c, Or.inr m8, ?_⟩
        unfold wsg_ wiv_
        rw [decide_eq_true m8]
        rfl
      · right
        refine ⟨lt, by omega, ?_⟩
        unfold wsg_ wiv_
        rw [nr, decide_eq_false m8, decide_eq_false (fun y => y d)]
        rfl
    · left
      refine ⟨c, Or.inl ?_, ?_⟩
      · by_cases u : ∃ j, s ≤ j ∧ j < s + m ∧ isl_ (B j) = false
        · exact u
        · exfalso
          have lt : ∀ j, s ≤ j → j < s + m → isl_ (B j) = true := fun j z1 z2 => by
            cases e : isl_ (B j) with
            | true => rfl
            | false => exact absurd ⟨j, z1, z2, e⟩ u
          have no : ∀ (v : Nat), v ≤ m → (wf_ B v s 0 (-1)).2 = -1 := by
            intro v
            induction v with
            | zero => intro _; rfl
            | succ v ih =>
              intro hv
              rw [wf_s, if_pos (lt (s + v) (by omega) (by omega))]
              exact ih (by omega)
          exact d (no m (Nat.le_refl _))
      · unfold wsg_ wiv_
        rw [nr, decide_eq_true d]
        show (if (decide (8 < m) || (true && !false)) = true then _ else _) = _
        rw [Bool.not_false, Bool.and_self, Bool.or_true, if_pos rfl]
theorem kwi_sp (l : List Int32) (o : Nat) : ∀ k c, kwi_ l o k c = o ∨ (c ≤ kwi_ l o k c ∧ kwi_ l o k c < c + k ∧ kb_ (sg_tx.getD (kwi_ l o k c) 0) = l)
  | 0, c => Or.inl rfl
  | k + 1, c => by
    unfold kwi_
    split
    · next y => exact Or.inr ⟨Nat.le_refl _, by omega, y⟩
    · rcases kwi_sp l o k (c + 1) with y | ⟨y1, y2, y3⟩
      · exact Or.inl y
      · exact Or.inr ⟨by omega, by omega, y3⟩
theorem sg_sym : kb_ (sg_tx.getD 15 0) = [i_ 59] ∧ kb_ (sg_tx.getD 16 0) = [i_ 58] ∧ kb_ (sg_tx.getD 17 0) = [i_ 61] ∧ kb_ (sg_tx.getD 18 0) = [i_ 60] ∧ kb_ (sg_tx.getD 19 0) = [i_ 40] ∧ kb_ (sg_tx.getD 20 0) = [i_ 41] := by decide +kernel
theorem kwi_lt {s m : Nat} (hm : 0 < m) (h0 : isl_ (B s) = true) : kwi_ (bl_ B s m) 3 21 0 < 15 := by
  have hl : 97 ≤ B s ∧ B s ≤ 122 := by
    unfold isl_ at h0
    rw [decide_eq_true_eq] at h0
    exact h0
  rcases kwi_sp (bl_ B s m) 3 21 0 with y | ⟨-, y2, y3⟩
  · rw [y]
    decide
  · by_cases c : kwi_ (bl_ B s m) 3 21 0 < 15
    · exact c
    · exfalso
      generalize kwi_ (bl_ B s m) 3 21 0 = v at y2 y3 c
      have hd : (bl_ B s m)[0]? = some (i_ (B s)) := bl_at hm
      rw [← y3] at hd
      obtain ⟨g1, g2, g3, g4, g5, g6⟩ := sg_sym
      have no : ∀ x : Int, (x = 59 ∨ x = 58 ∨ x = 61 ∨ x = 60 ∨ x = 40 ∨ x = 41) → kb_ (sg_tx.getD v 0) ≠ [i_ x] := fun x hx e => by
        rw [e] at hd
        have y := Option.some.inj hd
        rw [i_eq (by omega) (by omega)] at y
        omega
      rcases (show v = 15 ∨ v = 16 ∨ v = 17 ∨ v = 18 ∨ v = 19 ∨ v = 20 by omega) with e | e | e | e | e | e
      · exact no 59 (by omega) (by rw [e]; exact g1)
      · exact no 58 (by omega) (by rw [e]; exact g2)
      · exact no 61 (by omega) (by rw [e]; exact g3)
      · exact no 60 (by omega) (by rw [e]; exact g4)
      · exact no 40 (by omega) (by rw [e]; exact g5)
      · exact no 41 (by omega) (by rw [e]; exact g6)
def sso_ (c : Nat) : Int := if c = 0 then 0 else if c = 1 then 1 else if c = 2 then 3 else if c = 4 then 4 else if 15 ≤ c then 5 else 2
def Bf_ (s : st_T) (B : Nat → Int) (n : Nat) : Prop := n ≤ 600 ∧ st_I s 185 11 = i_ (n : Int) ∧ ∀ i, i < n → st_I s 186 i = i_ (B i % 256) ∧ -128 ≤ B i ∧ B i < 128
def dF_ (a k : Nat) : Prop := a = 185 ∧ 12 ≤ k ∧ k ≤ 15
theorem bf_ro {D : Nat → Nat → Prop} (r : ro_ D σ s) (hD : ∀ a k, D a k → ¬ (a = 186 ∨ (a = 185 ∧ k = 11))) (h : Bf_ σ B n) : Bf_ s B n := ⟨h.1, (r.2 _ _ (fun y => hD _ _ y (Or.inr ⟨rfl, rfl⟩))).1.trans h.2.1, fun i hi => ⟨(r.2 _ _ (fun y => hD _ _ y (Or.inl rfl))).1.trans (h.2.2 i hi).1, (h.2.2 i hi).2⟩⟩
theorem bf_F (r : ro_ dF_ σ s) (h : Bf_ σ B n) : Bf_ s B n := bf_ro r (fun a k y => by unfold dF_ at y; omega) h
theorem c_rbyteAt (zw : Wd s) (h : Bf_ s B n) (hi : i ≤ n) : fn_ γ m_X12_byteAt 0 [.ref 185, .int (i_ (i : Int))] s (.int (i_ (if i < n then B i % 256 else -1))) s := fn_q (fun Q zQ => e_X12_byteAt zw (by
  obtain ⟨h1, h2, h3⟩ := h
  unfold p_X12_byteAt_0
  rw [h2, i_le (by omega) (by omega), i_cl (by omega), Int.toNat_natCast]
  refine ⟨fun y => ?_, fun y => ⟨i_in (by omega) (by omega) (by omega), ?_⟩⟩
  · rw [if_neg (by omega)] at zQ
    exact zQ
  · rw [if_pos (by omega)] at zQ
    rw [(h3 i (by omega)).1]
    exact zQ))
theorem c_risSmall (zw : Wd s) (hz : -1 ≤ z ∧ z < 256) : fn_ γ m_X12_isSmall 0 [.int (i_ z)] s (.int (if isl_ z = true then 1 else 0)) s := fn_q (fun Q zQ => e_X12_isSmall zw (by
  unfold p_X12_isSmall_0
  rw [show (97 : Int32) = i_ 97 by decide, show (122 : Int32) = i_ 122 by decide, i_lt (by omega) (by omega), i_lt (by omega) (by omega)]
  unfold isl_ at zQ
  refine ⟨fun y => ?_, fun y => ⟨fun y2 => ?_, fun y2 => ?_⟩⟩
  · rw [decide_eq_false (by omega)] at zQ
    exact zQ
  · rw [decide_eq_false (by omega)] at zQ
    exact zQ
  · rw [decide_eq_true (by omega)] at zQ
    exact zQ))
theorem c_risDig (zw : Wd s) (hz : -1 ≤ z ∧ z < 256) : fn_ γ m_X12_isDigit 0 [.int (i_ z)] s (.int (if isd_ z = true then 1 else 0)) s := fn_q (fun Q zQ => e_X12_isDigit zw (by
  unfold p_X12_isDigit_0
  rw [show (48 : Int32) = i_ 48 by decide, show (57 : Int32) = i_ 57 by decide, i_lt (by omega) (by omega), i_lt (by omega) (by omega)]
  unfold isd_ at zQ
  refine ⟨fun y => ?_, fun y => ⟨fun y2 => ?_, fun y2 => ?_⟩⟩
  · rw [decide_eq_false (by omega)] at zQ
    exact zQ
  · rw [decide_eq_false (by omega)] at zQ
    exact zQ
  · rw [decide_eq_true (by omega)] at zQ
    exact zQ))
theorem isl_m {b : Int} (h : -128 ≤ b ∧ b < 128) : isl_ (b % 256) = isl_ b := decide_eq_decide.mpr (by omega)
theorem isd_m {b : Int} (h : -128 ≤ b ∧ b < 128) : isd_ (b % 256) = isd_ b := decide_eq_decide.mpr (by omega)
theorem ru_step {f : Nat → Bool} {i : Nat} (h : i < n) : ru_ f (n - i) i = if f i = true then ru_ f (n - (i + 1)) (i + 1) else i := by
  rw [show n - i = (n - (i + 1)) + 1 by omega, ru_]
/-- a word is passed -/
theorem c_goWord (zw : Wd σ) (h : Bf_ σ B n) {p : Nat} (hp : p < n) (h12 : st_I σ 185 12 = i_ (p : Int)) (h13 : st_I σ 185 13 = i_ (p : Int)) (h0 : isl_ (B p) = true) :
    ∃ s, fw_ γ m_X12_goWord 1 [.ref 185] σ s ∧ Wd s ∧ ro_ dF_ σ s ∧ st_I s 185 12 = i_ (tst_ B n p : Int) ∧ st_I s 185 13 = i_ (p : Int) ∧ st_I s 185 14 = i_ (sso_ (tsg_ B n p)) ∧ (tsg_ B n p = 2 → st_I s 185 15 = i_ (B (p + 1) - 48)) := by
  have h600 := h.1
  have et : tst_ B n p = ru_ (fun i => ial_ (B i)) (n - p) p := by
    unfold tst_
    rw [if_pos h0]
  have eg : tsg_ B n p = wsg_ B p (tst_ B n p - p) := by
    unfold tsg_
    rw [if_pos h0]
  have tr := tst_rg (B := B) hp
  have fin : ∀ (Q : rs_T → st_T → Prop) (s : st_T) (b : Bool) (e : Nat), e = tst_ B n p → Wd s → ro_ dF_ σ s → st_I s 185 12 = i_ (e : Int) → st_I s 185 13 = i_ (p : Int) → (b = true ↔ ∀ v, p ≤ v → v < e → isl_ (B v) = true) → (∀ v, p ≤ v → v < e → ial_ (B v) = true) →
      (∀ s2, Wd s2 → ro_ dF_ σ s2 → st_I s2 185 12 = i_ (tst_ B n p : Int) → st_I s2 185 13 = i_ (p : Int) → st_I s2 185 14 = i_ (sso_ (tsg_ B n p)) → (tsg_ B n p = 2 → st_I s2 185 15 = i_ (B (p + 1) - 48)) → Q (.inl none) s2) →
      (((st_I s 185 12) - (st_I s 185 13)) = (2 : Int32) →
        vp_in (st_I s 185 13) 600 ∧
        ((st_I s 186 (st_I s 185 13).toNatClampNeg) = (114 : Int32) →
          vp_in ((st_I s 185 13) + (1 : Int32)) 600 ∧
          ((st_I s 186 ((st_I s 185 13) + (1 : Int32)).toNatClampNeg) = (48 : Int32) →
            vp_in ((st_I s 185 13) + (1 : Int32)) 600 ∧
            Q (.inl none) (pt_I (pt_I s 185 15 ((st_I s 186 ((st_I s 185 13) + (1 : Int32)).toNatClampNeg) - (48 : Int32))) 185 14 (3 : Int32))
          ) ∧ (¬ (st_I s 186 ((st_I s 185 13) + (1 : Int32)).toNatClampNeg) = (48 : Int32) →
            vp_in ((st_I s 185 13) + (1 : Int32)) 600 ∧
            ((st_I s 186 ((st_I s 185 13) + (1 : Int32)).toNatClampNeg) = (49 : Int32) →
              vp_in ((st_I s 185 13) + (1 : Int32)) 600 ∧
              Q (.inl none) (pt_I (pt_I s 185 15 ((st_I s 186 ((st_I s 185 13) + (1 : Int32)).toNatClampNeg) - (48 : Int32))) 185 14 (3 : Int32))
            ) ∧ (¬ (st_I s 186 ((st_I s 185 13) + (1 : Int32)).toNatClampNeg) = (49 : Int32) →
              ((if b = true then (1 : Int32) else 0) = (0 : Int32) →
                Q (.inl none) (pt_I (pt_I s 185 15 (0 : Int32)) 185 14 (1 : Int32))
              ) ∧ (¬ (if b = true then (1 : Int32) else 0) = (0 : Int32) →
                ((8 : Int32) < ((st_I s 185 12) - (st_I s 185 13)) →
                  Q (.inl none) (pt_I (pt_I s 185 15 (0 : Int32)) 185 14 (1 : Int32))
                ) ∧ (¬ (8 : Int32) < ((st_I s 185 12) - (st_I s 185 13)) →
                  Q (.inl none) (pt_I (pt_I s 185 15 (0 : Int32)) 185 14 (2 : Int32))
                )
              )
            )
          )
        ) ∧ (¬ (st_I s 186 (st_I s 185 13).toNatClampNeg) = (114 : Int32) →
          ((if b = true then (1 : Int32) else 0) = (0 : Int32) →
            Q (.inl none) (pt_I (pt_I s 185 15 (0 : Int32)) 185 14 (1 : Int32))
          ) ∧ (¬ (if b = true then (1 : Int32) else 0) = (0 : Int32) →
            ((8 : Int32) < ((st_I s 185 12) - (st_I s 185 13)) →
              Q (.inl none) (pt_I (pt_I s 185 15 (0 : Int32)) 185 14 (1 : Int32))
            ) ∧ (¬ (8 : Int32) < ((st_I s 185 12) - (st_I s 185 13)) →
              Q (.inl none) (pt_I (pt_I s 185 15 (0 : Int32)) 185 14 (2 : Int32))
            )
          )
        )
      ) ∧ (¬ ((st_I s 185 12) - (st_I s 185 13)) = (2 : Int32) →
        ((if b = true then (1 : Int32) else 0) = (0 : Int32) →
          Q (.inl none) (pt_I (pt_I s 185 15 (0 : Int32)) 185 14 (1 : Int32))
        ) ∧ (¬ (if b = true then (1 : Int32) else 0) = (0 : Int32) →
          ((8 : Int32) < ((st_I s 185 12) - (st_I s 185 13)) →
            Q (.inl none) (pt_I (pt_I s 185 15 (0 : Int32)) 185 14 (1 : Int32))
          ) ∧ (¬ (8 : Int32) < ((st_I s 185 12) - (st_I s 185 13)) →
            Q (.inl none) (pt_I (pt_I s 185 15 (0 : Int32)) 185 14 (2 : Int32))
          )
        )
      ) := by
    intro Q s b e he w r a12 a13 hb hal zQ
    subst he
    have bf := bf_F r h
    have d15 : dF_ 185 15 := ⟨rfl, by decide, by decide⟩
    have d14 : dF_ 185 14 := ⟨rfl, by decide, by decide⟩
    have out : ∀ (x y : Int32), y = i_ (sso_ (tsg_ B n p)) → (tsg_ B n p = 2 → x = i_ (B (p + 1) - 48)) → Q (.inl none) (pt_I (pt_I s 185 15 x) 185 14 y) := fun x y hy hx => zQ _ w (ro_I (ro_I r d15) d14) (by rw [st_pI, if_neg (by omega), st_pI, if_neg (by omega)]; exact a12) (by rw [st_pI, if_neg (by omega), st_pI, if_neg (by omega)]; exact a13) (by rw [st_sI]; exact hy) (fun e => by rw [st_pI, if_neg (by omega), st_sI]; exact hx e)
    have cl := wsg_c (m := tst_ B n p - p) (by omega) h0 (fun j z1 z2 => hal j z1 (by omega))
    rw [← eg] at cl
    have bad : b = false ∨ 8 < tst_ B n p - p → ¬ (tst_ B n p - p = 2 ∧ B p = 114 ∧ (B (p + 1) = 48 ∨ B (p + 1) = 49)) → Q (.inl none) (pt_I (pt_I s 185 15 (0 : Int32)) 185 14 (1 : Int32)) := fun hbd hn => by
      rcases cl with ⟨c1, c2, c3, -⟩ | ⟨-, -, c3⟩ | ⟨c1, c2, -⟩
      · exact absurd ⟨c1, c2, c3⟩ hn
      · rw [c3] at out
        exact out _ _ rfl (fun y => absurd y (by decide))
      · exfalso
        rcases hbd with y | y
        · rw [hb.mpr (fun v z1 z2 => c1 v z1 (by omega))] at y
          cases y
        · omega
    have word : b = true → ¬ 8 < tst_ B n p - p → ¬ (tst_ B n p - p = 2 ∧ B p = 114 ∧ (B (p + 1) = 48 ∨ B (p + 1) = 49)) → Q (.inl none) (pt_I (pt_I s 185 15 (0 : Int32)) 185 14 (2 : Int32)) := fun h1 h2 hn => by
      rcases cl with ⟨c1, c2, c3, -⟩ | ⟨-, c2, -⟩ | ⟨-, -, c3⟩
      · exact absurd ⟨c1, c2, c3⟩ hn
      · exfalso
        rcases c2 with ⟨j, z1, z2, z3⟩ | y
        · rw [hb.mp h1 j z1 (by omega)] at z3
          cases z3
        · omega
      · have k5 := kwi_5 (bl_ B p (tst_ B n p - p)) 3 (bl_ne (by omega)) 21 0
        have kl : kwi_ (bl_ B p (tst_ B n p - p)) 3 21 0 < 15 := kwi_lt (by omega) h0
        refine out _ _ ?_ (fun y => by rw [c3] at y; omega)
        rw [c3]
        unfold sso_
        rw [if_neg (by omega), if_neg (by omega), if_neg (by omega), if_neg (by omega), if_neg (by omega)]
        rfl
    have both : ¬ (tst_ B n p - p = 2 ∧ B p = 114 ∧ (B (p + 1) = 48 ∨ B (p + 1) = 49)) → ((if b = true then (1 : Int32) else 0) = (0 : Int32) →
          Q (.inl none) (pt_I (pt_I s 185 15 (0 : Int32)) 185 14 (1 : Int32))
        ) ∧ (¬ (if b = true then (1 : Int32) else 0) = (0 : Int32) →
          ((8 : Int32) < i_ ((tst_ B n p : Int) - (p : Int)) →
            Q (.inl none) (pt_I (pt_I s 185 15 (0 : Int32)) 185 14 (1 : Int32))
          ) ∧ (¬ (8 : Int32) < i_ ((tst_ B n p : Int) - (p : Int)) →
            Q (.inl none) (pt_I (pt_I s 185 15 (0 : Int32)) 185 14 (2 : Int32))
          )
        ) := fun hn => by
      rw [k8_, i_lt (by omega) (by omega)]
      refine ⟨fun y => bad (Or.inl ?_) hn, fun y => ⟨fun y2 => bad (Or.inr (by omega)) hn, fun y2 => word ?_ (by omega) hn⟩⟩
      · cases b with
        | false => rfl
        | true => exact absurd y (by decide)
      · cases b with
        | true => rfl
        | false => exact absurd rfl y
    rw [a12, a13, i_sub, k2_, i_eq (by omega) (by omega), i_cl (by omega), Int.toNat_natCast, (bf.2.2 p hp).1]
    have bp := (h.2.2 p hp).2
    refine ⟨fun y => ⟨i_in (by omega) (by omega) (by omega), ?_⟩, fun y => both (fun z => by omega)⟩
    have hp1 : p + 1 < n := by omega
    have bp1 := (h.2.2 (p + 1) hp1).2
    rw [show (114 : Int32) = i_ 114 by decide, show (48 : Int32) = i_ 48 by decide, show (49 : Int32) = i_ 49 by decide, k1_, i_add, i_cl (by omega), show ((p : Int) + 1).toNat = p + 1 by omega, (bf.2.2 (p + 1) hp1).1, i_eq (by omega) (by omega), i_eq (by omega) (by omega), i_eq (by omega) (by omega), i_sub]
    have inn : vp_in (i_ ((p : Int) + 1)) 600 := i_in (by omega) (by omega) (by omega)
    have reg : B p = 114 → (B (p + 1) = 48 ∨ B (p + 1) = 49) → Q (.inl none) (pt_I (pt_I s 185 15 (i_ (B (p + 1) % 256 - 48))) 185 14 (3 : Int32)) := fun h1 h2 => by
      rcases cl with ⟨-, -, -, c4⟩ | ⟨c1, -, -⟩ | ⟨c1, -, -⟩
      · rw [c4] at out
        exact out _ _ rfl (fun _ => congrArg i_ (by omega))
      · exact absurd ⟨by omega, h1, h2⟩ c1
      · have y := c1 (p + 1) (by omega) (by omega)
        unfold isl_ at y
        rw [decide_eq_true_eq] at y
        omega
    refine ⟨fun y1 => ⟨inn, fun y2 => ⟨inn, reg (by omega) (by omega)⟩, fun y2 => ⟨inn, fun y3 => ⟨inn, reg (by omega) (by omega)⟩, fun y3 => both (fun z => by omega)⟩⟩, fun y1 => both (fun z => by omega)⟩
  have key : ∀ (d j : Nat) (s : st_T) (b : Bool), d + j = n → p ≤ j → Wd s → ro_ dF_ σ s → st_I s 185 12 = i_ (j : Int) → st_I s 185 13 = i_ (p : Int) → (b = true ↔ ∀ v, p ≤ v → v < j → isl_ (B v) = true) → (∀ v, p ≤ v → v < j → ial_ (B v) = true) → tst_ B n p = ru_ (fun i => ial_ (B i)) (n - j) j →
      ∀ (Q : rs_T → st_T → Prop), (∀ s2, Wd s2 → ro_ dF_ σ s2 → st_I s2 185 12 = i_ (tst_ B n p : Int) → st_I s2 185 13 = i_ (p : Int) → st_I s2 185 14 = i_ (sso_ (tsg_ B n p)) → (tsg_ B n p = 2 → st_I s2 185 15 = i_ (B (p + 1) - 48)) → Q (.inl none) s2) →
      vv_ γ m_X12_goWord 1 2 [(0, .ref 185), (1, .int (if b = true then (1 : Int32) else 0))] [] s Q := by
    intro d
    induction d with
    | zero =>
      intro j s b hj hpj w r a12 a13 hb hal ht Q zQ
      have hj : j = n := by omega
      subst hj
      rw [Nat.sub_self] at ht
      have bf := bf_F r h
      have by1 := c_rbyteAt (γ := γ) w bf (Nat.le_refl j)
      rw [if_neg (by omega)] at by1
      have sm := c_risSmall (γ := γ) (z := -1) w (by omega)
      have dg := c_risDig (γ := γ) (z := -1) w (by omega)
      refine g_X12_goWord_2 w ?_
      unfold p_X12_goWord_2
      rw [a12]
      refine ⟨_, s, w, by1, _, s, w, sm, fun _ => ⟨_, s, w, by rw [a12]; exact by1, _, s, w, dg, fun _ => fin Q s b j ht.symm w r a12 a13 hb hal zQ, fun y => absurd rfl y⟩, fun y => absurd rfl y⟩
    | succ d ih =>
      intro j s b hj hpj w r a12 a13 hb hal ht Q zQ
      have bf := bf_F r h
      have bj := (h.2.2 j (by omega)).2
      have by1 := c_rbyteAt (γ := γ) (i := j) w bf (by omega)
      rw [if_pos (by omega)] at by1
      have sm := c_risSmall (γ := γ) (z := B j % 256) w (by omega)
      have dg := c_risDig (γ := γ) (z := B j % 256) w (by omega)
      rw [isl_m bj] at sm
      rw [isd_m bj] at dg
      rw [ru_step (show j < n by omega)] at ht
      have d12 : dF_ 185 12 := ⟨rfl, by decide, by decide⟩
      have nxt : ∀ b2 : Bool, ial_ (B j) = true → (b2 = true ↔ b = true ∧ isl_ (B j) = true) → vv_ γ m_X12_goWord 1 2 [(0, .ref 185), (1, .int (if b2 = true then (1 : Int32) else 0))] [] (pt_I s 185 12 (i_ ((j : Int) + 1))) Q := fun b2 hi hb2 => by
        rw [if_pos hi] at ht
        refine ih (j + 1) (pt_I s 185 12 (i_ ((j : Int) + 1))) b2 (by omega) (by omega) w (ro_I r d12) (st_sI _ _ _ _) (by rw [st_pI, if_neg (by omega)]; exact a13) ?_ ?_ ht Q zQ
        · rw [hb2, hb]
          constructor
          · rintro ⟨y1, y2⟩ v z1 z2
            by_cases e : v = j
            · rw [e]
              exact y2
            · exact y1 v z1 (by omega)
          · exact fun y => ⟨fun v z1 z2 => y v z1 (by omega), y j (by omega) (by omega)⟩
        · intro v z1 z2
          by_cases e : v = j
          · rw [e]
            exact hi
          · exact hal v z1 (by omega)
      have bJ : st_I s 186 j = i_ (B j % 256) := (bf.2.2 j (by omega)).1
      refine g_X12_goWord_2 w ?_
      unfold p_X12_goWord_2
      rw [a12]
      refine ⟨_, s, w, by1, _, s, w, sm, ?_⟩
      rw [a12]
      cases el : isl_ (B j) with
      | true =>
        rw [el] at sm
        have hi : ial_ (B j) = true := by
          unfold ial_
          rw [el]
          rfl
        refine ⟨fun y => absurd y (by decide), fun _ => ?_⟩
        rw [i_cl (by omega), Int.toNat_natCast, bJ, k1_, i_add]
        refine ⟨fun y => ?_, fun y => ⟨i_in (by omega) (by omega) (by omega), _, s, w, sm, fun y2 => absurd y2 (by decide), fun _ => ?_⟩⟩
        · refine nxt false hi ⟨fun y => (by cases y), fun y2 => ?_⟩
          rw [y2.1] at y
          exact absurd y (by decide)
        · rw [a12, i_add]
          refine nxt true hi ⟨fun _ => ⟨?_, el⟩, fun _ => rfl⟩
          cases b with
          | true => rfl
          | false => exact absurd rfl y
      | false =>
        rw [el] at sm
        refine ⟨fun _ => ⟨_, s, w, by1, _, s, w, dg, ?_⟩, fun y => absurd rfl y⟩
        cases ed : isd_ (B j) with
        | false =>
          have hi : ial_ (B j) = false := by
            unfold ial_
            rw [el, ed]
            rfl
          rw [if_neg (by rw [hi]; decide)] at ht
          exact ⟨fun _ => fin Q s b j ht.symm w r a12 a13 hb hal zQ, fun y => absurd rfl y⟩
        | true =>
          have hi : ial_ (B j) = true := by
            unfold ial_
            rw [ed, Bool.or_true]
          refine ⟨fun y => absurd y (by decide), fun _ => ?_⟩
          rw [a12, i_cl (by omega), Int.toNat_natCast, bJ, k1_, i_add]
          refine ⟨fun y => ?_, fun y => ⟨i_in (by omega) (by omega) (by omega), _, s, w, sm, fun y2 => ?_, fun y2 => absurd rfl y2⟩⟩
          · exact nxt false hi ⟨fun y => (by cases y), fun y2 => by rw [el] at y2; cases y2.2⟩
          · rw [a12, i_add]
            exact nxt false hi ⟨fun y => (by cases y), fun y2 => by rw [el] at y2; cases y2.2⟩
  have key2 : sp_ γ m_X12_goWord 1 [.ref 185] σ (fun r s => r = .inl none ∧ (Wd s ∧ ro_ dF_ σ s ∧ st_I s 185 12 = i_ (tst_ B n p : Int) ∧ st_I s 185 13 = i_ (p : Int) ∧ st_I s 185 14 = i_ (sso_ (tsg_ B n p)) ∧ (tsg_ B n p = 2 → st_I s 185 15 = i_ (B (p + 1) - 48)))) := by
    refine e_X12_goWord zw ?_
    unfold p_X12_goWord_0
    exact key (n - p) p σ true (by omega) (Nat.le_refl _) zw ro_rf h12 h13 ⟨fun _ v z1 z2 => by omega, fun _ => rfl⟩ (fun v z1 z2 => by omega) et _ (fun s2 w2 r2 e1 e2 e3 e4 => ⟨rfl, w2, r2, e1, e2, e3, e4⟩)
  obtain ⟨s, f1, f2⟩ := fw_of (P := fun s => Wd s ∧ ro_ dF_ σ s ∧ st_I s 185 12 = i_ (tst_ B n p : Int) ∧ st_I s 185 13 = i_ (p : Int) ∧ st_I s 185 14 = i_ (sso_ (tsg_ B n p)) ∧ (tsg_ B n p = 2 → st_I s 185 15 = i_ (B (p + 1) - 48))) key2
  exact ⟨s, f1, f2⟩
end TK
