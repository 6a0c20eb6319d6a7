/-! tokens: numbers, a token, all of them -/
section SP
variable {γ : ga_T} {σ σ1 : st_T} {B : Nat → Int} {n : Nat}
/-- the number that the first k digits make -/
def nv_ (B : Nat → Int) (s k : Nat) : Int := if k = 0 then 0 else if k = 1 then B s - 48 else 10 * (B s - 48) + (B (s + 1) - 48)
theorem sf_rf (t : Nat) : sf_ t σ σ := ⟨fun a _ _ => eh_rf a, fun _ _ => rfl, fun _ _ => rfl, rfl, rfl, rfl⟩
theorem sf_tr {t : Nat} {σ2 : st_T} (h : sf_ t σ σ1) (k : sf_ t σ1 σ2) : sf_ t σ σ2 := ⟨fun a z1 z2 => eh_tr (h.1 a z1 z2) (k.1 a z1 z2), fun j z => (k.2.1 j z).trans (h.2.1 j z), fun j z => (k.2.2.1 j z).trans (h.2.2.1 j z), k.2.2.2.1.trans h.2.2.2.1, k.2.2.2.2.1.trans h.2.2.2.2.1, k.2.2.2.2.2.trans h.2.2.2.2.2⟩
theorem sf_I {t : Nat} {v : Int32} : sf_ t σ (pt_I σ 143 5 v) := ⟨fun a z1 z2 => eh_I z1, fun j zj => by rw [st_pI, if_neg (by omega)], fun j _ => rfl, rfl, rfl, rfl⟩
theorem sf_L {t : Nat} {v : Int64} : sf_ t σ (pt_L σ 146 t v) := ⟨fun a z1 z2 => eh_L z2, fun j zj => rfl, fun j zj => if_neg (fun z => zj z.2), rfl, rfl, rfl⟩
theorem c_scanNumber (zw : Wd σ) (zX : Tx_ σ B n) (h4 : st_I σ 143 4 = i_ (n : Int)) {s t : Nat} (h5 : st_I σ 143 5 = i_ (s : Int)) (hs : s ≤ n) (ht : t ≤ 600) : ∃ σ1, fn_ γ m_X10_scanNumber 1 [.ref 143, .int (i_ (t : Int))] σ (.ref (if 2 < ru_ (fun i => isd_ (B i)) (n - s) s - s then 1 else 4)) σ1 ∧ Wd σ1 ∧
    st_I σ1 143 5 = i_ (ru_ (fun i => isd_ (B i)) (n - s) s : Int) ∧ st_L σ1 146 t = (i_ (nv_ B s (ru_ (fun i => isd_ (B i)) (n - s) s - s))).toInt64 ∧ sf_ t σ σ1 := by
  have hn := zX.1
  obtain ⟨J, hJ⟩ : ∃ J, J = ru_ (fun i => isd_ (B i)) (n - s) s := ⟨_, rfl⟩
  have rg := ru_rg (fun i => isd_ (B i)) (n - s) s
  have al := ru_all (fun i => isd_ (B i)) (n - s) s
  rw [← hJ] at rg al ⊢
  obtain ⟨m, hm⟩ : ∃ m, J = s + m := ⟨J - s, by omega⟩
  rw [show J - s = m by omega]
  obtain ⟨σ1, hσ1⟩ : ∃ σ1, σ1 = pt_L (pt_I σ 143 5 (i_ (J : Int))) 146 t (i_ (nv_ B s m)).toInt64 := ⟨_, rfl⟩
  have w1 : Wd σ1 := by rw [hσ1]; exact zw
  have h51 : st_I σ1 143 5 = i_ (J : Int) := by
    rw [hσ1]
    show st_I (pt_I σ 143 5 (i_ (J : Int))) 143 5 = _
    exact st_sI _ _ _ _
  refine ⟨σ1, fn_q (fun Q zQ => e_X10_scanNumber zw ?_), w1, h51, by rw [hσ1]; exact if_pos ⟨rfl, rfl⟩, by rw [hσ1]; exact sf_tr sf_I sf_L⟩
  unfold p_X10_scanNumber_0
  rw [h5]
  have fin : ∀ sp : st_T, sp = pt_I σ 143 5 (i_ (J : Int)) → ∃ s2, Wd s2 ∧ fw_ γ m_X10_setValue 0 [.ref 143, .int (i_ (t : Int)), .long ((i_ (nv_ B s m)).toInt64)] sp s2 ∧
    (((st_I s2 143 5) - i_ (s : Int)) ≤ (2 : Int32) →
      Q (.inl (some (.ref 4))) s2
    ) ∧ (¬ ((st_I s2 143 5) - i_ (s : Int)) ≤ (2 : Int32) →
      Q (.inl (some (.ref 1))) s2
    ) := by
    intro sp e
    have wp : Wd sp := by rw [e]; exact zw
    refine ⟨σ1, w1, by rw [hσ1, ← e]; exact c_setValue wp ht _, ?_⟩
    rw [h51]
    simp (disch := omega) only [i_lit, i_sub, i_le]
    refine ⟨fun z => ?_, fun z => ?_⟩
    · rw [if_neg (by omega)] at zQ
      exact zQ
    · rw [if_pos (by omega)] at zQ
      exact zQ
  have key : ∀ (k p : Nat) (sp : st_T), k + p = n → s ≤ p → J = ru_ (fun i => isd_ (B i)) k p → sp = pt_I σ 143 5 (i_ (p : Int)) → vv_ γ m_X10_scanNumber 1 7 [(0, .ref 143), (1, .int (i_ (t : Int))), (2, .int (i_ (s : Int))), (3, .int (i_ (nv_ B s (p - s))))] [] sp Q := by
    intro k
    induction k with
    | zero =>
      intro p sp zp zs zJ zsp
      have zJ : J = p := zJ
      subst zJ
      have wp : Wd sp := by rw [zsp]; exact zw
      have h41 : st_I sp 143 5 = i_ (J : Int) := by rw [zsp]; exact st_sI _ _ _ _
      have k41 : st_I sp 143 4 = i_ (n : Int) := by rw [zsp, st_pI, if_neg (by omega)]; exact h4
      refine g_X10_scanNumber_7 wp ?_
      unfold p_X10_scanNumber_7
      rw [show J - s = m by omega]
      refine ⟨fun _ => fin sp zsp, fun z => absurd ?_ z⟩
      rw [h41, k41, show n = J by omega]
      exact Int32.le_refl _
    | succ k ih =>
      intro p sp zp zs zJ zsp
      have wp : Wd sp := by rw [zsp]; exact zw
      have h41 : st_I sp 143 5 = i_ (p : Int) := by rw [zsp]; exact st_sI _ _ _ _
      have k41 : st_I sp 143 4 = i_ (n : Int) := by rw [zsp, st_pI, if_neg (by omega)]; exact h4
      have xp : Tx_ sp B n := by rw [zsp]; exact tx_p zX _
      have xb := xp.2 p (by omega)
      have isD := c_isDigit (γ := γ) wp (z := B p) xb.2
      have nx : pt_I sp 143 5 (i_ ((p : Int) + 1)) = pt_I σ 143 5 (i_ ((p + 1 : Nat) : Int)) := by
        rw [zsp, pt_twice]
        rfl
      have e5 : (i_ (p : Int)).toNatClampNeg = p := by rw [i_cl (by omega), Int.toNat_natCast]
      have v600 : vp_in (i_ (p : Int)) 600 := i_in (by omega) (by omega) (by omega)
      refine g_X10_scanNumber_7 wp ?_
      unfold p_X10_scanNumber_7
      refine ⟨fun z => ?_, fun _ => ?_⟩
      · rw [h41, k41, i_le (by omega) (by omega)] at z
        omega
      rw [h41, e5, xb.1]
      refine ⟨v600, _, sp, wp, isD, ?_⟩
      by_cases y1 : isd_ (B p) = true
      · rw [if_pos y1]
        refine ⟨fun z => absurd z (by decide), fun _ => ?_⟩
        have zJ2 : J = ru_ (fun i => isd_ (B i)) k (p + 1) := by
          unfold ru_ at zJ
          rw [if_pos y1] at zJ
          exact zJ
        have y := ih (p + 1) (pt_I sp 143 5 (i_ ((p : Int) + 1))) (by omega) (by omega) zJ2 nx
        rw [h41, e5, xb.1]
        simp (disch := omega) only [i_lit, i_sub, i_add, i_mul, i_le]
        refine ⟨fun z => ?_, fun z => ⟨v600, ?_⟩⟩
        · rw [show nv_ B s (p + 1 - s) = nv_ B s (p - s) by
            unfold nv_
            rw [if_neg (by omega), if_neg (by omega), if_neg (by omega), if_neg (by omega)]] at y
          exact y
        · rw [show nv_ B s (p + 1 - s) = 10 * nv_ B s (p - s) + B p - 48 by
            unfold nv_
            by_cases z0 : p = s
            · rw [z0, if_neg (by omega), if_pos (by omega), if_pos (by omega)]
              omega
            · have z1 : p = s + 1 := by omega
              rw [z1, if_neg (by omega), if_neg (by omega), if_neg (by omega), if_pos (by omega)]
              omega] at y
          exact y
      · rw [if_neg y1]
        have zJ2 : J = p := by
          unfold ru_ at zJ
          rw [if_neg y1] at zJ
          exact zJ
        have f := fin sp (by rw [zJ2]; exact zsp)
        rw [show p - s = m by omega]
        exact ⟨fun _ => f, fun z => absurd rfl z⟩
  have es : pt_I σ 143 5 (i_ (s : Int)) = σ := by
    rw [← h5]
    exact pt_self _ _ _
  have y := key (n - s) s σ (by omega) (Nat.le_refl _) hJ es.symm
  rw [Nat.sub_self] at y
  exact y
/-- a token that begins at s: its end, sign, value -/
def tst_ (B : Nat → Int) (n s : Nat) : Nat := if isl_ (B s) = true then ru_ (fun i => ial_ (B i)) (n - s) s else if isd_ (B s) = true then ru_ (fun i => isd_ (B i)) (n - s) s else s + 1
def tsg_ (B : Nat → Int) (n s : Nat) : Nat := if isl_ (B s) = true then wsg_ B s (tst_ B n s - s) else if isd_ (B s) = true then (if 2 < tst_ B n s - s then 1 else 4) else kwi_ (bl_ B s 1) 1 21 0
def tvl_ (B : Nat → Int) (n s : Nat) : Int64 := if isl_ (B s) = true then wvl_ B s (tst_ B n s - s) else if isd_ (B s) = true then (i_ (nv_ B s (tst_ B n s - s))).toInt64 else -1
theorem kwi_21 (l : List Int32) (o : Nat) (ho : o < 21) : ∀ k c, k + c = 21 → kwi_ l o k c < 21
  | 0, c, _ => ho
  | k + 1, c, z => by
    unfold kwi_
    split
    · omega
    · exact kwi_21 l o ho k (c + 1) (by omega)
theorem tsg_21 (s : Nat) : tsg_ B n s < 21 := by
  unfold tsg_ wsg_
  split
  · split
    · decide
    · split
      · decide
      · exact kwi_21 _ 3 (by decide) 21 0 rfl
  · split
    · split <;> decide
    · exact kwi_21 _ 1 (by decide) 21 0 rfl
theorem tst_rg {s : Nat} (h : s < n) : s < tst_ B n s ∧ tst_ B n s ≤ n := by
  obtain ⟨k, hk⟩ : ∃ k, n - s = k + 1 := ⟨n - s - 1, by omega⟩
  unfold tst_
  split
  · next z =>
    rw [hk]
    have y := ru_rg (fun i => ial_ (B i)) k (s + 1)
    unfold ru_
    rw [if_pos (show ial_ (B s) = true by unfold ial_; rw [z]; rfl)]
    omega
  · split
    · next z =>
      rw [hk]
      have y := ru_rg (fun i => isd_ (B i)) k (s + 1)
      unfold ru_
      rw [if_pos z]
      omega
    · omega
theorem c_scanToken (zw : Wd σ) (zX : Tx_ σ B n) (h4 : st_I σ 143 4 = i_ (n : Int)) {s t : Nat} (h5 : st_I σ 143 5 = i_ (s : Int)) (hs : s < n) (ht : t ≤ 600) (hv : st_L σ 146 t = -1) : ∃ σ1, fn_ γ m_X10_scanToken 15 [.ref 143, .int (i_ (t : Int))] σ (.ref (tsg_ B n s)) σ1 ∧ Wd σ1 ∧
    st_I σ1 143 5 = i_ (tst_ B n s : Int) ∧ st_L σ1 146 t = tvl_ B n s ∧ sf_ t σ σ1 := by
  have hn := zX.1
  have xb := zX.2 s hs
  have isL := c_isLetter (γ := γ) zw (z := B s) xb.2
  have isD := c_isDigit (γ := γ) zw (z := B s) xb.2
  have e5 : (i_ (s : Int)).toNatClampNeg = s := by rw [i_cl (by omega), Int.toNat_natCast]
  have v600 : vp_in (i_ (s : Int)) 600 := i_in (by omega) (by omega) (by omega)
  have nle : ¬ i_ (n : Int) ≤ i_ (s : Int) := by
    rw [i_le (by omega) (by omega)]
    omega
  unfold tsg_ tvl_ tst_
  by_cases y1 : isl_ (B s) = true
  · rw [if_pos y1] at isL
    rw [if_pos y1, if_pos y1, if_pos y1]
    obtain ⟨σ1, a1, a2, a3, a4, a5⟩ := c_scanWord (γ := γ) zw zX h4 h5 (by omega) ht hv
    refine ⟨σ1, fn_q (fun Q zQ => e_X10_scanToken zw ?_), a2, a3, a4, a5⟩
    unfold p_X10_scanToken_0
    rw [h4, h5, e5, xb.1]
    exact ⟨fun z => absurd z nle, fun _ => ⟨v600, _, σ, zw, isL, fun z => absurd z (by decide), fun _ => ⟨_, σ1, a2, a1, zQ⟩⟩⟩
  · rw [if_neg y1] at isL
    rw [if_neg y1, if_neg y1, if_neg y1]
    by_cases y2 : isd_ (B s) = true
    · rw [if_pos y2] at isD
      rw [if_pos y2, if_pos y2, if_pos y2]
      obtain ⟨σ1, a1, a2, a3, a4, a5⟩ := c_scanNumber (γ := γ) zw zX h4 h5 (by omega) ht
      refine ⟨σ1, fn_q (fun Q zQ => e_X10_scanToken zw ?_), a2, a3, a4, a5⟩
      unfold p_X10_scanToken_0
      rw [h4, h5, e5, xb.1]
      refine ⟨fun z => absurd z nle, fun _ => ⟨v600, _, σ, zw, isL, fun _ => ?_, fun z => absurd rfl z⟩⟩
      rw [h4, h5, e5, xb.1]
      exact ⟨fun z => absurd z nle, fun _ => ⟨v600, _, σ, zw, isD, fun z => absurd z (by decide), fun _ => ⟨_, σ1, a2, a1, zQ⟩⟩⟩
    · rw [if_neg y2] at isD
      rw [if_neg y2, if_neg y2, if_neg y2]
      have w1 : Wd (pt_I σ 143 5 (i_ ((s + 1 : Nat) : Int))) := zw
      have cf := c_fixedSign (γ := γ) (B := B) (n := n) (s := s) (m := 1) w1 (tx_p zX _) (by rw [st_pI, if_neg (by omega)]; exact h4) (st_sI _ _ _ _) (by omega) 1
      refine ⟨pt_I σ 143 5 (i_ ((s + 1 : Nat) : Int)), fn_q (fun Q zQ => e_X10_scanToken zw ?_), w1, st_sI _ _ _ _, hv, sf_I⟩
      unfold p_X10_scanToken_0
      rw [h4, h5, e5, xb.1]
      refine ⟨fun z => absurd z nle, fun _ => ⟨v600, _, σ, zw, isL, fun _ => ?_, fun z => absurd rfl z⟩⟩
      rw [h4, h5, e5, xb.1]
      refine ⟨fun z => absurd z nle, fun _ => ⟨v600, _, σ, zw, isD, fun _ => ?_, fun z => absurd rfl z⟩⟩
      rw [h5, i_lit 1, i_add]
      exact ⟨_, _, w1, cf, zQ⟩
/-- where a token begins: the k-th -/
def tq_ (B : Nat → Int) (n : Nat) : Nat → Nat
  | 0 => ru_ (fun i => isb_ (B i)) n 0
  | k + 1 => if tq_ B n k < n then ru_ (fun i => isb_ (B i)) (n - tst_ B n (tq_ B n k)) (tst_ B n (tq_ B n k)) else tq_ B n k
theorem tq_le : ∀ k, tq_ B n k ≤ n
  | 0 => by
    have y := ru_rg (fun i => isb_ (B i)) n 0
    show ru_ (fun i => isb_ (B i)) n 0 ≤ n
    omega
  | k + 1 => by
    have ih := tq_le k
    show (if tq_ B n k < n then ru_ (fun i => isb_ (B i)) (n - tst_ B n (tq_ B n k)) (tst_ B n (tq_ B n k)) else tq_ B n k) ≤ n
    split
    · next z =>
      have y := tst_rg (B := B) z
      have y2 := ru_rg (fun i => isb_ (B i)) (n - tst_ B n (tq_ B n k)) (tst_ B n (tq_ B n k))
      omega
    · exact ih
theorem tq_ge : ∀ k, tq_ B n k = n ∨ k ≤ tq_ B n k
  | 0 => Or.inr (Nat.zero_le _)
  | k + 1 => by
    have ih := tq_ge k
    have le := tq_le (B := B) (n := n) k
    show (if tq_ B n k < n then ru_ (fun i => isb_ (B i)) (n - tst_ B n (tq_ B n k)) (tst_ B n (tq_ B n k)) else tq_ B n k) = n ∨ k + 1 ≤ (if tq_ B n k < n then ru_ (fun i => isb_ (B i)) (n - tst_ B n (tq_ B n k)) (tst_ B n (tq_ B n k)) else tq_ B n k)
    split
    · next z =>
      have y := tst_rg (B := B) z
      have y2 := ru_rg (fun i => isb_ (B i)) (n - tst_ B n (tq_ B n k)) (tst_ B n (tq_ B n k))
      omega
    · omega
/-- the tokens that the class keeps: those up to k -/
def Tok_ (σ : st_T) (B : Nat → Int) (n k : Nat) : Prop := ∀ t, t < k → (∀ u, u < t → tq_ B n u < n) → st_I σ 145 t = i_ (tq_ B n t : Int) ∧ st_R σ 144 t = some (if tq_ B n t < n then tsg_ B n (tq_ B n t) else 0) ∧ (tq_ B n t < n → st_L σ 146 t = tvl_ B n (tq_ B n t))
def pf2_ (σ σ1 : st_T) : Prop := (∀ a, a < 143 ∨ 146 < a → eh_ σ σ1 a) ∧ st_n σ1 = st_n σ ∧ st_c σ1 = st_c σ ∧ st_u σ1 = st_u σ
end SP
