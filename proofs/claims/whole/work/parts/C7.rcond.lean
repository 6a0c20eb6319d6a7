/-! the reference: conditions -/
section RV
variable {γ : ga_T} {σ s : st_T} {P : pq_T} {c b : Nat}
def b2_ (x : Bool) : Int32 := if x = true then 1 else 0
/-- the pile, its top first -/
def Pil_ (s : st_T) : List Bool → Prop
  | [] => True
  | x :: r => st_I s 211 r.length = b2_ x ∧ Pil_ s r
theorem pil_low : ∀ (r : List Bool) (n : Nat) (v : Int32), r.length ≤ n → Pil_ s r → Pil_ (pt_I s 211 n v) r
  | [], _, _, _, _ => trivial
  | x :: r, n, v, h, k => by
    rw [List.length_cons] at h
    exact ⟨by rw [st_pI, if_neg (by omega)]; exact k.1, pil_low r n v (by omega) k.2⟩
theorem pil_put {r : List Bool} (x : Bool) (h : Pil_ s r) : Pil_ (pt_I s 211 r.length (b2_ x)) (x :: r) := ⟨st_sI _ _ _ _, pil_low r _ _ (Nat.le_refl _) h⟩
theorem c_rdigits (zw : Wd s) {p : pr_T} (zN : Nr_ s p) : fn_ γ m_X12_digits 0 [.ref 185] s (.int (i_ ((2 * pT_ p + pL_ p : Nat) : Int))) s := fn_q (fun Q zQ => e_X12_digits zw (by
  unfold p_X12_digits_0
  rw [zN.2.2.1, zN.2.2.2.1, k2_, i_mul, i_add, show (2 : Int) * (pT_ p : Int) + (pL_ p : Int) = ((2 * pT_ p + pL_ p : Nat) : Int) by omega]
  exact zQ))
theorem c_rdigit (zw : Wd s) {p : pr_T} (zN : Nr_ s p) {d : Nat} (hc : c < 2147483648) (hd : d < 2 * pT_ p + pL_ p) : fn_ γ m_X12_digitOf 1 [.ref 185, .int (i_ (c : Int)), .int (i_ (d : Int))] s (.int (i_ ((c / 2 ^ (2 * (2 * pT_ p + pL_ p - 1 - d)) % 4 : Nat) : Int))) s := by
  have bT := zN.1.2.1
  have bL := zN.1.2.2.1
  refine fn_q (fun Q zQ => e_X12_digitOf zw ?_)
  unfold p_X12_digitOf_0
  refine ⟨_, s, zw, c_rdigits zw zN, ?_⟩
  have hD : 2 * pT_ p + pL_ p ≤ 11 := by omega
  generalize 2 * pT_ p + pL_ p = D at hd zQ hD ⊢
  rw [k1_, k2_, i_sub, i_sub, i_mul, show (2 : Int) * ((D : Int) - 1 - (d : Int)) = ((2 * (D - 1 - d) : Nat) : Int) by omega, show (31 : Int32) = i_ 31 from rfl, i_shr (by omega) (by omega), show (3 : Int32) = i_ ((3 : Nat) : Int) from rfl, i_and (Nat.lt_of_le_of_lt (Nat.div_le_self _ _) (by omega)) (by decide), n_a3]
  exact zQ
def dP_ (a _k : Nat) : Prop := a = 211
theorem rq_dP {s1 : st_T} (r : ro_ dP_ s s1) (h : Rq_ s P) : Rq_ s1 P := rq_cg (fun a k z => (r.2 a k (fun y => by unfold dP_ at y; omega)).1) h
theorem c_rholds (zw : Wd s) (h : Rq_ s P) {e : Nat} (zu : ug_ (cb_ P.1) P.2.2 0 e) (ze : e ≤ 1) (zc : c < 4194304) : ∃ s2, fn_ γ m_X12_holds 2 [.ref 185, .int (i_ (c : Int))] s (.int (b2_ (uf_ c P.2.2))) s2 ∧ ro_ dP_ s s2 := by
  have n1 := h.2.2.1
  have bT := h.1.1.2.1
  have bL := h.1.1.2.2.1
  have key : ∀ (rest pre : List Int) (X : List Bool) (s1 : st_T), P.2.2 = pre ++ rest → ug_ (cb_ P.1) rest X.length e → ro_ dP_ s s1 → Pil_ s1 X → (X = [] → st_I s1 211 0 = 1) → X.length ≤ pre.length → uf_ c P.2.2 = (rest.foldl (us_ c) (X ++ [true])).headD false →
      vv_ γ m_X12_holds 2 11 [(0, .ref 185), (1, .int (i_ (c : Int))), (2, .int (i_ (X.length : Int))), (3, .int (i_ (pre.length : Int)))] [] s1 (fun r q => ∃ v, r = .inl (some v) ∧ v = .int (b2_ (uf_ c P.2.2)) ∧ ro_ dP_ s q) := by
    intro rest
    induction rest with
    | nil =>
      intro pre X s1 e1 z r p x0 hl hu
      have w1 := ro_wd r zw
      have h1 := rq_dP r h
      rw [List.append_nil] at e1
      have z : X.length = e := z
      refine g_X12_holds_11 w1 ?_
      unfold p_X12_holds_11
      rw [h1.2.2.2.1, show P.2.2.length = pre.length by rw [e1]]
      refine ⟨fun _ => ?_, fun y => absurd (Int32.le_refl _) y⟩
      have fin : st_I s1 211 0 = b2_ (uf_ c P.2.2) := by
        rw [hu]
        cases X with
        | nil =>
          rw [x0 rfl]
          rfl
        | cons x t =>
          have t0 : t = [] := List.eq_nil_of_length_eq_zero (by rw [List.length_cons] at z; omega)
          subst t0
          exact p.1
      refine ⟨?_, _, rfl, by rw [fin], r⟩
      rw [fin]
      unfold b2_
      split
      · exact Or.inr rfl
      · exact Or.inl rfl
    | cons u t ih =>
      intro pre X s1 e1 z r p x0 hl hu
      have w1 := ro_wd r zw
      have h1 := rq_dP r h
      have hlen : pre.length < P.2.2.length := by
        rw [e1, List.length_append, List.length_cons]
        omega
      have hat : P.2.2[pre.length]? = some u := by
        rw [e1, List.getElem?_append_right (Nat.le_refl _), Nat.sub_self]
        rfl
      have tu := h1.2.2.2.2 _ _ hat
      have e2 : P.2.2 = (pre ++ [u]) ++ t := by
        rw [e1, List.append_assoc]
        rfl
      have lp : (pre ++ [u]).length = pre.length + 1 := List.length_append
      have hu2 : uf_ c P.2.2 = (t.foldl (us_ c) (us_ c (X ++ [true]) u)).headD false := hu
      have go : ∀ (X2 : List Bool) (s2 : st_T), us_ c (X ++ [true]) u = X2 ++ [true] → ug_ (cb_ P.1) t X2.length e → ro_ dP_ s s2 → Pil_ s2 X2 → X2 ≠ [] → X2.length ≤ pre.length + 1 →
          vv_ γ m_X12_holds 2 11 [(0, .ref 185), (1, .int (i_ (c : Int))), (2, .int (i_ (X2.length : Int))), (3, .int (i_ (pre.length : Int) + 1))] [] s2 (fun r q => ∃ v, r = .inl (some v) ∧ v = .int (b2_ (uf_ c P.2.2)) ∧ ro_ dP_ s q) := fun X2 s2 g1 g2 g3 g4 g5 g6 => by
        have y := ih (pre ++ [u]) X2 s2 e2 g2 g3 g4 (fun y => absurd y g5) (by rw [lp]; exact g6) (by rw [hu2, g1])
        rw [lp, show ((pre.length + 1 : Nat) : Int) = (pre.length : Int) + 1 by omega, ← i_add, ← i_lit 1] at y
        exact y
      have rp : ∀ {k : Nat} {v : Int32}, ro_ dP_ s (pt_I s1 211 k v) := fun {k v} => ro_I r rfl
      refine g_X12_holds_11 w1 ?_
      unfold p_X12_holds_11
      rw [h1.2.2.2.1, i_cl (a := (pre.length : Int)) (by omega), Int.toNat_natCast, tu]
      refine ⟨fun y => ?_, fun _ => ⟨i_in (by omega) (by omega) (by omega), ?_⟩⟩
      · rw [i_le (by omega) (by omega)] at y
        omega
      · have m3 : (-3 : Int32) = i_ (-3) := by decide
        have m1 : (-1 : Int32) = i_ (-1) := by decide
        rw [m3, m1]
        rcases z with ⟨rfl, z1, z2⟩ | ⟨z0, z1, z2⟩ | ⟨z0, z1, z3, z2⟩
        · -- not
          obtain ⟨x, X', rfl⟩ : ∃ x X', X = x :: X' := by
            cases X with
            | nil => exact absurd z1 (by decide)
            | cons x X' => exact ⟨x, X', rfl⟩
          have ex : i_ (((x :: X').length : Nat) : Int) - (1 : Int32) = i_ (X'.length : Int) := by
            rw [k1_, i_sub, List.length_cons]
            exact congrArg i_ (by omega)
          rw [List.length_cons] at hl
          have g := go ((!x) :: X') (pt_I s1 211 X'.length (b2_ (!x))) us_c1 z2 rp (pil_put _ p.2) (fun y => by cases y) (by rw [List.length_cons]; omega)
          refine ⟨fun _ => ?_, fun y => absurd rfl y⟩
          rw [ex, i_cl (a := (X'.length : Int)) (by omega), Int.toNat_natCast, p.1]
          refine ⟨i_in (by omega) (by omega) (by omega), fun y => ⟨i_in (by omega) (by omega) (by omega), ?_⟩, fun y => ⟨i_in (by omega) (by omega) (by omega), ?_⟩⟩
          · cases x with
            | true => exact absurd y (by decide)
            | false => exact g
          · cases x with
            | true => exact g
            | false => exact absurd rfl y
        · -- and, or
          obtain ⟨x, w, X', rfl⟩ : ∃ x w X', X = x :: w :: X' := by
            cases X with
            | nil => exact absurd z1 (by decide)
            | cons x X' =>
              cases X' with
              | nil => exact absurd z1 (by rw [List.length_singleton]; decide)
              | cons w X' => exact ⟨x, w, X', rfl⟩
          have ex : i_ (((x :: w :: X').length : Nat) : Int) + i_ (-1) = i_ ((X'.length + 1 : Nat) : Int) := by
            rw [i_add, List.length_cons, List.length_cons]
            exact congrArg i_ (by omega)
          have ex2 : i_ ((X'.length + 1 : Nat) : Int) - (1 : Int32) = i_ (X'.length : Int) := by
            rw [k1_, i_sub]
            exact congrArg i_ (by omega)
          rw [List.length_cons, List.length_cons] at hl
          have p2 : st_I s1 211 (X'.length + 1) = b2_ x := p.1
          have p3 : st_I s1 211 X'.length = b2_ w := p.2.1
          have z2 : ug_ (cb_ P.1) t (X'.length + 1) e := z2
          have go2 : ∀ v : Bool, us_ c ((x :: w :: X') ++ [true]) u = (v :: X') ++ [true] → vv_ γ m_X12_holds 2 11 [(0, .ref 185), (1, .int (i_ (c : Int))), (2, .int (i_ ((X'.length + 1 : Nat) : Int))), (3, .int (i_ (pre.length : Int) + 1))] [] (pt_I s1 211 X'.length (b2_ v)) (fun r q => ∃ v, r = .inl (some v) ∧ v = .int (b2_ (uf_ c P.2.2)) ∧ ro_ dP_ s q) := fun v hv =>
            go (v :: X') (pt_I s1 211 X'.length (b2_ v)) hv z2 rp (pil_put _ p.2.2) (fun y => by cases y) (by rw [List.length_cons]; omega)
          have va : vp_in (i_ (X'.length : Int)) 40 := i_in (by omega) (by omega) (by omega)
          have vb : vp_in (i_ ((X'.length + 1 : Nat) : Int)) 40 := i_in (by omega) (by omega) (by omega)
          rw [ex, ex2, i_cl (a := (X'.length : Int)) (by omega), i_cl (a := ((X'.length + 1 : Nat) : Int)) (by omega), Int.toNat_natCast, Int.toNat_natCast, p2, p3]
          have b0 : ∀ v : Bool, b2_ v = (0 : Int32) → v = false := fun v y => by
            cases v with
            | false => rfl
            | true => exact absurd y (by decide)
          have b1 : ∀ v : Bool, ¬ b2_ v = (0 : Int32) → v = true := fun v y => by
            cases v with
            | false => exact absurd rfl y
            | true => rfl
          rcases z0 with rfl | rfl
          · -- and
            have t1 : tru_ (2 * pT_ P.1 + pL_ P.1) (-2) = -1 := rfl
            rw [t1, k0_, i_eq (by omega) (by omega), i_le (by omega) (by omega)]
            refine ⟨fun y => by omega, fun _ => ⟨fun y => by omega, fun _ => ⟨fun _ => ⟨va, fun y => ⟨va, ?_⟩, fun y => ⟨vb, fun y2 => ⟨va, ?_⟩, fun y2 => ⟨va, ?_⟩⟩⟩, fun y => absurd rfl y⟩⟩⟩
            · exact go2 false (by rw [List.cons_append, List.cons_append, us_c2, b0 w y]; rfl)
            · exact go2 false (by rw [List.cons_append, List.cons_append, us_c2, b0 x y2, Bool.and_false]; rfl)
            · exact go2 true (by rw [List.cons_append, List.cons_append, us_c2, b1 w y, b1 x y2]; rfl)
          · -- or
            have t1 : tru_ (2 * pT_ P.1 + pL_ P.1) (-3) = -2 := rfl
            rw [t1, k0_, i_eq (by omega) (by omega), i_eq (by omega) (by omega), i_le (by omega) (by omega)]
            refine ⟨fun y => by omega, fun _ => ⟨fun y => by omega, fun _ => ⟨fun y => by omega, fun _ => ⟨va, fun y => ⟨vb, fun y2 => ⟨va, ?_⟩, fun y2 => ⟨va, ?_⟩⟩, fun y => ⟨va, ?_⟩⟩⟩⟩⟩
            · exact go2 false (by rw [List.cons_append, List.cons_append, us_c3, b0 w y, b0 x y2]; rfl)
            · exact go2 true (by rw [List.cons_append, List.cons_append, us_c3, b1 x y2, Bool.or_true]; rfl)
            · exact go2 true (by rw [List.cons_append, List.cons_append, us_c3, b1 w y, Bool.true_or]; rfl)
        · -- a comparison
          obtain ⟨n, rfl⟩ : ∃ n : Nat, u = n := ⟨u.toNat, by omega⟩
          rw [Int.toNat_natCast] at z1 z3
          unfold cb_ at z1
          have hD : 2 * pT_ P.1 + pL_ P.1 ≤ 11 := by omega
          have hd : n / 16 < 2 * pT_ P.1 + pL_ P.1 := by omega
          have t1 : tru_ (2 * pT_ P.1 + pL_ P.1) (n : Int) = ((8 * (2 * pT_ P.1 + pL_ P.1 - 1 - n / 16) + n % 8 : Nat) : Int) := by
            unfold tru_
            rw [if_neg (by omega), if_neg (by omega), if_neg (by omega)]
            omega
          have dg := c_rdigit (γ := γ) (c := c) w1 h1.1 (d := 2 * pT_ P.1 + pL_ P.1 - 1 - n / 16) (by omega) (by omega)
          rw [show 2 * (2 * pT_ P.1 + pL_ P.1 - 1 - (2 * pT_ P.1 + pL_ P.1 - 1 - n / 16)) = n / 8 by omega] at dg
          have uc : us_ c (X ++ [true]) (n : Int) = (uc_ c (n : Int) :: X) ++ [true] := us_c0 (by omega)
          have g : ∀ v : Bool, uc_ c (n : Int) = v → vv_ γ m_X12_holds 2 11 [(0, .ref 185), (1, .int (i_ (c : Int))), (2, .int (i_ (X.length : Int) + 1)), (3, .int (i_ (pre.length : Int) + 1))] [] (pt_I s1 211 X.length (b2_ v)) (fun r q => ∃ v, r = .inl (some v) ∧ v = .int (b2_ (uf_ c P.2.2)) ∧ ro_ dP_ s q) := fun v hv => by
            have y := go (v :: X) (pt_I s1 211 X.length (b2_ v)) (by rw [uc, hv]) z2 rp (pil_put _ p) (fun y => by cases y) (by rw [List.length_cons]; omega)
            rw [List.length_cons, show ((X.length + 1 : Nat) : Int) = (X.length : Int) + 1 by omega, ← i_add, ← i_lit 1] at y
            exact y
          have vl : vp_in (i_ (X.length : Int)) 40 := i_in (by omega) (by omega) (by omega)
          have v4 := Nat.mod_lt (c / 2 ^ (n / 8)) (show 0 < 4 by decide)
          have uce : uc_ c (n : Int) = if n / 4 % 2 = 0 then decide (c / 2 ^ (n / 8) % 4 = n % 4) else decide (c / 2 ^ (n / 8) % 4 < n % 4) := by
            unfold uc_
            rw [Int.toNat_natCast]
          rw [t1]
          generalize hT : 8 * (2 * pT_ P.1 + pL_ P.1 - 1 - n / 16) + n % 8 = T
          have hT8 : T / 8 = 2 * pT_ P.1 + pL_ P.1 - 1 - n / 16 := by omega
          have hT4 : T / 4 % 2 = n / 4 % 2 := by omega
          have hTm : T % 4 = n % 4 := by omega
          have hTl : T < 100 := by omega
          rw [← hT8] at dg
          generalize c / 2 ^ (n / 8) % 4 = V at dg v4 uce
          have d8 : i_ (T : Int) / (8 : Int32) = i_ ((T / 8 : Nat) : Int) := i_div (k := 8) (by omega) (by decide)
          have d4 : i_ (T : Int) / (4 : Int32) = i_ ((T / 4 : Nat) : Int) := i_div (k := 4) (by omega) (by decide)
          have d2 : i_ ((T / 4 : Nat) : Int) / (2 : Int32) = i_ ((T / 4 / 2 : Nat) : Int) := i_div (k := 2) (by omega) (by decide)
          have em : i_ ((T / 4 : Nat) : Int) - i_ ((T / 4 / 2 : Nat) : Int) * (2 : Int32) = i_ ((n / 4 % 2 : Nat) : Int) := by
            rw [k2_, i_mul, i_sub]
            exact congrArg i_ (by omega)
          have em2 : i_ (T : Int) - i_ ((T / 4 : Nat) : Int) * (4 : Int32) = i_ ((n % 4 : Nat) : Int) := by
            rw [k4_, i_mul, i_sub]
            exact congrArg i_ (by omega)
          rw [d8, d4, d2, em, em2, k0_, i_eq (by omega) (by omega), i_le (by omega) (by omega)]
          refine ⟨fun y => by omega, fun _ => ⟨fun _ => ⟨_, s1, w1, dg, ?_⟩, fun y => by omega⟩⟩
          rw [i_cl (a := (X.length : Int)) (by omega), Int.toNat_natCast, k1_, i_eq (by omega) (by omega), i_le (by omega) (by omega), i_eq (by omega) (by omega)]
          refine ⟨fun y => ⟨fun y2 => ⟨vl, ?_⟩, fun y2 => ⟨vl, ?_⟩⟩, fun y => ⟨fun y2 => ⟨vl, ?_⟩, fun y2 => ⟨vl, ?_⟩⟩⟩
          · exact g false (by rw [uce, if_neg (by omega)]; exact decide_eq_false (by omega))
          · exact g true (by rw [uce, if_neg (by omega)]; exact decide_eq_true (by omega))
          · exact g true (by rw [uce, if_pos (by omega)]; exact decide_eq_true (by omega))
          · exact g false (by rw [uce, if_pos (by omega)]; exact decide_eq_false (by omega))
  have r0 : ro_ dP_ s (pt_I s 211 0 (1 : Int32)) := ro_I ro_rf rfl
  have z := key P.2.2 [] [] (pt_I s 211 0 (1 : Int32)) rfl zu r0 trivial (fun _ => st_sI _ _ _ _) (Nat.le_refl _) rfl
  have key2 : sp_ γ m_X12_holds 2 [.ref 185, .int (i_ (c : Int))] s (fun r q => ∃ v, r = .inl (some v) ∧ v = .int (b2_ (uf_ c P.2.2)) ∧ ro_ dP_ s q) := by
    refine e_X12_holds zw ?_
    unfold p_X12_holds_0
    exact z
  obtain ⟨v, s2, f1, rfl, f2⟩ := fn_of key2
  exact ⟨s2, f1, f2⟩
end RV
