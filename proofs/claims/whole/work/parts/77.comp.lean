/-! the class's parser: a comparison -/
section CP
variable {γ : ga_T} {σ σ1 : st_T} {B : Nat → Int} {n k : Nat}
theorem c_comparison (zw : Wd σ) {s : Nat} (hs : s ≤ 40) {b : Bool} {z : Nat} (hz : z ≤ 3) : fn_ γ m_X7_comparison 0 [.int (i_ (s : Int)), .int (i_ (if b = true then 1 else 0)), .int (i_ (z : Int))] σ (.int (i_ ((8 * s + (if b = true then 4 else 0) + z : Nat) : Int))) σ := fn_q (fun Q zQ => e_X7_comparison (a := 137) (Or.inr rfl) zw (by
  have key : ∀ c : Nat, (c = 0 ∨ c = 4) → ((i_ (s : Int) <<< ((3 : Int32) &&& 31)) ||| i_ (c : Int)) ||| i_ (z : Int) = i_ ((8 * s + c + z : Nat) : Int) := by
    intro c hc
    rw [i_lit 3, i_lit 31, show i_ (OfNat.ofNat 3) = i_ ((3 : Nat) : Int) from rfl, show i_ (OfNat.ofNat 31) = i_ 31 from rfl, i_shl (by decide) (by omega), i_or (by omega) (by omega), i_or (Nat.or_lt_two_pow (by omega) (by omega)) (by omega)]
    congr 2
    have e1 : s * 2 ^ 3 ||| c = 2 ^ 3 * s + c := by
      rw [Nat.mul_comm]
      exact (Nat.two_pow_add_eq_or_of_lt (by omega) s).symm
    have e2 : (2 ^ 3 * s + c) ||| z = 2 ^ 3 * s + c + z := by
      rcases hc with rfl | rfl
      · rw [Nat.add_zero]
        exact (Nat.two_pow_add_eq_or_of_lt (by omega) s).symm
      · rw [show 2 ^ 3 * s + 4 = 2 ^ 2 * (2 * s + 1) by omega]
        exact (Nat.two_pow_add_eq_or_of_lt (by omega) (2 * s + 1)).symm
    rw [e1, e2]
  unfold p_X7_comparison_0
  cases b with
  | false =>
    refine ⟨fun _ => ?_, fun z => absurd rfl z⟩
    have y := key 0 (Or.inl rfl)
    rw [show i_ ((0 : Nat) : Int) = (0 : Int32) from rfl] at y
    rw [y]
    exact zQ
  | true =>
    refine ⟨fun z => absurd z (by decide), fun _ => ?_⟩
    have y := key 4 (Or.inr rfl)
    rw [show i_ ((4 : Nat) : Int) = (4 : Int32) from rfl] at y
    rw [y]
    exact zQ))
/-- the end of a comparison: the sign, the number -/
def cmt_ (B : Nat → Int) (n : Nat) (s : Nat) (S : qs_T) : qs_T ⊕ Nat :=
  match xp_ B n (if csg_ B n S.1 = 18 then 18 else 17) S with
  | .inr e => .inr e
  | .inl S2 => match vl_ B n S2 with
    | .inr e => .inr e
    | .inl S3 => .inl (S3.1 + 1, pac_ S3.2.1 ((8 * s + (if csg_ B n S.1 = 18 then 4 else 0) + (tnu_ B n S3.1).toNat : Nat) : Int), S3.2.2)
def cmp_ (B : Nat → Int) (n : Nat) (S : qs_T) : qs_T ⊕ Nat :=
  if csg_ B n S.1 = 3 then cmt_ B n (2 * ((pL_ S.2.1.1 : Int) - 1 - lnm_ S.2.1 (tby_ B n S.1))).toNat (S.1 + 1, S.2)
  else match xp_ B n 16 (S.1 + 1, S.2) with
    | .inr e => .inr e
    | .inl S2 => if csg_ B n S2.1 ≠ 2 then .inr (er_ B n S2.1 1)
      else if itg_ S.2.1.1 (tnu_ B n S.1) (tnu_ B n S2.1) = true then cmt_ B n ((cb_ S.2.1.1 : Int) - 2 * (2 * tnu_ B n S.1 + tnu_ B n S2.1 + 1)).toNat (S2.1 + 1, S2.2)
      else .inr (er_ B n S2.1 4)
theorem xp_S {c : Nat} {S S2 : qs_T} (h : xp_ B n c S = .inl S2) : csg_ B n S.1 = c ∧ S2 = (S.1 + 1, S.2) := by
  unfold xp_ at h
  by_cases y : csg_ B n S.1 = c
  · rw [if_pos y] at h
    exact ⟨y, (Sum.inl.inj h).symm⟩
  · rw [if_neg y] at h
    cases h
theorem l_ctail {S : qs_T} {s0 : st_T} (h : Pc_ s0 B n S) (hf : yf_ σ s0) (hC : S.2.1.2.2.length < 31) {s : Nat} (hs : s ≤ 40) {r : qs_T ⊕ Nat} (hr : r = cmt_ B n s S) {b : Bool} (hb : b = decide (csg_ B n S.1 = 18)) {c : Nat} (hc : c = if csg_ B n S.1 = 18 then 18 else 17) :
    ∃ (v24 : Int32) (s22 : st_T), Wd s22 ∧ fn_ γ m_X6_expect 2 [.ref 142, .ref c] s0 (.int v24) s22 ∧
      (v24 = (0 : Int32) → PQ_ σ B n r (.inl (some (.int (0 : Int32)))) s22) ∧ (¬ v24 = (0 : Int32) →
        ∃ (v28 : Int32) (s26 : st_T), Wd s26 ∧ fn_ γ m_X6_isValue 2 [.ref 142] s22 (.int v28) s26 ∧
        (v28 = (0 : Int32) → PQ_ σ B n r (.inl (some (.int (0 : Int32)))) s26) ∧ (¬ v28 = (0 : Int32) →
          ∃ (v32 : Int32) (s30 : st_T), Wd s30 ∧ fn_ γ m_X10_number 1 [.ref 143] s26 (.int v32) s30 ∧
          ∃ (v35 : Int32) (s33 : st_T), Wd s33 ∧ fn_ γ m_X7_comparison 0 [.int (i_ (s : Int)), .int (i_ (if b = true then 1 else 0)), .int v32] s30 (.int v35) s33 ∧
          ∃ s36, Wd s36 ∧ fw_ γ m_X7_addToCondition 0 [.ref 137, .int v35] s33 s36 ∧
          ∃ s38, Wd s38 ∧ fw_ γ m_X10_advance 1 [.ref 143] s36 s38 ∧ PQ_ σ B n r (.inl (some (.int (1 : Int32)))) s38)) := by
  have hc2 : 0 < c ∧ c < 21 := by
    rw [hc]
    split <;> decide
  obtain ⟨v, s1, a1, a2, ⟨a3, a4⟩, -⟩ := c_expect (γ := γ) h hc2
  refine ⟨v, s1, a2, a1, ?_⟩
  unfold cmt_ at hr
  rw [hc] at a4
  rcases a4 with ⟨rfl, S2, b1, b2⟩ | ⟨rfl, e, b1, b2, b3⟩
  · rw [b1] at hr
    have e2 : S2.2 = S.2 := by rw [(xp_S b1).2]
    refine ⟨fun z => absurd z (by decide), fun _ => ?_⟩
    obtain ⟨v, s3, c1, c2, ⟨c3, c4⟩, -⟩ := c_isValue (γ := γ) b2
    refine ⟨v, s3, c2, c1, ?_⟩
    have hr : r = match vl_ B n S2 with
      | .inr e => .inr e
      | .inl S3 => .inl (S3.1 + 1, pac_ S3.2.1 ((8 * s + (if csg_ B n S.1 = 18 then 4 else 0) + (tnu_ B n S3.1).toNat : Nat) : Int), S3.2.2) := hr
    rcases c4 with ⟨rfl, S3, d1, d2⟩ | ⟨rfl, e, d1, d2, d3⟩
    · obtain ⟨rfl, g1, g2⟩ := vl_inl d1
      rw [d1] at hr
      have hr : r = .inl (S3.1 + 1, pac_ S3.2.1 ((8 * s + (if csg_ B n S.1 = 18 then 4 else 0) + (tnu_ B n S3.1).toNat : Nat) : Int), S3.2.2) := hr
      refine ⟨fun z => absurd z (by decide), fun _ => ?_⟩
      obtain ⟨nu, nu2, -⟩ := c_num4 (γ := γ) c2 d2.2.1 g1
      obtain ⟨z, hz⟩ : ∃ z : Nat, tnu_ B n S3.1 = z := ⟨(tnu_ B n S3.1).toNat, by omega⟩
      rw [hz] at nu g2
      rw [hz, Int.toNat_natCast] at hr
      have cp := c_comparison (γ := γ) c2 hs (b := b) (z := z) (by omega)
      obtain ⟨s4, i1, i2, i3, i4⟩ := c_addCond (γ := γ) (Or.inr rfl) c2 d2.2.2.1 (by rw [e2]; exact hC) ((8 * s + (if b = true then 4 else 0) + z : Nat) : Int)
      obtain ⟨j1, j2, -⟩ := pc_gq d2 i2 i4 i3 d2.2.2.2.1
      obtain ⟨s5, k1, k2, k3, k4, -⟩ := pc_adv (γ := γ) j1 (by show csg_ B n S3.1 ≠ 0; omega)
      refine ⟨_, s3, c2, nu, _, s3, c2, cp, s4, i2, i1, s5, k2, k1, _, rfl, _, rfl, k2, yf_tr (yf_tr (yf_tr (yf_tr hf a3) c3) j2) k4, Or.inl ⟨rfl, _, ?_, k3⟩⟩
      rw [hr, hb]
      by_cases y : csg_ B n S.1 = 18
      · rw [decide_eq_true y, if_pos y, if_pos rfl]
      · rw [decide_eq_false y, if_neg y, if_neg (by decide)]
    · rw [d1] at hr
      exact ⟨fun _ => ⟨_, rfl, _, rfl, c2, yf_tr (yf_tr hf a3) c3, Or.inr ⟨rfl, e, hr, d2, d3⟩⟩, fun z => absurd rfl z⟩
  · rw [b1] at hr
    exact ⟨fun _ => ⟨_, rfl, _, rfl, a2, yf_tr hf a3, Or.inr ⟨rfl, e, hr, b2, b3⟩⟩, fun z => absurd rfl z⟩
theorem c_rcomp {S : qs_T} (h : Pc_ σ B n S) (hC : S.2.1.2.2.length < 31) (hs : (csg_ B n S.1 = 3 ∧ lnm_ S.2.1 (tby_ B n S.1) ≠ -1) ∨ (csg_ B n S.1 = 4 ∧ tnu_ B n S.1 < pT_ S.2.1.1)) : ∃ v s, fn_ γ m_X6_readComparison 3 [.ref 142] σ (.int v) s ∧ Wd s ∧ Po_ σ B n (cmp_ B n S) v s := by
  have b2 := h.2.2.1.1.1.2.1
  have b3 := h.2.2.1.1.1.2.2.1
  suffices key : sp_ γ m_X6_readComparison 3 [.ref 142] σ (PQ_ σ B n (cmp_ B n S)) by
    obtain ⟨v, s, y1, b, rfl, y2, y3⟩ := fn_of key
    exact ⟨b, s, y1, y2, y3⟩
  refine e_X6_readComparison h.1 ?_
  unfold p_X6_readComparison_0
  obtain ⟨s1, d1, d2, d3, d4, -⟩ := pc_adv (γ := γ) h (by omega)
  rcases hs with ⟨y1, y2⟩ | ⟨y1, y2⟩
  · obtain ⟨t1, t2⟩ := csg_3 y1
    have nm := c_name (γ := γ) h.1 h.2.1 (csg_n (by rw [y1]; decide))
    rw [t1] at nm
    have ln := c_named (γ := γ) (Or.inr rfl) h.1 h.2.2.1 h.2.2.2.1 t2
    have lr : lnm_ S.2.1 (tby_ B n S.1) = -1 ∨ (((0 : Nat) : Int) ≤ lnm_ S.2.1 (tby_ B n S.1) ∧ lnm_ S.2.1 (tby_ B n S.1) < (0 + pL_ S.2.1.1 : Nat)) := pl_rg (fun i => decide (S.2.1.2.1 i = tby_ B n S.1)) (pL_ S.2.1.1) 0 0
    have ls := c_locationShift (γ := γ) (l := lnm_ S.2.1 (tby_ B n S.1)) (Or.inr rfl) h.1 h.2.2.1.1
    obtain ⟨sh, hsh⟩ : ∃ sh : Nat, 2 * ((pL_ S.2.1.1 : Int) - 1 - lnm_ S.2.1 (tby_ B n S.1)) = sh := ⟨(2 * ((pL_ S.2.1.1 : Int) - 1 - lnm_ S.2.1 (tby_ B n S.1))).toNat, by omega⟩
    rw [hsh] at ls
    have ex : cmp_ B n S = cmt_ B n sh (S.1 + 1, S.2) := by
      unfold cmp_
      rw [if_pos y1, hsh, Int.toNat_natCast]
    refine ⟨_, σ, h.1, c_sign h.1 h.2.1, csg_21, fun _ => ⟨_, σ, h.1, nm, _, σ, h.1, ln, _, σ, h.1, ls, s1, d2, d1, _, s1, d2, c_sign d2 d3.2.1, csg_21, fun z => ?_, fun z => ?_⟩, fun z => absurd y1 z⟩
    · exact l_ctail d3 d4 hC (by omega) ex (b := true) (by rw [decide_eq_true z]) (c := 18) (by rw [if_pos z])
    · exact l_ctail d3 d4 hC (by omega) ex (b := false) (by rw [decide_eq_false z]) (c := 17) (by rw [if_neg z])
  · obtain ⟨nu, nu2, -⟩ := c_num4 (γ := γ) h.1 h.2.1 y1
    obtain ⟨th, hth⟩ : ∃ th : Nat, tnu_ B n S.1 = th := ⟨(tnu_ B n S.1).toNat, by omega⟩
    have y3 : ¬ csg_ B n S.1 = 3 := by omega
    have ex : cmp_ B n S = match xp_ B n 16 (S.1 + 1, S.2) with
      | .inr e => .inr e
      | .inl S2 => if csg_ B n S2.1 ≠ 2 then .inr (er_ B n S2.1 1)
        else if itg_ S.2.1.1 th (tnu_ B n S2.1) = true then cmt_ B n ((cb_ S.2.1.1 : Int) - 2 * (2 * th + tnu_ B n S2.1 + 1)).toNat (S2.1 + 1, S2.2)
        else .inr (er_ B n S2.1 4) := by
      unfold cmp_
      rw [if_neg y3, hth]
    rw [hth] at nu
    obtain ⟨v, s2, e1, e2, ⟨e3, e4⟩, -⟩ := c_expect (γ := γ) d3 (c := 16) (by decide)
    refine ⟨_, σ, h.1, c_sign h.1 h.2.1, csg_21, fun z => absurd z y3, fun _ => ⟨_, σ, h.1, nu, s1, d2, d1, v, s2, e2, e1, ?_⟩⟩
    rcases e4 with ⟨rfl, S2, f1, f2⟩ | ⟨rfl, e, f1, f2, f3⟩
    · have eS : S2.2 = S.2 := by
        unfold xp_ at f1
        split at f1
        · rw [← Sum.inl.inj f1]
        · cases f1
      rw [f1] at ex
      have ex : cmp_ B n S = if csg_ B n S2.1 ≠ 2 then .inr (er_ B n S2.1 1)
        else if itg_ S.2.1.1 th (tnu_ B n S2.1) = true then cmt_ B n ((cb_ S.2.1.1 : Int) - 2 * (2 * th + tnu_ B n S2.1 + 1)).toNat (S2.1 + 1, S2.2)
        else .inr (er_ B n S2.1 4) := ex
      refine ⟨fun z => absurd z (by decide), fun _ => ?_⟩
      by_cases z1 : csg_ B n S2.1 = 2
      · rw [if_neg (fun z => z z1)] at ex
        obtain ⟨-, -, g3, -⟩ := csg_2 z1
        have nr := c_num2 (γ := γ) e2 f2.2.1 z1
        have it := c_isTarget (γ := γ) (t := th) (r := tnu_ B n S2.1) (Or.inr rfl) e2 f2.2.2.1.1 (by omega) (by omega)
        by_cases z2 : itg_ S.2.1.1 th (tnu_ B n S2.1) = true
        · rw [if_pos z2] at ex
          have z2b : an_ (fun i => decide (pp_ S2.2.1.1 i 0 = (th : Int) ∧ pp_ S2.2.1.1 i 3 = tnu_ B n S2.1)) (pN_ S2.2.1.1) = true := by
            rw [eS]
            exact z2
          rw [if_pos z2b] at it
          have to : fn_ γ m_X6_isTargetOf 2 [.ref 142, .int (i_ (th : Int))] s2 (.int (i_ 1)) s2 := fn_q (fun Q zQ => e_X6_isTargetOf e2 (by
            unfold p_X6_isTargetOf_0
            exact ⟨_, s2, e2, c_sign e2 f2.2.1, csg_21, fun _ => ⟨_, s2, e2, nr, _, s2, e2, it, fun z => absurd z (by decide), fun _ => zQ⟩, fun z => absurd z1 z⟩))
          have rs := c_registerShift (γ := γ) (t := th) (r := tnu_ B n S2.1) (Or.inr rfl) e2 f2.2.2.1.1
          have hcb : cb_ S2.2.1.1 = cb_ S.2.1.1 := by rw [eS]
          rw [hcb] at rs
          have ecb : cb_ S.2.1.1 = 2 * (2 * pT_ S.2.1.1 + pL_ S.2.1.1) := rfl
          obtain ⟨sh, hsh⟩ : ∃ sh : Nat, (cb_ S.2.1.1 : Int) - 2 * (2 * (th : Int) + tnu_ B n S2.1 + 1) = sh := ⟨((cb_ S.2.1.1 : Int) - 2 * (2 * (th : Int) + tnu_ B n S2.1 + 1)).toNat, by omega⟩
          rw [hsh] at rs
          rw [hsh, Int.toNat_natCast] at ex
          obtain ⟨s3, i1, i2, i3, i4, -⟩ := pc_adv (γ := γ) f2 (by omega)
          refine ⟨_, s2, e2, to, fun z => absurd z (by decide), fun _ => ⟨_, s2, e2, nr, _, s2, e2, rs, s3, i2, i1, _, s3, i2, c_sign i2 i3.2.1, csg_21, fun z => ?_, fun z => ?_⟩⟩
          · exact l_ctail i3 (yf_tr (yf_tr d4 e3) i4) (by show S2.2.1.2.2.length < 31; rw [eS]; exact hC) (by omega) ex (b := true) (by rw [decide_eq_true z]) (c := 18) (by rw [if_pos z])
          · exact l_ctail i3 (yf_tr (yf_tr d4 e3) i4) (by show S2.2.1.2.2.length < 31; rw [eS]; exact hC) (by omega) ex (b := false) (by rw [decide_eq_false z]) (c := 17) (by rw [if_neg z])
        · rw [if_neg z2] at ex
          have z2b : ¬ an_ (fun i => decide (pp_ S2.2.1.1 i 0 = (th : Int) ∧ pp_ S2.2.1.1 i 3 = tnu_ B n S2.1)) (pN_ S2.2.1.1) = true := by
            rw [eS]
            exact z2
          rw [if_neg z2b] at it
          obtain ⟨s3, i1, i2, ⟨i3, i4⟩, -⟩ := c_fail (γ := γ) f2 4
          have to : fn_ γ m_X6_isTargetOf 2 [.ref 142, .int (i_ (th : Int))] s2 (.int (i_ 0)) s3 := fn_q (fun Q zQ => e_X6_isTargetOf e2 (by
            unfold p_X6_isTargetOf_0
            exact ⟨_, s2, e2, c_sign e2 f2.2.1, csg_21, fun _ => ⟨_, s2, e2, nr, _, s2, e2, it, fun _ => ⟨_, s3, i2, i1, fun _ => zQ, fun z => absurd rfl z⟩, fun z => absurd rfl z⟩, fun z => absurd z1 z⟩))
          refine ⟨_, s3, i2, to, fun _ => ⟨_, rfl, _, rfl, i2, ?_⟩, fun z => absurd rfl z⟩
          rw [ex]
          exact ⟨yf_tr (yf_tr d4 e3) i3, i4⟩
      · rw [if_pos z1] at ex
        obtain ⟨s3, i1, i2, ⟨i3, i4⟩, -⟩ := c_fail (γ := γ) f2 1
        have to : fn_ γ m_X6_isTargetOf 2 [.ref 142, .int (i_ (th : Int))] s2 (.int (i_ 0)) s3 := fn_q (fun Q zQ => e_X6_isTargetOf e2 (by
          unfold p_X6_isTargetOf_0
          exact ⟨_, s2, e2, c_sign e2 f2.2.1, csg_21, fun z => absurd z z1, fun _ => ⟨_, s3, i2, i1, Or.inl rfl, zQ⟩⟩))
        refine ⟨_, s3, i2, to, fun _ => ⟨_, rfl, _, rfl, i2, ?_⟩, fun z => absurd rfl z⟩
        rw [ex]
        exact ⟨yf_tr (yf_tr d4 e3) i3, i4⟩
    · rw [f1] at ex
      exact ⟨fun _ => ⟨_, rfl, _, rfl, e2, yf_tr d4 e3, Or.inr ⟨rfl, e, ex, f2, f3⟩⟩, fun z => absurd rfl z⟩
end CP
