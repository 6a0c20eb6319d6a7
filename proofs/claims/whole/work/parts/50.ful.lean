/-! the class evaluates a condition -/
section FU
variable {γ : ga_T} {σ : st_T} {a : Nat} {L : List Int} {b c : Nat}
def Cx_ (σ : st_T) (a : Nat) (L : List Int) : Prop := L.length ≤ 31 ∧ st_I σ a 7 = i_ (L.length : Int) ∧ ∀ k u, L[k]? = some u → st_I σ (a + 4) k = i_ u
def uf_ (c : Nat) (L : List Int) : Bool := (L.foldl (us_ c) [true]).headD false
theorem sv_hd (B : List Bool) : sv_ B % 2 = if B.headD false = true then 1 else 0 := by
  cases B with
  | nil => rfl
  | cons b r =>
    show ((if b = true then 1 else 0) + 2 * sv_ r) % 2 = if b = true then 1 else 0
    split <;> omega
theorem us_c1 {x : Bool} {r : List Bool} : us_ c (x :: r) (-1) = (!x) :: r := by
  unfold us_
  rw [if_pos rfl]
theorem us_c2 {x w : Bool} {r : List Bool} : us_ c (x :: w :: r) (-2) = (w && x) :: r := by
  unfold us_
  rw [if_neg (by decide), if_pos rfl]
theorem us_c3 {x w : Bool} {r : List Bool} : us_ c (x :: w :: r) (-3) = (w || x) :: r := by
  unfold us_
  rw [if_neg (by decide), if_neg (by decide), if_pos rfl]
theorem us_c0 {B : List Bool} {u : Int} (q : 0 ≤ u) : us_ c B u = uc_ c u :: B := by
  unfold us_
  rw [if_neg (by omega), if_neg (by omega), if_neg (by omega)]
theorem c_isFul (zha : is_pg a) (zw : Wd σ) (zC : Cx_ σ a L) {e : Nat} (zu : ug_ b L 0 e) (ze : e ≤ 1) (zb : b ≤ 22) (zc : c < 4194304) : fn_ γ m_X7_isFulfilledBy 0 [.ref a, .int (i_ (c : Int))] σ (.int (i_ (if uf_ c L = true then 1 else 0))) σ := by
  obtain ⟨n1, n2, n3⟩ := zC
  refine fn_q (fun Q zQ => e_X7_isFulfilledBy zha zw ?_)
  unfold p_X7_isFulfilledBy_0
  have key : ∀ (rest pre : List Int) (B : List Bool) (d : Nat), L = pre ++ rest → ug_ b rest d e → B.length = d + 1 → d ≤ pre.length → uf_ c L = (rest.foldl (us_ c) B).headD false →
      vv_ γ m_X7_isFulfilledBy 0 4 [(0, .ref a), (1, .int (i_ (c : Int))), (2, .int (i_ (sv_ B : Int))), (3, .int (i_ (pre.length : Int)))] [] σ Q := by
    intro rest
    induction rest with
    | nil =>
      intro pre B d e1 z1 z2 z3 z4
      have z1 : d = e := z1
      have l1 : L.length = pre.length := by rw [e1, List.append_nil]
      have y := sv_lt B
      have y2 : sv_ B < 2 ^ 2 := Nat.lt_of_lt_of_le y (Nat.pow_le_pow_right (by decide) (by omega))
      have y3 := sv_hd B
      have z4 : uf_ c L = B.headD false := z4
      rw [z4] at zQ
      refine g_X7_isFulfilledBy_4 zha zw ?_
      unfold p_X7_isFulfilledBy_4
      rw [n2, l1]
      refine ⟨fun _ => ?_, fun z => absurd (Int32.le_refl _) z⟩
      rw [i_lit 1, show i_ (OfNat.ofNat 1) = i_ ((1 : Nat) : Int) from rfl, i_and (by omega) (by decide), n_a1, y3]
      by_cases y4 : B.headD false = true
      · rw [if_pos y4] at zQ ⊢
        exact ⟨fun z => absurd z (by decide), fun _ => zQ⟩
      · rw [if_neg y4] at zQ ⊢
        exact ⟨fun _ => zQ, fun z => absurd rfl z⟩
    | cons u t ih =>
      intro pre B d e1 z1 z2 z3 z4
      have l1 : L.length = pre.length + (t.length + 1) := by rw [e1, List.length_append, List.length_cons]
      have hu : L[pre.length]? = some u := by rw [e1, List.getElem?_append_right (Nat.le_refl _), Nat.sub_self]; rfl
      have hs := n3 _ _ hu
      have g1 := (ug_len b (u :: t) d e z1).1
      rw [List.length_cons] at g1
      have y := sv_lt B
      have y2 : sv_ B < 2 ^ 18 := Nat.lt_of_lt_of_le y (Nat.pow_le_pow_right (by decide) (by omega))
      have ys : (i_ ((pre.length : Nat) : Int)).toNatClampNeg = pre.length := by rw [i_cl (by omega)]; exact Int.toNat_natCast _
      have ih2 := fun B2 d2 (w1 : ug_ b t d2 e) (w2 : B2.length = d2 + 1) (w3 : d2 ≤ pre.length + 1) (w4 : us_ c B u = B2) => ih (pre ++ [u]) B2 d2 (by rw [e1, List.append_assoc]; rfl) w1 w2 (by rw [List.length_append]; exact w3) (by rw [z4, List.foldl_cons, w4])
      rw [List.length_append, List.length_singleton, show ((pre.length + 1 : Nat) : Int) = (pre.length : Int) + 1 by omega, ← i_add, ← i_lit 1] at ih2
      refine g_X7_isFulfilledBy_4 zha zw ?_
      unfold p_X7_isFulfilledBy_4
      rw [n2, l1, ys, hs]
      simp (disch := omega) only [i_lit, i_neg, i_le, i_in_iff]
      refine ⟨fun z => by omega, fun _ => ⟨fun z => by omega, fun _ => ⟨by omega, ?_⟩⟩⟩
      rcases z1 with ⟨rfl, q2, q3⟩ | ⟨q1, q2, q3⟩ | ⟨q1, q2, q4, q3⟩
      · refine ⟨fun _ => ?_, fun z => absurd rfl z⟩
        cases B with
        | nil => simp at z2
        | cons x r =>
          rw [u_not (by omega), show sv_ (x :: r) / 2 * 2 + (sv_ (x :: r) + 1) % 2 = sv_ ((!x) :: r) by
            show ((if x = true then 1 else 0) + 2 * sv_ r) / 2 * 2 + ((if x = true then 1 else 0) + 2 * sv_ r + 1) % 2 = (if (!x) = true then 1 else 0) + 2 * sv_ r
            cases x <;> simp <;> omega]
          exact ih2 ((!x) :: r) d q3 z2 (by omega) us_c1
      · rcases q1 with rfl | rfl
        · refine ⟨fun z => absurd z (by decide), fun _ => ⟨fun _ => ?_, fun z => absurd rfl z⟩⟩
          match B, z2 with
          | [], z2 => exact absurd z2 (by simp)
          | [x], z2 => exact absurd (show (1 : Nat) = d + 1 from z2) (by omega)
          | x :: w :: r, z2 =>
            rw [u_and (by omega), show sv_ (x :: w :: r) / 4 * 2 + (sv_ (x :: w :: r) / 2 % 2) * (sv_ (x :: w :: r) % 2) = sv_ ((w && x) :: r) by
              show ((if x = true then 1 else 0) + 2 * ((if w = true then 1 else 0) + 2 * sv_ r)) / 4 * 2 + (((if x = true then 1 else 0) + 2 * ((if w = true then 1 else 0) + 2 * sv_ r)) / 2 % 2) * (((if x = true then 1 else 0) + 2 * ((if w = true then 1 else 0) + 2 * sv_ r)) % 2) = (if (w && x) = true then 1 else 0) + 2 * sv_ r
              cases x <;> cases w <;> simp <;> omega]
            exact ih2 ((w && x) :: r) (d - 1) q3 (by simp at z2 ⊢; omega) (by omega) us_c2
        · refine ⟨fun z => absurd z (by decide), fun _ => ⟨fun z => absurd z (by decide), fun _ => ⟨fun _ => ?_, fun z => absurd rfl z⟩⟩⟩
          match B, z2 with
          | [], z2 => exact absurd z2 (by simp)
          | [x], z2 => exact absurd (show (1 : Nat) = d + 1 from z2) (by omega)
          | x :: w :: r, z2 =>
            rw [u_or (by omega), show sv_ (x :: w :: r) / 4 * 2 + max (sv_ (x :: w :: r) / 2 % 2) (sv_ (x :: w :: r) % 2) = sv_ ((w || x) :: r) by
              show ((if x = true then 1 else 0) + 2 * ((if w = true then 1 else 0) + 2 * sv_ r)) / 4 * 2 + max (((if x = true then 1 else 0) + 2 * ((if w = true then 1 else 0) + 2 * sv_ r)) / 2 % 2) (((if x = true then 1 else 0) + 2 * ((if w = true then 1 else 0) + 2 * sv_ r)) % 2) = (if (w || x) = true then 1 else 0) + 2 * sv_ r
              cases x <;> cases w <;> simp <;> omega]
            exact ih2 ((w || x) :: r) (d - 1) q3 (by simp at z2 ⊢; omega) (by omega) us_c3
      · have w4 := us_c0 (c := c) (B := B) q1
        obtain ⟨n, rfl⟩ : ∃ n : Nat, u = n := ⟨u.toNat, by omega⟩
        rw [Int.toNat_natCast] at q2 q4
        simp (disch := omega) only [i_eq]
        refine ⟨fun z => by omega, fun _ => ⟨fun z => by omega, fun _ => ⟨fun z => by omega, fun _ => ?_⟩⟩⟩
        have ev : (i_ (c : Int) >>> ((i_ (n : Int) >>> (i_ 3 &&& i_ 31)) &&& i_ 31)) &&& i_ 3 = i_ ((c / 2 ^ (n / 8) % 4 : Nat) : Int) := by
          rw [show (3 : Int) = ((3 : Nat) : Int) from rfl, i_shr (by decide) (by omega), show n / 2 ^ 3 = n / 8 from rfl, i_shr (by omega) (by omega), i_and (Nat.lt_of_le_of_lt (Nat.div_le_self _ _) (by omega)) (by decide), n_a3]
        have en : i_ (n : Int) &&& i_ 3 = i_ ((n % 4 : Nat) : Int) := by
          rw [show (3 : Int) = ((3 : Nat) : Int) from rfl, i_and (by omega) (by decide), n_a3]
        have e4 : i_ (n : Int) &&& i_ 4 = i_ ((4 * (n / 4 % 2) : Nat) : Int) := by
          rw [show (4 : Int) = ((4 : Nat) : Int) from rfl, i_and (by omega) (by decide), n_a4]
        rw [ev, en, e4]
        have eu : uc_ c (n : Int) = if n / 4 % 2 = 0 then decide (c / 2 ^ (n / 8) % 4 = n % 4) else decide (c / 2 ^ (n / 8) % 4 < n % 4) := by
          unfold uc_
          rw [Int.toNat_natCast]
        have s1 : i_ (sv_ B : Int) <<< (i_ 1 &&& i_ 31) ||| i_ 1 = i_ (sv_ (true :: B) : Int) := u_psh (s := sv_ B) (b := 1) (by omega) (by decide)
        have s0 : i_ (sv_ B : Int) <<< (i_ 1 &&& i_ 31) ||| i_ 0 = i_ (sv_ (false :: B) : Int) := u_psh (s := sv_ B) (b := 0) (by omega) (by decide)
        rw [s1, s0]
        have h1 := ih2 (uc_ c (n : Int) :: B) (d + 1) q3 (by rw [List.length_cons, z2]) (by omega) w4
        rw [eu] at h1
        simp (disch := omega) only [i_eq, i_le]
        generalize c / 2 ^ (n / 8) % 4 = v at h1 ⊢
        refine ⟨fun y1 => ⟨fun y2 => ?_, fun y2 => ?_⟩, fun y1 => ⟨fun y2 => ?_, fun y2 => ?_⟩⟩
        · rw [if_pos (by omega), decide_eq_true (by omega)] at h1
          exact h1
        · rw [if_pos (by omega), decide_eq_false (by omega)] at h1
          exact h1
        · rw [if_neg (by omega), decide_eq_false (by omega)] at h1
          exact h1
        · rw [if_neg (by omega), decide_eq_true (by omega)] at h1
          exact h1
  exact key L [] [true] 0 rfl zu rfl (Nat.le_refl _) rfl
end FU
