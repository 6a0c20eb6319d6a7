/-! what each method of the class begins with; what the findings answer -/
section HD
variable {γ : ga_T} {σ σ1 : st_T} {A A' : ca_T} {R : rt_T} {m : Nat}
def Ans_ (γ : ga_T) (μ : mr_T) (d : Nat) (as : List Value) (σ : st_T) (R : rt_T) (A' : ca_T) (r : rs_T) : Prop := ∃ σ1 R1, sp_ γ μ d as σ (fun q s => q = r ∧ s = σ1) ∧ J_ σ1 A' R1 ∧ Co_ σ R 1 σ1 R1
theorem sq_ {μ : mr_T} {d : Nat} {as : List Value} {r : rs_T} (q : ∀ Q : rs_T → st_T → Prop, Q r σ1 → sp_ γ μ d as σ Q) : sp_ γ μ d as σ (fun q s => q = r ∧ s = σ1) := q _ ⟨rfl, rfl⟩
theorem co_1 {R1 : rt_T} (h : Co_ σ R 0 σ1 R1) : Co_ σ R 1 σ1 R1 := ⟨h.1, h.2.1, by have y := h.2.2.1; omega, by have y := h.2.2.2; omega⟩
theorem eh_X {k z b : Nat} : eh_ σ (pt_X σ k z) b := ⟨fun _ => rfl, fun _ => rfl, fun _ => rfl, rfl⟩
theorem j_X (h : J_ σ A R) (R0 : rt_T) : J_ (pt_X σ 1 6) A R ∧ Co_ σ R0 1 (pt_X σ 1 6) R0 := by
  refine ⟨h, fun b _ _ => eh_X, Nat.le_refl _, ?_, ?_⟩
  · show 128 * (st_c σ + 1) + zR_ R0 ≤ _
    omega
  · show st_u σ + 6 + yR_ R0 ≤ _
    omega
def ri_ (z : Int) : rs_T := .inl (some (.int (i_ z)))
def rb_ (b : Bool) : rs_T := ri_ (if b = true then 1 else 0)
def iae_ : rs_T := .inr "java/lang/IllegalArgumentException"
def ioo_ : rs_T := .inr "java/lang/IndexOutOfBoundsException"
def nse_ : rs_T := .inr "java/util/NoSuchElementException"
def ise_ : rs_T := .inr "java/lang/IllegalStateException"
/-- only for a model, for an instruction, for a location -/
def mq_ (z : Int) (r : Nat → rs_T) : rs_T := if 0 ≤ z ∧ z < 3 then r z.toNat else iae_
def im_ (A : ca_T) (z : Int) (r : Nat → rs_T) : rs_T := if 0 ≤ z ∧ z < pN_ (aP_ A).1 then r z.toNat else ioo_
def lm_ (A : ca_T) (z : Int) (r : Nat → rs_T) : rs_T := if 0 ≤ z ∧ z < pL_ (aP_ A).1 then r z.toNat else ioo_
theorem c_reqM (zw : Wd σ) {z : Int} (q1 : 0 ≤ z ∧ z < 3) : fw_ γ m_X11_requireModel 8 [.ref 128, .int (i_ z)] σ σ := fw_q (fun Q zQ => e_X11_requireModel zw (by
  unfold p_X11_requireModel_0
  simp (disch := omega) only [i_lit, i_lt]
  exact ⟨fun y => by omega, fun _ => ⟨fun _ => zQ, fun y => by omega⟩⟩))
theorem c_noM (zw : Wd σ) {z : Int} (q0 : -2147483648 ≤ z ∧ z < 2147483648) (q1 : ¬ (0 ≤ z ∧ z < 3)) : ft_ γ m_X11_requireModel 8 [.ref 128, .int (i_ z)] σ "java/lang/IllegalArgumentException" (pt_X σ 1 6) := ft_q (fun Q zQ => e_X11_requireModel zw (by
  unfold p_X11_requireModel_0
  simp (disch := omega) only [i_lit, i_lt]
  exact ⟨fun _ => zQ, fun _ => ⟨fun y => by omega, fun _ => zQ⟩⟩))
theorem c_reqI (zw : Wd σ) {p : pr_T} (zR : Rp_ σ 132 p) {z : Int} (q1 : 0 ≤ z ∧ z < pN_ p) : fw_ γ m_X11_requireInstruction 8 [.ref 128, .int (i_ z)] σ σ := fw_q (fun Q zQ => e_X11_requireInstruction zw (by
  have b1 := zR.1.1
  unfold p_X11_requireInstruction_0
  simp (disch := omega) only [i_lit, i_lt]
  refine ⟨fun y => by omega, fun _ => ⟨_, σ, zw, c_size (Or.inl rfl) zw zR, ?_⟩⟩
  simp (disch := omega) only [i_lit, i_lt]
  exact ⟨fun _ => zQ, fun y => by omega⟩))
theorem c_noI (zw : Wd σ) {p : pr_T} (zR : Rp_ σ 132 p) {z : Int} (q0 : -2147483648 ≤ z ∧ z < 2147483648) (q1 : ¬ (0 ≤ z ∧ z < pN_ p)) : ft_ γ m_X11_requireInstruction 8 [.ref 128, .int (i_ z)] σ "java/lang/IndexOutOfBoundsException" (pt_X σ 1 6) := ft_q (fun Q zQ => e_X11_requireInstruction zw (by
  have b1 := zR.1.1
  unfold p_X11_requireInstruction_0
  simp (disch := omega) only [i_lit, i_lt]
  refine ⟨fun _ => zQ, fun _ => ⟨_, σ, zw, c_size (Or.inl rfl) zw zR, ?_⟩⟩
  simp (disch := omega) only [i_lit, i_lt]
  exact ⟨fun y => by omega, fun _ => zQ⟩))
theorem c_reqL (zw : Wd σ) {p : pr_T} (zR : Rp_ σ 132 p) {z : Int} (q1 : 0 ≤ z ∧ z < pL_ p) : fw_ γ m_X11_requireLocation 8 [.ref 128, .int (i_ z)] σ σ := fw_q (fun Q zQ => e_X11_requireLocation zw (by
  have b1 := zR.1.2.2.1
  unfold p_X11_requireLocation_0
  simp (disch := omega) only [i_lit, i_lt]
  refine ⟨fun y => by omega, fun _ => ⟨_, σ, zw, c_locations (Or.inl rfl) zw zR, ?_⟩⟩
  simp (disch := omega) only [i_lit, i_lt]
  exact ⟨fun _ => zQ, fun y => by omega⟩))
theorem c_noL (zw : Wd σ) {p : pr_T} (zR : Rp_ σ 132 p) {z : Int} (q0 : -2147483648 ≤ z ∧ z < 2147483648) (q1 : ¬ (0 ≤ z ∧ z < pL_ p)) : ft_ γ m_X11_requireLocation 8 [.ref 128, .int (i_ z)] σ "java/lang/IndexOutOfBoundsException" (pt_X σ 1 6) := ft_q (fun Q zQ => e_X11_requireLocation zw (by
  have b1 := zR.1.2.2.1
  unfold p_X11_requireLocation_0
  simp (disch := omega) only [i_lit, i_lt]
  refine ⟨fun _ => zQ, fun _ => ⟨_, σ, zw, c_locations (Or.inl rfl) zw zR, ?_⟩⟩
  simp (disch := omega) only [i_lit, i_lt]
  exact ⟨fun y => by omega, fun _ => zQ⟩))
section AM
variable {μ : mr_T} {d : Nat} {as : List Value} {r : Nat → rs_T} {z : Int}
theorem am_ (h : J_ σ A R) (q0 : -2147483648 ≤ z ∧ z < 2147483648)
    (hg : ∀ m : Nat, m < 3 → z = m → fw_ γ m_X11_requireModel 8 [.ref 128, .int (i_ (m : Int))] σ σ → Ans_ γ μ d as σ R A (r m))
    (hx : ∀ (Q : rs_T → st_T → Prop) (s : st_T), Wd s → ft_ γ m_X11_requireModel 8 [.ref 128, .int (i_ z)] σ "java/lang/IllegalArgumentException" s → Q iae_ s → sp_ γ μ d as σ Q) : Ans_ γ μ d as σ R A (mq_ z r) := by
  unfold mq_
  have w := h.1.1
  split
  · rename_i q
    obtain ⟨m, rfl⟩ : ∃ m : Nat, z = m := ⟨z.toNat, by omega⟩
    rw [Int.toNat_natCast]
    exact hg m (by omega) rfl (c_reqM w q)
  · rename_i q
    exact ⟨_, R, sq_ (fun Q zQ => hx Q (pt_X σ 1 6) w (c_noM w q0 q) zQ), (j_X h R).1, (j_X h R).2⟩
theorem ai_ (h : J_ σ A R) (q0 : -2147483648 ≤ z ∧ z < 2147483648)
    (hg : ∀ i : Nat, i < pN_ (aP_ A).1 → z = i → fw_ γ m_X11_requireInstruction 8 [.ref 128, .int (i_ (i : Int))] σ σ → Ans_ γ μ d as σ R A' (r i))
    (hx : ∀ (Q : rs_T → st_T → Prop) (s : st_T), Wd s → ft_ γ m_X11_requireInstruction 8 [.ref 128, .int (i_ z)] σ "java/lang/IndexOutOfBoundsException" s → Q ioo_ s → sp_ γ μ d as σ Q) (hA : ¬ (0 ≤ z ∧ z < pN_ (aP_ A).1) → A' = A) : Ans_ γ μ d as σ R A' (im_ A z r) := by
  unfold im_
  have w := h.1.1
  split
  · rename_i q
    obtain ⟨m, rfl⟩ : ∃ m : Nat, z = m := ⟨z.toNat, by omega⟩
    rw [Int.toNat_natCast]
    exact hg m (by omega) rfl (c_reqI w h.2.1.1.1 q)
  · rename_i q
    rw [hA q]
    exact ⟨_, R, sq_ (fun Q zQ => hx Q (pt_X σ 1 6) w (c_noI w h.2.1.1.1 q0 q) zQ), (j_X h R).1, (j_X h R).2⟩
theorem al2_ (h : J_ σ A R) (q0 : -2147483648 ≤ z ∧ z < 2147483648)
    (hg : ∀ i : Nat, i < pL_ (aP_ A).1 → z = i → fw_ γ m_X11_requireLocation 8 [.ref 128, .int (i_ (i : Int))] σ σ → Ans_ γ μ d as σ R A (r i))
    (hx : ∀ (Q : rs_T → st_T → Prop) (s : st_T), Wd s → ft_ γ m_X11_requireLocation 8 [.ref 128, .int (i_ z)] σ "java/lang/IndexOutOfBoundsException" s → Q ioo_ s → sp_ γ μ d as σ Q) : Ans_ γ μ d as σ R A (lm_ A z r) := by
  unfold lm_
  have w := h.1.1
  split
  · rename_i q
    obtain ⟨m, rfl⟩ : ∃ m : Nat, z = m := ⟨z.toNat, by omega⟩
    rw [Int.toNat_natCast]
    exact hg m (by omega) rfl (c_reqL w h.2.1.1.1 q)
  · rename_i q
    exact ⟨_, R, sq_ (fun Q zQ => hx Q (pt_X σ 1 6) w (c_noL w h.2.1.1.1 q0 q) zQ), (j_X h R).1, (j_X h R).2⟩
/-- an answer that changes nothing -/
theorem an0_ (h : J_ σ A R) {r : rs_T} (q : ∀ Q : rs_T → st_T → Prop, Q r σ → sp_ γ μ d as σ Q) : Ans_ γ μ d as σ R A r := ⟨σ, R, sq_ q, h, co_1 (co_rf R)⟩
theorem anX_ (h : J_ σ A R) {r : rs_T} (q : ∀ Q : rs_T → st_T → Prop, Q r (pt_X σ 1 6) → sp_ γ μ d as σ Q) : Ans_ γ μ d as σ R A r := ⟨pt_X σ 1 6, R, sq_ q, j_X h R⟩
end AM
/-- the outcomes of a model -/
def O_ (A : ca_T) (m : Nat) : List (Nat × Int64) := ocs_ (aP_ A).1 m (F0_ (aP_ A).1)
theorem srt_so {L : List (Nat × Int64)} (hL : L.Pairwise (fun x y => x.1 ≠ y.1)) : So_ (srt_ L) := by
  intro i j z1 z2
  have y1 : (srt_ L).Pairwise (fun x y => x.1 ≤ y.1) := srt_pw _
  have y2 : (srt_ L).Pairwise (fun x y => x.1 ≠ y.1) := ((srt_pm L).pairwise_iff (fun {x y} z => Ne.symm z)).mpr hL
  generalize srt_ L = S at y1 y2 z2 ⊢
  have z3 : i < S.length := by omega
  have y3 := (List.pairwise_iff_getElem.mp y1) i j z3 z2 z1
  have y4 := (List.pairwise_iff_getElem.mp y2) i j z3 z2 z1
  unfold wa_
  rw [List.getElem?_eq_getElem z3, List.getElem?_eq_getElem z2]
  have y5 : (S[i]).1 < (S[j]).1 := by omega
  exact y5
theorem ocs_so {p : pr_T} {F : Nat → Bool} : So_ (ocs_ p m F) := srt_so (rl_nk p (nk_bn _ _ _ _ _ _))
/-- the values that two bits of the outcomes take -/
def vo_ (L : List (Nat × Int64)) (s : Nat) : Nat := L.foldl (fun a q => a ||| 2 ^ (q.1 / 2 ^ s % 4)) 0
theorem vo_16 (L : List (Nat × Int64)) (s : Nat) : vo_ L s < 16 := by
  unfold vo_
  have key : ∀ (L : List (Nat × Int64)) (a : Nat), a < 2 ^ 4 → L.foldl (fun a q => a ||| 2 ^ (q.1 / 2 ^ s % 4)) a < 2 ^ 4 := by
    intro L
    induction L with
    | nil => intro a z; exact z
    | cons q L ih =>
      intro a z
      exact ih _ (Nat.or_lt_two_pow z (Nat.pow_lt_pow_right (by decide) (Nat.mod_lt _ (by decide))))
  exact key L 0 (by decide)
theorem c_valuesAt {a : Nat} (ha : is_fi a) (zw : Wd σ) {t : fk_T} {L : List (Nat × Int64)} (zF : Fl_ σ a t L) {s : Nat} (zs : s < 32) : fn_ γ m_X3_valuesAt 1 [.ref a, .int (i_ (s : Int))] σ (.int (i_ (vo_ L s : Int))) σ := by
  have hn : L.length ≤ 131072 := Nat.le_trans zF.2.2.1 zF.1.2.2.2
  refine fn_q (fun Q zQ => e_X3_valuesAt ha zw ?_)
  have key : ∀ k i : Nat, k + i = L.length → vv_ γ m_X3_valuesAt 1 4 [(0, .ref a), (1, .int (i_ (s : Int))), (2, .int (i_ (vo_ (L.take i) s : Int))), (3, .int (i_ (i : Int)))] [] σ Q := by
    intro k
    induction k with
    | zero =>
      intro i zi
      refine g_X3_valuesAt_4 ha zw ?_
      unfold p_X3_valuesAt_4
      rw [zF.2.1]
      simp (disch := omega) only [i_le]
      refine ⟨fun _ => ?_, fun z => by omega⟩
      rw [List.take_of_length_le (by omega)]
      exact zQ
    | succ k ih =>
      intro i zi
      refine g_X3_valuesAt_4 ha zw ?_
      unfold p_X3_valuesAt_4
      rw [zF.2.1]
      simp (disch := omega) only [i_le]
      obtain ⟨q, hq⟩ : ∃ q, L[i]? = some q := ⟨_, List.getElem?_eq_getElem (by omega)⟩
      have y1 := c_codeAt (γ := γ) ha zw zF (z := i) (by omega)
      rw [cf_at hq] at y1
      have y3 := (zF.2.2.2 _ _ hq).2.2
      refine ⟨fun z => by omega, fun _ => ⟨_, σ, zw, y1, ?_⟩⟩
      have e1 : q.1 / 2 ^ s &&& 3 = q.1 / 2 ^ s % 4 := by
        rw [show (3 : Nat) = 2 ^ 2 - 1 from rfl, Nat.and_two_pow_sub_one_eq_mod]
      have b1 : q.1 / 2 ^ s ≤ q.1 := Nat.div_le_self _ _
      have b2 := Nat.mod_lt (q.1 / 2 ^ s) (show 0 < 4 by decide)
      have b3 : 2 ^ (q.1 / 2 ^ s % 4) < 2 ^ 4 := Nat.pow_lt_pow_right (by decide) b2
      have b4 := vo_16 (L.take i) s
      have e2 : vo_ (L.take (i + 1)) s = vo_ (L.take i) s ||| 2 ^ (q.1 / 2 ^ s % 4) := by
        unfold vo_
        rw [List.take_add_one, hq, List.foldl_append]
        rfl
      have e3 : (1 : Int32) <<< ((i_ (q.1 : Int) >>> (i_ (s : Int) &&& 31)) &&& (3 : Int32) &&& 31) = i_ ((2 ^ (q.1 / 2 ^ s % 4) : Nat) : Int) := by
        rw [show (31 : Int32) = i_ 31 from rfl, i_shr zs (by omega), show (3 : Int32) = i_ ((3 : Nat) : Int) from rfl, i_and (by omega) (by decide), e1, show (1 : Int32) = i_ ((1 : Nat) : Int) from rfl, i_shl (by omega) (by omega), Nat.one_mul]
      rw [e3, i_or (by omega) (by omega), ← e2, i_lit 1, i_add]
      exact ih (i + 1) (by omega)
  exact key L.length 0 (by omega)
end HD
