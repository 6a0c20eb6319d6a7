/-! the reference: gaps; origins and writers of an explanation -/
section RS
variable {γ : ga_T} {σ σ1 s : st_T} {A A' : ca_T} {c m n : Nat} {z y : Int} {e : String → Nat} {p : pr_T}
theorem c_rgapMany (zw : Wd σ) (zN : Nr_ σ p) : fn_ γ m_X12_gapMany 3 [.ref 185] σ (.int (i_ (ct_ (gb_ p) (pN_ p)))) σ := by
  have b := zN.1.1
  refine fn_q (fun Q zQ => e_X12_gapMany zw ?_)
  unfold p_X12_gapMany_0
  have key : ∀ k i : Nat, k + i = pN_ p → vv_ γ m_X12_gapMany 3 4 [(0, .ref 185), (1, .int (i_ (ct_ (gb_ p) i))), (2, .int (i_ i))] [] σ Q := by
    intro k
    induction k with
    | zero =>
      intro i zi
      have zi : i = pN_ p := by omega
      subst zi
      refine g_X12_gapMany_4 zw ?_
      unfold p_X12_gapMany_4
      rw [zN.2.1]
      exact ⟨fun _ => zQ, fun z => absurd (Int32.le_refl _) z⟩
    | succ k ih =>
      intro i zi
      have z2 := ih (i + 1) (by omega)
      rw [ct_] at z2
      have cl := ct_le (gb_ p) i
      refine g_X12_gapMany_4 zw ?_
      unfold p_X12_gapMany_4
      rw [zN.2.1]
      refine ⟨fun z => by rw [i_le (by omega) (by omega)] at z; omega, fun _ => ⟨_, _, zw, c_risGap zw zN (by omega), ?_⟩⟩
      rw [k0_, k1_, i_add, i_add, i_add]
      by_cases z : gb_ p i = true
      · rw [if_pos z] at z2 ⊢
        exact ⟨fun z3 => absurd z3 (by decide), fun _ => z2⟩
      · rw [if_neg z] at z2 ⊢
        exact ⟨fun _ => z2, fun z3 => absurd rfl z3⟩
  exact key (pN_ p) 0 (by omega)
theorem c_rgapAt (zw : Wd σ) (zN : Nr_ σ p) (q1 : 0 ≤ z ∧ z < 2147483648) : fn_ γ m_X12_gapAt 3 [.ref 185, .int (i_ z)] σ (.int (i_ (pl_ (gb_ p) z (pN_ p) 0))) σ := by
  have b := zN.1.1
  refine fn_q (fun Q zQ => e_X12_gapAt zw ?_)
  unfold p_X12_gapAt_0
  have key : ∀ k i : Nat, k + i = pN_ p → ∀ d : Int, 0 ≤ d → d < 2147483648 → pl_ (gb_ p) z (pN_ p) 0 = pl_ (gb_ p) d k i → vv_ γ m_X12_gapAt 3 4 [(0, .ref 185), (2, .int (i_ d)), (3, .int (i_ i))] [] σ Q := by
    intro k
    induction k with
    | zero =>
      intro i zi d _ _ ze
      have zi : i = pN_ p := by omega
      subst zi
      rw [ze] at zQ
      refine g_X12_gapAt_4 zw ?_
      unfold p_X12_gapAt_4
      rw [zN.2.1]
      exact ⟨fun _ => zQ, fun z => absurd (Int32.le_refl _) z⟩
    | succ k ih =>
      intro i zi d q1 q2 ze
      rw [pl_] at ze
      refine g_X12_gapAt_4 zw ?_
      unfold p_X12_gapAt_4
      rw [zN.2.1]
      refine ⟨fun z => by rw [i_le (by omega) (by omega)] at z; omega, fun _ => ⟨_, _, zw, c_risGap zw zN (by omega), ?_⟩⟩
      rw [show (-1 : Int32) = i_ (-1) by decide, k0_, k1_, i_add, i_add]
      by_cases z1 : gb_ p i = true
      · rw [if_pos z1] at ze
        rw [if_pos z1]
        refine ⟨fun z3 => absurd z3 (by decide), fun _ => ⟨fun z4 => ?_, fun z4 => ?_⟩⟩
        · rw [i_eq (by omega) (by omega)] at z4
          rw [if_pos z4] at ze
          rw [ze] at zQ
          exact zQ
        · rw [i_eq (by omega) (by omega)] at z4
          rw [if_neg z4] at ze
          exact ih (i + 1) (by omega) (d + -1) (by omega) (by omega) ze
      · rw [if_neg z1] at ze
        rw [if_neg z1]
        exact ⟨fun _ => ih (i + 1) (by omega) d q1 q2 ze, fun z3 => absurd rfl z3⟩
  exact key (pN_ p) 0 (by omega) z q1.1 q1.2 rfl
theorem pl_neg (f : Nat → Bool) : ∀ (k i : Nat) (z : Int), z < 0 → pl_ f z k i = -1
  | 0, _, _, _ => rfl
  | k + 1, i, z, h => by
    rw [pl_]
    split
    · rw [if_neg (by omega)]
      exact pl_neg f k (i + 1) (z - 1) (by omega)
    · exact pl_neg f k (i + 1) z h
theorem r_gapCount (h : Jr_ σ A c) : Ra_ γ m_X12_gapCount 4 [.ref 185] σ A c e (ri_ (ct_ (gb_ (aP_ A).1) (pN_ (aP_ A).1))) := by
  refine ra_of (e_X12_gapCount h.1 ?_)
  unfold p_X12_gapCount_0
  have w : Wd (pt_I σ 185 0 (i_ 0)) := h.1
  exact ⟨_, _, w, c_rgapMany w (th_nr h.2.2.2.1.1 _), ra_0 h rfl⟩
theorem r_gapBefore (h : Jr_ σ A c) (q1 : -2147483648 ≤ z ∧ z < 2147483648) : Ra_ γ m_X12_gapBefore 4 [.ref 185, .int (i_ z)] σ A c e (ri_ (pl_ (gb_ (aP_ A).1) z (pN_ (aP_ A).1) 0)) := by
  refine ra_of (e_X12_gapBefore h.1 ?_)
  unfold p_X12_gapBefore_0
  have w : Wd (pt_I σ 185 0 (i_ 0)) := h.1
  refine ⟨fun z1 => ?_, fun z1 => ?_⟩
  · rw [k0_, i_le (by omega) (by omega)] at z1
    exact ⟨_, _, w, c_rgapAt w (th_nr h.2.2.2.1.1 _) ⟨z1, q1.2⟩, ra_0 h rfl⟩
  · rw [k0_, i_le (by omega) (by omega)] at z1
    refine ra_0 h ?_
    rw [pl_neg _ _ _ _ (by omega)]
    rfl
theorem c_risFence (zw : Wd σ) (zN : Nr_ σ p) (q0 : -2147483648 ≤ z ∧ z < 2147483648) : fn_ γ m_X12_isFence 2 [.ref 185, .int (i_ z)] σ (.int (if decide (0 ≤ z ∧ z < pN_ p ∧ pC_ p z.toNat 1 = 3) = true then 1 else 0)) σ := fn_q (fun Q zQ => e_X12_isFence zw (by
  have y := c_risInstr (γ := γ) zw zN q0
  unfold p_X12_isFence_0
  refine ⟨_, σ, zw, y, ?_⟩
  by_cases u : 0 ≤ z ∧ z < pN_ p
  · rw [decide_eq_true u]
    obtain ⟨i, rfl⟩ : ∃ i : Nat, z = i := ⟨z.toNat, by omega⟩
    have r := zN.1.2.2.2.2 i 1
    refine ⟨fun y => absurd y (by decide), fun _ => ⟨_, σ, zw, c_rof (k := 1) zw zN (by omega) (by decide), ?_⟩⟩
    rw [Int.toNat_natCast] at zQ
    rw [k3_]
    refine ⟨fun y => ?_, fun y => ?_⟩
    · rw [i_eq (by omega) (by omega)] at y
      rw [if_pos (by rw [decide_eq_true_eq]; exact ⟨u.1, u.2, y⟩)] at zQ
      exact zQ
    · rw [i_eq (by omega) (by omega)] at y
      rw [if_neg (by rw [decide_eq_true_eq]; exact fun y2 => y y2.2.2)] at zQ
      exact zQ
  · rw [decide_eq_false u]
    rw [if_neg (by rw [decide_eq_true_eq]; exact fun y2 => u ⟨y2.1, y2.2.1⟩)] at zQ
    exact ⟨fun _ => zQ, fun y => absurd rfl y⟩))
theorem c_rreads (zw : Wd σ) (zN : Nr_ σ p) {i : Nat} (q1 : i < pN_ p) : fn_ γ m_X12_reads 2 [.ref 185, .int (i_ (i : Int))] σ (.int (if decide (pC_ p i 1 = 1 ∨ pC_ p i 1 = 2) = true then 1 else 0)) σ := fn_q (fun Q zQ => e_X12_reads zw (by
  have r := zN.1.2.2.2.2 i 1
  unfold p_X12_reads_0
  refine ⟨_, σ, zw, c_rof (k := 1) zw zN q1 (by decide), fun y => ?_, fun y => ⟨_, σ, zw, c_rof (k := 1) zw zN q1 (by decide), fun y2 => ?_, fun y2 => ?_⟩⟩
  · rw [k1_, i_eq (by omega) (by omega)] at y
    rw [if_pos (by rw [decide_eq_true_eq]; exact Or.inl y)] at zQ
    exact zQ
  · rw [k2_, i_eq (by omega) (by omega)] at y2
    rw [if_pos (by rw [decide_eq_true_eq]; exact Or.inr y2)] at zQ
    exact zQ
  · rw [k1_, i_eq (by omega) (by omega)] at y
    rw [k2_, i_eq (by omega) (by omega)] at y2
    rw [if_neg (by rw [decide_eq_true_eq]; omega)] at zQ
    exact zQ))
/-- a read has a register -/
theorem rd_iff (zP : Wp_ p) {i : Nat} (q : i < pN_ p) : (pC_ p i 1 = 1 ∨ pC_ p i 1 = 2) ↔ pC_ p i 3 ≠ -1 := by
  obtain ⟨h0, h1, -⟩ := zP
  obtain ⟨a1, a2, a3, a4, a5, a6, a7, -⟩ := h1 i q
  have r := h0.2.2.2.2 i 1
  constructor
  · intro y
    have := a6 y
    omega
  · intro y
    by_cases u : pC_ p i 1 = 0
    · exact absurd (a7 u) y
    · by_cases v : pC_ p i 1 = 3
      · exact absurd (a4 v).2.1 y
      · omega
theorem r_readsFrom (h : Jr_ σ A c) (zP : Wp_ (aP_ A).1) (q1 : -2147483648 ≤ z ∧ z < 2147483648) : Ra_ γ m_X12_readsFrom 3 [.ref 185, .int (i_ z)] σ A c eO_ (im_ A z (fun i => if pC_ (aP_ A).1 i 3 = -1 ∨ aE_ A = none then nse_ else ri_ ((ev_ A).2.1 i))) := by
  have zN := h.2.2.2.1.1
  have he := h.2.2.2.2.2.2
  have b := zN.1.1
  have hi := c_risInstr (γ := γ) h.1 zN q1
  refine ra_of (e_X12_readsFrom h.1 ?_)
  unfold p_X12_readsFrom_0
  by_cases u : 0 ≤ z ∧ z < pN_ (aP_ A).1
  · rw [decide_eq_true u] at hi
    refine ⟨_, σ, h.1, hi, fun y => absurd y (by decide), fun _ => ⟨_, σ, h.1, hi, fun y => absurd y (by decide), fun _ => ?_⟩⟩
    obtain ⟨i, rfl⟩ : ∃ i : Nat, z = i := ⟨z.toNat, by omega⟩
    have hr := c_rreads (γ := γ) h.1 zN (i := i) (by omega)
    have rd := rd_iff zP (i := i) (by omega)
    have im : ∀ f, im_ A (i : Int) f = f i := fun f => by
      unfold im_
      rw [if_pos u, Int.toNat_natCast]
    rw [im]
    refine ⟨_, σ, h.1, hr, ?_⟩
    by_cases v : pC_ (aP_ A).1 i 1 = 1 ∨ pC_ (aP_ A).1 i 1 = 2
    · have v2 := rd.mp v
      rw [decide_eq_true v]
      refine ⟨fun y => absurd y (by decide), fun _ => ?_⟩
      cases hE : aE_ A with
      | none =>
        rw [hE] at he
        have he : st_I σ 185 47 = i_ 0 := he
        rw [he, if_pos (Or.inr rfl)]
        exact ⟨fun _ => ⟨_, _, (show Wd (pt_I σ 185 0 _) from h.1), c_rf010 h.1, fun y => absurd y (by decide), fun _ => re_fail h rfl tcd_3 _⟩, fun y => absurd rfl y⟩
      | some x =>
        rw [hE] at he
        obtain ⟨h0, h1, h2, h3⟩ := he
        rw [h0, if_neg (by
          rintro (z | z)
          · exact v2 z
          · cases z)]
        refine ⟨fun y => absurd y (by decide), fun _ => ⟨_, _, (show Wd (pt_I σ 185 0 _) from h.1), c_rf000 h.1, fun _ => ?_, fun y => absurd rfl y⟩⟩
        rw [i_cl q1, Int.toNat_natCast, st_pI, if_neg (by omega), h2 i (by omega) v]
        refine ⟨i_in (by omega) (by omega) (by omega), ra_0 h ?_⟩
        have e1 : ev_ A = x := by
          unfold ev_
          rw [hE]
        rw [e1]
        rfl
    · have v2 : pC_ (aP_ A).1 i 3 = -1 := by
        by_cases y : pC_ (aP_ A).1 i 3 = -1
        · exact y
        · exact absurd (rd.mpr y) v
      rw [decide_eq_false v, if_pos (Or.inl v2)]
      exact ⟨fun _ => ⟨_, _, (show Wd (pt_I σ 185 0 _) from h.1), c_rf010 h.1, fun y => absurd y (by decide), fun _ => re_fail h rfl tcd_3 _⟩, fun y => absurd rfl y⟩
  · rw [decide_eq_false u] at hi
    exact ⟨_, σ, h.1, hi, fun _ => ⟨_, σ, h.1, hi, fun _ => ⟨_, _, (show Wd (pt_I σ 185 0 _) from h.1), c_rf100 h.1, fun y => absurd y (by decide), fun _ => re_fail h (if_neg u) tcd_2 _⟩, fun y => absurd rfl y⟩, fun y => absurd rfl y⟩
/-- the writers an explanation names are instructions -/
def Eg_ (A : ca_T) : Prop := ∀ n ∈ (ev_ A).2.2, n < pN_ (aP_ A).1
theorem wat_wlf {l : Nat} : ∀ (W : List Nat) (k : Nat), (∀ n ∈ W, n < pN_ p) → wat_ p l z k W = if (k : Int) ≤ z then (match (wlf_ p l W)[(z - k).toNat]? with | some n => (n : Int) | none => -1) else -1
  | [], k, _ => by
    show (-1 : Int) = _
    split
    · rfl
    · rfl
  | n :: r, k, hW => by
    have hn := hW n (List.mem_cons_self)
    have ih := fun k => wat_wlf (l := l) r k (fun x hx => hW x (List.mem_cons_of_mem _ hx))
    have ep : pp_ p (n : Int) 2 = pC_ p n 2 := pp_in hn (k := 2) (by decide)
    rw [wat_, ep]
    unfold wlf_ at ih ⊢
    by_cases v : pC_ p n 2 = l
    · rw [if_pos v, List.filter_cons_of_pos (by rw [decide_eq_true_eq]; exact v), ih (k + 1)]
      by_cases v2 : (k : Int) = z
      · rw [if_pos v2, if_pos (by omega), show (z - (k : Int)).toNat = 0 by omega]
        rfl
      · rw [if_neg v2]
        by_cases v3 : (k : Int) ≤ z
        · rw [if_pos v3, if_pos (by omega), show (z - (k : Int)).toNat = (z - ((k + 1 : Nat) : Int)).toNat + 1 by omega]
          rfl
        · rw [if_neg v3, if_neg (by omega)]
    · rw [if_neg v, List.filter_cons_of_neg (by rw [decide_eq_true_eq]; exact v), ih k]
theorem wlf_len (p : pr_T) (l : Nat) (W : List Nat) : (wlf_ p l W).length ≤ W.length := List.length_filter_le _ _
theorem r_writtenBy (h : Jr_ σ A c) (zE : Eg_ A) (q1 : -2147483648 ≤ z ∧ z < 2147483648) (q2 : -2147483648 ≤ y ∧ y < 2147483648) : Ra_ γ m_X12_writtenBy 1 [.ref 185, .int (i_ z), .int (i_ y)] σ A c eO_ (lm_ A z (fun l => ri_ (wat_ (aP_ A).1 l y 0 (ev_ A).2.2))) := by
  have zN := h.2.2.2.1.1
  have he := h.2.2.2.2.2.2
  have b := zN.1.2.2.1
  have w : Wd (pt_I σ 185 0 (i_ 0)) := h.1
  have hi := c_risIn (γ := γ) h.1 q1 (a := 0) (b := (pL_ (aP_ A).1 : Int) - 1) (by omega) (by omega)
  refine ra_of (e_X12_writtenBy h.1 ?_)
  unfold p_X12_writtenBy_0
  rw [zN.2.2.2.1, show i_ (pL_ (aP_ A).1 : Int) - (1 : Int32) = i_ ((pL_ (aP_ A).1 : Int) - 1) by rw [k1_, i_sub]]
  by_cases u : 0 ≤ z ∧ z < pL_ (aP_ A).1
  · rw [decide_eq_true (show 0 ≤ z ∧ z ≤ (pL_ (aP_ A).1 : Int) - 1 by omega)] at hi
    obtain ⟨l, rfl⟩ : ∃ l : Nat, z = l := ⟨z.toNat, by omega⟩
    have im : ∀ f, lm_ A (l : Int) f = f l := fun f => by
      unfold lm_
      rw [if_pos u, Int.toNat_natCast]
    rw [im, wat_wlf _ _ zE]
    refine ⟨_, σ, h.1, hi, fun y => absurd y (by decide), fun _ => ⟨_, _, w, c_rf000 h.1, fun _ => ?_, fun y => absurd rfl y⟩⟩
    rw [st_pI, if_neg (by omega)]
    cases hE : aE_ A with
    | none =>
      have e1 : ev_ A = ([], fun _ => 0, []) := by
        unfold ev_
        rw [hE]
      rw [hE] at he
      have he : st_I σ 185 47 = i_ 0 := he
      rw [he]
      refine ⟨fun _ => ra_0 h ?_, fun y => absurd rfl y⟩
      rw [e1]
      split
      · rfl
      · rfl
    | some x =>
      have e1 : ev_ A = x := by
        unfold ev_
        rw [hE]
      rw [hE] at he
      rw [e1]
      obtain ⟨h0, h1, h2, h3, h4⟩ := he
      obtain ⟨h5, h6⟩ := h4 l (by omega)
      have wl := wlf_len (aP_ A).1 l x.2.2
      have c0 : st_I (pt_I σ 185 0 (i_ 0)) 215 l = st_I σ 215 l := by rw [st_pI, if_neg (by omega)]
      rw [h0, i_cl q1, Int.toNat_natCast, c0, h5, show i_ ((wlf_ (aP_ A).1 l x.2.2).length : Int) - (1 : Int32) = i_ (((wlf_ (aP_ A).1 l x.2.2).length : Int) - 1) by rw [k1_, i_sub]]
      have hj := c_risIn (γ := γ) w q2 (a := 0) (b := ((wlf_ (aP_ A).1 l x.2.2).length : Int) - 1) (by omega) (by omega)
      refine ⟨fun y => absurd y (by decide), fun _ => ⟨i_in (by omega) (by omega) (by omega), _, _, w, hj, ?_⟩⟩
      by_cases v : 0 ≤ y ∧ y ≤ ((wlf_ (aP_ A).1 l x.2.2).length : Int) - 1
      · rw [decide_eq_true v, k60_, i_mul, i_add]
        obtain ⟨k, rfl⟩ : ∃ k : Nat, y = k := ⟨y.toNat, by omega⟩
        obtain ⟨n, hn⟩ : ∃ n, (wlf_ (aP_ A).1 l x.2.2)[k]? = some n := ⟨_, List.getElem?_eq_getElem (by omega)⟩
        have c1 : st_I (pt_I σ 185 0 (i_ 0)) 214 (60 * l + k) = i_ (n : Int) := by rw [st_pI, if_neg (by omega), h6 k n hn]
        rw [i_cl (by omega), show ((60 : Int) * (l : Int) + (k : Int)).toNat = 60 * l + k by omega, c1]
        refine ⟨fun y => absurd y (by decide), fun _ => ⟨i_in (by omega) (by omega) (by omega), ra_0 h ?_⟩⟩
        rw [if_pos (by omega), show ((k : Int) - ((0 : Nat) : Int)).toNat = k by omega, hn]
        rfl
      · rw [decide_eq_false v]
        refine ⟨fun _ => ra_0 h ?_, fun y => absurd rfl y⟩
        by_cases v2 : ((0 : Nat) : Int) ≤ y
        · rw [if_pos v2, List.getElem?_eq_none (by omega)]
          rfl
        · rw [if_neg v2]
          rfl
  · rw [decide_eq_false (show ¬ (0 ≤ z ∧ z ≤ (pL_ (aP_ A).1 : Int) - 1) by omega)] at hi
    exact ⟨_, σ, h.1, hi, fun _ => ⟨_, _, (show Wd (pt_I σ 185 0 _) from h.1), c_rf100 h.1, fun y => absurd y (by decide), fun _ => re_fail h (if_neg u) tcd_2 _⟩, fun y => absurd rfl y⟩
end RS
