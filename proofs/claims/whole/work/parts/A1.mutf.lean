/-! fences put in, taken out, undone -/
section MF
variable {γ : ga_T} {σ σ1 : st_T} {A A' : ca_T} {R : rt_T}
theorem pl_spec (f : Nat → Bool) : ∀ (k i : Nat) (z : Int), pl_ f z k i = -1 ∨ ∃ j : Nat, pl_ f z k i = j ∧ i ≤ j ∧ j < i + k ∧ f j = true := by
  intro k
  induction k with
  | zero => intro i z; exact Or.inl rfl
  | succ k ih =>
    intro i z
    rw [pl_]
    by_cases e : f i = true
    · rw [if_pos e]
      by_cases e0 : z = 0
      · rw [if_pos e0]
        exact Or.inr ⟨i, rfl, Nat.le_refl _, by omega, e⟩
      · rw [if_neg e0]
        rcases ih (i + 1) (z - 1) with y | ⟨j, y1, y2, y3, y4⟩
        · exact Or.inl y
        · exact Or.inr ⟨j, y1, by omega, by omega, y4⟩
    · rw [if_neg e]
      rcases ih (i + 1) z with y | ⟨j, y1, y2, y3, y4⟩
      · exact Or.inl y
      · exact Or.inr ⟨j, y1, by omega, by omega, y4⟩
theorem ppi_ {p : pr_T} {i k : Nat} (hi : i < pN_ p) (hk : k < 6) : pp_ p (i : Int) (k : Int) = pC_ p i k := by
  unfold pp_
  rw [if_pos (by omega), Int.toNat_natCast, Int.toNat_natCast]
def szt_ (p : pr_T) (t : Int) : Nat := ct_ (fun i => decide (pC_ p i 0 = t)) (pN_ p)
theorem c_szt {a : Nat} (zha : is_pg a) (zw : Wd σ) {p : pr_T} (zR : Rp_ σ a p) {t : Int} (q1 : -2147483648 ≤ t ∧ t < 2147483648) : fn_ γ m_X7_sizeOf 1 [.ref a, .int (i_ t)] σ (.int (i_ (szt_ p t))) σ := by
  have y := c_sizeOf (γ := γ) zha zw zR q1
  have e : ct_ (fun i => decide (pp_ p i 0 = t)) (pN_ p) = szt_ p t := ct_cg (fun j hj => by
    rw [show (0 : Int) = ((0 : Nat) : Int) from rfl, ppi_ hj (by decide)])
  rw [e] at y
  exact y
/-- program and changes put anew, everything forgotten -/
def Pc2_ (σ : st_T) (P' : pq_T) (C' : List Nat) (s : st_T) : Prop := Wd s ∧ Pq_ s 132 P' ∧ Xc_ s C' ∧ (∀ b, (b < 132 ∨ 136 < b) → b ≠ 179 → b ≠ 180 → eh_ σ s b) ∧ st_n s = st_n σ ∧ st_c s = st_c σ ∧ st_u s = st_u σ
theorem c_anew (h : J_ σ A R) {P' : pq_T} {C' : List Nat} (k : Pc2_ σ P' C' σ1) (hP : Pg_ P') : ∃ s, fw_ γ m_X11_forgetWhatWasFound 2 [.ref 128] σ1 s ∧ J_ s (aB_ A, an2_ A, P', aO_ A, C', none) R ∧ Co_ σ R 0 s R := by
  obtain ⟨k1, k2, k3, k4, k5, k6, k7⟩ := k
  obtain ⟨b1, b2⟩ := jb_mk (A' := (aB_ A, an2_ A, P', aO_ A, C', none)) h k1 k5 k6 k7 (fun b z1 z2 z3 => k4 b (by omega) z2 z3) ⟨⟨h.1.2.1.1, fun i zi => by rw [(k4 129 (by omega) (by omega) (by omega)).1]; exact h.1.2.1.2 i zi⟩, by rw [(k4 128 (by omega) (by omega) (by omega)).1]; exact h.1.2.2⟩ ⟨k2, hP⟩ ⟨Xo_eh h.2.2.1.1 (k4 _ (by omega) (by omega) (by omega)) (k4 _ (by omega) (by omega) (by omega)), k3⟩
  obtain ⟨s, f1, f2, f3⟩ := c_forgets (γ := γ) b1
  exact ⟨s, f1, f2, co_tr b2 f3⟩
theorem or_4 : ∀ n : Fin 11, (n.val * 8 ||| 4) = n.val * 8 + 4 := by decide
theorem or_t : ∀ (n : Fin 11) (t : Fin 4), (n.val * 8 ||| t.val) = n.val * 8 + t.val := by decide
theorem c_inserted (zw : Wd σ) {i : Nat} (hi : i ≤ 10) : fn_ γ m_X0_inserted 0 [.int (i_ (i : Int))] σ (.int (i_ ((i * 8 + 4 : Nat) : Int))) σ := fn_q (fun Q zQ => e_X0_inserted zw (by
  unfold p_X0_inserted_0
  have y := or_4 ⟨i, by omega⟩
  rw [show (31 : Int32) = i_ 31 from rfl, show (3 : Int32) = i_ ((3 : Nat) : Int) from rfl, i_shl (by decide) (by omega), show (4 : Int32) = i_ ((4 : Nat) : Int) from rfl, i_or (by omega) (by decide)]
  rw [← y] at zQ
  exact zQ))
theorem c_removed (zw : Wd σ) {i t : Nat} (hi : i ≤ 10) (ht : t < 4) : fn_ γ m_X0_removed 0 [.int (i_ (i : Int)), .int (i_ (t : Int))] σ (.int (i_ ((i * 8 + t : Nat) : Int))) σ := fn_q (fun Q zQ => e_X0_removed zw (by
  unfold p_X0_removed_0
  have y := or_t ⟨i, by omega⟩ ⟨t, ht⟩
  rw [show (31 : Int32) = i_ 31 from rfl, show (3 : Int32) = i_ ((3 : Nat) : Int) from rfl, i_shl (by decide) (by omega), i_or (by omega) (by omega)]
  rw [← y] at zQ
  exact zQ))
theorem c_place (zw : Wd σ) {c : Nat} (hc : c < 96) : fn_ γ m_X0_place 0 [.int (i_ (c : Int))] σ (.int (i_ ((c / 8 : Nat) : Int))) σ := fn_q (fun Q zQ => e_X0_place zw (by
  unfold p_X0_place_0
  rw [show (31 : Int32) = i_ 31 from rfl, show (3 : Int32) = i_ ((3 : Nat) : Int) from rfl, i_shr (by decide) (by omega)]
  exact zQ))
theorem c_cthread (zw : Wd σ) {c : Nat} (hc : c < 96) : fn_ γ m_X0_thread 0 [.int (i_ (c : Int))] σ (.int (i_ ((c % 4 : Nat) : Int))) σ := fn_q (fun Q zQ => e_X0_thread zw (by
  unfold p_X0_thread_0
  rw [show (3 : Int32) = i_ ((3 : Nat) : Int) from rfl, i_and (by omega) (by decide), show (3 : Nat) = 2 ^ 2 - 1 from rfl, Nat.and_two_pow_sub_one_eq_mod]
  exact zQ))
theorem and_4 : ∀ c : Fin 96, (c.val &&& 4 = 0 ↔ ¬ c.val / 4 % 2 = 1) ∧ c.val &&& 4 < 5 := by decide
theorem c_isIns (zw : Wd σ) {c : Nat} (hc : c < 96) : fn_ γ m_X0_isInsertion 0 [.int (i_ (c : Int))] σ (.int (i_ (if c / 4 % 2 = 1 then 1 else 0))) σ := fn_q (fun Q zQ => e_X0_isInsertion zw (by
  unfold p_X0_isInsertion_0
  obtain ⟨y, y2⟩ := and_4 ⟨c, hc⟩
  dsimp only at y y2
  rw [show (4 : Int32) = i_ ((4 : Nat) : Int) from rfl, i_and (by omega) (by decide), show (0 : Int32) = i_ 0 from rfl, i_eq (by omega) (by decide)]
  refine ⟨fun z => ?_, fun z => ?_⟩
  · rw [if_neg (y.mp (by omega))] at zQ
    exact zQ
  · rw [if_pos (Classical.byContradiction (fun k => z (by have := y.mpr k; omega)))] at zQ
    exact zQ))
/-- what insertFence answers and leaves -/
def inr_ (A : ca_T) (z : Int) : rs_T × ca_T :=
  let p := (aP_ A).1
  let i := pl_ (gb_ p) z (pN_ p) 0
  if i = -1 then (ioo_, A)
  else if 7 ≤ szt_ p (pC_ p i.toNat 0) ∨ 10 ≤ pN_ p then (ise_, A)
  else (ri_ i, (aB_ A, an2_ A, (ppf_ p i.toNat (pC_ p i.toNat 0).toNat, (aP_ A).2), aO_ A, cad_ (aC_ A) (i.toNat * 8 + 4), none))
theorem c_insertFence (h : J_ σ A R) (hv : Hv_ (aP_ A).1 (aC_ A)) {z : Int} (q1 : -2147483648 ≤ z ∧ z < 2147483648) : Ans_ γ m_X11_insertFence 8 [.ref 128, .int (i_ z)] σ R (inr_ A z).2 (inr_ A z).1 ∧ Hv_ (aP_ (inr_ A z).2).1 (aC_ (inr_ A z).2) := by
  have w := h.1.1
  have zR := h.2.1.1.1
  have W := h.2.1.2.1
  have b0 := zR.1.1
  have b5 := zR.1.2.2.2.2
  have cp := c_placeOfGap (γ := γ) (Or.inl rfl) w zR q1
  unfold inr_
  dsimp only
  rcases pl_spec (gb_ (aP_ A).1) (pN_ (aP_ A).1) 0 z with e | ⟨i, e, e1, e2, e3⟩
  · rw [e] at cp ⊢
    rw [if_pos rfl]
    refine ⟨anX_ h (fun Q zQ => e_X11_insertFence w ?_), hv⟩
    unfold p_X11_insertFence_0
    exact ⟨_, σ, w, cp, fun _ => zQ, fun z => absurd rfl z⟩
  · rw [e] at cp ⊢
    rw [if_neg (by omega), Int.toNat_natCast]
    have hi : i < pN_ (aP_ A).1 := by omega
    have Wi := W.2.1 i hi
    have t0 := Wi.1
    have t1 := Wi.2.1
    have b1 := zR.1.2.1
    obtain ⟨t, et⟩ : ∃ t : Nat, pC_ (aP_ A).1 i 0 = t := ⟨(pC_ (aP_ A).1 i 0).toNat, by omega⟩
    have cpr := c_property (γ := γ) (Or.inl rfl) w zR (z := i) (k := ((0 : Nat) : Int)) (by omega) (by decide)
    rw [ppi_ hi (by decide), et] at cpr
    have csz := c_szt (γ := γ) (Or.inl rfl) w zR (t := t) (by omega)
    have csl : szt_ (aP_ A).1 t ≤ pN_ (aP_ A).1 := ct_le _ _
    have cN := c_size (γ := γ) (Or.inl rfl) w zR
    have ne : ¬ i_ (i : Int) = -1 := by
      rw [show (-1 : Int32) = i_ (-1) from rfl, i_eq (by omega) (by decide)]
      omega
    rw [et]
    by_cases c : 7 ≤ szt_ (aP_ A).1 t ∨ 10 ≤ pN_ (aP_ A).1
    · rw [if_pos c]
      refine ⟨anX_ h (fun Q zQ => e_X11_insertFence w ?_), hv⟩
      unfold p_X11_insertFence_0
      refine ⟨_, σ, w, cp, fun z => absurd z ne, fun _ => ⟨_, σ, w, cpr, _, σ, w, csz, ?_⟩⟩
      simp (disch := omega) only [i_lit, i_le]
      refine ⟨fun _ => zQ, fun y => ⟨_, σ, w, cN, ?_⟩⟩
      simp (disch := omega) only [i_lit, i_lt]
      exact ⟨fun z => by omega, fun _ => zQ⟩
    · rw [if_neg c, Int.toNat_natCast]
      have W2 : Wp_ (ppf_ (aP_ A).1 i t) := wp_ins W (by omega) (by omega) (by omega) (fun j hj => by rw [← et]; exact W.2.2.1 j i (by omega) hi) (fun j h1 h2 => by rw [← et]; exact W.2.2.1 i j h1 h2) (show szt_ (aP_ A).1 t < 7 by omega)
      obtain ⟨s1, f1, f2, f3, f4⟩ := c_putFence (γ := γ) (Or.inl rfl) w h.2.1.1 (i0 := i) (t := t) (by omega) (by omega) (by omega)
      have x1 : Xc_ s1 (aC_ A) := Xc_eh h.2.2.1.2.1 (f4.1 179 (by omega)) (f4.1 180 (by omega))
      obtain ⟨s2, g1, g2, g3, g4⟩ := c_chadd (γ := γ) f2 x1 (i * 8 + 4)
      have P2 : Pg_ (ppf_ (aP_ A).1 i t, (aP_ A).2) := pg_of h.2.1.2 W2 rfl rfl
      have k : Pc2_ σ (ppf_ (aP_ A).1 i t, (aP_ A).2) (cad_ (aC_ A) (i * 8 + 4)) s2 := ⟨g2, pq_eh f3 (g4.1 _ (by omega) (by omega)) (g4.1 _ (by omega) (by omega)) (g4.1 _ (by omega) (by omega)) (g4.1 _ (by omega) (by omega)) (g4.1 _ (by omega) (by omega)), g3, fun b z1 z2 z3 => eh_tr (f4.1 b z1) (g4.1 b z2 z3), g4.2.1.trans f4.2.1, g4.2.2.1.trans f4.2.2.1, g4.2.2.2.trans f4.2.2.2⟩
      obtain ⟨s3, k1, k2, k3⟩ := c_anew (γ := γ) h k P2
      refine ⟨⟨s3, R, sq_ (fun Q zQ => e_X11_insertFence w ?_), k2, co_1 k3⟩, ?_⟩
      · unfold p_X11_insertFence_0
        refine ⟨_, σ, w, cp, fun z => absurd z ne, fun _ => ⟨_, σ, w, cpr, _, σ, w, csz, ?_⟩⟩
        simp (disch := omega) only [i_lit, i_le]
        refine ⟨fun y => by omega, fun y => ⟨_, σ, w, cN, ?_⟩⟩
        simp (disch := omega) only [i_lit, i_lt]
        exact ⟨fun _ => ⟨s1, f2, f1, _, s1, f2, c_inserted f2 (by omega), s2, g2, g1, s3, k2.1.1, k1, zQ⟩, fun z => by omega⟩
      · refine hv_add (p := (aP_ A).1) (fun _ => ?_) (fun z => absurd (by omega) z) ?_ W hv
        · show (i * 8 + 4) / 8 < pN_ (aP_ A).1 + 1
          omega
        · unfold cu_
          rw [if_pos (by omega), show (i * 8 + 4) / 8 = i by omega]
          exact pd_pf i t
/-- what removeFence answers and leaves -/
def rmr_ (A : ca_T) (z : Int) : rs_T × ca_T :=
  let p := (aP_ A).1
  if 0 ≤ z ∧ z < pN_ p then (if pC_ p z.toNat 1 = 3 then (ri_ ((pN_ p : Int) - 1), (aB_ A, an2_ A, (ppd_ p z.toNat, (aP_ A).2), aO_ A, cad_ (aC_ A) (z.toNat * 8 + (pC_ p z.toNat 0).toNat), none)) else (nse_, A)) else (ioo_, A)
theorem c_removeFence (h : J_ σ A R) (hv : Hv_ (aP_ A).1 (aC_ A)) (hc : Cn_ (aP_ A).1) {z : Int} (q1 : -2147483648 ≤ z ∧ z < 2147483648) : Ans_ γ m_X11_removeFence 9 [.ref 128, .int (i_ z)] σ R (rmr_ A z).2 (rmr_ A z).1 ∧ Hv_ (aP_ (rmr_ A z).2).1 (aC_ (rmr_ A z).2) := by
  have w := h.1.1
  have zR := h.2.1.1.1
  have W := h.2.1.2.1
  have b0 := zR.1.1
  have b5 := zR.1.2.2.2.2
  unfold rmr_
  dsimp only
  by_cases hz : 0 ≤ z ∧ z < pN_ (aP_ A).1
  · rw [if_pos hz]
    obtain ⟨i, rfl⟩ : ∃ i : Nat, z = i := ⟨z.toNat, by omega⟩
    rw [Int.toNat_natCast]
    have hi : i < pN_ (aP_ A).1 := by omega
    have Wi := W.2.1 i hi
    have t0 := Wi.1
    have t1 := Wi.2.1
    have b1 := zR.1.2.1
    have b51 := b5 i 1
    have hri := c_reqI (γ := γ) w zR hz
    obtain ⟨t, et⟩ : ∃ t : Nat, pC_ (aP_ A).1 i 0 = t := ⟨(pC_ (aP_ A).1 i 0).toNat, by omega⟩
    have cpr := c_property (γ := γ) (Or.inl rfl) w zR (z := i) (k := ((0 : Nat) : Int)) (by omega) (by decide)
    rw [ppi_ hi (by decide), et] at cpr
    have cp1 := c_property (γ := γ) (Or.inl rfl) w zR (z := i) (k := ((1 : Nat) : Int)) (by omega) (by decide)
    rw [ppi_ hi (by decide)] at cp1
    by_cases e3 : pC_ (aP_ A).1 i 1 = 3
    · rw [if_pos e3, et, Int.toNat_natCast]
      have hf3 : fw_ γ m_X11_requireFence 8 [.ref 128, .int (i_ (i : Int))] σ σ := fw_q (fun Q zQ => e_X11_requireFence w ⟨_, σ, w, cp1, fun _ => zQ, fun z => absurd (by rw [e3]; rfl) z⟩)
      have W2 := wp_del W hi e3
      obtain ⟨s1, f1, f2, f3, f4⟩ := c_chadd (γ := γ) w h.2.2.1.2.1 (i * 8 + t)
      have p1 : Pq_ s1 132 (aP_ A) := pq_eh h.2.1.1 (f4.1 _ (by omega) (by omega)) (f4.1 _ (by omega) (by omega)) (f4.1 _ (by omega) (by omega)) (f4.1 _ (by omega) (by omega)) (f4.1 _ (by omega) (by omega))
      obtain ⟨s2, g1, g2, g3, g4⟩ := c_drop (γ := γ) (Or.inl rfl) f2 p1 hi
      have P2 : Pg_ (ppd_ (aP_ A).1 i, (aP_ A).2) := pg_of h.2.1.2 W2 rfl rfl
      have k : Pc2_ σ (ppd_ (aP_ A).1 i, (aP_ A).2) (cad_ (aC_ A) (i * 8 + t)) s2 := ⟨g2, g3, Xc_eh f3 (g4.1 _ (by omega)) (g4.1 _ (by omega)), fun b z1 z2 z3 => eh_tr (f4.1 b z2 z3) (g4.1 b z1), g4.2.1.trans f4.2.1, g4.2.2.1.trans f4.2.2.1, g4.2.2.2.trans f4.2.2.2⟩
      obtain ⟨s3, k1, k2, k3⟩ := c_anew (γ := γ) h k P2
      have cN : fn_ γ m_X7_size 0 [.ref 132] s3 (.int (i_ ((pN_ (aP_ A).1 - 1 : Nat) : Int))) s3 := c_size (γ := γ) (Or.inl rfl) k2.1.1 k2.2.1.1.1
      rw [show ((pN_ (aP_ A).1 - 1 : Nat) : Int) = (pN_ (aP_ A).1 : Int) - 1 by omega] at cN
      refine ⟨⟨s3, R, sq_ (fun Q zQ => e_X11_removeFence w ?_), k2, co_1 k3⟩, ?_⟩
      · unfold p_X11_removeFence_0
        exact Or.inl ⟨σ, w, hri, Or.inl ⟨σ, w, hf3, _, σ, w, cpr, _, σ, w, c_removed w (by omega) (by omega), s1, f2, f1, s2, g2, g1, s3, k2.1.1, k1, _, s3, k2.1.1, cN, zQ⟩⟩
      · refine hv_add (p := (aP_ A).1) (fun z => absurd z (by omega)) (fun _ => ⟨?_, ?_⟩) ?_ W hv
        · show (i * 8 + t) / 8 ≤ pN_ (aP_ A).1 - 1
          omega
        · show pN_ (aP_ A).1 - 1 < 10
          omega
        · unfold cu_
          rw [if_neg (by omega), show (i * 8 + t) / 8 = i by omega, show (i * 8 + t) % 4 = t by omega]
          exact pf_pd W hc hi et e3
    · rw [if_neg e3]
      have hf3 : ft_ γ m_X11_requireFence 8 [.ref 128, .int (i_ (i : Int))] σ "java/util/NoSuchElementException" (pt_X σ 1 6) := ft_q (fun Q zQ => e_X11_requireFence w ⟨_, σ, w, cp1, fun z => by
        rw [show (3 : Int32) = i_ 3 from rfl, i_eq (by omega) (by decide)] at z
        exact absurd z e3, fun _ => zQ⟩)
      refine ⟨anX_ h (fun Q zQ => e_X11_removeFence w ?_), hv⟩
      unfold p_X11_removeFence_0
      exact Or.inl ⟨σ, w, hri, Or.inr ⟨pt_X σ 1 6, w, hf3, zQ⟩⟩
  · rw [if_neg hz]
    refine ⟨anX_ h (fun Q zQ => e_X11_removeFence w ?_), hv⟩
    unfold p_X11_removeFence_0
    exact Or.inr ⟨pt_X σ 1 6, w, c_noI w zR q1 hz, zQ⟩
/-- what undo answers and leaves -/
def udr_ (A : ca_T) : rs_T × ca_T := match (aC_ A).reverse with
  | [] => (ri_ (-1), A)
  | c :: r => (ri_ (r.length : Int), (aB_ A, an2_ A, (cu_ (aP_ A).1 c, (aP_ A).2), aO_ A, r.reverse, none))
theorem c_undo (h : J_ σ A R) (hv : Hv_ (aP_ A).1 (aC_ A)) : Ans_ γ m_X11_undo 3 [.ref 128] σ R (udr_ A).2 (udr_ A).1 ∧ Hv_ (aP_ (udr_ A).2).1 (aC_ (udr_ A).2) := by
  have w := h.1.1
  have zR := h.2.1.1.1
  have b0 := zR.1.1
  rcases c_take (γ := γ) w h.2.2.1.2.1 with ⟨e, f⟩ | ⟨D, c, e, s, f1, f2, f3, f4⟩
  · unfold udr_
    rw [e]
    rw [e] at hv
    refine ⟨an0_ h (fun Q zQ => e_X11_undo w ?_), show Hv_ (aP_ A).1 (aC_ A) by rw [e]; exact hv⟩
    unfold p_X11_undo_0
    exact ⟨_, σ, w, f, fun _ => zQ, fun z => absurd rfl z⟩
  · unfold udr_
    rw [e] at hv ⊢
    rw [List.reverse_append]
    obtain ⟨v1, v2, v3, v4⟩ := hv_take hv
    have p1 : Pq_ s 132 (aP_ A) := pq_eh h.2.1.1 (f4.1 _ (by omega) (by omega)) (f4.1 _ (by omega) (by omega)) (f4.1 _ (by omega) (by omega)) (f4.1 _ (by omega) (by omega)) (f4.1 _ (by omega) (by omega))
    have hc : c < 96 := by
      by_cases y : c / 4 % 2 = 1
      · have := v1 y
        omega
      · have := v2 y
        omega
    have P2 : Pg_ (cu_ (aP_ A).1 c, (aP_ A).2) := pg_of h.2.1.2 v3 (cu_TL c).1 (cu_TL c).2
    have ne : ¬ i_ (c : Int) = -1 := by
      rw [show (-1 : Int32) = i_ (-1) from rfl, i_eq (by omega) (by decide)]
      omega
    have fin : ∀ s2 : st_T, Wd s2 → Pq_ s2 132 (cu_ (aP_ A).1 c, (aP_ A).2) → gq_ 132 s s2 → ∃ s3, fw_ γ m_X11_forgetWhatWasFound 2 [.ref 128] s2 s3 ∧ J_ s3 (aB_ A, an2_ A, (cu_ (aP_ A).1 c, (aP_ A).2), aO_ A, D, none) R ∧ Co_ σ R 0 s3 R ∧ fn_ γ m_X0_size 0 [.ref 179] s3 (.int (i_ (D.length : Int))) s3 := by
      intro s2 g2 g3 g4
      have k : Pc2_ σ (cu_ (aP_ A).1 c, (aP_ A).2) D s2 := ⟨g2, g3, Xc_eh f3 (g4.1 _ (by omega)) (g4.1 _ (by omega)), fun b z1 z2 z3 => eh_tr (f4.1 b z2 z3) (g4.1 b z1), g4.2.1.trans f4.2.1, g4.2.2.1.trans f4.2.2.1, g4.2.2.2.trans f4.2.2.2⟩
      obtain ⟨s3, k1, k2, k3⟩ := c_anew (γ := γ) h k P2
      refine ⟨s3, k1, k2, k3, fn_q (fun Q zQ => e_X0_size k2.1.1 ?_)⟩
      unfold p_X0_size_0
      have y : st_I s3 179 1 = i_ (D.length : Int) := k2.2.2.1.2.1.2.1
      rw [y]
      exact zQ
    show Ans_ γ m_X11_undo 3 [.ref 128] σ R (aB_ A, an2_ A, (cu_ (aP_ A).1 c, (aP_ A).2), aO_ A, D.reverse.reverse, none) (ri_ (D.reverse.length : Int)) ∧ Hv_ (cu_ (aP_ A).1 c) D.reverse.reverse
    rw [List.reverse_reverse, List.length_reverse]
    refine ⟨?_, v4⟩
    by_cases y : c / 4 % 2 = 1
    · have ec : cu_ (aP_ A).1 c = ppd_ (aP_ A).1 (c / 8) := if_pos y
      obtain ⟨s2, g1, g2, g3, g4⟩ := c_drop (γ := γ) (Or.inl rfl) f2 p1 (v1 y)
      rw [← ec] at g3
      obtain ⟨s3, k1, k2, k3, k4⟩ := fin s2 g2 g3 g4
      refine ⟨s3, R, sq_ (fun Q zQ => e_X11_undo w ?_), k2, co_1 k3⟩
      have ci := c_isIns (γ := γ) f2 hc
      rw [if_pos y] at ci
      unfold p_X11_undo_0
      exact ⟨_, s, f2, f1, fun z => absurd z ne, fun _ => ⟨_, s, f2, ci, fun z => absurd z (by decide), fun _ => ⟨_, s, f2, c_place f2 hc, s2, g2, g1, s3, k2.1.1, k1, _, s3, k2.1.1, k4, zQ⟩⟩⟩
    · have ec : cu_ (aP_ A).1 c = ppf_ (aP_ A).1 (c / 8) (c % 4) := if_neg y
      obtain ⟨y1, y2⟩ := v2 y
      obtain ⟨s2, g1, g2, g3, g4⟩ := c_putFence (γ := γ) (Or.inl rfl) f2 p1 (i0 := c / 8) (t := c % 4) y2 y1 (by omega)
      rw [← ec] at g3
      obtain ⟨s3, k1, k2, k3, k4⟩ := fin s2 g2 g3 g4
      refine ⟨s3, R, sq_ (fun Q zQ => e_X11_undo w ?_), k2, co_1 k3⟩
      have ci := c_isIns (γ := γ) f2 hc
      rw [if_neg y] at ci
      unfold p_X11_undo_0
      exact ⟨_, s, f2, f1, fun z => absurd z ne, fun _ => ⟨_, s, f2, ci, fun _ => ⟨_, s, f2, c_place f2 hc, _, s, f2, c_cthread f2 hc, s2, g2, g1, s3, k2.1.1, k1, _, s3, k2.1.1, k4, zQ⟩, fun z => absurd rfl z⟩⟩
end MF
