/-! the class explains: simple answers; the first execution is run again -/
section FE
variable {γ : ga_T} {σ σ1 : st_T} {p : pr_T} {m : Nat} {F : Nat → Bool} {S S2 : gs_T} {t w : Nat} {L0 : List (Nat × Int64)} {t0 : tk_T} {c : Nat}
theorem c_xforget (zw : Wd σ) : fw_ γ m_X1_forget 0 [.ref 181] σ (pt_I (pt_I (pt_I σ 181 6 0) 181 4 0) 181 5 0) := fw_q (fun Q zQ => e_X1_forget zw zQ)
theorem c_xbegin (zw : Wd σ) : fw_ γ m_X1_begin 1 [.ref 181] σ (pt_I (pt_I (pt_I (pt_I σ 181 6 0) 181 4 0) 181 5 0) 181 6 1) := fw_q (fun Q zQ => e_X1_begin zw ⟨_, (show Wd (pt_I (pt_I (pt_I σ 181 6 0) 181 4 0) 181 5 0) from zw), c_xforget zw, zQ⟩)
theorem c_xpresent (zw : Wd σ) (h : st_I σ 181 6 = 0 ∨ st_I σ 181 6 = 1) : fn_ γ m_X1_isPresent 0 [.ref 181] σ (.int (st_I σ 181 6)) σ := fn_q (fun Q zQ => e_X1_isPresent zw ⟨h, zQ⟩)
theorem c_xsize (zw : Wd σ) {e : ex_T} (h : Xp_ σ e) : fn_ γ m_X1_size 0 [.ref 181] σ (.int (i_ (e.1.length : Int))) σ := fn_q (fun Q zQ => e_X1_size zw (by
  unfold p_X1_size_0
  rw [h.1.1]
  exact zQ))
/-- a step's number, an origin, a writer -/
def sta_ (e : ex_T) (z : Int) : Int := if 0 ≤ z then (match e.1[z.toNat]? with | some q => ((10 * q.1 + q.2 : Nat) : Int) | none => -1) else -1
theorem c_stepAt (zw : Wd σ) {e : ex_T} (h : Xp_ σ e) {z : Int} (q1 : -2147483648 ≤ z ∧ z < 2147483648) : fn_ γ m_X1_stepAt 0 [.ref 181, .int (i_ z)] σ (.int (i_ (sta_ e z))) σ := fn_q (fun Q zQ => e_X1_stepAt zw (by
  obtain ⟨a1, a2, a3⟩ := h.1
  unfold p_X1_stepAt_0
  rw [a1]
  simp (disch := omega) only [i_lit, i_neg, i_lt, i_le, i_in_iff, i_cl]
  refine ⟨fun z1 => ?_, fun z1 => ⟨fun z2 => ?_, fun z2 => ⟨fun z3 => by omega, fun z3 => ⟨by omega, ?_⟩⟩⟩⟩
  · exact qi_ zQ (by unfold sta_; rw [if_neg (by omega)])
  · exact qi_ zQ (by unfold sta_; rw [if_pos (by omega), List.getElem?_eq_none (by omega)])
  · obtain ⟨q, hq⟩ : ∃ q, e.1[z.toNat]? = some q := ⟨_, List.getElem?_eq_getElem (by omega)⟩
    rw [a3 _ _ hq]
    exact qi_ zQ (by unfold sta_; rw [if_pos (by omega), hq])))
theorem c_originOf (zw : Wd σ) {e : ex_T} (h : Xp_ σ e) {i : Nat} (q1 : i < 10) : fn_ γ m_X1_originOf 0 [.ref 181, .int (i_ (i : Int))] σ (.int (i_ (e.2.1 i))) σ := fn_q (fun Q zQ => e_X1_originOf zw (by
  unfold p_X1_originOf_0
  simp (disch := omega) only [i_lit, i_lt, i_le, i_in_iff, i_cl, Int.toNat_natCast]
  refine ⟨fun z1 => by omega, fun _ => ⟨fun z => by omega, fun _ => ⟨by omega, ?_⟩⟩⟩
  rw [h.2.2 i q1]
  exact zQ))
/-- the writer of a location at an index, counted from k on -/
def wat_ (p : pr_T) (l : Int) (z : Int) : Nat → List Nat → Int
  | _, [] => -1
  | k, n :: r => if pp_ p n 2 = l then (if (k : Int) = z then (n : Int) else wat_ p l z (k + 1) r) else wat_ p l z k r
theorem c_writerAt (zw : Wd σ) (zR : Rp_ σ 132 p) {e : ex_T} (h : Xp_ σ e) {l z : Int} (q1 : -2147483648 ≤ l ∧ l < 2147483648) (q2 : -2147483648 ≤ z ∧ z < 2147483648) : fn_ γ m_X1_writerAt 1 [.ref 181, .int (i_ l), .int (i_ z)] σ (.int (i_ (wat_ p l z 0 e.2.2))) σ := by
  obtain ⟨b1, b2, b3⟩ := h.2.1
  refine fn_q (fun Q zQ => e_X1_writerAt zw ?_)
  unfold p_X1_writerAt_0
  have key : ∀ (rest pre : List Nat) (k : Nat), e.2.2 = pre ++ rest → k ≤ pre.length → wat_ p l z 0 e.2.2 = wat_ p l z k rest → vv_ γ m_X1_writerAt 1 5 [(0, .ref 181), (1, .int (i_ l)), (2, .int (i_ z)), (3, .int (i_ (k : Int))), (4, .int (i_ (pre.length : Int)))] [] σ Q := by
    intro rest
    induction rest with
    | nil =>
      intro pre k e1 zk e2
      rw [List.append_nil] at e1
      rw [e2] at zQ
      refine g_X1_writerAt_5 zw ?_
      unfold p_X1_writerAt_5
      rw [b1, e1]
      exact ⟨fun _ => zQ, fun z => absurd (Int32.le_refl _) z⟩
    | cons n rest ih =>
      intro pre k e1 zk e2
      have l1 : e.2.2.length = pre.length + (rest.length + 1) := by rw [e1, List.length_append, List.length_cons]
      have hn : e.2.2[pre.length]? = some n := by rw [e1, List.getElem?_append_right (Nat.le_refl _), Nat.sub_self]; rfl
      have hs := b3 _ _ hn
      have h2 := hs.2
      have b0 := pp_rng zR.1 n 2
      have y := fun k' (a1 : k' ≤ pre.length + 1) a2 => ih (pre ++ [n]) k' (by rw [e1, List.append_assoc]; rfl) (by rw [List.length_append]; exact a1) a2
      rw [List.length_append, List.length_singleton, show ((pre.length + 1 : Nat) : Int) = (pre.length : Int) + 1 by omega] at y
      have e2 : wat_ p l z 0 e.2.2 = if pp_ p n 2 = l then (if (k : Int) = z then (n : Int) else wat_ p l z (k + 1) rest) else wat_ p l z k rest := e2
      refine g_X1_writerAt_5 zw ?_
      unfold p_X1_writerAt_5
      rw [b1, l1]
      simp (disch := omega) only [i_lit, i_le, i_in_iff, i_cl, Int.toNat_natCast, i_add]
      rw [hs.1]
      refine ⟨fun z => by omega, fun _ => ⟨fun z => by omega, fun _ => ⟨by omega, _, σ, zw, c_property pg_132 zw zR (by omega) (by omega), ?_⟩⟩⟩
      simp (disch := omega) only [i_eq]
      rw [hs.1]
      refine ⟨fun z3 => ⟨fun z4 => ⟨by omega, ?_⟩, fun z4 => ?_⟩, fun z3 => ?_⟩
      · rw [e2, if_pos z3, if_pos z4] at zQ
        exact zQ
      · rw [if_pos z3, if_neg z4] at e2
        have y1 := y (k + 1) (by omega) e2
        rw [show ((k + 1 : Nat) : Int) = (k : Int) + 1 by omega] at y1
        exact y1
      · rw [if_neg z3] at e2
        exact y k (by omega) e2
  exact key e.2.2 [] 0 rfl (Nat.le_refl _) rfl
/-- how many values are not written yet -/
def wpt_ (p : pr_T) (S : gs_T) : Nat := ct_ (fun n => ux_ p S n && decide (pC_ p n 1 ≠ 1 ∧ pC_ p n 1 ≠ 3)) (pN_ p) + ct_ (sW_ S) (pN_ p)
theorem gx_sumW {g : gm_T} (q : gx_ g S t = some S2) (h0 : gC_ g (gB_ g t + sP_ S t) 1 = 0) (hm : gm_ g = 0) : sW_ S2 = sW_ S := by
  unfold gx_ at q
  dsimp only at q
  split at q
  · cases q
  · rw [← Option.some.inj q]
    rfl
theorem wpt_step (zP : Wp_ p) (q : gt_ (gcl_ p m F) S t w = some S2) (e : ex_T) : (xs_ p (gcl_ p m F) S (t, w) e).2.2.length + wpt_ p S2 ≤ e.2.2.length + wpt_ p S := by
  by_cases y0 : w = 0
  · subst y0
    have zx : gx_ (gcl_ p m F) S t = some S2 := q
    obtain ⟨z1, z2, z3, -⟩ := gx_sum zx
    have y := th_n zP z1
    have z5 := gx_sumW zx
    have z3 : sW_ S2 = sW_ S ∨ (pC_ p (gB0_ p t + sP_ S t) 1 = 0 ∧ sW_ S2 = ub_ (sW_ S) (gB0_ p t + sP_ S t) true) := z3
    have z5 : pC_ p (gB0_ p t + sP_ S t) 1 = 0 → m = 0 → sW_ S2 = sW_ S := z5
    have ex : (xs_ p (gcl_ p m F) S (t, 0) e).2.2 = if pC_ p (gB0_ p t + sP_ S t) 1 = 2 ∨ (pC_ p (gB0_ p t + sP_ S t) 1 = 0 ∧ m = 0) then e.2.2 ++ [gB0_ p t + sP_ S t] else e.2.2 := rfl
    rw [ex]
    obtain ⟨n, hn⟩ : ∃ n, n = gB0_ p t + sP_ S t := ⟨_, rfl⟩
    rw [← hn] at y z3 z5 ⊢
    have u1 : ux_ p S n = true := decide_eq_true (by rw [y.2, Int.toNat_natCast]; omega)
    have u2 : ux_ p S2 n = false := decide_eq_false (by
      rw [y.2, Int.toNat_natCast, z2]
      unfold un_
      rw [if_pos rfl]
      omega)
    have u3 : ∀ j, j ≠ n → ux_ p S2 j = ux_ p S j := by
      intro j zj
      unfold ux_
      rw [z2]
      unfold un_
      by_cases e : (pC_ p j 0).toNat = t
      · rw [e, if_pos rfl]
        congr 1
        apply propext
        constructor
        · omega
        · omega
      · rw [if_neg e]
    unfold wpt_
    have c2 : ct_ (fun n => ux_ p S2 n && decide (pC_ p n 1 ≠ 1 ∧ pC_ p n 1 ≠ 3)) (pN_ p) ≤ ct_ (fun n => ux_ p S n && decide (pC_ p n 1 ≠ 1 ∧ pC_ p n 1 ≠ 3)) (pN_ p) := ct_mo (fun j _ z => by
      rw [Bool.and_eq_true] at z ⊢
      refine ⟨?_, z.2⟩
      by_cases e : j = n
      · rw [e]; exact u1
      · rw [← u3 j e]; exact z.1)
    have c3 : pC_ p n 1 ≠ 1 ∧ pC_ p n 1 ≠ 3 → ct_ (fun n => ux_ p S n && decide (pC_ p n 1 ≠ 1 ∧ pC_ p n 1 ≠ 3)) (pN_ p) = ct_ (fun n => ux_ p S2 n && decide (pC_ p n 1 ≠ 1 ∧ pC_ p n 1 ≠ 3)) (pN_ p) + 1 := fun hk => ct_pt y.1 (by
      show (ux_ p S n && decide (pC_ p n 1 ≠ 1 ∧ pC_ p n 1 ≠ 3)) = true
      rw [u1, decide_eq_true hk]
      rfl) (by
      show (ux_ p S2 n && decide (pC_ p n 1 ≠ 1 ∧ pC_ p n 1 ≠ 3)) = false
      rw [u2]
      rfl) (fun j zj => by
      show (ux_ p S2 j && decide (pC_ p j 1 ≠ 1 ∧ pC_ p j 1 ≠ 3)) = (ux_ p S j && decide (pC_ p j 1 ≠ 1 ∧ pC_ p j 1 ≠ 3))
      rw [u3 j zj])
    by_cases hw : pC_ p n 1 = 2 ∨ (pC_ p n 1 = 0 ∧ m = 0)
    · rw [if_pos hw, List.length_append, List.length_singleton]
      have c4 := c3 (by omega)
      have c5 : sW_ S2 = sW_ S := by
        rcases z3 with z3 | ⟨k0, z3⟩
        · exact z3
        · exact z5 k0 (by omega)
      rw [c5]
      omega
    · rw [if_neg hw]
      rcases z3 with z3 | ⟨k0, z3⟩
      · rw [z3]
        omega
      · have c4 := c3 (by omega)
        have c5 := ct_l1 (f := sW_ S) (f2 := sW_ S2) (n0 := n) (fun j zj => by
          rw [z3]
          exact if_neg zj) (pN_ p)
        omega
  · have zx : gc_ (gcl_ p m F) S t (w - 1) = some S2 := by
      unfold gt_ at q
      rw [if_neg y0] at q
      exact q
    obtain ⟨n, z1, z2, z3, z4⟩ := gc_sum zx
    have y := gn_sum z1
    have y1 := gl_le (m := m) (F := F) (t := t) zP
    have y3 : n < gB0_ p t + gl_ (gcl_ p m F) t := y.2.1
    have ex : xs_ p (gcl_ p m F) S (t, w) e = (e.1 ++ [(t, w)], e.2.1, e.2.2 ++ [n]) := by
      unfold xs_
      rw [if_neg y0]
      dsimp only
      rw [z1]
    rw [ex]
    show (e.2.2 ++ [n]).length + _ ≤ _
    rw [List.length_append, List.length_singleton]
    have c1 := ct_pt (f := sW_ S) (f2 := sW_ S2) (n0 := n) (N := pN_ p) (by omega) y.2.2.1 (by rw [z4]; exact if_pos rfl) (fun j zj => by rw [z4]; exact if_neg zj)
    have e : ux_ p S2 = ux_ p S := by
      funext j
      unfold ux_
      rw [z2]
    unfold wpt_
    rw [e]
    omega
theorem wpt_0 (zP : Wp_ p) {k : Nat} : wpt_ p (s0k_ p k) ≤ 8 := by
  have y3 : ct_ (fun n => ux_ p (s0k_ p k) n && decide (pC_ p n 1 ≠ 1 ∧ pC_ p n 1 ≠ 3)) (pN_ p) ≤ ct_ (fun i => decide (pC_ p i 1 ≠ 3)) (pN_ p) := ct_mo (fun j _ z => by
    rw [Bool.and_eq_true, decide_eq_true_eq] at z
    rw [decide_eq_true_eq]
    exact z.2.2)
  have y4 := zP.2.2.2.2.2.2.2
  have y5 : ct_ (sW_ (s0k_ p k)) (pN_ p) = 0 := by
    have key : ∀ N, ct_ (fun _ => false) N = 0 := by
      intro N
      induction N with
      | zero => rfl
      | succ N ih =>
        unfold ct_
        rw [ih]
        rfl
    exact key _
  unfold wpt_
  omega
/-- the explanation of a path -/
def xr_ (p : pr_T) (g : gm_T) : gs_T → ex_T → List (Nat × Nat) → ex_T
  | _, e, [] => e
  | S, e, q :: r => match gt_ g S q.1 q.2 with
    | some S2 => xr_ p g S2 (xs_ p g S q e) r
    | none => e
theorem xs_len (zP : Wp_ p) (q : gt_ (gcl_ p m F) S t w = some S2) (e : ex_T) : (xs_ p (gcl_ p m F) S (t, w) e).1 = e.1 ++ [(t, w)] := by
  by_cases y0 : w = 0
  · subst y0
    rfl
  · have zx : gc_ (gcl_ p m F) S t (w - 1) = some S2 := by
      unfold gt_ at q
      rw [if_neg y0] at q
      exact q
    obtain ⟨n, z1, -⟩ := gc_sum zx
    unfold xs_
    rw [if_neg y0]
    dsimp only
    rw [z1]
end FE
