/-! Program: what builds it -/
section MV
variable {γ : ga_T} {a : Nat} {σ σ1 : st_T} {p : pr_T} {P : pq_T}
def Nv_ (P : pq_T) : Prop := ∀ l, l < pL_ P.1 → Nam_ (P.2.1 l)
/-- what a change of the program at a leaves alone -/
def gq_ (a : Nat) (σ σ1 : st_T) : Prop := (∀ b, b < a ∨ a + 4 < b → eh_ σ σ1 b) ∧ st_n σ1 = st_n σ ∧ st_c σ1 = st_c σ ∧ st_u σ1 = st_u σ
theorem gq_rf : gq_ a σ σ := ⟨fun b _ => eh_rf b, rfl, rfl, rfl⟩
theorem gq_tr {σ2 : st_T} (h : gq_ a σ σ1) (k : gq_ a σ1 σ2) : gq_ a σ σ2 := ⟨fun b z => eh_tr (h.1 b z) (k.1 b z), k.2.1.trans h.2.1, k.2.2.1.trans h.2.2.1, k.2.2.2.trans h.2.2.2⟩
theorem gq_I {b k : Nat} {v : Int32} (h : a ≤ b ∧ b ≤ a + 4) : gq_ a σ (pt_I σ b k v) := ⟨fun c z => eh_I (by omega), rfl, rfl, rfl⟩
theorem gq_L {b k : Nat} {v : Int64} (h : a ≤ b ∧ b ≤ a + 4) : gq_ a σ (pt_L σ b k v) := ⟨fun c z => eh_L (by omega), rfl, rfl, rfl⟩
theorem c_named (zha : is_pg a) (zw : Wd σ) (zQ0 : Pq_ σ a P) (zN : Nv_ P) {l : List Int} (hl : Nam_ l) : fn_ γ m_X7_locationNamed 0 [.ref a, .long (ncd_ l)] σ (.int (i_ (lnm_ P l))) σ := by
  have b3 := zQ0.1.1.2.2.1
  have b4 := zQ0.1.2.2.2.1
  refine fn_q (fun Q zQ => e_X7_locationNamed zha zw ?_)
  unfold p_X7_locationNamed_0
  have key : ∀ k i : Nat, k + i = pL_ P.1 → lnm_ P l = pl_ (fun i => decide (P.2.1 i = l)) 0 k i → vv_ γ m_X7_locationNamed 0 2 [(0, .ref a), (1, .long (ncd_ l)), (3, .int (i_ (i : Int)))] [] σ Q := by
    intro k
    induction k with
    | zero =>
      intro i zi e
      have zi : i = pL_ P.1 := by omega
      subst zi
      rw [e] at zQ
      refine g_X7_locationNamed_2 zha zw ?_
      unfold p_X7_locationNamed_2
      rw [b4]
      exact ⟨fun _ => zQ, fun z => absurd (Int32.le_refl _) z⟩
    | succ k ih =>
      intro i zi e
      have e : lnm_ P l = if decide (P.2.1 i = l) = true then (if (0 : Int) = 0 then (i : Int) else pl_ (fun i => decide (P.2.1 i = l)) (0 - 1) k (i + 1)) else pl_ (fun i => decide (P.2.1 i = l)) 0 k (i + 1) := e
      have hn := zQ0.2.1 i (by omega)
      refine g_X7_locationNamed_2 zha zw ?_
      unfold p_X7_locationNamed_2
      rw [b4]
      simp (disch := omega) only [i_lit, i_le, i_in_iff, i_cl, Int.toNat_natCast, i_add]
      rw [hn, ncd_inj (zN i (by omega)) hl]
      refine ⟨fun z => by omega, fun _ => ⟨fun z => by omega, fun _ => ⟨by omega, fun z => ?_, fun z => ?_⟩⟩⟩
      · rw [e, if_pos (decide_eq_true z), if_pos rfl] at zQ
        exact zQ
      · rw [if_neg (by rw [decide_eq_true_eq]; exact z)] at e
        exact ih (i + 1) (by omega) e
  exact key (pL_ P.1) 0 rfl rfl
def upd_ {α : Type} (f : Nat → α) (i : Nat) (v : α) : Nat → α := fun j => if j = i then v else f j
def pal_ (P : pq_T) (l : List Int) (v : Int) : pq_T := ((pN_ P.1, pT_ P.1, pL_ P.1 + 1, upd_ (pI_ P.1) (pL_ P.1) v, pC_ P.1), upd_ P.2.1 (pL_ P.1) l, P.2.2)
theorem c_addLocation (zha : is_pg a) (zw : Wd σ) (h : Pq_ σ a P) (hL : pL_ P.1 < 3) (l : List Int) {v : Int} (hv : 0 ≤ v ∧ v ≤ 3) : ∃ σ1, fw_ γ m_X7_addLocation 0 [.ref a, .long (ncd_ l), .int (i_ v)] σ σ1 ∧ Wd σ1 ∧ Pq_ σ1 a (pal_ P l v) ∧ gq_ a σ σ1 := by
  obtain ⟨⟨⟨r1, r2, r3, r4, r5⟩, r6, r7, r8, r9, r10⟩, b2, b3, b4, b5⟩ := h
  have e4 : st_I (pt_I (pt_L σ (a + 1) (pL_ P.1) (ncd_ l)) (a + 2) (pL_ P.1) (i_ v)) a 4 = i_ (pL_ P.1 : Int) := by
    rw [st_pI, if_neg (by omega)]
    exact r8
  refine ⟨pt_I (pt_I (pt_L σ (a + 1) (pL_ P.1) (ncd_ l)) (a + 2) (pL_ P.1) (i_ v)) a 4 (i_ ((pL_ P.1 + 1 : Nat) : Int)), fw_q (fun Q zQ => e_X7_addLocation zha zw ?_), zw, ⟨⟨⟨r1, r2, hL, fun k => ?_, r5⟩, ?_, ?_, ?_, fun k zk => ?_, fun i k z1 z2 => ?_⟩, fun k zk => ?_, b3, ?_, fun k u z => ?_⟩, gq_tr (gq_tr (gq_L (by omega)) (gq_I (by omega))) (gq_I (by omega))⟩
  · unfold p_X7_addLocation_0
    have ec : (i_ (pL_ P.1 : Int)).toNatClampNeg = pL_ P.1 := by rw [i_cl (by omega), Int.toNat_natCast]
    rw [r8, ec, e4]
    simp (disch := omega) only [i_lit, i_le, i_in_iff, i_add]
    exact ⟨fun z => by omega, fun _ => ⟨by omega, by omega, zQ⟩⟩
  · show 0 ≤ upd_ (pI_ P.1) (pL_ P.1) v k ∧ upd_ (pI_ P.1) (pL_ P.1) v k ≤ 3
    unfold upd_
    split
    · exact hv
    · exact r4 k
  · rw [st_pI, if_neg (by omega), st_pI, if_neg (by omega)]
    exact r6
  · rw [st_pI, if_neg (by omega), st_pI, if_neg (by omega)]
    exact r7
  · exact st_sI _ _ _ _
  · have zk : k < pL_ P.1 + 1 := zk
    show st_I (pt_I (pt_I (pt_L σ (a + 1) (pL_ P.1) (ncd_ l)) (a + 2) (pL_ P.1) (i_ v)) a 4 (i_ ((pL_ P.1 + 1 : Nat) : Int))) (a + 2) k = i_ (upd_ (pI_ P.1) (pL_ P.1) v k)
    rw [st_pI, if_neg (by omega), st_pI]
    unfold upd_
    by_cases y : k = pL_ P.1
    · rw [if_pos ⟨rfl, y⟩, if_pos y]
    · rw [if_neg (fun w => y w.2), if_neg y]
      exact r9 k (by omega)
  · rw [st_pI, if_neg (by omega), st_pI, if_neg (by omega)]
    exact r10 i k z1 z2
  · have zk : k < pL_ P.1 + 1 := zk
    show (if a + 1 = a + 1 ∧ k = pL_ P.1 then ncd_ l else st_L σ (a + 1) k) = ncd_ (upd_ P.2.1 (pL_ P.1) l k)
    unfold upd_
    by_cases y : k = pL_ P.1
    · rw [if_pos ⟨rfl, y⟩, if_pos y]
    · rw [if_neg (fun w => y w.2), if_neg y]
      exact b2 k (by omega)
  · rw [st_pI, if_neg (by omega), st_pI, if_neg (by omega)]
    exact b4
  · rw [st_pI, if_neg (by omega), st_pI, if_neg (by omega)]
    exact b5 k u z
def pat_ (P : pq_T) : pq_T := ((pN_ P.1, pT_ P.1 + 1, pL_ P.1, pI_ P.1, pC_ P.1), P.2.1, P.2.2)
theorem c_addThread (zha : is_pg a) (zw : Wd σ) (h : Pq_ σ a P) (hT : pT_ P.1 < 4) : ∃ σ1, fw_ γ m_X7_addThread 0 [.ref a] σ σ1 ∧ Wd σ1 ∧ Pq_ σ1 a (pat_ P) ∧ gq_ a σ σ1 := by
  obtain ⟨⟨⟨r1, r2, r3, r4, r5⟩, r6, r7, r8, r9, r10⟩, b2, b3, b4, b5⟩ := h
  refine ⟨pt_I σ a 5 (i_ ((pT_ P.1 + 1 : Nat) : Int)), fw_q (fun Q zQ => e_X7_addThread zha zw ?_), zw, ⟨⟨⟨r1, hT, r3, r4, r5⟩, ?_, st_sI _ _ _ _, ?_, fun k zk => ?_, fun i k z1 z2 => ?_⟩, b2, b3, ?_, fun k u z => ?_⟩, gq_I (by omega)⟩
  · unfold p_X7_addThread_0
    rw [r7]
    simp (disch := omega) only [i_lit, i_le, i_add]
    exact ⟨fun z => by omega, fun _ => zQ⟩
  · rw [st_pI, if_neg (by omega)]
    exact r6
  · rw [st_pI, if_neg (by omega)]
    exact r8
  · rw [st_pI, if_neg (by omega)]
    exact r9 k zk
  · rw [st_pI, if_neg (by omega)]
    exact r10 i k z1 z2
  · rw [st_pI, if_neg (by omega)]
    exact b4
  · rw [st_pI, if_neg (by omega)]
    exact b5 k u z
def pac_ (P : pq_T) (u : Int) : pq_T := (P.1, P.2.1, P.2.2 ++ [u])
theorem c_addCond (zha : is_pg a) (zw : Wd σ) (h : Pq_ σ a P) (hC : P.2.2.length < 31) (u : Int) : ∃ σ1, fw_ γ m_X7_addToCondition 0 [.ref a, .int (i_ u)] σ σ1 ∧ Wd σ1 ∧ Pq_ σ1 a (pac_ P u) ∧ gq_ a σ σ1 := by
  obtain ⟨⟨rb, r6, r7, r8, r9, r10⟩, b2, b3, b4, b5⟩ := h
  have e4 : st_I (pt_I σ (a + 4) P.2.2.length (i_ u)) a 7 = i_ (P.2.2.length : Int) := by
    rw [st_pI, if_neg (by omega)]
    exact b4
  refine ⟨pt_I (pt_I σ (a + 4) P.2.2.length (i_ u)) a 7 (i_ ((P.2.2.length + 1 : Nat) : Int)), fw_q (fun Q zQ => e_X7_addToCondition zha zw ?_), zw, ⟨⟨rb, ?_, ?_, ?_, fun k zk => ?_, fun i k z1 z2 => ?_⟩, b2, ?_, ?_, fun k x z => ?_⟩, gq_tr (gq_I (by omega)) (gq_I (by omega))⟩
  · unfold p_X7_addToCondition_0
    have ec : (i_ (P.2.2.length : Int)).toNatClampNeg = P.2.2.length := by rw [i_cl (by omega), Int.toNat_natCast]
    rw [b4, ec, e4]
    simp (disch := omega) only [i_lit, i_le, i_in_iff, i_add]
    exact ⟨fun z => by omega, fun _ => ⟨by omega, zQ⟩⟩
  · rw [st_pI, if_neg (by omega), st_pI, if_neg (by omega)]
    exact r6
  · rw [st_pI, if_neg (by omega), st_pI, if_neg (by omega)]
    exact r7
  · rw [st_pI, if_neg (by omega), st_pI, if_neg (by omega)]
    exact r8
  · rw [st_pI, if_neg (by omega), st_pI, if_neg (by omega)]
    exact r9 k zk
  · rw [st_pI, if_neg (by omega), st_pI, if_neg (by omega)]
    exact r10 i k z1 z2
  · show (P.2.2 ++ [u]).length ≤ 31
    rw [List.length_append]
    exact hC
  · show st_I (pt_I _ a 7 (i_ ((P.2.2.length + 1 : Nat) : Int))) a 7 = i_ ((P.2.2 ++ [u]).length : Int)
    rw [st_sI, List.length_append]
    rfl
  · have z : (P.2.2 ++ [u])[k]? = some x := z
    rw [st_pI, if_neg (by omega), st_pI]
    by_cases y : k < P.2.2.length
    · rw [List.getElem?_append_left y] at z
      rw [if_neg (by omega)]
      exact b5 k x z
    · have z2 := (List.getElem?_eq_some_iff.mp z).1
      rw [List.length_append, List.length_singleton] at z2
      have z3 : k = P.2.2.length := by omega
      subst z3
      rw [List.getElem?_append_right (Nat.le_refl _), Nat.sub_self] at z
      have z : some u = some x := z
      rw [if_pos ⟨rfl, rfl⟩, Option.some.inj z]
/-- a row of properties, written in order -/
def Row_ (σ0 : st_T) (a i : Nat) (row : Nat → Int) (k : Nat) (s : st_T) : Prop := Wd s ∧ (∀ b, b ≠ a + 3 → eh_ σ0 s b) ∧ (∀ j, st_I s (a + 3) j = if 6 * i ≤ j ∧ j < 6 * i + k then i_ (row (j - 6 * i)) else st_I σ0 (a + 3) j) ∧ st_n s = st_n σ0 ∧ st_c s = st_c σ0 ∧ st_u s = st_u σ0
theorem c_setP (zha : is_pg a) (zw : Wd σ) {i k : Nat} (hi : i < 10) (hk : k < 6) (v : Int32) : fw_ γ m_X7_setProperty 0 [.ref a, .int (i_ (i : Int)), .int (i_ (k : Int)), .int v] σ (pt_I σ (a + 3) (6 * i + k) v) := fw_q (fun Q zQ => e_X7_setProperty zha zw (by
  unfold p_X7_setProperty_0
  simp (disch := omega) only [i_lit, i_mul, i_add, i_lt, i_le, i_in_iff, i_cl]
  refine ⟨fun z => by omega, fun _ => ⟨fun z => by omega, fun _ => ⟨by omega, ?_⟩⟩⟩
  rw [show ((i : Int) * OfNat.ofNat 6 + (k : Int)).toNat = 6 * i + k by show ((i : Int) * 6 + (k : Int)).toNat = _; omega]
  exact zQ))
theorem row_0 (zw : Wd σ) {i : Nat} {row : Nat → Int} : Row_ σ a i row 0 σ := ⟨zw, fun b _ => eh_rf b, fun j => by rw [if_neg (by omega)], rfl, rfl, rfl⟩
theorem c_row (zha : is_pg a) {σ0 s : st_T} {i k : Nat} {row : Nat → Int} (h : Row_ σ0 a i row k s) (hi : i < 10) (hk : k < 6) : ∃ s2, fw_ γ m_X7_setProperty 0 [.ref a, .int (i_ (i : Int)), .int (i_ (k : Int)), .int (i_ (row k))] s s2 ∧ Wd s2 ∧ Row_ σ0 a i row (k + 1) s2 := by
  obtain ⟨h1, h2, h3, h4, h5, h6⟩ := h
  refine ⟨_, c_setP zha h1 hi hk _, h1, h1, fun b zb => eh_tr (h2 b zb) (eh_I zb), fun j => ?_, h4, h5, h6⟩
  rw [st_pI, h3]
  by_cases y : j = 6 * i + k
  · subst y
    rw [if_pos ⟨rfl, rfl⟩, if_pos (by omega), show 6 * i + k - 6 * i = k by omega]
  · rw [if_neg (fun w => y w.2)]
    by_cases y2 : 6 * i ≤ j ∧ j < 6 * i + k
    · rw [if_pos y2, if_pos (by omega)]
    · rw [if_neg y2, if_neg (by omega)]
def rw6_ (t k l g c s : Int) : Nat → Int := fun j => if j = 0 then t else if j = 1 then k else if j = 2 then l else if j = 3 then g else if j = 4 then c else if j = 5 then s else -1
def pai_ (P : pq_T) (k l g c s : Int) : pq_T := ((pN_ P.1 + 1, pT_ P.1, pL_ P.1, pI_ P.1, upd_ (pC_ P.1) (pN_ P.1) (rw6_ ((pT_ P.1 : Int) - 1) k l g c s)), P.2.1, P.2.2)
theorem c_addInstr (zha : is_pg a) (zw : Wd σ) (h : Pq_ σ a P) (hN : pN_ P.1 < 10) {k l g c s : Int} (hk : -1 ≤ k ∧ k ≤ 3) (hl : -1 ≤ l ∧ l ≤ 3) (hg : -1 ≤ g ∧ g ≤ 3) (hc : -1 ≤ c ∧ c ≤ 3) (hs : -1 ≤ s ∧ s ≤ 3) : ∃ σ1, fw_ γ m_X7_addInstruction 1 [.ref a, .int (i_ k), .int (i_ l), .int (i_ g), .int (i_ c), .int (i_ s)] σ σ1 ∧ Wd σ1 ∧ Pq_ σ1 a (pai_ P k l g c s) ∧ gq_ a σ σ1 := by
  obtain ⟨⟨⟨r1, r2, r3, r4, r5⟩, r6, r7, r8, r9, r10⟩, b2, b3, b4, b5⟩ := h
  obtain ⟨s0, e0⟩ : ∃ s0, s0 = pt_I σ a 6 (i_ ((pN_ P.1 + 1 : Nat) : Int)) := ⟨_, rfl⟩
  have w0 : Wd s0 := by rw [e0]; exact zw
  have n0 : st_I s0 a 6 = i_ ((pN_ P.1 + 1 : Nat) : Int) := by rw [e0]; exact st_sI _ _ _ _
  have o0 : ∀ j, j ≠ 6 → st_I s0 a j = st_I σ a j := fun j zj => by rw [e0, st_pI, if_neg (by omega)]
  have k0 : ∀ b, b ≠ a → eh_ σ s0 b := fun b z => by rw [e0]; exact eh_I z
  obtain ⟨row, hrow⟩ : ∃ row, row = rw6_ ((pT_ P.1 : Int) - 1) k l g c s := ⟨_, rfl⟩
  have im : ∀ s2 : st_T, (∀ b, b ≠ a + 3 → eh_ s0 s2 b) → st_I s2 a 6 - 1 = i_ (pN_ P.1 : Int) := fun s2 hs2 => by
    rw [(hs2 a (by omega)).1, n0, i_lit 1, i_sub]
    congr 1
    show ((pN_ P.1 + 1 : Nat) : Int) - 1 = _
    omega
  obtain ⟨s1, a1, w1, R1⟩ := c_row (γ := γ) zha (row_0 (row := row) w0) (i := pN_ P.1) hN (by decide)
  obtain ⟨s2, a2, w2, R2⟩ := c_row (γ := γ) zha R1 hN (by decide)
  obtain ⟨s3, a3, w3, R3⟩ := c_row (γ := γ) zha R2 hN (by decide)
  obtain ⟨s4, a4, w4, R4⟩ := c_row (γ := γ) zha R3 hN (by decide)
  obtain ⟨s5, a5, w5, R5⟩ := c_row (γ := γ) zha R4 hN (by decide)
  obtain ⟨s6, a6, w6, R6⟩ := c_row (γ := γ) zha R5 hN (by decide)
  have q0 : row 0 = (pT_ P.1 : Int) - 1 := by rw [hrow]; rfl
  have q1 : row (0 + 1) = k := by rw [hrow]; rfl
  have q2 : row (0 + 1 + 1) = l := by rw [hrow]; rfl
  have q3 : row (0 + 1 + 1 + 1) = g := by rw [hrow]; rfl
  have q4 : row (0 + 1 + 1 + 1 + 1) = c := by rw [hrow]; rfl
  have q5 : row (0 + 1 + 1 + 1 + 1 + 1) = s := by rw [hrow]; rfl
  rw [q0] at a1
  rw [q1] at a2
  rw [q2] at a3
  rw [q3] at a4
  rw [q4] at a5
  rw [q5] at a6
  have et : st_I s0 a 5 - 1 = i_ ((pT_ P.1 : Int) - 1) := by
    rw [o0 5 (by decide), r7, i_lit 1, i_sub]
  obtain ⟨-, f1, f2, f3, f4, f5⟩ := R6
  refine ⟨s6, fw_q (fun Q zQ => e_X7_addInstruction zha zw ?_), w6, ⟨⟨⟨hN, r2, r3, r4, fun i j => ?_⟩, ?_, ?_, ?_, fun m zm => ?_, fun i j z1 z2 => ?_⟩, fun m zm => ?_, b3, ?_, fun m u z => ?_⟩, ?_⟩
  · unfold p_X7_addInstruction_0
    have e6 : st_I σ a 6 + 1 = i_ ((pN_ P.1 + 1 : Nat) : Int) := by rw [r6, i_lit 1, i_add]; rfl
    rw [e6, ← e0, r6]
    simp (disch := omega) only [i_lit, i_le]
    refine ⟨fun z => by omega, fun _ => ⟨s1, w1, ?_, s2, w2, ?_, s3, w3, ?_, s4, w4, ?_, s5, w5, ?_, s6, w6, ?_, zQ⟩⟩
    · have y := im s0 (fun b _ => eh_rf b)
      rw [i_lit 1] at y et
      rw [y, et]
      exact a1
    · have y := im s1 R1.2.1
      rw [i_lit 1] at y
      rw [y]
      exact a2
    · have y := im s2 R2.2.1
      rw [i_lit 1] at y
      rw [y]
      exact a3
    · have y := im s3 R3.2.1
      rw [i_lit 1] at y
      rw [y]
      exact a4
    · have y := im s4 R4.2.1
      rw [i_lit 1] at y
      rw [y]
      exact a5
    · have y := im s5 R5.2.1
      rw [i_lit 1] at y
      rw [y]
      exact a6
  · show -1 ≤ upd_ (pC_ P.1) (pN_ P.1) (rw6_ ((pT_ P.1 : Int) - 1) k l g c s) i j ∧ upd_ (pC_ P.1) (pN_ P.1) (rw6_ ((pT_ P.1 : Int) - 1) k l g c s) i j ≤ 3
    unfold upd_
    split
    · unfold rw6_
      repeat' split
      all_goals omega
    · exact r5 i j
  · rw [(f1 a (by omega)).1, n0]
    rfl
  · rw [(f1 a (by omega)).1, o0 5 (by decide)]
    exact r7
  · rw [(f1 a (by omega)).1, o0 4 (by decide)]
    exact r8
  · rw [(f1 (a + 2) (by omega)).1, (k0 (a + 2) (by omega)).1]
    exact r9 m zm
  · have z1 : i < pN_ P.1 + 1 := z1
    rw [f2, (k0 (a + 3) (by omega)).1]
    show _ = i_ (upd_ (pC_ P.1) (pN_ P.1) (rw6_ ((pT_ P.1 : Int) - 1) k l g c s) i j)
    unfold upd_
    by_cases y : i = pN_ P.1
    · rw [if_pos y, if_pos (by omega), hrow, y, show 6 * pN_ P.1 + j - 6 * pN_ P.1 = j by omega]
    · rw [if_neg y, if_neg (by omega)]
      exact r10 i j (by omega) z2
  · rw [(f1 (a + 1) (by omega)).2.1, (k0 (a + 1) (by omega)).2.1]
    exact b2 m zm
  · rw [(f1 a (by omega)).1, o0 7 (by decide)]
    exact b4
  · rw [(f1 (a + 4) (by omega)).1, (k0 (a + 4) (by omega)).1]
    exact b5 m u z
  · refine ⟨fun b zb => eh_tr (k0 b (by omega)) (f1 b (by omega)), ?_, ?_, ?_⟩
    · rw [f3, e0]; rfl
    · rw [f4, e0]; rfl
    · rw [f5, e0]; rfl
end MV
