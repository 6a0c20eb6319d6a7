/-! the table of states: add -/
section AC
variable {γ : ga_T} {σ : st_T} {L : List (Nat × Int64)}
/-- ways added to a state, which is a new one at the end if it was not there; states are the same if their keys are -/
def ad_ {α : Type} (k : α → Nat) : List (α × Int64) → α → Int64 → List (α × Int64)
  | [], s, x => [(s, x)]
  | p :: t, s, x => if k p.1 = k s then (p.1, p.2 + x) :: t else p :: ad_ k t s x
theorem ad_none (w : Nat) (x : Int64) : ∀ L : List (Nat × Int64), (∀ i, i < L.length → wa_ L i ≠ w) → ad_ (fun n => n) L w x = L ++ [(w, x)] := by
  intro L
  induction L with
  | nil => intro _; rfl
  | cons p t ih =>
    intro q
    have y := q 0 (by simp)
    have y1 : p.1 ≠ w := y
    unfold ad_
    rw [if_neg y1, ih (fun i z => q (i + 1) (by simp; omega))]
    rfl
theorem ad_some (w : Nat) (x y : Int64) : ∀ (L : List (Nat × Int64)) (j : Nat), L[j]? = some (w, y) → (∀ i, i < j → wa_ L i ≠ w) → ad_ (fun n => n) L w x = L.set j (w, y + x) := by
  intro L
  induction L with
  | nil => intro j q _; simp at q
  | cons p t ih =>
    intro j q1 q2
    cases j with
    | zero =>
      have y1 : p = (w, y) := by
        rw [List.getElem?_cons_zero] at q1
        exact Option.some.inj q1
      unfold ad_
      rw [y1, if_pos rfl]
      rfl
    | succ j =>
      have y1 : p.1 ≠ w := q2 0 (Nat.succ_pos j)
      rw [List.getElem?_cons_succ] at q1
      unfold ad_
      rw [if_neg y1, ih j q1 (fun i z => q2 (i + 1) (by omega))]
      rfl
theorem wa_app {w : Nat} {x : Int64} {i : Nat} (h : i < L.length) : wa_ (L ++ [(w, x)]) i = wa_ L i := by
  unfold wa_
  rw [List.getElem?_append_left h]
theorem wa_last {w : Nat} {x : Int64} : wa_ (L ++ [(w, x)]) L.length = w := by
  unfold wa_
  rw [List.getElem?_append_right (Nat.le_refl _), Nat.sub_self]
  rfl
theorem wa_set {w j : Nat} {y x : Int64} (h : L[j]? = some (w, y)) (i : Nat) : wa_ (L.set j (w, x)) i = wa_ L i := by
  unfold wa_
  rw [List.getElem?_set]
  by_cases z : j = i
  · rw [if_pos z, ← z]
    rw [h, if_pos (List.getElem?_eq_some_iff.mp h).1]
    rfl
  · rw [if_neg z]
theorem c_add (zw : Wd σ) {t : tk_T} (zT : Tk_ σ L t) (q0 : L.length ≤ 131072) {w : Nat} (q1 : w < 9223372036854775808) (x : Int64) : ∃ σ1 t', fw_ γ m_X9_add 3 [.ref 148, .long (lN w), .long x] σ σ1 ∧ Wd σ1 ∧ Tk_ σ1 (ad_ (fun n => n) L w x) t' ∧ tf_ σ t σ1 t' := by
  obtain ⟨s1, t1, m1, m2, m3, m4, m5⟩ := c_makeRoom (γ := γ) zw zT q0
  obtain ⟨b0, b1, b2, n0, n2, e⟩ := t1
  obtain ⟨zA, ⟨sl, zs1, zs2⟩, zL, zk0, zk2, zN⟩ := m3
  dsimp only at zA zs1 zs2 zL zk0 zk2 m5
  have y := ta_ne zA
  have y1 := zA.2.2.2.2.1
  have yl := ta_len zA
  have ys := zA.2.1
  obtain ⟨s, s2, s3, s4⟩ := c_slot (γ := γ) m2 zA zs1 zs2 (Nat.le_refl _) q1 (by omega)
  have s5 := zs1 s s2
  have s6 := zs2.1 s s2
  rcases s4 with ⟨e1, e2, e3⟩ | ⟨e1, e2, e3⟩
  · rw [ad_none w x L e2]
    have f1 := e3 (wa_ (L ++ [(w, x)])) (fun i z => wa_app z) wa_last
    refine ⟨pt_I (pt_I (pt_L (pt_L s1 b0 L.length (lN w)) b1 L.length x) 148 4 (i_ ((L.length + 1 : Nat) : Int))) b2 s (i_ ((L.length + 1 : Nat) : Int)), (b0, b1, b2, n0, n2, e), fw_q (fun Q zQ => e_X9_add zw ?_), m2, ⟨⟨zA.1, zA.2.1, zA.2.2.1, ⟨?_, ?_⟩, ⟨y1.1, y1.2.1, y1.2.2.1, y1.2.2.2.1, y1.2.2.2.2.1, y1.2.2.2.2.2.1, ?_⟩, fun i p z => ?_⟩, ⟨fun j => if j = s then L.length + 1 else sl j, fun j z => ?_, ?_⟩, ?_, zk0, zk2, fun i j z1 z2 z3 => ?_⟩, tf_tr m4 ⟨fun a a1 a2 a3 a4 a5 => eh_tr (eh_tr (eh_tr (eh_L a3) (eh_L a4)) (eh_I a2)) (eh_I a5), ⟨Or.inl rfl, Or.inl rfl, Or.inl rfl⟩, ⟨Nat.le_refl _, Nat.le_refl _⟩, Nat.le_refl _, Nat.le_refl _, Nat.le_refl _⟩⟩
    · unfold p_X9_add_0
      refine ⟨s1, m2, m1, _, s1, m2, s3, ?_⟩
      simp (disch := omega) only [i_lit, i_lt]
      refine ⟨fun z => by omega, fun _ => ⟨b2, zA.1.2.2, n2, ys.2.2, ?_⟩⟩
      rw [i_nat]
      simp (disch := omega) only [i_lt, i_in_iff, i_cl, Int.toNat_natCast]
      refine ⟨fun _ => ⟨by omega, ?_⟩, fun z => by omega⟩
      rw [s5, e1]
      simp (disch := omega) only [i_lit, i_sub, i_lt]
      refine ⟨fun _ => ?_, fun z => by omega⟩
      rw [zA.2.2.2.1.2]
      simp (disch := omega) only [i_le]
      refine ⟨fun z => by omega, fun _ => ⟨b0, zA.1.1, n0, ys.1, ?_⟩⟩
      rw [i_nat]
      simp (disch := omega) only [i_le]
      refine ⟨fun z => by omega, fun _ => ⟨b1, zA.1.2.1, n0, ys.2.1, ?_⟩⟩
      rw [i_nat]
      simp (disch := omega) only [i_le, i_in_iff, i_cl, Int.toNat_natCast, i_add]
      refine ⟨fun z => by omega, fun _ => ⟨by omega, by omega, by omega, ?_⟩⟩
      rw [show ((L.length + 1 : Nat) : Int) = (L.length : Int) + 1 by omega] at zQ
      exact zQ
    · rw [st_pI, if_neg (by omega), st_pI, if_neg (by omega)]
      exact zA.2.2.2.1.1
    · rw [st_pI, if_neg (by omega), st_sI, List.length_append]
      rfl
    · rw [List.length_append]
      show L.length + 1 ≤ n0
      omega
    · have g0 : st_L (pt_L (pt_L s1 b0 L.length (lN w)) b1 L.length x) b0 i = if i = L.length then lN w else st_L s1 b0 i := by
        rw [st_pL, if_neg (fun z => zA.2.2.1.1 z.1), st_pL]
        by_cases z : i = L.length
        · rw [if_pos ⟨rfl, z⟩, if_pos z]
        · rw [if_neg (fun z1 => z z1.2), if_neg z]
      have g1 : st_L (pt_L (pt_L s1 b0 L.length (lN w)) b1 L.length x) b1 i = if i = L.length then x else st_L s1 b1 i := by
        rw [st_pL, st_pL, if_neg (c := b1 = b0 ∧ i = L.length) (fun z => zA.2.2.1.1 z.1.symm)]
        by_cases z : i = L.length
        · rw [if_pos ⟨rfl, z⟩, if_pos z]
        · rw [if_neg (fun z1 => z z1.2), if_neg z]
      show st_L (pt_L (pt_L s1 b0 L.length (lN w)) b1 L.length x) b0 i = _ ∧ st_L (pt_L (pt_L s1 b0 L.length (lN w)) b1 L.length x) b1 i = _ ∧ _
      rw [g0, g1]
      by_cases z1 : i = L.length
      · rw [if_pos z1, if_pos z1]
        rw [z1, List.getElem?_append_right (Nat.le_refl _), Nat.sub_self] at z
        have z2 : (w, x) = p := Option.some.inj z
        rw [← z2]
        exact ⟨rfl, rfl, q1⟩
      · rw [if_neg z1, if_neg z1]
        have z2 := (List.getElem?_eq_some_iff.mp z).1
        rw [List.length_append] at z2
        have z3 : i < L.length + 1 := z2
        rw [List.getElem?_append_left (by omega)] at z
        exact zA.2.2.2.2.2 i p z
    · show st_I (pt_I (pt_I (pt_L (pt_L s1 b0 L.length (lN w)) b1 L.length x) 148 4 _) b2 s _) b2 j = i_ (((if j = s then L.length + 1 else sl j) : Nat) : Int)
      rw [st_pI]
      by_cases z1 : j = s
      · rw [if_pos ⟨rfl, z1⟩, if_pos z1]
      · rw [if_neg (fun z2 => z1 z2.2), if_neg z1, st_pI, if_neg (fun z2 => y.2.2.2.2 z2.1)]
        exact zs1 j z
    · show Sv_ _ _ e _
      rw [List.length_append]
      exact f1
    · rw [List.length_append]
      show 2 * (L.length + 1) ≤ 2 ^ e
      obtain ⟨e', he⟩ : ∃ e', e = e' + 1 := ⟨e - 1, by omega⟩
      rw [he, Nat.pow_succ] at m5 ⊢
      omega
    · rw [List.length_append] at z1 z2
      have z1 : i < L.length + 1 := z1
      have z2 : j < L.length + 1 := z2
      by_cases y2 : i = L.length
      · by_cases y3 : j = L.length
        · omega
        · rw [y2, wa_last, wa_app (by omega)] at z3
          exact absurd z3.symm (e2 j (by omega))
      · by_cases y3 : j = L.length
        · rw [y3, wa_last, wa_app (by omega)] at z3
          exact absurd z3 (e2 i (by omega))
        · rw [wa_app (by omega), wa_app (by omega)] at z3
          exact zN i j (by omega) (by omega) z3
  · obtain ⟨p, p1, p2⟩ := wa_some (L := L) (i := sl s - 1) (by omega)
    rw [e3] at p2
    have p3 : L[sl s - 1]? = some (w, p.2) := by rw [p1, ← p2]
    rw [ad_some w x p.2 L (sl s - 1) p3 (fun i z z1 => by
      have z2 := zN i (sl s - 1) (by omega) (by omega) (z1.trans e3.symm)
      omega)]
    refine ⟨pt_L s1 b1 (sl s - 1) (p.2 + x), (b0, b1, b2, n0, n2, e), fw_q (fun Q zQ => e_X9_add zw ?_), m2, ⟨⟨zA.1, zA.2.1, zA.2.2.1, ⟨zA.2.2.2.1.1, ?_⟩, ⟨y1.1, y1.2.1, y1.2.2.1, y1.2.2.2.1, y1.2.2.2.2.1, y1.2.2.2.2.2.1, ?_⟩, fun i r z => ?_⟩, ⟨sl, zs1, ?_⟩, ?_, zk0, zk2, fun i j z1 z2 z3 => ?_⟩, tf_tr m4 ⟨fun a a1 a2 a3 a4 a5 => eh_L a4, ⟨Or.inl rfl, Or.inl rfl, Or.inl rfl⟩, ⟨Nat.le_refl _, Nat.le_refl _⟩, Nat.le_refl _, Nat.le_refl _, Nat.le_refl _⟩⟩
    · unfold p_X9_add_0
      refine ⟨s1, m2, m1, _, s1, m2, s3, ?_⟩
      simp (disch := omega) only [i_lit, i_lt]
      refine ⟨fun z => by omega, fun _ => ⟨b2, zA.1.2.2, n2, ys.2.2, ?_⟩⟩
      rw [i_nat]
      simp (disch := omega) only [i_lt, i_in_iff, i_cl, Int.toNat_natCast]
      refine ⟨fun _ => ⟨by omega, ?_⟩, fun z => by omega⟩
      rw [s5]
      simp (disch := omega) only [i_sub, i_lt]
      refine ⟨fun z => by omega, fun _ => ?_⟩
      rw [zA.2.2.2.1.2]
      rw [show ((sl s : Int) - 1) = ((sl s - 1 : Nat) : Int) by omega]
      simp (disch := omega) only [i_le]
      refine ⟨fun z => by omega, fun _ => ⟨b1, zA.1.2.1, n0, ys.2.1, ?_⟩⟩
      rw [i_nat]
      simp (disch := omega) only [i_le, i_in_iff, i_cl, Int.toNat_natCast]
      refine ⟨fun z => by omega, fun _ => ⟨by omega, by omega, ?_⟩⟩
      rw [(zA.2.2.2.2.2 _ _ p1).2.1]
      exact zQ
    · rw [List.length_set]
      exact zA.2.2.2.1.2
    · rw [List.length_set]
      exact y1.2.2.2.2.2.2
    · rw [List.getElem?_set] at z
      by_cases z1 : sl s - 1 = i
      · rw [if_pos z1, if_pos (by omega)] at z
        have z2 : (w, p.2 + x) = r := Option.some.inj z
        rw [← z2, ← z1]
        refine ⟨?_, st_sL _ _ _ _, q1⟩
        rw [st_pL, if_neg (fun z3 => zA.2.2.1.1 z3.1)]
        exact (zA.2.2.2.2.2 _ _ p3).1
      · rw [if_neg z1] at z
        have z2 := zA.2.2.2.2.2 i r z
        refine ⟨?_, ?_, z2.2.2⟩
        · rw [st_pL, if_neg (fun z3 => z1 z3.2.symm)]
          exact z2.1
        · rw [st_pL, if_neg (fun z3 => z1 z3.2.symm)]
          exact z2.2.1
    · rw [List.length_set]
      exact sv_cg zs2 (fun _ _ => rfl) (fun i _ => wa_set p3 i)
    · rw [List.length_set]
      exact zL
    · rw [List.length_set] at z1 z2
      rw [wa_set p3, wa_set p3] at z3
      exact zN i j z1 z2 z3
end AC
