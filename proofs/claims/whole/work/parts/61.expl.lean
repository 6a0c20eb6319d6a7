/-! the explanation: its steps, origins, writers -/
section EX
variable {γ : ga_T} {σ σ1 : st_T} {p : pr_T} {m : Nat} {F : Nat → Bool} {S S2 : gs_T} {t w : Nat}
abbrev ex_T : Type := List (Nat × Nat) × (Nat → Int) × List Nat
def Xp_ (σ : st_T) (e : ex_T) : Prop := (st_I σ 181 4 = i_ (e.1.length : Int) ∧ e.1.length ≤ 18 ∧ ∀ i q, e.1[i]? = some q → st_I σ 182 i = i_ ((10 * q.1 + q.2 : Nat) : Int)) ∧
  (st_I σ 181 5 = i_ (e.2.2.length : Int) ∧ e.2.2.length ≤ 8 ∧ ∀ (i n : Nat), e.2.2[i]? = some n → st_I σ 184 i = i_ (n : Int) ∧ n < 10) ∧ ∀ i, i < 10 → st_I σ 183 i = i_ (e.2.1 i)
def xf_ (σ σ1 : st_T) : Prop := (∀ a, a < 181 ∨ 184 < a → eh_ σ σ1 a) ∧ st_n σ1 = st_n σ ∧ st_c σ1 = st_c σ ∧ st_u σ1 = st_u σ ∧ st_I σ1 181 6 = st_I σ 181 6
theorem xf_rf : xf_ σ σ := ⟨fun a _ => eh_rf a, rfl, rfl, rfl, rfl⟩
theorem xf_tr {σ2 : st_T} (h : xf_ σ σ1) (k : xf_ σ1 σ2) : xf_ σ σ2 := ⟨fun a z => eh_tr (h.1 a z) (k.1 a z), k.2.1.trans h.2.1, k.2.2.1.trans h.2.2.1, k.2.2.2.1.trans h.2.2.2.1, k.2.2.2.2.trans h.2.2.2.2⟩
theorem xf_I {a k : Nat} {v : Int32} (h : 181 ≤ a ∧ a ≤ 184) (h2 : ¬ (181 = a ∧ 6 = k)) : xf_ σ (pt_I σ a k v) := ⟨fun b z => eh_I (by omega), rfl, rfl, rfl, if_neg h2⟩
theorem xp_step {e : ex_T} (h : Xp_ σ e) (h1 : e.1.length < 18) (q : Nat × Nat) : Xp_ (pt_I (pt_I σ 182 e.1.length (i_ ((10 * q.1 + q.2 : Nat) : Int))) 181 4 (i_ ((e.1.length + 1 : Nat) : Int))) (e.1 ++ [q], e.2) := by
  obtain ⟨⟨a1, a2, a3⟩, ⟨b1, b2, b3⟩, c1⟩ := h
  refine ⟨⟨?_, ?_, fun i x hx => ?_⟩, ⟨?_, b2, fun i n hn => ?_⟩, fun i zi => ?_⟩
  · show st_I (pt_I _ 181 4 _) 181 4 = i_ ((e.1 ++ [q]).length : Int)
    rw [st_sI, List.length_append]
    rfl
  · show (e.1 ++ [q]).length ≤ 18
    rw [List.length_append]
    exact h1
  · have hx : (e.1 ++ [q])[i]? = some x := hx
    rw [st_pI, if_neg (by omega), st_pI]
    by_cases z : i < e.1.length
    · rw [List.getElem?_append_left z] at hx
      rw [if_neg (by omega)]
      exact a3 i x hx
    · have z2 := (List.getElem?_eq_some_iff.mp hx).1
      rw [List.length_append, List.length_singleton] at z2
      have z3 : i = e.1.length := by omega
      subst z3
      rw [List.getElem?_append_right (Nat.le_refl _), Nat.sub_self] at hx
      have hx : some q = some x := hx
      rw [if_pos ⟨rfl, rfl⟩, Option.some.inj hx]
  · rw [st_pI, if_neg (by omega), st_pI, if_neg (by omega)]
    exact b1
  · rw [st_pI, if_neg (by omega), st_pI, if_neg (by omega)]
    exact b3 i n hn
  · rw [st_pI, if_neg (by omega), st_pI, if_neg (by omega)]
    exact c1 i zi
theorem xp_org {e : ex_T} (h : Xp_ σ e) (n : Nat) (z : Int) : Xp_ (pt_I σ 183 n (i_ z)) (e.1, (fun i => if i = n then z else e.2.1 i), e.2.2) := by
  obtain ⟨⟨a1, a2, a3⟩, ⟨b1, b2, b3⟩, c1⟩ := h
  refine ⟨⟨?_, a2, fun i x hx => ?_⟩, ⟨?_, b2, fun i n hn => ?_⟩, fun i zi => ?_⟩
  · rw [st_pI, if_neg (by omega)]
    exact a1
  · rw [st_pI, if_neg (by omega)]
    exact a3 i x hx
  · rw [st_pI, if_neg (by omega)]
    exact b1
  · rw [st_pI, if_neg (by omega)]
    exact b3 i n hn
  · show st_I (pt_I σ 183 n (i_ z)) 183 i = i_ (if i = n then z else e.2.1 i)
    rw [st_pI]
    by_cases y : i = n
    · rw [if_pos ⟨rfl, y⟩, if_pos y]
    · rw [if_neg (fun w => y w.2), if_neg y]
      exact c1 i zi
theorem xp_wr {e : ex_T} (h : Xp_ σ e) (h1 : e.2.2.length < 8) {n : Nat} (zn : n < 10) : Xp_ (pt_I (pt_I σ 184 e.2.2.length (i_ (n : Int))) 181 5 (i_ ((e.2.2.length + 1 : Nat) : Int))) (e.1, e.2.1, e.2.2 ++ [n]) := by
  obtain ⟨⟨a1, a2, a3⟩, ⟨b1, b2, b3⟩, c1⟩ := h
  refine ⟨⟨?_, a2, fun i x hx => ?_⟩, ⟨?_, ?_, fun i x hx => ?_⟩, fun i zi => ?_⟩
  · rw [st_pI, if_neg (by omega), st_pI, if_neg (by omega)]
    exact a1
  · rw [st_pI, if_neg (by omega), st_pI, if_neg (by omega)]
    exact a3 i x hx
  · show st_I (pt_I _ 181 5 _) 181 5 = i_ ((e.2.2 ++ [n]).length : Int)
    rw [st_sI, List.length_append]
    rfl
  · show (e.2.2 ++ [n]).length ≤ 8
    rw [List.length_append]
    exact h1
  · have hx : (e.2.2 ++ [n])[i]? = some x := hx
    rw [st_pI, if_neg (by omega), st_pI]
    by_cases z : i < e.2.2.length
    · rw [List.getElem?_append_left z] at hx
      rw [if_neg (by omega)]
      exact b3 i x hx
    · have z2 := (List.getElem?_eq_some_iff.mp hx).1
      rw [List.length_append, List.length_singleton] at z2
      have z3 : i = e.2.2.length := by omega
      subst z3
      rw [List.getElem?_append_right (Nat.le_refl _), Nat.sub_self] at hx
      have hx : some n = some x := hx
      rw [if_pos ⟨rfl, rfl⟩, ← Option.some.inj hx]
      exact ⟨rfl, zn⟩
  · rw [st_pI, if_neg (by omega), st_pI, if_neg (by omega)]
    exact c1 i zi
theorem c_addWriter (zw : Wd σ) {e : ex_T} (h : Xp_ σ e) (h1 : e.2.2.length < 8) (n : Int32) : fw_ γ m_X1_addWriter 0 [.ref 181, .int n] σ (pt_I (pt_I σ 184 e.2.2.length n) 181 5 (i_ ((e.2.2.length + 1 : Nat) : Int))) := fw_q (fun Q zQ => e_X1_addWriter zw (by
  unfold p_X1_addWriter_0
  rw [h.2.1.1]
  simp (disch := omega) only [i_lit, i_le, i_in_iff, i_cl, Int.toNat_natCast, i_add]
  exact ⟨fun z => by omega, fun _ => ⟨by omega, zQ⟩⟩))
/-- the last writer of a location -/
def ltw_ (p : pr_T) (W : List Nat) (l : Int) : Int := W.foldl (fun (b : Int) (n : Nat) => if pp_ p n 2 = l then (n : Int) else b) (-1)
theorem c_latest (zw : Wd σ) (zR : Rp_ σ 132 p) {e : ex_T} (h : Xp_ σ e) {l : Int} (q1 : -2147483648 ≤ l ∧ l < 2147483648) : fn_ γ m_X1_latestWriter 1 [.ref 181, .int (i_ l)] σ (.int (i_ (ltw_ p e.2.2 l))) σ := by
  obtain ⟨b1, b2, b3⟩ := h.2.1
  refine fn_q (fun Q zQ => e_X1_latestWriter zw ?_)
  unfold p_X1_latestWriter_0
  have key : ∀ (rest pre : List Nat) (z : Int), e.2.2 = pre ++ rest → ltw_ p e.2.2 l = rest.foldl (fun (b : Int) (n : Nat) => if pp_ p n 2 = l then (n : Int) else b) z → vv_ γ m_X1_latestWriter 1 4 [(0, .ref 181), (1, .int (i_ l)), (2, .int (i_ z)), (3, .int (i_ (pre.length : Int)))] [] σ Q := by
    intro rest
    induction rest with
    | nil =>
      intro pre z e1 e2
      rw [List.append_nil] at e1
      have e2 : ltw_ p e.2.2 l = z := e2
      rw [e2] at zQ
      refine g_X1_latestWriter_4 zw ?_
      unfold p_X1_latestWriter_4
      rw [b1, e1]
      exact ⟨fun _ => zQ, fun z => absurd (Int32.le_refl _) z⟩
    | cons n rest ih =>
      intro pre z e1 e2
      have l1 : e.2.2.length = pre.length + (rest.length + 1) := by rw [e1, List.length_append, List.length_cons]
      have hn : e.2.2[pre.length]? = some n := by rw [e1, List.getElem?_append_right (Nat.le_refl _), Nat.sub_self]; rfl
      have hs := b3 _ _ hn
      have h2 := hs.2
      have b0 := pp_rng zR.1 n 2
      have y := ih (pre ++ [n]) (if pp_ p n 2 = l then (n : Int) else z) (by rw [e1, List.append_assoc]; rfl) e2
      rw [List.length_append, List.length_singleton, show ((pre.length + 1 : Nat) : Int) = (pre.length : Int) + 1 by omega, ← i_add, ← i_lit 1] at y
      refine g_X1_latestWriter_4 zw ?_
      unfold p_X1_latestWriter_4
      rw [b1, l1]
      simp (disch := omega) only [i_lit, i_le, i_in_iff, i_cl, Int.toNat_natCast]
      rw [hs.1]
      refine ⟨fun z => by omega, fun _ => ⟨fun z => by omega, fun _ => ⟨by omega, _, σ, zw, c_property pg_132 zw zR (by omega) (by omega), ?_⟩⟩⟩
      simp (disch := omega) only [i_eq]
      rw [hs.1]
      refine ⟨fun z => ⟨by omega, ?_⟩, fun z => ?_⟩
      · rw [if_pos z] at y
        exact y
      · rw [if_neg z] at y
        exact y
  have y := key e.2.2 [] (-1) rfl rfl
  exact y
theorem c_unbuf (zw : Wd σ) (zM : Mc_ σ p m F) : fn_ γ m_X4_isUnbuffered 0 [.ref 153] σ (.int (i_ (if m = 0 then 1 else 0))) σ := fn_q (fun Q zQ => e_X4_isUnbuffered zw (by
  have h3 := zM.1
  unfold p_X4_isUnbuffered_0
  rw [zM.2.1]
  simp (disch := omega) only [i_lit, i_eq]
  refine ⟨fun z => ?_, fun z => ?_⟩
  · rw [if_pos (by omega)] at zQ
    exact zQ
  · rw [if_neg (by omega)] at zQ
    exact zQ))
/-- what a step adds to the explanation -/
def xs_ (p : pr_T) (g : gm_T) (S : gs_T) (q : Nat × Nat) (e : ex_T) : ex_T :=
  if q.2 = 0 then
    (e.1 ++ [q], if gC_ g (gB_ g q.1 + sP_ S q.1) 1 = 1 ∨ gC_ g (gB_ g q.1 + sP_ S q.1) 1 = 2 then (fun i => if i = gB_ g q.1 + sP_ S q.1 then (match gw2_ g S q.1 (gC_ g (gB_ g q.1 + sP_ S q.1) 2) with | some j => (j : Int) | none => ltw_ p e.2.2 (gC_ g (gB_ g q.1 + sP_ S q.1) 2)) else e.2.1 i) else e.2.1,
      if gC_ g (gB_ g q.1 + sP_ S q.1) 1 = 2 ∨ (gC_ g (gB_ g q.1 + sP_ S q.1) 1 = 0 ∧ gm_ g = 0) then e.2.2 ++ [gB_ g q.1 + sP_ S q.1] else e.2.2)
  else (match gn_ g S q.1 (q.2 - 1) with | some n => (e.1 ++ [q], e.2.1, e.2.2 ++ [n]) | none => e)
theorem pp_in {n : Nat} {k : Nat} (zn : n < pN_ p) (zk : k < 6) : pp_ p (n : Int) (k : Int) = pC_ p n k := by
  unfold pp_
  rw [if_pos (by omega), Int.toNat_natCast, Int.toNat_natCast]
end EX
