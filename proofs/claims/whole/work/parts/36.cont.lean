/-! the table of states: contains -/
section CN
variable {γ : ga_T} {σ : st_T} {L : List (Nat × Int64)}
def in_ (L : List (Nat × Int64)) (w : Nat) : Bool := L.any (fun p => decide (p.1 = w))
theorem in_iff (w : Nat) : in_ L w = true ↔ ∃ i, i < L.length ∧ wa_ L i = w := by
  unfold in_
  rw [List.any_eq_true]
  refine ⟨fun ⟨p, h1, h2⟩ => ?_, fun ⟨i, h1, h2⟩ => ?_⟩
  · obtain ⟨i, hi⟩ := List.mem_iff_getElem?.mp h1
    exact ⟨i, (List.getElem?_eq_some_iff.mp hi).1, by rw [wa_eq hi]; exact of_decide_eq_true h2⟩
  · obtain ⟨p, p1, p2⟩ := wa_some h1
    exact ⟨p, List.mem_iff_getElem?.mpr ⟨i, p1⟩, decide_eq_true (p2.trans h2)⟩
theorem c_contains (zw : Wd σ) {t : tk_T} (zT : Tk_ σ L t) {w : Nat} (q1 : w < 9223372036854775808) : fn_ γ m_X9_contains 2 [.ref 148, .long (lN w)] σ (.int (i_ (if in_ L w = true then 1 else 0))) σ := by
  obtain ⟨b0, b1, b2, n0, n2, e⟩ := t
  obtain ⟨zA, ⟨sl, zs1, zs2⟩, zL, zk0, zk2, zN⟩ := zT
  dsimp only at zA zs1 zs2 zL zk0 zk2
  have yl := ta_len zA
  have ys := zA.2.1
  have yp := Nat.two_pow_pos e
  obtain ⟨s, s2, s3, s4⟩ := c_slot (γ := γ) zw zA zs1 zs2 (Nat.le_refl _) q1 (by omega)
  have s5 := zs1 s s2
  have s6 := zs2.1 s s2
  refine fn_q (fun Q zQ => e_X9_contains zw ?_)
  unfold p_X9_contains_0
  refine ⟨_, σ, zw, s3, ?_⟩
  simp (disch := omega) only [i_lit, i_lt]
  refine ⟨fun z => by omega, fun _ => ⟨b2, zA.1.2.2, n2, ys.2.2, ?_⟩⟩
  rw [i_nat]
  simp (disch := omega) only [i_le, i_in_iff, i_cl, Int.toNat_natCast]
  refine ⟨fun z => by omega, fun _ => ⟨by omega, ?_⟩⟩
  rw [s5]
  simp (disch := omega) only [i_eq]
  rcases s4 with ⟨e1, e2, -⟩ | ⟨e1, e2, e3⟩
  · rw [if_neg (fun z => by
      obtain ⟨i, z1, z2⟩ := (in_iff w).mp z
      exact e2 i z1 z2)] at zQ
    exact ⟨fun _ => zQ, fun z => by omega⟩
  · rw [if_pos ((in_iff w).mpr ⟨sl s - 1, by omega, e3⟩)] at zQ
    exact ⟨fun z => by omega, fun _ => zQ⟩
end CN
