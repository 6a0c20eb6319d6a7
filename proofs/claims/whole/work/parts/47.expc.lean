/-! the class's search: explore as a whole -/
section EQ
variable {γ : ga_T} {σ : st_T} {p : pr_T} {m : Nat} {F : Nat → Bool} {L0 : List (Nat × Int64)} {t0 : tk_T}
theorem vg_0 (zP : Wp_ p) : Vg_ p (s0k_ p (pL_ p)) := by
  have y := zP.1.2.2.2.1
  refine ⟨⟨fun t => ⟨Nat.succ_pos 7, fun _ => rfl⟩, fun q => ⟨Nat.succ_pos 3, fun _ => rfl⟩, fun l => ?_, fun n _ => rfl⟩, fun t => Nat.zero_le _, fun n z => absurd (show false = true from z) (by decide)⟩
  show (if l < pL_ p then (pI_ p l).toNat else 0) < 4 ∧ (pL_ p ≤ l → (if l < pL_ p then (pI_ p l).toNat else 0) = 0)
  have y1 := y l
  by_cases z : l < pL_ p
  · rw [if_pos z]
    exact ⟨by omega, fun z1 => by omega⟩
  · rw [if_neg z]
    exact ⟨by omega, fun _ => rfl⟩
theorem mf_tk {L : List (Nat × Int64)} {s : st_T} {t : tk_T} (zw : Wd σ) (h : mf_ σ s) (zT : Tk_ σ L t) : Tk_ s L t := by
  obtain ⟨b0, b1, b2, n0, n2, e⟩ := t
  obtain ⟨⟨⟨r1, r2, r3⟩, ⟨r4, r5, r6⟩, ⟨r7, r8, r9, r10⟩, ⟨r11, r12⟩, r13, r20⟩, ⟨sl, q1, q2⟩, q3⟩ := zT
  have k148 := h.1 148 (Or.inl (by decide))
  have g0 : b0 < 153 ∨ 163 < b0 := by have z := r8.1; dsimp only at z; omega
  have g1 : b1 < 153 ∨ 163 < b1 := by have z := r9.1; dsimp only at z; omega
  have g2 : b2 < 153 ∨ 163 < b2 := by have z := r10.1; dsimp only at z; omega
  have k0 := h.1 b0 g0
  have k1 := h.1 b1 g1
  have k2 := h.1 b2 g2
  have hn := h.2.1
  refine ⟨⟨⟨by rw [k148.2.2.1]; exact r1, by rw [k148.2.2.1]; exact r2, by rw [k148.2.2.1]; exact r3⟩, ⟨k0.2.2.2.trans r4, k1.2.2.2.trans r5, k2.2.2.2.trans r6⟩, ⟨r7, ⟨r8.1, by rw [hn]; exact r8.2⟩, ⟨r9.1, by rw [hn]; exact r9.2⟩, ⟨r10.1, by rw [hn]; exact r10.2⟩⟩, ⟨by rw [k148.1]; exact r11, by rw [k148.1]; exact r12⟩, r13, fun i x z => ?_⟩, ⟨sl, fun j zj => ?_, q2⟩, q3⟩
  · have z1 := r20 i x z
    exact ⟨(k0.2.1 i).trans z1.1, (k1.2.1 i).trans z1.2.1, z1.2.2⟩
  · exact (k2.1 j).trans (q1 j zj)
/-- what explore leaves: the machine prepared, the table of all states; the rest as it was -/
def Ex_ (σ : st_T) (t0 : tk_T) (p : pr_T) (m : Nat) (F : Nat → Bool) (s : st_T) : Prop := ∃ t sb, mf_ σ sb ∧ tf_ sb t0 s t ∧ Wd s ∧ Tk_ s (wm_ p (bf_ p m F)) t ∧ Mc_ s p m F ∧ Rp_ s 132 p ∧
  st_L s 153 13 = lN (en_ p (s0k_ p (pL_ p))) ∧ st_L s 153 14 = lN (en_ p (s1k_ p (pT_ p)))
theorem c_explore (zw : Wd σ) (zP : Wp_ p) (zR : Rp_ σ 132 p) (zT : Tk_ σ L0 t0) (q1 : m < 3) (hb : Bd_ p m F) : ∃ s, fw_ γ m_X2_explore 4 [.ref 147, .int (i_ (m : Int)), .int (i_ ((bm_ F 10 : Nat) : Int))] σ s ∧ Ex_ σ t0 p m F s := by
  obtain ⟨sb, a1, a2, a3, a4, a5, a6⟩ := c_prepare (γ := γ) zw zP zR (F := F) q1
  have zT1 := mf_tk zw a3 zT
  have zR1 := rp_mf zR a3
  obtain ⟨s3, t3, b1, b2, b3, b4⟩ := c_clear (γ := γ) a2 zT1
  have lo : ∀ {s : st_T} {t : tk_T}, tf_ sb t0 s t → ∀ a, 153 ≤ a → a ≤ 163 → eh_ sb s a := fun h a y1 y2 => tf_low a2 zT1 h (by omega) (by omega)
  have w0 : en_ p (s0k_ p (pL_ p)) < 9223372036854775808 := Nat.lt_trans (en_lt _) (by decide)
  have e13 := (lo b4 153 (by decide) (by decide)).2.1 13
  rw [a5] at e13
  obtain ⟨s8, t8, c1, c2, c3, c4⟩ := c_add (γ := γ) b2 b3 (Nat.zero_le _) w0 1
  have d4 := tf_tr b4 c4
  refine fw_of (P := fun s => Ex_ σ t0 p m F s) (e_X2_explore zw ?_)
  unfold p_X2_explore_0
  refine ⟨sb, a2, a1, s3, b2, b1, _, s3, b2, c_start b2 e13, s8, c2, c1, ?_⟩
  have z := l_ex33 (γ := γ) zP a2 zT1 zR1 a4 (vg_0 zP) hb (Q := fun r s => r = .inl none ∧ Ex_ σ t0 p m F s) (fun s hs => ⟨rfl, ?_⟩) 131072 0 (by omega) s8 ⟨t8, c2, c3, d4⟩
  · exact z
  · obtain ⟨t, h1, h2, h3⟩ := id hs
    have k := lo h3 153 (by decide) (by decide)
    exact ⟨t, sb, a3, h3, h1, h2, xs_mc a2 zT1 a4 hs, xs_rp a2 zT1 zR1 hs, by rw [k.2.1]; exact a5, by rw [k.2.1]; exact a6⟩
end EQ
