/-! where the law's loop begins -/
section BG
set_option maxRecDepth 20000 in
theorem wd_227 : Wd q_227 := ⟨by decide +kernel, by decide +kernel, by decide +kernel⟩
def A0_ : ca_T := (fun _ => 0, 0, P0_, [], [], none)
def R0_ : rt_T := ((149, 150, 151, 256, 512, 9), (165, 166, 16), (170, 171, 16), (175, 176, 16))
theorem c_227 : st_c q_227 = 92 := by decide +kernel
theorem u_227 : st_u q_227 ≤ 540000 := by decide +kernel
theorem wp_p0 : Wp_ p0_ := w_P0.1
theorem pq_227 : Pq_ q_227 132 P0_ := ⟨⟨wp_p0.1, by decide +kernel, by decide +kernel, by decide +kernel, fun l zl => absurd zl (Nat.not_lt_zero l), fun i k zi => absurd zi (Nat.not_lt_zero i)⟩, fun l zl => absurd zl (Nat.not_lt_zero l), Nat.zero_le _, by decide +kernel, fun k u z => by cases z⟩
theorem pg_P0 : Pg_ P0_ := ⟨wp_p0, fun l zl => absurd zl (Nat.not_lt_zero l), 0, by decide, rfl⟩
set_option maxRecDepth 20000 in
theorem z_151 (q : Nat) : st_I q_227 151 q = 0 := rfl
set_option maxRecDepth 20000 in
theorem z_207 (q : Nat) : st_I q_227 207 q = 0 := rfl
theorem ep_no {σ : st_T} (h1 : st_I σ 181 6 = i_ 0) (h2 : st_I σ 181 4 = i_ ((0 : Nat) : Int)) (h3 : st_I σ 181 5 = i_ ((0 : Nat) : Int)) : Ep_ σ none := ⟨h1, fun i => (st_I σ 183 i).toInt, ⟨h2, Nat.zero_le _, fun i q z => by cases z⟩, ⟨h3, Nat.zero_le _, fun i q z => by cases z⟩, fun i z => i_of _⟩
theorem ep_227 : Ep_ q_227 none := ep_no (by decide +kernel) (by decide +kernel) (by decide +kernel)
theorem tk_227 : Tk_ q_227 [] (149, 150, 151, 256, 512, 9) := by
  refine ⟨⟨⟨by decide +kernel, by decide +kernel, by decide +kernel⟩, ⟨by decide +kernel, by decide +kernel, by decide +kernel⟩, ⟨by decide, ⟨Or.inl (by decide), by decide +kernel⟩, ⟨Or.inl (by decide), by decide +kernel⟩, ⟨Or.inl (by decide), by decide +kernel⟩⟩, ⟨by decide +kernel, by decide +kernel⟩, ⟨by decide, by decide, by decide, by decide, by decide, by decide, by decide⟩, fun i x z => by cases z⟩, ⟨fun _ => 0, fun s _ => z_151 s, ?_⟩, by decide, ⟨8, by decide⟩, ⟨9, by decide⟩, fun i j zi => absurd zi (Nat.not_lt_zero i)⟩
  exact sv_0 _ _
theorem kn_227 (m : Nat) (hm : m < 3) : Kn_ q_227 (fa_ m) m P0_ (rf_ R0_ m) := by
  have e : m = 0 ∨ m = 1 ∨ m = 2 := by omega
  rcases e with rfl | rfl | rfl
  · exact ⟨⟨⟨by decide +kernel, by decide +kernel⟩, ⟨by decide +kernel, by decide +kernel⟩, ⟨⟨Or.inl (Or.inl (by decide)), by decide +kernel⟩, ⟨Or.inl (Or.inr (by decide)), by decide +kernel⟩⟩, by decide⟩, Or.inl (by decide +kernel), fun g hg => Or.inl ((by decide +kernel : ∀ g, g < 64 → st_I q_227 167 g = i_ (-1)) g hg)⟩
  · exact ⟨⟨⟨by decide +kernel, by decide +kernel⟩, ⟨by decide +kernel, by decide +kernel⟩, ⟨⟨Or.inl (Or.inl (by decide)), by decide +kernel⟩, ⟨Or.inl (Or.inr (by decide)), by decide +kernel⟩⟩, by decide⟩, Or.inl (by decide +kernel), fun g hg => Or.inl ((by decide +kernel : ∀ g, g < 64 → st_I q_227 172 g = i_ (-1)) g hg)⟩
  · exact ⟨⟨⟨by decide +kernel, by decide +kernel⟩, ⟨by decide +kernel, by decide +kernel⟩, ⟨⟨Or.inl (Or.inl (by decide)), by decide +kernel⟩, ⟨Or.inl (Or.inr (by decide)), by decide +kernel⟩⟩, by decide⟩, Or.inl (by decide +kernel), fun g hg => Or.inl ((by decide +kernel : ∀ g, g < 64 → st_I q_227 177 g = i_ (-1)) g hg)⟩
theorem dr_0 : Dr_ R0_ := by
  refine ⟨fun m hm => ?_, fun m k hm hk hmk => ?_⟩
  · have e : m = 0 ∨ m = 1 ∨ m = 2 := by omega
    rcases e with rfl | rfl | rfl <;> exact ⟨⟨by decide, by decide, by decide⟩, by decide, by decide, by decide⟩
  · have e : m = 0 ∨ m = 1 ∨ m = 2 := by omega
    have e2 : k = 0 ∨ k = 1 ∨ k = 2 := by omega
    rcases e with rfl | rfl | rfl <;> rcases e2 with rfl | rfl | rfl <;> first | exact absurd rfl hmk | exact ⟨by decide, by decide, by decide, by decide⟩
theorem j_227 : J_ q_227 A0_ R0_ := ⟨⟨wd_227, ⟨Nat.zero_le _, fun i zi => absurd zi (Nat.not_lt_zero i)⟩, by decide +kernel⟩, ⟨pq_227, pg_P0⟩, ⟨⟨Nat.zero_le _, by decide +kernel, fun k z y => by cases y⟩, ⟨Nat.zero_le _, by decide +kernel, fun k z y => by cases y⟩, ep_227⟩, ⟨[], tk_227⟩, kn_227, dr_0⟩
theorem jr_227 : Jr_ q_227 A0_ 0 := ⟨wd_227, ⟨by decide, by decide +kernel, fun q _ => ⟨0, by decide, by decide, z_207 q⟩⟩, ⟨Nat.zero_le _, by decide +kernel, fun k z => absurd z (Nat.not_lt_zero k)⟩, ⟨⟨wp_p0.1, by decide +kernel, by decide +kernel, by decide +kernel, fun l zl => absurd zl (Nat.not_lt_zero l), fun i k zi => absurd zi (Nat.not_lt_zero i)⟩, fun l zl => absurd zl (Nat.not_lt_zero l), Nat.zero_le _, by decide +kernel, fun k u z => by cases z⟩, ⟨by decide +kernel, fun k z y => by cases y⟩, ⟨by decide +kernel, trivial⟩, (by decide +kernel : st_I q_227 185 47 = i_ 0)⟩
theorem gd_0 : Gd_ A0_ := gd_new w_P0.2.1
/-- the law, from its first instruction -/
theorem law_all {γ : ga_T} {nm : String} (hL : ga_L γ ≤ 3072) : vv_ γ (m_law nm) 84 0 [(0, .ref 22)] [] q_0 (Qf_ 92 540000) := by
  have k := law_loop (γ := γ) (nm := nm) hL (R0 := R0_) (c0 := st_c q_227) (u0 := st_u q_227) 512 0 q_227 A0_ R0_ 0 (by omega) (by omega) j_227 jr_227 gd_0 (by omega) (by omega) (by omega)
  refine k_law (vv_up k (fun r s h => ?_))
  have u := u_227
  obtain ⟨h1, h2, h3⟩ := h
  rw [c_227] at h2
  exact ⟨h1, h2, by omega⟩
end BG
