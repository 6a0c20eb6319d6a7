/-! the class explains an outcome -/
section XL
variable {γ : ga_T} {σ σ1 : st_T} {A : ca_T} {R : rt_T} {m : Nat} {p : pr_T} {F : Nat → Bool}
theorem bn_alP {P : gs_T → Prop} {g : gm_T} {T W : Nat} {S0 : gs_T} (k : gs_T → Nat) (h0 : P S0) (hs : ∀ S t w S2, P S → t < T → w < W → gt_ g S t w = some S2 → P S2) : ∀ n, al_ P (bn_ k g T W S0 n) := by
  intro n
  induction n with
  | zero =>
    intro q hq
    have e : q = (S0, 1) := List.mem_singleton.mp hq
    rw [e]
    exact h0
  | succ n ih =>
    cases hq : (bn_ k g T W S0 n)[n]? with
    | none =>
      have y := List.getElem?_eq_none_iff.mp hq
      rw [bn_n y]
      exact ih
    | some q =>
      rw [bn_s hq]
      have hm : q ∈ bn_ k g T W S0 n := List.mem_of_getElem? hq
      exact bt_al k q.2 ih T (fun t w S2 z1 z2 z3 => hs q.1 t w S2 (ih q hm) z1 z2 z3)
/-- what leads from a state that the search finds leads from its start -/
theorem ld_rs {c : Nat} {S : gs_T} (h : Rs_ p m F S) (hl : Ld_ p (gcl_ p m F) c S) : Ld_ p (gcl_ p m F) c (s0k_ p (pL_ p)) := by
  obtain ⟨q, h1, rfl⟩ := h
  have y := bn_alP (P := fun S => Ld_ p (gcl_ p m F) c S → Ld_ p (gcl_ p m F) c (s0k_ p (pL_ p))) (en_ p) (g := gcl_ p m F) (T := pT_ p) (W := 1 + pL_ p) (S0 := s0k_ p (pL_ p)) (fun z => z) (fun S t w S2 z1 z2 z3 z4 z5 => z1 (ld_step z2 (by omega) z4 z5)) 131072
  exact y q h1 hl
theorem fp_mem {L : List (Nat × Int64)} {c : Int} (h : fp_ L c ≠ -1) : ∃ q ∈ L, (q.1 : Int) = c := by
  unfold fp_ at h
  cases e : L.findIdx? (fun q => decide ((q.1 : Int) = c)) with
  | none =>
    rw [e] at h
    exact absurd rfl h
  | some i =>
    obtain ⟨hl, h2, -⟩ := List.findIdx?_eq_some_iff_getElem.mp e
    exact ⟨L[i], List.getElem_mem hl, of_decide_eq_true h2⟩
theorem srt_mem {L : List (Nat × Int64)} {q : Nat × Int64} : q ∈ srt_ L ↔ q ∈ L := (srt_pm L).mem_iff
theorem rl_mem {M : List (gs_T × Int64)} {q : Nat × Int64} (h : q ∈ rl_ p M) : ∃ s ∈ M, fi_ p s.1 = true ∧ cc_ p s.1 = q.1 ∧ s.2 = q.2 := by
  unfold rl_ at h
  obtain ⟨s, h1, rfl⟩ := List.mem_map.mp h
  obtain ⟨h2, h3⟩ := List.mem_filter.mp h1
  exact ⟨s, h2, h3, rfl, rfl⟩
theorem ocs_ld {c : Int} (h : fp_ (ocs_ p m F) c ≠ -1) : ∃ k : Nat, c = k ∧ k < 4194304 ∧ Ld_ p (gcl_ p m F) k (s0k_ p (pL_ p)) := by
  obtain ⟨q, h1, h2⟩ := fp_mem h
  obtain ⟨s, h3, h4, h5, -⟩ := rl_mem (srt_mem.mp h1)
  have b : cc_ p s.1 < 4194304 := by
    unfold cc_
    exact Nat.mod_lt _ (by decide)
  exact ⟨q.1, h2.symm, by rw [← h5]; exact b, ld_rs ⟨s, h3, rfl⟩ (ld_fin h4 h5)⟩
theorem c_explain (h : J_ σ A R) (hb : Bq_ (aP_ A).1) {z y : Int} (q1 : -2147483648 ≤ z ∧ z < 2147483648) (q2 : -2147483648 ≤ y ∧ y < 2147483648) : ∃ A', Ans_ γ m_X11_explain 82 [.ref 128, .int (i_ z), .int (i_ y)] σ R A' (mq_ z (fun m => if fp_ (O_ A m) y = -1 then ri_ (-1) else ri_ (ev_ A').1.length)) ∧
    ((A' = A ∧ ¬ (0 ≤ z ∧ z < 3 ∧ fp_ (O_ A z.toNat) y ≠ -1)) ∨ ((0 ≤ z ∧ z < 3 ∧ fp_ (O_ A z.toNat) y ≠ -1) ∧ ∃ r O, Lp_ (aP_ A).1 (gcl_ (aP_ A).1 z.toNat (F0_ (aP_ A).1)) y.toNat (s0k_ (aP_ A).1 (pL_ (aP_ A).1)) r ∧ A' = (aB_ A, an2_ A, aP_ A, aO_ A, aC_ A, some (xr_ (aP_ A).1 (gcl_ (aP_ A).1 z.toNat (F0_ (aP_ A).1)) (s0k_ (aP_ A).1 (pL_ (aP_ A).1)) ([], O, []) r)))) := by
  have w := h.1.1
  by_cases hz : 0 ≤ z ∧ z < 3
  · obtain ⟨m, rfl⟩ : ∃ m : Nat, z = m := ⟨z.toNat, by omega⟩
    have hm : m < 3 := by omega
    rw [Int.toNat_natCast]
    have hf := c_reqM (γ := γ) w hz
    obtain ⟨σ1, R1, f1, f2, f3, f4, -, -⟩ := c_findings (γ := γ) h hb hm
    have n1 : (O_ A m).length ≤ 131072 := kk_len f4
    have cp : fn_ γ m_X3_placeOf 1 [.ref (fa_ m), .int (i_ y)] σ1 (.int (i_ (fp_ (O_ A m) y))) σ1 := c_placeOf (fa_fi m) f2.1.1 f4.1 ocs_so q2
    have fr := fp_rng (O_ A m) y n1
    have mq : ∀ r : Nat → rs_T, mq_ (m : Int) r = r m := fun r => by
      unfold mq_
      rw [if_pos hz, Int.toNat_natCast]
    by_cases hp : fp_ (O_ A m) y = -1
    · refine ⟨A, ⟨σ1, R1, sq_ (fun Q zQ => e_X11_explain w ?_), f2, co_1 f3⟩, Or.inl ⟨rfl, fun q => q.2.2 hp⟩⟩
      rw [mq] at zQ
      rw [if_pos hp] at zQ
      unfold p_X11_explain_0
      refine Or.inl ⟨σ, w, hf, _, σ1, f2.1.1, f1, fa_fi m, _, σ1, f2.1.1, cp, fun _ => zQ, fun q => absurd ?_ q⟩
      rw [hp]
      rfl
    · obtain ⟨k, rfl, zk, hL⟩ := ocs_ld (show fp_ (ocs_ (aP_ A).1 m (F0_ (aP_ A).1)) y ≠ -1 from hp)
      obtain ⟨L0, T0⟩ := f2.2.2.2.1
      obtain ⟨s, r, M', t1, g1, g2, g3, g4, g5, g6, ⟨O, g7⟩, g8⟩ := c_findFirst (γ := γ) f2.1.1 f2.2.1.2.1 f2.2.1.1.1 T0 hm (hb m hm).2.1 zk hL
      rw [Int.toNat_natCast]
      obtain ⟨j1, j2⟩ := j_kf f2 g2 g3 g5 (E := some (xr_ (aP_ A).1 (gcl_ (aP_ A).1 m (F0_ (aP_ A).1)) (s0k_ (aP_ A).1 (pL_ (aP_ A).1)) ([], O, []) r)) ⟨g8, g7⟩
      refine ⟨_, ⟨s, (t1, R1.2), sq_ (fun Q zQ => e_X11_explain w ?_), j1, co_1 (co_tr f3 j2)⟩, Or.inr ⟨⟨hz.1, hz.2, hp⟩, r, O, g6, rfl⟩⟩
      rw [mq] at zQ
      rw [if_neg hp] at zQ
      have xsz := c_xsize (γ := γ) g2 g7
      unfold p_X11_explain_0
      refine Or.inl ⟨σ, w, hf, _, σ1, f2.1.1, f1, fa_fi m, _, σ1, f2.1.1, cp, fun q => ?_, fun _ => ⟨_, s, g2, g1, fun q => absurd q (by decide), fun _ => ⟨_, s, g2, xsz, zQ⟩⟩⟩
      rw [show (-1 : Int32) = i_ (-1) from rfl, i_eq (by omega) (by decide)] at q
      exact absurd q hp
  · refine ⟨A, ?_, Or.inl ⟨rfl, fun q => hz ⟨q.1, q.2.1⟩⟩⟩
    refine am_ h q1 (fun m hm e hf => absurd (by omega) hz) (fun Q s zs zf zQ => e_X11_explain h.1.1 (by
      unfold p_X11_explain_0
      exact Or.inr ⟨s, zs, zf, zQ⟩))
end XL
