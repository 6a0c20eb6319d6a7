/-! the law's loop, to its end -/
section LP
variable {γ : ga_T} {nm : String} {σ : st_T} {A : ca_T} {R : rt_T}
/-- the room that a state of the class can have taken -/
theorem j_room (I : J_ σ A R) : zR_ R ≤ 128 * 405504 ∧ yR_ R ≤ 5767168 := by
  obtain ⟨L, T⟩ := I.2.2.2.1
  have b := T.1.2.2.2.2.1
  have b2 := b.2.2.2.1
  have b0 := b.2.2.2.2.2.1
  have f0 := (I.2.2.2.2.1 0 (by decide)).1.2.2.2
  have f1 := (I.2.2.2.2.1 1 (by decide)).1.2.2.2
  have f2 := (I.2.2.2.2.1 2 (by decide)).1.2.2.2
  unfold zR_ yR_
  constructor
  · omega
  · omega
/-- it answers 1, and takes no more than this -/
def Qf_ (c0 u0 : Nat) : rs_T → st_T → Prop := fun r s => r = .inl (some (.int (1 : Int32))) ∧ st_c s ≤ c0 + 406100 ∧ st_u s ≤ u0 + 5800000
theorem law_loop (hL : ga_L γ ≤ 3072) {R0 : rt_T} {c0 u0 : Nat} : ∀ (n k : Nat) (σ : st_T) (A : ca_T) (R : rt_T) (c : Nat), 512 ≤ n + k → k ≤ 512 → J_ σ A R → Jr_ σ A c → Gd_ A → c ≤ 100 * k + 100 → 128 * st_c σ + zR_ R0 ≤ 128 * c0 + zR_ R + 128 * k → st_u σ + yR_ R0 ≤ u0 + yR_ R + 6 * k →
    vv_ γ (m_law nm) 84 23 [(0, .ref 22), (1, .ref 128), (2, .ref 185), (3, .ref 219), (4, .int (i_ ((6 * k : Nat) : Int)))] [] σ (Qf_ c0 u0) := by
  intro n
  induction n with
  | zero =>
    intro k σ A R c h1 h2 I hj g hc k1 k2
    have rm := j_room I
    refine g_L_law_23 I.1.1 ?_
    unfold p_L_law_23
    rw [i_nat, show (6 : Int32) = i_ 6 from by decide, i_sub, i_lt (by omega) (by omega)]
    exact ⟨fun _ => ⟨rfl, by omega, by omega⟩, fun y => absurd (by omega) y⟩
  | succ n ih =>
    intro k σ A R c h1 h2 I hj g hc k1 k2
    have rm := j_room I
    refine g_L_law_23 I.1.1 ?_
    by_cases hl : (ga_L γ : Int) - 6 < ((6 * k : Nat) : Int)
    · unfold p_L_law_23
      rw [i_nat, show (6 : Int32) = i_ 6 from by decide, i_sub, i_lt (by omega) (by omega)]
      exact ⟨fun _ => ⟨rfl, by omega, by omega⟩, fun y => absurd hl y⟩
    · have ad : ∀ j : Int, 0 ≤ j → j < 6 → vp_in (i_ ((6 * k : Nat) : Int) + i_ j) (ga_L γ) := fun j z1 z2 => by
        rw [i_add]
        exact i_in (by omega) (by omega) (by omega)
      refine law_round I hj g (by omega) (fun s A' R' c' j jr gd hc2 hz => ?_) ?_ ?_ (ad 1 (by omega) (by omega)) (ad 2 (by omega) (by omega)) (ad 3 (by omega) (by omega)) (ad 4 (by omega) (by omega)) (ad 5 (by omega) (by omega))
      · obtain ⟨hz1, hz2⟩ := hz
        have e : i_ ((6 * k : Nat) : Int) + 6 = i_ ((6 * (k + 1) : Nat) : Int) := by
          rw [show (6 : Int32) = i_ 6 from by decide, i_add]
          congr 1
        rw [e]
        exact ih (k + 1) s A' R' c' (by omega) (by omega) j jr gd (by omega) (by omega) (by omega)
      · rw [i_nat, show (6 : Int32) = i_ 6 from by decide, i_sub, i_lt (by omega) (by omega)]
        exact hl
      · exact i_in (by omega) (by omega) (by omega)
end LP
