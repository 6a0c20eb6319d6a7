/-! the class's search: the loop over threads -/
section EY
variable {γ : ga_T} {σ : st_T} {p : pr_T} {m : Nat} {F : Nat → Bool} {L0 : List (Nat × Int64)} {t0 : tk_T}
theorem l_ex73 (zP : Wp_ p) (zw : Wd σ) (zT : Tk_ σ L0 t0) (zR : Rp_ σ 132 p) (zM : Mc_ σ p m F) {S : gs_T} (zV : Vg_ p S) {x : Int64} {M : List (gs_T × Int64)} {l3 : Int32} {Q : rs_T → st_T → Prop}
    (hb : (bt_ (en_ p) (gcl_ p m F) (1 + pL_ p) S x M (pT_ p)).length ≤ 131072)
    (hk : ∀ s, Xs_ σ t0 p s (bt_ (en_ p) (gcl_ p m F) (1 + pL_ p) S x M (pT_ p)) → vv_ γ m_X2_explore 4 33 [(0, .ref 147), (3, .int (l3 + 1))] [] s Q) :
    ∀ k t : Nat, k + t = pT_ p → ∀ s, Xs_ σ t0 p s (bt_ (en_ p) (gcl_ p m F) (1 + pL_ p) S x M t) → vv_ γ m_X2_explore 4 73 [(0, .ref 147), (3, .int l3), (4, .long (lN (en_ p S))), (6, .long x), (8, .int (i_ (t : Int)))] [] s Q := by
  have yT := zP.1.2.1
  intro k
  induction k with
  | zero =>
    intro t zi s zs
    have zi : t = pT_ p := by omega
    subst zi
    obtain ⟨u, h1, h2, h3⟩ := id zs
    refine g_X2_explore_73 h1 ?_
    unfold p_X2_explore_73
    exact ⟨_, s, h1, c_mthreads h1 (xs_rp zw zT zR zs), fun _ => hk s zs, fun z => absurd (Int32.le_refl _) z⟩
  | succ k ih =>
    intro t zi s zs
    obtain ⟨u, h1, h2, h3⟩ := id zs
    have zr := xs_rp zw zT zR zs
    have zp := c_parts (γ := γ) h1 zP (xs_mc zw zT zM zs) zr zV (t := t) (by omega)
    have hle : (bw_ (en_ p) (gcl_ p m F) S x t (bt_ (en_ p) (gcl_ p m F) (1 + pL_ p) S x M t) (1 + pL_ p)).length ≤ 131072 := by
      have z := bt_le (en_ p) (gcl_ p m F) (1 + pL_ p) S x M (t := t + 1) k
      rw [show t + 1 + k = pT_ p by omega] at z
      exact Nat.le_trans z hb
    refine g_X2_explore_73 h1 ?_
    unfold p_X2_explore_73
    refine ⟨_, s, h1, c_mthreads h1 zr, ?_⟩
    simp (disch := omega) only [i_le]
    refine ⟨fun z => by omega, fun _ => ⟨_, s, h1, zp, ?_⟩⟩
    have hk' : ∀ s', Xs_ σ t0 p s' (bw_ (en_ p) (gcl_ p m F) S x t (bt_ (en_ p) (gcl_ p m F) (1 + pL_ p) S x M t) (1 + pL_ p)) → vv_ γ m_X2_explore 4 73 [(0, .ref 147), (3, .int l3), (4, .long (lN (en_ p S))), (6, .long x), (8, .int (i_ (t : Int) + 1))] [] s' Q := fun s' hs' => by
      have z := ih (t + 1) (by omega) s' hs'
      rw [show ((t + 1 : Nat) : Int) = (t : Int) + 1 by omega, ← i_add, ← i_lit 1] at z
      exact z
    by_cases y : ga1_ (gcl_ p m F) S t = none
    · rw [if_pos y]
      rw [bw_none (en_ p) y] at hk' hle
      refine l_ex101 zP zw zT zM zV (t := t) (W := 1) (by omega) (by omega) (fun w hw => ?_) hk' 1 0 (by omega) s zs
      have z := bw_le (en_ p) (gcl_ p m F) S x t (bt_ (en_ p) (gcl_ p m F) (1 + pL_ p) S x M t) (w := w) (1 - w)
      rw [show w + (1 - w) = 1 by omega] at z
      exact Nat.le_trans z hle
    · rw [if_neg y]
      have z9 := l_ex101 (γ := γ) zP zw zT zM zV (t := t) (W := 1 + pL_ p) (x := x) (l3 := l3) (by omega) (Nat.le_refl _) (fun w hw => by
        have z := bw_le (en_ p) (gcl_ p m F) S x t (bt_ (en_ p) (gcl_ p m F) (1 + pL_ p) S x M t) (w := w) (1 + pL_ p - w)
        rw [show w + (1 + pL_ p - w) = 1 + pL_ p by omega] at z
        exact Nat.le_trans z hle) hk' (1 + pL_ p) 0 (by omega) s zs
      rw [show ((1 + pL_ p : Nat) : Int) = 1 + (pL_ p : Int) by omega] at z9
      exact z9
end EY
