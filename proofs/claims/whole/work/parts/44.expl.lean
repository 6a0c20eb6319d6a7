/-! the class's search: the loop over the steps of a thread -/
section EX
variable {γ : ga_T} {σ : st_T} {p : pr_T} {m : Nat} {F : Nat → Bool} {L0 : List (Nat × Int64)} {t0 : tk_T}
def wm_ (p : pr_T) (M : List (gs_T × Int64)) : List (Nat × Int64) := M.map (fun q => (en_ p q.1, q.2))
def al_ (P : gs_T → Prop) (M : List (gs_T × Int64)) : Prop := ∀ q ∈ M, P q.1
theorem ad_al {P : gs_T → Prop} (k : gs_T → Nat) {s : gs_T} (x : Int64) (zs : P s) : ∀ M : List (gs_T × Int64), al_ P M → al_ P (ad_ k M s x) := by
  intro M
  induction M with
  | nil =>
    intro _ q hq
    have e : q = (s, x) := List.mem_singleton.mp hq
    rw [e]
    exact zs
  | cons r M ih =>
    intro h q hq
    unfold ad_ at hq
    split at hq
    · rcases List.mem_cons.mp hq with e | e
      · rw [e]
        exact h r List.mem_cons_self
      · exact h q (List.mem_cons_of_mem _ e)
    · rcases List.mem_cons.mp hq with e | e
      · rw [e]
        exact h r List.mem_cons_self
      · exact ih (fun q z => h q (List.mem_cons_of_mem _ z)) q e
def Xs_ (σ : st_T) (t0 : tk_T) (p : pr_T) (s : st_T) (M : List (gs_T × Int64)) : Prop := ∃ t, Wd s ∧ Tk_ s (wm_ p M) t ∧ tf_ σ t0 s t
theorem xs_rp (zw : Wd σ) (zT : Tk_ σ L0 t0) (zR : Rp_ σ 132 p) {s : st_T} {M : List (gs_T × Int64)} (h : Xs_ σ t0 p s M) : Rp_ s 132 p := by
  obtain ⟨t, h1, h2, h3⟩ := h
  exact rp_eh zR (tf_low zw zT h3 (by decide) (by decide)) (tf_low zw zT h3 (by decide) (by decide)) (tf_low zw zT h3 (by decide) (by decide))
theorem xs_mc (zw : Wd σ) (zT : Tk_ σ L0 t0) (zM : Mc_ σ p m F) {s : st_T} {M : List (gs_T × Int64)} (h : Xs_ σ t0 p s M) : Mc_ s p m F := by
  obtain ⟨t, h1, h2, h3⟩ := h
  exact mc_eh (fun a a1 a2 => tf_low zw zT h3 (by omega) (by omega)) zM
theorem l_ex101 (zP : Wp_ p) (zw : Wd σ) (zT : Tk_ σ L0 t0) (zM : Mc_ σ p m F) {S : gs_T} (zV : Vg_ p S) {t W : Nat} (q1 : t < pT_ p) (q2 : W ≤ 1 + pL_ p) {x : Int64} {M : List (gs_T × Int64)} {l3 : Int32} {Q : rs_T → st_T → Prop}
    (hb : ∀ w, w ≤ W → (bw_ (en_ p) (gcl_ p m F) S x t M w).length ≤ 131072)
    (hk : ∀ s, Xs_ σ t0 p s (bw_ (en_ p) (gcl_ p m F) S x t M W) → vv_ γ m_X2_explore 4 73 [(0, .ref 147), (3, .int l3), (4, .long (lN (en_ p S))), (6, .long x), (8, .int (i_ (t : Int) + 1))] [] s Q) :
    ∀ k w : Nat, k + w = W → ∀ s, Xs_ σ t0 p s (bw_ (en_ p) (gcl_ p m F) S x t M w) → vv_ γ m_X2_explore 4 101 [(0, .ref 147), (3, .int l3), (4, .long (lN (en_ p S))), (6, .long x), (8, .int (i_ (t : Int))), (9, .int (i_ (W : Int))), (10, .int (i_ (w : Int)))] [] s Q := by
  have yL := zP.1.2.2.1
  intro k
  induction k with
  | zero =>
    intro w zi s zs
    have zi : w = W := by omega
    subst zi
    obtain ⟨u, h1, h2, h3⟩ := id zs
    refine g_X2_explore_101 h1 ?_
    unfold p_X2_explore_101
    exact ⟨fun _ => hk s zs, fun z => absurd (Int32.le_refl _) z⟩
  | succ k ih =>
    intro w zi s zs
    obtain ⟨u, h1, h2, h3⟩ := id zs
    have za := c_after (γ := γ) h1 zP (xs_mc zw zT zM zs) zV q1 (w := w) (by omega)
    have ihw := ih (w + 1) (by omega)
    rw [show ((w + 1 : Nat) : Int) = (w : Int) + 1 by omega, ← i_add, ← i_lit 1] at ihw
    have hw := hb w (by omega)
    refine g_X2_explore_101 h1 ?_
    unfold p_X2_explore_101
    simp (disch := omega) only [i_le]
    refine ⟨fun z => by omega, fun _ => ⟨_, s, h1, za, ?_⟩⟩
    cases hg : gt_ (gcl_ p m F) S t w with
    | none =>
      have e : bw_ (en_ p) (gcl_ p m F) S x t M (w + 1) = bw_ (en_ p) (gcl_ p m F) S x t M w := by
        show (match gt_ (gcl_ p m F) S t w with | some S2 => ad_ (en_ p) (bw_ (en_ p) (gcl_ p m F) S x t M w) S2 x | none => bw_ (en_ p) (gcl_ p m F) S x t M w) = _
        rw [hg]
      rw [e] at ihw
      exact ⟨fun _ => ihw s zs, fun z => absurd rfl z⟩
    | some S2 =>
      have e : bw_ (en_ p) (gcl_ p m F) S x t M (w + 1) = ad_ (en_ p) (bw_ (en_ p) (gcl_ p m F) S x t M w) S2 x := by
        show (match gt_ (gcl_ p m F) S t w with | some S2 => ad_ (en_ p) (bw_ (en_ p) (gcl_ p m F) S x t M w) S2 x | none => bw_ (en_ p) (gcl_ p m F) S x t M w) = _
        rw [hg]
      rw [e] at ihw
      have y1 : en_ p S2 < 9223372036854775808 := Nat.lt_trans (en_lt S2) (by decide)
      refine ⟨fun z => absurd z (lN_m1 y1), fun _ => ?_⟩
      obtain ⟨s6, u6, v1, v2, v3, v4⟩ := c_add (γ := γ) h1 h2 (by
        unfold wm_
        rw [List.length_map]
        omega) y1 x
      refine ⟨s6, v2, v1, ihw s6 ⟨u6, v2, ?_, tf_tr h3 v4⟩⟩
      unfold wm_
      rw [ad_map]
      exact v3
end EX
