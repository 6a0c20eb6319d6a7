/-! the class's search: explore -/
section EO
variable {γ : ga_T} {σ : st_T} {p : pr_T} {m : Nat} {F : Nat → Bool} {L0 : List (Nat × Int64)} {t0 : tk_T}
theorem bw_al {P : gs_T → Prop} (k : gs_T → Nat) {g : gm_T} {S : gs_T} (x : Int64) {t : Nat} {M : List (gs_T × Int64)} (h : al_ P M) : ∀ W, (∀ w S2, w < W → gt_ g S t w = some S2 → P S2) → al_ P (bw_ k g S x t M W) := by
  intro W
  induction W with
  | zero => intro _; exact h
  | succ W ih =>
    intro hs
    have y := ih (fun w S2 z => hs w S2 (by omega))
    show al_ P (match gt_ g S t W with | some S2 => ad_ k (bw_ k g S x t M W) S2 x | none => bw_ k g S x t M W)
    cases hg : gt_ g S t W with
    | none => exact y
    | some S2 => exact ad_al k x (hs W S2 (by omega) hg) _ y
theorem bt_al {P : gs_T → Prop} (k : gs_T → Nat) {g : gm_T} {W : Nat} {S : gs_T} (x : Int64) {M : List (gs_T × Int64)} (h : al_ P M) : ∀ T, (∀ t w S2, t < T → w < W → gt_ g S t w = some S2 → P S2) → al_ P (bt_ k g W S x M T) := by
  intro T
  induction T with
  | zero => intro _; exact h
  | succ T ih =>
    intro hs
    exact bw_al k x (ih (fun t w S2 z => hs t w S2 (by omega))) W (fun w S2 z => hs T w S2 (by omega) z)
theorem bn_s {k : gs_T → Nat} {g : gm_T} {T W : Nat} {S0 : gs_T} {n : Nat} {q : gs_T × Int64} (h : (bn_ k g T W S0 n)[n]? = some q) : bn_ k g T W S0 (n + 1) = bt_ k g W q.1 q.2 (bn_ k g T W S0 n) T := by
  show (match (bn_ k g T W S0 n)[n]? with | some q => bt_ k g W q.1 q.2 (bn_ k g T W S0 n) T | none => bn_ k g T W S0 n) = _
  rw [h]
theorem bn_n {k : gs_T → Nat} {g : gm_T} {T W : Nat} {S0 : gs_T} {n : Nat} (h : (bn_ k g T W S0 n).length ≤ n) : bn_ k g T W S0 (n + 1) = bn_ k g T W S0 n := by
  show (match (bn_ k g T W S0 n)[n]? with | some q => bt_ k g W q.1 q.2 (bn_ k g T W S0 n) T | none => bn_ k g T W S0 n) = _
  rw [List.getElem?_eq_none h]
theorem bn_stab {k : gs_T → Nat} {g : gm_T} {T W : Nat} {S0 : gs_T} {n : Nat} (h : (bn_ k g T W S0 n).length ≤ n) : ∀ v, bn_ k g T W S0 (n + v) = bn_ k g T W S0 n := by
  intro v
  induction v with
  | zero => rfl
  | succ v ih =>
    have y : bn_ k g T W S0 (n + v + 1) = bn_ k g T W S0 (n + v) := bn_n (by rw [ih]; omega)
    exact y.trans ih
theorem bn_al (zP : Wp_ p) {S0 : gs_T} (h0 : Vg_ p S0) (k : gs_T → Nat) : ∀ n, al_ (Vg_ p) (bn_ k (gcl_ p m F) (pT_ p) (1 + pL_ p) S0 n) := by
  intro n
  induction n with
  | zero =>
    intro q hq
    have e : q = (S0, 1) := List.mem_singleton.mp hq
    rw [e]
    exact h0
  | succ n ih =>
    cases hq : (bn_ k (gcl_ p m F) (pT_ p) (1 + pL_ p) S0 n)[n]? with
    | none =>
      have y := List.getElem?_eq_none_iff.mp hq
      rw [bn_n y]
      exact ih
    | some q =>
      rw [bn_s hq]
      have hm : q ∈ bn_ k (gcl_ p m F) (pT_ p) (1 + pL_ p) S0 n := List.mem_of_getElem? hq
      exact bt_al k q.2 ih (pT_ p) (fun t w S2 z1 z2 z3 => vg_step zP (ih q hm) z1 (by omega) z3)
/-- all states that the class finds, in their order -/
def bf_ (p : pr_T) (m : Nat) (F : Nat → Bool) : List (gs_T × Int64) := bn_ (en_ p) (gcl_ p m F) (pT_ p) (1 + pL_ p) (s0k_ p (pL_ p)) 131072
def Bd_ (p : pr_T) (m : Nat) (F : Nat → Bool) : Prop := ∀ n, (bn_ (en_ p) (gcl_ p m F) (pT_ p) (1 + pL_ p) (s0k_ p (pL_ p)) n).length ≤ 131072
theorem l_ex33 (zP : Wp_ p) (zw : Wd σ) (zT : Tk_ σ L0 t0) (zR : Rp_ σ 132 p) (zM : Mc_ σ p m F) (h0 : Vg_ p (s0k_ p (pL_ p))) (hb : Bd_ p m F) {Q : rs_T → st_T → Prop} (zQ : ∀ s, Xs_ σ t0 p s (bf_ p m F) → Q (.inl none) s) :
    ∀ k n : Nat, k + n = 131072 → ∀ s, Xs_ σ t0 p s (bn_ (en_ p) (gcl_ p m F) (pT_ p) (1 + pL_ p) (s0k_ p (pL_ p)) n) → vv_ γ m_X2_explore 4 33 [(0, .ref 147), (3, .int (i_ (n : Int)))] [] s Q := by
  intro k
  induction k with
  | zero =>
    intro n zi s zs
    obtain ⟨u, h1, h2, h3⟩ := id zs
    have hn := hb n
    have ze := c_tsize (γ := γ) h1 h2.1
    have e : (wm_ p (bn_ (en_ p) (gcl_ p m F) (pT_ p) (1 + pL_ p) (s0k_ p (pL_ p)) n)).length = (bn_ (en_ p) (gcl_ p m F) (pT_ p) (1 + pL_ p) (s0k_ p (pL_ p)) n).length := List.length_map _
    rw [e] at ze
    have zn : n = 131072 := by omega
    refine g_X2_explore_33 h1 ?_
    unfold p_X2_explore_33
    simp (disch := omega) only [i_lit, i_le]
    refine ⟨fun z => by omega, fun _ => ⟨_, s, h1, ze, ?_⟩⟩
    simp (disch := omega) only [i_le]
    exact ⟨fun _ => zQ s (by rw [zn] at zs; exact zs), fun z => by omega⟩
  | succ k ih =>
    intro n zi s zs
    obtain ⟨u, h1, h2, h3⟩ := id zs
    have hn := hb n
    have ze := c_tsize (γ := γ) h1 h2.1
    have e : (wm_ p (bn_ (en_ p) (gcl_ p m F) (pT_ p) (1 + pL_ p) (s0k_ p (pL_ p)) n)).length = (bn_ (en_ p) (gcl_ p m F) (pT_ p) (1 + pL_ p) (s0k_ p (pL_ p)) n).length := List.length_map _
    rw [e] at ze
    refine g_X2_explore_33 h1 ?_
    unfold p_X2_explore_33
    simp (disch := omega) only [i_lit, i_le]
    refine ⟨fun z => by omega, fun _ => ⟨_, s, h1, ze, ?_⟩⟩
    simp (disch := omega) only [i_le]
    refine ⟨fun z => zQ s ?_, fun z => ?_⟩
    · have y := bn_stab (k := en_ p) (g := gcl_ p m F) (T := pT_ p) (W := 1 + pL_ p) (S0 := s0k_ p (pL_ p)) (n := n) (by omega) (131072 - n)
      rw [show n + (131072 - n) = 131072 by omega] at y
      unfold bf_
      rw [y]
      exact zs
    · obtain ⟨q, hq⟩ : ∃ q, (bn_ (en_ p) (gcl_ p m F) (pT_ p) (1 + pL_ p) (s0k_ p (pL_ p)) n)[n]? = some q := ⟨_, List.getElem?_eq_getElem (by omega)⟩
      have hq2 : (wm_ p (bn_ (en_ p) (gcl_ p m F) (pT_ p) (1 + pL_ p) (s0k_ p (pL_ p)) n))[n]? = some (en_ p q.1, q.2) := by
        unfold wm_
        rw [List.getElem?_map, hq]
        rfl
      have hm := bn_al zP h0 (m := m) (F := F) (en_ p) n q (List.mem_of_getElem? hq)
      have hs := bn_s hq
      have hb2 := hb (n + 1)
      rw [hs] at hb2
      refine ⟨_, s, h1, c_stateAt h1 h2.1 hq2, _, s, h1, c_waysAt h1 h2.1 hq2, ?_⟩
      refine l_ex73 zP zw zT zR zM hm hb2 (fun s' hs' => ?_) (pT_ p) 0 (by omega) s zs
      have z := ih (n + 1) (by omega) s' (by rw [hs]; exact hs')
      rw [show ((n + 1 : Nat) : Int) = (n : Int) + 1 by omega, ← i_add, ← i_lit 1] at z
      exact z
end EO
