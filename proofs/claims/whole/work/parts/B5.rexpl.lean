/-! the reference's search -/
section RE
variable {γ : ga_T} {σ σ1 : st_T} {g : gm_T} {K c n t : Nat} {S : gs_T} {x : Int64} {p : pr_T} {M : List (Nat × Int64)}
/-- the reference holds a program -/
def Nr_ (σ : st_T) (p : pr_T) : Prop := Bp_ p ∧ st_I σ 187 0 = i_ (pN_ p : Int) ∧ st_I σ 187 1 = i_ (pT_ p : Int) ∧ st_I σ 187 2 = i_ (pL_ p : Int) ∧ (∀ l, l < pL_ p → st_I σ 187 (3 + l) = i_ (pI_ p l)) ∧ ∀ i k, i < pN_ p → k < 6 → st_I σ 187 (6 + 6 * i + k) = i_ (pC_ p i k)
theorem nr_ro {D : Nat → Nat → Prop} (h : ro_ D σ σ1) (hD : ∀ k, ¬ D 187 k) (N : Nr_ σ p) : Nr_ σ1 p := by
  obtain ⟨h1, h2, h3, h4, h5, h6⟩ := N
  exact ⟨h1, (h.2 _ _ (hD _)).1.trans h2, (h.2 _ _ (hD _)).1.trans h3, (h.2 _ _ (hD _)).1.trans h4, fun l z => (h.2 _ _ (hD _)).1.trans (h5 l z), fun i k z1 z2 => (h.2 _ _ (hD _)).1.trans (h6 i k z1 z2)⟩
theorem kr_ne {S2 : gs_T} {w : Nat} (hg : Gw_ g K) (v : Vr_ g K S) (q1 : t < 4) (q2 : w < 4) (q : gt_ g S t w = some S2) : kr_ g K S2 ≠ kr_ g K S := by
  intro e
  have v2 := vr_step hg v q1 q2 q
  have e2 : S2 = S := cr_eq (kr_cr hg S2) (by rw [e]; exact kr_cr hg S) v2 v
  subst e2
  unfold gt_ at q
  split at q
  · have h := gx_eq (g := g) (S := S2) (t := t) (by rw [q]; intro z; cases z)
    rw [gx_b h.1 h.2] at q
    have q := Option.some.inj q
    have y : sP_ (gxb_ g S2 t (gB_ g t + sP_ S2 t)) t = sP_ S2 t + 1 := by
      unfold gxb_
      have u : un_ (sP_ S2) t (sP_ S2 t + 1) t = sP_ S2 t + 1 := if_pos rfl
      split
      · split
        · exact u
        · exact u
      · split
        · exact u
        · split
          · exact u
          · exact u
    rw [q] at y
    omega
  · unfold gc_ at q
    cases e : gn_ g S2 t (w - 1) with
    | none => rw [e] at q; cases q
    | some j =>
      rw [e] at q
      have q := Option.some.inj q
      have y := (gn_in v e).2.2.2
      have y2 : sW_ (sP_ S2, sR_ S2, un_ (sM_ S2) (w - 1) (gv_ g S2 t j), ub_ (sW_ S2) j false) j = false := if_pos rfl
      rw [q, y] at y2
      cases y2
theorem ad_keep {α : Type} (k : α → Nat) (s : α) (x : Int64) : ∀ (L : List (α × Int64)) (n : Nat) (q : α × Int64), L[n]? = some q → k q.1 ≠ k s → (ad_ k L s x)[n]? = some q := by
  intro L
  induction L with
  | nil => intro n q h _; simp at h
  | cons r L ih =>
    intro n q h hne
    unfold ad_
    cases n with
    | zero =>
      rw [List.getElem?_cons_zero] at h
      have h := Option.some.inj h
      rw [h, if_neg hne]
      rfl
    | succ n =>
      rw [List.getElem?_cons_succ] at h
      split
      · rw [List.getElem?_cons_succ]
        exact h
      · rw [List.getElem?_cons_succ]
        exact ih n q h hne
def wq_ (g : gm_T) (K : Nat) (M : List (gs_T × Int64)) : List (Nat × Int64) := M.map (fun q => (kr_ g K q.1, q.2))
def dX_ (a k : Nat) : Prop := dS_ a k ∨ dT_ a k
theorem rk_dS (h : ro_ dS_ σ σ1) (zT : Rk_ σ M c) : Rk_ σ1 M c := by
  obtain ⟨hc, hM, ⟨i1, i2, i3⟩, ⟨sl, z1, z2⟩, hN⟩ := zT
  have f : ∀ a k, ¬ dS_ a k → st_I σ1 a k = st_I σ a k ∧ st_L σ1 a k = st_L σ a k := h.2
  have d : ∀ a k, 186 ≤ a → ¬ dS_ a k := fun a k z y => by unfold dS_ at y; omega
  refine ⟨hc, hM, ⟨?_, ?_, fun i y z => ?_⟩, ⟨sl, fun q hq => ⟨fun y => ?_, fun y => ?_⟩, z2⟩, hN⟩
  · rw [(f 185 39 (fun y => by unfold dS_ at y; omega)).1]
    exact i1
  · rw [(f 185 40 (fun y => by unfold dS_ at y; omega)).1]
    exact i2
  · rw [(f 204 i (d _ _ (by decide))).2, (f 205 i (d _ _ (by decide))).2]
    exact i3 i y z
  · obtain ⟨a, a1, a2, a3⟩ := (z1 q hq).1 y
    exact ⟨a, a1, a2, by rw [(f 207 q (d _ _ (by decide))).1]; exact a3⟩
  · rw [(f 207 q (d _ _ (by decide))).1, (f 206 q (d _ _ (by decide))).1]
    exact (z1 q hq).2 y
theorem rk_set {j w : Nat} {y z : Int64} (zT : Rk_ σ M c) (h : M[j]? = some (w, y)) : Rk_ (pt_L σ 205 j z) (M.set j (w, z)) c := by
  obtain ⟨hc, hM, ⟨i1, i2, i3⟩, ⟨sl, z1, z2⟩, hN⟩ := zT
  have el : (M.set j (w, z)).length = M.length := List.length_set
  refine ⟨hc, by rw [el]; exact hM, ⟨by rw [el]; exact i1, i2, fun i q hq => ?_⟩, ⟨sl, z1, ?_⟩, fun i k a1 a2 a3 => ?_⟩
  · rw [List.getElem?_set] at hq
    by_cases e : j = i
    · rw [if_pos e] at hq
      have hl := (List.getElem?_eq_some_iff.mp h).1
      rw [if_pos hl] at hq
      rw [← Option.some.inj hq, ← e]
      obtain ⟨k1, k2, k3⟩ := i3 j _ h
      exact ⟨k1, if_pos ⟨rfl, rfl⟩, k3⟩
    · rw [if_neg e] at hq
      obtain ⟨k1, k2, k3⟩ := i3 i _ hq
      refine ⟨k1, ?_, k3⟩
      rw [st_pL, if_neg (fun y => e y.2.symm)]
      exact k2
  · rw [el]
    exact su_cg rp_lt z2 (fun _ _ => rfl) (fun i _ => wa_set h i)
  · rw [el] at a1 a2
    rw [wa_set h, wa_set h] at a3
    exact hN i k a1 a2 a3
/-- what the search leaves as it goes -/
def Xr_ (σ0 : st_T) (g : gm_T) (K c : Nat) (s : st_T) (M : List (gs_T × Int64)) : Prop := Wd s ∧ Rk_ s (wq_ g K M) c ∧ ro_ dX_ σ0 s
theorem dX_mr : ∀ a k, dX_ a k → ¬ (a = 185 ∧ k = 31) ∧ ¬ (196 ≤ a ∧ a ≤ 203) := fun a k h => by
  unfold dX_ dS_ dT_ at h
  omega
theorem l_rx58 {σ0 : st_T} (zM0 : Mr_ σ0 g K) (v : Vr_ g K S) (q1 : t < 4) (hn : n < 65536) {B : List (gs_T × Int64)} {Q : rs_T → st_T → Prop} (hb : ∀ w, w ≤ 4 → (bw_ (kr_ g K) g S x t B w).length ≤ 65535)
    (hk : ∀ s, Xr_ σ0 g K c s (bw_ (kr_ g K) g S x t B 4) → (bw_ (kr_ g K) g S x t B 4)[n]? = some (S, x) → vv_ γ m_X12_explores 4 49 [(0, .ref 185), (3, .int (i_ (n : Int))), (4, .int (i_ (t : Int) + 1))] [] s Q) :
    ∀ k w : Nat, k + w = 4 → ∀ s, Xr_ σ0 g K c s (bw_ (kr_ g K) g S x t B w) → (bw_ (kr_ g K) g S x t B w)[n]? = some (S, x) → vv_ γ m_X12_explores 4 58 [(0, .ref 185), (3, .int (i_ (n : Int))), (4, .int (i_ (t : Int))), (5, .int (i_ (w : Int)))] [] s Q := by
  have hg := zM0.1
  intro k
  induction k with
  | zero =>
    intro w zi s zs hS
    have zi : w = 4 := by omega
    subst zi
    refine g_X12_explores_58 zs.1 ?_
    unfold p_X12_explores_58
    simp (disch := omega) only [i_lit, i_lt]
    refine ⟨fun _ => ?_, fun z => by omega⟩
    have z := hk s zs hS
    rw [k1_] at z
    exact z
  | succ k ih =>
    intro w zi s zs hS
    obtain ⟨w1, w2, w3⟩ := id zs
    have zM := ro_mr w3 dX_mr zM0
    have hq2 : (wq_ g K (bw_ (kr_ g K) g S x t B w))[n]? = some (kr_ g K S, x) := by
      unfold wq_
      rw [List.getElem?_map, hS]
      rfl
    have eS := (w2.2.2.1.2.2 _ _ hq2).1
    refine g_X12_explores_58 w1 ?_
    unfold p_X12_explores_58
    rw [i_cl (by omega), Int.toNat_natCast, eS]
    have hgo : ∀ s', Xr_ σ0 g K c s' (bw_ (kr_ g K) g S x t B (w + 1)) → (bw_ (kr_ g K) g S x t B (w + 1))[n]? = some (S, x) → vv_ γ m_X12_explores 4 58 [(0, .ref 185), (3, .int (i_ (n : Int))), (4, .int (i_ (t : Int))), (5, .int (i_ (w : Int) + 1))] [] s' Q := fun s' h1 h2 => by
      have z := ih (w + 1) (by omega) s' h1 h2
      rw [show ((w + 1 : Nat) : Int) = (w : Int) + 1 by omega, ← i_add, ← i_lit 1] at z
      exact z
    refine ⟨fun z => ?_, fun _ => ⟨i_in (by omega) (by omega) (by omega), ?_⟩⟩
    · rw [k3_, i_lt (by omega) (by omega)] at z
      omega
    · rcases c_rstep (γ := γ) w1 zM v q1 (w := w) (by omega) with ⟨e0, f0⟩ | ⟨S2, s1, f0, e0, e1, e2, -, -⟩
      · refine ⟨_, _, w1, f0, fun _ => ?_, fun z => absurd rfl z⟩
        have eb : bw_ (kr_ g K) g S x t B (w + 1) = bw_ (kr_ g K) g S x t B w := by
          show (match gt_ g S t w with | some S2 => ad_ (kr_ g K) (bw_ (kr_ g K) g S x t B w) S2 x | none => bw_ (kr_ g K) g S x t B w) = _
          rw [e0]
        exact hgo s (by rw [eb]; exact zs) (by rw [eb]; exact hS)
      · have eb : bw_ (kr_ g K) g S x t B (w + 1) = ad_ (kr_ g K) (bw_ (kr_ g K) g S x t B w) S2 x := by
          show (match gt_ g S t w with | some S2 => ad_ (kr_ g K) (bw_ (kr_ g K) g S x t B w) S2 x | none => bw_ (kr_ g K) g S x t B w) = _
          rw [e0]
        have hl := hb (w + 1) (by omega)
        have ne := kr_ne hg v q1 (by omega) e0
        have hS2 := ad_keep (kr_ g K) S2 x _ n (S, x) hS (Ne.symm ne)
        rw [← eb] at hS2
        have W1 := ro_wd e1 w1
        have T1 := rk_dS e1 w2
        have em : wq_ g K (bw_ (kr_ g K) g S x t B (w + 1)) = ad_ (fun n => n) (wq_ g K (bw_ (kr_ g K) g S x t B w)) (kr_ g K S2) x := by
          rw [eb]
          exact ad_map (kr_ g K) S2 x _
        have hlw : (wq_ g K (bw_ (kr_ g K) g S x t B (w + 1))).length ≤ 65535 := by
          unfold wq_
          rw [List.length_map]
          exact hl
        obtain ⟨s2, M', j, y, f1, f2, f3, f4, f5⟩ := c_rstateOf (γ := γ) W1 T1 (w := kr_ g K S2) (Nat.lt_trans (kr_lt g K S2) (by decide)) (fun hne => by
          rw [em, ad_none _ _ _ hne, List.length_append] at hlw
          exact hlw)
        have W2 := ro_wd f3 W1
        have hn2 : M'[n]? = some (kr_ g K S, x) := by
          rcases f5 with ⟨rfl, -⟩ | ⟨rfl, -⟩
          · exact hq2
          · rw [List.getElem?_append_left (List.getElem?_eq_some_iff.mp hq2).1]
            exact hq2
        have ex := (f2.2.2.1.2.2 _ _ hn2).2.1
        have ey := (f2.2.2.1.2.2 _ _ f4).2.1
        have fin : M'.set j (kr_ g K S2, y + x) = wq_ g K (bw_ (kr_ g K) g S x t B (w + 1)) := by
          rw [em]
          rcases f5 with ⟨rfl, hj⟩ | ⟨rfl, rfl, rfl, hj⟩
          · exact (ad_some _ _ _ _ _ f4 hj).symm
          · rw [ad_none _ _ _ hj, List.set_append_right _ _ (Nat.le_refl _), Nat.sub_self]
            show _ ++ [(kr_ g K S2, 0 + x)] = _
            rw [Int64.zero_add]
        have hj := f2.2.1
        have hj2 := (List.getElem?_eq_some_iff.mp f4).1
        rw [← e2] at f1
        refine ⟨_, _, W1, f0, fun z => absurd z (by decide), fun _ => ⟨_, _, W2, f1, i_in (by omega) (by omega) (by omega), i_in (by omega) (by omega) (by omega), i_in (by omega) (by omega) (by omega), ?_⟩⟩
        rw [i_cl (a := (j : Int)) (by omega), Int.toNat_natCast, ey, ex]
        refine hgo _ ⟨W2, ?_, ?_⟩ hS2
        · rw [← fin]
          exact rk_set f2 f4
        · exact ro_L (ro_tr w3 (ro_tr (ro_up e1 (fun _ _ h => Or.inl h)) (ro_up f3 (fun _ _ h => Or.inr h)))) (Or.inr (Or.inl ⟨by decide, by decide⟩))
theorem l_rx49 {σ0 : st_T} (zM0 : Mr_ σ0 g K) (v : Vr_ g K S) (hn : n < 65536) {B : List (gs_T × Int64)} {Q : rs_T → st_T → Prop} (hb : (bt_ (kr_ g K) g 4 S x B 4).length ≤ 65535)
    (hk : ∀ s, Xr_ σ0 g K c s (bt_ (kr_ g K) g 4 S x B 4) → vv_ γ m_X12_explores 4 38 [(0, .ref 185), (3, .int (i_ (n : Int) + 1))] [] s Q) :
    ∀ k t : Nat, k + t = 4 → ∀ s, Xr_ σ0 g K c s (bt_ (kr_ g K) g 4 S x B t) → (bt_ (kr_ g K) g 4 S x B t)[n]? = some (S, x) → vv_ γ m_X12_explores 4 49 [(0, .ref 185), (3, .int (i_ (n : Int))), (4, .int (i_ (t : Int)))] [] s Q := by
  intro k
  induction k with
  | zero =>
    intro t zi s zs hS
    have zi : t = 4 := by omega
    subst zi
    refine g_X12_explores_49 zs.1 ?_
    unfold p_X12_explores_49
    simp (disch := omega) only [i_lit, i_le]
    refine ⟨fun _ => ?_, fun z => by omega⟩
    have z := hk s zs
    rw [k1_] at z
    exact z
  | succ k ih =>
    intro t zi s zs hS
    refine g_X12_explores_49 zs.1 ?_
    unfold p_X12_explores_49
    refine ⟨fun z => ?_, fun _ => ?_⟩
    · rw [k4_, i_le (by omega) (by omega)] at z
      omega
    · rw [k0_]
      refine l_rx58 zM0 v (t := t) (by omega) hn (fun w hw => ?_) (fun s' h1 h2 => ?_) 4 0 rfl s zs hS
      · have z1 := bw_le (kr_ g K) g S x t (bt_ (kr_ g K) g 4 S x B t) (w := w) (4 - w)
        rw [show w + (4 - w) = 4 by omega] at z1
        have z2 := bt_le (kr_ g K) g 4 S x B (t := t + 1) k
        rw [show t + 1 + k = 4 by omega] at z2
        exact Nat.le_trans z1 (Nat.le_trans z2 hb)
      · have z := ih (t + 1) (by omega) s' h1 h2
        rw [show ((t + 1 : Nat) : Int) = (t : Int) + 1 by omega, ← i_add, ← i_lit 1] at z
        exact z
theorem bn_alr (hg : Gw_ g K) {S0 : gs_T} (h0 : Vr_ g K S0) : ∀ n, al_ (Vr_ g K) (bn_ (kr_ g K) g 4 4 S0 n) := by
  intro n
  induction n with
  | zero =>
    intro q hq
    have e : q = (S0, 1) := List.mem_singleton.mp hq
    rw [e]
    exact h0
  | succ n ih =>
    cases hq : (bn_ (kr_ g K) g 4 4 S0 n)[n]? with
    | none =>
      have y := List.getElem?_eq_none_iff.mp hq
      rw [bn_n y]
      exact ih
    | some q =>
      rw [bn_s hq]
      have hm : q ∈ bn_ (kr_ g K) g 4 4 S0 n := List.mem_of_getElem? hq
      exact bt_al (kr_ g K) q.2 ih 4 (fun t w S2 z1 z2 z3 => vr_step hg (ih q hm) z1 z2 z3)
/-- all states that the reference finds, in their order -/
def br_ (g : gm_T) (K : Nat) (S0 : gs_T) : List (gs_T × Int64) := bn_ (kr_ g K) g 4 4 S0 65535
def Br_ (g : gm_T) (K : Nat) (S0 : gs_T) : Prop := ∀ n, (bn_ (kr_ g K) g 4 4 S0 n).length ≤ 65535
theorem l_rx38 {σ0 : st_T} (zM0 : Mr_ σ0 g K) {S0 : gs_T} (h0 : Vr_ g K S0) (hb : Br_ g K S0) {Q : rs_T → st_T → Prop} (zQ : ∀ s, Xr_ σ0 g K c s (br_ g K S0) → Q (.inl none) s) :
    ∀ k n : Nat, k + n = 65535 → ∀ s, Xr_ σ0 g K c s (bn_ (kr_ g K) g 4 4 S0 n) → vv_ γ m_X12_explores 4 38 [(0, .ref 185), (3, .int (i_ (n : Int)))] [] s Q := by
  intro k
  induction k with
  | zero =>
    intro n zi s zs
    have hn := hb n
    have e : (wq_ g K (bn_ (kr_ g K) g 4 4 S0 n)).length = (bn_ (kr_ g K) g 4 4 S0 n).length := List.length_map _
    have zn : n = 65535 := by omega
    refine g_X12_explores_38 zs.1 ?_
    unfold p_X12_explores_38
    rw [zs.2.1.2.2.1.1, e]
    simp (disch := omega) only [i_le]
    exact ⟨fun _ => zQ s (by rw [zn] at zs; exact zs), fun z => by omega⟩
  | succ k ih =>
    intro n zi s zs
    have hn := hb n
    have e : (wq_ g K (bn_ (kr_ g K) g 4 4 S0 n)).length = (bn_ (kr_ g K) g 4 4 S0 n).length := List.length_map _
    refine g_X12_explores_38 zs.1 ?_
    unfold p_X12_explores_38
    rw [zs.2.1.2.2.1.1, e]
    simp (disch := omega) only [i_le]
    refine ⟨fun z => zQ s ?_, fun z => ?_⟩
    · have y := bn_stab (k := kr_ g K) (g := g) (T := 4) (W := 4) (S0 := S0) (n := n) (by omega) (65535 - n)
      rw [show n + (65535 - n) = 65535 by omega] at y
      unfold br_
      rw [y]
      exact zs
    · obtain ⟨q, hq⟩ : ∃ q, (bn_ (kr_ g K) g 4 4 S0 n)[n]? = some q := ⟨_, List.getElem?_eq_getElem (by omega)⟩
      have hm := bn_alr zM0.1 h0 n q (List.mem_of_getElem? hq)
      have hs := bn_s hq
      have hb2 := hb (n + 1)
      rw [hs] at hb2
      rw [k0_]
      refine l_rx49 zM0 hm (by omega) hb2 (fun s' hs' => ?_) 4 0 rfl s zs hq
      have z := ih (n + 1) (by omega) s' (by rw [hs]; exact hs')
      rw [show ((n + 1 : Nat) : Int) = (n : Int) + 1 by omega, ← i_add, ← i_lit 1] at z
      exact z
theorem c_rfirst (zw : Wd σ) (hg : Gw_ g K) (zN : Nr_ σ p) : fn_ γ m_X12_firstState 1 [.ref 185] σ (.long (lN (kr_ g K (s0k_ p (pL_ p))))) σ := by
  obtain ⟨⟨-, -, bL, bI, -⟩, -, -, n2, n3, -⟩ := zN
  refine fn_q (fun Q zQ => e_X12_firstState zw ?_)
  unfold p_X12_firstState_0
  have key : ∀ k j : Nat, k + j = pL_ p → vv_ γ m_X12_firstState 1 4 [(0, .ref 185), (1, .long (lN (kr_ g K (s0k_ p j)))), (3, .int (i_ (j : Int)))] [] σ Q := by
    intro k
    induction k with
    | zero =>
      intro j zj
      have zj : j = pL_ p := by omega
      subst zj
      refine g_X12_firstState_4 zw ?_
      unfold p_X12_firstState_4
      rw [n2]
      exact ⟨fun _ => zQ, fun z => absurd (Int32.le_refl _) z⟩
    | succ k ih =>
      intro j zj
      have ihn := ih (j + 1) (by omega)
      have bj := bI j
      refine g_X12_firstState_4 zw ?_
      unfold p_X12_firstState_4
      rw [n2, show (3 : Int32) + i_ (j : Int) = i_ ((3 + j : Nat) : Int) by rw [k3_, i_add]; exact congrArg i_ (by omega), i_cl (a := ((3 + j : Nat) : Int)) (by omega), Int.toNat_natCast, n3 j (by omega), rs_M]
      refine ⟨fun z => ?_, fun _ => ⟨i_in (by omega) (by omega) (by omega), ?_⟩⟩
      · rw [i_le (by omega) (by omega)] at z
        omega
      · have e1 : pI_ p j = (((pI_ p j).toNat : Nat) : Int) := by omega
        have er := c_rwith (γ := γ) zw (s := kr_ g K (s0k_ p j)) (x := 32 + 2 * j) (y := (pI_ p j).toNat) (by omega) kr_63 (by omega)
        rw [← e1, kr_of hg (cr_setM hg (kr_cr hg (s0k_ p j)) (l := j) (v := (pI_ p j).toNat) (by omega) (by omega))] at er
        have e2 : (sP_ (s0k_ p j), sR_ (s0k_ p j), un_ (sM_ (s0k_ p j)) j (pI_ p j).toNat, sW_ (s0k_ p j)) = s0k_ p (j + 1) := by
          show ((fun _ => 0, fun _ => 0, un_ (fun l => if l < j then (pI_ p l).toNat else 0) j (pI_ p j).toNat, fun _ => false) : gs_T) = (fun _ => 0, fun _ => 0, fun l => if l < j + 1 then (pI_ p l).toNat else 0, fun _ => false)
          have e3 : un_ (fun l => if l < j then (pI_ p l).toNat else 0) j (pI_ p j).toNat = (fun l => if l < j + 1 then (pI_ p l).toNat else 0) := funext (fun l => by
            unfold un_
            by_cases y1 : l = j
            · rw [if_pos y1, if_pos (by omega), y1]
            · rw [if_neg y1]
              show (if l < j then (pI_ p l).toNat else 0) = _
              by_cases y2 : l < j
              · rw [if_pos y2, if_pos (by omega)]
              · rw [if_neg y2, if_neg (by omega)])
          rw [e3]
        rw [e2] at er
        refine ⟨_, _, zw, er, ?_⟩
        rw [show ((j + 1 : Nat) : Int) = (j : Int) + 1 by omega, ← i_add, ← i_lit 1] at ihn
        exact ihn
  have k0 := key (pL_ p) 0 (by omega)
  have e0 : (0 : Nat) = kr_ g K (s0k_ p 0) := kr_of hg (fun k => by
    rw [Nat.zero_testBit]
    unfold cR_
    split
    · exact (Nat.zero_testBit _).symm
    · split
      · exact (Nat.zero_testBit _).symm
      · split
        · exact (Nat.zero_testBit _).symm
        · refine (an_f _ _ (fun j _ => ?_)).symm
          show (_ && false) = false
          exact Bool.and_false _)
  rw [← e0] at k0
  exact k0
end RE
