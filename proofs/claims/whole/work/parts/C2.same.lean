/-! two searches that are one -/
section SA
variable {P : gs_T → Prop} {k k' : gs_T → Nat} {g g' : gm_T} {T W T' W' N : Nat} {S S0 : gs_T} {t w : Nat}
theorem f1_cg {f f' : Nat → Bool} : ∀ (v i : Nat), (∀ j, i ≤ j → j < i + v → f j = f' j) → f1_ f v i = f1_ f' v i
  | 0, _, _ => rfl
  | v + 1, i, h => by
    show (if f i = true then some i else f1_ f v (i + 1)) = (if f' i = true then some i else f1_ f' v (i + 1))
    rw [h i (Nat.le_refl _) (by omega), f1_cg v (i + 1) (fun j z1 z2 => h j (by omega) (by omega))]
theorem f2_cg {f f' : Nat → Bool} : ∀ (v i : Nat), (∀ j, i ≤ j → j < i + v → f j = f' j) → f2_ f v i = f2_ f' v i
  | 0, _, _ => rfl
  | v + 1, i, h => by
    show (match f2_ f v (i + 1) with | some j => some j | none => if f i = true then some i else none) = (match f2_ f' v (i + 1) with | some j => some j | none => if f' i = true then some i else none)
    rw [h i (Nat.le_refl _) (by omega), f2_cg v (i + 1) (fun j z1 z2 => h j (by omega) (by omega))]
theorem gt_cg (hB : ∀ t, gB_ g t = gB_ g' t) (hm : gm_ g = gm_ g') (hC : ∀ n, n < N → ∀ k, gC_ g n k = gC_ g' n k) (hK : ∀ n, n < N → gK_ g n = gK_ g' n) (hN : gB_ g t + gl_ g t ≤ N) : gt_ g S t w = gt_ g' S t w := by
  have el : gl_ g t = gl_ g' t := by
    unfold gl_
    rw [hB, hB]
  have e1 : ga1_ g S t = ga1_ g' S t := by
    unfold ga1_
    rw [el, hB]
  have e2 : ∀ l, gw1_ g S t l = gw1_ g' S t l := fun l => by
    unfold gw1_
    rw [← el, ← hB]
    exact f1_cg _ _ (fun j z1 z2 => by rw [hC j (by omega)])
  have e3 : ∀ l, gw2_ g S t l = gw2_ g' S t l := fun l => by
    unfold gw2_
    rw [← el, ← hB]
    exact f2_cg _ _ (fun j z1 z2 => by rw [hC j (by omega)])
  have ev : ∀ n, n < N → gv_ g S t n = gv_ g' S t n := fun n hn => by
    unfold gv_
    rw [hC n hn, hC n hn]
  unfold gt_
  by_cases y : w = 0
  · rw [if_pos y, if_pos y]
    by_cases y1 : sP_ S t < gl_ g t ∧ ¬ (gK_ g (gB_ g t + sP_ S t) = true ∧ ga1_ g S t ≠ none)
    · have hn : gB_ g t + sP_ S t < N := by omega
      rw [gx_b y1.1 y1.2, gx_b (g := g') (by rw [← el]; exact y1.1) (by rw [← hB, ← hK _ hn, ← e1]; exact y1.2), ← hB]
      unfold gxb_
      rw [hC _ hn 1, hC _ hn 2, hC _ hn 3, hm, ev _ hn, e3]
      cases hj : gw2_ g' S t (gC_ g' (gB_ g t + sP_ S t) 2) with
      | none => rfl
      | some j =>
        have yj := (f2_some _ _ _).mp hj
        have yl : j < gB_ g' t + gl_ g' t := yj.2.1
        rw [← hB, ← el] at yl
        dsimp only
        rw [ev j (by omega)]
    · have h1 : ¬ sP_ S t < gl_ g t ∨ (gK_ g (gB_ g t + sP_ S t) = true ∧ ga1_ g S t ≠ none) := by
        by_cases y2 : sP_ S t < gl_ g t
        · by_cases y3 : gK_ g (gB_ g t + sP_ S t) = true ∧ ga1_ g S t ≠ none
          · exact Or.inr y3
          · exact absurd ⟨y2, y3⟩ y1
        · exact Or.inl y2
      have h2 : ¬ sP_ S t < gl_ g' t ∨ (gK_ g' (gB_ g' t + sP_ S t) = true ∧ ga1_ g' S t ≠ none) := by
        by_cases y2 : sP_ S t < gl_ g t
        · rcases h1 with h1 | h1
          · exact absurd y2 h1
          · rw [hK _ (by omega), hB, e1] at h1
            exact Or.inr h1
        · rw [el] at y2
          exact Or.inl y2
      rw [gx_n h1, gx_n h2]
  · rw [if_neg y, if_neg y]
    have en : gn_ g S t (w - 1) = gn_ g' S t (w - 1) := by
      unfold gn_
      rw [e2, hm, e1]
    unfold gc_
    rw [en]
    cases hj : gn_ g' S t (w - 1) with
    | none => rfl
    | some j =>
      have hw : gw1_ g' S t ((w - 1 : Nat) : Int) = some j := by
        unfold gn_ at hj
        cases y : gw1_ g' S t ((w - 1 : Nat) : Int) with
        | none => rw [y] at hj; cases hj
        | some i =>
          rw [y] at hj
          dsimp only at hj
          split at hj
          · cases hj
          · exact hj
      have yl : j < gB_ g' t + gl_ g' t := ((f1_some _ _ _).mp hw).2.1
      rw [← hB, ← el] at yl
      dsimp only
      rw [ev j (by omega)]
theorem ad_same (hk : ∀ S S', P S → P S' → (k S = k S' ↔ k' S = k' S')) {s : gs_T} (hs : P s) (x : Int64) : ∀ L, al_ P L → ad_ k L s x = ad_ k' L s x := by
  intro L
  induction L with
  | nil => intro _; rfl
  | cons q L ih =>
    intro h
    have e := hk q.1 s (h q List.mem_cons_self) hs
    unfold ad_
    rw [ih (fun r hr => h r (List.mem_cons_of_mem _ hr))]
    by_cases y : k q.1 = k s
    · rw [if_pos y, if_pos (e.mp y)]
    · rw [if_neg y, if_neg (fun z => y (e.mpr z))]
theorem bn_same (hT : T' ≤ T) (hW : W' ≤ W) (h0 : P S0) (hs : ∀ S t w S2, P S → t < T → w < W → gt_ g S t w = some S2 → P S2) (he : ∀ S t w, P S → t < T' → w < W' → gt_ g S t w = gt_ g' S t w) (hn : ∀ S t w, P S → t < T → w < W → (T' ≤ t ∨ W' ≤ w) → gt_ g S t w = none) (hk : ∀ S S', P S → P S' → (k S = k S' ↔ k' S = k' S')) : ∀ n, bn_ k g T W S0 n = bn_ k' g' T' W' S0 n := by
  have bw1 : ∀ S x t L, P S → t < T' → al_ P L → ∀ w, w ≤ W' → bw_ k g S x t L w = bw_ k' g' S x t L w := fun S x t L hS ht hL w => by
    induction w with
    | zero => intro _; rfl
    | succ w ih =>
      intro hw
      have ih := ih (by omega)
      have al := bw_al k (g := g) (S := S) (t := t) x hL w (fun w2 S2 z1 z2 => hs S t w2 S2 hS (by omega) (by omega) z2)
      show (match gt_ g S t w with | some S2 => ad_ k (bw_ k g S x t L w) S2 x | none => bw_ k g S x t L w) = (match gt_ g' S t w with | some S2 => ad_ k' (bw_ k' g' S x t L w) S2 x | none => bw_ k' g' S x t L w)
      rw [← he S t w hS ht (by omega), ← ih]
      cases hg : gt_ g S t w with
      | none => rfl
      | some S2 => exact ad_same hk (hs S t w S2 hS (by omega) (by omega) hg) x _ al
  have bw2 : ∀ S x t L, P S → t < T → (T' ≤ t → ∀ w, w ≤ W → bw_ k g S x t L w = L) ∧ (∀ v, W' + v ≤ W → bw_ k g S x t L (W' + v) = bw_ k g S x t L W') := fun S x t L hS ht => by
    refine ⟨fun h w => ?_, fun v => ?_⟩
    · induction w with
      | zero => intro _; rfl
      | succ w ih =>
        intro hw
        show (match gt_ g S t w with | some S2 => ad_ k (bw_ k g S x t L w) S2 x | none => bw_ k g S x t L w) = L
        rw [hn S t w hS ht (by omega) (Or.inl h)]
        exact ih (by omega)
    · induction v with
      | zero => intro _; rfl
      | succ v ih =>
        intro hw
        show (match gt_ g S t (W' + v) with | some S2 => ad_ k (bw_ k g S x t L (W' + v)) S2 x | none => bw_ k g S x t L (W' + v)) = _
        rw [hn S t (W' + v) hS ht (by omega) (Or.inr (Nat.le_add_right _ _))]
        exact ih (by omega)
  have bt1 : ∀ S x L, P S → al_ P L → ∀ t, t ≤ T' → bt_ k g W S x L t = bt_ k' g' W' S x L t := fun S x L hS hL t => by
    induction t with
    | zero => intro _; rfl
    | succ t ih =>
      intro ht
      have ih := ih (by omega)
      have al := bt_al k (g := g) (W := W) (S := S) x hL t (fun t2 w2 S2 z1 z2 z3 => hs S t2 w2 S2 hS (by omega) z2 z3)
      show bw_ k g S x t (bt_ k g W S x L t) W = bw_ k' g' S x t (bt_ k' g' W' S x L t) W'
      rw [← ih, ← bw1 S x t _ hS (by omega) al W' (Nat.le_refl _)]
      have z := (bw2 S x t (bt_ k g W S x L t) hS (by omega)).2 (W - W') (by omega)
      rw [show W' + (W - W') = W by omega] at z
      exact z
  have bt2 : ∀ S x L, P S → ∀ v, T' + v ≤ T → bt_ k g W S x L (T' + v) = bt_ k g W S x L T' := fun S x L hS v => by
    induction v with
    | zero => intro _; rfl
    | succ v ih =>
      intro hv
      show bw_ k g S x (T' + v) (bt_ k g W S x L (T' + v)) W = _
      rw [(bw2 S x (T' + v) _ hS (by omega)).1 (Nat.le_add_right _ _) W (Nat.le_refl _)]
      exact ih (by omega)
  intro n
  induction n with
  | zero => rfl
  | succ n ih =>
    have al := bn_alP (P := P) (g := g) (T := T) (W := W) k h0 hs n
    show (match (bn_ k g T W S0 n)[n]? with | some q => bt_ k g W q.1 q.2 (bn_ k g T W S0 n) T | none => bn_ k g T W S0 n) = (match (bn_ k' g' T' W' S0 n)[n]? with | some q => bt_ k' g' W' q.1 q.2 (bn_ k' g' T' W' S0 n) T' | none => bn_ k' g' T' W' S0 n)
    rw [← ih]
    cases hq : (bn_ k g T W S0 n)[n]? with
    | none => rfl
    | some q =>
      have hS := al q (List.mem_of_getElem? hq)
      have z := bt2 q.1 q.2 (bn_ k g T W S0 n) hS (T - T') (by omega)
      rw [show T' + (T - T') = T by omega] at z
      dsimp only
      rw [z]
      exact bt1 q.1 q.2 _ hS al T' (Nat.le_refl _)
end SA
