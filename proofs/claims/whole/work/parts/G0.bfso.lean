/-! the search's order: each step goes one deeper, the list goes down by depth -/
section BO
variable {g : gm_T} {K t n : Nat} {S S2 S0 : gs_T} {k : gs_T → Nat} {T W : Nat}
def stc_ (g : gm_T) (S : gs_T) (t : Nat) : Nat := ct_ (fun j => decide (gC_ g (gB_ g t + j) 1 = 0)) (sP_ S t)
/-- how deep a state lies -/
def dep_ (g : gm_T) (K : Nat) (S : gs_T) : Int := (sP_ S 0 : Int) + sP_ S 1 + sP_ S 2 + sP_ S 3 + (if gm_ g = 0 then 0 else (stc_ g S 0 : Int) + stc_ g S 1 + stc_ g S 2 + stc_ g S 3 - ct_ (sW_ S) K)
theorem seg_un (hg : Gw_ g K) {t u n : Nat} (q1 : t < 4) (q2 : u < 4) (h1 : gB_ g t ≤ n ∧ n < gB_ g (t + 1)) (h2 : gB_ g u ≤ n ∧ n < gB_ g (u + 1)) : t = u := by
  obtain ⟨-, -, -, bm, -⟩ := hg
  have y0 := bm 0 (by decide)
  have y1 := bm 1 (by decide)
  have y2 := bm 2 (by decide)
  have y3 := bm 3 (by decide)
  rcases (show t = 0 ∨ t = 1 ∨ t = 2 ∨ t = 3 by omega) with e | e | e | e <;> rcases (show u = 0 ∨ u = 1 ∨ u = 2 ∨ u = 3 by omega) with e2 | e2 | e2 | e2 <;> subst e <;> subst e2 <;> first | rfl | (exfalso; simp only [Nat.zero_add, Nat.reduceAdd] at *; omega)
theorem dep_x (hg : Gw_ g K) (v : Vr_ g K S) (q1 : t < 4) (q : gx_ g S t = some S2) : dep_ g K S2 = dep_ g K S + 1 := by
  obtain ⟨k1, k2, k3⟩ := gk_ hg q1
  obtain ⟨z1, z2⟩ := gx_eq (by rw [q]; exact fun y => by cases y)
  have eb := gx_b z1 z2
  rw [q] at eb
  have eb := Option.some.inj eb
  have eP : sP_ S2 = un_ (sP_ S) t (sP_ S t + 1) := by rw [eb]; exact gxb_P _ _ _ _
  have hP : ∀ u, sP_ S2 u = if u = t then sP_ S t + 1 else sP_ S u := fun u => by rw [eP]; rfl
  have hS : ∀ u, stc_ g S2 u = if u = t then stc_ g S t + (if decide (gC_ g (gB_ g t + sP_ S t) 1 = 0) = true then 1 else 0) else stc_ g S u := fun u => by
    unfold stc_
    rw [hP]
    by_cases e : u = t
    · rw [if_pos e, if_pos e, e, ct_s]
    · rw [if_neg e, if_neg e]
  have nW : sW_ S (gB_ g t + sP_ S t) = false := by
    cases e : sW_ S (gB_ g t + sP_ S t) with
    | false => rfl
    | true =>
      obtain ⟨-, -, -, u, u1, u2, u3⟩ := v.2.2.2.2 _ e
      have hu := v.2.2.2.1 u u1
      obtain ⟨m1, m2, m3⟩ := gk_ hg u1
      have := seg_un hg q1 u1 (n := gB_ g t + sP_ S t) ⟨by omega, by omega⟩ ⟨u2, by omega⟩
      subst this
      omega
  have hW : gm_ g ≠ 0 → (ct_ (sW_ S2) K : Int) = ct_ (sW_ S) K + ((if decide (gC_ g (gB_ g t + sP_ S t) 1 = 0) = true then 1 else 0 : Nat) : Int) := fun hm => by
    by_cases c : gC_ g (gB_ g t + sP_ S t) 1 = 0
    · have eW : sW_ S2 = ub_ (sW_ S) (gB_ g t + sP_ S t) true := by
        rw [eb]
        unfold gxb_
        rw [if_pos c, if_neg hm]
        rfl
      rw [decide_eq_true c]
      have y := ct_pt (f := sW_ S2) (f2 := sW_ S) (n0 := gB_ g t + sP_ S t) (N := K) (by omega) (by rw [eW]; exact if_pos rfl) nW (fun j zj => by rw [eW]; exact (if_neg zj).symm)
      rw [y]
      rfl
    · have eW : sW_ S2 = sW_ S := by
        rw [eb]
        unfold gxb_
        rw [if_neg c]
        repeat (first | rfl | split)
      rw [decide_eq_false c, eW]
      exact (Int.add_zero _).symm
  unfold dep_
  rw [hP, hP, hP, hP, hS, hS, hS, hS]
  by_cases hm : gm_ g = 0
  · rw [if_pos hm, if_pos hm]
    rcases (show t = 0 ∨ t = 1 ∨ t = 2 ∨ t = 3 by omega) with e | e | e | e <;> subst e <;> simp <;> omega
  · rw [if_neg hm, if_neg hm, hW hm]
    generalize (if decide (gC_ g (gB_ g t + sP_ S t) 1 = 0) = true then 1 else 0 : Nat) = x
    rcases (show t = 0 ∨ t = 1 ∨ t = 2 ∨ t = 3 by omega) with e | e | e | e <;> subst e <;> simp <;> omega
theorem dep_c (hg : Gw_ g K) (v : Vr_ g K S) (q1 : t < 4) {l : Nat} (q : gc_ g S t l = some S2) : dep_ g K S2 = dep_ g K S + 1 := by
  obtain ⟨k1, k2, k3⟩ := gk_ hg q1
  obtain ⟨n, z1, z2, z3, z4⟩ := gc_sum q
  obtain ⟨n1, n2, n3, n4⟩ := gn_sum z1
  have hm := (v.2.2.2.2 n n3).2.2.1
  have y := ct_pt (f := sW_ S) (f2 := sW_ S2) (n0 := n) (N := K) (by omega) n3 (by rw [z4]; exact if_pos rfl) (fun j zj => by rw [z4]; exact if_neg zj)
  unfold dep_ stc_
  rw [z2, if_neg hm, if_neg hm, y]
  omega
theorem dep_t (hg : Gw_ g K) (v : Vr_ g K S) (q1 : t < 4) {w : Nat} (q : gt_ g S t w = some S2) : dep_ g K S2 = dep_ g K S + 1 := by
  unfold gt_ at q
  split at q
  · exact dep_x hg v q1 q
  · exact dep_c hg v q1 q
/-- the list goes down: depths do not fall, and are at most one more -/
def Sd_ (d : gs_T → Int) (R : Int) (M : List (gs_T × Int64)) : Prop := M.Pairwise (fun x y => d x.1 ≤ d y.1) ∧ ∀ x ∈ M, d x.1 ≤ R
theorem sd_ad {d : gs_T → Int} {R : Int} {s : gs_T} {x : Int64} (hs : d s = R) : ∀ {M : List (gs_T × Int64)}, Sd_ d R M → Sd_ d R (ad_ k M s x) := by
  intro M
  induction M with
  | nil =>
    intro _
    refine ⟨List.pairwise_singleton _ _, fun y hy => ?_⟩
    rw [List.mem_singleton.mp hy]
    exact Int.le_of_eq hs
  | cons q r ih =>
    rintro ⟨h1, h2⟩
    obtain ⟨h3, h4⟩ := List.pairwise_cons.mp h1
    unfold ad_
    split
    · exact ⟨List.pairwise_cons.mpr ⟨h3, h4⟩, fun y hy => by
        rcases List.mem_cons.mp hy with e | e
        · rw [e]
          exact h2 q List.mem_cons_self
        · exact h2 y (List.mem_cons_of_mem _ e)⟩
    · obtain ⟨i1, i2⟩ := ih ⟨h4, fun y hy => h2 y (List.mem_cons_of_mem _ hy)⟩
      refine ⟨List.pairwise_cons.mpr ⟨fun y hy => ?_, i1⟩, fun y hy => ?_⟩
      · rcases ad_mem k s x r y hy with ⟨z, z1, z2⟩ | e
        · rw [← z2]
          exact h3 z z1
        · rw [e, hs]
          exact h2 q List.mem_cons_self
      · rcases List.mem_cons.mp hy with e | e
        · rw [e]
          exact h2 q List.mem_cons_self
        · exact i2 y e
theorem sd_bw {d : gs_T → Int} {x : Int64} {M : List (gs_T × Int64)} (hs : ∀ w S2, w < W → gt_ g S t w = some S2 → d S2 = d S + 1) (h : Sd_ d (d S + 1) M) : ∀ w, w ≤ W → Sd_ d (d S + 1) (bw_ k g S x t M w) := by
  intro w
  induction w with
  | zero => intro _; exact h
  | succ w ih =>
    intro hw
    unfold bw_
    cases e : gt_ g S t w with
    | none => exact ih (by omega)
    | some S2 => exact sd_ad (hs w S2 (by omega) e) (ih (by omega))
theorem sd_bt {d : gs_T → Int} {x : Int64} {M : List (gs_T × Int64)} (hs : ∀ t w S2, t < T → w < W → gt_ g S t w = some S2 → d S2 = d S + 1) (h : Sd_ d (d S + 1) M) : ∀ t, t ≤ T → Sd_ d (d S + 1) (bt_ k g W S x M t) := by
  intro t
  induction t with
  | zero => intro _; exact h
  | succ t ih =>
    intro ht
    unfold bt_
    exact sd_bw (fun w S2 z1 z2 => hs t w S2 (by omega) z1 z2) (ih (by omega)) W (Nat.le_refl _)
theorem sd_bn {d : gs_T → Int} {P : gs_T → Prop} (h0 : P S0) (hP : ∀ S t w S2, P S → t < T → w < W → gt_ g S t w = some S2 → P S2) (hs : ∀ S t w S2, P S → t < T → w < W → gt_ g S t w = some S2 → d S2 = d S + 1) :
    ∀ n, (∃ R, Sd_ d R (bn_ k g T W S0 n)) ∧ ∀ q, (bn_ k g T W S0 n)[n]? = some q → Sd_ d (d q.1 + 1) (bn_ k g T W S0 n) := by
  intro n
  induction n with
  | zero =>
    have z : Sd_ d (d S0 + 1) (bn_ k g T W S0 0) := ⟨List.pairwise_singleton _ _, fun y hy => by
      have e : y = (S0, 1) := List.mem_singleton.mp hy
      rw [e]
      show d S0 ≤ d S0 + 1
      omega⟩
    refine ⟨⟨_, z⟩, fun q hq => ?_⟩
    have e : (S0, (1 : Int64)) = q := Option.some.inj hq
    rw [← e]
    exact z
  | succ n ih =>
    obtain ⟨⟨R, i1⟩, i2⟩ := ih
    cases hq : (bn_ k g T W S0 n)[n]? with
    | none =>
      have y := List.getElem?_eq_none_iff.mp hq
      rw [bn_n y]
      refine ⟨⟨R, i1⟩, fun q hq2 => ?_⟩
      rw [List.getElem?_eq_none (by omega)] at hq2
      cases hq2
    | some q =>
      have Pq := bn_alP k h0 hP n q (List.mem_of_getElem? hq)
      have y := sd_bt (k := k) (x := q.2) (fun t w S2 z1 z2 z3 => hs q.1 t w S2 Pq z1 z2 z3) (i2 q hq) T (Nat.le_refl _)
      rw [bn_s hq]
      refine ⟨⟨_, y⟩, fun q2 hq2 => ⟨y.1, fun z hz => ?_⟩⟩
      have a := y.2 z hz
      -- the next one lies no higher
      have b : d q.1 ≤ d q2.1 := by
        have e1 : ∃ x, (bt_ k g W q.1 q.2 (bn_ k g T W S0 n) T)[n]? = some (q.1, x) := by
          have y := bn_at (k := k) (g := g) (T := T) (W := W) (S0 := S0) (v := 1) hq
          rw [bn_s hq] at y
          exact y
        obtain ⟨x, e1⟩ := e1
        obtain ⟨l1, l2⟩ := List.getElem?_eq_some_iff.mp e1
        obtain ⟨m1, m2⟩ := List.getElem?_eq_some_iff.mp hq2
        have pw := List.pairwise_iff_getElem.mp y.1 n (n + 1) l1 m1 (by omega)
        rw [l2, m2] at pw
        exact pw
      omega
/-- a step leads further down the list -/
theorem bn_after {d : gs_T → Int} {P : gs_T → Prop} (h0 : P S0) (hP : ∀ S t w S2, P S → t < T → w < W → gt_ g S t w = some S2 → P S2) (hs : ∀ S t w S2, P S → t < T → w < W → gt_ g S t w = some S2 → d S2 = d S + 1) {n i j : Nat} {q q2 : gs_T × Int64} (hi : (bn_ k g T W S0 n)[i]? = some q) (hj : (bn_ k g T W S0 n)[j]? = some q2) (hd : d q2.1 = d q.1 + 1) : i < j := by
  obtain ⟨⟨R, h1⟩, -⟩ := sd_bn (k := k) h0 hP hs n
  obtain ⟨l1, l2⟩ := List.getElem?_eq_some_iff.mp hi
  obtain ⟨m1, m2⟩ := List.getElem?_eq_some_iff.mp hj
  by_cases c : i < j
  · exact c
  · exfalso
    by_cases e : i = j
    · subst e
      rw [hi] at hj
      cases hj
      omega
    · have pw := List.pairwise_iff_getElem.mp h1.1 j i m1 l1 (by omega)
      rw [l2, m2] at pw
      have pw : d q2.1 ≤ d q.1 := pw
      omega
end BO
