/-! a step that reads another value than the code has leads nowhere; the states of the search are closed under steps -/
section DE
variable {p : pr_T} {S S2 : gs_T} {m t w : Nat} {F : Nat → Bool}
theorem dr_cc (zP : Wp_ p) (zV : Vg_ p S) {q : Nat} (zq : q < 2 * pT_ p) : dr_ p (cc_ p S) q = sR_ S q := by
  have b1 := zP.1.2.1
  have b2 := zP.1.2.2.1
  have k1 := cw_R (en_cw (p := p) S) zV.1 (q := q) (by omega) (by omega) zq
  unfold dr_ cc_
  generalize hs : 2 * (2 * pT_ p + pL_ p - 1 - q) = s at k1 ⊢
  rw [← k1, show (4 : Nat) = 2 ^ 2 from rfl]
  refine fld_ (Nat.mod_lt _ (by decide)) (fun j zj => ?_)
  rw [Nat.testBit_mod_two_pow, Nat.testBit_mod_two_pow, Nat.testBit_div_two_pow, decide_eq_true (show s + j < 22 by omega), decide_eq_true zj, Nat.add_comm]
theorem reg_stay (zP : Wp_ p) {n r : Nat} (zn : n < pN_ p) (zt : pC_ p n 0 = t) (zr : pC_ p n 3 = r) (zr1 : r ≤ 1) : ∀ (path : List (Nat × Nat)) (X Y : gs_T), (∀ q ∈ path, q.1 < pT_ p ∧ q.2 ≤ pL_ p) → n < gB0_ p t + sP_ X t → rn_ (gcl_ p m F) X path = some Y → sR_ Y (2 * t + r) = sR_ X (2 * t + r) := by
  intro path
  induction path with
  | nil =>
    intro X Y _ _ h
    have h : some X = some Y := h
    rw [Option.some.inj h]
  | cons q rest ih =>
    intro X Y hq hn h
    have h : (match gt_ (gcl_ p m F) X q.1 q.2 with | some S2 => rn_ (gcl_ p m F) S2 rest | none => none) = some Y := h
    cases e : gt_ (gcl_ p m F) X q.1 q.2 with
    | none => rw [e] at h; cases h
    | some X2 =>
      rw [e] at h
      have hq2 := fun x zx => hq x (List.mem_cons_of_mem _ zx)
      unfold gt_ at e
      split at e
      · obtain ⟨z1, z2, -, z4⟩ := gx_sum e
        have hn2 : n < gB0_ p t + sP_ X2 t := by
          rw [z2]
          unfold un_
          split
          · next y =>
            rw [y] at hn ⊢
            omega
          · exact hn
        rw [ih X2 Y hq2 hn2 h]
        rcases z4 with z4 | ⟨k1, v, z4⟩
        · rw [z4]
        · rw [z4]
          unfold un_
          split
          · next y =>
            exfalso
            have y1 := th_n zP z1
            have k1 : pC_ p (gB0_ p q.1 + sP_ X q.1) 1 = 1 ∨ pC_ p (gB0_ p q.1 + sP_ X q.1) 1 = 2 := k1
            have y : 2 * t + r = 2 * q.1 + (pC_ p (gB0_ p q.1 + sP_ X q.1) 3).toNat := y
            have y2 := (zP.2.1 _ y1.1).2.2.2.2.2.1 k1
            have y3 : q.1 = t := by omega
            have y4 : pC_ p (gB0_ p q.1 + sP_ X q.1) 3 = r := by omega
            have y5 := zP.2.2.2.1 _ _ y1.1 zn (by rw [y1.2, zt, y3]) (by rw [y4, zr]) (by omega)
            rw [y3] at y5
            omega
          · rfl
      · obtain ⟨k, -, z2, z3, -⟩ := gc_sum e
        rw [ih X2 Y hq2 (by rw [z2]; exact hn) h, z3]
theorem rn_vg (zP : Wp_ p) : ∀ (path : List (Nat × Nat)) (X Y : gs_T), (∀ q ∈ path, q.1 < pT_ p ∧ q.2 ≤ pL_ p) → Vg_ p X → rn_ (gcl_ p m F) X path = some Y → Vg_ p Y := by
  intro path
  induction path with
  | nil =>
    intro X Y _ hv h
    have h : some X = some Y := h
    rw [← Option.some.inj h]
    exact hv
  | cons q rest ih =>
    intro X Y hq hv h
    have h : (match gt_ (gcl_ p m F) X q.1 q.2 with | some S2 => rn_ (gcl_ p m F) S2 rest | none => none) = some Y := h
    cases e : gt_ (gcl_ p m F) X q.1 q.2 with
    | none => rw [e] at h; cases h
    | some X2 =>
      rw [e] at h
      have y := hq q List.mem_cons_self
      exact ih X2 Y (fun x zx => hq x (List.mem_cons_of_mem _ zx)) (vg_step zP hv y.1 y.2 e) h
theorem ctr_dead (zP : Wp_ p) (zV : Vg_ p S) {c : Nat} (q1 : t < pT_ p) (q2 : w ≤ pL_ p) (e : gt_ (gcl_ p m F) S t w = some S2) (h : ctr_ p c S S2 t = true) : ¬ Ld_ p (gcl_ p m F) c S2 := by
  unfold ctr_ at h
  rw [decide_eq_true_eq] at h
  obtain ⟨h1, h2, h3, h4⟩ := h
  have y1 := th_n zP h1
  have y2 := (zP.2.1 _ y1.1).2.2.2.2.2.1 h3
  rintro ⟨path, Y, k1, k2, k3, k4⟩
  have v2 := vg_step zP zV q1 q2 e
  have hn : gB0_ p t + sP_ S t < gB0_ p t + sP_ S2 t := by
    unfold gt_ at e
    split at e
    · have z := (gx_sum e).2.1
      rw [z]
      unfold un_
      rw [if_pos rfl]
      omega
    · obtain ⟨k, -, z2, -⟩ := gc_sum e
      rw [z2] at h2
      exact absurd rfl h2
  have y3 := reg_stay (r := (pC_ p (gB0_ p t + sP_ S t) 3).toNat) zP y1.1 y1.2 (by omega) (by omega) path S2 Y k1 hn k2
  have y4 := rn_vg zP path S2 Y k1 v2 k2
  have y5 := dr_cc zP y4 (q := 2 * t + (pC_ p (gB0_ p t + sP_ S t) 3).toNat) (by omega)
  rw [k4, y3] at y5
  exact h4 y5.symm
end DE
section RC
variable {α : Type} {k : gs_T → Nat} {g : gm_T} {T W : Nat} {S0 : gs_T}
/-- a state's key is in a list -/
def kin_ (k : gs_T → Nat) (M : List (gs_T × Int64)) (S : gs_T) : Prop := ∃ q ∈ M, k q.1 = k S
theorem ad_kin {s : gs_T} {x : Int64} : ∀ {M : List (gs_T × Int64)} {X : gs_T}, kin_ k M X → kin_ k (ad_ k M s x) X := by
  intro M
  induction M with
  | nil =>
    rintro X ⟨q, h, -⟩
    cases h
  | cons y r ih =>
    rintro X ⟨q, h, e⟩
    unfold ad_
    split
    · next z =>
      rcases List.mem_cons.mp h with rfl | h
      · exact ⟨_, List.mem_cons_self, e⟩
      · exact ⟨q, List.mem_cons_of_mem _ h, e⟩
    · rcases List.mem_cons.mp h with rfl | h
      · exact ⟨q, List.mem_cons_self, e⟩
      · obtain ⟨q2, h2, e2⟩ := ih ⟨q, h, e⟩
        exact ⟨q2, List.mem_cons_of_mem _ h2, e2⟩
theorem ad_self {s : gs_T} {x : Int64} : ∀ (M : List (gs_T × Int64)), kin_ k (ad_ k M s x) s := by
  intro M
  induction M with
  | nil => exact ⟨(s, x), List.mem_cons_self, rfl⟩
  | cons y r ih =>
    unfold ad_
    split
    · next z => exact ⟨_, List.mem_cons_self, z⟩
    · obtain ⟨q2, h2, e2⟩ := ih
      exact ⟨q2, List.mem_cons_of_mem _ h2, e2⟩
theorem bw_kin {S : gs_T} {x : Int64} {t : Nat} {M : List (gs_T × Int64)} {X : gs_T} (h : kin_ k M X) : ∀ w, kin_ k (bw_ k g S x t M w) X := by
  intro w
  induction w with
  | zero => exact h
  | succ w ih =>
    show kin_ k (match gt_ g S t w with | some S2 => ad_ k (bw_ k g S x t M w) S2 x | none => bw_ k g S x t M w) X
    split
    · exact ad_kin ih
    · exact ih
theorem bw_self {S : gs_T} {x : Int64} {t : Nat} {M : List (gs_T × Int64)} {X : gs_T} {v : Nat} (e : gt_ g S t v = some X) : ∀ w, v < w → kin_ k (bw_ k g S x t M w) X := by
  intro w
  induction w with
  | zero => intro z; omega
  | succ w ih =>
    intro z
    show kin_ k (match gt_ g S t w with | some S2 => ad_ k (bw_ k g S x t M w) S2 x | none => bw_ k g S x t M w) X
    by_cases y : v = w
    · subst y
      rw [e]
      exact ad_self _
    · have y1 := ih (by omega)
      split
      · exact ad_kin y1
      · exact y1
theorem bt_kin {S : gs_T} {x : Int64} {M : List (gs_T × Int64)} {X : gs_T} (h : kin_ k M X) : ∀ t, kin_ k (bt_ k g W S x M t) X := by
  intro t
  induction t with
  | zero => exact h
  | succ t ih => exact bw_kin ih W
theorem bt_self {S : gs_T} {x : Int64} {M : List (gs_T × Int64)} {X : gs_T} {u v : Nat} (e : gt_ g S u v = some X) (zv : v < W) : ∀ t, u < t → kin_ k (bt_ k g W S x M t) X := by
  intro t
  induction t with
  | zero => intro z; omega
  | succ t ih =>
    intro z
    by_cases y : u = t
    · subst y
      exact bw_self e W zv
    · exact bw_kin (ih (by omega)) W
theorem bn_kin {n : Nat} {X : gs_T} (h : kin_ k (bn_ k g T W S0 n) X) : kin_ k (bn_ k g T W S0 (n + 1)) X := by
  show kin_ k (match (bn_ k g T W S0 n)[n]? with | some q => bt_ k g W q.1 q.2 (bn_ k g T W S0 n) T | none => bn_ k g T W S0 n) X
  split
  · exact bt_kin h T
  · exact h
theorem bn_kin2 {n : Nat} {X : gs_T} (h : kin_ k (bn_ k g T W S0 n) X) : ∀ v, kin_ k (bn_ k g T W S0 (n + v)) X := by
  intro v
  induction v with
  | zero => exact h
  | succ v ih => exact bn_kin ih
theorem ad_fst {s : gs_T} {x : Int64} : ∀ (M : List (gs_T × Int64)), ∃ r, (ad_ k M s x).map (fun q => q.1) = M.map (fun q => q.1) ++ r := by
  intro M
  induction M with
  | nil => exact ⟨_, rfl⟩
  | cons y t ih =>
    unfold ad_
    split
    · exact ⟨[], by rw [List.append_nil]; rfl⟩
    · obtain ⟨r, e⟩ := ih
      exact ⟨r, by rw [List.map_cons, e]; rfl⟩
theorem bw_fst {S : gs_T} {x : Int64} {t : Nat} {M : List (gs_T × Int64)} : ∀ w, ∃ r, (bw_ k g S x t M w).map (fun q => q.1) = M.map (fun q => q.1) ++ r := by
  intro w
  induction w with
  | zero => exact ⟨[], by rw [List.append_nil]; rfl⟩
  | succ w ih =>
    obtain ⟨r, e⟩ := ih
    show ∃ r, List.map (fun q : gs_T × Int64 => q.1) (match gt_ g S t w with | some S2 => ad_ k (bw_ k g S x t M w) S2 x | none => bw_ k g S x t M w) = List.map (fun q => q.1) M ++ r
    split
    · next S2 _ =>
      obtain ⟨r2, e2⟩ := ad_fst (k := k) (s := S2) (x := x) (bw_ k g S x t M w)
      exact ⟨r ++ r2, by rw [e2, e, List.append_assoc]⟩
    · exact ⟨r, e⟩
theorem bt_fst {S : gs_T} {x : Int64} {M : List (gs_T × Int64)} : ∀ t, ∃ r, (bt_ k g W S x M t).map (fun q => q.1) = M.map (fun q => q.1) ++ r := by
  intro t
  induction t with
  | zero => exact ⟨[], by rw [List.append_nil]; rfl⟩
  | succ t ih =>
    obtain ⟨r, e⟩ := ih
    obtain ⟨r2, e2⟩ := bw_fst (k := k) (g := g) (S := S) (x := x) (t := t) (M := bt_ k g W S x M t) W
    exact ⟨r ++ r2, by
      show (bw_ k g S x t (bt_ k g W S x M t) W).map (fun q => q.1) = _
      rw [e2, e, List.append_assoc]⟩
theorem bn_fst (n : Nat) : ∀ v, ∃ r, (bn_ k g T W S0 (n + v)).map (fun q => q.1) = (bn_ k g T W S0 n).map (fun q => q.1) ++ r := by
  intro v
  induction v with
  | zero => exact ⟨[], by rw [List.append_nil]; rfl⟩
  | succ v ih =>
    obtain ⟨r, e⟩ := ih
    show ∃ r, List.map (fun q : gs_T × Int64 => q.1) (match (bn_ k g T W S0 (n + v))[n + v]? with | some q => bt_ k g W q.1 q.2 (bn_ k g T W S0 (n + v)) T | none => bn_ k g T W S0 (n + v)) = List.map (fun q => q.1) (bn_ k g T W S0 n) ++ r
    split
    · next q _ =>
      obtain ⟨r2, e2⟩ := bt_fst (k := k) (g := g) (W := W) (S := q.1) (x := q.2) (M := bn_ k g T W S0 (n + v)) T
      exact ⟨r ++ r2, by rw [e2, e, List.append_assoc]⟩
    · exact ⟨r, e⟩
theorem bn_at {n v i : Nat} {q : gs_T × Int64} (h : (bn_ k g T W S0 n)[i]? = some q) : ∃ x, (bn_ k g T W S0 (n + v))[i]? = some (q.1, x) := by
  obtain ⟨r, e⟩ := bn_fst (k := k) (g := g) (T := T) (W := W) (S0 := S0) n v
  have e1 : ((bn_ k g T W S0 n).map (fun q => q.1))[i]? = some q.1 := by rw [List.getElem?_map, h]; rfl
  have e2 : ((bn_ k g T W S0 (n + v)).map (fun q => q.1))[i]? = some q.1 := by
    rw [e, List.getElem?_append_left (List.getElem?_eq_some_iff.mp e1).1]
    exact e1
  rw [List.getElem?_map] at e2
  cases e3 : (bn_ k g T W S0 (n + v))[i]? with
  | none => rw [e3] at e2; cases e2
  | some y =>
    rw [e3] at e2
    have e2 : y.1 = q.1 := Option.some.inj e2
    exact ⟨y.2, by rw [← e2]⟩
/-- the search is closed: what a step leads to is in the list, too -/
theorem bn_clo {N : Nat} (hb : (bn_ k g T W S0 N).length ≤ N) {X Y : gs_T} {u v : Nat} (h : ∃ q ∈ bn_ k g T W S0 N, q.1 = X) (zu : u < T) (zv : v < W) (e : gt_ g X u v = some Y) : kin_ k (bn_ k g T W S0 N) Y := by
  obtain ⟨q, hq, rfl⟩ := h
  obtain ⟨i, hi⟩ := List.getElem?_of_mem hq
  have li := (List.getElem?_eq_some_iff.mp hi).1
  have l2 : i < (bn_ k g T W S0 i).length := by
    by_cases y : (bn_ k g T W S0 i).length ≤ i
    · have y2 := bn_stab y (N - i)
      rw [show i + (N - i) = N by omega] at y2
      rw [y2] at li
      omega
    · omega
  obtain ⟨q2, hq2⟩ : ∃ q2, (bn_ k g T W S0 i)[i]? = some q2 := ⟨_, List.getElem?_eq_getElem l2⟩
  obtain ⟨x, hx⟩ := bn_at (v := N - i) hq2
  rw [show i + (N - i) = N by omega, hi] at hx
  have e1 : q.1 = q2.1 := by rw [Option.some.inj hx]
  have y1 : kin_ k (bn_ k g T W S0 (i + 1)) Y := by
    rw [bn_s hq2]
    exact bt_self (by rw [← e1]; exact e) zv T zu
  have y2 := bn_kin2 y1 (N - (i + 1))
  rw [show i + 1 + (N - (i + 1)) = N by omega] at y2
  exact y2
end RC
section RB
variable {p : pr_T} {m : Nat} {F : Nat → Bool}
theorem en_eq (zP : Wp_ p) {S S2 : gs_T} (zV : Vg_ p S) (zV2 : Vg_ p S2) (e : en_ p S = en_ p S2) : S = S2 := by
  have y := en_cw (p := p) S2
  rw [← e] at y
  exact cw_eq (en_cw S) y zV.1 zV2.1 zP.1.2.1 zP.1.2.2.1
/-- a state of the class's search -/
def Rs_ (p : pr_T) (m : Nat) (F : Nat → Bool) (S : gs_T) : Prop := ∃ q ∈ bf_ p m F, q.1 = S
theorem bf_al (zP : Wp_ p) : al_ (Vg_ p) (bf_ p m F) := bn_al zP (vg_0 zP) _ _
theorem rs_vg (zP : Wp_ p) {S : gs_T} (h : Rs_ p m F S) : Vg_ p S := by
  obtain ⟨q, h1, rfl⟩ := h
  exact bf_al zP q h1
theorem rs_step (zP : Wp_ p) (hb : Bd_ p m F) {S S2 : gs_T} {t w : Nat} (h : Rs_ p m F S) (q1 : t < pT_ p) (q2 : w ≤ pL_ p) (e : gt_ (gcl_ p m F) S t w = some S2) : Rs_ p m F S2 := by
  obtain ⟨q, h1, h2⟩ := bn_clo (hb 131072) h q1 (show w < 1 + pL_ p by omega) e
  exact ⟨q, h1, en_eq zP (bf_al zP q h1) (vg_step zP (rs_vg zP h) q1 q2 e) h2⟩
theorem rs_0 (zP : Wp_ p) : Rs_ p m F (s0k_ p (pL_ p)) := by
  obtain ⟨q, h1, h2⟩ := bn_kin2 (k := en_ p) (g := gcl_ p m F) (T := pT_ p) (W := 1 + pL_ p) (S0 := s0k_ p (pL_ p)) (n := 0) (X := s0k_ p (pL_ p)) ⟨(s0k_ p (pL_ p), 1), List.mem_cons_self, rfl⟩ 131072
  rw [Nat.zero_add] at h1
  exact ⟨q, h1, en_eq zP (bf_al zP q h1) (vg_0 zP) h2⟩
end RB
