/-! how many states (T2): two stores side by side that nobody sees may change places -/
section SW
variable {g : gm_T} {K t u n l X a b d c : Nat} {S S0 : gs_T} {w : Nat → List Nat} {τ : Nat → Nat} {A B : List Nat}
theorem lw_some (h : wr_ g d = true) (B : List Nat) : ∃ k, lw_ g (d :: B) = some k := by
  unfold lw_
  rw [List.filter_cons_of_pos (p := wr_ g) h]
  exact ⟨_, List.getLast?_cons⟩
theorem lw_sw (hd : wr_ g d = true) (A B : List Nat) (a b : Nat) : lw_ g (A ++ b :: a :: d :: B) = lw_ g (A ++ a :: b :: d :: B) := by
  obtain ⟨k, hk⟩ := lw_some (g := g) hd B
  rw [show A ++ b :: a :: d :: B = (A ++ [b, a]) ++ d :: B by simp, show A ++ a :: b :: d :: B = (A ++ [a, b]) ++ d :: B by simp, lw_app (A := A ++ [b, a]), lw_app (A := A ++ [a, b]), hk]
  rfl
theorem bef_3 (ha : a ≠ n) (hb : b ≠ n) (hd : d ≠ n) (B : List Nat) : bef_ n (a :: b :: d :: B) = a :: b :: d :: bef_ n B := by
  unfold bef_
  rw [List.takeWhile_cons, decide_eq_true ha, if_pos rfl, List.takeWhile_cons, decide_eq_true hb, if_pos rfl, List.takeWhile_cons, decide_eq_true hd, if_pos rfl]
theorem lw_bsw (hd : wr_ g d = true) (na : a ≠ n) (nb : b ≠ n) (nd : d ≠ n) : lw_ g (bef_ n (A ++ b :: a :: d :: B)) = lw_ g (bef_ n (A ++ a :: b :: d :: B)) := by
  by_cases h : n ∈ A
  · rw [bef_in h, bef_in h]
  · rw [bef_out h, bef_out h, bef_3 nb na nd, bef_3 na nb nd]
    exact lw_sw hd _ _ _ _
theorem fil_sw (hg : Gw_ g K) (q1 : u < 4) (ht : thd_ g a ≠ thd_ g b) : (A ++ b :: a :: d :: B).filter (inT_ g u) = (A ++ a :: b :: d :: B).filter (inT_ g u) := by
  rw [List.filter_append, List.filter_append]
  congr 1
  cases ka : inT_ g u a with
  | true =>
    cases kb : inT_ g u b with
    | true =>
      exfalso
      have ya := inT_iff.mp ka
      have yb := inT_iff.mp kb
      exact ht ((thd_at hg q1 ya.1 ya.2).trans (thd_at hg q1 yb.1 yb.2).symm)
    | false => simp [List.filter_cons, ka, kb]
  | false =>
    cases kb : inT_ g u b with
    | true => simp [List.filter_cons, ka, kb]
    | false => simp [List.filter_cons, ka, kb]
theorem hq_swap (hg : Gw_ g K) (h : Hgw_ g K S0 S w τ c) (hX : X < 3) (e : w X = A ++ a :: b :: d :: B) (ka : gC_ g a 1 = 0) (kb : gC_ g b 1 = 0) (kd : gC_ g d 1 = 0) (ht : thd_ g a ≠ thd_ g b) : Hgw_ g K S0 S (fun l => if l = X then A ++ b :: a :: d :: B else w l) τ c := by
  have wd : wr_ g d = true := decide_eq_true (Or.inl kd)
  have old : ∀ (u n l : Nat), (gC_ g n 1 = 1 ∨ gC_ g n 1 = 2) → lw_ g (bef_ n (vw_ g S u l (if l = X then A ++ b :: a :: d :: B else w l))) = lw_ g (bef_ n (vw_ g S u l (w l))) := fun u n l hk => by
    by_cases hl : l = X
    · subst hl
      rw [if_pos rfl, e]
      unfold vw_
      rw [show (A ++ b :: a :: d :: B) ++ acw_ g l (thw_ g S u l) (gB_ g u + sP_ S u) = A ++ b :: a :: d :: (B ++ acw_ g l (thw_ g S u l) (gB_ g u + sP_ S u)) by simp, show (A ++ a :: b :: d :: B) ++ acw_ g l (thw_ g S u l) (gB_ g u + sP_ S u) = A ++ a :: b :: d :: (B ++ acw_ g l (thw_ g S u l) (gB_ g u + sP_ S u)) by simp]
      exact lw_bsw wd (fun y => by rw [y] at ka; omega) (fun y => by rw [y] at kb; omega) (fun y => by rw [y] at kd; omega)
    · rw [if_neg hl]
  refine ⟨hq_vr h, fun l u hl hu => ?_, fun l n hl hn => ?_, fun l hl => ?_, fun u n l hu hl hx hk h2 => ?_, hq_tc h, hq_tp h, fun u n l j hu hl hx hk h2 hj => ?_, hq_un h, hq_ff h, hq_dr h⟩
  · show (if l = X then A ++ b :: a :: d :: B else w l).filter (inT_ g u) = _
    by_cases d : l = X
    · subst d
      rw [if_pos rfl, fil_sw hg hu ht, ← e]
      exact hq_wf h l u hl hu
    · rw [if_neg d]
      exact hq_wf h l u hl hu
  · have hn : n ∈ (if l = X then A ++ b :: a :: d :: B else w l) := hn
    by_cases d : l = X
    · subst d
      rw [if_pos rfl] at hn
      refine hq_wi h l n hl ?_
      rw [e]
      simp only [List.mem_append, List.mem_cons] at hn ⊢
      rcases hn with y | y | y | y | y
      · exact Or.inl y
      · exact Or.inr (Or.inr (Or.inl y))
      · exact Or.inr (Or.inl y)
      · exact Or.inr (Or.inr (Or.inr (Or.inl y)))
      · exact Or.inr (Or.inr (Or.inr (Or.inr y)))
    · rw [if_neg d] at hn
      exact hq_wi h l n hl hn
  · rw [hq_mem h l hl]
    show _ = mvl_ g S0 S (if l = X then A ++ b :: a :: d :: B else w l) l
    by_cases d : l = X
    · subst d
      rw [if_pos rfl, e]
      exact mvl_lw (lw_sw wd _ _ _ _).symm
    · rw [if_neg d]
  · rw [hq_reg h u n l hu hl hx hk h2]
    exact mvl_lw (old u n l hk).symm
  · have hj : lw_ g (bef_ n (vw_ g S u l (if l = X then A ++ b :: a :: d :: B else w l))) = some j := hj
    rw [old u n l hk] at hj
    exact hq_ts h u n l j hu hl hx hk h2 hj
/-- three stores in a row, the first two out of order -/
def bad_ (g : gm_T) (ρ : Nat → Nat) (w : List Nat) : Prop := ∃ A a b d B, w = A ++ a :: b :: d :: B ∧ gC_ g a 1 = 0 ∧ gC_ g b 1 = 0 ∧ gC_ g d 1 = 0 ∧ ρ (thd_ g b) < ρ (thd_ g a)
def nvw_ (L : List Nat) (v : Nat) : Nat := L.foldl (fun v x => 4 * v + x) v
theorem nv_mono : ∀ (L : List Nat) (v v' : Nat), v < v' → nvw_ L v < nvw_ L v'
  | [], _, _, h => h
  | x :: L, v, v', h => nv_mono L (4 * v + x) (4 * v' + x) (by omega)
theorem nv_app (A B : List Nat) (v : Nat) : nvw_ (A ++ B) v = nvw_ B (nvw_ A v) := List.foldl_append
theorem nv_sw {x y : Nat} (h : y < x) (A B : List Nat) : nvw_ (A ++ y :: x :: B) 0 < nvw_ (A ++ x :: y :: B) 0 := by
  rw [nv_app, nv_app]
  show nvw_ B (4 * (4 * nvw_ A 0 + y) + x) < nvw_ B (4 * (4 * nvw_ A 0 + x) + y)
  exact nv_mono B _ _ (by omega)
theorem hq_nf (hg : Gw_ g K) (hX : X < 3) (ρ : Nat → Nat) : ∀ (k : Nat) (w : Nat → List Nat), Hgw_ g K S0 S w τ c → nvw_ ((w X).map (fun n => ρ (thd_ g n))) 0 < k → ∃ w', Hgw_ g K S0 S w' τ c ∧ ¬ bad_ g ρ (w' X)
  | 0, _, _, hk => absurd hk (Nat.not_lt_zero _)
  | k + 1, w, h, hk => by
    by_cases hb : bad_ g ρ (w X)
    · obtain ⟨A, a, b, d, B, e, ka, kb, kd, hr⟩ := hb
      have h2 := hq_swap hg h hX e ka kb kd (fun y => by rw [y] at hr; exact absurd hr (Nat.lt_irrefl _))
      refine hq_nf hg hX ρ k _ h2 ?_
      show nvw_ ((if X = X then A ++ b :: a :: d :: B else w X).map (fun n => ρ (thd_ g n))) 0 < k
      rw [if_pos rfl]
      rw [e] at hk
      rw [List.map_append, List.map_cons, List.map_cons] at hk ⊢
      have y := nv_sw hr (A.map (fun n => ρ (thd_ g n))) ((d :: B).map (fun n => ρ (thd_ g n)))
      omega
    · exact ⟨w, h, hb⟩
end SW
