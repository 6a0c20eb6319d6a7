/-! how many states (T2): what has happened in a thread, and the list of all that can -/
section CF
variable {g : gm_T} {fz : Bool} {P : Nat → Bool} {K t u l X k n c c' : Nat} {S S' S0 : gs_T} {w w' : Nat → List Nat} {τ τ' : Nat → Nat}
def lbn_ (g : gm_T) (fz : Bool) (X n : Nat) : Nat := if gC_ g n 1 = 3 then 0 else if gC_ g n 2 = (X : Int) then (if (fz && decide (gC_ g n 1 ≠ 0)) = true then 3 else 1) else 2
def px_ (a : Nat) : Bool := decide (a = 1 ∨ a = 3)
def py_ (a : Nat) : Bool := decide (a = 2)
def hpb_ (g : gm_T) (S : gs_T) (t n : Nat) : Bool := decide (gC_ g n 1 = 3 ∨ n < thw_ g S t (gC_ g n 2).toNat)
def bts_ (g : gm_T) (S : gs_T) (t k : Nat) : List Bool := (List.range k).map (fun j => hpb_ g S t (gB_ g t + j))
def exk_ (g : gm_T) (fz : Bool) (S : gs_T) (X t : Nat) (P : Nat → Bool) (k : Nat) : Nat := ct_ (fun j => P (lbn_ g fz X (gB_ g t + j)) && hpb_ g S t (gB_ g t + j)) k
def nxk_ (g : gm_T) (fz : Bool) (X t : Nat) (P : Nat → Bool) (k : Nat) : Nat := ct_ (fun j => P (lbn_ g fz X (gB_ g t + j))) k
abbrev cf2_T : Type := List Bool × Nat × Nat
def cstep_ (a : Nat) (D : List cf2_T) (nx ny k : Nat) : List cf2_T :=
  if a = 0 then [(List.replicate (k + 1) true, nx, ny)]
  else if a = 1 then D.map (fun x => (x.1 ++ [false], x.2)) ++ (D.filter (fun x => decide (x.2.1 = nx))).map (fun x => (x.1 ++ [true], x.2.1 + 1, x.2.2))
  else if a = 3 then (D.filter (fun x => decide (x.2.1 ≠ nx))).map (fun x => (x.1 ++ [false], x.2)) ++ (D.filter (fun x => decide (x.2.1 = nx))).map (fun x => (x.1 ++ [true], x.2.1 + 1, x.2.2))
  else D.map (fun x => (x.1 ++ [false], x.2)) ++ D.map (fun x => (x.1 ++ [true], x.2.1, x.2.2 + 1))
def cls_ : List Nat → List cf2_T → Nat → Nat → Nat → List cf2_T
  | [], D, _, _, _ => D
  | a :: L, D, nx, ny, k => D ++ cls_ L (cstep_ a D nx ny k) (nx + (if px_ a = true then 1 else 0)) (ny + (if py_ a = true then 1 else 0)) (k + 1)
theorem lbn_3 (h : gC_ g n 1 = 3) : lbn_ g fz X n = 0 := if_pos h
theorem lbn_c : (lbn_ g fz X n = 0 ∧ gC_ g n 1 = 3) ∨ (lbn_ g fz X n = 1 ∧ ac_ g X n = true) ∨ (lbn_ g fz X n = 3 ∧ ac_ g X n = true ∧ gC_ g n 1 ≠ 0) ∨ (lbn_ g fz X n = 2 ∧ ac_ g X n = false) := by
  unfold lbn_ ac_
  by_cases h : gC_ g n 1 = 3
  · rw [if_pos h]
    exact Or.inl ⟨rfl, h⟩
  · rw [if_neg h]
    by_cases h2 : gC_ g n 2 = (X : Int)
    · rw [if_pos h2, decide_eq_true (show gC_ g n 1 ≠ 3 ∧ gC_ g n 2 = (X : Int) from ⟨h, h2⟩)]
      by_cases h3 : (fz && decide (gC_ g n 1 ≠ 0)) = true
      · rw [if_pos h3]
        rw [Bool.and_eq_true, decide_eq_true_eq] at h3
        exact Or.inr (Or.inr (Or.inl ⟨rfl, rfl, h3.2⟩))
      · rw [if_neg h3]
        exact Or.inr (Or.inl ⟨rfl, rfl⟩)
    · rw [if_neg h2]
      exact Or.inr (Or.inr (Or.inr ⟨rfl, decide_eq_false (fun y => h2 y.2)⟩))
theorem lbn_px : px_ (lbn_ g fz X n) = ac_ g X n := by
  rcases lbn_c (g := g) (fz := fz) (X := X) (n := n) with ⟨e, e2⟩ | ⟨e, e2⟩ | ⟨e, e2, -⟩ | ⟨e, e2⟩
  · rw [e]
    exact (decide_eq_false (fun y => y.1 e2)).symm
  · rw [e, e2]
    rfl
  · rw [e, e2]
    rfl
  · rw [e, e2]
    rfl
theorem bts_s (k : Nat) : bts_ g S t (k + 1) = bts_ g S t k ++ [hpb_ g S t (gB_ g t + k)] := by
  unfold bts_
  rw [List.range_succ, List.map_append]
  rfl
theorem bts_len (k : Nat) : (bts_ g S t k).length = k := by
  unfold bts_
  rw [List.length_map, List.length_range]
theorem bts_true : ∀ k, (∀ j, j < k → hpb_ g S t (gB_ g t + j) = true) → bts_ g S t k = List.replicate k true
  | 0, _ => rfl
  | k + 1, h => by
    rw [bts_s, bts_true k (fun j hj => h j (by omega)), h k (by omega), List.replicate_succ']
theorem exk_all : ∀ k, (∀ j, j < k → P (lbn_ g fz X (gB_ g t + j)) = true → hpb_ g S t (gB_ g t + j) = true) → exk_ g fz S X t P k = nxk_ g fz X t P k := fun k h => ct_cgw k (fun j hj => by
  cases d : P (lbn_ g fz X (gB_ g t + j)) with
  | true => rw [h j hj d]; rfl
  | false => rfl)
theorem exk_s (P : Nat → Bool) (k : Nat) : exk_ g fz S X t P (k + 1) = exk_ g fz S X t P k + (if (P (lbn_ g fz X (gB_ g t + k)) && hpb_ g S t (gB_ g t + k)) = true then 1 else 0) := rfl
theorem nxk_s (P : Nat → Bool) (k : Nat) : nxk_ g fz X t P (k + 1) = nxk_ g fz X t P k + (if P (lbn_ g fz X (gB_ g t + k)) = true then 1 else 0) := rfl
theorem exk_le : ∀ k, exk_ g fz S X t P k ≤ nxk_ g fz X t P k := fun k => ct_mo (fun j _ h => by
  rw [Bool.and_eq_true] at h
  exact h.1)
theorem exk_ne : ∀ k, exk_ g fz S X t P k = nxk_ g fz X t P k → ∀ j, j < k → P (lbn_ g fz X (gB_ g t + j)) = true → hpb_ g S t (gB_ g t + j) = true
  | 0, _, j, hj, _ => absurd hj (Nat.not_lt_zero j)
  | k + 1, e, j, hj, hp => by
    have le := exk_le (g := g) (fz := fz) (S := S) (X := X) (t := t) (P := P) k
    rw [exk_s, nxk_s] at e
    cases d : P (lbn_ g fz X (gB_ g t + k)) with
    | false =>
      rw [d, Bool.false_and, if_neg (by decide)] at e
      have jk : j ≠ k := fun y => by
        rw [y, d] at hp
        cases hp
      exact exk_ne k e j (by omega) hp
    | true =>
      rw [d, Bool.true_and, if_pos rfl] at e
      cases hb : hpb_ g S t (gB_ g t + k) with
      | false =>
        rw [hb, if_neg (by decide)] at e
        omega
      | true =>
        rw [hb, if_pos rfl] at e
        by_cases jk : j = k
        · rw [jk]
          exact hb
        · exact exk_ne k (by omega) j (by omega) hp
theorem cstep_in (hg : Gw_ g K) (h : Hgw_ g K S0 S w τ c) (q1 : t < 4) {D : List cf2_T} (hk : k < sP_ S t) (hD : (bts_ g S t k, exk_ g fz S X t px_ k, exk_ g fz S X t py_ k) ∈ D) :
    (bts_ g S t (k + 1), exk_ g fz S X t px_ (k + 1), exk_ g fz S X t py_ (k + 1)) ∈ cstep_ (lbn_ g fz X (gB_ g t + k)) D (nxk_ g fz X t px_ k) (nxk_ g fz X t py_ k) k := by
  have v := hq_vr h
  have hx : exd_ g S t (gB_ g t + k) := ⟨by omega, by omega⟩
  rw [bts_s, exk_s, exk_s]
  unfold cstep_
  rcases lbn_c (g := g) (fz := fz) (X := X) (n := gB_ g t + k) with ⟨e, k3⟩ | ⟨e, ac⟩ | ⟨e, ac, n0⟩ | ⟨e, -⟩
  · rw [e, if_pos rfl]
    have all : ∀ j, j < k → hpb_ g S t (gB_ g t + j) = true := fun j hj => by
      unfold hpb_
      rw [decide_eq_true_eq]
      by_cases d : gC_ g (gB_ g t + j) 1 = 3
      · exact Or.inl d
      · right
        have xj : exd_ g S t (gB_ g t + j) := ⟨by omega, by omega⟩
        have sj := seg_e hg v q1 xj
        obtain ⟨-, b2, b3, -⟩ := hg.2.2.2.2.2.2.2.1 (gB_ g t + j) sj.2
        have b3 := b3 d
        obtain ⟨l, hl⟩ : ∃ l : Nat, gC_ g (gB_ g t + j) 2 = l := ⟨(gC_ g (gB_ g t + j) 2).toNat, by omega⟩
        rw [hl, Int.toNat_natCast]
        have b := thw_le (l := l) hg v q1
        by_cases d2 : gB_ g t + j < thw_ g S t l
        · exact d2
        · exfalso
          obtain ⟨-, y2, -, -⟩ := thw_lt (l := l) hg v q1 (by omega)
          have := hq_dr h t _ (gB_ g t + k) q1 b.1 y2 hx (by omega)
          omega
    have h3 : hpb_ g S t (gB_ g t + k) = true := decide_eq_true (Or.inl k3)
    rw [bts_true k all, h3, exk_all k (fun j hj _ => all j hj), exk_all k (fun j hj _ => all j hj), ← List.replicate_succ']
    exact List.mem_singleton.mpr rfl
  · rw [e, if_neg (by decide), if_pos rfl]
    obtain ⟨a1, a2⟩ := of_decide_eq_true ac
    cases hb : hpb_ g S t (gB_ g t + k) with
    | false => exact List.mem_append.mpr (Or.inl (List.mem_map.mpr ⟨_, hD, rfl⟩))
    | true =>
      have hlt : gB_ g t + k < thw_ g S t X := by
        rcases of_decide_eq_true hb with y | y
        · exact absurd y a1
        · rw [a2, Int.toNat_natCast] at y
          exact y
      refine List.mem_append.mpr (Or.inr (List.mem_map.mpr ⟨_, List.mem_filter.mpr ⟨hD, decide_eq_true ?_⟩, rfl⟩))
      refine exk_all k (fun j hj y => ?_)
      rw [lbn_px] at y
      obtain ⟨c1, c2⟩ := of_decide_eq_true y
      refine decide_eq_true (Or.inr ?_)
      rw [c2, Int.toNat_natCast]
      omega
  · rw [e, if_neg (by decide), if_neg (by decide), if_pos rfl]
    obtain ⟨a1, a2⟩ := of_decide_eq_true ac
    have b := thw_le (l := X) hg v q1
    cases hb : hpb_ g S t (gB_ g t + k) with
    | false =>
      have hge : thw_ g S t X ≤ gB_ g t + k := by
        have y := of_decide_eq_false hb
        rw [a2, Int.toNat_natCast] at y
        exact Nat.le_of_not_lt (fun z => y (Or.inr z))
      obtain ⟨-, y2, y3, y4⟩ := thw_lt (l := X) hg v q1 (by omega)
      have nj : thw_ g S t X ≠ gB_ g t + k := fun y => by
        rw [y] at y3
        exact n0 y3
      refine List.mem_append.mpr (Or.inl (List.mem_map.mpr ⟨_, List.mem_filter.mpr ⟨hD, decide_eq_true (fun y => ?_)⟩, rfl⟩))
      have z := exk_ne k y (thw_ g S t X - gB_ g t) (by omega) (by
        rw [lbn_px, show gB_ g t + (thw_ g S t X - gB_ g t) = thw_ g S t X by omega]
        exact decide_eq_true ⟨by omega, y4⟩)
      rw [show gB_ g t + (thw_ g S t X - gB_ g t) = thw_ g S t X by omega] at z
      have z := of_decide_eq_true z
      rw [y4, Int.toNat_natCast] at z
      omega
    | true =>
      have hlt : gB_ g t + k < thw_ g S t X := by
        rcases of_decide_eq_true hb with y | y
        · exact absurd y a1
        · rw [a2, Int.toNat_natCast] at y
          exact y
      refine List.mem_append.mpr (Or.inr (List.mem_map.mpr ⟨_, List.mem_filter.mpr ⟨hD, decide_eq_true ?_⟩, rfl⟩))
      refine exk_all k (fun j hj y => ?_)
      rw [lbn_px] at y
      obtain ⟨c1, c2⟩ := of_decide_eq_true y
      refine decide_eq_true (Or.inr ?_)
      rw [c2, Int.toNat_natCast]
      omega
  · rw [e, if_neg (by decide), if_neg (by decide), if_neg (by decide)]
    cases hb : hpb_ g S t (gB_ g t + k) with
    | false => exact List.mem_append.mpr (Or.inl (List.mem_map.mpr ⟨_, hD, rfl⟩))
    | true => exact List.mem_append.mpr (Or.inr (List.mem_map.mpr ⟨_, hD, rfl⟩))
theorem cls_in (hg : Gw_ g K) (h : Hgw_ g K S0 S w τ c) (q1 : t < 4) : ∀ (r k : Nat) (D : List cf2_T), k + r = gl_ g t → k ≤ sP_ S t → (bts_ g S t k, exk_ g fz S X t px_ k, exk_ g fz S X t py_ k) ∈ D →
    (bts_ g S t (sP_ S t), exk_ g fz S X t px_ (sP_ S t), exk_ g fz S X t py_ (sP_ S t)) ∈ cls_ ((List.range' k r).map (fun j => lbn_ g fz X (gB_ g t + j))) D (nxk_ g fz X t px_ k) (nxk_ g fz X t py_ k) k
  | 0, k, D, hr, hk, hD => by
    have hP := (hq_vr h).2.2.2.1 t q1
    have e : k = sP_ S t := by omega
    subst e
    exact hD
  | r + 1, k, D, hr, hk, hD => by
    rw [List.range'_succ, List.map_cons]
    show _ ∈ D ++ cls_ ((List.range' (k + 1) r).map (fun j => lbn_ g fz X (gB_ g t + j))) (cstep_ (lbn_ g fz X (gB_ g t + k)) D (nxk_ g fz X t px_ k) (nxk_ g fz X t py_ k) k) (nxk_ g fz X t px_ k + (if px_ (lbn_ g fz X (gB_ g t + k)) = true then 1 else 0)) (nxk_ g fz X t py_ k + (if py_ (lbn_ g fz X (gB_ g t + k)) = true then 1 else 0)) (k + 1)
    by_cases e : k = sP_ S t
    · subst e
      exact List.mem_append.mpr (Or.inl hD)
    · rw [← nxk_s, ← nxk_s]
      exact List.mem_append.mpr (Or.inr (cls_in hg h q1 r (k + 1) _ (by omega) (by omega) (cstep_in hg h q1 (by omega) hD)))
/-- what has happened, by lists -/
theorem acw_hp (hg : Gw_ g K) (v : Vr_ g K S) (q1 : t < 4) : acw_ g l (gB_ g t) (thw_ g S t l) = (List.range' (gB_ g t) (sP_ S t)).filter (fun n => ac_ g l n && hpb_ g S t n) := by
  have b := thw_le (l := l) hg v q1
  have e : List.range' (gB_ g t) (sP_ S t) = List.range' (gB_ g t) (thw_ g S t l - gB_ g t) ++ List.range' (thw_ g S t l) (gB_ g t + sP_ S t - thw_ g S t l) := by
    have y := List.range'_append_1 (s := gB_ g t) (m := thw_ g S t l - gB_ g t) (n := gB_ g t + sP_ S t - thw_ g S t l)
    rw [show gB_ g t + (thw_ g S t l - gB_ g t) = thw_ g S t l by omega, show thw_ g S t l - gB_ g t + (gB_ g t + sP_ S t - thw_ g S t l) = sP_ S t by omega] at y
    exact y.symm
  have hp : ∀ n, ac_ g l n = true → (hpb_ g S t n = true ↔ n < thw_ g S t l) := fun n hn => by
    obtain ⟨a1, a2⟩ := of_decide_eq_true hn
    unfold hpb_
    rw [decide_eq_true_eq, a2, Int.toNat_natCast]
    exact ⟨fun y => y.resolve_left a1, fun y => Or.inr y⟩
  rw [e, List.filter_append]
  have e2 : (List.range' (thw_ g S t l) (gB_ g t + sP_ S t - thw_ g S t l)).filter (fun n => ac_ g l n && hpb_ g S t n) = [] := List.filter_eq_nil_iff.mpr (fun n hn y => by
    rw [Bool.and_eq_true] at y
    have := (hp n y.1).mp y.2
    have := (List.mem_range'_1.mp hn).1
    omega)
  rw [e2, List.append_nil]
  unfold acw_
  refine List.filter_congr (fun n hn => ?_)
  have hn := List.mem_range'_1.mp hn
  cases d : ac_ g l n with
  | false => rfl
  | true => rw [(hp n d).mpr (by omega), Bool.and_true]
theorem hpb_eq (e : bts_ g S t k = bts_ g S' t k) {j : Nat} (hj : j < k) : hpb_ g S t (gB_ g t + j) = hpb_ g S' t (gB_ g t + j) := by
  have y := congrArg (fun L => L[j]?) e
  unfold bts_ at y
  rw [List.getElem?_map, List.getElem?_map, List.getElem?_range hj] at y
  exact Option.some.inj y
/-- lengths -/
theorem acw_len (l b : Nat) : ∀ k, (acw_ g l b (b + k)).length = ct_ (fun j => ac_ g l (b + j)) k
  | 0 => by
    rw [Nat.add_zero, acw_nil (Nat.le_refl _)]
    rfl
  | k + 1 => by
    rw [acw_app (b := b + k) (by omega) (by omega), List.length_append, acw_len l b k, ct_s]
    cases d : ac_ g l (b + k) with
    | true => rw [show b + (k + 1) = b + k + 1 by omega, acw_one d]; rfl
    | false => rw [show b + (k + 1) = b + k + 1 by omega, acw_no d]; rfl
theorem acw_hl (hg : Gw_ g K) (v : Vr_ g K S) (q1 : t < 4) : (acw_ g l (gB_ g t) (thw_ g S t l)).length = ct_ (fun j => ac_ g l (gB_ g t + j) && hpb_ g S t (gB_ g t + j)) (sP_ S t) := by
  rw [acw_hp hg v q1]
  have key : ∀ k, ((List.range' (gB_ g t) k).filter (fun n => ac_ g l n && hpb_ g S t n)).length = ct_ (fun j => ac_ g l (gB_ g t + j) && hpb_ g S t (gB_ g t + j)) k := fun k => by
    induction k with
    | zero => rfl
    | succ k ih =>
      rw [List.range'_1_concat, List.filter_append, List.length_append, ih, ct_s]
      cases d : (ac_ g l (gB_ g t + k) && hpb_ g S t (gB_ g t + k)) with
      | true =>
        rw [List.filter_cons_of_pos (p := fun n => ac_ g l n && hpb_ g S t n) d]
        rfl
      | false =>
        rw [List.filter_cons_of_neg (p := fun n => ac_ g l n && hpb_ g S t n) (by rw [d]; exact fun y => by cases y)]
        rfl
  exact key _
end CF
