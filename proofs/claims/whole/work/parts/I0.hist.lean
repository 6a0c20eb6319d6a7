/-! how many states (T2): histories, a word of events for each location -/
section HI
variable {g : gm_T} {K t u n m l j a b c : Nat} {S S2 S0 : gs_T} {w A B : List Nat}
/-- accesses to a location in a range -/
def ac_ (g : gm_T) (l n : Nat) : Bool := decide (gC_ g n 1 ≠ 3 ∧ gC_ g n 2 = (l : Int))
def acw_ (g : gm_T) (l a b : Nat) : List Nat := (List.range' a (b - a)).filter (ac_ g l)
theorem acw_mem : n ∈ acw_ g l a b ↔ (a ≤ n ∧ n < b) ∧ ac_ g l n = true := by
  unfold acw_
  rw [List.mem_filter, List.mem_range'_1]
  constructor
  · rintro ⟨h, h2⟩
    exact ⟨⟨h.1, by omega⟩, h2⟩
  · rintro ⟨h, h2⟩
    exact ⟨⟨h.1, by omega⟩, h2⟩
theorem acw_app (h1 : a ≤ b) (h2 : b ≤ c) : acw_ g l a c = acw_ g l a b ++ acw_ g l b c := by
  unfold acw_
  rw [← List.filter_append]
  congr 1
  have e : c - a = (b - a) + (c - b) := by omega
  rw [e, ← List.range'_append_1, show a + (b - a) = b by omega]
theorem acw_nil (h : b ≤ a) : acw_ g l a b = [] := by
  unfold acw_
  rw [show b - a = 0 by omega]
  rfl
theorem acw_one (h : ac_ g l n = true) : acw_ g l n (n + 1) = [n] := by
  unfold acw_
  rw [show n + 1 - n = 1 by omega]
  show List.filter (ac_ g l) [n] = [n]
  rw [List.filter_cons_of_pos h]
  rfl
theorem acw_no (h : ac_ g l n = false) : acw_ g l n (n + 1) = [] := by
  unfold acw_
  rw [show n + 1 - n = 1 by omega]
  show List.filter (ac_ g l) [n] = []
  rw [List.filter_cons_of_neg (by rw [h]; exact fun y => by cases y)]
  rfl
theorem acw_cons (h : ac_ g l a = true) (hb : a < b) : acw_ g l a b = a :: acw_ g l (a + 1) b := by
  rw [acw_app (b := a + 1) (by omega) (by omega), acw_one h]
  rfl
/-- the last write of a word -/
def wr_ (g : gm_T) (n : Nat) : Bool := decide (gC_ g n 1 = 0 ∨ gC_ g n 1 = 2)
def lw_ (g : gm_T) (w : List Nat) : Option Nat := (w.filter (wr_ g)).getLast?
theorem lw_app : lw_ g (A ++ B) = (lw_ g B).or (lw_ g A) := by
  unfold lw_
  rw [List.filter_append, List.getLast?_append]
theorem lw_mem (h : lw_ g w = some j) : j ∈ w ∧ wr_ g j = true := by
  unfold lw_ at h
  have y := List.mem_of_getLast? h
  exact ⟨(List.mem_filter.mp y).1, (List.mem_filter.mp y).2⟩
theorem lw_one (h : wr_ g n = true) : lw_ g (A ++ [n]) = some n := by
  rw [lw_app]
  unfold lw_
  rw [List.filter_cons_of_pos h]
  rfl
theorem lw_none (h : ∀ n, n ∈ B → wr_ g n = false) : lw_ g B = none := by
  unfold lw_
  have e : B.filter (wr_ g) = [] := List.filter_eq_nil_iff.mpr (fun n hn => by rw [h n hn]; exact fun y => by cases y)
  rw [e]
  rfl
theorem lw_no (h : ∀ n, n ∈ B → wr_ g n = false) : lw_ g (A ++ B) = lw_ g A := by
  rw [lw_app, lw_none h]
  rfl
theorem lw_acw (h1 : j ∈ acw_ g l a b) (h2 : wr_ g j = true) (h3 : ∀ k, k ∈ acw_ g l a b → wr_ g k = true → k ≤ j) : lw_ g (A ++ acw_ g l a b) = some j := by
  obtain ⟨⟨a1, a2⟩, a3⟩ := acw_mem.mp h1
  rw [acw_app (b := j) a1 (by omega), acw_cons a3 a2, show A ++ (acw_ g l a j ++ j :: acw_ g l (j + 1) b) = (A ++ acw_ g l a j ++ [j]) ++ acw_ g l (j + 1) b by simp]
  rw [lw_no (fun k hk => ?_), lw_one h2]
  obtain ⟨⟨b1, b2⟩, b3⟩ := acw_mem.mp hk
  cases e : wr_ g k with
  | false => rfl
  | true =>
    have := h3 k (acw_mem.mpr ⟨⟨by omega, b2⟩, b3⟩) e
    omega
/-- what lies before an event -/
def bef_ (n : Nat) (w : List Nat) : List Nat := w.takeWhile (fun k => decide (k ≠ n))
theorem bef_in : ∀ {A : List Nat}, n ∈ A → bef_ n (A ++ B) = bef_ n A
  | [], h => by cases h
  | x :: A, h => by
    unfold bef_
    rw [List.cons_append, List.takeWhile_cons, List.takeWhile_cons]
    by_cases e : x = n
    · rw [decide_eq_false (fun y => y e)]
      rfl
    · rw [decide_eq_true (show x ≠ n from e)]
      have h2 : n ∈ A := by
        rcases List.mem_cons.mp h with y | y
        · exact absurd y.symm e
        · exact y
      have y := bef_in h2
      unfold bef_ at y
      rw [if_pos rfl, if_pos rfl, y]
theorem bef_out : ∀ {A : List Nat}, n ∉ A → bef_ n (A ++ B) = A ++ bef_ n B
  | [], _ => rfl
  | x :: A, h => by
    unfold bef_
    rw [List.cons_append, List.takeWhile_cons]
    rw [decide_eq_true (show x ≠ n from fun y => h (by rw [y]; exact List.mem_cons_self)), if_pos rfl]
    have y := bef_out (fun z => h (List.mem_cons_of_mem x z))
    unfold bef_ at y
    rw [y]
    rfl
theorem bef_sub (h : j ∈ bef_ n w) : j ∈ w := (List.takeWhile_sublist _).subset h
theorem bef_self : bef_ n [n] = [] := by
  unfold bef_
  rw [List.takeWhile_cons, decide_eq_false (fun y => y rfl)]
  rfl
/-- threads of items -/
def inT_ (g : gm_T) (t n : Nat) : Bool := decide (gB_ g t ≤ n ∧ n < gB_ g (t + 1))
def thd_ (g : gm_T) (n : Nat) : Nat := if n < gB_ g 1 then 0 else if n < gB_ g 2 then 1 else if n < gB_ g 3 then 2 else 3
theorem thd_at (hg : Gw_ g K) (q1 : t < 4) (h1 : gB_ g t ≤ n) (h2 : n < gB_ g (t + 1)) : thd_ g n = t := by
  obtain ⟨-, b0, b4, bm, -⟩ := id hg
  have y0 := bm 0 (by decide)
  have y1 := bm 1 (by decide)
  have y2 := bm 2 (by decide)
  have y3 := bm 3 (by decide)
  simp only [Nat.zero_add, Nat.reduceAdd] at y0 y1 y2 y3
  unfold thd_
  rcases (show t = 0 ∨ t = 1 ∨ t = 2 ∨ t = 3 by omega) with e | e | e | e <;> subst e <;> simp only [Nat.zero_add, Nat.reduceAdd] at h2
  · rw [if_pos h2]
  · rw [if_neg (by omega), if_pos h2]
  · rw [if_neg (by omega), if_neg (by omega), if_pos h2]
  · rw [if_neg (by omega), if_neg (by omega), if_neg (by omega)]
theorem inT_iff : inT_ g t n = true ↔ gB_ g t ≤ n ∧ n < gB_ g (t + 1) := by
  unfold inT_
  rw [decide_eq_true_eq]
/-- values -/
def vlw_ (g : gm_T) (S : gs_T) (n : Nat) : Nat := gv_ g S (thd_ g n) n
def mvl_ (g : gm_T) (S0 S : gs_T) (w : List Nat) (l : Nat) : Nat := match lw_ g w with
  | some n => vlw_ g S n
  | none => sM_ S0 l
/-- where a thread's events at a location end -/
def thw_ (g : gm_T) (S : gs_T) (t l : Nat) : Nat := match gw1_ g S t (l : Int) with
  | some j => j
  | none => gB_ g t + sP_ S t
def vw_ (g : gm_T) (S : gs_T) (t l : Nat) (w : List Nat) : List Nat := w ++ acw_ g l (thw_ g S t l) (gB_ g t + sP_ S t)
/-- registers are written once; what is written stands before -/
def Un_ (g : gm_T) : Prop := (∀ t n n', t < 4 → gB_ g t ≤ n → n < gB_ g (t + 1) → gB_ g t ≤ n' → n' < gB_ g (t + 1) → (gC_ g n 1 = 1 ∨ gC_ g n 1 = 2) → (gC_ g n' 1 = 1 ∨ gC_ g n' 1 = 2) → gC_ g n 3 = gC_ g n' 3 → n = n') ∧
  ∀ t n, t < 4 → gB_ g t ≤ n → n < gB_ g (t + 1) → gC_ g n 5 ≠ -1 → ∃ n', gB_ g t ≤ n' ∧ n' < n ∧ (gC_ g n' 1 = 1 ∨ gC_ g n' 1 = 2) ∧ gC_ g n' 3 = gC_ g n 5
def exd_ (g : gm_T) (S : gs_T) (t n : Nat) : Prop := gB_ g t ≤ n ∧ n < gB_ g t + sP_ S t
def Hgw_ (g : gm_T) (K : Nat) (S0 S : gs_T) (w : Nat → List Nat) (τ : Nat → Nat) (c : Nat) : Prop :=
  (Vr_ g K S) ∧
  (∀ l t, l < 3 → t < 4 → (w l).filter (inT_ g t) = acw_ g l (gB_ g t) (thw_ g S t l)) ∧
  (∀ l n, l < 3 → n ∈ w l → ∃ t, t < 4 ∧ inT_ g t n = true) ∧
  (∀ l, l < 3 → sM_ S l = mvl_ g S0 S (w l) l) ∧
  (∀ (t n l : Nat), t < 4 → l < 3 → exd_ g S t n → (gC_ g n 1 = 1 ∨ gC_ g n 1 = 2) → gC_ g n 2 = (l : Int) → sR_ S (2 * t + (gC_ g n 3).toNat) = mvl_ g S0 S (bef_ n (vw_ g S t l (w l))) l) ∧
  (∀ t n, t < 4 → exd_ g S t n → τ n < c) ∧
  (∀ t n n', t < 4 → exd_ g S t n → exd_ g S t n' → n < n' → τ n < τ n') ∧
  (∀ (t n l j : Nat), t < 4 → l < 3 → exd_ g S t n → (gC_ g n 1 = 1 ∨ gC_ g n 1 = 2) → gC_ g n 2 = (l : Int) → lw_ g (bef_ n (vw_ g S t l (w l))) = some j → τ j < τ n) ∧
  (∀ (t r : Nat), t < 4 → r < 2 → (∀ n, exd_ g S t n → (gC_ g n 1 = 1 ∨ gC_ g n 1 = 2) → gC_ g n 3 ≠ (r : Int)) → sR_ S (2 * t + r) = 0) ∧
  (∀ (t n l : Nat), t < 4 → l < 3 → exd_ g S t n → gC_ g n 1 = 0 → gC_ g n 2 = (l : Int) → (sW_ S n = true ↔ thw_ g S t l ≤ n)) ∧
  (∀ t j n, t < 4 → gB_ g t ≤ j → sW_ S j = true → exd_ g S t n → j < n → gC_ g n 1 < 2)
end HI
section HP
variable {g : gm_T} {K c : Nat} {S S0 : gs_T} {w : Nat → List Nat} {τ : Nat → Nat}
theorem hq_vr (h : Hgw_ g K S0 S w τ c) : Vr_ g K S := h.1
theorem hq_wf (h : Hgw_ g K S0 S w τ c) : ∀ l t, l < 3 → t < 4 → (w l).filter (inT_ g t) = acw_ g l (gB_ g t) (thw_ g S t l) := h.2.1
theorem hq_wi (h : Hgw_ g K S0 S w τ c) : ∀ l n, l < 3 → n ∈ w l → ∃ t, t < 4 ∧ inT_ g t n = true := h.2.2.1
theorem hq_mem (h : Hgw_ g K S0 S w τ c) : ∀ l, l < 3 → sM_ S l = mvl_ g S0 S (w l) l := h.2.2.2.1
theorem hq_reg (h : Hgw_ g K S0 S w τ c) : ∀ (t n l : Nat), t < 4 → l < 3 → exd_ g S t n → (gC_ g n 1 = 1 ∨ gC_ g n 1 = 2) → gC_ g n 2 = (l : Int) → sR_ S (2 * t + (gC_ g n 3).toNat) = mvl_ g S0 S (bef_ n (vw_ g S t l (w l))) l := h.2.2.2.2.1
theorem hq_tc (h : Hgw_ g K S0 S w τ c) : ∀ t n, t < 4 → exd_ g S t n → τ n < c := h.2.2.2.2.2.1
theorem hq_tp (h : Hgw_ g K S0 S w τ c) : ∀ t n n', t < 4 → exd_ g S t n → exd_ g S t n' → n < n' → τ n < τ n' := h.2.2.2.2.2.2.1
theorem hq_ts (h : Hgw_ g K S0 S w τ c) : ∀ (t n l j : Nat), t < 4 → l < 3 → exd_ g S t n → (gC_ g n 1 = 1 ∨ gC_ g n 1 = 2) → gC_ g n 2 = (l : Int) → lw_ g (bef_ n (vw_ g S t l (w l))) = some j → τ j < τ n := h.2.2.2.2.2.2.2.1
theorem hq_un (h : Hgw_ g K S0 S w τ c) : ∀ (t r : Nat), t < 4 → r < 2 → (∀ n, exd_ g S t n → (gC_ g n 1 = 1 ∨ gC_ g n 1 = 2) → gC_ g n 3 ≠ (r : Int)) → sR_ S (2 * t + r) = 0 := h.2.2.2.2.2.2.2.2.1
theorem hq_ff (h : Hgw_ g K S0 S w τ c) : ∀ (t n l : Nat), t < 4 → l < 3 → exd_ g S t n → gC_ g n 1 = 0 → gC_ g n 2 = (l : Int) → (sW_ S n = true ↔ thw_ g S t l ≤ n) := h.2.2.2.2.2.2.2.2.2.1
theorem hq_dr (h : Hgw_ g K S0 S w τ c) : ∀ t j n, t < 4 → gB_ g t ≤ j → sW_ S j = true → exd_ g S t n → j < n → gC_ g n 1 < 2 := h.2.2.2.2.2.2.2.2.2.2
end HP
