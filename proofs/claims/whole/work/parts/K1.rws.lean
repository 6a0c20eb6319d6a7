/-! how many states (T2): words in normal form -/
section RW3
variable {g : gm_T} {rk : Nat → Nat} {pn : Nat → Bool} {ρ : Nat → Nat} {k st : Nat} {a b c d : List Bool} {w : List Nat}
def stp_ (st r : Nat) (pl : Bool) : Option Nat := if pl = true then (if st = 5 then none else if st = 0 then some (r + 1) else if st ≤ r + 1 then some (r + 1) else some 5) else some 0
def rws_ : Nat → List Bool → List Bool → List Bool → List Bool → Nat → List (List Nat)
  | 0, _, _, _, _, _ => [[]]
  | k + 1, a, b, c, d, st =>
    (match a with
      | [] => []
      | p :: a' => match stp_ st 0 p with
        | some s => (rws_ k a' b c d s).map (fun u => 0 :: u)
        | none => []) ++ ((match b with
      | [] => []
      | p :: b' => match stp_ st 1 p with
        | some s => (rws_ k a b' c d s).map (fun u => 1 :: u)
        | none => []) ++ ((match c with
      | [] => []
      | p :: c' => match stp_ st 2 p with
        | some s => (rws_ k a b c' d s).map (fun u => 2 :: u)
        | none => []) ++ (match d with
      | [] => []
      | p :: d' => match stp_ st 3 p with
        | some s => (rws_ k a b c d' s).map (fun u => 3 :: u)
        | none => [])))
def rwc_ : Nat → List Bool → List Bool → List Bool → List Bool → Nat → Nat
  | 0, _, _, _, _, _ => 1
  | k + 1, a, b, c, d, st =>
    (match a with
      | [] => 0
      | p :: a' => match stp_ st 0 p with
        | some s => rwc_ k a' b c d s
        | none => 0) + ((match b with
      | [] => 0
      | p :: b' => match stp_ st 1 p with
        | some s => rwc_ k a b' c d s
        | none => 0) + ((match c with
      | [] => 0
      | p :: c' => match stp_ st 2 p with
        | some s => rwc_ k a b c' d s
        | none => 0) + (match d with
      | [] => 0
      | p :: d' => match stp_ st 3 p with
        | some s => rwc_ k a b c d' s
        | none => 0)))
theorem rws_len : ∀ (k : Nat) (a b c d : List Bool) (st : Nat), (rws_ k a b c d st).length = rwc_ k a b c d st
  | 0, _, _, _, _, _ => rfl
  | k + 1, a, b, c, d, st => by
    unfold rws_ rwc_
    rw [List.length_append, List.length_append, List.length_append]
    refine congr (congrArg _ ?_) (congr (congrArg _ ?_) (congr (congrArg _ ?_) ?_))
    · cases a with
      | nil => rfl
      | cons p a =>
        dsimp only
        cases stp_ st 0 p with
        | none => rfl
        | some s =>
          dsimp only
          rw [List.length_map, rws_len k]
    · cases b with
      | nil => rfl
      | cons p b =>
        dsimp only
        cases stp_ st 1 p with
        | none => rfl
        | some s =>
          dsimp only
          rw [List.length_map, rws_len k]
    · cases c with
      | nil => rfl
      | cons p c =>
        dsimp only
        cases stp_ st 2 p with
        | none => rfl
        | some s =>
          dsimp only
          rw [List.length_map, rws_len k]
    · cases d with
      | nil => rfl
      | cons p d =>
        dsimp only
        cases stp_ st 3 p with
        | none => rfl
        | some s =>
          dsimp only
          rw [List.length_map, rws_len k]
def rnn_ (rk : Nat → Nat) (pn : Nat → Bool) : Nat → List Nat → Bool
  | _, [] => true
  | st, x :: w => match stp_ st (rk x) (pn x) with
    | some s => rnn_ rk pn s w
    | none => false
def frk_ (rk : Nat → Nat) (pn : Nat → Bool) (r : Nat) (w : List Nat) : List Bool := (w.filter (fun x => decide (rk x = r))).map pn
theorem frk_y {x r : Nat} (h : rk x = r) (w : List Nat) : frk_ rk pn r (x :: w) = pn x :: frk_ rk pn r w := by
  unfold frk_
  rw [List.filter_cons_of_pos (p := fun x => decide (rk x = r)) (decide_eq_true h)]
  rfl
theorem frk_n {x r : Nat} (h : rk x ≠ r) (w : List Nat) : frk_ rk pn r (x :: w) = frk_ rk pn r w := by
  unfold frk_
  rw [List.filter_cons_of_neg (p := fun x => decide (rk x = r)) (by rw [decide_eq_false h]; exact fun y => by cases y)]
theorem rws_mem : ∀ (w : List Nat) (st : Nat), (∀ x, x ∈ w → rk x < 4) → rnn_ rk pn st w = true → w.map rk ∈ rws_ w.length (frk_ rk pn 0 w) (frk_ rk pn 1 w) (frk_ rk pn 2 w) (frk_ rk pn 3 w) st
  | [], _, _, _ => List.mem_singleton.mpr rfl
  | x :: w, st, h4, hr => by
    have hx := h4 x List.mem_cons_self
    have hr : (match stp_ st (rk x) (pn x) with | some s => rnn_ rk pn s w | none => false) = true := hr
    cases hs : stp_ st (rk x) (pn x) with
    | none =>
      rw [hs] at hr
      cases hr
    | some s =>
      rw [hs] at hr
      have ih := rws_mem w s (fun y hy => h4 y (List.mem_cons_of_mem _ hy)) hr
      rw [List.map_cons, List.length_cons]
      unfold rws_
      rcases (show rk x = 0 ∨ rk x = 1 ∨ rk x = 2 ∨ rk x = 3 by omega) with e | e | e | e
      · rw [frk_y e, frk_n (r := 1) (by omega), frk_n (r := 2) (by omega), frk_n (r := 3) (by omega)]
        rw [e] at hs ⊢
        refine List.mem_append.mpr (Or.inl ?_)
        dsimp only
        rw [hs]
        exact List.mem_map.mpr ⟨_, ih, rfl⟩
      · rw [frk_y e, frk_n (r := 0) (by omega), frk_n (r := 2) (by omega), frk_n (r := 3) (by omega)]
        rw [e] at hs ⊢
        refine List.mem_append.mpr (Or.inr (List.mem_append.mpr (Or.inl ?_)))
        dsimp only
        rw [hs]
        exact List.mem_map.mpr ⟨_, ih, rfl⟩
      · rw [frk_y e, frk_n (r := 0) (by omega), frk_n (r := 1) (by omega), frk_n (r := 3) (by omega)]
        rw [e] at hs ⊢
        refine List.mem_append.mpr (Or.inr (List.mem_append.mpr (Or.inr (List.mem_append.mpr (Or.inl ?_)))))
        dsimp only
        rw [hs]
        exact List.mem_map.mpr ⟨_, ih, rfl⟩
      · rw [frk_y e, frk_n (r := 0) (by omega), frk_n (r := 1) (by omega), frk_n (r := 2) (by omega)]
        rw [e] at hs ⊢
        refine List.mem_append.mpr (Or.inr (List.mem_append.mpr (Or.inr (List.mem_append.mpr (Or.inr ?_)))))
        dsimp only
        rw [hs]
        exact List.mem_map.mpr ⟨_, ih, rfl⟩
theorem bad_cons {x : Nat} (h : bad_ g ρ w) : bad_ g ρ (x :: w) := by
  obtain ⟨A, a, b, d, B, e, h1⟩ := h
  exact ⟨x :: A, a, b, d, B, by rw [e]; rfl, h1⟩
/-- a word in normal form runs through -/
theorem rnn_ok (hρ : ∀ t, ρ t < 4) : ∀ (w : List Nat), (¬ bad_ g ρ w → rnn_ (fun n => ρ (thd_ g n)) (fun n => decide (gC_ g n 1 = 0)) 0 w = true) ∧
    (∀ a, gC_ g a 1 = 0 → ¬ bad_ g ρ (a :: w) → rnn_ (fun n => ρ (thd_ g n)) (fun n => decide (gC_ g n 1 = 0)) (ρ (thd_ g a) + 1) w = true) ∧
    ∀ a b, gC_ g a 1 = 0 → gC_ g b 1 = 0 → ρ (thd_ g b) < ρ (thd_ g a) → ¬ bad_ g ρ (a :: b :: w) → rnn_ (fun n => ρ (thd_ g n)) (fun n => decide (gC_ g n 1 = 0)) 5 w = true
  | [] => ⟨fun _ => rfl, fun _ _ _ => rfl, fun _ _ _ _ _ _ => rfl⟩
  | x :: w => by
    obtain ⟨i0, i1, i5⟩ := rnn_ok hρ w
    have rn : ∀ st, rnn_ (fun n => ρ (thd_ g n)) (fun n => decide (gC_ g n 1 = 0)) st (x :: w) = (match stp_ st (ρ (thd_ g x)) (decide (gC_ g x 1 = 0)) with | some s => rnn_ (fun n => ρ (thd_ g n)) (fun n => decide (gC_ g n 1 = 0)) s w | none => false) := fun _ => rfl
    by_cases kx : gC_ g x 1 = 0
    · have sp : ∀ st, stp_ st (ρ (thd_ g x)) (decide (gC_ g x 1 = 0)) = (if st = 5 then none else if st = 0 then some (ρ (thd_ g x) + 1) else if st ≤ ρ (thd_ g x) + 1 then some (ρ (thd_ g x) + 1) else some 5) := fun st => by
        unfold stp_
        rw [decide_eq_true kx, if_pos rfl]
      refine ⟨fun nb => ?_, fun a ka nb => ?_, fun a b ka kb hr nb => ?_⟩
      · rw [rn, sp, if_neg (by decide), if_pos rfl]
        exact i1 x kx nb
      · have r4 := hρ (thd_ g a)
        rw [rn, sp, if_neg (show ¬ ρ (thd_ g a) + 1 = 5 by omega), if_neg (show ¬ ρ (thd_ g a) + 1 = 0 by omega)]
        by_cases le : ρ (thd_ g a) ≤ ρ (thd_ g x)
        · rw [if_pos (by omega)]
          exact i1 x kx (fun y => nb (bad_cons y))
        · rw [if_neg (by omega)]
          exact i5 a x ka kx (by omega) nb
      · exact absurd ⟨[], a, b, x, w, rfl, ka, kb, kx, hr⟩ nb
    · have sp : ∀ st, stp_ st (ρ (thd_ g x)) (decide (gC_ g x 1 = 0)) = some 0 := fun st => by
        unfold stp_
        rw [decide_eq_false kx, if_neg (by decide)]
      refine ⟨fun nb => ?_, fun a ka nb => ?_, fun a b ka kb hr nb => ?_⟩
      · rw [rn, sp]
        exact i0 (fun y => nb (bad_cons y))
      · rw [rn, sp]
        exact i0 (fun y => nb (bad_cons (bad_cons y)))
      · rw [rn, sp]
        exact i0 (fun y => nb (bad_cons (bad_cons (bad_cons y))))
end RW3
