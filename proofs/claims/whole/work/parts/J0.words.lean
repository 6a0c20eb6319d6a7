/-! how many states (T2): words with given counts, and how many there are -/
section WO
variable {a b c d k n t : Nat}
def fc_ : Nat → Nat
  | 0 => 1
  | n + 1 => (n + 1) * fc_ n
theorem fc_pos : ∀ n, 0 < fc_ n
  | 0 => Nat.one_pos
  | n + 1 => Nat.mul_pos (Nat.succ_pos n) (fc_pos n)
def mu_ (a b c d : Nat) : Nat := fc_ (a + b + c + d) / (fc_ a * fc_ b * fc_ c * fc_ d)
/-- words of four letters with given counts -/
def wds_ : Nat → Nat → Nat → Nat → Nat → List (List Nat)
  | 0, _, _, _, _ => [[]]
  | k + 1, a, b, c, d => (if 0 < a then (wds_ k (a - 1) b c d).map (fun u => 0 :: u) else []) ++ (if 0 < b then (wds_ k a (b - 1) c d).map (fun u => 1 :: u) else []) ++ (if 0 < c then (wds_ k a b (c - 1) d).map (fun u => 2 :: u) else []) ++ (if 0 < d then (wds_ k a b c (d - 1)).map (fun u => 3 :: u) else [])
theorem wds_len : ∀ (k a b c d : Nat), a + b + c + d = k → (wds_ k a b c d).length * (fc_ a * fc_ b * fc_ c * fc_ d) = fc_ k
  | 0, a, b, c, d, h => by
    have ea : a = 0 := by omega
    have eb : b = 0 := by omega
    have ec : c = 0 := by omega
    have ed : d = 0 := by omega
    subst ea
    subst eb
    subst ec
    subst ed
    rfl
  | k + 1, a, b, c, d, h => by
    have pa : (if 0 < a then (wds_ k (a - 1) b c d).map (fun u => 0 :: u) else []).length * (fc_ a * fc_ b * fc_ c * fc_ d) = a * fc_ k := by
      cases a with
      | zero => rw [if_neg (Nat.lt_irrefl _), List.length_nil, Nat.zero_mul, Nat.zero_mul]
      | succ a =>
        rw [if_pos (Nat.succ_pos a), List.length_map, Nat.add_sub_cancel, ← wds_len k a b c d (by omega)]
        show _ * (((a + 1) * fc_ a) * fc_ b * fc_ c * fc_ d) = _
        simp only [Nat.mul_assoc, Nat.mul_left_comm]
    have pb : (if 0 < b then (wds_ k a (b - 1) c d).map (fun u => 1 :: u) else []).length * (fc_ a * fc_ b * fc_ c * fc_ d) = b * fc_ k := by
      cases b with
      | zero => rw [if_neg (Nat.lt_irrefl _), List.length_nil, Nat.zero_mul, Nat.zero_mul]
      | succ b =>
        rw [if_pos (Nat.succ_pos b), List.length_map, Nat.add_sub_cancel, ← wds_len k a b c d (by omega)]
        show _ * (fc_ a * ((b + 1) * fc_ b) * fc_ c * fc_ d) = _
        simp only [Nat.mul_assoc, Nat.mul_left_comm]
    have pc : (if 0 < c then (wds_ k a b (c - 1) d).map (fun u => 2 :: u) else []).length * (fc_ a * fc_ b * fc_ c * fc_ d) = c * fc_ k := by
      cases c with
      | zero => rw [if_neg (Nat.lt_irrefl _), List.length_nil, Nat.zero_mul, Nat.zero_mul]
      | succ c =>
        rw [if_pos (Nat.succ_pos c), List.length_map, Nat.add_sub_cancel, ← wds_len k a b c d (by omega)]
        show _ * (fc_ a * fc_ b * ((c + 1) * fc_ c) * fc_ d) = _
        simp only [Nat.mul_assoc, Nat.mul_left_comm]
    have pd : (if 0 < d then (wds_ k a b c (d - 1)).map (fun u => 3 :: u) else []).length * (fc_ a * fc_ b * fc_ c * fc_ d) = d * fc_ k := by
      cases d with
      | zero => rw [if_neg (Nat.lt_irrefl _), List.length_nil, Nat.zero_mul, Nat.zero_mul]
      | succ d =>
        rw [if_pos (Nat.succ_pos d), List.length_map, Nat.add_sub_cancel, ← wds_len k a b c d (by omega)]
        show _ * (fc_ a * fc_ b * fc_ c * ((d + 1) * fc_ d)) = _
        simp only [Nat.mul_assoc, Nat.mul_left_comm]
    unfold wds_
    rw [List.length_append, List.length_append, List.length_append, Nat.add_mul, Nat.add_mul, Nat.add_mul, pa, pb, pc, pd, ← Nat.add_mul, ← Nat.add_mul, ← Nat.add_mul, h]
    rfl
theorem wds_mu (a b c d : Nat) : (wds_ (a + b + c + d) a b c d).length = mu_ a b c d := by
  have y := wds_len (a + b + c + d) a b c d rfl
  unfold mu_
  rw [← y]
  exact (Nat.mul_div_cancel _ (Nat.mul_pos (Nat.mul_pos (Nat.mul_pos (fc_pos a) (fc_pos b)) (fc_pos c)) (fc_pos d))).symm
def cnt_ (u : List Nat) (t : Nat) : Nat := (u.filter (fun x => decide (x = t))).length
theorem cnt_cons (x : Nat) (u : List Nat) (t : Nat) : cnt_ (x :: u) t = cnt_ u t + (if x = t then 1 else 0) := by
  unfold cnt_
  by_cases e : x = t
  · rw [List.filter_cons_of_pos (p := fun x => decide (x = t)) (decide_eq_true e), if_pos e]
    rfl
  · rw [List.filter_cons_of_neg (p := fun x => decide (x = t)) (by rw [decide_eq_false e]; exact fun y => by cases y), if_neg e]
    rfl
theorem wds_mem : ∀ (u : List Nat), (∀ x, x ∈ u → x < 4) → u ∈ wds_ (cnt_ u 0 + cnt_ u 1 + cnt_ u 2 + cnt_ u 3) (cnt_ u 0) (cnt_ u 1) (cnt_ u 2) (cnt_ u 3)
  | [], _ => List.mem_singleton.mpr rfl
  | x :: u, h => by
    have ih := wds_mem u (fun y hy => h y (List.mem_cons_of_mem _ hy))
    have hx := h x List.mem_cons_self
    rw [cnt_cons, cnt_cons, cnt_cons, cnt_cons]
    rcases (show x = 0 ∨ x = 1 ∨ x = 2 ∨ x = 3 by omega) with e | e | e | e <;> subst e
    · show 0 :: u ∈ wds_ (cnt_ u 0 + 1 + cnt_ u 1 + cnt_ u 2 + cnt_ u 3) (cnt_ u 0 + 1) (cnt_ u 1) (cnt_ u 2) (cnt_ u 3)
      rw [show cnt_ u 0 + 1 + cnt_ u 1 + cnt_ u 2 + cnt_ u 3 = (cnt_ u 0 + cnt_ u 1 + cnt_ u 2 + cnt_ u 3) + 1 by omega]
      unfold wds_
      rw [if_pos (Nat.succ_pos _), Nat.add_sub_cancel]
      simp only [List.mem_append, List.mem_map]
      exact Or.inl (Or.inl (Or.inl ⟨u, ih, rfl⟩))
    · show 1 :: u ∈ wds_ (cnt_ u 0 + (cnt_ u 1 + 1) + cnt_ u 2 + cnt_ u 3) (cnt_ u 0) (cnt_ u 1 + 1) (cnt_ u 2) (cnt_ u 3)
      rw [show cnt_ u 0 + (cnt_ u 1 + 1) + cnt_ u 2 + cnt_ u 3 = (cnt_ u 0 + cnt_ u 1 + cnt_ u 2 + cnt_ u 3) + 1 by omega]
      unfold wds_
      rw [if_pos (Nat.succ_pos (cnt_ u 1)), Nat.add_sub_cancel (cnt_ u 1)]
      simp only [List.mem_append, List.mem_map]
      exact Or.inl (Or.inl (Or.inr ⟨u, ih, rfl⟩))
    · show 2 :: u ∈ wds_ (cnt_ u 0 + cnt_ u 1 + (cnt_ u 2 + 1) + cnt_ u 3) (cnt_ u 0) (cnt_ u 1) (cnt_ u 2 + 1) (cnt_ u 3)
      rw [show cnt_ u 0 + cnt_ u 1 + (cnt_ u 2 + 1) + cnt_ u 3 = (cnt_ u 0 + cnt_ u 1 + cnt_ u 2 + cnt_ u 3) + 1 by omega]
      unfold wds_
      rw [if_pos (Nat.succ_pos (cnt_ u 2)), Nat.add_sub_cancel (cnt_ u 2)]
      simp only [List.mem_append, List.mem_map]
      exact Or.inl (Or.inr ⟨u, ih, rfl⟩)
    · show 3 :: u ∈ wds_ (cnt_ u 0 + cnt_ u 1 + cnt_ u 2 + (cnt_ u 3 + 1)) (cnt_ u 0) (cnt_ u 1) (cnt_ u 2) (cnt_ u 3 + 1)
      rw [show cnt_ u 0 + cnt_ u 1 + cnt_ u 2 + (cnt_ u 3 + 1) = (cnt_ u 0 + cnt_ u 1 + cnt_ u 2 + cnt_ u 3) + 1 by omega]
      unfold wds_
      rw [if_pos (Nat.succ_pos (cnt_ u 3)), Nat.add_sub_cancel (cnt_ u 3)]
      simp only [List.mem_append, List.mem_map]
      exact Or.inr ⟨u, ih, rfl⟩
/-- sums over lists -/
def sumf_ {α : Type} (f : α → Nat) : List α → Nat
  | [] => 0
  | x :: L => f x + sumf_ f L
theorem sumf_app {α : Type} (f : α → Nat) : ∀ (L M : List α), sumf_ f (L ++ M) = sumf_ f L + sumf_ f M
  | [], M => (Nat.zero_add _).symm
  | x :: L, M => by
    show f x + sumf_ f (L ++ M) = f x + sumf_ f L + sumf_ f M
    rw [sumf_app f L M, Nat.add_assoc]
theorem sumf_map {α β : Type} (f : β → Nat) (h : α → β) : ∀ (L : List α), sumf_ f (L.map h) = sumf_ (fun x => f (h x)) L
  | [] => rfl
  | x :: L => by
    show f (h x) + sumf_ f (L.map h) = f (h x) + sumf_ (fun x => f (h x)) L
    rw [sumf_map f h L]
theorem sumf_le {α : Type} {f h : α → Nat} : ∀ (L : List α), (∀ x, x ∈ L → f x ≤ h x) → sumf_ f L ≤ sumf_ h L
  | [], _ => Nat.le_refl _
  | x :: L, y => Nat.add_le_add (y x List.mem_cons_self) (sumf_le L (fun z hz => y z (List.mem_cons_of_mem _ hz)))
theorem sumf_cg {α : Type} {f h : α → Nat} (L : List α) (y : ∀ x, x ∈ L → f x = h x) : sumf_ f L = sumf_ h L := Nat.le_antisymm (sumf_le L (fun x hx => Nat.le_of_eq (y x hx))) (sumf_le L (fun x hx => Nat.le_of_eq (y x hx).symm))
theorem len_fm {α β : Type} (f : α → List β) : ∀ (L : List α), (L.flatMap f).length = sumf_ (fun x => (f x).length) L
  | [] => rfl
  | x :: L => by
    rw [List.flatMap_cons, List.length_append, len_fm f L]
    rfl
theorem sumf_const {α : Type} (k : Nat) : ∀ (L : List α), sumf_ (fun _ => k) L = L.length * k
  | [] => (Nat.zero_mul _).symm
  | x :: L => by
    show k + sumf_ (fun _ => k) L = _
    rw [sumf_const k L, List.length_cons, Nat.add_mul, Nat.one_mul, Nat.add_comm]
/-- distinct things with distinct witnesses -/
theorem rel_leB {α β : Type} {D : α → α → Prop} {Q : α → β → Prop} (hq : ∀ x y k, D x y → Q x k → Q y k → False) : ∀ {L : List α} {M : List β}, L.Pairwise D → (∀ x, x ∈ L → ∃ k, k ∈ M ∧ Q x k) → L.length ≤ M.length
  | [], _, _, _ => Nat.zero_le _
  | x :: L, M, hL, h => by
    obtain ⟨l1, l2⟩ := List.pairwise_cons.mp hL
    obtain ⟨k, k1, k2⟩ := h x List.mem_cons_self
    obtain ⟨A, B, e⟩ := List.append_of_mem k1
    subst e
    have y := rel_leB hq (M := A ++ B) l2 (fun z hz => by
      obtain ⟨j, j1, j2⟩ := h z (List.mem_cons_of_mem _ hz)
      refine ⟨j, ?_, j2⟩
      rcases List.mem_append.mp j1 with j3 | j3
      · exact List.mem_append.mpr (Or.inl j3)
      · rcases List.mem_cons.mp j3 with j4 | j4
        · exact (hq x z k (l1 z hz) k2 (by rw [← j4]; exact j2)).elim
        · exact List.mem_append.mpr (Or.inr j4))
    rw [List.length_append] at y
    rw [List.length_cons, List.length_append, List.length_cons]
    omega
end WO
