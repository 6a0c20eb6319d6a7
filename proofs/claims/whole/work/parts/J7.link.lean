/-! how many states (T2): the numbers and the sums -/
section LK
variable {i x n a b : Nat} {L : List Nat} {W W0 W1 W2 W3 : List (Nat × Nat × Nat)}
theorem sumf_rep {α : Type} (f : α → Nat) (v : α) : ∀ k, sumf_ f (List.replicate k v) = k * f v
  | 0 => (Nat.zero_mul _).symm
  | k + 1 => by
    show f v + sumf_ f (List.replicate k v) = (k + 1) * f v
    rw [sumf_rep f v k, Nat.succ_mul, Nat.add_comm]
theorem sumf_exq (f : Nat × Nat → Nat) : ∀ (W : List (Nat × Nat × Nat)), sumf_ f (exq_ W) = smw_ (fun a b => f (a, b)) W
  | [] => rfl
  | x :: W => by
    have e : exq_ (x :: W) = List.replicate x.2.2 (x.1, x.2.1) ++ exq_ W := by
      unfold exq_
      rw [List.flatMap_cons]
    rw [e, sumf_app, sumf_rep, sumf_exq f W]
    rfl
theorem smw_cg {f h : Nat → Nat → Nat} : ∀ (W : List (Nat × Nat × Nat)), (∀ x, x ∈ W → f x.1 x.2.1 = h x.1 x.2.1) → smw_ f W = smw_ h W
  | [], _ => rfl
  | x :: W, y => by
    show x.2.2 * f x.1 x.2.1 + smw_ f W = x.2.2 * h x.1 x.2.1 + smw_ h W
    rw [y x List.mem_cons_self, smw_cg W (fun z hz => y z (List.mem_cons_of_mem _ hz))]
def W4_ (W : List (Nat × Nat × Nat)) : Prop := ∀ x, x ∈ W → x.1 ≤ 4 ∧ x.2.1 ≤ 4
theorem mt_mu {a b c d : Nat} (ha : a ≤ 4) (hb : b ≤ 4) (hc : c ≤ 4) (hd : d ≤ 4) : mt_ a b c d = mu_ a b c d := by
  have y := chm_t
  unfold chm_ at y
  have y := List.all_eq_true.mp y a (List.mem_range.mpr (by omega))
  have y := List.all_eq_true.mp y b (List.mem_range.mpr (by omega))
  have y := List.all_eq_true.mp y c (List.mem_range.mpr (by omega))
  have y := List.all_eq_true.mp y d (List.mem_range.mpr (by omega))
  exact Nat.eq_of_beq_eq_true y
theorem vsm_vq (h0 : W4_ W0) (h1 : W4_ W1) (h2 : W4_ W2) (h3 : W4_ W3) : vsm_ (exq_ W0) (exq_ W1) (exq_ W2) (exq_ W3) = vq_ W0 W1 W2 W3 := by
  unfold vsm_ vq_
  rw [sumf_exq]
  refine smw_cg _ (fun a ha => ?_)
  rw [sumf_exq]
  refine smw_cg _ (fun b hb => ?_)
  rw [sumf_exq]
  refine smw_cg _ (fun c hc => ?_)
  rw [sumf_exq]
  refine smw_cg _ (fun d hd => ?_)
  have a4 := h0 a ha
  have b4 := h1 b hb
  have c4 := h2 c hc
  have d4 := h3 d hd
  show mu_ a.1 b.1 c.1 d.1 * mu_ a.2.1 b.2.1 c.2.1 d.2.1 = _
  rw [mt_mu a4.1 b4.1 c4.1 d4.1, mt_mu a4.2 b4.2 c4.2 d4.2]
theorem tab_len : tab_.length = 16 := rfl
theorem tab_in (hi : i < 16) : tab_.getD i ([], []) ∈ tab_ := by
  have hl : i < tab_.length := by
    rw [tab_len]
    exact hi
  rw [List.getD_eq_getElem?_getD, List.getElem?_eq_getElem hl]
  exact List.getElem_mem hl
theorem en_4 (hi : i < 16) (x : Nat) : W4_ (en_W i x) := by
  have y := che_t
  unfold che_ at y
  have y := List.all_eq_true.mp y _ (tab_in hi)
  rw [Bool.and_eq_true, Bool.and_eq_true] at y
  intro v hv
  unfold en_W at hv
  rcases List.mem_append.mp hv with z | z
  · have k := List.all_eq_true.mp y.1.1 v z
    rw [Bool.and_eq_true] at k
    exact ⟨Nat.le_of_ble_eq_true k.1, Nat.le_of_ble_eq_true k.2⟩
  · rw [List.mem_singleton.mp z]
    exact ⟨Nat.le_of_ble_eq_true y.1.2, Nat.le_of_ble_eq_true y.2⟩
theorem cnt_acc (L : List Nat) {t : Nat} (ht : t ≠ 0) : cnt_ (acc_ L) t = cnt_ L t := by
  unfold cnt_ acc_
  rw [List.filter_filter]
  congr 1
  refine List.filter_congr (fun v _ => ?_)
  by_cases e : v = t
  · rw [decide_eq_true e, decide_eq_true (show v ≠ 0 by omega)]
    rfl
  · rw [decide_eq_false e, Bool.false_and]
/-- a thread's list is under its row of the table -/
theorem dm_en (hi : i < 16) (hL : acc_ L = en_L i) (hx : exn_ true L ≤ x) : Dm_ (mls_ L [(0, 0)] 0 0) (exq_ (en_W i x)) := by
  intro f hf
  have y := nrm_le hf L true [(0, 0)] 0 0 (fun _ => rfl)
  have s := (nrm_shp L).1
  rw [hL] at s
  have c := chd_t
  unfold chd_ at c
  have c := List.all_eq_true.mp c _ (tab_in hi)
  have c := List.all_eq_true.mp c _ s
  have z : sumf_ f (mls_ (nrm_ true L) [(0, 0)] 0 0) ≤ sumf_ f (exq_ (tab_.getD i ([], [])).2) := sumf_cnt _ _ (fun v hv => Nat.le_of_ble_eq_true (List.all_eq_true.mp c v hv))
  have e1 : tx_ L = tx_ (en_L i) := by
    rw [← hL]
    unfold tx_
    rw [cnt_acc L (by decide), cnt_acc L (by decide)]
  have e2 : cnt_ L 2 = cnt_ (en_L i) 2 := by
    rw [← hL, cnt_acc L (by decide)]
  have e3 : sumf_ f (exq_ (en_W i x)) = sumf_ f (exq_ (tab_.getD i ([], [])).2) + x * f (tx_ (en_L i), cnt_ (en_L i) 2) := by
    unfold en_W
    rw [sumf_exq, sumf_exq]
    have key : ∀ (W : List (Nat × Nat × Nat)) (f : Nat → Nat → Nat) (v : Nat × Nat × Nat), smw_ f (W ++ [v]) = smw_ f W + v.2.2 * f v.1 v.2.1 := fun W f v => by
      induction W with
      | nil =>
        show v.2.2 * f v.1 v.2.1 + 0 = 0 + _
        omega
      | cons u W ih =>
        show u.2.2 * f u.1 u.2.1 + smw_ f (W ++ [v]) = u.2.2 * f u.1 u.2.1 + smw_ f W + _
        rw [ih]
        omega
    rw [key]
  rw [Nat.zero_add, Nat.zero_add, e1, e2] at y
  rw [e3]
  exact Nat.le_trans y (Nat.add_le_add z (Nat.mul_le_mul_right _ hx))
/-- four rows of the table -/
def Vl_ (a b c d : Nat × Nat) : Prop := a.1 < 16 → b.1 < 16 → c.1 < 16 → d.1 < 16 → vld_ (en_L a.1).length (en_L b.1).length (en_L c.1).length (en_L d.1).length (tx_ (en_L a.1) + tx_ (en_L b.1) + tx_ (en_L c.1) + tx_ (en_L d.1)) = true → (en_L a.1).length + (en_L b.1).length + (en_L c.1).length + (en_L d.1).length + a.2 + b.2 + c.2 + d.2 ≤ 10 → vsm_ (exq_ (en_W a.1 a.2)) (exq_ (en_W b.1 b.2)) (exq_ (en_W c.1 c.2)) (exq_ (en_W d.1 d.2)) ≤ 65535
theorem vld_01 (a b c d e : Nat) : vld_ a b c d e = vld_ b a c d e := by
  unfold vld_
  rw [Nat.add_comm a b, Nat.add_comm (a * a) (b * b)]
theorem vld_12 (a b c d e : Nat) : vld_ a b c d e = vld_ a c b d e := by
  unfold vld_
  rw [show a + b + c + d = a + c + b + d by omega, show a * a + b * b + c * c + d * d = a * a + c * c + b * b + d * d by omega]
theorem vld_23 (a b c d e : Nat) : vld_ a b c d e = vld_ a b d c e := by
  unfold vld_
  rw [show a + b + c + d = a + b + d + c by omega, show a * a + b * b + c * c + d * d = a * a + b * b + d * d + c * c by omega]
theorem chi_all {i : Nat} (hi : i < 16) : chi_ i = true := by
  by_cases c : i < 7
  · exact List.all_eq_true.mp chi_s i (List.mem_range.mpr c)
  · rcases (show i = 7 ∨ i = 8 ∨ i = 9 ∨ i = 10 ∨ i = 11 ∨ i = 12 ∨ i = 13 ∨ i = 14 ∨ i = 15 by omega) with e | e | e | e | e | e | e | e | e <;> subst e
    · exact chi_7
    · exact chi_8
    · exact chi_9
    · exact chi_10
    · exact chi_11
    · exact chi_12
    · exact chi_13
    · exact chi_14
    · exact chi_15
theorem vl_all (a b c d : Nat × Nat) : Vl_ a b c d := by
  refine sort4 (P := Vl_) (fun x => x.1) (fun a b c d h h1 h2 h3 h4 hv hs => ?_) (fun a b c d h h1 h2 h3 h4 hv hs => ?_) (fun a b c d h h1 h2 h3 h4 hv hs => ?_) (fun a b c d h1 h2 h3 ha hb hc hd hv hs => ?_) a b c d
  · rw [vsm_01]
    refine h h2 h1 h3 h4 ?_ (by omega)
    rw [vld_01, Nat.add_comm (tx_ (en_L a.1)) (tx_ (en_L b.1))]
    exact hv
  · rw [vsm_12]
    refine h h1 h3 h2 h4 ?_ (by omega)
    rw [vld_12, show tx_ (en_L a.1) + tx_ (en_L b.1) + tx_ (en_L c.1) + tx_ (en_L d.1) = tx_ (en_L a.1) + tx_ (en_L c.1) + tx_ (en_L b.1) + tx_ (en_L d.1) by omega]
    exact hv
  · rw [vsm_23]
    refine h h1 h2 h4 h3 ?_ (by omega)
    rw [vld_23, show tx_ (en_L a.1) + tx_ (en_L b.1) + tx_ (en_L c.1) + tx_ (en_L d.1) = tx_ (en_L a.1) + tx_ (en_L b.1) + tx_ (en_L d.1) + tx_ (en_L c.1) by omega]
    exact hv
  · have y := chi_all ha
    unfold chi_ at y
    have y := List.all_eq_true.mp y b.1 (List.mem_range.mpr (by omega))
    have y := List.all_eq_true.mp y c.1 (List.mem_range.mpr (by omega))
    have y := List.all_eq_true.mp y d.1 (List.mem_range.mpr (by omega))
    unfold okc_ at y
    rw [hv, Bool.not_true, Bool.false_or] at y
    unfold okx_ at y
    have y := List.all_eq_true.mp y a.2 (List.mem_range.mpr (by omega))
    have y := List.all_eq_true.mp y b.2 (List.mem_range.mpr (by omega))
    have y := List.all_eq_true.mp y c.2 (List.mem_range.mpr (by omega))
    have y := List.all_eq_true.mp y d.2 (List.mem_range.mpr (by omega))
    rw [vsm_vq (en_4 ha _) (en_4 hb _) (en_4 hc _) (en_4 hd _)]
    exact Nat.le_of_ble_eq_true y
/-- the rows of the table -/
theorem enL_of {L : List Nat} (h : ∀ a, a ∈ L → a = 1 ∨ a = 2) (hl : L.length ≤ 3 ∨ (L.length = 4 ∧ ∀ a, a ∈ L → a = 2)) : ∃ i, i < 16 ∧ en_L i = L := by
  match L, h, hl with
  | [], _, _ => exact ⟨0, by decide, rfl⟩
  | [a], h, _ =>
    rcases h a (by simp) with e | e <;> subst e
    · exact ⟨1, by decide, rfl⟩
    · exact ⟨2, by decide, rfl⟩
  | [a, b], h, _ =>
    rcases h a (by simp) with e | e <;> rcases h b (by simp) with e2 | e2 <;> subst e <;> subst e2
    · exact ⟨3, by decide, rfl⟩
    · exact ⟨4, by decide, rfl⟩
    · exact ⟨5, by decide, rfl⟩
    · exact ⟨6, by decide, rfl⟩
  | [a, b, c], h, _ =>
    rcases h a (by simp) with e | e <;> rcases h b (by simp) with e2 | e2 <;> rcases h c (by simp) with e3 | e3 <;> subst e <;> subst e2 <;> subst e3
    · exact ⟨7, by decide, rfl⟩
    · exact ⟨8, by decide, rfl⟩
    · exact ⟨9, by decide, rfl⟩
    · exact ⟨10, by decide, rfl⟩
    · exact ⟨11, by decide, rfl⟩
    · exact ⟨12, by decide, rfl⟩
    · exact ⟨13, by decide, rfl⟩
    · exact ⟨14, by decide, rfl⟩
  | [a, b, c, d], _, hl =>
    rcases hl with hl | ⟨-, h2⟩
    · simp at hl
    · have e1 := h2 a (by simp)
      have e2 := h2 b (by simp)
      have e3 := h2 c (by simp)
      have e4 := h2 d (by simp)
      subst e1
      subst e2
      subst e3
      subst e4
      exact ⟨15, by decide, rfl⟩
  | _ :: _ :: _ :: _ :: _ :: _, _, hl =>
    rcases hl with hl | ⟨hl, -⟩
    · simp at hl
    · simp at hl
end LK
