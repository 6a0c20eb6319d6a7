/-! the sorted outcomes are one list only -/
section SU
variable {p : pr_T} {m : Nat} {F : Nat → Bool}
def nk_ {α : Type} (k : α → Nat) (M : List (α × Int64)) : Prop := M.Pairwise (fun x y => k x.1 ≠ k y.1)
theorem ad_mem {α : Type} (k : α → Nat) (s : α) (x : Int64) : ∀ (M : List (α × Int64)) (q : α × Int64), q ∈ ad_ k M s x → (∃ r ∈ M, r.1 = q.1) ∨ q.1 = s := by
  intro M
  induction M with
  | nil =>
    intro q hq
    rw [show q = (s, x) from List.mem_singleton.mp hq]
    exact Or.inr rfl
  | cons r M ih =>
    intro q hq
    unfold ad_ at hq
    split at hq
    · rcases List.mem_cons.mp hq with e | e
      · rw [e]
        exact Or.inl ⟨r, List.mem_cons_self, rfl⟩
      · exact Or.inl ⟨q, List.mem_cons_of_mem _ e, rfl⟩
    · rcases List.mem_cons.mp hq with e | e
      · rw [e]
        exact Or.inl ⟨r, List.mem_cons_self, rfl⟩
      · rcases ih q e with ⟨r2, y1, y2⟩ | y
        · exact Or.inl ⟨r2, List.mem_cons_of_mem _ y1, y2⟩
        · exact Or.inr y
theorem nk_ad {α : Type} (k : α → Nat) (s : α) (x : Int64) : ∀ M : List (α × Int64), nk_ k M → nk_ k (ad_ k M s x) := by
  intro M
  induction M with
  | nil => intro _; exact List.pairwise_singleton _ _
  | cons r M ih =>
    intro h
    obtain ⟨h1, h2⟩ := List.pairwise_cons.mp h
    unfold ad_
    split
    · exact List.pairwise_cons.mpr ⟨fun q z => h1 q z, h2⟩
    · rename_i hn
      refine List.pairwise_cons.mpr ⟨fun q z => ?_, ih h2⟩
      rcases ad_mem k s x M q z with ⟨r2, y1, y2⟩ | y
      · rw [← y2]
        exact h1 r2 y1
      · rw [y]
        exact hn
theorem nk_bw (k : gs_T → Nat) {g : gm_T} {S : gs_T} (x : Int64) {t : Nat} {M : List (gs_T × Int64)} (h : nk_ k M) : ∀ W, nk_ k (bw_ k g S x t M W) := by
  intro W
  induction W with
  | zero => exact h
  | succ W ih =>
    show nk_ k (match gt_ g S t W with | some S2 => ad_ k (bw_ k g S x t M W) S2 x | none => bw_ k g S x t M W)
    cases hg : gt_ g S t W with
    | none => exact ih
    | some S2 => exact nk_ad k S2 x _ ih
theorem nk_bt (k : gs_T → Nat) {g : gm_T} {W : Nat} {S : gs_T} (x : Int64) {M : List (gs_T × Int64)} (h : nk_ k M) : ∀ T, nk_ k (bt_ k g W S x M T) := by
  intro T
  induction T with
  | zero => exact h
  | succ T ih => exact nk_bw k x ih W
theorem nk_bn (k : gs_T → Nat) (g : gm_T) (T W : Nat) (S0 : gs_T) : ∀ n, nk_ k (bn_ k g T W S0 n) := by
  intro n
  induction n with
  | zero => exact List.pairwise_singleton _ _
  | succ n ih =>
    show nk_ k (match (bn_ k g T W S0 n)[n]? with | some q => bt_ k g W q.1 q.2 (bn_ k g T W S0 n) T | none => bn_ k g T W S0 n)
    cases hq : (bn_ k g T W S0 n)[n]? with
    | none => exact ih
    | some q => exact nk_bt k q.2 ih T
/-- no two outcomes have one code -/
theorem rl_inj {S S2 : gs_T} (f1 : fi_ p S = true) (f2 : fi_ p S2 = true) (e : cc_ p S = cc_ p S2) : en_ p S = en_ p S2 := by
  unfold fi_ at f1 f2
  rw [decide_eq_true_eq] at f1 f2
  unfold cc_ at e
  generalize en_ p S = a at f1 e ⊢
  generalize en_ p S2 = b at f2 e ⊢
  generalize en_ p (s1k_ p (pT_ p)) = c at f1 f2
  omega
theorem rl_nk (p : pr_T) {M : List (gs_T × Int64)} (h : nk_ (en_ p) M) : (rl_ p M).Pairwise (fun x y => x.1 ≠ y.1) := by
  unfold rl_
  rw [List.pairwise_map]
  have h2 : List.Pairwise (fun x y : gs_T × Int64 => en_ p x.1 ≠ en_ p y.1) M := h
  refine List.Pairwise.imp_of_mem (R := fun x y : gs_T × Int64 => en_ p x.1 ≠ en_ p y.1) (fun {x y} z1 z2 z e => z ?_) (List.Pairwise.filter (fun q : gs_T × Int64 => fi_ p q.1) h2)
  exact rl_inj (List.mem_filter.mp z1).2 (List.mem_filter.mp z2).2 e
def srt_ (L : List (Nat × Int64)) : List (Nat × Int64) := L.mergeSort (fun x y => decide (x.1 ≤ y.1))
theorem srt_pm (L : List (Nat × Int64)) : List.Perm (srt_ L) L := List.mergeSort_perm _ _
theorem srt_pw (L : List (Nat × Int64)) : (srt_ L).Pairwise (fun x y => x.1 ≤ y.1) := by
  refine (List.pairwise_mergeSort (le := fun x y : Nat × Int64 => decide (x.1 ≤ y.1)) (fun a b c z1 z2 => ?_) (fun a b => ?_) L).imp (fun z => of_decide_eq_true z)
  · rw [decide_eq_true_eq] at z1 z2 ⊢
    exact Nat.le_trans z1 z2
  · rw [Bool.or_eq_true, decide_eq_true_eq, decide_eq_true_eq]
    exact Nat.le_total _ _
theorem pw_in {α : Type} {f : α → Nat} : ∀ {L : List α}, L.Pairwise (fun x y => f x ≠ f y) → ∀ x ∈ L, ∀ y ∈ L, f x = f y → x = y := by
  intro L
  induction L with
  | nil => intro _ x hx; cases hx
  | cons a L ih =>
    intro h x hx y hy e
    obtain ⟨h1, h2⟩ := List.pairwise_cons.mp h
    rcases List.mem_cons.mp hx with q1 | q1
    · rcases List.mem_cons.mp hy with q2 | q2
      · rw [q1, q2]
      · exact absurd (by rw [← q1]; exact e) (h1 y q2)
    · rcases List.mem_cons.mp hy with q2 | q2
      · exact absurd (by rw [← q2]; exact e.symm) (h1 x q1)
      · exact ih h2 x q1 y q2 e
theorem srt_un {L S : List (Nat × Int64)} (hL : L.Pairwise (fun x y => x.1 ≠ y.1)) (hp : List.Perm S L) (hs : S.Pairwise (fun x y => x.1 ≤ y.1)) : S = srt_ L := by
  refine List.Perm.eq_of_pairwise (le := fun x y : Nat × Int64 => x.1 ≤ y.1) (fun a b z1 z2 z3 z4 => ?_) hs (srt_pw L) (hp.trans (srt_pm L).symm)
  exact pw_in hL a (hp.mem_iff.mp z1) b ((srt_pm L).mem_iff.mp z2) (Nat.le_antisymm z3 z4)
theorem sp_pw {S : List (Nat × Int64)} (h : Sp_ S S.length) : S.Pairwise (fun x y => x.1 ≤ y.1) := by
  rw [List.pairwise_iff_getElem]
  intro i j zi zj zl
  have y := h i j zl zj
  unfold wa_ at y
  rw [List.getElem?_eq_getElem zi, List.getElem?_eq_getElem zj] at y
  exact y
theorem ocs_un {S : List (Nat × Int64)} (hp : List.Perm S (rl_ p (bf_ p m F))) (hs : Sp_ S S.length) : S = ocs_ p m F :=
  srt_un (rl_nk p (nk_bn _ _ _ _ _ _)) hp (sp_pw hs)
theorem ocs_len : (ocs_ p m F).length = cn_ (fi_ p) (bf_ p m F) (bf_ p m F).length := by
  unfold ocs_
  rw [List.length_mergeSort]
  unfold rl_ cn_
  rw [List.length_map, List.take_length, List.countP_eq_length_filter]
end SU
