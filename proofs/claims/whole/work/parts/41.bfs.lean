/-! the machine of the class: start, final states, codes; the search over states -/
section BF
variable {γ : ga_T} {σ : st_T} {p : pr_T} {S : gs_T}
theorem c_start {w : Nat} (zw : Wd σ) (z : st_L σ 153 13 = lN w) : fn_ γ m_X4_start 0 [.ref 153] σ (.long (lN w)) σ := fn_q (fun Q zQ => e_X4_start zw (by
  unfold p_X4_start_0
  rw [z]
  exact zQ))
/-- final: the same positions and waiting stores as at the end -/
def fi_ (p : pr_T) (S : gs_T) : Bool := decide (en_ p S / 2 ^ 22 = en_ p (s1k_ p (pT_ p)) / 2 ^ 22)
theorem c_isFinal (zw : Wd σ) (z : st_L σ 153 14 = lN (en_ p (s1k_ p (pT_ p)))) : fn_ γ m_X4_isFinal 0 [.ref 153, .long (lN (en_ p S))] σ (.int (i_ (if fi_ p S = true then 1 else 0))) σ := fn_q (fun Q zQ => e_X4_isFinal zw (by
  unfold p_X4_isFinal_0
  have y1 := en_lt (p := p) S
  have y2 := en_lt (p := p) (s1k_ p (pT_ p))
  rw [z, i_lit 22, show i_ (OfNat.ofNat 22) = i_ ((22 : Nat) : Int) from rfl, l_shr (by decide) en_63, l_shr (by decide) en_63]
  rw [lN_inj (Nat.lt_of_le_of_lt (Nat.div_le_self _ _) (Nat.lt_trans y1 (by decide))) (Nat.lt_of_le_of_lt (Nat.div_le_self _ _) (Nat.lt_trans y2 (by decide)))]
  refine ⟨fun y => ?_, fun y => ?_⟩
  · rw [show fi_ p S = true from decide_eq_true y, if_pos rfl] at zQ
    exact zQ
  · rw [show fi_ p S = false from decide_eq_false y, if_neg (by decide)] at zQ
    exact zQ))
def cc_ (p : pr_T) (S : gs_T) : Nat := en_ p S % 2 ^ 22
theorem c_codeOf (zw : Wd σ) : fn_ γ m_X4_codeOf 0 [.long (lN (en_ p S))] σ (.int (i_ (cc_ p S : Int))) σ := fn_q (fun Q zQ => e_X4_codeOf zw (by
  unfold p_X4_codeOf_0
  have e1 : (lN (en_ p S)).toInt32 &&& (4194303 : Int32) = i_ (cc_ p S : Int) := by
    rw [l_i32, i_lit 4194303, show i_ (OfNat.ofNat 4194303) = i_ ((4194303 : Nat) : Int) from rfl, i_and (Nat.mod_lt _ (by decide)) (by decide)]
    rw [show (4194303 : Nat) = 2 ^ 22 - 1 from rfl, Nat.and_two_pow_sub_one_eq_mod, Nat.mod_mod_of_dvd _ (by decide)]
    rfl
  rw [e1]
  exact zQ))
theorem c_mthreads (zw : Wd σ) (zR : Rp_ σ 132 p) : fn_ γ m_X4_threads 1 [.ref 153] σ (.int (i_ (pT_ p))) σ := fn_q (fun Q zQ => e_X4_threads zw (by
  unfold p_X4_threads_0
  exact ⟨_, σ, zw, c_threads pg_132 zw zR, zQ⟩))
/-- the search: steps of a thread under w; of threads under t; states under n -/
def bw_ (k : gs_T → Nat) (g : gm_T) (S : gs_T) (x : Int64) (t : Nat) (L : List (gs_T × Int64)) : Nat → List (gs_T × Int64)
  | 0 => L
  | w + 1 => match gt_ g S t w with
    | some S2 => ad_ k (bw_ k g S x t L w) S2 x
    | none => bw_ k g S x t L w
def bt_ (k : gs_T → Nat) (g : gm_T) (W : Nat) (S : gs_T) (x : Int64) (L : List (gs_T × Int64)) : Nat → List (gs_T × Int64)
  | 0 => L
  | t + 1 => bw_ k g S x t (bt_ k g W S x L t) W
def bn_ (k : gs_T → Nat) (g : gm_T) (T W : Nat) (S0 : gs_T) : Nat → List (gs_T × Int64)
  | 0 => [(S0, 1)]
  | n + 1 => match (bn_ k g T W S0 n)[n]? with
    | some q => bt_ k g W q.1 q.2 (bn_ k g T W S0 n) T
    | none => bn_ k g T W S0 n
theorem ad_map {α : Type} (k : α → Nat) (s : α) (x : Int64) : ∀ L : List (α × Int64), (ad_ k L s x).map (fun q => (k q.1, q.2)) = ad_ (fun n => n) (L.map (fun q => (k q.1, q.2))) (k s) x := by
  intro L
  induction L with
  | nil => rfl
  | cons q t ih =>
    rw [List.map_cons]
    unfold ad_
    dsimp only
    by_cases y : k q.1 = k s
    · rw [if_pos y, if_pos y, List.map_cons]
    · rw [if_neg y, if_neg y, List.map_cons, ih]
theorem ad_len {α : Type} (k : α → Nat) (s : α) (x : Int64) : ∀ L : List (α × Int64), L.length ≤ (ad_ k L s x).length := by
  intro L
  induction L with
  | nil => exact Nat.zero_le _
  | cons q t ih =>
    unfold ad_
    split
    · exact Nat.le_refl _
    · exact Nat.succ_le_succ ih
theorem bw_len (k : gs_T → Nat) (g : gm_T) (S : gs_T) (x : Int64) (t : Nat) (L : List (gs_T × Int64)) : ∀ w, (bw_ k g S x t L w).length ≤ (bw_ k g S x t L (w + 1)).length := by
  intro w
  show _ ≤ (match gt_ g S t w with | some S2 => ad_ k (bw_ k g S x t L w) S2 x | none => bw_ k g S x t L w).length
  split
  · exact ad_len _ _ _ _
  · exact Nat.le_refl _
theorem bw_le (k : gs_T → Nat) (g : gm_T) (S : gs_T) (x : Int64) (t : Nat) (L : List (gs_T × Int64)) {w : Nat} : ∀ v, (bw_ k g S x t L w).length ≤ (bw_ k g S x t L (w + v)).length := by
  intro v
  induction v with
  | zero => exact Nat.le_refl _
  | succ v ih => exact Nat.le_trans ih (bw_len k g S x t L (w + v))
theorem bt_le (k : gs_T → Nat) (g : gm_T) (W : Nat) (S : gs_T) (x : Int64) (L : List (gs_T × Int64)) {t : Nat} : ∀ v, (bt_ k g W S x L t).length ≤ (bt_ k g W S x L (t + v)).length := by
  intro v
  induction v with
  | zero => exact Nat.le_refl _
  | succ v ih =>
    refine Nat.le_trans ih ?_
    have z := bw_le k g S x (t + v) (bt_ k g W S x L (t + v)) (w := 0) W
    rw [Nat.zero_add] at z
    exact z
end BF
