/-! the class's search: outcomes are counted -/
section OC
variable {γ : ga_T} {σ : st_T} {p : pr_T} {M : List (gs_T × Int64)} {t : tk_T}
/-- of the first n of a list, how many -/
def cn_ (f : gs_T → Bool) (M : List (gs_T × Int64)) (n : Nat) : Nat := (M.take n).countP (fun q => f q.1)
theorem cn_s {f : gs_T → Bool} {n : Nat} {q : gs_T × Int64} (h : M[n]? = some q) : cn_ f M (n + 1) = cn_ f M n + (if f q.1 = true then 1 else 0) := by
  unfold cn_
  rw [List.take_add_one, h, List.countP_append]
  show _ + List.countP _ [q] = _
  rw [List.countP_singleton]
theorem cn_le (f : gs_T → Bool) (n : Nat) : cn_ f M n ≤ M.length := by
  unfold cn_
  exact Nat.le_trans List.countP_le_length (List.length_take_le' _ _)
theorem c_outcomes (zw : Wd σ) (zT : Tk_ σ (wm_ p M) t) (hE : st_L σ 153 14 = lN (en_ p (s1k_ p (pT_ p)))) : fn_ γ m_X2_outcomes 1 [.ref 147] σ (.int (i_ (cn_ (fi_ p) M M.length : Int))) σ := by
  have yl := ta_len zT.1
  have el : (wm_ p M).length = M.length := List.length_map _
  have ze := c_tsize (γ := γ) zw zT.1
  rw [el] at ze yl
  refine fn_q (fun Q zQ => e_X2_outcomes zw ?_)
  unfold p_X2_outcomes_0
  have key : ∀ k n : Nat, k + n = M.length → vv_ γ m_X2_outcomes 1 4 [(0, .ref 147), (1, .int (i_ (cn_ (fi_ p) M n : Int))), (2, .int (i_ (n : Int)))] [] σ Q := by
    intro k
    induction k with
    | zero =>
      intro n zi
      have zi : n = M.length := by omega
      subst zi
      refine g_X2_outcomes_4 zw ?_
      unfold p_X2_outcomes_4
      exact ⟨_, σ, zw, ze, fun _ => zQ, fun z => absurd (Int32.le_refl _) z⟩
    | succ k ih =>
      intro n zi
      obtain ⟨q, hq⟩ : ∃ q, M[n]? = some q := ⟨_, List.getElem?_eq_getElem (by omega)⟩
      have hq2 : (wm_ p M)[n]? = some (en_ p q.1, q.2) := by
        unfold wm_
        rw [List.getElem?_map, hq]
        rfl
      have y := ih (n + 1) (by omega)
      rw [cn_s hq, show ((n + 1 : Nat) : Int) = (n : Int) + 1 by omega, ← i_add] at y
      refine g_X2_outcomes_4 zw ?_
      unfold p_X2_outcomes_4
      refine ⟨_, σ, zw, ze, ?_⟩
      simp (disch := omega) only [i_le]
      refine ⟨fun z => by omega, fun _ => ⟨_, σ, zw, c_stateAt zw zT.1 hq2, _, σ, zw, c_isFinal zw hE, ?_⟩⟩
      by_cases yf : fi_ p q.1 = true
      · rw [if_pos yf] at y ⊢
        refine ⟨fun z => absurd z (by decide), fun _ => ?_⟩
        rw [i_lit 1, i_add]
        exact y
      · rw [if_neg yf] at y ⊢
        exact ⟨fun _ => y, fun z => absurd rfl z⟩
  exact key M.length 0 (by omega)
end OC
