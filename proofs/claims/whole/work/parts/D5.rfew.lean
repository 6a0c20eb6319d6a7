/-! the reference: outcomes kept and compared; the fewest fences -/
section RF
variable {γ : ga_T} {σ σ1 s : st_T} {A A' : ca_T} {c m n : Nat} {z y : Int} {e : String → Nat} {p : pr_T} {L M : List (Nat × Int64)}
def dQ_ (a k : Nat) : Prop := a = 209 ∨ (a = 185 ∧ k = 45)
/-- the others kept -/
def Oth_ (s : st_T) (L : List (Nat × Int64)) : Prop := st_I s 185 45 = i_ (L.length : Int) ∧ ∀ i q, L[i]? = some q → st_I s 209 i = i_ (q.1 : Int)
theorem c_keepsOthers (zw : Wd σ) (o : Oc_ σ L) (hl : st_I σ 185 44 = i_ (L.length : Int)) : ∃ s, fw_ γ m_X12_keepsOthers 0 [.ref 185] σ s ∧ Oth_ s L ∧ ro_ dQ_ σ s := by
  have hO := o.1
  have key : ∀ (k i : Nat) (s : st_T), k + i = L.length → Wd s → ro_ (fun a _ => a = 209) σ s → (∀ j q, j < i → L[j]? = some q → st_I s 209 j = i_ (q.1 : Int)) →
      ∃ s1, (Oth_ s1 L ∧ ro_ dQ_ σ s1) ∧ ∀ Q : rs_T → st_T → Prop, Q (.inl none) s1 → vv_ γ m_X12_keepsOthers 0 2 [(0, .ref 185), (1, .int (i_ (i : Int)))] [] s Q := by
    intro k
    induction k with
    | zero =>
      intro i s hi w r a
      have hi : i = L.length := by omega
      subst hi
      have e44 : st_I s 185 44 = i_ (L.length : Int) := (r.2 185 44 (fun y => by omega)).1.trans hl
      refine ⟨pt_I s 185 45 (i_ (L.length : Int)), ⟨⟨st_sI _ _ _ _, fun j q hj => by
        rw [st_pI, if_neg (by omega)]
        exact a j q (List.getElem?_eq_some_iff.mp hj).1 hj⟩, ro_I (ro_up r (fun a k y => Or.inl y)) (Or.inr ⟨rfl, rfl⟩)⟩, fun Q zQ => g_X12_keepsOthers_2 w ?_⟩
      unfold p_X12_keepsOthers_2
      rw [e44]
      exact ⟨fun _ => zQ, fun y => absurd (Int32.le_refl _) y⟩
    | succ k ih =>
      intro i s hi w r a
      have e44 : st_I s 185 44 = i_ (L.length : Int) := (r.2 185 44 (fun y => by omega)).1.trans hl
      obtain ⟨q, hq⟩ : ∃ q, L[i]? = some q := ⟨_, List.getElem?_eq_getElem (by omega)⟩
      have e8 : st_I s 208 i = i_ (q.1 : Int) := (r.2 208 i (fun y => by omega)).1.trans (o.2 i q hq).1
      obtain ⟨s1, f, g⟩ := ih (i + 1) (pt_I s 209 i (i_ (q.1 : Int))) (by omega) w (ro_I r rfl) (fun j q' hj hq' => by
        rw [st_pI]
        by_cases e : j = i
        · rw [if_pos ⟨rfl, e⟩]
          rw [e, hq] at hq'
          cases hq'
          rfl
        · rw [if_neg (by omega)]
          exact a j q' (by omega) hq')
      refine ⟨s1, f, fun Q zQ => g_X12_keepsOthers_2 w ?_⟩
      unfold p_X12_keepsOthers_2
      rw [e44, k1_, i_add, i_cl (by omega), Int.toNat_natCast, e8]
      refine ⟨fun y => ?_, fun _ => ⟨i_in (by omega) (by omega) (by omega), i_in (by omega) (by omega) (by omega), g Q zQ⟩⟩
      rw [i_le (by omega) (by omega)] at y
      omega
  obtain ⟨s1, ⟨f1, f2⟩, g⟩ := key L.length 0 σ rfl zw ro_rf (fun j q hj => by omega)
  exact ⟨s1, fw_q (fun Q zQ => e_X12_keepsOthers zw (g Q zQ)), f1, f2⟩
theorem c_areOthers (zw : Wd σ) (o : Oc_ σ L) (hl : st_I σ 185 44 = i_ (L.length : Int)) (hM : Oth_ σ M) (bM : M.length ≤ 65535 ∧ ∀ q ∈ M, q.1 < 4194304) : fn_ γ m_X12_areOthers 0 [.ref 185] σ (.int (if decide (L.map Prod.fst = M.map Prod.fst) = true then 1 else 0)) σ := by
  have hO := o.1
  refine fn_q (fun Q zQ => e_X12_areOthers zw ?_)
  unfold p_X12_areOthers_0
  rw [hl, hM.1, i_eq (by omega) (by omega)]
  refine ⟨fun u => ?_, fun u => ?_⟩
  · have key : ∀ (k i : Nat), k + i = L.length → (L.take i).map Prod.fst = (M.take i).map Prod.fst → vv_ γ m_X12_areOthers 0 15 [(0, .ref 185), (1, .int (i_ (i : Int)))] [] σ Q := by
      intro k
      induction k with
      | zero =>
        intro i hi a
        rw [List.take_of_length_le (by omega), List.take_of_length_le (by omega)] at a
        refine g_X12_areOthers_15 zw ?_
        unfold p_X12_areOthers_15
        rw [hl, show i = L.length by omega]
        rw [decide_eq_true a] at zQ
        exact ⟨fun _ => zQ, fun y => absurd (Int32.le_refl _) y⟩
      | succ k ih =>
        intro i hi a
        obtain ⟨q, hq⟩ : ∃ q, L[i]? = some q := ⟨_, List.getElem?_eq_getElem (by omega)⟩
        obtain ⟨q2, hq2⟩ : ∃ q, M[i]? = some q := ⟨_, List.getElem?_eq_getElem (by omega)⟩
        have b1 := (o.2 i q hq).2.2
        have b2 := bM.2 q2 (List.mem_of_getElem? hq2)
        refine g_X12_areOthers_15 zw ?_
        unfold p_X12_areOthers_15
        rw [hl, k1_, i_add, i_cl (by omega), Int.toNat_natCast, (o.2 i q hq).1, hM.2 i q2 hq2, i_eq (by omega) (by omega)]
        refine ⟨fun y => ?_, fun _ => ⟨i_in (by omega) (by omega) (by omega), i_in (by omega) (by omega) (by omega), fun y => ?_, fun y => ?_⟩⟩
        · rw [i_le (by omega) (by omega)] at y
          omega
        · refine ih (i + 1) (by omega) ?_
          rw [take_s hq, take_s hq2, List.map_append, List.map_append, a]
          show _ ++ [q.1] = _ ++ [q2.1]
          rw [show q.1 = q2.1 by omega]
        · have ne : ¬ L.map Prod.fst = M.map Prod.fst := fun e => by
            have e2 : (L.map Prod.fst)[i]? = (M.map Prod.fst)[i]? := by rw [e]
            rw [List.getElem?_map, List.getElem?_map, hq, hq2] at e2
            have e3 : q.1 = q2.1 := Option.some.inj e2
            omega
          rw [decide_eq_false ne] at zQ
          exact zQ
    exact key L.length 0 rfl rfl
  · have ne : ¬ L.map Prod.fst = M.map Prod.fst := fun e => by
      have e2 : (L.map Prod.fst).length = (M.map Prod.fst).length := by rw [e]
      rw [List.length_map, List.length_map] at e2
      omega
    rw [decide_eq_false ne] at zQ
    exact zQ
theorem bo_all : ∀ G : Fin 64, G.val ≠ 0 → i_ ((G.val : Nat) : Int) &&& (i_ ((G.val : Nat) : Int) - i_ 1) = i_ ((G.val &&& (G.val - 1) : Nat) : Int) ∧ (G.val &&& (G.val - 1)) < G.val ∧ pcn_ (G.val &&& (G.val - 1)) + 1 = pcn_ G.val := by decide
theorem pcn_6 (G : Nat) : pcn_ G ≤ 6 := ct_le _ _
theorem c_rbits (zw : Wd σ) {G : Nat} (hG : G < 64) : fn_ γ m_X12_bitsOf 0 [.int (i_ (G : Int))] σ (.int (i_ ((pcn_ G : Nat) : Int))) σ := fn_q (fun Q zQ => e_X12_bitsOf zw (by
  unfold p_X12_bitsOf_0
  have key : ∀ (k F c : Nat), F ≤ k → F < 64 → c + pcn_ F = pcn_ G → vv_ γ m_X12_bitsOf 0 4 [(1, .int (i_ (c : Int))), (2, .int (i_ (F : Int)))] [] σ Q := by
    intro k
    induction k with
    | zero =>
      intro F c h1 h2 h3
      have h1 : F = 0 := by omega
      subst h1
      refine g_X12_bitsOf_4 zw ?_
      unfold p_X12_bitsOf_4
      have e : pcn_ 0 = 0 := by decide
      rw [show c = pcn_ G by omega]
      exact ⟨fun _ => zQ, fun y => absurd rfl y⟩
    | succ k ih =>
      intro F c h1 h2 h3
      have p6 := pcn_6 G
      refine g_X12_bitsOf_4 zw ?_
      unfold p_X12_bitsOf_4
      rw [k0_, i_eq (by omega) (by omega)]
      refine ⟨fun y => ?_, fun y => ?_⟩
      · have e : pcn_ 0 = 0 := by decide
        rw [show F = 0 by omega] at h3
        rw [show c = pcn_ G by omega]
        exact zQ
      · obtain ⟨a1, a2, a3⟩ := bo_all ⟨F, h2⟩ (show F ≠ 0 by omega)
        dsimp only at a1 a2 a3
        rw [k1_, a1, i_add]
        exact ih _ (c + 1) (by omega) (by omega) (by omega)
  exact key G G 0 (Nat.le_refl _) hG (by omega)))
end RF
