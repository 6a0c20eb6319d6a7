/-! findings are sorted -/
section SO
variable {γ : ga_T} {σ σ1 : st_T} {a : Nat} {L : List (Nat × Int64)} {t : fk_T}
theorem wa_st {S : List (Nat × Int64)} {k : Nat} {q : Nat × Int64} (zk : k < S.length) (u : Nat) : wa_ (S.set k q) u = if u = k then q.1 else wa_ S u := by
  unfold wa_
  rw [List.getElem?_set]
  by_cases y : u = k
  · subst y
    rw [if_pos rfl, if_pos zk, if_pos rfl]
    rfl
  · rw [if_neg (fun z => y z.symm), if_neg y]
theorem pm_set {S : List (Nat × Int64)} {k j : Nat} {x q : Nat × Int64} (zk : k < S.length) (hq : S[j]? = some q) (zn : j ≠ k) : List.Perm ((S.set k q).set j x) (S.set k x) := by
  have zj : j < S.length := (List.getElem?_eq_some_iff.mp hq).1
  have e1 : S[j] = q := (List.getElem?_eq_some_iff.mp hq).2
  have h1 : k < (S.set k x).length := by rw [List.length_set]; exact zk
  have h2 : j < (S.set k x).length := by rw [List.length_set]; exact zj
  have y := List.set_set_perm h1 h2
  rw [List.getElem_set_self, List.getElem_set_ne (fun z => zn z.symm), List.set_set, e1] at y
  exact y
theorem fl_set (ha : is_fi a) (zF : Fl_ σ a t L) {k : Nat} (zk : k < L.length) {q : Nat × Int64} (zq : q.1 < 4194304) : Fl_ (pt_L (pt_I σ t.1 k (i_ (q.1 : Int))) t.2.1 k q.2) a t (L.set k q) := by
  have y := fr_ne ha zF.1
  obtain ⟨h1, h2, h3, h4⟩ := zF
  refine ⟨h1, ?_, by rw [List.length_set]; exact h3, fun i x hx => ?_⟩
  · rw [List.length_set, ← h2]
    exact if_neg (fun z => y.2.1 z.1.symm)
  · rw [List.getElem?_set] at hx
    rw [show st_I (pt_L (pt_I σ t.1 k (i_ (q.1 : Int))) t.2.1 k q.2) t.1 i = if t.1 = t.1 ∧ i = k then i_ (q.1 : Int) else st_I σ t.1 i from rfl, show st_L (pt_L (pt_I σ t.1 k (i_ (q.1 : Int))) t.2.1 k q.2) t.2.1 i = if t.2.1 = t.2.1 ∧ i = k then q.2 else st_L σ t.2.1 i from rfl]
    by_cases z : k = i
    · subst z
      rw [if_pos rfl, if_pos zk] at hx
      have hx := Option.some.inj hx
      subst hx
      rw [if_pos ⟨rfl, rfl⟩, if_pos ⟨rfl, rfl⟩]
      exact ⟨rfl, rfl, zq⟩
    · rw [if_neg z] at hx
      rw [if_neg (fun w => z w.2.symm), if_neg (fun w => z w.2.symm)]
      exact h4 i x hx
theorem ff_set (ha : is_fi a) (zF : Fl_ σ a t L) {k : Nat} {v : Int32} {w : Int64} : ff_ σ a t (pt_L (pt_I σ t.1 k v) t.2.1 k w) t := by
  have y := fr_ne ha zF.1
  exact ⟨fun h _ _ z3 z4 => eh_tr (eh_I z3) (eh_L z4), ⟨Or.inl rfl, Or.inl rfl⟩, Nat.le_refl _, Nat.le_refl _, Nat.le_refl _, Nat.le_refl _, fun j _ => if_neg (fun z => y.2.1 z.1.symm)⟩
def Sp_ (S : List (Nat × Int64)) (m : Nat) : Prop := ∀ u v, u < v → v < m → wa_ S u ≤ wa_ S v
theorem l_sortIn (ha : is_fi a) {N g i : Nat} {x : Nat × Int64} (zx : x.1 < 4194304) (zg : 1 ≤ g) (zgN : g ≤ N) (zi : i < N) (zN : N ≤ 131072) {Q : rs_T → st_T → Prop} : ∀ (n at0 : Nat) (σ : st_T) (S : List (Nat × Int64)), at0 ≤ n → Wd σ → Fl_ σ a t S → S.length = N → at0 ≤ i →
    (g = 1 → (∀ u v, u < v → v ≤ i → u ≠ at0 → v ≠ at0 → wa_ S u ≤ wa_ S v) ∧ ∀ v, at0 < v → v ≤ i → x.1 ≤ wa_ S v) →
    (∀ σ1 S1, Wd σ1 → Fl_ σ1 a t S1 → List.Perm S1 (S.set at0 x) → (g = 1 → Sp_ S1 (i + 1)) → ff_ σ a t σ1 t → vv_ γ m_X3_sort 1 31 [(0, .ref a), (1, .int (i_ (N : Int))), (2, .int (i_ (g : Int))), (3, .int (i_ ((i + 1 : Nat) : Int)))] [] σ1 Q) →
    vv_ γ m_X3_sort 1 55 [(0, .ref a), (1, .int (i_ (N : Int))), (2, .int (i_ (g : Int))), (3, .int (i_ (i : Int))), (4, .int (i_ (x.1 : Int))), (5, .long x.2), (7, .int (i_ (at0 : Int)))] [] σ Q := by
  intro n
  induction n with
  | zero =>
    intro at0 σ S z1 zw zF zS z2 z3 zK
    have z1 : at0 = 0 := by omega
    subst z1
    have r := zF.1
    have y := fr_ne ha r
    have zl := zF.2.2.1
    have n1 := r.2.2.2
    have zk := zK _ _ (show Wd (pt_L (pt_I σ t.1 0 (i_ (x.1 : Int))) t.2.1 0 x.2) from zw) (fl_set ha zF (by omega) zx) (List.Perm.refl _) (fun e u v w1 w2 => by
      have k1 := z3 e
      rw [wa_st (by omega), wa_st (by omega), if_neg (by omega : ¬ v = 0)]
      split
      · exact k1.2 v (by omega) (by omega)
      · exact k1.1 u v w1 (by omega) (by omega) (by omega)) (ff_set ha zF)
    rw [show ((i + 1 : Nat) : Int) = (i : Int) + 1 by omega, ← i_add, ← i_lit 1] at zk
    refine g_X3_sort_55 ha zw ?_
    unfold p_X3_sort_55
    simp (disch := omega) only [i_lt]
    refine ⟨fun _ => ⟨t.1, r.1.1, t.2.2, r.2.1.1, ?_⟩, fun z => by omega⟩
    simp (disch := omega) only [i_in_iff, i_cl, Int.toNat_natCast]
    exact ⟨by omega, t.2.1, r.1.2, t.2.2, r.2.1.2, by omega, zk⟩
  | succ n ih =>
    intro at0 σ S z1 zw zF zS z2 z3 zK
    have r := zF.1
    have y := fr_ne ha r
    have zl := zF.2.2.1
    have n1 := r.2.2.2
    have zk := fun hs => zK _ _ (show Wd (pt_L (pt_I σ t.1 at0 (i_ (x.1 : Int))) t.2.1 at0 x.2) from zw) (fl_set ha zF (by omega) zx) (List.Perm.refl _) hs (ff_set ha zF)
    rw [show ((i + 1 : Nat) : Int) = (i : Int) + 1 by omega, ← i_add, ← i_lit 1] at zk
    refine g_X3_sort_55 ha zw ?_
    unfold p_X3_sort_55
    simp (disch := omega) only [i_lt]
    refine ⟨fun z => ⟨t.1, r.1.1, t.2.2, r.2.1.1, ?_⟩, fun z => ⟨t.1, r.1.1, t.2.2, r.2.1.1, ?_⟩⟩
    · simp (disch := omega) only [i_in_iff, i_cl, Int.toNat_natCast]
      refine ⟨by omega, t.2.1, r.1.2, t.2.2, r.2.1.2, by omega, zk (fun e u v w1 w2 => ?_)⟩
      have k1 := z3 e
      have k2 : at0 = 0 := by omega
      subst k2
      rw [wa_st (by omega), wa_st (by omega), if_neg (by omega : ¬ v = 0)]
      split
      · exact k1.2 v (by omega) (by omega)
      · exact k1.1 u v w1 (by omega) (by omega) (by omega)
    · obtain ⟨j, hj⟩ : ∃ j : Nat, at0 = j + g := ⟨at0 - g, by omega⟩
      subst hj
      obtain ⟨q, hq⟩ : ∃ q, S[j]? = some q := ⟨_, List.getElem?_eq_getElem (by omega)⟩
      have e := zF.2.2.2 _ _ hq
      have ew := wa_eq hq
      have ej : i_ ((j + g : Nat) : Int) - i_ (g : Int) = i_ (j : Int) := by rw [i_sub, show ((j + g : Nat) : Int) - (g : Int) = (j : Int) by omega]
      rw [ej]
      simp (disch := omega) only [i_in_iff, i_cl, Int.toNat_natCast]
      rw [e.1]
      have e3 := e.2.2
      simp (disch := omega) only [i_le]
      refine ⟨by omega, fun z4 => ⟨by omega, t.2.1, r.1.2, t.2.2, r.2.1.2, by omega, zk (fun e u v w1 w2 => ?_)⟩, fun z4 => ⟨by omega, by omega, t.2.1, r.1.2, t.2.2, r.2.1.2, by omega, by omega, ?_⟩⟩
      · have k1 := z3 e
        subst e
        rw [wa_st (by omega), wa_st (by omega)]
        by_cases c1 : u = j + 1
        · rw [if_pos c1, if_neg (by omega)]
          exact k1.2 v (by omega) (by omega)
        · rw [if_neg c1]
          by_cases c2 : v = j + 1
          · rw [if_pos c2]
            by_cases c3 : u = j
            · rw [c3, ew]
              omega
            · have k2 := k1.1 u j (by omega) (by omega) c1 (by omega)
              rw [ew] at k2
              omega
          · rw [if_neg c2]
            exact k1.1 u v w1 (by omega) c1 c2
      · have ep := e.2.1
        rw [ep]
        refine ih j _ (S.set (j + g) q) (by omega) (show Wd (pt_L (pt_I σ t.1 (j + g) (i_ (q.1 : Int))) t.2.1 (j + g) q.2) from zw) (fl_set ha zF (by omega) e3) (by rw [List.length_set]; exact zS) (by omega) (fun e => ?_) (fun σ1 S1 a1 a2 a3 a4 a5 => zK σ1 S1 a1 a2 (a3.trans (pm_set (by omega) hq (by omega))) a4 (ff_tr (ff_set ha zF) a5))
        have k1 := z3 e
        subst e
        refine ⟨fun u v w1 w2 w3 w4 => ?_, fun v w1 w2 => ?_⟩
        · rw [wa_st (by omega), wa_st (by omega)]
          by_cases c1 : u = j + 1
          · rw [if_pos c1, if_neg (by omega)]
            have k2 := k1.1 j v (by omega) w2 (by omega) (by omega)
            rw [ew] at k2
            exact k2
          · rw [if_neg c1]
            by_cases c2 : v = j + 1
            · rw [if_pos c2]
              have k2 := k1.1 u j (by omega) (by omega) c1 (by omega)
              rw [ew] at k2
              exact k2
            · rw [if_neg c2]
              exact k1.1 u v w1 w2 c1 c2
        · rw [wa_st (by omega)]
          split
          · omega
          · exact k1.2 v (by omega) w2
theorem l_sortMid (ha : is_fi a) {N g : Nat} (zg : 1 ≤ g) (zN : N ≤ 131072) (zgN : g ≤ N) {Q : rs_T → st_T → Prop} : ∀ (k i : Nat) (σ : st_T) (S : List (Nat × Int64)), k + i = N → g ≤ i → Wd σ → Fl_ σ a t S → S.length = N → (g = 1 → Sp_ S i) →
    (∀ σ1 S1, Wd σ1 → Fl_ σ1 a t S1 → List.Perm S1 S → (g = 1 → Sp_ S1 N) → ff_ σ a t σ1 t → vv_ γ m_X3_sort 1 25 [(0, .ref a), (1, .int (i_ (N : Int))), (2, .int (i_ ((g / 2 : Nat) : Int)))] [] σ1 Q) →
    vv_ γ m_X3_sort 1 31 [(0, .ref a), (1, .int (i_ (N : Int))), (2, .int (i_ (g : Int))), (3, .int (i_ (i : Int)))] [] σ Q := by
  intro k
  induction k with
  | zero =>
    intro i σ S z1 zi zw zF zS z3 zK
    have z1 : i = N := by omega
    subst z1
    have zk := zK σ S zw zF (List.Perm.refl _) z3 (ff_rf t)
    rw [← i_div (by omega) (by decide), show ((2 : Nat) : Int) = 2 from rfl, ← i_lit 2] at zk
    refine g_X3_sort_31 ha zw ?_
    unfold p_X3_sort_31
    exact ⟨fun _ => zk, fun z => absurd (Int32.le_refl _) z⟩
  | succ k ih =>
    intro i σ S z1 zi zw zF zS z3 zK
    have r := zF.1
    have zl := zF.2.2.1
    have n1 := r.2.2.2
    obtain ⟨x, hx⟩ : ∃ x, S[i]? = some x := ⟨_, List.getElem?_eq_getElem (by omega)⟩
    have e := zF.2.2.2 _ _ hx
    have ew := wa_eq hx
    refine g_X3_sort_31 ha zw ?_
    unfold p_X3_sort_31
    simp (disch := omega) only [i_le, i_in_iff, i_cl, Int.toNat_natCast]
    refine ⟨fun z => by omega, fun _ => ⟨t.1, r.1.1, t.2.2, r.2.1.1, ?_⟩⟩
    refine ⟨by omega, t.2.1, r.1.2, t.2.2, r.2.1.2, ?_⟩
    refine ⟨by omega, ?_⟩
    rw [e.1, e.2.1]
    refine l_sortIn ha e.2.2 zg zgN (by omega) zN i i σ S (Nat.le_refl _) zw zF zS (Nat.le_refl _) (fun e2 => ⟨fun u v w1 w2 w3 w4 => z3 e2 u v w1 (by omega), fun v w1 w2 => by omega⟩) (fun σ1 S1 a1 a2 a3 a4 a5 => ?_)
    have e5 : S.set i x = S := by
      have y1 := (List.getElem?_eq_some_iff.mp hx).2
      rw [← y1]
      exact List.set_getElem_self _
    rw [e5] at a3
    exact ih (i + 1) σ1 S1 (by omega) (by omega) a1 a2 (a3.length_eq.trans zS) a4 (fun σ2 S2 b1 b2 b3 b4 b5 => zK σ2 S2 b1 b2 (b3.trans a3) b4 (ff_tr a5 b5))
theorem l_sortOut (ha : is_fi a) {N : Nat} (zN : N ≤ 131072) {Q : rs_T → st_T → Prop} : ∀ (n g : Nat) (σ : st_T) (S : List (Nat × Int64)), g ≤ n → g ≤ N → Wd σ → Fl_ σ a t S → S.length = N → (g = 0 → Sp_ S N) →
    (∀ σ1 S1, Wd σ1 → Fl_ σ1 a t S1 → List.Perm S1 S → Sp_ S1 N → ff_ σ a t σ1 t → Q (.inl none) σ1) →
    vv_ γ m_X3_sort 1 25 [(0, .ref a), (1, .int (i_ (N : Int))), (2, .int (i_ (g : Int)))] [] σ Q := by
  intro n
  induction n with
  | zero =>
    intro g σ S z1 zi zw zF zS z3 zK
    refine g_X3_sort_25 ha zw ?_
    unfold p_X3_sort_25
    simp (disch := omega) only [i_lit, i_le]
    exact ⟨fun _ => zK σ S zw zF (List.Perm.refl _) (z3 (by omega)) (ff_rf t), fun z => by omega⟩
  | succ n ih =>
    intro g σ S z1 zi zw zF zS z3 zK
    refine g_X3_sort_25 ha zw ?_
    unfold p_X3_sort_25
    simp (disch := omega) only [i_lit, i_le]
    refine ⟨fun z => zK σ S zw zF (List.Perm.refl _) (z3 (by omega)) (ff_rf t), fun z => ?_⟩
    refine l_sortMid ha (by omega) zN zi (N - g) g σ S (by omega) (Nat.le_refl _) zw zF zS (fun e u v w1 w2 => by omega) (fun σ1 S1 a1 a2 a3 a4 a5 => ?_)
    exact ih (g / 2) σ1 S1 (by omega) (by omega) a1 a2 (a3.length_eq.trans zS) (fun e => a4 (by omega)) (fun σ2 S2 b1 b2 b3 b4 b5 => zK σ2 S2 b1 b2 (b3.trans a3) b4 (ff_tr a5 b5))
theorem c_sort (ha : is_fi a) (zw : Wd σ) (zF : Fl_ σ a t L) : ∃ σ1 S, fw_ γ m_X3_sort 1 [.ref a] σ σ1 ∧ Wd σ1 ∧ Fl_ σ1 a t S ∧ List.Perm S L ∧ Sp_ S L.length ∧ ff_ σ a t σ1 t := by
  have r := zF.1
  have zl := zF.2.2.1
  have n1 := r.2.2.2
  have key : sp_ γ m_X3_sort 1 [.ref a] σ (fun rr s => rr = .inl none ∧ ∃ S, Wd s ∧ Fl_ s a t S ∧ List.Perm S L ∧ Sp_ S L.length ∧ ff_ σ a t s t) := by
    refine e_X3_sort ha zw ?_
    unfold p_X3_sort_0
    refine ⟨t.1, r.1.1, t.2.2, r.2.1.1, t.2.1, r.1.2, t.2.2, r.2.1.2, ?_⟩
    rw [zF.2.1, i_nat]
    have e1 : (if (if i_ (t.2.2 : Int) < i_ (t.2.2 : Int) then i_ (t.2.2 : Int) else i_ (t.2.2 : Int)) < i_ (L.length : Int) then (if i_ (t.2.2 : Int) < i_ (t.2.2 : Int) then i_ (t.2.2 : Int) else i_ (t.2.2 : Int)) else i_ (L.length : Int)) = i_ (L.length : Int) := by
      rw [if_neg (show ¬ i_ (t.2.2 : Int) < i_ (t.2.2 : Int) by simp (disch := omega) only [i_lt]; omega), if_neg (show ¬ i_ (t.2.2 : Int) < i_ (L.length : Int) by simp (disch := omega) only [i_lt]; omega)]
    rw [e1, i_lit 2, show i_ (OfNat.ofNat 2) = i_ ((2 : Nat) : Int) from rfl, i_div (by omega) (by decide)]
    exact l_sortOut ha (by omega) (L.length / 2) (L.length / 2) σ L (Nat.le_refl _) (by omega) zw zF rfl (fun e u v w1 w2 => by omega) (fun σ1 S1 a1 a2 a3 a4 a5 => ⟨rfl, S1, a1, a2, a3, a4, a5⟩)
  obtain ⟨σ1, y1, S, y2⟩ := fw_of key
  exact ⟨σ1, S, y1, y2⟩
end SO
