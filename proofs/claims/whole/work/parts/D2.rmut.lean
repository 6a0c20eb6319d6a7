/-! the reference: fences put in, taken out, undone -/
section RM
variable {γ : ga_T} {σ σ1 s : st_T} {A A' : ca_T} {c m n : Nat} {z y : Int} {e : String → Nat} {p : pr_T}
theorem k174_ : (174 : Int32) = i_ 174 := by decide
theorem k1392_ : (1392 : Int32) = i_ 1392 := by decide
theorem km1_ : (-1 : Int32) = i_ (-1) := by decide
def dK_ (a k : Nat) : Prop := a = 189 ∨ (a = 185 ∧ (k = 10 ∨ k = 47))
def n8_ (n : Nat) : Nat := if n = 8 then 7 else n
/-- what remembering leaves: rows move, a row is put behind -/
def Rr_ (σ : st_T) (n : Nat) (s : st_T) : Prop := Wd s ∧ ro_ dK_ σ s ∧ st_I s 185 10 = i_ ((n8_ n + 1 : Nat) : Int) ∧ st_I s 185 47 = i_ 0 ∧ (∀ k, k < 174 → st_I s 189 (174 * n8_ n + k) = st_I σ 187 k) ∧ ∀ k, k < 174 * n8_ n → st_I s 189 k = st_I σ 189 (k + if n = 8 then 174 else 0)
theorem l_rem54 (zw : Wd σ) (hn : n ≤ 7) (h10 : st_I σ 185 10 = i_ (n : Int)) : ∀ (k l : Nat) (s : st_T), k + l = 174 → Wd s → ro_ (fun a _ => a = 189) σ s → (∀ j, j < l → st_I s 189 (174 * n + j) = st_I σ 187 j) → (∀ j, j < 174 * n → st_I s 189 j = st_I σ 189 j) →
    ∃ s1, (Wd s1 ∧ ro_ dK_ σ s1 ∧ st_I s1 185 10 = i_ ((n + 1 : Nat) : Int) ∧ st_I s1 185 47 = i_ 0 ∧ (∀ j, j < 174 → st_I s1 189 (174 * n + j) = st_I σ 187 j) ∧ ∀ j, j < 174 * n → st_I s1 189 j = st_I σ 189 j) ∧
      ∀ Q : rs_T → st_T → Prop, Q (.inl none) s1 → vv_ γ m_X12_remembers 0 54 [(0, .ref 185), (1, .int (i_ (l : Int)))] [] s Q := by
  intro k
  induction k with
  | zero =>
    intro l s hl w r a b
    have hl : l = 174 := by omega
    subst hl
    have e10 : st_I s 185 10 = i_ (n : Int) := (r.2 185 10 (fun y => by omega)).1.trans h10
    refine ⟨pt_I (pt_I s 185 10 (i_ ((n + 1 : Nat) : Int))) 185 47 (i_ 0), ⟨w, ro_I (ro_I (ro_up r (fun a k y => Or.inl y)) (Or.inr ⟨rfl, Or.inl rfl⟩)) (Or.inr ⟨rfl, Or.inr rfl⟩), by rw [st_pI, if_neg (by omega), st_sI], st_sI _ _ _ _, fun j zj => by rw [st_pI, if_neg (by omega), st_pI, if_neg (by omega)]; exact a j zj, fun j zj => by rw [st_pI, if_neg (by omega), st_pI, if_neg (by omega)]; exact b j zj⟩, fun Q zQ => g_X12_remembers_54 w ?_⟩
    unfold p_X12_remembers_54
    refine ⟨fun _ => ?_, fun y => absurd (show (174 : Int32) ≤ i_ ((174 : Nat) : Int) by decide) y⟩
    rw [e10, k1_, i_add]
    exact zQ
  | succ k ih =>
    intro l s hl w r a b
    have e10 : st_I s 185 10 = i_ (n : Int) := (r.2 185 10 (fun y => by omega)).1.trans h10
    obtain ⟨s1, f, g⟩ := ih (l + 1) (pt_I s 189 (174 * n + l) (st_I s 187 l)) (by omega) w (ro_I r rfl) (fun j zj => by
      rw [st_pI]
      by_cases e : j = l
      · rw [if_pos ⟨rfl, by omega⟩, e]
        exact (r.2 187 l (fun y => by omega)).1
      · rw [if_neg (by omega)]
        exact a j (by omega)) (fun j zj => by rw [st_pI, if_neg (by omega)]; exact b j zj)
    refine ⟨s1, f, fun Q zQ => g_X12_remembers_54 w ?_⟩
    unfold p_X12_remembers_54
    rw [e10, k1_, k174_, i_mul, i_add, i_add, i_add, i_cl (by omega), i_cl (by omega), Int.toNat_natCast, show ((174 : Int) * (n : Int) + (l : Int)).toNat = 174 * n + l by omega]
    refine ⟨fun y => ?_, fun _ => ⟨i_in (by omega) (by omega) (by omega), i_in (by omega) (by omega) (by omega), g Q zQ⟩⟩
    rw [i_le (by omega) (by omega)] at y
    omega
theorem l_rem13 (zw : Wd σ) (h10 : st_I σ 185 10 = i_ 8) : ∀ (k l : Nat) (s : st_T), k + l = 1392 → 174 ≤ l → Wd s → ro_ (fun a _ => a = 189) σ s → (∀ j, j + 174 < l → st_I s 189 j = st_I σ 189 (j + 174)) → (∀ j, l ≤ j + 174 → st_I s 189 j = st_I σ 189 j) →
    ∃ s1, (Wd s1 ∧ ro_ dK_ σ s1 ∧ st_I s1 185 10 = i_ ((7 : Nat) : Int) ∧ ∀ j, j < 1218 → st_I s1 189 j = st_I σ 189 (j + 174)) ∧
      ∀ Q : rs_T → st_T → Prop, vv_ γ m_X12_remembers 0 54 [(0, .ref 185), (1, .int (0 : Int32))] [] s1 Q → vv_ γ m_X12_remembers 0 13 [(0, .ref 185), (1, .int (i_ (l : Int)))] [] s Q := by
  intro k
  induction k with
  | zero =>
    intro l s hl h2 w r a b
    have hl : l = 1392 := by omega
    subst hl
    have e10 : st_I s 185 10 = i_ 8 := (r.2 185 10 (fun y => by omega)).1.trans h10
    refine ⟨pt_I s 185 10 (i_ ((7 : Nat) : Int)), ⟨w, ro_I (ro_up r (fun a k y => Or.inl y)) (Or.inr ⟨rfl, Or.inl rfl⟩), st_sI _ _ _ _, fun j zj => by rw [st_pI, if_neg (by omega)]; exact a j (by omega)⟩, fun Q zQ => g_X12_remembers_13 w ?_⟩
    unfold p_X12_remembers_13
    refine ⟨fun _ => ?_, fun y => absurd (show (1392 : Int32) ≤ i_ ((1392 : Nat) : Int) by decide) y⟩
    rw [e10, k1_, i_sub]
    exact zQ
  | succ k ih =>
    intro l s hl h2 w r a b
    obtain ⟨s1, f, g⟩ := ih (l + 1) (pt_I s 189 (l - 174) (st_I s 189 l)) (by omega) (by omega) w (ro_I r rfl) (fun j zj => by
      rw [st_pI]
      by_cases e : j = l - 174
      · rw [if_pos ⟨rfl, e⟩, b l (by omega), e, Nat.sub_add_cancel h2]
      · rw [if_neg (by omega)]
        exact a j (by omega)) (fun j zj => by rw [st_pI, if_neg (by omega)]; exact b j (by omega))
    refine ⟨s1, f, fun Q zQ => g_X12_remembers_13 w ?_⟩
    unfold p_X12_remembers_13
    rw [k1392_, k174_, k1_, i_sub, i_add, i_cl (by omega), i_cl (by omega), Int.toNat_natCast, show ((l : Int) - 174).toNat = l - 174 by omega]
    refine ⟨fun y => ?_, fun _ => ⟨i_in (by omega) (by omega) (by omega), i_in (by omega) (by omega) (by omega), g Q zQ⟩⟩
    rw [i_le (by omega) (by omega)] at y
    omega
theorem c_remembers (zw : Wd σ) (hn : n ≤ 8) (h10 : st_I σ 185 10 = i_ (n : Int)) : ∃ s, fw_ γ m_X12_remembers 0 [.ref 185] σ s ∧ Rr_ σ n s := by
  by_cases h8 : n = 8
  · subst h8
    obtain ⟨s1, ⟨a1, a2, a3, a4⟩, g1⟩ := l_rem13 (γ := γ) zw h10 1218 174 σ rfl (Nat.le_refl _) zw ro_rf (fun j zj => by omega) (fun _ _ => rfl)
    obtain ⟨s2, ⟨b1, b2, b3, b4, b5, b6⟩, g2⟩ := l_rem54 (γ := γ) a1 (by decide) a3 174 0 s1 rfl a1 ro_rf (fun j zj => by omega) (fun _ _ => rfl)
    refine ⟨s2, fw_q (fun Q zQ => e_X12_remembers zw ?_), b1, ro_tr a2 b2, b3, b4, fun k zk => (b5 k zk).trans (a2.2 187 k (fun y => by unfold dK_ at y; omega)).1, fun k zk => (b6 k zk).trans (a4 k zk)⟩
    unfold p_X12_remembers_0
    rw [h10]
    exact ⟨fun _ => g1 Q (g2 Q zQ), fun y => absurd rfl y⟩
  · obtain ⟨s2, ⟨b1, b2, b3, b4, b5, b6⟩, g2⟩ := l_rem54 (γ := γ) zw (show n ≤ 7 by omega) h10 174 0 σ rfl zw ro_rf (fun j zj => by omega) (fun _ _ => rfl)
    have e8 : n8_ n = n := if_neg h8
    refine ⟨s2, fw_q (fun Q zQ => e_X12_remembers zw ?_), b1, b2, by rw [e8]; exact b3, b4, by rw [e8]; exact b5, fun k zk => ?_⟩
    · unfold p_X12_remembers_0
      rw [h10, k8_]
      refine ⟨fun y => ?_, fun _ => g2 Q zQ⟩
      rw [i_eq (by omega) (by omega)] at y
      omega
    · rw [if_neg h8]
      rw [e8] at zk
      exact b6 k zk
theorem nrow_sh {h1 o1 o2 : Nat} (hN : pN_ p ≤ 10) (hL : pL_ p ≤ 3) (f : ∀ k, k < 174 → st_I σ1 189 (o1 + k) = st_I σ h1 (o2 + k)) (r : Nrow_ σ h1 o2 p) : Nrow_ σ1 189 o1 p := by
  obtain ⟨r1, r2, r3, r4, r5⟩ := r
  refine ⟨(f 0 (by omega)).trans r1, (f 1 (by omega)).trans r2, (f 2 (by omega)).trans r3, fun l zl => ?_, fun i k zi zk => ?_⟩
  · rw [Nat.add_assoc, f (3 + l) (by omega), ← Nat.add_assoc]
    exact r4 l zl
  · rw [f (6 + 6 * i + k) (by omega)]
    exact r5 i k zi zk
/-- rows of changes, moved -/
theorem krr_sh {d : Nat} : ∀ (r : List Nat) (p : pr_T), Hr_ p r → (∀ k, k < 174 * r.length → st_I s 189 k = st_I σ 189 (k + d)) → d = 0 → Krr_ σ p r → Krr_ s p r
  | [], _, _, _, _, _ => trivial
  | c :: r, p, hr, f, hd, h => by
    subst hd
    have b := hr.2.2.1.1
    refine ⟨nrow_sh b.1 b.2.2.1 (fun k zk => ?_) h.1, krr_sh r _ hr.2.2.2 (fun k zk => f k ?_) rfl h.2⟩
    · exact f _ (by rw [List.length_cons]; omega)
    · rw [List.length_cons]
      omega
theorem krr_dl : ∀ (r : List Nat) (p : pr_T), Hr_ p r → (∀ k, k < 174 * (r.length - 1) → st_I s 189 k = st_I σ 189 (k + 174)) → Krr_ σ p r → Krr_ s p r.dropLast
  | [], _, _, _, _ => trivial
  | [_], _, _, _, _ => trivial
  | c :: c2 :: r, p, hr, f, h => by
    have b := hr.2.2.1.1
    rw [show (c :: c2 :: r).dropLast = c :: (c2 :: r).dropLast from rfl]
    refine ⟨nrow_sh b.1 b.2.2.1 (fun k zk => ?_) h.1, krr_dl (c2 :: r) _ hr.2.2.2 (fun k zk => f k ?_) h.2⟩
    · rw [List.length_dropLast, List.length_cons, Nat.add_sub_cancel]
      have y := f (174 * r.length + k) (by rw [List.length_cons, List.length_cons]; omega)
      rw [y]
      congr 1
      omega
    · rw [List.length_cons] at zk ⊢
      rw [List.length_cons]
      omega
theorem cad_rev (C : List Nat) (k : Nat) : (cad_ C k).reverse = k :: (if C.length = 8 then C.reverse.dropLast else C.reverse) := by
  unfold cad_
  rw [List.reverse_append]
  show k :: _ = _
  congr 1
  split
  · rw [List.drop_one, List.dropLast_reverse]
    rfl
  · rfl
theorem cad_len (C : List Nat) (k : Nat) (h : C.length ≤ 8) : (cad_ C k).length = n8_ C.length + 1 := by
  unfold cad_ n8_
  rw [List.length_append]
  split
  · rw [List.length_drop]
    show _ + 1 = _
    omega
  · rfl
/-- all that a change leaves -/
theorem jr_mut (h : Jr_ σ A c) (hv : Hv_ (aP_ A).1 (aC_ A)) (h8 : (aC_ A).length ≤ 8) (k : Rr_ (pt_I σ 185 0 (i_ 0)) (aC_ A).length σ1) {p' : pr_T} (n2 : Nr_ s p') (r2 : ro_ (fun a _ => a = 187) σ1 s) (w : Wd s) (hT : pT_ p' = pT_ (aP_ A).1) (hL : pL_ p' = pL_ (aP_ A).1) {q : Nat} (hq : cu_ p' q = (aP_ A).1) :
    Jr_ s (aB_ A, an2_ A, (p', (aP_ A).2), aO_ A, cad_ (aC_ A) q, none) c ∧ ro_ dM_ σ s ∧ st_I s 185 0 = i_ 0 := by
  obtain ⟨k1, k2, k3, k4, k5, k6⟩ := k
  obtain ⟨-, o, ⟨⟨b1, b2, b3⟩, ⟨q1, q2, q3, q4, q5⟩, ⟨o1, o2⟩, ⟨c1, c2⟩, e⟩⟩ := h
  have D : ro_ (fun a k => a = 187 ∨ dK_ a k ∨ (a = 185 ∧ k = 0)) σ s := ro_tr (ro_tr (ro_up (th_I _) (fun a k y => Or.inr (Or.inr y))) (ro_up k2 (fun a k y => Or.inr (Or.inl y)))) (ro_up r2 (fun a k y => Or.inl y))
  have g : ∀ a k, ¬ (a = 187 ∨ a = 189 ∨ (a = 185 ∧ (k = 10 ∨ k = 47 ∨ k = 0))) → st_I s a k = st_I σ a k := fun a k z => (D.2 a k (fun y => by unfold dK_ at y; omega)).1
  have g9 : ∀ k, st_I s 189 k = st_I σ1 189 k := fun k => (r2.2 189 k (fun y => by omega)).1
  have t9 : ∀ k, st_I (pt_I σ 185 0 (i_ 0)) 189 k = st_I σ 189 k := fun k => by rw [st_pI, if_neg (by omega)]
  have s5 : ∀ k, st_I s 185 k = st_I σ1 185 k := fun k => (r2.2 185 k (fun y => by omega)).1
  refine ⟨⟨w, rt0_cg (fun a k z => g a k (by omega)) o, ⟨b1, (g _ _ (by omega)).trans b2, fun k z => (g _ _ (by omega)).trans (b3 k z)⟩, ⟨n2, fun l zl => ?_, q3, (g _ _ (by omega)).trans q4, fun k u y => ?_⟩, ⟨(g _ _ (by omega)).trans o1, fun k z y => (g _ _ (by omega)).trans (o2 k z y)⟩, ⟨?_, ?_⟩, ?_⟩, ro_up D (fun a k y => by unfold dK_ at y; unfold dM_; omega), ?_⟩
  · have zl : l < pL_ p' := zl
    rw [hL] at zl
    exact ⟨(g _ _ (by omega)).trans (q2 l zl).1, fun k x y => (g _ _ (by omega)).trans ((q2 l zl).2 k x y)⟩
  · show st_I s 194 k = i_ (tru_ (2 * pT_ p' + pL_ p') u)
    rw [hT, hL]
    exact (g _ _ (by omega)).trans (q5 k u y)
  · show st_I s 185 10 = i_ ((cad_ (aC_ A) q).length : Int)
    rw [cad_len _ _ h8, s5]
    exact k3
  · show Krr_ s p' (cad_ (aC_ A) q).reverse
    rw [cad_rev]
    have bp := q1.1
    have l8 : (if (aC_ A).length = 8 then (aC_ A).reverse.dropLast else (aC_ A).reverse).length = n8_ (aC_ A).length := by
      unfold n8_
      split
      · rw [List.length_dropLast, List.length_reverse]
        omega
      · exact List.length_reverse
    refine ⟨?_, ?_⟩
    · rw [hq, l8]
      refine nrow_sh (h1 := 187) (o2 := 0) bp.1 bp.2.2.1 (fun k zk => ?_) (show Nrow_ σ 187 0 (aP_ A).1 from ⟨q1.2.1, q1.2.2.1, q1.2.2.2.1, fun l zl => by rw [Nat.zero_add]; exact q1.2.2.2.2.1 l zl, fun i k zi zk => by rw [Nat.zero_add]; exact q1.2.2.2.2.2 i k zi zk⟩)
      rw [g9, k5 k zk, st_pI, if_neg (by omega), Nat.zero_add]
    · rw [hq]
      by_cases y : (aC_ A).length = 8
      · rw [if_pos y]
        refine krr_dl _ _ hv (fun k zk => ?_) c2
        rw [List.length_reverse, y] at zk
        rw [g9, k6 k (by rw [y]; exact zk), if_pos y, t9]
      · rw [if_neg y]
        refine krr_sh _ _ hv (fun k zk => ?_) rfl c2
        rw [List.length_reverse] at zk
        rw [g9, k6 k (by unfold n8_; rw [if_neg y]; exact zk), if_neg y, t9]
  · show st_I s 185 47 = i_ 0
    rw [s5]
    exact k4
  · rw [s5, (k2.2 185 0 (fun y => by unfold dK_ at y; omega)).1, st_sI]
end RM
