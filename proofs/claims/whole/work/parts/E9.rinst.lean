/-! the reference reads: an instruction -/
section IJ
variable {γ : ga_T} {σ σ1 s : st_T} {B : Nat → Int} {n k i t : Nat} {z : Int} {P : pq_T} {S : qs_T} {p : pr_T}
def dJ_ (b a k : Nat) : Prop := dF_ a k ∨ (a = 188 ∧ b ≤ k ∧ k < b + 6)
theorem dJ_I {b a k : Nat} (h : dJ_ b a k) : dI_ b a k := by
  rcases h with h | ⟨h1, h2, h3⟩
  · exact Or.inl h
  · exact Or.inr ⟨h1, Or.inr ⟨h2, h3⟩⟩
theorem nrow_J (r : ro_ (dJ_ (6 + 6 * pN_ p)) σ s) (hL : pL_ p ≤ 3) (h : Nrow_ σ 188 0 p) : Nrow_ s 188 0 p := by
  have o : ∀ k, k < 6 + 6 * pN_ p → st_I s 188 k = st_I σ 188 k := fun k z => (r.2 188 k (fun y => by unfold dJ_ dF_ at y; omega)).1
  obtain ⟨a, b, c, d, e⟩ := h
  exact ⟨(o 0 (by omega)).trans a, (o 1 (by omega)).trans b, (o 2 (by omega)).trans c, fun l zl => (o _ (by omega)).trans (d l zl), fun i k zi zk => (o _ (by omega)).trans (e i k zi zk)⟩
/-- a store while an instruction is read -/
def Rj_ (σ : st_T) (B : Nat → Int) (n : Nat) (S : qs_T) (k' : Nat) (s : st_T) : Prop := Ptk_ s B n k' ∧ ro_ (dJ_ (6 + 6 * pN_ S.2.1.1)) σ s
theorem rj_nm (h : Rpc_ σ B n S) {k' : Nat} (j : Rj_ σ B n S k' s) : Nrow_ s 188 0 S.2.1.1 ∧ (Nv_ S.2.1 ∧ pL_ S.2.1.1 ≤ 3 ∧ st_I s 188 2 = i_ (pL_ S.2.1.1 : Int) ∧ (∀ l, l < pL_ S.2.1.1 → st_I s 193 l = i_ ((S.2.1.2.1 l).length : Int) ∧ ∀ k x, (S.2.1.2.1 l)[k]? = some x → st_I s 192 (8 * l + k) = i_ x)) := by
  obtain ⟨hp, hB, hN, hR, hD, -⟩ := h
  have nr := nrow_J j.2 hB.2.2.1 hR
  exact ⟨nr, hN, hB.2.2.1, nr.2.2.1, fun l zl => ⟨(j.2.2 _ _ (fun y => by unfold dJ_ dF_ at y; omega)).1.trans (hD l zl).1, fun k x hx => (j.2.2 _ _ (fun y => by unfold dJ_ dF_ at y; omega)).1.trans ((hD l zl).2 k x hx)⟩⟩
/-- the last stores before an instruction's end -/
def fI_ (s : st_T) (b N : Nat) (t kd g : Int) : st_T := pt_I (pt_I (pt_I (pt_I s 188 (b + 0) (i_ t)) 188 (b + 1) (i_ kd)) 188 (b + 3) (i_ g)) 188 0 (i_ ((N + 1 : Nat) : Int))
theorem fin_j (h : Rpc_ σ B n S) (h0 : S.2.1.2.2 = []) (hN : pN_ S.2.1.1 < 10) (hT : 0 < pT_ S.2.1.1) {k' : Nat} {kd l g c x : Int} (hk : -1 ≤ kd ∧ kd ≤ 3) (hl : -1 ≤ l ∧ l ≤ 3) (hg : -1 ≤ g ∧ g ≤ 3) (hc : -1 ≤ c ∧ c ≤ 3) (hx : -1 ≤ x ∧ x ≤ 3)
    (j : Rj_ σ B n S k' s) (c2 : st_I s 188 (6 + 6 * pN_ S.2.1.1 + 2) = i_ l) (c4 : st_I s 188 (6 + 6 * pN_ S.2.1.1 + 4) = i_ c) (c5 : st_I s 188 (6 + 6 * pN_ S.2.1.1 + 5) = i_ x) :
    ∃ v s', fn_ γ m_X12_ends 3 [.ref 185] (fI_ s (6 + 6 * pN_ S.2.1.1) (pN_ S.2.1.1) ((pT_ S.2.1.1 : Int) - 1) kd g) (.int v) s' ∧ (v = 0 ∨ v = 1) ∧ Wd s' ∧ Rpo_ σ B n (match xp_ B n 15 (k', S.2) with | .inr e => .inr e | .inl S5 => .inl (S5.1, pai_ S5.2.1 kd l g c x, S5.2.2)) (.int v) s' := by
  have d : ∀ k, 6 + 6 * pN_ S.2.1.1 ≤ k → k < 6 + 6 * pN_ S.2.1.1 + 6 → dI_ (6 + 6 * pN_ S.2.1.1) 188 k := fun k z1 z2 => Or.inr ⟨rfl, Or.inr ⟨z1, z2⟩⟩
  have d0 : dI_ (6 + 6 * pN_ S.2.1.1) 188 0 := Or.inr ⟨rfl, Or.inl rfl⟩
  refine fin_i h h0 hN hT hk hl hg hc hx (ptk_ro (D := fun a k => a = 188) (ro_I (ro_I (ro_I (ro_I ro_rf rfl) rfl) rfl) rfl) (fun a k y z => by omega) j.1) (ro_I (ro_I (ro_I (ro_I (ro_up j.2 (fun a k => dJ_I)) (d _ (by omega) (by omega))) (d _ (by omega) (by omega))) (d _ (by omega) (by omega))) d0) (st_sI _ _ _ _) ?_ ?_ ?_ ?_ ?_ ?_
  · unfold fI_
    rw [st_pI, if_neg (by omega), st_pI, if_neg (by omega), st_pI, if_neg (by omega), st_sI]
  · unfold fI_
    rw [st_pI, if_neg (by omega), st_pI, if_neg (by omega), st_sI]
  · unfold fI_
    rw [st_pI, if_neg (by omega), st_pI, if_neg (by omega), st_pI, if_neg (by omega), st_pI, if_neg (by omega)]
    exact c2
  · unfold fI_
    rw [st_pI, if_neg (by omega), st_sI]
  · unfold fI_
    rw [st_pI, if_neg (by omega), st_pI, if_neg (by omega), st_pI, if_neg (by omega), st_pI, if_neg (by omega)]
    exact c4
  · unfold fI_
    rw [st_pI, if_neg (by omega), st_pI, if_neg (by omega), st_pI, if_neg (by omega), st_pI, if_neg (by omega)]
    exact c5
theorem rpo_0 {r : qs_T ⊕ Nat} {v : Int32} (h : Rpo_ σ B n r (.int v) s) : (v = 0 ∨ v = 1) ∧ Wd s := by
  rcases h.2.2 with ⟨e, -⟩ | ⟨e, -⟩
  · cases e
    exact ⟨Or.inr rfl, h.1⟩
  · cases e
    exact ⟨Or.inl rfl, h.1⟩
theorem c_rinst (h : Rpc_ σ B n S) (W : Wx_ S.2.1) (hT : 0 < pT_ S.2.1.1) (hk : kd_ (csg_ B n S.1) ≠ -1) : ∃ v s, fn_ γ m_X12_readsInstruction 17 [.ref 185, .int (i_ ((pT_ S.2.1.1 : Int) - 1))] σ v s ∧ Rpo_ σ B n (ins_ B n (pT_ S.2.1.1 - 1) (kd_ (csg_ B n S.1)) S) v s := by
  obtain ⟨kd, ekd⟩ : ∃ kd, kd = kd_ (csg_ B n S.1) := ⟨_, rfl⟩
  obtain ⟨r0, er0⟩ : ∃ r0, r0 = ins_ B n (pT_ S.2.1.1 - 1) kd S := ⟨_, rfl⟩
  have kr := kd_rg (csg_ B n S.1)
  have cn : csg_ B n S.1 ≠ 0 ∧ csg_ B n S.1 ≠ 1 := by
    have := kr.2.2
    omega
  rw [← ekd] at hk kr
  rw [← ekd, ← er0]
  obtain ⟨hp, hB, hNm, hR, hD, hU, h21, h195, h22⟩ := id h
  have b10 := hB.1
  have b4 := hB.2.1
  have b3 := hB.2.2.1
  obtain ⟨t, et⟩ : ∃ t, t = pT_ S.2.1.1 - 1 := ⟨_, rfl⟩
  have ett : (pT_ S.2.1.1 : Int) - 1 = (t : Int) := by omega
  rw [ett]
  rw [← et] at er0
  have ht : t < 4 := by omega
  obtain ⟨fc, f1, f2, f3, f4⟩ := full_c W.1 (t := t) (kd := kd) ht
  suffices key : sp_ γ m_X12_readsInstruction 17 [.ref 185, .int (i_ (t : Int))] σ (fun r s => ∃ v, r = .inl (some v) ∧ Rpo_ σ B n r0 v s) from fn_of key
  have w := hp.1
  have i1 := c_rinsOf (γ := γ) w hB hR (t := (t : Int)) (by omega) false
  have i2 := c_rinsOf (γ := γ) w hB hR (t := -1) (by omega) false
  have i3 := c_rinsOf (γ := γ) w hB hR (t := (t : Int)) (by omega) true
  have i4 := c_rinsOf (γ := γ) w hB hR (t := -1) (by omega) true
  have bad : full_ S.2.1.1 t kd = true → ∃ (v : Int32) (s : st_T), Wd s ∧ fn_ γ m_X12_bad 0 [.ref 185, .int (5 : Int32)] σ (.int v) s ∧ (v = 0 ∨ v = 1) ∧ ∃ v', (Sum.inl (some (Value.int v)) : rs_T) = .inl (some v') ∧ Rpo_ σ B n r0 v' s := fun hf => by
    obtain ⟨s, g1, g2⟩ := c_rbad (γ := γ) hp (e := 5) (by decide) (Or.inr cn.2) r0 (by rw [er0]; unfold ins_; rw [if_pos hf])
    exact ⟨0, s, g2.1, g1, Or.inl rfl, _, rfl, g2⟩
  -- what comes when there is room
  obtain ⟨b, eb⟩ : ∃ b, b = 6 + 6 * pN_ S.2.1.1 := ⟨_, rfl⟩
  have go : full_ S.2.1.1 t kd = false → vv_ γ m_X12_readsInstruction 17 69 [(0, .ref 185), (1, .int (i_ (t : Int))), (2, .int (i_ kd)), (3, .int (if kd = 3 then (0 : Int32) else 1))] [] σ (fun r s => ∃ v, r = .inl (some v) ∧ Rpo_ σ B n r0 v s) := fun hf => by
    have nf : ¬ full_ S.2.1.1 t kd = true := by rw [hf]; decide
    have hN10 : pN_ S.2.1.1 < 10 := by
      by_cases y : pN_ S.2.1.1 < 10
      · exact y
      · exfalso
        apply nf
        unfold full_
        exact decide_eq_true (Or.inr (Or.inl (by omega)))
    refine g_X12_readsInstruction_69 w ?_
    unfold p_X12_readsInstruction_69
    rw [hR.1, k6_, i_mul, i_add, show (6 : Int) + 6 * (pN_ S.2.1.1 : Int) = (b : Int) by omega]
    have main : ∀ s, Wd s → ro_ (fun a k => a = 188 ∧ b ≤ k ∧ k < b + 6) σ s → (∀ j, j < 6 → st_I s 188 (b + j) = i_ (-1)) → vv_ γ m_X12_readsInstruction 17 86 [(0, .ref 185), (1, .int (i_ (t : Int))), (2, .int (i_ kd)), (3, .int (if kd = 3 then (0 : Int32) else 1)), (4, .int (i_ (b : Int))), (5, .int (i_ ((6 : Nat) : Int)))] [] s (fun r s => ∃ v, r = .inl (some v) ∧ Rpo_ σ B n r0 v s) := by
      intro s w r c
      have P0 : Ptk_ s B n S.1 := ptk_ro r (fun a k y z => by omega) hp
      obtain ⟨s2, a1, a2, a3, a4⟩ := c_rgo2 (γ := γ) P0 cn.1
      have J2 : Rj_ σ B n S (S.1 + 1) s2 := ⟨a4, ro_tr (ro_up r (fun a k y => Or.inr (by rw [← eb]; exact y))) (ro_up a3 (fun a k y => Or.inl y))⟩
      have m2 : ∀ j, j < 6 → st_I s2 188 (b + j) = i_ (-1) := fun j hj => (a3.2 188 (b + j) (fun y => by unfold dF_ at y; omega)).1.trans (c j hj)
      have in0 : vp_in (i_ (b : Int) + (0 : Int32)) 174 := by
        rw [k0_, i_add]
        exact i_in (by omega) (by omega) (by omega)
      have in1 : vp_in (i_ (b : Int) + (1 : Int32)) 174 := by
        rw [k1_, i_add]
        exact i_in (by omega) (by omega) (by omega)
      have in3 : vp_in (i_ (b : Int) + (3 : Int32)) 174 := by
        rw [k3_, i_add]
        exact i_in (by omega) (by omega) (by omega)
      have q0 : (i_ (b : Int) + (0 : Int32)).toNatClampNeg = b + 0 := by
        rw [k0_, i_add, i_cl (by omega)]
        omega
      have q1 : (i_ (b : Int) + (1 : Int32)).toNatClampNeg = b + 1 := by
        rw [k1_, i_add, i_cl (by omega)]
        omega
      have q3 : (i_ (b : Int) + (3 : Int32)).toNatClampNeg = b + 3 := by
        rw [k3_, i_add, i_cl (by omega)]
        omega
      have eF : ∀ (s : st_T) (v : Int32) (g : Int), v = i_ g → st_I s 188 0 = i_ (pN_ S.2.1.1 : Int) → pt_I (pt_I (pt_I (pt_I s 188 (b + 0) (i_ (t : Int))) 188 (b + 1) (i_ kd)) 188 (b + 3) v) 188 0 ((st_I (pt_I (pt_I (pt_I s 188 (b + 0) (i_ (t : Int))) 188 (b + 1) (i_ kd)) 188 (b + 3) v) 188 0) + (1 : Int32)) = fI_ s (6 + 6 * pN_ S.2.1.1) (pN_ S.2.1.1) ((pT_ S.2.1.1 : Int) - 1) kd g := fun s v g hv h0 => by
        unfold fI_
        rw [st_pI, if_neg (by omega), st_pI, if_neg (by omega), st_pI, if_neg (by omega), h0, hv, k1_, i_add, ett, eb]
        rfl
      have m1 : ∀ {s' : st_T} {k' : Nat}, Rj_ σ B n S k' s' → Rj_ σ B n S k' (pt_I s' 188 (b + 3) (-1 : Int32)) := fun j => ⟨ptk_ro (D := fun a k => a = 188) (ro_I ro_rf rfl) (fun a k y z => by omega) j.1, ro_I j.2 (Or.inr ⟨rfl, by omega, by omega⟩)⟩
      have z0 : ∀ {s' : st_T} {k' : Nat}, Rj_ σ B n S k' s' → st_I s' 188 0 = i_ (pN_ S.2.1.1 : Int) := fun j => (j.2.2 188 0 (fun y => by unfold dJ_ dF_ at y; omega)).1.trans hR.1
      have jC : ∀ {s' s'' : st_T} {k' k'' c : Nat}, Rj_ σ B n S k' s' → ro_ (dC_ (b + c)) s' s'' → c < 6 → Ptk_ s'' B n k'' → Rj_ σ B n S k'' s'' := fun {s' s'' k' k'' c} j r hc p => ⟨p, ro_tr j.2 (ro_up r (fun a k y => by
        rcases y with y | y
        · exact Or.inl y
        · exact Or.inr ⟨y.1, by omega, by omega⟩))⟩
      have l3 : ∀ l : List Int, lnm_ S.2.1 l ≠ -1 → -1 ≤ lnm_ S.2.1 l ∧ lnm_ S.2.1 l ≤ 3 := fun l _ => by
        have := lnm_bd S.2.1 l b3
        omega
      have h0 := W.2.2
      have toI : ∀ {s' : st_T}, ro_ (dJ_ (6 + 6 * pN_ S.2.1.1)) σ s' → ro_ dV_ σ s' := fun r => ro_up r (fun a k y => dI_V (dJ_I y))
      refine g_X12_readsInstruction_86 w ?_
      unfold p_X12_readsInstruction_86
      refine ⟨fun _ => ⟨s2, a2, a1, ?_⟩, fun y => absurd (show (6 : Int32) ≤ i_ ((6 : Nat) : Int) by decide) y⟩
      -- the value, and the end
      have tail : ∀ (s5 : st_T) (k1 : Nat) (g l : Int), kd = 0 ∨ kd = 2 → Rj_ σ B n S k1 s5 → (-1 ≤ g ∧ g ≤ 3) → (-1 ≤ l ∧ l ≤ 3) → st_I s5 188 (b + 3) = i_ g → st_I s5 188 (b + 2) = i_ l → st_I s5 188 (b + 4) = i_ (-1) → st_I s5 188 (b + 5) = i_ (-1) →
          (r0 = match rva_ B n t (k1, S.2) with | .inr e => .inr e | .inl (x, S4) => match xp_ B n 15 S4 with | .inr e => .inr e | .inl S5 => .inl (S5.1, pai_ S5.2.1 kd l g x.1 x.2, S5.2.2)) →
          ∃ (v52 : Int32) (s50 : st_T), Wd s50 ∧ fn_ γ m_X12_readsValue 4 [.ref 185, .int (i_ (b : Int)), .int (i_ (t : Int))] (pt_I s5 188 (b + 3) (-1 : Int32)) (.int v52) s50 ∧
            (v52 = (0 : Int32) → ∃ v', (Sum.inl (some (Value.int (0 : Int32))) : rs_T) = .inl (some v') ∧ Rpo_ σ B n r0 v' s50) ∧
            (¬ v52 = (0 : Int32) → ∃ (v59 : Int32) (s57 : st_T), Wd s57 ∧ fn_ γ m_X12_ends 3 [.ref 185] (pt_I (pt_I (pt_I (pt_I s50 188 (b + 0) (i_ (t : Int))) 188 (b + 1) (i_ kd)) 188 (b + 3) (st_I s5 188 (b + 3))) 188 0 ((st_I (pt_I (pt_I (pt_I s50 188 (b + 0) (i_ (t : Int))) 188 (b + 1) (i_ kd)) 188 (b + 3) (st_I s5 188 (b + 3))) 188 0) + (1 : Int32))) (.int v59) s57 ∧ (v59 = 0 ∨ v59 = 1) ∧ ∃ v', (Sum.inl (some (Value.int v59)) : rs_T) = .inl (some v') ∧ Rpo_ σ B n r0 v' s57) := by
        intro s5 k1 g l hkd J hg hl c3 c2 c4 c5 er
        have J3 := m1 J
        have nr := (rj_nm h J3).1
        rcases c_rvlu (γ := γ) (S := (k1, S.2)) (b := b) J3.1 hB nr ht (by omega) (by rw [st_pI, if_neg (by omega)]; exact c4) (by rw [st_pI, if_neg (by omega)]; exact c5) with ⟨x, ex, s50, y1, y2, y3, y4, y5⟩ | ⟨e, s50, ex, y1, y2⟩
        · rw [ex] at er
          have er : r0 = (match xp_ B n 15 (k1 + 1, S.2) with | .inr e => .inr e | .inl S5 => .inl (S5.1, pai_ S5.2.1 kd l g x.1 x.2, S5.2.2)) := er
          have J5 : Rj_ σ B n S (k1 + 1) s50 := ⟨y2, ro_tr J3.2 (ro_up y3 (fun a k y => by
            rcases y with y | y
            · exact Or.inl y
            · exact Or.inr ⟨y.1, by omega, by omega⟩))⟩
          have rx := rva_v ex
          have bx : (-1 ≤ x.1 ∧ x.1 ≤ 3) ∧ (-1 ≤ x.2 ∧ x.2 ≤ 3) := by omega
          obtain ⟨v, s', e1, e2, e3, e4⟩ := fin_j (γ := γ) h h0 hN10 hT (kd := kd) (l := l) (g := g) (c := x.1) (x := x.2) (by omega) hl hg bx.1 bx.2 J5 (by
            rw [← eb, (y3.2 188 (b + 2) (fun y => by unfold dF_ at y; omega)).1, st_pI, if_neg (by omega)]
            exact c2) (by rw [← eb]; exact y4) (by rw [← eb]; exact y5)
          rw [← er] at e4
          refine ⟨1, s50, y2.1, y1, fun y => absurd y (by decide), fun _ => ⟨v, s', e3, ?_, e2, _, rfl, e4⟩⟩
          rw [eF s50 _ g c3 (z0 J5)]
          exact e1
        · rw [ex] at er
          have er : r0 = .inr e := er
          rw [← er] at y2
          exact ⟨0, s50, y2.1, y1, fun _ => ⟨_, rfl, rpo_tr (toI J3.2) y2⟩, fun y => absurd rfl y⟩
      have plc : ∀ (s5 : st_T) (k1 : Nat), Rj_ σ B n S k1 s5 → (∃ s', fn_ γ m_X12_readsPlace 16 [.ref 185, .int (i_ (b : Int))] s5 (.int 1) s' ∧ Rj_ σ B n S (k1 + 1) s' ∧ st_I s' 188 (b + 2) = i_ (lnm_ S.2.1 (tby_ B n k1)) ∧ (-1 ≤ lnm_ S.2.1 (tby_ B n k1) ∧ lnm_ S.2.1 (tby_ B n k1) ≤ 3) ∧ rlo_ B n (k1, S.2) = .inl (lnm_ S.2.1 (tby_ B n k1), (k1 + 1, S.2)) ∧ ∀ j, 3 ≤ j → j < 6 → st_I s' 188 (b + j) = st_I s5 188 (b + j)) ∨
          ∃ e s', rlo_ B n (k1, S.2) = .inr e ∧ fn_ γ m_X12_readsPlace 16 [.ref 185, .int (i_ (b : Int))] s5 (.int 0) s' ∧ (r0 = .inr e → Rpo_ σ B n r0 (.int 0) s') ∧ Wd s' := by
        intro s5 k1 J
        rcases c_rplc (γ := γ) (S := (k1, S.2)) (b := b) J.1 (rj_nm h J).2 (by omega) with ⟨c3, cn2, er, s', f1, f2, f3, f4⟩ | ⟨e, s', er, f1, f2⟩
        · exact Or.inl ⟨s', f1, jC J f3 (by omega) f2, f4, l3 _ cn2, er, fun j z1 z2 => (f3.2 188 (b + j) (fun y => by unfold dC_ dF_ at y; omega)).1⟩
        · exact Or.inr ⟨e, s', er, f1, fun z => by rw [z]; exact rpo_tr (toI J.2) f2, f2.1⟩
      have tgt : ∀ (s5 : st_T) (k1 : Nat), Rj_ σ B n S k1 s5 → (∃ s', fn_ γ m_X12_readsTarget 3 [.ref 185, .int (i_ (b : Int)), .int (i_ (t : Int))] s5 (.int 1) s' ∧ Rj_ σ B n S (k1 + 1) s' ∧ st_I s' 188 (b + 3) = i_ (tnu_ B n k1) ∧ (-1 ≤ tnu_ B n k1 ∧ tnu_ B n k1 ≤ 3) ∧ rtg_ B n t (k1, S.2) = .inl (tnu_ B n k1, (k1 + 1, S.2)) ∧ ∀ j, 4 ≤ j → j < 6 → st_I s' 188 (b + j) = st_I s5 188 (b + j)) ∨
          ∃ e s', rtg_ B n t (k1, S.2) = .inr e ∧ fn_ γ m_X12_readsTarget 3 [.ref 185, .int (i_ (b : Int)), .int (i_ (t : Int))] s5 (.int 0) s' ∧ (r0 = .inr e → Rpo_ σ B n r0 (.int 0) s') ∧ Wd s' := by
        intro s5 k1 J
        rcases c_rtgt (γ := γ) (S := (k1, S.2)) (b := b) J.1 hB (rj_nm h J).1 ht (by omega) with ⟨c2, er, s', f1, f2, f3, f4⟩ | ⟨e, s', er, f1, f2⟩
        · have tn : 0 ≤ tnu_ B n k1 ∧ tnu_ B n k1 ≤ 1 := tnu2 c2
          exact Or.inl ⟨s', f1, jC J f3 (by omega) f2, f4, ⟨by omega, by omega⟩, er, fun j z1 z2 => (f3.2 188 (b + j) (fun y => by unfold dC_ dF_ at y; omega)).1⟩
        · exact Or.inr ⟨e, s', er, f1, fun z => by rw [z]; exact rpo_tr (toI J.2) f2, f2.1⟩
      have mp := plc s2 (S.1 + 1) J2
      have mt := tgt s2 (S.1 + 1) J2
      rw [q0, q1, q3]
      rcases (show kd = 0 ∨ kd = 1 ∨ kd = 2 ∨ kd = 3 by omega) with e | e | e | e
      · -- a store
        subst e
        have er : r0 = (match rlo_ B n (S.1 + 1, S.2) with | .inr e => .inr e | .inl (l, S3) => match rva_ B n t S3 with | .inr e => .inr e | .inl (x, S4) => match xp_ B n 15 S4 with | .inr e => .inr e | .inl S5 => .inl (S5.1, pai_ S5.2.1 0 l (-1) x.1 x.2, S5.2.2)) := by
          rw [er0]
          unfold ins_
          rw [if_neg nf]
          rfl
        refine ⟨fun y => absurd y (by decide), fun _ => ⟨fun y => absurd y (by decide), fun _ => ⟨fun y => absurd y (by decide), fun _ => ?_⟩⟩⟩
        rcases mp with ⟨s5, p1, p2, p3, p4, p5, p6⟩ | ⟨e, s5, p1, p2, p3, p4⟩
        · rw [p5] at er
          refine ⟨1, s5, p2.1.1, p1, fun y => absurd y (by decide), fun _ => ⟨in3, in3, fun _ => ?_, fun y => absurd (by decide) y⟩⟩
          obtain ⟨v, s6, t1, t2, t3, t4⟩ := tail s5 (S.1 + 1 + 1) (-1) _ (Or.inl rfl) p2 (by omega) p4 ((p6 3 (by omega) (by omega)).trans (m2 3 (by omega))) p3 ((p6 4 (by omega) (by omega)).trans (m2 4 (by omega))) ((p6 5 (by omega) (by omega)).trans (m2 5 (by omega))) er
          exact ⟨v, s6, t1, t2, t3, fun y => ⟨in0, in1, in3, t4 y⟩⟩
        · rw [p1] at er
          exact ⟨0, s5, p4, p2, fun _ => ⟨_, rfl, p3 er⟩, fun y => absurd rfl y⟩
      · -- a load
        subst e
        have er : r0 = (match rtg_ B n t (S.1 + 1, S.2) with | .inr e => .inr e | .inl (g, S2) => match rlo_ B n S2 with | .inr e => .inr e | .inl (l, S3) => match xp_ B n 15 S3 with | .inr e => .inr e | .inl S5 => .inl (S5.1, pai_ S5.2.1 1 l g (-1) (-1), S5.2.2)) := by
          rw [er0]
          unfold ins_
          rw [if_neg nf]
          rfl
        refine ⟨fun _ => ?_, fun y => absurd (by decide) y⟩
        rcases mt with ⟨s4, g1, g2, g3, g4, g5, g6⟩ | ⟨e, s4, g1, g2, g3, g4⟩
        · rw [g5] at er
          refine ⟨1, s4, g2.1.1, g1, fun y => absurd y (by decide), fun _ => ⟨fun y => absurd y (by decide), fun _ => ?_⟩⟩
          rcases plc s4 (S.1 + 1 + 1) g2 with ⟨s5, p1, p2, p3, p4, p5, p6⟩ | ⟨e, s5, p1, p2, p3, p4⟩
          · have er : r0 = (match rlo_ B n (S.1 + 1 + 1, S.2) with | .inr e => .inr e | .inl (l, S3) => match xp_ B n 15 S3 with | .inr e => .inr e | .inl S5 => .inl (S5.1, pai_ S5.2.1 1 l (tnu_ B n (S.1 + 1)) (-1) (-1), S5.2.2)) := er
            rw [p5] at er
            have er : r0 = (match xp_ B n 15 (S.1 + 1 + 1 + 1, S.2) with | .inr e => .inr e | .inl S5 => .inl (S5.1, pai_ S5.2.1 1 (lnm_ S.2.1 (tby_ B n (S.1 + 1 + 1))) (tnu_ B n (S.1 + 1)) (-1) (-1), S5.2.2)) := er
            refine ⟨1, s5, p2.1.1, p1, fun y => absurd y (by decide), fun _ => ⟨in3, in3, fun y => absurd y (by decide), fun _ => ⟨fun y => absurd y (by decide), fun _ => ⟨in0, in1, in3, ?_⟩⟩⟩⟩
            have J3 := m1 p2
            obtain ⟨v, s', e1, e2, e3, e4⟩ := fin_j (γ := γ) h h0 hN10 hT (kd := 1) (l := lnm_ S.2.1 (tby_ B n (S.1 + 1 + 1))) (g := tnu_ B n (S.1 + 1)) (c := -1) (x := -1) (by omega) p4 g4 (by omega) (by omega) J3 (by
              rw [← eb, st_pI, if_neg (by omega)]
              exact p3) (by
              rw [← eb, st_pI, if_neg (by omega)]
              exact (p6 4 (by omega) (by omega)).trans ((g6 4 (by omega) (by omega)).trans (m2 4 (by omega)))) (by
              rw [← eb, st_pI, if_neg (by omega)]
              exact (p6 5 (by omega) (by omega)).trans ((g6 5 (by omega) (by omega)).trans (m2 5 (by omega))))
            rw [← er] at e4
            refine ⟨v, s', e3, ?_, e2, _, rfl, e4⟩
            rw [eF _ _ (tnu_ B n (S.1 + 1)) ((p6 3 (by omega) (by omega)).trans g3) (z0 J3)]
            exact e1
          · have er : r0 = (match rlo_ B n (S.1 + 1 + 1, S.2) with | .inr e => .inr e | .inl (l, S3) => match xp_ B n 15 S3 with | .inr e => .inr e | .inl S5 => .inl (S5.1, pai_ S5.2.1 1 l (tnu_ B n (S.1 + 1)) (-1) (-1), S5.2.2)) := er
            rw [p1] at er
            exact ⟨0, s5, p4, p2, fun _ => ⟨_, rfl, p3 er⟩, fun y => absurd rfl y⟩
        · rw [g1] at er
          exact ⟨0, s4, g4, g2, fun _ => ⟨_, rfl, g3 er⟩, fun y => absurd rfl y⟩
      · -- a swap
        subst e
        have er : r0 = (match rtg_ B n t (S.1 + 1, S.2) with | .inr e => .inr e | .inl (g, S2) => match rlo_ B n S2 with | .inr e => .inr e | .inl (l, S3) => match rva_ B n t S3 with | .inr e => .inr e | .inl (x, S4) => match xp_ B n 15 S4 with | .inr e => .inr e | .inl S5 => .inl (S5.1, pai_ S5.2.1 2 l g x.1 x.2, S5.2.2)) := by
          rw [er0]
          unfold ins_
          rw [if_neg nf]
          rfl
        refine ⟨fun y => absurd y (by decide), fun _ => ⟨fun _ => ?_, fun y => absurd (by decide) y⟩⟩
        rcases mt with ⟨s4, g1, g2, g3, g4, g5, g6⟩ | ⟨e, s4, g1, g2, g3, g4⟩
        · rw [g5] at er
          have er : r0 = (match rlo_ B n (S.1 + 1 + 1, S.2) with | .inr e => .inr e | .inl (l, S3) => match rva_ B n t S3 with | .inr e => .inr e | .inl (x, S4) => match xp_ B n 15 S4 with | .inr e => .inr e | .inl S5 => .inl (S5.1, pai_ S5.2.1 2 l (tnu_ B n (S.1 + 1)) x.1 x.2, S5.2.2)) := er
          refine ⟨1, s4, g2.1.1, g1, fun y => absurd y (by decide), fun _ => ⟨fun y => absurd y (by decide), fun _ => ?_⟩⟩
          rcases plc s4 (S.1 + 1 + 1) g2 with ⟨s5, p1, p2, p3, p4, p5, p6⟩ | ⟨e, s5, p1, p2, p3, p4⟩
          · rw [p5] at er
            refine ⟨1, s5, p2.1.1, p1, fun y => absurd y (by decide), fun _ => ⟨in3, in3, fun y => absurd y (by decide), fun _ => ⟨fun _ => ?_, fun y => absurd (by decide) y⟩⟩⟩
            obtain ⟨v, s6, t1, t2, t3, t4⟩ := tail s5 (S.1 + 1 + 1 + 1) (tnu_ B n (S.1 + 1)) _ (Or.inr rfl) p2 g4 p4 ((p6 3 (by omega) (by omega)).trans g3) p3 ((p6 4 (by omega) (by omega)).trans ((g6 4 (by omega) (by omega)).trans (m2 4 (by omega)))) ((p6 5 (by omega) (by omega)).trans ((g6 5 (by omega) (by omega)).trans (m2 5 (by omega)))) er
            exact ⟨v, s6, t1, t2, t3, fun y => ⟨in0, in1, in3, t4 y⟩⟩
          · rw [p1] at er
            exact ⟨0, s5, p4, p2, fun _ => ⟨_, rfl, p3 er⟩, fun y => absurd rfl y⟩
        · rw [g1] at er
          exact ⟨0, s4, g4, g2, fun _ => ⟨_, rfl, g3 er⟩, fun y => absurd rfl y⟩
      · -- a fence
        subst e
        have er : r0 = (match xp_ B n 15 (S.1 + 1, S.2) with | .inr e => .inr e | .inl S5 => .inl (S5.1, pai_ S5.2.1 3 (-1) (-1) (-1) (-1), S5.2.2)) := by
          rw [er0]
          unfold ins_
          rw [if_neg nf]
          rfl
        refine ⟨fun y => absurd y (by decide), fun _ => ⟨fun y => absurd y (by decide), fun _ => ⟨fun _ => ⟨in3, in3, fun y => absurd y (by decide), fun _ => ⟨fun y => absurd y (by decide), fun _ => ⟨in0, in1, in3, ?_⟩⟩⟩, fun y => absurd rfl y⟩⟩⟩
        have J3 := m1 J2
        obtain ⟨v, s', e1, e2, e3, e4⟩ := fin_j (γ := γ) h h0 hN10 hT (kd := 3) (l := -1) (g := -1) (c := -1) (x := -1) (by omega) (by omega) (by omega) (by omega) (by omega) J3 (by
          rw [← eb, st_pI, if_neg (by omega)]
          exact m2 2 (by omega)) (by
          rw [← eb, st_pI, if_neg (by omega)]
          exact m2 4 (by omega)) (by
          rw [← eb, st_pI, if_neg (by omega)]
          exact m2 5 (by omega))
        rw [← er] at e4
        refine ⟨v, s', e3, ?_, e2, _, rfl, e4⟩
        rw [eF _ _ (-1) (m2 3 (by omega)) (z0 J3)]
        exact e1
    have clear : ∀ (d j : Nat) (s : st_T), d + j = 6 → Wd s → ro_ (fun a k => a = 188 ∧ b ≤ k ∧ k < b + 6) σ s → (∀ v, v < j → st_I s 188 (b + v) = i_ (-1)) → vv_ γ m_X12_readsInstruction 17 86 [(0, .ref 185), (1, .int (i_ (t : Int))), (2, .int (i_ kd)), (3, .int (if kd = 3 then (0 : Int32) else 1)), (4, .int (i_ (b : Int))), (5, .int (i_ (j : Int)))] [] s (fun r s => ∃ v, r = .inl (some v) ∧ Rpo_ σ B n r0 v s) := by
      intro d
      induction d with
      | zero =>
        intro j s hj w r c
        have hj : j = 6 := by omega
        subst hj
        exact main s w r c
      | succ d ih =>
        intro j s hj w r c
        refine g_X12_readsInstruction_86 w ?_
        unfold p_X12_readsInstruction_86
        refine ⟨fun y => ?_, fun _ => ?_⟩
        · rw [k6_, i_le (by omega) (by omega)] at y
          omega
        · rw [km1_, k1_, i_add, i_add, i_cl (by omega), show ((b : Int) + (j : Int)).toNat = b + j by omega]
          refine ⟨i_in (by omega) (by omega) (by omega), ih (j + 1) (pt_I s 188 (b + j) (i_ (-1))) (by omega) w (ro_I r ⟨rfl, by omega, by omega⟩) (fun v hv => ?_)⟩
          rw [st_pI]
          by_cases e : v = j
          · rw [if_pos ⟨rfl, by omega⟩]
          · rw [if_neg (by omega)]
            exact c v (by omega)
    exact clear 6 0 σ rfl w ro_rf (fun v hv => by omega)
  refine e_X12_readsInstruction w ?_
  unfold p_X12_readsInstruction_0
  refine ⟨_, σ, w, c_kindNow hp, ?_⟩
  rw [← ekd, k3_, k7_, k10_, i_eq (by omega) (by omega)]
  have i1 : fn_ γ m_X12_instructionsOf 1 [.ref 185, .int (i_ (t : Int)), .int (0 : Int32)] σ (.int (i_ (cti_ S.2.1.1 t false : Int))) σ := i1
  have i2 : fn_ γ m_X12_instructionsOf 1 [.ref 185, .int (-1 : Int32), .int (0 : Int32)] σ (.int (i_ (cti_ S.2.1.1 (-1) false : Int))) σ := i2
  have i3 : fn_ γ m_X12_instructionsOf 1 [.ref 185, .int (i_ (t : Int)), .int (1 : Int32)] σ (.int (i_ (cti_ S.2.1.1 t true : Int))) σ := i3
  have i4 : fn_ γ m_X12_instructionsOf 1 [.ref 185, .int (-1 : Int32), .int (1 : Int32)] σ (.int (i_ (cti_ S.2.1.1 (-1) true : Int))) σ := i4
  have nfull : ¬ full_ S.2.1.1 t kd = true → full_ S.2.1.1 t kd = false := fun y => by
    cases e : full_ S.2.1.1 t kd with
    | true => exact absurd e y
    | false => rfl
  refine ⟨fun e3 => ⟨_, σ, w, i1, ?_⟩, fun e3 => ⟨_, σ, w, i1, ?_⟩⟩
  · rw [i_eq (by omega) (by omega)]
    refine ⟨fun y => bad (fc.mpr (Or.inl (by omega))), fun y => ⟨_, σ, w, i2, ?_⟩⟩
    rw [i_eq (by omega) (by omega)]
    refine ⟨fun y2 => bad (fc.mpr (Or.inr (Or.inl (by omega)))), fun y2 => ?_⟩
    have g := go (nfull (fun z => by
      rcases fc.mp z with z | z | ⟨z, -⟩
      · omega
      · omega
      · exact z e3))
    rw [if_pos e3] at g
    exact g
  · rw [i_eq (by omega) (by omega)]
    refine ⟨fun y => bad (fc.mpr (Or.inl (by omega))), fun y => ⟨_, σ, w, i2, ?_⟩⟩
    rw [i_eq (by omega) (by omega)]
    refine ⟨fun y2 => bad (fc.mpr (Or.inr (Or.inl (by omega)))), fun y2 => ⟨_, σ, w, i3, ?_⟩⟩
    rw [show (4 : Int32) = i_ 4 by decide, i_eq (by omega) (by omega)]
    refine ⟨fun y3 => bad (fc.mpr (Or.inr (Or.inr ⟨e3, Or.inl (by omega)⟩))), fun y3 => ⟨_, σ, w, i4, ?_⟩⟩
    rw [k8_, i_eq (by omega) (by omega)]
    refine ⟨fun y4 => bad (fc.mpr (Or.inr (Or.inr ⟨e3, Or.inr (by omega)⟩))), fun y4 => ?_⟩
    have g := go (nfull (fun z => by
      rcases fc.mp z with z | z | ⟨-, z | z⟩ <;> omega))
    rw [if_neg e3] at g
    exact g
end IJ
