/-! the reference: instructions are written; write -/
section RWQ
variable {γ : ga_T} {σ σ1 s : st_T} {n k i t c : Nat} {A : ca_T} {e : String → Nat} {P : pq_T} {O X : List Int} {z : Int}
theorem ot_nr (h : Ot_ σ O s) {p : pr_T} (n : Nr_ σ p) : Nr_ s p := nr_ro h.2.1 (fun k y => by unfold dO2_ at y; omega) n
/-- what is asked there -/
def Tpe_ (γ : ga_T) (i : Nat) (Q : rs_T → st_T → Prop) (s : st_T) : Prop :=
    ∃ (v50 : Int32) (s48 : st_T), Wd s48 ∧ fn_ γ m_X12_of 1 [.ref 185, .int (i_ (i : Int)), .int (5 : Int32)] s (.int v50) s48 ∧
      (v50 = (-1 : Int32) →
        ∃ (v54 : Int32) (s52 : st_T), Wd s52 ∧ fn_ γ m_X12_of 1 [.ref 185, .int (i_ (i : Int)), .int (4 : Int32)] s48 (.int v54) s52 ∧
        (v54 = (-1 : Int32) → ∃ s56, Wd s56 ∧ fw_ γ m_X12_prints 0 [.ref 185, .int (59 : Int32)] s52 s56 ∧ Q (.inl none) s56) ∧
        (¬ v54 = (-1 : Int32) → ∃ s58, Wd s58 ∧ fw_ γ m_X12_prints 0 [.ref 185, .int (32 : Int32)] s52 s58 ∧
          ∃ (v62 : Int32) (s60 : st_T), Wd s60 ∧ fn_ γ m_X12_of 1 [.ref 185, .int (i_ (i : Int)), .int (4 : Int32)] s58 (.int v62) s60 ∧
          ∃ s63, Wd s63 ∧ fw_ γ m_X12_prints 0 [.ref 185, .int ((48 : Int32) + v62)] s60 s63 ∧
          ∃ s65, Wd s65 ∧ fw_ γ m_X12_prints 0 [.ref 185, .int (59 : Int32)] s63 s65 ∧ Q (.inl none) s65)) ∧
      (¬ v50 = (-1 : Int32) →
        ∃ (v69 : Int32) (s67 : st_T), Wd s67 ∧ fn_ γ m_X12_of 1 [.ref 185, .int (i_ (i : Int)), .int (5 : Int32)] s48 (.int v69) s67 ∧
        ∃ s70, Wd s70 ∧ fw_ γ m_X12_printsRegister 14 [.ref 185, .int v69] s67 s70 ∧
        ∃ s72, Wd s72 ∧ fw_ γ m_X12_prints 0 [.ref 185, .int (59 : Int32)] s70 s72 ∧ Q (.inl none) s72)
def Tpm_ (γ : ga_T) (i : Nat) (Q : rs_T → st_T → Prop) (s : st_T) : Prop :=
    ∃ (v15 : Int32) (s13 : st_T), Wd s13 ∧ fn_ γ m_X12_of 1 [.ref 185, .int (i_ (i : Int)), .int (2 : Int32)] s (.int v15) s13 ∧ (v15 = (-1 : Int32) → Tpe_ γ i Q s13) ∧
      (¬ v15 = (-1 : Int32) → ∃ (v45 : Int32) (s43 : st_T), Wd s43 ∧ fn_ γ m_X12_of 1 [.ref 185, .int (i_ (i : Int)), .int (2 : Int32)] s13 (.int v45) s43 ∧ ∃ s46, Wd s46 ∧ fw_ γ m_X12_printsName 1 [.ref 185, .int v45] s43 s46 ∧ Tpe_ γ i Q s46)
/-- a constant or a register, and the end -/
theorem l_rpe (h : Ot_ σ O s) (hq : Rq_ σ P) (hP : Wp_ P.1) {i : Nat} (hi : i < pN_ P.1) (ho : O.length ≤ 600) {Q : rs_T → st_T → Prop} (zQ : ∀ s1, Ot_ σ (O ++ (onu_ (pC_ P.1 i 4) ++ (org_ (pC_ P.1 i 5) ++ [59]))) s1 → Q (.inl none) s1) :
    Tpe_ γ i Q s := by
  have zN := hq.1
  have W := hP.2.1 i hi
  have b4 := hP.1.2.2.2.2 i 4
  have b5 := hP.1.2.2.2.2 i 5
  have b1 := hP.1.2.2.2.2 i 1
  have o5 := c_rof (γ := γ) (i := i) (k := 5) h.1 (ot_nr h zN) hi (by decide)
  have o4 := c_rof (γ := γ) (i := i) (k := 4) h.1 (ot_nr h zN) hi (by decide)
  have cs : pC_ P.1 i 4 = -1 ∨ pC_ P.1 i 5 = -1 := by
    rcases (show pC_ P.1 i 1 = 0 ∨ pC_ P.1 i 1 = 1 ∨ pC_ P.1 i 1 = 2 ∨ pC_ P.1 i 1 = 3 by have := W.2.2.1; omega) with e | e | e | e
    · rcases W.2.2.2.2.2.2.2.2 (Or.inl e) with ⟨-, y⟩ | ⟨y, -⟩
      · exact Or.inr y
      · exact Or.inl y
    · exact Or.inl (W.2.2.2.2.2.2.2.1 e).1
    · rcases W.2.2.2.2.2.2.2.2 (Or.inr e) with ⟨-, y⟩ | ⟨y, -⟩
      · exact Or.inr y
      · exact Or.inl y
    · exact Or.inl (W.2.2.2.1 e).2.2.1
  refine ⟨_, s, h.1, o5, ?_⟩
  rw [show (-1 : Int32) = i_ (-1) by decide, i_eq (by omega) (by omega)]
  refine ⟨fun e5 => ⟨_, s, h.1, o4, ?_⟩, fun e5 => ⟨_, s, h.1, o5, ?_⟩⟩
  · rw [i_eq (by omega) (by omega)]
    refine ⟨fun e4 => ?_, fun e4 => ?_⟩
    · obtain ⟨s1, a1, a2⟩ := c_rprints (γ := γ) (z := 59) h (by omega) (by omega)
      refine ⟨s1, a2.1, a1, zQ s1 ?_⟩
      rw [e4, e5]
      exact a2
    · obtain ⟨s1, a1, a2⟩ := c_rprints (γ := γ) (z := 32) h (by omega) (by omega)
      obtain ⟨s2, d1, d2⟩ := c_rprints (γ := γ) (z := 48 + pC_ P.1 i 4) a2 (by rw [List.length_append, List.length_singleton]; omega) (by omega)
      obtain ⟨s3, f1, f2⟩ := c_rprints (γ := γ) (z := 59) d2 (by rw [List.length_append, List.length_append, List.length_singleton, List.length_singleton]; omega) (by omega)
      refine ⟨s1, a2.1, a1, _, s1, a2.1, c_rof (γ := γ) (i := i) (k := 4) a2.1 (ot_nr a2 zN) hi (by decide), ?_⟩
      rw [show (48 : Int32) = i_ 48 by decide, i_add]
      refine ⟨s2, d2.1, d1, s3, f2.1, f1, zQ s3 ?_⟩
      unfold onu_ org_
      rw [e5, if_neg e4, if_pos rfl]
      rw [List.append_assoc, List.append_assoc] at f2
      exact f2
  · have e4 : pC_ P.1 i 4 = -1 := cs.resolve_right e5
    obtain ⟨s1, a1, a2⟩ := c_rpreg (γ := γ) (z := pC_ P.1 i 5) h (by omega) (by omega)
    obtain ⟨s2, d1, d2⟩ := c_rprints (γ := γ) (z := 59) a2 (by rw [List.length_append]; show _ + 3 < _; omega) (by omega)
    refine ⟨s1, a2.1, a1, s2, d2.1, d1, zQ s2 ?_⟩
    unfold onu_ org_
    rw [e4, if_pos rfl, if_neg e5]
    rw [List.append_assoc] at d2
    exact d2
theorem l_rpm (h : Ot_ σ O s) (hq : Rq_ σ P) (hP : Wp_ P.1) (hN : Nv_ P) {i : Nat} (hi : i < pN_ P.1) (ho : O.length ≤ 500) {Q : rs_T → st_T → Prop} (zQ : ∀ s1, Ot_ σ (O ++ ((if pC_ P.1 i 1 = 3 then [] else 32 :: P.2.1 (pC_ P.1 i 2).toNat) ++ (onu_ (pC_ P.1 i 4) ++ (org_ (pC_ P.1 i 5) ++ [59])))) s1 → Q (.inl none) s1) : Tpm_ γ i Q s := by
  have zN := hq.1
  have W := hP.2.1 i hi
  have b2 := hP.1.2.2.2.2 i 2
  have o2 := c_rof (γ := γ) (i := i) (k := 2) h.1 (ot_nr h zN) hi (by decide)
  refine ⟨_, s, h.1, o2, ?_⟩
  rw [show (-1 : Int32) = i_ (-1) by decide, i_eq (by omega) (by omega)]
  refine ⟨fun y => ?_, fun y => ⟨_, s, h.1, o2, ?_⟩⟩
  · have e : pC_ P.1 i 1 = 3 := by
      by_cases e : pC_ P.1 i 1 = 3
      · exact e
      · have := (W.2.2.2.2.1 e).1
        omega
    rw [if_pos e] at zQ
    exact l_rpe h hq hP hi (by omega) zQ
  · have ne : ¬ pC_ P.1 i 1 = 3 := fun e => y (W.2.2.2.1 e).1
    have lw := W.2.2.2.2.1 ne
    obtain ⟨l, el⟩ : ∃ l : Nat, pC_ P.1 i 2 = l := ⟨(pC_ P.1 i 2).toNat, by omega⟩
    obtain ⟨s3, d1, d2⟩ := c_rpname (γ := γ) h hq hN (l := l) (by omega) (by omega)
    rw [if_neg ne, el, Int.toNat_natCast] at zQ
    rw [el]
    have n8 := (hN l (by omega)).1
    refine ⟨s3, d2.1, d1, l_rpe d2 hq hP hi (by rw [List.length_append, List.length_cons]; omega) (fun s1 h1 => zQ s1 ?_)⟩
    rw [List.append_assoc] at h1
    exact h1
theorem c_rkw (w : Wd s) : ∀ j : Nat, j < 4 → fn_ γ m_X12_kindWord 0 [.int (i_ (j : Int))] s (.ref (30 + (34 + j))) s := fun j hj => fn_q (fun Q zQ => e_X12_kindWord w (by
    unfold p_X12_kindWord_0
    rw [k0_, k1_, k2_, i_eq (by omega) (by omega), i_eq (by omega) (by omega), i_eq (by omega) (by omega)]
    refine ⟨fun e => ?_, fun e => ⟨fun e1 => ?_, fun e1 => ⟨fun e2 => ?_, fun e2 => ?_⟩⟩⟩
    · rw [show j = 0 by omega] at zQ
      exact zQ
    · rw [show j = 1 by omega] at zQ
      exact zQ
    · rw [show j = 2 by omega] at zQ
      exact zQ
    · rw [show j = 3 by omega] at zQ
      exact zQ))
theorem c_rpins (h : Ot_ σ O s) (hq : Rq_ σ P) (hP : Wp_ P.1) (hN : Nv_ P) {i : Nat} (hi : i < pN_ P.1) (ho : O.length ≤ 400) : ∃ s1, fw_ γ m_X12_printsInstruction 15 [.ref 185, .int (i_ (i : Int))] s s1 ∧ Ot_ σ (O ++ oin_ P i) s1 := by
  refine fw_of (P := fun s1 => Ot_ σ (O ++ oin_ P i) s1) (e_X12_printsInstruction h.1 ?_)
  have zN := hq.1
  have W := hP.2.1 i hi
  have b1 := hP.1.2.2.2.2 i 1
  have b2 := hP.1.2.2.2.2 i 2
  have b3 := hP.1.2.2.2.2 i 3
  have w1 := W.2.2.1
  obtain ⟨kd, ek⟩ : ∃ kd : Nat, pC_ P.1 i 1 = kd := ⟨(pC_ P.1 i 1).toNat, by omega⟩
  have o1 := c_rof (γ := γ) (i := i) (k := 1) h.1 (ot_nr h zN) hi (by decide)
  rw [ek] at o1
  obtain ⟨k1', k2', k3', k4', k5', k6', k7'⟩ := kt_all
  have ekt : kt_ (34 + kd) = kt_ (okd_ (pC_ P.1 i 1)) := by
    rw [ek]
    rcases (show kd = 0 ∨ kd = 1 ∨ kd = 2 ∨ kd = 3 by omega) with e | e | e | e
    · rw [e]; exact k4'
    · rw [e]; exact k5'
    · rw [e]; exact k6'
    · rw [e]; exact k7'
  have l5 : (kt_ (34 + kd)).length ≤ 5 := by
    rw [ekt, kt_len]
    have e : pC_ P.1 i 1 = 0 ∨ pC_ P.1 i 1 = 1 ∨ pC_ P.1 i 1 = 2 ∨ pC_ P.1 i 1 = 3 := by omega
    rcases e with e | e | e | e <;> rw [e] <;> decide
  obtain ⟨s1, a1, a2⟩ := c_rptext (γ := γ) h (a := 34 + kd) (by omega) (by omega)
  unfold p_X12_printsInstruction_0
  have o3 := c_rof (γ := γ) (i := i) (k := 3) a2.1 (ot_nr a2 zN) hi (by decide)
  refine ⟨_, s, h.1, o1, 34 + kd, s, h.1, c_rkw h.1 kd (by omega), s1, a2.1, a1, _, s1, a2.1, o3, ?_⟩
  have eo : O ++ oin_ P i = (O ++ kt_ (34 + kd)) ++ (org_ (pC_ P.1 i 3) ++ ((if pC_ P.1 i 1 = 3 then [] else 32 :: P.2.1 (pC_ P.1 i 2).toNat) ++ (onu_ (pC_ P.1 i 4) ++ (org_ (pC_ P.1 i 5) ++ [59])))) := by
    unfold oin_
    rw [ekt, List.append_assoc]
  have lO : (O ++ kt_ (34 + kd)).length ≤ 405 := by
    rw [List.length_append]
    omega
  have em : (i_ (pC_ P.1 i 3) = (-1 : Int32)) = (pC_ P.1 i 3 = -1) := by
    rw [show (-1 : Int32) = i_ (-1) by decide]
    exact i_eq (by omega) (by omega)
  refine ⟨fun e3 => ?_, fun e3 => ⟨_, s1, a2.1, o3, ?_⟩⟩
  · rw [em] at e3
    refine l_rpm (Q := fun r s => r = .inl none ∧ Ot_ σ (O ++ oin_ P i) s) a2 hq hP hN hi (by omega) (fun s3 h3 => ⟨rfl, ?_⟩)
    rw [eo]
    unfold org_
    rw [if_pos e3]
    exact h3
  · rw [em] at e3
    obtain ⟨s2, d1, d2⟩ := c_rpreg (γ := γ) (z := pC_ P.1 i 3) a2 (by omega) (by omega)
    refine ⟨s2, d2.1, d1, l_rpm (Q := fun r s => r = .inl none ∧ Ot_ σ (O ++ oin_ P i) s) d2 hq hP hN hi (by rw [List.length_append]; show _ + 3 ≤ _; omega) (fun s3 h3 => ⟨rfl, ?_⟩)⟩
    rw [eo]
    unfold org_ at h3 ⊢
    rw [if_neg e3]
    rw [List.append_assoc] at h3
    exact h3
/-- the output alone changes -/
theorem jr_out (h : Jr_ σ A c) {O : List Int} (t : Ot_ (pt_I (pt_I σ 185 0 (i_ 0)) 185 56 (i_ 0)) O s) : Jr_ s (aB_ A, an2_ A, aP_ A, O, A.2.2.2.2) c ∧ ro_ dM_ σ s ∧ st_I s 185 0 = i_ 0 := by
  obtain ⟨w, r, t1, t2⟩ := t
  have D : ro_ (fun a k => a = 218 ∨ (a = 185 ∧ (k = 56 ∨ k = 0))) σ s := ro_tr (ro_I (ro_I ro_rf (Or.inr ⟨rfl, Or.inr rfl⟩)) (Or.inr ⟨rfl, Or.inl rfl⟩)) (ro_up r (fun a k y => by unfold dO2_ at y; omega))
  have g : ∀ a k, ¬ (a = 218 ∨ (a = 185 ∧ (k = 56 ∨ k = 0))) → st_I s a k = st_I σ a k := fun a k z => (D.2 a k z).1
  obtain ⟨-, o, ⟨⟨b1, b2, b3⟩, q, -, ⟨c1, c2⟩, e⟩⟩ := h
  refine ⟨⟨w, rt0_cg (fun a k z => g a k (by omega)) o, ⟨b1, (g _ _ (by omega)).trans b2, fun k z => (g _ _ (by omega)).trans (b3 k z)⟩, rq_cg (fun a k z => g a k (by omega)) q, ⟨t1, t2⟩, ⟨(g _ _ (by omega)).trans c1, krr_cg (fun k => g _ _ (by omega)) _ _ c2⟩, re_cg (fun a k z => g a k (by omega)) e⟩, ro_up D (fun a k y => by unfold dM_; omega), ?_⟩
  rw [(r.2 185 0 (fun y => by unfold dO2_ at y; omega)).1, st_pI, if_neg (by omega), st_sI]
theorem r_write (h : Jr_ σ A c) (hP : Wp_ (aP_ A).1) (hN : Nv_ (aP_ A)) : Ra_ γ m_X12_write 16 [.ref 185] σ (aB_ A, an2_ A, aP_ A, wri_ (aP_ A), A.2.2.2.2) c e (ri_ (wri_ (aP_ A)).length) := by
  refine ra_of (e_X12_write h.1 ?_)
  have hq0 := h.2.2.2.1
  have fin : ∀ s, Ot_ (pt_I (pt_I σ 185 0 (i_ 0)) 185 56 (i_ 0)) (wri_ (aP_ A)) s → Re2_ σ (aB_ A, an2_ A, aP_ A, wri_ (aP_ A), A.2.2.2.2) c e (ri_ (wri_ (aP_ A)).length) (.inl (some (.int (i_ ((wri_ (aP_ A)).length : Int))))) s := fun s t => by
    obtain ⟨m1, m2, m3⟩ := jr_out h t
    exact ⟨_, rfl, c, m1, by omega, m2, rfl, m3⟩
  unfold p_X12_write_0
  have hw : Wd (pt_I (pt_I σ 185 0 (i_ 0)) 185 56 (i_ 0)) := h.1
  have hq : Rq_ (pt_I (pt_I σ 185 0 (i_ 0)) 185 56 (i_ 0)) (aP_ A) := rq_cg (fun a k z => by rw [st_pI, if_neg (by omega), st_pI, if_neg (by omega)]) hq0
  have h0 : Ot_ (pt_I (pt_I σ 185 0 (i_ 0)) 185 56 (i_ 0)) [] (pt_I (pt_I σ 185 0 (i_ 0)) 185 56 (i_ 0)) := ⟨hw, ro_rf, st_sI _ _ _ _, fun k z hz => (by cases hz)⟩
  show vv_ γ m_X12_write 16 12 [(0, .ref 185), (1, .int (0 : Int32))] [] (pt_I (pt_I σ 185 0 (i_ 0)) 185 56 (i_ 0)) _
  generalize (pt_I (pt_I σ 185 0 (i_ 0)) 185 56 (i_ 0)) = σ0 at fin hw hq h0 ⊢
  generalize Re2_ σ (aB_ A, an2_ A, aP_ A, wri_ (aP_ A), A.2.2.2.2) c e (ri_ (wri_ (aP_ A)).length) = Q at fin ⊢
  clear hq0
  generalize aP_ A = P at hP hN fin hq
  have zN := hq.1
  have b0 := zN.1.1
  have b1 := zN.1.2.1
  have b2 := zN.1.2.2.1
  have wl := wd_len hN (pL_ P.1) (Nat.le_refl _)
  have rows : ∀ {O : List Int} {s : st_T} (k : Nat), Ot_ σ0 O s → st_I s 187 k = st_I σ0 187 k := fun k t => (t.2.1.2 187 k (fun y => by unfold dO2_ at y; omega)).1
  have instrs : ∀ (t : Nat), t < pT_ P.1 → (∀ s, Ot_ σ0 (wd_ P (pL_ P.1) ++ wth_ P (t + 1)) s → vv_ γ m_X12_write 16 70 [(0, .ref 185), (1, .int (i_ (gB0_ P.1 (t + 1) : Int))), (2, .int (i_ ((t + 1 : Nat) : Int)))] [] s Q) →
      ∀ k i : Nat, gB0_ P.1 t + i + k = gB0_ P.1 (t + 1) → ∀ s, Ot_ σ0 (wd_ P (pL_ P.1) ++ (wth_ P t ++ ((kt_ 1 ++ [59]) ++ wi_ P (gB0_ P.1 t) i))) s → vv_ γ m_X12_write 16 87 [(0, .ref 185), (1, .int (i_ ((gB0_ P.1 t + i : Nat) : Int))), (2, .int (i_ (t : Int)))] [] s Q := by
    intro t ht hn k
    have le := gB_le (p := P.1) (t + 1)
    have l1 := wth_len hN hP t (by omega)
    have k1 := kt1_len
    induction k with
    | zero =>
      intro i zi s x1
      have nxt : vv_ γ m_X12_write 16 70 [(0, .ref 185), (1, .int (i_ ((gB0_ P.1 t + i : Nat) : Int))), (2, .int (i_ ((t + 1 : Nat) : Int)))] [] s Q := by
        rw [show gB0_ P.1 t + i = gB0_ P.1 (t + 1) by omega]
        refine hn s ?_
        show Ot_ σ0 (wd_ P (pL_ P.1) ++ (wth_ P t ++ ((kt_ 1 ++ [59]) ++ wi_ P (gB0_ P.1 t) (gB0_ P.1 (t + 1) - gB0_ P.1 t)))) s
        rw [show gB0_ P.1 (t + 1) - gB0_ P.1 t = i by omega]
        exact x1
      refine g_X12_write_87 x1.1 ?_
      unfold p_X12_write_87
      rw [rows 0 x1, zN.2.1, i_le (by omega) (by omega), k1_, i_add]
      refine ⟨fun _ => nxt, fun y => ?_⟩
      have hi : gB0_ P.1 t + i < pN_ P.1 := by omega
      have W0 := (hP.2.1 _ hi)
      have o0 := c_rof (γ := γ) (i := gB0_ P.1 t + i) (k := 0) x1.1 (ot_nr x1 zN) hi (by decide)
      refine ⟨_, s, x1.1, o0, ?_⟩
      rw [i_eq (by omega) (by omega)]
      refine ⟨fun e => ?_, fun _ => nxt⟩
      have := ((gB_th hP hi).mp e).2
      omega
    | succ k ih =>
      intro i zi s x1
      have hi : gB0_ P.1 t + i < pN_ P.1 := by omega
      have W0 := (hP.2.1 _ hi)
      have o0 := c_rof (γ := γ) (i := gB0_ P.1 t + i) (k := 0) x1.1 (ot_nr x1 zN) hi (by decide)
      have et : pC_ P.1 (gB0_ P.1 t + i) 0 = t := (gB_th hP hi).mpr ⟨by omega, by omega⟩
      have l2 := wi_len hN hP (gB0_ P.1 t) i (by omega)
      obtain ⟨s2, g1, g2⟩ := c_rpins (γ := γ) x1 hq hP hN hi (by
        simp only [List.length_append, List.length_singleton]
        omega)
      refine g_X12_write_87 x1.1 ?_
      unfold p_X12_write_87
      rw [rows 0 x1, zN.2.1, i_le (by omega) (by omega), k1_, i_add]
      refine ⟨fun y => by omega, fun _ => ⟨_, s, x1.1, o0, fun _ => ⟨s2, g2.1, g1, ?_⟩, fun y => absurd (by rw [et]) y⟩⟩
      rw [i_add, show ((gB0_ P.1 t + i : Nat) : Int) + 1 = ((gB0_ P.1 t + (i + 1) : Nat) : Int) by omega]
      refine ih (i + 1) (by omega) s2 ?_
      show Ot_ σ0 (wd_ P (pL_ P.1) ++ (wth_ P t ++ ((kt_ 1 ++ [59]) ++ (wi_ P (gB0_ P.1 t) i ++ oin_ P (gB0_ P.1 t + i))))) s2
      simp only [List.append_assoc] at g2 ⊢
      exact g2
  have threads : ∀ k t : Nat, t + k = pT_ P.1 → ∀ s, Ot_ σ0 (wd_ P (pL_ P.1) ++ wth_ P t) s → vv_ γ m_X12_write 16 70 [(0, .ref 185), (1, .int (i_ (gB0_ P.1 t : Int))), (2, .int (i_ (t : Int)))] [] s Q := by
    intro k
    induction k with
    | zero =>
      intro t zt s x1
      have zt : t = pT_ P.1 := by omega
      subst zt
      refine g_X12_write_70 x1.1 ?_
      unfold p_X12_write_70
      rw [rows 1 x1, zN.2.2.1, x1.2.2.1]
      exact ⟨fun _ => fin s x1, fun y => absurd (Int32.le_refl _) y⟩
    | succ k ih =>
      intro t zt s x1
      have le := gB_le (p := P.1) t
      have l1 := wth_len hN hP t (by omega)
      obtain ⟨s2, a1, a2⟩ := c_rptext (γ := γ) x1 (a := 45) (by decide) (by rw [List.length_append]; omega)
      rw [kt_all.2.1] at a2
      refine g_X12_write_70 x1.1 ?_
      unfold p_X12_write_70
      rw [rows 1 x1, zN.2.2.1, i_le (by omega) (by omega)]
      refine ⟨fun y => by omega, fun _ => ⟨s2, a2.1, a1, ?_⟩⟩
      have m := gB_mono hP (show t ≤ t + 1 by omega)
      have y := instrs t (by omega) (fun s hs => ih (t + 1) (by omega) s hs) (gB0_ P.1 (t + 1) - gB0_ P.1 t) 0 (by omega) s2 (by
        show Ot_ σ0 (wd_ P (pL_ P.1) ++ (wth_ P t ++ ((kt_ 1 ++ [59]) ++ []))) s2
        rw [List.append_nil]
        rw [List.append_assoc] at a2
        exact a2)
      exact y
  have decls : ∀ k l : Nat, l + k = pL_ P.1 → ∀ s, Ot_ σ0 (wd_ P l) s → vv_ γ m_X12_write 16 12 [(0, .ref 185), (1, .int (i_ (l : Int)))] [] s Q := by
    intro k
    induction k with
    | zero =>
      intro l zl s x1
      have zl : l = pL_ P.1 := by omega
      subst zl
      refine g_X12_write_12 x1.1 ?_
      unfold p_X12_write_12
      rw [rows 2 x1, zN.2.2.2.1]
      refine ⟨fun _ => ?_, fun y => absurd (Int32.le_refl _) y⟩
      have g0 : gB0_ P.1 0 = 0 := by
        have key : ∀ n, n ≤ pN_ P.1 → ct_ (fun i => decide (pC_ P.1 i 0 < ((0 : Nat) : Int))) n = 0 := by
          intro n
          induction n with
          | zero => intro _; rfl
          | succ n ih =>
            intro hn
            rw [ct_s, ih (by omega), if_neg (by
              rw [decide_eq_true_eq]
              have := (hP.2.1 n (by omega)).1
              omega)]
        exact key _ (Nat.le_refl _)
      have y := threads (pT_ P.1) 0 (by omega) s (by
        show Ot_ σ0 (wd_ P (pL_ P.1) ++ []) s
        rw [List.append_nil]
        exact x1)
      rw [g0] at y
      exact y
    | succ k ih =>
      intro l zl s x1
      have l1 := wd_len hN l (by omega)
      have n8 := (hN l (by omega)).1
      have pv := zN.1.2.2.2.1 l
      obtain ⟨s1, a1, a2⟩ := c_rptext (γ := γ) x1 (a := 38) (by decide) (by omega)
      rw [kt_all.1] at a2
      obtain ⟨s2, d1, d2⟩ := c_rpname (γ := γ) a2 hq hN (l := l) (by omega) (by simp only [List.length_append, List.length_cons, List.length_nil]; omega)
      obtain ⟨s3, f1, f2⟩ := c_rprints (γ := γ) (z := 32) d2 (by simp only [List.length_append, List.length_cons, List.length_nil]; omega) (by omega)
      obtain ⟨s4, k1, k2⟩ := c_rprints (γ := γ) (z := 48 + pI_ P.1 l) f2 (by simp only [List.length_append, List.length_cons, List.length_nil]; omega) (by omega)
      obtain ⟨s5, u1, u2⟩ := c_rprints (γ := γ) (z := 59) k2 (by simp only [List.length_append, List.length_cons, List.length_nil]; omega) (by omega)
      refine g_X12_write_12 x1.1 ?_
      unfold p_X12_write_12
      rw [rows 2 x1, zN.2.2.2.1, i_le (by omega) (by omega)]
      refine ⟨fun y => by omega, fun _ => ⟨s1, a2.1, a1, s2, d2.1, d1, s3, f2.1, f1, ?_⟩⟩
      rw [k3_, i_add, i_cl (by omega), show ((3 : Int) + (l : Int)).toNat = 3 + l by omega, rows _ f2, zN.2.2.2.2.1 l (by omega), show (48 : Int32) = i_ 48 by decide, i_add, k1_, i_add]
      refine ⟨i_in (by omega) (by omega) (by omega), s4, k2.1, k1, s5, u2.1, u1, ih (l + 1) (by omega) s5 ?_⟩
      show Ot_ σ0 (wd_ P l ++ ([108, 111, 99] ++ ((32 :: P.2.1 l) ++ (onu_ (pI_ P.1 l) ++ [59])))) s5
      unfold onu_
      rw [if_neg (by omega)]
      simp only [List.append_assoc] at u2
      exact u2
  exact decls (pL_ P.1) 0 (by omega) σ0 h0
end RWQ
