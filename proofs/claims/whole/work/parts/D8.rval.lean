/-! the reference: outcomes more than others; values that are read -/
section RV
variable {γ : ga_T} {σ σ1 s : st_T} {A A' : ca_T} {c m n K t : Nat} {z y : Int} {e : String → Nat} {p : pr_T} {L M : List (Nat × Int64)} {g : gm_T} {S : gs_T}
theorem l_extra (zw : Wd s) (o : Oc_ s L) (hl : st_I s 185 44 = i_ (L.length : Int)) (hM : Oth_ s M) (bM : M.length ≤ 65535 ∧ ∀ q ∈ M, q.1 < 4194304) (sL : So_ L) (sM : So_ M) {Q : rs_T → st_T → Prop} (zQ : Q (.inl (some (.int (i_ (L.countP (fun q => decide (fp_ M q.1 = -1)) : Int))))) s) :
    vv_ γ m_X12_extraOutcomes 7 54 [(0, .ref 185), (3, .int (0 : Int32)), (4, .int (0 : Int32)), (5, .int (0 : Int32))] [] s Q := by
  have hO := o.1
  have wM : ∀ j, j < M.length → st_I s 209 j = i_ (wa_ M j : Int) ∧ wa_ M j < 4194304 := fun j hj => by
    obtain ⟨q, hq⟩ : ∃ q, M[j]? = some q := ⟨_, List.getElem?_eq_getElem hj⟩
    rw [wa_eq hq]
    exact ⟨hM.2 j q hq, bM.2 q (List.mem_of_getElem? hq)⟩
  have key : ∀ (k i j : Nat), k + i = L.length → j ≤ M.length → (∀ j', j' < j → i < L.length → wa_ M j' < wa_ L i) → vv_ γ m_X12_extraOutcomes 7 54 [(0, .ref 185), (3, .int (i_ ((L.take i).countP (fun q => decide (fp_ M q.1 = -1)) : Int))), (4, .int (i_ (j : Int))), (5, .int (i_ (i : Int)))] [] s Q := by
    intro k
    induction k with
    | zero =>
      intro i j hi hj a
      refine g_X12_extraOutcomes_54 zw ?_
      unfold p_X12_extraOutcomes_54
      rw [hl, show i = L.length by omega, List.take_length]
      exact ⟨fun _ => zQ, fun y => absurd (Int32.le_refl _) y⟩
    | succ k ih =>
      intro i j hi hj a
      obtain ⟨q, hq⟩ : ∃ q, L[i]? = some q := ⟨_, List.getElem?_eq_getElem (by omega)⟩
      have eq1 := wa_eq hq
      obtain ⟨o1, -, o3⟩ := o.2 i q hq
      have cl : (L.take i).countP (fun q => decide (fp_ M q.1 = -1)) ≤ i := Nat.le_trans List.countP_le_length (by rw [List.length_take]; omega)
      refine g_X12_extraOutcomes_54 zw ?_
      unfold p_X12_extraOutcomes_54
      rw [hl]
      refine ⟨fun y => by rw [i_le (by omega) (by omega)] at y; omega, fun _ => ?_⟩
      have inner : ∀ (b j : Nat), b + j = M.length → (∀ j', j' < j → wa_ M j' < q.1) → vv_ γ m_X12_extraOutcomes 7 63 [(0, .ref 185), (3, .int (i_ ((L.take i).countP (fun q => decide (fp_ M q.1 = -1)) : Int))), (4, .int (i_ (j : Int))), (5, .int (i_ (i : Int)))] [] s Q := by
        intro b
        induction b with
        | zero =>
          intro j hj a
          have y := ih (i + 1) j (by omega) (by omega) (fun j' h1 h2 => by
            have := sL i (i + 1) (by omega) h2
            have := a j' h1
            omega)
          rw [take_s hq, List.countP_append, List.countP_singleton, if_pos (decide_eq_true (fp_no (fun u hu => by have := a u (by omega); omega)))] at y
          refine g_X12_extraOutcomes_63 zw ?_
          unfold p_X12_extraOutcomes_63
          rw [hM.1, show j = M.length by omega]
          rw [show j = M.length by omega] at y
          refine ⟨fun _ => ⟨fun _ => ?_, fun y => absurd (Int32.le_refl _) y⟩, fun y => absurd (Int32.le_refl _) y⟩
          rw [k1_, i_add, i_add]
          exact y
        | succ b ihb =>
          intro j hj a
          obtain ⟨m1, m2⟩ := wM j (by omega)
          have h44 := hO
          refine g_X12_extraOutcomes_63 zw ?_
          unfold p_X12_extraOutcomes_63
          rw [hM.1, i_le (by omega) (by omega)]
          refine ⟨fun y => by omega, fun _ => ⟨i_in (by omega) (by omega) (by omega), i_in (by omega) (by omega) (by omega), ?_⟩⟩
          rw [i_cl (by omega), i_cl (by omega), Int.toNat_natCast, Int.toNat_natCast, o1, m1, i_le (by omega) (by omega), i_eq (by omega) (by omega)]
          refine ⟨fun v => ⟨fun y => by omega, fun _ => ⟨i_in (by omega) (by omega) (by omega), i_in (by omega) (by omega) (by omega), fun v2 => ?_, fun v2 => ?_⟩⟩, fun v => ?_⟩
          · have y := ih (i + 1) j (by omega) (by omega) (fun j' h1 h2 => by
              have := sL i (i + 1) (by omega) h2
              have := a j' h1
              omega)
            rw [take_s hq, List.countP_append, List.countP_singleton, if_neg (by
              rw [decide_eq_true_eq, fp_at sM (show j < M.length by omega) (show (wa_ M j : Int) = q.1 by omega)]
              omega)] at y
            rw [k0_, k1_, i_add, i_add]
            exact y
          · have y := ih (i + 1) j (by omega) (by omega) (fun j' h1 h2 => by
              have := sL i (i + 1) (by omega) h2
              have := a j' h1
              omega)
            rw [take_s hq, List.countP_append, List.countP_singleton, if_pos (decide_eq_true (fp_no (fun u hu => by
              by_cases u1 : u < j
              · have := a u u1
                omega
              · by_cases u2 : u = j
                · rw [u2]
                  omega
                · have := sM j u (by omega) hu
                  omega)))] at y
            rw [k1_, i_add, i_add]
            exact y
          · rw [k1_, i_add]
            refine ihb (j + 1) (by omega) (fun j' h1 => ?_)
            by_cases u2 : j' = j
            · rw [u2]
              omega
            · exact a j' (by omega)
      exact inner (M.length - j) j (by omega) (fun j' h1 => by
        have := a j' h1 (by omega)
        omega)
  exact key L.length 0 0 rfl (Nat.zero_le _) (fun j' h => by omega)
theorem so_O (zP : Wp_ (aP_ A).1) (hm : m < 3) (hb : Bz_ (aP_ A).1) : So_ (O_ A m) := by
  rw [← or_O zP hm hb]
  exact srt_so (rlr_pw zP hm)
theorem r_extraOutcomes (h : Jr_ σ A c) (hc : c + 70 < 1073741822) (zP : Wp_ (aP_ A).1) (hb : Bz_ (aP_ A).1) (q1 : -2147483648 ≤ z ∧ z < 2147483648) (q2 : -2147483648 ≤ y ∧ y < 2147483648) : Ra_ γ m_X12_extraOutcomes 7 [.ref 185, .int (i_ z), .int (i_ y)] σ A c eI_ (mq_ z (fun m => mq_ y (fun k => ri_ ((O_ A m).countP (fun q => decide (fp_ (O_ A k) q.1 = -1)))))) := by
  have w0 : ∀ v, Wd (pt_I σ 185 0 v) := fun _ => h.1
  have ci := c_risNo (γ := γ) h.1 q1
  have cj := c_risNo (γ := γ) h.1 q2
  refine ra_of (e_X12_extraOutcomes h.1 ?_)
  unfold p_X12_extraOutcomes_0
  refine ⟨_, σ, h.1, ci, ?_⟩
  by_cases hz : 0 ≤ z ∧ z < 3
  · obtain ⟨m, rfl⟩ : ∃ m : Nat, z = m := ⟨z.toNat, by omega⟩
    have hm : m < 3 := by omega
    rw [decide_eq_false (fun v => v hz), mq_yes hm]
    refine ⟨fun _ => ⟨_, σ, h.1, cj, ?_⟩, fun v => absurd rfl v⟩
    by_cases hy : 0 ≤ y ∧ y < 3
    · obtain ⟨k, rfl⟩ : ∃ k : Nat, y = k := ⟨y.toNat, by omega⟩
      have hk : k < 3 := by omega
      rw [decide_eq_false (fun v => v hy), mq_yes hk]
      refine ⟨fun _ => ⟨_, _, w0 _, c_rf000 h.1, fun _ => ?_, fun v => absurd rfl v⟩, fun v => absurd rfl v⟩
      obtain ⟨s1, a1, a2, a3, a4⟩ := fw_out (γ := γ) (m := k) (fw_0 h) (by omega) zP hk hb
      obtain ⟨s2, b1, b2⟩ := fw_keep (γ := γ) a2 a3 a4
      obtain ⟨s3, d1, d2, d3, d4⟩ := fw_out (γ := γ) (m := m) b2 (by omega) zP hm hb
      exact ⟨s1, a2.1.1, a1, s2, b2.1.1, b1, s3, d2.1.1, d1, l_extra d2.1.1 d3 d4 (d2.2.2.2 _ rfl) (oc_bd a3) (so_O zP hm hb) (so_O zP hk hb) (fw_end d2 (by omega) rfl)⟩
    · rw [decide_eq_true hy]
      exact ⟨fun v => absurd v (by decide), fun _ => ⟨_, _, w0 _, c_rf100 h.1, fun v => absurd v (by decide), fun _ => re_fail h (mq_no hy) tcd_1 _⟩⟩
  · rw [decide_eq_true hz]
    exact ⟨fun v => absurd v (by decide), fun _ => ⟨_, _, w0 _, c_rf100 h.1, fun v => absurd v (by decide), fun _ => re_fail h (mq_no hz) tcd_1 _⟩⟩
/-- the place of an instruction among what is laid -/
theorem c_rlaidAt (zw : Wd s) (zL : Lr_ s p (ly_ p 0 (-1) (pN_ p))) {i : Nat} (hi : i < pN_ p) (hN : pN_ p ≤ 10) : fn_ γ m_X12_laidAt 0 [.ref 185, .int (i_ (i : Int))] s (.int (i_ (i : Int))) s := fn_q (fun Q zQ => e_X12_laidAt zw (by
  unfold p_X12_laidAt_0
  have key : ∀ k j : Nat, k + j = i → vv_ γ m_X12_laidAt 0 2 [(0, .ref 185), (1, .int (i_ (i : Int))), (2, .int (i_ (j : Int)))] [] s Q := by
    intro k
    induction k with
    | zero =>
      intro j hj
      have hj : j = i := by omega
      subst hj
      refine g_X12_laidAt_2 zw ?_
      unfold p_X12_laidAt_2
      rw [i_cl (by omega), Int.toNat_natCast, (zL j _ ((ly_0 (pN_ p)).2 j hi)).1]
      exact ⟨i_in (by omega) (by omega) (by omega), fun _ => zQ, fun y => absurd rfl y⟩
    | succ k ih =>
      intro j hj
      refine g_X12_laidAt_2 zw ?_
      unfold p_X12_laidAt_2
      rw [i_cl (by omega), Int.toNat_natCast, (zL j _ ((ly_0 (pN_ p)).2 j (by omega))).1, k1_, i_add, i_eq (by omega) (by omega)]
      exact ⟨i_in (by omega) (by omega) (by omega), fun y => by omega, fun _ => ih (j + 1) (by omega)⟩
  exact key i 0 (by omega)))
theorem c_rexec (zw : Wd σ) (zM : Mr_ σ g K) (v : Vr_ g K S) (q1 : t < 4) : (gx_ g S t = none ∧ fn_ γ m_X12_canExecute 2 [.ref 185, .long (lN (kr_ g K S)), .int (i_ (t : Int))] σ (.int (0 : Int32)) σ) ∨
    ∃ S2 s, gx_ g S t = some S2 ∧ fn_ γ m_X12_canExecute 2 [.ref 185, .long (lN (kr_ g K S)), .int (i_ (t : Int))] σ (.int (1 : Int32)) s ∧ ro_ dS_ σ s ∧ st_L s 185 32 = lN (kr_ g K S2) ∧ Sx_ σ g K S t s := by
  have key : sp_ γ m_X12_canExecute 2 [.ref 185, .long (lN (kr_ g K S)), .int (i_ (t : Int))] σ (fun r s => ∃ x, r = .inl (some x) ∧ ((gx_ g S t = none ∧ x = .int (0 : Int32) ∧ s = σ) ∨ ∃ S2, x = .int (1 : Int32) ∧ gx_ g S t = some S2 ∧ ro_ dS_ σ s ∧ st_L s 185 32 = lN (kr_ g K S2) ∧ Sx_ σ g K S t s)) :=
    l_rexec zw zM v q1 (fun e => ⟨_, rfl, Or.inl ⟨e, rfl, rfl⟩⟩) (fun s e h => ⟨_, rfl, Or.inr ⟨_, rfl, e, h.1, h.2.2.2, h⟩⟩)
  obtain ⟨x, s, f, ⟨h1, h2, h3⟩ | ⟨S2, h1, h2, h3, h4, h5⟩⟩ := fn_of (P := fun x s => (gx_ g S t = none ∧ x = .int (0 : Int32) ∧ s = σ) ∨ ∃ S2, x = .int (1 : Int32) ∧ gx_ g S t = some S2 ∧ ro_ dS_ σ s ∧ st_L s 185 32 = lN (kr_ g K S2) ∧ Sx_ σ g K S t s) key
  · rw [h2, h3] at f
    exact Or.inl ⟨h1, f⟩
  · rw [h1] at f
    exact Or.inr ⟨S2, s, h2, f, h3, h4, h5⟩
end RV
