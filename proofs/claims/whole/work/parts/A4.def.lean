/-! conditions that are parsed are good; define -/
section DF
variable {γ : ga_T} {σ σ1 : st_T} {A A' : ca_T} {R : rt_T} {B : Nat → Int} {n k b : Nat}
theorem ugp_ : ∀ (L1 L2 : List Int) (a c e : Nat), ug_ b L1 a c → ug_ b L2 c e → ug_ b (L1 ++ L2) a e
  | [], L2, a, c, e, h1, h2 => by
    have h1 : a = c := h1
    rw [h1]
    exact h2
  | u :: t, L2, a, c, e, h1, h2 => by
    rcases h1 with ⟨x1, x2, x3⟩ | ⟨x1, x2, x3⟩ | ⟨x1, x2, x3, x4⟩
    · exact Or.inl ⟨x1, x2, ugp_ t L2 a c e x3 h2⟩
    · exact Or.inr (Or.inl ⟨x1, x2, ugp_ t L2 (a - 1) c e x3 h2⟩)
    · exact Or.inr (Or.inr ⟨x1, x2, x3, ugp_ t L2 (a + 1) c e x4 h2⟩)
theorem cmt_u {s : Nat} {S S2 : qs_T} (h : cmt_ B n s S = .inl S2) : ∃ v : Nat, v < 8 ∧ S2.2.1.2.2 = S.2.1.2.2 ++ [((8 * s + v : Nat) : Int)] := by
  unfold cmt_ at h
  cases h1 : xp_ B n (if csg_ B n S.1 = 18 then 18 else 17) S with
  | inr e => rw [h1] at h; cases h
  | inl S3 =>
    rw [h1] at h
    have h3 : (match vl_ B n S3 with
      | .inr e => .inr e
      | .inl S4 => .inl (S4.1 + 1, pac_ S4.2.1 ((8 * s + (if csg_ B n S.1 = 18 then 4 else 0) + (tnu_ B n S4.1).toNat : Nat) : Int), S4.2.2) : qs_T ⊕ Nat) = .inl S2 := h
    cases h2 : vl_ B n S3 with
    | inr e => rw [h2] at h3; cases h3
    | inl S4 =>
      rw [h2] at h3
      obtain ⟨a1, a2, a3⟩ := vl_inl h2
      obtain ⟨-, c1⟩ := xp_S h1
      have e : S4.2 = S.2 := by rw [a1, c1]
      have h3 := (Sum.inl.inj h3).symm
      have t0 := num4_rng a2
      rw [← a1] at a2 a3 t0
      refine ⟨(if csg_ B n S.1 = 18 then 4 else 0) + (tnu_ B n S4.1).toNat, by split <;> omega, ?_⟩
      rw [h3]
      show S4.2.1.2.2 ++ [_] = _
      rw [e, Nat.add_assoc]
theorem cmp_u {S S2 : qs_T} (hP : Wp_ S.2.1.1) (hu : csg_ B n S.1 = 3 → lnm_ S.2.1 (tby_ B n S.1) ≠ -1) (h : cmp_ B n S = .inl S2) : ∃ u : Int, S2.2.1.2.2 = S.2.1.2.2 ++ [u] ∧ 0 ≤ u ∧ u.toNat / 8 + 2 ≤ cb_ S.2.1.1 ∧ u.toNat / 8 % 2 = 0 := by
  have fin : ∀ (s v : Nat), v < 8 → s + 2 ≤ cb_ S.2.1.1 → s % 2 = 0 → 0 ≤ ((8 * s + v : Nat) : Int) ∧ ((8 * s + v : Nat) : Int).toNat / 8 + 2 ≤ cb_ S.2.1.1 ∧ ((8 * s + v : Nat) : Int).toNat / 8 % 2 = 0 := by
    intro s v hv h1 h2
    rw [Int.toNat_natCast, show (8 * s + v) / 8 = s by omega]
    exact ⟨by omega, h1, h2⟩
  unfold cmp_ at h
  by_cases c3 : csg_ B n S.1 = 3
  · rw [if_pos c3] at h
    have r := lnm_rng (hu c3)
    obtain ⟨v, h1, h2⟩ := cmt_u h
    exact ⟨_, h2, fin _ v h1 (by unfold cb_; omega) (by omega)⟩
  · rw [if_neg c3] at h
    cases h1 : xp_ B n 16 (S.1 + 1, S.2) with
    | inr e => rw [h1] at h; cases h
    | inl S3 =>
      rw [h1] at h
      dsimp only at h
      obtain ⟨-, c1⟩ := xp_S h1
      have e3 : S3.2 = S.2 := by rw [c1]
      split at h
      · cases h
      · next c2 =>
        split at h
        · next c4 =>
          obtain ⟨j, z1, z2, z3⟩ := itg_iff.mp c4
          have W := hP.2.1 j z1
          have t0 := W.1
          have t1 := W.2.1
          have r2 := (csg_2 (Classical.not_not.mp c2)).2.2.1
          obtain ⟨v, y1, y2⟩ := cmt_u h
          have y2 : S2.2.1.2.2 = S3.2.1.2.2 ++ _ := y2
          rw [e3] at y2
          exact ⟨_, y2, fin _ v y1 (by unfold cb_; omega) (by unfold cb_; omega)⟩
        · cases h
/-- what a reading puts behind the condition -/
def Ug2_ (b w : Nat) (S S2 : qs_T) : Prop := S2.2.1.1 = S.2.1.1 ∧ S2.2.1.2.1 = S.2.1.2.1 ∧ ∃ L, S2.2.1.2.2 = S.2.1.2.2 ++ L ∧ ∀ k, (w ≤ 2 → ug_ b L k (k + 1)) ∧ (2 < w → 1 ≤ k → ug_ b L k k)
theorem rd_ug : ∀ (f w d : Nat) (S S2 : qs_T), Wp_ S.2.1.1 → w ≤ 4 → rd_ B n f w d S = some (.inl S2) → Ug2_ (cb_ S.2.1.1) w S S2 := by
  intro f
  induction f with
  | zero =>
    intro w d S S2 _ _ h
    cases h
  | succ f ih =>
    intro w d S S2 hP hw h
    unfold rd_ at h
    by_cases w0 : w = 0
    · subst w0
      rw [if_pos rfl] at h
      split at h
      · cases h
      · split at h
        · cases h
        · split at h
          · cases h
          · next c3 =>
            split at h
            · cases h
            · split at h
              · have h := Option.some.inj h
                obtain ⟨a1, a2, -, -⟩ := cmp_post h
                obtain ⟨u, b1, b2, b3, b4⟩ := cmp_u (S := (S.1, S.2.1, S.2.2 + 1)) hP (fun z y => c3 ⟨z, y⟩) h
                exact ⟨a1, a2, [u], b1, fun k => ⟨fun _ => Or.inr (Or.inr ⟨b2, b3, b4, rfl⟩), fun z => by omega⟩⟩
              · split at h
                · obtain ⟨S3, h1, h2⟩ := ob_inl h
                  obtain ⟨a1, a2, L, a3, a4⟩ := ih 0 (d + 1) (S.1 + 1, S.2.1, S.2.2 + 1) S3 hP (by decide) h1
                  have h2 := Sum.inl.inj (Option.some.inj h2)
                  rw [← h2]
                  refine ⟨a1, a2, L ++ [-1], ?_, fun k => ⟨fun _ => ?_, fun z => by omega⟩⟩
                  · show S3.2.1.2.2 ++ [-1] = _
                    rw [a3, List.append_assoc]
                  · exact ugp_ L [-1] k (k + 1) (k + 1) ((a4 k).1 (by decide)) (Or.inl ⟨rfl, by omega, rfl⟩)
                · obtain ⟨S3, h1, h2⟩ := ob_inl h
                  obtain ⟨a1, a2, L, a3, a4⟩ := ih 1 (d + 1) (S.1 + 1, S.2.1, S.2.2 + 1) S3 hP (by decide) h1
                  obtain ⟨-, e⟩ := xp_S (Option.some.inj h2)
                  rw [e]
                  exact ⟨a1, a2, L, a3, fun k => ⟨fun _ => (a4 k).1 (by decide), fun z => by omega⟩⟩
    · rw [if_neg w0] at h
      have two : ∀ (w1 w2 : Nat) (g : qs_T → qs_T) (y : Int), w1 ≤ 2 → 2 < w2 → w2 ≤ 4 → (∀ T, (g T).2.1 = pac_ T.2.1 y) → (y = -2 ∨ y = -3) → ∀ (T : qs_T), T.2.1 = S.2.1 → ob_ (rd_ B n f w1 d T) (fun S2 => rd_ B n f w2 d (g S2)) = some (.inl S2) → 2 < w → Ug2_ (cb_ S.2.1.1) w S S2 := by
        intro w1 w2 g y hw1 hw2 hw4 hg hy T hT h hw
        obtain ⟨S3, h1, h2⟩ := ob_inl h
        obtain ⟨a1, a2, L, a3, a4⟩ := ih w1 d T S3 (by rw [hT]; exact hP) (by omega) h1
        have eg : (g S3).2.1.1 = S.2.1.1 := by rw [hg]; show S3.2.1.1 = _; rw [a1, hT]
        obtain ⟨b1, b2, L2, b3, b4⟩ := ih w2 d (g S3) S2 (by rw [eg]; exact hP) hw4 h2
        rw [hT] at a1 a2 a3 a4
        rw [eg] at b1 b4
        have e2 : (g S3).2.1.2.1 = S.2.1.2.1 := by rw [hg]; exact a2
        have e3 : (g S3).2.1.2.2 = S.2.1.2.2 ++ L ++ [y] := by
          rw [hg]
          show S3.2.1.2.2 ++ [y] = _
          rw [a3]
        refine ⟨b1, b2.trans e2, L ++ [y] ++ L2, ?_, fun k => ⟨fun z => by omega, fun _ hk => ?_⟩⟩
        · rw [b3, e3]
          simp only [List.append_assoc]
        · exact ugp_ (L ++ [y]) L2 k k k (ugp_ L [y] k (k + 1) k ((a4 k).1 hw1) (Or.inr (Or.inl ⟨hy, by omega, by show k + 1 - 1 = k; omega⟩))) ((b4 k).2 hw2 hk)
      have one : ∀ (w1 w2 : Nat), w1 ≤ 2 → 2 < w2 → w2 ≤ 4 → ob_ (rd_ B n f w1 d S) (fun S2 => rd_ B n f w2 d S2) = some (.inl S2) → w ≤ 2 → Ug2_ (cb_ S.2.1.1) w S S2 := by
        intro w1 w2 hw1 hw2 hw4 h hw
        obtain ⟨S3, h1, h2⟩ := ob_inl h
        obtain ⟨a1, a2, L, a3, a4⟩ := ih w1 d S S3 hP (by omega) h1
        obtain ⟨b1, b2, L2, b3, b4⟩ := ih w2 d S3 S2 (by rw [a1]; exact hP) hw4 h2
        rw [a1] at b1 b4
        refine ⟨b1, b2.trans a2, L ++ L2, by rw [b3, a3, List.append_assoc], fun k => ⟨fun _ => ?_, fun z => by omega⟩⟩
        exact ugp_ L L2 k (k + 1) (k + 1) ((a4 k).1 hw1) ((b4 (k + 1)).2 hw2 (by omega))
      by_cases w1 : w = 1
      · rw [if_pos w1] at h
        exact one 2 3 (by decide) (by decide) (by decide) h (by omega)
      · rw [if_neg w1] at h
        by_cases w2 : w = 2
        · rw [if_pos w2] at h
          exact one 0 4 (by decide) (by decide) (by decide) h (by omega)
        · rw [if_neg w2] at h
          by_cases w3 : w = 3
          · rw [if_pos w3] at h
            split at h
            · exact two 2 3 (fun S2 => (S2.1, pac_ S2.2.1 (-3), S2.2.2)) (-3) (by decide) (by decide) (by decide) (fun T => rfl) (Or.inr rfl) (S.1 + 1, S.2) rfl h (by omega)
            · rw [← Sum.inl.inj (Option.some.inj h)]
              exact ⟨rfl, rfl, [], (List.append_nil _).symm, fun k => ⟨fun z => by omega, fun _ _ => rfl⟩⟩
          · rw [if_neg w3] at h
            split at h
            · exact two 0 4 (fun S2 => (S2.1, pac_ S2.2.1 (-2), S2.2.2)) (-2) (by decide) (by decide) (by decide) (fun T => rfl) (Or.inl rfl) (S.1 + 1, S.2) rfl h (by omega)
            · rw [← Sum.inl.inj (Option.some.inj h)]
              exact ⟨rfl, rfl, [], (List.append_nil _).symm, fun k => ⟨fun z => by omega, fun _ _ => rfl⟩⟩
/-- what is parsed is good -/
theorem pr_pg {S : qs_T} (h : PR_ B n (.inl S)) (hN : Nv_ S.2.1) : Pg_ S.2.1 ∧ Cn_ S.2.1.1 := by
  have pe : ∀ {S2 : qs_T}, PE_ B n S2 (.inl S) → S = S2 := by
    intro S2 h
    unfold PE_ at h
    split at h
    · exact Sum.inl.inj h
    · cases h
  rcases h with ⟨e, -, h⟩ | ⟨S1, h1, h⟩
  · cases h
  · have w1 := lcl_w 4 _ S1 w_P0 h1
    rcases h with ⟨e, -, h⟩ | ⟨S2, h2, h⟩
    · cases h
    · have w2 := thl_w 5 S1 S2 w1 h2
      rcases h with ⟨-, h⟩ | ⟨-, h⟩
      · have e := pe h
        rw [e] at hN ⊢
        exact ⟨⟨w2.1, hN, 0, by decide, by rw [w2.2.2]; exact rfl⟩, w2.2.1⟩
      · rcases h with ⟨e, -, h⟩ | ⟨S3, ⟨f, h3⟩, h⟩
        · cases h
        · obtain ⟨a1, a2, L, a3, a4⟩ := rd_ug f 1 0 (S2.1 + 1, S2.2) S3 w2.1 (by decide) h3
          have a1 : S3.2.1.1 = S2.2.1.1 := a1
          have a3 : S3.2.1.2.2 = S2.2.1.2.2 ++ L := a3
          rcases h with ⟨e, -, h⟩ | ⟨S4, h4, h⟩
          · cases h
          · obtain ⟨-, e4⟩ := xp_S h4
            have e := pe h
            rw [e] at hN ⊢
            rw [e4] at hN ⊢
            show Pg_ S3.2.1 ∧ Cn_ S3.2.1.1
            rw [w2.2.2, List.nil_append] at a3
            refine ⟨⟨by rw [a1]; exact w2.1, hN, 1, Nat.le_refl _, ?_⟩, by rw [a1]; exact w2.2.1⟩
            rw [a3, a1]
            exact (a4 0).1 (by decide)
theorem c_chclear (zw : Wd σ) : fw_ γ m_X0_clear 0 [.ref 179] σ (pt_I σ 179 1 0) := fw_q (fun Q zQ => e_X0_clear zw zQ)
/-- errors are never 0 -/
def Er_ (B : Nat → Int) (n e : Nat) : Prop := ∃ k c, 1 ≤ c ∧ c ≤ 5 ∧ e = er_ B n k c
theorem er_1 {k : Nat} : Er_ B n (er_ B n k 1) := ⟨k, 1, by decide, by decide, rfl⟩
theorem er_2 {k : Nat} : Er_ B n (er_ B n k 2) := ⟨k, 2, by decide, by decide, rfl⟩
theorem er_3 {k : Nat} : Er_ B n (er_ B n k 3) := ⟨k, 3, by decide, by decide, rfl⟩
theorem er_4 {k : Nat} : Er_ B n (er_ B n k 4) := ⟨k, 4, by decide, by decide, rfl⟩
theorem er_5 {k : Nat} : Er_ B n (er_ B n k 5) := ⟨k, 5, by decide, by decide, rfl⟩
theorem xp_e {c e : Nat} {S : qs_T} (h : xp_ B n c S = .inr e) : Er_ B n e := by
  unfold xp_ at h
  split at h
  · cases h
  · rw [← Sum.inr.inj h]; exact er_1
theorem vl_e {e : Nat} {S : qs_T} (h : vl_ B n S = .inr e) : Er_ B n e := by
  unfold vl_ at h
  split at h
  · split at h
    · cases h
    · rw [← Sum.inr.inj h]; exact er_2
  · rw [← Sum.inr.inj h]; exact er_1
theorem rtg_e {t e : Nat} {S : qs_T} (h : rtg_ B n t S = .inr e) : Er_ B n e := by
  unfold rtg_ at h
  split at h
  · split at h
    · rw [← Sum.inr.inj h]; exact er_3
    · cases h
  · rw [← Sum.inr.inj h]; exact er_1
theorem rlo_e {e : Nat} {S : qs_T} (h : rlo_ B n S = .inr e) : Er_ B n e := by
  unfold rlo_ at h
  split at h
  · split at h
    · rw [← Sum.inr.inj h]; exact er_4
    · cases h
  · rw [← Sum.inr.inj h]; exact er_1
theorem rva_e {t e : Nat} {S : qs_T} (h : rva_ B n t S = .inr e) : Er_ B n e := by
  unfold rva_ at h
  split at h
  · split at h
    · cases h
    · rw [← Sum.inr.inj h]; exact er_4
  · cases hv : vl_ B n S with
    | inl S3 => rw [hv] at h; cases h
    | inr e2 =>
      rw [hv] at h
      rw [← Sum.inr.inj h]; exact vl_e hv
theorem ins_e {t e : Nat} {kd : Int} {S : qs_T} (h : ins_ B n t kd S = .inr e) : Er_ B n e := by
  unfold ins_ at h
  split at h
  · rw [← Sum.inr.inj h]; exact er_5
  · cases h1 : (if kd = 1 ∨ kd = 2 then rtg_ B n t (S.1 + 1, S.2) else .inl (-1, (S.1 + 1, S.2)) : (Int × qs_T) ⊕ Nat) with
    | inr e2 =>
      rw [h1] at h
      rw [← Sum.inr.inj h]
      split at h1
      · exact rtg_e h1
      · cases h1
    | inl y1 =>
      obtain ⟨g, S3⟩ := y1
      rw [h1] at h
      dsimp only at h
      cases h2 : (if kd = 3 then .inl (-1, S3) else rlo_ B n S3 : (Int × qs_T) ⊕ Nat) with
      | inr e2 =>
        rw [h2] at h
        rw [← Sum.inr.inj h]
        split at h2
        · cases h2
        · exact rlo_e h2
      | inl y2 =>
        obtain ⟨l, S4⟩ := y2
        rw [h2] at h
        dsimp only at h
        cases h3 : (if kd = 0 ∨ kd = 2 then rva_ B n t S4 else .inl ((-1, -1), S4) : ((Int × Int) × qs_T) ⊕ Nat) with
        | inr e2 =>
          rw [h3] at h
          rw [← Sum.inr.inj h]
          split at h3
          · exact rva_e h3
          · cases h3
        | inl y3 =>
          obtain ⟨x, S5⟩ := y3
          rw [h3] at h
          dsimp only at h
          cases h4 : xp_ B n 15 S5 with
          | inr e2 =>
            rw [h4] at h
            rw [← Sum.inr.inj h]
            exact xp_e h4
          | inl S6 => rw [h4] at h; cases h
theorem itl_e {t e : Nat} : ∀ (f : Nat) (S : qs_T), itl_ B n t f S = .inr e → Er_ B n e
  | 0, S, h => by cases h
  | f + 1, S, h => by
    have h : (if kd_ (csg_ B n S.1) = -1 then .inl S else match ins_ B n t (kd_ (csg_ B n S.1)) S with
      | .inr e => .inr e
      | .inl S2 => itl_ B n t f S2 : qs_T ⊕ Nat) = .inr e := h
    split at h
    · cases h
    · cases h1 : ins_ B n t (kd_ (csg_ B n S.1)) S with
      | inr e2 =>
        rw [h1] at h
        rw [← Sum.inr.inj h]
        exact ins_e h1
      | inl S3 =>
        rw [h1] at h
        exact itl_e f S3 h
theorem thr_e {e : Nat} {S : qs_T} (h : thr_ B n S = .inr e) : Er_ B n e := by
  unfold thr_ at h
  split at h
  · rw [← Sum.inr.inj h]; exact er_5
  · cases h1 : xp_ B n 15 (S.1 + 1, pat_ S.2.1, S.2.2) with
    | inr e2 =>
      rw [h1] at h
      rw [← Sum.inr.inj h]
      exact xp_e h1
    | inl S3 =>
      rw [h1] at h
      exact itl_e 8 S3 h
theorem thl_e {e : Nat} : ∀ (f : Nat) (S : qs_T), thl_ B n f S = .inr e → Er_ B n e
  | 0, S, h => by cases h
  | f + 1, S, h => by
    have h : (if csg_ B n S.1 = 6 then (match thr_ B n S with
      | .inr e => .inr e
      | .inl S2 => thl_ B n f S2) else .inl S : qs_T ⊕ Nat) = .inr e := h
    split at h
    · cases h1 : thr_ B n S with
      | inr e2 =>
        rw [h1] at h
        rw [← Sum.inr.inj h]
        exact thr_e h1
      | inl S3 =>
        rw [h1] at h
        exact thl_e f S3 h
    · cases h
theorem dec_e {e : Nat} {S : qs_T} (h : dec_ B n S = .inr e) : Er_ B n e := by
  unfold dec_ at h
  split at h
  · rw [← Sum.inr.inj h]; exact er_5
  · split at h
    · rw [← Sum.inr.inj h]; exact er_1
    · split at h
      · rw [← Sum.inr.inj h]; exact er_3
      · split at h
        · exact xp_e h
        · next e2 h2 =>
          rw [← Sum.inr.inj h]
          exact vl_e h2
theorem lcl_e {e : Nat} : ∀ (f : Nat) (S : qs_T), lcl_ B n f S = .inr e → Er_ B n e
  | 0, S, h => by cases h
  | f + 1, S, h => by
    have h : (if csg_ B n S.1 = 5 then (match dec_ B n S with
      | .inr e => .inr e
      | .inl S2 => lcl_ B n f S2) else .inl S : qs_T ⊕ Nat) = .inr e := h
    split at h
    · cases h1 : dec_ B n S with
      | inr e2 =>
        rw [h1] at h
        rw [← Sum.inr.inj h]
        exact dec_e h1
      | inl S3 =>
        rw [h1] at h
        exact lcl_e f S3 h
    · cases h
theorem cmt_e {s e : Nat} {S : qs_T} (h : cmt_ B n s S = .inr e) : Er_ B n e := by
  unfold cmt_ at h
  cases h1 : xp_ B n (if csg_ B n S.1 = 18 then 18 else 17) S with
  | inr e2 =>
    rw [h1] at h
    rw [← Sum.inr.inj h]
    exact xp_e h1
  | inl S3 =>
    rw [h1] at h
    have h3 : (match vl_ B n S3 with
      | .inr e => .inr e
      | .inl S4 => .inl (S4.1 + 1, pac_ S4.2.1 ((8 * s + (if csg_ B n S.1 = 18 then 4 else 0) + (tnu_ B n S4.1).toNat : Nat) : Int), S4.2.2) : qs_T ⊕ Nat) = .inr e := h
    cases h2 : vl_ B n S3 with
    | inr e2 =>
      rw [h2] at h3
      rw [← Sum.inr.inj h3]
      exact vl_e h2
    | inl S4 => rw [h2] at h3; cases h3
theorem cmp_e {e : Nat} {S : qs_T} (h : cmp_ B n S = .inr e) : Er_ B n e := by
  unfold cmp_ at h
  split at h
  · exact cmt_e h
  · cases h1 : xp_ B n 16 (S.1 + 1, S.2) with
    | inr e2 =>
      rw [h1] at h
      rw [← Sum.inr.inj h]
      exact xp_e h1
    | inl S3 =>
      rw [h1] at h
      dsimp only at h
      split at h
      · rw [← Sum.inr.inj h]; exact er_1
      · split at h
        · exact cmt_e h
        · rw [← Sum.inr.inj h]; exact er_4
theorem ob_e {x : Option (qs_T ⊕ Nat)} {k : qs_T → Option (qs_T ⊕ Nat)} {e : Nat} (h : ob_ x k = some (.inr e)) : x = some (.inr e) ∨ ∃ S, k S = some (.inr e) := by
  cases x with
  | none => cases h
  | some y =>
    cases y with
    | inl S => exact Or.inr ⟨S, h⟩
    | inr e2 => exact Or.inl h
theorem rd_e {e : Nat} : ∀ (f w d : Nat) (S : qs_T), rd_ B n f w d S = some (.inr e) → Er_ B n e := by
  intro f
  induction f with
  | zero =>
    intro w d S h
    cases h
  | succ f ih =>
    intro w d S h
    have obe : ∀ (w1 d1 w2 d2 : Nat) (T : qs_T) (g : qs_T → qs_T), ob_ (rd_ B n f w1 d1 T) (fun S2 => rd_ B n f w2 d2 (g S2)) = some (.inr e) → Er_ B n e := by
      intro w1 d1 w2 d2 T g h
      rcases ob_e h with y | ⟨S2, y⟩
      · exact ih _ _ _ y
      · exact ih _ _ _ y
    unfold rd_ at h
    split at h
    · split at h
      · rw [← Sum.inr.inj (Option.some.inj h)]; exact er_1
      · split at h
        · rw [← Sum.inr.inj (Option.some.inj h)]; exact er_2
        · split at h
          · rw [← Sum.inr.inj (Option.some.inj h)]; exact er_4
          · split at h
            · rw [← Sum.inr.inj (Option.some.inj h)]; exact er_5
            · split at h
              · exact cmp_e (Option.some.inj h)
              · split at h
                · rcases ob_e h with y | ⟨S2, y⟩
                  · exact ih _ _ _ y
                  · cases y
                · rcases ob_e h with y | ⟨S2, y⟩
                  · exact ih _ _ _ y
                  · exact xp_e (Option.some.inj y)
    · split at h
      · exact obe 2 d 3 d S (fun S => S) h
      · split at h
        · exact obe 0 d 4 d S (fun S => S) h
        · split at h
          · split at h
            · exact obe 2 d 3 d (S.1 + 1, S.2) (fun S2 => (S2.1, pac_ S2.2.1 (-3), S2.2.2)) h
            · cases Option.some.inj h
          · split at h
            · exact obe 0 d 4 d (S.1 + 1, S.2) (fun S2 => (S2.1, pac_ S2.2.1 (-2), S2.2.2)) h
            · cases Option.some.inj h
theorem pr_e {e : Nat} (h : PR_ B n (.inr e)) : Er_ B n e := by
  have pe : ∀ {S2 : qs_T}, PE_ B n S2 (.inr e) → Er_ B n e := by
    intro S2 h
    unfold PE_ at h
    split at h
    · cases h
    · rw [Sum.inr.inj h]; exact er_1
  rcases h with ⟨e1, h1, h⟩ | ⟨S1, h1, h⟩
  · rw [Sum.inr.inj h]; exact lcl_e 4 _ h1
  · rcases h with ⟨e1, h2, h⟩ | ⟨S2, h2, h⟩
    · rw [Sum.inr.inj h]; exact thl_e 5 _ h2
    · rcases h with ⟨-, h⟩ | ⟨-, h⟩
      · exact pe h
      · rcases h with ⟨e1, ⟨f, h3⟩, h⟩ | ⟨S3, -, h⟩
        · rw [Sum.inr.inj h]; exact rd_e f _ _ _ h3
        · rcases h with ⟨e1, h4, h⟩ | ⟨S4, h4, h⟩
          · rw [Sum.inr.inj h]; exact xp_e h4
          · exact pe h
/-- define: the error, or the program -/
theorem c_define (h : J_ σ A R) : ∃ r A', PR_ (aB_ A) (an2_ A) r ∧ Ans_ γ m_X11_define 62 [.ref 128] σ R A' (match r with | .inl S => ri_ (pN_ S.2.1.1) | .inr e => ri_ (-(e : Int))) ∧
    ((∃ S, r = .inl S ∧ A' = (aB_ A, 0, S.2.1, aO_ A, [], none) ∧ Cn_ S.2.1.1) ∨ ∃ e, r = .inr e ∧ A' = (aB_ A, 0, A.2.2)) := by
  have w := h.1.1
  have hl := h.1.2.2
  obtain ⟨j1, j2⟩ := j_len h (n := 0) (Nat.zero_le _)
  have t1 : Tx_ (pt_I σ 128 1 (i_ ((0 : Nat) : Int))) (aB_ A) (an2_ A) := ⟨h.1.2.1.1, fun i zi => by rw [st_pI, if_neg (by omega)]; exact h.1.2.1.2 i zi⟩
  have w1 : Wd (pt_I σ 128 1 (i_ ((0 : Nat) : Int))) := w
  have e0 : pt_I σ 128 1 (0 : Int32) = pt_I σ 128 1 (i_ ((0 : Nat) : Int)) := rfl
  obtain ⟨v, s, r, f1, f2, f3, f4, f5⟩ := c_parse (γ := γ) w1 t1
  obtain ⟨f31, f32, f33, f34⟩ := f3
  have pqs : Pq_ s 132 (aP_ A) := pq_eh j1.2.1.1 (f31 _ (by omega)) (f31 _ (by omega)) (f31 _ (by omega)) (f31 _ (by omega)) (f31 _ (by omega))
  rcases f5 with ⟨S, rfl, rfl, hP⟩ | ⟨e, rfl, rfl⟩
  · obtain ⟨pg, cn⟩ := pr_pg f4 hP.2.2.2.1
    obtain ⟨s2, g1, g2, g3, g4⟩ := c_copyFrom (γ := γ) hP.1 hP.2.2.1
    have xc : Xc_ s2 (aC_ A) := Xc_eh (Xc_eh h.2.2.1.2.1 (eh_tr (eh_I (by decide)) (f31 179 (by omega))) (eh_tr (eh_I (by decide)) (f31 180 (by omega)))) (g4.1 179 (by omega)) (g4.1 180 (by omega))
    have w3 : Wd (pt_I s2 179 1 0) := g2
    have h3 : ∀ b, b ≠ 179 → eh_ s2 (pt_I s2 179 1 0) b := fun b z => eh_I z
    have x3 : Xc_ (pt_I s2 179 1 0) [] := ⟨Nat.zero_le _, st_sI _ _ _ _, fun k c z => by cases z⟩
    have all : ∀ b, (b < 132 ∨ 146 < b) → b ≠ 179 → eh_ (pt_I σ 128 1 (i_ ((0 : Nat) : Int))) (pt_I s2 179 1 0) b := fun b z1 z2 => eh_tr (eh_tr (f31 b (by omega)) (g4.1 b (by omega))) (h3 b z2)
    obtain ⟨b1, b2⟩ := jb_mk (A' := (aB_ A, 0, S.2.1, aO_ A, [], none)) j1 w3 (g4.2.1.trans f32) (g4.2.2.1.trans f33) (g4.2.2.2.trans f34) (fun b z1 z2 z3 => all b (by omega) z2) ⟨⟨Nat.zero_le _, fun i zi => absurd zi (Nat.not_lt_zero i)⟩, by rw [(all 128 (by omega) (by omega)).1]; exact st_sI _ _ _ _⟩ ⟨pq_eh g3 (h3 _ (by omega)) (h3 _ (by omega)) (h3 _ (by omega)) (h3 _ (by omega)) (h3 _ (by omega)), pg⟩ ⟨Xo_eh j1.2.2.1.1 (all _ (by omega) (by omega)) (all _ (by omega) (by omega)), x3⟩
    obtain ⟨s4, k1, k2, k3⟩ := c_forgets (γ := γ) b1
    have cN := c_size (γ := γ) (Or.inl rfl) k2.1.1 k2.2.1.1.1
    refine ⟨.inl S, _, f4, ⟨s4, R, sq_ (fun Q zQ => e_X11_define w ?_), k2, co_1 (co_tr j2 (co_tr b2 k3))⟩, Or.inl ⟨S, rfl, rfl, cn⟩⟩
    unfold p_X11_define_0
    rw [hl, e0]
    exact ⟨_, s, f2, f1, fun _ => ⟨s2, g2, g1, _, w3, c_chclear g2, s4, k2.1.1, k1, _, s4, k2.1.1, cN, zQ⟩, fun z => absurd rfl z⟩
  · have hy : ∀ b, (b < 137 ∨ 146 < b) → eh_ (pt_I σ 128 1 (i_ ((0 : Nat) : Int))) s b := f31
    obtain ⟨k1, k2⟩ := j_mk (A' := (aB_ A, 0, A.2.2)) j1 f2 f32 f33 f34 (fun b z => hy b (by omega)) ⟨⟨Nat.zero_le _, fun i zi => absurd zi (Nat.not_lt_zero i)⟩, by rw [(hy 128 (by omega)).1]; exact st_sI _ _ _ _⟩ ⟨pqs, h.2.1.2⟩ ⟨Xo_eh j1.2.2.1.1 (hy _ (by omega)) (hy _ (by omega)), Xc_eh j1.2.2.1.2.1 (hy _ (by omega)) (hy _ (by omega)), Ep_eh j1.2.2.1.2.2 (hy _ (by omega)) (hy _ (by omega)) (hy _ (by omega)) (hy _ (by omega))⟩ (fun m hm => j_kn j1 f32 (fun b z => hy b (by omega)) hm)
    refine ⟨.inr e, _, f4, ⟨s, R, sq_ (fun Q zQ => e_X11_define w ?_), k1, co_1 (co_tr j2 k2)⟩, Or.inr ⟨e, rfl, rfl⟩⟩
    unfold p_X11_define_0
    rw [hl, e0]
    have en : -(i_ ((e : Nat) : Int)) = i_ (-((e : Nat) : Int)) := i_neg _
    obtain ⟨k, c, c1, c2, ee⟩ := pr_e f4
    have tq : tq_ (aB_ A) (an2_ A) k ≤ 600 := Nat.le_trans (tq_le k) h.1.2.1.1
    have el : e < 5000 := by
      rw [ee]
      unfold er_
      omega
    have e1 : 1 ≤ e := by
      rw [ee]
      unfold er_
      omega
    refine ⟨_, s, f2, f1, fun z => ?_, fun _ => ?_⟩
    · rw [show (0 : Int32) = i_ 0 from rfl, i_eq (by omega) (by decide)] at z
      omega
    · rw [en]
      exact zQ
end DF
