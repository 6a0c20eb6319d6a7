/-! what a load can read (T4) -/
section RV
variable {p : pr_T} {g : gm_T} {m n t u w r i : Nat} {S S2 X Y S0 : gs_T} {F : Nat → Bool}
/-- the program goes on to its end -/
theorem live_ (zP : Wp_ p) (zV : Vg_ p S) (hf : fi_ p S = false) : ∃ t w S2, t < pT_ p ∧ w ≤ pL_ p ∧ gt_ (gcl_ p m F) S t w = some S2 := by
  by_cases c : ∃ n, sW_ S n = true
  · obtain ⟨n, hn⟩ := c
    obtain ⟨n1, n2⟩ := zV.2.2 n hn
    have th := zP.2.1 n n1
    obtain ⟨t, ht⟩ : ∃ t : Nat, pC_ p n 0 = t := ⟨(pC_ p n 0).toNat, by omega⟩
    obtain ⟨s1, s2⟩ := (gB_th zP n1).mp ht
    have gm := gB_m (p := p) t
    cases e : ga1_ (gcl_ p m F) S t with
    | none =>
      have y := (f1_none _ _ _).mp e n s1 (by rw [gl_c]; show n < gB0_ p t + _; omega)
      rw [hn] at y
      cases y
    | some n0 =>
      obtain ⟨e1, e2, e3, e4⟩ := (f1_some _ _ _).mp e
      obtain ⟨k1, k2⟩ := zV.2.2 n0 e3
      have lk := (zP.2.1 n0 k1).2.2.2.2.1 (by omega)
      obtain ⟨l, hl⟩ : ∃ l : Nat, pC_ p n0 2 = l := ⟨(pC_ p n0 2).toNat, by omega⟩
      have y1 : gw1_ (gcl_ p m F) S t (l : Int) = some n0 := by
        refine (f1_some _ _ _).mpr ⟨e1, e2, ?_, fun j j1 j2 => ?_⟩
        · rw [e3, Bool.true_and]
          exact decide_eq_true hl
        · rw [e4 j j1 j2, Bool.false_and]
      have y3 : gn_ (gcl_ p m F) S t l = some n0 := by
        unfold gn_
        rw [y1]
        dsimp only
        rw [e, if_neg (fun y => y.2 rfl)]
      refine ⟨t, l + 1, _, by omega, by omega, (show gt_ (gcl_ p m F) S t (l + 1) = some (sP_ S, sR_ S, un_ (sM_ S) l (gv_ (gcl_ p m F) S t n0), ub_ (sW_ S) n0 false) from ?_)⟩
      unfold gt_
      rw [if_neg (by omega), Nat.add_sub_cancel]
      unfold gc_
      rw [y3]
  · have nW : ∀ n, sW_ S n = false := fun n => by
      cases e : sW_ S n with
      | false => rfl
      | true => exact absurd ⟨n, e⟩ c
    by_cases d : ∃ t, t < pT_ p ∧ sP_ S t ≠ gl_ (gcl_ p 0 (fun _ => false)) t
    · obtain ⟨t, t1, t2⟩ := d
      have y := zV.2.1 t
      exact ⟨t, 0, _, t1, Nat.zero_le _, (show gt_ (gcl_ p m F) S t 0 = _ from gx_b (by show sP_ S t < gl_ (gcl_ p 0 (fun _ => false)) t; omega) (fun y => y.2 ((f1_none _ _ _).mpr (fun j _ _ => nW j))))⟩
    · exfalso
      have y := (fi_iff zP zV).mpr ⟨fun t ht => Classical.byContradiction (fun y => d ⟨t, ht, y⟩), nW⟩
      rw [hf] at y
      cases y
theorem to_fin (zP : Wp_ p) : ∀ (k : Nat) (S : gs_T), lft_ p S ≤ k → Vg_ p S → ∃ S2, Rc_ (gcl_ p m F) S S2 ∧ Vg_ p S2 ∧ fi_ p S2 = true
  | 0, S, hk, zV => ⟨S, rc_0, zV, lft_fin zP zV (by omega)⟩
  | k + 1, S, hk, zV => by
    cases hf : fi_ p S with
    | true => exact ⟨S, rc_0, zV, hf⟩
    | false =>
      obtain ⟨t, w, S2, h1, h2, h3⟩ := live_ (m := m) (F := F) zP zV hf
      have l := lft_step zP h3
      obtain ⟨S3, r1, r2, r3⟩ := to_fin zP k S2 (by omega) (vg_step zP zV h1 h2 h3)
      have bT := zP.1.2.1
      have bL := zP.1.2.2.1
      exact ⟨S3, rc_tr (rc_s rc_0 (by omega) (by omega) h3) r1, r2, r3⟩
/-- a register that is written stays -/
theorem st_stay (zP : Wp_ p) (zV : Vg_ p X) (zn : n < pN_ p) (zt : pC_ p n 0 = t) (zr : pC_ p n 3 = r) (zr1 : r ≤ 1) (hn : n < gB0_ p t + sP_ X t) (e : gt_ (gcl_ p m F) X u w = some Y) : sR_ Y (2 * t + r) = sR_ X (2 * t + r) ∧ n < gB0_ p t + sP_ Y t := by
  by_cases c : pT_ p ≤ u ∨ pL_ p < w
  · rw [gt_noc zP zV c] at e
    cases e
  · refine ⟨reg_stay (m := m) (F := F) zP zn zt zr zr1 [(u, w)] X Y (fun q hq => ?_) hn ?_, ?_⟩
    · rw [List.mem_singleton.mp hq]
      exact ⟨by show u < _; omega, by show w ≤ _; omega⟩
    · show (match gt_ (gcl_ p m F) X u w with | some S2 => rn_ (gcl_ p m F) S2 [] | none => none) = some Y
      rw [e]
      rfl
    · unfold gt_ at e
      split at e
      · obtain ⟨-, z2, -⟩ := gx_sum e
        rw [z2]
        show n < gB0_ p t + (if t = u then sP_ X u + 1 else sP_ X t)
        split
        · next y =>
          subst y
          omega
        · exact hn
      · obtain ⟨k, -, z2, -⟩ := gc_sum e
        rw [z2]
        exact hn
/-- bits of values -/
theorem fo_bit {α : Type} {f : Nat → α → Nat} {v : α → Option Nat} (hf : ∀ a x, f a x = match v x with | some k => a ||| 2 ^ k | none => a) (b : Nat) : ∀ (L : List α) (a : Nat), (L.foldl f a).testBit b = true ↔ a.testBit b = true ∨ ∃ x, x ∈ L ∧ v x = some b
  | [], a => by
    constructor
    · intro h
      exact Or.inl h
    · rintro (h | ⟨x, h, -⟩)
      · exact h
      · cases h
  | x :: L, a => by
    rw [List.foldl_cons, fo_bit hf b L, hf]
    cases e : v x with
    | none =>
      dsimp only
      constructor
      · rintro (h | ⟨y, y1, y2⟩)
        · exact Or.inl h
        · exact Or.inr ⟨y, List.mem_cons_of_mem _ y1, y2⟩
      · rintro (h | ⟨y, y1, y2⟩)
        · exact Or.inl h
        · rcases List.mem_cons.mp y1 with y3 | y3
          · rw [y3, e] at y2
            cases y2
          · exact Or.inr ⟨y, y3, y2⟩
    | some k =>
      dsimp only
      rw [Nat.testBit_or, Bool.or_eq_true, Nat.testBit_two_pow, decide_eq_true_eq]
      constructor
      · rintro ((h | h) | ⟨y, y1, y2⟩)
        · exact Or.inl h
        · exact Or.inr ⟨x, List.mem_cons_self, by rw [e, h]⟩
        · exact Or.inr ⟨y, List.mem_cons_of_mem _ y1, y2⟩
      · rintro (h | ⟨y, y1, y2⟩)
        · exact Or.inl (Or.inl h)
        · rcases List.mem_cons.mp y1 with y3 | y3
          · rw [y3, e] at y2
            exact Or.inl (Or.inr (Option.some.inj y2))
          · exact Or.inr ⟨y, y3, y2⟩
theorem vo_bit (L : List (Nat × Int64)) (s b : Nat) : (vo_ L s).testBit b = true ↔ ∃ q, q ∈ L ∧ q.1 / 2 ^ s % 4 = b := by
  unfold vo_
  rw [fo_bit (v := fun q : Nat × Int64 => some (q.1 / 2 ^ s % 4)) (fun a x => rfl) b L 0, Nat.zero_testBit]
  constructor
  · rintro (h | ⟨x, x1, x2⟩)
    · cases h
    · exact ⟨x, x1, Option.some.inj x2⟩
  · rintro ⟨x, x1, x2⟩
    exact Or.inr ⟨x, x1, by rw [x2]⟩
theorem rvl_bit (N : List (gs_T × Int64)) (pos q b : Nat) : (rvl_ g t pos q N).testBit b = true ↔ ∃ x, x ∈ N ∧ sP_ x.1 t = pos ∧ ∃ S2, gx_ g x.1 t = some S2 ∧ sR_ S2 q = b := by
  unfold rvl_
  rw [fo_bit (v := fun x : gs_T × Int64 => if sP_ x.1 t = pos then (gx_ g x.1 t).map (fun S2 => sR_ S2 q) else none) (fun a x => ?_) b N 0, Nat.zero_testBit]
  · constructor
    · rintro (h | ⟨x, x1, x2⟩)
      · cases h
      · by_cases c : sP_ x.1 t = pos
        · rw [if_pos c] at x2
          cases e : gx_ g x.1 t with
          | none =>
            rw [e] at x2
            cases x2
          | some S2 =>
            rw [e] at x2
            exact ⟨x, x1, c, S2, e, Option.some.inj x2⟩
        · rw [if_neg c] at x2
          cases x2
    · rintro ⟨x, x1, x2, S2, x3, x4⟩
      refine Or.inr ⟨x, x1, ?_⟩
      rw [if_pos x2, x3, ← x4]
      rfl
  · unfold rvf_
    by_cases c : sP_ x.1 t = pos
    · rw [if_pos c, if_pos c]
      cases gx_ g x.1 t <;> rfl
    · rw [if_neg c, if_neg c]
theorem t4_ (zP : Wp_ p) (hm : m < 3) (hb : Bz_ p) (hi : i < pN_ p) (et : pC_ p i 0 = t) (er : pC_ p i 3 = r) (hr : r ≤ 1) : rvl_ (gly_ p 0 (-1) m) t (i - gB0_ p t) (2 * t + r) (Ms_ p m) = vo_ (ocs_ p m (F0_ p)) (cb_ p - 2 * (2 * t + r + 1)) := by
  have bT := zP.1.2.1
  have bL := zP.1.2.2.1
  have hd := (bd_t1 zP hm (bz_0 hb hm)).1
  have tT := (zP.2.1 i hi).2.1
  obtain ⟨s1, s2⟩ := (gB_th zP hi).mp et
  have eM : Ms_ p m = bf_ p m (F0_ p) := br_t1 zP hm (bz_0 hb hm)
  have es : cb_ p - 2 * (2 * t + r + 1) = 2 * (2 * pT_ p + pL_ p - 1 - (2 * t + r)) := by
    unfold cb_
    omega
  apply Nat.eq_of_testBit_eq
  intro b
  have iff : (rvl_ (gly_ p 0 (-1) m) t (i - gB0_ p t) (2 * t + r) (Ms_ p m)).testBit b = true ↔ (vo_ (ocs_ p m (F0_ p)) (cb_ p - 2 * (2 * t + r + 1))).testBit b = true := by
    rw [rvl_bit, vo_bit, eM, es]
    constructor
    · rintro ⟨x, x1, x2, S2, x3, x4⟩
      have h1 := (rs_rc zP hd).mp ⟨x, x1, rfl⟩
      have g3 : gt_ (gcl_ p m (F0_ p)) x.1 t 0 = some S2 := by
        rw [← gt_t1 zP hm (by omega)]
        exact x3
      have h2 := rc_s h1 (by omega) (by decide) g3
      have v2 := rc_vg zP h2
      have hP : sP_ S2 t = sP_ x.1 t + 1 := by
        rw [(gx_sum (show gx_ (gcl_ p m (F0_ p)) x.1 t = some S2 from g3)).2.1]
        exact if_pos rfl
      obtain ⟨S3, r1, -, r3⟩ := to_fin (m := m) (F := F0_ p) zP (lft_ p S2) S2 (Nat.le_refl _) v2
      have inv := r1 (fun X => Vg_ p X ∧ sR_ X (2 * t + r) = b ∧ i < gB0_ p t + sP_ X t) ⟨v2, x4, by omega⟩ (fun X u w Y z z1 z2 z3 => by
        obtain ⟨k1, k2⟩ := st_stay zP z.1 hi et er hr z.2.2 z3
        refine ⟨?_, k1.trans z.2.1, k2⟩
        by_cases c : pT_ p ≤ u ∨ pL_ p < w
        · rw [gt_noc zP z.1 c] at z3
          cases z3
        · exact vg_step zP z.1 (by omega) (by omega) z3)
      have mem := (ocs_mem zP hd).mpr ⟨S3, rc_tr h2 r1, r3, rfl⟩
      obtain ⟨q, q1, q2⟩ := List.mem_map.mp mem
      refine ⟨q, q1, ?_⟩
      rw [q2]
      have y := dr_cc zP inv.1 (q := 2 * t + r) (by omega)
      unfold dr_ at y
      rw [y]
      exact inv.2.1
    · rintro ⟨q, q1, q2⟩
      obtain ⟨S, h1, h2, h3⟩ := (ocs_mem zP hd).mp (List.mem_map.mpr ⟨q, q1, rfl⟩)
      have v := rc_vg zP h1
      have y := dr_cc zP v (q := 2 * t + r) (by omega)
      unfold dr_ at y
      rw [h3, q2] at y
      have inv := rc_ind (P := fun X => i < gB0_ p t + sP_ X t → ∃ Z Z2, Rc_ (gcl_ p m (F0_ p)) (s0k_ p (pL_ p)) Z ∧ sP_ Z t = i - gB0_ p t ∧ gx_ (gcl_ p m (F0_ p)) Z t = some Z2 ∧ sR_ Z2 (2 * t + r) = sR_ X (2 * t + r)) h1 (fun h => by
        have h : i < gB0_ p t + 0 := h
        omega) (fun X u w Y a1 a2 z1 z2 z3 hY => by
        by_cases c : i < gB0_ p t + sP_ X t
        · obtain ⟨Z, Z2, y1, y2, y3, y4⟩ := a2 c
          exact ⟨Z, Z2, y1, y2, y3, y4.trans (st_stay zP (rc_vg zP a1) hi et er hr c z3).1.symm⟩
        · unfold gt_ at z3
          split at z3
          · have hP := (gx_sum z3).2.1
            rw [hP] at hY
            have hY : i < gB0_ p t + (if t = u then sP_ X u + 1 else sP_ X t) := hY
            by_cases e : t = u
            · subst e
              rw [if_pos rfl] at hY
              exact ⟨X, Y, a1, by omega, z3, rfl⟩
            · rw [if_neg e] at hY
              exact absurd hY c
          · obtain ⟨k, -, hP, -⟩ := gc_sum z3
            rw [hP] at hY
            exact absurd hY c)
      have done : i < gB0_ p t + sP_ S t := by
        have f := ((fi_ifr zP v).mp h2).1 t (by omega)
        have f : sP_ S t = gB0_ p (t + 1) - gB0_ p t := f
        omega
      obtain ⟨Z, Z2, y1, y2, y3, y4⟩ := inv done
      obtain ⟨x, x1, x2⟩ := (rs_rc zP hd).mpr y1
      refine ⟨x, x1, by rw [x2]; exact y2, Z2, ?_, y4.trans y.symm⟩
      rw [x2]
      have g3 := gt_t1 (S := Z) (w := 0) (t := t) zP hm (by omega)
      exact (show gx_ (gly_ p 0 (-1) m) Z t = gx_ (gcl_ p m (F0_ p)) Z t from g3).trans y3
  cases k1 : (rvl_ (gly_ p 0 (-1) m) t (i - gB0_ p t) (2 * t + r) (Ms_ p m)).testBit b <;> cases k2 : (vo_ (ocs_ p m (F0_ p)) (cb_ p - 2 * (2 * t + r + 1))).testBit b
  · rfl
  · exact absurd (iff.mpr k2) (by rw [k1]; exact fun y => by cases y)
  · exact absurd (iff.mp k1) (by rw [k2]; exact fun y => by cases y)
  · rfl
end RV
