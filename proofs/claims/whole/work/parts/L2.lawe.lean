/-! the law's loop: where class and reference answer in other words; what stays good -/
section LE
variable {σ : st_T} {A A' : ca_T} {R : rt_T} {p : pr_T} {m : Nat} {F : Nat → Bool} {z y : Int}
theorem vl_mq {f : Nat → Int64} : (∃ x : Int64, mq_ z (fun m => .inl (some (.long (f m)))) = .inl (some (.long x))) ∨ mq_ z (fun m => .inl (some (.long (f m)))) = iae_ := by
  unfold mq_
  split
  · exact Or.inl ⟨_, rfl⟩
  · exact Or.inr rfl
theorem vr_ins : Vk_ false false true false true (inr_ A z).1 := by
  unfold inr_
  dsimp only
  split
  · exact vr_ioo
  · split
    · exact vr_ise
    · exact vr_ri _
theorem vr_rem : Vk_ false false true true false (rmr_ A z).1 := by
  unfold rmr_
  dsimp only
  split
  · split
    · exact vr_ri _
    · exact vr_nse
  · exact vr_ioo
theorem ud_v : ∃ x : Int32, (udr_ A).1 = .inl (some (.int x)) := by
  unfold udr_
  split
  · exact ⟨_, rfl⟩
  · exact ⟨_, rfl⟩
theorem ud_c : (udr_ A).2 = A ∨ ∃ c C, (udr_ A).2 = (aB_ A, an2_ A, (cu_ (aP_ A).1 c, (aP_ A).2), aO_ A, C, none) := by
  unfold udr_
  split
  · exact Or.inl rfl
  · exact Or.inr ⟨_, _, rfl⟩
theorem inr_c : (inr_ A z).2 = A ∨ ∃ i t C, (inr_ A z).2 = (aB_ A, an2_ A, (ppf_ (aP_ A).1 i t, (aP_ A).2), aO_ A, C, none) := by
  unfold inr_
  dsimp only
  split
  · exact Or.inl rfl
  · split
    · exact Or.inl rfl
    · exact Or.inr ⟨_, _, _, rfl⟩
theorem rem_c : (rmr_ A z).2 = A ∨ ∃ i C, (rmr_ A z).2 = (aB_ A, an2_ A, (ppd_ (aP_ A).1 i, (aP_ A).2), aO_ A, C, none) := by
  unfold rmr_
  dsimp only
  split
  · split
    · exact Or.inr ⟨_, _, rfl⟩
    · exact Or.inl rfl
  · exact Or.inl rfl
theorem gd_none {B : Nat → Int} {n : Nat} {P : pq_T} {O : List Int} {C : List Nat} (h : Hv_ P.1 C) (cn : Cn_ P.1) : Gd_ (B, n, P, O, C, none) := ⟨h, cn, fun k hk => absurd (show k ∈ ([] : List Nat) from hk) List.not_mem_nil⟩
theorem gd_new {B : Nat → Int} {n : Nat} {P : pq_T} {O : List Int} (cn : Cn_ P.1) : Gd_ (B, n, P, O, [], none) := gd_none (show Hr_ P.1 [] from trivial) cn
theorem gd_und (g : Gd_ A) (h : Hv_ (aP_ (udr_ A).2).1 (aC_ (udr_ A).2)) : Gd_ (udr_ A).2 := by
  rcases ud_c (A := A) with e | ⟨c, C, e⟩
  · rw [e]
    exact g
  · rw [e] at h ⊢
    exact gd_none h (cn_cu g.2.1 c)
theorem gd_ins (g : Gd_ A) (h : Hv_ (aP_ (inr_ A z).2).1 (aC_ (inr_ A z).2)) : Gd_ (inr_ A z).2 := by
  rcases inr_c (A := A) (z := z) with e | ⟨i, t, C, e⟩
  · rw [e]
    exact g
  · rw [e] at h ⊢
    exact gd_none h (cn_ins g.2.1 i t)
theorem gd_rem (g : Gd_ A) (h : Hv_ (aP_ (rmr_ A z).2).1 (aC_ (rmr_ A z).2)) : Gd_ (rmr_ A z).2 := by
  rcases rem_c (A := A) (z := z) with e | ⟨i, C, e⟩
  · rw [e]
    exact g
  · rw [e] at h ⊢
    exact gd_none h (cn_del g.2.1 i)
/-- the writers of an explanation are instructions -/
theorem xs_wr (zP : Wp_ p) {S S2 : gs_T} {q : Nat × Nat} {e : ex_T} (h : gt_ (gcl_ p m F) S q.1 q.2 = some S2) (he : ∀ n ∈ e.2.2, n < pN_ p) : ∀ n ∈ (xs_ p (gcl_ p m F) S q e).2.2, n < pN_ p := by
  intro n hn
  have l1 := gl_le (p := p) (t := q.1) (m := m) (F := F) zP
  unfold xs_ at hn
  unfold gt_ at h
  split at hn
  · rename_i y0
    rw [if_pos y0] at h
    have l2 := (gx_sum h).1
    have l3 : gB_ (gcl_ p m F) q.1 = gB0_ p q.1 := rfl
    dsimp only at hn
    split at hn
    · rcases List.mem_append.mp hn with hn | hn
      · exact he n hn
      · rw [List.mem_singleton.mp hn]
        omega
    · exact he n hn
  · rename_i y0
    rw [if_neg y0] at h
    split at hn
    · rename_i k gn
      obtain ⟨n1, n2, -, -⟩ := gn_sum gn
      have l3 : gB_ (gcl_ p m F) q.1 = gB0_ p q.1 := rfl
      dsimp only at hn
      rcases List.mem_append.mp hn with hn | hn
      · exact he n hn
      · rw [List.mem_singleton.mp hn]
        omega
    · exact he n hn
theorem xr_wr (zP : Wp_ p) : ∀ (r : List (Nat × Nat)) (S : gs_T) (e : ex_T), (∀ n ∈ e.2.2, n < pN_ p) → ∀ n ∈ (xr_ p (gcl_ p m F) S e r).2.2, n < pN_ p
  | [], _, _, he => he
  | q :: r, S, e, he => by
    show ∀ n ∈ (match gt_ (gcl_ p m F) S q.1 q.2 with | some S2 => xr_ p (gcl_ p m F) S2 (xs_ p (gcl_ p m F) S q e) r | none => e).2.2, n < pN_ p
    cases h : gt_ (gcl_ p m F) S q.1 q.2 with
    | none => exact he
    | some S2 => exact xr_wr zP r S2 _ (xs_wr zP h he)
theorem gd_exp (g : Gd_ A) (zP : Wp_ (aP_ A).1)
    (hA : (A' = A ∧ ¬ (0 ≤ z ∧ z < 3 ∧ fp_ (O_ A z.toNat) y ≠ -1)) ∨ ((0 ≤ z ∧ z < 3 ∧ fp_ (O_ A z.toNat) y ≠ -1) ∧ ∃ r O, Lp_ (aP_ A).1 (gcl_ (aP_ A).1 z.toNat (F0_ (aP_ A).1)) y.toNat (s0k_ (aP_ A).1 (pL_ (aP_ A).1)) r ∧ A' = (aB_ A, an2_ A, aP_ A, aO_ A, aC_ A, some (xr_ (aP_ A).1 (gcl_ (aP_ A).1 z.toNat (F0_ (aP_ A).1)) (s0k_ (aP_ A).1 (pL_ (aP_ A).1)) ([], O, []) r)))) : Gd_ A' := by
  rcases hA with ⟨e, -⟩ | ⟨-, r, O, -, e⟩
  · rw [e]
    exact g
  · rw [e]
    exact ⟨g.1, g.2.1, xr_wr zP r _ _ (fun n hn => absurd hn List.not_mem_nil)⟩
theorem ex_len (j : J_ σ A R) : ∀ e, aE_ A = some e → e.1.length ≤ 18 ∧ e.2.2.length ≤ 8 := fun e he => by
  have h := j.2.2.1.2.2
  rw [he] at h
  exact ⟨h.2.1.2.1, h.2.2.1.2.1⟩
/-! the same answers in other words -/
theorem er_read (zP : Wp_ (aP_ A).1) (hb : Bz_ (aP_ A).1) : mq_ z (fun m => im_ A y (fun i => if pC_ (aP_ A).1 i 3 = -1 then nse_ else ri_ (rvl_ (gly_ (aP_ A).1 0 (-1) m) (pC_ (aP_ A).1 i 0).toNat (i - gB0_ (aP_ A).1 (pC_ (aP_ A).1 i 0).toNat) (2 * (pC_ (aP_ A).1 i 0).toNat + (pC_ (aP_ A).1 i 3).toNat) (Ms_ (aP_ A).1 m) : Int))) = mq_ z (fun m => im_ A y (fun i => if pC_ (aP_ A).1 i 3 = -1 then nse_ else ri_ (vo_ (O_ A m) (cb_ (aP_ A).1 - 2 * (2 * (pC_ (aP_ A).1 i 0).toNat + (pC_ (aP_ A).1 i 3).toNat + 1))))) := by
  refine mq_cg (fun m hm => im_cg (fun i hi => ?_))
  by_cases h3 : pC_ (aP_ A).1 i 3 = -1
  · rw [if_pos h3, if_pos h3]
  · have w := zP.2.1 i hi
    have b1 := zP.1.2.2.2.2 i 1
    have k3 : 0 ≤ pC_ (aP_ A).1 i 3 ∧ pC_ (aP_ A).1 i 3 ≤ 1 := by
      obtain ⟨w1, w2, w3, w4, w5, w6, w7, -, -⟩ := w
      by_cases c0 : pC_ (aP_ A).1 i 1 = 0
      · exact absurd (w7 c0) h3
      · by_cases c3 : pC_ (aP_ A).1 i 1 = 3
        · exact absurd (w4 c3).2.1 h3
        · exact w6 (by omega)
    have q := t4_ zP hm hb hi (t := (pC_ (aP_ A).1 i 0).toNat) (r := (pC_ (aP_ A).1 i 3).toNat) (Int.toNat_of_nonneg w.1).symm (Int.toNat_of_nonneg k3.1).symm (by omega)
    rw [if_neg h3, if_neg h3, q]
    rfl
theorem er_gbuf (zP : Wp_ (aP_ A).1) (hb : Bz_ (aP_ A).1) : mq_ z (fun m => if 0 ≤ y ∧ y < pT_ (aP_ A).1 then ri_ (gbl_ (gly_ (aP_ A).1 0 (-1) m) y.toNat (Ms_ (aP_ A).1 m)) else ioo_) = mq_ z (fun m => if 0 ≤ y ∧ y < pT_ (aP_ A).1 then (if m = 0 then ri_ 0 else ri_ ((mb_ (aP_ A).1 y (pN_ (aP_ A).1)).1)) else ioo_) := by
  refine mq_cg (fun m hm => ?_)
  by_cases h : 0 ≤ y ∧ y < pT_ (aP_ A).1
  · have b := zP.1.2.1
    have q := t5_ (t := y.toNat) zP hm hb (by omega)
    rw [if_pos h, if_pos h, q, Int.toNat_of_nonneg h.1]
    by_cases h0 : m = 0
    · rw [if_pos h0, if_pos h0]
      rfl
    · rw [if_neg h0, if_neg h0]
  · rw [if_neg h, if_neg h]
theorem er_with (zP : Wp_ (aP_ A).1) (hb : Bz_ (aP_ A).1) : mq_ z (fun m => if 0 ≤ y ∧ y.toNat < 2 ^ gaps_ A then ri_ ((OR_ (aP_ A).1 y.toNat (-1) m).countP (fun q => uf_ q.1 (aP_ A).2.2) : Int) else iae_) = mq_ z (fun m => if 0 ≤ y ∧ y.toNat < 2 ^ gaps_ A then ri_ (gM_ (aP_ A) m y.toNat) else iae_) := by
  refine mq_cg (fun m hm => ?_)
  by_cases h : 0 ≤ y ∧ y.toNat < 2 ^ gaps_ A
  · have b : 2 ^ gaps_ A ≤ 2 ^ 6 := Nat.pow_le_pow_right (by decide) (gaps_6 zP)
    have q := gM_or (P := aP_ A) (G := y.toNat) zP hm hb (by omega)
    rw [if_pos h, if_pos h, q]
  · rw [if_neg h, if_neg h]
theorem er_few (zP : Wp_ (aP_ A).1) (hb : Bz_ (aP_ A).1) : mq_ z (fun m => ri_ (om_ (sset_ (tst2_ (aP_ A) m none) (2 ^ gaps_ A) 9 0))) = mq_ z (fun m => if 0 < (O_ A 0).countP (fun q => uf_ q.1 (aP_ A).2.2) then ri_ (-1) else ri_ (om_ (sset_ (stst_ A m false) (2 ^ gaps_ A) 7 0))) := by
  refine mq_cg (fun m hm => ?_)
  rw [few_eq zP hm hb]
  by_cases h : 0 < (O_ A 0).countP (fun q => uf_ q.1 (aP_ A).2.2)
  · rw [if_pos h, if_pos h]
  · rw [if_neg h, if_neg h]
theorem er_rep (zP : Wp_ (aP_ A).1) (hb : Bz_ (aP_ A).1) : mq_ z (fun m => ri_ (om_ (sset_ (tst2_ (aP_ A) m (some (O_ A 0))) (2 ^ gaps_ A) 9 0))) = mq_ z (fun m => ri_ (om_ (sset_ (stst_ A m true) (2 ^ gaps_ A) 7 0))) := by
  refine mq_cg (fun m hm => ?_)
  rw [rep_eq zP hm hb]
theorem er_need (zP : Wp_ (aP_ A).1) (hb : Bz_ (aP_ A).1) : mq_ z (fun m => im_ A y (fun i => if pC_ (aP_ A).1 i 1 = 3 then rb_ (!decide ((OR_ (aP_ A).1 0 (i : Int) m).map Prod.fst = (O_ A m).map Prod.fst)) else nse_)) = mq_ z (fun m => im_ A y (fun i => if pC_ (aP_ A).1 i 1 = 3 then rb_ (decide (cn_ (fi_ (aP_ A).1) (bf_ (aP_ A).1 m (fun j => F0_ (aP_ A).1 j && decide (j ≠ i))) (bf_ (aP_ A).1 m (fun j => F0_ (aP_ A).1 j && decide (j ≠ i))).length ≠ (O_ A m).length)) else nse_)) := by
  refine mq_cg (fun m hm => im_cg (fun i hi => ?_))
  by_cases h : pC_ (aP_ A).1 i 1 = 3
  · rw [if_pos h, if_pos h, fen_eq zP hm hb hi h]
  · rw [if_neg h, if_neg h]
end LE
