/-! fences: class and reference answer alike (T7, T8) -/
section FM
variable {p : pr_T} {P : pq_T} {A : ca_T} {G m n i : Nat} {F : Nat → Bool} {f f' : Nat → Bool}
theorem pl_iff (f : Nat → Bool) : ∀ (k i : Nat) (z : Int) (j : Nat), i ≤ j → j < i + k → (pl_ f z k i = (j : Int) ↔ f j = true ∧ z = (ct_ f j : Int) - ct_ f i)
  | 0, i, z, j, h1, h2 => by omega
  | k + 1, i, z, j, h1, h2 => by
    have cs : ct_ f (i + 1) = ct_ f i + (if f i = true then 1 else 0) := rfl
    unfold pl_
    by_cases e : f i = true
    · rw [if_pos e]
      rw [if_pos e] at cs
      by_cases ez : z = 0
      · rw [if_pos ez]
        constructor
        · intro y
          have y : i = j := by omega
          subst y
          exact ⟨e, by omega⟩
        · rintro ⟨y1, y2⟩
          by_cases c : i = j
          · rw [c]
          · have := ctm_ f (show i + 1 ≤ j by omega)
            omega
      · rw [if_neg ez]
        by_cases c : i = j
        · subst c
          constructor
          · intro y
            rcases pl_rg f k (i + 1) (z - 1) with y2 | y2 <;> omega
          · rintro ⟨-, y2⟩
            omega
        · rw [pl_iff f k (i + 1) (z - 1) j (by omega) (by omega)]
          constructor
          · rintro ⟨y1, y2⟩
            exact ⟨y1, by omega⟩
          · rintro ⟨y1, y2⟩
            exact ⟨y1, by omega⟩
    · rw [if_neg e]
      rw [if_neg e] at cs
      by_cases c : i = j
      · subst c
        constructor
        · intro y
          rcases pl_rg f k (i + 1) z with y2 | y2 <;> omega
        · rintro ⟨y1, -⟩
          exact absurd y1 e
      · rw [pl_iff f k (i + 1) z j (by omega) (by omega)]
        constructor
        · rintro ⟨y1, y2⟩
          exact ⟨y1, by omega⟩
        · rintro ⟨y1, y2⟩
          exact ⟨y1, by omega⟩
theorem fl_iff : fl_n p G i ≠ 0 ↔ gb_ p i = true ∧ G.testBit (ct_ (gb_ p) i) = true := by
  unfold fl_n lyf_
  constructor
  · intro h
    by_cases c : (gb_ p i && G.testBit (ct_ (gb_ p) i)) = true
    · rw [Bool.and_eq_true] at c
      exact c
    · rw [if_neg c] at h
      exact absurd rfl h
  · intro h
    rw [if_pos (by rw [Bool.and_eq_true]; exact h)]
    exact Nat.one_ne_zero
theorem f0_2 (zP : Wp_ p) (hi : i < pN_ p) : F0_ p i = decide (2 ≤ pC_ p i 1) := by
  have e : pp_ p (i : Int) 1 = pC_ p i 1 := pp_in (k := 1) hi (by decide)
  have c := zP.1.2.2.2.2 i 1
  unfold F0_
  rw [e]
  exact decide_eq_decide.mpr (by omega)
theorem fg_fl (zP : Wp_ p) (hi : i < pN_ p) : FG_ p G i = Fl_z p G (-1) i := by
  have e : (FG_ p G i = true) ↔ (Fl_z p G (-1) i = true) := by
    unfold FG_ Fl_z
    rw [Bool.or_eq_true, f0_2 zP hi, decide_eq_true_eq, decide_eq_true_eq, an_iff, fl_iff]
    constructor
    · rintro (h | ⟨g, g1, g2⟩)
      · exact Or.inr ⟨h, by omega⟩
      · rw [Bool.and_eq_true, decide_eq_true_eq] at g2
        obtain ⟨h1, h2⟩ := (pl_iff (gb_ p) (pN_ p) 0 g i (Nat.zero_le _) (by omega)).mp g2.2
        have e0 : ct_ (gb_ p) 0 = 0 := rfl
        have eg : g = ct_ (gb_ p) i := by omega
        rw [← eg]
        exact Or.inl ⟨h1, g2.1⟩
    · rintro (⟨h1, h2⟩ | h)
      · refine Or.inr ⟨ct_ (gb_ p) i, ?_, ?_⟩
        · have g6 := gaps_6 zP
          have y := ctm_ (gb_ p) (show i + 1 ≤ pN_ p from hi)
          have cs : ct_ (gb_ p) (i + 1) = ct_ (gb_ p) i + (if gb_ p i = true then 1 else 0) := rfl
          rw [if_pos h1] at cs
          omega
        · rw [Bool.and_eq_true, decide_eq_true_eq]
          refine ⟨h2, (pl_iff (gb_ p) (pN_ p) 0 _ i (Nat.zero_le _) (by omega)).mpr ⟨h1, ?_⟩⟩
          have e0 : ct_ (gb_ p) 0 = 0 := rfl
          omega
      · exact Or.inl h.1
  cases h1 : FG_ p G i <;> cases h2 : Fl_z p G (-1) i
  · rfl
  · exact absurd (e.mpr h2) (by rw [h1]; exact fun y => by cases y)
  · exact absurd (e.mp h1) (by rw [h2]; exact fun y => by cases y)
  · rfl
theorem fz_fl (zP : Wp_ p) {j : Nat} (hj : j < pN_ p) (i : Nat) : (F0_ p j && decide (j ≠ i)) = Fl_z p 0 (i : Int) j := by
  have f0 : fl_n p 0 j = 0 := by
    by_cases c : fl_n p 0 j = 0
    · exact c
    · have := (fl_iff.mp c).2
      rw [Nat.zero_testBit] at this
      cases this
  rw [f0_2 zP hj]
  unfold Fl_z
  by_cases c1 : 2 ≤ pC_ p j 1
  · by_cases c2 : j = i
    · rw [decide_eq_true c1, Bool.true_and, decide_eq_false (fun y => y c2), decide_eq_false (by omega)]
    · rw [decide_eq_true c1, Bool.true_and, decide_eq_true (by exact c2), decide_eq_true (by omega)]
  · rw [decide_eq_false c1, Bool.false_and, decide_eq_false (by omega)]
theorem zk_m1 : Zk_ p (-1) := fun i _ e => by omega
theorem zk_i (h : pC_ p i 1 = 3) : Zk_ p (i : Int) := fun j _ e => by
  have : j = i := by omega
  rw [this]
  exact h
theorem bd_FG (zP : Wp_ p) (hm : m < 3) (hb : Bz_ p) (hG : G < 64) : Bd_ p m (FG_ p G) := bd_z (G := G) (z := -1) zP hm zk_m1 (fun _ hi => fg_fl zP hi) (hb G m (-1) hm (Or.inl ⟨hG, rfl⟩))
theorem bd_Fz (zP : Wp_ p) (hm : m < 3) (hb : Bz_ p) (h3 : pC_ p i 1 = 3) : Bd_ p m (fun j => F0_ p j && decide (j ≠ i)) := by
  by_cases hi : i < pN_ p
  · exact bd_z (G := 0) (z := (i : Int)) zP hm (zk_i h3) (fun _ hj => fz_fl zP hj i) (hb 0 m (i : Int) hm (Or.inr ⟨rfl, by omega, by omega, h3⟩))
  · have y := (bd_t1 zP hm (bz_0 hb hm)).1
    have e : (fun j => F0_ p j && decide (j ≠ i)) = F0_ p := funext (fun j => by
      cases k : F0_ p j with
      | false => rfl
      | true =>
        have := f0_lt k
        rw [decide_eq_true (show j ≠ i by omega)]
        rfl)
    rw [e]
    exact y
/-- what the class needs -/
theorem bq_of (zP : Wp_ p) (hb : Bz_ p) : Bq_ p := fun m hm => by
  obtain ⟨y1, y2⟩ := bd_t1 zP hm (bz_0 hb hm)
  exact ⟨by omega, y1, fun G hG => bd_FG zP hm hb hG, fun i h3 => bd_Fz zP hm hb h3⟩
theorem orG (zP : Wp_ p) (hm : m < 3) (hb : Bz_ p) (hG : G < 64) : (OR_ p G (-1) m).map Prod.fst = (ocs_ p m (FG_ p G)).map Prod.fst := t7_or zP hm zk_m1 (fun _ hi => fg_fl zP hi) (hb G m (-1) hm (Or.inl ⟨hG, rfl⟩))
theorem orZ (zP : Wp_ p) (hm : m < 3) (hb : Bz_ p) (hi : i < pN_ p) (h3 : pC_ p i 1 = 3) : (OR_ p 0 (i : Int) m).map Prod.fst = (ocs_ p m (fun j => F0_ p j && decide (j ≠ i))).map Prod.fst := t7_or zP hm (zk_i h3) (fun _ hj => fz_fl zP hj i) (hb 0 m (i : Int) hm (Or.inr ⟨rfl, by omega, by omega, h3⟩))
/-- counts -/
theorem cn_all (f : gs_T → Bool) (M : List (gs_T × Int64)) : cn_ f M M.length = M.countP (fun q => f q.1) := by
  unfold cn_
  rw [List.take_length]
theorem cnt_O : cn_ (fi_ p) (bf_ p m F) (bf_ p m F).length = (ocs_ p m F).length := by
  show _ = (srt_ (rl_ p (bf_ p m F))).length
  rw [cn_all, (srt_pm _).length_eq]
  unfold rl_
  rw [List.length_map, List.countP_eq_length_filter]
theorem cnt_M (C : List Int) : cn_ (fm_ p C) (bf_ p m F) (bf_ p m F).length = (ocs_ p m F).countP (fun q => uf_ q.1 C) := by
  show _ = (srt_ (rl_ p (bf_ p m F))).countP _
  rw [cn_all, (srt_pm _).countP_eq]
  unfold rl_
  rw [List.countP_map, List.countP_filter]
  congr 1
  funext q
  unfold fm_
  exact Bool.and_comm _ _
theorem cnt_f (L : List (Nat × Int64)) (C : List Int) : L.countP (fun q => uf_ q.1 C) = (L.map Prod.fst).countP (fun c => uf_ c C) := by
  rw [List.countP_map]
  rfl
theorem gM_or (zP : Wp_ P.1) (hm : m < 3) (hb : Bz_ P.1) (hG : G < 64) : gM_ P m G = (OR_ P.1 G (-1) m).countP (fun q => uf_ q.1 P.2.2) := by
  unfold gM_
  rw [cnt_M, cnt_f, cnt_f, orG zP hm hb hG]
theorem gO_or (zP : Wp_ P.1) (hm : m < 3) (hb : Bz_ P.1) (hG : G < 64) : gO_ P m G = ((OR_ P.1 G (-1) m).map Prod.fst).length := by
  unfold gO_
  rw [cnt_O, orG zP hm hb hG, List.length_map]
/-- what model 0 gives is given with any fences -/
theorem sub_0 (zP : Wp_ p) (hm : m < 3) (h0 : Bd_ p 0 (F0_ p)) (hd : Bd_ p m F) {c : Nat} (h : c ∈ (ocs_ p 0 (F0_ p)).map Prod.fst) : c ∈ (ocs_ p m F).map Prod.fst := by
  obtain ⟨S, h1, h2, h3⟩ := (ocs_mem zP h0).mp h
  exact (ocs_mem zP hd).mpr ⟨S, t8_ zP hm h1, h2, h3⟩
theorem sub_m (zP : Wp_ p) (hF : ∀ n, f n = true → F n = true) (h0 : Bd_ p m F) (hd : Bd_ p m f) {c : Nat} (h : c ∈ (ocs_ p m F).map Prod.fst) : c ∈ (ocs_ p m f).map Prod.fst := by
  obtain ⟨S, h1, h2, h3⟩ := (ocs_mem zP h0).mp h
  exact (ocs_mem zP hd).mpr ⟨S, rc_mono hF h1, h2, h3⟩
theorem sset_cg (h : ∀ G, G < n → f G = f' G) : ∀ k s, sset_ f n k s = sset_ f' n k s
  | 0, _ => rfl
  | k + 1, s => by
    unfold sset_
    rw [f1_cg (f := fun G => decide (pcn_ G = s) && f G) (f' := fun G => decide (pcn_ G = s) && f' G) n 0 (fun j _ j2 => by rw [h j (by omega)]), sset_cg h k (s + 1)]
theorem sset_no (h : ∀ G, G < n → f G = false) : ∀ k s, sset_ f n k s = none
  | 0, _ => rfl
  | k + 1, s => by
    unfold sset_
    rw [(f1_none _ _ _).mpr (fun j _ j2 => by rw [h j (by omega), Bool.and_false])]
    exact sset_no h k (s + 1)
theorem sset_7 (k s : Nat) (hs : 7 ≤ s) : sset_ f n k s = none := by
  induction k generalizing s with
  | zero => rfl
  | succ k ih =>
    unfold sset_
    rw [(f1_none _ _ _).mpr (fun j _ _ => by
      have := pcn_6 j
      rw [decide_eq_false (by omega), Bool.false_and])]
    exact ih (s + 1) (by omega)
theorem sset_97 : ∀ k s, s + k = 7 → sset_ f n (k + 2) s = sset_ f n k s
  | 0, s, h => sset_7 2 s (by omega)
  | k + 1, s, h => by
    rw [show k + 1 + 2 = (k + 2) + 1 by omega]
    unfold sset_
    rw [sset_97 k (s + 1) (by omega)]
theorem g64 (zP : Wp_ (aP_ A).1) {G : Nat} (h : G < 2 ^ gaps_ A) : G < 64 := by
  have g6 := gaps_6 zP
  have y : 2 ^ gaps_ A ≤ 2 ^ 6 := Nat.pow_le_pow_right (by decide) g6
  omega
theorem few_eq (zP : Wp_ (aP_ A).1) (hm : m < 3) (hb : Bz_ (aP_ A).1) : om_ (sset_ (tst2_ (aP_ A) m none) (2 ^ gaps_ A) 9 0) = if 0 < (O_ A 0).countP (fun q => uf_ q.1 (aP_ A).2.2) then -1 else om_ (sset_ (stst_ A m false) (2 ^ gaps_ A) 7 0) := by
  by_cases c : 0 < (O_ A 0).countP (fun q => uf_ q.1 (aP_ A).2.2)
  · rw [if_pos c, sset_no (fun G hG => ?_)]
    · rfl
    · unfold tst2_
      rw [decide_eq_false_iff_not, cnt_f, orG zP hm hb (g64 zP hG)]
      rw [cnt_f] at c
      obtain ⟨x, x1, x2⟩ := List.countP_pos_iff.mp c
      have y := sub_0 zP hm (bd_t1 zP (m := 0) (by decide) (bz_0 hb (by decide))).1 (bd_FG zP hm hb (g64 zP hG)) x1
      have z := List.countP_pos_iff (p := fun c => uf_ c (aP_ A).2.2).mpr ⟨x, y, x2⟩
      exact Nat.ne_of_gt z
  · rw [if_neg c, sset_97 7 0 rfl, sset_cg (fun G hG => ?_)]
    unfold tst2_ stst_
    rw [if_neg (by decide), gM_or zP hm hb (g64 zP hG)]
theorem rep_eq (zP : Wp_ (aP_ A).1) (hm : m < 3) (hb : Bz_ (aP_ A).1) : om_ (sset_ (tst2_ (aP_ A) m (some (O_ A 0))) (2 ^ gaps_ A) 9 0) = om_ (sset_ (stst_ A m true) (2 ^ gaps_ A) 7 0) := by
  rw [sset_97 7 0 rfl, sset_cg (fun G hG => ?_)]
  have h0 := (bd_t1 zP (m := 0) (by decide) (bz_0 hb (by decide))).1
  have hd := bd_FG zP hm hb (g64 zP hG)
  unfold tst2_ stst_
  rw [if_pos rfl, gO_or zP hm hb (g64 zP hG), orG zP hm hb (g64 zP hG)]
  refine decide_eq_decide.mpr ⟨fun y => by rw [y, List.length_map], fun y => ?_⟩
  refine (pwl_len (so_pw ocs_so) (so_pw ocs_so) (fun c hc => sub_0 zP hm h0 hd hc) ?_).symm
  show ((O_ A 0).map Prod.fst).length = _
  rw [y, List.length_map]
theorem fen_eq (zP : Wp_ (aP_ A).1) (hm : m < 3) (hb : Bz_ (aP_ A).1) (hi : i < pN_ (aP_ A).1) (h3 : pC_ (aP_ A).1 i 1 = 3) : (!decide ((OR_ (aP_ A).1 0 (i : Int) m).map Prod.fst = (O_ A m).map Prod.fst)) = decide (cn_ (fi_ (aP_ A).1) (bf_ (aP_ A).1 m (fun j => F0_ (aP_ A).1 j && decide (j ≠ i))) (bf_ (aP_ A).1 m (fun j => F0_ (aP_ A).1 j && decide (j ≠ i))).length ≠ (O_ A m).length) := by
  have h0 := (bd_t1 zP hm (bz_0 hb hm)).1
  have hd := bd_Fz zP hm hb h3
  rw [orZ zP hm hb hi h3, cnt_O, ← decide_not]
  refine decide_eq_decide.mpr (not_congr ⟨fun y => ?_, fun y => ?_⟩)
  · have y2 := congrArg List.length y
    rw [List.length_map, List.length_map] at y2
    exact y2
  · refine (pwl_len (so_pw ocs_so) (so_pw ocs_so) (fun c hc => sub_m zP (fun n hn => ?_) h0 hd hc) ?_).symm
    · rw [Bool.and_eq_true] at hn
      exact hn.1
    · show ((O_ A m).map Prod.fst).length = _
      rw [List.length_map, List.length_map, y]
end FM
