/-! the reference: what is laid is laid well -/
section GY
variable {γ : ga_T} {σ s : st_T} {p : pr_T} {G m : Nat} {z : Int}
theorem ly_mem : ∀ i x, x ∈ ly_ p G z i → x = -1 ∨ (0 ≤ x ∧ x < i)
  | 0, x, h => by simp [ly_] at h
  | i + 1, x, h => by
    have h : x ∈ ly_ p G z i ++ lyf_ p G i ++ lyi_ z i := h
    rw [List.mem_append, List.mem_append] at h
    rcases h with (h | h) | h
    · have y := ly_mem i x h
      omega
    · unfold lyf_ at h
      split at h
      · exact Or.inl (List.mem_singleton.mp h)
      · cases h
    · unfold lyi_ at h
      split at h
      · cases h
      · have y := List.mem_singleton.mp h
        omega
theorem lyf_len (i : Nat) : (lyf_ p G i).length ≤ (if gb_ p i = true then 1 else 0) := by
  unfold lyf_
  by_cases y : gb_ p i = true
  · rw [if_pos y]
    split
    · exact Nat.le_refl _
    · exact Nat.zero_le _
  · rw [if_neg y, Bool.eq_false_iff.mpr y]
    exact Nat.le_refl _
theorem lyi_len (i : Nat) : (lyi_ z i).length ≤ 1 := by
  unfold lyi_
  split
  · exact Nat.zero_le _
  · exact Nat.le_refl _
theorem ly_s (i : Nat) : (ly_ p G z (i + 1)).length = (ly_ p G z i).length + (lyf_ p G i).length + (lyi_ z i).length := by
  show (ly_ p G z i ++ lyf_ p G i ++ lyi_ z i).length = _
  rw [List.length_append, List.length_append]
theorem ly_6 : ∀ i, (ly_ p G z i).length ≤ i + ct_ (gb_ p) i
  | 0 => Nat.le_refl _
  | i + 1 => by
    have y := ly_6 i
    have y1 := lyf_len (p := p) (G := G) i
    have y2 := lyi_len (z := z) i
    rw [ly_s]
    show _ ≤ i + 1 + (ct_ (gb_ p) i + (if gb_ p i = true then 1 else 0))
    omega
theorem ly_mono (i : Nat) : ∀ v, (ly_ p G z i).length ≤ (ly_ p G z (i + v)).length ∧ (ly_ p G z (i + v)).length ≤ (ly_ p G z i).length + 2 * v
  | 0 => ⟨Nat.le_refl _, Nat.le_refl _⟩
  | v + 1 => by
    have y := ly_mono i v
    have y1 := lyf_len (p := p) (G := G) (i + v)
    have y2 := lyi_len (z := z) (i + v)
    rw [show i + (v + 1) = i + v + 1 by omega, ly_s]
    have y3 : (if gb_ p (i + v) = true then 1 else 0) ≤ 1 := by
      split
      · exact Nat.le_refl _
      · exact Nat.zero_le _
    omega
theorem ly_pre (i : Nat) : ∀ v, ∃ T, ly_ p G z (i + v) = ly_ p G z i ++ T
  | 0 => ⟨[], (List.append_nil _).symm⟩
  | v + 1 => by
    obtain ⟨T, h⟩ := ly_pre i v
    exact ⟨T ++ lyf_ p G (i + v) ++ lyi_ z (i + v), by
      show ly_ p G z (i + v) ++ lyf_ p G (i + v) ++ lyi_ z (i + v) = _
      rw [h, List.append_assoc, List.append_assoc, List.append_assoc]⟩
theorem lsn_ly : ∀ i, lsn_ p (ly_ p G z i) (ly_ p G z i).length ≤ ct_ (fun j => decide (pC_ p j 1 = 0)) i
  | 0 => Nat.le_refl _
  | i + 1 => by
    have y := lsn_ly i
    have e : ly_ p G z (i + 1) = ly_ p G z i ++ lyf_ p G i ++ lyi_ z i := rfl
    have y1 : lsn_ p (ly_ p G z i ++ lyf_ p G i) (ly_ p G z i ++ lyf_ p G i).length = lsn_ p (ly_ p G z i) (ly_ p G z i).length := by
      unfold lyf_
      split
      · rw [lsn_s]
        rfl
      · rw [List.append_nil]
    have e2 : ct_ (fun j => decide (pC_ p j 1 = 0)) (i + 1) = ct_ (fun j => decide (pC_ p j 1 = 0)) i + (if decide (pC_ p i 1 = 0) = true then 1 else 0) := rfl
    rw [e, e2]
    unfold lyi_
    split
    · rw [List.append_nil, y1]
      omega
    · rw [lsn_s, y1]
      have it : itc_ p (i : Int) 1 = pC_ p i 1 := by
        unfold itc_
        rw [if_neg (by omega), Int.toNat_natCast]
      rw [it]
      by_cases y2 : pC_ p i 1 = 0
      · rw [if_pos y2, if_pos (decide_eq_true y2)]
        omega
      · rw [if_neg y2, if_neg (by rw [decide_eq_true_eq]; exact y2)]
        omega
theorem ct_imp {f g : Nat → Bool} : ∀ n, (∀ i, i < n → f i = true → g i = true) → ct_ f n ≤ ct_ g n
  | 0, _ => Nat.le_refl _
  | n + 1, h => by
    have y := ct_imp n (fun i zi => h i (by omega))
    show ct_ f n + (if f n = true then 1 else 0) ≤ ct_ g n + (if g n = true then 1 else 0)
    by_cases y2 : f n = true
    · rw [if_pos y2, if_pos (h n (by omega) y2)]
      omega
    · rw [if_neg y2]
      split <;> omega
theorem lc0_at {n : Nat} {x : Int} {L : List Int} (h : L[n]? = some x) (k : Nat) : lc0_ p L n k = itc_ p x k := by
  unfold lc0_
  rw [h]
theorem gw_ly (zP : Wp_ p) (hm : m < 3) : Gw_ (gly_ p G z m) (Kl_ p G z) := by
  have g6 := gaps_6 zP
  have b := zP.1.1
  have l6 := ly_6 (p := p) (G := G) (z := z) (pN_ p)
  have bT := zP.1.2.1
  refine ⟨by unfold Kl_; omega, ?_, ?_, fun t _ => ?_, fun n => rfl, ?_, hm, fun n hn => ?_, fun t ht => ?_⟩
  · show (ly_ p G z (gB0_ p 0)).length = 0
    rw [gB_0 zP]
    rfl
  · show (ly_ p G z (gB0_ p 4)).length = (ly_ p G z (pN_ p)).length
    rw [gB_T zP (by omega)]
  · show (ly_ p G z (gB0_ p t)).length ≤ (ly_ p G z (gB0_ p (t + 1))).length
    have y := gB_mono zP (Nat.le_succ t)
    have y2 := (ly_mono (p := p) (G := G) (z := z) (gB0_ p t) (gB0_ p (t + 1) - gB0_ p t)).1
    rw [show gB0_ p t + (gB0_ p (t + 1) - gB0_ p t) = gB0_ p (t + 1) from Nat.add_sub_cancel' y] at y2
    exact y2
  · have y := lsn_ly (p := p) (G := G) (z := z) (pN_ p)
    have y2 : ct_ (fun j => decide (pC_ p j 1 = 0)) (pN_ p) ≤ ct_ (fun i => decide (pC_ p i 1 ≠ 3)) (pN_ p) := ct_imp _ (fun i _ h => by
      rw [decide_eq_true_eq] at h ⊢
      omega)
    have y3 := zP.2.2.2.2.2.2.2
    exact Nat.le_trans y (Nat.le_trans y2 y3)
  · have hn : n < (ly_ p G z (pN_ p)).length := hn
    have hx := List.getElem?_eq_getElem hn
    generalize (ly_ p G z (pN_ p))[n] = x at hx
    have c := fun k => lc0_at (p := p) hx k
    have hmem := ly_mem _ _ (List.mem_of_getElem? hx)
    show (0 ≤ lc0_ p (ly_ p G z (pN_ p)) n 1 ∧ lc0_ p (ly_ p G z (pN_ p)) n 1 ≤ 3) ∧ (-1 ≤ lc0_ p (ly_ p G z (pN_ p)) n 2 ∧ lc0_ p (ly_ p G z (pN_ p)) n 2 ≤ 2) ∧ (lc0_ p (ly_ p G z (pN_ p)) n 1 ≠ 3 → 0 ≤ lc0_ p (ly_ p G z (pN_ p)) n 2) ∧ (-1 ≤ lc0_ p (ly_ p G z (pN_ p)) n 3 ∧ lc0_ p (ly_ p G z (pN_ p)) n 3 ≤ 1) ∧ (lc0_ p (ly_ p G z (pN_ p)) n 1 = 1 ∨ lc0_ p (ly_ p G z (pN_ p)) n 1 = 2 → 0 ≤ lc0_ p (ly_ p G z (pN_ p)) n 3) ∧ (lc0_ p (ly_ p G z (pN_ p)) n 1 = 0 ∨ lc0_ p (ly_ p G z (pN_ p)) n 1 = 2 → (0 ≤ lc0_ p (ly_ p G z (pN_ p)) n 4 ∧ lc0_ p (ly_ p G z (pN_ p)) n 4 ≤ 3 ∧ lc0_ p (ly_ p G z (pN_ p)) n 5 = -1) ∨ (lc0_ p (ly_ p G z (pN_ p)) n 4 = -1 ∧ 0 ≤ lc0_ p (ly_ p G z (pN_ p)) n 5 ∧ lc0_ p (ly_ p G z (pN_ p)) n 5 ≤ 1)) ∧ (-1 ≤ lc0_ p (ly_ p G z (pN_ p)) n 4 ∧ lc0_ p (ly_ p G z (pN_ p)) n 4 ≤ 3) ∧ (-1 ≤ lc0_ p (ly_ p G z (pN_ p)) n 5 ∧ lc0_ p (ly_ p G z (pN_ p)) n 5 ≤ 1)
    rw [c 1, c 2, c 3, c 4, c 5]
    rcases hmem with rfl | ⟨h0, h1⟩
    · have e1 : itc_ p (-1) 1 = 3 := rfl
      have e2 : itc_ p (-1) 2 = -1 := rfl
      have e3 : itc_ p (-1) 3 = -1 := rfl
      have e4 : itc_ p (-1) 4 = -1 := rfl
      have e5 : itc_ p (-1) 5 = -1 := rfl
      rw [e1, e2, e3, e4, e5]
      omega
    · obtain ⟨i, rfl⟩ : ∃ i : Nat, x = i := ⟨x.toNat, by omega⟩
      have it : ∀ k, itc_ p (i : Int) k = pC_ p i k := fun k => by
        unfold itc_
        rw [if_neg (by omega), Int.toNat_natCast]
      rw [it, it, it, it, it]
      obtain ⟨-, -, k3, k4, k5, k6, k7, k8, k9⟩ := zP.2.1 i (by omega)
      have bL := zP.1.2.2.1
      have c1 := zP.1.2.2.2.2 i 1
      have c2 := zP.1.2.2.2.2 i 2
      have c3 := zP.1.2.2.2.2 i 3
      have c4 := zP.1.2.2.2.2 i 4
      have c5 := zP.1.2.2.2.2 i 5
      by_cases y3 : pC_ p i 1 = 3
      · have := k4 y3
        omega
      · have k5 := k5 y3
        by_cases y0 : pC_ p i 1 = 0
        · have k7 := k7 y0
          have k9 := k9 (Or.inl y0)
          omega
        · by_cases y1 : pC_ p i 1 = 1
          · have k6 := k6 (Or.inl y1)
            have k8 := k8 y1
            omega
          · have y2 : pC_ p i 1 = 2 := by omega
            have k6 := k6 (Or.inr y2)
            have k9 := k9 (Or.inr y2)
            omega
  · show (ly_ p G z (gB0_ p (t + 1))).length - (ly_ p G z (gB0_ p t)).length ≤ 14
    have y := gB_mono zP (Nat.le_succ t)
    have y7 : gB0_ p (t + 1) - gB0_ p t ≤ 7 := gl_7 (m := m) (F := fun _ => false) zP t
    have y2 := (ly_mono (p := p) (G := G) (z := z) (gB0_ p t) (gB0_ p (t + 1) - gB0_ p t)).2
    rw [show gB0_ p t + (gB0_ p (t + 1) - gB0_ p t) = gB0_ p (t + 1) from Nat.add_sub_cancel' y] at y2
    omega
theorem ml_ly (zP : Wp_ p) (hm : m < 3) (hL : Lr_ s p (ly_ p G z (pN_ p))) (hB : Lb_ s p G z 5) : Ml_ s (gly_ p G z m) (Kl_ p G z) := by
  refine ⟨gw_ly zP hm, st_sI _ _ _ _, fun t ht => hB t ht, fun n hn => ?_⟩
  have hn : n < (ly_ p G z (pN_ p)).length := hn
  have hx := List.getElem?_eq_getElem hn
  generalize (ly_ p G z (pN_ p))[n] = x at hx
  have c := fun k => lc0_at (p := p) hx k
  obtain ⟨-, a1, a2, a3, a4, a5, a6⟩ := hL n x hx
  show st_I s 196 n = i_ (lc0_ p (ly_ p G z (pN_ p)) n 1) ∧ st_I s 197 n = i_ (lc0_ p (ly_ p G z (pN_ p)) n 2) ∧ st_I s 198 n = i_ (lc0_ p (ly_ p G z (pN_ p)) n 3) ∧ st_I s 199 n = i_ (lc0_ p (ly_ p G z (pN_ p)) n 4) ∧ st_I s 200 n = i_ (lc0_ p (ly_ p G z (pN_ p)) n 5) ∧ (lc0_ p (ly_ p G z (pN_ p)) n 1 = 0 → st_I s 202 n = i_ (lsn_ p (ly_ p G z (pN_ p)) n : Int))
  rw [c 1, c 2, c 3, c 4, c 5]
  exact ⟨a1, a2, a3, a4, a5, a6⟩
/-- nothing beyond the program -/
def Vy_ (p : pr_T) (S : gs_T) : Prop := (∀ q, 2 * pT_ p ≤ q → sR_ S q = 0) ∧ ∀ l, pL_ p ≤ l → sM_ S l = 0
theorem gly_T (zP : Wp_ p) {t : Nat} (ht : pT_ p ≤ t) : gl_ (gly_ p G z m) t = 0 := by
  show (ly_ p G z (gB0_ p (t + 1))).length - (ly_ p G z (gB0_ p t)).length = 0
  rw [gB_T zP ht, gB_T zP (by omega : pT_ p ≤ t + 1), Nat.sub_self]
theorem gly_L (zP : Wp_ p) {n : Nat} (hn : n < Kl_ p G z) (h3 : gC_ (gly_ p G z m) n 1 ≠ 3) : 0 ≤ gC_ (gly_ p G z m) n 2 ∧ gC_ (gly_ p G z m) n 2 < pL_ p := by
  have hn : n < (ly_ p G z (pN_ p)).length := hn
  have hx := List.getElem?_eq_getElem hn
  generalize (ly_ p G z (pN_ p))[n] = x at hx
  have c := fun k => lc0_at (p := p) hx k
  have hmem := ly_mem _ _ (List.mem_of_getElem? hx)
  have h3 : lc0_ p (ly_ p G z (pN_ p)) n 1 ≠ 3 := h3
  show 0 ≤ lc0_ p (ly_ p G z (pN_ p)) n 2 ∧ lc0_ p (ly_ p G z (pN_ p)) n 2 < pL_ p
  rw [c 1] at h3
  rw [c 2]
  rcases hmem with rfl | ⟨h0, h1⟩
  · exact absurd rfl h3
  · obtain ⟨i, rfl⟩ : ∃ i : Nat, x = i := ⟨x.toNat, by omega⟩
    have it : ∀ k, itc_ p (i : Int) k = pC_ p i k := fun k => by
      unfold itc_
      rw [if_neg (by omega), Int.toNat_natCast]
    rw [it] at h3 ⊢
    exact (zP.2.1 i (by omega)).2.2.2.2.1 h3
theorem vy_step {S S2 : gs_T} {t w : Nat} (zP : Wp_ p) (hm : m < 3) (v : Vr_ (gly_ p G z m) (Kl_ p G z) S) (y : Vy_ p S) (q1 : t < 4) (q2 : w < 4) (q : gt_ (gly_ p G z m) S t w = some S2) : Vy_ p S2 := by
  have hg := gw_ly (G := G) (z := z) zP hm
  unfold gt_ at q
  split at q
  · have h := gx_eq (g := gly_ p G z m) (S := S) (t := t) (by rw [q]; intro z; cases z)
    have hT : t < pT_ p := by
      by_cases e : t < pT_ p
      · exact e
      · have := gly_T (G := G) (z := z) (m := m) zP (t := t) (by omega)
        omega
    obtain ⟨k1, k2, k3⟩ := gk_ hg q1
    have hn : gB_ (gly_ p G z m) t + sP_ S t < Kl_ p G z := by omega
    have kn := hg.2.2.2.2.2.2.2.1 _ hn
    have hL := gly_L (m := m) zP hn
    rw [gx_b h.1 h.2] at q
    rw [← Option.some.inj q]
    generalize gB_ (gly_ p G z m) t + sP_ S t = n at kn hL hn
    have uR : ∀ v, ∀ q, 2 * pT_ p ≤ q → un_ (sR_ S) (2 * t + (gC_ (gly_ p G z m) n 3).toNat) v q = 0 := fun v q hq => by
      unfold un_
      rw [if_neg (by omega)]
      exact y.1 q hq
    have uM : gC_ (gly_ p G z m) n 1 ≠ 3 → ∀ v, ∀ l, pL_ p ≤ l → un_ (sM_ S) (gC_ (gly_ p G z m) n 2).toNat v l = 0 := fun h3 v l hl => by
      have := hL h3
      unfold un_
      rw [if_neg (by omega)]
      exact y.2 l hl
    unfold gxb_
    by_cases y0 : gC_ (gly_ p G z m) n 1 = 0
    · rw [if_pos y0]
      split
      · exact ⟨y.1, uM (by omega) _⟩
      · exact y
    · rw [if_neg y0]
      by_cases y1 : gC_ (gly_ p G z m) n 1 = 1
      · rw [if_pos y1]
        exact ⟨uR _, y.2⟩
      · rw [if_neg y1]
        by_cases y2 : gC_ (gly_ p G z m) n 1 = 2
        · rw [if_pos y2]
          exact ⟨uR _, uM (by omega) _⟩
        · rw [if_neg y2]
          exact y
  · unfold gc_ at q
    cases e : gn_ (gly_ p G z m) S t (w - 1) with
    | none => rw [e] at q; cases q
    | some n =>
      rw [e] at q
      rw [← Option.some.inj q]
      obtain ⟨n1, n2, n3, -⟩ := gn_in v e
      have hL := gly_L (m := m) zP n1 (by omega)
      refine ⟨y.1, fun l hl => ?_⟩
      show un_ (sM_ S) (w - 1) _ l = 0
      unfold un_
      rw [if_neg (by omega)]
      exact y.2 l hl
end GY
