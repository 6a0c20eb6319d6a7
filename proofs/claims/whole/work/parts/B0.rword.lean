/-! the reference's state as a number -/
section RW
variable {g : gm_T} {K s : Nat} {S : gs_T}
/-- stores before an item -/
def sbn_ (g : gm_T) (n : Nat) : Nat := ct_ (fun j => decide (gC_ g j 1 = 0)) n
/-- items that are laid well -/
def Gw_ (g : gm_T) (K : Nat) : Prop := K ≤ 16 ∧ gB_ g 0 = 0 ∧ gB_ g 4 = K ∧ (∀ t, t < 4 → gB_ g t ≤ gB_ g (t + 1)) ∧ (∀ n, gK_ g n = decide (2 ≤ gC_ g n 1)) ∧ sbn_ g K ≤ 8 ∧ gm_ g < 3 ∧
  (∀ n, n < K → (0 ≤ gC_ g n 1 ∧ gC_ g n 1 ≤ 3) ∧ (-1 ≤ gC_ g n 2 ∧ gC_ g n 2 ≤ 2) ∧ (gC_ g n 1 ≠ 3 → 0 ≤ gC_ g n 2) ∧ (-1 ≤ gC_ g n 3 ∧ gC_ g n 3 ≤ 1) ∧ (gC_ g n 1 = 1 ∨ gC_ g n 1 = 2 → 0 ≤ gC_ g n 3) ∧
    (gC_ g n 1 = 0 ∨ gC_ g n 1 = 2 → (0 ≤ gC_ g n 4 ∧ gC_ g n 4 ≤ 3 ∧ gC_ g n 5 = -1) ∨ (gC_ g n 4 = -1 ∧ 0 ≤ gC_ g n 5 ∧ gC_ g n 5 ≤ 1)) ∧ (-1 ≤ gC_ g n 4 ∧ gC_ g n 4 ≤ 3) ∧ (-1 ≤ gC_ g n 5 ∧ gC_ g n 5 ≤ 1)) ∧ ∀ t, t < 4 → gl_ g t ≤ 14
def cR_ (g : gm_T) (K : Nat) (S : gs_T) (k : Nat) : Bool :=
  if k < 16 then (sP_ S (k / 4)).testBit (k % 4)
  else if k < 32 then (sR_ S ((k - 16) / 2)).testBit (k % 2)
  else if k < 38 then (sM_ S ((k - 32) / 2)).testBit (k % 2)
  else an_ (fun n => decide (gC_ g n 1 = 0 ∧ sbn_ g n = k - 38) && sW_ S n) K
def Cr_ (g : gm_T) (K s : Nat) (S : gs_T) : Prop := ∀ k, s.testBit k = cR_ g K S k
/-- states that the reference comes to -/
def Vr_ (g : gm_T) (K : Nat) (S : gs_T) : Prop := (∀ t, sP_ S t < 16 ∧ (4 ≤ t → sP_ S t = 0)) ∧ (∀ q, sR_ S q < 4 ∧ (8 ≤ q → sR_ S q = 0)) ∧ (∀ l, sM_ S l < 4 ∧ (3 ≤ l → sM_ S l = 0)) ∧ (∀ t, t < 4 → sP_ S t ≤ gl_ g t) ∧
  (∀ n, sW_ S n = true → n < K ∧ gC_ g n 1 = 0 ∧ gm_ g ≠ 0 ∧ ∃ t, t < 4 ∧ gB_ g t ≤ n ∧ n < gB_ g t + sP_ S t)
theorem sbn_lt {n m : Nat} (h : n < m) (hs : gC_ g n 1 = 0) : sbn_ g n < sbn_ g m := by
  have y : sbn_ g (n + 1) = sbn_ g n + 1 := by
    show ct_ _ n + (if decide (gC_ g n 1 = 0) = true then 1 else 0) = _
    rw [if_pos (decide_eq_true hs)]
    rfl
  have z : ∀ v, sbn_ g (n + 1) ≤ sbn_ g (n + 1 + v) := fun v => by
    induction v with
    | zero => exact Nat.le_refl _
    | succ v ih =>
      refine Nat.le_trans ih ?_
      show _ ≤ ct_ _ (n + 1 + v) + _
      exact Nat.le_add_right _ _
  have z2 := z (m - (n + 1))
  rw [show n + 1 + (m - (n + 1)) = m by omega] at z2
  omega
theorem sbn_inj {n m : Nat} (hn : gC_ g n 1 = 0) (hm : gC_ g m 1 = 0) (e : sbn_ g n = sbn_ g m) : n = m := by
  rcases Nat.lt_trichotomy n m with h | h | h
  · have := sbn_lt h hn; omega
  · exact h
  · have := sbn_lt h hm; omega
theorem sbn_8 (hg : Gw_ g K) {n : Nat} (hn : n < K) (hs : gC_ g n 1 = 0) : sbn_ g n < 8 := by
  have y := sbn_lt hn hs
  have z := hg.2.2.2.2.2.1
  omega
theorem cR_W {n : Nat} (hn : n < K) (hs : gC_ g n 1 = 0) : cR_ g K S (38 + sbn_ g n) = sW_ S n := by
  unfold cR_
  rw [if_neg (by omega), if_neg (by omega), if_neg (by omega), show 38 + sbn_ g n - 38 = sbn_ g n by omega]
  cases hw : sW_ S n with
  | true =>
    rw [an_iff]
    exact ⟨n, hn, by rw [decide_eq_true ⟨hs, rfl⟩, hw]; rfl⟩
  | false =>
    rw [Bool.eq_false_iff]
    intro h
    obtain ⟨j, h1, h2⟩ := (an_iff _ _).mp h
    rw [Bool.and_eq_true, decide_eq_true_eq] at h2
    have e := sbn_inj h2.1.1 hs h2.1.2
    rw [e, hw] at h2
    cases h2.2
theorem an_f (f : Nat → Bool) (n : Nat) (h : ∀ j, j < n → f j = false) : an_ f n = false := by
  rw [Bool.eq_false_iff]
  intro z
  obtain ⟨j, h1, h2⟩ := (an_iff _ _).mp z
  rw [h j h1] at h2
  cases h2
theorem cr_lt (hg : Gw_ g K) (z : Cr_ g K s S) : s < 2 ^ 46 := by
  apply Nat.lt_pow_two_of_testBit
  intro k hk
  rw [z k]
  unfold cR_
  rw [if_neg (by omega), if_neg (by omega), if_neg (by omega)]
  refine an_f _ _ (fun j hj => ?_)
  by_cases e : gC_ g j 1 = 0
  · have y := sbn_8 hg hj e
    rw [decide_eq_false (fun z => by omega)]
    rfl
  · rw [decide_eq_false (fun z => e z.1)]
    rfl
theorem cr_P (z : Cr_ g K s S) {t : Nat} (q1 : t < 4) (q2 : sP_ S t < 16) : s / 2 ^ (4 * t) % 2 ^ 4 = sP_ S t := by
  refine fld_ q2 (fun j hj => ?_)
  rw [z]
  unfold cR_
  rw [if_pos (by omega), show (4 * t + j) / 4 = t by omega, show (4 * t + j) % 4 = j by omega]
theorem cr_R (z : Cr_ g K s S) {q : Nat} (q1 : q < 8) (q2 : sR_ S q < 4) : s / 2 ^ (16 + 2 * q) % 2 ^ 2 = sR_ S q := by
  refine fld_ q2 (fun j hj => ?_)
  rw [z]
  unfold cR_
  rw [if_neg (by omega), if_pos (by omega), show (16 + 2 * q + j - 16) / 2 = q by omega, show (16 + 2 * q + j) % 2 = j by omega]
theorem cr_M (z : Cr_ g K s S) {l : Nat} (q1 : l < 3) (q2 : sM_ S l < 4) : s / 2 ^ (32 + 2 * l) % 2 ^ 2 = sM_ S l := by
  refine fld_ q2 (fun j hj => ?_)
  rw [z]
  unfold cR_
  rw [if_neg (by omega), if_neg (by omega), if_pos (by omega), show (32 + 2 * l + j - 32) / 2 = l by omega, show (32 + 2 * l + j) % 2 = j by omega]
theorem cr_W (z : Cr_ g K s S) {n : Nat} (hn : n < K) (hs : gC_ g n 1 = 0) : s.testBit (38 + sbn_ g n) = sW_ S n := (z _).trans (cR_W hn hs)
theorem cr_inj {s2 : Nat} (z : Cr_ g K s S) (z2 : Cr_ g K s2 S) : s = s2 := Nat.eq_of_testBit_eq (fun k => (z k).trans (z2 k).symm)
theorem cr_eq {S2 : gs_T} (z : Cr_ g K s S) (z2 : Cr_ g K s S2) (v : Vr_ g K S) (v2 : Vr_ g K S2) : S = S2 := by
  have e1 : sP_ S = sP_ S2 := funext (fun t => by
    by_cases y : t < 4
    · rw [← cr_P z y (v.1 t).1, ← cr_P z2 y (v2.1 t).1]
    · rw [(v.1 t).2 (by omega), (v2.1 t).2 (by omega)])
  have e2 : sR_ S = sR_ S2 := funext (fun t => by
    by_cases y : t < 8
    · rw [← cr_R z y (v.2.1 t).1, ← cr_R z2 y (v2.2.1 t).1]
    · rw [(v.2.1 t).2 (by omega), (v2.2.1 t).2 (by omega)])
  have e3 : sM_ S = sM_ S2 := funext (fun t => by
    by_cases y : t < 3
    · rw [← cr_M z y (v.2.2.1 t).1, ← cr_M z2 y (v2.2.2.1 t).1]
    · rw [(v.2.2.1 t).2 (by omega), (v2.2.2.1 t).2 (by omega)])
  have e4 : sW_ S = sW_ S2 := funext (fun n => by
    by_cases y : n < K ∧ gC_ g n 1 = 0
    · rw [← cr_W z y.1 y.2, ← cr_W z2 y.1 y.2]
    · have a : ∀ X : gs_T, Vr_ g K X → sW_ X n = false := fun X vx => Bool.eq_false_iff.mpr (fun h => y ⟨(vx.2.2.2.2 n h).1, (vx.2.2.2.2 n h).2.1⟩)
      rw [a S v, a S2 v2])
  obtain ⟨a1, a2, a3, a4⟩ := S
  obtain ⟨b1, b2, b3, b4⟩ := S2
  have e1 : a1 = b1 := e1
  have e2 : a2 = b2 := e2
  have e3 : a3 = b3 := e3
  have e4 : a4 = b4 := e4
  rw [e1, e2, e3, e4]
theorem cr_setR (hg : Gw_ g K) (z : Cr_ g K s S) {q v : Nat} (q1 : q < 8) (q2 : v < 4) : Cr_ g K (sd_ s (16 + 2 * q) v) (sP_ S, un_ (sR_ S) q v, sM_ S, sW_ S) := by
  intro k
  rw [sd_tb (by omega) (Nat.lt_trans (cr_lt hg z) (by decide)) q2, z k]
  unfold cR_
  by_cases y : 16 + 2 * q ≤ k ∧ k < 16 + 2 * q + 2
  · rw [if_pos y, if_neg (by omega), if_pos (by omega)]
    show _ = (un_ (sR_ S) q v ((k - 16) / 2)).testBit _
    unfold un_
    rw [if_pos (by omega), show k - (16 + 2 * q) = k % 2 by omega]
  · rw [if_neg y]
    by_cases y1 : k < 16
    · rw [if_pos y1, if_pos y1]; rfl
    · rw [if_neg y1, if_neg y1]
      by_cases y2 : k < 32
      · rw [if_pos y2, if_pos y2]
        show _ = (un_ (sR_ S) q v ((k - 16) / 2)).testBit _
        unfold un_
        rw [if_neg (by omega)]
      · rw [if_neg y2, if_neg y2]
        rfl
theorem cr_setM (hg : Gw_ g K) (z : Cr_ g K s S) {l v : Nat} (q1 : l < 3) (q2 : v < 4) : Cr_ g K (sd_ s (32 + 2 * l) v) (sP_ S, sR_ S, un_ (sM_ S) l v, sW_ S) := by
  intro k
  rw [sd_tb (by omega) (Nat.lt_trans (cr_lt hg z) (by decide)) q2, z k]
  unfold cR_
  by_cases y : 32 + 2 * l ≤ k ∧ k < 32 + 2 * l + 2
  · rw [if_pos y, if_neg (by omega), if_neg (by omega), if_pos (by omega)]
    show _ = (un_ (sM_ S) l v ((k - 32) / 2)).testBit _
    unfold un_
    rw [if_pos (by omega), show k - (32 + 2 * l) = k % 2 by omega]
  · rw [if_neg y]
    by_cases y1 : k < 16
    · rw [if_pos y1, if_pos y1]; rfl
    · rw [if_neg y1, if_neg y1]
      by_cases y2 : k < 32
      · rw [if_pos y2, if_pos y2]
        rfl
      · rw [if_neg y2, if_neg y2]
        by_cases y3 : k < 38
        · rw [if_pos y3, if_pos y3]
          show _ = (un_ (sM_ S) l v ((k - 32) / 2)).testBit _
          unfold un_
          rw [if_neg (by omega)]
        · rw [if_neg y3, if_neg y3]
          rfl
theorem cr_step (z : Cr_ g K s S) {t : Nat} (q1 : t < 4) (q2 : sP_ S t < 15) : Cr_ g K (s + 2 ^ (4 * t)) (un_ (sP_ S) t (sP_ S t + 1), sR_ S, sM_ S, sW_ S) := by
  intro k
  rw [ad_tb (w := 4) (cr_P z q1 (by omega)) (by omega), z k]
  unfold cR_
  by_cases y : 4 * t ≤ k ∧ k < 4 * t + 4
  · rw [if_pos y, if_pos (by omega)]
    show _ = (un_ (sP_ S) t (sP_ S t + 1) (k / 4)).testBit _
    unfold un_
    rw [if_pos (by omega), show k - 4 * t = k % 4 by omega]
  · rw [if_neg y]
    by_cases y1 : k < 16
    · rw [if_pos y1, if_pos y1]
      show _ = (un_ (sP_ S) t (sP_ S t + 1) (k / 4)).testBit _
      unfold un_
      rw [if_neg (by omega)]
    · rw [if_neg y1, if_neg y1]
      rfl
theorem an_b {f f2 : Nat → Bool} {n0 K : Nat} {v : Bool} (h0 : n0 < K) (h1 : f2 n0 = v) (h2 : ∀ j, j < K → j ≠ n0 → f j = false ∧ f2 j = false) : an_ f2 K = v := by
  cases v with
  | true => exact (an_iff _ _).mpr ⟨n0, h0, h1⟩
  | false =>
    refine an_f _ _ (fun j hj => ?_)
    by_cases e : j = n0
    · rw [e]; exact h1
    · exact (h2 j hj e).2
theorem cr_ubW {n : Nat} {v : Bool} (hn : n < K) (hs : gC_ g n 1 = 0) {s2 : Nat} (h : ∀ k, s2.testBit k = if k = 38 + sbn_ g n then v else s.testBit k) (z : Cr_ g K s S) : Cr_ g K s2 (sP_ S, sR_ S, sM_ S, ub_ (sW_ S) n v) := by
  intro k
  rw [h k]
  by_cases y : k = 38 + sbn_ g n
  · rw [if_pos y, y]
    have e := cR_W (g := g) (S := (sP_ S, sR_ S, sM_ S, ub_ (sW_ S) n v)) hn hs
    rw [e]
    show v = ub_ (sW_ S) n v n
    unfold ub_
    rw [if_pos rfl]
  · rw [if_neg y, z k]
    unfold cR_
    by_cases y1 : k < 16
    · rw [if_pos y1, if_pos y1]; rfl
    · rw [if_neg y1, if_neg y1]
      by_cases y2 : k < 32
      · rw [if_pos y2, if_pos y2]; rfl
      · rw [if_neg y2, if_neg y2]
        by_cases y3 : k < 38
        · rw [if_pos y3, if_pos y3]; rfl
        · rw [if_neg y3, if_neg y3]
          have e : (fun j => decide (gC_ g j 1 = 0 ∧ sbn_ g j = k - 38) && sW_ S j) = (fun j => decide (gC_ g j 1 = 0 ∧ sbn_ g j = k - 38) && sW_ (sP_ S, sR_ S, sM_ S, ub_ (sW_ S) n v) j) := funext (fun j => by
            show _ = (_ && ub_ (sW_ S) n v j)
            unfold ub_
            by_cases ej : j = n
            · rw [if_pos ej, ej, decide_eq_false (fun q => by omega)]
              rfl
            · rw [if_neg ej])
          rw [e]
theorem cr_setW {n : Nat} (hn : n < K) (hs : gC_ g n 1 = 0) (z : Cr_ g K s S) : Cr_ g K (s ||| 2 ^ (38 + sbn_ g n)) (sP_ S, sR_ S, sM_ S, ub_ (sW_ S) n true) := by
  refine cr_ubW hn hs (fun k => ?_) z
  rw [Nat.testBit_or, Nat.testBit_two_pow]
  by_cases y : k = 38 + sbn_ g n
  · rw [if_pos y, decide_eq_true (by omega), Bool.or_true]
  · rw [if_neg y, decide_eq_false (by omega), Bool.or_false]
theorem cr_clrW {n : Nat} (hg : Gw_ g K) (hn : n < K) (hs : gC_ g n 1 = 0) (z : Cr_ g K s S) : Cr_ g K (s &&& (2 ^ (38 + sbn_ g n) ^^^ (2 ^ 64 - 1))) (sP_ S, sR_ S, sM_ S, ub_ (sW_ S) n false) := by
  have b := sbn_8 hg hn hs
  have l := cr_lt hg z
  refine cr_ubW hn hs (fun k => ?_) z
  rw [Nat.testBit_and, Nat.testBit_xor, Nat.testBit_two_pow, show (2 : Nat) ^ 64 - 1 = 2 ^ 64 - 1 from rfl, Nat.testBit_two_pow_sub_one]
  by_cases y : k = 38 + sbn_ g n
  · rw [if_pos y, decide_eq_true (by omega), decide_eq_true (by omega)]
    simp
  · rw [if_neg y, decide_eq_false (by omega)]
    by_cases y2 : k < 64
    · rw [decide_eq_true y2]
      simp
    · have : s.testBit k = false := Nat.testBit_lt_two_pow (Nat.lt_of_lt_of_le l (Nat.pow_le_pow_right (by decide) (by omega)))
      rw [this]
      rfl
def kr_ (g : gm_T) (K : Nat) (S : gs_T) : Nat := bm_ (cR_ g K S) 46
theorem kr_cr (hg : Gw_ g K) (S : gs_T) : Cr_ g K (kr_ g K S) S := by
  intro k
  unfold kr_
  rw [bm_tb]
  by_cases y : k < 46
  · rw [decide_eq_true y, Bool.true_and]
  · rw [decide_eq_false y, Bool.false_and]
    unfold cR_
    rw [if_neg (by omega), if_neg (by omega), if_neg (by omega)]
    refine (an_f _ _ (fun j hj => ?_)).symm
    by_cases e : gC_ g j 1 = 0
    · have b := sbn_8 hg hj e
      rw [decide_eq_false (fun z => by omega)]
      rfl
    · rw [decide_eq_false (fun z => e z.1)]
      rfl
theorem kr_of (hg : Gw_ g K) (z : Cr_ g K s S) : s = kr_ g K S := cr_inj z (kr_cr hg S)
theorem kr_lt (g : gm_T) (K : Nat) (S : gs_T) : kr_ g K S < 2 ^ 46 := bm_lt _ _
end RW
