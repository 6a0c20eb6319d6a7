/-! the class's word of a state -/
def cD_ (T : Nat) (S : gs_T) (j : Nat) : Nat := if j < 2 * T then sR_ S j else sM_ S (j - 2 * T)
def cB_ (T L : Nat) (S : gs_T) (k : Nat) : Bool :=
  if k < 22 then (if k < 2 * (2 * T + L) then (cD_ T S (2 * T + L - 1 - k / 2)).testBit (k % 2) else false)
  else if k < 32 then sW_ S (k - 22)
  else if k < 44 then (sP_ S ((k - 32) / 3)).testBit ((k - 32) % 3) else false
def Cw_ (T L s : Nat) (S : gs_T) : Prop := ∀ k, s.testBit k = cB_ T L S k
/-- what a state is: in range, nothing beyond the program -/
def Vs_ (T L : Nat) (S : gs_T) : Prop := (∀ t, sP_ S t < 8 ∧ (T ≤ t → sP_ S t = 0)) ∧ (∀ q, sR_ S q < 4 ∧ (2 * T ≤ q → sR_ S q = 0)) ∧ (∀ l, sM_ S l < 4 ∧ (L ≤ l → sM_ S l = 0)) ∧ ∀ n, 10 ≤ n → sW_ S n = false
theorem fld_ {s q w x : Nat} (z1 : x < 2 ^ w) (z2 : ∀ j, j < w → s.testBit (q + j) = x.testBit j) : s / 2 ^ q % 2 ^ w = x := by
  apply Nat.eq_of_testBit_eq
  intro j
  rw [Nat.testBit_mod_two_pow, Nat.testBit_div_two_pow]
  by_cases z : j < w
  · rw [decide_eq_true z, Bool.true_and, Nat.add_comm, z2 j z]
  · rw [decide_eq_false z, Bool.false_and, Nat.testBit_lt_two_pow (Nat.lt_of_lt_of_le z1 (Nat.pow_le_pow_right (by decide) (by omega)))]
section CW
variable {T L s : Nat} {S : gs_T}
theorem cw_lt (z : Cw_ T L s S) : s < 2 ^ 44 := by
  apply Nat.lt_pow_two_of_testBit
  intro k zk
  rw [z k]
  unfold cB_
  rw [if_neg (by omega), if_neg (by omega), if_neg (by omega)]
theorem cw_inj {s2 : Nat} (z : Cw_ T L s S) (z2 : Cw_ T L s2 S) : s = s2 := Nat.eq_of_testBit_eq (fun k => (z k).trans (z2 k).symm)
theorem cw_P (z : Cw_ T L s S) {t : Nat} (q1 : t < 4) (q2 : sP_ S t < 8) : s / 2 ^ (32 + 3 * t) % 2 ^ 3 = sP_ S t := by
  refine fld_ q2 (fun j zj => ?_)
  rw [z]
  unfold cB_
  rw [if_neg (by omega), if_neg (by omega), if_pos (by omega), show (32 + 3 * t + j - 32) / 3 = t by omega, show (32 + 3 * t + j - 32) % 3 = j by omega]
theorem cw_W (z : Cw_ T L s S) {i : Nat} (q1 : i < 10) : s.testBit (22 + i) = sW_ S i := by
  rw [z]
  unfold cB_
  rw [if_neg (by omega), if_pos (by omega), show 22 + i - 22 = i by omega]
theorem cw_D (z : Cw_ T L s S) {j : Nat} (q0 : T ≤ 4) (q00 : L ≤ 3) (q1 : j < 2 * T + L) (q2 : cD_ T S j < 4) : s / 2 ^ (2 * (2 * T + L - 1 - j)) % 2 ^ 2 = cD_ T S j := by
  refine fld_ q2 (fun b zb => ?_)
  rw [z]
  unfold cB_
  rw [if_pos (by omega), if_pos (by omega), show 2 * T + L - 1 - (2 * (2 * T + L - 1 - j) + b) / 2 = j by omega, show (2 * (2 * T + L - 1 - j) + b) % 2 = b by omega]
theorem cD_lt (z : Vs_ T L S) (j : Nat) : cD_ T S j < 4 := by
  unfold cD_
  split
  · exact (z.2.1 _).1
  · exact (z.2.2.1 _).1
theorem cw_R (z : Cw_ T L s S) (v : Vs_ T L S) {q : Nat} (q0 : T ≤ 4) (q00 : L ≤ 3) (q1 : q < 2 * T) : s / 2 ^ (2 * (2 * T + L - 1 - q)) % 2 ^ 2 = sR_ S q := by
  rw [cw_D z q0 q00 (by omega) (cD_lt v q)]
  unfold cD_
  rw [if_pos q1]
theorem cw_M (z : Cw_ T L s S) (v : Vs_ T L S) {l : Nat} (q0 : T ≤ 4) (q00 : L ≤ 3) (q1 : l < L) : s / 2 ^ (2 * (L - 1 - l)) % 2 ^ 2 = sM_ S l := by
  have z1 := cw_D z (j := 2 * T + l) q0 q00 (by omega) (cD_lt v _)
  rw [show 2 * T + L - 1 - (2 * T + l) = L - 1 - l by omega] at z1
  rw [z1]
  unfold cD_
  rw [if_neg (by omega), show 2 * T + l - 2 * T = l by omega]
/-- two states of one word are the same in what counts -/
theorem cw_eq {S2 : gs_T} (z : Cw_ T L s S) (z2 : Cw_ T L s S2) (v : Vs_ T L S) (v2 : Vs_ T L S2) (q0 : T ≤ 4) (q00 : L ≤ 3) : S = S2 := by
  obtain ⟨P, R, M, W⟩ := S
  obtain ⟨P2, R2, M2, W2⟩ := S2
  have e1 : P = P2 := by
    funext t
    by_cases y : t < 4
    · exact (cw_P z y (v.1 t).1).symm.trans (cw_P z2 y (v2.1 t).1)
    · exact ((v.1 t).2 (by omega)).trans ((v2.1 t).2 (by omega)).symm
  have e2 : R = R2 := by
    funext t
    by_cases y : t < 2 * T
    · exact (cw_R z v q0 q00 y).symm.trans (cw_R z2 v2 q0 q00 y)
    · exact ((v.2.1 t).2 (by omega)).trans ((v2.2.1 t).2 (by omega)).symm
  have e3 : M = M2 := by
    funext t
    by_cases y : t < L
    · exact (cw_M z v q0 q00 y).symm.trans (cw_M z2 v2 q0 q00 y)
    · exact ((v.2.2.1 t).2 (by omega)).trans ((v2.2.2.1 t).2 (by omega)).symm
  have e4 : W = W2 := by
    funext t
    by_cases y : t < 10
    · exact (cw_W z y).symm.trans (cw_W z2 y)
    · exact (v.2.2.2 t (by omega)).trans (v2.2.2.2 t (by omega)).symm
  rw [e1, e2, e3, e4]
theorem cw_setR (z : Cw_ T L s S) {q v : Nat} (q0 : T ≤ 4) (q00 : L ≤ 3) (q1 : q < 2 * T) (q2 : v < 4) : Cw_ T L (sd_ s (2 * (2 * T + L - 1 - q)) v) (sP_ S, un_ (sR_ S) q v, sM_ S, sW_ S) := by
  intro k
  have zl := cw_lt z
  rw [sd_tb (by omega) (by omega) q2, z k]
  by_cases y : 2 * (2 * T + L - 1 - q) ≤ k ∧ k < 2 * (2 * T + L - 1 - q) + 2
  · rw [if_pos y]
    unfold cB_
    rw [if_pos (by omega), if_pos (by omega), show 2 * T + L - 1 - k / 2 = q by omega]
    unfold cD_
    rw [if_pos q1]
    show _ = (un_ (sR_ S) q v q).testBit _
    unfold un_
    rw [if_pos rfl, show k - 2 * (2 * T + L - 1 - q) = k % 2 by omega]
  · rw [if_neg y]
    unfold cB_
    by_cases y1 : k < 22
    · rw [if_pos y1, if_pos y1]
      by_cases y2 : k < 2 * (2 * T + L)
      · rw [if_pos y2, if_pos y2]
        unfold cD_
        by_cases y3 : 2 * T + L - 1 - k / 2 < 2 * T
        · rw [if_pos y3, if_pos y3]
          show _ = (un_ (sR_ S) q v _).testBit _
          unfold un_
          rw [if_neg (by omega)]
        · rw [if_neg y3, if_neg y3]
          rfl
      · rw [if_neg y2, if_neg y2]
    · rw [if_neg y1, if_neg y1]
      rfl
theorem cw_setM (z : Cw_ T L s S) {l v : Nat} (q0 : T ≤ 4) (q00 : L ≤ 3) (q1 : l < L) (q2 : v < 4) : Cw_ T L (sd_ s (2 * (L - 1 - l)) v) (sP_ S, sR_ S, un_ (sM_ S) l v, sW_ S) := by
  intro k
  have zl := cw_lt z
  rw [sd_tb (by omega) (by omega) q2, z k]
  by_cases y : 2 * (L - 1 - l) ≤ k ∧ k < 2 * (L - 1 - l) + 2
  · rw [if_pos y]
    unfold cB_
    rw [if_pos (by omega), if_pos (by omega), show 2 * T + L - 1 - k / 2 = 2 * T + l by omega]
    unfold cD_
    rw [if_neg (by omega), show 2 * T + l - 2 * T = l by omega]
    show _ = (un_ (sM_ S) l v l).testBit _
    unfold un_
    rw [if_pos rfl, show k - 2 * (L - 1 - l) = k % 2 by omega]
  · rw [if_neg y]
    unfold cB_
    by_cases y1 : k < 22
    · rw [if_pos y1, if_pos y1]
      by_cases y2 : k < 2 * (2 * T + L)
      · rw [if_pos y2, if_pos y2]
        unfold cD_
        by_cases y3 : 2 * T + L - 1 - k / 2 < 2 * T
        · rw [if_pos y3, if_pos y3]
          rfl
        · rw [if_neg y3, if_neg y3]
          show _ = (un_ (sM_ S) l v _).testBit _
          unfold un_
          rw [if_neg (by omega)]
      · rw [if_neg y2, if_neg y2]
    · rw [if_neg y1, if_neg y1]
      rfl
theorem cw_setW (z : Cw_ T L s S) {i : Nat} (q1 : i < 10) : Cw_ T L (s ||| 2 ^ (22 + i)) (sP_ S, sR_ S, sM_ S, ub_ (sW_ S) i true) := by
  intro k
  rw [Nat.testBit_or, Nat.testBit_two_pow, z k]
  unfold cB_
  by_cases y1 : k < 22
  · rw [if_pos y1, if_pos y1, decide_eq_false (by omega), Bool.or_false]
    rfl
  · rw [if_neg y1, if_neg y1]
    by_cases y2 : k < 32
    · rw [if_pos y2, if_pos y2]
      show _ = ub_ (sW_ S) i true (k - 22)
      unfold ub_
      by_cases y3 : k = 22 + i
      · rw [decide_eq_true (by omega), Bool.or_true, if_pos (by omega)]
      · rw [decide_eq_false (by omega), Bool.or_false, if_neg (by omega)]
    · rw [if_neg y2, if_neg y2, decide_eq_false (by omega), Bool.or_false]
      rfl
theorem cw_clrW (z : Cw_ T L s S) {i : Nat} (q1 : i < 10) (q2 : sW_ S i = true) : Cw_ T L (s ^^^ 2 ^ (22 + i)) (sP_ S, sR_ S, sM_ S, ub_ (sW_ S) i false) := by
  intro k
  rw [Nat.testBit_xor, Nat.testBit_two_pow, z k]
  unfold cB_
  by_cases y1 : k < 22
  · rw [if_pos y1, if_pos y1, decide_eq_false (by omega), Bool.xor_false]
    rfl
  · rw [if_neg y1, if_neg y1]
    by_cases y2 : k < 32
    · rw [if_pos y2, if_pos y2]
      show _ = ub_ (sW_ S) i false (k - 22)
      unfold ub_
      by_cases y3 : k = 22 + i
      · rw [decide_eq_true (by omega), if_pos (by omega), show k - 22 = i by omega, q2]
        rfl
      · rw [decide_eq_false (by omega), Bool.xor_false, if_neg (by omega)]
    · rw [if_neg y2, if_neg y2, decide_eq_false (by omega), Bool.xor_false]
      rfl
theorem cw_step (z : Cw_ T L s S) {t : Nat} (q1 : t < 4) (q2 : sP_ S t < 7) : Cw_ T L (s + 2 ^ (32 + 3 * t)) (un_ (sP_ S) t (sP_ S t + 1), sR_ S, sM_ S, sW_ S) := by
  intro k
  rw [ad_tb (w := 3) (cw_P z q1 (by omega)) (by omega), z k]
  unfold cB_
  by_cases y : 32 + 3 * t ≤ k ∧ k < 32 + 3 * t + 3
  · rw [if_pos y, if_neg (by omega), if_neg (by omega), if_pos (by omega)]
    show _ = (un_ (sP_ S) t (sP_ S t + 1) ((k - 32) / 3)).testBit _
    unfold un_
    rw [if_pos (by omega), show k - (32 + 3 * t) = (k - 32) % 3 by omega]
  · rw [if_neg y]
    by_cases y1 : k < 22
    · rw [if_pos y1, if_pos y1]
      rfl
    · rw [if_neg y1, if_neg y1]
      by_cases y2 : k < 32
      · rw [if_pos y2, if_pos y2]
        rfl
      · rw [if_neg y2, if_neg y2]
        by_cases y3 : k < 44
        · rw [if_pos y3, if_pos y3]
          show _ = (un_ (sP_ S) t (sP_ S t + 1) ((k - 32) / 3)).testBit _
          unfold un_
          rw [if_neg (by omega)]
        · rw [if_neg y3, if_neg y3]
end CW
