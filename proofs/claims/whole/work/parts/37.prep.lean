/-! the machine of the class is prepared: words of its start and its end -/
section PP
variable {T L s : Nat} {S : gs_T}
theorem or_tb {n q v w : Nat} (q2 : v < 2 ^ w) (k : Nat) : (n ||| v * 2 ^ q).testBit k = if q ≤ k ∧ k < q + w then (n.testBit k || v.testBit (k - q)) else n.testBit k := by
  rw [Nat.testBit_or, Nat.mul_comm v, Nat.testBit_two_pow_mul]
  by_cases y : q ≤ k ∧ k < q + w
  · rw [if_pos y, decide_eq_true (show k ≥ q from y.1), Bool.true_and]
  · rw [if_neg y]
    by_cases y1 : k ≥ q
    · have y2 : v.testBit (k - q) = false := Nat.testBit_lt_two_pow (Nat.lt_of_lt_of_le q2 (Nat.pow_le_pow_right (by decide) (by omega)))
      rw [y2, Bool.and_false, Bool.or_false]
    · rw [decide_eq_false y1, Bool.false_and, Bool.or_false]
theorem cw_orM (z : Cw_ T L s S) {l v : Nat} (q0 : T ≤ 4) (q00 : L ≤ 3) (q1 : l < L) (q2 : v < 4) (q3 : sM_ S l = 0) : Cw_ T L (s ||| v * 2 ^ (2 * (L - 1 - l))) (sP_ S, sR_ S, un_ (sM_ S) l v, sW_ S) := by
  have e1 : s ||| v * 2 ^ (2 * (L - 1 - l)) = sd_ s (2 * (L - 1 - l)) v := by
    apply Nat.eq_of_testBit_eq
    intro k
    have zl := cw_lt z
    rw [sd_tb (by omega) (Nat.lt_trans zl (by decide)) q2, or_tb (w := 2) q2]
    by_cases y : 2 * (L - 1 - l) ≤ k ∧ k < 2 * (L - 1 - l) + 2
    · rw [if_pos y, if_pos y, z k]
      unfold cB_
      rw [if_pos (by omega), if_pos (by omega), show 2 * T + L - 1 - k / 2 = 2 * T + l by omega]
      unfold cD_
      rw [if_neg (by omega), show 2 * T + l - 2 * T = l by omega, q3, Nat.zero_testBit, Bool.false_or]
    · rw [if_neg y, if_neg y]
  rw [e1]
  exact cw_setM z q0 q00 q1 q2
theorem cw_orP (z : Cw_ T L s S) {t v : Nat} (q1 : t < 4) (q2 : v < 8) (q3 : sP_ S t = 0) : Cw_ T L (s ||| v * 2 ^ (32 + 3 * t)) (un_ (sP_ S) t v, sR_ S, sM_ S, sW_ S) := by
  intro k
  rw [or_tb (w := 3) q2, z k]
  unfold cB_
  by_cases y : 32 + 3 * t ≤ k ∧ k < 32 + 3 * t + 3
  · rw [if_pos y, if_neg (by omega), if_neg (by omega), if_pos (by omega), if_neg (by omega), if_neg (by omega), if_pos (by omega)]
    rw [show (k - 32) / 3 = t by omega, q3, Nat.zero_testBit, Bool.false_or]
    show _ = (un_ (sP_ S) t v t).testBit _
    unfold un_
    rw [if_pos rfl, show k - (32 + 3 * t) = (k - 32) % 3 by omega]
  · rw [if_neg y]
    by_cases y1 : k < 22
    · rw [if_pos y1, if_pos y1]
      rfl
    · rw [if_neg y1, if_neg y1]
      by_cases y2 : k < 32
      · rw [if_pos y2, if_pos y2]
        rfl
      · rw [if_neg y2, if_neg y2]
        by_cases y3 : k < 44
        · rw [if_pos y3, if_pos y3]
          show _ = (un_ (sP_ S) t v ((k - 32) / 3)).testBit _
          unfold un_
          rw [if_neg (by omega)]
        · rw [if_neg y3, if_neg y3]
/-- the start, only the locations under k laid; the end, only the threads under k -/
def s0k_ (p : pr_T) (k : Nat) : gs_T := (fun _ => 0, fun _ => 0, fun l => if l < k then (pI_ p l).toNat else 0, fun _ => false)
def s1k_ (p : pr_T) (k : Nat) : gs_T := (fun t => if t < k then gl_ (gcl_ p 0 (fun _ => false)) t else 0, fun _ => 0, fun _ => 0, fun _ => false)
theorem bm_F {f : Nat → Bool} {n : Nat} (z : ∀ j, f j = false) : bm_ f n = 0 := bm_0 (fun j _ => z j)
theorem cB_0 (P R M : Nat → Nat) (W : Nat → Bool) (z1 : ∀ j, P j = 0) (z2 : ∀ j, R j = 0) (z3 : ∀ j, M j = 0) (z4 : ∀ j, W j = false) (k : Nat) : cB_ T L (P, R, M, W) k = false := by
  unfold cB_ cD_
  show (if k < 22 then (if k < 2 * (2 * T + L) then (if 2 * T + L - 1 - k / 2 < 2 * T then R (2 * T + L - 1 - k / 2) else M (2 * T + L - 1 - k / 2 - 2 * T)).testBit (k % 2) else false)
    else if k < 32 then W (k - 22) else if k < 44 then (P ((k - 32) / 3)).testBit ((k - 32) % 3) else false) = false
  rw [z1, z2, z3, z4, ite_self, Nat.zero_testBit, Nat.zero_testBit, ite_self, ite_self, ite_self, ite_self]
theorem s0k_0 (p : pr_T) : en_ p (s0k_ p 0) = 0 := bm_F (cB_0 _ _ _ _ (fun _ => rfl) (fun _ => rfl) (fun j => if_neg (Nat.not_lt_zero j)) (fun _ => rfl))
theorem s1k_0 (p : pr_T) : en_ p (s1k_ p 0) = 0 := bm_F (cB_0 _ _ _ _ (fun j => if_neg (Nat.not_lt_zero j)) (fun _ => rfl) (fun _ => rfl) (fun _ => rfl))
theorem un_if (f : Nat → Nat) (k : Nat) : un_ (fun l => if l < k then f l else 0) k (f k) = fun l => if l < k + 1 then f l else 0 := by
  funext l
  show (if l = k then f k else if l < k then f l else 0) = _
  by_cases y : l = k
  · rw [if_pos y, if_pos (by omega), y]
  · by_cases y1 : l < k
    · rw [if_neg y, if_pos y1, if_pos (by omega)]
    · rw [if_neg y, if_neg y1, if_neg (by omega)]
theorem s0k_s (p : pr_T) (zP : Bp_ p) {k : Nat} (q : k < pL_ p) : en_ p (s0k_ p k) ||| (pI_ p k).toNat * 2 ^ (2 * (pL_ p - 1 - k)) = en_ p (s0k_ p (k + 1)) := by
  have y := zP.2.2.2.1 k
  have z := cw_orM (en_cw (p := p) (s0k_ p k)) (l := k) (v := (pI_ p k).toNat) zP.2.1 zP.2.2.1 q (by omega) (if_neg (Nat.lt_irrefl k))
  have e : (sP_ (s0k_ p k), sR_ (s0k_ p k), un_ (sM_ (s0k_ p k)) k (pI_ p k).toNat, sW_ (s0k_ p k)) = s0k_ p (k + 1) := by
    show (_, _, un_ (fun l => if l < k then (pI_ p l).toNat else 0) k (pI_ p k).toNat, _) = _
    rw [un_if (fun l => (pI_ p l).toNat) k]
    rfl
  rw [e] at z
  exact en_of z
theorem s1k_s (p : pr_T) (zP : Wp_ p) {k : Nat} (q : k < 4) : en_ p (s1k_ p k) ||| gl_ (gcl_ p 0 (fun _ => false)) k * 2 ^ (32 + 3 * k) = en_ p (s1k_ p (k + 1)) := by
  have y : gl_ (gcl_ p 0 (fun _ => false)) k ≤ 7 := gl_7 zP k
  have z := cw_orP (en_cw (p := p) (s1k_ p k)) (t := k) (v := gl_ (gcl_ p 0 (fun _ => false)) k) q (by omega) (if_neg (Nat.lt_irrefl k))
  have e : (un_ (sP_ (s1k_ p k)) k (gl_ (gcl_ p 0 (fun _ => false)) k), sR_ (s1k_ p k), sM_ (s1k_ p k), sW_ (s1k_ p k)) = s1k_ p (k + 1) := by
    show (un_ (fun t => if t < k then gl_ (gcl_ p 0 (fun _ => false)) t else 0) k (gl_ (gcl_ p 0 (fun _ => false)) k), _, _, _) = _
    rw [un_if (fun t => gl_ (gcl_ p 0 (fun _ => false)) t) k]
    rfl
  rw [e] at z
  exact en_of z
end PP
