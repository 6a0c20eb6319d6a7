/-! the reference: text appended and cut; what an explanation says -/
section RT
variable {γ : ga_T} {σ σ1 s : st_T} {A A' : ca_T} {c m n : Nat} {z y : Int} {e : String → Nat} {B : Nat → Int}
theorem by_mod (x : Int32) (s : Nat) : ((x.toUInt32 >>> ((i_ (s : Int)).toUInt32 &&& Int32.toUInt32 31)).toInt32) &&& (255 : Int32) = i_ (by_ x s % 256) := by
  unfold by_
  generalize (x.toUInt32 >>> ((i_ (s : Int)).toUInt32 &&& Int32.toUInt32 31)).toInt32 = y
  have h := i_low y (e := 8) (by decide)
  rw [show (255 : Int32) = i_ ((2 ^ 8 : Nat) : Int) - (1 : Int32) by decide, h]
  have c := BitVec.toInt_eq_toNat_cond y.toBitVec
  have e1 : ((y.toBitVec.toNat % 2 ^ 8 : Nat) : Int) = y.toInt8.toInt % 256 := by
    rw [Int32.toInt_toInt8, ← Int32.toInt_toBitVec, c]
    have k : ∀ v : Int, Int.bmod v (2 ^ 8) % 256 = v % 256 := fun v => by
      unfold Int.bmod
      dsimp only
      split <;> omega
    rw [k]
    split <;> omega
  rw [e1]
def dB_ (a k : Nat) : Prop := a = 186 ∨ (a = 185 ∧ k = 2)
def Rbb_ (σ : st_T) (B : Nat → Int) (n : Nat) (s : st_T) : Prop := Wd s ∧ Rb_ s B n ∧ ro_ dB_ σ s
theorem rbb_put (h : Rbb_ σ B n s) (hn : n < 600) {v : Int} : Rbb_ σ (ap_ B n v) (n + 1) (pt_I (pt_I s 186 n (i_ (v % 256))) 185 2 (i_ ((n + 1 : Nat) : Int))) := by
  obtain ⟨h1, ⟨h2, h3, h4⟩, h5⟩ := h
  refine ⟨h1, ⟨by omega, st_sI _ _ _ _, fun k zk => ?_⟩, ro_I (ro_I h5 (Or.inl rfl)) (Or.inr ⟨rfl, rfl⟩)⟩
  rw [st_pI, if_neg (by omega), st_pI]
  unfold ap_
  by_cases e : k = n
  · rw [if_pos ⟨rfl, e⟩, if_pos e]
  · rw [if_neg (fun z => e z.2), if_neg e]
    exact h4 k (by omega)
theorem c_radds (h : Rbb_ σ B n s) (hn : n ≤ 596) (x : Int32) : ∃ s1, fw_ γ m_X12_adds 0 [.ref 185, .int x] s s1 ∧ Rbb_ σ (ap4_ B n x) (n + 4) s1 := by
  have step : ∀ (Q : rs_T → st_T → Prop) (B : Nat → Int) (n d : Nat) (σ2 : st_T), Rbb_ σ B n σ2 → n < 600 → d < 32 → vv_ γ m_X12_adds 0 3 [(0, .ref 185), (1, .int x), (2, .int (i_ ((d : Int) - 8)))] [] (pt_I (pt_I σ2 186 n (i_ (by_ x d % 256))) 185 2 (i_ ((n + 1 : Nat) : Int))) Q → vv_ γ m_X12_adds 0 3 [(0, .ref 185), (1, .int x), (2, .int (i_ (d : Int)))] [] σ2 Q := by
    intro Q B n d σ2 h hn hs hQ
    refine g_X12_adds_3 h.1 ?_
    unfold p_X12_adds_3
    rw [h.2.1.2.1, by_mod, k0_, k1_, i_add, i_cl (by omega), Int.toNat_natCast, show (-8 : Int32) = i_ (-8) by decide, i_add]
    refine ⟨fun z => ?_, fun _ => ⟨i_in (by omega) (by omega) (by omega), ?_⟩⟩
    · rw [i_lt (by omega) (by omega)] at z
      omega
    · exact hQ
  have t1 := rbb_put h (by omega) (v := by_ x 24)
  have t2 := rbb_put t1 (by omega) (v := by_ x 16)
  have t3 := rbb_put t2 (by omega) (v := by_ x 8)
  have t4 := rbb_put t3 (by omega) (v := by_ x 0)
  refine ⟨_, fw_q (fun Q zQ => e_X12_adds h.1 ?_), t4⟩
  unfold p_X12_adds_0
  refine step Q B n 24 s h (by omega) (by decide) (step Q _ (n + 1) 16 _ t1 (by omega) (by decide) (step Q _ (n + 2) 8 _ t2 (by omega) (by decide) (step Q _ (n + 3) 0 _ t3 (by omega) (by decide) ?_)))
  refine g_X12_adds_3 t4.1 ?_
  unfold p_X12_adds_3
  refine ⟨fun _ => zQ, fun z => absurd (show i_ (((0 : Nat) : Int) - 8) < 0 by decide) z⟩
/-- the buffer alone changes -/
theorem jr_buf (h : Jr_ σ A c) (t : Rbb_ (pt_I σ 185 0 (i_ 0)) B n s) : Jr_ s (B, n, A.2.2) c := by
  obtain ⟨w, b, r⟩ := t
  have r2 : ro_ (fun a k => dB_ a k ∨ (a = 185 ∧ k = 0)) σ s := ro_tr (ro_up (th_I _) (fun _ _ y => Or.inr y)) (ro_up r (fun _ _ y => Or.inl y))
  have g : ∀ a k, ¬ (a = 186 ∨ (a = 185 ∧ (k = 2 ∨ k = 0))) → st_I s a k = st_I σ a k := fun a k z => (r2.2 a k (fun y => by unfold dB_ at y; omega)).1
  obtain ⟨-, o, ⟨-, q, ⟨o1, o2⟩, ⟨c1, c2⟩, e⟩⟩ := h
  exact ⟨w, rt0_cg (fun a k z => g a k (by omega)) o, b, rq_cg (fun a k z => g a k (by omega)) q, ⟨(g _ _ (by omega)).trans o1, fun k z y => (g _ _ (by omega)).trans (o2 k z y)⟩, ⟨(g _ _ (by omega)).trans c1, krr_cg (fun k => g _ _ (by omega)) _ _ c2⟩, re_cg (fun a k z => g a k (by omega)) e⟩
theorem rbb_M (t : Rbb_ (pt_I σ 185 0 (i_ 0)) B n s) : ro_ dM_ σ s ∧ st_I s 185 0 = i_ 0 := ⟨ro_tr (ro_up (th_I _) (fun a k z => by unfold dM_; omega)) (ro_up t.2.2 (fun a k z => by unfold dB_ at z; unfold dM_; omega)), by
  rw [(t.2.2.2 185 0 (fun y => by unfold dB_ at y; omega)).1, st_sI]⟩
theorem r_append (h : Jr_ σ A c) (a b d f g : Int32) : Ra_ γ m_X12_append 1 [.ref 185, .int a, .int b, .int d, .int f, .int g] σ (if an2_ A ≤ 580 then (ap20_ (aB_ A) (an2_ A) a b d f g, an2_ A + 20, A.2.2) else A) c e (if an2_ A ≤ 580 then ri_ ((an2_ A + 20 : Nat) : Int) else ri_ (-1)) := by
  have w := h.1
  obtain ⟨y, hl, hb⟩ := h.2.2.1
  refine ra_of (e_X12_append w ?_)
  unfold p_X12_append_0
  rw [hl, show (20 : Int32) = i_ 20 by decide, i_add, k600_]
  by_cases hn : an2_ A ≤ 580
  · rw [if_pos hn, if_pos hn]
    have t0 : Rbb_ (pt_I σ 185 0 (i_ 0)) (aB_ A) (an2_ A) (pt_I σ 185 0 (i_ 0)) := ⟨w, ⟨y, by rw [st_pI, if_neg (by omega)]; exact hl, fun k zk => by rw [st_pI, if_neg (by omega)]; exact hb k zk⟩, ro_rf⟩
    obtain ⟨s1, f1, t1⟩ := c_radds (γ := γ) t0 (by omega) a
    obtain ⟨s2, f2, t2⟩ := c_radds (γ := γ) t1 (by omega) b
    obtain ⟨s3, f3, t3⟩ := c_radds (γ := γ) t2 (by omega) d
    obtain ⟨s4, f4, t4⟩ := c_radds (γ := γ) t3 (by omega) f
    obtain ⟨s5, f5, t5⟩ := c_radds (γ := γ) t4 (by omega) g
    refine ⟨fun _ => ⟨s1, t1.1, f1, s2, t2.1, f2, s3, t3.1, f3, s4, t4.1, f4, s5, t5.1, f5, ?_⟩, fun z => absurd ?_ z⟩
    · rw [t5.2.1.2.1]
      obtain ⟨m1, m2⟩ := rbb_M t5
      exact ⟨_, rfl, c, jr_buf h t5, by omega, m1, rfl, m2⟩
    · rw [i_le (by omega) (by omega)]
      omega
  · rw [if_neg hn, if_neg hn]
    refine ⟨fun z => ?_, fun _ => ra_0 h rfl⟩
    rw [i_le (by omega) (by omega)] at z
    omega
theorem r_truncate (h : Jr_ σ A c) (q1 : -2147483648 ≤ z ∧ z < 2147483648) : Ra_ γ m_X12_truncate 1 [.ref 185, .int (i_ z)] σ (if 0 ≤ z ∧ z ≤ an2_ A then (aB_ A, z.toNat, A.2.2) else A) c e (rb_ (decide (0 ≤ z ∧ z ≤ an2_ A))) := by
  have w := h.1
  obtain ⟨y, hl, hb⟩ := h.2.2.1
  have w0 : Wd (pt_I σ 185 0 (i_ 0)) := w
  refine ra_of (e_X12_truncate w ?_)
  unfold p_X12_truncate_0
  rw [hl]
  refine ⟨_, _, w0, c_risIn w0 q1 (a := 0) (b := (an2_ A : Int)) (by omega) (by omega), ?_⟩
  by_cases hn : 0 ≤ z ∧ z ≤ an2_ A
  · rw [if_pos hn, decide_eq_true hn]
    obtain ⟨k, rfl⟩ : ∃ k : Nat, z = k := ⟨z.toNat, by omega⟩
    rw [Int.toNat_natCast]
    refine ⟨fun y => absurd y (by decide), fun _ => ?_⟩
    have t : Rbb_ (pt_I σ 185 0 (i_ 0)) (aB_ A) k (pt_I (pt_I σ 185 0 (i_ 0)) 185 2 (i_ (k : Int))) := ⟨w, ⟨by omega, st_sI _ _ _ _, fun j zj => by rw [st_pI, if_neg (by omega), st_pI, if_neg (by omega)]; exact hb j (by omega)⟩, ro_I ro_rf (Or.inr ⟨rfl, rfl⟩)⟩
    obtain ⟨m1, m2⟩ := rbb_M t
    exact ⟨_, rfl, c, jr_buf h t, by omega, m1, rfl, m2⟩
  · rw [if_neg hn, decide_eq_false hn]
    exact ⟨fun _ => ra_0 h rfl, fun y => absurd rfl y⟩
end RT
