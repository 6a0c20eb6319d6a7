/-! the class forgets what was found -/
section FG
variable {γ : ga_T} {σ σ1 : st_T} {A A' : ca_T} {R : rt_T} {m : Nat}
/-- what stands while findings and explanation are not yet forgotten -/
def Jb_ (σ : st_T) (A : ca_T) (R : rt_T) : Prop := (Wd σ ∧ Tx_ σ (aB_ A) (an2_ A) ∧ st_I σ 128 1 = i_ (an2_ A : Int)) ∧ (Pq_ σ 132 (aP_ A) ∧ Pg_ (aP_ A)) ∧ (Xo_ σ (aO_ A) ∧ Xc_ σ (aC_ A)) ∧ (∃ L, Tk_ σ L R.1) ∧ (∀ m, m < 3 → Fr_ σ (fa_ m) (rf_ R m)) ∧ Dr_ R
theorem jb_mk (h : J_ σ A R) (hw : Wd σ1) (hn : st_n σ1 = st_n σ) (hc : st_c σ1 = st_c σ) (hu : st_u σ1 = st_u σ) (he : ∀ b, 147 ≤ b → b ≠ 179 → b ≠ 180 → eh_ σ σ1 b)
    (ht : Tx_ σ1 (aB_ A') (an2_ A') ∧ st_I σ1 128 1 = i_ (an2_ A' : Int)) (hp : Pq_ σ1 132 (aP_ A') ∧ Pg_ (aP_ A')) (ho : Xo_ σ1 (aO_ A') ∧ Xc_ σ1 (aC_ A')) : Jb_ σ1 A' R ∧ Co_ σ R 0 σ1 R := by
  obtain ⟨⟨w, x1, x2⟩, ⟨p1, p2⟩, ⟨o1, o2, o3⟩, ⟨L0, T0⟩, kn, d⟩ := h
  have y := T0.1.2.2.1
  have y1 := y.2.1.1
  have y2 := y.2.2.1.1
  have y3 := y.2.2.2.1
  refine ⟨⟨⟨hw, ht⟩, hp, ho, ⟨L0, tk_eh T0 (by rw [hn]; exact Nat.le_refl _) (he 148 (by omega) (by omega) (by omega)) (he _ (by omega) (by omega) (by omega)) (he _ (by omega) (by omega) (by omega)) (he _ (by omega) (by omega) (by omega))⟩, fun m hm => ?_, d⟩, fun b q1 q2 => he b (by omega) (by omega) (by omega), by rw [hn]; exact Nat.le_refl _, ?_, ?_⟩
  · obtain ⟨⟨r1, r2⟩, ⟨s1, s2⟩, ⟨q1, q2⟩, n1⟩ := (kn m hm).1
    have fm := fa_in m
    have g1 := q1.1
    have g2 := q2.1
    have h0 := he (fa_ m) (by omega) (by omega) (by omega)
    have h1 := he (rf_ R m).1 (by omega) (by omega) (by omega)
    have h2 := he (rf_ R m).2.1 (by omega) (by omega) (by omega)
    exact ⟨⟨by rw [h0.2.2.1]; exact r1, by rw [h0.2.2.1]; exact r2⟩, ⟨h1.2.2.2.trans s1, h2.2.2.2.trans s2⟩, ⟨⟨q1.1, by rw [hn]; exact q1.2⟩, ⟨q2.1, by rw [hn]; exact q2.2⟩⟩, n1⟩
  · rw [hc]; omega
  · rw [hu]; omega
/-- one of the findings is forgotten -/
def fgs_ (σ : st_T) (a : Nat) : st_T := pt_W (pt_I σ a 4 0) (a + 3) (fun j => if j < 64 then -1 else st_I (pt_I σ a 4 0) (a + 3) j)
theorem fgs_eh (a : Nat) {b : Nat} (h : b ≠ a) (h3 : b ≠ a + 3) : eh_ σ (fgs_ σ a) b := eh_tr (eh_I h) (eh_W h3)
theorem fgs_4 (a : Nat) : st_I (fgs_ σ a) a 4 = 0 := by
  show (if a = a + 3 then _ else if a = a ∧ 4 = 4 then (0 : Int32) else st_I σ a 4) = 0
  rw [if_neg (by omega), if_pos ⟨rfl, rfl⟩]
theorem fgs_g (a g : Nat) (hg : g < 64) : st_I (fgs_ σ a) (a + 3) g = -1 := by
  show (if a + 3 = a + 3 then (if g < 64 then (-1 : Int32) else st_I (pt_I σ a 4 0) (a + 3) g) else _) = -1
  rw [if_pos rfl, if_pos hg]
theorem fgs_s (a b : Nat) : (∀ j, st_R (fgs_ σ a) b j = st_R σ b j) ∧ st_S (fgs_ σ a) b = st_S σ b := ⟨fun _ => rfl, rfl⟩
theorem c_forgets (h : Jb_ σ A R) : ∃ σ1, fw_ γ m_X11_forgetWhatWasFound 2 [.ref 128] σ σ1 ∧ J_ σ1 (aB_ A, an2_ A, aP_ A, aO_ A, aC_ A, none) R ∧ Co_ σ R 0 σ1 R := by
  obtain ⟨⟨w, x1, x2⟩, ⟨p1, p2⟩, ⟨o1, o2⟩, ⟨L0, T0⟩, kn, d⟩ := h
  obtain ⟨s1, e1⟩ : ∃ s, s = fgs_ σ 164 := ⟨_, rfl⟩
  obtain ⟨s2, e2⟩ : ∃ s, s = fgs_ s1 169 := ⟨_, rfl⟩
  obtain ⟨s3, e3⟩ : ∃ s, s = fgs_ s2 174 := ⟨_, rfl⟩
  obtain ⟨s4, e4⟩ : ∃ s, s = pt_I (pt_I (pt_I s3 181 6 0) 181 4 0) 181 5 0 := ⟨_, rfl⟩
  have w1 : Wd s1 := by rw [e1]; exact w
  have w2 : Wd s2 := by rw [e2]; exact w1
  have w3 : Wd s3 := by rw [e3]; exact w2
  have w4 : Wd s4 := by rw [e4]; exact w3
  have c1 : fw_ γ m_X3_forget 1 [.ref 164] σ s1 := by rw [e1]; exact c_forget (Or.inl rfl) w
  have c2 : fw_ γ m_X3_forget 1 [.ref 169] s1 s2 := by rw [e2]; exact c_forget (Or.inr (Or.inl rfl)) w1
  have c3 : fw_ γ m_X3_forget 1 [.ref 174] s2 s3 := by rw [e3]; exact c_forget (Or.inr (Or.inr rfl)) w2
  have c4 : fw_ γ m_X1_forget 0 [.ref 181] s3 s4 := by rw [e4]; exact c_xforget w3
  have h1 : ∀ b, b ≠ 164 → b ≠ 167 → eh_ σ s1 b := fun b z1 z2 => by rw [e1]; exact fgs_eh 164 z1 z2
  have h2 : ∀ b, b ≠ 169 → b ≠ 172 → eh_ s1 s2 b := fun b z1 z2 => by rw [e2]; exact fgs_eh 169 z1 z2
  have h3 : ∀ b, b ≠ 174 → b ≠ 177 → eh_ s2 s3 b := fun b z1 z2 => by rw [e3]; exact fgs_eh 174 z1 z2
  have h4 : ∀ b, b ≠ 181 → eh_ s3 s4 b := fun b z1 => by rw [e4]; exact eh_tr (eh_tr (eh_I z1) (eh_I z1)) (eh_I z1)
  have n1 : st_n s4 = st_n σ ∧ st_c s4 = st_c σ ∧ st_u s4 = st_u σ := by
    rw [e4, e3, e2, e1]
    exact ⟨rfl, rfl, rfl⟩
  have RS : ∀ b, (∀ j, st_R s4 b j = st_R σ b j) ∧ st_S s4 b = st_S σ b := fun b => by
    rw [e4, e3, e2, e1]
    exact ⟨fun _ => rfl, rfl⟩
  have he : ∀ b, (b < 164 ∨ 178 < b) → b ≠ 181 → eh_ σ s4 b := fun b z1 z2 => eh_tr (eh_tr (eh_tr (h1 b (by omega) (by omega)) (h2 b (by omega) (by omega))) (h3 b (by omega) (by omega))) (h4 b z2)
  have y := T0.1.2.2.1
  have y1 := y.2.1.1
  have y2 := y.2.2.1.1
  have y3 := y.2.2.2.1
  have k4 : ∀ m, m < 3 → st_I s4 (fa_ m) 4 = i_ 0 ∧ ∀ g, g < 64 → st_I s4 (fa_ m + 3) g = i_ (-1) := by
    intro m hm
    have e : m = 0 ∨ m = 1 ∨ m = 2 := by omega
    rcases e with rfl | rfl | rfl
    · show st_I s4 164 4 = i_ 0 ∧ ∀ g, g < 64 → st_I s4 167 g = i_ (-1)
      have a1 : eh_ s1 s4 164 := eh_tr (eh_tr (h2 164 (by decide) (by decide)) (h3 164 (by decide) (by decide))) (h4 164 (by decide))
      have a2 : eh_ s1 s4 167 := eh_tr (eh_tr (h2 167 (by decide) (by decide)) (h3 167 (by decide) (by decide))) (h4 167 (by decide))
      refine ⟨by rw [a1.1, e1]; exact fgs_4 164, fun g hg => by rw [a2.1, e1]; exact fgs_g 164 g hg⟩
    · show st_I s4 169 4 = i_ 0 ∧ ∀ g, g < 64 → st_I s4 172 g = i_ (-1)
      have a1 : eh_ s2 s4 169 := eh_tr (h3 169 (by decide) (by decide)) (h4 169 (by decide))
      have a2 : eh_ s2 s4 172 := eh_tr (h3 172 (by decide) (by decide)) (h4 172 (by decide))
      refine ⟨by rw [a1.1, e2]; exact fgs_4 169, fun g hg => by rw [a2.1, e2]; exact fgs_g 169 g hg⟩
    · show st_I s4 174 4 = i_ 0 ∧ ∀ g, g < 64 → st_I s4 177 g = i_ (-1)
      have a1 : eh_ s3 s4 174 := h4 174 (by decide)
      have a2 : eh_ s3 s4 177 := h4 177 (by decide)
      refine ⟨by rw [a1.1, e3]; exact fgs_4 174, fun g hg => by rw [a2.1, e3]; exact fgs_g 174 g hg⟩
  have x46 : st_I s4 181 6 = 0 ∧ st_I s4 181 4 = 0 ∧ st_I s4 181 5 = 0 := by
    rw [e4]
    refine ⟨?_, ?_, ?_⟩
    · rw [st_pI, if_neg (by omega), st_pI, if_neg (by omega), st_sI]
    · rw [st_pI, if_neg (by omega), st_sI]
    · rw [st_sI]
  refine ⟨s4, fw_q (fun Q zQ => e_X11_forgetWhatWasFound w ⟨s1, w1, c1, s2, w2, c2, s3, w3, c3, s4, w4, c4, zQ⟩), ⟨⟨w4, ⟨x1.1, fun i zi => ?_⟩, ?_⟩, ⟨pq_eh p1 (he _ (by omega) (by omega)) (he _ (by omega) (by omega)) (he _ (by omega) (by omega)) (he _ (by omega) (by omega)) (he _ (by omega) (by omega)), p2⟩, ⟨Xo_eh o1 (he _ (by omega) (by omega)) (he _ (by omega) (by omega)), Xc_eh o2 (he _ (by omega) (by omega)) (he _ (by omega) (by omega)), ?_⟩, ⟨L0, tk_eh T0 (by rw [n1.1]; exact Nat.le_refl _) (he 148 (by omega) (by omega)) (he _ (by omega) (by omega)) (he _ (by omega) (by omega)) (he _ (by omega) (by omega))⟩, fun m hm => ?_, d⟩, fun b q1 q2 => he b (by omega) (by omega), by rw [n1.1]; exact Nat.le_refl _, ?_, ?_⟩
  · rw [(he 129 (by omega) (by omega)).1]
    exact x1.2 i zi
  · rw [(he 128 (by omega) (by omega)).1]
    exact x2
  · refine ⟨x46.1, fun i => (st_I s4 183 i).toInt, ?_⟩
    exact ⟨⟨x46.2.1, Nat.zero_le _, fun i q z => by cases z⟩, ⟨x46.2.2, Nat.zero_le _, fun i n z => by cases z⟩, fun i _ => i_of _⟩
  · obtain ⟨⟨r1, r2⟩, ⟨t1, t2⟩, ⟨q1, q2⟩, nn⟩ := kn m hm
    obtain ⟨k5, k6⟩ := k4 m hm
    exact ⟨⟨⟨by rw [(RS _).1]; exact r1, by rw [(RS _).1]; exact r2⟩, ⟨by rw [(RS _).2]; exact t1, by rw [(RS _).2]; exact t2⟩, ⟨⟨q1.1, by rw [n1.1]; exact q1.2⟩, ⟨q2.1, by rw [n1.1]; exact q2.2⟩⟩, nn⟩, Or.inl k5, fun g hg => Or.inl (k6 g hg)⟩
  · rw [n1.2.1]; omega
  · rw [n1.2.2]; omega
end FG
