/-! the class's parser: threads, the whole text -/
section PS
variable {γ : ga_T} {σ : st_T} {B : Nat → Int} {n : Nat}
/-- at most f instructions of thread t -/
def itl_ (B : Nat → Int) (n t : Nat) : Nat → qs_T → qs_T ⊕ Nat
  | 0, S => .inl S
  | f + 1, S => if kd_ (csg_ B n S.1) = -1 then .inl S else match ins_ B n t (kd_ (csg_ B n S.1)) S with
    | .inr e => .inr e
    | .inl S2 => itl_ B n t f S2
def thr_ (B : Nat → Int) (n : Nat) (S : qs_T) : qs_T ⊕ Nat :=
  if 4 ≤ pT_ S.2.1.1 then .inr (er_ B n S.1 5)
  else match xp_ B n 15 (S.1 + 1, pat_ S.2.1, S.2.2) with
    | .inr e => .inr e
    | .inl S2 => itl_ B n (pT_ S.2.1.1) 8 S2
def lcl_ (B : Nat → Int) (n : Nat) : Nat → qs_T → qs_T ⊕ Nat
  | 0, S => .inl S
  | f + 1, S => if csg_ B n S.1 = 5 then (match dec_ B n S with
    | .inr e => .inr e
    | .inl S2 => lcl_ B n f S2) else .inl S
def thl_ (B : Nat → Int) (n : Nat) : Nat → qs_T → qs_T ⊕ Nat
  | 0, S => .inl S
  | f + 1, S => if csg_ B n S.1 = 6 then (match thr_ B n S with
    | .inr e => .inr e
    | .inl S2 => thl_ B n f S2) else .inl S
theorem nv_at {P : pq_T} (h : Nv_ P) : Nv_ (pat_ P) := h
theorem l_insts {S0 : qs_T} {σ0 : st_T} {t : Nat} (ht : t < 4) {r0 : qs_T ⊕ Nat} : ∀ (f : Nat) (S : qs_T) (s : st_T), f ≤ 8 → yf_ σ0 s → Pc_ s B n S → r0 = itl_ B n t f S →
    vv_ γ m_X6_readThread 5 43 [(0, .ref 142), (1, .int (i_ (t : Int))), (2, .int (i_ 1)), (3, .int (i_ ((8 - f : Nat) : Int)))] [] s (PQ_ σ0 B n r0) := by
  intro f
  induction f with
  | zero =>
    intro S s hf8 hf hP hr
    refine g_X6_readThread_43 hP.1 ?_
    unfold p_X6_readThread_43
    exact ⟨fun _ => ⟨Or.inr rfl, _, rfl, _, rfl, hP.1, hf, Or.inl ⟨rfl, S, hr, hP⟩⟩, fun z => absurd (by decide) z⟩
  | succ f ih =>
    intro S s hf8 hf hP hr
    have ko := c_kindOf (γ := γ) hP
    refine g_X6_readThread_43 hP.1 ?_
    unfold p_X6_readThread_43
    have kr : -1 ≤ kd_ (csg_ B n S.1) ∧ kd_ (csg_ B n S.1) ≤ 3 := by
      unfold kd_
      repeat' split
      all_goals omega
    simp (disch := omega) only [i_lit, i_lt, i_neg]
    refine ⟨fun z => by omega, fun _ => ⟨fun z => absurd z (by decide), fun _ => ⟨_, s, hP.1, ko, ?_⟩⟩⟩
    simp (disch := omega) only [i_eq]
    have hr : r0 = if kd_ (csg_ B n S.1) = -1 then .inl S else match ins_ B n t (kd_ (csg_ B n S.1)) S with
      | .inr e => .inr e
      | .inl S2 => itl_ B n t f S2 := hr
    refine ⟨fun z => ⟨Or.inr trivial, ?_⟩, fun z => ⟨_, s, hP.1, ko, ?_⟩⟩
    · have z : kd_ (csg_ B n S.1) = -1 := z
      rw [if_pos z] at hr
      exact ⟨_, rfl, _, rfl, hP.1, hf, Or.inl ⟨rfl, S, hr, hP⟩⟩
    · have z : ¬ kd_ (csg_ B n S.1) = -1 := z
      rw [if_neg z] at hr
      obtain ⟨v, s2, a1, a2, a3, a4⟩ := c_instr (γ := γ) hP ht rfl z
      refine ⟨v, s2, a2, a1, ?_⟩
      rw [i_add, show ((8 - (f + 1) : Nat) : Int) + OfNat.ofNat 1 = ((8 - f : Nat) : Int) by show ((8 - (f + 1) : Nat) : Int) + 1 = _; omega]
      rcases a4 with ⟨rfl, S2, b1, b2⟩ | ⟨rfl, e, b1, b2, b3⟩
      · rw [b1] at hr
        exact ih S2 s2 (by omega) (yf_tr hf a3) b2 hr
      · rw [b1] at hr
        have hr : r0 = .inr e := hr
        refine g_X6_readThread_43 a2 ?_
        unfold p_X6_readThread_43
        have q : (i_ 0 = 0 ∨ i_ 0 = 1) ∧ PQ_ σ0 B n r0 (.inl (some (.int (i_ 0)))) s2 := ⟨Or.inl rfl, _, rfl, _, rfl, a2, yf_tr hf a3, Or.inr ⟨rfl, e, hr, b2, b3⟩⟩
        exact ⟨fun _ => q, fun _ => ⟨fun _ => q, fun z => absurd rfl z⟩⟩
theorem c_thread {S : qs_T} (h : Pc_ σ B n S) (hs : csg_ B n S.1 = 6) : ∃ v s, fn_ γ m_X6_readThread 5 [.ref 142] σ (.int v) s ∧ Wd s ∧ Po_ σ B n (thr_ B n S) v s := by
  have zR := h.2.2.1.1
  have b2 := zR.1.2.1
  have lc := c_threads (γ := γ) (Or.inr rfl) h.1 zR
  suffices key : sp_ γ m_X6_readThread 5 [.ref 142] σ (PQ_ σ B n (thr_ B n S)) by
    obtain ⟨v, s, y1, b, rfl, y2, y3⟩ := fn_of key
    exact ⟨b, s, y1, y2, y3⟩
  refine e_X6_readThread h.1 ?_
  unfold p_X6_readThread_0
  refine ⟨_, σ, h.1, lc, ?_⟩
  simp (disch := omega) only [i_lit, i_lt]
  refine ⟨fun z => ?_, fun z => ?_⟩
  · have z : pT_ S.2.1.1 < 4 := by omega
    obtain ⟨s1, a1, a2, a3, a4, -⟩ := pc_adv (γ := γ) h (by omega)
    obtain ⟨s2, d1, d2, d3, d4⟩ := c_addThread (γ := γ) (Or.inr rfl) a2 a3.2.2.1 z
    obtain ⟨j1, j2, -⟩ := pc_gq a3 (P := pat_ S.2.1) d2 d4 d3 a3.2.2.2.1
    obtain ⟨v, s3, e1, e2, e3, -⟩ := c_expect (γ := γ) j1 (c := 15) (by decide)
    refine ⟨s1, a2, a1, s2, d2, d1, v, s3, e2, e1, ?_⟩
    have ex : thr_ B n S = match xp_ B n 15 (S.1 + 1, pat_ S.2.1, S.2.2) with
      | .inr e => .inr e
      | .inl S2 => itl_ B n (pT_ S.2.1.1) 8 S2 := by
      unfold thr_
      rw [if_neg (by omega)]
    obtain ⟨e3, e4⟩ := e3
    rcases e4 with ⟨rfl, S2, f1, f2⟩ | ⟨rfl, e, f1, f2, f3⟩
    · have f1 : xp_ B n 15 (S.1 + 1, pat_ S.2.1, S.2.2) = .inl S2 := f1
      rw [f1] at ex
      exact l_insts (S0 := S) z 8 S2 s3 (Nat.le_refl _) (yf_tr (yf_tr a4 j2) e3) f2 ex
    · have f1 : xp_ B n 15 (S.1 + 1, pat_ S.2.1, S.2.2) = .inr e := f1
      rw [f1] at ex
      have q : (i_ 0 = 0 ∨ i_ 0 = 1) ∧ PQ_ σ B n (thr_ B n S) (.inl (some (.int (i_ 0)))) s3 := ⟨Or.inl rfl, _, rfl, _, rfl, e2, yf_tr (yf_tr a4 j2) e3, Or.inr ⟨rfl, e, ex, f2, f3⟩⟩
      refine g_X6_readThread_43 e2 ?_
      unfold p_X6_readThread_43
      exact ⟨fun z => absurd z (by decide), fun _ => ⟨fun _ => q, fun z => absurd rfl z⟩⟩
  · obtain ⟨s, a1, a2, a3, -⟩ := c_fail (γ := γ) h 5
    refine ⟨_, s, a2, a1, Or.inl rfl, _, rfl, _, rfl, a2, ?_⟩
    unfold thr_
    rw [if_pos (by omega)]
    exact a3
/-- what is read of the whole text: a program, or an error -/
def PE_ (B : Nat → Int) (n : Nat) (S2 : qs_T) (r : qs_T ⊕ Nat) : Prop := r = if csg_ B n S2.1 = 0 then .inl S2 else .inr (er_ B n S2.1 1)
def PR_ (B : Nat → Int) (n : Nat) (r : qs_T ⊕ Nat) : Prop :=
  (∃ e, lcl_ B n 4 (0, P0_, 0) = .inr e ∧ r = .inr e) ∨ ∃ S1, lcl_ B n 4 (0, P0_, 0) = .inl S1 ∧
    ((∃ e, thl_ B n 5 S1 = .inr e ∧ r = .inr e) ∨ ∃ S2, thl_ B n 5 S1 = .inl S2 ∧
      ((csg_ B n S2.1 ≠ 11 ∧ PE_ B n S2 r) ∨ (csg_ B n S2.1 = 11 ∧ ((∃ e, Rd_ B n 1 0 (S2.1 + 1, S2.2) (.inr e) ∧ r = .inr e) ∨ ∃ S3, Rd_ B n 1 0 (S2.1 + 1, S2.2) (.inl S3) ∧ ((∃ e, xp_ B n 15 S3 = .inr e ∧ r = .inr e) ∨ ∃ S4, xp_ B n 15 S3 = .inl S4 ∧ PE_ B n S4 r)))))
/-- how parse ends -/
def QP_ (σ : st_T) (B : Nat → Int) (n : Nat) (k : (qs_T ⊕ Nat) → Prop) : rs_T → st_T → Prop := fun rr s => ∃ v, rr = .inl (some v) ∧ ∃ r, k r ∧ Wd s ∧ yf_ σ s ∧ ((∃ S, r = .inl S ∧ v = .int (i_ 0) ∧ Pc_ s B n S) ∨ ∃ e, r = .inr e ∧ v = .int (i_ ((e : Nat) : Int)))
theorem qp_err {σ0 s : st_T} {k : (qs_T ⊕ Nat) → Prop} {e : Nat} (h1 : Wd s) (h2 : yf_ σ0 s) (h3 : st_I s 142 2 = i_ ((e : Nat) : Int)) (h4 : k (.inr e)) : QP_ σ0 B n k (.inl (some (.int (st_I s 142 2)))) s := ⟨_, rfl, _, h4, h1, h2, Or.inr ⟨e, rfl, by rw [h3]⟩⟩
theorem l_pend {σ0 s : st_T} {S : qs_T} (hP : Pc_ s B n S) (hf : yf_ σ0 s) {k : (qs_T ⊕ Nat) → Prop} (hk : ∀ r, PE_ B n S r → k r) : ∃ (v29 : Nat) (s27 : st_T), Wd s27 ∧ fn_ γ m_X10_sign 0 [.ref 143] s (.ref v29) s27 ∧ v29 < 21 ∧
      (v29 = 0 → QP_ σ0 B n k (.inl (some (.int (st_I s27 142 2)))) s27) ∧ (¬ v29 = 0 → ∃ (v34 : Int32) (s32 : st_T), Wd s32 ∧ fn_ γ m_X6_fail 1 [.ref 142, .int (1 : Int32)] s27 (.int v34) s32 ∧ QP_ σ0 B n k (.inl (some (.int (st_I s32 142 2)))) s32) := by
  refine ⟨_, s, hP.1, c_sign hP.1 hP.2.1, csg_21, fun z => ?_, fun z => ?_⟩
  · exact ⟨_, rfl, .inl S, hk _ (by unfold PE_; rw [if_pos z]), hP.1, hf, Or.inl ⟨S, rfl, by rw [hP.2.2.2.2.2.2], hP⟩⟩
  · obtain ⟨s2, a1, a2, a3, -⟩ := c_fail (γ := γ) hP 1
    refine ⟨_, s2, a2, a1, ?_⟩
    obtain ⟨b1, ⟨b2, -⟩ | ⟨-, e, b3, b4, -⟩⟩ := a3
    · exact absurd b2 (by decide)
    · have b3 := Sum.inr.inj b3
      exact qp_err a2 (yf_tr hf b1) b4 (hk _ (by unfold PE_; rw [if_neg z, b3]))
theorem l_ptail {σ0 s : st_T} {S : qs_T} (hP : Pc_ s B n S) (hf : yf_ σ0 s) (hl : S.2.1.2.2.length ≤ 2 * S.2.2) {k : (qs_T ⊕ Nat) → Prop} (hk : ∀ r, ((csg_ B n S.1 ≠ 11 ∧ PE_ B n S r) ∨ (csg_ B n S.1 = 11 ∧ ((∃ e, Rd_ B n 1 0 (S.1 + 1, S.2) (.inr e) ∧ r = .inr e) ∨ ∃ S3, Rd_ B n 1 0 (S.1 + 1, S.2) (.inl S3) ∧ ((∃ e, xp_ B n 15 S3 = .inr e ∧ r = .inr e) ∨ ∃ S4, xp_ B n 15 S3 = .inl S4 ∧ PE_ B n S4 r)))) → k r) :
    ∃ (v14 : Nat) (s12 : st_T), Wd s12 ∧ fn_ γ m_X10_sign 0 [.ref 143] s (.ref v14) s12 ∧ v14 < 21 ∧
      (v14 = 11 →
        ∃ s17, Wd s17 ∧ fw_ γ m_X10_advance 1 [.ref 143] s12 s17 ∧
        ∃ (v21 : Int32) (s19 : st_T), Wd s19 ∧ fn_ γ m_X6_readCondition 60 [.ref 142, .int (0 : Int32)] s17 (.int v21) s19 ∧
        (v21 = (0 : Int32) → QP_ σ0 B n k (.inl (some (.int (st_I s19 142 2)))) s19) ∧ (¬ v21 = (0 : Int32) →
          ∃ (v25 : Int32) (s23 : st_T), Wd s23 ∧ fn_ γ m_X6_expect 2 [.ref 142, .ref 15] s19 (.int v25) s23 ∧
          (v25 = (0 : Int32) → QP_ σ0 B n k (.inl (some (.int (st_I s23 142 2)))) s23) ∧ (¬ v25 = (0 : Int32) →
            ∃ (v29 : Nat) (s27 : st_T), Wd s27 ∧ fn_ γ m_X10_sign 0 [.ref 143] s23 (.ref v29) s27 ∧ v29 < 21 ∧
              (v29 = 0 → QP_ σ0 B n k (.inl (some (.int (st_I s27 142 2)))) s27) ∧ (¬ v29 = 0 → ∃ (v34 : Int32) (s32 : st_T), Wd s32 ∧ fn_ γ m_X6_fail 1 [.ref 142, .int (1 : Int32)] s27 (.int v34) s32 ∧ QP_ σ0 B n k (.inl (some (.int (st_I s32 142 2)))) s32)))) ∧
      (¬ v14 = 11 → ∃ (v29 : Nat) (s27 : st_T), Wd s27 ∧ fn_ γ m_X10_sign 0 [.ref 143] s12 (.ref v29) s27 ∧ v29 < 21 ∧
              (v29 = 0 → QP_ σ0 B n k (.inl (some (.int (st_I s27 142 2)))) s27) ∧ (¬ v29 = 0 → ∃ (v34 : Int32) (s32 : st_T), Wd s32 ∧ fn_ γ m_X6_fail 1 [.ref 142, .int (1 : Int32)] s27 (.int v34) s32 ∧ QP_ σ0 B n k (.inl (some (.int (st_I s32 142 2)))) s32)) := by
  refine ⟨_, s, hP.1, c_sign hP.1 hP.2.1, csg_21, fun z => ?_, fun z => ?_⟩
  · obtain ⟨s1, a1, a2, a3, a4, -⟩ := pc_adv (γ := γ) hP (by omega)
    obtain ⟨v, s2, r, b1, b2, b3, b4, b5⟩ := c_cond0 (γ := γ) (S.1 + 1, S.2) s1 a3 hl
    refine ⟨s1, a2, a1, v, s2, b2, b1, ?_⟩
    rcases b5 with ⟨rfl, S2, rfl, c2⟩ | ⟨rfl, e, rfl, c2, c3⟩
    · refine ⟨fun z => absurd z (by decide), fun _ => ?_⟩
      obtain ⟨v2, s3, e1, e2, ⟨e3, e4⟩, -⟩ := c_expect (γ := γ) c2 (c := 15) (by decide)
      refine ⟨v2, s3, e2, e1, ?_⟩
      have f4 := yf_tr (yf_tr (yf_tr hf a4) b4) e3
      rcases e4 with ⟨rfl, S4, f1, f2⟩ | ⟨rfl, e, f1, f2, f3⟩
      · exact ⟨fun z => absurd z (by decide), fun _ => l_pend f2 f4 (fun r hr => hk r (Or.inr ⟨z, Or.inr ⟨S2, b3, Or.inr ⟨S4, f1, hr⟩⟩⟩))⟩
      · exact ⟨fun _ => qp_err e2 f4 f2 (hk _ (Or.inr ⟨z, Or.inr ⟨S2, b3, Or.inl ⟨e, f1, rfl⟩⟩⟩)), fun z => absurd rfl z⟩
    · exact ⟨fun _ => qp_err b2 (yf_tr (yf_tr hf a4) b4) c2 (hk _ (Or.inr ⟨z, Or.inl ⟨e, b3, rfl⟩⟩)), fun z => absurd rfl z⟩
  · exact l_pend hP hf (fun r hr => hk r (Or.inl ⟨z, hr⟩))
theorem xp_c {c : Nat} {S S2 : qs_T} (h : xp_ B n c S = .inl S2) : S2.2 = S.2 := by rw [(xp_S h).2]
theorem ins_c {t : Nat} {kd : Int} {S S2 : qs_T} (h : ins_ B n t kd S = .inl S2) : S2.2.1.2.2 = S.2.1.2.2 ∧ S2.2.2 = S.2.2 ∧ pT_ S2.2.1.1 = pT_ S.2.1.1 := by
  unfold ins_ at h
  split at h
  · cases h
  · generalize h1 : (if kd = 1 ∨ kd = 2 then rtg_ B n t (S.1 + 1, S.2) else .inl (-1, (S.1 + 1, S.2)) : (Int × qs_T) ⊕ Nat) = r1 at h
    cases r1 with
    | inr e => cases h
    | inl y1 =>
      obtain ⟨g, S3⟩ := y1
      have q1 : S3.2 = S.2 := by
        split at h1
        · exact rtg_S (S := (S.1 + 1, S.2)) h1
        · have y := (Prod.mk.inj (Sum.inl.inj h1)).2
          rw [← y]
      have h : (match (if kd = 3 then .inl (-1, S3) else rlo_ B n S3 : (Int × qs_T) ⊕ Nat) with
        | .inr e => .inr e
        | .inl (l, S3) => match (if kd = 0 ∨ kd = 2 then rva_ B n t S3 else .inl ((-1, -1), S3) : ((Int × Int) × qs_T) ⊕ Nat) with
          | .inr e => .inr e
          | .inl (x, S4) => match xp_ B n 15 S4 with
            | .inr e => .inr e
            | .inl S5 => .inl (S5.1, pai_ S5.2.1 kd l g x.1 x.2, S5.2.2) : qs_T ⊕ Nat) = .inl S2 := h
      generalize h2 : (if kd = 3 then .inl (-1, S3) else rlo_ B n S3 : (Int × qs_T) ⊕ Nat) = r2 at h
      cases r2 with
      | inr e => cases h
      | inl y2 =>
        obtain ⟨l, S4⟩ := y2
        have q2 : S4.2 = S3.2 := by
          split at h2
          · have y := (Prod.mk.inj (Sum.inl.inj h2)).2
            rw [← y]
          · exact rlo_S h2
        have h : (match (if kd = 0 ∨ kd = 2 then rva_ B n t S4 else .inl ((-1, -1), S4) : ((Int × Int) × qs_T) ⊕ Nat) with
          | .inr e => .inr e
          | .inl (x, S4) => match xp_ B n 15 S4 with
            | .inr e => .inr e
            | .inl S5 => .inl (S5.1, pai_ S5.2.1 kd l g x.1 x.2, S5.2.2) : qs_T ⊕ Nat) = .inl S2 := h
        generalize h3 : (if kd = 0 ∨ kd = 2 then rva_ B n t S4 else .inl ((-1, -1), S4) : ((Int × Int) × qs_T) ⊕ Nat) = r3 at h
        cases r3 with
        | inr e => cases h
        | inl y3 =>
          obtain ⟨x, S5⟩ := y3
          have q3 : S5.2 = S4.2 := by
            split at h3
            · exact rva_S h3
            · have y := (Prod.mk.inj (Sum.inl.inj h3)).2
              rw [← y]
          have h : (match xp_ B n 15 S5 with
            | .inr e => .inr e
            | .inl S5 => .inl (S5.1, pai_ S5.2.1 kd l g x.1 x.2, S5.2.2) : qs_T ⊕ Nat) = .inl S2 := h
          cases h4 : xp_ B n 15 S5 with
          | inr e => rw [h4] at h; cases h
          | inl S6 =>
            rw [h4] at h
            have q4 := xp_c h4
            have h := Sum.inl.inj h
            rw [← h]
            have e : S6.2 = S.2 := by rw [q4, q3, q2, q1]
            show S6.2.1.2.2 = _ ∧ S6.2.2 = _ ∧ pT_ S6.2.1.1 = _
            rw [e]
            exact ⟨rfl, rfl, rfl⟩
theorem itl_c {t : Nat} : ∀ (f : Nat) (S S2 : qs_T), itl_ B n t f S = .inl S2 → S2.2.1.2.2 = S.2.1.2.2 ∧ S2.2.2 = S.2.2
  | 0, S, S2, h => by
    have h : (Sum.inl S : qs_T ⊕ Nat) = .inl S2 := h
    rw [Sum.inl.inj h]
    exact ⟨rfl, rfl⟩
  | f + 1, S, S2, h => by
    have h : (if kd_ (csg_ B n S.1) = -1 then .inl S else match ins_ B n t (kd_ (csg_ B n S.1)) S with
      | .inr e => .inr e
      | .inl S2 => itl_ B n t f S2 : qs_T ⊕ Nat) = .inl S2 := h
    by_cases y : kd_ (csg_ B n S.1) = -1
    · rw [if_pos y] at h
      rw [Sum.inl.inj h]
      exact ⟨rfl, rfl⟩
    · rw [if_neg y] at h
      cases h1 : ins_ B n t (kd_ (csg_ B n S.1)) S with
      | inr e => rw [h1] at h; cases h
      | inl S3 =>
        rw [h1] at h
        have a := ins_c h1
        have b := itl_c f S3 S2 h
        exact ⟨b.1.trans a.1, b.2.trans a.2.1⟩
theorem thr_c {S S2 : qs_T} (h : thr_ B n S = .inl S2) : S2.2.1.2.2 = S.2.1.2.2 ∧ S2.2.2 = S.2.2 := by
  unfold thr_ at h
  split at h
  · cases h
  · cases h1 : xp_ B n 15 (S.1 + 1, pat_ S.2.1, S.2.2) with
    | inr e => rw [h1] at h; cases h
    | inl S3 =>
      rw [h1] at h
      have a := xp_c h1
      have b := itl_c 8 S3 S2 h
      rw [a] at b
      exact b
theorem thl_c : ∀ (f : Nat) (S S2 : qs_T), thl_ B n f S = .inl S2 → S2.2.1.2.2 = S.2.1.2.2 ∧ S2.2.2 = S.2.2
  | 0, S, S2, h => by
    have h : (Sum.inl S : qs_T ⊕ Nat) = .inl S2 := h
    rw [Sum.inl.inj h]
    exact ⟨rfl, rfl⟩
  | f + 1, S, S2, h => by
    have h : (if csg_ B n S.1 = 6 then (match thr_ B n S with
      | .inr e => .inr e
      | .inl S2 => thl_ B n f S2) else .inl S : qs_T ⊕ Nat) = .inl S2 := h
    by_cases y : csg_ B n S.1 = 6
    · rw [if_pos y] at h
      cases h1 : thr_ B n S with
      | inr e => rw [h1] at h; cases h
      | inl S3 =>
        rw [h1] at h
        have a := thr_c h1
        have b := thl_c f S3 S2 h
        exact ⟨b.1.trans a.1, b.2.trans a.2⟩
    · rw [if_neg y] at h
      rw [Sum.inl.inj h]
      exact ⟨rfl, rfl⟩
theorem dec_c {S S2 : qs_T} (h : dec_ B n S = .inl S2) : S2.2.1.2.2 = S.2.1.2.2 ∧ S2.2.2 = S.2.2 := by
  unfold dec_ at h
  split at h
  · cases h
  · split at h
    · cases h
    · split at h
      · cases h
      · split at h
        · rw [xp_c h]
          exact ⟨rfl, rfl⟩
        · cases h
theorem lcl_c : ∀ (f : Nat) (S S2 : qs_T), lcl_ B n f S = .inl S2 → S2.2.1.2.2 = S.2.1.2.2 ∧ S2.2.2 = S.2.2
  | 0, S, S2, h => by
    have h : (Sum.inl S : qs_T ⊕ Nat) = .inl S2 := h
    rw [Sum.inl.inj h]
    exact ⟨rfl, rfl⟩
  | f + 1, S, S2, h => by
    have h : (if csg_ B n S.1 = 5 then (match dec_ B n S with
      | .inr e => .inr e
      | .inl S2 => lcl_ B n f S2) else .inl S : qs_T ⊕ Nat) = .inl S2 := h
    by_cases y : csg_ B n S.1 = 5
    · rw [if_pos y] at h
      cases h1 : dec_ B n S with
      | inr e => rw [h1] at h; cases h
      | inl S3 =>
        rw [h1] at h
        have a := dec_c h1
        have b := lcl_c f S3 S2 h
        exact ⟨b.1.trans a.1, b.2.trans a.2⟩
    · rw [if_neg y] at h
      rw [Sum.inl.inj h]
      exact ⟨rfl, rfl⟩
end PS
