/-! the reference's machine: its reads of a state -/
section RK
theorem k0_ : (0 : Int32) = i_ 0 := by decide
theorem k1_ : (1 : Int32) = i_ 1 := by decide
theorem k2_ : (2 : Int32) = i_ 2 := by decide
theorem k3_ : (3 : Int32) = i_ 3 := by decide
theorem k4_ : (4 : Int32) = i_ 4 := by decide
theorem k5_ : (5 : Int32) = i_ 5 := by decide
theorem k6_ : (6 : Int32) = i_ 6 := by decide
theorem k7_ : (7 : Int32) = i_ 7 := by decide
theorem k8_ : (8 : Int32) = i_ 8 := by decide
theorem k9_ : (9 : Int32) = i_ 9 := by decide
theorem k10_ : (10 : Int32) = i_ 10 := by decide
theorem k11_ : (11 : Int32) = i_ 11 := by decide
theorem k12_ : (12 : Int32) = i_ 12 := by decide
theorem k13_ : (13 : Int32) = i_ 13 := by decide
theorem k14_ : (14 : Int32) = i_ 14 := by decide
theorem k15_ : (15 : Int32) = i_ 15 := by decide
theorem k16_ : (16 : Int32) = i_ 16 := by decide
theorem k32_ : (32 : Int32) = i_ 32 := by decide
theorem k38_ : (38 : Int32) = i_ 38 := by decide
theorem k48_ : (48 : Int32) = i_ 48 := by decide
theorem k60_ : (60 : Int32) = i_ 60 := by decide
theorem k255_ : (255 : Int32) = i_ 255 := by decide
theorem k600_ : (600 : Int32) = i_ 600 := by decide
end RK
section RM
variable {γ : ga_T} {σ : st_T} {g : gm_T} {K t n : Nat} {S : gs_T}
/-- the machine that is laid -/
def Mr_ (σ : st_T) (g : gm_T) (K : Nat) : Prop := Gw_ g K ∧ st_I σ 185 31 = i_ (gm_ g : Int) ∧ (∀ t, t < 5 → st_I σ 203 t = i_ (gB_ g t : Int)) ∧
  ∀ n, n < K → st_I σ 196 n = i_ (gC_ g n 1) ∧ st_I σ 197 n = i_ (gC_ g n 2) ∧ st_I σ 198 n = i_ (gC_ g n 3) ∧ st_I σ 199 n = i_ (gC_ g n 4) ∧ st_I σ 200 n = i_ (gC_ g n 5) ∧ (gC_ g n 1 = 0 → st_I σ 202 n = i_ (sbn_ g n : Int))
theorem gk_ (hg : Gw_ g K) (q : t < 4) : gB_ g t + gl_ g t = gB_ g (t + 1) ∧ gB_ g (t + 1) ≤ K ∧ gl_ g t ≤ 14 := by
  obtain ⟨-, -, b4, bm, -, -, -, -, b14⟩ := hg
  have y0 := bm 0 (by decide)
  have y1 := bm 1 (by decide)
  have y2 := bm 2 (by decide)
  have y3 := bm 3 (by decide)
  have yt := bm t q
  have yg := b14 t q
  refine ⟨by unfold gl_; omega, ?_, yg⟩
  have : t = 0 ∨ t = 1 ∨ t = 2 ∨ t = 3 := by omega
  simp only [Nat.zero_add, Nat.reduceAdd] at y0 y1 y2 y3
  rcases this with rfl | rfl | rfl | rfl
  · show gB_ g 1 ≤ K
    omega
  · show gB_ g 2 ≤ K
    omega
  · show gB_ g 3 ≤ K
    omega
  · show gB_ g 4 ≤ K
    omega
theorem kr_63 : kr_ g K S < 2 ^ 63 := Nat.lt_trans (kr_lt g K S) (by decide)
theorem rl_nib {s q : Nat} (h1 : q < 64) (h2 : s < 2 ^ 63) : ((lN s >>> ((i_ (q : Int)).toInt64 &&& 63)) &&& (15 : Int64)).toInt32 = i_ ((s / 2 ^ q % 2 ^ 4 : Nat) : Int) := by
  rw [l_shr h1 h2, show (15 : Int64) = lN 15 from rfl, l_and (Nat.lt_of_le_of_lt (Nat.div_le_self _ _) (by omega)) (by decide), l_i32, show s / 2 ^ q &&& 15 = s / 2 ^ q % 2 ^ 4 from Nat.and_two_pow_sub_one_eq_mod _ 4, Nat.mod_eq_of_lt (Nat.lt_trans (Nat.mod_lt _ (by decide)) (by decide))]
theorem rl_dig {s q : Nat} (h1 : q < 64) (h2 : s < 2 ^ 63) : ((lN s >>> ((i_ (q : Int)).toInt64 &&& 63)) &&& (3 : Int64)).toInt32 = i_ ((s / 2 ^ q % 2 ^ 2 : Nat) : Int) := by
  rw [l_shr h1 h2, show (3 : Int64) = lN 3 from rfl, l_and (Nat.lt_of_le_of_lt (Nat.div_le_self _ _) (by omega)) (by decide), l_i32, show s / 2 ^ q &&& 3 = s / 2 ^ q % 2 ^ 2 from Nat.and_two_pow_sub_one_eq_mod _ 2, Nat.mod_eq_of_lt (Nat.lt_trans (Nat.mod_lt _ (by decide)) (by decide))]
theorem rs_4 (t : Nat) : (4 : Int32) * i_ (t : Int) = i_ ((4 * t : Nat) : Int) := by
  rw [show (4 : Int32) = i_ 4 from rfl, i_mul]
  exact congrArg i_ (by omega)
theorem rs_R (t r : Nat) : (16 : Int32) + (2 : Int32) * ((2 : Int32) * i_ (t : Int) + i_ (r : Int)) = i_ ((16 + 2 * (2 * t + r) : Nat) : Int) := by
  rw [show (16 : Int32) = i_ 16 from rfl, show (2 : Int32) = i_ 2 from rfl, i_mul, i_add, i_mul, i_add]
  exact congrArg i_ (by omega)
theorem rs_M (l : Nat) : (32 : Int32) + (2 : Int32) * i_ (l : Int) = i_ ((32 + 2 * l : Nat) : Int) := by
  rw [show (32 : Int32) = i_ 32 from rfl, show (2 : Int32) = i_ 2 from rfl, i_mul, i_add]
  exact congrArg i_ (by omega)
theorem rs_W (b : Nat) : (38 : Int32) + i_ (b : Int) = i_ ((38 + b : Nat) : Int) := by
  rw [show (38 : Int32) = i_ 38 from rfl, i_add]
  exact congrArg i_ (by omega)
theorem c_rnext (zw : Wd σ) (hg : Gw_ g K) (v : Vr_ g K S) (q : t < 4) : fn_ γ m_X12_nextOf 0 [.long (lN (kr_ g K S)), .int (i_ (t : Int))] σ (.int (i_ (sP_ S t : Int))) σ := fn_q (fun Q zQ => e_X12_nextOf zw (by
  unfold p_X12_nextOf_0
  rw [rs_4, rl_nib (by omega) kr_63, cr_P (kr_cr hg S) q (v.1 t).1]
  exact zQ))
theorem c_rreg (zw : Wd σ) (hg : Gw_ g K) (v : Vr_ g K S) {r : Nat} (q : t < 4) (q2 : r < 2) : fn_ γ m_X12_registerOf 0 [.long (lN (kr_ g K S)), .int (i_ (t : Int)), .int (i_ (r : Int))] σ (.int (i_ (sR_ S (2 * t + r) : Int))) σ := fn_q (fun Q zQ => e_X12_registerOf zw (by
  unfold p_X12_registerOf_0
  rw [rs_R, rl_dig (by omega) kr_63, cr_R (kr_cr hg S) (by omega) (v.2.1 _).1]
  exact zQ))
theorem c_rmem (zw : Wd σ) (hg : Gw_ g K) (v : Vr_ g K S) {l : Nat} (q : l < 3) : fn_ γ m_X12_memoryOf 0 [.long (lN (kr_ g K S)), .int (i_ (l : Int))] σ (.int (i_ (sM_ S l : Int))) σ := fn_q (fun Q zQ => e_X12_memoryOf zw (by
  unfold p_X12_memoryOf_0
  rw [rs_M, rl_dig (by omega) kr_63, cr_M (kr_cr hg S) q (v.2.2.1 _).1]
  exact zQ))
theorem rl_bit {s q : Nat} (h1 : q < 64) (h2 : s < 2 ^ 63) : (((lN s >>> ((i_ (q : Int)).toInt64 &&& 63)) &&& (1 : Int64)) = (1 : Int64)) = (s.testBit q = true) := by
  rw [l_shr h1 h2, show (1 : Int64) = lN 1 from rfl, l_and (Nat.lt_of_le_of_lt (Nat.div_le_self _ _) (by omega)) (by decide), lN_inj (Nat.lt_of_le_of_lt Nat.and_le_right (by decide)) (by decide), Nat.and_one_is_mod, Nat.testBit_eq_decide_div_mod_eq, decide_eq_true_eq]
theorem c_rwait (zw : Wd σ) (hg : Gw_ g K) (q : n < K) (q2 : gC_ g n 1 = 0) : fn_ γ m_X12_isWaiting 0 [.long (lN (kr_ g K S)), .int (i_ (sbn_ g n : Int))] σ (.int (if sW_ S n = true then 1 else 0)) σ := fn_q (fun Q zQ => e_X12_isWaiting zw (by
  have b := sbn_8 hg q q2
  unfold p_X12_isWaiting_0
  rw [rs_W, rl_bit (by omega) kr_63, cr_W (kr_cr hg S) q q2]
  refine ⟨fun z => ?_, fun z => ?_⟩
  · rw [if_pos z] at zQ
    exact zQ
  · rw [if_neg z] at zQ
    exact zQ))
theorem c_rwith (zw : Wd σ) {s x y : Nat} (q1 : x < 60) (q2 : s < 2 ^ 63) (q3 : y < 4) : fn_ γ m_X12_with 0 [.long (lN s), .int (i_ (x : Int)), .int (i_ (y : Int))] σ (.long (lN (sd_ s x y))) σ := fn_q (fun Q zQ => e_X12_with zw (by
  unfold p_X12_with_0
  rw [show (3 : Int64) = lN 3 from rfl, l_setd q1 q2 q3]
  exact zQ))
theorem gv_r4 (hg : Gw_ g K) (v : Vr_ g K S) (q2 : n < K) : gv_ g S t n < 4 := by
  unfold gv_
  split
  · have k := (hg.2.2.2.2.2.2.2.1 n q2).2.2.2.2.2.2.1
    omega
  · exact (v.2.1 _).1
theorem c_rval (zw : Wd σ) (zM : Mr_ σ g K) (v : Vr_ g K S) (q1 : t < 4) (q2 : n < K) (q3 : gC_ g n 1 = 0 ∨ gC_ g n 1 = 2) : fn_ γ m_X12_valueOf 1 [.ref 185, .long (lN (kr_ g K S)), .int (i_ (t : Int)), .int (i_ (n : Int))] σ (.int (i_ (gv_ g S t n : Int))) σ := by
  obtain ⟨hg, -, -, hI⟩ := zM
  obtain ⟨-, -, -, h4, h5, -⟩ := hI n q2
  have hK := hg.1
  have k := hg.2.2.2.2.2.2.2.1 n q2
  have k6 := k.2.2.2.2.2.1 q3
  refine fn_q (fun Q zQ => e_X12_valueOf zw ?_)
  unfold p_X12_valueOf_0
  simp (disch := omega) only [i_in_iff, i_cl]
  rw [Int.toNat_natCast, h5, h4]
  simp (disch := omega) only [i_lit, i_neg, i_eq]
  refine ⟨⟨by omega, by omega⟩, fun z => ⟨⟨by omega, by omega⟩, ?_⟩, fun z => ⟨⟨by omega, by omega⟩, ?_⟩⟩
  · have e : ((gv_ g S t n : Nat) : Int) = gC_ g n 4 := by
      unfold gv_
      rw [if_pos z]
      omega
    rw [e] at zQ
    exact zQ
  · have e : gC_ g n 5 = ((gC_ g n 5).toNat : Int) := by omega
    have y := c_rreg (γ := γ) zw hg v q1 (r := (gC_ g n 5).toNat) (by omega)
    rw [← e] at y
    refine ⟨_, _, zw, y, ?_⟩
    have e2 : gv_ g S t n = sR_ S (2 * t + (gC_ g n 5).toNat) := by
      unfold gv_
      rw [if_neg z]
    rw [e2] at zQ
    exact zQ
theorem f1_s (f : Nat → Bool) : ∀ k i, f1_ f (k + 1) i = match f1_ f k i with | some j => some j | none => if f (i + k) = true then some (i + k) else none
  | 0, i => by
    show (if f i = true then some i else none) = (if f (i + 0) = true then some (i + 0) else none)
    rw [Nat.add_zero]
  | k + 1, i => by
    have ih := f1_s f k (i + 1)
    show (if f i = true then some i else f1_ f (k + 1) (i + 1)) = match (if f i = true then some i else f1_ f k (i + 1)) with | some j => some j | none => if f (i + (k + 1)) = true then some (i + (k + 1)) else none
    by_cases z : f i = true
    · rw [if_pos z, if_pos z]
    · rw [if_neg z, if_neg z, ih, show i + 1 + k = i + (k + 1) by omega]
theorem f2_s (f : Nat → Bool) : ∀ k i, f2_ f (k + 1) i = if f (i + k) = true then some (i + k) else f2_ f k i
  | 0, i => rfl
  | k + 1, i => by
    have ih := f2_s f k (i + 1)
    show (match f2_ f (k + 1) (i + 1) with | some j => some j | none => if f i = true then some i else none) = if f (i + (k + 1)) = true then some (i + (k + 1)) else (match f2_ f k (i + 1) with | some j => some j | none => if f i = true then some i else none)
    rw [ih, show i + 1 + k = i + (k + 1) by omega]
    by_cases z : f (i + (k + 1)) = true
    · rw [if_pos z, if_pos z]
    · rw [if_neg z, if_neg z]
def wu_ (o : Option Nat) : Int := match o with
  | some n => n
  | none => -1
/-- first or last -/
def fb_ (b : Bool) (f : Nat → Bool) (k i : Nat) : Option Nat := if b = true then f2_ f k i else f1_ f k i
theorem fb_no {b : Bool} {f : Nat → Bool} {k i : Nat} (h : f (i + k) = false) : fb_ b f (k + 1) i = fb_ b f k i := by
  unfold fb_
  cases b with
  | true =>
    rw [if_pos rfl, if_pos rfl, f2_s, h]
    rfl
  | false =>
    rw [if_neg (by decide), if_neg (by decide), f1_s, h]
    cases f1_ f k i <;> rfl
theorem fb_cut {b : Bool} {f : Nat → Bool} {k i : Nat} : ∀ v, (∀ j, i + k ≤ j → j < i + (k + v) → f j = false) → fb_ b f (k + v) i = fb_ b f k i := by
  intro v
  induction v with
  | zero => intro _; rfl
  | succ v ih =>
    intro h
    rw [show k + (v + 1) = k + v + 1 by omega, fb_no (h _ (by omega) (by omega))]
    exact ih (fun j z1 z2 => h j z1 (by omega))
theorem fb_in {b : Bool} {f : Nat → Bool} {k i n : Nat} (h : fb_ b f k i = some n) : i ≤ n ∧ n < i + k ∧ f n = true := by
  unfold fb_ at h
  split at h
  · have z := (f2_some _ _ _).mp h
    exact ⟨z.1, z.2.1, z.2.2.1⟩
  · have z := (f1_some _ _ _).mp h
    exact ⟨z.1, z.2.1, z.2.2.1⟩
/-- the waiting stores of a thread for a location (any: -1) -/
def wz_ (g : gm_T) (S : gs_T) (z : Int) (n : Nat) : Bool := sW_ S n && (decide (z = -1) || decide (gC_ g n 2 = z))
theorem c_rwaiting (zw : Wd σ) (zM : Mr_ σ g K) (v : Vr_ g K S) (q1 : t < 4) {z : Int} (q2 : -1 ≤ z ∧ z < 3) (b : Bool) : fn_ γ m_X12_waiting 1 [.ref 185, .long (lN (kr_ g K S)), .int (i_ (t : Int)), .int (i_ z), .int (if b = true then 1 else 0)] σ (.int (i_ (wu_ (fb_ b (wz_ g S z) (gl_ g t) (gB_ g t))))) σ := by
  obtain ⟨hg, -, hB, hI⟩ := zM
  obtain ⟨k1, k2, k3⟩ := gk_ hg q1
  have hK := hg.1
  have hP := v.2.2.2.1 t q1
  have ec : fb_ b (wz_ g S z) (gl_ g t) (gB_ g t) = fb_ b (wz_ g S z) (sP_ S t) (gB_ g t) := by
    have y := fb_cut (b := b) (f := wz_ g S z) (k := sP_ S t) (i := gB_ g t) (gl_ g t - sP_ S t) (fun j z1 z2 => by
      unfold wz_
      cases hw : sW_ S j with
      | false => rfl
      | true =>
        obtain ⟨-, -, -, u, u1, u2, u3⟩ := v.2.2.2.2 j hw
        obtain ⟨k4, k5, k6⟩ := gk_ hg u1
        have hPu := v.2.2.2.1 u u1
        have mono : ∀ a c : Nat, a ≤ c → c ≤ 4 → gB_ g a ≤ gB_ g c := fun a c ac c4 => by
          have y0 := hg.2.2.2.1 0 (by decide)
          have y1 := hg.2.2.2.1 1 (by decide)
          have y2 := hg.2.2.2.1 2 (by decide)
          have y3 := hg.2.2.2.1 3 (by decide)
          simp only [Nat.zero_add, Nat.reduceAdd] at y0 y1 y2 y3
          have a5 : a = 0 ∨ a = 1 ∨ a = 2 ∨ a = 3 ∨ a = 4 := by omega
          have c5 : c = 0 ∨ c = 1 ∨ c = 2 ∨ c = 3 ∨ c = 4 := by omega
          rcases a5 with rfl | rfl | rfl | rfl | rfl <;> rcases c5 with rfl | rfl | rfl | rfl | rfl <;> omega
        by_cases e : u = t
        · subst e
          omega
        · by_cases e2 : u < t
          · have := mono (u + 1) t (by omega) (by omega)
            omega
          · have := mono (t + 1) u (by omega) (by omega)
            omega)
    rw [show sP_ S t + (gl_ g t - sP_ S t) = gl_ g t by omega] at y
    exact y
  rw [ec]
  refine fn_q (fun Q zQ => e_X12_waiting zw ?_)
  unfold p_X12_waiting_0
  rw [i_cl (by omega), Int.toNat_natCast, hB t (by omega)]
  refine ⟨i_in (by omega) (by omega) (by omega), ?_⟩
  have key : ∀ k j : Nat, k + j = sP_ S t → vv_ γ m_X12_waiting 1 11 [(0, .ref 185), (1, .long (lN (kr_ g K S))), (3, .int (i_ (t : Int))), (4, .int (i_ z)), (5, .int (if b = true then 1 else 0)), (6, .int (i_ (wu_ (fb_ b (wz_ g S z) j (gB_ g t))))), (7, .int (i_ ((gB_ g t + j : Nat) : Int)))] [] σ Q := by
    intro k
    induction k with
    | zero =>
      intro j zj
      refine g_X12_waiting_11 zw ?_
      unfold p_X12_waiting_11
      rw [i_cl (by omega), Int.toNat_natCast, hB t (by omega)]
      refine ⟨i_in (by omega) (by omega) (by omega), _, _, zw, c_rnext zw hg v q1, ?_⟩
      simp (disch := omega) only [i_add, i_le]
      refine ⟨fun _ => ?_, fun y => by omega⟩
      rw [show j = sP_ S t by omega]
      exact zQ
    | succ k ih =>
      intro j zj
      have hn : gB_ g t + j < K := by omega
      obtain ⟨h1, h2, -, -, -, h6⟩ := hI _ hn
      have kn := hg.2.2.2.2.2.2.2.1 _ hn
      have ihn := ih (j + 1) (by omega)
      rw [show ((gB_ g t + (j + 1) : Nat) : Int) = ((gB_ g t + j : Nat) : Int) + 1 by omega, ← i_add, ← i_lit 1] at ihn
      have w0 : wu_ (fb_ b (wz_ g S z) j (gB_ g t)) = -1 ∨ 0 ≤ wu_ (fb_ b (wz_ g S z) j (gB_ g t)) ∧ wu_ (fb_ b (wz_ g S z) j (gB_ g t)) < 40 := by
        cases e : fb_ b (wz_ g S z) j (gB_ g t) with
        | none => exact Or.inl rfl
        | some m =>
          have y := fb_in e
          refine Or.inr ⟨?_, ?_⟩
          · show (0 : Int) ≤ (m : Int)
            omega
          · show (m : Int) < 40
            omega
      have no : wz_ g S z (gB_ g t + j) = false → wu_ (fb_ b (wz_ g S z) (j + 1) (gB_ g t)) = wu_ (fb_ b (wz_ g S z) j (gB_ g t)) := fun y => by rw [fb_no y]
      have ye : wz_ g S z (gB_ g t + j) = true → (b = true → wu_ (fb_ b (wz_ g S z) (j + 1) (gB_ g t)) = ((gB_ g t + j : Nat) : Int)) ∧ (b = false → wu_ (fb_ b (wz_ g S z) j (gB_ g t)) = -1 → wu_ (fb_ b (wz_ g S z) (j + 1) (gB_ g t)) = ((gB_ g t + j : Nat) : Int)) ∧ (b = false → wu_ (fb_ b (wz_ g S z) j (gB_ g t)) ≠ -1 → wu_ (fb_ b (wz_ g S z) (j + 1) (gB_ g t)) = wu_ (fb_ b (wz_ g S z) j (gB_ g t))) := fun y => by
        refine ⟨fun hb => ?_, fun hb h0 => ?_, fun hb h0 => ?_⟩
        · subst hb
          unfold fb_
          rw [if_pos rfl, f2_s, if_pos y]
          rfl
        · subst hb
          unfold fb_ at h0 ⊢
          rw [if_neg (by decide)] at h0 ⊢
          rw [f1_s]
          cases e : f1_ (wz_ g S z) j (gB_ g t) with
          | some m =>
            rw [e] at h0
            have : ((m : Nat) : Int) = -1 := h0
            omega
          | none =>
            show wu_ (if wz_ g S z (gB_ g t + j) = true then some (gB_ g t + j) else none) = _
            rw [if_pos y]
            rfl
        · subst hb
          unfold fb_ at h0 ⊢
          rw [if_neg (by decide)] at h0 ⊢
          rw [if_neg (by decide), f1_s]
          cases e : f1_ (wz_ g S z) j (gB_ g t) with
          | some m => rfl
          | none =>
            rw [e] at h0
            exact absurd rfl h0
      refine g_X12_waiting_11 zw ?_
      unfold p_X12_waiting_11
      rw [i_cl (by omega), Int.toNat_natCast, hB t (by omega)]
      refine ⟨i_in (by omega) (by omega) (by omega), _, _, zw, c_rnext zw hg v q1, ?_⟩
      rw [i_cl (by omega), Int.toNat_natCast, h1]
      generalize wu_ (fb_ b (wz_ g S z) (j + 1) (gB_ g t)) = w1 at ihn no ye
      generalize wu_ (fb_ b (wz_ g S z) j (gB_ g t)) = w at w0 no ye
      simp (disch := omega) only [i_add, i_le]
      refine ⟨fun y => by omega, fun _ => ⟨i_in (by omega) (by omega) (by omega), fun y => ⟨i_in (by omega) (by omega) (by omega), ?_⟩, fun y => ?_⟩⟩
      · rw [k0_, i_eq (by omega) (by omega)] at y
        rw [h6 y]
        refine ⟨_, _, zw, c_rwait zw hg hn y, ?_⟩
        cases hw : sW_ S (gB_ g t + j) with
        | false =>
          have no := no (by unfold wz_; rw [hw]; rfl)
          rw [no] at ihn
          exact ⟨fun _ => ihn, fun y2 => absurd rfl y2⟩
        | true =>
          refine ⟨fun y2 => absurd y2 (by decide), fun _ => ?_⟩
          have em : i_ z = (-1 : Int32) ↔ z = -1 := by
            rw [show (-1 : Int32) = i_ (-1) by decide, i_eq (by omega) (by omega)]
          have ew : i_ w = (-1 : Int32) ↔ w = -1 := by
            rw [show (-1 : Int32) = i_ (-1) by decide, i_eq (by omega) (by omega)]
          have fin : wz_ g S z (gB_ g t + j) = true → ((if b = true then (1 : Int32) else 0) = 0 → (i_ w = (-1 : Int32) → vv_ γ m_X12_waiting 1 11 [(0, .ref 185), (1, .long (lN (kr_ g K S))), (3, .int (i_ (t : Int))), (4, .int (i_ z)), (5, .int (if b = true then 1 else 0)), (6, .int (i_ ((gB_ g t + j : Nat) : Int))), (7, .int (i_ ((gB_ g t + j : Nat) : Int) + 1))] [] σ Q) ∧
              (¬ i_ w = (-1 : Int32) → vv_ γ m_X12_waiting 1 11 [(0, .ref 185), (1, .long (lN (kr_ g K S))), (3, .int (i_ (t : Int))), (4, .int (i_ z)), (5, .int (if b = true then 1 else 0)), (6, .int (i_ w)), (7, .int (i_ ((gB_ g t + j : Nat) : Int) + 1))] [] σ Q)) ∧
              (¬ (if b = true then (1 : Int32) else 0) = 0 → vv_ γ m_X12_waiting 1 11 [(0, .ref 185), (1, .long (lN (kr_ g K S))), (3, .int (i_ (t : Int))), (4, .int (i_ z)), (5, .int (if b = true then 1 else 0)), (6, .int (i_ ((gB_ g t + j : Nat) : Int))), (7, .int (i_ ((gB_ g t + j : Nat) : Int) + 1))] [] σ Q) := fun yf => by
            obtain ⟨y1, y2, y3⟩ := ye yf
            refine ⟨fun hb => ⟨fun h0 => ?_, fun h0 => ?_⟩, fun hb => ?_⟩
            · rw [y2 (by cases b with | false => rfl | true => exact absurd hb (by decide)) (ew.mp h0)] at ihn
              exact ihn
            · rw [y3 (by cases b with | false => rfl | true => exact absurd hb (by decide)) (fun h => h0 (ew.mpr h))] at ihn
              exact ihn
            · rw [y1 (by cases b with | true => rfl | false => exact absurd rfl hb)] at ihn
              exact ihn
          rw [h2]
          refine ⟨fun y2 => fin (by unfold wz_; rw [hw, decide_eq_true (em.mp y2)]; rfl), fun y2 => ⟨i_in (by omega) (by omega) (by omega), fun y3 => fin ?_, fun y3 => ?_⟩⟩
          · rw [i_eq (by omega) (by omega)] at y3
            unfold wz_
            rw [hw, decide_eq_true y3, Bool.or_true]
            rfl
          · rw [i_eq (by omega) (by omega)] at y3
            have no := no (by
              unfold wz_
              rw [hw, decide_eq_false (fun h => y2 (em.mpr h)), decide_eq_false y3]
              rfl)
            rw [no] at ihn
            exact ihn
      · rw [k0_, i_eq (by omega) (by omega)] at y
        have no := no (by
          unfold wz_
          cases hw : sW_ S (gB_ g t + j) with
          | false => rfl
          | true => exact absurd (v.2.2.2.2 _ hw).2.1 y)
        rw [no] at ihn
        exact ihn
  have k0 := key (sP_ S t) 0 (by omega)
  have e0 : wu_ (fb_ b (wz_ g S z) 0 (gB_ g t)) = -1 := by
    unfold fb_
    cases b <;> rfl
  rw [e0, Nat.add_zero] at k0
  exact k0
end RM
