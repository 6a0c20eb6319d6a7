/-! the reference: values that are read; the greatest buffer -/
section RH
variable {γ : ga_T} {σ σ1 s : st_T} {A A' : ca_T} {c m n K t : Nat} {z y : Int} {e : String → Nat} {p : pr_T} {L M : List (Nat × Int64)} {g : gm_T} {S : gs_T} {N : List (gs_T × Int64)}
/-- values that a register takes where an item is executed -/
def rvf_ (g : gm_T) (t pos q : Nat) (a : Nat) (S : gs_T) : Nat := if sP_ S t = pos then (match gx_ g S t with | some S2 => a ||| 2 ^ sR_ S2 q | none => a) else a
def rvl_ (g : gm_T) (t pos q : Nat) (N : List (gs_T × Int64)) : Nat := N.foldl (fun a x => rvf_ g t pos q a x.1) 0
theorem rvf_16 {q pos a : Nat} (hg : Gw_ g K) (v : Vr_ g K S) (q1 : t < 4) (ha : a < 16) : rvf_ g t pos q a S < 16 := by
  unfold rvf_
  split
  · cases e : gx_ g S t with
    | none => exact ha
    | some S2 =>
      have v2 := vr_step (w := 0) hg v q1 (by decide) (show gt_ g S t 0 = some S2 from e)
      have b := (v2.2.1 q).1
      exact Nat.or_lt_two_pow (n := 4) ha (Nat.pow_lt_pow_right (by decide) b)
  · exact ha
theorem rvl_16 {q pos : Nat} (hg : Gw_ g K) (q1 : t < 4) : ∀ (N : List (gs_T × Int64)) (a : Nat), al_ (Vr_ g K) N → a < 16 → N.foldl (fun a x => rvf_ g t pos q a x.1) a < 16
  | [], _, _, h => h
  | x :: r, a, hv, h => rvl_16 hg q1 r _ (fun y hy => hv y (List.mem_cons_of_mem _ hy)) (rvf_16 hg (hv x List.mem_cons_self) q1 h)
theorem wq_at {i : Nat} {x : gs_T × Int64} (k : Rk_ s (wq_ g K N) c) (hx : N[i]? = some x) : st_L s 204 i = lN (kr_ g K x.1) ∧ i < 65535 := by
  have h : (wq_ g K N)[i]? = some (kr_ g K x.1, x.2) := by
    unfold wq_
    rw [List.getElem?_map, hx]
    rfl
  have l := (List.getElem?_eq_some_iff.mp h).1
  have b := k.2.1
  exact ⟨(k.2.2.1.2.2 i _ h).1, by omega⟩
theorem l_rreads (zw : Wd s) (zM : Mr_ s g K) (hv : al_ (Vr_ g K) N) (k : Rk_ s (wq_ g K N) c) (zN : Nr_ s p) {i t pos : Nat} (hi : i < pN_ p) (q1 : t < 4) (hp : pos < 16) (hr : 0 ≤ pC_ p i 3 ∧ pC_ p i 3 ≤ 1) {Q : rs_T → st_T → Prop}
    (zQ : ∀ s2, ro_ dS_ s s2 → Q (.inl (some (.int (i_ (rvl_ g t pos (2 * t + (pC_ p i 3).toNat) N : Int))))) s2) :
    vv_ γ m_X12_readValues 7 80 [(0, .ref 185), (2, .int (i_ (i : Int))), (3, .int (i_ (t : Int))), (4, .int (i_ (pos : Int))), (5, .int (0 : Int32)), (6, .int (0 : Int32))] [] s Q := by
  have hg := zM.1
  have bl := k.2.1
  have el : (wq_ g K N).length = N.length := List.length_map _
  rw [el] at bl
  have h39 := k.2.2.1.1
  rw [el] at h39
  obtain ⟨r, er⟩ : ∃ r : Nat, pC_ p i 3 = r := ⟨(pC_ p i 3).toNat, by omega⟩
  have bN := zN.1.1
  rw [er, Int.toNat_natCast] at zQ
  rw [er] at hr
  have key : ∀ (d j a : Nat) (s1 : st_T), d + j = N.length → a < 16 → ro_ dS_ s s1 → (N.drop j).foldl (fun a x => rvf_ g t pos (2 * t + r) a x.1) a = rvl_ g t pos (2 * t + r) N → vv_ γ m_X12_readValues 7 80 [(0, .ref 185), (2, .int (i_ (i : Int))), (3, .int (i_ (t : Int))), (4, .int (i_ (pos : Int))), (5, .int (i_ (a : Int))), (6, .int (i_ (j : Int)))] [] s1 Q := by
    intro d
    induction d with
    | zero =>
      intro j a s1 hj ha r1 h
      have hj : j = N.length := by omega
      subst hj
      rw [List.drop_length] at h
      have h : a = rvl_ g t pos (2 * t + r) N := h
      refine g_X12_readValues_80 (ro_wd r1 zw) ?_
      unfold p_X12_readValues_80
      rw [(r1.2 185 39 (fun y => by unfold dS_ at y; omega)).1, h39, h]
      exact ⟨fun _ => zQ s1 r1, fun y => absurd (Int32.le_refl _) y⟩
    | succ d ih =>
      intro j a s1 hj ha r1 h
      obtain ⟨x, hx⟩ : ∃ x, N[j]? = some x := ⟨_, List.getElem?_eq_getElem (by omega)⟩
      have hx2 : N.drop j = x :: N.drop (j + 1) := by
        rw [List.drop_eq_getElem_cons (by omega)]
        congr 1
        exact (List.getElem?_eq_some_iff.mp hx).2
      rw [hx2, List.foldl_cons] at h
      have v := hv x (List.mem_of_getElem? hx)
      obtain ⟨w4, -⟩ := wq_at k hx
      have d4 : ∀ s' : st_T, ro_ dS_ s s' → st_L s' 204 j = lN (kr_ g K x.1) := fun s' r' => (r'.2 204 j (fun y => by unfold dS_ at y; omega)).2.trans w4
      have w1 := ro_wd r1 zw
      have bp := (v.1 t).1
      refine g_X12_readValues_80 w1 ?_
      unfold p_X12_readValues_80
      rw [(r1.2 185 39 (fun y => by unfold dS_ at y; omega)).1, h39, i_le (by omega) (by omega)]
      refine ⟨fun y => by omega, fun _ => ⟨i_in (by omega) (by omega) (by omega), ?_⟩⟩
      rw [i_cl (by omega), Int.toNat_natCast, d4 s1 r1]
      refine ⟨_, s1, w1, c_rnext w1 hg v q1, ?_⟩
      rw [d4 s1 r1, i_eq (by omega) (by omega), k1_, i_add]
      unfold rvf_ at h
      refine ⟨fun y => ⟨i_in (by omega) (by omega) (by omega), ?_⟩, fun y => ?_⟩
      · have y : sP_ x.1 t = pos := by omega
        rw [if_pos y] at h
        rcases c_rexec (γ := γ) w1 (ro_mr r1 dS_mr zM) v q1 with ⟨e1, f⟩ | ⟨S2, s2, e1, f, r2, e2, -⟩
        · rw [e1] at h
          exact ⟨_, s1, w1, f, fun _ => ih (j + 1) a s1 (by omega) ha r1 h, fun y => absurd rfl y⟩
        · rw [e1] at h
          have w2 := ro_wd r2 w1
          have v2 := vr_step (w := 0) hg v q1 (by decide) (show gt_ g x.1 t 0 = some S2 from e1)
          have b2 := (v2.2.1 (2 * t + r)).1
          have r3 := ro_tr r1 r2
          have zN2 := nr_ro r3 (fun k y => by unfold dS_ at y; omega) zN
          have of3 := c_rof (γ := γ) (i := i) (k := 3) w2 zN2 hi (by decide)
          rw [er] at of3
          refine ⟨_, s2, w2, f, fun y => absurd y (by decide), fun _ => ⟨_, s2, w2, of3, ?_⟩⟩
          rw [e2]
          refine ⟨_, s2, w2, c_rreg w2 hg v2 q1 (show r < 2 by omega), ?_⟩
          rw [show i_ (1 : Int) = i_ ((1 : Nat) : Int) from rfl, show (31 : Int32) = i_ 31 from rfl, i_shl (by omega) (by rw [Nat.one_mul]; exact Nat.lt_trans (Nat.pow_lt_pow_right (by decide) b2) (by decide)), Nat.one_mul, i_or (by omega) (Nat.lt_trans (Nat.pow_lt_pow_right (by decide) b2) (by decide))]
          exact ih (j + 1) _ s2 (by omega) (Nat.or_lt_two_pow (n := 4) ha (Nat.pow_lt_pow_right (by decide) b2)) r3 h
      · have y : ¬ sP_ x.1 t = pos := by omega
        rw [if_neg y] at h
        exact ih (j + 1) a s1 (by omega) ha r1 h
  exact key N.length 0 0 s rfl (by decide) ro_rf rfl
theorem dS_dW : ∀ a k, dS_ a k → dW_ a k ∧ ¬ (a = 185 ∧ (k = 0 ∨ k = 40)) ∧ a ≠ 207 := fun a k h => by
  unfold dS_ at h
  unfold dW_
  omega
/-- what the reference finds -/
def Ms_ (p : pr_T) (m : Nat) : List (gs_T × Int64) := br_ (gly_ p 0 (-1) m) (Kl_ p 0 (-1)) (s0k_ p (pL_ p))
theorem ms_v (zP : Wp_ p) (hm : m < 3) : al_ (Vr_ (gly_ p 0 (-1) m) (Kl_ p 0 (-1))) (Ms_ p m) := by
  have al := vz_bn (G := 0) (z := -1) zP hm 65535
  unfold Ms_ br_
  exact fun q hq => (al q hq).1
theorem r_readValues (h : Jr_ σ A c) (hc : c < 1073741822) (zP : Wp_ (aP_ A).1) (hb : Bz_ (aP_ A).1) (q1 : -2147483648 ≤ z ∧ z < 2147483648) (q2 : -2147483648 ≤ y ∧ y < 2147483648) : Ra_ γ m_X12_readValues 7 [.ref 185, .int (i_ z), .int (i_ y)] σ A c eL_ (mq_ z (fun m => im_ A y (fun i => if pC_ (aP_ A).1 i 3 = -1 then nse_ else ri_ (rvl_ (gly_ (aP_ A).1 0 (-1) m) (pC_ (aP_ A).1 i 0).toNat (i - gB0_ (aP_ A).1 (pC_ (aP_ A).1 i 0).toNat) (2 * (pC_ (aP_ A).1 i 0).toNat + (pC_ (aP_ A).1 i 3).toNat) (Ms_ (aP_ A).1 m) : Int)))) := by
  have zN := h.2.2.2.1.1
  have bN := zN.1.1
  have w0 : ∀ v, Wd (pt_I σ 185 0 v) := fun _ => h.1
  have ci := c_risNo (γ := γ) h.1 q1
  have hi := c_risInstr (γ := γ) h.1 zN q2
  have ff : ∀ b d : Bool, fn_ γ m_X12_fails 0 [.ref 185, .int (if decide (¬ (0 ≤ z ∧ z < 3)) = true then 1 else 0), .int (if b = true then 1 else 0), .int (if d = true then 1 else 0)] σ (.int (if (decide (¬ (0 ≤ z ∧ z < 3)) || b || d) = true then 1 else 0)) (pt_I σ 185 0 (i_ (if decide (¬ (0 ≤ z ∧ z < 3)) = true then 1 else if b = true then 2 else if d = true then 3 else 0))) := fun b d => c_rfails h.1
  refine ra_of (e_X12_readValues h.1 ?_)
  unfold p_X12_readValues_0
  refine ⟨_, σ, h.1, ci, _, σ, h.1, hi, ?_⟩
  by_cases u : 0 ≤ y ∧ y < pN_ (aP_ A).1
  · obtain ⟨i, rfl⟩ : ∃ i : Nat, y = i := ⟨y.toNat, by omega⟩
    have hiN : i < pN_ (aP_ A).1 := by omega
    have eu : decide (0 ≤ (i : Int) ∧ (i : Int) < pN_ (aP_ A).1) = true := decide_eq_true u
    have im : ∀ f, im_ A (i : Int) f = f i := fun f => by
      unfold im_
      rw [if_pos u, Int.toNat_natCast]
    rw [eu] at hi ⊢
    have hr := c_rreads (γ := γ) h.1 zN hiN
    have rd := rd_iff zP hiN
    refine ⟨fun v => absurd v (by decide), fun _ => ⟨_, σ, h.1, hi, fun v => absurd v (by decide), fun _ => ⟨_, σ, h.1, hr, ?_⟩⟩⟩
    by_cases hz : 0 ≤ z ∧ z < 3
    · obtain ⟨m, rfl⟩ : ∃ m : Nat, z = m := ⟨z.toNat, by omega⟩
      have hm : m < 3 := by omega
      have ez : decide (¬ (0 ≤ (m : Int) ∧ (m : Int) < 3)) = false := decide_eq_false (fun v => v hz)
      rw [mq_yes hm, im]
      rw [ez] at ff ⊢
      by_cases rv : pC_ (aP_ A).1 i 1 = 1 ∨ pC_ (aP_ A).1 i 1 = 2
      · rw [decide_eq_true rv, if_neg (rd.mp rv)]
        refine ⟨fun v => absurd v (by decide), fun _ => ⟨_, _, w0 _, ff false false, fun _ => ?_, fun v => absurd rfl v⟩⟩
        obtain ⟨s1, a1, k⟩ := c_rw0 (γ := γ) h hc zP hm hb
        have k2 := k
        obtain ⟨⟨⟨w1, k3, k4, -, -⟩, k5, k6⟩, -, -, -, -⟩ := k2
        have Wi := zP.2.1 i hiN
        have t0 := Wi.1
        have t1 := Wi.2.1
        have b1 := zN.1.2.1
        obtain ⟨t, et⟩ : ∃ t : Nat, pC_ (aP_ A).1 i 0 = t := ⟨(pC_ (aP_ A).1 i 0).toNat, by omega⟩
        have o1 := c_rof (γ := γ) (i := i) (k := 0) w1 k5 hiN (by decide)
        rw [et] at o1
        have gb := ((gB_th zP hiN).mp et).1
        have e203 : st_I s1 203 t = i_ (gB0_ (aP_ A).1 t : Int) := by
          rw [k4.2.2.1 t (by omega), gly_0B]
          rfl
        refine ⟨s1, w1, a1, _, s1, w1, o1, _, s1, w1, c_rlaidAt w1 k6 hiN bN, i_in (by omega) (by omega) (by omega), ?_⟩
        rw [i_cl (by omega), Int.toNat_natCast, e203, i_sub, et, Int.toNat_natCast, show (i : Int) - (gB0_ (aP_ A).1 t : Int) = ((i - gB0_ (aP_ A).1 t : Nat) : Int) by omega]
        refine l_rreads w1 k4 (ms_v zP hm) k3 k5 hiN (by omega) (by omega) (Wi.2.2.2.2.2.1 rv) (fun s2 r2 => ?_)
        exact rw_ans k dS_dW r2 rfl
      · have e3 : pC_ (aP_ A).1 i 3 = -1 := by
          by_cases v : pC_ (aP_ A).1 i 3 = -1
          · exact v
          · exact absurd (rd.mpr v) rv
        rw [decide_eq_false rv, if_pos e3]
        exact ⟨fun _ => ⟨_, _, w0 _, ff false true, fun v => absurd v (by decide), fun _ => re_fail h rfl tcd_3 _⟩, fun v => absurd rfl v⟩
    · have ez : decide (¬ (0 ≤ z ∧ z < 3)) = true := decide_eq_true hz
      rw [mq_no hz]
      rw [ez] at ff ⊢
      exact ⟨fun _ => ⟨_, _, w0 _, ff false true, fun v => absurd v (by decide), fun _ => re_fail h rfl tcd_1 _⟩, fun _ => ⟨_, _, w0 _, ff false false, fun v => absurd v (by decide), fun _ => re_fail h rfl tcd_1 _⟩⟩
  · have eu : decide (0 ≤ y ∧ y < pN_ (aP_ A).1) = false := decide_eq_false u
    have im : ∀ f, im_ A y f = ioo_ := fun f => if_neg u
    rw [eu] at hi ⊢
    refine ⟨fun _ => ⟨_, σ, h.1, hi, fun _ => ⟨_, _, w0 _, ff true false, ?_⟩, fun v => absurd rfl v⟩, fun v => absurd rfl v⟩
    by_cases hz : 0 ≤ z ∧ z < 3
    · obtain ⟨m, rfl⟩ : ∃ m : Nat, z = m := ⟨z.toNat, by omega⟩
      have hm : m < 3 := by omega
      rw [decide_eq_false (fun v => v hz), mq_yes hm, im]
      exact ⟨fun v => absurd v (by decide), fun _ => re_fail h rfl tcd_2 _⟩
    · rw [decide_eq_true hz, mq_no hz]
      exact ⟨fun v => absurd v (by decide), fun _ => re_fail h rfl tcd_1 _⟩
end RH
