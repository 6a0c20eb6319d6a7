/-! the reference: races counted; the greatest buffer -/
section RJ
variable {γ : ga_T} {σ σ1 s : st_T} {A A' : ca_T} {c m n K t G : Nat} {z y : Int} {e : String → Nat} {p : pr_T} {g : gm_T} {S S0 : gs_T} {N : List (gs_T × Int64)}
theorem c_rrace (zP : Wp_ p) (hb : Bz_ p) {s : st_T} (h : Rf_ s p 0 (-1) 0 c) {i j : Nat} (hi : i < pN_ p) (hj : j < pN_ p) : fn_ γ m_X12_race 3 [.ref 185, .int (i_ (i : Int)), .int (i_ (j : Int))] s (.int (if ir_ p (i : Int) (j : Int) = true then 1 else 0)) s := fn_q (fun Q zQ => e_X12_race h.1.1 (by
  obtain ⟨⟨zw, k, zM, -, -⟩, zN, zL⟩ := h
  have b := zN.1
  have hN := b.1
  rw [← cfl_ir zN.1 zP hi hj] at zQ
  unfold p_X12_race_0
  refine ⟨_, s, zw, c_rconflict zw zN hi hj, ?_⟩
  cases eC : cfl_ p i j with
  | false =>
    rw [eC] at zQ
    exact ⟨fun _ => zQ, fun y => absurd rfl y⟩
  | true =>
    rw [eC] at zQ
    have ne : pC_ p i 0 ≠ pC_ p j 0 := by
      unfold cfl_ at eC
      rw [decide_eq_true_eq] at eC
      exact eC.1
    have ti := (zP.2.1 i hi).1
    have tj := (zP.2.1 j hj).1
    have Ti := (zP.2.1 i hi).2.1
    have Tj := (zP.2.1 j hj).2.1
    have T4 := b.2.1
    obtain ⟨t, et⟩ : ∃ t : Nat, pC_ p i 0 = t := ⟨(pC_ p i 0).toNat, by omega⟩
    obtain ⟨u, eu⟩ : ∃ u : Nat, pC_ p j 0 = u := ⟨(pC_ p j 0).toNat, by omega⟩
    have a1 := ((gB_th zP hi).mp et).1
    have a2 := ((gB_th zP hj).mp eu).1
    have hg := zM.1
    have o1 := c_rof (γ := γ) (i := i) (k := 0) zw zN hi (by decide)
    have o2 := c_rof (γ := γ) (i := j) (k := 0) zw zN hj (by decide)
    rw [et] at o1
    rw [eu] at o2
    have e1 : st_I s 203 t = i_ (gB0_ p t : Int) := by
      rw [zM.2.2.1 t (by omega), gly_0B]
      rfl
    have e2 : st_I s 203 u = i_ (gB0_ p u : Int) := by
      rw [zM.2.2.1 u (by omega), gly_0B]
      rfl
    refine ⟨fun y => absurd y (by decide), fun _ => ⟨_, s, zw, o1, _, s, zw, o2, _, s, zw, c_rlaidAt zw zL hi hN, i_in (by omega) (by omega) (by omega), _, s, zw, c_rlaidAt zw zL hj hN, i_in (by omega) (by omega) (by omega), ?_⟩⟩
    rw [i_cl (by omega), i_cl (by omega), Int.toNat_natCast, Int.toNat_natCast, e1, e2, i_sub, i_sub, show (i : Int) - (gB0_ p t : Int) = ((i - gB0_ p t : Nat) : Int) by omega, show (j : Int) - (gB0_ p u : Int) = ((j - gB0_ p u : Nat) : Int) by omega]
    obtain ⟨q0, q1, q2, q3⟩ := t6_ zP hb hi hj et eu (fun e => ne (by rw [et, eu, e]))
    have bl := k.2.1
    have el : (wq_ (gly_ p 0 (-1) 0) (Kl_ p 0 (-1)) (Ms_ p 0)).length = (Ms_ p 0).length := List.length_map _
    have k : Rk_ s (wq_ (gly_ p 0 (-1) 0) (Kl_ p 0 (-1)) (Ms_ p 0)) (c + 1) := k
    have h39 := k.2.2.1.1
    have bl := k.2.1
    rw [el] at h39 bl
    obtain ⟨i0, hi0⟩ := List.getElem?_of_mem q1
    have li0 := (List.getElem?_eq_some_iff.mp hi0).1
    have key : ∀ (d v : Nat), d + v = (Ms_ p 0).length → v ≤ i0 → vv_ γ m_X12_race 3 58 [(0, .ref 185), (3, .int (i_ (t : Int))), (4, .int (i_ (u : Int))), (5, .int (i_ ((i - gB0_ p t : Nat) : Int))), (6, .int (i_ ((j - gB0_ p u : Nat) : Int))), (7, .int (i_ (v : Int)))] [] s Q := by
      intro d
      induction d with
      | zero => intro v hv1 hv2; omega
      | succ d ih =>
        intro v hv1 hv2
        obtain ⟨x, hx⟩ : ∃ x, (Ms_ p 0)[v]? = some x := ⟨_, List.getElem?_eq_getElem (by omega)⟩
        have vx := ms_v zP (m := 0) (by decide) x (List.mem_of_getElem? hx)
        obtain ⟨w4, -⟩ := wq_at k hx
        have b1 := (vx.1 t).1
        have b2 := (vx.1 u).1
        refine g_X12_race_58 zw ?_
        unfold p_X12_race_58
        rw [h39, i_le (by omega) (by omega)]
        refine ⟨fun y => by omega, fun _ => ⟨i_in (by omega) (by omega) (by omega), ?_⟩⟩
        rw [i_cl (by omega), Int.toNat_natCast, w4]
        refine ⟨_, s, zw, c_rnext zw hg vx (by omega), ?_⟩
        have nx : v = i0 → sP_ x.1 t = i - gB0_ p t ∧ sP_ x.1 u = j - gB0_ p u := fun e => by
          rw [e, hi0] at hx
          cases hx
          exact ⟨q2, q3⟩
        rw [i_eq (by omega) (by omega), k1_, i_add, w4]
        refine ⟨fun y => ⟨i_in (by omega) (by omega) (by omega), _, s, zw, c_rnext zw hg vx (by omega), ?_⟩, fun y => ?_⟩
        · rw [i_eq (by omega) (by omega)]
          refine ⟨fun _ => zQ, fun y2 => ?_⟩
          have ne2 : v ≠ i0 := fun e => by
            have := nx e
            omega
          exact ih (v + 1) (by omega) (by omega)
        · have ne2 : v ≠ i0 := fun e => by
            have := nx e
            omega
          exact ih (v + 1) (by omega) (by omega)
    exact key (Ms_ p 0).length 0 (Nat.add_zero _) (Nat.zero_le _)))
theorem r_isRace (h : Jr_ σ A c) (hc : c < 1073741822) (zP : Wp_ (aP_ A).1) (hb : Bz_ (aP_ A).1) (q1 : -2147483648 ≤ z ∧ z < 2147483648) (q2 : -2147483648 ≤ y ∧ y < 2147483648) : Ra_ γ m_X12_isRace 7 [.ref 185, .int (i_ z), .int (i_ y)] σ A c eO_ (im_ A z (fun i => im_ A y (fun j => rb_ (ir_ (aP_ A).1 i j)))) := by
  have zN := h.2.2.2.1.1
  have w0 : ∀ v, Wd (pt_I σ 185 0 v) := fun _ => h.1
  have hi := c_risInstr (γ := γ) h.1 zN q1
  have hj := c_risInstr (γ := γ) h.1 zN q2
  refine ra_of (e_X12_isRace h.1 ?_)
  unfold p_X12_isRace_0
  refine ⟨_, σ, h.1, hi, ?_⟩
  by_cases u : 0 ≤ z ∧ z < pN_ (aP_ A).1
  · obtain ⟨i, rfl⟩ : ∃ i : Nat, z = i := ⟨z.toNat, by omega⟩
    have im : ∀ f, im_ A (i : Int) f = f i := fun f => by
      unfold im_
      rw [if_pos u, Int.toNat_natCast]
    rw [decide_eq_true u, im]
    refine ⟨fun v => absurd v (by decide), fun _ => ⟨_, σ, h.1, hj, ?_⟩⟩
    by_cases u2 : 0 ≤ y ∧ y < pN_ (aP_ A).1
    · obtain ⟨j, rfl⟩ : ∃ j : Nat, y = j := ⟨y.toNat, by omega⟩
      have im : ∀ f, im_ A (j : Int) f = f j := fun f => by
        unfold im_
        rw [if_pos u2, Int.toNat_natCast]
      rw [decide_eq_true u2, im]
      refine ⟨fun v => absurd v (by decide), fun _ => ⟨_, _, w0 _, c_rf000 h.1, fun _ => ?_, fun v => absurd rfl v⟩⟩
      obtain ⟨s, f1, k⟩ := c_rw0 (γ := γ) (m := 0) h hc zP (by decide) hb
      have f2 := c_rrace (γ := γ) zP hb k.1 (i := i) (j := j) (by omega) (by omega)
      refine ⟨s, k.2.2.1.1, f1, _, s, k.2.2.1.1, f2, ?_, rw_ans0 k ?_⟩
      · split
        · exact Or.inr rfl
        · exact Or.inl rfl
      · unfold rb_ ri_
        split <;> rfl
    · rw [decide_eq_false u2]
      exact ⟨fun _ => ⟨_, _, w0 _, c_rf100 h.1, fun v => absurd v (by decide), fun _ => re_fail h (if_neg u2) tcd_2 _⟩, fun v => absurd rfl v⟩
  · rw [decide_eq_false u]
    exact ⟨fun _ => ⟨_, _, w0 _, c_rf100 h.1, fun v => absurd v (by decide), fun _ => re_fail h (if_neg u) tcd_2 _⟩, fun v => absurd rfl v⟩
theorem r_raceCount (h : Jr_ σ A c) (hc : c < 1073741822) (zP : Wp_ (aP_ A).1) (hb : Bz_ (aP_ A).1) : Ra_ γ m_X12_raceCount 7 [.ref 185] σ A c e (ri_ (rcs_ (aP_ A).1 (pN_ (aP_ A).1))) := by
  refine ra_of (e_X12_raceCount h.1 ?_)
  unfold p_X12_raceCount_0
  obtain ⟨s, f1, k⟩ := c_rw0 (γ := γ) (m := 0) h hc zP (by decide) hb
  have w := k.2.2.1.1
  refine ⟨s, w, f1, ?_⟩
  have fin := fun (v : Nat) (hv : v = rcs_ (aP_ A).1 (pN_ (aP_ A).1)) => rw_ans0 (e := e) (r' := ri_ (rcs_ (aP_ A).1 (pN_ (aP_ A).1))) (v := .int (i_ (v : Int))) k (by rw [hv]; rfl)
  obtain ⟨⟨-, -, zM, -, -⟩, zN, zL⟩ := id k.1
  have bN := zN.1.1
  have rl : ∀ i, rcs_ (aP_ A).1 i ≤ i * pN_ (aP_ A).1 := by
    intro i
    induction i with
    | zero => exact Nat.zero_le _
    | succ i ih =>
      have y := ct_le (fun v => decide (i < v) && ir_ (aP_ A).1 i v) (pN_ (aP_ A).1)
      show rcs_ (aP_ A).1 i + rj_ (aP_ A).1 i (pN_ (aP_ A).1) ≤ _
      rw [Nat.succ_mul]
      exact Nat.add_le_add ih y
  have outer : ∀ (d i : Nat), d + i = pN_ (aP_ A).1 → vv_ γ m_X12_raceCount 7 14 [(0, .ref 185), (1, .int (i_ (rcs_ (aP_ A).1 i : Int))), (2, .int (i_ (i : Int)))] [] s (Re2_ σ A c e (ri_ (rcs_ (aP_ A).1 (pN_ (aP_ A).1)))) := by
    intro d
    induction d with
    | zero =>
      intro i hi
      refine g_X12_raceCount_14 w ?_
      unfold p_X12_raceCount_14
      rw [zN.2.1, show i = pN_ (aP_ A).1 by omega]
      exact ⟨fun _ => fin _ rfl, fun y => absurd (Int32.le_refl _) y⟩
    | succ d ih =>
      intro i hi
      have b1 := rl i
      have b2 : i * pN_ (aP_ A).1 ≤ 10 * 10 := Nat.mul_le_mul (by omega) bN
      refine g_X12_raceCount_14 w ?_
      unfold p_X12_raceCount_14
      rw [zN.2.1, i_le (by omega) (by omega)]
      refine ⟨fun y => by omega, fun _ => ?_⟩
      rw [k1_, i_add]
      have inner : ∀ (b j : Nat), b + j = pN_ (aP_ A).1 → i < j → vv_ γ m_X12_raceCount 7 28 [(0, .ref 185), (1, .int (i_ ((rcs_ (aP_ A).1 i + rj_ (aP_ A).1 i j : Nat) : Int))), (2, .int (i_ (i : Int))), (3, .int (i_ (j : Int)))] [] s (Re2_ σ A c e (ri_ (rcs_ (aP_ A).1 (pN_ (aP_ A).1)))) := by
        intro b
        induction b with
        | zero =>
          intro j hj hij
          have hj : j = pN_ (aP_ A).1 := by omega
          subst hj
          refine g_X12_raceCount_28 w ?_
          unfold p_X12_raceCount_28
          rw [zN.2.1, k1_, i_add]
          exact ⟨fun _ => ih (i + 1) (by omega), fun y => absurd (Int32.le_refl _) y⟩
        | succ b ihb =>
          intro j hj hij
          have y := ihb (j + 1) (by omega) (by omega)
          have es : rj_ (aP_ A).1 i (j + 1) = rj_ (aP_ A).1 i j + (if (decide (i < j) && ir_ (aP_ A).1 i j) = true then 1 else 0) := rfl
          rw [es, decide_eq_true hij, Bool.true_and] at y
          have yj : rj_ (aP_ A).1 i j ≤ j := ct_le _ _
          refine g_X12_raceCount_28 w ?_
          unfold p_X12_raceCount_28
          rw [zN.2.1, i_le (by omega) (by omega)]
          refine ⟨fun y => by omega, fun _ => ⟨_, s, w, c_rrace zP hb k.1 (by omega) (by omega), ?_⟩⟩
          rw [k1_, k0_, i_add, i_add, i_add]
          cases eI : ir_ (aP_ A).1 i j with
          | true =>
            rw [eI] at y
            exact ⟨fun v => absurd v (by decide), fun _ => y⟩
          | false =>
            rw [eI] at y
            exact ⟨fun _ => y, fun v => absurd rfl v⟩
      by_cases hx : i + 1 ≤ pN_ (aP_ A).1
      · have y := inner (pN_ (aP_ A).1 - (i + 1)) (i + 1) (by omega) (by omega)
        rw [rj_0 _ _ _ (Nat.le_refl _)] at y
        exact y
      · omega
  exact outer (pN_ (aP_ A).1) 0 rfl
/-- stores of a thread that wait -/
def wmn_ (g : gm_T) (S : gs_T) (t : Nat) : Nat := ct_ (fun j => decide (gC_ g (gB_ g t + j) 1 = 0) && sW_ S (gB_ g t + j)) (sP_ S t)
theorem c_rwmany (zw : Wd s) (zM : Mr_ s g K) (v : Vr_ g K S) (q1 : t < 4) : fn_ γ m_X12_waitingMany 1 [.ref 185, .long (lN (kr_ g K S)), .int (i_ (t : Int))] s (.int (i_ (wmn_ g S t : Int))) s := fn_q (fun Q zQ => e_X12_waitingMany zw (by
  obtain ⟨hg, hm, hB, hI⟩ := id zM
  obtain ⟨k1, k2, k3⟩ := gk_ hg q1
  have hK := hg.1
  have hP := v.2.2.2.1 t q1
  have e3 := hB t (by omega)
  unfold p_X12_waitingMany_0
  rw [i_cl (by omega), Int.toNat_natCast, e3]
  refine ⟨i_in (by omega) (by omega) (by omega), ?_⟩
  have key : ∀ (d j : Nat), d + j = sP_ S t → vv_ γ m_X12_waitingMany 1 11 [(0, .ref 185), (1, .long (lN (kr_ g K S))), (3, .int (i_ (t : Int))), (4, .int (i_ (ct_ (fun j => decide (gC_ g (gB_ g t + j) 1 = 0) && sW_ S (gB_ g t + j)) j : Int))), (5, .int (i_ ((gB_ g t + j : Nat) : Int)))] [] s Q := by
    intro d
    induction d with
    | zero =>
      intro j hj
      have hj : j = sP_ S t := by omega
      subst hj
      refine g_X12_waitingMany_11 zw ?_
      unfold p_X12_waitingMany_11
      rw [i_cl (by omega), Int.toNat_natCast, e3]
      refine ⟨i_in (by omega) (by omega) (by omega), _, s, zw, c_rnext zw hg v q1, ?_⟩
      rw [i_add, i_le (by omega) (by omega)]
      exact ⟨fun _ => zQ, fun y => by omega⟩
    | succ d ih =>
      intro j hj
      have y := ih (j + 1) (by omega)
      rw [ct_s, ← Nat.add_assoc] at y
      have cl := ct_le (fun j => decide (gC_ g (gB_ g t + j) 1 = 0) && sW_ S (gB_ g t + j)) j
      have it := hI (gB_ g t + j) (by omega)
      have kr := (hg.2.2.2.2.2.2.2.1 (gB_ g t + j) (by omega)).1
      refine g_X12_waitingMany_11 zw ?_
      unfold p_X12_waitingMany_11
      rw [i_cl (by omega), Int.toNat_natCast, e3]
      refine ⟨i_in (by omega) (by omega) (by omega), _, s, zw, c_rnext zw hg v q1, ?_⟩
      rw [i_add, i_le (by omega) (by omega), i_cl (by omega), Int.toNat_natCast, it.1]
      refine ⟨fun y => by omega, fun _ => ⟨i_in (by omega) (by omega) (by omega), ?_⟩⟩
      rw [k0_, i_eq (by omega) (by omega), k1_, i_add, i_add, i_add]
      refine ⟨fun e0 => ⟨i_in (by omega) (by omega) (by omega), ?_⟩, fun e0 => ?_⟩
      · rw [it.2.2.2.2.2 e0]
        refine ⟨_, s, zw, c_rwait zw hg (by omega) e0, ?_⟩
        rw [decide_eq_true e0, Bool.true_and] at y
        cases eW : sW_ S (gB_ g t + j) with
        | true =>
          rw [eW] at y
          exact ⟨fun v => absurd v (by decide), fun _ => y⟩
        | false =>
          rw [eW] at y
          exact ⟨fun _ => y, fun v => absurd rfl v⟩
      · rw [decide_eq_false e0] at y
        exact y
  exact key (sP_ S t) 0 (by omega)))
theorem drop_c {α : Type} {L : List α} {j : Nat} {x : α} (h : L[j]? = some x) : L.drop j = x :: L.drop (j + 1) := by
  obtain ⟨h1, h2⟩ := List.getElem?_eq_some_iff.mp h
  rw [List.drop_eq_getElem_cons h1, h2]
def gbl_ (g : gm_T) (t : Nat) (N : List (gs_T × Int64)) : Nat := N.foldl (fun a x => if a < wmn_ g x.1 t then wmn_ g x.1 t else a) 0
theorem r_greatestBuffer (h : Jr_ σ A c) (hc : c < 1073741822) (zP : Wp_ (aP_ A).1) (hb : Bz_ (aP_ A).1) (q1 : -2147483648 ≤ z ∧ z < 2147483648) (q2 : -2147483648 ≤ y ∧ y < 2147483648) : Ra_ γ m_X12_greatestBuffer 7 [.ref 185, .int (i_ z), .int (i_ y)] σ A c eL_ (mq_ z (fun m => if 0 ≤ y ∧ y < pT_ (aP_ A).1 then ri_ (gbl_ (gly_ (aP_ A).1 0 (-1) m) y.toNat (Ms_ (aP_ A).1 m)) else ioo_)) := by
  have zN := h.2.2.2.1.1
  have b1 := zN.1.2.1
  have w0 : ∀ v, Wd (pt_I σ 185 0 v) := fun _ => h.1
  have ci := c_risNo (γ := γ) h.1 q1
  have hi := c_risIn (γ := γ) h.1 q2 (a := 0) (b := (pT_ (aP_ A).1 : Int) - 1) (by omega) (by omega)
  have ff : ∀ b d : Bool, fn_ γ m_X12_fails 0 [.ref 185, .int (if decide (¬ (0 ≤ z ∧ z < 3)) = true then 1 else 0), .int (if b = true then 1 else 0), .int (if d = true then 1 else 0)] σ (.int (if (decide (¬ (0 ≤ z ∧ z < 3)) || b || d) = true then 1 else 0)) (pt_I σ 185 0 (i_ (if decide (¬ (0 ≤ z ∧ z < 3)) = true then 1 else if b = true then 2 else if d = true then 3 else 0))) := fun b d => c_rfails h.1
  refine ra_of (e_X12_greatestBuffer h.1 ?_)
  unfold p_X12_greatestBuffer_0
  have e1 : st_I σ 187 1 - (1 : Int32) = i_ ((pT_ (aP_ A).1 : Int) - 1) := by rw [zN.2.2.1, k1_, i_sub]
  rw [← e1] at hi
  refine ⟨_, σ, h.1, ci, _, σ, h.1, hi, ?_⟩
  by_cases u : 0 ≤ y ∧ y < pT_ (aP_ A).1
  · obtain ⟨t, rfl⟩ : ∃ t : Nat, y = t := ⟨y.toNat, by omega⟩
    rw [decide_eq_true (show 0 ≤ (t : Int) ∧ (t : Int) ≤ (pT_ (aP_ A).1 : Int) - 1 by omega)]
    refine ⟨fun v => absurd v (by decide), fun _ => ⟨_, _, w0 _, ff false false, ?_⟩⟩
    by_cases hz : 0 ≤ z ∧ z < 3
    · obtain ⟨m, rfl⟩ : ∃ m : Nat, z = m := ⟨z.toNat, by omega⟩
      have hm : m < 3 := by omega
      rw [decide_eq_false (fun v => v hz), mq_yes hm, if_pos u, Int.toNat_natCast]
      refine ⟨fun _ => ?_, fun v => absurd rfl v⟩
      obtain ⟨s, f1, k⟩ := c_rw0 (γ := γ) h hc zP hm hb
      obtain ⟨⟨⟨w, k3, zM, -, -⟩, -, -⟩, -, -, -, -⟩ := id k
      refine ⟨s, w, f1, ?_⟩
      have k3 : Rk_ s (wq_ (gly_ (aP_ A).1 0 (-1) m) (Kl_ (aP_ A).1 0 (-1)) (Ms_ (aP_ A).1 m)) (c + 1) := k3
      have el : (wq_ (gly_ (aP_ A).1 0 (-1) m) (Kl_ (aP_ A).1 0 (-1)) (Ms_ (aP_ A).1 m)).length = (Ms_ (aP_ A).1 m).length := List.length_map _
      have h39 := k3.2.2.1.1
      have bl := k3.2.1
      rw [el] at h39 bl
      obtain ⟨N, hN⟩ : ∃ N, N = Ms_ (aP_ A).1 m := ⟨_, rfl⟩
      have hv := ms_v zP hm
      obtain ⟨K, hK⟩ : ∃ K, K = Kl_ (aP_ A).1 0 (-1) := ⟨_, rfl⟩
      obtain ⟨g, hg⟩ : ∃ g, g = gly_ (aP_ A).1 0 (-1) m := ⟨_, rfl⟩
      rw [← hN] at h39 bl k3 hv
      rw [← hK, ← hg] at k3 hv zM
      rw [← hN, ← hg]
      have fin : Re2_ σ A c eL_ (ri_ (gbl_ g t N)) (.inl (some (.int (i_ (gbl_ g t N : Int))))) s := rw_ans0 k rfl
      have key : ∀ (d j a : Nat), d + j = N.length → a < 16 → (N.drop j).foldl (fun a x => if a < wmn_ g x.1 t then wmn_ g x.1 t else a) a = gbl_ g t N → vv_ γ m_X12_greatestBuffer 7 46 [(0, .ref 185), (2, .int (i_ (t : Int))), (3, .int (i_ (a : Int))), (4, .int (i_ (j : Int)))] [] s (Re2_ σ A c eL_ (ri_ (gbl_ g t N))) := by
        intro d
        induction d with
        | zero =>
          intro j a hj ha h
          have hj : j = N.length := by omega
          subst hj
          rw [List.drop_length] at h
          have h : a = gbl_ g t N := h
          refine g_X12_greatestBuffer_46 w ?_
          unfold p_X12_greatestBuffer_46
          rw [h39, h]
          exact ⟨fun _ => fin, fun y => absurd (Int32.le_refl _) y⟩
        | succ d ih =>
          intro j a hj ha h
          obtain ⟨x, hx⟩ : ∃ x, N[j]? = some x := ⟨_, List.getElem?_eq_getElem (by omega)⟩
          have hx2 : N.drop j = x :: N.drop (j + 1) := drop_c hx
          rw [hx2, List.foldl_cons] at h
          have v := hv x (List.mem_of_getElem? hx)
          obtain ⟨w4, -⟩ := wq_at k3 hx
          have cl : wmn_ g x.1 t ≤ sP_ x.1 t := ct_le _ _
          have bp := (v.1 t).1
          refine g_X12_greatestBuffer_46 w ?_
          unfold p_X12_greatestBuffer_46
          rw [h39, i_le (by omega) (by omega)]
          refine ⟨fun y => by omega, fun _ => ⟨i_in (by omega) (by omega) (by omega), ?_⟩⟩
          rw [i_cl (by omega), Int.toNat_natCast, w4]
          refine ⟨_, s, w, c_rwmany w zM v (by omega), ?_⟩
          rw [k1_, i_add]
          by_cases hh : a < wmn_ g x.1 t
          · rw [if_pos hh] at h
            rw [if_pos (by rw [i_lt (by omega) (by omega)]; omega)]
            exact ih (j + 1) _ (by omega) (by omega) h
          · rw [if_neg hh] at h
            rw [if_neg (by rw [i_lt (by omega) (by omega)]; omega)]
            exact ih (j + 1) _ (by omega) ha h
      exact key N.length 0 0 rfl (by decide) rfl
    · rw [decide_eq_true hz, mq_no hz]
      exact ⟨fun v => absurd v (by decide), fun _ => re_fail h rfl tcd_1 _⟩
  · rw [decide_eq_false (show ¬ (0 ≤ y ∧ y ≤ (pT_ (aP_ A).1 : Int) - 1) by omega)]
    refine ⟨fun _ => ⟨_, _, w0 _, ff true false, ?_⟩, fun v => absurd rfl v⟩
    by_cases hz : 0 ≤ z ∧ z < 3
    · obtain ⟨m, rfl⟩ : ∃ m : Nat, z = m := ⟨z.toNat, by omega⟩
      have hm : m < 3 := by omega
      rw [decide_eq_false (fun v => v hz), mq_yes hm, if_neg u]
      exact ⟨fun v => absurd v (by decide), fun _ => re_fail h rfl tcd_2 _⟩
    · rw [decide_eq_true hz, mq_no hz]
      exact ⟨fun v => absurd v (by decide), fun _ => re_fail h rfl tcd_1 _⟩
end RJ
