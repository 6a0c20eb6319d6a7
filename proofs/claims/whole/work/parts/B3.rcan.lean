/-! the reference's machine: canExecute, canCommit, canStep -/
section RO
variable {γ : ga_T} {σ : st_T} {g : gm_T} {K t n : Nat} {S : gs_T}
theorem l_rexec (zw : Wd σ) (zM : Mr_ σ g K) (v : Vr_ g K S) (q1 : t < 4) {Q : rs_T → st_T → Prop} (zQ0 : gx_ g S t = none → Q (.inl (some (.int (0 : Int32)))) σ)
    (zQ1 : ∀ s, gx_ g S t = some (gxb_ g S t (gB_ g t + sP_ S t)) → Sx_ σ g K S t s → Q (.inl (some (.int (1 : Int32)))) s) : sp_ γ m_X12_canExecute 2 [.ref 185, .long (lN (kr_ g K S)), .int (i_ (t : Int))] σ Q := by
  obtain ⟨hg, hm, hB, hI⟩ := id zM
  obtain ⟨k1, k2, k3⟩ := gk_ hg q1
  have hK := hg.1
  have hP := v.2.2.2.1 t q1
  refine e_X12_canExecute zw ?_
  unfold p_X12_canExecute_0
  rw [i_cl (by omega), Int.toNat_natCast, hB t (by omega)]
  refine ⟨i_in (by omega) (by omega) (by omega), _, _, zw, c_rnext zw hg v q1, ?_⟩
  rw [show i_ (t : Int) + (1 : Int32) = i_ ((t + 1 : Nat) : Int) by rw [k1_, i_add]; exact congrArg i_ (by omega), i_cl (a := ((t + 1 : Nat) : Int)) (by omega), Int.toNat_natCast, hB (t + 1) (by omega), i_add, show (gB_ g t : Int) + (sP_ S t : Int) = ((gB_ g t + sP_ S t : Nat) : Int) by omega]
  refine ⟨i_in (by omega) (by omega) (by omega), fun y => zQ0 ?_, fun y => ?_⟩
  · rw [i_eq (by omega) (by omega)] at y
    exact gx_n (Or.inl (by omega))
  · rw [i_eq (by omega) (by omega)] at y
    have hl : sP_ S t < gl_ g t := by omega
    have hn : gB_ g t + sP_ S t < K := by omega
    obtain ⟨h1, -⟩ := hI _ hn
    have kn := (hg.2.2.2.2.2.2.2.1 _ hn).1
    have hk := hg.2.2.2.2.1 (gB_ g t + sP_ S t)
    refine ⟨i_in (by omega) (by omega) (by omega), fun y2 => ?_, fun y2 => ⟨_, _, zw, c_rw1 zw zM v q1, fun y3 => ?_, fun y3 => ?_⟩⟩
    · rw [i_cl (by omega), Int.toNat_natCast, h1, k2_, i_lt (by omega) (by omega)] at y2
      have hf : ¬ (gK_ g (gB_ g t + sP_ S t) = true ∧ ga1_ g S t ≠ none) := fun z => by
        rw [hk, decide_eq_true_eq] at z
        omega
      exact ce_blk zw zM v q1 hl rfl (fun s hs => zQ1 s (gx_b hl hf) hs)
    · have hf : ¬ (gK_ g (gB_ g t + sP_ S t) = true ∧ ga1_ g S t ≠ none) := fun z => by
        cases e : ga1_ g S t with
        | none => exact z.2 e
        | some j =>
          rw [e] at y3
          have y4 : i_ ((j : Nat) : Int) = (-1 : Int32) := y3
          have y5 := (f1_some _ _ _).mp e
          rw [show (-1 : Int32) = i_ (-1) by decide, i_eq (by omega) (by omega)] at y4
          omega
      exact ce_blk zw zM v q1 hl rfl (fun s hs => zQ1 s (gx_b hl hf) hs)
    · rw [i_cl (by omega), Int.toNat_natCast, h1, k2_, i_lt (by omega) (by omega)] at y2
      refine zQ0 (gx_n (Or.inr ⟨?_, fun e => ?_⟩))
      · rw [hk, decide_eq_true_eq]
        omega
      · rw [e] at y3
        exact y3 (by decide)
def gcb_ (g : gm_T) (S : gs_T) (t l n : Nat) : gs_T := (sP_ S, sR_ S, un_ (sM_ S) l (gv_ g S t n), ub_ (sW_ S) n false)
def Sy_ (σ : st_T) (g : gm_T) (K : Nat) (S : gs_T) (t l n : Nat) (s : st_T) : Prop := ro_ dS_ σ s ∧ st_I s 185 33 = i_ (n : Int) ∧ st_L s 185 32 = lN (kr_ g K (gcb_ g S t l n))
theorem cc_blk (zw : Wd σ) (zM : Mr_ σ g K) (v : Vr_ g K S) (q1 : t < 4) {l : Nat} (q2 : l < 3) (hn : n < K) (hs : gC_ g n 1 = 0) (hW : sW_ S n = true) {Q : rs_T → st_T → Prop}
    (zQ : ∀ s, Sy_ σ g K S t l n s → Q (.inl (some (.int (1 : Int32)))) s) :
    ∃ (v11 : Int32) (s9 : st_T), Wd s9 ∧ fn_ γ m_X12_valueOf 1 [.ref 185, .long (lN (kr_ g K S)), .int (i_ (t : Int)), .int (i_ (n : Int))] (pt_I σ 185 33 (i_ (n : Int))) (.int v11) s9 ∧
    ∃ (v14 : Int64) (s12 : st_T), Wd s12 ∧ fn_ γ m_X12_with 0 [.long ((lN (kr_ g K S)) &&& (((1 : Int64) <<< (((38 : Int32) + (st_I σ 202 (i_ (n : Int)).toNatClampNeg)).toInt64 &&& 63)) ^^^ (-1 : Int64))), .int ((32 : Int32) + ((2 : Int32) * (i_ (l : Int)))), .int v11] s9 (.long v14) s12 ∧
    Q (.inl (some (.int (1 : Int32)))) (pt_L s12 185 32 v14) := by
  obtain ⟨hg, hm, hB, hI⟩ := id zM
  have hK := hg.1
  have b := sbn_8 hg hn hs
  have hv := gv_r4 (t := t) hg v hn
  have R0 : ro_ dS_ σ (pt_I σ 185 33 (i_ (n : Int))) := ro_I ro_rf dS_3
  have W0 := ro_wd R0 zw
  refine ⟨_, _, W0, c_rval W0 (ro_mr R0 dS_mr zM) v q1 hn (Or.inl hs), ?_⟩
  have hz := cr_clrW hg hn hs (kr_cr hg S)
  have hx := kr_of hg hz
  have e1 : (lN (kr_ g K S)) &&& (((1 : Int64) <<< (((38 : Int32) + (st_I σ 202 (i_ (n : Int)).toNatClampNeg)).toInt64 &&& 63)) ^^^ (-1 : Int64)) = lN (kr_ g K (sP_ S, sR_ S, sM_ S, ub_ (sW_ S) n false)) := by
    rw [l_m1, i_cl (by omega), Int.toNat_natCast, (hI n hn).2.2.2.2.2 hs, rs_W, show (1 : Int64) = lN 1 from rfl, l_shl (by omega) (by rw [Nat.one_mul]; exact Nat.pow_lt_pow_right (by decide) (by omega)), Nat.one_mul, l_xor (Nat.pow_lt_pow_right (by decide) (by omega)) (by decide), l_and (Nat.lt_trans kr_63 (by decide)) (Nat.xor_lt_two_pow (Nat.pow_lt_pow_right (by decide) (by omega)) (by decide)), hx]
  rw [e1, rs_M]
  refine ⟨_, _, W0, c_rwith W0 (by omega) kr_63 hv, zQ _ ⟨ro_L R0 dS_2, rfl, ?_⟩⟩
  rw [kr_of hg (cr_setM hg (kr_cr hg (sP_ S, sR_ S, sM_ S, ub_ (sW_ S) n false)) q2 hv)]
  rfl
theorem ga1_w {z : Int} {i : Nat} (h : ga1_ g S t = some i) (e : gC_ g i 2 = z) : gw1_ g S t z = some i := by
  have y := (f1_some _ _ _).mp h
  refine (f1_some _ _ _).mpr ⟨y.1, y.2.1, ?_, fun j z1 z2 => ?_⟩
  · rw [y.2.2.1, decide_eq_true e]
    rfl
  · rw [y.2.2.2 j z1 z2]
    rfl
theorem gw1_0 {z : Int} (h : ga1_ g S t = none) : gw1_ g S t z = none := by
  have y := (f1_none _ _ _).mp h
  refine (f1_none _ _ _).mpr (fun j z1 z2 => ?_)
  rw [y j z1 z2]
  rfl
theorem l_rcommit (zw : Wd σ) (zM : Mr_ σ g K) (v : Vr_ g K S) (q1 : t < 4) {l : Nat} (q2 : l < 3) {Q : rs_T → st_T → Prop} (zQ0 : gn_ g S t l = none → Q (.inl (some (.int (0 : Int32)))) σ)
    (zQ1 : ∀ n s, gn_ g S t l = some n → Sy_ σ g K S t l n s → Q (.inl (some (.int (1 : Int32)))) s) : sp_ γ m_X12_canCommit 2 [.ref 185, .long (lN (kr_ g K S)), .int (i_ (t : Int)), .int (i_ (l : Int))] σ Q := by
  obtain ⟨hg, hm, hB, hI⟩ := id zM
  have hK := hg.1
  have hm3 := hg.2.2.2.2.2.2.1
  refine e_X12_canCommit zw ?_
  unfold p_X12_canCommit_0
  rw [hm]
  refine ⟨fun m1 => ⟨_, _, zw, c_rw1 zw zM v q1, ?_⟩, fun m1 => ⟨_, _, zw, c_rwl zw zM v q1 q2, ?_⟩⟩
  · rw [k1_, i_eq (by omega) (by omega)] at m1
    cases e : ga1_ g S t with
    | none =>
      refine ⟨fun _ => zQ0 ?_, fun z => absurd (by decide) z⟩
      unfold gn_
      rw [gw1_0 e]
    | some j =>
      have y5 := (f1_some _ _ _).mp e
      obtain ⟨j1, j2, j3, -⟩ := v.2.2.2.2 j y5.2.2.1
      rw [show wu_ (some j) = ((j : Nat) : Int) from rfl]
      refine ⟨fun z => ?_, fun _ => ⟨?_, ?_⟩⟩
      · have y4 : i_ ((j : Nat) : Int) = (-1 : Int32) := z
        rw [show (-1 : Int32) = i_ (-1) by decide, i_eq (by omega) (by omega)] at y4
        omega
      · exact i_in (by omega) (by omega) (by omega)
      · have kj := hg.2.2.2.2.2.2.2.1 j j1
        have ej : st_I σ 197 (i_ ((j : Nat) : Int)).toNatClampNeg = i_ (gC_ g j 2) := by
          rw [i_cl (by omega), Int.toNat_natCast]
          exact (hI j j1).2.1
        rw [ej, i_eq (by omega) (by omega)]
        refine ⟨fun z => ⟨i_in (by omega) (by omega) (by omega), ?_⟩, fun z => zQ0 ?_⟩
        · refine cc_blk zw zM v q1 q2 j1 j2 y5.2.2.1 (fun s hs => zQ1 j s ?_ hs)
          unfold gn_
          rw [ga1_w e z]
          show (if gm_ g = 1 ∧ ga1_ g S t ≠ some j then none else some j) = some j
          rw [if_neg (fun y => y.2 e)]
        · unfold gn_
          cases e2 : gw1_ g S t l with
          | none => rfl
          | some i =>
            show (if gm_ g = 1 ∧ ga1_ g S t ≠ some i then none else some i) = none
            have hne : ga1_ g S t ≠ some i := fun y => z (by
              rw [e] at y
              rw [Option.some.inj y]
              exact (gw1_in v e2).2.2.1)
            exact if_pos ⟨by omega, hne⟩
  · rw [k1_, i_eq (by omega) (by omega)] at m1
    cases e : gw1_ g S t l with
    | none =>
      refine ⟨fun _ => zQ0 ?_, fun z => absurd (by decide) z⟩
      unfold gn_
      rw [e]
    | some j =>
      obtain ⟨j1, j2, j3, j4⟩ := gw1_in v e
      rw [show wu_ (some j) = ((j : Nat) : Int) from rfl]
      refine ⟨fun z => ?_, fun _ => ⟨?_, ?_⟩⟩
      · have y4 : i_ ((j : Nat) : Int) = (-1 : Int32) := z
        rw [show (-1 : Int32) = i_ (-1) by decide, i_eq (by omega) (by omega)] at y4
        omega
      · exact i_in (by omega) (by omega) (by omega)
      · have kj := hg.2.2.2.2.2.2.2.1 j j1
        have ej : st_I σ 197 (i_ ((j : Nat) : Int)).toNatClampNeg = i_ (gC_ g j 2) := by
          rw [i_cl (by omega), Int.toNat_natCast]
          exact (hI j j1).2.1
        rw [ej, i_eq (by omega) (by omega)]
        refine ⟨fun z => ⟨i_in (by omega) (by omega) (by omega), ?_⟩, fun z => absurd j3 z⟩
        refine cc_blk zw zM v q1 q2 j1 j2 j4 (fun s hs => zQ1 j s ?_ hs)
        unfold gn_
        rw [e]
        show (if gm_ g = 1 ∧ ga1_ g S t ≠ some j then none else some j) = some j
        rw [if_neg (fun y => by omega)]
/-- what canStep leaves -/
def Sz_ (σ : st_T) (g : gm_T) (K : Nat) (S : gs_T) (t w : Nat) (S2 : gs_T) (s : st_T) : Prop := gt_ g S t w = some S2 ∧ ro_ dS_ σ s ∧ st_L s 185 32 = lN (kr_ g K S2) ∧ (w = 0 → Sx_ σ g K S t s) ∧ (w ≠ 0 → ∃ n, gn_ g S t (w - 1) = some n ∧ st_I s 185 33 = i_ (n : Int))
theorem c_rstep (zw : Wd σ) (zM : Mr_ σ g K) (v : Vr_ g K S) (q1 : t < 4) {w : Nat} (q2 : w < 4) : (gt_ g S t w = none ∧ fn_ γ m_X12_canStep 3 [.ref 185, .long (lN (kr_ g K S)), .int (i_ (t : Int)), .int (i_ (w : Int))] σ (.int (0 : Int32)) σ) ∨
    ∃ S2 s, fn_ γ m_X12_canStep 3 [.ref 185, .long (lN (kr_ g K S)), .int (i_ (t : Int)), .int (i_ (w : Int))] σ (.int (1 : Int32)) s ∧ Sz_ σ g K S t w S2 s := by
  obtain ⟨hg, hm, hB, hI⟩ := id zM
  have hm3 := hg.2.2.2.2.2.2.1
  have key : sp_ γ m_X12_canStep 3 [.ref 185, .long (lN (kr_ g K S)), .int (i_ (t : Int)), .int (i_ (w : Int))] σ (fun r s => ∃ x, r = .inl (some x) ∧ ((gt_ g S t w = none ∧ x = .int (0 : Int32) ∧ s = σ) ∨ ∃ S2, x = .int (1 : Int32) ∧ Sz_ σ g K S t w S2 s)) := by
    refine e_X12_canStep zw ?_
    unfold p_X12_canStep_0
    refine ⟨fun y => ?_, fun y => ?_⟩
    · rw [k0_, i_eq (by omega) (by omega)] at y
      have y : w = 0 := by omega
      subst y
      have z := l_rexec (γ := γ) zw zM v q1 (Q := fun r s => ∃ x, r = .inl (some x) ∧ ((gx_ g S t = none ∧ x = .int (0 : Int32) ∧ s = σ) ∨ (gx_ g S t = some (gxb_ g S t (gB_ g t + sP_ S t)) ∧ x = .int (1 : Int32) ∧ Sx_ σ g K S t s))) (fun h => ⟨_, rfl, Or.inl ⟨h, rfl, rfl⟩⟩) (fun s h1 h2 => ⟨_, rfl, Or.inr ⟨h1, rfl, h2⟩⟩)
      obtain ⟨x, s, h1, h2⟩ := fn_of z
      rcases h2 with ⟨h2, rfl, rfl⟩ | ⟨h2, rfl, h3⟩
      · exact ⟨_, _, zw, h1, Or.inl rfl, _, rfl, Or.inl ⟨h2, rfl, rfl⟩⟩
      · exact ⟨_, _, ro_wd h3.1 zw, h1, Or.inr rfl, _, rfl, Or.inr ⟨_, rfl, h2, h3.1, h3.2.2.2, fun _ => h3, fun z => absurd rfl z⟩⟩
    · rw [k0_, i_eq (by omega) (by omega)] at y
      rw [hm]
      have e0 : gt_ g S t w = gc_ g S t (w - 1) := by
        unfold gt_
        rw [if_neg (by omega)]
      refine ⟨fun z => ?_, fun z => ?_⟩
      · rw [k0_, i_le (by omega) (by omega)] at z
        refine ⟨_, rfl, Or.inl ⟨?_, rfl, rfl⟩⟩
        rw [e0]
        have e : ga1_ g S t = none := (f1_none _ _ _).mpr (fun j _ _ => Bool.eq_false_iff.mpr (fun h => (v.2.2.2.2 j h).2.2.1 (by omega)))
        unfold gc_ gn_
        rw [gw1_0 e]
      · have z2 := l_rcommit (γ := γ) zw zM v q1 (l := w - 1) (by omega) (Q := fun r s => ∃ x, r = .inl (some x) ∧ ((gn_ g S t (w - 1) = none ∧ x = .int (0 : Int32) ∧ s = σ) ∨ (∃ n, gn_ g S t (w - 1) = some n ∧ x = .int (1 : Int32) ∧ Sy_ σ g K S t (w - 1) n s))) (fun h => ⟨_, rfl, Or.inl ⟨h, rfl, rfl⟩⟩) (fun n s h1 h2 => ⟨_, rfl, Or.inr ⟨n, h1, rfl, h2⟩⟩)
        obtain ⟨x, s, h1, h2⟩ := fn_of z2
        rw [show i_ (w : Int) - (1 : Int32) = i_ ((w - 1 : Nat) : Int) by rw [k1_, i_sub]; exact congrArg i_ (by omega)]
        rcases h2 with ⟨h2, rfl, rfl⟩ | ⟨n, h2, rfl, h3⟩
        · refine ⟨_, _, zw, h1, fun _ => ⟨_, rfl, Or.inl ⟨?_, rfl, rfl⟩⟩, fun z => absurd rfl z⟩
          rw [e0]
          unfold gc_
          rw [h2]
        · refine ⟨_, _, ro_wd h3.1 zw, h1, fun z => absurd z (by decide), fun _ => ⟨_, rfl, Or.inr ⟨gcb_ g S t (w - 1) n, rfl, ?_, h3.1, h3.2.2, fun z => absurd z (by omega), fun _ => ⟨n, h2, h3.2.1⟩⟩⟩⟩
          rw [e0]
          unfold gc_
          rw [h2]
          rfl
  obtain ⟨x, s, h1, h2⟩ := fn_of key
  rcases h2 with ⟨h2, rfl, rfl⟩ | ⟨S2, rfl, h3⟩
  · exact Or.inl ⟨h2, h1⟩
  · exact Or.inr ⟨S2, s, h1, h3⟩
end RO
