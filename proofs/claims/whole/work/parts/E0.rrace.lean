/-! the reference: the greatest buffer; races (T6) -/
section RK
variable {γ : ga_T} {σ σ1 s : st_T} {A A' : ca_T} {c m n K t G : Nat} {z y : Int} {e : String → Nat} {p : pr_T} {g : gm_T} {S S0 : gs_T} {N : List (gs_T × Int64)}
/-- a state that the reference's search finds -/
def Rl_ (g : gm_T) (K : Nat) (S0 S : gs_T) : Prop := ∃ q ∈ br_ g K S0, q.1 = S
theorem rl_v (hg : Gw_ g K) (h0 : Vr_ g K S0) (h : Rl_ g K S0 S) : Vr_ g K S := by
  obtain ⟨q, h1, rfl⟩ := h
  have al := bn_alr hg h0 65535
  unfold br_ at h1
  exact al q h1
theorem rl_step (hg : Gw_ g K) (h0 : Vr_ g K S0) (hb : Br_ g K S0) (h : Rl_ g K S0 S) {S2 : gs_T} {w : Nat} (q1 : t < 4) (q2 : w < 4) (e : gt_ g S t w = some S2) : Rl_ g K S0 S2 := by
  have v2 := vr_step hg (rl_v hg h0 h) q1 q2 e
  have al := bn_alr hg h0 65535
  unfold Rl_ br_ at h ⊢
  obtain ⟨q, h1, h2⟩ := bn_clo (hb 65535) h q1 q2 e
  refine ⟨q, h1, cr_eq (kr_cr hg q.1) ?_ (al q h1) v2⟩
  rw [h2]
  exact kr_cr hg S2
theorem rl_0 (hg : Gw_ g K) (h0 : Vr_ g K S0) : Rl_ g K S0 S0 := by
  have al := bn_alr hg h0 65535
  obtain ⟨q, h1, h2⟩ := bn_kin2 (k := kr_ g K) (g := g) (T := 4) (W := 4) (S0 := S0) (n := 0) (X := S0) ⟨(S0, 1), List.mem_cons_self, rfl⟩ 65535
  rw [Nat.zero_add] at h1
  unfold Rl_ br_
  refine ⟨q, h1, cr_eq (kr_cr hg q.1) ?_ (al q h1) h0⟩
  rw [h2]
  exact kr_cr hg S0
theorem gxb_P (g : gm_T) (S : gs_T) (t n : Nat) : sP_ (gxb_ g S t n) = un_ (sP_ S) t (sP_ S t + 1) := by
  unfold gxb_
  repeat (first | rfl | split)
/-- in model 0 each thread goes where it likes -/
theorem rl_go (hg : Gw_ g K) (h0 : Vr_ g K S0) (hb : Br_ g K S0) (hm : gm_ g = 0) {t : Nat} (q1 : t < 4) (h : Rl_ g K S0 S) : ∀ (d : Nat), sP_ S t + d ≤ gl_ g t → ∃ S2, Rl_ g K S0 S2 ∧ sP_ S2 t = sP_ S t + d ∧ ∀ u, u ≠ t → sP_ S2 u = sP_ S u
  | 0, _ => ⟨S, h, rfl, fun _ _ => rfl⟩
  | d + 1, hd => by
    obtain ⟨S2, h1, h2, h3⟩ := rl_go hg h0 hb hm q1 h d (by omega)
    have v := rl_v hg h0 h1
    have ga : ga1_ g S2 t = none := by
      unfold ga1_
      rw [f1_none]
      intro j _ _
      cases e : sW_ S2 j with
      | false => rfl
      | true => exact absurd hm (v.2.2.2.2 j e).2.2.1
    have gx := gx_b (g := g) (S := S2) (t := t) (by omega) (fun y => y.2 ga)
    refine ⟨_, rl_step hg h0 hb h1 q1 (by decide) (show gt_ g S2 t 0 = _ from gx), ?_, fun u hu => ?_⟩
    · rw [gxb_P]
      show (if t = t then _ else _) = _
      rw [if_pos rfl]
      omega
    · rw [gxb_P]
      show (if u = t then _ else _) = _
      rw [if_neg hu]
      exact h3 u hu
/-- both next at once (T6) -/
theorem t6_ (zP : Wp_ p) (hb : Bz_ p) {i j : Nat} (hi : i < pN_ p) (hj : j < pN_ p) {t u : Nat} (et : pC_ p i 0 = t) (eu : pC_ p j 0 = u) (ne : t ≠ u) : ∃ q ∈ Ms_ p 0, sP_ q.1 t = i - gB0_ p t ∧ sP_ q.1 u = j - gB0_ p u := by
  have hg := gw_ly (G := 0) (z := -1) zP (m := 0) (by decide)
  have h0 := vr_0 (g := gly_ p 0 (-1) 0) (K := Kl_ p 0 (-1)) zP.1 hg
  have hB := bz_0 hb (m := 0) (by decide)
  obtain ⟨a1, a2⟩ := (gB_th zP hi).mp et
  obtain ⟨b1, b2⟩ := (gB_th zP hj).mp eu
  have tT := (zP.2.1 i hi).2.1
  have uT := (zP.2.1 j hj).2.1
  have T4 := zP.1.2.1
  have gl : ∀ v, gl_ (gly_ p 0 (-1) 0) v = gB0_ p (v + 1) - gB0_ p v := fun v => gly_0l v
  obtain ⟨S1, c1, c2, c3⟩ := rl_go hg h0 hB rfl (t := t) (by omega) (rl_0 hg h0) (i - gB0_ p t) (by rw [gl]; show 0 + _ ≤ _; omega)
  have c4 : sP_ S1 u = 0 := c3 u (fun e => ne e.symm)
  obtain ⟨S2, d1, d2, d3⟩ := rl_go hg h0 hB rfl (t := u) (by omega) c1 (j - gB0_ p u) (by rw [gl, c4]; omega)
  obtain ⟨q, q1, q2⟩ := d1
  refine ⟨q, q1, ?_, ?_⟩
  · rw [q2, d3 t ne, c2]
    show 0 + _ = _
    omega
  · rw [q2, d2, c4]
    omega
def cfl_ (p : pr_T) (i j : Nat) : Bool := decide (pC_ p i 0 ≠ pC_ p j 0 ∧ pC_ p i 1 ≠ 3 ∧ pC_ p j 1 ≠ 3 ∧ pC_ p i 2 = pC_ p j 2 ∧ (pC_ p i 1 = pC_ p j 1 → pC_ p i 1 = 0))
theorem c_rconflict (zw : Wd s) (zN : Nr_ s p) {i j : Nat} (hi : i < pN_ p) (hj : j < pN_ p) : fn_ γ m_X12_conflict 2 [.ref 185, .int (i_ (i : Int)), .int (i_ (j : Int))] s (.int (if cfl_ p i j = true then 1 else 0)) s := fn_q (fun Q zQ => e_X12_conflict zw (by
  have r := zN.1.2.2.2.2
  have o := fun (x k : Nat) (hx : x < pN_ p) (hk : k < 6) => c_rof (γ := γ) (i := x) (k := k) zw zN hx hk
  have e0 : ∀ (x y k : Nat), (i_ (pC_ p x k) = i_ (pC_ p y k)) = (pC_ p x k = pC_ p y k) := fun x y k => by
    have a := r x k
    have b := r y k
    exact i_eq (by omega) (by omega)
  have e3 : ∀ (x k : Nat), (i_ (pC_ p x k) = (3 : Int32)) = (pC_ p x k = 3) := fun x k => by
    have a := r x k
    rw [k3_]
    exact i_eq (by omega) (by omega)
  have e00 : ∀ (x k : Nat), (i_ (pC_ p x k) = (0 : Int32)) = (pC_ p x k = 0) := fun x k => by
    have a := r x k
    rw [k0_]
    exact i_eq (by omega) (by omega)
  have no : cfl_ p i j = false → Q (.inl (some (.int 0))) s := fun h => by
    rw [h] at zQ
    exact zQ
  have ye : cfl_ p i j = true → Q (.inl (some (.int 1))) s := fun h => by
    rw [h] at zQ
    exact zQ
  unfold cfl_ at no ye
  rw [decide_eq_false_iff_not] at no
  rw [decide_eq_true_eq] at ye
  unfold p_X12_conflict_0
  refine ⟨_, s, zw, o i 0 hi (by decide), _, s, zw, o j 0 hj (by decide), ?_⟩
  rw [e0]
  refine ⟨fun v => no (fun h => h.1 v), fun v => ⟨_, s, zw, o i 1 hi (by decide), ?_⟩⟩
  rw [e3]
  refine ⟨fun v1 => no (fun h => h.2.1 v1), fun v1 => ⟨_, s, zw, o j 1 hj (by decide), ?_⟩⟩
  rw [e3]
  refine ⟨fun v2 => no (fun h => h.2.2.1 v2), fun v2 => ⟨_, s, zw, o i 2 hi (by decide), _, s, zw, o j 2 hj (by decide), ?_⟩⟩
  rw [e0]
  refine ⟨fun v3 => ⟨_, s, zw, o i 1 hi (by decide), _, s, zw, o j 1 hj (by decide), ?_⟩, fun v3 => no (fun h => v3 h.2.2.2.1)⟩
  rw [e0]
  refine ⟨fun v4 => ⟨_, s, zw, o i 1 hi (by decide), ?_⟩, fun v4 => ye ⟨v, v1, v2, v3, fun e => absurd e v4⟩⟩
  rw [e00]
  exact ⟨fun v5 => ye ⟨v, v1, v2, v3, fun _ => v5⟩, fun v5 => no (fun h => v5 (h.2.2.2.2 v4))⟩))
theorem cfl_ir (zB : Bp_ p) (zP : Wp_ p) {i j : Nat} (hi : i < pN_ p) (hj : j < pN_ p) : cfl_ p i j = ir_ p (i : Int) (j : Int) := by
  unfold cfl_ ir_
  rw [show (0 : Int) = ((0 : Nat) : Int) from rfl, show pp_ p (i : Int) 2 = pp_ p (i : Int) ((2 : Nat) : Int) from rfl, show pp_ p (j : Int) 2 = pp_ p (j : Int) ((2 : Nat) : Int) from rfl, show pp_ p (i : Int) 1 = pp_ p (i : Int) ((1 : Nat) : Int) from rfl, show pp_ p (j : Int) 1 = pp_ p (j : Int) ((1 : Nat) : Int) from rfl, pp_in hi (by decide), pp_in hi (by decide), pp_in hi (by decide), pp_in hj (by decide), pp_in hj (by decide), pp_in hj (by decide)]
  have a := zB.2.2.2.2 i 1
  have b := zB.2.2.2.2 j 1
  have a1 := (zP.2.1 i hi).2.2.1
  have b1 := (zP.2.1 j hj).2.2.1
  exact decide_eq_decide.mpr (by omega)
end RK
