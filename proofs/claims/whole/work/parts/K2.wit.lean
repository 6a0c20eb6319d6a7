/-! how many states (T2): one location: witnesses in normal form -/
section WK
variable {p : pr_T} {g : gm_T} {K t u l X k n c c' G m t0 t1 t2 t3 : Nat} {z : Int} {S S' S0 : gs_T} {w w' : Nat → List Nat} {τ τ' : Nat → Nat}
def rho_ (t0 t1 t2 t : Nat) : Nat := if t = t0 then 0 else if t = t1 then 1 else if t = t2 then 2 else 3
/-- four threads in some order -/
def Pm_ (t0 t1 t2 t3 : Nat) : Prop := t0 < 4 ∧ t1 < 4 ∧ t2 < 4 ∧ t3 < 4 ∧ t0 ≠ t1 ∧ t0 ≠ t2 ∧ t0 ≠ t3 ∧ t1 ≠ t2 ∧ t1 ≠ t3 ∧ t2 ≠ t3
theorem rho_4 (t : Nat) : rho_ t0 t1 t2 t < 4 := by
  unfold rho_
  split
  · omega
  · split
    · omega
    · split <;> omega
theorem rho_r (h : Pm_ t0 t1 t2 t3) {t : Nat} (ht : t < 4) : (rho_ t0 t1 t2 t = 0 ↔ t = t0) ∧ (rho_ t0 t1 t2 t = 1 ↔ t = t1) ∧ (rho_ t0 t1 t2 t = 2 ↔ t = t2) ∧ (rho_ t0 t1 t2 t = 3 ↔ t = t3) := by
  unfold Pm_ at h
  unfold rho_
  by_cases h0 : t = t0
  · rw [if_pos h0]
    omega
  · rw [if_neg h0]
    by_cases h1 : t = t1
    · rw [if_pos h1]
      omega
    · rw [if_neg h1]
      by_cases h2 : t = t2
      · rw [if_pos h2]
        omega
      · rw [if_neg h2]
        omega
theorem rho_inj (h : Pm_ t0 t1 t2 t3) {t u : Nat} (ht : t < 4) (hu : u < 4) (e : rho_ t0 t1 t2 t = rho_ t0 t1 t2 u) : t = u := by
  obtain ⟨a0, a1, a2, a3⟩ := rho_r h ht
  obtain ⟨b0, b1, b2, b3⟩ := rho_r h hu
  have r4 := rho_4 (t0 := t0) (t1 := t1) (t2 := t2) t
  omega
def pnl_ (g : gm_T) (n : Nat) : Bool := decide (gC_ g n 1 = 0)
def ftl_ (g : gm_T) (X t : Nat) : List Bool := (acw_ g X (gB_ g t) (gB_ g (t + 1))).map (pnl_ g)
theorem frk_ft (hg : Gw_ g K) (h : Hgw_ g K S0 S w τ c) (hX : X < 3) (q1 : t < 4) {ρ : Nat → Nat} {r : Nat} (hr : ∀ u, u < 4 → (ρ u = r ↔ u = t)) : frk_ (fun n => ρ (thd_ g n)) (pnl_ g) r (w X) = (ftl_ g X t).take (cnt_ ((w X).map (thd_ g)) t) ∧ (frk_ (fun n => ρ (thd_ g n)) (pnl_ g) r (w X)).length = cnt_ ((w X).map (thd_ g)) t := by
  have v := hq_vr h
  have hw := fun n hn => hq_wi h X n hX hn
  have e1 : (w X).filter (fun n => decide (ρ (thd_ g n) = r)) = (w X).filter (inT_ g t) := List.filter_congr (fun n hn => by
    rw [← inT_thd hg q1 (hw n hn)]
    exact decide_eq_decide.mpr (hr _ thd_4))
  have e2 : cnt_ ((w X).map (thd_ g)) t = (acw_ g X (gB_ g t) (thw_ g S t X)).length := by
    rw [cnt_map hg q1 _ hw, hq_wf h X t hX q1]
  have b := thw_le (l := X) hg v q1
  obtain ⟨k1, k2, k3⟩ := gk_ hg q1
  have hP := v.2.2.2.1 t q1
  unfold frk_ ftl_
  rw [e1, hq_wf h X t hX q1, e2, acw_app (b := thw_ g S t X) (c := gB_ g (t + 1)) b.1 (by omega), List.map_append]
  have el : ((acw_ g X (gB_ g t) (thw_ g S t X)).map (pnl_ g)).length = (acw_ g X (gB_ g t) (thw_ g S t X)).length := List.length_map _
  refine ⟨?_, el⟩
  rw [List.take_append_of_le_length (by rw [el]; exact Nat.le_refl _), List.take_of_length_le (by rw [el]; exact Nat.le_refl _)]
def wtk_ (g : gm_T) (X t0 t1 t2 t3 : Nat) (S : gs_T) (w : Nat → List Nat) : wt2_T := (bts_ g S t0 (sP_ S t0), bts_ g S t1 (sP_ S t1), bts_ g S t2 (sP_ S t2), bts_ g S t3 (sP_ S t3), (w X).map (fun n => rho_ t0 t1 t2 (thd_ g n)), [])
def m2_ (a : Nat) : Nat := min a 2
def wks_ (g : gm_T) (X t0 t1 t2 t3 : Nat) : List wt2_T := (CL_ g true X t0).flatMap (fun a => (CL_ g true X t1).flatMap (fun b => (CL_ g true X t2).flatMap (fun c => (CL_ g true X t3).flatMap (fun d =>
  (rws_ (m2_ a.2.1 + m2_ b.2.1 + m2_ c.2.1 + m2_ d.2.1) ((ftl_ g X t0).take (m2_ a.2.1)) ((ftl_ g X t1).take (m2_ b.2.1)) ((ftl_ g X t2).take (m2_ c.2.1)) ((ftl_ g X t3).take (m2_ d.2.1)) 0).map (fun u => (a.1, b.1, c.1, d.1, u, []))))))
def Fk_ (f0 f1 f2 f3 : List Bool) (a b c d : Nat) : Nat := rwc_ (m2_ a + m2_ b + m2_ c + m2_ d) (f0.take (m2_ a)) (f1.take (m2_ b)) (f2.take (m2_ c)) (f3.take (m2_ d)) 0
def vsk_ (F : Nat → Nat → Nat → Nat → Nat) (f0 f1 f2 f3 : List (Nat × Nat)) : Nat := sumf_ (fun a => sumf_ (fun b => sumf_ (fun c => sumf_ (fun d => F a.1 b.1 c.1 d.1) f3) f2) f1) f0
theorem wks_len : (wks_ g X t0 t1 t2 t3).length = vsk_ (Fk_ (ftl_ g X t0) (ftl_ g X t1) (ftl_ g X t2) (ftl_ g X t3)) ((CL_ g true X t0).map Prod.snd) ((CL_ g true X t1).map Prod.snd) ((CL_ g true X t2).map Prod.snd) ((CL_ g true X t3).map Prod.snd) := by
  unfold wks_ vsk_
  rw [len_fm, sumf_map]
  refine sumf_cg _ (fun a _ => ?_)
  rw [len_fm, sumf_map]
  refine sumf_cg _ (fun b _ => ?_)
  rw [len_fm, sumf_map]
  refine sumf_cg _ (fun c _ => ?_)
  rw [len_fm, sumf_map]
  refine sumf_cg _ (fun d _ => ?_)
  rw [List.length_map, rws_len]
  rfl
theorem wks_in (hg : Gw_ g K) (h : Hgw_ g K S0 S w τ c) (hX : X < 3) (hp : Pm_ t0 t1 t2 t3) (h2 : ∀ t, t < 4 → (ftl_ g X t).length = 2) (nb : ¬ bad_ g (rho_ t0 t1 t2) (w X)) : wtk_ g X t0 t1 t2 t3 S w ∈ wks_ g X t0 t1 t2 t3 := by
  obtain ⟨p0, p1, p2, p3, -⟩ := id hp
  have cl : ∀ t, t < 4 → (bts_ g S t (sP_ S t), cnt_ ((w X).map (thd_ g)) t, exk_ g true S X t py_ (sP_ S t)) ∈ CL_ g true X t := fun t ht => by
    have y := CL_in (fz := true) (X := X) hg h ht
    rw [← cxw_ (fz := true) hg h ht] at y
    unfold wxl_ at y
    rw [if_pos hX] at y
    exact y
  have fr := fun (t : Nat) (ht : t < 4) (r : Nat) (hr : ∀ u, u < 4 → (rho_ t0 t1 t2 u = r ↔ u = t)) => frk_ft (ρ := rho_ t0 t1 t2) (r := r) hg h hX ht hr
  have f0 := fr t0 p0 0 (fun u hu => (rho_r hp hu).1)
  have f1 := fr t1 p1 1 (fun u hu => (rho_r hp hu).2.1)
  have f2 := fr t2 p2 2 (fun u hu => (rho_r hp hu).2.2.1)
  have f3 := fr t3 p3 3 (fun u hu => (rho_r hp hu).2.2.2)
  have le2 : ∀ t, t < 4 → cnt_ ((w X).map (thd_ g)) t ≤ 2 := fun t ht => by
    have v := hq_vr h
    have e2 : cnt_ ((w X).map (thd_ g)) t = (acw_ g X (gB_ g t) (thw_ g S t X)).length := by
      rw [cnt_map hg ht _ (fun n hn => hq_wi h X n hX hn), hq_wf h X t hX ht]
    have b := thw_le (l := X) hg v ht
    obtain ⟨k1, k2, k3⟩ := gk_ hg ht
    have hP := v.2.2.2.1 t ht
    have y := h2 t ht
    unfold ftl_ at y
    rw [acw_app (b := thw_ g S t X) (c := gB_ g (t + 1)) b.1 (by omega), List.map_append, List.length_append, List.length_map] at y
    omega
  have mm : ∀ t, t < 4 → m2_ (cnt_ ((w X).map (thd_ g)) t) = cnt_ ((w X).map (thd_ g)) t := fun t ht => Nat.min_eq_left (le2 t ht)
  have r4 : ∀ x, x ∈ w X → rho_ t0 t1 t2 (thd_ g x) < 4 := fun x _ => rho_4 _
  have run := (rnn_ok (g := g) (ρ := rho_ t0 t1 t2) (fun t => rho_4 t) (w X)).1 nb
  have mem := rws_mem (w X) 0 r4 run
  have len : (w X).length = cnt_ ((w X).map (thd_ g)) t0 + cnt_ ((w X).map (thd_ g)) t1 + cnt_ ((w X).map (thd_ g)) t2 + cnt_ ((w X).map (thd_ g)) t3 := by
    have y := len_cnt ((w X).map (fun n => rho_ t0 t1 t2 (thd_ g n))) (fun x hx => by
      obtain ⟨n, -, rfl⟩ := List.mem_map.mp hx
      exact rho_4 _)
    rw [List.length_map] at y
    have cc : ∀ r t, t < 4 → (∀ u, u < 4 → (rho_ t0 t1 t2 u = r ↔ u = t)) → cnt_ ((w X).map (fun n => rho_ t0 t1 t2 (thd_ g n))) r = cnt_ ((w X).map (thd_ g)) t := fun r t ht hr => by
      unfold cnt_
      rw [List.filter_map, List.length_map, List.filter_map, List.length_map]
      congr 1
      exact List.filter_congr (fun n _ => decide_eq_decide.mpr (hr _ thd_4))
    rw [cc 0 t0 p0 (fun u hu => (rho_r hp hu).1), cc 1 t1 p1 (fun u hu => (rho_r hp hu).2.1), cc 2 t2 p2 (fun u hu => (rho_r hp hu).2.2.1), cc 3 t3 p3 (fun u hu => (rho_r hp hu).2.2.2)] at y
    exact y
  have mem : (w X).map (fun n => rho_ t0 t1 t2 (thd_ g n)) ∈ rws_ (w X).length (frk_ (fun n => rho_ t0 t1 t2 (thd_ g n)) (pnl_ g) 0 (w X)) (frk_ (fun n => rho_ t0 t1 t2 (thd_ g n)) (pnl_ g) 1 (w X)) (frk_ (fun n => rho_ t0 t1 t2 (thd_ g n)) (pnl_ g) 2 (w X)) (frk_ (fun n => rho_ t0 t1 t2 (thd_ g n)) (pnl_ g) 3 (w X)) 0 := mem
  rw [f0.1, f1.1, f2.1, f3.1, len] at mem
  unfold wks_ wtk_
  refine List.mem_flatMap.mpr ⟨_, cl t0 p0, List.mem_flatMap.mpr ⟨_, cl t1 p1, List.mem_flatMap.mpr ⟨_, cl t2 p2, List.mem_flatMap.mpr ⟨_, cl t3 p3, List.mem_map.mpr ⟨(w X).map (fun n => rho_ t0 t1 t2 (thd_ g n)), ?_, rfl⟩⟩⟩⟩⟩
  dsimp only
  rw [mm t0 p0, mm t1 p1, mm t2 p2, mm t3 p3]
  exact mem
theorem wtk_in (hg : Gw_ g K) (U : Un_ g) (h : Hgw_ g K S0 S w τ c) (h' : Hgw_ g K S0 S' w' τ' c') (hX : X < 3) (hp : Pm_ t0 t1 t2 t3) (hl : ∀ (l n : Nat), l < 3 → n < K → gC_ g n 1 ≠ 3 → gC_ g n 2 = (l : Int) → l = X) (e : wtk_ g X t0 t1 t2 t3 S w = wtk_ g X t0 t1 t2 t3 S' w') : S = S' := by
  have nil : ∀ (S : gs_T) (w : Nat → List Nat) (τ : Nat → Nat) (c : Nat), Hgw_ g K S0 S w τ c → wyl_ X w = [] := fun S w τ c h => by
    have one : ∀ l, l < 3 → wyp_ X w l = [] := fun l l3 => by
      unfold wyp_
      by_cases d : l = X
      · rw [if_pos d]
      · rw [if_neg d]
        cases hw : w l with
        | nil => rfl
        | cons n r =>
          exfalso
          obtain ⟨t, t4, x1, -, x3⟩ := w_ex hg h l3 (show n ∈ w l by rw [hw]; exact List.mem_cons_self)
          have y := of_decide_eq_true x3
          exact d (hl l n l3 (seg_e hg (hq_vr h) t4 x1).2 y.1 y.2)
    unfold wyl_
    rw [one 0 (by decide), one 1 (by decide), one 2 (by decide)]
    rfl
  unfold wtk_ at e
  obtain ⟨e0, e⟩ := Prod.mk.inj e
  obtain ⟨e1, e⟩ := Prod.mk.inj e
  obtain ⟨e2, e⟩ := Prod.mk.inj e
  obtain ⟨e3, e⟩ := Prod.mk.inj e
  obtain ⟨ew, -⟩ := Prod.mk.inj e
  have eb : ∀ t, t < 4 → bts_ g S t (sP_ S t) = bts_ g S' t (sP_ S' t) := fun t ht => by
    unfold Pm_ at hp
    rcases (show t = t0 ∨ t = t1 ∨ t = t2 ∨ t = t3 by omega) with d | d | d | d <;> subst d
    · exact e0
    · exact e1
    · exact e2
    · exact e3
  have em : ∀ (A B : List Nat), A.map (fun n => rho_ t0 t1 t2 (thd_ g n)) = B.map (fun n => rho_ t0 t1 t2 (thd_ g n)) → A.map (thd_ g) = B.map (thd_ g) := fun A => by
    induction A with
    | nil =>
      intro B h
      cases B with
      | nil => rfl
      | cons b B => cases h
    | cons a A ih =>
      intro B h
      cases B with
      | nil => cases h
      | cons b B =>
        rw [List.map_cons, List.map_cons] at h
        obtain ⟨y1, y2⟩ := List.cons.inj h
        rw [List.map_cons, List.map_cons, ih B y2, rho_inj hp thd_4 thd_4 y1]
  refine wtn_in (X := X) hg U h h' ?_
  unfold wtn_
  rw [nil S w τ c h, nil S' w' τ' c' h', eb 0 (by decide), eb 1 (by decide), eb 2 (by decide), eb 3 (by decide)]
  unfold wxl_
  rw [if_pos hX, if_pos hX, em _ _ ew]
theorem br_wks (hg : Gw_ g K) (U : Un_ g) (v : Vr_ g K S0) (hP : ∀ t, sP_ S0 t = 0) (hR : ∀ q, sR_ S0 q = 0) (hX : X < 3) (hp : Pm_ t0 t1 t2 t3) (h2 : ∀ t, t < 4 → (ftl_ g X t).length = 2) (hl : ∀ (l n : Nat), l < 3 → n < K → gC_ g n 1 ≠ 3 → gC_ g n 2 = (l : Int) → l = X) (hb : (wks_ g X t0 t1 t2 t3).length ≤ 65535) : Br_ g K S0 := fun n =>
  Nat.le_trans (rel_leB (D := fun x y : gs_T × Int64 => kr_ g K x.1 ≠ kr_ g K y.1) (Q := fun x k => ∃ w τ c, Hgw_ g K S0 x.1 w τ c ∧ k = wtk_ g X t0 t1 t2 t3 x.1 w) (fun x y k d ⟨w, τ, c, h, e⟩ ⟨w', τ', c', h', e'⟩ => d (by rw [wtk_in hg U h h' hX hp hl (e.symm.trans e')])) (nk_bn (kr_ g K) g 4 4 S0 n) (fun x hx => by
    have al := bn_alP (P := Rc_ g S0) (kr_ g K) rc_0 (fun _ _ _ _ y z1 z2 z3 => rc_s y z1 z2 z3) n
    obtain ⟨w, τ, c, h⟩ := hq_all hg U v hP hR (al x hx)
    obtain ⟨w', h', nb⟩ := hq_nf hg hX (rho_ t0 t1 t2) _ w h (Nat.lt_succ_self _)
    exact ⟨_, wks_in hg h' hX hp h2 nb, w', τ, c, h', rfl⟩)) hb
end WK
