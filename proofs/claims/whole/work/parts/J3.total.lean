/-! how many states (T2): not more than witnesses -/
section TO
variable {g : gm_T} {fz : Bool} {K t u l X k n c c' : Nat} {S S' S0 : gs_T} {w w' : Nat → List Nat} {τ τ' : Nat → Nat}
def lbl_ (g : gm_T) (fz : Bool) (X t : Nat) : List Nat := (List.range' 0 (gl_ g t)).map (fun j => lbn_ g fz X (gB_ g t + j))
def CL_ (g : gm_T) (fz : Bool) (X t : Nat) : List cf2_T := cls_ (lbl_ g fz X t) [([], 0, 0)] 0 0 0
def wls2_ (g : gm_T) (fz : Bool) (X : Nat) : List wt2_T := (CL_ g fz X 0).flatMap (fun a => (CL_ g fz X 1).flatMap (fun b => (CL_ g fz X 2).flatMap (fun c => (CL_ g fz X 3).flatMap (fun d =>
  (wds_ (a.2.1 + b.2.1 + c.2.1 + d.2.1) a.2.1 b.2.1 c.2.1 d.2.1).flatMap (fun u => (wds_ (a.2.2 + b.2.2 + c.2.2 + d.2.2) a.2.2 b.2.2 c.2.2 d.2.2).map (fun v => (a.1, b.1, c.1, d.1, u, v)))))))
def vsm_ (f0 f1 f2 f3 : List (Nat × Nat)) : Nat := sumf_ (fun a => sumf_ (fun b => sumf_ (fun c => sumf_ (fun d => mu_ a.1 b.1 c.1 d.1 * mu_ a.2 b.2 c.2 d.2) f3) f2) f1) f0
theorem wl_len : (wls2_ g fz X).length = vsm_ ((CL_ g fz X 0).map Prod.snd) ((CL_ g fz X 1).map Prod.snd) ((CL_ g fz X 2).map Prod.snd) ((CL_ g fz X 3).map Prod.snd) := by
  unfold wls2_ vsm_
  rw [len_fm, sumf_map]
  refine sumf_cg _ (fun a _ => ?_)
  rw [len_fm, sumf_map]
  refine sumf_cg _ (fun b _ => ?_)
  rw [len_fm, sumf_map]
  refine sumf_cg _ (fun c _ => ?_)
  rw [len_fm, sumf_map]
  refine sumf_cg _ (fun d _ => ?_)
  rw [len_fm, ← wds_mu, ← wds_mu]
  rw [sumf_cg (h := fun _ => (wds_ (a.2.2 + b.2.2 + c.2.2 + d.2.2) a.2.2 b.2.2 c.2.2 d.2.2).length) _ (fun u _ => List.length_map _), sumf_const]
theorem CL_in (hg : Gw_ g K) (h : Hgw_ g K S0 S w τ c) (q1 : t < 4) : (bts_ g S t (sP_ S t), exk_ g fz S X t px_ (sP_ S t), exk_ g fz S X t py_ (sP_ S t)) ∈ CL_ g fz X t := by
  have y := cls_in (fz := fz) (X := X) hg h q1 (gl_ g t) 0 [([], 0, 0)] (Nat.zero_add _) (Nat.zero_le _) (List.mem_singleton.mpr rfl)
  exact y
theorem wl_in (hg : Gw_ g K) (h : Hgw_ g K S0 S w τ c) : wtn_ g X S w ∈ wls2_ g fz X := by
  have c0 := CL_in (fz := fz) (X := X) hg h (t := 0) (by decide)
  have c1 := CL_in (fz := fz) (X := X) hg h (t := 1) (by decide)
  have c2 := CL_in (fz := fz) (X := X) hg h (t := 2) (by decide)
  have c3 := CL_in (fz := fz) (X := X) hg h (t := 3) (by decide)
  have b4 : ∀ (A : List Nat), ∀ x, x ∈ A.map (thd_ g) → x < 4 := fun A x hx => by
    obtain ⟨n, -, rfl⟩ := List.mem_map.mp hx
    exact thd_4
  have m1 := wds_mem ((wxl_ X w).map (thd_ g)) (b4 _)
  have m2 := wds_mem ((wyl_ X w).map (thd_ g)) (b4 _)
  rw [cxw_ (fz := fz) hg h (by decide), cxw_ (fz := fz) hg h (by decide), cxw_ (fz := fz) hg h (by decide), cxw_ (fz := fz) hg h (by decide)] at m1
  rw [cyw_ (fz := fz) hg h (by decide), cyw_ (fz := fz) hg h (by decide), cyw_ (fz := fz) hg h (by decide), cyw_ (fz := fz) hg h (by decide)] at m2
  unfold wls2_ wtn_
  exact List.mem_flatMap.mpr ⟨_, c0, List.mem_flatMap.mpr ⟨_, c1, List.mem_flatMap.mpr ⟨_, c2, List.mem_flatMap.mpr ⟨_, c3, List.mem_flatMap.mpr ⟨_, m1, List.mem_map.mpr ⟨_, m2, rfl⟩⟩⟩⟩⟩⟩
theorem bn_wl (hg : Gw_ g K) (U : Un_ g) (v : Vr_ g K S0) (hP : ∀ t, sP_ S0 t = 0) (hR : ∀ q, sR_ S0 q = 0) {L : List (gs_T × Int64)} (al : al_ (Rc_ g S0) L) (nk : L.Pairwise (fun x y => kr_ g K x.1 ≠ kr_ g K y.1)) (fz : Bool) (X : Nat) : L.length ≤ (wls2_ g fz X).length :=
  rel_leB (D := fun x y : gs_T × Int64 => kr_ g K x.1 ≠ kr_ g K y.1) (Q := fun x k => ∃ w τ c, Hgw_ g K S0 x.1 w τ c ∧ k = wtn_ g X x.1 w) (fun x y k d ⟨w, τ, c, h, e⟩ ⟨w', τ', c', h', e'⟩ => d (by rw [wtn_in hg U h h' (e.symm.trans e')])) nk (fun x hx => by
    obtain ⟨w, τ, c, h⟩ := hq_all hg U v hP hR (al x hx)
    exact ⟨_, wl_in hg h, w, τ, c, h, rfl⟩)
theorem br_wl (hg : Gw_ g K) (U : Un_ g) (v : Vr_ g K S0) (hP : ∀ t, sP_ S0 t = 0) (hR : ∀ q, sR_ S0 q = 0) (fz : Bool) (X : Nat) (hb : (wls2_ g fz X).length ≤ 65535) : Br_ g K S0 := fun n =>
  Nat.le_trans (bn_wl hg U v hP hR (bn_alP (P := Rc_ g S0) (kr_ g K) rc_0 (fun _ _ _ _ y z1 z2 z3 => rc_s y z1 z2 z3) n) (nk_bn (kr_ g K) g 4 4 S0 n) fz X) hb
end TO
