/-! the law's loop: what joins the class's contracts with the reference's -/
section LK
variable {γ : ga_T} {σ s s1 s2 : st_T} {A A' : ca_T} {R R1 : rt_T} {c : Nat} {μ : mr_T} {d : Nat} {as : List Value} {e : String → Nat} {r : rs_T}
/-- what a call of the class costs -/
def Cz_ (σ : st_T) (R : rt_T) (s1 : st_T) (R1 : rt_T) : Prop := 128 * st_c s1 + zR_ R ≤ 128 * st_c σ + zR_ R1 + 128 ∧ st_u s1 + yR_ R ≤ st_u σ + yR_ R1 + 6
def Cq_ (σ : st_T) (R : rt_T) (s1 : st_T) (R1 : rt_T) : Prop := (∀ a k, 185 ≤ a → a ≤ 218 → st_I s1 a k = st_I σ a k) ∧ Cz_ σ R s1 R1
theorem cq_co (h : Co_ σ R 1 s1 R1) : Cq_ σ R s1 R1 := ⟨fun a k z1 z2 => (h.1 a z1 (by omega)).1 k, by have y := h.2.2.1; omega, by have y := h.2.2.2; omega⟩
theorem jr_cq (w : Wd s1) (h : Cq_ σ R s1 R1) (m : Jr_ σ A c) : Jr_ s1 A c := ⟨w, rt0_cg (fun a k z => h.1 a k (by omega) (by omega)) m.2.1, jm_cg (fun a k z1 z2 _ => h.1 a k z1 z2) m.2.2⟩
theorem cz_ro {D : Nat → Nat → Prop} (h : ro_ D s1 s2) (z : Cz_ σ R s1 R1) : Cz_ σ R s2 R1 := by
  obtain ⟨e1, e2, e3⟩ := ro_n h
  unfold Cz_
  rw [e2, e3]
  exact z
/-- the law's own cell is nothing to the class -/
theorem j_219 (x : Int64) (j : J_ σ A R) : J_ (pt_L σ 219 0 x) A R := by
  obtain ⟨⟨w, x1, x2⟩, ⟨p1, p2⟩, ⟨o1, o2, o3⟩, ⟨L0, T0⟩, kn, d1, d2⟩ := j
  have lo : ∀ {a : Nat}, a ≠ 219 → eh_ σ (pt_L σ 219 0 x) a := fun z => eh_L z
  have hn : st_n σ ≤ st_n (pt_L σ 219 0 x) := Nat.le_refl _
  have ta : ∀ b, ha_ σ b → b ≠ 219 := fun b z => by unfold ha_ at z; omega
  have tk := T0.1.2.2.1
  refine ⟨⟨w, ⟨x1.1, fun i zi => by rw [(lo (a := 129) (by omega)).1]; exact x1.2 i zi⟩, by rw [(lo (a := 128) (by omega)).1]; exact x2⟩, ⟨pq_eh p1 (lo (by omega)) (lo (by omega)) (lo (by omega)) (lo (by omega)) (lo (by omega)), p2⟩, ⟨Xo_eh o1 (lo (by omega)) (lo (by omega)), Xc_eh o2 (lo (by omega)) (lo (by omega)), Ep_eh o3 (lo (by omega)) (lo (by omega)) (lo (by omega)) (lo (by omega))⟩, ⟨L0, tk_eh T0 hn (lo (by omega)) (lo (ta _ tk.2.1)) (lo (ta _ tk.2.2.1)) (lo (ta _ tk.2.2.2))⟩, fun m hm => ?_, d1, d2⟩
  have fa : fa_ m = 164 ∨ fa_ m = 169 ∨ fa_ m = 174 := fa_fi m
  have k := kn m hm
  have hf : ∀ b, hf_ σ (fa_ m) b → b ≠ 219 := fun b z => by unfold hf_ at z; omega
  have kf := k.1.2.2.1
  exact kn_eh k hn (lo (by omega)) (lo (by omega)) (lo (by omega)) (lo (hf _ kf.1)) (lo (hf _ kf.2))
/-- what the law's method tells of an answer: a number, and the answer in the law's cell -/
def lcd_ (e : String → Nat) (r : rs_T) : Int32 := match r with
  | .inl _ => 0
  | .inr E => i_ ((e E : Nat) : Int)
def lvl_ (r : rs_T) (x : Int64) : Prop := match r with
  | .inl (some (.int v)) => x = v.toInt64
  | .inl (some (.long v)) => x = v
  | _ => True
def La_ (γ : ga_T) (μ : mr_T) (d : Nat) (as : List Value) (σ : st_T) (R : rt_T) (A' : ca_T) (e : String → Nat) (r : rs_T) : Prop := ∃ s1 R1, fn_ γ μ d as σ (.int (lcd_ e r)) s1 ∧ J_ s1 A' R1 ∧ Cq_ σ R s1 R1 ∧ lvl_ r (st_L s1 219 0)
theorem la_v (j : J_ s1 A' R1) (o : Co_ σ R 1 s1 R1) {x : Int64} {w : Value} (hx : lvl_ (.inl (some w)) x) (f : fn_ γ μ d as σ (.int (0 : Int32)) (pt_L s1 219 0 x)) : La_ γ μ d as σ R A' e (.inl (some w)) := by
  have q := cq_co o
  refine ⟨pt_L s1 219 0 x, R1, f, j_219 x j, ⟨q.1, q.2⟩, ?_⟩
  rw [st_sL]
  exact hx
theorem la_x (j : J_ s1 A' R1) (o : Co_ σ R 1 s1 R1) {E : String} {k : Int32} (hk : i_ ((e E : Nat) : Int) = k) (f : fn_ γ μ d as σ (.int k) s1) : La_ γ μ d as σ R A' e (.inr E) := by
  refine ⟨s1, R1, ?_, j, cq_co o, trivial⟩
  show fn_ γ μ d as σ (.int (i_ ((e E : Nat) : Int))) s1
  rw [hk]
  exact f
/-- which answers there may be: a truth value (b), an int, exceptions -/
def Vk_ (b i o n t : Bool) (r : rs_T) : Prop := (∃ x : Int32, (b = true → x = 0 ∨ x = 1) ∧ r = .inl (some (.int x))) ∨ (i = true ∧ r = iae_) ∨ (o = true ∧ r = ioo_) ∨ (n = true ∧ r = nse_) ∨ (t = true ∧ r = ise_)
def Ve_ (i o n t : Bool) (e : String → Nat) : Prop := (i = true → 0 < e "java/lang/IllegalArgumentException" ∧ e "java/lang/IllegalArgumentException" < 100) ∧ (o = true → 0 < e "java/lang/IndexOutOfBoundsException" ∧ e "java/lang/IndexOutOfBoundsException" < 100) ∧ (n = true → 0 < e "java/util/NoSuchElementException" ∧ e "java/util/NoSuchElementException" < 100) ∧ (t = true → 0 < e "java/lang/IllegalStateException" ∧ e "java/lang/IllegalStateException" < 100)
section VR
variable {b i o n t : Bool} {z : Int}
theorem vr_ri (z : Int) : Vk_ false i o n t (ri_ z) := Or.inl ⟨_, fun y => (by cases y), rfl⟩
theorem vr_rb (x : Bool) : Vk_ b i o n t (rb_ x) := Or.inl ⟨_, fun _ => by
  cases x
  · exact Or.inl rfl
  · exact Or.inr rfl, rfl⟩
theorem vr_iae : Vk_ b true o n t iae_ := Or.inr (Or.inl ⟨rfl, rfl⟩)
theorem vr_ioo : Vk_ b i true n t ioo_ := Or.inr (Or.inr (Or.inl ⟨rfl, rfl⟩))
theorem vr_nse : Vk_ b i o true t nse_ := Or.inr (Or.inr (Or.inr (Or.inl ⟨rfl, rfl⟩)))
theorem vr_ise : Vk_ b i o n true ise_ := Or.inr (Or.inr (Or.inr (Or.inr ⟨rfl, rfl⟩)))
theorem vr_mq {f : Nat → rs_T} (h : ∀ m, m < 3 → Vk_ b true o n t (f m)) : Vk_ b true o n t (mq_ z f) := by
  unfold mq_
  split
  · exact h _ (by omega)
  · exact vr_iae
theorem vr_im {f : Nat → rs_T} (h : ∀ m, m < pN_ (aP_ A).1 → Vk_ b i true n t (f m)) : Vk_ b i true n t (im_ A z f) := by
  unfold im_
  split
  · exact h _ (by omega)
  · exact vr_ioo
theorem vr_lm {f : Nat → rs_T} (h : ∀ m, m < pL_ (aP_ A).1 → Vk_ b i true n t (f m)) : Vk_ b i true n t (lm_ A z f) := by
  unfold lm_
  split
  · exact h _ (by omega)
  · exact vr_ioo
theorem vr_if {p : Prop} [Decidable p] {r1 r2 : rs_T} (h1 : p → Vk_ b i o n t r1) (h2 : ¬ p → Vk_ b i o n t r2) : Vk_ b i o n t (if p then r1 else r2) := by
  split
  · exact h1 ‹_›
  · exact h2 ‹_›
/-- an answer is the same where it agrees for each model, instruction .. -/
theorem mq_cg {f g : Nat → rs_T} (h : ∀ m, m < 3 → f m = g m) : mq_ z f = mq_ z g := by
  unfold mq_
  split
  · exact h _ (by omega)
  · rfl
theorem im_cg {f g : Nat → rs_T} (h : ∀ m, m < pN_ (aP_ A).1 → f m = g m) : im_ A z f = im_ A z g := by
  unfold im_
  split
  · exact h _ (by omega)
  · rfl
end VR
theorem bt9_ {a k : Nat} (h : a = k) (q : 0 < k ∧ k < 100) : 0 < a ∧ a < 100 := by
  rw [h]
  exact q
theorem ve_I : Ve_ true false false false eI_ := ⟨fun _ => bt9_ tcd_1 (by decide), fun y => (by cases y), fun y => (by cases y), fun y => (by cases y)⟩
theorem ve_L : Ve_ true true true false eL_ := ⟨fun _ => bt9_ tcd_1 (by decide), fun _ => bt9_ tcd_2 (by decide), fun _ => bt9_ tcd_3 (by decide), fun y => (by cases y)⟩
theorem ve_O : Ve_ false true true false eO_ := ⟨fun y => (by cases y), fun _ => bt9_ tcd_2 (by decide), fun _ => bt9_ tcd_3 (by decide), fun y => (by cases y)⟩
theorem ve_N : Ve_ false false true false eN_ := ⟨fun y => (by cases y), fun y => (by cases y), fun _ => bt9_ tcd_3 (by decide), fun y => (by cases y)⟩
theorem ve_3 : Ve_ false true false true eI3_ := ⟨fun y => (by cases y), fun _ => bt9_ tcd_2 (by decide), fun y => (by cases y), fun _ => bt9_ tcd_4 (by decide)⟩
theorem ve_O1 : Ve_ false true false false eO_ := ⟨ve_O.1, ve_O.2.1, fun y => (by cases y), ve_O.2.2.2⟩
theorem ve_L2 : Ve_ true true false false eL_ := ⟨ve_L.1, ve_L.2.1, fun y => (by cases y), ve_L.2.2.2⟩
/-- the calls, one behind another -/
theorem cs_1 {X : Int32 → st_T → Prop} {x : Int32} (h : Ans_ γ μ d as σ R A' (.inl (some (.int x)))) (k : ∀ s1 R1, J_ s1 A' R1 → Cq_ σ R s1 R1 → X x s1) : ∃ (v : Int32) (s : st_T), Wd s ∧ fn_ γ μ d as σ (.int v) s ∧ X v s := by
  obtain ⟨s1, R1, f, j, o⟩ := h
  exact ⟨x, s1, j.1.1, f, k s1 R1 j (cq_co o)⟩
theorem cs_2 {X : Int32 → st_T → Prop} {x : Int32} (h : Ra_ γ μ d as s1 A' c e (.inl (some (.int x)))) (k : ∀ s2 c2, Jr_ s2 A' c2 → c2 ≤ c + 100 → ro_ dM_ s1 s2 → X x s2) : ∃ (v : Int32) (s : st_T), Wd s ∧ fn_ γ μ d as s1 (.int v) s ∧ X v s := by
  obtain ⟨s2, w, c2, f, j2, b, o, h1, -⟩ := h
  rw [h1] at f
  exact ⟨x, s2, j2.1, f, k s2 c2 j2 b o⟩
theorem cs_L {X : Int32 → st_T → Prop} (h : La_ γ μ d as σ R A' e r) (k : ∀ s1 R1, J_ s1 A' R1 → Cq_ σ R s1 R1 → lvl_ r (st_L s1 219 0) → X (lcd_ e r) s1) : ∃ (v : Int32) (s : st_T), Wd s ∧ fn_ γ μ d as σ (.int v) s ∧ X v s := by
  obtain ⟨s1, R1, f, j, o, v⟩ := h
  exact ⟨_, s1, j.1.1, f, k s1 R1 j o v⟩
theorem c_rthrown (w : Wd s) : fn_ γ m_X12_thrown 0 [.ref 185] s (.int (st_I s 185 0)) s := fn_q (fun Q zQ => e_X12_thrown w zQ)
theorem vr_inr {b i o n t : Bool} (h : Vk_ b i o n t r) (he : Ve_ i o n t e) : (∃ x : Int32, (b = true → x = 0 ∨ x = 1) ∧ r = .inl (some (.int x))) ∨ ∃ E, r = .inr E ∧ 0 < e E ∧ e E < 100 := by
  rcases h with h | ⟨h, rfl⟩ | ⟨h, rfl⟩ | ⟨h, rfl⟩ | ⟨h, rfl⟩
  · exact Or.inl h
  · exact Or.inr ⟨_, rfl, he.1 h⟩
  · exact Or.inr ⟨_, rfl, he.2.1 h⟩
  · exact Or.inr ⟨_, rfl, he.2.2.1 h⟩
  · exact Or.inr ⟨_, rfl, he.2.2.2 h⟩
theorem ro_219 (o : ro_ dM_ s1 s2) : st_L s2 219 0 = st_L s1 219 0 := (o.2 219 0 (fun y => by unfold dM_ at y; omega)).2
theorem lcd_ne {E : String} (h1 : 0 < e E) (h2 : e E < 100) : ¬ lcd_ e (.inr E) = (0 : Int32) := by
  show ¬ i_ ((e E : Nat) : Int) = (0 : Int32)
  rw [k0_, i_eq (by omega) (by omega)]
  omega
theorem ct_i {b i o n t : Bool} {K B B' : st_T → Prop} (q : Ra_ γ μ d as s1 A' c e r) (v : lvl_ r (st_L s1 219 0)) (he : e "" ≠ 9) (hr : Vk_ b i o n t r) (hv : Ve_ i o n t e) (k : ∀ s2 c2, Jr_ s2 A' c2 → c2 ≤ c + 100 → ro_ dM_ s1 s2 → K s2) : ∃ (v1 : Int32) (s2 : st_T), Wd s2 ∧ fn_ γ μ d as s1 (.int v1) s2 ∧ ∃ (v2 : Int32) (s3 : st_T), Wd s3 ∧ fn_ γ m_X12_thrown 0 [.ref 185] s2 (.int v2) s3 ∧ (v2 = lcd_ e r → (lcd_ e r = (0 : Int32) → (st_L s3 219 0 = v1.toInt64 → K s3) ∧ (¬ st_L s3 219 0 = v1.toInt64 → B s3)) ∧ (¬ lcd_ e r = (0 : Int32) → K s3)) ∧ (¬ v2 = lcd_ e r → B' s3) := by
  obtain ⟨s2, w, c2, f, j2, bb, oo, h⟩ := q
  have el := ro_219 oo
  have ft : fn_ γ m_X12_thrown 0 [.ref 185] s2 (.int (st_I s2 185 0)) s2 := c_rthrown j2.1
  rcases vr_inr hr hv with ⟨x, -, rfl⟩ | ⟨E, rfl, h1, h2⟩
  · obtain ⟨h4, h3⟩ := h
    rw [h3] at ft
    rw [h4] at f
    exact ⟨x, s2, j2.1, f, _, s2, j2.1, ft, fun _ => ⟨fun _ => ⟨fun _ => k s2 c2 j2 bb oo, fun y => absurd (el.trans v) y⟩, fun y => absurd rfl y⟩, fun y => absurd k0_.symm y⟩
  · obtain ⟨h3, ⟨x, h4, -⟩ | ⟨x, h4, h9⟩⟩ := h
    · rw [h3] at ft
      rw [h4] at f
      exact ⟨x, s2, j2.1, f, _, s2, j2.1, ft, fun _ => ⟨fun y => absurd y (lcd_ne h1 h2), fun _ => k s2 c2 j2 bb oo⟩, fun y => absurd rfl y⟩
    · exact absurd h9 he
theorem ct_b {i o n t : Bool} {K B B1 B' : st_T → Prop} (q : Ra_ γ μ d as s1 A' c e r) (v : lvl_ r (st_L s1 219 0)) (he : e "" ≠ 9) (hr : Vk_ true i o n t r) (hv : Ve_ i o n t e) (k : ∀ s2 c2, Jr_ s2 A' c2 → c2 ≤ c + 100 → ro_ dM_ s1 s2 → K s2) : ∃ (v1 : Int32) (s2 : st_T), Wd s2 ∧ fn_ γ μ d as s1 (.int v1) s2 ∧ ∃ (v2 : Int32) (s3 : st_T), Wd s3 ∧ fn_ γ m_X12_thrown 0 [.ref 185] s2 (.int v2) s3 ∧ (v2 = lcd_ e r → (lcd_ e r = (0 : Int32) → (v1 = (0 : Int32) → (st_L s3 219 0 = (0 : Int64) → K s3) ∧ (¬ st_L s3 219 0 = (0 : Int64) → B s3)) ∧ (¬ v1 = (0 : Int32) → (st_L s3 219 0 = (1 : Int64) → K s3) ∧ (¬ st_L s3 219 0 = (1 : Int64) → B1 s3))) ∧ (¬ lcd_ e r = (0 : Int32) → K s3)) ∧ (¬ v2 = lcd_ e r → B' s3) := by
  obtain ⟨s2, w, c2, f, j2, bb, oo, h⟩ := q
  have el := ro_219 oo
  have ft : fn_ γ m_X12_thrown 0 [.ref 185] s2 (.int (st_I s2 185 0)) s2 := c_rthrown j2.1
  rcases vr_inr hr hv with ⟨x, hb, rfl⟩ | ⟨E, rfl, h1, h2⟩
  · obtain ⟨h4, h3⟩ := h
    rw [h3] at ft
    rw [h4] at f
    have e2 : st_L s2 219 0 = x.toInt64 := el.trans v
    refine ⟨x, s2, j2.1, f, _, s2, j2.1, ft, fun _ => ⟨fun _ => ⟨fun y => ⟨fun _ => k s2 c2 j2 bb oo, fun u => ?_⟩, fun y => ⟨fun _ => k s2 c2 j2 bb oo, fun u => ?_⟩⟩, fun y => absurd rfl y⟩, fun y => absurd k0_.symm y⟩
    · rw [y] at e2
      exact absurd (e2.trans (by decide)) u
    · rcases hb rfl with e3 | e3
      · exact absurd e3 y
      · rw [e3] at e2
        exact absurd (e2.trans (by decide)) u
  · obtain ⟨h3, ⟨x, h4, -⟩ | ⟨x, h4, h9⟩⟩ := h
    · rw [h3] at ft
      rw [h4] at f
      exact ⟨x, s2, j2.1, f, _, s2, j2.1, ft, fun _ => ⟨fun y => absurd y (lcd_ne h1 h2), fun _ => k s2 c2 j2 bb oo⟩, fun y => absurd rfl y⟩
    · exact absurd h9 he
theorem ct_l {K B B' : st_T → Prop} (q : Ra_ γ μ d as s1 A' c eJ_ r) (v : lvl_ r (st_L s1 219 0)) (hr : (∃ x : Int64, r = .inl (some (.long x))) ∨ r = iae_) (k : ∀ s2 c2, Jr_ s2 A' c2 → c2 ≤ c + 100 → ro_ dM_ s1 s2 → K s2) : ∃ (v1 : Int64) (s2 : st_T), Wd s2 ∧ fn_ γ μ d as s1 (.long v1) s2 ∧ ∃ (v2 : Int32) (s3 : st_T), Wd s3 ∧ fn_ γ m_X12_thrown 0 [.ref 185] s2 (.int v2) s3 ∧ (v2 = lcd_ eJ_ r → (lcd_ eJ_ r = (0 : Int32) → (st_L s3 219 0 = v1 → K s3) ∧ (¬ st_L s3 219 0 = v1 → B s3)) ∧ (¬ lcd_ eJ_ r = (0 : Int32) → K s3)) ∧ (¬ v2 = lcd_ eJ_ r → B' s3) := by
  obtain ⟨s2, w, c2, f, j2, bb, oo, h⟩ := q
  have el := ro_219 oo
  have ft : fn_ γ m_X12_thrown 0 [.ref 185] s2 (.int (st_I s2 185 0)) s2 := c_rthrown j2.1
  rcases hr with ⟨x, rfl⟩ | rfl
  · obtain ⟨h4, h3⟩ := h
    rw [h3] at ft
    rw [h4] at f
    exact ⟨x, s2, j2.1, f, _, s2, j2.1, ft, fun _ => ⟨fun _ => ⟨fun _ => k s2 c2 j2 bb oo, fun y => absurd (el.trans v) y⟩, fun y => absurd rfl y⟩, fun y => absurd k0_.symm y⟩
  · obtain ⟨h3, ⟨x, h4, h9⟩ | ⟨x, h4, -⟩⟩ := h
    · exact absurd (by decide) h9
    · rw [h3] at ft
      rw [h4] at f
      exact ⟨x, s2, j2.1, f, _, s2, j2.1, ft, fun _ => ⟨fun y => absurd y (lcd_ne (e := eJ_) (bt9_ tcd_1 (by decide)).1 (bt9_ tcd_1 (by decide)).2), fun _ => k s2 c2 j2 bb oo⟩, fun y => absurd rfl y⟩
/-- changes that can be undone, nothing beyond the properties, writers that are instructions -/
def Gd_ (A : ca_T) : Prop := Hv_ (aP_ A).1 (aC_ A) ∧ Cn_ (aP_ A).1 ∧ Eg_ A
/-- the loop goes on -/
def Nx_ (γ : ga_T) (nm : String) (l4 : Int32) (Q : rs_T → st_T → Prop) (σ : st_T) (R : rt_T) (c : Nat) : Prop := ∀ s A' R' c', J_ s A' R' → Jr_ s A' c' → Gd_ A' → c' ≤ c + 100 → Cz_ σ R s R' → vv_ γ (m_law nm) 84 23 [(0, .ref 22), (1, .ref 128), (2, .ref 185), (3, .ref 219), (4, .int (l4 + 6))] [] s Q
end LK
