/-! the reference between two calls -/
section JR
variable {γ : ga_T} {σ σ1 : st_T} {A : ca_T} {R : rt_T} {c : Nat} {D : Nat → Nat → Prop}
/-- a program in a row of ints -/
def Nrow_ (σ : st_T) (h o : Nat) (p : pr_T) : Prop := st_I σ h o = i_ (pN_ p : Int) ∧ st_I σ h (o + 1) = i_ (pT_ p : Int) ∧ st_I σ h (o + 2) = i_ (pL_ p : Int) ∧ (∀ l, l < pL_ p → st_I σ h (o + 3 + l) = i_ (pI_ p l)) ∧ ∀ i k, i < pN_ p → k < 6 → st_I σ h (o + (6 + 6 * i + k)) = i_ (pC_ p i k)
def Rb_ (σ : st_T) (B : Nat → Int) (n : Nat) : Prop := n ≤ 600 ∧ st_I σ 185 2 = i_ (n : Int) ∧ ∀ k, k < n → st_I σ 186 k = i_ (B k % 256)
/-- a piece of the condition, as the reference tells it -/
def tru_ (D : Nat) (u : Int) : Int := if u = -1 then -3 else if u = -2 then -1 else if u = -3 then -2 else 8 * ((D : Int) - 1 - u / 16) + u % 8
def Rq_ (σ : st_T) (P : pq_T) : Prop := Nr_ σ P.1 ∧ (∀ l, l < pL_ P.1 → st_I σ 191 l = i_ ((P.2.1 l).length : Int) ∧ ∀ k x, (P.2.1 l)[k]? = some x → st_I σ 190 (8 * l + k) = i_ x) ∧
  P.2.2.length ≤ 31 ∧ st_I σ 185 20 = i_ (P.2.2.length : Int) ∧ ∀ k u, P.2.2[k]? = some u → st_I σ 194 k = i_ (tru_ (2 * pT_ P.1 + pL_ P.1) u)
def Krr_ (σ : st_T) : pr_T → List Nat → Prop
  | _, [] => True
  | p, c :: r => Nrow_ σ 189 (174 * r.length) (cu_ p c) ∧ Krr_ σ (cu_ p c) r
/-- writers of a location -/
def wlf_ (p : pr_T) (l : Nat) (W : List Nat) : List Nat := W.filter (fun n => decide (pC_ p n 2 = l))
def Rx_ (σ : st_T) (p : pr_T) (e : ex_T) : Prop := (st_I σ 185 53 = i_ (e.1.length : Int) ∧ e.1.length ≤ 18 ∧ ∀ i q, e.1[i]? = some q → st_I σ 212 i = i_ ((10 * q.1 + q.2 : Nat) : Int)) ∧
  (∀ i, i < pN_ p → (pC_ p i 1 = 1 ∨ pC_ p i 1 = 2) → st_I σ 213 i = i_ (e.2.1 i)) ∧
  e.2.2.length ≤ 8 ∧ ∀ l, l < 3 → st_I σ 215 l = i_ ((wlf_ p l e.2.2).length : Int) ∧ ∀ (k n : Nat), (wlf_ p l e.2.2)[k]? = some n → st_I σ 214 (60 * l + k) = i_ (n : Int)
def Re_ (σ : st_T) (p : pr_T) (E : Option ex_T) : Prop := match E with
  | none => st_I σ 185 47 = i_ 0
  | some e => st_I σ 185 47 = i_ 1 ∧ Rx_ σ p e
/-- the data -/
def Jm_ (σ : st_T) (A : ca_T) : Prop := Rb_ σ (aB_ A) (an2_ A) ∧ Rq_ σ (aP_ A) ∧ (st_I σ 185 56 = i_ ((aO_ A).length : Int) ∧ ∀ (k : Nat) (z : Int), (aO_ A)[k]? = some z → st_I σ 218 k = i_ z) ∧
  (st_I σ 185 10 = i_ ((aC_ A).length : Int) ∧ Krr_ σ (aP_ A).1 (aC_ A).reverse) ∧ Re_ σ (aP_ A).1 (aE_ A)
def Jr_ (σ : st_T) (A : ca_T) (c : Nat) : Prop := Wd σ ∧ Rt0_ σ c ∧ Jm_ σ A
/-- what is no data -/
def dW_ (a k : Nat) : Prop := (185 ≤ a ∧ a ≤ 218) ∧ ¬ (a = 185 ∧ (k = 2 ∨ k = 10 ∨ k = 20 ∨ k = 47 ∨ k = 53 ∨ k = 56)) ∧ a ≠ 186 ∧ a ≠ 187 ∧ a ≠ 189 ∧ a ≠ 190 ∧ a ≠ 191 ∧ a ≠ 194 ∧ a ≠ 212 ∧ a ≠ 213 ∧ a ≠ 214 ∧ a ≠ 215 ∧ a ≠ 218
def dM_ (a _k : Nat) : Prop := 185 ≤ a ∧ a ≤ 218
theorem nrow_cg {h o : Nat} {p : pr_T} (f : ∀ k, st_I σ1 h k = st_I σ h k) (n : Nrow_ σ h o p) : Nrow_ σ1 h o p := ⟨(f _).trans n.1, (f _).trans n.2.1, (f _).trans n.2.2.1, fun l z => (f _).trans (n.2.2.2.1 l z), fun i k z1 z2 => (f _).trans (n.2.2.2.2 i k z1 z2)⟩
theorem krr_cg (f : ∀ k, st_I σ1 189 k = st_I σ 189 k) : ∀ (r : List Nat) (p : pr_T), Krr_ σ p r → Krr_ σ1 p r
  | [], _, _ => trivial
  | _ :: r, _, h => ⟨nrow_cg f h.1, krr_cg f r _ h.2⟩
theorem nr_cg {p : pr_T} (f : ∀ k, st_I σ1 187 k = st_I σ 187 k) (n : Nr_ σ p) : Nr_ σ1 p := ⟨n.1, (f _).trans n.2.1, (f _).trans n.2.2.1, (f _).trans n.2.2.2.1, fun l z => (f _).trans (n.2.2.2.2.1 l z), fun i k z1 z2 => (f _).trans (n.2.2.2.2.2 i k z1 z2)⟩
theorem rq_cg {P : pq_T} (f : ∀ a k, (a = 187 ∨ a = 190 ∨ a = 191 ∨ a = 194 ∨ (a = 185 ∧ k = 20)) → st_I σ1 a k = st_I σ a k) (h : Rq_ σ P) : Rq_ σ1 P := by
  obtain ⟨h1, h2, h3, h4, h5⟩ := h
  exact ⟨nr_cg (fun k => f _ _ (Or.inl rfl)) h1, fun l z => ⟨(f _ _ (Or.inr (Or.inr (Or.inl rfl)))).trans (h2 l z).1, fun k x y => (f _ _ (Or.inr (Or.inl rfl))).trans ((h2 l z).2 k x y)⟩, h3, (f _ _ (Or.inr (Or.inr (Or.inr (Or.inr ⟨rfl, rfl⟩))))).trans h4, fun k u y => (f _ _ (Or.inr (Or.inr (Or.inr (Or.inl rfl))))).trans (h5 k u y)⟩
theorem re_cg {p : pr_T} {E : Option ex_T} (f : ∀ a k, ((a = 185 ∧ (k = 47 ∨ k = 53)) ∨ (212 ≤ a ∧ a ≤ 215)) → st_I σ1 a k = st_I σ a k) (h : Re_ σ p E) : Re_ σ1 p E := by
  cases E with
  | none => exact (f _ _ (Or.inl ⟨rfl, Or.inl rfl⟩)).trans h
  | some e =>
    obtain ⟨h0, ⟨h1, h2, h3⟩, h4, h5, h6⟩ := h
    exact ⟨(f _ _ (Or.inl ⟨rfl, Or.inl rfl⟩)).trans h0, ⟨(f _ _ (Or.inl ⟨rfl, Or.inr rfl⟩)).trans h1, h2, fun i q z => (f _ _ (Or.inr (by omega))).trans (h3 i q z)⟩, fun i z1 z2 => (f _ _ (Or.inr (by omega))).trans (h4 i z1 z2), h5, fun l z => ⟨(f _ _ (Or.inr (by omega))).trans (h6 l z).1, fun k n y => (f _ _ (Or.inr (by omega))).trans ((h6 l z).2 k n y)⟩⟩
theorem jm_cg (f : ∀ a k, 185 ≤ a → a ≤ 218 → ¬ dW_ a k → st_I σ1 a k = st_I σ a k) (h : Jm_ σ A) : Jm_ σ1 A := by
  obtain ⟨⟨b1, b2, b3⟩, q, ⟨o1, o2⟩, ⟨c1, c2⟩, e⟩ := h
  have g : ∀ a k, ((a = 185 ∧ (k = 2 ∨ k = 10 ∨ k = 20 ∨ k = 47 ∨ k = 53 ∨ k = 56)) ∨ a = 186 ∨ a = 187 ∨ a = 189 ∨ a = 190 ∨ a = 191 ∨ a = 194 ∨ a = 212 ∨ a = 213 ∨ a = 214 ∨ a = 215 ∨ a = 218) → st_I σ1 a k = st_I σ a k := fun a k z => f a k (by omega) (by omega) (fun y => by unfold dW_ at y; omega)
  refine ⟨⟨b1, (g _ _ (by omega)).trans b2, fun k z => (g _ _ (by omega)).trans (b3 k z)⟩, rq_cg (fun a k z => g a k (by omega)) q, ⟨(g _ _ (by omega)).trans o1, fun k z y => (g _ _ (by omega)).trans (o2 k z y)⟩, ⟨(g _ _ (by omega)).trans c1, krr_cg (fun k => g _ _ (by omega)) _ _ c2⟩, re_cg (fun a k z => g a k (by omega)) e⟩
theorem jm_ro (h : ro_ D σ σ1) (hD : ∀ a k, D a k → 185 ≤ a → a ≤ 218 → dW_ a k) (m : Jm_ σ A) : Jm_ σ1 A := jm_cg (fun a k z1 z2 z3 => (h.2 a k (fun y => z3 (hD a k y z1 z2))).1) m
theorem jm_eh (h : ∀ a, 185 ≤ a → a < 220 → eh_ σ σ1 a) (m : Jm_ σ A) : Jm_ σ1 A := jm_cg (fun a k z1 z2 _ => (h a z1 (by omega)).1 k) m
theorem rt0_cg (f : ∀ a k, (a = 207 ∨ (a = 185 ∧ k = 40)) → st_I σ1 a k = st_I σ a k) (h : Rt0_ σ c) : Rt0_ σ1 c := ⟨h.1, (f _ _ (Or.inr ⟨rfl, rfl⟩)).trans h.2.1, fun q hq => by
  obtain ⟨z, z1, z2, z3⟩ := h.2.2 q hq
  exact ⟨z, z1, z2, (f _ _ (Or.inl rfl)).trans z3⟩⟩
theorem jr_eh (hw : Wd σ1) (h : ∀ a, 185 ≤ a → a < 220 → eh_ σ σ1 a) (m : Jr_ σ A c) : Jr_ σ1 A c := ⟨hw, rt0_cg (fun a k z => (h a (by omega) (by omega)).1 k) m.2.1, jm_eh h m.2.2⟩
theorem eh_ro (h : ro_ dM_ σ σ1) {b : Nat} (hb : b < 185 ∨ 218 < b) : eh_ σ σ1 b := by
  have n : ∀ k, ¬ dM_ b k := fun k y => by unfold dM_ at y; omega
  have e := h.1
  exact ⟨fun j => (h.2 b j (n j)).1, fun j => (h.2 b j (n j)).2, fun j => by unfold st_R; rw [e], by unfold st_S; rw [e]⟩
theorem ro_n (h : ro_ D σ σ1) : st_n σ1 = st_n σ ∧ st_c σ1 = st_c σ ∧ st_u σ1 = st_u σ := by
  have e := h.1
  exact ⟨by unfold st_n; rw [e], by unfold st_c; rw [e], by unfold st_u; rw [e]⟩
/-- the reference leaves the class alone -/
theorem j_ro (h : ro_ dM_ σ σ1) (j : J_ σ A R) : J_ σ1 A R := by
  obtain ⟨⟨w, x1, x2⟩, ⟨p1, p2⟩, ⟨o1, o2, o3⟩, ⟨L0, T0⟩, kn, d1, d2⟩ := j
  have lo : ∀ {a : Nat}, (a < 185 ∨ 218 < a) → eh_ σ σ1 a := fun z => eh_ro h z
  have hn := ro_n h
  have ta : ∀ b, ha_ σ b → b < 185 ∨ 218 < b := fun b z => by unfold ha_ at z; omega
  have tk := T0.1.2.2.1
  refine ⟨⟨ro_wd h w, ⟨x1.1, fun i zi => by rw [(lo (a := 129) (by omega)).1]; exact x1.2 i zi⟩, by rw [(lo (a := 128) (by omega)).1]; exact x2⟩, ⟨pq_eh p1 (lo (by omega)) (lo (by omega)) (lo (by omega)) (lo (by omega)) (lo (by omega)), p2⟩, ⟨Xo_eh o1 (lo (by omega)) (lo (by omega)), Xc_eh o2 (lo (by omega)) (lo (by omega)), Ep_eh o3 (lo (by omega)) (lo (by omega)) (lo (by omega)) (lo (by omega))⟩, ⟨L0, tk_eh T0 (by rw [hn.1]; exact Nat.le_refl _) (lo (by omega)) (lo (ta _ tk.2.1)) (lo (ta _ tk.2.2.1)) (lo (ta _ tk.2.2.2))⟩, fun m hm => ?_, d1, d2⟩
  have fa : fa_ m = 164 ∨ fa_ m = 169 ∨ fa_ m = 174 := fa_fi m
  have k := kn m hm
  have hf : ∀ b, hf_ σ (fa_ m) b → b < 185 ∨ 218 < b := fun b z => by unfold hf_ at z; omega
  have kf := k.1.2.2.1
  exact kn_eh k (by rw [hn.1]; exact Nat.le_refl _) (lo (by omega)) (lo (by omega)) (lo (by omega)) (lo (hf _ kf.1)) (lo (hf _ kf.2))
/-- what the reference tells of an exception -/
def tcd_ (i o n s : Nat) (E : String) : Nat := if E = "java/lang/IllegalArgumentException" then i else if E = "java/lang/IndexOutOfBoundsException" then o else if E = "java/util/NoSuchElementException" then n else s
/-- what comes back beside a told exception: an int, or a long -/
def Vn_ (e : String → Nat) (v : Value) : Prop := (∃ x : Int32, v = .int x ∧ e "" ≠ 9) ∨ (∃ x : Int64, v = .long x ∧ e "" = 9)
def rok_ (e : String → Nat) (r : rs_T) (v : Value) (t : Int32) : Prop := match r with
  | .inl (some w) => v = w ∧ t = i_ 0
  | .inl none => False
  | .inr E => t = i_ ((e E : Nat) : Int) ∧ Vn_ e v
/-- the reference's answer -/
def Ra_ (γ : ga_T) (μ : mr_T) (d : Nat) (as : List Value) (σ : st_T) (A' : ca_T) (c : Nat) (e : String → Nat) (r : rs_T) : Prop := ∃ σ1 v c', fn_ γ μ d as σ v σ1 ∧ Jr_ σ1 A' c' ∧ c' ≤ c + 100 ∧ ro_ dM_ σ σ1 ∧ rok_ e r v (st_I σ1 185 0)
theorem tcd_1 {i o n s : Nat} : tcd_ i o n s "java/lang/IllegalArgumentException" = i := if_pos rfl
theorem tcd_2 {i o n s : Nat} : tcd_ i o n s "java/lang/IndexOutOfBoundsException" = o := by
  unfold tcd_
  rw [if_neg (by decide), if_pos rfl]
theorem tcd_3 {i o n s : Nat} : tcd_ i o n s "java/util/NoSuchElementException" = n := by
  unfold tcd_
  rw [if_neg (by decide), if_neg (by decide), if_pos rfl]
theorem tcd_4 {i o n s : Nat} : tcd_ i o n s "java/lang/IllegalStateException" = s := by
  unfold tcd_
  rw [if_neg (by decide), if_neg (by decide), if_neg (by decide)]
/-- the store with what is thrown told -/
theorem th_I (v : Int32) : ro_ (fun a k => a = 185 ∧ k = 0) σ (pt_I σ 185 0 v) := ro_I ro_rf ⟨rfl, rfl⟩
theorem th_jr (h : Jr_ σ A c) (v : Int32) : Jr_ (pt_I σ 185 0 v) A c := ⟨h.1, rt0_cg (fun a k z => by rw [st_pI, if_neg (by omega)]) h.2.1, jm_ro (th_I v) (fun a k z _ _ => by unfold dW_; omega) h.2.2⟩
theorem th_nr {p : pr_T} (h : Nr_ σ p) (v : Int32) : Nr_ (pt_I σ 185 0 v) p := nr_ro (th_I v) (fun k z => by omega) h
theorem c_rfails (zw : Wd σ) {a b d : Bool} : fn_ γ m_X12_fails 0 [.ref 185, .int (if a = true then 1 else 0), .int (if b = true then 1 else 0), .int (if d = true then 1 else 0)] σ (.int (if (a || b || d) = true then 1 else 0)) (pt_I σ 185 0 (i_ (if a = true then 1 else if b = true then 2 else if d = true then 3 else 0))) := fn_q (fun Q zQ => e_X12_fails zw (by
  unfold p_X12_fails_0
  cases a <;> cases b <;> cases d
  · exact ⟨fun _ => ⟨fun _ => ⟨fun _ => ⟨fun _ => zQ, fun z => absurd (by decide) z⟩, fun z => absurd rfl z⟩, fun z => absurd rfl z⟩, fun z => absurd rfl z⟩
  · exact ⟨fun _ => ⟨fun _ => ⟨fun z => absurd z (by decide), fun _ => ⟨fun z => absurd z (by decide), fun _ => zQ⟩⟩, fun z => absurd rfl z⟩, fun z => absurd rfl z⟩
  · exact ⟨fun _ => ⟨fun z => absurd z (by decide), fun _ => ⟨fun z => absurd z (by decide), fun _ => zQ⟩⟩, fun z => absurd rfl z⟩
  · exact ⟨fun _ => ⟨fun z => absurd z (by decide), fun _ => ⟨fun z => absurd z (by decide), fun _ => zQ⟩⟩, fun z => absurd rfl z⟩
  · exact ⟨fun z => absurd z (by decide), fun _ => ⟨fun z => absurd z (by decide), fun _ => zQ⟩⟩
  · exact ⟨fun z => absurd z (by decide), fun _ => ⟨fun z => absurd z (by decide), fun _ => zQ⟩⟩
  · exact ⟨fun z => absurd z (by decide), fun _ => ⟨fun z => absurd z (by decide), fun _ => zQ⟩⟩
  · exact ⟨fun z => absurd z (by decide), fun _ => ⟨fun z => absurd z (by decide), fun _ => zQ⟩⟩))
theorem c_risIn (zw : Wd σ) {z a b : Int} (q0 : -2147483648 ≤ z ∧ z < 2147483648) (q1 : -2147483648 ≤ a ∧ a < 2147483648) (q2 : -2147483648 ≤ b ∧ b < 2147483648) : fn_ γ m_X12_isIn 0 [.int (i_ z), .int (i_ a), .int (i_ b)] σ (.int (if decide (a ≤ z ∧ z ≤ b) = true then 1 else 0)) σ := fn_q (fun Q zQ => e_X12_isIn zw (by
  unfold p_X12_isIn_0
  simp (disch := omega) only [i_lt]
  refine ⟨fun y => ?_, fun y => ⟨fun y2 => ?_, fun y2 => ?_⟩⟩
  · rw [if_neg (by rw [decide_eq_true_eq]; omega)] at zQ
    exact zQ
  · rw [if_neg (by rw [decide_eq_true_eq]; omega)] at zQ
    exact zQ
  · rw [if_pos (by rw [decide_eq_true_eq]; omega)] at zQ
    exact zQ))
theorem c_risNo (zw : Wd σ) {z : Int} (q0 : -2147483648 ≤ z ∧ z < 2147483648) : fn_ γ m_X12_isNoModel 1 [.ref 185, .int (i_ z)] σ (.int (if decide (¬ (0 ≤ z ∧ z < 3)) = true then 1 else 0)) σ := fn_q (fun Q zQ => e_X12_isNoModel zw (by
  unfold p_X12_isNoModel_0
  have y := c_risIn (γ := γ) zw q0 (a := 0) (b := 2) (by omega) (by omega)
  refine ⟨_, σ, zw, y, fun z1 => ?_, fun z1 => ?_⟩
  · rw [if_pos ?_] at zQ
    · exact zQ
    · rw [decide_eq_true_eq]
      intro z2
      rw [if_pos (by rw [decide_eq_true_eq]; omega)] at z1
      exact absurd z1 (by decide)
  · rw [if_neg ?_] at zQ
    · exact zQ
    · rw [decide_eq_true_eq]
      intro z2
      rw [if_neg (by rw [decide_eq_true_eq]; omega)] at z1
      exact z1 rfl))
theorem c_risInstr (zw : Wd σ) {p : pr_T} (zN : Nr_ σ p) {z : Int} (q0 : -2147483648 ≤ z ∧ z < 2147483648) : fn_ γ m_X12_isInstruction 1 [.ref 185, .int (i_ z)] σ (.int (if decide (0 ≤ z ∧ z < pN_ p) = true then 1 else 0)) σ := fn_q (fun Q zQ => e_X12_isInstruction zw (by
  unfold p_X12_isInstruction_0
  have b := zN.1.1
  rw [zN.2.1, k1_, i_sub, k0_]
  have y := c_risIn (γ := γ) zw q0 (a := 0) (b := (pN_ p : Int) - 1) (by omega) (by omega)
  have e : decide (0 ≤ z ∧ z ≤ (pN_ p : Int) - 1) = decide (0 ≤ z ∧ z < pN_ p) := decide_eq_decide.mpr (by omega)
  rw [e] at y
  refine ⟨_, σ, zw, y, ?_, zQ⟩
  split
  · exact Or.inr rfl
  · exact Or.inl rfl))
end JR
