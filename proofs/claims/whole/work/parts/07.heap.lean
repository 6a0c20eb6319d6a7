theorem cl_in0 : ∀ w ∈ wsX00, w ∈ tg_ := by decide +kernel
theorem cl_in1 : ∀ w ∈ wsX10, w ∈ tg_ := by decide +kernel
theorem cl_in2 : ∀ w ∈ wsX20, w ∈ tg_ := by decide +kernel
theorem cl_in3 : ∀ w ∈ wsX30, w ∈ tg_ := by decide +kernel
theorem cl_in4 : ∀ w ∈ wsX40, w ∈ tg_ := by decide +kernel
theorem cl_in5 : ∀ w ∈ wsX50, w ∈ tg_ := by decide +kernel
theorem cl_in6 : ∀ w ∈ wsX60, w ∈ tg_ := by decide +kernel
theorem cl_in7 : ∀ w ∈ wsX70, w ∈ tg_ := by decide +kernel
theorem cl_in9 : ∀ w ∈ wsX90, w ∈ tg_ := by decide +kernel
theorem cl_in10 : ∀ w ∈ wsX100, w ∈ tg_ := by decide +kernel
theorem cl_in11 : ∀ w ∈ wsX110, w ∈ tg_ := by decide +kernel
theorem cl_in12 : ∀ w ∈ wsX120, w ∈ tg_ := by decide +kernel
/-- what is known of each class of the pool -/
def cl_p (ci : Nat) (q : vw_C) : Prop := (∀ w ∈ u_ws q.1 q.2.1 q.2.2, w ∈ tg_) ∧ (∀ k, k < q.2.2 → parseFieldDescriptor (q.2.1 k).2.2.1 = some (ty_f ci k)) ∧ (∀ a, a < q.2.2 → ∀ b, b < q.2.2 → a ≠ b → (q.2.1 a).2.1 ≠ (q.2.1 b).2.1) ∧ nf_ ci = q.2.2
theorem cl_ok {ci : Nat} {q : vw_C} (h : vwCl[ci]? = some q) : cl_p ci q := by
  match ci, h with
  | 0, h => cases h; exact ⟨cl_in0, tyX0_ok, nmX0, rfl⟩
  | 1, h => cases h; exact ⟨cl_in1, tyX1_ok, nmX1, rfl⟩
  | 2, h => cases h; exact ⟨cl_in2, tyX2_ok, nmX2, rfl⟩
  | 3, h => cases h; exact ⟨cl_in3, tyX3_ok, nmX3, rfl⟩
  | 4, h => cases h; exact ⟨cl_in4, tyX4_ok, nmX4, rfl⟩
  | 5, h => cases h; exact ⟨cl_in5, tyX5_ok, nmX5, rfl⟩
  | 6, h => cases h; exact ⟨cl_in6, tyX6_ok, nmX6, rfl⟩
  | 7, h => cases h; exact ⟨cl_in7, tyX7_ok, nmX7, rfl⟩
  | 8, h => cases h; exact ⟨cl_in9, tyX9_ok, nmX9, rfl⟩
  | 9, h => cases h; exact ⟨cl_in10, tyX10_ok, nmX10, rfl⟩
  | 10, h => cases h; exact ⟨cl_in11, tyX11_ok, nmX11, rfl⟩
  | 11, h => cases h; exact ⟨cl_in12, tyX12_ok, nmX12, rfl⟩
  | n + 12, h => simp [vwCl] at h
/-- the instruction's field, by its class in the pool and its number -/
def fl_ (own : String) (x ci k : Nat) : Prop := ∃ q : vw_C, vwCl[ci]? = some q ∧ k < q.2.2 ∧ Cond.fieldLink own x (q.2.1 k).1 (q.2.1 k).2.1 (q.2.1 k).2.2.1 ∈ tg_
theorem ce_obj {γ : ga_T} {ad : Nat → Nat} {σ : st_T} {a ci : Nat} (h : (st_S σ a).1 = ci + 1) (hc : ci < 12) : ce_ γ ad σ a = .inr (ci, fs_ ad σ a ci) := by
  unfold ce_
  rw [h]
  rw [if_neg (by omega), if_neg (by omega), if_neg (by omega), if_neg (by omega), if_neg (by omega)]
  rfl
theorem fs_at {ad : Nat → Nat} {σ : st_T} {a ci k : Nat} (h : k < nf_ ci) : (fs_ ad σ a ci)[k]? = some (fv_ ad σ a (ty_f ci k) k) := by
  unfold fs_
  rw [List.getElem?_map, List.getElem?_range h]
  rfl
theorem vw_lt {ci : Nat} {q : vw_C} (h : vwCl[ci]? = some q) : ci < 12 := (List.getElem?_eq_some_iff.mp h).1
theorem va_re_ok {σ : st_T} (hr : ∀ b k r, st_R σ b k = some r → r < st_n σ) (b k : Nat) : ok_ σ (va_rf (st_R σ b k)) := by
  intro a h
  cases hv : st_R σ b k with
  | none => rw [hv] at h; cases h
  | some r => rw [hv] at h; cases h; exact hr b k _ hv
section FG
variable {γ : ga_T} {μ : mr_T} {d pc : Nat} {ls : List (Nat × Value)} {st : List Value} {σ : st_T} {Q : rs_T → st_T → Prop}
theorem vr_get0 {a x ci k : Nat} {v : Value} (hd : decode μ.2.1 pc = .ok (.getfield x, 3)) (hf : fl_ μ.1.cls x ci k) (hs : (st_S σ a).1 = ci + 1) (hv : ∀ ad, fv_ ad σ a (ty_f ci k) k = cv_ ad v) (ho : (∀ b k r, st_R σ b k = some r → r < st_n σ) → ok_ σ v) (kk : vv_ γ μ d (pc + 3) ls (v :: st) σ Q) : vv_ γ μ d pc ls (.ref a :: st) σ Q := by
  refine vs_pure (fun p e R s m args below meth c ad H locs cells slots la Z C hwo hS hl _ _ kk => ?_) (fun _ hr o1 o2 => ⟨o1, fun w hw => (List.mem_cons.mp hw).elim (fun e => by rw [e]; exact ho hr) (fun h => o2 w (List.mem_cons_of_mem _ h))⟩) kk
  obtain ⟨q, hq, hk, hlink⟩ := hf
  obtain ⟨g1, g2, g3, g4⟩ := cl_ok hq
  obtain ⟨b1, b2⟩ := hwo.2.2.2.1 a (by rw [hs]; exact Nat.succ_ne_zero _)
  have he := wl_get (γ := γ) (ad := ad) b1 b2
  rw [ce_obj hs (vw_lt hq)] at he
  exact va_get (v := cv_ ad v) C.1 C.2.1 C.2.2.2.2.2.1 g1 C.2.2.2.2.1 C.2.2.2.2.2.2.2.2.1 hwo.1 (a - 128) he hq k hk (C.2.2.2.2.2.1 _ hlink) (fun _ h => h) (by rw [fs_at (by rw [g4]; exact hk), hv ad]) hd (kk la hl)
theorem vr_getI {a x ci k : Nat} (hd : decode μ.2.1 pc = .ok (.getfield x, 3)) (hf : fl_ μ.1.cls x ci k) (hs : (st_S σ a).1 = ci + 1) (ht : ty_f ci k = .int) (kk : vv_ γ μ d (pc + 3) ls (.int (st_I σ a k) :: st) σ Q) : vv_ γ μ d pc ls (.ref a :: st) σ Q :=
  vr_get0 hd hf hs (fun ad => by rw [ht]; rfl) (fun _ => ok_i σ _) kk
theorem vr_getZ {a x ci k : Nat} (hd : decode μ.2.1 pc = .ok (.getfield x, 3)) (hf : fl_ μ.1.cls x ci k) (hs : (st_S σ a).1 = ci + 1) (ht : ty_f ci k = .boolean) (kk : vv_ γ μ d (pc + 3) ls (.int (st_I σ a k) :: st) σ Q) : vv_ γ μ d pc ls (.ref a :: st) σ Q :=
  vr_get0 hd hf hs (fun ad => by rw [ht]; rfl) (fun _ => ok_i σ _) kk
theorem vr_getL {a x ci k : Nat} (hd : decode μ.2.1 pc = .ok (.getfield x, 3)) (hf : fl_ μ.1.cls x ci k) (hs : (st_S σ a).1 = ci + 1) (ht : ty_f ci k = .long) (kk : vv_ γ μ d (pc + 3) ls (.long (st_L σ a k) :: st) σ Q) : vv_ γ μ d pc ls (.ref a :: st) σ Q :=
  vr_get0 hd hf hs (fun ad => by rw [ht]; rfl) (fun _ => ok_l σ _) kk
def ty_r (t : FieldType) : Prop := (∃ n, t = .object n) ∨ ∃ n, t = .array n
theorem fv_r {ad : Nat → Nat} {σ : st_T} {a : Nat} {t : FieldType} {k : Nat} (h : ty_r t) : fv_ ad σ a t k = va_re ad (st_R σ a k) := by
  rcases h with ⟨n, rfl⟩ | ⟨n, rfl⟩ <;> rfl
theorem vr_getR {a x ci k b : Nat} (hd : decode μ.2.1 pc = .ok (.getfield x, 3)) (hf : fl_ μ.1.cls x ci k) (hs : (st_S σ a).1 = ci + 1) (ht : ty_r (ty_f ci k)) (hb : st_R σ a k = some b) (kk : vv_ γ μ d (pc + 3) ls (.ref b :: st) σ Q) : vv_ γ μ d pc ls (.ref a :: st) σ Q :=
  vr_get0 hd hf hs (fun ad => by rw [fv_r ht, hb]; rfl) (fun hr => by have := va_re_ok hr a k; rw [hb] at this; exact this) kk
/-- a step that writes one tracked cell: the row gives the new cell at its place -/
theorem vs_put {a pc' : Nat} {st' : List Value} {σ1 : st_T}
    (hn : st_n σ1 = st_n σ) (hc : st_c σ1 = st_c σ) (hu : st_u σ1 = st_u σ) (hS' : ∀ b, st_S σ1 b = st_S σ b) (hR' : 128 ≤ st_n σ → (∀ v ∈ st, ok_ σ v) → (∀ b k r, st_R σ b k = some r → r < st_n σ) → ∀ b k r, st_R σ1 b k = some r → r < st_n σ) (hs : (st_S σ a).1 ≠ 0) (ho : ∀ γ ad b, b ≠ a → ce_ γ ad σ1 b = ce_ γ ad σ b) (hst : ∀ v ∈ st', v ∈ st)
    (h : ∀ (p : Program) (e : Env) (R : Room) (s : State) (m : MethodId) (args : Array Value) (below : List Frame) (meth : Method) (c : Code) (ad : Nat → Nat) (H : Heap) (locs : List Loc) (cells slots : Nat) (la : Array Slot) (Z : State → Prop), cx_ γ μ p s m args meth c → wo_ γ ad σ H → va_S (ga_A γ) s.heap H locs → (∀ v ∈ st, ok_ σ v) → lv_has la μ.2.2.1 (lc_ ad ls) → d ≤ R.frames → 64 * d ≤ R.locals → 128 ≤ a → (wl_ γ ad σ)[a - 128]? = some (ad a, ce_ γ ad σ a) →
      (∀ (H1 : Heap) (locs1 : List Loc), va_P γ.2.1 vwCl ((wl_ γ ad σ).set (a - 128) (ad a, ce_ γ ad σ1 a)) H1 → va_D (ga_A γ) ((wl_ γ ad σ).set (a - 128) (ad a, ce_ γ ad σ1 a)) → va_S (ga_A γ) s.heap H1 locs1 → W p γ.1 e R s m args below meth c H1 locs1 cells slots Z (F0 m pc' la (st'.map (cv_ ad)))) → W p γ.1 e R s m args below meth c H locs cells slots Z (F0 m pc la (st.map (cv_ ad))))
    (k : vv_ γ μ d pc' ls st' σ1 Q) : vv_ γ μ d pc ls st σ Q := by
  obtain ⟨r, σ', hQ, hle, hw⟩ := k
  have hle' : le_ σ σ' := ⟨by rw [← hn]; exact hle.1, by rw [← hc]; exact hle.2.1, by rw [← hu]; exact hle.2.2⟩
  refine ⟨r, σ', hQ, hle', ?_⟩
  intro p e R s m args below meth c ad H locs cells slots la hcx hx hwo hS hl ho1 ho2 hR1 hR2 hR3 hR4
  obtain ⟨b1, b2⟩ := hwo.2.2.2.1 a hs
  have hset := wl_set (γ := γ) (ad := ad) (σ' := σ1) b1 b2 hn (ho γ ad)
  refine h p e R s m args below meth c ad H locs cells slots la _ hcx hwo hS ho2 hl hR3 hR4 b1 (wl_get b1 b2) (fun H1 locs1 hP hD hS1 => ?_)
  rw [← hset] at hP hD
  have hwo1 : wo_ γ ad σ1 H1 := ⟨hP, hD, hwo.2.2.1, fun b hb => by rw [hS'] at hb; rw [hn]; exact hwo.2.2.2.1 b hb, by rw [hn]; exact hwo.2.2.2.2.1, by rw [hn]; exact hR' hwo.2.2.2.2.1 ho2 hwo.2.2.2.2.2⟩
  have hok : ∀ v, ok_ σ v → ok_ σ1 v := fun v hv => ok_up (by rw [hn]; exact Nat.le_refl _) hv
  have k1 := hw p e R s m args below meth c ad H1 locs1 cells slots la hcx hx hwo1 hS1 hl (fun q hq => hok _ (ho1 q hq)) (fun v hv => hok _ (ho2 v (hst v hv))) (by rw [hc]; exact hR1) (by rw [hu]; exact hR2) hR3 hR4
  intro T hT X
  obtain ⟨t, a1, b1⟩ := k1 T hT X
  rw [hc, hu] at b1
  exact ⟨t, a1, fin_up (fun _ _ => rfl) (by rw [hn]; exact Nat.le_refl _) b1⟩
end FG
