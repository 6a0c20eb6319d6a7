/-- the instruction's field, by its class in the pool and its number -/
def fl_ (own : String) (x ci k : Nat) : Prop := ∃ q : vw_C, vwCl[ci]? = some q ∧ k < q.2.2 ∧ Cond.fieldLink own x (q.2.1 k).1 (q.2.1 k).2.1 (q.2.1 k).2.2.1 ∈ tg_
theorem ce_obj {γ : ga_T} {ad : Nat → Nat} {σ : st_T} {a ci : Nat} (h : (st_S σ a).1 = ci + 1) (hc : ci < 12) : ce_ γ ad σ a = .inr (ci, fs_ ad σ a ci) := by
  unfold ce_
  rw [h]
  rw [if_neg (by omega), if_neg (by omega), if_neg (by omega), if_neg (by omega), if_neg (by omega)]
  rfl
theorem fs_at {ad : Nat → Nat} {σ : st_T} {a ci k : Nat} (h : k < nf_ ci) : (fs_ ad σ a ci)[k]? = some (fv_ ad σ a (ty_f ci k) k) := by
  unfold fs_
  rw [List.getElem?_map, List.getElem?_range h]
  rfl
theorem vw_lt {ci : Nat} {q : vw_C} (h : vwCl[ci]? = some q) : ci < 12 := (List.getElem?_eq_some_iff.mp h).1
theorem va_re_ok {σ : st_T} (hr : ∀ b k r, st_R σ b k = some r → r < st_n σ) (b k : Nat) : ok_ σ (va_rf (st_R σ b k)) := by
  intro a h
  cases hv : st_R σ b k with
  | none => rw [hv] at h; cases h
  | some r => rw [hv] at h; cases h; exact hr b k _ hv
section FG
variable {γ : ga_T} {μ : mr_T} {d pc : Nat} {ls : List (Nat × Value)} {st : List Value} {σ : st_T} {Q : rs_T → st_T → Prop}
theorem vr_get0 {a x ci k : Nat} {v : Value} (hd : decode μ.2.1 pc = .ok (.getfield x, 3)) (hf : fl_ μ.1.cls x ci k) (hs : (st_S σ a).1 = ci + 1) (hv : ∀ ad, fv_ ad σ a (ty_f ci k) k = cv_ ad v) (ho : (∀ b k r, st_R σ b k = some r → r < st_n σ) → ok_ σ v) (kk : vv_ γ μ d (pc + 3) ls (v :: st) σ Q) : vv_ γ μ d pc ls (.ref a :: st) σ Q := by
  refine vs_pure (fun p e R s m args below meth c ad H locs cells slots la Z C hwo hS hl _ _ kk => ?_) (fun _ hr o1 o2 => ⟨o1, fun w hw => (List.mem_cons.mp hw).elim (fun e => by rw [e]; exact ho hr) (fun h => o2 w (List.mem_cons_of_mem _ h))⟩) kk
  obtain ⟨q, hq, hk, hlink⟩ := hf
  obtain ⟨g1, g2, g3, g4⟩ := cl_ok hq
  obtain ⟨b1, b2⟩ := hwo.2.2.2.1 a (by rw [hs]; exact Nat.succ_ne_zero _)
  have he := wl_get (γ := γ) (ad := ad) b1 b2
  rw [ce_obj hs (vw_lt hq)] at he
  exact va_get (v := cv_ ad v) C.1 C.2.1 C.2.2.2.2.2.1 g1 C.2.2.2.2.1 C.2.2.2.2.2.2.2.2.1 hwo.1 (a - 128) he hq k hk (C.2.2.2.2.2.1 _ hlink) (fun _ h => h) (by rw [fs_at (by rw [g4]; exact hk), hv ad]) hd (kk la hl)
theorem vr_getI {a x ci k : Nat} (hd : decode μ.2.1 pc = .ok (.getfield x, 3)) (hf : fl_ μ.1.cls x ci k) (hs : (st_S σ a).1 = ci + 1) (ht : ty_f ci k = .int) (kk : vv_ γ μ d (pc + 3) ls (.int (st_I σ a k) :: st) σ Q) : vv_ γ μ d pc ls (.ref a :: st) σ Q :=
  vr_get0 hd hf hs (fun ad => by rw [ht]; rfl) (fun _ => ok_i σ _) kk
theorem vr_getZ {a x ci k : Nat} (hd : decode μ.2.1 pc = .ok (.getfield x, 3)) (hf : fl_ μ.1.cls x ci k) (hs : (st_S σ a).1 = ci + 1) (ht : ty_f ci k = .boolean) (kk : vv_ γ μ d (pc + 3) ls (.int (st_I σ a k) :: st) σ Q) : vv_ γ μ d pc ls (.ref a :: st) σ Q :=
  vr_get0 hd hf hs (fun ad => by rw [ht]; rfl) (fun _ => ok_i σ _) kk
theorem vr_getL {a x ci k : Nat} (hd : decode μ.2.1 pc = .ok (.getfield x, 3)) (hf : fl_ μ.1.cls x ci k) (hs : (st_S σ a).1 = ci + 1) (ht : ty_f ci k = .long) (kk : vv_ γ μ d (pc + 3) ls (.long (st_L σ a k) :: st) σ Q) : vv_ γ μ d pc ls (.ref a :: st) σ Q :=
  vr_get0 hd hf hs (fun ad => by rw [ht]; rfl) (fun _ => ok_l σ _) kk
def ty_r (t : FieldType) : Prop := (∃ n, t = .object n) ∨ ∃ n, t = .array n
theorem fv_r {ad : Nat → Nat} {σ : st_T} {a : Nat} {t : FieldType} {k : Nat} (h : ty_r t) : fv_ ad σ a t k = va_re ad (st_R σ a k) := by
  rcases h with ⟨n, rfl⟩ | ⟨n, rfl⟩ <;> rfl
theorem vr_getR {a x ci k b : Nat} (hd : decode μ.2.1 pc = .ok (.getfield x, 3)) (hf : fl_ μ.1.cls x ci k) (hs : (st_S σ a).1 = ci + 1) (ht : ty_r (ty_f ci k)) (hb : st_R σ a k = some b) (kk : vv_ γ μ d (pc + 3) ls (.ref b :: st) σ Q) : vv_ γ μ d pc ls (.ref a :: st) σ Q :=
  vr_get0 hd hf hs (fun ad => by rw [fv_r ht, hb]; rfl) (fun hr => by have := va_re_ok hr a k; rw [hb] at this; exact this) kk
/-- a step that writes one tracked cell: the row gives the new cell at its place -/
theorem vs_put {a pc' : Nat} {st' : List Value} {σ1 : st_T}
    (hn : st_n σ1 = st_n σ) (hc : st_c σ1 = st_c σ) (hu : st_u σ1 = st_u σ) (hS' : ∀ b, st_S σ1 b = st_S σ b) (hR' : 128 ≤ st_n σ → (∀ v ∈ st, ok_ σ v) → (∀ b k r, st_R σ b k = some r → r < st_n σ) → ∀ b k r, st_R σ1 b k = some r → r < st_n σ) (hs : (st_S σ a).1 ≠ 0) (ho : ∀ γ ad b, b ≠ a → ce_ γ ad σ1 b = ce_ γ ad σ b) (hst : ∀ v ∈ st', v ∈ st)
    (h : ∀ (p : Program) (e : Env) (R : Room) (s : State) (m : MethodId) (args : Array Value) (below : List Frame) (meth : Method) (c : Code) (ad : Nat → Nat) (H : Heap) (locs : List Loc) (cells slots : Nat) (la : Array Slot) (Z : State → Prop), cx_ γ μ p s m args meth c → wo_ γ ad σ H → va_S (ga_A γ) s.heap H locs → (∀ v ∈ st, ok_ σ v) → lv_has la μ.2.2.1 (lc_ ad ls) → d ≤ R.frames → 64 * d ≤ R.locals → 128 ≤ a → (wl_ γ ad σ)[a - 128]? = some (ad a, ce_ γ ad σ a) →
      (∀ (H1 : Heap) (locs1 : List Loc), va_P γ.2.1 vwCl ((wl_ γ ad σ).set (a - 128) (ad a, ce_ γ ad σ1 a)) H1 → va_D (ga_A γ) ((wl_ γ ad σ).set (a - 128) (ad a, ce_ γ ad σ1 a)) → va_S (ga_A γ) s.heap H1 locs1 → W p γ.1 e R s m args below meth c H1 locs1 cells slots Z (F0 m pc' la (st'.map (cv_ ad)))) → W p γ.1 e R s m args below meth c H locs cells slots Z (F0 m pc la (st.map (cv_ ad))))
    (k : vv_ γ μ d pc' ls st' σ1 Q) : vv_ γ μ d pc ls st σ Q := by
  obtain ⟨r, σ', hQ, hle, hw⟩ := k
  have hle' : le_ σ σ' := ⟨by rw [← hn]; exact hle.1, by rw [← hc]; exact hle.2.1, by rw [← hu]; exact hle.2.2⟩
  refine ⟨r, σ', hQ, hle', ?_⟩
  intro p e R s m args below meth c ad H locs cells slots la hcx hx hwo hS hl ho1 ho2 hR1 hR2 hR3 hR4
  obtain ⟨b1, b2⟩ := hwo.2.2.2.1 a hs
  have hset := wl_set (γ := γ) (ad := ad) (σ' := σ1) b1 b2 hn (ho γ ad)
  refine h p e R s m args below meth c ad H locs cells slots la _ hcx hwo hS ho2 hl hR3 hR4 b1 (wl_get b1 b2) (fun H1 locs1 hP hD hS1 => ?_)
  rw [← hset] at hP hD
  have hwo1 : wo_ γ ad σ1 H1 := ⟨hP, hD, hwo.2.2.1, fun b hb => by rw [hS'] at hb; rw [hn]; exact hwo.2.2.2.1 b hb, by rw [hn]; exact hwo.2.2.2.2.1, by rw [hn]; exact hR' hwo.2.2.2.2.1 ho2 hwo.2.2.2.2.2⟩
  have hok : ∀ v, ok_ σ v → ok_ σ1 v := fun v hv => ok_up (by rw [hn]; exact Nat.le_refl _) hv
  have k1 := hw p e R s m args below meth c ad H1 locs1 cells slots la hcx hx hwo1 hS1 hl (fun q hq => hok _ (ho1 q hq)) (fun v hv => hok _ (ho2 v (hst v hv))) (by rw [hc]; exact hR1) (by rw [hu]; exact hR2) hR3 hR4
  intro T hT X
  obtain ⟨t, a1, b1⟩ := k1 T hT X
  rw [hc, hu] at b1
  exact ⟨t, a1, fin_up (fun _ _ => rfl) (by rw [hn]; exact Nat.le_refl _) b1⟩
end FG
theorem fs_put {ad : Nat → Nat} {σ σ1 : st_T} {a ci k : Nat} (hk : k < nf_ ci) (ho : ∀ j, j ≠ k → fv_ ad σ1 a (ty_f ci j) j = fv_ ad σ a (ty_f ci j) j) : fs_ ad σ1 a ci = (fs_ ad σ a ci).set k (fv_ ad σ1 a (ty_f ci k) k) := by
  apply List.ext_getElem?
  intro j
  by_cases hj : j = k
  · rw [hj, fs_at hk, List.getElem?_set_self (by unfold fs_; rw [List.length_map, List.length_range]; exact hk)]
  · rw [List.getElem?_set_ne (Ne.symm hj)]
    by_cases hl : j < nf_ ci
    · rw [fs_at hl, fs_at hl, ho j hj]
    · unfold fs_
      rw [List.getElem?_eq_none (by rw [List.length_map, List.length_range]; omega), List.getElem?_eq_none (by rw [List.length_map, List.length_range]; omega)]
theorem ce_oth {γ : ga_T} {ad : Nat → Nat} {σ σ1 : st_T} {b : Nat} (h1 : ∀ j, st_I σ1 b j = st_I σ b j) (h2 : ∀ j, st_L σ1 b j = st_L σ b j) (h3 : ∀ j, st_R σ1 b j = st_R σ b j) (h4 : st_S σ1 b = st_S σ b) : ce_ γ ad σ1 b = ce_ γ ad σ b := by
  have e1 : st_I σ1 b = st_I σ b := funext h1
  have e2 : st_L σ1 b = st_L σ b := funext h2
  have e3 : st_R σ1 b = st_R σ b := funext h3
  have e4 : ∀ ci, fs_ ad σ1 b ci = fs_ ad σ b ci := fun ci => by
    unfold fs_
    refine List.map_congr_left (fun k _ => ?_)
    unfold fv_
    rw [h1, h2, h3]
  unfold ce_
  rw [h4, e1, e2, e3, e4]
theorem pI_oth {γ : ga_T} {ad : Nat → Nat} (σ : st_T) (a k : Nat) (v : Int32) (b : Nat) (hb : b ≠ a) : ce_ γ ad (pt_I σ a k v) b = ce_ γ ad σ b :=
  ce_oth (fun j => by rw [st_pI, if_neg (fun h => hb h.1)]) (fun _ => rfl) (fun _ => rfl) rfl
theorem pL_oth {γ : ga_T} {ad : Nat → Nat} (σ : st_T) (a k : Nat) (v : Int64) (b : Nat) (hb : b ≠ a) : ce_ γ ad (pt_L σ a k v) b = ce_ γ ad σ b :=
  ce_oth (fun _ => rfl) (fun j => by rw [st_pL, if_neg (fun h => hb h.1)]) (fun _ => rfl) rfl
theorem pR_oth {γ : ga_T} {ad : Nat → Nat} (σ : st_T) (a k : Nat) (v : Option Nat) (b : Nat) (hb : b ≠ a) : ce_ γ ad (pt_R σ a k v) b = ce_ γ ad σ b :=
  ce_oth (fun _ => rfl) (fun _ => rfl) (fun j => by rw [st_pR, if_neg (fun h => hb h.1)]) rfl
section FP
variable {γ : ga_T} {μ : mr_T} {d pc : Nat} {ls : List (Nat × Value)} {st : List Value} {σ : st_T} {Q : rs_T → st_T → Prop}
theorem vr_put0 {a x ci k : Nat} {v : Value} {σ1 : st_T} (hd : decode μ.2.1 pc = .ok (.putfield x, 3)) (hf : fl_ μ.1.cls x ci k) (hs : (st_S σ a).1 = ci + 1)
    (hfin : ∀ q, vwCl[ci]? = some q → (q.2.1 k).2.2.2 = false ∨ ((q.2.1 k).2.2.2 = true ∧ μ.1.name = "<init>" ∧ (q.2.1 k).1 = μ.1.cls))
    (hn : st_n σ1 = st_n σ) (hc : st_c σ1 = st_c σ) (hu : st_u σ1 = st_u σ) (hS' : ∀ b, st_S σ1 b = st_S σ b) (hR' : 128 ≤ st_n σ → ok_ σ v → (∀ b k r, st_R σ b k = some r → r < st_n σ) → ∀ b k r, st_R σ1 b k = some r → r < st_n σ) (ho : ∀ γ ad b, b ≠ a → ce_ γ ad σ1 b = ce_ γ ad σ b)
    (hk : ∀ ad j, j ≠ k → fv_ ad σ1 a (ty_f ci j) j = fv_ ad σ a (ty_f ci j) j) (hv : ∀ ad, fv_ ad σ1 a (ty_f ci k) k = cv_ ad v) (hnr : ∀ ad, narrow (ty_f ci k) (cv_ ad v) = cv_ ad v) (hfit : ∀ ad, fits (ty_f ci k) (cv_ ad v) = true)
    (kk : vv_ γ μ d (pc + 3) ls st σ1 Q) : vv_ γ μ d pc ls (v :: .ref a :: st) σ Q := by
  refine vs_put (a := a) hn hc hu hS' (fun h8 h => hR' h8 (h v List.mem_cons_self)) (by rw [hs]; exact Nat.succ_ne_zero _) ho (fun w hw => List.mem_cons_of_mem _ (List.mem_cons_of_mem _ hw)) (fun p e R s m args below meth c ad H locs cells slots la Z C hwo hS _ _ _ _ _ he kk => ?_) kk
  obtain ⟨q, hq, hkq, hlink⟩ := hf
  obtain ⟨g1, g2, g3, g4⟩ := cl_ok hq
  have hlt := vw_lt hq
  rw [ce_obj hs hlt] at he
  have e1 : ce_ γ ad σ1 a = .inr (ci, (fs_ ad σ a ci).set k (cv_ ad v)) := by
    rw [ce_obj (by rw [hS']; exact hs) hlt, fs_put (by rw [g4]; exact hkq) (hk ad), hv]
  rw [e1] at kk
  have hln : k < (fs_ ad σ a ci).length := by unfold fs_; rw [List.length_map, List.length_range, g4]; exact hkq
  rcases hfin q hq with hfin | ⟨hfin, hnm, hdc⟩
  · exact va_put C.1 C.2.1 C.2.2.2.2.2.1 g1 (ty_f ci) g2 g3 C.2.2.2.2.1 C.2.2.2.2.2.2.2.2.1 hwo.1 hwo.2.1 hS (a - 128) he hq k hkq (C.2.2.2.2.2.1 _ hlink) (fun _ h => h) hfin (g2 k hkq) (hnr ad) (hfit ad) hln hd kk
  · exact va_putF C.1 C.2.1 C.2.2.2.2.2.1 g1 (ty_f ci) g2 g3 C.2.2.2.2.1 C.2.2.2.2.2.2.2.2.1 hwo.1 hwo.2.1 hS (a - 128) he hq k hkq (C.2.2.2.2.2.1 _ hlink) (fun _ h => h) hfin (by rw [C.2.2.2.2.2.2.2.1]; exact hnm) hdc (g2 k hkq) (hnr ad) (hfit ad) hln hd kk
theorem pI_fv {σ : st_T} {a k : Nat} {v : Int32} (ad : Nat → Nat) (t : FieldType) (j : Nat) (hj : j ≠ k) : fv_ ad (pt_I σ a k v) a t j = fv_ ad σ a t j := by
  have e : st_I (pt_I σ a k v) a j = st_I σ a j := by rw [st_pI, if_neg (fun h => hj h.2)]
  unfold fv_
  rw [e]
  rfl
theorem pL_fv {σ : st_T} {a k : Nat} {v : Int64} (ad : Nat → Nat) (t : FieldType) (j : Nat) (hj : j ≠ k) : fv_ ad (pt_L σ a k v) a t j = fv_ ad σ a t j := by
  have e : st_L (pt_L σ a k v) a j = st_L σ a j := by rw [st_pL, if_neg (fun h => hj h.2)]
  unfold fv_
  rw [e]
  rfl
theorem pR_fv {σ : st_T} {a k : Nat} {v : Option Nat} (ad : Nat → Nat) (t : FieldType) (j : Nat) (hj : j ≠ k) : fv_ ad (pt_R σ a k v) a t j = fv_ ad σ a t j := by
  have e : st_R (pt_R σ a k v) a j = st_R σ a j := by rw [st_pR, if_neg (fun h => hj h.2)]
  unfold fv_
  rw [e]
  rfl
theorem vr_putI {a x ci k : Nat} {v : Int32} (hd : decode μ.2.1 pc = .ok (.putfield x, 3)) (hf : fl_ μ.1.cls x ci k) (hs : (st_S σ a).1 = ci + 1) (ht : ty_f ci k = .int) (hfin : ∀ q, vwCl[ci]? = some q → (q.2.1 k).2.2.2 = false)
    (kk : vv_ γ μ d (pc + 3) ls st (pt_I σ a k v) Q) : vv_ γ μ d pc ls (.int v :: .ref a :: st) σ Q :=
  vr_put0 (σ1 := pt_I σ a k v) hd hf hs (fun q h => Or.inl (hfin q h)) rfl rfl rfl (fun _ => rfl) (fun _ _ h => h) (fun γ ad b hb => pI_oth σ a k v b hb) (fun ad j hj => pI_fv ad _ j hj) (fun ad => by rw [ht]; show Value.int (st_I (pt_I σ a k v) a k) = _; rw [st_pI, if_pos ⟨rfl, rfl⟩]; rfl) (fun ad => by rw [ht]; rfl) (fun ad => by rw [ht]; rfl) kk
theorem vr_putZ {a x ci k : Nat} {v : Int32} (hd : decode μ.2.1 pc = .ok (.putfield x, 3)) (hf : fl_ μ.1.cls x ci k) (hs : (st_S σ a).1 = ci + 1) (ht : ty_f ci k = .boolean) (hfin : ∀ q, vwCl[ci]? = some q → (q.2.1 k).2.2.2 = false) (hz : v = 0 ∨ v = 1)
    (kk : vv_ γ μ d (pc + 3) ls st (pt_I σ a k v) Q) : vv_ γ μ d pc ls (.int v :: .ref a :: st) σ Q :=
  vr_put0 (σ1 := pt_I σ a k v) hd hf hs (fun q h => Or.inl (hfin q h)) rfl rfl rfl (fun _ => rfl) (fun _ _ h => h) (fun γ ad b hb => pI_oth σ a k v b hb) (fun ad j hj => pI_fv ad _ j hj) (fun ad => by rw [ht]; show Value.int (st_I (pt_I σ a k v) a k) = _; rw [st_pI, if_pos ⟨rfl, rfl⟩]; rfl) (fun ad => by rw [ht]; rcases hz with rfl | rfl <;> rfl) (fun ad => by rw [ht]; rcases hz with rfl | rfl <;> rfl) kk
theorem vr_putL {a x ci k : Nat} {v : Int64} (hd : decode μ.2.1 pc = .ok (.putfield x, 3)) (hf : fl_ μ.1.cls x ci k) (hs : (st_S σ a).1 = ci + 1) (ht : ty_f ci k = .long) (hfin : ∀ q, vwCl[ci]? = some q → (q.2.1 k).2.2.2 = false)
    (kk : vv_ γ μ d (pc + 3) ls st (pt_L σ a k v) Q) : vv_ γ μ d pc ls (.long v :: .ref a :: st) σ Q :=
  vr_put0 (σ1 := pt_L σ a k v) hd hf hs (fun q h => Or.inl (hfin q h)) rfl rfl rfl (fun _ => rfl) (fun _ _ h => h) (fun γ ad b hb => pL_oth σ a k v b hb) (fun ad j hj => pL_fv ad _ j hj) (fun ad => by rw [ht]; show Value.long (st_L (pt_L σ a k v) a k) = _; rw [st_pL, if_pos ⟨rfl, rfl⟩]; rfl) (fun ad => by rw [ht]; rfl) (fun ad => by rw [ht]; rfl) kk
theorem pR_ok {σ : st_T} {a k : Nat} {v : Option Nat} (hv : ok_ σ (va_rf v)) (h : ∀ b k r, st_R σ b k = some r → r < st_n σ) : ∀ b j r, st_R (pt_R σ a k v) b j = some r → r < st_n σ := by
  intro b j r hr
  rw [st_pR] at hr
  by_cases hq : b = a ∧ j = k
  · rw [if_pos hq] at hr
    exact hv r (by rw [hr]; rfl)
  · rw [if_neg hq] at hr
    exact h b j r hr
theorem vr_putR {a x ci k b : Nat} (hd : decode μ.2.1 pc = .ok (.putfield x, 3)) (hf : fl_ μ.1.cls x ci k) (hs : (st_S σ a).1 = ci + 1) (ht : ty_r (ty_f ci k))
    (hfin : ∀ q, vwCl[ci]? = some q → (q.2.1 k).2.2.2 = false ∨ ((q.2.1 k).2.2.2 = true ∧ μ.1.name = "<init>" ∧ (q.2.1 k).1 = μ.1.cls))
    (kk : vv_ γ μ d (pc + 3) ls st (pt_R σ a k (some b)) Q) : vv_ γ μ d pc ls (.ref b :: .ref a :: st) σ Q :=
  vr_put0 (σ1 := pt_R σ a k (some b)) hd hf hs hfin rfl rfl rfl (fun _ => rfl) (fun _ h1 h => pR_ok (v := some b) h1 h) (fun γ ad c hc => pR_oth σ a k _ c hc) (fun ad j hj => pR_fv ad _ j hj) (fun ad => by rw [fv_r ht, st_pR, if_pos ⟨rfl, rfl⟩]; rfl) (fun ad => by rcases ht with ⟨n, e⟩ | ⟨n, e⟩ <;> rw [e] <;> rfl) (fun ad => by rcases ht with ⟨n, e⟩ | ⟨n, e⟩ <;> rw [e] <;> rfl) kk
/-- arrays -/
theorem ce_i {ad : Nat → Nat} {a n : Nat} (h : st_S σ a = (21, n)) : ce_ γ ad σ a = .inl (γ.2.2.1 21, n, .inl (st_I σ a)) := by
  unfold ce_
  rw [h]
  rfl
theorem ce_l {ad : Nat → Nat} {a n : Nat} (h : st_S σ a = (22, n)) : ce_ γ ad σ a = .inl (γ.2.2.1 22, n, .inr (.inl (st_L σ a))) := by
  unfold ce_
  rw [h]
  rfl
theorem ce_b {ad : Nat → Nat} {a n : Nat} (h : st_S σ a = (23, n)) : ce_ γ ad σ a = .inl (γ.2.2.1 23, n, .inl (st_I σ a)) := by
  unfold ce_
  rw [h]
  rfl
theorem ce_z {ad : Nat → Nat} {a n : Nat} (h : st_S σ a = (24, n)) : ce_ γ ad σ a = .inl (γ.2.2.1 24, n, .inl (st_I σ a)) := by
  unfold ce_
  rw [h]
  rfl
theorem ce_q {ad : Nat → Nat} {a n : Nat} (h : st_S σ a = (25, n)) : ce_ γ ad σ a = .inl (γ.2.2.1 25, n, .inr (.inr (.inr (.inr (fun j => (st_R σ a j).map ad))))) := by
  unfold ce_
  rw [h]
  rfl
theorem vr_iaload {a n : Nat} {i : Int32} (hd : decode μ.2.1 pc = .ok (.iaload, 1)) (hs : st_S σ a = (21, n)) (hi : vp_in i n) (kk : vv_ γ μ d (pc + 1) ls (.int (st_I σ a i.toNatClampNeg) :: st) σ Q) : vv_ γ μ d pc ls (.int i :: .ref a :: st) σ Q := by
  refine vs_pure (fun p e R s m args below meth c ad H locs cells slots la Z C hwo hS hl _ _ kk => ?_) (fun _ _ o1 o2 => ⟨o1, fun w hw => (List.mem_cons.mp hw).elim (fun e => by rw [e]; exact ok_i σ _) (fun h => o2 w (List.mem_cons_of_mem _ (List.mem_cons_of_mem _ h)))⟩) kk
  obtain ⟨b1, b2⟩ := hwo.2.2.2.1 a (by rw [hs]; exact Nat.succ_ne_zero _)
  have he := wl_get (γ := γ) (ad := ad) b1 b2
  rw [ce_i hs] at he
  exact va_iald C.1 C.2.1 C.2.2.2.2.2.2.2.2.1 hwo.1 (a - 128) 0 he rfl hi hd (kk la hl)
theorem vr_laload {a n : Nat} {i : Int32} (hd : decode μ.2.1 pc = .ok (.laload, 1)) (hs : st_S σ a = (22, n)) (hi : vp_in i n) (kk : vv_ γ μ d (pc + 1) ls (.long (st_L σ a i.toNatClampNeg) :: st) σ Q) : vv_ γ μ d pc ls (.int i :: .ref a :: st) σ Q := by
  refine vs_pure (fun p e R s m args below meth c ad H locs cells slots la Z C hwo hS hl _ _ kk => ?_) (fun _ _ o1 o2 => ⟨o1, fun w hw => (List.mem_cons.mp hw).elim (fun e => by rw [e]; exact ok_l σ _) (fun h => o2 w (List.mem_cons_of_mem _ (List.mem_cons_of_mem _ h)))⟩) kk
  obtain ⟨b1, b2⟩ := hwo.2.2.2.1 a (by rw [hs]; exact Nat.succ_ne_zero _)
  have he := wl_get (γ := γ) (ad := ad) b1 b2
  rw [ce_l hs] at he
  exact va_lald C.1 C.2.1 C.2.2.2.2.2.2.2.2.1 hwo.1 (a - 128) 1 he rfl hi hd (kk la hl)
theorem vr_baload {a n : Nat} {i : Int32} (hd : decode μ.2.1 pc = .ok (.baload, 1)) (hs : st_S σ a = (23, n) ∨ st_S σ a = (24, n)) (hi : vp_in i n) (kk : vv_ γ μ d (pc + 1) ls (.int (st_I σ a i.toNatClampNeg) :: st) σ Q) : vv_ γ μ d pc ls (.int i :: .ref a :: st) σ Q := by
  refine vs_pure (fun p e R s m args below meth c ad H locs cells slots la Z C hwo hS hl _ _ kk => ?_) (fun _ _ o1 o2 => ⟨o1, fun w hw => (List.mem_cons.mp hw).elim (fun e => by rw [e]; exact ok_i σ _) (fun h => o2 w (List.mem_cons_of_mem _ (List.mem_cons_of_mem _ h)))⟩) kk
  obtain ⟨b1, b2⟩ := hwo.2.2.2.1 a (by rcases hs with hs | hs <;> rw [hs] <;> exact Nat.succ_ne_zero _)
  have he := wl_get (γ := γ) (ad := ad) b1 b2
  rcases hs with hs | hs
  · rw [ce_b hs] at he
    exact va_bald C.1 C.2.1 C.2.2.2.2.2.2.2.2.1 hwo.1 (a - 128) 2 he rfl hi hd (kk la hl)
  · rw [ce_z hs] at he
    exact va_zald C.1 C.2.1 C.2.2.2.2.2.2.2.2.1 hwo.1 (a - 128) 3 he rfl hi hd (kk la hl)
theorem vr_aaload {a n b : Nat} {i : Int32} (hd : decode μ.2.1 pc = .ok (.aaload, 1)) (hs : st_S σ a = (25, n)) (hi : vp_in i n) {v : Value} (hv : va_rf (st_R σ a i.toNatClampNeg) = v) (kk : vv_ γ μ d (pc + 1) ls (v :: st) σ Q) : vv_ γ μ d pc ls (.int i :: .ref a :: st) σ Q := by
  refine vs_pure (fun p e R s m args below meth c ad H locs cells slots la Z C hwo hS hl _ _ kk => ?_) (fun _ hr o1 o2 => ⟨o1, fun w hw => (List.mem_cons.mp hw).elim (fun e => by rw [e, ← hv]; exact va_re_ok hr _ _) (fun h => o2 w (List.mem_cons_of_mem _ (List.mem_cons_of_mem _ h)))⟩) kk
  obtain ⟨b1, b2⟩ := hwo.2.2.2.1 a (by rw [hs]; exact Nat.succ_ne_zero _)
  have he := wl_get (γ := γ) (ad := ad) b1 b2
  rw [ce_q hs] at he
  refine va_aldq C.1 C.2.1 C.2.2.2.2.2.2.2.2.1 hwo.1 (a - 128) 4 he rfl hi hd ?_
  have h9 := kk la hl
  rw [List.map_cons, ← hv, cv_rf] at h9
  exact h9
theorem vr_alen {a n κ : Nat} {v : Int32} (hd : decode μ.2.1 pc = .ok (.arraylength, 1)) (hs : st_S σ a = (κ, n)) (h21 : 21 ≤ κ) (h25 : κ ≤ 25) (hv : Int32.ofNat n = v) (kk : vv_ γ μ d (pc + 1) ls (.int v :: st) σ Q) : vv_ γ μ d pc ls (.ref a :: st) σ Q := by
  refine vs_pure (fun p e R s m args below meth c ad H locs cells slots la Z C hwo hS hl _ _ kk => ?_) (fun _ _ o1 o2 => ⟨o1, fun w hw => (List.mem_cons.mp hw).elim (fun e => by rw [e]; exact ok_i σ _) (fun h => o2 w (List.mem_cons_of_mem _ h))⟩) kk
  obtain ⟨b1, b2⟩ := hwo.2.2.2.1 a (by rw [hs]; show κ ≠ 0; omega)
  have he := wl_get (γ := γ) (ad := ad) b1 b2
  rcases (show κ = 21 ∨ κ = 22 ∨ κ = 23 ∨ κ = 24 ∨ κ = 25 by omega) with rfl | rfl | rfl | rfl | rfl
  · rw [ce_i hs] at he
    exact va_alen C.1 C.2.1 C.2.2.2.2.2.2.2.2.1 hwo.1 (a - 128) 0 he rfl hv hd (kk la hl)
  · rw [ce_l hs] at he
    exact va_alen C.1 C.2.1 C.2.2.2.2.2.2.2.2.1 hwo.1 (a - 128) 1 he rfl hv hd (kk la hl)
  · rw [ce_b hs] at he
    exact va_alen C.1 C.2.1 C.2.2.2.2.2.2.2.2.1 hwo.1 (a - 128) 2 he rfl hv hd (kk la hl)
  · rw [ce_z hs] at he
    exact va_alen C.1 C.2.1 C.2.2.2.2.2.2.2.2.1 hwo.1 (a - 128) 3 he rfl hv hd (kk la hl)
  · rw [ce_q hs] at he
    exact va_alen C.1 C.2.1 C.2.2.2.2.2.2.2.2.1 hwo.1 (a - 128) 4 he rfl hv hd (kk la hl)
theorem pI_row (a k : Nat) (x : Int32) : st_I (pt_I σ a k x) a = upd (st_I σ a) k x := by
  funext j
  rw [st_pI]
  unfold upd
  by_cases h : j = k
  · rw [if_pos ⟨rfl, h⟩, if_pos h]
  · rw [if_neg (fun q => h q.2), if_neg h]
theorem pL_row (a k : Nat) (x : Int64) : st_L (pt_L σ a k x) a = vp_updL (st_L σ a) k x := by
  funext j
  rw [st_pL]
  unfold vp_updL
  by_cases h : j = k
  · rw [if_pos ⟨rfl, h⟩, if_pos h]
  · rw [if_neg (fun q => h q.2), if_neg h]
theorem vr_iastore {a n : Nat} {i x : Int32} (hd : decode μ.2.1 pc = .ok (.iastore, 1)) (hs : st_S σ a = (21, n)) (hi : vp_in i n) (kk : vv_ γ μ d (pc + 1) ls st (pt_I σ a i.toNatClampNeg x) Q) : vv_ γ μ d pc ls (.int x :: .int i :: .ref a :: st) σ Q := by
  refine vs_put (a := a) (σ1 := pt_I σ a i.toNatClampNeg x) rfl rfl rfl (fun _ => rfl) (fun _ _ h => h) (by rw [hs]; exact Nat.succ_ne_zero _) (fun γ ad b hb => pI_oth σ a _ x b hb) (fun w hw => List.mem_cons_of_mem _ (List.mem_cons_of_mem _ (List.mem_cons_of_mem _ hw))) (fun p e R s m args below meth c ad H locs cells slots la Z C hwo hS _ _ _ _ _ he kk => ?_) kk
  rw [ce_i hs] at he
  rw [ce_i (σ := pt_I σ a i.toNatClampNeg x) hs, pI_row] at kk
  exact va_iast C.1 C.2.1 C.2.2.2.2.2.2.2.2.1 hwo.1 hwo.2.1 hS (a - 128) 0 he rfl hi hd kk
theorem vr_lastore {a n : Nat} {i : Int32} {x : Int64} (hd : decode μ.2.1 pc = .ok (.lastore, 1)) (hs : st_S σ a = (22, n)) (hi : vp_in i n) (kk : vv_ γ μ d (pc + 1) ls st (pt_L σ a i.toNatClampNeg x) Q) : vv_ γ μ d pc ls (.long x :: .int i :: .ref a :: st) σ Q := by
  refine vs_put (a := a) (σ1 := pt_L σ a i.toNatClampNeg x) rfl rfl rfl (fun _ => rfl) (fun _ _ h => h) (by rw [hs]; exact Nat.succ_ne_zero _) (fun γ ad b hb => pL_oth σ a _ x b hb) (fun w hw => List.mem_cons_of_mem _ (List.mem_cons_of_mem _ (List.mem_cons_of_mem _ hw))) (fun p e R s m args below meth c ad H locs cells slots la Z C hwo hS _ _ _ _ _ he kk => ?_) kk
  rw [ce_l hs] at he
  rw [ce_l (σ := pt_L σ a i.toNatClampNeg x) hs, pL_row] at kk
  exact va_last C.1 C.2.1 C.2.2.2.2.2.2.2.2.1 hwo.1 hwo.2.1 hS (a - 128) 1 he rfl hi hd kk
theorem vr_bastoreB {a n : Nat} {i x : Int32} (hd : decode μ.2.1 pc = .ok (.bastore, 1)) (hs : st_S σ a = (23, n)) (hi : vp_in i n) (kk : vv_ γ μ d (pc + 1) ls st (pt_I σ a i.toNatClampNeg x.toInt8.toInt32) Q) : vv_ γ μ d pc ls (.int x :: .int i :: .ref a :: st) σ Q := by
  refine vs_put (a := a) (σ1 := pt_I σ a i.toNatClampNeg x.toInt8.toInt32) rfl rfl rfl (fun _ => rfl) (fun _ _ h => h) (by rw [hs]; exact Nat.succ_ne_zero _) (fun γ ad b hb => pI_oth σ a _ _ b hb) (fun w hw => List.mem_cons_of_mem _ (List.mem_cons_of_mem _ (List.mem_cons_of_mem _ hw))) (fun p e R s m args below meth c ad H locs cells slots la Z C hwo hS _ _ _ _ _ he kk => ?_) kk
  rw [ce_b hs] at he
  rw [ce_b (σ := pt_I σ a i.toNatClampNeg x.toInt8.toInt32) hs, pI_row] at kk
  refine va_bast C.1 C.2.1 C.2.2.2.2.2.2.2.2.1 hwo.1 hwo.2.1 hS (a - 128) 2 he rfl hi hd ?_
  rw [vp_nar_byte]
  exact kk
theorem vr_bastoreZ {a n : Nat} {i x : Int32} (hd : decode μ.2.1 pc = .ok (.bastore, 1)) (hs : st_S σ a = (24, n)) (hi : vp_in i n) (hz : x = 0 ∨ x = 1) (kk : vv_ γ μ d (pc + 1) ls st (pt_I σ a i.toNatClampNeg x) Q) : vv_ γ μ d pc ls (.int x :: .int i :: .ref a :: st) σ Q := by
  refine vs_put (a := a) (σ1 := pt_I σ a i.toNatClampNeg x) rfl rfl rfl (fun _ => rfl) (fun _ _ h => h) (by rw [hs]; exact Nat.succ_ne_zero _) (fun γ ad b hb => pI_oth σ a _ _ b hb) (fun w hw => List.mem_cons_of_mem _ (List.mem_cons_of_mem _ (List.mem_cons_of_mem _ hw))) (fun p e R s m args below meth c ad H locs cells slots la Z C hwo hS _ _ _ _ _ he kk => ?_) kk
  rw [ce_z hs] at he
  rw [ce_z (σ := pt_I σ a i.toNatClampNeg x) hs, pI_row] at kk
  refine va_zast C.1 C.2.1 C.2.2.2.2.2.2.2.2.1 hwo.1 hwo.2.1 hS (a - 128) 3 he rfl hi hd ?_
  rw [show vp_nar .boolean x = x by rcases hz with rfl | rfl <;> rfl]
  exact kk
end FP
