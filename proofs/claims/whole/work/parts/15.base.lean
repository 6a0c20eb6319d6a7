/-! what the printed walks of part 17 on stand on -/
section BA
variable {γ : ga_T} {μ μ' : mr_T} {d d' pc : Nat} {ls : List (Nat × Value)} {st as rest : List Value} {σ σ1 : st_T} {Q : rs_T → st_T → Prop}
theorem vv_eq {ls' : List (Nat × Value)} (h : ls = ls') (k : vv_ γ μ d pc ls' st σ Q) : vv_ γ μ d pc ls st σ Q := by rw [h]; exact k
/-- of a list of locals: each stands in the other one -/
def sb_ (ls : List (Nat × Value)) : List (Nat × Value) → Prop
  | [] => True
  | q :: t => lk_ ls q.1 = some q.2 ∧ sb_ ls t
theorem sb_mem : ∀ {l : List (Nat × Value)}, sb_ ls l → ∀ q ∈ l, q ∈ ls
  | [], _, q, h => by cases h
  | x :: t, h, q, hq => by
    rcases List.mem_cons.mp hq with e | e
    · rw [e]; exact lk_mem h.1
    · exact sb_mem h.2 q e
theorem vv_sub {ls' : List (Nat × Value)} (hs : sb_ ls ls') (k : vv_ γ μ d pc ls' st σ Q) : vv_ γ μ d pc ls st σ Q := by
  obtain ⟨r, σ', hQ, hle, hw⟩ := k
  refine ⟨r, σ', hQ, hle, ?_⟩
  intro p e R s m args below meth c ad H locs cells slots la hc hx hwo hS hl ho1 ho2 hR1 hR2 hR3 hR4
  refine hw p e R s m args below meth c ad H locs cells slots la hc hx hwo hS ⟨hl.1, hl.2.1, fun q hq => hl.2.2 q ?_⟩ (fun q hq => ho1 q (sb_mem hs q hq)) ho2 hR1 hR2 hR3 hR4
  obtain ⟨x, hx1, rfl⟩ := List.mem_map.mp hq
  exact List.mem_map.mpr ⟨x, sb_mem hs x hx1, rfl⟩
/-- a call that answers, one that is void, one that throws -/
def fn_ (γ : ga_T) (μ : mr_T) (d : Nat) (as : List Value) (σ : st_T) (v : Value) (σ1 : st_T) : Prop := sp_ γ μ d as σ (fun r s => r = .inl (some v) ∧ s = σ1)
def fw_ (γ : ga_T) (μ : mr_T) (d : Nat) (as : List Value) (σ : st_T) (σ1 : st_T) : Prop := sp_ γ μ d as σ (fun r s => r = .inl none ∧ s = σ1)
def ft_ (γ : ga_T) (μ : mr_T) (d : Nat) (as : List Value) (σ : st_T) (E : String) (σ1 : st_T) : Prop := sp_ γ μ d as σ (fun r s => r = .inr E ∧ s = σ1)
theorem fn_of {P : Value → st_T → Prop} (h : sp_ γ μ d as σ (fun r s => ∃ v, r = .inl (some v) ∧ P v s)) : ∃ v σ1, fn_ γ μ d as σ v σ1 ∧ P v σ1 := by
  obtain ⟨r, σ1, ⟨v, rfl, hP⟩, h2⟩ := h
  exact ⟨v, σ1, ⟨_, _, ⟨rfl, rfl⟩, h2⟩, hP⟩
theorem fw_of {P : st_T → Prop} (h : sp_ γ μ d as σ (fun r s => r = .inl none ∧ P s)) : ∃ σ1, fw_ γ μ d as σ σ1 ∧ P σ1 := by
  obtain ⟨r, σ1, ⟨rfl, hP⟩, h2⟩ := h
  exact ⟨σ1, ⟨_, _, ⟨rfl, rfl⟩, h2⟩, hP⟩
theorem ft_of {E : String} {P : st_T → Prop} (h : sp_ γ μ d as σ (fun r s => r = .inr E ∧ P s)) : ∃ σ1, ft_ γ μ d as σ E σ1 ∧ P σ1 := by
  obtain ⟨r, σ1, ⟨rfl, hP⟩, h2⟩ := h
  exact ⟨σ1, ⟨_, _, ⟨rfl, rfl⟩, h2⟩, hP⟩
theorem fn_le {v : Value} (h : fn_ γ μ d as σ v σ1) : le_ σ σ1 := by
  obtain ⟨r, s, ⟨-, rfl⟩, h2, -⟩ := h
  exact h2
theorem fw_le (h : fw_ γ μ d as σ σ1) : le_ σ σ1 := by
  obtain ⟨r, s, ⟨-, rfl⟩, h2, -⟩ := h
  exact h2
theorem ft_le {E : String} (h : ft_ γ μ d as σ E σ1) : le_ σ σ1 := by
  obtain ⟨r, s, ⟨-, rfl⟩, h2, -⟩ := h
  exact h2
theorem co_n {v : Value} (h : fn_ γ μ' d' as σ v σ1) (k : vv_ γ μ d (pc + 3) ls (v :: rest) σ1 Q) : sp_ γ μ' d' as σ (co_ γ μ d pc ls rest Q) :=
  sp_up h (fun r s _ e => by obtain ⟨rfl, rfl⟩ := e; exact k)
theorem co_v (h : fw_ γ μ' d' as σ σ1) (k : vv_ γ μ d (pc + 3) ls rest σ1 Q) : sp_ γ μ' d' as σ (co_ γ μ d pc ls rest Q) :=
  sp_up h (fun r s _ e => by obtain ⟨rfl, rfl⟩ := e; exact k)
theorem co_t {E : String} (h : ft_ γ μ' d' as σ E σ1) (k : vt_ γ μ d pc ls σ1 E Q) : sp_ γ μ' d' as σ (co_ γ μ d pc ls rest Q) :=
  sp_up h (fun r s _ e => by obtain ⟨rfl, rfl⟩ := e; exact k)
/-- what the tables say of a virtual call, a static one, a constructor's -/
def cV_ (own : String) (x : Nat) (μ' : mr_T) (n ci : Nat) : Prop := μ'.2.2.2.2 = [] ∧ cw_0 own x μ' n ∧ Cond.instanceMethod μ'.1 ∈ tg_ ∧ Cond.selects μ'.1.cls μ'.1 μ'.1 ∈ tg_ ∧ ∃ q, vwCl[ci]? = some q ∧ q.1 = μ'.1.cls
def cT_ (own : String) (x : Nat) (μ' : mr_T) (n : Nat) : Prop := μ'.2.2.2.2 = [] ∧ cw_0 own x μ' n ∧ Cond.instanceMethod μ'.1 ∈ tg_ ∧ Cond.selects μ'.1.cls μ'.1 μ'.1 ∈ tg_ ∧ μ'.1.cls = "java/lang/String"
def cS_ (own : String) (x : Nat) (μ' : mr_T) (n : Nat) : Prop := μ'.2.2.2.2 = [] ∧ cw_0 own x μ' n ∧ Cond.static μ'.1 ∈ tg_
def cI_ (own : String) (x : Nat) (μ' : mr_T) (n : Nat) : Prop := μ'.2.2.2.2 = [] ∧ μ'.2.2.2.1 = none ∧ μ'.1.name = "<init>" ∧ cw_0 own x μ' n ∧ Cond.instanceMethod μ'.1 ∈ tg_
theorem vc_V {a x n ci : Nat} {As : List Value} (hd : decode μ.2.1 pc = .ok (.invokevirtual x, 3)) (hw : cV_ μ.1.cls x μ' n ci) (hs : (st_S σ a).1 = ci + 1) (hn : As.length = n) (hst : st = As.reverse ++ .ref a :: rest) (hcat : (rest.map fun v => v.category).sum ≤ 8) (hdd : d' + 1 ≤ d)
    (k : sp_ γ μ' d' (.ref a :: As) σ (co_ γ μ d pc ls rest Q)) : vv_ γ μ d pc ls st σ Q := by
  obtain ⟨h1, h2, h3, h4, q, h5, h6⟩ := hw
  exact vr_callV hd h1 h2 h3 h4 h5 h6 hs hn hst hcat hdd k
theorem vc_T {i x n : Nat} {As : List Value} (hd : decode μ.2.1 pc = .ok (.invokevirtual x, 3)) (hw : cT_ μ.1.cls x μ' n) (hi : i < 46) (hn : As.length = n) (hst : st = As.reverse ++ .ref (30 + i) :: rest) (hcat : (rest.map fun v => v.category).sum ≤ 8) (hdd : d' + 1 ≤ d)
    (k : sp_ γ μ' d' (.ref (30 + i) :: As) σ (co_ γ μ d pc ls rest Q)) : vv_ γ μ d pc ls st σ Q := by
  obtain ⟨h1, h2, h3, h4, h5⟩ := hw
  exact vr_callVS hd h1 h2 h3 h4 h5 hi hn hst hcat hdd k
theorem vc_S {x n : Nat} {As : List Value} (hd : decode μ.2.1 pc = .ok (.invokestatic x, 3)) (hw : cS_ μ.1.cls x μ' n) (hn : As.length = n) (hst : st = As.reverse ++ rest) (hcat : (rest.map fun v => v.category).sum ≤ 8) (hdd : d' + 1 ≤ d)
    (k : sp_ γ μ' d' As σ (co_ γ μ d pc ls rest Q)) : vv_ γ μ d pc ls st σ Q := by
  obtain ⟨h1, h2, h3⟩ := hw
  exact vr_callS hd h1 h2 h3 hn hst hcat hdd k
theorem vv_top {v w : Value} (h : v = w) (k : vv_ γ μ d pc ls (w :: st) σ Q) : vv_ γ μ d pc ls (v :: st) σ Q := by rw [h]; exact k
theorem vv_so {σ2 : st_T} (h : σ = σ2) (k : vv_ γ μ d pc ls st σ2 Q) : vv_ γ μ d pc ls st σ Q := by rw [h]; exact k
theorem ii_ {x k : Int32} {n : Int} (h : Int32.ofInt n = k) : x + Int32.ofInt n = x + k := by rw [h]
theorem vp_lit {i : Int32} {n : Nat} (h : (decide (¬ (i < 0 ∨ n ≤ i.toNatClampNeg))) = true) : vp_in i n := by
  unfold vp_in
  exact of_decide_eq_true h
/-- null in a local -/
theorem vr_aload_nN {j : Fin 4} {i : Nat} (hd : decode μ.2.1 pc = .ok (.aload_n j, 1)) (hj : (j : Nat) = i) (hl : lk_ ls i = some .null) (k : vv_ γ μ d (pc + 1) ls (.null :: st) σ Q) : vv_ γ μ d pc ls st σ Q :=
  vs_pure (fun p e R s m args below meth c ad H locs cells slots la Z C _ _ h9 _ _ k => lv_aload_nN C.1 C.2.1 hd hj (lk_at h9 hl) (k la h9)) (fun _ _ o1 o2 => ⟨o1, fun v hv => (List.mem_cons.mp hv).elim (fun e => by rw [e]; exact ok_0 σ) (fun h => o2 v h)⟩) k
theorem vr_astore_nN {j : Fin 4} {i : Nat} (hd : decode μ.2.1 pc = .ok (.astore_n j, 1)) (hj : (j : Nat) = i) (hn : i < μ.2.2.1) (k : vv_ γ μ d (pc + 1) (lp_ i .null ls) st σ Q) : vv_ γ μ d pc ls (.null :: st) σ Q :=
  vs_pure (fun p e R s m args below meth c ad H locs cells slots la Z C _ _ h9 _ _ k => lv_astore_nN C.1 C.2.1 hd hj h9 hn rfl (fun la' h8 => k la' (lp_has1 (ad := ad) (v := .null) rfl h8))) (fun _ _ o1 o2 => ⟨lp_ok o1 (o2 _ List.mem_cons_self), fun v hv => o2 v (List.mem_cons_of_mem _ hv)⟩) k
/-- Math.max, Math.min -/
def mm_ (own : String) (x : Nat) (y : MethodName) (cd : ByteArray) : Prop := Cond.methodLink own x y ∈ tg_ ∧ Cond.static y ∈ tg_ ∧ Cond.initialized "java/lang/Math" ∈ tg_ ∧ Cond.code y cd 2 (some .int) ∈ tg_
theorem ok_i1 {x y v : Int32} (ho : ∀ w ∈ (Value.int y :: Value.int x :: st), ok_ σ w) : ∀ w ∈ (Value.int v :: st), ok_ σ w := fun w hw => (List.mem_cons.mp hw).elim (fun e => by rw [e]; exact ok_i σ _) (fun h => ho w (List.mem_cons_of_mem _ (List.mem_cons_of_mem _ h)))
theorem vr_mmax {x : Nat} {a b : Int32} (hd : decode μ.2.1 pc = .ok (.invokestatic x, 3)) (hw : mm_ μ.1.cls x Lib.Math.max.name Lib.Math.max.code) (hcat : (st.map fun v => v.category).sum ≤ 8) (hdd : 1 ≤ d) (k : vv_ γ μ d (pc + 3) ls (.int (if a < b then b else a) :: st) σ Q) : vv_ γ μ d pc ls (.int b :: .int a :: st) σ Q := by
  obtain ⟨r, σ', hQ, hle, hk⟩ := k
  refine ⟨r, σ', hQ, hle, ?_⟩
  intro p e R s m args below meth c ad H locs cells slots la C hx hwo hS hl ho1 ho2 hR1 hR2 hR3 hR4
  have kk := hk p e R s m args below meth c ad H locs cells slots la C hx hwo hS hl ho1 (ok_i1 ho2) hR1 hR2 hR3 hR4
  have hts := C.2.2.2.2.2.1
  exact va_mmax C.1 C.2.1 (C.2.2.2.1.trans hl.1.symm) C.2.2.2.2.1 (hts _ hw.1) (hts _ hw.2.1) (hts _ hw.2.2.1) (hts _ hw.2.2.2) (by omega) (by rw [cat_map]; omega) (by omega) (by omega) hd kk
theorem vr_mmin {x : Nat} {a b : Int32} (hd : decode μ.2.1 pc = .ok (.invokestatic x, 3)) (hw : mm_ μ.1.cls x Lib.Math.min.name Lib.Math.min.code) (hcat : (st.map fun v => v.category).sum ≤ 8) (hdd : 1 ≤ d) (k : vv_ γ μ d (pc + 3) ls (.int (if b < a then b else a) :: st) σ Q) : vv_ γ μ d pc ls (.int b :: .int a :: st) σ Q := by
  obtain ⟨r, σ', hQ, hle, hk⟩ := k
  refine ⟨r, σ', hQ, hle, ?_⟩
  intro p e R s m args below meth c ad H locs cells slots la C hx hwo hS hl ho1 ho2 hR1 hR2 hR3 hR4
  have kk := hk p e R s m args below meth c ad H locs cells slots la C hx hwo hS hl ho1 (ok_i1 ho2) hR1 hR2 hR3 hR4
  have hts := C.2.2.2.2.2.1
  exact va_mmin C.1 C.2.1 (C.2.2.2.1.trans hl.1.symm) C.2.2.2.2.1 (hts _ hw.1) (hts _ hw.2.1) (hts _ hw.2.2.1) (hts _ hw.2.2.2) (by omega) (by rw [cat_map]; omega) (by omega) (by omega) hd kk
end BA
