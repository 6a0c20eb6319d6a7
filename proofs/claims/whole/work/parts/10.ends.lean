section RT
variable {γ : ga_T} {μ : mr_T} {d pc : Nat} {ls : List (Nat × Value)} {st : List Value} {σ : st_T} {Q : rs_T → st_T → Prop}
theorem ok_r {i : Nat} (h : i < 128) (h8 : 128 ≤ st_n σ) : ok_ σ (.ref i) := fun a e => by cases e; exact Nat.lt_of_lt_of_le h h8
theorem vs_ret {v : Option Value} (hst : v = none ∨ ∀ w, v = some w → w ∈ st) (hQ : Q (.inl v) σ)
    (h : ∀ (p : Program) (e : Env) (R : Room) (s : State) (m : MethodId) (args : Array Value) (below : List Frame) (meth : Method) (c : Code) (ad : Nat → Nat) (H : Heap) (locs : List Loc) (cells slots : Nat) (la : Array Slot) (Qc : Array Value → State → Outcome → State → Prop), cx_ γ μ p s m args meth c → (∀ q ∈ locs, ga_A γ q.base) →
      (∀ t : State, t.heap = H → s.WarmedH t.vm → Qc args s (.returned (v.map (cv_ ad))) t) → W p γ.1 e R s m args below meth c H locs cells slots (MQ below Qc args s cells slots (ga_A γ)) (F0 m pc la (st.map (cv_ ad)))) : vv_ γ μ d pc ls st σ Q := by
  refine ⟨.inl v, σ, hQ, le_rf σ, ?_⟩
  intro p e R s m args below meth c ad H locs cells slots la hcx hx hwo hS hl ho1 ho2 hR1 hR2 hR3 hR4
  rw [Nat.sub_self, Nat.sub_self, Nat.add_zero, Nat.add_zero]
  refine vx_ret (h p e R s m args below meth c ad H locs cells slots la _ hcx hS.2.2 (fun t ht hW => ⟨⟨ad, v, rfl, rfl, fun _ _ => rfl, fun w hw => ?_, by rw [ht]; exact hwo⟩, hS.F ht⟩))
  rcases hst with e | e
  · rw [e] at hw
    cases hw
  · exact ho2 w (e w hw)
theorem vr_iret {x : Int32} (hd : decode μ.2.1 pc = .ok (.ireturn, 1)) (hr : μ.2.2.2.1 = some .int) (hQ : Q (.inl (some (.int x))) σ) : vv_ γ μ d pc ls [.int x] σ Q :=
  vs_ret (v := some (.int x)) (Or.inr fun w h => by cases h; exact List.mem_cons_self) hQ (fun p e R s m args below meth c ad H locs cells slots la Qc C hf hq => W.iret C.1 C.2.1 (C.2.2.1.trans hr) hq hf hd C.2.2.2.2.2.2.1)
theorem vr_zret {x : Int32} (hd : decode μ.2.1 pc = .ok (.ireturn, 1)) (hr : μ.2.2.2.1 = some .boolean) (hz : x = 0 ∨ x = 1) (hQ : Q (.inl (some (.int x))) σ) : vv_ γ μ d pc ls [.int x] σ Q :=
  vs_ret (v := some (.int x)) (Or.inr fun w h => by cases h; exact List.mem_cons_self) hQ (fun p e R s m args below meth c ad H locs cells slots la Qc C hf hq => W.zret C.1 C.2.1 (C.2.2.1.trans hr) (by rcases hz with rfl | rfl <;> rfl) hq hf hd C.2.2.2.2.2.2.1)
theorem vr_nret {x : Int32} {ty : FieldType} (hd : decode μ.2.1 pc = .ok (.ireturn, 1)) (hr : μ.2.2.2.1 = some ty) (hz : narrow ty (.int x) = .int x) (hQ : Q (.inl (some (.int x))) σ) : vv_ γ μ d pc ls [.int x] σ Q :=
  vs_ret (v := some (.int x)) (Or.inr fun w h => by cases h; exact List.mem_cons_self) hQ (fun p e R s m args below meth c ad H locs cells slots la Qc C hf hq => W.zret C.1 C.2.1 (C.2.2.1.trans hr) hz hq hf hd C.2.2.2.2.2.2.1)
theorem vr_lret {x : Int64} (hd : decode μ.2.1 pc = .ok (.lreturn, 1)) (hr : μ.2.2.2.1 = some .long) (hQ : Q (.inl (some (.long x))) σ) : vv_ γ μ d pc ls [.long x] σ Q :=
  vs_ret (v := some (.long x)) (Or.inr fun w h => by cases h; exact List.mem_cons_self) hQ (fun p e R s m args below meth c ad H locs cells slots la Qc C hf hq => W.lret C.1 C.2.1 (C.2.2.1.trans hr) hq hf hd C.2.2.2.2.2.2.1)
theorem vr_vret (hd : decode μ.2.1 pc = .ok (.return_, 1)) (hr : μ.2.2.2.1 = none) (hQ : Q (.inl none) σ) : vv_ γ μ d pc ls [] σ Q :=
  vs_ret (v := none) (Or.inl rfl) hQ (fun p e R s m args below meth c ad H locs cells slots la Qc C hf hq => W.vret C.1 C.2.1 (C.2.2.1.trans hr) hq hf hd C.2.2.2.2.2.2.1)
theorem vr_aret {a : Nat} {t : FieldType} (hd : decode μ.2.1 pc = .ok (.areturn, 1)) (hr : μ.2.2.2.1 = some t) (ht : ty_r t) (hQ : Q (.inl (some (.ref a))) σ) : vv_ γ μ d pc ls [.ref a] σ Q :=
  vs_ret (v := some (.ref a)) (Or.inr fun w h => by cases h; exact List.mem_cons_self) hQ (fun p e R s m args below meth c ad H locs cells slots la Qc C hf hq => W.aret C.1 C.2.1 (C.2.2.1.trans hr) ht (Or.inr ⟨ad a, rfl⟩) hq hf hd C.2.2.2.2.2.2.1)
/-- the enum's constants -/
theorem vr_getE {x i : Nat} (hd : decode μ.2.1 pc = .ok (.getstatic x, 3)) (hi : i < 21) (hw : Cond.fieldLink μ.1.cls x "LitmusTester$Sign" (sg_nm.getD i "") "LLitmusTester$Sign;" ∈ tg_) (kk : vv_ γ μ d (pc + 3) ls (.ref i :: st) σ Q) : vv_ γ μ d pc ls st σ Q := by
  refine vs_pure (fun p e R s m args below meth c ad H locs cells slots la Z C hwo hS hl _ _ kk => ?_) (fun h8 _ o1 o2 => ⟨o1, fun w hw => (List.mem_cons.mp hw).elim (fun e => by rw [e]; exact ok_r (by omega) h8) (fun h => o2 w h)⟩) kk
  have hk := C.2.2.2.2.2.2.2.2.2.2.1.1.1 i hi
  refine va_gets C.1 C.2.1 hk.1 hS C.2.2.2.2.1 (C.2.2.2.2.2.1 _ hw) (fun _ h => h) hd ?_
  have h9 := kk la hl
  rw [List.map_cons] at h9
  show W _ _ _ _ _ _ _ _ _ _ _ _ _ _ _ (F0 m (pc + 3) la (.ref (ga_E γ i) :: _))
  rw [← hwo.2.2.1 i (by omega)]
  exact h9
theorem sg_inj {p : Program} {s : State} {m : MethodId} {args : Array Value} {meth : Method} {c : Code} (C : cx_ γ μ p s m args meth c) {i j : Nat} (hi : i < 21) (hj : j < 21) (h : ga_E γ i = ga_E γ j) : i = j := C.2.2.2.2.2.2.2.2.2.2.1.1.2 i j hi hj h
theorem vr_acmp_eq {i j : Nat} {off : Int} {tgt : Nat} (hd : decode μ.2.1 pc = .ok (.if_acmp .eq off, 3)) (ht : (pc : Int) + off = (tgt : Int)) (hi : i < 21) (hj : j < 21) (k1 : i = j → vv_ γ μ d tgt ls st σ Q) (k2 : ¬ i = j → vv_ γ μ d (pc + 3) ls st σ Q) : vv_ γ μ d pc ls (.ref j :: .ref i :: st) σ Q :=
  vs_two (cnd := i = j) (fun p e R s m args below meth c ad H locs cells slots la Z C hwo _ g1 g2 => lv_acmp_eq (rx := some (ad i)) (ry := some (ad j)) C.1 C.2.1 hd ht (fun e => g1 (sg_inj C hi hj (by rw [← hwo.2.2.1 i (by omega), ← hwo.2.2.1 j (by omega)]; exact Option.some.inj e))) (fun e => g2 (fun z => e (by rw [z])))) (fun v hv => List.mem_cons_of_mem _ (List.mem_cons_of_mem _ hv)) k1 k2
theorem vr_acmp_ne {i j : Nat} {off : Int} {tgt : Nat} (hd : decode μ.2.1 pc = .ok (.if_acmp .ne off, 3)) (ht : (pc : Int) + off = (tgt : Int)) (hi : i < 21) (hj : j < 21) (k1 : ¬ i = j → vv_ γ μ d tgt ls st σ Q) (k2 : i = j → vv_ γ μ d (pc + 3) ls st σ Q) : vv_ γ μ d pc ls (.ref j :: .ref i :: st) σ Q :=
  vs_two (cnd := i = j) (fun p e R s m args below meth c ad H locs cells slots la Z C hwo _ g1 g2 => lv_acmp_ne (rx := some (ad i)) (ry := some (ad j)) C.1 C.2.1 hd ht (fun e => g2 (fun z => e (by rw [z]))) (fun e => g1 (sg_inj C hi hj (by rw [← hwo.2.2.1 i (by omega), ← hwo.2.2.1 j (by omega)]; exact Option.some.inj e)))) (fun v hv => List.mem_cons_of_mem _ (List.mem_cons_of_mem _ hv)) k2 k1
theorem vr_ifnonnull {a : Nat} {off : Int} {tgt : Nat} (hd : decode μ.2.1 pc = .ok (.ifnonnull off, 3)) (ht : (pc : Int) + off = (tgt : Int)) (k : vv_ γ μ d tgt ls st σ Q) : vv_ γ μ d pc ls (.ref a :: st) σ Q :=
  vs_pure (fun p e R s m args below meth c ad H locs cells slots la Z C hwo hS hl _ _ kk => lv_ifnonnull C.1 C.2.1 hd ht (kk la hl)) (fun _ _ o1 o2 => ⟨o1, fun v hv => o2 v (List.mem_cons_of_mem _ hv)⟩) k
theorem vr_ifnonnullN {off : Int} (hd : decode μ.2.1 pc = .ok (.ifnonnull off, 3)) (k : vv_ γ μ d (pc + 3) ls st σ Q) : vv_ γ μ d pc ls (.null :: st) σ Q :=
  vs_pure (fun p e R s m args below meth c ad H locs cells slots la Z C hwo hS hl _ _ kk => lv_ifnonnullN C.1 C.2.1 hd (kk la hl)) (fun _ _ o1 o2 => ⟨o1, fun v hv => o2 v (List.mem_cons_of_mem _ hv)⟩) k
/-- the row of the constants -/
theorem vr_getSIGNS (hd : decode μ.2.1 pc = .ok (.getstatic 95, 3)) (ho : μ.1.cls = "LitmusTester$Tokens") (kk : vv_ γ μ d (pc + 3) ls (.ref 21 :: st) σ Q) : vv_ γ μ d pc ls st σ Q := by
  refine vs_pure (fun p e R s m args below meth c ad H locs cells slots la Z C hwo hS hl _ _ kk => ?_) (fun h8 _ o1 o2 => ⟨o1, fun w hw => (List.mem_cons.mp hw).elim (fun e => by rw [e]; exact ok_r (by omega) h8) (fun h => o2 w h)⟩) kk
  have hk := C.2.2.2.2.2.2.2.2.2.2.1.2.2.1
  have hn := C.2.2.2.2.2.2.2.2.2.1.2 ("LitmusTester$Tokens", 95, "LitmusTester", "SIGNS", "[LLitmusTester$Sign;") List.mem_cons_self
  refine va_getsN (own := "LitmusTester$Tokens") C.1 C.2.1 hk hS (by rw [← ho]; exact C.2.2.2.2.1) (va_Nw.use rfl hn) (fun _ h => h) hd ?_
  have h9 := kk la hl
  rw [List.map_cons] at h9
  show W _ _ _ _ _ _ _ _ _ _ _ _ _ _ _ (F0 m (pc + 3) la (.ref (ga_E γ 21) :: _))
  rw [← hwo.2.2.1 21 (by omega)]
  exact h9
theorem vr_alenSIGNS (hd : decode μ.2.1 pc = .ok (.arraylength, 1)) (kk : vv_ γ μ d (pc + 1) ls (.int 21 :: st) σ Q) : vv_ γ μ d pc ls (.ref 21 :: st) σ Q := by
  refine vs_pure (fun p e R s m args below meth c ad H locs cells slots la Z C hwo hS hl _ _ kk => ?_) (fun h8 _ o1 o2 => ⟨o1, fun w hw => (List.mem_cons.mp hw).elim (fun e => by rw [e]; exact ok_i σ _) (fun h => o2 w (List.mem_cons_of_mem _ h))⟩) kk
  rw [List.map_cons]
  show W _ _ _ _ _ _ _ _ _ _ _ _ _ _ _ (F0 m pc la (.ref (ad 21) :: _))
  rw [hwo.2.2.1 21 (by omega)]
  exact va_tlen C.1 C.2.1 C.2.2.2.2.2.2.2.2.2.2.1.2.2.2 hS rfl hd (kk la hl)
theorem vr_aaloadSIGNS {i : Int32} (hd : decode μ.2.1 pc = .ok (.aaload, 1)) (hi : vp_in i 21) (kk : vv_ γ μ d (pc + 1) ls (.ref i.toNatClampNeg :: st) σ Q) : vv_ γ μ d pc ls (.int i :: .ref 21 :: st) σ Q := by
  have hlt : i.toNatClampNeg < 21 := Nat.not_le.mp fun q => hi (Or.inr q)
  refine vs_pure (fun p e R s m args below meth c ad H locs cells slots la Z C hwo hS hl _ _ kk => ?_) (fun h8 _ o1 o2 => ⟨o1, fun w hw => (List.mem_cons.mp hw).elim (fun e => by rw [e]; exact ok_r (by omega) h8) (fun h => o2 w (List.mem_cons_of_mem _ (List.mem_cons_of_mem _ h)))⟩) kk
  rw [List.map_cons, List.map_cons]
  show W _ _ _ _ _ _ _ _ _ _ _ _ _ _ _ (F0 m pc la (.int i :: .ref (ad 21) :: _))
  rw [hwo.2.2.1 21 (by omega)]
  refine vb_tq C.1 C.2.1 C.2.2.2.2.2.2.2.2.2.2.1.2.2.2 hS hi (v := .ref (ga_E γ i.toNatClampNeg)) rfl hd ?_
  have h9 := kk la hl
  rw [List.map_cons] at h9
  rw [← hwo.2.2.1 i.toNatClampNeg (by omega)]
  exact h9
theorem vr_getText {i : Nat} (hd : decode μ.2.1 pc = .ok (.getfield 98, 3)) (ho : μ.1.cls = "LitmusTester$Tokens") (hi : i < 21) (kk : vv_ γ μ d (pc + 3) ls (.ref (30 + sg_tx.getD i 0) :: st) σ Q) : vv_ γ μ d pc ls (.ref i :: st) σ Q := by
  have hlt : ∀ j, j < 21 → sg_tx.getD j 0 < 46 := by decide +kernel
  have hb := hlt i hi
  refine vs_pure (fun p e R s m args below meth c ad H locs cells slots la Z C hwo hS hl _ _ kk => ?_) (fun h8 _ o1 o2 => ⟨o1, fun w hw => (List.mem_cons.mp hw).elim (fun e => by rw [e]; exact ok_r (by omega) h8) (fun h => o2 w (List.mem_cons_of_mem _ h))⟩) kk
  have hn := C.2.2.2.2.2.2.2.2.2.1.2 ("LitmusTester$Tokens", 98, "LitmusTester$Sign", "text", "Ljava/lang/String;") (List.mem_cons_of_mem _ List.mem_cons_self)
  obtain ⟨cf, k, fi, f, cell, h1, h2, h3, h4, h5, h6⟩ := (C.2.2.2.2.2.2.2.2.2.2.1.2.1 i hi).kept hS.2.1
  rw [List.map_cons]
  show W _ _ _ _ _ _ _ _ _ _ _ _ _ _ _ (F0 m pc la (.ref (ad i) :: _))
  rw [hwo.2.2.1 i (by omega)]
  refine va_Wgetf (own := "LitmusTester$Tokens") C.1 C.2.1 (by rw [← ho]; exact C.2.2.2.2.1) (va_Nw.use rfl hn) h1 h2 h3 h4 (v := .ref (ga_E γ (30 + sg_tx.getD i 0))) h5 rfl rfl hd ?_
  have h9 := kk la hl
  rw [List.map_cons] at h9
  rw [← hwo.2.2.1 (30 + sg_tx.getD i 0) (by omega)]
  exact h9
/-- String constants -/
theorem vr_ldcS {x i : Nat} (hd : decode μ.2.1 pc = .ok (.ldc x, 2)) (hi : i < 46) (h1 : (sc_q i).1 = μ.1.cls) (h2 : (sc_q i).2.1 = x) (kk : vv_ γ μ d (pc + 2) ls (.ref (30 + i) :: st) σ Q) : vv_ γ μ d pc ls st σ Q := by
  refine vs_pure (fun p e R s m args below meth c ad H locs cells slots la Z C hwo hS hl _ _ kk => ?_) (fun h8 _ o1 o2 => ⟨o1, fun w hw => (List.mem_cons.mp hw).elim (fun e => by rw [e]; exact ok_r (by omega) h8) (fun h => o2 w h)⟩) kk
  have hz := (C.2.2.2.2.2.2.2.2.2.2.2.1 i hi).2.2.2.2
  rw [h1, h2] at hz
  refine va_ldcS C.1 C.2.1 C.2.2.2.2.1 hz hd ?_
  have h9 := kk la hl
  rw [List.map_cons] at h9
  rw [← hwo.2.2.1 (30 + i) (by omega)]
  exact h9
theorem vr_ldcSW {x i : Nat} (hd : decode μ.2.1 pc = .ok (.ldc_w x, 3)) (hi : i < 46) (h1 : (sc_q i).1 = μ.1.cls) (h2 : (sc_q i).2.1 = x) (kk : vv_ γ μ d (pc + 3) ls (.ref (30 + i) :: st) σ Q) : vv_ γ μ d pc ls st σ Q := by
  refine vs_pure (fun p e R s m args below meth c ad H locs cells slots la Z C hwo hS hl _ _ kk => ?_) (fun h8 _ o1 o2 => ⟨o1, fun w hw => (List.mem_cons.mp hw).elim (fun e => by rw [e]; exact ok_r (by omega) h8) (fun h => o2 w h)⟩) kk
  have hz := (C.2.2.2.2.2.2.2.2.2.2.2.1 i hi).2.2.2.2
  rw [h1, h2] at hz
  have h9 := kk la hl
  rw [List.map_cons] at h9
  intro T hT X
  obtain ⟨t, a1, b1⟩ := h9 T hT X
  refine ⟨t, X.ldcStringW C.1 C.2.2.2.2.1 (text := (sc_q i).2.2.1) (a := ga_E γ (30 + i)) hz.1 hz.2 (g := F0 m pc la _) rfl (by rw [C.2.1]; exact hd) t ?_, b1⟩
  rw [← hwo.2.2.1 (30 + i) (by omega)]
  exact a1
end RT
