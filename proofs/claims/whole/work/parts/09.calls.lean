theorem cg_2 {α β δ : Type} (f : α → β → δ) {a a' : α} {b b' : β} (h1 : a = a') (h2 : b = b') : f a b = f a' b' := by rw [h1, h2]
section AL
variable {γ : ga_T} {μ : mr_T} {d pc : Nat} {ls : List (Nat × Value)} {st : List Value} {σ : st_T} {Q : rs_T → st_T → Prop}
theorem ce_ext {ad ad' : Nat → Nat} {σ1 : st_T} {b : Nat} (h1 : ∀ j, st_I σ1 b j = st_I σ b j) (h2 : ∀ j, st_L σ1 b j = st_L σ b j) (h3 : ∀ j, st_R σ1 b j = st_R σ b j) (h4 : st_S σ1 b = st_S σ b) (he : ex_ ad ad' σ) (hr : ∀ b k r, st_R σ b k = some r → r < st_n σ) : ce_ γ ad' σ1 b = ce_ γ ad σ b := by
  rw [ce_oth h1 h2 h3 h4]
  have e0 : ∀ j, (st_R σ b j).map ad' = (st_R σ b j).map ad := fun j => by
    cases hv : st_R σ b j with
    | none => rfl
    | some r => exact congrArg some (he r (hr b j r hv))
  have e1 : ∀ ci, fs_ ad' σ b ci = fs_ ad σ b ci := fun ci => by
    unfold fs_
    refine List.map_congr_left (fun k _ => ?_)
    unfold fv_ va_re
    rw [e0]
  have e2 : (fun j => (st_R σ b j).map ad') = (fun j => (st_R σ b j).map ad) := funext e0
  unfold ce_
  rw [e1, e2]
def ad_n (ad : Nat → Nat) (n q : Nat) : Nat → Nat := fun h => if h = n then q else ad h
theorem ad_ex {ad : Nat → Nat} {q : Nat} : ex_ ad (ad_n ad (st_n σ) q) σ := fun h hh => if_neg (Nat.ne_of_lt hh)
theorem wl_push {ad : Nat → Nat} {κ len z q : Nat} (h1 : 128 ≤ st_n σ) (hr : ∀ b k r, st_R σ b k = some r → r < st_n σ) : wl_ γ (ad_n ad (st_n σ) q) (pt_N σ κ len z) = wl_ γ ad σ ++ [(q, ce_ γ (ad_n ad (st_n σ) q) (pt_N σ κ len z) (st_n σ))] := by
  unfold wl_
  rw [show st_n (pt_N σ κ len z) - 128 = (st_n σ - 128) + 1 by show st_n σ + 1 - 128 = _; omega, List.range_succ, List.map_append]
  refine cg_2 (fun a b => a ++ b) (List.map_congr_left (fun k hk => ?_)) ?_
  · have hk := List.mem_range.mp hk
    have hne : 128 + k ≠ st_n σ := by omega
    have e1 : ad_n ad (st_n σ) q (128 + k) = ad (128 + k) := if_neg hne
    have e2 : ce_ γ (ad_n ad (st_n σ) q) (pt_N σ κ len z) (128 + k) = ce_ γ ad σ (128 + k) := ce_ext (fun _ => if_neg hne) (fun _ => if_neg hne) (fun _ => if_neg hne) (if_neg hne) ad_ex hr
    rw [e1, e2]
  · have e1 : 128 + (st_n σ - 128) = st_n σ := by omega
    show [(ad_n ad (st_n σ) q (128 + (st_n σ - 128)), _)] = _
    rw [e1]
    unfold ad_n
    rw [if_pos rfl]
/-- a step that makes a cell -/
theorem vs_new {pc' κ len z : Nat} {st' : List Value} (hκ : κ ≠ 0) (hst : ∀ v ∈ st', v ∈ st)
    (h : ∀ (p : Program) (e : Env) (R : Room) (s : State) (m : MethodId) (args : Array Value) (below : List Frame) (meth : Method) (c : Code) (ad : Nat → Nat) (H : Heap) (locs : List Loc) (cells slots : Nat) (la : Array Slot) (Z : State → Prop), cx_ γ μ p s m args meth c → wo_ γ ad σ H → va_S (ga_A γ) s.heap H locs → cells + 1 ≤ R.cells → slots + z ≤ R.slots →
      (∀ (q : Nat) (H1 : Heap), va_P γ.2.1 vwCl (wl_ γ ad σ ++ [(q, ce_ γ (ad_n ad (st_n σ) q) (pt_N σ κ len z) (st_n σ))]) H1 → va_D (ga_A γ) (wl_ γ ad σ ++ [(q, ce_ γ (ad_n ad (st_n σ) q) (pt_N σ κ len z) (st_n σ))]) → va_S (ga_A γ) s.heap H1 locs → W p γ.1 e R s m args below meth c H1 locs (cells + 1) (slots + z) Z (F0 m pc' la (.ref q :: st'.map (cv_ ad)))) → W p γ.1 e R s m args below meth c H locs cells slots Z (F0 m pc la (st.map (cv_ ad))))
    (k : vv_ γ μ d pc' ls (.ref (st_n σ) :: st') (pt_N σ κ len z) Q) : vv_ γ μ d pc ls st σ Q := by
  obtain ⟨r, σ', hQ, hle, hw⟩ := k
  have hle1 : le_ σ (pt_N σ κ len z) := ⟨Nat.le_succ _, Nat.le_succ _, Nat.le_add_right _ _⟩
  have hc1 : st_c σ + 1 ≤ st_c σ' := hle.2.1
  have hu1 : st_u σ + z ≤ st_u σ' := hle.2.2
  refine ⟨r, σ', hQ, le_tr hle1 hle, ?_⟩
  intro p e R s m args below meth c ad H locs cells slots la hcx hx hwo hS hl ho1 ho2 hR1 hR2 hR3 hR4
  refine h p e R s m args below meth c ad H locs cells slots la _ hcx hwo hS (by omega) (by omega) (fun q H1 hP hD hS1 => ?_)
  have h128 := hwo.2.2.2.2.1
  rw [← wl_push h128 hwo.2.2.2.2.2] at hP hD
  have hwo1 : wo_ γ (ad_n ad (st_n σ) q) (pt_N σ κ len z) H1 := by
    refine ⟨hP, hD, fun h hh => ?_, fun a ha => ?_, Nat.le_succ_of_le h128, fun b k r hr => ?_⟩
    · rw [← hwo.2.2.1 h hh]
      exact if_neg (by omega)
    · by_cases hb : a = st_n σ
      · rw [hb]
        exact ⟨h128, Nat.lt_succ_self _⟩
      · have h9 : st_S (pt_N σ κ len z) a = st_S σ a := if_neg hb
        rw [h9] at ha
        obtain ⟨c1, c2⟩ := hwo.2.2.2.1 a ha
        exact ⟨c1, Nat.lt_succ_of_lt c2⟩
    · by_cases hb : b = st_n σ
      · have h9 : st_R (pt_N σ κ len z) b k = none := if_pos hb
        rw [h9] at hr
        cases hr
      · have h9 : st_R (pt_N σ κ len z) b k = st_R σ b k := if_neg hb
        rw [h9] at hr
        exact Nat.lt_succ_of_lt (hwo.2.2.2.2.2 b k r hr)
  have hex : ex_ ad (ad_n ad (st_n σ) q) σ := ad_ex
  have e1 : (Value.ref (st_n σ) :: st').map (cv_ (ad_n ad (st_n σ) q)) = .ref q :: st'.map (cv_ ad) := by
    rw [List.map_cons]
    refine cg_2 List.cons ?_ (List.map_congr_left (fun v hv => cv_ex hex (ho2 v (hst v hv))))
    show Value.ref (ad_n ad (st_n σ) q (st_n σ)) = _
    unfold ad_n
    rw [if_pos rfl]
  have e2 : lc_ (ad_n ad (st_n σ) q) ls = lc_ ad ls := by
    unfold lc_
    exact List.map_congr_left (fun x hx => by rw [cv_ex hex (ho1 x hx)])
  have k1 := hw p e R s m args below meth c (ad_n ad (st_n σ) q) H1 locs (cells + 1) (slots + z) la hcx hx hwo1 hS1 (by rw [e2]; exact hl) (fun x hx => ok_up (Nat.le_succ _) (ho1 x hx)) (fun v hv => by
    rcases List.mem_cons.mp hv with hv | hv
    · rw [hv]
      intro a ha
      cases ha
      exact Nat.lt_succ_self _
    · exact ok_up (Nat.le_succ _) (ho2 v (hst v hv))) (by show cells + 1 + (st_c σ' - (st_c σ + 1)) ≤ _; omega) (by show slots + z + (st_u σ' - (st_u σ + z)) ≤ _; omega) hR3 hR4
  rw [e1] at k1
  intro T hT X
  obtain ⟨t, a1, b1⟩ := k1 T hT X
  have b2 : fin_ γ (ad_n ad (st_n σ) q) (pt_N σ κ len z) r σ' below args s (cells + (st_c σ' - st_c σ)) (slots + (st_u σ' - st_u σ)) t := by
    have q1 : cells + 1 + (st_c σ' - st_c (pt_N σ κ len z)) = cells + (st_c σ' - st_c σ) := by show cells + 1 + (st_c σ' - (st_c σ + 1)) = _; omega
    have q2 : slots + z + (st_u σ' - st_u (pt_N σ κ len z)) = slots + (st_u σ' - st_u σ) := by show slots + z + (st_u σ' - (st_u σ + z)) = _; omega
    rw [q1, q2] at b1
    exact b1
  exact ⟨t, a1, fin_up hex (Nat.le_succ _) b2⟩
theorem pN_S {κ len z : Nat} : st_S (pt_N σ κ len z) (st_n σ) = (κ, len) := if_pos rfl
theorem pN_I {κ len z : Nat} : st_I (pt_N σ κ len z) (st_n σ) = fun _ => 0 := funext fun _ => if_pos rfl
theorem pN_L {κ len z : Nat} : st_L (pt_N σ κ len z) (st_n σ) = fun _ => 0 := funext fun _ => if_pos rfl
theorem pN_R {κ len z : Nat} : st_R (pt_N σ κ len z) (st_n σ) = fun _ => none := funext fun _ => if_pos rfl
theorem pN_fs {ad : Nat → Nat} {ci len z : Nat} {κ : Nat} (j : Nat) (t : FieldType) (ht : t = .int ∨ t = .boolean ∨ t = .long ∨ ty_r t) : fv_ ad (pt_N σ κ len z) (st_n σ) t j = defaultValue t := by
  rcases ht with rfl | rfl | rfl | ⟨n, rfl⟩ | ⟨n, rfl⟩
  · show Value.int (st_I (pt_N σ κ len z) (st_n σ) j) = _
    rw [pN_I]; rfl
  · show Value.int (st_I (pt_N σ κ len z) (st_n σ) j) = _
    rw [pN_I]; rfl
  · show Value.long (st_L (pt_N σ κ len z) (st_n σ) j) = _
    rw [pN_L]; rfl
  · show va_re ad (st_R (pt_N σ κ len z) (st_n σ) j) = _
    rw [pN_R]; rfl
  · show va_re ad (st_R (pt_N σ κ len z) (st_n σ) j) = _
    rw [pN_R]; rfl
theorem cx_B {p : Program} {s : State} {m : MethodId} {args : Array Value} {meth : Method} {c : Code} (C : cx_ γ μ p s m args meth c) : ga_B γ ≤ s.heap.size := C.2.2.2.2.2.2.2.2.2.2.2.2.2.2.1
/-- what a new object of a class holds -/
def nw_ (x ci : Nat) (own : String) : Prop := ∃ q : vw_C, vwCl[ci]? = some q ∧ Cond.classLink own x q.1 ∈ tg_ ∧ Cond.instantiable q.1 q.2.2 ∈ tg_ ∧ Cond.initialized q.1 ∈ tg_ ∧ ∀ j, j < q.2.2 → (ty_f ci j = .int ∨ ty_f ci j = .boolean ∨ ty_f ci j = .long ∨ ty_r (ty_f ci j))
theorem vr_new {x ci : Nat} (hd : decode μ.2.1 pc = .ok (.new x, 3)) (hw : nw_ x ci μ.1.cls) (kk : vv_ γ μ d (pc + 3) ls (.ref (st_n σ) :: st) (pt_N σ (ci + 1) 0 (nf_ ci)) Q) : vv_ γ μ d pc ls st σ Q := by
  refine vs_new (κ := ci + 1) (len := 0) (z := nf_ ci) (Nat.succ_ne_zero _) (fun _ h => h) (fun p e R s m args below meth c ad H locs cells slots la Z C hwo hS hc1 hs1 kk => ?_) kk
  obtain ⟨q, hq, w1, w2, w3, hty⟩ := hw
  obtain ⟨g1, g2, g3, g4⟩ := cl_ok hq
  have hA : ∀ z, s.heap.size ≤ z → ga_A γ z := fun z hz => Nat.le_trans (cx_B C) hz
  have hlt := vw_lt hq
  have he : ∀ z, ce_ γ (ad_n ad (st_n σ) z) (pt_N σ (ci + 1) 0 (nf_ ci)) (st_n σ) = .inr (ci, fs_ (ad_n ad (st_n σ) z) (pt_N σ (ci + 1) 0 (nf_ ci)) (st_n σ) ci) := fun z => ce_obj (by rw [pN_S]) hlt
  have hfs : ∀ z, fs_ (ad_n ad (st_n σ) z) (pt_N σ (ci + 1) 0 (nf_ ci)) (st_n σ) ci = (List.range (nf_ ci)).map (fun j => defaultValue (ty_f ci j)) := fun z => List.map_congr_left (fun j hj => pN_fs (ci := ci) j _ (hty j (by rw [← g4]; exact List.mem_range.mp hj)))
  refine va_new (fs := (List.range (nf_ ci)).map (fun j => defaultValue (ty_f ci j))) C.1 C.2.1 C.2.2.2.2.2.1 g1 (ty_f ci) g2 C.2.2.2.2.1 (C.2.2.2.2.2.1 _ w1) (C.2.2.2.2.2.1 _ w2) (C.2.2.2.2.2.1 _ w3) C.2.2.2.2.2.2.2.2.1 hwo.1 hwo.2.1 hS hA hq (fun j hj => ?_) hc1 (by rw [← g4]; exact hs1) hd (fun z H1 hP hD hS1 => ?_)
  · unfold vp_V
    rw [List.getD_eq_getElem?_getD, List.getElem?_map, List.getElem?_range (by rw [g4]; exact hj)]
    rfl
  · have h9 := kk z H1
    rw [he, hfs, g4] at h9
    exact h9 (by rw [← g4]; exact hP) (by rw [← g4]; exact hD) hS1
theorem vr_newI {n : Int32} {N : Nat} (hd : decode μ.2.1 pc = .ok (.newarray .int, 2)) (hw : Cond.arrayClass .int ∈ tg_) (hn : ¬ n < 0) (hN : n.toNatClampNeg = N) (hb : N * 4 ≤ 536870912) (kk : vv_ γ μ d (pc + 2) ls (.ref (st_n σ) :: st) (pt_N σ 21 N N) Q) : vv_ γ μ d pc ls (.int n :: st) σ Q := by
  refine vs_new (κ := 21) (len := N) (z := N) (by omega) (fun _ h => List.mem_cons_of_mem _ h) (fun p e R s m args below meth c ad H locs cells slots la Z C hwo hS hc1 hs1 kk => ?_) kk
  refine va_newa (atype := .int) (a0 := (N, .inl (fun _ => 0))) (ty := .int) C.1 C.2.1 (C.2.2.2.2.2.1 _ hw) rfl C.2.2.2.2.2.2.2.2.1 hwo.1 hwo.2.1 hS (fun z hz => Nat.le_trans (cx_B C) hz) (fun cA => rfl) hn hN hb hc1 hs1 hd (fun z cA H1 hK hP hD hS1 => ?_)
  have hcA : cA = γ.2.2.1 21 := Option.some.inj ((hK.2 5 _ rfl).2.symm.trans (hK.2 0 _ rfl).2)
  have h9 := kk z H1
  rw [ce_i pN_S, pN_I, ← hcA] at h9
  exact h9 hP hD hS1
theorem vr_newJ {n : Int32} {N : Nat} (hd : decode μ.2.1 pc = .ok (.newarray .long, 2)) (hw : Cond.arrayClass .long ∈ tg_) (hn : ¬ n < 0) (hN : n.toNatClampNeg = N) (hb : N * 8 ≤ 536870912) (kk : vv_ γ μ d (pc + 2) ls (.ref (st_n σ) :: st) (pt_N σ 22 N N) Q) : vv_ γ μ d pc ls (.int n :: st) σ Q := by
  refine vs_new (κ := 22) (len := N) (z := N) (by omega) (fun _ h => List.mem_cons_of_mem _ h) (fun p e R s m args below meth c ad H locs cells slots la Z C hwo hS hc1 hs1 kk => ?_) kk
  refine va_newa (atype := .long) (a0 := (N, .inr (.inl (fun _ => 0)))) (ty := .long) C.1 C.2.1 (C.2.2.2.2.2.1 _ hw) rfl C.2.2.2.2.2.2.2.2.1 hwo.1 hwo.2.1 hS (fun z hz => Nat.le_trans (cx_B C) hz) (fun cA => rfl) hn hN hb hc1 hs1 hd (fun z cA H1 hK hP hD hS1 => ?_)
  have hcA : cA = γ.2.2.1 22 := Option.some.inj ((hK.2 5 _ rfl).2.symm.trans (hK.2 1 _ rfl).2)
  have h9 := kk z H1
  rw [ce_l pN_S, pN_L, ← hcA] at h9
  exact h9 hP hD hS1
theorem vr_newB {n : Int32} {N : Nat} (hd : decode μ.2.1 pc = .ok (.newarray .byte, 2)) (hw : Cond.arrayClass .byte ∈ tg_) (hn : ¬ n < 0) (hN : n.toNatClampNeg = N) (hb : N * 1 ≤ 536870912) (kk : vv_ γ μ d (pc + 2) ls (.ref (st_n σ) :: st) (pt_N σ 23 N N) Q) : vv_ γ μ d pc ls (.int n :: st) σ Q := by
  refine vs_new (κ := 23) (len := N) (z := N) (by omega) (fun _ h => List.mem_cons_of_mem _ h) (fun p e R s m args below meth c ad H locs cells slots la Z C hwo hS hc1 hs1 kk => ?_) kk
  refine va_newa (atype := .byte) (a0 := (N, .inl (fun _ => 0))) (ty := .byte) C.1 C.2.1 (C.2.2.2.2.2.1 _ hw) rfl C.2.2.2.2.2.2.2.2.1 hwo.1 hwo.2.1 hS (fun z hz => Nat.le_trans (cx_B C) hz) (fun cA => rfl) hn hN hb hc1 hs1 hd (fun z cA H1 hK hP hD hS1 => ?_)
  have hcA : cA = γ.2.2.1 23 := Option.some.inj ((hK.2 5 _ rfl).2.symm.trans (hK.2 2 _ rfl).2)
  have h9 := kk z H1
  rw [ce_b pN_S, pN_I, ← hcA] at h9
  exact h9 hP hD hS1
theorem vr_newZ {n : Int32} {N : Nat} (hd : decode μ.2.1 pc = .ok (.newarray .boolean, 2)) (hw : Cond.arrayClass .boolean ∈ tg_) (hn : ¬ n < 0) (hN : n.toNatClampNeg = N) (hb : N * 1 ≤ 536870912) (kk : vv_ γ μ d (pc + 2) ls (.ref (st_n σ) :: st) (pt_N σ 24 N N) Q) : vv_ γ μ d pc ls (.int n :: st) σ Q := by
  refine vs_new (κ := 24) (len := N) (z := N) (by omega) (fun _ h => List.mem_cons_of_mem _ h) (fun p e R s m args below meth c ad H locs cells slots la Z C hwo hS hc1 hs1 kk => ?_) kk
  refine va_newa (atype := .boolean) (a0 := (N, .inl (fun _ => 0))) (ty := .boolean) C.1 C.2.1 (C.2.2.2.2.2.1 _ hw) rfl C.2.2.2.2.2.2.2.2.1 hwo.1 hwo.2.1 hS (fun z hz => Nat.le_trans (cx_B C) hz) (fun cA => rfl) hn hN hb hc1 hs1 hd (fun z cA H1 hK hP hD hS1 => ?_)
  have hcA : cA = γ.2.2.1 24 := Option.some.inj ((hK.2 5 _ rfl).2.symm.trans (hK.2 3 _ rfl).2)
  have h9 := kk z H1
  rw [ce_z pN_S, pN_I, ← hcA] at h9
  exact h9 hP hD hS1
end AL
