theorem tg_good : ∀ w ∈ tg_, w ∈ tg_ ∧ ((w.onTables && w.keeps) = true ∨ ∃ ty, w = .arrayClass ty) := fun w hw => ⟨hw, good_of_word (List.mem_filter.mp hw).2⟩
/-- of a word: it is one of the tables' -/
theorem tg_of {w : Cond} {i : Nat} (h : lw_tbl[i]? = some w) (g : goodWord w = true) : w ∈ tg_ := List.mem_filter.mpr ⟨List.mem_of_getElem? h, g⟩
/-- what the tables say of a call -/
def cw_0 (own : String) (x : Nat) (μ' : mr_T) (n : Nat) : Prop := Cond.methodLink own x μ'.1 ∈ tg_ ∧ Cond.initialized μ'.1.cls ∈ tg_ ∧ mc_ μ' ∈ tg_ ∧ (μ'.1.cls ≠ "java/lang/invoke/MethodHandle" ∧ μ'.1.cls ≠ "java/lang/invoke/VarHandle" ∧ (parseMethodDescriptor μ'.1.desc).map (fun d => d.parameters.length) = some n) ∧ μ'.2.2.1 ≤ 45
theorem mw_good {μ' : mr_T} (h : mc_ μ' ∈ tg_) : GoodIn tg_ (mw_ μ') := fun w hw => by
  rcases List.mem_cons.mp hw with e | e
  · rw [e]
    exact tg_good _ h
  · exact tg_good _ e
section CR
variable {γ : ga_T} {μ μ' : mr_T} {d d' pc : Nat} {ls : List (Nat × Value)} {st as rest : List Value} {σ : st_T} {Q : rs_T → st_T → Prop}
theorem pc_blind {ad : Nat → Nat} : FrameBlind (pc_ γ ad as σ) := fun a U g mk h => ⟨h.1, h.2.1, h.2.2.1, kk_go (U := U.calling g mk a) h.2.2.2 (State.WarmedH.refl U) (Nat.le_refl _) (fun _ _ _ => rfl)⟩
theorem pc_in {p : Program} {s : State} {m : MethodId} {args : Array Value} {meth : Method} {c : Code} {ad : Nat → Nat} {H : Heap} {locs : List Loc} (C : cx_ γ μ p s m args meth c) (hwo : wo_ γ ad σ H) (hS : va_S (ga_A γ) s.heap H locs) (ho : ∀ v ∈ as, ok_ σ v) (U : State) (hU : U.heap = H) (hW : s.WarmedH U.vm) : pc_ γ ad as σ (as.map (cv_ ad)).toArray U :=
  ⟨rfl, ho, by rw [hU]; exact hwo, kk_go C.2.2.2.2.2.2.2.2 hW (by rw [hU]; exact hS.1) (fun a h1 h2 => by rw [hU]; exact hS.2.1 a h1 h2)⟩
theorem rm_fit {R : Room} {d0 k : Nat} (hdd : d' + 1 ≤ d) (hk : k ≤ 45) (h1 : d ≤ R.frames) (h2 : 64 * d ≤ R.locals) {mc ms : Nat} : (rm_ d' mc ms).frames + 1 ≤ R.frames ∧ 8 + (k + 11) + (rm_ d' mc ms).locals ≤ R.locals := ⟨Nat.le_trans hdd h1, by show 8 + (k + 11) + 64 * d' ≤ _; omega⟩
theorem cat_map {ad : Nat → Nat} {l : List Value} : ((l.map (cv_ ad)).map fun v => v.category) = l.map fun v => v.category := by
  rw [List.map_map]
  exact List.map_congr_left (fun v _ => cv_cat ad v)
theorem vr_callV0 {a x n : Nat} {As : List Value} (hd : decode μ.2.1 pc = .ok (.invokevirtual x, 3)) (hh : μ'.2.2.2.2 = []) (hw : cw_0 μ.1.cls x μ' n) (hw1 : Cond.instanceMethod μ'.1 ∈ tg_) (hw2 : Cond.selects μ'.1.cls μ'.1 μ'.1 ∈ tg_) (hn : As.length = n) (hst : st = As.reverse ++ .ref a :: rest) (hcat : (rest.map fun v => v.category).sum ≤ 8) (hdd : d' + 1 ≤ d)
    (hrecv : ∀ (p : Program) (s : State) (m : MethodId) (args : Array Value) (meth : Method) (c : Code) (ad : Nat → Nat) (H : Heap) (locs : List Loc), cx_ γ μ p s m args meth c → wo_ γ ad σ H → va_S (ga_A γ) s.heap H locs → ∃ cell : Cell, H[ad a]? = some cell ∧ cell.vm.isStatics = false ∧ s.vm.findClass μ'.1.cls = some cell.cls)
    (k : sp_ γ μ' d' (.ref a :: As) σ (co_ γ μ d pc ls rest Q)) : vv_ γ μ d pc ls st σ Q := by
  refine vs_inv k (fun v hv => by rw [hst]; exact List.mem_append_right _ (List.mem_cons_of_mem _ hv)) (fun p e R s m args below meth c ad H locs cells slots mc ms la r1 σ1 C hwo hS hl ho2 hR3 hR4 hf hM => ?_)
  obtain ⟨w1, w2, w3, w4, w5⟩ := hw
  have w3' : mc_ μ' = Cond.code μ'.1 μ'.2.1 μ'.2.2.1 μ'.2.2.2.1 := by unfold mc_; rw [hh]
  have hws : mw_ μ' = Cond.code μ'.1 μ'.2.1 μ'.2.2.1 μ'.2.2.2.1 :: tg_ := by unfold mw_; rw [w3']
  have hG : GoodIn tg_ (wsV μ.1.cls x μ'.1.cls μ'.1 (mw_ μ')) := fun w hw => by
    unfold wsV at hw
    rcases List.mem_append.mp hw with h | h
    · rcases List.mem_cons.mp h with h | h
      · rw [h]; exact tg_good _ w1
      · rcases List.mem_cons.mp h with h | h
        · rw [h]; exact tg_good _ hw1
        · rcases List.mem_cons.mp h with h | h
          · rw [h]; exact tg_good _ hw2
          · rw [List.mem_singleton.mp h]; exact tg_good _ w2
    · exact mw_good w3 w h
  have cw := cwV (R := R) (rm := rm_ d' mc ms) n C.2.2.2.2.2.1 hG hws rfl rfl ⟨rfl, w4⟩ (rm_fit (d0 := 0) hdd w5 hR3 hR4)
  have hoAs : ∀ v ∈ Value.ref a :: As, ok_ σ v := fun v hv => ho2 v (by
    rw [hst]
    rcases List.mem_cons.mp hv with h | h
    · rw [h]; exact List.mem_append_right _ List.mem_cons_self
    · exact List.mem_append_left _ (List.mem_reverse.mpr h))
  refine ⟨_, vx_runV (As := As.map (cv_ ad)) (rest := rest.map (cv_ ad)) (b := ad a) ⟨C.1, C.2.1, C.2.2.2.1, C.2.2.2.2.1, C.2.2.2.2.2.1⟩ hM cw ⟨pc_blind, hrecv p s m args meth c ad H locs C hwo hS, fun U hU hW => pc_in (as := .ref a :: As) C hwo hS hoAs U hU hW⟩ rfl (by rw [List.length_map]; exact hn) hl.1 ?_ (lv_room (by rw [cat_map]; exact hcat)) hd hf⟩
  show st.map (cv_ ad) = _
  rw [hst, List.map_append, List.map_reverse]
  rfl
theorem vr_callV {a x n ci : Nat} {As : List Value} {q : vw_C} (hd : decode μ.2.1 pc = .ok (.invokevirtual x, 3)) (hh : μ'.2.2.2.2 = []) (hw : cw_0 μ.1.cls x μ' n) (hw1 : Cond.instanceMethod μ'.1 ∈ tg_) (hw2 : Cond.selects μ'.1.cls μ'.1 μ'.1 ∈ tg_) (hq : vwCl[ci]? = some q) (hqc : q.1 = μ'.1.cls) (hs : (st_S σ a).1 = ci + 1) (hn : As.length = n) (hst : st = As.reverse ++ .ref a :: rest) (hcat : (rest.map fun v => v.category).sum ≤ 8) (hdd : d' + 1 ≤ d)
    (k : sp_ γ μ' d' (.ref a :: As) σ (co_ γ μ d pc ls rest Q)) : vv_ γ μ d pc ls st σ Q := by
  refine vr_callV0 hd hh hw hw1 hw2 hn hst hcat hdd (fun p s m args meth c ad H locs C hwo hS => ?_) k
  obtain ⟨b1, b2⟩ := hwo.2.2.2.1 a (by rw [hs]; exact Nat.succ_ne_zero _)
  have he := wl_get (γ := γ) (ad := ad) b1 b2
  rw [ce_obj hs (vw_lt hq)] at he
  rw [← hqc]
  exact va_recv C.2.2.2.2.2.2.2.2.1 hwo.1 hq he
theorem vr_callVS {i x n : Nat} {As : List Value} (hd : decode μ.2.1 pc = .ok (.invokevirtual x, 3)) (hh : μ'.2.2.2.2 = []) (hw : cw_0 μ.1.cls x μ' n) (hw1 : Cond.instanceMethod μ'.1 ∈ tg_) (hw2 : Cond.selects μ'.1.cls μ'.1 μ'.1 ∈ tg_) (hqc : μ'.1.cls = "java/lang/String") (hi : i < 46) (hn : As.length = n) (hst : st = As.reverse ++ .ref (30 + i) :: rest) (hcat : (rest.map fun v => v.category).sum ≤ 8) (hdd : d' + 1 ≤ d)
    (k : sp_ γ μ' d' (.ref (30 + i) :: As) σ (co_ γ μ d pc ls rest Q)) : vv_ γ μ d pc ls st σ Q := by
  refine vr_callV0 hd hh hw hw1 hw2 hn hst hcat hdd (fun p s m args meth c ad H locs C hwo hS => ?_) k
  obtain ⟨cell, h1, h2, h3, -⟩ := (C.2.2.2.2.2.2.2.2.2.2.2.1 i hi).1.kept hS.2.1
  rw [hwo.2.2.1 (30 + i) (by omega), hqc]
  exact ⟨cell, h1, h2, h3⟩
theorem vr_callS {x n : Nat} {As : List Value} (hd : decode μ.2.1 pc = .ok (.invokestatic x, 3)) (hh : μ'.2.2.2.2 = []) (hw : cw_0 μ.1.cls x μ' n) (hw1 : Cond.static μ'.1 ∈ tg_) (hn : As.length = n) (hst : st = As.reverse ++ rest) (hcat : (rest.map fun v => v.category).sum ≤ 8) (hdd : d' + 1 ≤ d)
    (k : sp_ γ μ' d' As σ (co_ γ μ d pc ls rest Q)) : vv_ γ μ d pc ls st σ Q := by
  refine vs_inv k (fun v hv => by rw [hst]; exact List.mem_append_right _ hv) (fun p e R s m args below meth c ad H locs cells slots mc ms la r1 σ1 C hwo hS hl ho2 hR3 hR4 hf hM => ?_)
  obtain ⟨w1, w2, w3, w4, w5⟩ := hw
  have w3' : mc_ μ' = Cond.code μ'.1 μ'.2.1 μ'.2.2.1 μ'.2.2.2.1 := by unfold mc_; rw [hh]
  have hws : mw_ μ' = Cond.code μ'.1 μ'.2.1 μ'.2.2.1 μ'.2.2.2.1 :: tg_ := by unfold mw_; rw [w3']
  have hG : GoodIn tg_ (va_wsS μ.1.cls x μ'.1 (mw_ μ')) := fun w hw => by
    unfold va_wsS at hw
    rcases List.mem_append.mp hw with h | h
    · rcases List.mem_cons.mp h with h | h
      · rw [h]; exact tg_good _ w1
      · rcases List.mem_cons.mp h with h | h
        · rw [h]; exact tg_good _ hw1
        · rw [List.mem_singleton.mp h]; exact tg_good _ w2
    · exact mw_good w3 w h
  have cw := va_cwS (R := R) (rm := rm_ d' mc ms) n C.2.2.2.2.2.1 hG hws rfl rfl w4 (rm_fit (d0 := 0) hdd w5 hR3 hR4)
  have hoAs : ∀ v ∈ As, ok_ σ v := fun v hv => ho2 v (by rw [hst]; exact List.mem_append_left _ (List.mem_reverse.mpr hv))
  refine ⟨_, vx_runS (As := As.map (cv_ ad)) (rest := rest.map (cv_ ad)) ⟨C.1, C.2.1, C.2.2.2.1, C.2.2.2.2.1, C.2.2.2.2.2.1⟩ hM cw ⟨pc_blind, fun U hU hW => pc_in (as := As) C hwo hS hoAs U hU hW⟩ rfl (by rw [List.length_map]; exact hn) hl.1 ?_ (lv_room (by rw [cat_map]; exact hcat)) hd hf⟩
  show st.map (cv_ ad) = _
  rw [hst, List.map_append, List.map_reverse]
theorem vr_callI {a x n : Nat} {As : List Value} (hd : decode μ.2.1 pc = .ok (.invokespecial x, 3)) (hh : μ'.2.2.2.2 = []) (hret : μ'.2.2.2.1 = none) (hnm : μ'.1.name = "<init>") (hw : cw_0 μ.1.cls x μ' n) (hw1 : Cond.instanceMethod μ'.1 ∈ tg_) (hn : As.length = n) (hst : st = As.reverse ++ .ref a :: rest) (hcat : (rest.map fun v => v.category).sum ≤ 8) (hdd : d' + 1 ≤ d)
    (k : sp_ γ μ' d' (.ref a :: As) σ (co_ γ μ d pc ls rest Q)) : vv_ γ μ d pc ls st σ Q := by
  refine vs_inv k (fun v hv => by rw [hst]; exact List.mem_append_right _ (List.mem_cons_of_mem _ hv)) (fun p e R s m args below meth c ad H locs cells slots mc ms la r1 σ1 C hwo hS hl ho2 hR3 hR4 hf hM => ?_)
  obtain ⟨w1, w2, w3, w4, w5⟩ := hw
  have w3' : mc_ μ' = Cond.code μ'.1 μ'.2.1 μ'.2.2.1 none := by unfold mc_; rw [hh, hret]
  have hws : mw_ μ' = Cond.code μ'.1 μ'.2.1 μ'.2.2.1 none :: tg_ := by unfold mw_; rw [w3']
  have hts := C.2.2.2.2.2.1
  have cw := cwI (R := R) (rm := rm_ d' mc ms) n hts (mw_good w3) hws rfl rfl (hts _ w2) (hts _ w1) (hts _ hw1) hnm w4 (rm_fit (d0 := 0) hdd w5 hR3 hR4)
  have hoAs : ∀ v ∈ Value.ref a :: As, ok_ σ v := fun v hv => ho2 v (by
    rw [hst]
    rcases List.mem_cons.mp hv with h | h
    · rw [h]; exact List.mem_append_right _ List.mem_cons_self
    · exact List.mem_append_left _ (List.mem_reverse.mpr h))
  refine ⟨_, vx_runI (As := As.map (cv_ ad)) (rest := rest.map (cv_ ad)) (b := ad a) ⟨C.1, C.2.1, C.2.2.2.1, C.2.2.2.2.1, hts⟩ hM cw ⟨pc_blind, fun U hU hW => pc_in (as := .ref a :: As) C hwo hS hoAs U hU hW⟩ rfl (by rw [List.length_map]; exact hn) hl.1 ?_ (lv_room (by rw [cat_map]; exact hcat)) hd hf⟩
  show st.map (cv_ ad) = _
  rw [hst, List.map_append, List.map_reverse]
  rfl
theorem vr_callIN {a x n : Nat} {As : List Value} (hd : decode μ.2.1 pc = .ok (.invokespecial x, 3)) (hh : μ'.2.2.2.2 = []) (hret : μ'.2.2.2.1 = none) (hnm : μ'.1.name = "<init>") (hng : (μ.1.cls, x, μ'.1) ∈ ng_M) (w2 : Cond.initialized μ'.1.cls ∈ tg_) (w3 : mc_ μ' ∈ tg_) (w4 : μ'.1.cls ≠ "java/lang/invoke/MethodHandle" ∧ μ'.1.cls ≠ "java/lang/invoke/VarHandle" ∧ (parseMethodDescriptor μ'.1.desc).map (fun d => d.parameters.length) = some n) (w5 : μ'.2.2.1 ≤ 45) (hw1 : Cond.instanceMethod μ'.1 ∈ tg_) (hn : As.length = n) (hst : st = As.reverse ++ .ref a :: rest) (hcat : (rest.map fun v => v.category).sum ≤ 8) (hdd : d' + 1 ≤ d)
    (k : sp_ γ μ' d' (.ref a :: As) σ (co_ γ μ d pc ls rest Q)) : vv_ γ μ d pc ls st σ Q := by
  refine vs_inv k (fun v hv => by rw [hst]; exact List.mem_append_right _ (List.mem_cons_of_mem _ hv)) (fun p e R s m args below meth c ad H locs cells slots mc ms la r1 σ1 C hwo hS hl ho2 hR3 hR4 hf hM => ?_)
  have w3' : mc_ μ' = Cond.code μ'.1 μ'.2.1 μ'.2.2.1 none := by unfold mc_; rw [hh, hret]
  have hws : mw_ μ' = Cond.code μ'.1 μ'.2.1 μ'.2.2.1 none :: tg_ := by unfold mw_; rw [w3']
  have hts := C.2.2.2.2.2.1
  have cw := va_cnB (R := R) (rm := rm_ d' mc ms) n hts (mw_good w3) hws rfl rfl (C.2.2.2.2.2.2.2.2.2.1.1 _ hng) (hts _ w2) w4 (rm_fit (d0 := 0) hdd w5 hR3 hR4)
  have hoAs : ∀ v ∈ Value.ref a :: As, ok_ σ v := fun v hv => ho2 v (by
    rw [hst]
    rcases List.mem_cons.mp hv with h | h
    · rw [h]; exact List.mem_append_right _ List.mem_cons_self
    · exact List.mem_append_left _ (List.mem_reverse.mpr h))
  refine ⟨_, vx_runIN (As := As.map (cv_ ad)) (rest := rest.map (cv_ ad)) (b := ad a) ⟨C.1, C.2.1, C.2.2.2.1, C.2.2.2.2.1, hts⟩ hM ⟨cw, hnm, hts _ hw1⟩ ⟨pc_blind, fun U hU hW => pc_in (as := .ref a :: As) C hwo hS hoAs U hU hW⟩ rfl (by rw [List.length_map]; exact hn) hl.1 ?_ (lv_room (by rw [cat_map]; exact hcat)) hd hf⟩
  show st.map (cv_ ad) = _
  rw [hst, List.map_append, List.map_reverse]
  rfl
end CR
