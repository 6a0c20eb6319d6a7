/-! methods with a table of handlers: their bodies, the catching, the calls of static ones -/
section HA
variable {γ : ga_T} {μ μ' : mr_T} {d d' pc : Nat} {ls : List (Nat × Value)} {st as rest : List Value} {σ : st_T} {Q : rs_T → st_T → Prop}
theorem sp_ofH {z0 : Nat × Nat × Nat × Nat} {zt : List (Nat × Nat × Nat × Nat)} (hy : plainName μ.1.cls = true) (hh : μ.2.2.2.2 = z0 :: zt) (hln : (lg_sl as).length ≤ μ.2.2.1) (h : vv_ γ μ d 0 (lv_args 0 as) [] σ Q) : sp_ γ μ d as σ Q := by
  obtain ⟨r, σ', hQ, hle, hw⟩ := h
  refine ⟨r, σ', hQ, hle, fun ad => vx_ofWH (cc := μ.2.1) (maxL := μ.2.2.1) (ret := μ.2.2.2.1) (hh := z0 :: zt) (ws' := tg_) hy (by unfold mw_ mc_; rw [hh]) ?_⟩
  intro p e s m args below meth c s₁ B hml hv
  obtain ⟨rfl, ho, hwo, hk⟩ := hv
  rw [lg_entry_eq]
  have hts := atoms_spec (ws := mw_ μ) B.pre
  have C : cx_ γ μ p s m (as.map (cv_ ad)).toArray meth c := ⟨B.exec, B.bytes, B.returns, hml, findClass_of_methodNamed B.named, fun w hw => hts w (List.mem_cons_of_mem _ hw), B.notSynchronized, (name_of_methodNamed B.named B.method).1, hk⟩
  have htab : c.exceptionTable.toList = tableOf μ.2.2.2.2 := by
    have h0 := hts (mc_ μ) List.mem_cons_self
    unfold mc_ at h0
    rw [hh] at h0 ⊢
    have h0' : (Cond.codeWith μ.1 μ.2.1 μ.2.2.1 μ.2.2.2.1 (z0 :: zt)).before (as.map (cv_ ad)).toArray s = true := h0
    exact vx_table (x := μ.1) B h0'
  have hl := lv_entry (as.map (cv_ ad)) (n := μ.2.2.1) (by rw [sl_cv]; exact hln)
  rw [la_cv] at hl
  have k := hw p e (headSpec (mw_ μ) (rm_ d (st_c σ' - st_c σ) (st_u σ' - st_u σ))).room s m (as.map (cv_ ad)).toArray below meth c ad s.heap [] 0 0 _ C htab hwo va_S.rf hl (la_ok as 0 ho) (fun v hv => by cases hv) (by rw [Nat.zero_add]; exact Nat.le_refl _) (by rw [Nat.zero_add]; exact Nat.le_refl _) (Nat.le_refl _) (Nat.le_refl _)
  rw [Nat.zero_add, Nat.zero_add] at k
  exact k
theorem catch_pre_1 {P : (Nat × Nat × Nat × Nat) → Prop} {z1 : Nat × Nat × Nat × Nat} (q1 : P z1) : ∀ y ∈ [z1], P y := fun y zy => by rw [List.mem_singleton.mp zy]; exact q1
theorem catch_pre_2 {P : (Nat × Nat × Nat × Nat) → Prop} {z1 z2 : Nat × Nat × Nat × Nat} (q1 : P z1) (q2 : P z2) : ∀ y ∈ [z1, z2], P y := fun y zy => by
  rcases List.mem_cons.mp zy with e | e
  · rw [e]; exact q1
  · rw [List.mem_singleton.mp e]; exact q2
/-- an exception caught: the handler puts it away and goes on with no local known -/
theorem vt_catchN {E : String} {k : Fin 4} (pre suf : List (Nat × Nat × Nat × Nat)) (z : Nat × Nat × Nat × Nat) (hh : μ.2.2.2.2 = pre ++ z :: suf) (hE : E ∈ ex_n) (hcov : covers ⟨z.1, z.2.1, z.2.2.1, z.2.2.2⟩ pc = true) (h0 : z.2.2.2 ≠ 0) (hlk : Cond.classLink μ.1.cls z.2.2.2 E ∈ tg_)
    (hpre : ∀ y ∈ pre, y.2.2.2 ≠ 0 ∧ ∃ nm, Cond.classLink μ.1.cls y.2.2.2 nm ∈ tg_ ∧ nm ∈ ex_n ∧ E ≠ nm) (hd : decode μ.2.1 z.2.2.1 = .ok (.astore_n k, 1)) (hn : (k : Nat) < μ.2.2.1) (kv : vv_ γ μ d (z.2.2.1 + 1) [] [] σ Q) : vt_ γ μ d pc ls σ E Q := by
  obtain ⟨r, σ', hQ, hle, hw⟩ := kv
  refine ⟨r, σ', hQ, hle, ?_⟩
  intro p e R s m args below meth c ad H locs cells slots la rest q ce C htab hwo hS hl ho1 hR1 hR2 hR3 hR4 h1 h2 h3
  have hts := C.2.2.2.2.2.1
  have hk4 := C.2.2.2.2.2.2.2.2.2.2.2.2.2.2.2.2.1
  refine vx_catch (own := μ.1.cls) (name := E) C.2.2.2.2.1 (tableOf pre) ⟨z.1, z.2.1, z.2.2.1, z.2.2.2⟩ (tableOf suf) (by rw [htab, hh]; unfold tableOf; rw [List.map_append]; rfl) (fun y hy => ?_) hcov h0 (hts _ hlk) (va_Nw.use rfl (hk4.1.1 E hE)) h1 h2 h3 ?_
  · obtain ⟨y0, hy0, rfl⟩ := List.mem_map.mp hy
    obtain ⟨a1, nm, a2, a3, a4⟩ := hpre y0 hy0
    exact Or.inr ⟨a1, nm, hts _ a2, hk4.2 E hE nm a3 a4⟩
  · exact lv_astore_n C.1 C.2.1 hd rfl hl hn rfl (fun la' h8 => hw p e R s m args below meth c ad H locs cells slots la' C htab hwo hS ⟨h8.1, h8.2.1, fun x hx => by cases hx⟩ (fun x hx => by cases hx) (fun x hx => by cases hx) hR1 hR2 hR3 hR4)
theorem vt_catch {E : String} {k : Nat} (pre suf : List (Nat × Nat × Nat × Nat)) (z : Nat × Nat × Nat × Nat) (hh : μ.2.2.2.2 = pre ++ z :: suf) (hE : E ∈ ex_n) (hcov : covers ⟨z.1, z.2.1, z.2.2.1, z.2.2.2⟩ pc = true) (h0 : z.2.2.2 ≠ 0) (hlk : Cond.classLink μ.1.cls z.2.2.2 E ∈ tg_)
    (hpre : ∀ y ∈ pre, y.2.2.2 ≠ 0 ∧ ∃ nm, Cond.classLink μ.1.cls y.2.2.2 nm ∈ tg_ ∧ nm ∈ ex_n ∧ E ≠ nm) (hd : decode μ.2.1 z.2.2.1 = .ok (.astore k, 2)) (hn : k < μ.2.2.1) (kv : vv_ γ μ d (z.2.2.1 + 2) [] [] σ Q) : vt_ γ μ d pc ls σ E Q := by
  obtain ⟨r, σ', hQ, hle, hw⟩ := kv
  refine ⟨r, σ', hQ, hle, ?_⟩
  intro p e R s m args below meth c ad H locs cells slots la rest q ce C htab hwo hS hl ho1 hR1 hR2 hR3 hR4 h1 h2 h3
  have hts := C.2.2.2.2.2.1
  have hk4 := C.2.2.2.2.2.2.2.2.2.2.2.2.2.2.2.2.1
  refine vx_catch (own := μ.1.cls) (name := E) C.2.2.2.2.1 (tableOf pre) ⟨z.1, z.2.1, z.2.2.1, z.2.2.2⟩ (tableOf suf) (by rw [htab, hh]; unfold tableOf; rw [List.map_append]; rfl) (fun y hy => ?_) hcov h0 (hts _ hlk) (va_Nw.use rfl (hk4.1.1 E hE)) h1 h2 h3 ?_
  · obtain ⟨y0, hy0, rfl⟩ := List.mem_map.mp hy
    obtain ⟨a1, nm, a2, a3, a4⟩ := hpre y0 hy0
    exact Or.inr ⟨a1, nm, hts _ a2, hk4.2 E hE nm a3 a4⟩
  · exact lv_astore C.1 C.2.1 hd hl hn rfl (fun la' h8 => hw p e R s m args below meth c ad H locs cells slots la' C htab hwo hS ⟨h8.1, h8.2.1, fun x hx => by cases hx⟩ (fun x hx => by cases hx) (fun x hx => by cases hx) hR1 hR2 hR3 hR4)
/-- a call of a static method with handlers -/
def cH_ (own : String) (x : Nat) (μ' : mr_T) (n : Nat) : Prop := μ'.2.2.2.2 ≠ [] ∧ cw_0 own x μ' n ∧ Cond.static μ'.1 ∈ tg_
theorem vc_H {x n : Nat} {As : List Value} (hd : decode μ.2.1 pc = .ok (.invokestatic x, 3)) (hw9 : cH_ μ.1.cls x μ' n) (hn : As.length = n) (hst : st = As.reverse ++ rest) (hcat : (rest.map fun v => v.category).sum ≤ 8) (hdd : d' + 1 ≤ d)
    (k : sp_ γ μ' d' As σ (co_ γ μ d pc ls rest Q)) : vv_ γ μ d pc ls st σ Q := by
  obtain ⟨hh, hw, hw1⟩ := hw9
  refine vs_inv k (fun v hv => by rw [hst]; exact List.mem_append_right _ hv) (fun p e R s m args below meth c ad H locs cells slots mc ms la r1 σ1 C hwo hS hl ho2 hR3 hR4 hf hM => ?_)
  obtain ⟨w1, w2, w3, w4, w5⟩ := hw
  have w3' : mc_ μ' = Cond.codeWith μ'.1 μ'.2.1 μ'.2.2.1 μ'.2.2.2.1 μ'.2.2.2.2 := by
    unfold mc_
    split
    · rename_i e; exact absurd e hh
    · rename_i e; rw [e]
  have hws : mw_ μ' = Cond.codeWith μ'.1 μ'.2.1 μ'.2.2.1 μ'.2.2.2.1 μ'.2.2.2.2 :: tg_ := by unfold mw_; rw [w3']
  have hG : GoodIn tg_ (va_wsS μ.1.cls x μ'.1 (mw_ μ')) := fun w hw => by
    unfold va_wsS at hw
    rcases List.mem_append.mp hw with h | h
    · rcases List.mem_cons.mp h with h | h
      · rw [h]; exact tg_good _ w1
      · rcases List.mem_cons.mp h with h | h
        · rw [h]; exact tg_good _ hw1
        · rw [List.mem_singleton.mp h]; exact tg_good _ w2
    · exact mw_good w3 w h
  have cw := vx_cwSW (R := R) (rm := rm_ d' mc ms) n C.2.2.2.2.2.1 hG hws rfl rfl w4 (rm_fit (d0 := 0) hdd w5 hR3 hR4)
  have hoAs : ∀ v ∈ As, ok_ σ v := fun v hv => ho2 v (by rw [hst]; exact List.mem_append_left _ (List.mem_reverse.mpr hv))
  refine ⟨_, vx_runSX (As := As.map (cv_ ad)) (rest := rest.map (cv_ ad)) ⟨C.1, C.2.1, C.2.2.2.1, C.2.2.2.2.1, C.2.2.2.2.2.1⟩ hM cw ⟨pc_blind, fun U hU hW => pc_in (as := As) C hwo hS hoAs U hU hW⟩ rfl (by rw [List.length_map]; exact hn) hl.1 ?_ (lv_room (by rw [cat_map]; exact hcat)) hd hf⟩
  show st.map (cv_ ad) = _
  rw [hst, List.map_append, List.map_reverse]
end HA
