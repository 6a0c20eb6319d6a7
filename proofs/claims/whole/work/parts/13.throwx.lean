section TW
variable {γ : ga_T} {μ μ' : mr_T} {d d' pc : Nat} {ls : List (Nat × Value)} {st as rest : List Value} {σ : st_T} {Q : rs_T → st_T → Prop}
def tn_ (own : String) (ik ic : Nat) (cls : String) (ix : Nat) (rx : ByteArray) (names : List String) : Prop :=
  (decode rx 0 = .ok (.aload_n 0, 1) ∧ decode rx 1 = .ok (.aload_n 1, 1) ∧ decode rx 2 = .ok (.invokespecial ix, 3) ∧ decode rx 5 = .ok (.return_, 1)) ∧ Bundle.fit cls = true ∧ (∀ n ∈ names, Bundle.fit n = true) ∧ Cond.classLink own ik cls ∈ tg_ ∧ Cond.initialized cls ∈ tg_ ∧ (∀ w ∈ (nx_atS own ic cls ix rx names).filter goodWord, w ∈ tg_) ∧ (∀ w ∈ (nx_atS own ic cls ix rx names).filter (fun w => !goodWord w), w ∈ Cond.castable cls cls :: ex_d.map Cond.declares) ∧
  (∀ w ∈ Cond.classLink own ik cls :: Cond.initialized cls :: nx_atS own ic cls ix rx names, vx_ot w = true) ∧ cls ∈ ex_n ∧ names.length ≤ 3
theorem tn_at {own cls : String} {ik ic ix : Nat} {rx : ByteArray} {names : List String} (h : tn_ own ik ic cls ix rx names) {p : Program} {s : State} {m : MethodId} {args : Array Value} {meth : Method} {c : Code} (C : cx_ γ μ p s m args meth c) : ∀ w ∈ nx_atS own ic cls ix rx names, w.before args s = true := by
  obtain ⟨-, h1, h2, h3, h4, h5, h6, h7, h8, h9⟩ := h
  refine vx_hat (B := Cond.castable cls cls :: ex_d.map Cond.declares) (fun w hw => C.2.2.2.2.2.1 _ (h5 w hw)) h6 (fun w hw => ?_)
  have hk := C.2.2.2.2.2.2.2.2.2.2.2.2.2.2.2.2.1.1
  rcases List.mem_cons.mp hw with e | e
  · rw [e]
    exact va_Nw.use rfl (hk.1 cls h8)
  · obtain ⟨x, hx, rfl⟩ := List.mem_map.mp e
    exact va_Nw.use rfl (hk.2 x hx)
theorem vr_throwN {ik is ic i ix : Nat} {rx : ByteArray} {cls : String} {names : List String} (d0 : decode μ.2.1 pc = .ok (.new ik, 3)) (d3 : decode μ.2.1 (pc + 3) = .ok (.dup, 1)) (d4 : decode μ.2.1 (pc + 4) = .ok (.ldc is, 2)) (d6 : decode μ.2.1 (pc + 6) = .ok (.invokespecial ic, 3)) (d9 : decode μ.2.1 (pc + 9) = .ok (.athrow, 1))
    (hh : μ.2.2.2.2 = []) (ht : tn_ μ.1.cls ik ic cls ix rx names) (hi : i < 46) (h1 : (sc_q i).1 = μ.1.cls) (h2 : (sc_q i).2.1 = is) (hcat : (st.map fun v => v.category).sum ≤ 8) (hd : 8 ≤ d) (hQ : Q (.inr cls) (pt_X σ 1 6)) : vv_ γ μ d pc ls st σ Q := by
  refine ⟨.inr cls, pt_X σ 1 6, hQ, ⟨Nat.le_refl _, Nat.le_add_right _ _, Nat.le_add_right _ _⟩, ?_⟩
  intro p e R s m args below meth c ad H locs cells slots la C htab hwo hS hl ho1 ho2 hR1 hR2 hR3 hR4
  obtain ⟨⟨x0, x1, x2, x5⟩, t1, t2, t3, t4, t5, t6, t7, t8, t9⟩ := id ht
  have hz := (C.2.2.2.2.2.2.2.2.2.2.2.1 i hi).2.2.2.2
  rw [h1, h2] at hz
  have e1 : st_c (pt_X σ 1 6) - st_c σ = 1 := by show st_c σ + 1 - st_c σ = 1; omega
  have e2 : st_u (pt_X σ 1 6) - st_u σ = 6 := by show st_u σ + 6 - st_u σ = 6; omega
  rw [e1] at hR1 ⊢
  rw [e2] at hR2 ⊢
  rw [hh] at htab
  have htab : c.exceptionTable.toList = [] := htab
  have hts := C.2.2.2.2.2.1
  have hx3 := C.2.2.2.2.2.2.2.2.2.2.2.2.1
  have hst := C.2.2.2.2.2.2.2.2.2.2.2.2.2.1
  refine nx_throwS C.1 C.2.1 hst x0 x1 x2 x5 C.2.2.2.2.1 t1 t2 (hts _ t3) (hts _ t4) hz (tn_at ht C) t7 hx3.1 hx3.2.1 hS (hl.1.trans C.2.2.2.1.symm) d0 d3 d4 d6 d9 (fun x hx => by rw [htab] at hx; cases hx) (by omega) (by rw [cat_map]; omega) hR1 hR2 C.2.2.2.2.2.2.1 (fun t hv hz1 hq => ?_) hS.2.2 (Nat.le_refl _) (Nat.le_refl _)
  refine ⟨⟨ad, rfl, fun _ _ => rfl, pX_wo hwo hq⟩, Nat.le_trans hS.1 hz1, fun q h1 h2 => ?_⟩
  rw [hq q (Nat.lt_of_lt_of_le h1 hS.1)]
  exact hS.2.1 q h1 h2
theorem vr_throwNW {ik is ic i ix : Nat} {rx : ByteArray} {cls : String} {names : List String} (d0 : decode μ.2.1 pc = .ok (.new ik, 3)) (d3 : decode μ.2.1 (pc + 3) = .ok (.dup, 1)) (d4 : decode μ.2.1 (pc + 4) = .ok (.ldc_w is, 3)) (d6 : decode μ.2.1 (pc + 7) = .ok (.invokespecial ic, 3)) (d9 : decode μ.2.1 (pc + 10) = .ok (.athrow, 1))
    (hh : μ.2.2.2.2 = []) (ht : tn_ μ.1.cls ik ic cls ix rx names) (hi : i < 46) (h1 : (sc_q i).1 = μ.1.cls) (h2 : (sc_q i).2.1 = is) (hcat : (st.map fun v => v.category).sum ≤ 8) (hd : 8 ≤ d) (hQ : Q (.inr cls) (pt_X σ 1 6)) : vv_ γ μ d pc ls st σ Q := by
  refine ⟨.inr cls, pt_X σ 1 6, hQ, ⟨Nat.le_refl _, Nat.le_add_right _ _, Nat.le_add_right _ _⟩, ?_⟩
  intro p e R s m args below meth c ad H locs cells slots la C htab hwo hS hl ho1 ho2 hR1 hR2 hR3 hR4
  obtain ⟨⟨x0, x1, x2, x5⟩, t1, t2, t3, t4, t5, t6, t7, t8, t9⟩ := id ht
  have hz := (C.2.2.2.2.2.2.2.2.2.2.2.1 i hi).2.2.2.2
  rw [h1, h2] at hz
  have e1 : st_c (pt_X σ 1 6) - st_c σ = 1 := by show st_c σ + 1 - st_c σ = 1; omega
  have e2 : st_u (pt_X σ 1 6) - st_u σ = 6 := by show st_u σ + 6 - st_u σ = 6; omega
  rw [e1] at hR1 ⊢
  rw [e2] at hR2 ⊢
  rw [hh] at htab
  have htab : c.exceptionTable.toList = [] := htab
  have hts := C.2.2.2.2.2.1
  have hx3 := C.2.2.2.2.2.2.2.2.2.2.2.2.1
  have hst := C.2.2.2.2.2.2.2.2.2.2.2.2.2.1
  refine nx_throwSW C.1 C.2.1 hst x0 x1 x2 x5 C.2.2.2.2.1 t1 t2 (hts _ t3) (hts _ t4) hz (tn_at ht C) t7 hx3.1 hx3.2.1 hS (hl.1.trans C.2.2.2.1.symm) d0 d3 d4 d6 d9 (fun x hx => by rw [htab] at hx; cases hx) (by omega) (by rw [cat_map]; omega) hR1 hR2 C.2.2.2.2.2.2.1 (fun t hv hz1 hq => ?_) hS.2.2 (Nat.le_refl _) (Nat.le_refl _)
  refine ⟨⟨ad, rfl, fun _ _ => rfl, pX_wo hwo hq⟩, Nat.le_trans hS.1 hz1, fun q h1 h2 => ?_⟩
  rw [hq q (Nat.lt_of_lt_of_le h1 hS.1)]
  exact hS.2.1 q h1 h2

end TW
