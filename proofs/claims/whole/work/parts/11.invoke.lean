section IV
variable {γ : ga_T} {μ μ' : mr_T} {d d' pc : Nat} {ls : List (Nat × Value)} {st as rest : List Value} {σ : st_T} {Q : rs_T → st_T → Prop}
def rm_ (d mc ms : Nat) : Room := { frames := d, cells := mc, slots := ms, locals := 64 * d }
def pc_ (γ : ga_T) (ad : Nat → Nat) (as : List Value) (σ : st_T) : Array Value → State → Prop := fun a U => a = (as.map (cv_ ad)).toArray ∧ (∀ v ∈ as, ok_ σ v) ∧ wo_ γ ad σ U.heap ∧ kk_ γ U U.heap
/-- a call of μ with these arguments in this store: it ends, at most d calls deep, with an answer and a store of which Q holds -/
def sp_ (γ : ga_T) (μ : mr_T) (d : Nat) (as : List Value) (σ : st_T) (Q : rs_T → st_T → Prop) : Prop :=
  ∃ r σ', Q r σ' ∧ le_ σ σ' ∧ ∀ ad : Nat → Nat, vx_Met γ.1 μ.1 (mw_ μ) (rm_ d (st_c σ' - st_c σ) (st_u σ' - st_u σ)) (pc_ γ ad as σ) (qc_ γ ad σ r σ') (xc_ γ ad σ r σ') (st_c σ' - st_c σ) (st_u σ' - st_u σ) (ga_A γ)
theorem sp_up {Q' : rs_T → st_T → Prop} (h : sp_ γ μ d as σ Q) (hq : ∀ r σ', le_ σ σ' → Q r σ' → Q' r σ') : sp_ γ μ d as σ Q' := by
  obtain ⟨r, σ', h1, h2, h3⟩ := h
  exact ⟨r, σ', hq r σ' h2 h1, h2, h3⟩
theorem vv_up {Q' : rs_T → st_T → Prop} (h : vv_ γ μ d pc ls st σ Q) (hq : ∀ r σ', Q r σ' → Q' r σ') : vv_ γ μ d pc ls st σ Q' := by
  obtain ⟨r, σ', h1, h2⟩ := h
  exact ⟨r, σ', hq r σ' h1, h2⟩
theorem la_cv (ad : Nat → Nat) : ∀ (vs : List Value) (i : Nat), lv_args i (vs.map (cv_ ad)) = lc_ ad (lv_args i vs)
  | [], _ => rfl
  | v :: vs, i => by
    show (i, cv_ ad v) :: lv_args (if (cv_ ad v).category = 2 then i + 2 else i + 1) (vs.map (cv_ ad)) = (i, cv_ ad v) :: lc_ ad (lv_args (if v.category = 2 then i + 2 else i + 1) vs)
    rw [cv_cat, la_cv ad vs]
theorem sl_cv (ad : Nat → Nat) (vs : List Value) : (lg_sl (vs.map (cv_ ad))).length = (lg_sl vs).length := by
  unfold lg_sl
  induction vs with
  | nil => rfl
  | cons v vs ih =>
    simp only [List.map_cons, List.flatMap_cons, List.length_append, ih, cv_cat]
    split <;> rfl
theorem la_ok {σ : st_T} : ∀ (vs : List Value) (i : Nat), (∀ v ∈ vs, ok_ σ v) → ∀ q ∈ lv_args i vs, ok_ σ q.2
  | [], _, _, q, hq => by cases hq
  | v :: vs, i, h, q, hq => by
    rcases List.mem_cons.mp hq with e | e
    · rw [e]
      exact h v List.mem_cons_self
    · exact la_ok vs _ (fun w hw => h w (List.mem_cons_of_mem _ hw)) q e
theorem sp_of (hy : plainName μ.1.cls = true) (hh : μ.2.2.2.2 = []) (hln : (lg_sl as).length ≤ μ.2.2.1) (h : vv_ γ μ d 0 (lv_args 0 as) [] σ Q) : sp_ γ μ d as σ Q := by
  obtain ⟨r, σ', hQ, hle, hw⟩ := h
  refine ⟨r, σ', hQ, hle, fun ad => vx_ofW (cc := μ.2.1) (maxL := μ.2.2.1) (ret := μ.2.2.2.1) (ws' := tg_) hy (by unfold mw_ mc_; rw [hh]) ?_⟩
  intro p e s m args below meth c s₁ B hml hx hv
  obtain ⟨rfl, ho, hwo, hk⟩ := hv
  rw [lg_entry_eq]
  have hts := atoms_spec (ws := mw_ μ) B.pre
  have C : cx_ γ μ p s m (as.map (cv_ ad)).toArray meth c := ⟨B.exec, B.bytes, B.returns, hml, findClass_of_methodNamed B.named, fun w hw => hts w (List.mem_cons_of_mem _ hw), B.notSynchronized, (name_of_methodNamed B.named B.method).1, hk⟩
  have htab : c.exceptionTable.toList = tableOf μ.2.2.2.2 := by
    rw [hh]
    cases hc : c.exceptionTable.toList with
    | nil => rfl
    | cons z t => exact absurd (hx z (by rw [hc]; exact List.mem_cons_self)) (fun h => h)
  have hl := lv_entry (as.map (cv_ ad)) (n := μ.2.2.1) (by rw [sl_cv]; exact hln)
  rw [la_cv] at hl
  have k := hw p e (headSpec (mw_ μ) (rm_ d (st_c σ' - st_c σ) (st_u σ' - st_u σ))).room s m (as.map (cv_ ad)).toArray below meth c ad s.heap [] 0 0 _ C htab hwo va_S.rf hl (la_ok as 0 ho) (fun v hv => by cases hv) (by rw [Nat.zero_add]; exact Nat.le_refl _) (by rw [Nat.zero_add]; exact Nat.le_refl _) (Nat.le_refl _) (Nat.le_refl _)
  rw [Nat.zero_add, Nat.zero_add] at k
  exact k
/-- thrown, and not yet caught -/
def wt_ (γ : ga_T) (μ : mr_T) (d : Nat) (pc : Nat) (ls : List (Nat × Value)) (σ : st_T) (E : String) (r : rs_T) (σ' : st_T) : Prop :=
  ∀ (p : Program) (e : Env) (R : Room) (s : State) (m : MethodId) (args : Array Value) (below : List Frame) (meth : Method) (c : Code) (ad : Nat → Nat) (H : Heap) (locs : List Loc) (cells slots : Nat) (la : Array Slot) (rest : List Value) (q : Addr) (ce : Cell),
    cx_ γ μ p s m args meth c → c.exceptionTable.toList = tableOf μ.2.2.2.2 → wo_ γ ad σ H → va_S (ga_A γ) s.heap H locs → lv_has la μ.2.2.1 (lc_ ad ls) → (∀ q ∈ ls, ok_ σ q.2) →
    cells + (st_c σ' - st_c σ) ≤ R.cells → slots + (st_u σ' - st_u σ) ≤ R.slots → d ≤ R.frames → 64 * d ≤ R.locals → H[q]? = some ce → ce.vm = .none → s.vm.findClass E = some ce.cls →
    vx_W p γ.1 e R s m args below meth c H locs cells slots (fin_ γ ad σ r σ' below args s (cells + (st_c σ' - st_c σ)) (slots + (st_u σ' - st_u σ))) (F0 m pc la rest) q
def vt_ (γ : ga_T) (μ : mr_T) (d : Nat) (pc : Nat) (ls : List (Nat × Value)) (σ : st_T) (E : String) (Q : rs_T → st_T → Prop) : Prop := ∃ r σ', Q r σ' ∧ le_ σ σ' ∧ wt_ γ μ d pc ls σ E r σ'
theorem vt_out {E : String} (hh : μ.2.2.2.2 = []) (hQ : Q (.inr E) σ) : vt_ γ μ d pc ls σ E Q := by
  refine ⟨.inr E, σ, hQ, le_rf σ, ?_⟩
  intro p e R s m args below meth c ad H locs cells slots la rest q ce C htab hwo hS hl ho1 hR1 hR2 hR3 hR4 h1 h2 h3
  rw [hh] at htab
  have ht : c.exceptionTable.toList = [] := htab
  refine vx_out (fun x hx => by rw [ht] at hx; cases hx) C.2.2.2.2.2.2.1 h1 h2 h3 (fun t ht hv => ?_) hS.2.2 (Nat.le_add_right _ _) (Nat.le_add_right _ _)
  exact ⟨⟨ad, rfl, fun _ _ => rfl, by rw [ht]; exact hwo⟩, hS.F ht⟩
/-- behind a call -/
def co_ (γ : ga_T) (μ : mr_T) (d : Nat) (pc : Nat) (ls : List (Nat × Value)) (rest : List Value) (Q : rs_T → st_T → Prop) : rs_T → st_T → Prop := fun r σ1 => match r with
  | .inl none => vv_ γ μ d (pc + 3) ls rest σ1 Q
  | .inl (some v) => vv_ γ μ d (pc + 3) ls (v :: rest) σ1 Q
  | .inr E => vt_ γ μ d pc ls σ1 E Q
theorem co_inl {ov : Option Value} {σ1 : st_T} (h : co_ γ μ d pc ls rest Q (.inl ov) σ1) : vv_ γ μ d (pc + 3) ls (ov.toList ++ rest) σ1 Q := by
  cases ov with
  | none => exact h
  | some v => exact h
theorem vs_inv (k : sp_ γ μ' d' as σ (co_ γ μ d pc ls rest Q)) (hsub : ∀ v ∈ rest, v ∈ st)
    (h : ∀ (p : Program) (e : Env) (R : Room) (s : State) (m : MethodId) (args : Array Value) (below : List Frame) (meth : Method) (c : Code) (ad : Nat → Nat) (H : Heap) (locs : List Loc) (cells slots mc ms : Nat) (la : Array Slot) (r1 : rs_T) (σ1 : st_T), cx_ γ μ p s m args meth c → wo_ γ ad σ H → va_S (ga_A γ) s.heap H locs → lv_has la μ.2.2.1 (lc_ ad ls) → (∀ v ∈ st, ok_ σ v) → d ≤ R.frames → 64 * d ≤ R.locals → cells + mc ≤ R.cells ∧ slots + ms ≤ R.slots →
      vx_Met γ.1 μ'.1 (mw_ μ') (rm_ d' mc ms) (pc_ γ ad as σ) (qc_ γ ad σ r1 σ1) (xc_ γ ad σ r1 σ1) mc ms (ga_A γ) →
      ∃ aa, vx_Run p γ.1 e R s m args below meth c H locs cells slots mc ms (F0 m pc la (st.map (cv_ ad))) (rest.map (cv_ ad)) (qc_ γ ad σ r1 σ1 aa) (xc_ γ ad σ r1 σ1) (ga_A γ)) : vv_ γ μ d pc ls st σ Q := by
  obtain ⟨r1, σ1, hco, hle1, hM⟩ := k
  have hcc := hle1.2.1
  have huu := hle1.2.2
  cases r1 with
  | inl ov =>
    obtain ⟨r, σ', hQ, hle, hw⟩ := co_inl hco
    have hcc2 := hle.2.1
    have huu2 := hle.2.2
    refine ⟨r, σ', hQ, le_tr hle1 hle, ?_⟩
    intro p e R s m args below meth c ad H locs cells slots la hcx htab hwo hS hl ho1 ho2 hR1 hR2 hR3 hR4
    obtain ⟨aa, hrun⟩ := h p e R s m args below meth c ad H locs cells slots _ _ la _ _ hcx hwo hS hl ho2 hR3 hR4 ⟨by omega, by omega⟩ (hM ad)
    intro T hT X
    rcases hrun T hT X with ⟨v, st₀, t, T', L, h0, X', hL, e1, e2, ⟨⟨ad', v', e3, e4, hex, hok, hwo'⟩, hF⟩, hgo⟩ | ⟨q, st₀, t, T', L, E, ce, h0, X', hL, e1, e2, ⟨⟨ad', e3, -⟩, -⟩, -⟩
    · cases e3
      cases e4
      obtain ⟨-, -, hS1⟩ := vx_keep (A1 := ga_A γ) h0 e1 hS (fun _ _ z => z) (fun _ z => z) hL hF
      have k2 : lc_ ad' ls = lc_ ad ls := List.map_congr_left (fun x hx => by rw [cv_ex hex (ho1 x hx)])
      have k3 : (ov.toList ++ rest).map (cv_ ad') = (ov.map (cv_ ad')).toList ++ rest.map (cv_ ad) := by
        rw [List.map_append, List.map_congr_left (fun w hw => cv_ex hex (ho2 w (hsub w hw)))]
        cases ov <;> rfl
      have kk := hw p e R s m args below meth c ad' T'.heap (locs ++ L) (cells + (st_c σ1 - st_c σ)) (slots + (st_u σ1 - st_u σ)) la hcx htab (by rw [e1]; exact hwo') hS1 (by rw [k2]; exact hl) (fun x hx => ok_up hle1.1 (ho1 x hx)) (fun w hw => by
        rcases List.mem_append.mp hw with hw | hw
        · cases ov with
          | none => cases hw
          | some z => rw [List.mem_singleton.mp hw]; exact hok z rfl
        · exact ok_up hle1.1 (ho2 w (hsub w hw))) (by omega) (by omega) hR3 hR4
      rw [k3] at kk
      obtain ⟨t2, a1, b1⟩ := kk T' rfl X'
      rw [show cells + (st_c σ1 - st_c σ) + (st_c σ' - st_c σ1) = cells + (st_c σ' - st_c σ) by omega, show slots + (st_u σ1 - st_u σ) + (st_u σ' - st_u σ1) = slots + (st_u σ' - st_u σ) by omega] at b1
      exact ⟨t2, hgo t2 a1, fin_up hex hle1.1 b1⟩
    · cases e3
  | inr E0 =>
    obtain ⟨r, σ', hQ, hle, hw⟩ := (show vt_ γ μ d pc ls σ1 E0 Q from hco)
    have hcc2 := hle.2.1
    have huu2 := hle.2.2
    refine ⟨r, σ', hQ, le_tr hle1 hle, ?_⟩
    intro p e R s m args below meth c ad H locs cells slots la hcx htab hwo hS hl ho1 ho2 hR1 hR2 hR3 hR4
    obtain ⟨aa, hrun⟩ := h p e R s m args below meth c ad H locs cells slots _ _ la _ _ hcx hwo hS hl ho2 hR3 hR4 ⟨by omega, by omega⟩ (hM ad)
    intro T hT X
    rcases hrun T hT X with ⟨v, st₀, t, T', L, h0, X', hL, e1, e2, ⟨⟨ad', v', e3, -⟩, -⟩, -⟩ | ⟨q, st₀, t, T', L, E, ce, h0, X', hL, e1, e2, ⟨⟨ad', e3, hex, hwo'⟩, hF⟩, hce, hcv, hcl, hgo⟩
    · cases e3
    · cases e3
      obtain ⟨-, -, hS1⟩ := vx_keep (A1 := ga_A γ) h0 e1 hS (fun _ _ z => z) (fun _ z => z) hL hF
      have k2 : lc_ ad' ls = lc_ ad ls := List.map_congr_left (fun x hx => by rw [cv_ex hex (ho1 x hx)])
      have kk := hw p e R s m args below meth c ad' T'.heap (locs ++ L) (cells + (st_c σ1 - st_c σ)) (slots + (st_u σ1 - st_u σ)) la (rest.map (cv_ ad)) q ce hcx htab (by rw [e1]; exact hwo') hS1 (by rw [k2]; exact hl) (fun x hx => ok_up hle1.1 (ho1 x hx)) (by omega) (by omega) hR3 hR4 (by rw [e1]; exact hce) hcv hcl
      obtain ⟨t2, a1, b1⟩ := kk T' rfl X'
      rw [show cells + (st_c σ1 - st_c σ) + (st_c σ' - st_c σ1) = cells + (st_c σ' - st_c σ) by omega, show slots + (st_u σ1 - st_u σ) + (st_u σ' - st_u σ1) = slots + (st_u σ' - st_u σ) by omega] at b1
      exact ⟨t2, hgo.trans a1, fin_up hex hle1.1 b1⟩
end IV
