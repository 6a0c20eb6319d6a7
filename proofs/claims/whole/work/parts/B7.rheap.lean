/-! the reference's sort: a heap -/
section RH
variable {γ : ga_T} {σ : st_T} {S : List (Nat × Int64)}
def dO_ (a k : Nat) : Prop := a = 208 ∨ a = 210
/-- the outcomes' rows -/
def Oc_ (σ : st_T) (L : List (Nat × Int64)) : Prop := L.length ≤ 65535 ∧ ∀ i q, L[i]? = some q → st_I σ 208 i = i_ (q.1 : Int) ∧ st_L σ 210 i = q.2 ∧ q.1 < 4194304
def ss_ (S : List (Nat × Int64)) (a b : Nat) : List (Nat × Int64) := match S[a]?, S[b]? with
  | some x, some y => (S.set a y).set b x
  | _, _ => S
theorem ss_at {a b : Nat} (ha : a < S.length) (hb : b < S.length) : ss_ S a b = (S.set a S[b]).set b S[a] := by
  unfold ss_
  rw [List.getElem?_eq_getElem ha, List.getElem?_eq_getElem hb]
theorem ss_pm {a b : Nat} (ha : a < S.length) (hb : b < S.length) : List.Perm (ss_ S a b) S := by
  rw [ss_at ha hb]
  exact List.set_set_perm ha hb
theorem ss_len {a b : Nat} (ha : a < S.length) (hb : b < S.length) : (ss_ S a b).length = S.length := (ss_pm ha hb).length_eq
theorem ss_wa {a b : Nat} (ha : a < S.length) (hb : b < S.length) (u : Nat) : wa_ (ss_ S a b) u = if u = b then wa_ S a else if u = a then wa_ S b else wa_ S u := by
  have e1 : wa_ S a = S[a].1 := wa_eq (List.getElem?_eq_getElem ha)
  have e2 : wa_ S b = S[b].1 := wa_eq (List.getElem?_eq_getElem hb)
  rw [ss_at ha hb, wa_st (by rw [List.length_set]; exact hb), wa_st ha, e1, e2]
theorem ss_oc {a b : Nat} (ha : a < S.length) (hb : b < S.length) (h : Oc_ σ S) : Oc_ (pt_L (pt_I (pt_L (pt_I σ 208 a (st_I σ 208 b)) 210 a (st_L σ 210 b)) 208 b (st_I σ 208 a)) 210 b (st_L σ 210 a)) (ss_ S a b) := by
  obtain ⟨h1, h2⟩ := h
  refine ⟨by rw [ss_len ha hb]; exact h1, fun i q hq => ?_⟩
  obtain ⟨a1, a2, a3⟩ := h2 a _ (List.getElem?_eq_getElem ha)
  obtain ⟨b1, b2, b3⟩ := h2 b _ (List.getElem?_eq_getElem hb)
  have fI : st_I (pt_L (pt_I (pt_L (pt_I σ 208 a (st_I σ 208 b)) 210 a (st_L σ 210 b)) 208 b (st_I σ 208 a)) 210 b (st_L σ 210 a)) 208 i = if i = b then st_I σ 208 a else if i = a then st_I σ 208 b else st_I σ 208 i := by
    rw [st_IL, st_pI, st_IL, st_pI]
    by_cases y1 : i = b
    · rw [if_pos ⟨rfl, y1⟩, if_pos y1]
    · rw [if_neg (fun z => y1 z.2), if_neg y1]
      by_cases y2 : i = a
      · rw [if_pos ⟨rfl, y2⟩, if_pos y2]
      · rw [if_neg (fun z => y2 z.2), if_neg y2]
  have fL : st_L (pt_L (pt_I (pt_L (pt_I σ 208 a (st_I σ 208 b)) 210 a (st_L σ 210 b)) 208 b (st_I σ 208 a)) 210 b (st_L σ 210 a)) 210 i = if i = b then st_L σ 210 a else if i = a then st_L σ 210 b else st_L σ 210 i := by
    rw [st_pL, st_LI, st_pL, st_LI]
    by_cases y1 : i = b
    · rw [if_pos ⟨rfl, y1⟩, if_pos y1]
    · rw [if_neg (fun z => y1 z.2), if_neg y1]
      by_cases y2 : i = a
      · rw [if_pos ⟨rfl, y2⟩, if_pos y2]
      · rw [if_neg (fun z => y2 z.2), if_neg y2]
  rw [ss_at ha hb] at hq
  rw [fI, fL]
  by_cases e1 : i = b
  · rw [if_pos e1, if_pos e1]
    rw [e1, List.getElem?_set_self (by rw [List.length_set]; exact hb)] at hq
    rw [← Option.some.inj hq]
    exact ⟨a1, a2, a3⟩
  · rw [if_neg e1, if_neg e1]
    rw [List.getElem?_set_ne (fun z => e1 z.symm)] at hq
    by_cases e2 : i = a
    · rw [if_pos e2, if_pos e2]
      rw [e2, List.getElem?_set_self ha] at hq
      rw [← Option.some.inj hq]
      exact ⟨b1, b2, b3⟩
    · rw [if_neg e2, if_neg e2]
      rw [List.getElem?_set_ne (fun z => e2 z.symm)] at hq
      exact h2 i q hq
theorem c_rswaps (zw : Wd σ) (h : Oc_ σ S) {a b : Nat} (ha : a < S.length) (hb : b < S.length) : ∃ s, fw_ γ m_X12_swaps 0 [.ref 185, .int (i_ (a : Int)), .int (i_ (b : Int))] σ s ∧ Oc_ s (ss_ S a b) ∧ ro_ dO_ σ s := by
  have hl := h.1
  refine ⟨_, fw_q (fun Q zQ => e_X12_swaps zw ?_), ss_oc ha hb h, ro_L (ro_I (ro_L (ro_I ro_rf (Or.inl rfl)) (Or.inr rfl)) (Or.inl rfl)) (Or.inr rfl)⟩
  unfold p_X12_swaps_0
  rw [i_cl (a := (a : Int)) (by omega), i_cl (a := (b : Int)) (by omega), Int.toNat_natCast, Int.toNat_natCast]
  have va : vp_in (i_ (a : Int)) 65536 := i_in (by omega) (by omega) (by omega)
  have vb : vp_in (i_ (b : Int)) 65536 := i_in (by omega) (by omega) (by omega)
  exact ⟨va, va, vb, va, vb, va, vb, vb, zQ⟩
/-- from a on, below m: no child is greater -/
def Hp_ (S : List (Nat × Int64)) (a m : Nat) : Prop := ∀ u c, a ≤ u → (c = 2 * u + 1 ∨ c = 2 * u + 2) → c < m → wa_ S c ≤ wa_ S u
def Hq_ (S : List (Nat × Int64)) (a m k : Nat) : Prop := (∀ u c, a ≤ u → u ≠ k → (c = 2 * u + 1 ∨ c = 2 * u + 2) → c < m → wa_ S c ≤ wa_ S u) ∧
  ∀ u, a ≤ u → (k = 2 * u + 1 ∨ k = 2 * u + 2) → ∀ c, (c = 2 * k + 1 ∨ c = 2 * k + 2) → c < m → wa_ S c ≤ wa_ S u
theorem hq_hp {a m k : Nat} (h : Hq_ S a m k) (h2 : ∀ c, (c = 2 * k + 1 ∨ c = 2 * k + 2) → c < m → wa_ S c ≤ wa_ S k) : Hp_ S a m := by
  intro u c z1 z2 z3
  by_cases e : u = k
  · subst e
    exact h2 c z2 z3
  · exact h.1 u c z1 e z2 z3
theorem hq_step {a m k c : Nat} (hm : m ≤ S.length) (hk : a ≤ k) (h : Hq_ S a m k) (hc : c = 2 * k + 1 ∨ c = 2 * k + 2) (hcm : c < m) (hmx : ∀ d, (d = 2 * k + 1 ∨ d = 2 * k + 2) → d < m → wa_ S d ≤ wa_ S c) (hgt : wa_ S k < wa_ S c) : Hq_ (ss_ S c k) a m c := by
  have w := ss_wa (S := S) (a := c) (b := k) (by omega) (by omega)
  refine ⟨fun u d z1 z2 z3 z4 => ?_, fun u z1 z2 d z3 z4 => ?_⟩
  · rw [w d, w u]
    by_cases e : u = k
    · subst e
      rw [if_pos rfl]
      by_cases e2 : d = c
      · rw [if_neg (by omega), if_pos e2]
        omega
      · rw [if_neg (by omega), if_neg e2]
        exact hmx d z3 z4
    · rw [if_neg e, if_neg z2]
      by_cases e2 : d = k
      · rw [if_pos e2]
        exact h.2 u z1 (by omega) c hc hcm
      · rw [if_neg e2]
        by_cases e3 : d = c
        · exact absurd e3 (by omega)
        · rw [if_neg e3]
          exact h.1 u d z1 e z3 z4
  · have e : u = k := by omega
    subst e
    rw [w d, w u, if_pos rfl, if_neg (by omega), if_neg (by omega)]
    exact h.1 c d (by omega) (by omega) z3 z4
/-- what sinking leaves -/
def Hs_ (σ0 : st_T) (S0 : List (Nat × Int64)) (m : Nat) (s : st_T) (S : List (Nat × Int64)) : Prop := Wd s ∧ Oc_ s S ∧ ro_ dO_ σ0 s ∧ List.Perm S S0 ∧ (∀ u, m ≤ u → wa_ S u = wa_ S0 u) ∧ ∀ B, (∀ u, u < m → wa_ S0 u ≤ B) → ∀ u, u < m → wa_ S u ≤ B
theorem hs_swap {σ0 s s2 : st_T} {S0 : List (Nat × Int64)} {m c k : Nat} (hm : m ≤ S.length) (hc : c < m) (hk : k < m) (h : Hs_ σ0 S0 m s S) (h2 : Oc_ s2 (ss_ S c k)) (h3 : ro_ dO_ s s2) : Hs_ σ0 S0 m s2 (ss_ S c k) := by
  obtain ⟨a1, a2, a3, a4, a5, a6⟩ := h
  have w := ss_wa (S := S) (a := c) (b := k) (by omega) (by omega)
  refine ⟨ro_wd h3 a1, h2, ro_tr a3 h3, (ss_pm (by omega) (by omega)).trans a4, fun u z => ?_, fun B z u zu => ?_⟩
  · rw [w u, if_neg (by omega), if_neg (by omega)]
    exact a5 u z
  · rw [w u]
    split
    · exact a6 B z c hc
    · split
      · exact a6 B z k hk
      · exact a6 B z u zu
theorem l_sinks {σ0 : st_T} {S0 : List (Nat × Int64)} {a m : Nat} (hm : m ≤ S0.length) (h65 : S0.length ≤ 65535) {Q : rs_T → st_T → Prop} (zQ : ∀ s S, Hs_ σ0 S0 m s S → Hp_ S a m → Q (.inl none) s) :
    ∀ n k : Nat, m ≤ k + n → a ≤ k → k ≤ 65535 → ∀ s S, Hs_ σ0 S0 m s S → Hq_ S a m k → vv_ γ m_X12_sinks 1 5 [(0, .ref 185), (2, .int (i_ (m : Int))), (3, .int (i_ (k : Int))), (4, .int (1 : Int32))] [] s Q := by
  intro n
  induction n with
  | zero =>
    intro k hk ha hk6 s S hs hq
    refine g_X12_sinks_5 hs.1 ?_
    unfold p_X12_sinks_5
    refine ⟨fun z => absurd z (by decide), fun _ => ⟨fun _ => zQ s S hs (hq_hp hq (fun c z1 z2 => by omega)), fun z => ?_⟩⟩
    rw [k2_, k1_, i_mul, i_add, i_le (by omega) (by omega)] at z
    omega
  | succ n ih =>
    intro k hk ha hk6 s S hs hq
    have hlen : S.length = S0.length := hs.2.2.2.1.length_eq
    have hO := hs.2.1.2
    have rd : ∀ u, u < m → ∃ x : Nat, st_I s 208 u = i_ (x : Int) ∧ wa_ S u = x ∧ x < 4194304 := fun u hu => by
      obtain ⟨y1, -, y3⟩ := hO u _ (List.getElem?_eq_getElem (show u < S.length by omega))
      exact ⟨_, y1, wa_eq (List.getElem?_eq_getElem (show u < S.length by omega)), y3⟩
    have stop : ∀ c : Nat, Hp_ S a m → vv_ γ m_X12_sinks 1 5 [(0, .ref 185), (2, .int (i_ (m : Int))), (3, .int (i_ (c : Int))), (4, .int (0 : Int32))] [] s Q := fun c hp => by
      refine g_X12_sinks_5 hs.1 ?_
      unfold p_X12_sinks_5
      exact ⟨fun _ => zQ s S hs hp, fun z => absurd rfl z⟩
    have go : ∀ c : Nat, (c = 2 * k + 1 ∨ c = 2 * k + 2) → c < m → (∀ d, (d = 2 * k + 1 ∨ d = 2 * k + 2) → d < m → wa_ S d ≤ wa_ S c) →
        ((st_I s 208 c) ≤ (st_I s 208 k) → vv_ γ m_X12_sinks 1 5 [(0, .ref 185), (2, .int (i_ (m : Int))), (3, .int (i_ (c : Int))), (4, .int (0 : Int32))] [] s Q) ∧
        (¬ (st_I s 208 c) ≤ (st_I s 208 k) → ∃ s7, Wd s7 ∧ fw_ γ m_X12_swaps 0 [.ref 185, .int (i_ (c : Int)), .int (i_ (k : Int))] s s7 ∧
          vv_ γ m_X12_sinks 1 5 [(0, .ref 185), (2, .int (i_ (m : Int))), (3, .int (i_ (c : Int))), (4, .int (1 : Int32))] [] s7 Q) := fun c hc hcm hmx => by
      obtain ⟨x, x1, x2, x3⟩ := rd c hcm
      obtain ⟨y, y1, y2, y3⟩ := rd k (by omega)
      rw [x1, y1, i_le (by omega) (by omega)]
      refine ⟨fun z => stop c (hq_hp hq (fun d z1 z2 => Nat.le_trans (hmx d z1 z2) (by omega))), fun z => ?_⟩
      obtain ⟨s7, f1, f2, f3⟩ := c_rswaps (γ := γ) hs.1 hs.2.1 (a := c) (b := k) (by omega) (by omega)
      exact ⟨s7, ro_wd f3 hs.1, f1, ih c (by omega) (by omega) (by omega) s7 _ (hs_swap (by omega) hcm (by omega) hs f2 f3) (hq_step (by omega) ha hq hc hcm hmx (by omega))⟩
    refine g_X12_sinks_5 hs.1 ?_
    unfold p_X12_sinks_5
    have e1 : (2 : Int32) * i_ (k : Int) + (1 : Int32) = i_ ((2 * k + 1 : Nat) : Int) := by
      rw [k2_, k1_, i_mul, i_add]
      exact congrArg i_ (by omega)
    have e2 : i_ ((2 * k + 1 : Nat) : Int) + (1 : Int32) = i_ ((2 * k + 2 : Nat) : Int) := by
      rw [k1_, i_add]
      exact congrArg i_ (by omega)
    rw [e1, e2]
    refine ⟨fun z => absurd z (by decide), fun _ => ⟨fun z => ?_, fun z => ?_⟩⟩
    · rw [i_le (by omega) (by omega)] at z
      exact zQ s S hs (hq_hp hq (fun c z1 z2 => by omega))
    · rw [i_le (by omega) (by omega)] at z
      rw [i_cl (a := ((2 * k + 1 : Nat) : Int)) (by omega), i_cl (a := (k : Int)) (by omega), i_cl (a := ((2 * k + 2 : Nat) : Int)) (by omega), Int.toNat_natCast, Int.toNat_natCast, Int.toNat_natCast]
      have v1 : vp_in (i_ ((2 * k + 1 : Nat) : Int)) 65536 := i_in (by omega) (by omega) (by omega)
      have vk : vp_in (i_ (k : Int)) 65536 := i_in (by omega) (by omega) (by omega)
      refine ⟨fun z2 => ⟨v1, vk, ?_⟩, fun z2 => ?_⟩
      · rw [i_le (by omega) (by omega)] at z2
        exact go (2 * k + 1) (Or.inl rfl) (by omega) (fun d z3 z4 => by
          rw [show d = 2 * k + 1 by omega]
          exact Nat.le_refl _)
      · rw [i_le (by omega) (by omega)] at z2
        have v2 : vp_in (i_ ((2 * k + 2 : Nat) : Int)) 65536 := i_in (by omega) (by omega) (by omega)
        obtain ⟨x, x1, x2, x3⟩ := rd (2 * k + 1) (by omega)
        obtain ⟨y, y1, y2, y3⟩ := rd (2 * k + 2) (by omega)
        refine ⟨v2, v1, fun z3 => ⟨v1, vk, go (2 * k + 1) (Or.inl rfl) (by omega) (fun d z4 z5 => ?_)⟩, fun z3 => ⟨v2, vk, go (2 * k + 2) (Or.inr rfl) (by omega) (fun d z4 z5 => ?_)⟩⟩
        · rw [x1, y1, i_le (by omega) (by omega)] at z3
          rcases z4 with rfl | rfl
          · exact Nat.le_refl _
          · omega
        · rw [x1, y1, i_le (by omega) (by omega)] at z3
          rcases z4 with rfl | rfl
          · omega
          · exact Nat.le_refl _
theorem c_rsinks (zw : Wd σ) (h : Oc_ σ S) {a m : Nat} (hm : m ≤ S.length) (ha : a ≤ 65535) (hh : Hp_ S (a + 1) m) : ∃ s S2, fw_ γ m_X12_sinks 1 [.ref 185, .int (i_ (a : Int)), .int (i_ (m : Int))] σ s ∧ Hs_ σ S m s S2 ∧ Hp_ S2 a m := by
  have key : sp_ γ m_X12_sinks 1 [.ref 185, .int (i_ (a : Int)), .int (i_ (m : Int))] σ (fun r s => r = .inl none ∧ ∃ S2, Hs_ σ S m s S2 ∧ Hp_ S2 a m) := by
    refine e_X12_sinks zw ?_
    unfold p_X12_sinks_0
    refine l_sinks hm h.1 (fun s S2 h1 h2 => ⟨rfl, S2, h1, h2⟩) m a (by omega) (Nat.le_refl _) ha σ S ⟨zw, h, ro_rf, List.Perm.refl _, fun _ _ => rfl, fun B z u zu => z u zu⟩ ⟨fun u c z1 z2 z3 z4 => hh u c (by omega) z3 z4, fun u z1 z2 => by omega⟩
  obtain ⟨s, h1, S2, h2, h3⟩ := fw_of key
  exact ⟨s, S2, h1, h2, h3⟩
theorem hp_max {m : Nat} (h : Hp_ S 0 m) : ∀ u, u < m → wa_ S u ≤ wa_ S 0 := by
  intro u
  induction u using Nat.strongRecOn with
  | _ u ih =>
    intro hu
    by_cases e : u = 0
    · rw [e]
      exact Nat.le_refl _
    · exact Nat.le_trans (h ((u - 1) / 2) u (Nat.zero_le _) (by omega) hu) (ih ((u - 1) / 2) (by omega) (by omega))
end RH
