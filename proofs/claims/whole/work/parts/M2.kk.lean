/-! the start: the statement's conditions, in the store's words -/
section SK
variable {s : State} {args : Array Value} {A : Nat → Prop}
theorem va_En_cg {E d : String} {nm : List String} {F : List (String × String × String × List Int32)} {ad ad' : Nat → Nat} {U : State} {H : Heap} (h : va_En E d nm F ad A U H) (e : ∀ i, i < nm.length → ad' i = ad i) : va_En E d nm F ad' A U H :=
  ⟨fun i hi => by rw [e i hi]; exact h.1 i hi, fun i j hi hj q => h.2 i j hi hj (by rw [← e i hi, ← e j hj]; exact q)⟩
theorem va_T_cg {ty : FieldType} {t N : Nat} {f g : Nat → Value} {U : State} {H : Heap} (h : va_T ty t N f A U H) (e : ∀ j, j < N → g j = f j) : va_T ty t N g A U H := by
  obtain ⟨cell, h1, h2, h3, h4, h5, h6, h7⟩ := h
  exact ⟨cell, h1, h2, h3, h4, h5, fun j hj => by rw [e j hj]; exact h6 j hj, h7⟩
theorem sc_len : ∀ i, i < 46 → (sc_q i).2.2.2.length < 2 ^ 31 := by decide +kernel
theorem tx_lt : ∀ i, i < 21 → sg_tx.getD i 0 < 46 := by decide +kernel
/-- the texts -/
theorem st_str (hN : ∀ w ∈ nw_c, w.before args s = true) (hT : ∀ w ∈ tables_1, w.before args s = true) (hA : ∀ a : Nat, a < s.heap.size → ¬ A a) : ∃ f : Nat → Nat × Nat, ∀ i, i < 46 → (sv_t i).eval args s none [] s = some (.ref (f i).1) ∧
    vk_S 1 [(sc_q i).2.2.2.length] [(sc_q i).2.2.2] (fun _ => (f i).1) (fun _ => (f i).2) A s s.heap ∧ vk_R (sc_q i).1 (sc_q i).2.1 (sc_q i).2.2.1 (f i).1 s := by
  have one : ∀ i : Nat, ∃ f : Nat × Nat, i < 46 → (sv_t i).eval args s none [] s = some (.ref f.1) ∧
      vk_S 1 [(sc_q i).2.2.2.length] [(sc_q i).2.2.2] (fun _ => f.1) (fun _ => f.2) A s s.heap ∧ vk_R (sc_q i).1 (sc_q i).2.1 (sc_q i).2.2.1 f.1 s := fun i =>
    if zi : i < 46 then by
      obtain ⟨zK, zV, zS, zv⟩ := vk_Sof (args := args) (s := s) (N := 1) (tm := fun _ => sv_t i) (len := [(sc_q i).2.2.2.length]) (byt := [(sc_q i).2.2.2]) (A := A)
        (fun k zk => by
          obtain rfl : k = 0 := by omega
          exact sc_len i zi)
        (fun k zk => hN _ (List.mem_of_getElem? (bx_so i zi)))
        (fun k zk => hN _ (List.mem_of_getElem? (bx_sc i zi)))
        (fun k zk => hN _ (List.mem_of_getElem? (bx_sa i zi)))
        (fun k zk => by
          obtain rfl : k = 0 := by omega
          have zl := hN _ (List.mem_of_getElem? (bx_sl i zi))
          exact zl)
        (fun k zk j zj => by
          obtain rfl : k = 0 := by omega
          have ze := hN _ (List.mem_of_getElem? (bx_se i zi j zj))
          exact ze)
        (fun k j zk zj zn => absurd (show k = j by omega) zn) hA
      refine ⟨(zK 0, zV 0), fun _ => ⟨zv 0 Nat.one_pos, ⟨fun k zk => ?_, fun k j zk zj _ => by omega⟩, vk_R.of (hT _ (List.mem_of_getElem? (bt_sr i zi))) (zv 0 Nat.one_pos)⟩⟩
      obtain rfl : k = 0 := by omega
      exact zS.1 0 zk
    else ⟨(0, 0), fun z => absurd z zi⟩
  exact ⟨fun i => (one i).choose, fun i zi => (one i).choose_spec zi⟩
/-- the signs -/
theorem st_sgn (hN : ∀ w ∈ nw_c, w.before args s = true) (hT : ∀ w ∈ tables_1, w.before args s = true) (hA : ∀ a : Nat, a < s.heap.size → ¬ A a) : ∃ ad : Nat → Nat, va_En "LitmusTester$Sign" "LLitmusTester$Sign;" sg_nm [] ad A s s.heap ∧ ∀ i, i < 21 → (sg_t i).eval args s none [] s = some (.ref (ad i)) := by
  refine va_Enof2 (fun i hi => hT _ (List.mem_of_getElem? (bt_ls i hi))) (hT _ (List.mem_of_getElem? (bt_i ("LitmusTester$Sign", 16) (List.mem_of_getElem? (i := 0) rfl)))) (fun i hi => hN _ (List.mem_of_getElem? (bx_ex i hi))) (fun q hq => absurd hq List.not_mem_nil) (fun i j hi hj hij => ?_) hA
  obtain ⟨q, q1, q2⟩ := bx_all i hi j hj hij
  have q3 := hN _ (List.mem_of_getElem? (bx_pr q q1))
  rcases q2 with ⟨e1, e2⟩ | ⟨e1, e2⟩
  · rw [e1, e2] at q3
    exact Or.inl q3
  · rw [e1, e2] at q3
    exact Or.inr q3
theorem ar_of {ty : FieldType} (h : (Cond.arrayClass ty).before args s = true) : ∃ c : ClassId, ArrOfT s c ty ∧ s.vm.findClass ("[" ++ ty.toString) = some c := by
  obtain ⟨c, k, comp, h1, h2, h3⟩ := Cond.arrayClass_spec h
  exact ⟨c, fun N z => ⟨(fun k h => by cases h), k, h2, comp, h3⟩, h1⟩
theorem ar_ob {C : String} (h : (Cond.arrayOver (.object C)).before args s = true) : ∃ c : ClassId, ArrOfT s c (.object C) ∧ va_RA s c (.object C) := by
  obtain ⟨comp, c, k, h1, -, h2, h3, h4⟩ := Cond.arrayOver_spec h
  exact ⟨c, fun N z => ⟨(fun k h => by cases h), k, h2, comp, h3⟩, k, comp, h2, h3, h1, h4⟩
theorem st_cls (htg : ∀ w ∈ tg_, w.before args s = true) (hT : ∀ w ∈ tables_1, w.before args s = true) : ∃ f : Nat → ClassId × (Nat → Nat), ∀ (c : Nat) (q : vw_C), vwCl[c]? = some q → u_Kn s q.1 q.2.1 q.2.2 (f c).1 (f c).2 := by
  have h0 : ∀ c : Nat, ∃ f : ClassId × (Nat → Nat), ∀ q : vw_C, vwCl[c]? = some q → u_Kn s q.1 q.2.1 q.2.2 f.1 f.2 := by
    intro c
    cases hq : vwCl[c]? with
    | none => exact ⟨((0 : Nat), fun _ => 0), fun q h => by cases h⟩
    | some q =>
      obtain ⟨cC, iS, k⟩ := u_known htg (cl_ok hq).1 (hT _ (bt_cl (q.1, q.2.2) (List.mem_map.mpr ⟨q, List.mem_of_getElem? hq, rfl⟩)))
      exact ⟨(cC, iS), fun q2 h2 => by cases h2; exact k⟩
  obtain ⟨f, hf⟩ := Classical.axiomOfChoice h0
  exact ⟨f, hf⟩
theorem st_scr {b L : Nat} {xs : Nat → Int32} (h : va_X b L xs s s.heap) (hA : ¬ A b) : va_T .int b L (fun j => .int (xs j)) A s s.heap := by
  obtain ⟨scr, h1, h2, h3, h4, h5⟩ := h
  exact ⟨scr, h1, h2, h3, Nat.le_of_eq h4.symm, by rw [h4], fun j hj => h5 j hj, hA⟩
/-- the launch's world, as the store's walks ask for it -/
theorem kk_start {l : Launch} (hst : l.stackTraces = false) {b L : Nat} {xs : Nat → Int32} (hN : ∀ w ∈ nw_c, w.before args s = true) (hT : ∀ w ∈ tables_1, w.before args s = true) (htg : ∀ w ∈ tg_, w.before args s = true) (hX : va_X b L xs s s.heap) (hbl : b < s.heap.size) :
    ∃ γ : ga_T, γ.1 = l ∧ ga_B γ = s.heap.size ∧ ga_L γ = L ∧ ga_E γ 22 = b ∧ kk_ γ s s.heap := by
  have hA : ∀ a : Nat, a < s.heap.size → ¬ (fun q : Nat => s.heap.size ≤ q) a := fun a h => Nat.not_le.mpr h
  obtain ⟨fS, hS⟩ := st_str (A := fun q : Nat => s.heap.size ≤ q) hN hT hA
  obtain ⟨ad0, hEn, hev⟩ := st_sgn (A := fun q : Nat => s.heap.size ≤ q) hN hT hA
  obtain ⟨fC, hC⟩ := st_cls htg hT
  obtain ⟨cI, i1, i2⟩ := ar_of (hT _ (List.mem_of_getElem? bt_a.1))
  obtain ⟨cJ, j1, j2⟩ := ar_of (hT _ (List.mem_of_getElem? bt_a.2.1))
  obtain ⟨cB, b1, b2⟩ := ar_of (hT _ (List.mem_of_getElem? bt_a.2.2.1))
  obtain ⟨cZ, z1, z2⟩ := ar_of (hT _ (List.mem_of_getElem? bt_a.2.2.2.1))
  have hAO := hT _ (List.mem_of_getElem? bt_a.2.2.2.2)
  obtain ⟨cS, s1, s2⟩ := ar_ob hAO
  have iS := fun (n : String) (k : Nat) h => hT _ (List.mem_of_getElem? (bt_i (n, k) h))
  have iL := hT _ (List.mem_of_getElem? (bt_i ("LitmusTester", 1) (List.mem_of_getElem? (i := 1) rfl)))
  have iT := hT _ (List.mem_of_getElem? (bt_i ("java/lang/Throwable", 22) (List.mem_of_getElem? (i := 2) rfl)))
  have iG := hT _ (List.mem_of_getElem? (bt_i ("java/lang/String", 17) (List.mem_of_getElem? (i := 3) rfl)))
  have iP := hT _ (List.mem_of_getElem? (bt_i ("jdk/internal/util/Preconditions", 19) (List.mem_of_getElem? (i := 4) rfl)))
  have lS := hT _ (List.mem_of_getElem? (bt_s ("LitmusTester", "SIGNS", "[LLitmusTester$Sign;", 422) (List.mem_of_getElem? (i := 0) rfl)))
  have lC := hT _ (List.mem_of_getElem? (bt_s ("java/lang/String", "COMPACT_STRINGS", "Z", 432) (List.mem_of_getElem? (i := 1) rfl)))
  have lU := hT _ (List.mem_of_getElem? (bt_s ("java/lang/Throwable", "UNASSIGNED_STACK", "[Ljava/lang/StackTraceElement;", 896) (List.mem_of_getElem? (i := 2) rfl)))
  have lQ := hT _ (List.mem_of_getElem? (bt_s ("java/lang/Throwable", "SUPPRESSED_SENTINEL", "Ljava/util/List;", 898) (List.mem_of_getElem? (i := 3) rfl)))
  have lF := hT _ (List.mem_of_getElem? (bt_s ("jdk/internal/util/Preconditions", "SIOOBE_FORMATTER", "Ljava/util/function/BiFunction;", 448) (List.mem_of_getElem? (i := 4) rfl)))
  obtain ⟨aG, g1, g2⟩ := va_Tof (tm := sg_a) (ty := .object "LitmusTester$Sign") (N := 21) (f := fun j => .ref (ad0 j)) (A := fun q : Nat => s.heap.size ≤ q) (by decide) (hN _ bx_1.1) (va_eqt (hN _ bx_1.2)) (fun j hj => va_eqv (hN _ (List.mem_of_getElem? (bx_el j hj))) (hev j hj)) hA
  have hZG := va_Zof lS iL g1 hA
  have hEf0 := va_Efof (N := 21) (nm := sg_nm) (tm := fun i => sv_t (sg_tx.getD i 0)) (v := fun i => .ref (fS (sg_tx.getD i 0)).1) (ad := ad0) hev (fun i hi => hN _ (List.mem_of_getElem? (bx_tx i hi))) (fun i hi => (hS _ (tx_lt i hi)).1) hA
  obtain ⟨fl, tF, hF⟩ : ∃ (fl : Bool) (t : Nat), va_Z "jdk/internal/util/Preconditions" "SIOOBE_FORMATTER" "Ljava/util/function/BiFunction;" (if fl = true then .ref t else .null) (fun q : Nat => s.heap.size ≤ q) s s.heap := by
    rcases va_Zqof lF iP (hN _ bx_2.2.2.2) hA with h | ⟨t, h⟩
    · exact ⟨false, 0, h⟩
    · exact ⟨true, t, h⟩
  obtain ⟨E, e1, e2, e3, e4, e5, e6⟩ : ∃ E : Nat → Nat, (∀ i, i < 21 → E i = ad0 i) ∧ E 21 = aG ∧ E 22 = b ∧ E 23 = tF ∧ (∀ i, i < 46 → E (30 + i) = (fS i).1) ∧ ∀ i, i < 46 → E (80 + i) = (fS i).2 := by
    refine ⟨fun n => if n < 21 then ad0 n else if n = 21 then aG else if n = 22 then b else if n = 23 then tF else if n < 76 then (fS (n - 30)).1 else (fS (n - 80)).2, fun i hi => if_pos hi, rfl, rfl, rfl, fun i hi => ?_, fun i hi => ?_⟩
    · show (if 30 + i < 21 then _ else if 30 + i = 21 then _ else if 30 + i = 22 then _ else if 30 + i = 23 then _ else if 30 + i < 76 then _ else _) = _
      rw [if_neg (by omega), if_neg (by omega), if_neg (by omega), if_neg (by omega), if_pos (by omega), Nat.add_sub_cancel_left]
    · show (if 80 + i < 21 then _ else if 80 + i = 21 then _ else if 80 + i = 22 then _ else if 80 + i = 23 then _ else if 80 + i < 76 then _ else _) = _
      rw [if_neg (by omega), if_neg (by omega), if_neg (by omega), if_neg (by omega), if_neg (by omega), Nat.add_sub_cancel_left]
  obtain ⟨cA, a1, a2, a3, a4, a5⟩ : ∃ cA : Nat → ClassId, cA 21 = cI ∧ cA 22 = cJ ∧ cA 23 = cB ∧ cA 24 = cZ ∧ cA 25 = cS := ⟨fun n => if n = 21 then cI else if n = 22 then cJ else if n = 23 then cB else if n = 24 then cZ else cS, rfl, rfl, rfl, rfl, rfl⟩
  refine ⟨(l, (fun c => (fC c).1, fun c => (fC c).2), cA, s.heap.size, E, L, xs, fl), rfl, rfl, rfl, e3, ?_⟩
  refine ⟨⟨fun c q hq => hC c q hq, fun k q hq => ?_⟩, ⟨fun q hq => va_Nw.of rfl (hT _ (bt_nm q hq)), fun q hq => va_Nw.of rfl (hT _ (bt_nf q hq))⟩, ⟨va_En_cg hEn (fun i hi => e1 i hi), fun i hi => ?_, ?_, ?_⟩, fun i hi => ?_, ⟨vx_Zqof lU iT (hN _ bx_2.1) hA, vx_Zqof lQ iT (hN _ bx_2.2.1) hA, va_Zof lC iG (va_eqi (hN _ bx_2.2.2.1)) hA⟩, hst, Nat.le_refl _, va_AO.of hAO, ⟨⟨fun X hX => va_Nw.of rfl (hT _ (bt_xc X hX)), fun x hx => va_Nw.of rfl (hT _ (bt_xd x hx))⟩, fun X hX Y hY hne => va_Nc.of (hN _ (bx_nc X hX Y hY hne))⟩, ?_, ?_⟩
  · match k, hq with
    | 0, hq =>
      cases hq
      show ArrOfT s (cA 21) .int ∧ s.vm.findClass ("[" ++ FieldType.int.toString) = some (cA 21)
      rw [a1]
      exact ⟨i1, i2⟩
    | 1, hq =>
      cases hq
      show ArrOfT s (cA 22) .long ∧ s.vm.findClass ("[" ++ FieldType.long.toString) = some (cA 22)
      rw [a2]
      exact ⟨j1, j2⟩
    | 2, hq =>
      cases hq
      show ArrOfT s (cA 23) .byte ∧ s.vm.findClass ("[" ++ FieldType.byte.toString) = some (cA 23)
      rw [a3]
      exact ⟨b1, b2⟩
    | 3, hq =>
      cases hq
      show ArrOfT s (cA 24) .boolean ∧ s.vm.findClass ("[" ++ FieldType.boolean.toString) = some (cA 24)
      rw [a4]
      exact ⟨z1, z2⟩
    | 4, hq =>
      cases hq
      show ArrOfT s (cA 25) (.object "LitmusTester$Sign") ∧ va_RA s (cA 25) (.object "LitmusTester$Sign")
      rw [a5]
      exact ⟨s1, s2⟩
    | n + 5, hq => cases hq
  · have k : va_OF "LitmusTester$Sign" "text" "Ljava/lang/String;" (.ref (fS (sg_tx.getD i 0)).1) (ad0 i) (fun q : Nat => s.heap.size ≤ q) s s.heap := hEf0 i hi
    rw [← e5 _ (tx_lt i hi), ← e1 i hi] at k
    exact k
  · show va_Z "LitmusTester" "SIGNS" "[LLitmusTester$Sign;" (.ref (E 21)) (fun q : Nat => s.heap.size ≤ q) s s.heap
    rw [e2]
    exact hZG
  · show va_T (.object "LitmusTester$Sign") (E 21) 21 (fun j => .ref (E j)) (fun q : Nat => s.heap.size ≤ q) s s.heap
    rw [e2]
    exact va_T_cg g2 (fun j hj => by rw [e1 j hj])
  · obtain ⟨-, kS, k5⟩ := hS i hi
    obtain ⟨k1, k2, k3, k4⟩ := kS.1 0 Nat.one_pos
    try dsimp only at k1 k2 k3 k4
    rw [← e5 i hi] at k1 k2 k3 k5
    rw [← e6 i hi] at k3 k4
    exact ⟨k1, k2, k3, k4, k5⟩
  · show va_T .int (E 22) L (fun j => .int (xs j)) (fun q : Nat => s.heap.size ≤ q) s s.heap
    rw [e3]
    exact st_scr hX (hA b hbl)
  · show va_Z "jdk/internal/util/Preconditions" "SIOOBE_FORMATTER" "Ljava/util/function/BiFunction;" (cv_ E (if fl = true then .ref 23 else .null)) (fun q : Nat => s.heap.size ≤ q) s s.heap
    cases fl
    · exact hF
    · show va_Z "jdk/internal/util/Preconditions" "SIOOBE_FORMATTER" "Ljava/util/function/BiFunction;" (.ref (E 23)) (fun q : Nat => s.heap.size ≤ q) s s.heap
      rw [e4]
      exact hF
end SK
