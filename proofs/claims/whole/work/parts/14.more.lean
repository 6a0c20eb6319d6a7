section MO
variable {γ : ga_T} {μ μ' : mr_T} {d d' pc : Nat} {ls : List (Nat × Value)} {st as rest : List Value} {σ : st_T} {Q : rs_T → st_T → Prop}
/-- the script -/
theorem vr_scrlen {v : Int32} (hd : decode μ.2.1 pc = .ok (.arraylength, 1)) (hv : Int32.ofNat (ga_L γ) = v) (kk : vv_ γ μ d (pc + 1) ls (.int v :: st) σ Q) : vv_ γ μ d pc ls (.ref 22 :: st) σ Q := by
  refine vs_pure (fun p e R s m args below meth c ad H locs cells slots la Z C hwo hS hl _ _ kk => ?_) (fun h8 _ o1 o2 => ⟨o1, fun w hw => (List.mem_cons.mp hw).elim (fun e => by rw [e]; exact ok_i σ _) (fun h => o2 w (List.mem_cons_of_mem _ h))⟩) kk
  rw [List.map_cons]
  show W _ _ _ _ _ _ _ _ _ _ _ _ _ _ _ (F0 m pc la (.ref (ad 22) :: _))
  rw [hwo.2.2.1 22 (by omega)]
  exact va_tlen C.1 C.2.1 C.2.2.2.2.2.2.2.2.2.2.2.2.2.2.2.2.2.1 hS hv hd (kk la hl)
theorem vr_scrload {i : Int32} (hd : decode μ.2.1 pc = .ok (.iaload, 1)) (hi : vp_in i (ga_L γ)) (kk : vv_ γ μ d (pc + 1) ls (.int (ga_X γ i.toNatClampNeg) :: st) σ Q) : vv_ γ μ d pc ls (.int i :: .ref 22 :: st) σ Q := by
  refine vs_pure (fun p e R s m args below meth c ad H locs cells slots la Z C hwo hS hl _ _ kk => ?_) (fun h8 _ o1 o2 => ⟨o1, fun w hw => (List.mem_cons.mp hw).elim (fun e => by rw [e]; exact ok_i σ _) (fun h => o2 w (List.mem_cons_of_mem _ (List.mem_cons_of_mem _ h)))⟩) kk
  rw [List.map_cons, List.map_cons]
  show W _ _ _ _ _ _ _ _ _ _ _ _ _ _ _ (F0 m pc la (.int i :: .ref (ad 22) :: _))
  rw [hwo.2.2.1 22 (by omega)]
  exact va_ti C.1 C.2.1 C.2.2.2.2.2.2.2.2.2.2.2.2.2.2.2.2.2.1 hS hi rfl hd (kk la hl)
/-- of the JDK's String -/
theorem vr_strVal {x i : Nat} (hd : decode μ.2.1 pc = .ok (.getfield x, 3)) (hi : i < 46) (hw : Cond.fieldLink μ.1.cls x "java/lang/String" "value" "[B" ∈ tg_) (kk : vv_ γ μ d (pc + 3) ls (.ref (80 + i) :: st) σ Q) : vv_ γ μ d pc ls (.ref (30 + i) :: st) σ Q := by
  refine vs_pure (fun p e R s m args below meth c ad H locs cells slots la Z C hwo hS hl _ _ kk => ?_) (fun h8 _ o1 o2 => ⟨o1, fun w hw => (List.mem_cons.mp hw).elim (fun e => by rw [e]; exact ok_r (by omega) h8) (fun h => o2 w (List.mem_cons_of_mem _ h))⟩) kk
  rw [List.map_cons]
  show W _ _ _ _ _ _ _ _ _ _ _ _ _ _ _ (F0 m pc la (.ref (ad (30 + i)) :: _))
  rw [hwo.2.2.1 (30 + i) (by omega)]
  refine vk_getf C.1 C.2.1 (C.2.2.2.2.2.2.2.2.2.2.2.1 i hi).2.2.1 hS C.2.2.2.2.1 (C.2.2.2.2.2.1 _ hw) (fun _ h => h) hd ?_
  have h9 := kk la hl
  rw [List.map_cons] at h9
  rw [← hwo.2.2.1 (80 + i) (by omega)]
  exact h9
theorem vr_strCod {x i : Nat} (hd : decode μ.2.1 pc = .ok (.getfield x, 3)) (hi : i < 46) (hw : Cond.fieldLink μ.1.cls x "java/lang/String" "coder" "B" ∈ tg_) (kk : vv_ γ μ d (pc + 3) ls (.int 0 :: st) σ Q) : vv_ γ μ d pc ls (.ref (30 + i) :: st) σ Q := by
  refine vs_pure (fun p e R s m args below meth c ad H locs cells slots la Z C hwo hS hl _ _ kk => ?_) (fun h8 _ o1 o2 => ⟨o1, fun w hw => (List.mem_cons.mp hw).elim (fun e => by rw [e]; exact ok_i σ _) (fun h => o2 w (List.mem_cons_of_mem _ h))⟩) kk
  rw [List.map_cons]
  show W _ _ _ _ _ _ _ _ _ _ _ _ _ _ _ (F0 m pc la (.ref (ad (30 + i)) :: _))
  rw [hwo.2.2.1 (30 + i) (by omega)]
  exact vk_getf C.1 C.2.1 (C.2.2.2.2.2.2.2.2.2.2.2.1 i hi).2.1 hS C.2.2.2.2.1 (C.2.2.2.2.2.1 _ hw) (fun _ h => h) hd (kk la hl)
theorem vr_compact {x : Nat} (hd : decode μ.2.1 pc = .ok (.getstatic x, 3)) (hw : Cond.fieldLink μ.1.cls x "java/lang/String" "COMPACT_STRINGS" "Z" ∈ tg_) (kk : vv_ γ μ d (pc + 3) ls (.int 1 :: st) σ Q) : vv_ γ μ d pc ls st σ Q := by
  refine vs_pure (fun p e R s m args below meth c ad H locs cells slots la Z C hwo hS hl _ _ kk => ?_) (fun h8 _ o1 o2 => ⟨o1, fun w hw => (List.mem_cons.mp hw).elim (fun e => by rw [e]; exact ok_i σ _) (fun h => o2 w h)⟩) kk
  exact va_gets C.1 C.2.1 C.2.2.2.2.2.2.2.2.2.2.2.2.1.2.2 hS C.2.2.2.2.1 (C.2.2.2.2.2.1 _ hw) (fun _ h => h) hd (kk la hl)
theorem fm_cat : (ga_F γ).category = 1 := by
  unfold ga_F
  split <;> rfl
theorem vr_fmt {x : Nat} (hd : decode μ.2.1 pc = .ok (.getstatic x, 3)) (hw : Cond.fieldLink μ.1.cls x "jdk/internal/util/Preconditions" "SIOOBE_FORMATTER" "Ljava/util/function/BiFunction;" ∈ tg_) (kk : vv_ γ μ d (pc + 3) ls (ga_F γ :: st) σ Q) : vv_ γ μ d pc ls st σ Q := by
  refine vs_pure (fun p e R s m args below meth c ad H locs cells slots la Z C hwo hS hl _ _ kk => ?_) (fun h8 _ o1 o2 => ⟨o1, fun w hw => (List.mem_cons.mp hw).elim (fun e => by
    rw [e]
    unfold ga_F
    split
    · exact ok_r (by omega) h8
    · exact ok_0 σ) (fun h => o2 w h)⟩) kk
  refine va_gets C.1 C.2.1 C.2.2.2.2.2.2.2.2.2.2.2.2.2.2.2.2.2.2 hS C.2.2.2.2.1 (C.2.2.2.2.2.1 _ hw) (fun _ h => h) hd ?_
  have h9 := kk la hl
  rw [List.map_cons] at h9
  have e1 : cv_ ad (ga_F γ) = cv_ (ga_E γ) (ga_F γ) := by
    unfold ga_F
    split
    · exact congrArg Value.ref (hwo.2.2.1 23 (by omega))
    · rfl
  rw [← e1]
  exact h9
theorem vr_strlen {i : Nat} {v : Int32} (hd : decode μ.2.1 pc = .ok (.arraylength, 1)) (hi : i < 46) (hv : Int32.ofNat (sc_q i).2.2.2.length = v) (kk : vv_ γ μ d (pc + 1) ls (.int v :: st) σ Q) : vv_ γ μ d pc ls (.ref (80 + i) :: st) σ Q := by
  refine vs_pure (fun p e R s m args below meth c ad H locs cells slots la Z C hwo hS hl _ _ kk => ?_) (fun h8 _ o1 o2 => ⟨o1, fun w hw => (List.mem_cons.mp hw).elim (fun e => by rw [e]; exact ok_i σ _) (fun h => o2 w (List.mem_cons_of_mem _ h))⟩) kk
  rw [List.map_cons]
  show W _ _ _ _ _ _ _ _ _ _ _ _ _ _ _ (F0 m pc la (.ref (ad (80 + i)) :: _))
  rw [hwo.2.2.1 (80 + i) (by omega)]
  exact va_tlen C.1 C.2.1 (C.2.2.2.2.2.2.2.2.2.2.2.1 i hi).2.2.2.1 hS hv hd (kk la hl)
theorem vr_strbyte {i : Nat} {j : Int32} (hd : decode μ.2.1 pc = .ok (.baload, 1)) (hi : i < 46) (hj : vp_in j (sc_q i).2.2.2.length) (kk : vv_ γ μ d (pc + 1) ls (.int ((sc_q i).2.2.2.getD j.toNatClampNeg 0) :: st) σ Q) : vv_ γ μ d pc ls (.int j :: .ref (80 + i) :: st) σ Q := by
  refine vs_pure (fun p e R s m args below meth c ad H locs cells slots la Z C hwo hS hl _ _ kk => ?_) (fun h8 _ o1 o2 => ⟨o1, fun w hw => (List.mem_cons.mp hw).elim (fun e => by rw [e]; exact ok_i σ _) (fun h => o2 w (List.mem_cons_of_mem _ (List.mem_cons_of_mem _ h)))⟩) kk
  rw [List.map_cons, List.map_cons]
  show W _ _ _ _ _ _ _ _ _ _ _ _ _ _ _ (F0 m pc la (.int j :: .ref (ad (80 + i)) :: _))
  rw [hwo.2.2.1 (80 + i) (by omega)]
  exact va_tb C.1 C.2.1 (C.2.2.2.2.2.2.2.2.2.2.2.1 i hi).2.2.2.1 hS hj rfl hd (kk la hl)
/-- the switch -/
theorem vr_tswOut {dflt lo hi : Int} {offs : Array Int} {len : Nat} {x : Int32} {tgt : Nat} (hd : decode μ.2.1 pc = .ok (.tableswitch dflt lo hi offs, len)) (h : x.toInt < lo ∨ hi < x.toInt) (ht : (pc : Int) + dflt = (tgt : Int)) (k : vv_ γ μ d tgt ls st σ Q) : vv_ γ μ d pc ls (.int x :: st) σ Q :=
  vs_pure (fun p e R s m args below meth c ad H locs cells slots la Z C hwo hS hl _ _ kk => lv_tableOut C.1 C.2.1 hd h ht (kk la hl)) (fun _ _ o1 o2 => ⟨o1, fun w hw => o2 w (List.mem_cons_of_mem _ hw)⟩) k
theorem vr_tswIn {dflt lo hi : Int} {offs : Array Int} {len : Nat} {x : Int32} {off : Int} {tgt : Nat} (hd : decode μ.2.1 pc = .ok (.tableswitch dflt lo hi offs, len)) (h1 : ¬ x.toInt < lo) (h2 : ¬ hi < x.toInt) (ho : offs[(x.toInt - lo).toNat]? = some off) (ht : (pc : Int) + off = (tgt : Int)) (k : vv_ γ μ d tgt ls st σ Q) : vv_ γ μ d pc ls (.int x :: st) σ Q :=
  vs_pure (fun p e R s m args below meth c ad H locs cells slots la Z C hwo hS hl _ _ kk => lv_tableIn C.1 C.2.1 hd h1 h2 ho ht (kk la hl)) (fun _ _ o1 o2 => ⟨o1, fun w hw => o2 w (List.mem_cons_of_mem _ hw)⟩) k
/-- System.arraycopy -/
def ay_ (own : String) (x : Nat) : Prop := Cond.methodLink own x arraycopyName ∈ tg_ ∧ Cond.native arraycopyName ∈ tg_ ∧ Cond.static arraycopyName ∈ tg_ ∧ Cond.initialized "java/lang/System" ∈ tg_
theorem pW_oth {γ : ga_T} {ad : Nat → Nat} (σ : st_T) (a : Nat) (f : Nat → Int32) (b : Nat) (hb : b ≠ a) : ce_ γ ad (pt_W σ a f) b = ce_ γ ad σ b :=
  ce_oth (fun j => if_neg hb) (fun _ => rfl) (fun _ => rfl) rfl
theorem pV_oth {γ : ga_T} {ad : Nat → Nat} (σ : st_T) (a : Nat) (f : Nat → Int64) (b : Nat) (hb : b ≠ a) : ce_ γ ad (pt_V σ a f) b = ce_ γ ad σ b :=
  ce_oth (fun _ => rfl) (fun j => if_neg hb) (fun _ => rfl) rfl
theorem pW_row (a : Nat) (f : Nat → Int32) : st_I (pt_W σ a f) a = f := funext fun _ => if_pos rfl
theorem pV_row (a : Nat) (f : Nat → Int64) : st_L (pt_V σ a f) a = f := funext fun _ => if_pos rfl
theorem vr_copyI {a b x n0 n1 : Nat} {sp dp n : Int32} (hd : decode μ.2.1 pc = .ok (.invokestatic x, 3)) (hw : ay_ μ.1.cls x) (ha : st_S σ a = (21, n0)) (hb : st_S σ b = (21, n1)) (h1 : ¬ sp < 0) (h2 : ¬ dp < 0) (h3 : ¬ n < 0) (h4 : sp.toNatClampNeg + n.toNatClampNeg ≤ n0) (h5 : dp.toNatClampNeg + n.toNatClampNeg ≤ n1) (hcat : (st.map fun v => v.category).sum ≤ 8) (hdd : 1 ≤ d)
    (kk : vv_ γ μ d (pc + 3) ls st (pt_W σ b (va_cpy (st_I σ a) (st_I σ b) sp.toNatClampNeg dp.toNatClampNeg n.toNatClampNeg)) Q) : vv_ γ μ d pc ls (.int n :: .int dp :: .ref b :: .int sp :: .ref a :: st) σ Q := by
  refine vs_put (a := b) (σ1 := pt_W σ b (va_cpy (st_I σ a) (st_I σ b) sp.toNatClampNeg dp.toNatClampNeg n.toNatClampNeg)) rfl rfl rfl (fun _ => rfl) (fun _ _ h => h) (by rw [hb]; exact Nat.succ_ne_zero _) (fun γ ad z hz => pW_oth σ b _ z hz) (fun w hw => List.mem_cons_of_mem _ (List.mem_cons_of_mem _ (List.mem_cons_of_mem _ (List.mem_cons_of_mem _ (List.mem_cons_of_mem _ hw))))) (fun p e R s m args below meth c ad H locs cells slots la Z C hwo hS _ hl hR3 hR4 _ he kk => ?_) kk
  obtain ⟨b1, b2⟩ := hwo.2.2.2.1 a (by rw [ha]; exact Nat.succ_ne_zero _)
  have he0 := wl_get (γ := γ) (ad := ad) b1 b2
  rw [ce_i ha] at he0
  rw [ce_i hb] at he
  rw [ce_i (σ := pt_W σ b _) hb, pW_row] at kk
  have hts := C.2.2.2.2.2.1
  exact va_copyi (ty := .int) C.1 C.2.1 (C.2.2.2.1.trans hl.1.symm) C.2.2.2.2.1 (hts _ hw.1) (hts _ hw.2.1) (hts _ hw.2.2.1) (hts _ hw.2.2.2) C.2.2.2.2.2.2.2.2.1 hwo.1 hwo.2.1 hS (a - 128) (b - 128) 0 0 he0 he rfl rfl rfl h1 h2 h3 h4 h5 (fun _ _ => rfl) (by omega) (by rw [cat_map]; show _ + (nativeFrameWords "java/lang/System" "arraycopy" 5 + 11) ≤ _; rw [show nativeFrameWords "java/lang/System" "arraycopy" 5 = 7 by decide]; omega) hd kk
theorem vr_copyL {a b x n0 n1 : Nat} {sp dp n : Int32} (hd : decode μ.2.1 pc = .ok (.invokestatic x, 3)) (hw : ay_ μ.1.cls x) (ha : st_S σ a = (22, n0)) (hb : st_S σ b = (22, n1)) (h1 : ¬ sp < 0) (h2 : ¬ dp < 0) (h3 : ¬ n < 0) (h4 : sp.toNatClampNeg + n.toNatClampNeg ≤ n0) (h5 : dp.toNatClampNeg + n.toNatClampNeg ≤ n1) (hcat : (st.map fun v => v.category).sum ≤ 8) (hdd : 1 ≤ d)
    (kk : vv_ γ μ d (pc + 3) ls st (pt_V σ b (va_cpy (st_L σ a) (st_L σ b) sp.toNatClampNeg dp.toNatClampNeg n.toNatClampNeg)) Q) : vv_ γ μ d pc ls (.int n :: .int dp :: .ref b :: .int sp :: .ref a :: st) σ Q := by
  refine vs_put (a := b) (σ1 := pt_V σ b (va_cpy (st_L σ a) (st_L σ b) sp.toNatClampNeg dp.toNatClampNeg n.toNatClampNeg)) rfl rfl rfl (fun _ => rfl) (fun _ _ h => h) (by rw [hb]; exact Nat.succ_ne_zero _) (fun γ ad z hz => pV_oth σ b _ z hz) (fun w hw => List.mem_cons_of_mem _ (List.mem_cons_of_mem _ (List.mem_cons_of_mem _ (List.mem_cons_of_mem _ (List.mem_cons_of_mem _ hw))))) (fun p e R s m args below meth c ad H locs cells slots la Z C hwo hS _ hl hR3 hR4 _ he kk => ?_) kk
  obtain ⟨b1, b2⟩ := hwo.2.2.2.1 a (by rw [ha]; exact Nat.succ_ne_zero _)
  have he0 := wl_get (γ := γ) (ad := ad) b1 b2
  rw [ce_l ha] at he0
  rw [ce_l hb] at he
  rw [ce_l (σ := pt_V σ b _) hb, pV_row] at kk
  have hts := C.2.2.2.2.2.1
  exact va_copyl (ty := .long) C.1 C.2.1 (C.2.2.2.1.trans hl.1.symm) C.2.2.2.2.1 (hts _ hw.1) (hts _ hw.2.1) (hts _ hw.2.2.1) (hts _ hw.2.2.2) C.2.2.2.2.2.2.2.2.1 hwo.1 hwo.2.1 hS (a - 128) (b - 128) 1 1 he0 he rfl rfl rfl h1 h2 h3 h4 h5 (fun _ _ => rfl) (by omega) (by rw [cat_map]; show _ + (nativeFrameWords "java/lang/System" "arraycopy" 5 + 11) ≤ _; rw [show nativeFrameWords "java/lang/System" "arraycopy" 5 = 7 by decide]; omega) hd kk
/-- rows of constants -/
theorem vr_newQ {x : Nat} {n : Int32} {N : Nat} (hd : decode μ.2.1 pc = .ok (.anewarray x, 3)) (hw : Cond.classLink μ.1.cls x "LitmusTester$Sign" ∈ tg_) (hn : ¬ n < 0) (hN : n.toNatClampNeg = N) (hb : N * 4 ≤ 536870912) (kk : vv_ γ μ d (pc + 3) ls (.ref (st_n σ) :: st) (pt_N σ 25 N N) Q) : vv_ γ μ d pc ls (.int n :: st) σ Q := by
  refine vs_new (κ := 25) (len := N) (z := N) (by omega) (fun _ h => List.mem_cons_of_mem _ h) (fun p e R s m args below meth c ad H locs cells slots la Z C hwo hS hc1 hs1 kk => ?_) kk
  refine va_newq (C := "LitmusTester$Sign") C.1 C.2.1 C.2.2.2.2.1 (C.2.2.2.2.2.1 _ hw) C.2.2.2.2.2.2.2.2.2.2.2.2.2.2.2.1 C.2.2.2.2.2.2.2.2.1 hwo.1 hwo.2.1 hS (fun z hz => Nat.le_trans (cx_B C) hz) hn hN hb hc1 hs1 hd (fun z cA H1 hK hP hD hS1 => ?_)
  have hcA : cA = γ.2.2.1 25 := by
    obtain ⟨k1, p1, -, -, -, e1⟩ := (hK.2 5 _ rfl).2
    obtain ⟨k2, p2, -, -, -, e2⟩ := (hK.2 4 _ rfl).2
    exact Option.some.inj (e1.symm.trans e2)
  have h9 := kk z H1
  rw [ce_q pN_S, pN_R, ← hcA] at h9
  exact h9 hP hD hS1
theorem vr_aastoreE {a n j : Nat} {i : Int32} (hd : decode μ.2.1 pc = .ok (.aastore, 1)) (hs : st_S σ a = (25, n)) (hi : vp_in i n) (hj : j < 21) (kk : vv_ γ μ d (pc + 1) ls st (pt_R σ a i.toNatClampNeg (some j)) Q) : vv_ γ μ d pc ls (.ref j :: .int i :: .ref a :: st) σ Q := by
  refine vs_put (a := a) (σ1 := pt_R σ a i.toNatClampNeg (some j)) rfl rfl rfl (fun _ => rfl) (fun h8 _ h => pR_ok (v := some j) (ok_r (by omega) h8) h) (by rw [hs]; exact Nat.succ_ne_zero _) (fun γ ad z hz => pR_oth σ a _ _ z hz) (fun w hw => List.mem_cons_of_mem _ (List.mem_cons_of_mem _ (List.mem_cons_of_mem _ hw))) (fun p e R s m args below meth c ad H locs cells slots la Z C hwo hS _ hl hR3 hR4 _ he kk => ?_) kk
  rw [ce_q hs] at he
  rw [ce_q (σ := pt_R σ a _ _) hs] at kk
  obtain ⟨cell, g1, g2, g3, -⟩ := (C.2.2.2.2.2.2.2.2.2.2.1.1.1 j hj).2.1.kept hS.2.1
  have hany : va_Any "LitmusTester$Sign" s H (ad j) := by
    rw [hwo.2.2.1 j (by omega)]
    obtain ⟨kC, hkC, -⟩ := Vm.findClass_spec g3
    refine ⟨cell, g1, g2, ⟨kC, hkC⟩, fun comp h => ?_⟩
    rw [Option.some.inj (h.symm.trans g3)]
    exact va_asg _ _
  refine va_astqM C.1 C.2.1 C.2.2.2.2.2.2.2.2.1 hwo.1 hwo.2.1 hS (a - 128) 4 he rfl hany hi hd ?_
  have e1 : (fun q => (st_R (pt_R σ a i.toNatClampNeg (some j)) a q).map ad) = va_up (fun q => (st_R σ a q).map ad) i.toNatClampNeg (some (ad j)) := by
    funext q
    unfold va_up
    rw [st_pR]
    by_cases hq : q = i.toNatClampNeg
    · rw [if_pos ⟨rfl, hq⟩, if_pos hq]
      rfl
    · rw [if_neg (fun z => hq z.2), if_neg hq]
  rw [e1] at kk
  exact kk
end MO
