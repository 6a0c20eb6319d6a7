/-! the store: ints, longs, references, shapes by handle; next handle, cells and slots made. A handle below 128 stands for a cell of the start. -/
abbrev st_T : Type := (Nat → Nat → Int32) × (Nat → Nat → Int64) × (Nat → Nat → Option Nat) × (Nat → Nat × Nat) × Nat × Nat × Nat
def st_I (σ : st_T) (a k : Nat) : Int32 := σ.1 a k
def st_L (σ : st_T) (a k : Nat) : Int64 := σ.2.1 a k
def st_R (σ : st_T) (a k : Nat) : Option Nat := σ.2.2.1 a k
def st_S (σ : st_T) (a : Nat) : Nat × Nat := σ.2.2.2.1 a
def st_n (σ : st_T) : Nat := σ.2.2.2.2.1
def st_c (σ : st_T) : Nat := σ.2.2.2.2.2.1
def st_u (σ : st_T) : Nat := σ.2.2.2.2.2.2
def pt_I (σ : st_T) (a k : Nat) (v : Int32) : st_T := (fun b j => if b = a ∧ j = k then v else σ.1 b j, σ.2)
def pt_L (σ : st_T) (a k : Nat) (v : Int64) : st_T := (σ.1, fun b j => if b = a ∧ j = k then v else σ.2.1 b j, σ.2.2)
def pt_R (σ : st_T) (a k : Nat) (v : Option Nat) : st_T := (σ.1, σ.2.1, fun b j => if b = a ∧ j = k then v else σ.2.2.1 b j, σ.2.2.2)
def pt_N (σ : st_T) (κ len z : Nat) : st_T := (fun b j => if b = st_n σ then 0 else σ.1 b j, fun b j => if b = st_n σ then 0 else σ.2.1 b j, fun b j => if b = st_n σ then none else σ.2.2.1 b j, fun b => if b = st_n σ then (κ, len) else σ.2.2.2.1 b, st_n σ + 1, st_c σ + 1, st_u σ + z)
def pt_X (σ : st_T) (k z : Nat) : st_T := (σ.1, σ.2.1, σ.2.2.1, σ.2.2.2.1, st_n σ, st_c σ + k, st_u σ + z)
/-- an int row rewritten whole -/
def pt_W (σ : st_T) (a : Nat) (f : Nat → Int32) : st_T := (fun b j => if b = a then f j else σ.1 b j, σ.2)
def pt_V (σ : st_T) (a : Nat) (f : Nat → Int64) : st_T := (σ.1, fun b j => if b = a then f j else σ.2.1 b j, σ.2.2)
theorem st_pI (σ : st_T) (a k : Nat) (v : Int32) (b j : Nat) : st_I (pt_I σ a k v) b j = if b = a ∧ j = k then v else st_I σ b j := rfl
theorem st_pL (σ : st_T) (a k : Nat) (v : Int64) (b j : Nat) : st_L (pt_L σ a k v) b j = if b = a ∧ j = k then v else st_L σ b j := rfl
theorem st_pR (σ : st_T) (a k : Nat) (v : Option Nat) (b j : Nat) : st_R (pt_R σ a k v) b j = if b = a ∧ j = k then v else st_R σ b j := rfl
/-- the launch, the classes, the arrays' classes, where new cells begin, the cells of the start -/
abbrev ga_T : Type := Launch × va_G × (Nat → ClassId) × Nat × (Nat → Nat) × Nat × (Nat → Int32) × Bool
def ga_B (γ : ga_T) : Nat := γ.2.2.2.1
def ga_E (γ : ga_T) : Nat → Nat := γ.2.2.2.2.1
/-- the script: its length, its ints -/
def ga_L (γ : ga_T) : Nat := γ.2.2.2.2.2.1
def ga_X (γ : ga_T) : Nat → Int32 := γ.2.2.2.2.2.2.1
/-- what a static of the JDK's holds: null, or some object -/
def ga_F (γ : ga_T) : Value := if γ.2.2.2.2.2.2.2 = true then .ref 23 else .null
def ga_A (γ : ga_T) : Nat → Prop := fun q => ga_B γ ≤ q
def ga_K (γ : ga_T) : List (ClassId × FieldType) := [(γ.2.2.1 21, .int), (γ.2.2.1 22, .long), (γ.2.2.1 23, .byte), (γ.2.2.1 24, .boolean), (γ.2.2.1 25, .object "LitmusTester$Sign")]
/-- a value with handles, made one with addresses -/
def cv_ (ad : Nat → Nat) (v : Value) : Value := match v with
  | .ref a => .ref (ad a)
  | w => w
theorem cv_rf (ad : Nat → Nat) (r : Option Nat) : cv_ ad (va_rf r) = va_re ad r := by cases r <;> rfl
theorem cv_cat (ad : Nat → Nat) (v : Value) : (cv_ ad v).category = v.category := by cases v <;> rfl
def ty_f (ci : Nat) : Nat → FieldType := match ci with
  | 0 => tyX0
  | 1 => tyX1
  | 2 => tyX2
  | 3 => tyX3
  | 4 => tyX4
  | 5 => tyX5
  | 6 => tyX6
  | 7 => tyX7
  | 8 => tyX9
  | 9 => tyX10
  | 10 => tyX11
  | _ => tyX12
def nf_ (ci : Nat) : Nat := match vwCl[ci]? with
  | some q => q.2.2
  | none => 0
def fv_ (ad : Nat → Nat) (σ : st_T) (a : Nat) (t : FieldType) (k : Nat) : Value := match t with
  | .int => .int (st_I σ a k)
  | .boolean => .int (st_I σ a k)
  | .long => .long (st_L σ a k)
  | _ => va_re ad (st_R σ a k)
def fs_ (ad : Nat → Nat) (σ : st_T) (a ci : Nat) : List Value := (List.range (nf_ ci)).map (fun k => fv_ ad σ a (ty_f ci k) k)
def ce_ (γ : ga_T) (ad : Nat → Nat) (σ : st_T) (a : Nat) : va_E :=
  if (st_S σ a).1 = 21 then .inl (γ.2.2.1 21, (st_S σ a).2, .inl (st_I σ a))
  else if (st_S σ a).1 = 22 then .inl (γ.2.2.1 22, (st_S σ a).2, .inr (.inl (st_L σ a)))
  else if (st_S σ a).1 = 23 then .inl (γ.2.2.1 23, (st_S σ a).2, .inl (st_I σ a))
  else if (st_S σ a).1 = 24 then .inl (γ.2.2.1 24, (st_S σ a).2, .inl (st_I σ a))
  else if (st_S σ a).1 = 25 then .inl (γ.2.2.1 25, (st_S σ a).2, .inr (.inr (.inr (.inr (fun j => (st_R σ a j).map ad)))))
  else .inr ((st_S σ a).1 - 1, fs_ ad σ a ((st_S σ a).1 - 1))
def wl_ (γ : ga_T) (ad : Nat → Nat) (σ : st_T) : va_W := (List.range (st_n σ - 128)).map (fun k => (ad (128 + k), ce_ γ ad σ (128 + k)))
theorem wl_get {γ : ga_T} {ad : Nat → Nat} {σ : st_T} {a : Nat} (h1 : 128 ≤ a) (h2 : a < st_n σ) : (wl_ γ ad σ)[a - 128]? = some (ad a, ce_ γ ad σ a) := by
  unfold wl_
  rw [List.getElem?_map, List.getElem?_range (by omega)]
  show some (ad (128 + (a - 128)), ce_ γ ad σ (128 + (a - 128))) = _
  rw [show 128 + (a - 128) = a by omega]
theorem wl_set {γ : ga_T} {ad : Nat → Nat} {σ σ' : st_T} {a : Nat} (h1 : 128 ≤ a) (h2 : a < st_n σ) (hn : st_n σ' = st_n σ) (ho : ∀ b, b ≠ a → ce_ γ ad σ' b = ce_ γ ad σ b) : wl_ γ ad σ' = (wl_ γ ad σ).set (a - 128) (ad a, ce_ γ ad σ' a) := by
  apply List.ext_getElem?
  intro k
  by_cases hk : k = a - 128
  · rw [hk, wl_get h1 (by rw [hn]; exact h2), List.getElem?_set_self (by unfold wl_; rw [List.length_map, List.length_range]; omega)]
  · rw [List.getElem?_set_ne (Ne.symm hk)]
    unfold wl_
    rw [hn, List.getElem?_map, List.getElem?_map]
    by_cases hl : k < st_n σ - 128
    · rw [List.getElem?_range hl]
      show some (_, ce_ γ ad σ' (128 + k)) = some (_, ce_ γ ad σ (128 + k))
      rw [ho _ (by omega)]
    · rw [List.getElem?_eq_none (by rw [List.length_range]; omega)]
      rfl
/-- the statics and constants of the start -/
def sg_nm : List String := ["END", "INVALID", "REGISTER", "NAME", "NUMBER", "LOC", "THREAD", "STORE", "LOAD", "SWAP", "FENCE", "EXISTS", "OR", "AND", "NOT", "SEMICOLON", "COLON", "EQUAL", "LESS", "OPEN", "CLOSE"]
def sc_t : List (String × Nat × String × List Int32) := [("LitmusTester", 119, "no such instruction", [110, 111, 32, 115, 117, 99, 104, 32, 105, 110, 115, 116, 114, 117, 99, 116, 105, 111, 110]), ("LitmusTester", 143, "thread", [116, 104, 114, 101, 97, 100]), ("LitmusTester", 159, "no such byte", [110, 111, 32, 115, 117, 99, 104, 32, 98, 121, 116, 101]), ("LitmusTester", 167, "no such model", [110, 111, 32, 115, 117, 99, 104, 32, 109, 111, 100, 101, 108]), ("LitmusTester", 215, "neither a load nor a swap", [110, 101, 105, 116, 104, 101, 114, 32, 97, 32, 108, 111, 97, 100, 32, 110, 111, 114, 32, 97, 32, 115, 119, 97, 112]), ("LitmusTester", 229, "no such location", [110, 111, 32, 115, 117, 99, 104, 32, 108, 111, 99, 97, 116, 105, 111, 110]), ("LitmusTester", 231, "no such thread", [110, 111, 32, 115, 117, 99, 104, 32, 116, 104, 114, 101, 97, 100]), ("LitmusTester", 246, "no such gap", [110, 111, 32, 115, 117, 99, 104, 32, 103, 97, 112]), ("LitmusTester", 285, "not a fence", [110, 111, 116, 32, 97, 32, 102, 101, 110, 99, 101]), ("LitmusTester", 289, "no room for a fence", [110, 111, 32, 114, 111, 111, 109, 32, 102, 111, 114, 32, 97, 32, 102, 101, 110, 99, 101]), ("LitmusTester", 330, "nothing read that is explained", [110, 111, 116, 104, 105, 110, 103, 32, 114, 101, 97, 100, 32, 116, 104, 97, 116, 32, 105, 115, 32, 101, 120, 112, 108, 97, 105, 110, 101, 100]), ("LitmusTester$Output", 36, " r", [32, 114]), ("LitmusTester$Output", 38, "loc", [108, 111, 99]), ("LitmusTester$Output", 61, "store", [115, 116, 111, 114, 101]), ("LitmusTester$Output", 63, "load", [108, 111, 97, 100]), ("LitmusTester$Output", 65, "swap", [115, 119, 97, 112]), ("LitmusTester$Output", 67, "fence", [102, 101, 110, 99, 101]), ("LitmusTester$Sign", 91, "", []), ("LitmusTester$Sign", 101, "loc", [108, 111, 99]), ("LitmusTester$Sign", 104, "thread", [116, 104, 114, 101, 97, 100]), ("LitmusTester$Sign", 107, "store", [115, 116, 111, 114, 101]), ("LitmusTester$Sign", 110, "load", [108, 111, 97, 100]), ("LitmusTester$Sign", 113, "swap", [115, 119, 97, 112]), ("LitmusTester$Sign", 116, "fence", [102, 101, 110, 99, 101]), ("LitmusTester$Sign", 119, "exists", [101, 120, 105, 115, 116, 115]), ("LitmusTester$Sign", 122, "or", [111, 114]), ("LitmusTester$Sign", 125, "and", [97, 110, 100]), ("LitmusTester$Sign", 128, "not", [110, 111, 116]), ("LitmusTester$Sign", 131, ";", [59]), ("LitmusTester$Sign", 134, ":", [58]), ("LitmusTester$Sign", 137, "=", [61]), ("LitmusTester$Sign", 140, "<", [60]), ("LitmusTester$Sign", 143, "(", [40]), ("LitmusTester$Sign", 146, ")", [41]), ("LitmusTesterModel", 178, "store", [115, 116, 111, 114, 101]), ("LitmusTesterModel", 180, "load", [108, 111, 97, 100]), ("LitmusTesterModel", 182, "swap", [115, 119, 97, 112]), ("LitmusTesterModel", 184, "fence", [102, 101, 110, 99, 101]), ("LitmusTesterModel", 197, "loc", [108, 111, 99]), ("LitmusTesterModel", 199, "thread", [116, 104, 114, 101, 97, 100]), ("LitmusTesterModel", 201, "exists", [101, 120, 105, 115, 116, 115]), ("LitmusTesterModel", 203, "or", [111, 114]), ("LitmusTesterModel", 205, "and", [97, 110, 100]), ("LitmusTesterModel", 207, "not", [110, 111, 116]), ("LitmusTesterModel", 501, " r", [32, 114]), ("LitmusTesterModel", 513, "thread;", [116, 104, 114, 101, 97, 100, 59])]
def sg_tx : List Nat := [17, 17, 17, 17, 17, 18, 19, 20, 21, 22, 23, 24, 25, 26, 27, 28, 29, 30, 31, 32, 33]
def sc_q (i : Nat) : String × Nat × String × List Int32 := sc_t.getD i ("", 0, "", [])
def ng_M : List (String × Nat × MethodName) := [("LitmusTester", 19, yX5_init), ("LitmusTester", 26, yX7_init), ("LitmusTester", 67, yX0_init), ("LitmusTester$Explorer", 11, yX9_init)]
def ng_F : List (String × Nat × String × String × String) := [("LitmusTester$Tokens", 95, "LitmusTester", "SIGNS", "[LLitmusTester$Sign;"), ("LitmusTester$Tokens", 98, "LitmusTester$Sign", "text", "Ljava/lang/String;")]
def kk_1 (γ : ga_T) (U : State) (H : Heap) : Prop :=
  va_En "LitmusTester$Sign" "LLitmusTester$Sign;" sg_nm [] (ga_E γ) (ga_A γ) U H ∧
  va_Ef 21 "LitmusTester$Sign" "text" "Ljava/lang/String;" (fun i => .ref (ga_E γ (30 + sg_tx.getD i 0))) (ga_E γ) (ga_A γ) U H ∧
  va_Z "LitmusTester" "SIGNS" "[LLitmusTester$Sign;" (.ref (ga_E γ 21)) (ga_A γ) U H ∧
  va_T (.object "LitmusTester$Sign") (ga_E γ 21) 21 (fun j => .ref (ga_E γ j)) (ga_A γ) U H
def kk_2 (γ : ga_T) (U : State) (H : Heap) (i : Nat) : Prop :=
  va_O "java/lang/String" (ga_E γ (30 + i)) (ga_A γ) U H ∧ va_OF "java/lang/String" "coder" "B" (.int 0) (ga_E γ (30 + i)) (ga_A γ) U H ∧
  va_OF "java/lang/String" "value" "[B" (.ref (ga_E γ (80 + i))) (ga_E γ (30 + i)) (ga_A γ) U H ∧
  va_T .byte (ga_E γ (80 + i)) (sc_q i).2.2.2.length (fun j => .int ((sc_q i).2.2.2.getD j 0)) (ga_A γ) U H ∧
  vk_R (sc_q i).1 (sc_q i).2.1 (sc_q i).2.2.1 (ga_E γ (30 + i)) U
def kk_3 (γ : ga_T) (U : State) (H : Heap) : Prop :=
  vx_Zq Bundle.tN "UNASSIGNED_STACK" Bundle.steD (ga_A γ) U H ∧ vx_Zq Bundle.tN "SUPPRESSED_SENTINEL" Bundle.listD (ga_A γ) U H ∧
  va_Z "java/lang/String" "COMPACT_STRINGS" "Z" (.int 1) (ga_A γ) U H
def ex_n : List String := ["java/lang/IllegalArgumentException", "java/lang/IllegalStateException", "java/lang/IndexOutOfBoundsException", "java/util/NoSuchElementException"]
def kk_5 (γ : ga_T) (U : State) (H : Heap) : Prop :=
  va_T .int (ga_E γ 22) (ga_L γ) (fun j => .int (ga_X γ j)) (ga_A γ) U H ∧ va_Z "jdk/internal/util/Preconditions" "SIOOBE_FORMATTER" "Ljava/util/function/BiFunction;" (cv_ (ga_E γ) (ga_F γ)) (ga_A γ) U H
def ex_d : List MethodName := [⟨"java/lang/RuntimeException", "<init>", "(Ljava/lang/String;)V"⟩, ⟨"java/lang/Exception", "<init>", "(Ljava/lang/String;)V"⟩, ⟨"java/lang/Throwable", "<init>", "(Ljava/lang/String;)V"⟩]
def kk_4 (U : State) : Prop := ((∀ X ∈ ex_n, va_Nw (.castable X X) U) ∧ ∀ x ∈ ex_d, va_Nw (.declares x) U) ∧ ∀ X ∈ ex_n, ∀ Y ∈ ex_n, X ≠ Y → va_Nc X Y U
def kk_ (γ : ga_T) (U : State) (H : Heap) : Prop :=
  va_K γ.2.1 vwCl (ga_K γ) U ∧ ((∀ q ∈ ng_M, va_Nw (.methodLinkNest q.1 q.2.1 q.2.2 "LitmusTester") U) ∧ ∀ q ∈ ng_F, va_Nw (.fieldLinkNest q.1 q.2.1 q.2.2.1 q.2.2.2.1 q.2.2.2.2 "LitmusTester") U) ∧
  kk_1 γ U H ∧ (∀ i, i < 46 → kk_2 γ U H i) ∧ kk_3 γ U H ∧ γ.1.stackTraces = false ∧ ga_B γ ≤ H.size ∧ va_AO "LitmusTester$Sign" U ∧ kk_4 U ∧ kk_5 γ U H
theorem kk_go {γ : ga_T} {s U : State} {H H1 : Heap} (h : kk_ γ s H) (hW : s.WarmedH U.vm) (hz : H.size ≤ H1.size) (hq : ∀ a : Nat, a < H.size → ¬ ga_A γ a → H1[a]? = H[a]?) : kk_ γ U H1 := by
  obtain ⟨h1, ⟨h2, h3⟩, ⟨e1, e2, e3, e4⟩, h5, ⟨x1, x2, x3⟩, h6, h7, h8, ⟨⟨h9, hde⟩, h10⟩, h11, h12⟩ := h
  have hv := hW.alike
  refine ⟨va_K.moved hv h1, ⟨fun q hm => va_Nw.warmM hW (h2 q hm), fun q hm => va_Nw.warmF hW (h3 q hm)⟩, ⟨(va_En.moved hv e1).kept hq, (va_Ef.moved hv e2).kept hq, (va_Z.moved hv e3).kept hq, (va_T.moved hv e4).kept hq⟩, fun i hi => ?_, ⟨vx_Zq.moved hv (x1.kept hq), vx_Zq.moved hv (x2.kept hq), (va_Z.moved hv x3).kept hq⟩, h6, Nat.le_trans h7 hz, va_AO.moved hv h8, ⟨⟨fun X hX => va_Nw.warmC hW (h9 X hX), fun x hx => va_Nw.warmD hW (hde x hx)⟩, fun X hX Y hY hne => va_Nc.moved hv (h10 X hX Y hY hne)⟩, (va_T.moved hv h11).kept hq, (va_Z.moved hv h12).kept hq⟩
  obtain ⟨g1, g2, g3, g4, g5⟩ := h5 i hi
  exact ⟨(va_O.moved hv g1).kept hq, (va_OF.moved hv g2).kept hq, (va_OF.moved hv g3).kept hq, (va_T.moved hv g4).kept hq, vk_R.warm hW g5⟩
/-- the world: the store, laid into the heap -/
def wo_ (γ : ga_T) (ad : Nat → Nat) (σ : st_T) (H : Heap) : Prop :=
  va_P γ.2.1 vwCl (wl_ γ ad σ) H ∧ va_D (ga_A γ) (wl_ γ ad σ) ∧ (∀ h, h < 128 → ad h = ga_E γ h) ∧ (∀ a, (st_S σ a).1 ≠ 0 → 128 ≤ a ∧ a < st_n σ) ∧ 128 ≤ st_n σ ∧ (∀ b k r, st_R σ b k = some r → r < st_n σ)
/-- a value whose handle is known -/
def ok_ (σ : st_T) (v : Value) : Prop := ∀ a, v = .ref a → a < st_n σ
theorem ok_i (σ : st_T) (x : Int32) : ok_ σ (.int x) := fun _ h => by cases h
theorem ok_l (σ : st_T) (x : Int64) : ok_ σ (.long x) := fun _ h => by cases h
theorem ok_0 (σ : st_T) : ok_ σ .null := fun _ h => by cases h
theorem ok_up {σ σ' : st_T} (h : st_n σ ≤ st_n σ') {v : Value} (hv : ok_ σ v) : ok_ σ' v := fun a e => Nat.lt_of_lt_of_le (hv a e) h
def ex_ (ad ad' : Nat → Nat) (σ : st_T) : Prop := ∀ h, h < st_n σ → ad' h = ad h
theorem cv_ex {ad ad' : Nat → Nat} {σ : st_T} (h : ex_ ad ad' σ) {v : Value} (hv : ok_ σ v) : cv_ ad' v = cv_ ad v := by
  cases v with
  | ref a => exact congrArg Value.ref (h a (hv a rfl))
  | _ => rfl
def le_ (σ σ' : st_T) : Prop := st_n σ ≤ st_n σ' ∧ st_c σ ≤ st_c σ' ∧ st_u σ ≤ st_u σ'
theorem le_rf (σ : st_T) : le_ σ σ := ⟨Nat.le_refl _, Nat.le_refl _, Nat.le_refl _⟩
theorem le_tr {σ σ' σ2 : st_T} (h : le_ σ σ') (h2 : le_ σ' σ2) : le_ σ σ2 := ⟨Nat.le_trans h.1 h2.1, Nat.le_trans h.2.1 h2.2.1, Nat.le_trans h.2.2 h2.2.2⟩
/-- a method: name, code, locals, answer, its table of handlers -/
abbrev mr_T : Type := MethodName × ByteArray × Nat × Option FieldType × List (Nat × Nat × Nat × Nat)
/-- how a body ends: it returns a value or none, or throws an exception of a class -/
abbrev rs_T : Type := Option Value ⊕ String
def tg_ : List Cond := lw_tbl.filter goodWord
def mc_ (μ : mr_T) : Cond := match μ.2.2.2.2 with
  | [] => Cond.code μ.1 μ.2.1 μ.2.2.1 μ.2.2.2.1
  | h :: t => Cond.codeWith μ.1 μ.2.1 μ.2.2.1 μ.2.2.2.1 (h :: t)
def mw_ (μ : mr_T) : List Cond := mc_ μ :: tg_
def qc_ (γ : ga_T) (ad : Nat → Nat) (σ : st_T) (r : rs_T) (σ' : st_T) : Array Value → State → Outcome → State → Prop := fun _ st o t =>
  (∃ (ad' : Nat → Nat) (v : Option Value), r = .inl v ∧ o = .returned (v.map (cv_ ad')) ∧ ex_ ad ad' σ ∧ (∀ w, v = some w → ok_ σ' w) ∧ wo_ γ ad' σ' t.heap) ∧ va_F (ga_A γ) st t
def xc_ (γ : ga_T) (ad : Nat → Nat) (σ : st_T) (r : rs_T) (σ' : st_T) : String → State → State → Prop := fun E st t =>
  (∃ ad' : Nat → Nat, r = .inr E ∧ ex_ ad ad' σ ∧ wo_ γ ad' σ' t.heap) ∧ va_F (ga_A γ) st t
def fin_ (γ : ga_T) (ad : Nat → Nat) (σ : st_T) (r : rs_T) (σ' : st_T) (below : List Frame) (args : Array Value) (s : State) (mc ms : Nat) : State → Prop := vx_MQ below (qc_ γ ad σ r σ') (xc_ γ ad σ r σ') args s mc ms (ga_A γ)
theorem qc_up {γ : ga_T} {ad ad1 : Nat → Nat} {σ σ1 : st_T} {r : rs_T} {σ' : st_T} {a : Array Value} {st t : State} {o : Outcome} (he : ex_ ad ad1 σ) (hn : st_n σ ≤ st_n σ1) (h : qc_ γ ad1 σ1 r σ' a st o t) : qc_ γ ad σ r σ' a st o t := by
  obtain ⟨⟨ad', v, h1, h2, h3, h4⟩, h5⟩ := h
  exact ⟨⟨ad', v, h1, h2, fun q hq => (h3 q (Nat.lt_of_lt_of_le hq hn)).trans (he q hq), h4⟩, h5⟩
theorem xc_up {γ : ga_T} {ad ad1 : Nat → Nat} {σ σ1 : st_T} {r : rs_T} {σ' : st_T} {E : String} {st t : State} (he : ex_ ad ad1 σ) (hn : st_n σ ≤ st_n σ1) (h : xc_ γ ad1 σ1 r σ' E st t) : xc_ γ ad σ r σ' E st t := by
  obtain ⟨⟨ad', h1, h3, h4⟩, h5⟩ := h
  exact ⟨⟨ad', h1, fun q hq => (h3 q (Nat.lt_of_lt_of_le hq hn)).trans (he q hq), h4⟩, h5⟩
theorem fin_up {γ : ga_T} {ad ad1 : Nat → Nat} {σ σ1 : st_T} {r : rs_T} {σ' : st_T} {below : List Frame} {args : Array Value} {s : State} {mc ms : Nat} (he : ex_ ad ad1 σ) (hn : st_n σ ≤ st_n σ1) {t : State} (h : fin_ γ ad1 σ1 r σ' below args s mc ms t) : fin_ γ ad σ r σ' below args s mc ms t := by
  obtain ⟨o, h1, h2, h3⟩ := h
  refine ⟨o, h1, h2, ?_⟩
  rcases h3 with ⟨h4, h5⟩ | ⟨q, h4, E, ce, L, h5, h6⟩
  · exact Or.inl ⟨qc_up he hn h4, h5⟩
  · exact Or.inr ⟨q, h4, E, ce, L, xc_up he hn h5, h6⟩
/-- what holds in a body of the method -/
def cx_ (γ : ga_T) (μ : mr_T) (p : Program) (s : State) (m : MethodId) (args : Array Value) (meth : Method) (c : Code) : Prop :=
  p.tables.exec = Jvm.exec ∧ c.code = μ.2.1 ∧ meth.sig.returnType = μ.2.2.2.1 ∧ c.maxLocals = μ.2.2.1 ∧ s.vm.findClass μ.1.cls = some m.cls ∧ (∀ w ∈ tg_, w.before args s = true) ∧ meth.locks = false ∧ meth.name = μ.1.name ∧ kk_ γ s s.heap
def lc_ (ad : Nat → Nat) (ls : List (Nat × Value)) : List (Nat × Value) := ls.map (fun q => (q.1, cv_ ad q.2))
/-- the body of μ at pc with the locals ls, the operands st and the store σ ends with r and σ', at most d calls deep -/
def wv_ (γ : ga_T) (μ : mr_T) (d : Nat) (pc : Nat) (ls : List (Nat × Value)) (st : List Value) (σ : st_T) (r : rs_T) (σ' : st_T) : Prop :=
  ∀ (p : Program) (e : Env) (R : Room) (s : State) (m : MethodId) (args : Array Value) (below : List Frame) (meth : Method) (c : Code) (ad : Nat → Nat) (H : Heap) (locs : List Loc) (cells slots : Nat) (la : Array Slot),
    cx_ γ μ p s m args meth c → c.exceptionTable.toList = tableOf μ.2.2.2.2 → wo_ γ ad σ H → va_S (ga_A γ) s.heap H locs → lv_has la μ.2.2.1 (lc_ ad ls) → (∀ q ∈ ls, ok_ σ q.2) → (∀ v ∈ st, ok_ σ v) →
    cells + (st_c σ' - st_c σ) ≤ R.cells → slots + (st_u σ' - st_u σ) ≤ R.slots → d ≤ R.frames → 64 * d ≤ R.locals →
    W p γ.1 e R s m args below meth c H locs cells slots (fin_ γ ad σ r σ' below args s (cells + (st_c σ' - st_c σ)) (slots + (st_u σ' - st_u σ))) (F0 m pc la (st.map (cv_ ad)))
def vv_ (γ : ga_T) (μ : mr_T) (d : Nat) (pc : Nat) (ls : List (Nat × Value)) (st : List Value) (σ : st_T) (Q : rs_T → st_T → Prop) : Prop := ∃ r σ', Q r σ' ∧ le_ σ σ' ∧ wv_ γ μ d pc ls st σ r σ'
/-- a step that leaves the store as it is -/
theorem vs_pure {γ : ga_T} {μ : mr_T} {d pc pc' : Nat} {ls ls' : List (Nat × Value)} {st st' : List Value} {σ : st_T} {Q : rs_T → st_T → Prop}
    (h : ∀ (p : Program) (e : Env) (R : Room) (s : State) (m : MethodId) (args : Array Value) (below : List Frame) (meth : Method) (c : Code) (ad : Nat → Nat) (H : Heap) (locs : List Loc) (cells slots : Nat) (la : Array Slot) (Z : State → Prop), cx_ γ μ p s m args meth c → wo_ γ ad σ H → va_S (ga_A γ) s.heap H locs → lv_has la μ.2.2.1 (lc_ ad ls) → d ≤ R.frames → 64 * d ≤ R.locals →
      (∀ la' : Array Slot, lv_has la' μ.2.2.1 (lc_ ad ls') → W p γ.1 e R s m args below meth c H locs cells slots Z (F0 m pc' la' (st'.map (cv_ ad)))) → W p γ.1 e R s m args below meth c H locs cells slots Z (F0 m pc la (st.map (cv_ ad))))
    (hk : 128 ≤ st_n σ → (∀ b k r, st_R σ b k = some r → r < st_n σ) → (∀ q ∈ ls, ok_ σ q.2) → (∀ v ∈ st, ok_ σ v) → (∀ q ∈ ls', ok_ σ q.2) ∧ (∀ v ∈ st', ok_ σ v))
    (k : vv_ γ μ d pc' ls' st' σ Q) : vv_ γ μ d pc ls st σ Q := by
  obtain ⟨r, σ', hQ, hle, hw⟩ := k
  refine ⟨r, σ', hQ, hle, ?_⟩
  intro p e R s m args below meth c ad H locs cells slots la hc hx hwo hS hl ho1 ho2 hR1 hR2 hR3 hR4
  obtain ⟨o1, o2⟩ := hk hwo.2.2.2.2.1 hwo.2.2.2.2.2 ho1 ho2
  exact h p e R s m args below meth c ad H locs cells slots la _ hc hwo hS hl hR3 hR4 (fun la' hl' => hw p e R s m args below meth c ad H locs cells slots la' hc hx hwo hS hl' o1 o2 hR1 hR2 hR3 hR4)
/-- the same, to one of two places -/
theorem vs_two {γ : ga_T} {μ : mr_T} {d pc pc1 pc2 : Nat} {ls : List (Nat × Value)} {st st' : List Value} {σ : st_T} {Q : rs_T → st_T → Prop} {cnd : Prop}
    (h : ∀ (p : Program) (e : Env) (R : Room) (s : State) (m : MethodId) (args : Array Value) (below : List Frame) (meth : Method) (c : Code) (ad : Nat → Nat) (H : Heap) (locs : List Loc) (cells slots : Nat) (la : Array Slot) (Z : State → Prop), cx_ γ μ p s m args meth c → wo_ γ ad σ H → (∀ v ∈ st, ok_ σ v) →
      (cnd → W p γ.1 e R s m args below meth c H locs cells slots Z (F0 m pc1 la (st'.map (cv_ ad)))) → (¬ cnd → W p γ.1 e R s m args below meth c H locs cells slots Z (F0 m pc2 la (st'.map (cv_ ad)))) → W p γ.1 e R s m args below meth c H locs cells slots Z (F0 m pc la (st.map (cv_ ad))))
    (hk : ∀ v ∈ st', v ∈ st) (k1 : cnd → vv_ γ μ d pc1 ls st' σ Q) (k2 : ¬ cnd → vv_ γ μ d pc2 ls st' σ Q) : vv_ γ μ d pc ls st σ Q := by
  by_cases hc0 : cnd
  · obtain ⟨r, σ', hQ, hle, hw⟩ := k1 hc0
    refine ⟨r, σ', hQ, hle, ?_⟩
    intro p e R s m args below meth c ad H locs cells slots la hc hx hwo hS hl ho1 ho2 hR1 hR2 hR3 hR4
    exact h p e R s m args below meth c ad H locs cells slots la _ hc hwo ho2 (fun _ => hw p e R s m args below meth c ad H locs cells slots la hc hx hwo hS hl ho1 (fun v hv => ho2 v (hk v hv)) hR1 hR2 hR3 hR4) (fun z => absurd hc0 z)
  · obtain ⟨r, σ', hQ, hle, hw⟩ := k2 hc0
    refine ⟨r, σ', hQ, hle, ?_⟩
    intro p e R s m args below meth c ad H locs cells slots la hc hx hwo hS hl ho1 ho2 hR1 hR2 hR3 hR4
    exact h p e R s m args below meth c ad H locs cells slots la _ hc hwo ho2 (fun z => absurd z hc0) (fun _ => hw p e R s m args below meth c ad H locs cells slots la hc hx hwo hS hl ho1 (fun v hv => ho2 v (hk v hv)) hR1 hR2 hR3 hR4)
