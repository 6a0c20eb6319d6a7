theorem tw_168 : (Jvm.Cond.code ({ cls := "java/lang/Object", name := "<init>", desc := "()V" } : Jvm.MethodName) object_method_1_code (1 : Nat) (Option.none : Option Jvm.ClassFile.FieldType)) ∈ tg_ := tk_1 (i := 37) (by decide +kernel) (by decide +kernel)
section CN
variable {γ : ga_T} {μ μ' : mr_T} {d d' pc : Nat} {ls : List (Nat × Value)} {st as rest : List Value} {σ σ1 : st_T} {Q : rs_T → st_T → Prop}
def cN_ (own : String) (x : Nat) (μ' : mr_T) (n : Nat) : Prop := μ'.2.2.2.2 = [] ∧ μ'.2.2.2.1 = none ∧ μ'.1.name = "<init>" ∧ (own, x, μ'.1) ∈ ng_M ∧ Cond.initialized μ'.1.cls ∈ tg_ ∧ mc_ μ' ∈ tg_ ∧ (μ'.1.cls ≠ "java/lang/invoke/MethodHandle" ∧ μ'.1.cls ≠ "java/lang/invoke/VarHandle" ∧ (parseMethodDescriptor μ'.1.desc).map (fun d => d.parameters.length) = some n) ∧ μ'.2.2.1 ≤ 45 ∧ Cond.instanceMethod μ'.1 ∈ tg_
theorem vc_I {a x n : Nat} {As : List Value} (zd : decode μ.2.1 pc = .ok (.invokespecial x, 3)) (zw : cI_ μ.1.cls x μ' n) (zn : As.length = n) (zs : st = As.reverse ++ .ref a :: rest) (zc : (rest.map fun v => v.category).sum ≤ 8) (zdd : d' + 1 ≤ d)
    (k : sp_ γ μ' d' (.ref a :: As) σ (co_ γ μ d pc ls rest Q)) : vv_ γ μ d pc ls st σ Q := by
  obtain ⟨z1, z2, z3, z4, z5⟩ := zw
  exact vr_callI zd z1 z2 z3 z4 z5 zn zs zc zdd k
theorem vc_IN {a x n : Nat} {As : List Value} (zd : decode μ.2.1 pc = .ok (.invokespecial x, 3)) (zw : cN_ μ.1.cls x μ' n) (zn : As.length = n) (zs : st = As.reverse ++ .ref a :: rest) (zc : (rest.map fun v => v.category).sum ≤ 8) (zdd : d' + 1 ≤ d)
    (k : sp_ γ μ' d' (.ref a :: As) σ (co_ γ μ d pc ls rest Q)) : vv_ γ μ d pc ls st σ Q := by
  obtain ⟨z1, z2, z3, z4, z5, z6, z7, z8, z9⟩ := zw
  exact vr_callIN zd z1 z2 z3 z4 z5 z6 z7 z8 z9 zn zs zc zdd k
end CN
theorem tz_objcode : Cond.code objectInit ⟨#[0xb1]⟩ 1 none ∈ tg_ := tw_168
def q_0 : st_T := (fun _ _ => 0, fun _ _ => 0, fun _ _ => none, fun _ => (0, 0), 128, 0, 0)

theorem nw_LitmusTesterLaw_8 : nw_ 8 10 "LitmusTesterLaw" := ⟨_, rfl, tw_161, tw_162, tw_132, fun j zj => by
  match j, zj with
  | 0, _ => exact Or.inr (Or.inr (Or.inr (Or.inr ⟨_, rfl⟩)))
  | 1, _ => exact Or.inl rfl
  | 2, _ => exact Or.inr (Or.inr (Or.inr (Or.inl ⟨_, rfl⟩)))
  | 3, _ => exact Or.inr (Or.inr (Or.inr (Or.inl ⟨_, rfl⟩)))
  | 4, _ => exact Or.inr (Or.inr (Or.inr (Or.inl ⟨_, rfl⟩)))
  | 5, _ => exact Or.inr (Or.inr (Or.inr (Or.inl ⟨_, rfl⟩)))
  | 6, _ => exact Or.inr (Or.inr (Or.inr (Or.inl ⟨_, rfl⟩)))
  | 7, _ => exact Or.inr (Or.inr (Or.inr (Or.inl ⟨_, rfl⟩)))
  | 8, _ => exact Or.inr (Or.inr (Or.inr (Or.inl ⟨_, rfl⟩)))
  | 9, _ => exact Or.inr (Or.inr (Or.inr (Or.inl ⟨_, rfl⟩)))
  | 10, _ => exact Or.inr (Or.inr (Or.inr (Or.inl ⟨_, rfl⟩)))
  | 11, _ => exact Or.inr (Or.inr (Or.inr (Or.inl ⟨_, rfl⟩)))
  | j + 12, zj => exact absurd (show j + 12 < 12 from zj) (by omega)⟩
theorem nw_LitmusTester_17 : nw_ 17 5 "LitmusTester" := ⟨_, rfl, tw_169, tw_170, tw_133, fun j zj => by
  match j, zj with
  | 0, _ => exact Or.inr (Or.inr (Or.inr (Or.inr ⟨_, rfl⟩)))
  | 1, _ => exact Or.inl rfl
  | j + 2, zj => exact absurd (show j + 2 < 2 from zj) (by omega)⟩
theorem nw_LitmusTester_24 : nw_ 24 7 "LitmusTester" := ⟨_, rfl, tw_183, tw_184, tw_134, fun j zj => by
  match j, zj with
  | 0, _ => exact Or.inr (Or.inr (Or.inr (Or.inr ⟨_, rfl⟩)))
  | 1, _ => exact Or.inr (Or.inr (Or.inr (Or.inr ⟨_, rfl⟩)))
  | 2, _ => exact Or.inr (Or.inr (Or.inr (Or.inr ⟨_, rfl⟩)))
  | 3, _ => exact Or.inr (Or.inr (Or.inr (Or.inr ⟨_, rfl⟩)))
  | 4, _ => exact Or.inl rfl
  | 5, _ => exact Or.inl rfl
  | 6, _ => exact Or.inl rfl
  | 7, _ => exact Or.inl rfl
  | j + 8, zj => exact absurd (show j + 8 < 8 from zj) (by omega)⟩
theorem nw_LitmusTester_34 : nw_ 34 6 "LitmusTester" := ⟨_, rfl, tw_216, tw_217, tw_135, fun j zj => by
  match j, zj with
  | 0, _ => exact Or.inr (Or.inr (Or.inr (Or.inl ⟨_, rfl⟩)))
  | 1, _ => exact Or.inr (Or.inr (Or.inr (Or.inl ⟨_, rfl⟩)))
  | 2, _ => exact Or.inl rfl
  | 3, _ => exact Or.inl rfl
  | 4, _ => exact Or.inl rfl
  | 5, _ => exact Or.inl rfl
  | 6, _ => exact Or.inl rfl
  | 7, _ => exact Or.inl rfl
  | j + 8, zj => exact absurd (show j + 8 < 8 from zj) (by omega)⟩
theorem nw_LitmusTester_Parser_30 : nw_ 30 9 "LitmusTester$Parser" := ⟨_, rfl, tw_222, tw_223, tw_136, fun j zj => by
  match j, zj with
  | 0, _ => exact Or.inr (Or.inr (Or.inr (Or.inr ⟨_, rfl⟩)))
  | 1, _ => exact Or.inr (Or.inr (Or.inr (Or.inr ⟨_, rfl⟩)))
  | 2, _ => exact Or.inr (Or.inr (Or.inr (Or.inr ⟨_, rfl⟩)))
  | 3, _ => exact Or.inr (Or.inr (Or.inr (Or.inr ⟨_, rfl⟩)))
  | 4, _ => exact Or.inl rfl
  | 5, _ => exact Or.inl rfl
  | 6, _ => exact Or.inl rfl
  | j + 7, zj => exact absurd (show j + 7 < 7 from zj) (by omega)⟩
theorem nw_LitmusTester_43 : nw_ 43 2 "LitmusTester" := ⟨_, rfl, tw_277, tw_278, tw_137, fun j zj => by
  match j, zj with
  | 0, _ => exact Or.inr (Or.inr (Or.inr (Or.inl ⟨_, rfl⟩)))
  | 1, _ => exact Or.inr (Or.inr (Or.inr (Or.inl ⟨_, rfl⟩)))
  | 2, _ => exact Or.inr (Or.inr (Or.inr (Or.inl ⟨_, rfl⟩)))
  | 3, _ => exact Or.inr (Or.inr (Or.inr (Or.inr ⟨_, rfl⟩)))
  | j + 4, zj => exact absurd (show j + 4 < 4 from zj) (by omega)⟩
theorem nw_LitmusTester_Explorer_9 : nw_ 9 8 "LitmusTester$Explorer" := ⟨_, rfl, tw_283, tw_284, tw_138, fun j zj => by
  match j, zj with
  | 0, _ => exact Or.inr (Or.inr (Or.inr (Or.inr ⟨_, rfl⟩)))
  | 1, _ => exact Or.inr (Or.inr (Or.inr (Or.inr ⟨_, rfl⟩)))
  | 2, _ => exact Or.inr (Or.inr (Or.inr (Or.inr ⟨_, rfl⟩)))
  | 3, _ => exact Or.inl rfl
  | 4, _ => exact Or.inl rfl
  | j + 5, zj => exact absurd (show j + 5 < 5 from zj) (by omega)⟩
theorem nw_LitmusTester_Explorer_26 : nw_ 26 4 "LitmusTester$Explorer" := ⟨_, rfl, tw_305, tw_306, tw_139, fun j zj => by
  match j, zj with
  | 0, _ => exact Or.inr (Or.inr (Or.inr (Or.inl ⟨_, rfl⟩)))
  | 1, _ => exact Or.inr (Or.inr (Or.inr (Or.inr ⟨_, rfl⟩)))
  | 2, _ => exact Or.inr (Or.inr (Or.inr (Or.inr ⟨_, rfl⟩)))
  | 3, _ => exact Or.inr (Or.inr (Or.inr (Or.inr ⟨_, rfl⟩)))
  | 4, _ => exact Or.inr (Or.inr (Or.inr (Or.inr ⟨_, rfl⟩)))
  | 5, _ => exact Or.inr (Or.inr (Or.inr (Or.inr ⟨_, rfl⟩)))
  | 6, _ => exact Or.inr (Or.inr (Or.inr (Or.inr ⟨_, rfl⟩)))
  | 7, _ => exact Or.inr (Or.inr (Or.inr (Or.inr ⟨_, rfl⟩)))
  | 8, _ => exact Or.inr (Or.inr (Or.inr (Or.inr ⟨_, rfl⟩)))
  | 9, _ => exact Or.inr (Or.inr (Or.inr (Or.inr ⟨_, rfl⟩)))
  | 10, _ => exact Or.inr (Or.inr (Or.inr (Or.inr ⟨_, rfl⟩)))
  | 11, _ => exact Or.inl rfl
  | 12, _ => exact Or.inl rfl
  | 13, _ => exact Or.inr (Or.inr (Or.inl rfl))
  | 14, _ => exact Or.inr (Or.inr (Or.inl rfl))
  | j + 15, zj => exact absurd (show j + 15 < 15 from zj) (by omega)⟩
theorem nw_LitmusTester_52 : nw_ 52 3 "LitmusTester" := ⟨_, rfl, tw_370, tw_371, tw_140, fun j zj => by
  match j, zj with
  | 0, _ => exact Or.inr (Or.inr (Or.inr (Or.inr ⟨_, rfl⟩)))
  | 1, _ => exact Or.inr (Or.inr (Or.inr (Or.inr ⟨_, rfl⟩)))
  | 2, _ => exact Or.inl rfl
  | 3, _ => exact Or.inl rfl
  | 4, _ => exact Or.inr (Or.inl rfl)
  | 5, _ => exact Or.inr (Or.inr (Or.inr (Or.inr ⟨_, rfl⟩)))
  | 6, _ => exact Or.inr (Or.inr (Or.inr (Or.inr ⟨_, rfl⟩)))
  | j + 7, zj => exact absurd (show j + 7 < 7 from zj) (by omega)⟩
theorem nw_LitmusTester_65 : nw_ 65 0 "LitmusTester" := ⟨_, rfl, tw_401, tw_402, tw_142, fun j zj => by
  match j, zj with
  | 0, _ => exact Or.inr (Or.inr (Or.inr (Or.inr ⟨_, rfl⟩)))
  | 1, _ => exact Or.inl rfl
  | j + 2, zj => exact absurd (show j + 2 < 2 from zj) (by omega)⟩
theorem nw_LitmusTester_72 : nw_ 72 1 "LitmusTester" := ⟨_, rfl, tw_414, tw_415, tw_143, fun j zj => by
  match j, zj with
  | 0, _ => exact Or.inr (Or.inr (Or.inr (Or.inl ⟨_, rfl⟩)))
  | 1, _ => exact Or.inr (Or.inr (Or.inr (Or.inr ⟨_, rfl⟩)))
  | 2, _ => exact Or.inr (Or.inr (Or.inr (Or.inr ⟨_, rfl⟩)))
  | 3, _ => exact Or.inr (Or.inr (Or.inr (Or.inr ⟨_, rfl⟩)))
  | 4, _ => exact Or.inl rfl
  | 5, _ => exact Or.inl rfl
  | 6, _ => exact Or.inr (Or.inl rfl)
  | j + 7, zj => exact absurd (show j + 7 < 7 from zj) (by omega)⟩
theorem nw_LitmusTesterLaw_95 : nw_ 95 11 "LitmusTesterLaw" := ⟨_, rfl, tw_1633, tw_1634, tw_144, fun j zj => by
  match j, zj with
  | 0, _ => exact Or.inl rfl
  | 1, _ => exact Or.inr (Or.inr (Or.inr (Or.inr ⟨_, rfl⟩)))
  | 2, _ => exact Or.inl rfl
  | 3, _ => exact Or.inr (Or.inr (Or.inr (Or.inr ⟨_, rfl⟩)))
  | 4, _ => exact Or.inr (Or.inr (Or.inr (Or.inr ⟨_, rfl⟩)))
  | 5, _ => exact Or.inr (Or.inr (Or.inr (Or.inr ⟨_, rfl⟩)))
  | 6, _ => exact Or.inr (Or.inr (Or.inr (Or.inr ⟨_, rfl⟩)))
  | 7, _ => exact Or.inr (Or.inr (Or.inr (Or.inr ⟨_, rfl⟩)))
  | 8, _ => exact Or.inr (Or.inr (Or.inr (Or.inr ⟨_, rfl⟩)))
  | 9, _ => exact Or.inr (Or.inr (Or.inr (Or.inr ⟨_, rfl⟩)))
  | 10, _ => exact Or.inl rfl
  | 11, _ => exact Or.inl rfl
  | 12, _ => exact Or.inl rfl
  | 13, _ => exact Or.inl rfl
  | 14, _ => exact Or.inl rfl
  | 15, _ => exact Or.inl rfl
  | 16, _ => exact Or.inl rfl
  | 17, _ => exact Or.inl rfl
  | 18, _ => exact Or.inr (Or.inr (Or.inr (Or.inr ⟨_, rfl⟩)))
  | 19, _ => exact Or.inr (Or.inr (Or.inr (Or.inr ⟨_, rfl⟩)))
  | 20, _ => exact Or.inl rfl
  | 21, _ => exact Or.inl rfl
  | 22, _ => exact Or.inl rfl
  | 23, _ => exact Or.inr (Or.inr (Or.inr (Or.inr ⟨_, rfl⟩)))
  | 24, _ => exact Or.inr (Or.inr (Or.inr (Or.inr ⟨_, rfl⟩)))
  | 25, _ => exact Or.inr (Or.inr (Or.inr (Or.inr ⟨_, rfl⟩)))
  | 26, _ => exact Or.inr (Or.inr (Or.inr (Or.inr ⟨_, rfl⟩)))
  | 27, _ => exact Or.inr (Or.inr (Or.inr (Or.inr ⟨_, rfl⟩)))
  | 28, _ => exact Or.inr (Or.inr (Or.inr (Or.inr ⟨_, rfl⟩)))
  | 29, _ => exact Or.inr (Or.inr (Or.inr (Or.inr ⟨_, rfl⟩)))
  | 30, _ => exact Or.inr (Or.inr (Or.inr (Or.inr ⟨_, rfl⟩)))
  | 31, _ => exact Or.inl rfl
  | 32, _ => exact Or.inr (Or.inr (Or.inl rfl))
  | 33, _ => exact Or.inl rfl
  | 34, _ => exact Or.inl rfl
  | 35, _ => exact Or.inr (Or.inr (Or.inr (Or.inr ⟨_, rfl⟩)))
  | 36, _ => exact Or.inr (Or.inr (Or.inr (Or.inr ⟨_, rfl⟩)))
  | 37, _ => exact Or.inr (Or.inr (Or.inr (Or.inr ⟨_, rfl⟩)))
  | 38, _ => exact Or.inr (Or.inr (Or.inr (Or.inr ⟨_, rfl⟩)))
  | 39, _ => exact Or.inl rfl
  | 40, _ => exact Or.inl rfl
  | 41, _ => exact Or.inr (Or.inr (Or.inr (Or.inr ⟨_, rfl⟩)))
  | 42, _ => exact Or.inr (Or.inr (Or.inr (Or.inr ⟨_, rfl⟩)))
  | 43, _ => exact Or.inr (Or.inr (Or.inr (Or.inr ⟨_, rfl⟩)))
  | 44, _ => exact Or.inl rfl
  | 45, _ => exact Or.inl rfl
  | 46, _ => exact Or.inr (Or.inr (Or.inr (Or.inr ⟨_, rfl⟩)))
  | 47, _ => exact Or.inr (Or.inl rfl)
  | 48, _ => exact Or.inr (Or.inr (Or.inr (Or.inr ⟨_, rfl⟩)))
  | 49, _ => exact Or.inr (Or.inr (Or.inr (Or.inr ⟨_, rfl⟩)))
  | 50, _ => exact Or.inr (Or.inr (Or.inr (Or.inr ⟨_, rfl⟩)))
  | 51, _ => exact Or.inr (Or.inr (Or.inr (Or.inr ⟨_, rfl⟩)))
  | 52, _ => exact Or.inr (Or.inr (Or.inr (Or.inr ⟨_, rfl⟩)))
  | 53, _ => exact Or.inl rfl
  | 54, _ => exact Or.inr (Or.inr (Or.inr (Or.inr ⟨_, rfl⟩)))
  | 55, _ => exact Or.inr (Or.inr (Or.inr (Or.inr ⟨_, rfl⟩)))
  | 56, _ => exact Or.inl rfl
  | j + 57, zj => exact absurd (show j + 57 < 57 from zj) (by omega)⟩
theorem oi_LitmusTester_3 : oi_ "LitmusTester" 3 := ⟨tw_166, tw_167, tz_objcode⟩
theorem oi_LitmusTester_Output_3 : oi_ "LitmusTester$Output" 3 := ⟨tw_174, tw_167, tz_objcode⟩
theorem oi_LitmusTester_Program_3 : oi_ "LitmusTester$Program" 3 := ⟨tw_188, tw_167, tz_objcode⟩
theorem oi_LitmusTester_Parser_3 : oi_ "LitmusTester$Parser" 3 := ⟨tw_221, tw_167, tz_objcode⟩
theorem oi_LitmusTester_Tokens_3 : oi_ "LitmusTester$Tokens" 3 := ⟨tw_227, tw_167, tz_objcode⟩
theorem oi_LitmusTester_Explorer_3 : oi_ "LitmusTester$Explorer" 3 := ⟨tw_282, tw_167, tz_objcode⟩
theorem oi_LitmusTester_StateTable_3 : oi_ "LitmusTester$StateTable" 3 := ⟨tw_288, tw_167, tz_objcode⟩
theorem oi_LitmusTester_Machine_5 : oi_ "LitmusTester$Machine" 5 := ⟨tw_310, tw_167, tz_objcode⟩
theorem oi_LitmusTester_Findings_3 : oi_ "LitmusTester$Findings" 3 := ⟨tw_375, tw_167, tz_objcode⟩
theorem oi_LitmusTester_Changes_3 : oi_ "LitmusTester$Changes" 3 := ⟨tw_406, tw_167, tz_objcode⟩
theorem oi_LitmusTester_Explanation_3 : oi_ "LitmusTester$Explanation" 3 := ⟨tw_419, tw_167, tz_objcode⟩
theorem oi_LitmusTesterModel_7 : oi_ "LitmusTesterModel" 7 := ⟨tw_1638, tw_167, tz_objcode⟩
theorem cN_LitmusTester_19 : cN_ "LitmusTester" 19 m_X5_init 0 := ⟨rfl, rfl, rfl, List.mem_of_getElem? (i := 0) rfl, tw_133, tw_173, (by decide +kernel : m_X5_init.1.cls ≠ "java/lang/invoke/MethodHandle" ∧ m_X5_init.1.cls ≠ "java/lang/invoke/VarHandle" ∧ (parseMethodDescriptor m_X5_init.1.desc).map (fun d => d.parameters.length) = some 0), Nat.le_of_ble_eq_true rfl, tw_172⟩
theorem cN_LitmusTester_26 : cN_ "LitmusTester" 26 m_X7_init 0 := ⟨rfl, rfl, rfl, List.mem_of_getElem? (i := 1) rfl, tw_134, tw_187, (by decide +kernel : m_X7_init.1.cls ≠ "java/lang/invoke/MethodHandle" ∧ m_X7_init.1.cls ≠ "java/lang/invoke/VarHandle" ∧ (parseMethodDescriptor m_X7_init.1.desc).map (fun d => d.parameters.length) = some 0), Nat.le_of_ble_eq_true rfl, tw_186⟩
theorem cI_LitmusTester_Parser_32 : cI_ "LitmusTester$Parser" 32 m_X10_init 1 := ⟨rfl, rfl, rfl, ⟨tw_224, tw_136, tw_226, (by decide +kernel : m_X10_init.1.cls ≠ "java/lang/invoke/MethodHandle" ∧ m_X10_init.1.cls ≠ "java/lang/invoke/VarHandle" ∧ (parseMethodDescriptor m_X10_init.1.desc).map (fun d => d.parameters.length) = some 1), Nat.le_of_ble_eq_true rfl⟩, tw_225⟩
theorem cI_LitmusTester_36 : cI_ "LitmusTester" 36 m_X6_init 2 := ⟨rfl, rfl, rfl, ⟨tw_218, tw_135, tw_220, (by decide +kernel : m_X6_init.1.cls ≠ "java/lang/invoke/MethodHandle" ∧ m_X6_init.1.cls ≠ "java/lang/invoke/VarHandle" ∧ (parseMethodDescriptor m_X6_init.1.desc).map (fun d => d.parameters.length) = some 2), Nat.le_of_ble_eq_true rfl⟩, tw_219⟩
theorem cN_LitmusTester_Explorer_11 : cN_ "LitmusTester$Explorer" 11 m_X9_init 0 := ⟨rfl, rfl, rfl, List.mem_of_getElem? (i := 3) rfl, tw_138, tw_287, (by decide +kernel : m_X9_init.1.cls ≠ "java/lang/invoke/MethodHandle" ∧ m_X9_init.1.cls ≠ "java/lang/invoke/VarHandle" ∧ (parseMethodDescriptor m_X9_init.1.desc).map (fun d => d.parameters.length) = some 0), Nat.le_of_ble_eq_true rfl, tw_286⟩
theorem cI_LitmusTester_Explorer_28 : cI_ "LitmusTester$Explorer" 28 m_X4_init 1 := ⟨rfl, rfl, rfl, ⟨tw_307, tw_139, tw_309, (by decide +kernel : m_X4_init.1.cls ≠ "java/lang/invoke/MethodHandle" ∧ m_X4_init.1.cls ≠ "java/lang/invoke/VarHandle" ∧ (parseMethodDescriptor m_X4_init.1.desc).map (fun d => d.parameters.length) = some 1), Nat.le_of_ble_eq_true rfl⟩, tw_308⟩
theorem cI_LitmusTester_45 : cI_ "LitmusTester" 45 m_X2_init 1 := ⟨rfl, rfl, rfl, ⟨tw_279, tw_137, tw_281, (by decide +kernel : m_X2_init.1.cls ≠ "java/lang/invoke/MethodHandle" ∧ m_X2_init.1.cls ≠ "java/lang/invoke/VarHandle" ∧ (parseMethodDescriptor m_X2_init.1.desc).map (fun d => d.parameters.length) = some 1), Nat.le_of_ble_eq_true rfl⟩, tw_280⟩
theorem cI_LitmusTester_54 : cI_ "LitmusTester" 54 m_X3_init 0 := ⟨rfl, rfl, rfl, ⟨tw_372, tw_140, tw_374, (by decide +kernel : m_X3_init.1.cls ≠ "java/lang/invoke/MethodHandle" ∧ m_X3_init.1.cls ≠ "java/lang/invoke/VarHandle" ∧ (parseMethodDescriptor m_X3_init.1.desc).map (fun d => d.parameters.length) = some 0), Nat.le_of_ble_eq_true rfl⟩, tw_373⟩
theorem cN_LitmusTester_67 : cN_ "LitmusTester" 67 m_X0_init 0 := ⟨rfl, rfl, rfl, List.mem_of_getElem? (i := 2) rfl, tw_142, tw_405, (by decide +kernel : m_X0_init.1.cls ≠ "java/lang/invoke/MethodHandle" ∧ m_X0_init.1.cls ≠ "java/lang/invoke/VarHandle" ∧ (parseMethodDescriptor m_X0_init.1.desc).map (fun d => d.parameters.length) = some 0), Nat.le_of_ble_eq_true rfl, tw_404⟩
theorem cI_LitmusTester_74 : cI_ "LitmusTester" 74 m_X1_init 1 := ⟨rfl, rfl, rfl, ⟨tw_416, tw_143, tw_418, (by decide +kernel : m_X1_init.1.cls ≠ "java/lang/invoke/MethodHandle" ∧ m_X1_init.1.cls ≠ "java/lang/invoke/VarHandle" ∧ (parseMethodDescriptor m_X1_init.1.desc).map (fun d => d.parameters.length) = some 1), Nat.le_of_ble_eq_true rfl⟩, tw_417⟩
theorem cI_LitmusTesterLaw_94 : cI_ "LitmusTesterLaw" 94 m_X11_init 0 := ⟨rfl, rfl, rfl, ⟨tw_163, tw_132, tw_165, (by decide +kernel : m_X11_init.1.cls ≠ "java/lang/invoke/MethodHandle" ∧ m_X11_init.1.cls ≠ "java/lang/invoke/VarHandle" ∧ (parseMethodDescriptor m_X11_init.1.desc).map (fun d => d.parameters.length) = some 0), Nat.le_of_ble_eq_true rfl⟩, tw_164⟩
theorem cI_LitmusTesterLaw_97 : cI_ "LitmusTesterLaw" 97 m_X12_init 0 := ⟨rfl, rfl, rfl, ⟨tw_1635, tw_144, tw_1637, (by decide +kernel : m_X12_init.1.cls ≠ "java/lang/invoke/MethodHandle" ∧ m_X12_init.1.cls ≠ "java/lang/invoke/VarHandle" ∧ (parseMethodDescriptor m_X12_init.1.desc).map (fun d => d.parameters.length) = some 0), Nat.le_of_ble_eq_true rfl⟩, tw_1636⟩
def q_1 : st_T := pt_N q_0 11 0 (nf_ 10)
def q_2 : st_T := pt_N q_1 23 600 600
def q_3 : st_T := pt_R q_2 128 0 (some 129)
def q_4 : st_T := pt_I q_3 128 1 (0)
def q_5 : st_T := pt_N q_4 6 0 (nf_ 5)
def q_6 : st_T := pt_N q_5 23 320 320
def q_7 : st_T := pt_R q_6 130 0 (some 131)
def q_8 : st_T := pt_I q_7 130 1 (0)
def q_9 : st_T := pt_R q_8 128 2 (some 130)
def q_10 : st_T := pt_N q_9 8 0 (nf_ 7)
def q_11 : st_T := pt_N q_10 22 3 3
def q_12 : st_T := pt_R q_11 132 0 (some 133)
def q_13 : st_T := pt_N q_12 21 3 3
def q_14 : st_T := pt_R q_13 132 1 (some 134)
def q_15 : st_T := pt_N q_14 21 60 60
def q_16 : st_T := pt_R q_15 132 2 (some 135)
def q_17 : st_T := pt_N q_16 21 32 32
def q_18 : st_T := pt_R q_17 132 3 (some 136)
def q_19 : st_T := pt_I q_18 132 4 (0)
def q_20 : st_T := pt_I q_19 132 5 (0)
def q_21 : st_T := pt_I q_20 132 6 (0)
def q_22 : st_T := pt_I q_21 132 7 (0)
def q_23 : st_T := pt_R q_22 128 3 (some 132)
def q_24 : st_T := pt_N q_23 8 0 (nf_ 7)
def q_25 : st_T := pt_N q_24 22 3 3
def q_26 : st_T := pt_R q_25 137 0 (some 138)
def q_27 : st_T := pt_N q_26 21 3 3
def q_28 : st_T := pt_R q_27 137 1 (some 139)
def q_29 : st_T := pt_N q_28 21 60 60
def q_30 : st_T := pt_R q_29 137 2 (some 140)
def q_31 : st_T := pt_N q_30 21 32 32
def q_32 : st_T := pt_R q_31 137 3 (some 141)
def q_33 : st_T := pt_I q_32 137 4 (0)
def q_34 : st_T := pt_I q_33 137 5 (0)
def q_35 : st_T := pt_I q_34 137 6 (0)
def q_36 : st_T := pt_I q_35 137 7 (0)
def q_37 : st_T := pt_R q_36 128 4 (some 137)
def q_38 : st_T := pt_N q_37 7 0 (nf_ 6)
def q_39 : st_T := pt_I q_38 142 2 (0)
def q_40 : st_T := pt_I q_39 142 3 (0)
def q_41 : st_T := pt_I q_40 142 4 (-1)
def q_42 : st_T := pt_I q_41 142 5 (-1)
def q_43 : st_T := pt_I q_42 142 6 (-1)
def q_44 : st_T := pt_I q_43 142 7 (-1)
def q_45 : st_T := pt_N q_44 10 0 (nf_ 9)
def q_46 : st_T := pt_N q_45 25 601 601
def q_47 : st_T := pt_R q_46 143 1 (some 144)
def q_48 : st_T := pt_N q_47 21 601 601
def q_49 : st_T := pt_R q_48 143 2 (some 145)
def q_50 : st_T := pt_N q_49 22 601 601
def q_51 : st_T := pt_R q_50 143 3 (some 146)
def q_52 : st_T := pt_I q_51 143 4 (0)
def q_53 : st_T := pt_I q_52 143 5 (0)
def q_54 : st_T := pt_I q_53 143 6 (0)
def q_55 : st_T := pt_R q_54 143 0 (some 129)
def q_56 : st_T := pt_R q_55 142 0 (some 143)
def q_57 : st_T := pt_R q_56 142 1 (some 137)
def q_58 : st_T := pt_R q_57 128 5 (some 142)
def q_59 : st_T := pt_N q_58 3 0 (nf_ 2)
def q_60 : st_T := pt_N q_59 9 0 (nf_ 8)
def q_61 : st_T := pt_N q_60 22 256 256
def q_62 : st_T := pt_R q_61 148 0 (some 149)
def q_63 : st_T := pt_N q_62 22 256 256
def q_64 : st_T := pt_R q_63 148 1 (some 150)
def q_65 : st_T := pt_N q_64 21 512 512
def q_66 : st_T := pt_R q_65 148 2 (some 151)
def q_67 : st_T := pt_I q_66 148 3 (512)
def q_68 : st_T := pt_I q_67 148 4 (0)
def q_69 : st_T := pt_R q_68 147 2 (some 148)
def q_70 : st_T := pt_N q_69 21 18 18
def q_71 : st_T := pt_R q_70 147 3 (some 152)
def q_72 : st_T := pt_R q_71 147 0 (some 132)
def q_73 : st_T := pt_N q_72 5 0 (nf_ 4)
def q_74 : st_T := pt_N q_73 21 10 10
def q_75 : st_T := pt_R q_74 153 1 (some 154)
def q_76 : st_T := pt_N q_75 21 10 10
def q_77 : st_T := pt_R q_76 153 2 (some 155)
def q_78 : st_T := pt_N q_77 21 10 10
def q_79 : st_T := pt_R q_78 153 3 (some 156)
def q_80 : st_T := pt_N q_79 21 10 10
def q_81 : st_T := pt_R q_80 153 4 (some 157)
def q_82 : st_T := pt_N q_81 21 10 10
def q_83 : st_T := pt_R q_82 153 5 (some 158)
def q_84 : st_T := pt_N q_83 21 10 10
def q_85 : st_T := pt_R q_84 153 6 (some 159)
def q_86 : st_T := pt_N q_85 21 4 4
def q_87 : st_T := pt_R q_86 153 7 (some 160)
def q_88 : st_T := pt_N q_87 21 4 4
def q_89 : st_T := pt_R q_88 153 8 (some 161)
def q_90 : st_T := pt_N q_89 21 4 4
def q_91 : st_T := pt_R q_90 153 9 (some 162)
def q_92 : st_T := pt_N q_91 21 3 3
def q_93 : st_T := pt_R q_92 153 10 (some 163)
def q_94 : st_T := pt_I q_93 153 11 (0)
def q_95 : st_T := pt_I q_94 153 12 (0)
def q_96 : st_T := pt_L q_95 153 13 (0)
def q_97 : st_T := pt_L q_96 153 14 (0)
def q_98 : st_T := pt_R q_97 153 0 (some 132)
def q_99 : st_T := pt_R q_98 147 1 (some 153)
def q_100 : st_T := pt_R q_99 128 6 (some 147)
def q_101 : st_T := pt_N q_100 4 0 (nf_ 3)
def q_102 : st_T := pt_N q_101 21 16 16
def q_103 : st_T := pt_R q_102 164 0 (some 165)
def q_104 : st_T := pt_N q_103 22 16 16
def q_105 : st_T := pt_R q_104 164 1 (some 166)
def q_106 : st_T := pt_I q_105 164 2 (0)
def q_107 : st_T := pt_I q_106 164 3 (0)
def q_108 : st_T := pt_I q_107 164 4 (0)
def q_109 : st_T := pt_N q_108 21 64 64
def q_110 : st_T := pt_R q_109 164 5 (some 167)
def q_111 : st_T := pt_N q_110 21 64 64
def q_112 : st_T := pt_R q_111 164 6 (some 168)
def q_113 : st_T := pt_W q_112 167 (fun j => if j < 64 then (-1) else st_I q_112 167 j)
def q_114 : st_T := pt_R q_113 128 7 (some 164)
def q_115 : st_T := pt_N q_114 4 0 (nf_ 3)
def q_116 : st_T := pt_N q_115 21 16 16
def q_117 : st_T := pt_R q_116 169 0 (some 170)
def q_118 : st_T := pt_N q_117 22 16 16
def q_119 : st_T := pt_R q_118 169 1 (some 171)
def q_120 : st_T := pt_I q_119 169 2 (0)
def q_121 : st_T := pt_I q_120 169 3 (0)
def q_122 : st_T := pt_I q_121 169 4 (0)
def q_123 : st_T := pt_N q_122 21 64 64
def q_124 : st_T := pt_R q_123 169 5 (some 172)
def q_125 : st_T := pt_N q_124 21 64 64
def q_126 : st_T := pt_R q_125 169 6 (some 173)
def q_127 : st_T := pt_W q_126 172 (fun j => if j < 64 then (-1) else st_I q_126 172 j)
def q_128 : st_T := pt_R q_127 128 8 (some 169)
def q_129 : st_T := pt_N q_128 4 0 (nf_ 3)
def q_130 : st_T := pt_N q_129 21 16 16
def q_131 : st_T := pt_R q_130 174 0 (some 175)
def q_132 : st_T := pt_N q_131 22 16 16
def q_133 : st_T := pt_R q_132 174 1 (some 176)
def q_134 : st_T := pt_I q_133 174 2 (0)
def q_135 : st_T := pt_I q_134 174 3 (0)
def q_136 : st_T := pt_I q_135 174 4 (0)
def q_137 : st_T := pt_N q_136 21 64 64
def q_138 : st_T := pt_R q_137 174 5 (some 177)
def q_139 : st_T := pt_N q_138 21 64 64
def q_140 : st_T := pt_R q_139 174 6 (some 178)
def q_141 : st_T := pt_W q_140 177 (fun j => if j < 64 then (-1) else st_I q_140 177 j)
def q_142 : st_T := pt_R q_141 128 9 (some 174)
def q_143 : st_T := pt_N q_142 1 0 (nf_ 0)
def q_144 : st_T := pt_N q_143 21 8 8
def q_145 : st_T := pt_R q_144 179 0 (some 180)
def q_146 : st_T := pt_I q_145 179 1 (0)
def q_147 : st_T := pt_R q_146 128 10 (some 179)
def q_148 : st_T := pt_N q_147 2 0 (nf_ 1)
def q_149 : st_T := pt_N q_148 21 18 18
def q_150 : st_T := pt_R q_149 181 1 (some 182)
def q_151 : st_T := pt_N q_150 21 10 10
def q_152 : st_T := pt_R q_151 181 2 (some 183)
def q_153 : st_T := pt_N q_152 21 8 8
def q_154 : st_T := pt_R q_153 181 3 (some 184)
def q_155 : st_T := pt_I q_154 181 4 (0)
def q_156 : st_T := pt_I q_155 181 5 (0)
def q_157 : st_T := pt_I q_156 181 6 (0)
def q_158 : st_T := pt_R q_157 181 0 (some 132)
def q_159 : st_T := pt_R q_158 128 11 (some 181)
def q_160 : st_T := pt_N q_159 12 0 (nf_ 11)
def q_161 : st_T := pt_N q_160 21 600 600
def q_162 : st_T := pt_R q_161 185 1 (some 186)
def q_163 : st_T := pt_N q_162 21 174 174
def q_164 : st_T := pt_R q_163 185 3 (some 187)
def q_165 : st_T := pt_N q_164 21 174 174
def q_166 : st_T := pt_R q_165 185 4 (some 188)
def q_167 : st_T := pt_N q_166 21 1392 1392
def q_168 : st_T := pt_R q_167 185 5 (some 189)
def q_169 : st_T := pt_N q_168 21 24 24
def q_170 : st_T := pt_R q_169 185 6 (some 190)
def q_171 : st_T := pt_N q_170 21 3 3
def q_172 : st_T := pt_R q_171 185 7 (some 191)
def q_173 : st_T := pt_N q_172 21 24 24
def q_174 : st_T := pt_R q_173 185 8 (some 192)
def q_175 : st_T := pt_N q_174 21 3 3
def q_176 : st_T := pt_R q_175 185 9 (some 193)
def q_177 : st_T := pt_N q_176 21 40 40
def q_178 : st_T := pt_R q_177 185 18 (some 194)
def q_179 : st_T := pt_N q_178 21 40 40
def q_180 : st_T := pt_R q_179 185 19 (some 195)
def q_181 : st_T := pt_N q_180 21 40 40
def q_182 : st_T := pt_R q_181 185 23 (some 196)
def q_183 : st_T := pt_N q_182 21 40 40
def q_184 : st_T := pt_R q_183 185 24 (some 197)
def q_185 : st_T := pt_N q_184 21 40 40
def q_186 : st_T := pt_R q_185 185 25 (some 198)
def q_187 : st_T := pt_N q_186 21 40 40
def q_188 : st_T := pt_R q_187 185 26 (some 199)
def q_189 : st_T := pt_N q_188 21 40 40
def q_190 : st_T := pt_R q_189 185 27 (some 200)
def q_191 : st_T := pt_N q_190 21 40 40
def q_192 : st_T := pt_R q_191 185 28 (some 201)
def q_193 : st_T := pt_N q_192 21 40 40
def q_194 : st_T := pt_R q_193 185 29 (some 202)
def q_195 : st_T := pt_N q_194 21 5 5
def q_196 : st_T := pt_R q_195 185 30 (some 203)
def q_197 : st_T := pt_N q_196 22 65536 65536
def q_198 : st_T := pt_R q_197 185 35 (some 204)
def q_199 : st_T := pt_N q_198 22 65536 65536
def q_200 : st_T := pt_R q_199 185 36 (some 205)
def q_201 : st_T := pt_N q_200 21 65536 65536
def q_202 : st_T := pt_R q_201 185 37 (some 206)
def q_203 : st_T := pt_N q_202 21 65536 65536
def q_204 : st_T := pt_R q_203 185 38 (some 207)
def q_205 : st_T := pt_N q_204 21 65536 65536
def q_206 : st_T := pt_R q_205 185 41 (some 208)
def q_207 : st_T := pt_N q_206 21 65536 65536
def q_208 : st_T := pt_R q_207 185 42 (some 209)
def q_209 : st_T := pt_N q_208 22 65536 65536
def q_210 : st_T := pt_R q_209 185 43 (some 210)
def q_211 : st_T := pt_N q_210 24 40 40
def q_212 : st_T := pt_R q_211 185 46 (some 211)
def q_213 : st_T := pt_N q_212 21 60 60
def q_214 : st_T := pt_R q_213 185 48 (some 212)
def q_215 : st_T := pt_N q_214 21 28 28
def q_216 : st_T := pt_R q_215 185 49 (some 213)
def q_217 : st_T := pt_N q_216 21 180 180
def q_218 : st_T := pt_R q_217 185 50 (some 214)
def q_219 : st_T := pt_N q_218 21 3 3
def q_220 : st_T := pt_R q_219 185 51 (some 215)
def q_221 : st_T := pt_N q_220 21 3 3
def q_222 : st_T := pt_R q_221 185 52 (some 216)
def q_223 : st_T := pt_N q_222 24 65536 65536
def q_224 : st_T := pt_R q_223 185 54 (some 217)
def q_225 : st_T := pt_N q_224 23 1000 1000
def q_226 : st_T := pt_R q_225 185 55 (some 218)
def q_227 : st_T := pt_N q_226 22 1 1
theorem nq_0 : Value.ref (st_n q_0) = .ref 128 := rfl
theorem nq_1 : Value.ref (st_n q_1) = .ref 129 := rfl
theorem nq_4 : Value.ref (st_n q_4) = .ref 130 := rfl
theorem nq_5 : Value.ref (st_n q_5) = .ref 131 := rfl
theorem nq_9 : Value.ref (st_n q_9) = .ref 132 := rfl
theorem nq_10 : Value.ref (st_n q_10) = .ref 133 := rfl
theorem nq_12 : Value.ref (st_n q_12) = .ref 134 := rfl
theorem nq_14 : Value.ref (st_n q_14) = .ref 135 := rfl
theorem nq_16 : Value.ref (st_n q_16) = .ref 136 := rfl
theorem nq_23 : Value.ref (st_n q_23) = .ref 137 := rfl
theorem nq_24 : Value.ref (st_n q_24) = .ref 138 := rfl
theorem nq_26 : Value.ref (st_n q_26) = .ref 139 := rfl
theorem nq_28 : Value.ref (st_n q_28) = .ref 140 := rfl
theorem nq_30 : Value.ref (st_n q_30) = .ref 141 := rfl
theorem nq_37 : Value.ref (st_n q_37) = .ref 142 := rfl
theorem nq_44 : Value.ref (st_n q_44) = .ref 143 := rfl
theorem nq_45 : Value.ref (st_n q_45) = .ref 144 := rfl
theorem nq_47 : Value.ref (st_n q_47) = .ref 145 := rfl
theorem nq_49 : Value.ref (st_n q_49) = .ref 146 := rfl
theorem nq_58 : Value.ref (st_n q_58) = .ref 147 := rfl
theorem nq_59 : Value.ref (st_n q_59) = .ref 148 := rfl
theorem nq_60 : Value.ref (st_n q_60) = .ref 149 := rfl
theorem nq_62 : Value.ref (st_n q_62) = .ref 150 := rfl
theorem nq_64 : Value.ref (st_n q_64) = .ref 151 := rfl
theorem nq_69 : Value.ref (st_n q_69) = .ref 152 := rfl
theorem nq_72 : Value.ref (st_n q_72) = .ref 153 := rfl
theorem nq_73 : Value.ref (st_n q_73) = .ref 154 := rfl
theorem nq_75 : Value.ref (st_n q_75) = .ref 155 := rfl
theorem nq_77 : Value.ref (st_n q_77) = .ref 156 := rfl
theorem nq_79 : Value.ref (st_n q_79) = .ref 157 := rfl
theorem nq_81 : Value.ref (st_n q_81) = .ref 158 := rfl
theorem nq_83 : Value.ref (st_n q_83) = .ref 159 := rfl
theorem nq_85 : Value.ref (st_n q_85) = .ref 160 := rfl
theorem nq_87 : Value.ref (st_n q_87) = .ref 161 := rfl
theorem nq_89 : Value.ref (st_n q_89) = .ref 162 := rfl
theorem nq_91 : Value.ref (st_n q_91) = .ref 163 := rfl
theorem nq_100 : Value.ref (st_n q_100) = .ref 164 := rfl
theorem nq_101 : Value.ref (st_n q_101) = .ref 165 := rfl
theorem nq_103 : Value.ref (st_n q_103) = .ref 166 := rfl
theorem nq_108 : Value.ref (st_n q_108) = .ref 167 := rfl
theorem nq_110 : Value.ref (st_n q_110) = .ref 168 := rfl
theorem nq_114 : Value.ref (st_n q_114) = .ref 169 := rfl
theorem nq_115 : Value.ref (st_n q_115) = .ref 170 := rfl
theorem nq_117 : Value.ref (st_n q_117) = .ref 171 := rfl
theorem nq_122 : Value.ref (st_n q_122) = .ref 172 := rfl
theorem nq_124 : Value.ref (st_n q_124) = .ref 173 := rfl
theorem nq_128 : Value.ref (st_n q_128) = .ref 174 := rfl
theorem nq_129 : Value.ref (st_n q_129) = .ref 175 := rfl
theorem nq_131 : Value.ref (st_n q_131) = .ref 176 := rfl
theorem nq_136 : Value.ref (st_n q_136) = .ref 177 := rfl
theorem nq_138 : Value.ref (st_n q_138) = .ref 178 := rfl
theorem nq_142 : Value.ref (st_n q_142) = .ref 179 := rfl
theorem nq_143 : Value.ref (st_n q_143) = .ref 180 := rfl
theorem nq_147 : Value.ref (st_n q_147) = .ref 181 := rfl
theorem nq_148 : Value.ref (st_n q_148) = .ref 182 := rfl
theorem nq_150 : Value.ref (st_n q_150) = .ref 183 := rfl
theorem nq_152 : Value.ref (st_n q_152) = .ref 184 := rfl
theorem nq_159 : Value.ref (st_n q_159) = .ref 185 := rfl
theorem nq_160 : Value.ref (st_n q_160) = .ref 186 := rfl
theorem nq_162 : Value.ref (st_n q_162) = .ref 187 := rfl
theorem nq_164 : Value.ref (st_n q_164) = .ref 188 := rfl
theorem nq_166 : Value.ref (st_n q_166) = .ref 189 := rfl
theorem nq_168 : Value.ref (st_n q_168) = .ref 190 := rfl
theorem nq_170 : Value.ref (st_n q_170) = .ref 191 := rfl
theorem nq_172 : Value.ref (st_n q_172) = .ref 192 := rfl
theorem nq_174 : Value.ref (st_n q_174) = .ref 193 := rfl
theorem nq_176 : Value.ref (st_n q_176) = .ref 194 := rfl
theorem nq_178 : Value.ref (st_n q_178) = .ref 195 := rfl
theorem nq_180 : Value.ref (st_n q_180) = .ref 196 := rfl
theorem nq_182 : Value.ref (st_n q_182) = .ref 197 := rfl
theorem nq_184 : Value.ref (st_n q_184) = .ref 198 := rfl
theorem nq_186 : Value.ref (st_n q_186) = .ref 199 := rfl
theorem nq_188 : Value.ref (st_n q_188) = .ref 200 := rfl
theorem nq_190 : Value.ref (st_n q_190) = .ref 201 := rfl
theorem nq_192 : Value.ref (st_n q_192) = .ref 202 := rfl
theorem nq_194 : Value.ref (st_n q_194) = .ref 203 := rfl
theorem nq_196 : Value.ref (st_n q_196) = .ref 204 := rfl
theorem nq_198 : Value.ref (st_n q_198) = .ref 205 := rfl
theorem nq_200 : Value.ref (st_n q_200) = .ref 206 := rfl
theorem nq_202 : Value.ref (st_n q_202) = .ref 207 := rfl
theorem nq_204 : Value.ref (st_n q_204) = .ref 208 := rfl
theorem nq_206 : Value.ref (st_n q_206) = .ref 209 := rfl
theorem nq_208 : Value.ref (st_n q_208) = .ref 210 := rfl
theorem nq_210 : Value.ref (st_n q_210) = .ref 211 := rfl
theorem nq_212 : Value.ref (st_n q_212) = .ref 212 := rfl
theorem nq_214 : Value.ref (st_n q_214) = .ref 213 := rfl
theorem nq_216 : Value.ref (st_n q_216) = .ref 214 := rfl
theorem nq_218 : Value.ref (st_n q_218) = .ref 215 := rfl
theorem nq_220 : Value.ref (st_n q_220) = .ref 216 := rfl
theorem nq_222 : Value.ref (st_n q_222) = .ref 217 := rfl
theorem nq_224 : Value.ref (st_n q_224) = .ref 218 := rfl
theorem nq_226 : Value.ref (st_n q_226) = .ref 219 := rfl
set_option maxRecDepth 20000 in
theorem kc_1 {γ : ga_T} : fw_ γ m_X5_init 1 [.ref 130] q_5 q_8 := by
  refine sp_of (pl_X5_init) rfl (Nat.le_of_ble_eq_true rfl) ?_
  show vv_ γ m_X5_init 1 0 [(0, .ref 130)] [] q_5 _
  refine vr_aload_n dX5_init_0 rfl rfl ?_
  refine vr_objInit dX5_init_1 oi_LitmusTester_Output_3 (Nat.le_of_ble_eq_true rfl) (Nat.le_of_ble_eq_true rfl) ?_
  refine vr_aload_n dX5_init_4 rfl rfl ?_
  refine vr_sipush dX5_init_5 (v := (320 : Int32)) (by decide) ?_
  refine vr_newB dX5_init_8 tw_182 (n := (320 : Int32)) (N := 320) (by decide) (by decide) (Nat.le_of_ble_eq_true rfl) ?_
  refine vv_top (w := .ref 131) nq_5 ?_
  refine vv_so (σ2 := q_6) rfl ?_
  refine vr_putR dX5_init_10 fl_LitmusTester_Output_9 (rfl : (st_S q_6 130).1 = 6) (Or.inr ⟨_, rfl⟩) (fun q e => by cases e; exact Or.inr ⟨rfl, rfl, rfl⟩) ?_
  refine vv_so (σ2 := q_7) rfl ?_
  refine vr_aload_n dX5_init_13 rfl rfl ?_
  refine vr_iconst dX5_init_14 (v := (0 : Int32)) (by decide) ?_
  refine vr_putI dX5_init_15 fl_LitmusTester_Output_15 (rfl : (st_S q_7 130).1 = 6) rfl (fz_5_1) ?_
  refine vv_so (σ2 := q_8) rfl ?_
  exact vr_vret dX5_init_18 rfl ⟨rfl, rfl⟩
set_option maxRecDepth 20000 in
theorem kc_2 {γ : ga_T} : fw_ γ m_X7_init 1 [.ref 132] q_10 q_22 := by
  refine sp_of (pl_X7_init) rfl (Nat.le_of_ble_eq_true rfl) ?_
  show vv_ γ m_X7_init 1 0 [(0, .ref 132)] [] q_10 _
  refine vr_aload_n dX7_init_0 rfl rfl ?_
  refine vr_objInit dX7_init_1 oi_LitmusTester_Program_3 (Nat.le_of_ble_eq_true rfl) (Nat.le_of_ble_eq_true rfl) ?_
  refine vr_aload_n dX7_init_4 rfl rfl ?_
  refine vr_iconst dX7_init_5 (v := (3 : Int32)) (by decide) ?_
  refine vr_newJ dX7_init_6 tw_214 (n := (3 : Int32)) (N := 3) (by decide) (by decide) (Nat.le_of_ble_eq_true rfl) ?_
  refine vv_top (w := .ref 133) nq_10 ?_
  refine vv_so (σ2 := q_11) rfl ?_
  refine vr_putR dX7_init_8 fl_LitmusTester_Program_9 (rfl : (st_S q_11 132).1 = 8) (Or.inr ⟨_, rfl⟩) (fun q e => by cases e; exact Or.inr ⟨rfl, rfl, rfl⟩) ?_
  refine vv_so (σ2 := q_12) rfl ?_
  refine vr_aload_n dX7_init_11 rfl rfl ?_
  refine vr_iconst dX7_init_12 (v := (3 : Int32)) (by decide) ?_
  refine vr_newI dX7_init_13 tw_215 (n := (3 : Int32)) (N := 3) (by decide) (by decide) (Nat.le_of_ble_eq_true rfl) ?_
  refine vv_top (w := .ref 134) nq_12 ?_
  refine vv_so (σ2 := q_13) rfl ?_
  refine vr_putR dX7_init_15 fl_LitmusTester_Program_15 (rfl : (st_S q_13 132).1 = 8) (Or.inr ⟨_, rfl⟩) (fun q e => by cases e; exact Or.inr ⟨rfl, rfl, rfl⟩) ?_
  refine vv_so (σ2 := q_14) rfl ?_
  refine vr_aload_n dX7_init_18 rfl rfl ?_
  refine vr_bipush dX7_init_19 (v := (60 : Int32)) (by decide) ?_
  refine vr_newI dX7_init_21 tw_215 (n := (60 : Int32)) (N := 60) (by decide) (by decide) (Nat.le_of_ble_eq_true rfl) ?_
  refine vv_top (w := .ref 135) nq_14 ?_
  refine vv_so (σ2 := q_15) rfl ?_
  refine vr_putR dX7_init_23 fl_LitmusTester_Program_19 (rfl : (st_S q_15 132).1 = 8) (Or.inr ⟨_, rfl⟩) (fun q e => by cases e; exact Or.inr ⟨rfl, rfl, rfl⟩) ?_
  refine vv_so (σ2 := q_16) rfl ?_
  refine vr_aload_n dX7_init_26 rfl rfl ?_
  refine vr_bipush dX7_init_27 (v := (32 : Int32)) (by decide) ?_
  refine vr_newI dX7_init_29 tw_215 (n := (32 : Int32)) (N := 32) (by decide) (by decide) (Nat.le_of_ble_eq_true rfl) ?_
  refine vv_top (w := .ref 136) nq_16 ?_
  refine vv_so (σ2 := q_17) rfl ?_
  refine vr_putR dX7_init_31 fl_LitmusTester_Program_22 (rfl : (st_S q_17 132).1 = 8) (Or.inr ⟨_, rfl⟩) (fun q e => by cases e; exact Or.inr ⟨rfl, rfl, rfl⟩) ?_
  refine vv_so (σ2 := q_18) rfl ?_
  refine vr_aload_n dX7_init_34 rfl rfl ?_
  refine vr_iconst dX7_init_35 (v := (0 : Int32)) (by decide) ?_
  refine vr_putI dX7_init_36 fl_LitmusTester_Program_25 (rfl : (st_S q_18 132).1 = 8) rfl (fz_7_4) ?_
  refine vv_so (σ2 := q_19) rfl ?_
  refine vr_aload_n dX7_init_39 rfl rfl ?_
  refine vr_iconst dX7_init_40 (v := (0 : Int32)) (by decide) ?_
  refine vr_putI dX7_init_41 fl_LitmusTester_Program_29 (rfl : (st_S q_19 132).1 = 8) rfl (fz_7_5) ?_
  refine vv_so (σ2 := q_20) rfl ?_
  refine vr_aload_n dX7_init_44 rfl rfl ?_
  refine vr_iconst dX7_init_45 (v := (0 : Int32)) (by decide) ?_
  refine vr_putI dX7_init_46 fl_LitmusTester_Program_32 (rfl : (st_S q_20 132).1 = 8) rfl (fz_7_6) ?_
  refine vv_so (σ2 := q_21) rfl ?_
  refine vr_aload_n dX7_init_49 rfl rfl ?_
  refine vr_iconst dX7_init_50 (v := (0 : Int32)) (by decide) ?_
  refine vr_putI dX7_init_51 fl_LitmusTester_Program_35 (rfl : (st_S q_21 132).1 = 8) rfl (fz_7_7) ?_
  refine vv_so (σ2 := q_22) rfl ?_
  exact vr_vret dX7_init_54 rfl ⟨rfl, rfl⟩
set_option maxRecDepth 20000 in
theorem kc_3 {γ : ga_T} : fw_ γ m_X7_init 1 [.ref 137] q_24 q_36 := by
  refine sp_of (pl_X7_init) rfl (Nat.le_of_ble_eq_true rfl) ?_
  show vv_ γ m_X7_init 1 0 [(0, .ref 137)] [] q_24 _
  refine vr_aload_n dX7_init_0 rfl rfl ?_
  refine vr_objInit dX7_init_1 oi_LitmusTester_Program_3 (Nat.le_of_ble_eq_true rfl) (Nat.le_of_ble_eq_true rfl) ?_
  refine vr_aload_n dX7_init_4 rfl rfl ?_
  refine vr_iconst dX7_init_5 (v := (3 : Int32)) (by decide) ?_
  refine vr_newJ dX7_init_6 tw_214 (n := (3 : Int32)) (N := 3) (by decide) (by decide) (Nat.le_of_ble_eq_true rfl) ?_
  refine vv_top (w := .ref 138) nq_24 ?_
  refine vv_so (σ2 := q_25) rfl ?_
  refine vr_putR dX7_init_8 fl_LitmusTester_Program_9 (rfl : (st_S q_25 137).1 = 8) (Or.inr ⟨_, rfl⟩) (fun q e => by cases e; exact Or.inr ⟨rfl, rfl, rfl⟩) ?_
  refine vv_so (σ2 := q_26) rfl ?_
  refine vr_aload_n dX7_init_11 rfl rfl ?_
  refine vr_iconst dX7_init_12 (v := (3 : Int32)) (by decide) ?_
  refine vr_newI dX7_init_13 tw_215 (n := (3 : Int32)) (N := 3) (by decide) (by decide) (Nat.le_of_ble_eq_true rfl) ?_
  refine vv_top (w := .ref 139) nq_26 ?_
  refine vv_so (σ2 := q_27) rfl ?_
  refine vr_putR dX7_init_15 fl_LitmusTester_Program_15 (rfl : (st_S q_27 137).1 = 8) (Or.inr ⟨_, rfl⟩) (fun q e => by cases e; exact Or.inr ⟨rfl, rfl, rfl⟩) ?_
  refine vv_so (σ2 := q_28) rfl ?_
  refine vr_aload_n dX7_init_18 rfl rfl ?_
  refine vr_bipush dX7_init_19 (v := (60 : Int32)) (by decide) ?_
  refine vr_newI dX7_init_21 tw_215 (n := (60 : Int32)) (N := 60) (by decide) (by decide) (Nat.le_of_ble_eq_true rfl) ?_
  refine vv_top (w := .ref 140) nq_28 ?_
  refine vv_so (σ2 := q_29) rfl ?_
  refine vr_putR dX7_init_23 fl_LitmusTester_Program_19 (rfl : (st_S q_29 137).1 = 8) (Or.inr ⟨_, rfl⟩) (fun q e => by cases e; exact Or.inr ⟨rfl, rfl, rfl⟩) ?_
  refine vv_so (σ2 := q_30) rfl ?_
  refine vr_aload_n dX7_init_26 rfl rfl ?_
  refine vr_bipush dX7_init_27 (v := (32 : Int32)) (by decide) ?_
  refine vr_newI dX7_init_29 tw_215 (n := (32 : Int32)) (N := 32) (by decide) (by decide) (Nat.le_of_ble_eq_true rfl) ?_
  refine vv_top (w := .ref 141) nq_30 ?_
  refine vv_so (σ2 := q_31) rfl ?_
  refine vr_putR dX7_init_31 fl_LitmusTester_Program_22 (rfl : (st_S q_31 137).1 = 8) (Or.inr ⟨_, rfl⟩) (fun q e => by cases e; exact Or.inr ⟨rfl, rfl, rfl⟩) ?_
  refine vv_so (σ2 := q_32) rfl ?_
  refine vr_aload_n dX7_init_34 rfl rfl ?_
  refine vr_iconst dX7_init_35 (v := (0 : Int32)) (by decide) ?_
  refine vr_putI dX7_init_36 fl_LitmusTester_Program_25 (rfl : (st_S q_32 137).1 = 8) rfl (fz_7_4) ?_
  refine vv_so (σ2 := q_33) rfl ?_
  refine vr_aload_n dX7_init_39 rfl rfl ?_
  refine vr_iconst dX7_init_40 (v := (0 : Int32)) (by decide) ?_
  refine vr_putI dX7_init_41 fl_LitmusTester_Program_29 (rfl : (st_S q_33 137).1 = 8) rfl (fz_7_5) ?_
  refine vv_so (σ2 := q_34) rfl ?_
  refine vr_aload_n dX7_init_44 rfl rfl ?_
  refine vr_iconst dX7_init_45 (v := (0 : Int32)) (by decide) ?_
  refine vr_putI dX7_init_46 fl_LitmusTester_Program_32 (rfl : (st_S q_34 137).1 = 8) rfl (fz_7_6) ?_
  refine vv_so (σ2 := q_35) rfl ?_
  refine vr_aload_n dX7_init_49 rfl rfl ?_
  refine vr_iconst dX7_init_50 (v := (0 : Int32)) (by decide) ?_
  refine vr_putI dX7_init_51 fl_LitmusTester_Program_35 (rfl : (st_S q_35 137).1 = 8) rfl (fz_7_7) ?_
  refine vv_so (σ2 := q_36) rfl ?_
  exact vr_vret dX7_init_54 rfl ⟨rfl, rfl⟩
set_option maxRecDepth 20000 in
theorem kc_4 {γ : ga_T} : fw_ γ m_X10_init 1 [.ref 143, .ref 129] q_45 q_55 := by
  refine sp_of (pl_X10_init) rfl (Nat.le_of_ble_eq_true rfl) ?_
  show vv_ γ m_X10_init 1 0 [(0, .ref 143), (1, .ref 129)] [] q_45 _
  refine vr_aload_n dX10_init_0 rfl rfl ?_
  refine vr_objInit dX10_init_1 oi_LitmusTester_Tokens_3 (Nat.le_of_ble_eq_true rfl) (Nat.le_of_ble_eq_true rfl) ?_
  refine vr_aload_n dX10_init_4 rfl rfl ?_
  refine vr_sipush dX10_init_5 (v := (601 : Int32)) (by decide) ?_
  refine vr_newQ dX10_init_8 tw_228 (n := (601 : Int32)) (N := 601) (by decide) (by decide) (Nat.le_of_ble_eq_true rfl) ?_
  refine vv_top (w := .ref 144) nq_45 ?_
  refine vv_so (σ2 := q_46) rfl ?_
  refine vr_putR dX10_init_11 fl_LitmusTester_Tokens_11 (rfl : (st_S q_46 143).1 = 10) (Or.inr ⟨_, rfl⟩) (fun q e => by cases e; exact Or.inr ⟨rfl, rfl, rfl⟩) ?_
  refine vv_so (σ2 := q_47) rfl ?_
  refine vr_aload_n dX10_init_14 rfl rfl ?_
  refine vr_sipush dX10_init_15 (v := (601 : Int32)) (by decide) ?_
  refine vr_newI dX10_init_18 tw_215 (n := (601 : Int32)) (N := 601) (by decide) (by decide) (Nat.le_of_ble_eq_true rfl) ?_
  refine vv_top (w := .ref 145) nq_47 ?_
  refine vv_so (σ2 := q_48) rfl ?_
  refine vr_putR dX10_init_20 fl_LitmusTester_Tokens_17 (rfl : (st_S q_48 143).1 = 10) (Or.inr ⟨_, rfl⟩) (fun q e => by cases e; exact Or.inr ⟨rfl, rfl, rfl⟩) ?_
  refine vv_so (σ2 := q_49) rfl ?_
  refine vr_aload_n dX10_init_23 rfl rfl ?_
  refine vr_sipush dX10_init_24 (v := (601 : Int32)) (by decide) ?_
  refine vr_newJ dX10_init_27 tw_214 (n := (601 : Int32)) (N := 601) (by decide) (by decide) (Nat.le_of_ble_eq_true rfl) ?_
  refine vv_top (w := .ref 146) nq_49 ?_
  refine vv_so (σ2 := q_50) rfl ?_
  refine vr_putR dX10_init_29 fl_LitmusTester_Tokens_21 (rfl : (st_S q_50 143).1 = 10) (Or.inr ⟨_, rfl⟩) (fun q e => by cases e; exact Or.inr ⟨rfl, rfl, rfl⟩) ?_
  refine vv_so (σ2 := q_51) rfl ?_
  refine vr_aload_n dX10_init_32 rfl rfl ?_
  refine vr_iconst dX10_init_33 (v := (0 : Int32)) (by decide) ?_
  refine vr_putI dX10_init_34 fl_LitmusTester_Tokens_25 (rfl : (st_S q_51 143).1 = 10) rfl (fz_9_4) ?_
  refine vv_so (σ2 := q_52) rfl ?_
  refine vr_aload_n dX10_init_37 rfl rfl ?_
  refine vr_iconst dX10_init_38 (v := (0 : Int32)) (by decide) ?_
  refine vr_putI dX10_init_39 fl_LitmusTester_Tokens_29 (rfl : (st_S q_52 143).1 = 10) rfl (fz_9_5) ?_
  refine vv_so (σ2 := q_53) rfl ?_
  refine vr_aload_n dX10_init_42 rfl rfl ?_
  refine vr_iconst dX10_init_43 (v := (0 : Int32)) (by decide) ?_
  refine vr_putI dX10_init_44 fl_LitmusTester_Tokens_32 (rfl : (st_S q_53 143).1 = 10) rfl (fz_9_6) ?_
  refine vv_so (σ2 := q_54) rfl ?_
  refine vr_aload_n dX10_init_47 rfl rfl ?_
  refine vr_aload_n dX10_init_48 rfl rfl ?_
  refine vr_putR dX10_init_49 fl_LitmusTester_Tokens_35 (rfl : (st_S q_54 143).1 = 10) (Or.inr ⟨_, rfl⟩) (fun q e => by cases e; exact Or.inr ⟨rfl, rfl, rfl⟩) ?_
  refine vv_so (σ2 := q_55) rfl ?_
  exact vr_vret dX10_init_52 rfl ⟨rfl, rfl⟩
set_option maxRecDepth 20000 in
theorem kc_5 {γ : ga_T} : fw_ γ m_X6_init 2 [.ref 142, .ref 129, .ref 137] q_38 q_57 := by
  refine sp_of (pl_X6_init) rfl (Nat.le_of_ble_eq_true rfl) ?_
  show vv_ γ m_X6_init 2 0 [(0, .ref 142), (1, .ref 129), (2, .ref 137)] [] q_38 _
  refine vr_aload_n dX6_init_0 rfl rfl ?_
  refine vr_objInit dX6_init_1 oi_LitmusTester_Parser_3 (Nat.le_of_ble_eq_true rfl) (Nat.le_of_ble_eq_true rfl) ?_
  refine vr_aload_n dX6_init_4 rfl rfl ?_
  refine vr_iconst dX6_init_5 (v := (0 : Int32)) (by decide) ?_
  refine vr_putI dX6_init_6 fl_LitmusTester_Parser_9 (rfl : (st_S q_38 142).1 = 7) rfl (fz_6_2) ?_
  refine vv_so (σ2 := q_39) rfl ?_
  refine vr_aload_n dX6_init_9 rfl rfl ?_
  refine vr_iconst dX6_init_10 (v := (0 : Int32)) (by decide) ?_
  refine vr_putI dX6_init_11 fl_LitmusTester_Parser_15 (rfl : (st_S q_39 142).1 = 7) rfl (fz_6_3) ?_
  refine vv_so (σ2 := q_40) rfl ?_
  refine vr_aload_n dX6_init_14 rfl rfl ?_
  refine vr_iconst dX6_init_15 (v := (-1 : Int32)) (by decide) ?_
  refine vr_putI dX6_init_16 fl_LitmusTester_Parser_18 (rfl : (st_S q_40 142).1 = 7) rfl (fz_6_4) ?_
  refine vv_so (σ2 := q_41) rfl ?_
  refine vr_aload_n dX6_init_19 rfl rfl ?_
  refine vr_iconst dX6_init_20 (v := (-1 : Int32)) (by decide) ?_
  refine vr_putI dX6_init_21 fl_LitmusTester_Parser_21 (rfl : (st_S q_41 142).1 = 7) rfl (fz_6_5) ?_
  refine vv_so (σ2 := q_42) rfl ?_
  refine vr_aload_n dX6_init_24 rfl rfl ?_
  refine vr_iconst dX6_init_25 (v := (-1 : Int32)) (by decide) ?_
  refine vr_putI dX6_init_26 fl_LitmusTester_Parser_24 (rfl : (st_S q_42 142).1 = 7) rfl (fz_6_6) ?_
  refine vv_so (σ2 := q_43) rfl ?_
  refine vr_aload_n dX6_init_29 rfl rfl ?_
  refine vr_iconst dX6_init_30 (v := (-1 : Int32)) (by decide) ?_
  refine vr_putI dX6_init_31 fl_LitmusTester_Parser_27 (rfl : (st_S q_43 142).1 = 7) rfl (fz_6_7) ?_
  refine vv_so (σ2 := q_44) rfl ?_
  refine vr_aload_n dX6_init_34 rfl rfl ?_
  refine vr_new dX6_init_35 nw_LitmusTester_Parser_30 ?_
  refine vv_top (w := .ref 143) nq_44 ?_
  refine vv_so (σ2 := q_45) rfl ?_
  refine vr_dup dX6_init_38 rfl ?_
  refine vr_aload_n dX6_init_39 rfl rfl ?_
  refine vc_I (a := 143) (As := [.ref 129]) (rest := [.ref 143, .ref 142]) dX6_init_40 cI_LitmusTester_Parser_32 rfl rfl (Nat.le_of_ble_eq_true rfl) (Nat.le_of_ble_eq_true rfl) (co_v kc_4 ?_)
  refine vr_putR dX6_init_43 fl_LitmusTester_Parser_35 (rfl : (st_S q_55 142).1 = 7) (Or.inl ⟨_, rfl⟩) (fun q e => by cases e; exact Or.inr ⟨rfl, rfl, rfl⟩) ?_
  refine vv_so (σ2 := q_56) rfl ?_
  refine vr_aload_n dX6_init_46 rfl rfl ?_
  refine vr_aload_n dX6_init_47 rfl rfl ?_
  refine vr_putR dX6_init_48 fl_LitmusTester_Parser_39 (rfl : (st_S q_56 142).1 = 7) (Or.inl ⟨_, rfl⟩) (fun q e => by cases e; exact Or.inr ⟨rfl, rfl, rfl⟩) ?_
  refine vv_so (σ2 := q_57) rfl ?_
  exact vr_vret dX6_init_51 rfl ⟨rfl, rfl⟩
set_option maxRecDepth 20000 in
theorem kc_6 {γ : ga_T} : fw_ γ m_X9_init 1 [.ref 148] q_60 q_68 := by
  refine sp_of (pl_X9_init) rfl (Nat.le_of_ble_eq_true rfl) ?_
  show vv_ γ m_X9_init 1 0 [(0, .ref 148)] [] q_60 _
  refine vr_aload_n dX9_init_0 rfl rfl ?_
  refine vr_objInit dX9_init_1 oi_LitmusTester_StateTable_3 (Nat.le_of_ble_eq_true rfl) (Nat.le_of_ble_eq_true rfl) ?_
  refine vr_aload_n dX9_init_4 rfl rfl ?_
  refine vr_sipush dX9_init_5 (v := (256 : Int32)) (by decide) ?_
  refine vr_newJ dX9_init_8 tw_214 (n := (256 : Int32)) (N := 256) (by decide) (by decide) (Nat.le_of_ble_eq_true rfl) ?_
  refine vv_top (w := .ref 149) nq_60 ?_
  refine vv_so (σ2 := q_61) rfl ?_
  refine vr_putR dX9_init_10 fl_LitmusTester_StateTable_11 (rfl : (st_S q_61 148).1 = 9) (Or.inr ⟨_, rfl⟩) (fun q e => by cases e; exact Or.inl rfl) ?_
  refine vv_so (σ2 := q_62) rfl ?_
  refine vr_aload_n dX9_init_13 rfl rfl ?_
  refine vr_sipush dX9_init_14 (v := (256 : Int32)) (by decide) ?_
  refine vr_newJ dX9_init_17 tw_214 (n := (256 : Int32)) (N := 256) (by decide) (by decide) (Nat.le_of_ble_eq_true rfl) ?_
  refine vv_top (w := .ref 150) nq_62 ?_
  refine vv_so (σ2 := q_63) rfl ?_
  refine vr_putR dX9_init_19 fl_LitmusTester_StateTable_15 (rfl : (st_S q_63 148).1 = 9) (Or.inr ⟨_, rfl⟩) (fun q e => by cases e; exact Or.inl rfl) ?_
  refine vv_so (σ2 := q_64) rfl ?_
  refine vr_aload_n dX9_init_22 rfl rfl ?_
  refine vr_sipush dX9_init_23 (v := (512 : Int32)) (by decide) ?_
  refine vr_newI dX9_init_26 tw_215 (n := (512 : Int32)) (N := 512) (by decide) (by decide) (Nat.le_of_ble_eq_true rfl) ?_
  refine vv_top (w := .ref 151) nq_64 ?_
  refine vv_so (σ2 := q_65) rfl ?_
  refine vr_putR dX9_init_28 fl_LitmusTester_StateTable_18 (rfl : (st_S q_65 148).1 = 9) (Or.inr ⟨_, rfl⟩) (fun q e => by cases e; exact Or.inl rfl) ?_
  refine vv_so (σ2 := q_66) rfl ?_
  refine vr_aload_n dX9_init_31 rfl rfl ?_
  refine vr_sipush dX9_init_32 (v := (512 : Int32)) (by decide) ?_
  refine vr_putI dX9_init_35 fl_LitmusTester_StateTable_22 (rfl : (st_S q_66 148).1 = 9) rfl (fz_8_3) ?_
  refine vv_so (σ2 := q_67) rfl ?_
  refine vr_aload_n dX9_init_38 rfl rfl ?_
  refine vr_iconst dX9_init_39 (v := (0 : Int32)) (by decide) ?_
  refine vr_putI dX9_init_40 fl_LitmusTester_StateTable_26 (rfl : (st_S q_67 148).1 = 9) rfl (fz_8_4) ?_
  refine vv_so (σ2 := q_68) rfl ?_
  exact vr_vret dX9_init_43 rfl ⟨rfl, rfl⟩
set_option maxRecDepth 20000 in
theorem kc_7 {γ : ga_T} : fw_ γ m_X4_init 1 [.ref 153, .ref 132] q_73 q_98 := by
  refine sp_of (pl_X4_init) rfl (Nat.le_of_ble_eq_true rfl) ?_
  show vv_ γ m_X4_init 1 0 [(0, .ref 153), (1, .ref 132)] [] q_73 _
  refine vr_aload_n dX4_init_0 rfl rfl ?_
  refine vr_objInit dX4_init_1 oi_LitmusTester_Machine_5 (Nat.le_of_ble_eq_true rfl) (Nat.le_of_ble_eq_true rfl) ?_
  refine vr_aload_n dX4_init_4 rfl rfl ?_
  refine vr_bipush dX4_init_5 (v := (10 : Int32)) (by decide) ?_
  refine vr_newI dX4_init_7 tw_215 (n := (10 : Int32)) (N := 10) (by decide) (by decide) (Nat.le_of_ble_eq_true rfl) ?_
  refine vv_top (w := .ref 154) nq_73 ?_
  refine vv_so (σ2 := q_74) rfl ?_
  refine vr_putR dX4_init_9 fl_LitmusTester_Machine_11 (rfl : (st_S q_74 153).1 = 5) (Or.inr ⟨_, rfl⟩) (fun q e => by cases e; exact Or.inr ⟨rfl, rfl, rfl⟩) ?_
  refine vv_so (σ2 := q_75) rfl ?_
  refine vr_aload_n dX4_init_12 rfl rfl ?_
  refine vr_bipush dX4_init_13 (v := (10 : Int32)) (by decide) ?_
  refine vr_newI dX4_init_15 tw_215 (n := (10 : Int32)) (N := 10) (by decide) (by decide) (Nat.le_of_ble_eq_true rfl) ?_
  refine vv_top (w := .ref 155) nq_75 ?_
  refine vv_so (σ2 := q_76) rfl ?_
  refine vr_putR dX4_init_17 fl_LitmusTester_Machine_15 (rfl : (st_S q_76 153).1 = 5) (Or.inr ⟨_, rfl⟩) (fun q e => by cases e; exact Or.inr ⟨rfl, rfl, rfl⟩) ?_
  refine vv_so (σ2 := q_77) rfl ?_
  refine vr_aload_n dX4_init_20 rfl rfl ?_
  refine vr_bipush dX4_init_21 (v := (10 : Int32)) (by decide) ?_
  refine vr_newI dX4_init_23 tw_215 (n := (10 : Int32)) (N := 10) (by decide) (by decide) (Nat.le_of_ble_eq_true rfl) ?_
  refine vv_top (w := .ref 156) nq_77 ?_
  refine vv_so (σ2 := q_78) rfl ?_
  refine vr_putR dX4_init_25 fl_LitmusTester_Machine_18 (rfl : (st_S q_78 153).1 = 5) (Or.inr ⟨_, rfl⟩) (fun q e => by cases e; exact Or.inr ⟨rfl, rfl, rfl⟩) ?_
  refine vv_so (σ2 := q_79) rfl ?_
  refine vr_aload_n dX4_init_28 rfl rfl ?_
  refine vr_bipush dX4_init_29 (v := (10 : Int32)) (by decide) ?_
  refine vr_newI dX4_init_31 tw_215 (n := (10 : Int32)) (N := 10) (by decide) (by decide) (Nat.le_of_ble_eq_true rfl) ?_
  refine vv_top (w := .ref 157) nq_79 ?_
  refine vv_so (σ2 := q_80) rfl ?_
  refine vr_putR dX4_init_33 fl_LitmusTester_Machine_21 (rfl : (st_S q_80 153).1 = 5) (Or.inr ⟨_, rfl⟩) (fun q e => by cases e; exact Or.inr ⟨rfl, rfl, rfl⟩) ?_
  refine vv_so (σ2 := q_81) rfl ?_
  refine vr_aload_n dX4_init_36 rfl rfl ?_
  refine vr_bipush dX4_init_37 (v := (10 : Int32)) (by decide) ?_
  refine vr_newI dX4_init_39 tw_215 (n := (10 : Int32)) (N := 10) (by decide) (by decide) (Nat.le_of_ble_eq_true rfl) ?_
  refine vv_top (w := .ref 158) nq_81 ?_
  refine vv_so (σ2 := q_82) rfl ?_
  refine vr_putR dX4_init_41 fl_LitmusTester_Machine_24 (rfl : (st_S q_82 153).1 = 5) (Or.inr ⟨_, rfl⟩) (fun q e => by cases e; exact Or.inr ⟨rfl, rfl, rfl⟩) ?_
  refine vv_so (σ2 := q_83) rfl ?_
  refine vr_aload_n dX4_init_44 rfl rfl ?_
  refine vr_bipush dX4_init_45 (v := (10 : Int32)) (by decide) ?_
  refine vr_newI dX4_init_47 tw_215 (n := (10 : Int32)) (N := 10) (by decide) (by decide) (Nat.le_of_ble_eq_true rfl) ?_
  refine vv_top (w := .ref 159) nq_83 ?_
  refine vv_so (σ2 := q_84) rfl ?_
  refine vr_putR dX4_init_49 fl_LitmusTester_Machine_27 (rfl : (st_S q_84 153).1 = 5) (Or.inr ⟨_, rfl⟩) (fun q e => by cases e; exact Or.inr ⟨rfl, rfl, rfl⟩) ?_
  refine vv_so (σ2 := q_85) rfl ?_
  refine vr_aload_n dX4_init_52 rfl rfl ?_
  refine vr_iconst dX4_init_53 (v := (4 : Int32)) (by decide) ?_
  refine vr_newI dX4_init_54 tw_215 (n := (4 : Int32)) (N := 4) (by decide) (by decide) (Nat.le_of_ble_eq_true rfl) ?_
  refine vv_top (w := .ref 160) nq_85 ?_
  refine vv_so (σ2 := q_86) rfl ?_
  refine vr_putR dX4_init_56 fl_LitmusTester_Machine_30 (rfl : (st_S q_86 153).1 = 5) (Or.inr ⟨_, rfl⟩) (fun q e => by cases e; exact Or.inr ⟨rfl, rfl, rfl⟩) ?_
  refine vv_so (σ2 := q_87) rfl ?_
  refine vr_aload_n dX4_init_59 rfl rfl ?_
  refine vr_iconst dX4_init_60 (v := (4 : Int32)) (by decide) ?_
  refine vr_newI dX4_init_61 tw_215 (n := (4 : Int32)) (N := 4) (by decide) (by decide) (Nat.le_of_ble_eq_true rfl) ?_
  refine vv_top (w := .ref 161) nq_87 ?_
  refine vv_so (σ2 := q_88) rfl ?_
  refine vr_putR dX4_init_63 fl_LitmusTester_Machine_33 (rfl : (st_S q_88 153).1 = 5) (Or.inr ⟨_, rfl⟩) (fun q e => by cases e; exact Or.inr ⟨rfl, rfl, rfl⟩) ?_
  refine vv_so (σ2 := q_89) rfl ?_
  refine vr_aload_n dX4_init_66 rfl rfl ?_
  refine vr_iconst dX4_init_67 (v := (4 : Int32)) (by decide) ?_
  refine vr_newI dX4_init_68 tw_215 (n := (4 : Int32)) (N := 4) (by decide) (by decide) (Nat.le_of_ble_eq_true rfl) ?_
  refine vv_top (w := .ref 162) nq_89 ?_
  refine vv_so (σ2 := q_90) rfl ?_
  refine vr_putR dX4_init_70 fl_LitmusTester_Machine_36 (rfl : (st_S q_90 153).1 = 5) (Or.inr ⟨_, rfl⟩) (fun q e => by cases e; exact Or.inr ⟨rfl, rfl, rfl⟩) ?_
  refine vv_so (σ2 := q_91) rfl ?_
  refine vr_aload_n dX4_init_73 rfl rfl ?_
  refine vr_iconst dX4_init_74 (v := (3 : Int32)) (by decide) ?_
  refine vr_newI dX4_init_75 tw_215 (n := (3 : Int32)) (N := 3) (by decide) (by decide) (Nat.le_of_ble_eq_true rfl) ?_
  refine vv_top (w := .ref 163) nq_91 ?_
  refine vv_so (σ2 := q_92) rfl ?_
  refine vr_putR dX4_init_77 fl_LitmusTester_Machine_39 (rfl : (st_S q_92 153).1 = 5) (Or.inr ⟨_, rfl⟩) (fun q e => by cases e; exact Or.inr ⟨rfl, rfl, rfl⟩) ?_
  refine vv_so (σ2 := q_93) rfl ?_
  refine vr_aload_n dX4_init_80 rfl rfl ?_
  refine vr_iconst dX4_init_81 (v := (0 : Int32)) (by decide) ?_
  refine vr_putI dX4_init_82 fl_LitmusTester_Machine_42 (rfl : (st_S q_93 153).1 = 5) rfl (fz_4_11) ?_
  refine vv_so (σ2 := q_94) rfl ?_
  refine vr_aload_n dX4_init_85 rfl rfl ?_
  refine vr_iconst dX4_init_86 (v := (0 : Int32)) (by decide) ?_
  refine vr_putI dX4_init_87 fl_LitmusTester_Machine_46 (rfl : (st_S q_94 153).1 = 5) rfl (fz_4_12) ?_
  refine vv_so (σ2 := q_95) rfl ?_
  refine vr_aload_n dX4_init_90 rfl rfl ?_
  refine vr_lconst dX4_init_91 (v := (0 : Int64)) (by decide) ?_
  refine vr_putL dX4_init_92 fl_LitmusTester_Machine_49 (rfl : (st_S q_95 153).1 = 5) rfl (fz_4_13) ?_
  refine vv_so (σ2 := q_96) rfl ?_
  refine vr_aload_n dX4_init_95 rfl rfl ?_
  refine vr_lconst dX4_init_96 (v := (0 : Int64)) (by decide) ?_
  refine vr_putL dX4_init_97 fl_LitmusTester_Machine_53 (rfl : (st_S q_96 153).1 = 5) rfl (fz_4_14) ?_
  refine vv_so (σ2 := q_97) rfl ?_
  refine vr_aload_n dX4_init_100 rfl rfl ?_
  refine vr_aload_n dX4_init_101 rfl rfl ?_
  refine vr_putR dX4_init_102 fl_LitmusTester_Machine_56 (rfl : (st_S q_97 153).1 = 5) (Or.inl ⟨_, rfl⟩) (fun q e => by cases e; exact Or.inr ⟨rfl, rfl, rfl⟩) ?_
  refine vv_so (σ2 := q_98) rfl ?_
  exact vr_vret dX4_init_105 rfl ⟨rfl, rfl⟩
set_option maxRecDepth 20000 in
theorem kc_8 {γ : ga_T} : fw_ γ m_X2_init 2 [.ref 147, .ref 132] q_59 q_99 := by
  refine sp_of (pl_X2_init) rfl (Nat.le_of_ble_eq_true rfl) ?_
  show vv_ γ m_X2_init 2 0 [(0, .ref 147), (1, .ref 132)] [] q_59 _
  refine vr_aload_n dX2_init_0 rfl rfl ?_
  refine vr_objInit dX2_init_1 oi_LitmusTester_Explorer_3 (Nat.le_of_ble_eq_true rfl) (Nat.le_of_ble_eq_true rfl) ?_
  refine vr_aload_n dX2_init_4 rfl rfl ?_
  refine vr_new dX2_init_5 nw_LitmusTester_Explorer_9 ?_
  refine vv_top (w := .ref 148) nq_59 ?_
  refine vv_so (σ2 := q_60) rfl ?_
  refine vr_dup dX2_init_8 rfl ?_
  refine vc_IN (a := 148) (As := []) (rest := [.ref 148, .ref 147]) dX2_init_9 cN_LitmusTester_Explorer_11 rfl rfl (Nat.le_of_ble_eq_true rfl) (Nat.le_of_ble_eq_true rfl) (co_v kc_6 ?_)
  refine vr_putR dX2_init_12 fl_LitmusTester_Explorer_12 (rfl : (st_S q_68 147).1 = 3) (Or.inl ⟨_, rfl⟩) (fun q e => by cases e; exact Or.inr ⟨rfl, rfl, rfl⟩) ?_
  refine vv_so (σ2 := q_69) rfl ?_
  refine vr_aload_n dX2_init_15 rfl rfl ?_
  refine vr_bipush dX2_init_16 (v := (18 : Int32)) (by decide) ?_
  refine vr_newI dX2_init_18 tw_215 (n := (18 : Int32)) (N := 18) (by decide) (by decide) (Nat.le_of_ble_eq_true rfl) ?_
  refine vv_top (w := .ref 152) nq_69 ?_
  refine vv_so (σ2 := q_70) rfl ?_
  refine vr_putR dX2_init_20 fl_LitmusTester_Explorer_18 (rfl : (st_S q_70 147).1 = 3) (Or.inr ⟨_, rfl⟩) (fun q e => by cases e; exact Or.inr ⟨rfl, rfl, rfl⟩) ?_
  refine vv_so (σ2 := q_71) rfl ?_
  refine vr_aload_n dX2_init_23 rfl rfl ?_
  refine vr_aload_n dX2_init_24 rfl rfl ?_
  refine vr_putR dX2_init_25 fl_LitmusTester_Explorer_22 (rfl : (st_S q_71 147).1 = 3) (Or.inl ⟨_, rfl⟩) (fun q e => by cases e; exact Or.inr ⟨rfl, rfl, rfl⟩) ?_
  refine vv_so (σ2 := q_72) rfl ?_
  refine vr_aload_n dX2_init_28 rfl rfl ?_
  refine vr_new dX2_init_29 nw_LitmusTester_Explorer_26 ?_
  refine vv_top (w := .ref 153) nq_72 ?_
  refine vv_so (σ2 := q_73) rfl ?_
  refine vr_dup dX2_init_32 rfl ?_
  refine vr_aload_n dX2_init_33 rfl rfl ?_
  refine vc_I (a := 153) (As := [.ref 132]) (rest := [.ref 153, .ref 147]) dX2_init_34 cI_LitmusTester_Explorer_28 rfl rfl (Nat.le_of_ble_eq_true rfl) (Nat.le_of_ble_eq_true rfl) (co_v kc_7 ?_)
  refine vr_putR dX2_init_37 fl_LitmusTester_Explorer_31 (rfl : (st_S q_98 147).1 = 3) (Or.inl ⟨_, rfl⟩) (fun q e => by cases e; exact Or.inr ⟨rfl, rfl, rfl⟩) ?_
  refine vv_so (σ2 := q_99) rfl ?_
  exact vr_vret dX2_init_40 rfl ⟨rfl, rfl⟩
set_option maxRecDepth 20000 in
theorem kc_9 {γ : ga_T} : fw_ γ m_X3_init 1 [.ref 164] q_101 q_113 := by
  refine sp_of (pl_X3_init) rfl (Nat.le_of_ble_eq_true rfl) ?_
  show vv_ γ m_X3_init 1 0 [(0, .ref 164)] [] q_101 _
  refine vr_aload_n dX3_init_0 rfl rfl ?_
  refine vr_objInit dX3_init_1 oi_LitmusTester_Findings_3 (Nat.le_of_ble_eq_true rfl) (Nat.le_of_ble_eq_true rfl) ?_
  refine vr_aload_n dX3_init_4 rfl rfl ?_
  refine vr_bipush dX3_init_5 (v := (16 : Int32)) (by decide) ?_
  refine vr_newI dX3_init_7 tw_215 (n := (16 : Int32)) (N := 16) (by decide) (by decide) (Nat.le_of_ble_eq_true rfl) ?_
  refine vv_top (w := .ref 165) nq_101 ?_
  refine vv_so (σ2 := q_102) rfl ?_
  refine vr_putR dX3_init_9 fl_LitmusTester_Findings_11 (rfl : (st_S q_102 164).1 = 4) (Or.inr ⟨_, rfl⟩) (fun q e => by cases e; exact Or.inl rfl) ?_
  refine vv_so (σ2 := q_103) rfl ?_
  refine vr_aload_n dX3_init_12 rfl rfl ?_
  refine vr_bipush dX3_init_13 (v := (16 : Int32)) (by decide) ?_
  refine vr_newJ dX3_init_15 tw_214 (n := (16 : Int32)) (N := 16) (by decide) (by decide) (Nat.le_of_ble_eq_true rfl) ?_
  refine vv_top (w := .ref 166) nq_103 ?_
  refine vv_so (σ2 := q_104) rfl ?_
  refine vr_putR dX3_init_17 fl_LitmusTester_Findings_15 (rfl : (st_S q_104 164).1 = 4) (Or.inr ⟨_, rfl⟩) (fun q e => by cases e; exact Or.inl rfl) ?_
  refine vv_so (σ2 := q_105) rfl ?_
  refine vr_aload_n dX3_init_20 rfl rfl ?_
  refine vr_iconst dX3_init_21 (v := (0 : Int32)) (by decide) ?_
  refine vr_putI dX3_init_22 fl_LitmusTester_Findings_19 (rfl : (st_S q_105 164).1 = 4) rfl (fz_3_2) ?_
  refine vv_so (σ2 := q_106) rfl ?_
  refine vr_aload_n dX3_init_25 rfl rfl ?_
  refine vr_iconst dX3_init_26 (v := (0 : Int32)) (by decide) ?_
  refine vr_putI dX3_init_27 fl_LitmusTester_Findings_23 (rfl : (st_S q_106 164).1 = 4) rfl (fz_3_3) ?_
  refine vv_so (σ2 := q_107) rfl ?_
  refine vr_aload_n dX3_init_30 rfl rfl ?_
  refine vr_iconst dX3_init_31 (v := (0 : Int32)) (by decide) ?_
  refine vr_putZ dX3_init_32 fl_LitmusTester_Findings_26 (rfl : (st_S q_107 164).1 = 4) rfl (fz_3_4) (Or.inl rfl) ?_
  refine vv_so (σ2 := q_108) rfl ?_
  refine vr_aload_n dX3_init_35 rfl rfl ?_
  refine vr_bipush dX3_init_36 (v := (64 : Int32)) (by decide) ?_
  refine vr_newI dX3_init_38 tw_215 (n := (64 : Int32)) (N := 64) (by decide) (by decide) (Nat.le_of_ble_eq_true rfl) ?_
  refine vv_top (w := .ref 167) nq_108 ?_
  refine vv_so (σ2 := q_109) rfl ?_
  refine vr_putR dX3_init_40 fl_LitmusTester_Findings_30 (rfl : (st_S q_109 164).1 = 4) (Or.inr ⟨_, rfl⟩) (fun q e => by cases e; exact Or.inr ⟨rfl, rfl, rfl⟩) ?_
  refine vv_so (σ2 := q_110) rfl ?_
  refine vr_aload_n dX3_init_43 rfl rfl ?_
  refine vr_bipush dX3_init_44 (v := (64 : Int32)) (by decide) ?_
  refine vr_newI dX3_init_46 tw_215 (n := (64 : Int32)) (N := 64) (by decide) (by decide) (Nat.le_of_ble_eq_true rfl) ?_
  refine vv_top (w := .ref 168) nq_110 ?_
  refine vv_so (σ2 := q_111) rfl ?_
  refine vr_putR dX3_init_48 fl_LitmusTester_Findings_33 (rfl : (st_S q_111 164).1 = 4) (Or.inr ⟨_, rfl⟩) (fun q e => by cases e; exact Or.inr ⟨rfl, rfl, rfl⟩) ?_
  refine vv_so (σ2 := q_112) rfl ?_
  refine vr_aload_n dX3_init_51 rfl rfl ?_
  refine vr_getR dX3_init_52 fl_LitmusTester_Findings_30 (rfl : (st_S q_112 164).1 = 4) (Or.inr ⟨_, rfl⟩) (rfl : st_R q_112 164 5 = some 167) ?_
  refine vr_iconst dX3_init_55 (v := (-1 : Int32)) (by decide) ?_
  refine vc_S (As := [.ref 167, .int (-1 : Int32)]) (rest := []) dX3_init_56 cS_LitmusTester_Findings_36 rfl rfl (Nat.le_of_ble_eq_true rfl) (Nat.le_of_ble_eq_true rfl) (co_v (fill_c (n := 64) rfl (Nat.le_of_ble_eq_true rfl)) ?_)
  refine vv_so (σ2 := q_113) rfl ?_
  exact vr_vret dX3_init_59 rfl ⟨rfl, rfl⟩
set_option maxRecDepth 20000 in
theorem kc_10 {γ : ga_T} : fw_ γ m_X3_init 1 [.ref 169] q_115 q_127 := by
  refine sp_of (pl_X3_init) rfl (Nat.le_of_ble_eq_true rfl) ?_
  show vv_ γ m_X3_init 1 0 [(0, .ref 169)] [] q_115 _
  refine vr_aload_n dX3_init_0 rfl rfl ?_
  refine vr_objInit dX3_init_1 oi_LitmusTester_Findings_3 (Nat.le_of_ble_eq_true rfl) (Nat.le_of_ble_eq_true rfl) ?_
  refine vr_aload_n dX3_init_4 rfl rfl ?_
  refine vr_bipush dX3_init_5 (v := (16 : Int32)) (by decide) ?_
  refine vr_newI dX3_init_7 tw_215 (n := (16 : Int32)) (N := 16) (by decide) (by decide) (Nat.le_of_ble_eq_true rfl) ?_
  refine vv_top (w := .ref 170) nq_115 ?_
  refine vv_so (σ2 := q_116) rfl ?_
  refine vr_putR dX3_init_9 fl_LitmusTester_Findings_11 (rfl : (st_S q_116 169).1 = 4) (Or.inr ⟨_, rfl⟩) (fun q e => by cases e; exact Or.inl rfl) ?_
  refine vv_so (σ2 := q_117) rfl ?_
  refine vr_aload_n dX3_init_12 rfl rfl ?_
  refine vr_bipush dX3_init_13 (v := (16 : Int32)) (by decide) ?_
  refine vr_newJ dX3_init_15 tw_214 (n := (16 : Int32)) (N := 16) (by decide) (by decide) (Nat.le_of_ble_eq_true rfl) ?_
  refine vv_top (w := .ref 171) nq_117 ?_
  refine vv_so (σ2 := q_118) rfl ?_
  refine vr_putR dX3_init_17 fl_LitmusTester_Findings_15 (rfl : (st_S q_118 169).1 = 4) (Or.inr ⟨_, rfl⟩) (fun q e => by cases e; exact Or.inl rfl) ?_
  refine vv_so (σ2 := q_119) rfl ?_
  refine vr_aload_n dX3_init_20 rfl rfl ?_
  refine vr_iconst dX3_init_21 (v := (0 : Int32)) (by decide) ?_
  refine vr_putI dX3_init_22 fl_LitmusTester_Findings_19 (rfl : (st_S q_119 169).1 = 4) rfl (fz_3_2) ?_
  refine vv_so (σ2 := q_120) rfl ?_
  refine vr_aload_n dX3_init_25 rfl rfl ?_
  refine vr_iconst dX3_init_26 (v := (0 : Int32)) (by decide) ?_
  refine vr_putI dX3_init_27 fl_LitmusTester_Findings_23 (rfl : (st_S q_120 169).1 = 4) rfl (fz_3_3) ?_
  refine vv_so (σ2 := q_121) rfl ?_
  refine vr_aload_n dX3_init_30 rfl rfl ?_
  refine vr_iconst dX3_init_31 (v := (0 : Int32)) (by decide) ?_
  refine vr_putZ dX3_init_32 fl_LitmusTester_Findings_26 (rfl : (st_S q_121 169).1 = 4) rfl (fz_3_4) (Or.inl rfl) ?_
  refine vv_so (σ2 := q_122) rfl ?_
  refine vr_aload_n dX3_init_35 rfl rfl ?_
  refine vr_bipush dX3_init_36 (v := (64 : Int32)) (by decide) ?_
  refine vr_newI dX3_init_38 tw_215 (n := (64 : Int32)) (N := 64) (by decide) (by decide) (Nat.le_of_ble_eq_true rfl) ?_
  refine vv_top (w := .ref 172) nq_122 ?_
  refine vv_so (σ2 := q_123) rfl ?_
  refine vr_putR dX3_init_40 fl_LitmusTester_Findings_30 (rfl : (st_S q_123 169).1 = 4) (Or.inr ⟨_, rfl⟩) (fun q e => by cases e; exact Or.inr ⟨rfl, rfl, rfl⟩) ?_
  refine vv_so (σ2 := q_124) rfl ?_
  refine vr_aload_n dX3_init_43 rfl rfl ?_
  refine vr_bipush dX3_init_44 (v := (64 : Int32)) (by decide) ?_
  refine vr_newI dX3_init_46 tw_215 (n := (64 : Int32)) (N := 64) (by decide) (by decide) (Nat.le_of_ble_eq_true rfl) ?_
  refine vv_top (w := .ref 173) nq_124 ?_
  refine vv_so (σ2 := q_125) rfl ?_
  refine vr_putR dX3_init_48 fl_LitmusTester_Findings_33 (rfl : (st_S q_125 169).1 = 4) (Or.inr ⟨_, rfl⟩) (fun q e => by cases e; exact Or.inr ⟨rfl, rfl, rfl⟩) ?_
  refine vv_so (σ2 := q_126) rfl ?_
  refine vr_aload_n dX3_init_51 rfl rfl ?_
  refine vr_getR dX3_init_52 fl_LitmusTester_Findings_30 (rfl : (st_S q_126 169).1 = 4) (Or.inr ⟨_, rfl⟩) (rfl : st_R q_126 169 5 = some 172) ?_
  refine vr_iconst dX3_init_55 (v := (-1 : Int32)) (by decide) ?_
  refine vc_S (As := [.ref 172, .int (-1 : Int32)]) (rest := []) dX3_init_56 cS_LitmusTester_Findings_36 rfl rfl (Nat.le_of_ble_eq_true rfl) (Nat.le_of_ble_eq_true rfl) (co_v (fill_c (n := 64) rfl (Nat.le_of_ble_eq_true rfl)) ?_)
  refine vv_so (σ2 := q_127) rfl ?_
  exact vr_vret dX3_init_59 rfl ⟨rfl, rfl⟩
set_option maxRecDepth 20000 in
theorem kc_11 {γ : ga_T} : fw_ γ m_X3_init 1 [.ref 174] q_129 q_141 := by
  refine sp_of (pl_X3_init) rfl (Nat.le_of_ble_eq_true rfl) ?_
  show vv_ γ m_X3_init 1 0 [(0, .ref 174)] [] q_129 _
  refine vr_aload_n dX3_init_0 rfl rfl ?_
  refine vr_objInit dX3_init_1 oi_LitmusTester_Findings_3 (Nat.le_of_ble_eq_true rfl) (Nat.le_of_ble_eq_true rfl) ?_
  refine vr_aload_n dX3_init_4 rfl rfl ?_
  refine vr_bipush dX3_init_5 (v := (16 : Int32)) (by decide) ?_
  refine vr_newI dX3_init_7 tw_215 (n := (16 : Int32)) (N := 16) (by decide) (by decide) (Nat.le_of_ble_eq_true rfl) ?_
  refine vv_top (w := .ref 175) nq_129 ?_
  refine vv_so (σ2 := q_130) rfl ?_
  refine vr_putR dX3_init_9 fl_LitmusTester_Findings_11 (rfl : (st_S q_130 174).1 = 4) (Or.inr ⟨_, rfl⟩) (fun q e => by cases e; exact Or.inl rfl) ?_
  refine vv_so (σ2 := q_131) rfl ?_
  refine vr_aload_n dX3_init_12 rfl rfl ?_
  refine vr_bipush dX3_init_13 (v := (16 : Int32)) (by decide) ?_
  refine vr_newJ dX3_init_15 tw_214 (n := (16 : Int32)) (N := 16) (by decide) (by decide) (Nat.le_of_ble_eq_true rfl) ?_
  refine vv_top (w := .ref 176) nq_131 ?_
  refine vv_so (σ2 := q_132) rfl ?_
  refine vr_putR dX3_init_17 fl_LitmusTester_Findings_15 (rfl : (st_S q_132 174).1 = 4) (Or.inr ⟨_, rfl⟩) (fun q e => by cases e; exact Or.inl rfl) ?_
  refine vv_so (σ2 := q_133) rfl ?_
  refine vr_aload_n dX3_init_20 rfl rfl ?_
  refine vr_iconst dX3_init_21 (v := (0 : Int32)) (by decide) ?_
  refine vr_putI dX3_init_22 fl_LitmusTester_Findings_19 (rfl : (st_S q_133 174).1 = 4) rfl (fz_3_2) ?_
  refine vv_so (σ2 := q_134) rfl ?_
  refine vr_aload_n dX3_init_25 rfl rfl ?_
  refine vr_iconst dX3_init_26 (v := (0 : Int32)) (by decide) ?_
  refine vr_putI dX3_init_27 fl_LitmusTester_Findings_23 (rfl : (st_S q_134 174).1 = 4) rfl (fz_3_3) ?_
  refine vv_so (σ2 := q_135) rfl ?_
  refine vr_aload_n dX3_init_30 rfl rfl ?_
  refine vr_iconst dX3_init_31 (v := (0 : Int32)) (by decide) ?_
  refine vr_putZ dX3_init_32 fl_LitmusTester_Findings_26 (rfl : (st_S q_135 174).1 = 4) rfl (fz_3_4) (Or.inl rfl) ?_
  refine vv_so (σ2 := q_136) rfl ?_
  refine vr_aload_n dX3_init_35 rfl rfl ?_
  refine vr_bipush dX3_init_36 (v := (64 : Int32)) (by decide) ?_
  refine vr_newI dX3_init_38 tw_215 (n := (64 : Int32)) (N := 64) (by decide) (by decide) (Nat.le_of_ble_eq_true rfl) ?_
  refine vv_top (w := .ref 177) nq_136 ?_
  refine vv_so (σ2 := q_137) rfl ?_
  refine vr_putR dX3_init_40 fl_LitmusTester_Findings_30 (rfl : (st_S q_137 174).1 = 4) (Or.inr ⟨_, rfl⟩) (fun q e => by cases e; exact Or.inr ⟨rfl, rfl, rfl⟩) ?_
  refine vv_so (σ2 := q_138) rfl ?_
  refine vr_aload_n dX3_init_43 rfl rfl ?_
  refine vr_bipush dX3_init_44 (v := (64 : Int32)) (by decide) ?_
  refine vr_newI dX3_init_46 tw_215 (n := (64 : Int32)) (N := 64) (by decide) (by decide) (Nat.le_of_ble_eq_true rfl) ?_
  refine vv_top (w := .ref 178) nq_138 ?_
  refine vv_so (σ2 := q_139) rfl ?_
  refine vr_putR dX3_init_48 fl_LitmusTester_Findings_33 (rfl : (st_S q_139 174).1 = 4) (Or.inr ⟨_, rfl⟩) (fun q e => by cases e; exact Or.inr ⟨rfl, rfl, rfl⟩) ?_
  refine vv_so (σ2 := q_140) rfl ?_
  refine vr_aload_n dX3_init_51 rfl rfl ?_
  refine vr_getR dX3_init_52 fl_LitmusTester_Findings_30 (rfl : (st_S q_140 174).1 = 4) (Or.inr ⟨_, rfl⟩) (rfl : st_R q_140 174 5 = some 177) ?_
  refine vr_iconst dX3_init_55 (v := (-1 : Int32)) (by decide) ?_
  refine vc_S (As := [.ref 177, .int (-1 : Int32)]) (rest := []) dX3_init_56 cS_LitmusTester_Findings_36 rfl rfl (Nat.le_of_ble_eq_true rfl) (Nat.le_of_ble_eq_true rfl) (co_v (fill_c (n := 64) rfl (Nat.le_of_ble_eq_true rfl)) ?_)
  refine vv_so (σ2 := q_141) rfl ?_
  exact vr_vret dX3_init_59 rfl ⟨rfl, rfl⟩
set_option maxRecDepth 20000 in
theorem kc_12 {γ : ga_T} : fw_ γ m_X0_init 1 [.ref 179] q_143 q_146 := by
  refine sp_of (pl_X0_init) rfl (Nat.le_of_ble_eq_true rfl) ?_
  show vv_ γ m_X0_init 1 0 [(0, .ref 179)] [] q_143 _
  refine vr_aload_n dX0_init_0 rfl rfl ?_
  refine vr_objInit dX0_init_1 oi_LitmusTester_Changes_3 (Nat.le_of_ble_eq_true rfl) (Nat.le_of_ble_eq_true rfl) ?_
  refine vr_aload_n dX0_init_4 rfl rfl ?_
  refine vr_bipush dX0_init_5 (v := (8 : Int32)) (by decide) ?_
  refine vr_newI dX0_init_7 tw_215 (n := (8 : Int32)) (N := 8) (by decide) (by decide) (Nat.le_of_ble_eq_true rfl) ?_
  refine vv_top (w := .ref 180) nq_143 ?_
  refine vv_so (σ2 := q_144) rfl ?_
  refine vr_putR dX0_init_9 fl_LitmusTester_Changes_9 (rfl : (st_S q_144 179).1 = 1) (Or.inr ⟨_, rfl⟩) (fun q e => by cases e; exact Or.inr ⟨rfl, rfl, rfl⟩) ?_
  refine vv_so (σ2 := q_145) rfl ?_
  refine vr_aload_n dX0_init_12 rfl rfl ?_
  refine vr_iconst dX0_init_13 (v := (0 : Int32)) (by decide) ?_
  refine vr_putI dX0_init_14 fl_LitmusTester_Changes_15 (rfl : (st_S q_145 179).1 = 1) rfl (fz_0_1) ?_
  refine vv_so (σ2 := q_146) rfl ?_
  exact vr_vret dX0_init_17 rfl ⟨rfl, rfl⟩
set_option maxRecDepth 20000 in
theorem kc_13 {γ : ga_T} : fw_ γ m_X1_init 1 [.ref 181, .ref 132] q_148 q_158 := by
  refine sp_of (pl_X1_init) rfl (Nat.le_of_ble_eq_true rfl) ?_
  show vv_ γ m_X1_init 1 0 [(0, .ref 181), (1, .ref 132)] [] q_148 _
  refine vr_aload_n dX1_init_0 rfl rfl ?_
  refine vr_objInit dX1_init_1 oi_LitmusTester_Explanation_3 (Nat.le_of_ble_eq_true rfl) (Nat.le_of_ble_eq_true rfl) ?_
  refine vr_aload_n dX1_init_4 rfl rfl ?_
  refine vr_bipush dX1_init_5 (v := (18 : Int32)) (by decide) ?_
  refine vr_newI dX1_init_7 tw_215 (n := (18 : Int32)) (N := 18) (by decide) (by decide) (Nat.le_of_ble_eq_true rfl) ?_
  refine vv_top (w := .ref 182) nq_148 ?_
  refine vv_so (σ2 := q_149) rfl ?_
  refine vr_putR dX1_init_9 fl_LitmusTester_Explanation_9 (rfl : (st_S q_149 181).1 = 2) (Or.inr ⟨_, rfl⟩) (fun q e => by cases e; exact Or.inr ⟨rfl, rfl, rfl⟩) ?_
  refine vv_so (σ2 := q_150) rfl ?_
  refine vr_aload_n dX1_init_12 rfl rfl ?_
  refine vr_bipush dX1_init_13 (v := (10 : Int32)) (by decide) ?_
  refine vr_newI dX1_init_15 tw_215 (n := (10 : Int32)) (N := 10) (by decide) (by decide) (Nat.le_of_ble_eq_true rfl) ?_
  refine vv_top (w := .ref 183) nq_150 ?_
  refine vv_so (σ2 := q_151) rfl ?_
  refine vr_putR dX1_init_17 fl_LitmusTester_Explanation_15 (rfl : (st_S q_151 181).1 = 2) (Or.inr ⟨_, rfl⟩) (fun q e => by cases e; exact Or.inr ⟨rfl, rfl, rfl⟩) ?_
  refine vv_so (σ2 := q_152) rfl ?_
  refine vr_aload_n dX1_init_20 rfl rfl ?_
  refine vr_bipush dX1_init_21 (v := (8 : Int32)) (by decide) ?_
  refine vr_newI dX1_init_23 tw_215 (n := (8 : Int32)) (N := 8) (by decide) (by decide) (Nat.le_of_ble_eq_true rfl) ?_
  refine vv_top (w := .ref 184) nq_152 ?_
  refine vv_so (σ2 := q_153) rfl ?_
  refine vr_putR dX1_init_25 fl_LitmusTester_Explanation_18 (rfl : (st_S q_153 181).1 = 2) (Or.inr ⟨_, rfl⟩) (fun q e => by cases e; exact Or.inr ⟨rfl, rfl, rfl⟩) ?_
  refine vv_so (σ2 := q_154) rfl ?_
  refine vr_aload_n dX1_init_28 rfl rfl ?_
  refine vr_iconst dX1_init_29 (v := (0 : Int32)) (by decide) ?_
  refine vr_putI dX1_init_30 fl_LitmusTester_Explanation_21 (rfl : (st_S q_154 181).1 = 2) rfl (fz_1_4) ?_
  refine vv_so (σ2 := q_155) rfl ?_
  refine vr_aload_n dX1_init_33 rfl rfl ?_
  refine vr_iconst dX1_init_34 (v := (0 : Int32)) (by decide) ?_
  refine vr_putI dX1_init_35 fl_LitmusTester_Explanation_25 (rfl : (st_S q_155 181).1 = 2) rfl (fz_1_5) ?_
  refine vv_so (σ2 := q_156) rfl ?_
  refine vr_aload_n dX1_init_38 rfl rfl ?_
  refine vr_iconst dX1_init_39 (v := (0 : Int32)) (by decide) ?_
  refine vr_putZ dX1_init_40 fl_LitmusTester_Explanation_28 (rfl : (st_S q_156 181).1 = 2) rfl (fz_1_6) (Or.inl rfl) ?_
  refine vv_so (σ2 := q_157) rfl ?_
  refine vr_aload_n dX1_init_43 rfl rfl ?_
  refine vr_aload_n dX1_init_44 rfl rfl ?_
  refine vr_putR dX1_init_45 fl_LitmusTester_Explanation_32 (rfl : (st_S q_157 181).1 = 2) (Or.inl ⟨_, rfl⟩) (fun q e => by cases e; exact Or.inr ⟨rfl, rfl, rfl⟩) ?_
  refine vv_so (σ2 := q_158) rfl ?_
  exact vr_vret dX1_init_48 rfl ⟨rfl, rfl⟩
set_option maxRecDepth 20000 in
theorem kc_14 {γ : ga_T} : fw_ γ m_X11_init 3 [.ref 128] q_1 q_159 := by
  refine sp_of (pl_X11_init) rfl (Nat.le_of_ble_eq_true rfl) ?_
  show vv_ γ m_X11_init 3 0 [(0, .ref 128)] [] q_1 _
  refine vr_aload_n dX11_init_0 rfl rfl ?_
  refine vr_objInit dX11_init_1 oi_LitmusTester_3 (Nat.le_of_ble_eq_true rfl) (Nat.le_of_ble_eq_true rfl) ?_
  refine vr_aload_n dX11_init_4 rfl rfl ?_
  refine vr_sipush dX11_init_5 (v := (600 : Int32)) (by decide) ?_
  refine vr_newB dX11_init_8 tw_182 (n := (600 : Int32)) (N := 600) (by decide) (by decide) (Nat.le_of_ble_eq_true rfl) ?_
  refine vv_top (w := .ref 129) nq_1 ?_
  refine vv_so (σ2 := q_2) rfl ?_
  refine vr_putR dX11_init_10 fl_LitmusTester_9 (rfl : (st_S q_2 128).1 = 11) (Or.inr ⟨_, rfl⟩) (fun q e => by cases e; exact Or.inr ⟨rfl, rfl, rfl⟩) ?_
  refine vv_so (σ2 := q_3) rfl ?_
  refine vr_aload_n dX11_init_13 rfl rfl ?_
  refine vr_iconst dX11_init_14 (v := (0 : Int32)) (by decide) ?_
  refine vr_putI dX11_init_15 fl_LitmusTester_13 (rfl : (st_S q_3 128).1 = 11) rfl (fz_10_1) ?_
  refine vv_so (σ2 := q_4) rfl ?_
  refine vr_aload_n dX11_init_18 rfl rfl ?_
  refine vr_new dX11_init_19 nw_LitmusTester_17 ?_
  refine vv_top (w := .ref 130) nq_4 ?_
  refine vv_so (σ2 := q_5) rfl ?_
  refine vr_dup dX11_init_22 rfl ?_
  refine vc_IN (a := 130) (As := []) (rest := [.ref 130, .ref 128]) dX11_init_23 cN_LitmusTester_19 rfl rfl (Nat.le_of_ble_eq_true rfl) (Nat.le_of_ble_eq_true rfl) (co_v kc_1 ?_)
  refine vr_putR dX11_init_26 fl_LitmusTester_20 (rfl : (st_S q_8 128).1 = 11) (Or.inl ⟨_, rfl⟩) (fun q e => by cases e; exact Or.inr ⟨rfl, rfl, rfl⟩) ?_
  refine vv_so (σ2 := q_9) rfl ?_
  refine vr_aload_n dX11_init_29 rfl rfl ?_
  refine vr_new dX11_init_30 nw_LitmusTester_24 ?_
  refine vv_top (w := .ref 132) nq_9 ?_
  refine vv_so (σ2 := q_10) rfl ?_
  refine vr_dup dX11_init_33 rfl ?_
  refine vc_IN (a := 132) (As := []) (rest := [.ref 132, .ref 128]) dX11_init_34 cN_LitmusTester_26 rfl rfl (Nat.le_of_ble_eq_true rfl) (Nat.le_of_ble_eq_true rfl) (co_v kc_2 ?_)
  refine vr_putR dX11_init_37 fl_LitmusTester_27 (rfl : (st_S q_22 128).1 = 11) (Or.inl ⟨_, rfl⟩) (fun q e => by cases e; exact Or.inr ⟨rfl, rfl, rfl⟩) ?_
  refine vv_so (σ2 := q_23) rfl ?_
  refine vr_aload_n dX11_init_40 rfl rfl ?_
  refine vr_new dX11_init_41 nw_LitmusTester_24 ?_
  refine vv_top (w := .ref 137) nq_23 ?_
  refine vv_so (σ2 := q_24) rfl ?_
  refine vr_dup dX11_init_44 rfl ?_
  refine vc_IN (a := 137) (As := []) (rest := [.ref 137, .ref 128]) dX11_init_45 cN_LitmusTester_26 rfl rfl (Nat.le_of_ble_eq_true rfl) (Nat.le_of_ble_eq_true rfl) (co_v kc_3 ?_)
  refine vr_putR dX11_init_48 fl_LitmusTester_31 (rfl : (st_S q_36 128).1 = 11) (Or.inl ⟨_, rfl⟩) (fun q e => by cases e; exact Or.inr ⟨rfl, rfl, rfl⟩) ?_
  refine vv_so (σ2 := q_37) rfl ?_
  refine vr_aload_n dX11_init_51 rfl rfl ?_
  refine vr_new dX11_init_52 nw_LitmusTester_34 ?_
  refine vv_top (w := .ref 142) nq_37 ?_
  refine vv_so (σ2 := q_38) rfl ?_
  refine vr_dup dX11_init_55 rfl ?_
  refine vr_aload_n dX11_init_56 rfl rfl ?_
  refine vr_getR dX11_init_57 fl_LitmusTester_9 (rfl : (st_S q_38 128).1 = 11) (Or.inr ⟨_, rfl⟩) (rfl : st_R q_38 128 0 = some 129) ?_
  refine vr_aload_n dX11_init_60 rfl rfl ?_
  refine vr_getR dX11_init_61 fl_LitmusTester_31 (rfl : (st_S q_38 128).1 = 11) (Or.inl ⟨_, rfl⟩) (rfl : st_R q_38 128 4 = some 137) ?_
  refine vc_I (a := 142) (As := [.ref 129, .ref 137]) (rest := [.ref 142, .ref 128]) dX11_init_64 cI_LitmusTester_36 rfl rfl (Nat.le_of_ble_eq_true rfl) (Nat.le_of_ble_eq_true rfl) (co_v kc_5 ?_)
  refine vr_putR dX11_init_67 fl_LitmusTester_39 (rfl : (st_S q_57 128).1 = 11) (Or.inl ⟨_, rfl⟩) (fun q e => by cases e; exact Or.inr ⟨rfl, rfl, rfl⟩) ?_
  refine vv_so (σ2 := q_58) rfl ?_
  refine vr_aload_n dX11_init_70 rfl rfl ?_
  refine vr_new dX11_init_71 nw_LitmusTester_43 ?_
  refine vv_top (w := .ref 147) nq_58 ?_
  refine vv_so (σ2 := q_59) rfl ?_
  refine vr_dup dX11_init_74 rfl ?_
  refine vr_aload_n dX11_init_75 rfl rfl ?_
  refine vr_getR dX11_init_76 fl_LitmusTester_27 (rfl : (st_S q_59 128).1 = 11) (Or.inl ⟨_, rfl⟩) (rfl : st_R q_59 128 3 = some 132) ?_
  refine vc_I (a := 147) (As := [.ref 132]) (rest := [.ref 147, .ref 128]) dX11_init_79 cI_LitmusTester_45 rfl rfl (Nat.le_of_ble_eq_true rfl) (Nat.le_of_ble_eq_true rfl) (co_v kc_8 ?_)
  refine vr_putR dX11_init_82 fl_LitmusTester_48 (rfl : (st_S q_99 128).1 = 11) (Or.inl ⟨_, rfl⟩) (fun q e => by cases e; exact Or.inr ⟨rfl, rfl, rfl⟩) ?_
  refine vv_so (σ2 := q_100) rfl ?_
  refine vr_aload_n dX11_init_85 rfl rfl ?_
  refine vr_new dX11_init_86 nw_LitmusTester_52 ?_
  refine vv_top (w := .ref 164) nq_100 ?_
  refine vv_so (σ2 := q_101) rfl ?_
  refine vr_dup dX11_init_89 rfl ?_
  refine vc_I (a := 164) (As := []) (rest := [.ref 164, .ref 128]) dX11_init_90 cI_LitmusTester_54 rfl rfl (Nat.le_of_ble_eq_true rfl) (Nat.le_of_ble_eq_true rfl) (co_v kc_9 ?_)
  refine vr_putR dX11_init_93 fl_LitmusTester_55 (rfl : (st_S q_113 128).1 = 11) (Or.inl ⟨_, rfl⟩) (fun q e => by cases e; exact Or.inr ⟨rfl, rfl, rfl⟩) ?_
  refine vv_so (σ2 := q_114) rfl ?_
  refine vr_aload_n dX11_init_96 rfl rfl ?_
  refine vr_new dX11_init_97 nw_LitmusTester_52 ?_
  refine vv_top (w := .ref 169) nq_114 ?_
  refine vv_so (σ2 := q_115) rfl ?_
  refine vr_dup dX11_init_100 rfl ?_
  refine vc_I (a := 169) (As := []) (rest := [.ref 169, .ref 128]) dX11_init_101 cI_LitmusTester_54 rfl rfl (Nat.le_of_ble_eq_true rfl) (Nat.le_of_ble_eq_true rfl) (co_v kc_10 ?_)
  refine vr_putR dX11_init_104 fl_LitmusTester_59 (rfl : (st_S q_127 128).1 = 11) (Or.inl ⟨_, rfl⟩) (fun q e => by cases e; exact Or.inr ⟨rfl, rfl, rfl⟩) ?_
  refine vv_so (σ2 := q_128) rfl ?_
  refine vr_aload_n dX11_init_107 rfl rfl ?_
  refine vr_new dX11_init_108 nw_LitmusTester_52 ?_
  refine vv_top (w := .ref 174) nq_128 ?_
  refine vv_so (σ2 := q_129) rfl ?_
  refine vr_dup dX11_init_111 rfl ?_
  refine vc_I (a := 174) (As := []) (rest := [.ref 174, .ref 128]) dX11_init_112 cI_LitmusTester_54 rfl rfl (Nat.le_of_ble_eq_true rfl) (Nat.le_of_ble_eq_true rfl) (co_v kc_11 ?_)
  refine vr_putR dX11_init_115 fl_LitmusTester_62 (rfl : (st_S q_141 128).1 = 11) (Or.inl ⟨_, rfl⟩) (fun q e => by cases e; exact Or.inr ⟨rfl, rfl, rfl⟩) ?_
  refine vv_so (σ2 := q_142) rfl ?_
  refine vr_aload_n dX11_init_118 rfl rfl ?_
  refine vr_new dX11_init_119 nw_LitmusTester_65 ?_
  refine vv_top (w := .ref 179) nq_142 ?_
  refine vv_so (σ2 := q_143) rfl ?_
  refine vr_dup dX11_init_122 rfl ?_
  refine vc_IN (a := 179) (As := []) (rest := [.ref 179, .ref 128]) dX11_init_123 cN_LitmusTester_67 rfl rfl (Nat.le_of_ble_eq_true rfl) (Nat.le_of_ble_eq_true rfl) (co_v kc_12 ?_)
  refine vr_putR dX11_init_126 fl_LitmusTester_68 (rfl : (st_S q_146 128).1 = 11) (Or.inl ⟨_, rfl⟩) (fun q e => by cases e; exact Or.inr ⟨rfl, rfl, rfl⟩) ?_
  refine vv_so (σ2 := q_147) rfl ?_
  refine vr_aload_n dX11_init_129 rfl rfl ?_
  refine vr_new dX11_init_130 nw_LitmusTester_72 ?_
  refine vv_top (w := .ref 181) nq_147 ?_
  refine vv_so (σ2 := q_148) rfl ?_
  refine vr_dup dX11_init_133 rfl ?_
  refine vr_aload_n dX11_init_134 rfl rfl ?_
  refine vr_getR dX11_init_135 fl_LitmusTester_27 (rfl : (st_S q_148 128).1 = 11) (Or.inl ⟨_, rfl⟩) (rfl : st_R q_148 128 3 = some 132) ?_
  refine vc_I (a := 181) (As := [.ref 132]) (rest := [.ref 181, .ref 128]) dX11_init_138 cI_LitmusTester_74 rfl rfl (Nat.le_of_ble_eq_true rfl) (Nat.le_of_ble_eq_true rfl) (co_v kc_13 ?_)
  refine vr_putR dX11_init_141 fl_LitmusTester_75 (rfl : (st_S q_158 128).1 = 11) (Or.inl ⟨_, rfl⟩) (fun q e => by cases e; exact Or.inr ⟨rfl, rfl, rfl⟩) ?_
  refine vv_so (σ2 := q_159) rfl ?_
  exact vr_vret dX11_init_144 rfl ⟨rfl, rfl⟩
set_option maxRecDepth 20000 in
theorem kc_15 {γ : ga_T} : fw_ γ m_X12_init 1 [.ref 185] q_160 q_226 := by
  refine sp_of (pl_X12_init) rfl (Nat.le_of_ble_eq_true rfl) ?_
  show vv_ γ m_X12_init 1 0 [(0, .ref 185)] [] q_160 _
  refine vr_aload_n dX12_init_0 rfl rfl ?_
  refine vr_objInit dX12_init_1 oi_LitmusTesterModel_7 (Nat.le_of_ble_eq_true rfl) (Nat.le_of_ble_eq_true rfl) ?_
  refine vr_aload_n dX12_init_4 rfl rfl ?_
  refine vr_sipush dX12_init_5 (v := (600 : Int32)) (by decide) ?_
  refine vr_newI dX12_init_8 tw_215 (n := (600 : Int32)) (N := 600) (by decide) (by decide) (Nat.le_of_ble_eq_true rfl) ?_
  refine vv_top (w := .ref 186) nq_160 ?_
  refine vv_so (σ2 := q_161) rfl ?_
  refine vr_putR dX12_init_10 fl_LitmusTesterModel_13 (rfl : (st_S q_161 185).1 = 12) (Or.inr ⟨_, rfl⟩) (fun q e => by cases e; exact Or.inr ⟨rfl, rfl, rfl⟩) ?_
  refine vv_so (σ2 := q_162) rfl ?_
  refine vr_aload_n dX12_init_13 rfl rfl ?_
  refine vr_sipush dX12_init_14 (v := (174 : Int32)) (by decide) ?_
  refine vr_newI dX12_init_17 tw_215 (n := (174 : Int32)) (N := 174) (by decide) (by decide) (Nat.le_of_ble_eq_true rfl) ?_
  refine vv_top (w := .ref 187) nq_162 ?_
  refine vv_so (σ2 := q_163) rfl ?_
  refine vr_putR dX12_init_19 fl_LitmusTesterModel_17 (rfl : (st_S q_163 185).1 = 12) (Or.inr ⟨_, rfl⟩) (fun q e => by cases e; exact Or.inr ⟨rfl, rfl, rfl⟩) ?_
  refine vv_so (σ2 := q_164) rfl ?_
  refine vr_aload_n dX12_init_22 rfl rfl ?_
  refine vr_sipush dX12_init_23 (v := (174 : Int32)) (by decide) ?_
  refine vr_newI dX12_init_26 tw_215 (n := (174 : Int32)) (N := 174) (by decide) (by decide) (Nat.le_of_ble_eq_true rfl) ?_
  refine vv_top (w := .ref 188) nq_164 ?_
  refine vv_so (σ2 := q_165) rfl ?_
  refine vr_putR dX12_init_28 fl_LitmusTesterModel_20 (rfl : (st_S q_165 185).1 = 12) (Or.inr ⟨_, rfl⟩) (fun q e => by cases e; exact Or.inr ⟨rfl, rfl, rfl⟩) ?_
  refine vv_so (σ2 := q_166) rfl ?_
  refine vr_aload_n dX12_init_31 rfl rfl ?_
  refine vr_sipush dX12_init_32 (v := (1392 : Int32)) (by decide) ?_
  refine vr_newI dX12_init_35 tw_215 (n := (1392 : Int32)) (N := 1392) (by decide) (by decide) (Nat.le_of_ble_eq_true rfl) ?_
  refine vv_top (w := .ref 189) nq_166 ?_
  refine vv_so (σ2 := q_167) rfl ?_
  refine vr_putR dX12_init_37 fl_LitmusTesterModel_23 (rfl : (st_S q_167 185).1 = 12) (Or.inr ⟨_, rfl⟩) (fun q e => by cases e; exact Or.inr ⟨rfl, rfl, rfl⟩) ?_
  refine vv_so (σ2 := q_168) rfl ?_
  refine vr_aload_n dX12_init_40 rfl rfl ?_
  refine vr_bipush dX12_init_41 (v := (24 : Int32)) (by decide) ?_
  refine vr_newI dX12_init_43 tw_215 (n := (24 : Int32)) (N := 24) (by decide) (by decide) (Nat.le_of_ble_eq_true rfl) ?_
  refine vv_top (w := .ref 190) nq_168 ?_
  refine vv_so (σ2 := q_169) rfl ?_
  refine vr_putR dX12_init_45 fl_LitmusTesterModel_26 (rfl : (st_S q_169 185).1 = 12) (Or.inr ⟨_, rfl⟩) (fun q e => by cases e; exact Or.inr ⟨rfl, rfl, rfl⟩) ?_
  refine vv_so (σ2 := q_170) rfl ?_
  refine vr_aload_n dX12_init_48 rfl rfl ?_
  refine vr_iconst dX12_init_49 (v := (3 : Int32)) (by decide) ?_
  refine vr_newI dX12_init_50 tw_215 (n := (3 : Int32)) (N := 3) (by decide) (by decide) (Nat.le_of_ble_eq_true rfl) ?_
  refine vv_top (w := .ref 191) nq_170 ?_
  refine vv_so (σ2 := q_171) rfl ?_
  refine vr_putR dX12_init_52 fl_LitmusTesterModel_29 (rfl : (st_S q_171 185).1 = 12) (Or.inr ⟨_, rfl⟩) (fun q e => by cases e; exact Or.inr ⟨rfl, rfl, rfl⟩) ?_
  refine vv_so (σ2 := q_172) rfl ?_
  refine vr_aload_n dX12_init_55 rfl rfl ?_
  refine vr_bipush dX12_init_56 (v := (24 : Int32)) (by decide) ?_
  refine vr_newI dX12_init_58 tw_215 (n := (24 : Int32)) (N := 24) (by decide) (by decide) (Nat.le_of_ble_eq_true rfl) ?_
  refine vv_top (w := .ref 192) nq_172 ?_
  refine vv_so (σ2 := q_173) rfl ?_
  refine vr_putR dX12_init_60 fl_LitmusTesterModel_32 (rfl : (st_S q_173 185).1 = 12) (Or.inr ⟨_, rfl⟩) (fun q e => by cases e; exact Or.inr ⟨rfl, rfl, rfl⟩) ?_
  refine vv_so (σ2 := q_174) rfl ?_
  refine vr_aload_n dX12_init_63 rfl rfl ?_
  refine vr_iconst dX12_init_64 (v := (3 : Int32)) (by decide) ?_
  refine vr_newI dX12_init_65 tw_215 (n := (3 : Int32)) (N := 3) (by decide) (by decide) (Nat.le_of_ble_eq_true rfl) ?_
  refine vv_top (w := .ref 193) nq_174 ?_
  refine vv_so (σ2 := q_175) rfl ?_
  refine vr_putR dX12_init_67 fl_LitmusTesterModel_35 (rfl : (st_S q_175 185).1 = 12) (Or.inr ⟨_, rfl⟩) (fun q e => by cases e; exact Or.inr ⟨rfl, rfl, rfl⟩) ?_
  refine vv_so (σ2 := q_176) rfl ?_
  refine vr_aload_n dX12_init_70 rfl rfl ?_
  refine vr_bipush dX12_init_71 (v := (40 : Int32)) (by decide) ?_
  refine vr_newI dX12_init_73 tw_215 (n := (40 : Int32)) (N := 40) (by decide) (by decide) (Nat.le_of_ble_eq_true rfl) ?_
  refine vv_top (w := .ref 194) nq_176 ?_
  refine vv_so (σ2 := q_177) rfl ?_
  refine vr_putR dX12_init_75 fl_LitmusTesterModel_38 (rfl : (st_S q_177 185).1 = 12) (Or.inr ⟨_, rfl⟩) (fun q e => by cases e; exact Or.inr ⟨rfl, rfl, rfl⟩) ?_
  refine vv_so (σ2 := q_178) rfl ?_
  refine vr_aload_n dX12_init_78 rfl rfl ?_
  refine vr_bipush dX12_init_79 (v := (40 : Int32)) (by decide) ?_
  refine vr_newI dX12_init_81 tw_215 (n := (40 : Int32)) (N := 40) (by decide) (by decide) (Nat.le_of_ble_eq_true rfl) ?_
  refine vv_top (w := .ref 195) nq_178 ?_
  refine vv_so (σ2 := q_179) rfl ?_
  refine vr_putR dX12_init_83 fl_LitmusTesterModel_41 (rfl : (st_S q_179 185).1 = 12) (Or.inr ⟨_, rfl⟩) (fun q e => by cases e; exact Or.inr ⟨rfl, rfl, rfl⟩) ?_
  refine vv_so (σ2 := q_180) rfl ?_
  refine vr_aload_n dX12_init_86 rfl rfl ?_
  refine vr_bipush dX12_init_87 (v := (40 : Int32)) (by decide) ?_
  refine vr_newI dX12_init_89 tw_215 (n := (40 : Int32)) (N := 40) (by decide) (by decide) (Nat.le_of_ble_eq_true rfl) ?_
  refine vv_top (w := .ref 196) nq_180 ?_
  refine vv_so (σ2 := q_181) rfl ?_
  refine vr_putR dX12_init_91 fl_LitmusTesterModel_44 (rfl : (st_S q_181 185).1 = 12) (Or.inr ⟨_, rfl⟩) (fun q e => by cases e; exact Or.inr ⟨rfl, rfl, rfl⟩) ?_
  refine vv_so (σ2 := q_182) rfl ?_
  refine vr_aload_n dX12_init_94 rfl rfl ?_
  refine vr_bipush dX12_init_95 (v := (40 : Int32)) (by decide) ?_
  refine vr_newI dX12_init_97 tw_215 (n := (40 : Int32)) (N := 40) (by decide) (by decide) (Nat.le_of_ble_eq_true rfl) ?_
  refine vv_top (w := .ref 197) nq_182 ?_
  refine vv_so (σ2 := q_183) rfl ?_
  refine vr_putR dX12_init_99 fl_LitmusTesterModel_47 (rfl : (st_S q_183 185).1 = 12) (Or.inr ⟨_, rfl⟩) (fun q e => by cases e; exact Or.inr ⟨rfl, rfl, rfl⟩) ?_
  refine vv_so (σ2 := q_184) rfl ?_
  refine vr_aload_n dX12_init_102 rfl rfl ?_
  refine vr_bipush dX12_init_103 (v := (40 : Int32)) (by decide) ?_
  refine vr_newI dX12_init_105 tw_215 (n := (40 : Int32)) (N := 40) (by decide) (by decide) (Nat.le_of_ble_eq_true rfl) ?_
  refine vv_top (w := .ref 198) nq_184 ?_
  refine vv_so (σ2 := q_185) rfl ?_
  refine vr_putR dX12_init_107 fl_LitmusTesterModel_50 (rfl : (st_S q_185 185).1 = 12) (Or.inr ⟨_, rfl⟩) (fun q e => by cases e; exact Or.inr ⟨rfl, rfl, rfl⟩) ?_
  refine vv_so (σ2 := q_186) rfl ?_
  refine vr_aload_n dX12_init_110 rfl rfl ?_
  refine vr_bipush dX12_init_111 (v := (40 : Int32)) (by decide) ?_
  refine vr_newI dX12_init_113 tw_215 (n := (40 : Int32)) (N := 40) (by decide) (by decide) (Nat.le_of_ble_eq_true rfl) ?_
  refine vv_top (w := .ref 199) nq_186 ?_
  refine vv_so (σ2 := q_187) rfl ?_
  refine vr_putR dX12_init_115 fl_LitmusTesterModel_53 (rfl : (st_S q_187 185).1 = 12) (Or.inr ⟨_, rfl⟩) (fun q e => by cases e; exact Or.inr ⟨rfl, rfl, rfl⟩) ?_
  refine vv_so (σ2 := q_188) rfl ?_
  refine vr_aload_n dX12_init_118 rfl rfl ?_
  refine vr_bipush dX12_init_119 (v := (40 : Int32)) (by decide) ?_
  refine vr_newI dX12_init_121 tw_215 (n := (40 : Int32)) (N := 40) (by decide) (by decide) (Nat.le_of_ble_eq_true rfl) ?_
  refine vv_top (w := .ref 200) nq_188 ?_
  refine vv_so (σ2 := q_189) rfl ?_
  refine vr_putR dX12_init_123 fl_LitmusTesterModel_56 (rfl : (st_S q_189 185).1 = 12) (Or.inr ⟨_, rfl⟩) (fun q e => by cases e; exact Or.inr ⟨rfl, rfl, rfl⟩) ?_
  refine vv_so (σ2 := q_190) rfl ?_
  refine vr_aload_n dX12_init_126 rfl rfl ?_
  refine vr_bipush dX12_init_127 (v := (40 : Int32)) (by decide) ?_
  refine vr_newI dX12_init_129 tw_215 (n := (40 : Int32)) (N := 40) (by decide) (by decide) (Nat.le_of_ble_eq_true rfl) ?_
  refine vv_top (w := .ref 201) nq_190 ?_
  refine vv_so (σ2 := q_191) rfl ?_
  refine vr_putR dX12_init_131 fl_LitmusTesterModel_59 (rfl : (st_S q_191 185).1 = 12) (Or.inr ⟨_, rfl⟩) (fun q e => by cases e; exact Or.inr ⟨rfl, rfl, rfl⟩) ?_
  refine vv_so (σ2 := q_192) rfl ?_
  refine vr_aload_n dX12_init_134 rfl rfl ?_
  refine vr_bipush dX12_init_135 (v := (40 : Int32)) (by decide) ?_
  refine vr_newI dX12_init_137 tw_215 (n := (40 : Int32)) (N := 40) (by decide) (by decide) (Nat.le_of_ble_eq_true rfl) ?_
  refine vv_top (w := .ref 202) nq_192 ?_
  refine vv_so (σ2 := q_193) rfl ?_
  refine vr_putR dX12_init_139 fl_LitmusTesterModel_62 (rfl : (st_S q_193 185).1 = 12) (Or.inr ⟨_, rfl⟩) (fun q e => by cases e; exact Or.inr ⟨rfl, rfl, rfl⟩) ?_
  refine vv_so (σ2 := q_194) rfl ?_
  refine vr_aload_n dX12_init_142 rfl rfl ?_
  refine vr_iconst dX12_init_143 (v := (5 : Int32)) (by decide) ?_
  refine vr_newI dX12_init_144 tw_215 (n := (5 : Int32)) (N := 5) (by decide) (by decide) (Nat.le_of_ble_eq_true rfl) ?_
  refine vv_top (w := .ref 203) nq_194 ?_
  refine vv_so (σ2 := q_195) rfl ?_
  refine vr_putR dX12_init_146 fl_LitmusTesterModel_65 (rfl : (st_S q_195 185).1 = 12) (Or.inr ⟨_, rfl⟩) (fun q e => by cases e; exact Or.inr ⟨rfl, rfl, rfl⟩) ?_
  refine vv_so (σ2 := q_196) rfl ?_
  refine vr_aload_n dX12_init_149 rfl rfl ?_
  refine vr_ldc dX12_init_150 (v := (65536 : Int32)) tw_1639 ?_
  refine vr_newJ dX12_init_152 tw_214 (n := (65536 : Int32)) (N := 65536) (by decide) (by decide) (Nat.le_of_ble_eq_true rfl) ?_
  refine vv_top (w := .ref 204) nq_196 ?_
  refine vv_so (σ2 := q_197) rfl ?_
  refine vr_putR dX12_init_154 fl_LitmusTesterModel_69 (rfl : (st_S q_197 185).1 = 12) (Or.inr ⟨_, rfl⟩) (fun q e => by cases e; exact Or.inr ⟨rfl, rfl, rfl⟩) ?_
  refine vv_so (σ2 := q_198) rfl ?_
  refine vr_aload_n dX12_init_157 rfl rfl ?_
  refine vr_ldc dX12_init_158 (v := (65536 : Int32)) tw_1639 ?_
  refine vr_newJ dX12_init_160 tw_214 (n := (65536 : Int32)) (N := 65536) (by decide) (by decide) (Nat.le_of_ble_eq_true rfl) ?_
  refine vv_top (w := .ref 205) nq_198 ?_
  refine vv_so (σ2 := q_199) rfl ?_
  refine vr_putR dX12_init_162 fl_LitmusTesterModel_73 (rfl : (st_S q_199 185).1 = 12) (Or.inr ⟨_, rfl⟩) (fun q e => by cases e; exact Or.inr ⟨rfl, rfl, rfl⟩) ?_
  refine vv_so (σ2 := q_200) rfl ?_
  refine vr_aload_n dX12_init_165 rfl rfl ?_
  refine vr_ldc dX12_init_166 (v := (65536 : Int32)) tw_1639 ?_
  refine vr_newI dX12_init_168 tw_215 (n := (65536 : Int32)) (N := 65536) (by decide) (by decide) (Nat.le_of_ble_eq_true rfl) ?_
  refine vv_top (w := .ref 206) nq_200 ?_
  refine vv_so (σ2 := q_201) rfl ?_
  refine vr_putR dX12_init_170 fl_LitmusTesterModel_76 (rfl : (st_S q_201 185).1 = 12) (Or.inr ⟨_, rfl⟩) (fun q e => by cases e; exact Or.inr ⟨rfl, rfl, rfl⟩) ?_
  refine vv_so (σ2 := q_202) rfl ?_
  refine vr_aload_n dX12_init_173 rfl rfl ?_
  refine vr_ldc dX12_init_174 (v := (65536 : Int32)) tw_1639 ?_
  refine vr_newI dX12_init_176 tw_215 (n := (65536 : Int32)) (N := 65536) (by decide) (by decide) (Nat.le_of_ble_eq_true rfl) ?_
  refine vv_top (w := .ref 207) nq_202 ?_
  refine vv_so (σ2 := q_203) rfl ?_
  refine vr_putR dX12_init_178 fl_LitmusTesterModel_79 (rfl : (st_S q_203 185).1 = 12) (Or.inr ⟨_, rfl⟩) (fun q e => by cases e; exact Or.inr ⟨rfl, rfl, rfl⟩) ?_
  refine vv_so (σ2 := q_204) rfl ?_
  refine vr_aload_n dX12_init_181 rfl rfl ?_
  refine vr_ldc dX12_init_182 (v := (65536 : Int32)) tw_1639 ?_
  refine vr_newI dX12_init_184 tw_215 (n := (65536 : Int32)) (N := 65536) (by decide) (by decide) (Nat.le_of_ble_eq_true rfl) ?_
  refine vv_top (w := .ref 208) nq_204 ?_
  refine vv_so (σ2 := q_205) rfl ?_
  refine vr_putR dX12_init_186 fl_LitmusTesterModel_82 (rfl : (st_S q_205 185).1 = 12) (Or.inr ⟨_, rfl⟩) (fun q e => by cases e; exact Or.inr ⟨rfl, rfl, rfl⟩) ?_
  refine vv_so (σ2 := q_206) rfl ?_
  refine vr_aload_n dX12_init_189 rfl rfl ?_
  refine vr_ldc dX12_init_190 (v := (65536 : Int32)) tw_1639 ?_
  refine vr_newI dX12_init_192 tw_215 (n := (65536 : Int32)) (N := 65536) (by decide) (by decide) (Nat.le_of_ble_eq_true rfl) ?_
  refine vv_top (w := .ref 209) nq_206 ?_
  refine vv_so (σ2 := q_207) rfl ?_
  refine vr_putR dX12_init_194 fl_LitmusTesterModel_85 (rfl : (st_S q_207 185).1 = 12) (Or.inr ⟨_, rfl⟩) (fun q e => by cases e; exact Or.inr ⟨rfl, rfl, rfl⟩) ?_
  refine vv_so (σ2 := q_208) rfl ?_
  refine vr_aload_n dX12_init_197 rfl rfl ?_
  refine vr_ldc dX12_init_198 (v := (65536 : Int32)) tw_1639 ?_
  refine vr_newJ dX12_init_200 tw_214 (n := (65536 : Int32)) (N := 65536) (by decide) (by decide) (Nat.le_of_ble_eq_true rfl) ?_
  refine vv_top (w := .ref 210) nq_208 ?_
  refine vv_so (σ2 := q_209) rfl ?_
  refine vr_putR dX12_init_202 fl_LitmusTesterModel_88 (rfl : (st_S q_209 185).1 = 12) (Or.inr ⟨_, rfl⟩) (fun q e => by cases e; exact Or.inr ⟨rfl, rfl, rfl⟩) ?_
  refine vv_so (σ2 := q_210) rfl ?_
  refine vr_aload_n dX12_init_205 rfl rfl ?_
  refine vr_bipush dX12_init_206 (v := (40 : Int32)) (by decide) ?_
  refine vr_newZ dX12_init_208 tw_1812 (n := (40 : Int32)) (N := 40) (by decide) (by decide) (Nat.le_of_ble_eq_true rfl) ?_
  refine vv_top (w := .ref 211) nq_210 ?_
  refine vv_so (σ2 := q_211) rfl ?_
  refine vr_putR dX12_init_210 fl_LitmusTesterModel_91 (rfl : (st_S q_211 185).1 = 12) (Or.inr ⟨_, rfl⟩) (fun q e => by cases e; exact Or.inr ⟨rfl, rfl, rfl⟩) ?_
  refine vv_so (σ2 := q_212) rfl ?_
  refine vr_aload_n dX12_init_213 rfl rfl ?_
  refine vr_bipush dX12_init_214 (v := (60 : Int32)) (by decide) ?_
  refine vr_newI dX12_init_216 tw_215 (n := (60 : Int32)) (N := 60) (by decide) (by decide) (Nat.le_of_ble_eq_true rfl) ?_
  refine vv_top (w := .ref 212) nq_212 ?_
  refine vv_so (σ2 := q_213) rfl ?_
  refine vr_putR dX12_init_218 fl_LitmusTesterModel_95 (rfl : (st_S q_213 185).1 = 12) (Or.inr ⟨_, rfl⟩) (fun q e => by cases e; exact Or.inr ⟨rfl, rfl, rfl⟩) ?_
  refine vv_so (σ2 := q_214) rfl ?_
  refine vr_aload_n dX12_init_221 rfl rfl ?_
  refine vr_bipush dX12_init_222 (v := (28 : Int32)) (by decide) ?_
  refine vr_newI dX12_init_224 tw_215 (n := (28 : Int32)) (N := 28) (by decide) (by decide) (Nat.le_of_ble_eq_true rfl) ?_
  refine vv_top (w := .ref 213) nq_214 ?_
  refine vv_so (σ2 := q_215) rfl ?_
  refine vr_putR dX12_init_226 fl_LitmusTesterModel_98 (rfl : (st_S q_215 185).1 = 12) (Or.inr ⟨_, rfl⟩) (fun q e => by cases e; exact Or.inr ⟨rfl, rfl, rfl⟩) ?_
  refine vv_so (σ2 := q_216) rfl ?_
  refine vr_aload_n dX12_init_229 rfl rfl ?_
  refine vr_sipush dX12_init_230 (v := (180 : Int32)) (by decide) ?_
  refine vr_newI dX12_init_233 tw_215 (n := (180 : Int32)) (N := 180) (by decide) (by decide) (Nat.le_of_ble_eq_true rfl) ?_
  refine vv_top (w := .ref 214) nq_216 ?_
  refine vv_so (σ2 := q_217) rfl ?_
  refine vr_putR dX12_init_235 fl_LitmusTesterModel_101 (rfl : (st_S q_217 185).1 = 12) (Or.inr ⟨_, rfl⟩) (fun q e => by cases e; exact Or.inr ⟨rfl, rfl, rfl⟩) ?_
  refine vv_so (σ2 := q_218) rfl ?_
  refine vr_aload_n dX12_init_238 rfl rfl ?_
  refine vr_iconst dX12_init_239 (v := (3 : Int32)) (by decide) ?_
  refine vr_newI dX12_init_240 tw_215 (n := (3 : Int32)) (N := 3) (by decide) (by decide) (Nat.le_of_ble_eq_true rfl) ?_
  refine vv_top (w := .ref 215) nq_218 ?_
  refine vv_so (σ2 := q_219) rfl ?_
  refine vr_putR dX12_init_242 fl_LitmusTesterModel_104 (rfl : (st_S q_219 185).1 = 12) (Or.inr ⟨_, rfl⟩) (fun q e => by cases e; exact Or.inr ⟨rfl, rfl, rfl⟩) ?_
  refine vv_so (σ2 := q_220) rfl ?_
  refine vr_aload_n dX12_init_245 rfl rfl ?_
  refine vr_iconst dX12_init_246 (v := (3 : Int32)) (by decide) ?_
  refine vr_newI dX12_init_247 tw_215 (n := (3 : Int32)) (N := 3) (by decide) (by decide) (Nat.le_of_ble_eq_true rfl) ?_
  refine vv_top (w := .ref 216) nq_220 ?_
  refine vv_so (σ2 := q_221) rfl ?_
  refine vr_putR dX12_init_249 fl_LitmusTesterModel_107 (rfl : (st_S q_221 185).1 = 12) (Or.inr ⟨_, rfl⟩) (fun q e => by cases e; exact Or.inr ⟨rfl, rfl, rfl⟩) ?_
  refine vv_so (σ2 := q_222) rfl ?_
  refine vr_aload_n dX12_init_252 rfl rfl ?_
  refine vr_ldc dX12_init_253 (v := (65536 : Int32)) tw_1639 ?_
  refine vr_newZ dX12_init_255 tw_1812 (n := (65536 : Int32)) (N := 65536) (by decide) (by decide) (Nat.le_of_ble_eq_true rfl) ?_
  refine vv_top (w := .ref 217) nq_222 ?_
  refine vv_so (σ2 := q_223) rfl ?_
  refine vr_putR dX12_init_257 fl_LitmusTesterModel_110 (rfl : (st_S q_223 185).1 = 12) (Or.inr ⟨_, rfl⟩) (fun q e => by cases e; exact Or.inr ⟨rfl, rfl, rfl⟩) ?_
  refine vv_so (σ2 := q_224) rfl ?_
  refine vr_aload_n dX12_init_260 rfl rfl ?_
  refine vr_sipush dX12_init_261 (v := (1000 : Int32)) (by decide) ?_
  refine vr_newB dX12_init_264 tw_182 (n := (1000 : Int32)) (N := 1000) (by decide) (by decide) (Nat.le_of_ble_eq_true rfl) ?_
  refine vv_top (w := .ref 218) nq_224 ?_
  refine vv_so (σ2 := q_225) rfl ?_
  refine vr_putR dX12_init_266 fl_LitmusTesterModel_113 (rfl : (st_S q_225 185).1 = 12) (Or.inr ⟨_, rfl⟩) (fun q e => by cases e; exact Or.inr ⟨rfl, rfl, rfl⟩) ?_
  refine vv_so (σ2 := q_226) rfl ?_
  exact vr_vret dX12_init_269 rfl ⟨rfl, rfl⟩
set_option maxRecDepth 20000 in
theorem k_law {γ : ga_T} {nm : String} {Q : rs_T → st_T → Prop} (zk : vv_ γ (m_law nm) 84 23 [(0, .ref 22), (1, .ref 128), (2, .ref 185), (3, .ref 219), (4, .int (0 : Int32))] [] q_227 Q) : vv_ γ (m_law nm) 84 0 [(0, .ref 22)] [] q_0 Q := by
  refine vr_new dL_law_0 nw_LitmusTesterLaw_8 ?_
  refine vv_top (w := .ref 128) nq_0 ?_
  refine vv_so (σ2 := q_1) rfl ?_
  refine vr_dup dL_law_3 rfl ?_
  refine vc_I (a := 128) (As := []) (rest := [.ref 128]) dL_law_4 cI_LitmusTesterLaw_94 rfl rfl (Nat.le_of_ble_eq_true rfl) (Nat.le_of_ble_eq_true rfl) (co_v kc_14 ?_)
  refine vr_astore_n dL_law_7 rfl (Nat.le_of_ble_eq_true rfl) (vv_eq (ls' := [(0, .ref 22), (1, .ref 128)]) rfl ?_)
  refine vr_new dL_law_8 nw_LitmusTesterLaw_95 ?_
  refine vv_top (w := .ref 185) nq_159 ?_
  refine vv_so (σ2 := q_160) rfl ?_
  refine vr_dup dL_law_11 rfl ?_
  refine vc_I (a := 185) (As := []) (rest := [.ref 185]) dL_law_12 cI_LitmusTesterLaw_97 rfl rfl (Nat.le_of_ble_eq_true rfl) (Nat.le_of_ble_eq_true rfl) (co_v kc_15 ?_)
  refine vr_astore_n dL_law_15 rfl (Nat.le_of_ble_eq_true rfl) (vv_eq (ls' := [(0, .ref 22), (1, .ref 128), (2, .ref 185)]) rfl ?_)
  refine vr_iconst dL_law_16 (v := (1 : Int32)) (by decide) ?_
  refine vr_newJ dL_law_17 tw_214 (n := (1 : Int32)) (N := 1) (by decide) (by decide) (Nat.le_of_ble_eq_true rfl) ?_
  refine vv_top (w := .ref 219) nq_226 ?_
  refine vv_so (σ2 := q_227) rfl ?_
  refine vr_astore_n dL_law_19 rfl (Nat.le_of_ble_eq_true rfl) (vv_eq (ls' := [(0, .ref 22), (1, .ref 128), (2, .ref 185), (3, .ref 219)]) rfl ?_)
  refine vr_iconst dL_law_20 (v := (0 : Int32)) (by decide) ?_
  refine vr_istore dL_law_21 (Nat.le_of_ble_eq_true rfl) (vv_eq (ls' := [(0, .ref 22), (1, .ref 128), (2, .ref 185), (3, .ref 219), (4, .int (0 : Int32))]) rfl ?_)
  exact zk
