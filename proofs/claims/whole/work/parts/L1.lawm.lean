/-! the law's methods: each calls one of the class, and tells what was thrown -/
section LM
variable {γ : ga_T} {σ : st_T} {A' : ca_T} {R : rt_T} {r : rs_T} {x1 x2 : Int32}
theorem lm_instruction (w : Wd σ) (h : Ans_ γ m_X11_instruction 9 [.ref 128, .int x1, .int x2] σ R A' r) (hr : Vk_ false false true false false r) : La_ γ m_L_instruction 10 [.ref 128, .int x1, .int x2, .ref 219] σ R A' eO_ r := by
  obtain ⟨s1, R1, f, j, o⟩ := h
  rcases hr with ⟨v, hb, rfl⟩ | ⟨hi, rfl⟩ | ⟨hi, rfl⟩ | ⟨hi, rfl⟩ | ⟨hi, rfl⟩
  · exact la_v j o (x := v.toInt64) rfl (fn_q (fun Q zQ => e_L_instruction w (Or.inl ⟨v, s1, j.1.1, f, zQ⟩)))
  · cases hi
  · exact la_x (e := eO_) j o (k := (1 : Int32)) (by rw [show eO_ "java/lang/IndexOutOfBoundsException" = 1 from tcd_2]; decide) (fn_q (fun Q zQ => e_L_instruction w (Or.inr ⟨s1, j.1.1, f, zQ⟩)))
  · cases hi
  · cases hi
theorem lm_outputByte (w : Wd σ) (h : Ans_ γ m_X11_outputByte 8 [.ref 128, .int x1] σ R A' r) (hr : Vk_ false false false true false r) : La_ γ m_L_outputByte 9 [.ref 128, .int x1, .ref 219] σ R A' eN_ r := by
  obtain ⟨s1, R1, f, j, o⟩ := h
  rcases hr with ⟨v, hb, rfl⟩ | ⟨hi, rfl⟩ | ⟨hi, rfl⟩ | ⟨hi, rfl⟩ | ⟨hi, rfl⟩
  · exact la_v j o (x := v.toInt64) rfl (fn_q (fun Q zQ => e_L_outputByte w (Or.inl ⟨v, s1, j.1.1, f, zQ⟩)))
  · cases hi
  · cases hi
  · exact la_x (e := eN_) j o (k := (1 : Int32)) (by rw [show eN_ "java/util/NoSuchElementException" = 1 from tcd_3]; decide) (fn_q (fun Q zQ => e_L_outputByte w (Or.inr ⟨s1, j.1.1, f, zQ⟩)))
  · cases hi
theorem lm_outcomeCount (w : Wd σ) (h : Ans_ γ m_X11_outcomeCount 9 [.ref 128, .int x1] σ R A' r) (hr : Vk_ false true false false false r) : La_ γ m_L_outcomeCount 10 [.ref 128, .int x1, .ref 219] σ R A' eI_ r := by
  obtain ⟨s1, R1, f, j, o⟩ := h
  rcases hr with ⟨v, hb, rfl⟩ | ⟨hi, rfl⟩ | ⟨hi, rfl⟩ | ⟨hi, rfl⟩ | ⟨hi, rfl⟩
  · exact la_v j o (x := v.toInt64) rfl (fn_q (fun Q zQ => e_L_outcomeCount w (Or.inl ⟨v, s1, j.1.1, f, zQ⟩)))
  · exact la_x (e := eI_) j o (k := (1 : Int32)) (by rw [show eI_ "java/lang/IllegalArgumentException" = 1 from tcd_1]; decide) (fn_q (fun Q zQ => e_L_outcomeCount w (Or.inr ⟨s1, j.1.1, f, zQ⟩)))
  · cases hi
  · cases hi
  · cases hi
theorem lm_outcome (w : Wd σ) (h : Ans_ γ m_X11_outcome 9 [.ref 128, .int x1, .int x2] σ R A' r) (hr : Vk_ false true false false false r) : La_ γ m_L_outcome 10 [.ref 128, .int x1, .int x2, .ref 219] σ R A' eI_ r := by
  obtain ⟨s1, R1, f, j, o⟩ := h
  rcases hr with ⟨v, hb, rfl⟩ | ⟨hi, rfl⟩ | ⟨hi, rfl⟩ | ⟨hi, rfl⟩ | ⟨hi, rfl⟩
  · exact la_v j o (x := v.toInt64) rfl (fn_q (fun Q zQ => e_L_outcome w (Or.inl ⟨v, s1, j.1.1, f, zQ⟩)))
  · exact la_x (e := eI_) j o (k := (1 : Int32)) (by rw [show eI_ "java/lang/IllegalArgumentException" = 1 from tcd_1]; decide) (fn_q (fun Q zQ => e_L_outcome w (Or.inr ⟨s1, j.1.1, f, zQ⟩)))
  · cases hi
  · cases hi
  · cases hi
theorem lm_hasOutcome (w : Wd σ) (h : Ans_ γ m_X11_hasOutcome 9 [.ref 128, .int x1, .int x2] σ R A' r) (hr : Vk_ true true false false false r) : La_ γ m_L_hasOutcome 10 [.ref 128, .int x1, .int x2, .ref 219] σ R A' eI_ r := by
  obtain ⟨s1, R1, f, j, o⟩ := h
  rcases hr with ⟨v, hb, rfl⟩ | ⟨hi, rfl⟩ | ⟨hi, rfl⟩ | ⟨hi, rfl⟩ | ⟨hi, rfl⟩
  · by_cases hv : v = 0
    · subst hv
      exact la_v j o (x := 0) (show (0 : Int64) = (0 : Int32).toInt64 by decide) (fn_q (fun Q zQ => e_L_hasOutcome w (Or.inl ⟨0, s1, j.1.1, f, fun _ => zQ, fun y => absurd rfl y⟩)))
    · rcases hb rfl with hv2 | hv2
      · exact absurd hv2 hv
      · subst hv2
        exact la_v j o (x := 1) (show (1 : Int64) = (1 : Int32).toInt64 by decide) (fn_q (fun Q zQ => e_L_hasOutcome w (Or.inl ⟨1, s1, j.1.1, f, fun y => absurd y (by decide), fun _ => zQ⟩)))
  · exact la_x (e := eI_) j o (k := (1 : Int32)) (by rw [show eI_ "java/lang/IllegalArgumentException" = 1 from tcd_1]; decide) (fn_q (fun Q zQ => e_L_hasOutcome w (Or.inr ⟨s1, j.1.1, f, zQ⟩)))
  · cases hi
  · cases hi
  · cases hi
theorem lm_extraOutcomes (w : Wd σ) (h : Ans_ γ m_X11_extraOutcomes 9 [.ref 128, .int x1, .int x2] σ R A' r) (hr : Vk_ false true false false false r) : La_ γ m_L_extraOutcomes 10 [.ref 128, .int x1, .int x2, .ref 219] σ R A' eI_ r := by
  obtain ⟨s1, R1, f, j, o⟩ := h
  rcases hr with ⟨v, hb, rfl⟩ | ⟨hi, rfl⟩ | ⟨hi, rfl⟩ | ⟨hi, rfl⟩ | ⟨hi, rfl⟩
  · exact la_v j o (x := v.toInt64) rfl (fn_q (fun Q zQ => e_L_extraOutcomes w (Or.inl ⟨v, s1, j.1.1, f, zQ⟩)))
  · exact la_x (e := eI_) j o (k := (1 : Int32)) (by rw [show eI_ "java/lang/IllegalArgumentException" = 1 from tcd_1]; decide) (fn_q (fun Q zQ => e_L_extraOutcomes w (Or.inr ⟨s1, j.1.1, f, zQ⟩)))
  · cases hi
  · cases hi
  · cases hi
theorem lm_matchCount (w : Wd σ) (h : Ans_ γ m_X11_matchCount 9 [.ref 128, .int x1] σ R A' r) (hr : Vk_ false true false false false r) : La_ γ m_L_matchCount 10 [.ref 128, .int x1, .ref 219] σ R A' eI_ r := by
  obtain ⟨s1, R1, f, j, o⟩ := h
  rcases hr with ⟨v, hb, rfl⟩ | ⟨hi, rfl⟩ | ⟨hi, rfl⟩ | ⟨hi, rfl⟩ | ⟨hi, rfl⟩
  · exact la_v j o (x := v.toInt64) rfl (fn_q (fun Q zQ => e_L_matchCount w (Or.inl ⟨v, s1, j.1.1, f, zQ⟩)))
  · exact la_x (e := eI_) j o (k := (1 : Int32)) (by rw [show eI_ "java/lang/IllegalArgumentException" = 1 from tcd_1]; decide) (fn_q (fun Q zQ => e_L_matchCount w (Or.inr ⟨s1, j.1.1, f, zQ⟩)))
  · cases hi
  · cases hi
  · cases hi
theorem lm_firstMatch (w : Wd σ) (h : Ans_ γ m_X11_firstMatch 9 [.ref 128, .int x1] σ R A' r) (hr : Vk_ false true false false false r) : La_ γ m_L_firstMatch 10 [.ref 128, .int x1, .ref 219] σ R A' eI_ r := by
  obtain ⟨s1, R1, f, j, o⟩ := h
  rcases hr with ⟨v, hb, rfl⟩ | ⟨hi, rfl⟩ | ⟨hi, rfl⟩ | ⟨hi, rfl⟩ | ⟨hi, rfl⟩
  · exact la_v j o (x := v.toInt64) rfl (fn_q (fun Q zQ => e_L_firstMatch w (Or.inl ⟨v, s1, j.1.1, f, zQ⟩)))
  · exact la_x (e := eI_) j o (k := (1 : Int32)) (by rw [show eI_ "java/lang/IllegalArgumentException" = 1 from tcd_1]; decide) (fn_q (fun Q zQ => e_L_firstMatch w (Or.inr ⟨s1, j.1.1, f, zQ⟩)))
  · cases hi
  · cases hi
  · cases hi
theorem lm_stateCount (w : Wd σ) (h : Ans_ γ m_X11_stateCount 9 [.ref 128, .int x1] σ R A' r) (hr : Vk_ false true false false false r) : La_ γ m_L_stateCount 10 [.ref 128, .int x1, .ref 219] σ R A' eI_ r := by
  obtain ⟨s1, R1, f, j, o⟩ := h
  rcases hr with ⟨v, hb, rfl⟩ | ⟨hi, rfl⟩ | ⟨hi, rfl⟩ | ⟨hi, rfl⟩ | ⟨hi, rfl⟩
  · exact la_v j o (x := v.toInt64) rfl (fn_q (fun Q zQ => e_L_stateCount w (Or.inl ⟨v, s1, j.1.1, f, zQ⟩)))
  · exact la_x (e := eI_) j o (k := (1 : Int32)) (by rw [show eI_ "java/lang/IllegalArgumentException" = 1 from tcd_1]; decide) (fn_q (fun Q zQ => e_L_stateCount w (Or.inr ⟨s1, j.1.1, f, zQ⟩)))
  · cases hi
  · cases hi
  · cases hi
theorem lm_executionCount (w : Wd σ) (h : Ans_ γ m_X11_executionCount 9 [.ref 128, .int x1] σ R A' r) (hr : (∃ x : Int64, r = .inl (some (.long x))) ∨ r = iae_) : La_ γ m_L_executionCount 10 [.ref 128, .int x1, .ref 219] σ R A' eJ_ r := by
  obtain ⟨s1, R1, f, j, o⟩ := h
  rcases hr with ⟨v, rfl⟩ | rfl
  · exact la_v j o (x := v) rfl (fn_q (fun Q zQ => e_L_executionCount w (Or.inl ⟨v, s1, j.1.1, f, zQ⟩)))
  · exact la_x (e := eJ_) j o (k := (1 : Int32)) (by rw [show eJ_ "java/lang/IllegalArgumentException" = 1 from tcd_1]; decide) (fn_q (fun Q zQ => e_L_executionCount w (Or.inr ⟨s1, j.1.1, f, zQ⟩)))
theorem lm_executionsWith (w : Wd σ) (h : Ans_ γ m_X11_executionsWith 9 [.ref 128, .int x1, .int x2] σ R A' r) (hr : (∃ x : Int64, r = .inl (some (.long x))) ∨ r = iae_) : La_ γ m_L_executionsWith 10 [.ref 128, .int x1, .int x2, .ref 219] σ R A' eJ_ r := by
  obtain ⟨s1, R1, f, j, o⟩ := h
  rcases hr with ⟨v, rfl⟩ | rfl
  · exact la_v j o (x := v) rfl (fn_q (fun Q zQ => e_L_executionsWith w (Or.inl ⟨v, s1, j.1.1, f, zQ⟩)))
  · exact la_x (e := eJ_) j o (k := (1 : Int32)) (by rw [show eJ_ "java/lang/IllegalArgumentException" = 1 from tcd_1]; decide) (fn_q (fun Q zQ => e_L_executionsWith w (Or.inr ⟨s1, j.1.1, f, zQ⟩)))
theorem lm_readValues (w : Wd σ) (h : Ans_ γ m_X11_readValues 9 [.ref 128, .int x1, .int x2] σ R A' r) (hr : Vk_ false true true true false r) : La_ γ m_L_readValues 10 [.ref 128, .int x1, .int x2, .ref 219] σ R A' eL_ r := by
  obtain ⟨s1, R1, f, j, o⟩ := h
  rcases hr with ⟨v, hb, rfl⟩ | ⟨hi, rfl⟩ | ⟨hi, rfl⟩ | ⟨hi, rfl⟩ | ⟨hi, rfl⟩
  · exact la_v j o (x := v.toInt64) rfl (fn_q (fun Q zQ => e_L_readValues w (Or.inl ⟨v, s1, j.1.1, f, zQ⟩)))
  · exact la_x (e := eL_) j o (k := (1 : Int32)) (by rw [show eL_ "java/lang/IllegalArgumentException" = 1 from tcd_1]; decide) (fn_q (fun Q zQ => e_L_readValues w (Or.inr (Or.inl ⟨s1, j.1.1, f, zQ⟩))))
  · exact la_x (e := eL_) j o (k := (2 : Int32)) (by rw [show eL_ "java/lang/IndexOutOfBoundsException" = 2 from tcd_2]; decide) (fn_q (fun Q zQ => e_L_readValues w (Or.inr (Or.inr (Or.inl ⟨s1, j.1.1, f, zQ⟩)))))
  · exact la_x (e := eL_) j o (k := (3 : Int32)) (by rw [show eL_ "java/util/NoSuchElementException" = 3 from tcd_3]; decide) (fn_q (fun Q zQ => e_L_readValues w (Or.inr (Or.inr (Or.inr ⟨s1, j.1.1, f, zQ⟩)))))
  · cases hi
theorem lm_finalValues (w : Wd σ) (h : Ans_ γ m_X11_finalValues 9 [.ref 128, .int x1, .int x2] σ R A' r) (hr : Vk_ false true true false false r) : La_ γ m_L_finalValues 10 [.ref 128, .int x1, .int x2, .ref 219] σ R A' eL_ r := by
  obtain ⟨s1, R1, f, j, o⟩ := h
  rcases hr with ⟨v, hb, rfl⟩ | ⟨hi, rfl⟩ | ⟨hi, rfl⟩ | ⟨hi, rfl⟩ | ⟨hi, rfl⟩
  · exact la_v j o (x := v.toInt64) rfl (fn_q (fun Q zQ => e_L_finalValues w (Or.inl ⟨v, s1, j.1.1, f, zQ⟩)))
  · exact la_x (e := eL_) j o (k := (1 : Int32)) (by rw [show eL_ "java/lang/IllegalArgumentException" = 1 from tcd_1]; decide) (fn_q (fun Q zQ => e_L_finalValues w (Or.inr (Or.inl ⟨s1, j.1.1, f, zQ⟩))))
  · exact la_x (e := eL_) j o (k := (2 : Int32)) (by rw [show eL_ "java/lang/IndexOutOfBoundsException" = 2 from tcd_2]; decide) (fn_q (fun Q zQ => e_L_finalValues w (Or.inr (Or.inr ⟨s1, j.1.1, f, zQ⟩))))
  · cases hi
  · cases hi
theorem lm_greatestBuffer (w : Wd σ) (h : Ans_ γ m_X11_greatestBuffer 9 [.ref 128, .int x1, .int x2] σ R A' r) (hr : Vk_ false true true false false r) : La_ γ m_L_greatestBuffer 10 [.ref 128, .int x1, .int x2, .ref 219] σ R A' eL_ r := by
  obtain ⟨s1, R1, f, j, o⟩ := h
  rcases hr with ⟨v, hb, rfl⟩ | ⟨hi, rfl⟩ | ⟨hi, rfl⟩ | ⟨hi, rfl⟩ | ⟨hi, rfl⟩
  · exact la_v j o (x := v.toInt64) rfl (fn_q (fun Q zQ => e_L_greatestBuffer w (Or.inl ⟨v, s1, j.1.1, f, zQ⟩)))
  · exact la_x (e := eL_) j o (k := (1 : Int32)) (by rw [show eL_ "java/lang/IllegalArgumentException" = 1 from tcd_1]; decide) (fn_q (fun Q zQ => e_L_greatestBuffer w (Or.inr (Or.inl ⟨s1, j.1.1, f, zQ⟩))))
  · exact la_x (e := eL_) j o (k := (2 : Int32)) (by rw [show eL_ "java/lang/IndexOutOfBoundsException" = 2 from tcd_2]; decide) (fn_q (fun Q zQ => e_L_greatestBuffer w (Or.inr (Or.inr ⟨s1, j.1.1, f, zQ⟩))))
  · cases hi
  · cases hi
theorem lm_isRace (w : Wd σ) (h : Ans_ γ m_X11_isRace 9 [.ref 128, .int x1, .int x2] σ R A' r) (hr : Vk_ true false true false false r) : La_ γ m_L_isRace 10 [.ref 128, .int x1, .int x2, .ref 219] σ R A' eO_ r := by
  obtain ⟨s1, R1, f, j, o⟩ := h
  rcases hr with ⟨v, hb, rfl⟩ | ⟨hi, rfl⟩ | ⟨hi, rfl⟩ | ⟨hi, rfl⟩ | ⟨hi, rfl⟩
  · by_cases hv : v = 0
    · subst hv
      exact la_v j o (x := 0) (show (0 : Int64) = (0 : Int32).toInt64 by decide) (fn_q (fun Q zQ => e_L_isRace w (Or.inl ⟨0, s1, j.1.1, f, fun _ => zQ, fun y => absurd rfl y⟩)))
    · rcases hb rfl with hv2 | hv2
      · exact absurd hv2 hv
      · subst hv2
        exact la_v j o (x := 1) (show (1 : Int64) = (1 : Int32).toInt64 by decide) (fn_q (fun Q zQ => e_L_isRace w (Or.inl ⟨1, s1, j.1.1, f, fun y => absurd y (by decide), fun _ => zQ⟩)))
  · cases hi
  · exact la_x (e := eO_) j o (k := (1 : Int32)) (by rw [show eO_ "java/lang/IndexOutOfBoundsException" = 1 from tcd_2]; decide) (fn_q (fun Q zQ => e_L_isRace w (Or.inr ⟨s1, j.1.1, f, zQ⟩)))
  · cases hi
  · cases hi
theorem lm_matchesWith (w : Wd σ) (h : Ans_ γ m_X11_matchesWith 9 [.ref 128, .int x1, .int x2] σ R A' r) (hr : Vk_ false true false false false r) : La_ γ m_L_matchesWith 10 [.ref 128, .int x1, .int x2, .ref 219] σ R A' eI_ r := by
  obtain ⟨s1, R1, f, j, o⟩ := h
  rcases hr with ⟨v, hb, rfl⟩ | ⟨hi, rfl⟩ | ⟨hi, rfl⟩ | ⟨hi, rfl⟩ | ⟨hi, rfl⟩
  · exact la_v j o (x := v.toInt64) rfl (fn_q (fun Q zQ => e_L_matchesWith w (Or.inl ⟨v, s1, j.1.1, f, zQ⟩)))
  · exact la_x (e := eI_) j o (k := (1 : Int32)) (by rw [show eI_ "java/lang/IllegalArgumentException" = 1 from tcd_1]; decide) (fn_q (fun Q zQ => e_L_matchesWith w (Or.inr ⟨s1, j.1.1, f, zQ⟩)))
  · cases hi
  · cases hi
  · cases hi
theorem lm_fewestFences (w : Wd σ) (h : Ans_ γ m_X11_fewestFences 10 [.ref 128, .int x1] σ R A' r) (hr : Vk_ false true false false false r) : La_ γ m_L_fewestFences 11 [.ref 128, .int x1, .ref 219] σ R A' eI_ r := by
  obtain ⟨s1, R1, f, j, o⟩ := h
  rcases hr with ⟨v, hb, rfl⟩ | ⟨hi, rfl⟩ | ⟨hi, rfl⟩ | ⟨hi, rfl⟩ | ⟨hi, rfl⟩
  · exact la_v j o (x := v.toInt64) rfl (fn_q (fun Q zQ => e_L_fewestFences w (Or.inl ⟨v, s1, j.1.1, f, zQ⟩)))
  · exact la_x (e := eI_) j o (k := (1 : Int32)) (by rw [show eI_ "java/lang/IllegalArgumentException" = 1 from tcd_1]; decide) (fn_q (fun Q zQ => e_L_fewestFences w (Or.inr ⟨s1, j.1.1, f, zQ⟩)))
  · cases hi
  · cases hi
  · cases hi
theorem lm_repairingFences (w : Wd σ) (h : Ans_ γ m_X11_repairingFences 9 [.ref 128, .int x1] σ R A' r) (hr : Vk_ false true false false false r) : La_ γ m_L_repairingFences 10 [.ref 128, .int x1, .ref 219] σ R A' eI_ r := by
  obtain ⟨s1, R1, f, j, o⟩ := h
  rcases hr with ⟨v, hb, rfl⟩ | ⟨hi, rfl⟩ | ⟨hi, rfl⟩ | ⟨hi, rfl⟩ | ⟨hi, rfl⟩
  · exact la_v j o (x := v.toInt64) rfl (fn_q (fun Q zQ => e_L_repairingFences w (Or.inl ⟨v, s1, j.1.1, f, zQ⟩)))
  · exact la_x (e := eI_) j o (k := (1 : Int32)) (by rw [show eI_ "java/lang/IllegalArgumentException" = 1 from tcd_1]; decide) (fn_q (fun Q zQ => e_L_repairingFences w (Or.inr ⟨s1, j.1.1, f, zQ⟩)))
  · cases hi
  · cases hi
  · cases hi
theorem lm_isFenceNeeded (w : Wd σ) (h : Ans_ γ m_X11_isFenceNeeded 9 [.ref 128, .int x1, .int x2] σ R A' r) (hr : Vk_ true true true true false r) : La_ γ m_L_isFenceNeeded 10 [.ref 128, .int x1, .int x2, .ref 219] σ R A' eL_ r := by
  obtain ⟨s1, R1, f, j, o⟩ := h
  rcases hr with ⟨v, hb, rfl⟩ | ⟨hi, rfl⟩ | ⟨hi, rfl⟩ | ⟨hi, rfl⟩ | ⟨hi, rfl⟩
  · by_cases hv : v = 0
    · subst hv
      exact la_v j o (x := 0) (show (0 : Int64) = (0 : Int32).toInt64 by decide) (fn_q (fun Q zQ => e_L_isFenceNeeded w (Or.inl ⟨0, s1, j.1.1, f, fun _ => zQ, fun y => absurd rfl y⟩)))
    · rcases hb rfl with hv2 | hv2
      · exact absurd hv2 hv
      · subst hv2
        exact la_v j o (x := 1) (show (1 : Int64) = (1 : Int32).toInt64 by decide) (fn_q (fun Q zQ => e_L_isFenceNeeded w (Or.inl ⟨1, s1, j.1.1, f, fun y => absurd y (by decide), fun _ => zQ⟩)))
  · exact la_x (e := eL_) j o (k := (1 : Int32)) (by rw [show eL_ "java/lang/IllegalArgumentException" = 1 from tcd_1]; decide) (fn_q (fun Q zQ => e_L_isFenceNeeded w (Or.inr (Or.inl ⟨s1, j.1.1, f, zQ⟩))))
  · exact la_x (e := eL_) j o (k := (2 : Int32)) (by rw [show eL_ "java/lang/IndexOutOfBoundsException" = 2 from tcd_2]; decide) (fn_q (fun Q zQ => e_L_isFenceNeeded w (Or.inr (Or.inr (Or.inl ⟨s1, j.1.1, f, zQ⟩)))))
  · exact la_x (e := eL_) j o (k := (3 : Int32)) (by rw [show eL_ "java/util/NoSuchElementException" = 3 from tcd_3]; decide) (fn_q (fun Q zQ => e_L_isFenceNeeded w (Or.inr (Or.inr (Or.inr ⟨s1, j.1.1, f, zQ⟩)))))
  · cases hi
theorem lm_insertFence (w : Wd σ) (h : Ans_ γ m_X11_insertFence 8 [.ref 128, .int x1] σ R A' r) (hr : Vk_ false false true false true r) : La_ γ m_L_insertFence 9 [.ref 128, .int x1, .ref 219] σ R A' eI3_ r := by
  obtain ⟨s1, R1, f, j, o⟩ := h
  rcases hr with ⟨v, hb, rfl⟩ | ⟨hi, rfl⟩ | ⟨hi, rfl⟩ | ⟨hi, rfl⟩ | ⟨hi, rfl⟩
  · exact la_v j o (x := v.toInt64) rfl (fn_q (fun Q zQ => e_L_insertFence w (Or.inl ⟨v, s1, j.1.1, f, zQ⟩)))
  · cases hi
  · exact la_x (e := eI3_) j o (k := (1 : Int32)) (by rw [show eI3_ "java/lang/IndexOutOfBoundsException" = 1 from tcd_2]; decide) (fn_q (fun Q zQ => e_L_insertFence w (Or.inr (Or.inr ⟨s1, j.1.1, f, zQ⟩))))
  · cases hi
  · exact la_x (e := eI3_) j o (k := (2 : Int32)) (by rw [show eI3_ "java/lang/IllegalStateException" = 2 from tcd_4]; decide) (fn_q (fun Q zQ => e_L_insertFence w (Or.inr (Or.inl ⟨s1, j.1.1, f, zQ⟩))))
theorem lm_removeFence (w : Wd σ) (h : Ans_ γ m_X11_removeFence 9 [.ref 128, .int x1] σ R A' r) (hr : Vk_ false false true true false r) : La_ γ m_L_removeFence 10 [.ref 128, .int x1, .ref 219] σ R A' eO_ r := by
  obtain ⟨s1, R1, f, j, o⟩ := h
  rcases hr with ⟨v, hb, rfl⟩ | ⟨hi, rfl⟩ | ⟨hi, rfl⟩ | ⟨hi, rfl⟩ | ⟨hi, rfl⟩
  · exact la_v j o (x := v.toInt64) rfl (fn_q (fun Q zQ => e_L_removeFence w (Or.inl ⟨v, s1, j.1.1, f, zQ⟩)))
  · cases hi
  · exact la_x (e := eO_) j o (k := (1 : Int32)) (by rw [show eO_ "java/lang/IndexOutOfBoundsException" = 1 from tcd_2]; decide) (fn_q (fun Q zQ => e_L_removeFence w (Or.inr (Or.inl ⟨s1, j.1.1, f, zQ⟩))))
  · exact la_x (e := eO_) j o (k := (2 : Int32)) (by rw [show eO_ "java/util/NoSuchElementException" = 2 from tcd_3]; decide) (fn_q (fun Q zQ => e_L_removeFence w (Or.inr (Or.inr ⟨s1, j.1.1, f, zQ⟩))))
  · cases hi
theorem lm_explain (w : Wd σ) (h : Ans_ γ m_X11_explain 82 [.ref 128, .int x1, .int x2] σ R A' r) (hr : Vk_ false true false false false r) : La_ γ m_L_explain 83 [.ref 128, .int x1, .int x2, .ref 219] σ R A' eI_ r := by
  obtain ⟨s1, R1, f, j, o⟩ := h
  rcases hr with ⟨v, hb, rfl⟩ | ⟨hi, rfl⟩ | ⟨hi, rfl⟩ | ⟨hi, rfl⟩ | ⟨hi, rfl⟩
  · exact la_v j o (x := v.toInt64) rfl (fn_q (fun Q zQ => e_L_explain w (Or.inl ⟨v, s1, j.1.1, f, zQ⟩)))
  · exact la_x (e := eI_) j o (k := (1 : Int32)) (by rw [show eI_ "java/lang/IllegalArgumentException" = 1 from tcd_1]; decide) (fn_q (fun Q zQ => e_L_explain w (Or.inr ⟨s1, j.1.1, f, zQ⟩)))
  · cases hi
  · cases hi
  · cases hi
theorem lm_readsFrom (w : Wd σ) (h : Ans_ γ m_X11_readsFrom 9 [.ref 128, .int x1] σ R A' r) (hr : Vk_ false false true true false r) : La_ γ m_L_readsFrom 10 [.ref 128, .int x1, .ref 219] σ R A' eO_ r := by
  obtain ⟨s1, R1, f, j, o⟩ := h
  rcases hr with ⟨v, hb, rfl⟩ | ⟨hi, rfl⟩ | ⟨hi, rfl⟩ | ⟨hi, rfl⟩ | ⟨hi, rfl⟩
  · exact la_v j o (x := v.toInt64) rfl (fn_q (fun Q zQ => e_L_readsFrom w (Or.inl ⟨v, s1, j.1.1, f, zQ⟩)))
  · cases hi
  · exact la_x (e := eO_) j o (k := (1 : Int32)) (by rw [show eO_ "java/lang/IndexOutOfBoundsException" = 1 from tcd_2]; decide) (fn_q (fun Q zQ => e_L_readsFrom w (Or.inr (Or.inl ⟨s1, j.1.1, f, zQ⟩))))
  · exact la_x (e := eO_) j o (k := (2 : Int32)) (by rw [show eO_ "java/util/NoSuchElementException" = 2 from tcd_3]; decide) (fn_q (fun Q zQ => e_L_readsFrom w (Or.inr (Or.inr ⟨s1, j.1.1, f, zQ⟩))))
  · cases hi
theorem lm_writtenBy (w : Wd σ) (h : Ans_ γ m_X11_writtenBy 9 [.ref 128, .int x1, .int x2] σ R A' r) (hr : Vk_ false false true false false r) : La_ γ m_L_writtenBy 10 [.ref 128, .int x1, .int x2, .ref 219] σ R A' eO_ r := by
  obtain ⟨s1, R1, f, j, o⟩ := h
  rcases hr with ⟨v, hb, rfl⟩ | ⟨hi, rfl⟩ | ⟨hi, rfl⟩ | ⟨hi, rfl⟩ | ⟨hi, rfl⟩
  · exact la_v j o (x := v.toInt64) rfl (fn_q (fun Q zQ => e_L_writtenBy w (Or.inl ⟨v, s1, j.1.1, f, zQ⟩)))
  · cases hi
  · exact la_x (e := eO_) j o (k := (1 : Int32)) (by rw [show eO_ "java/lang/IndexOutOfBoundsException" = 1 from tcd_2]; decide) (fn_q (fun Q zQ => e_L_writtenBy w (Or.inr ⟨s1, j.1.1, f, zQ⟩)))
  · cases hi
  · cases hi
end LM
