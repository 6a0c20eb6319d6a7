/-! the law's cases -/
section LC
variable {γ : ga_T} {nm : String} {l4 x3 x4 x5 : Int32} {σ : st_T} {A : ca_T} {R : rt_T} {c : Nat} {Q : rs_T → st_T → Prop} {z1 z2 : Int}
theorem lc_1 (I : J_ σ A R) (hj : Jr_ σ A c) (g : Gd_ A) (hc : c < 1000000000) (nx : Nx_ γ nm l4 Q σ R c) (v1 : vp_in (l4 + (1 : Int32)) (ga_L γ)) (b1 : -2147483648 ≤ z1 ∧ z1 < 2147483648) :
      vp_in (l4 + (1 : Int32)) (ga_L γ) ∧
      ∃ (v23 : Int32) (s21 : st_T), Wd s21 ∧ fn_ γ m_X11_truncate 0 [.ref 128, .int (i_ z1)] σ (.int v23) s21 ∧
      vp_in (l4 + (1 : Int32)) (ga_L γ) ∧
      ∃ (v27 : Int32) (s25 : st_T), Wd s25 ∧ fn_ γ m_X12_truncate 1 [.ref 185, .int (i_ z1)] s21 (.int v27) s25 ∧
      (v23 = v27 →
        vv_ γ (m_law nm) 84 23 [(0, .ref 22), (1, .ref 128), (2, .ref 185), (3, .ref 219), (4, .int (l4 + 6))] [] s25 Q
      ) ∧ (¬ v23 = v27 →
        Q (.inl (some (.int (0 : Int32)))) s25
      ) := by
  have zP := I.2.1.2.1
  have hN := I.2.1.2.2.1
  have gc : Gc_ (aP_ A) := I.2.1.2.2.2
  have hb := bz_all zP
  have hq := bq_of zP hb
  have hB : ∀ i, i < an2_ A → -128 ≤ aB_ A i ∧ aB_ A i < 128 := fun i zi => (I.1.2.1.2 i zi).2
  have h8 := I.2.2.1.2.1.1
  exact ⟨v1, cs_1 (c_truncate I b1) (fun s1 R1 j1 o1 => ⟨v1, cs_2 (e := eI_) (r_truncate (jr_cq j1.1.1 o1 hj) b1) (fun s2 c2 j2 b2 o2 => ⟨fun _ => nx s2 _ _ c2 (j_ro o2 j1) j2 (by split <;> exact g) b2 (cz_ro o2 o1.2), fun y => absurd rfl y⟩)⟩)⟩
theorem lc_4 (I : J_ σ A R) (hj : Jr_ σ A c) (g : Gd_ A) (hc : c < 1000000000) (nx : Nx_ γ nm l4 Q σ R c) :
      ∃ (v45 : Int32) (s43 : st_T), Wd s43 ∧ fn_ γ m_X11_threadCount 1 [.ref 128] σ (.int v45) s43 ∧
      ∃ (v48 : Int32) (s46 : st_T), Wd s46 ∧ fn_ γ m_X12_threadCount 0 [.ref 185] s43 (.int v48) s46 ∧
      (v45 = v48 →
        vv_ γ (m_law nm) 84 23 [(0, .ref 22), (1, .ref 128), (2, .ref 185), (3, .ref 219), (4, .int (l4 + 6))] [] s46 Q
      ) ∧ (¬ v45 = v48 →
        Q (.inl (some (.int (0 : Int32)))) s46
      ) := by
  have zP := I.2.1.2.1
  have hN := I.2.1.2.2.1
  have gc : Gc_ (aP_ A) := I.2.1.2.2.2
  have hb := bz_all zP
  have hq := bq_of zP hb
  have hB : ∀ i, i < an2_ A → -128 ≤ aB_ A i ∧ aB_ A i < 128 := fun i zi => (I.1.2.1.2 i zi).2
  have h8 := I.2.2.1.2.1.1
  exact cs_1 (c_threadCount I) (fun s1 R1 j1 o1 => cs_2 (e := eI_) (r_threadCount (jr_cq j1.1.1 o1 hj)) (fun s2 c2 j2 b2 o2 => ⟨fun _ => nx s2 _ _ c2 (j_ro o2 j1) j2 g b2 (cz_ro o2 o1.2), fun y => absurd rfl y⟩))
theorem lc_5 (I : J_ σ A R) (hj : Jr_ σ A c) (g : Gd_ A) (hc : c < 1000000000) (nx : Nx_ γ nm l4 Q σ R c) :
      ∃ (v52 : Int32) (s50 : st_T), Wd s50 ∧ fn_ γ m_X11_locationCount 1 [.ref 128] σ (.int v52) s50 ∧
      ∃ (v55 : Int32) (s53 : st_T), Wd s53 ∧ fn_ γ m_X12_locationCount 0 [.ref 185] s50 (.int v55) s53 ∧
      (v52 = v55 →
        vv_ γ (m_law nm) 84 23 [(0, .ref 22), (1, .ref 128), (2, .ref 185), (3, .ref 219), (4, .int (l4 + 6))] [] s53 Q
      ) ∧ (¬ v52 = v55 →
        Q (.inl (some (.int (0 : Int32)))) s53
      ) := by
  have zP := I.2.1.2.1
  have hN := I.2.1.2.2.1
  have gc : Gc_ (aP_ A) := I.2.1.2.2.2
  have hb := bz_all zP
  have hq := bq_of zP hb
  have hB : ∀ i, i < an2_ A → -128 ≤ aB_ A i ∧ aB_ A i < 128 := fun i zi => (I.1.2.1.2 i zi).2
  have h8 := I.2.2.1.2.1.1
  exact cs_1 (c_locationCount I) (fun s1 R1 j1 o1 => cs_2 (e := eI_) (r_locationCount (jr_cq j1.1.1 o1 hj)) (fun s2 c2 j2 b2 o2 => ⟨fun _ => nx s2 _ _ c2 (j_ro o2 j1) j2 g b2 (cz_ro o2 o1.2), fun y => absurd rfl y⟩))
theorem lc_6 (I : J_ σ A R) (hj : Jr_ σ A c) (g : Gd_ A) (hc : c < 1000000000) (nx : Nx_ γ nm l4 Q σ R c) :
      ∃ (v59 : Int32) (s57 : st_T), Wd s57 ∧ fn_ γ m_X11_instructionCount 1 [.ref 128] σ (.int v59) s57 ∧
      ∃ (v62 : Int32) (s60 : st_T), Wd s60 ∧ fn_ γ m_X12_instructionCount 0 [.ref 185] s57 (.int v62) s60 ∧
      (v59 = v62 →
        vv_ γ (m_law nm) 84 23 [(0, .ref 22), (1, .ref 128), (2, .ref 185), (3, .ref 219), (4, .int (l4 + 6))] [] s60 Q
      ) ∧ (¬ v59 = v62 →
        Q (.inl (some (.int (0 : Int32)))) s60
      ) := by
  have zP := I.2.1.2.1
  have hN := I.2.1.2.2.1
  have gc : Gc_ (aP_ A) := I.2.1.2.2.2
  have hb := bz_all zP
  have hq := bq_of zP hb
  have hB : ∀ i, i < an2_ A → -128 ≤ aB_ A i ∧ aB_ A i < 128 := fun i zi => (I.1.2.1.2 i zi).2
  have h8 := I.2.2.1.2.1.1
  exact cs_1 (c_instructionCount I) (fun s1 R1 j1 o1 => cs_2 (e := eI_) (r_instructionCount (jr_cq j1.1.1 o1 hj)) (fun s2 c2 j2 b2 o2 => ⟨fun _ => nx s2 _ _ c2 (j_ro o2 j1) j2 g b2 (cz_ro o2 o1.2), fun y => absurd rfl y⟩))
theorem lc_8 (I : J_ σ A R) (hj : Jr_ σ A c) (g : Gd_ A) (hc : c < 1000000000) (nx : Nx_ γ nm l4 Q σ R c) :
      ∃ (v82 : Int32) (s80 : st_T), Wd s80 ∧ fn_ γ m_X11_findLocation 1 [.ref 128] σ (.int v82) s80 ∧
      ∃ (v85 : Int32) (s83 : st_T), Wd s83 ∧ fn_ γ m_X12_findLocation 1 [.ref 185] s80 (.int v85) s83 ∧
      (v82 = v85 →
        vv_ γ (m_law nm) 84 23 [(0, .ref 22), (1, .ref 128), (2, .ref 185), (3, .ref 219), (4, .int (l4 + 6))] [] s83 Q
      ) ∧ (¬ v82 = v85 →
        Q (.inl (some (.int (0 : Int32)))) s83
      ) := by
  have zP := I.2.1.2.1
  have hN := I.2.1.2.2.1
  have gc : Gc_ (aP_ A) := I.2.1.2.2.2
  have hb := bz_all zP
  have hq := bq_of zP hb
  have hB : ∀ i, i < an2_ A → -128 ≤ aB_ A i ∧ aB_ A i < 128 := fun i zi => (I.1.2.1.2 i zi).2
  have h8 := I.2.2.1.2.1.1
  exact cs_1 (c_findLocation I) (fun s1 R1 j1 o1 => cs_2 (e := eI_) (r_findLocation (jr_cq j1.1.1 o1 hj) hN hB) (fun s2 c2 j2 b2 o2 => ⟨fun _ => nx s2 _ _ c2 (j_ro o2 j1) j2 g b2 (cz_ro o2 o1.2), fun y => absurd rfl y⟩))
theorem lc_9 (I : J_ σ A R) (hj : Jr_ σ A c) (g : Gd_ A) (hc : c < 1000000000) (nx : Nx_ γ nm l4 Q σ R c) :
      ∃ (v89 : Int32) (s87 : st_T), Wd s87 ∧ fn_ γ m_X11_write 16 [.ref 128] σ (.int v89) s87 ∧
      ∃ (v92 : Int32) (s90 : st_T), Wd s90 ∧ fn_ γ m_X12_write 16 [.ref 185] s87 (.int v92) s90 ∧
      (v89 = v92 →
        vv_ γ (m_law nm) 84 23 [(0, .ref 22), (1, .ref 128), (2, .ref 185), (3, .ref 219), (4, .int (l4 + 6))] [] s90 Q
      ) ∧ (¬ v89 = v92 →
        Q (.inl (some (.int (0 : Int32)))) s90
      ) := by
  have zP := I.2.1.2.1
  have hN := I.2.1.2.2.1
  have gc : Gc_ (aP_ A) := I.2.1.2.2.2
  have hb := bz_all zP
  have hq := bq_of zP hb
  have hB : ∀ i, i < an2_ A → -128 ≤ aB_ A i ∧ aB_ A i < 128 := fun i zi => (I.1.2.1.2 i zi).2
  have h8 := I.2.2.1.2.1.1
  exact cs_1 (c_write I) (fun s1 R1 j1 o1 => cs_2 (e := eI_) (r_write (jr_cq j1.1.1 o1 hj) zP hN) (fun s2 c2 j2 b2 o2 => ⟨fun _ => nx s2 _ _ c2 (j_ro o2 j1) j2 g b2 (cz_ro o2 o1.2), fun y => absurd rfl y⟩))
theorem lc_10 (I : J_ σ A R) (hj : Jr_ σ A c) (g : Gd_ A) (hc : c < 1000000000) (nx : Nx_ γ nm l4 Q σ R c) (v1 : vp_in (l4 + (1 : Int32)) (ga_L γ)) (b1 : -2147483648 ≤ z1 ∧ z1 < 2147483648) :
      vp_in (l4 + (1 : Int32)) (ga_L γ) ∧
      ∃ (v97 : Int32) (s95 : st_T), Wd s95 ∧ fn_ γ m_L_outputByte 9 [.ref 128, .int (i_ z1), .ref 219] σ (.int v97) s95 ∧
      vp_in (l4 + (1 : Int32)) (ga_L γ) ∧
      ∃ (v101 : Int32) (s99 : st_T), Wd s99 ∧ fn_ γ m_X12_outputByte 1 [.ref 185, .int (i_ z1)] s95 (.int v101) s99 ∧
      ∃ (v104 : Int32) (s102 : st_T), Wd s102 ∧ fn_ γ m_X12_thrown 0 [.ref 185] s99 (.int v104) s102 ∧
      (v104 = v97 →
        (v97 = (0 : Int32) →
          ((st_L s102 219 0) = (v101.toInt64) →
            vv_ γ (m_law nm) 84 23 [(0, .ref 22), (1, .ref 128), (2, .ref 185), (3, .ref 219), (4, .int (l4 + 6))] [] s102 Q
          ) ∧ (¬ (st_L s102 219 0) = (v101.toInt64) →
            Q (.inl (some (.int (0 : Int32)))) s102
          )
        ) ∧ (¬ v97 = (0 : Int32) →
          vv_ γ (m_law nm) 84 23 [(0, .ref 22), (1, .ref 128), (2, .ref 185), (3, .ref 219), (4, .int (l4 + 6))] [] s102 Q
        )
      ) ∧ (¬ v104 = v97 →
        Q (.inl (some (.int (0 : Int32)))) s102
      ) := by
  have zP := I.2.1.2.1
  have hN := I.2.1.2.2.1
  have gc : Gc_ (aP_ A) := I.2.1.2.2.2
  have hb := bz_all zP
  have hq := bq_of zP hb
  have hB : ∀ i, i < an2_ A → -128 ≤ aB_ A i ∧ aB_ A i < 128 := fun i zi => (I.1.2.1.2 i zi).2
  have h8 := I.2.2.1.2.1.1
  exact ⟨v1, cs_L (lm_outputByte I.1.1 (c_outputByte I b1) (vr_if (fun _ => vr_ri _) (fun _ => vr_nse))) (fun s1 R1 j1 o1 v => ⟨v1, ct_i (r_outputByte (jr_cq j1.1.1 o1 hj) I.2.2.1.1.1 b1) v (by decide) (vr_if (fun _ => vr_ri _) (fun _ => vr_nse)) ve_N (fun s2 c2 j2 b2 o2 => nx s2 _ _ c2 (j_ro o2 j1) j2 g b2 (cz_ro o2 o1.2))⟩)⟩
theorem lc_11 (I : J_ σ A R) (hj : Jr_ σ A c) (g : Gd_ A) (hc : c < 1000000000) (nx : Nx_ γ nm l4 Q σ R c) (v1 : vp_in (l4 + (1 : Int32)) (ga_L γ)) (b1 : -2147483648 ≤ z1 ∧ z1 < 2147483648) :
      vp_in (l4 + (1 : Int32)) (ga_L γ) ∧
      ∃ (v111 : Int32) (s109 : st_T), Wd s109 ∧ fn_ γ m_L_outcomeCount 10 [.ref 128, .int (i_ z1), .ref 219] σ (.int v111) s109 ∧
      vp_in (l4 + (1 : Int32)) (ga_L γ) ∧
      ∃ (v115 : Int32) (s113 : st_T), Wd s113 ∧ fn_ γ m_X12_outcomeCount 7 [.ref 185, .int (i_ z1)] s109 (.int v115) s113 ∧
      ∃ (v118 : Int32) (s116 : st_T), Wd s116 ∧ fn_ γ m_X12_thrown 0 [.ref 185] s113 (.int v118) s116 ∧
      (v118 = v111 →
        (v111 = (0 : Int32) →
          ((st_L s116 219 0) = (v115.toInt64) →
            vv_ γ (m_law nm) 84 23 [(0, .ref 22), (1, .ref 128), (2, .ref 185), (3, .ref 219), (4, .int (l4 + 6))] [] s116 Q
          ) ∧ (¬ (st_L s116 219 0) = (v115.toInt64) →
            Q (.inl (some (.int (0 : Int32)))) s116
          )
        ) ∧ (¬ v111 = (0 : Int32) →
          vv_ γ (m_law nm) 84 23 [(0, .ref 22), (1, .ref 128), (2, .ref 185), (3, .ref 219), (4, .int (l4 + 6))] [] s116 Q
        )
      ) ∧ (¬ v118 = v111 →
        Q (.inl (some (.int (0 : Int32)))) s116
      ) := by
  have zP := I.2.1.2.1
  have hN := I.2.1.2.2.1
  have gc : Gc_ (aP_ A) := I.2.1.2.2.2
  have hb := bz_all zP
  have hq := bq_of zP hb
  have hB : ∀ i, i < an2_ A → -128 ≤ aB_ A i ∧ aB_ A i < 128 := fun i zi => (I.1.2.1.2 i zi).2
  have h8 := I.2.2.1.2.1.1
  exact ⟨v1, cs_L (lm_outcomeCount I.1.1 (c_outcomeCount I hq b1) (vr_mq (fun _ _ => vr_ri _))) (fun s1 R1 j1 o1 v => ⟨v1, ct_i (r_outcomeCount (jr_cq j1.1.1 o1 hj) (by omega) zP hb b1) v (by decide) (vr_mq (fun _ _ => vr_ri _)) ve_I (fun s2 c2 j2 b2 o2 => nx s2 _ _ c2 (j_ro o2 j1) j2 g b2 (cz_ro o2 o1.2))⟩)⟩
theorem lc_12 (I : J_ σ A R) (hj : Jr_ σ A c) (g : Gd_ A) (hc : c < 1000000000) (nx : Nx_ γ nm l4 Q σ R c) (v1 : vp_in (l4 + (1 : Int32)) (ga_L γ)) (v2 : vp_in (l4 + (2 : Int32)) (ga_L γ)) (b1 : -2147483648 ≤ z1 ∧ z1 < 2147483648) (b2 : -2147483648 ≤ z2 ∧ z2 < 2147483648) :
      vp_in (l4 + (1 : Int32)) (ga_L γ) ∧
      vp_in (l4 + (2 : Int32)) (ga_L γ) ∧
      ∃ (v126 : Int32) (s124 : st_T), Wd s124 ∧ fn_ γ m_L_outcome 10 [.ref 128, .int (i_ z1), .int (i_ z2), .ref 219] σ (.int v126) s124 ∧
      vp_in (l4 + (1 : Int32)) (ga_L γ) ∧
      vp_in (l4 + (2 : Int32)) (ga_L γ) ∧
      ∃ (v131 : Int32) (s129 : st_T), Wd s129 ∧ fn_ γ m_X12_outcome 7 [.ref 185, .int (i_ z1), .int (i_ z2)] s124 (.int v131) s129 ∧
      ∃ (v134 : Int32) (s132 : st_T), Wd s132 ∧ fn_ γ m_X12_thrown 0 [.ref 185] s129 (.int v134) s132 ∧
      (v134 = v126 →
        (v126 = (0 : Int32) →
          ((st_L s132 219 0) = (v131.toInt64) →
            vv_ γ (m_law nm) 84 23 [(0, .ref 22), (1, .ref 128), (2, .ref 185), (3, .ref 219), (4, .int (l4 + 6))] [] s132 Q
          ) ∧ (¬ (st_L s132 219 0) = (v131.toInt64) →
            Q (.inl (some (.int (0 : Int32)))) s132
          )
        ) ∧ (¬ v126 = (0 : Int32) →
          vv_ γ (m_law nm) 84 23 [(0, .ref 22), (1, .ref 128), (2, .ref 185), (3, .ref 219), (4, .int (l4 + 6))] [] s132 Q
        )
      ) ∧ (¬ v134 = v126 →
        Q (.inl (some (.int (0 : Int32)))) s132
      ) := by
  have zP := I.2.1.2.1
  have hN := I.2.1.2.2.1
  have gc : Gc_ (aP_ A) := I.2.1.2.2.2
  have hb := bz_all zP
  have hq := bq_of zP hb
  have hB : ∀ i, i < an2_ A → -128 ≤ aB_ A i ∧ aB_ A i < 128 := fun i zi => (I.1.2.1.2 i zi).2
  have h8 := I.2.2.1.2.1.1
  exact ⟨v1, v2, cs_L (lm_outcome I.1.1 (c_outcome I hq b1 b2) (vr_mq (fun _ _ => vr_ri _))) (fun s1 R1 j1 o1 v => ⟨v1, v2, ct_i (r_outcome (jr_cq j1.1.1 o1 hj) (by omega) zP hb b1 b2) v (by decide) (vr_mq (fun _ _ => vr_ri _)) ve_I (fun s2 c2 j2 b2 o2 => nx s2 _ _ c2 (j_ro o2 j1) j2 g b2 (cz_ro o2 o1.2))⟩)⟩
end LC
