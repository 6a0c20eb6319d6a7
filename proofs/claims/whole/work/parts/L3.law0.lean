/-! the law's cases -/
section LC
variable {γ : ga_T} {nm : String} {l4 x3 x4 x5 : Int32} {σ : st_T} {A : ca_T} {R : rt_T} {c : Nat} {Q : rs_T → st_T → Prop} {z1 z2 : Int}
theorem lc_2 (I : J_ σ A R) (hj : Jr_ σ A c) (g : Gd_ A) (hc : c < 1000000000) (nx : Nx_ γ nm l4 Q σ R c) :
      ∃ (v31 : Int32) (s29 : st_T), Wd s29 ∧ fn_ γ m_X11_bufferLength 0 [.ref 128] σ (.int v31) s29 ∧
      ∃ (v34 : Int32) (s32 : st_T), Wd s32 ∧ fn_ γ m_X12_bufferLength 0 [.ref 185] s29 (.int v34) s32 ∧
      (v31 = v34 →
        vv_ γ (m_law nm) 84 23 [(0, .ref 22), (1, .ref 128), (2, .ref 185), (3, .ref 219), (4, .int (l4 + 6))] [] s32 Q
      ) ∧ (¬ v31 = v34 →
        Q (.inl (some (.int (0 : Int32)))) s32
      ) := by
  have zP := I.2.1.2.1
  have hN := I.2.1.2.2.1
  have gc : Gc_ (aP_ A) := I.2.1.2.2.2
  have hb := bz_all zP
  have hq := bq_of zP hb
  have hB : ∀ i, i < an2_ A → -128 ≤ aB_ A i ∧ aB_ A i < 128 := fun i zi => (I.1.2.1.2 i zi).2
  have h8 := I.2.2.1.2.1.1
  exact cs_1 (c_bufferLength I) (fun s1 R1 j1 o1 => cs_2 (e := eI_) (r_bufferLength (jr_cq j1.1.1 o1 hj)) (fun s2 c2 j2 b2 o2 => ⟨fun _ => nx s2 _ _ c2 (j_ro o2 j1) j2 g b2 (cz_ro o2 o1.2), fun y => absurd rfl y⟩))
theorem lc_7 (I : J_ σ A R) (hj : Jr_ σ A c) (g : Gd_ A) (hc : c < 1000000000) (nx : Nx_ γ nm l4 Q σ R c) (v1 : vp_in (l4 + (1 : Int32)) (ga_L γ)) (v2 : vp_in (l4 + (2 : Int32)) (ga_L γ)) (b1 : -2147483648 ≤ z1 ∧ z1 < 2147483648) (b2 : -2147483648 ≤ z2 ∧ z2 < 2147483648) :
      vp_in (l4 + (1 : Int32)) (ga_L γ) ∧
      vp_in (l4 + (2 : Int32)) (ga_L γ) ∧
      ∃ (v68 : Int32) (s66 : st_T), Wd s66 ∧ fn_ γ m_L_instruction 10 [.ref 128, .int (i_ z1), .int (i_ z2), .ref 219] σ (.int v68) s66 ∧
      vp_in (l4 + (1 : Int32)) (ga_L γ) ∧
      vp_in (l4 + (2 : Int32)) (ga_L γ) ∧
      ∃ (v73 : Int32) (s71 : st_T), Wd s71 ∧ fn_ γ m_X12_instruction 2 [.ref 185, .int (i_ z1), .int (i_ z2)] s66 (.int v73) s71 ∧
      ∃ (v76 : Int32) (s74 : st_T), Wd s74 ∧ fn_ γ m_X12_thrown 0 [.ref 185] s71 (.int v76) s74 ∧
      (v76 = v68 →
        (v68 = (0 : Int32) →
          ((st_L s74 219 0) = (v73.toInt64) →
            vv_ γ (m_law nm) 84 23 [(0, .ref 22), (1, .ref 128), (2, .ref 185), (3, .ref 219), (4, .int (l4 + 6))] [] s74 Q
          ) ∧ (¬ (st_L s74 219 0) = (v73.toInt64) →
            Q (.inl (some (.int (0 : Int32)))) s74
          )
        ) ∧ (¬ v68 = (0 : Int32) →
          vv_ γ (m_law nm) 84 23 [(0, .ref 22), (1, .ref 128), (2, .ref 185), (3, .ref 219), (4, .int (l4 + 6))] [] s74 Q
        )
      ) ∧ (¬ v76 = v68 →
        Q (.inl (some (.int (0 : Int32)))) s74
      ) := by
  have zP := I.2.1.2.1
  have hN := I.2.1.2.2.1
  have gc : Gc_ (aP_ A) := I.2.1.2.2.2
  have hb := bz_all zP
  have hq := bq_of zP hb
  have hB : ∀ i, i < an2_ A → -128 ≤ aB_ A i ∧ aB_ A i < 128 := fun i zi => (I.1.2.1.2 i zi).2
  have h8 := I.2.2.1.2.1.1
  exact ⟨v1, v2, cs_L (lm_instruction I.1.1 (c_instruction I b1 b2) (vr_im (fun _ _ => vr_ri _))) (fun s1 R1 j1 o1 v => ⟨v1, v2, ct_i (r_instruction (jr_cq j1.1.1 o1 hj) b1 b2) v (by decide) (vr_im (fun _ _ => vr_ri _)) ve_O1 (fun s2 c2 j2 b2 o2 => nx s2 _ _ c2 (j_ro o2 j1) j2 g b2 (cz_ro o2 o1.2))⟩)⟩
theorem lc_13 (I : J_ σ A R) (hj : Jr_ σ A c) (g : Gd_ A) (hc : c < 1000000000) (nx : Nx_ γ nm l4 Q σ R c) (v1 : vp_in (l4 + (1 : Int32)) (ga_L γ)) (v2 : vp_in (l4 + (2 : Int32)) (ga_L γ)) (b1 : -2147483648 ≤ z1 ∧ z1 < 2147483648) (b2 : -2147483648 ≤ z2 ∧ z2 < 2147483648) :
      vp_in (l4 + (1 : Int32)) (ga_L γ) ∧
      vp_in (l4 + (2 : Int32)) (ga_L γ) ∧
      ∃ (v142 : Int32) (s140 : st_T), Wd s140 ∧ fn_ γ m_L_hasOutcome 10 [.ref 128, .int (i_ z1), .int (i_ z2), .ref 219] σ (.int v142) s140 ∧
      vp_in (l4 + (1 : Int32)) (ga_L γ) ∧
      vp_in (l4 + (2 : Int32)) (ga_L γ) ∧
      ∃ (v147 : Int32) (s145 : st_T), Wd s145 ∧ fn_ γ m_X12_hasOutcome 7 [.ref 185, .int (i_ z1), .int (i_ z2)] s140 (.int v147) s145 ∧
      ∃ (v150 : Int32) (s148 : st_T), Wd s148 ∧ fn_ γ m_X12_thrown 0 [.ref 185] s145 (.int v150) s148 ∧
      (v150 = v142 →
        (v142 = (0 : Int32) →
          (v147 = (0 : Int32) →
            ((st_L s148 219 0) = (0 : Int64) →
              vv_ γ (m_law nm) 84 23 [(0, .ref 22), (1, .ref 128), (2, .ref 185), (3, .ref 219), (4, .int (l4 + 6))] [] s148 Q
            ) ∧ (¬ (st_L s148 219 0) = (0 : Int64) →
              Q (.inl (some (.int (0 : Int32)))) s148
            )
          ) ∧ (¬ v147 = (0 : Int32) →
            ((st_L s148 219 0) = (1 : Int64) →
              vv_ γ (m_law nm) 84 23 [(0, .ref 22), (1, .ref 128), (2, .ref 185), (3, .ref 219), (4, .int (l4 + 6))] [] s148 Q
            ) ∧ (¬ (st_L s148 219 0) = (1 : Int64) →
              Q (.inl (some (.int (0 : Int32)))) s148
            )
          )
        ) ∧ (¬ v142 = (0 : Int32) →
          vv_ γ (m_law nm) 84 23 [(0, .ref 22), (1, .ref 128), (2, .ref 185), (3, .ref 219), (4, .int (l4 + 6))] [] s148 Q
        )
      ) ∧ (¬ v150 = v142 →
        Q (.inl (some (.int (0 : Int32)))) s148
      ) := by
  have zP := I.2.1.2.1
  have hN := I.2.1.2.2.1
  have gc : Gc_ (aP_ A) := I.2.1.2.2.2
  have hb := bz_all zP
  have hq := bq_of zP hb
  have hB : ∀ i, i < an2_ A → -128 ≤ aB_ A i ∧ aB_ A i < 128 := fun i zi => (I.1.2.1.2 i zi).2
  have h8 := I.2.2.1.2.1.1
  exact ⟨v1, v2, cs_L (lm_hasOutcome I.1.1 (c_hasOutcome I hq b1 b2) (vr_mq (fun _ _ => vr_rb _))) (fun s1 R1 j1 o1 v => ⟨v1, v2, ct_b (r_hasOutcome (jr_cq j1.1.1 o1 hj) (by omega) zP hb b1 b2) v (by decide) (vr_mq (fun _ _ => vr_rb _)) ve_I (fun s2 c2 j2 b2 o2 => nx s2 _ _ c2 (j_ro o2 j1) j2 g b2 (cz_ro o2 o1.2))⟩)⟩
theorem lc_19 (I : J_ σ A R) (hj : Jr_ σ A c) (g : Gd_ A) (hc : c < 1000000000) (nx : Nx_ γ nm l4 Q σ R c) (v1 : vp_in (l4 + (1 : Int32)) (ga_L γ)) (b1 : -2147483648 ≤ z1 ∧ z1 < 2147483648) :
      vp_in (l4 + (1 : Int32)) (ga_L γ) ∧
      ∃ (v226 : Int32) (s224 : st_T), Wd s224 ∧ fn_ γ m_L_executionCount 10 [.ref 128, .int (i_ z1), .ref 219] σ (.int v226) s224 ∧
      vp_in (l4 + (1 : Int32)) (ga_L γ) ∧
      ∃ (v230 : Int64) (s228 : st_T), Wd s228 ∧ fn_ γ m_X12_executionCount 7 [.ref 185, .int (i_ z1)] s224 (.long v230) s228 ∧
      ∃ (v233 : Int32) (s231 : st_T), Wd s231 ∧ fn_ γ m_X12_thrown 0 [.ref 185] s228 (.int v233) s231 ∧
      (v233 = v226 →
        (v226 = (0 : Int32) →
          ((st_L s231 219 0) = v230 →
            vv_ γ (m_law nm) 84 23 [(0, .ref 22), (1, .ref 128), (2, .ref 185), (3, .ref 219), (4, .int (l4 + 6))] [] s231 Q
          ) ∧ (¬ (st_L s231 219 0) = v230 →
            Q (.inl (some (.int (0 : Int32)))) s231
          )
        ) ∧ (¬ v226 = (0 : Int32) →
          vv_ γ (m_law nm) 84 23 [(0, .ref 22), (1, .ref 128), (2, .ref 185), (3, .ref 219), (4, .int (l4 + 6))] [] s231 Q
        )
      ) ∧ (¬ v233 = v226 →
        Q (.inl (some (.int (0 : Int32)))) s231
      ) := by
  have zP := I.2.1.2.1
  have hN := I.2.1.2.2.1
  have gc : Gc_ (aP_ A) := I.2.1.2.2.2
  have hb := bz_all zP
  have hq := bq_of zP hb
  have hB : ∀ i, i < an2_ A → -128 ≤ aB_ A i ∧ aB_ A i < 128 := fun i zi => (I.1.2.1.2 i zi).2
  have h8 := I.2.2.1.2.1.1
  exact ⟨v1, cs_L (lm_executionCount I.1.1 (c_executionCount I hq b1) vl_mq) (fun s1 R1 j1 o1 v => ⟨v1, ct_l (r_executionCount (jr_cq j1.1.1 o1 hj) (by omega) zP hb b1) v vl_mq (fun s2 c2 j2 b2 o2 => nx s2 _ _ c2 (j_ro o2 j1) j2 g b2 (cz_ro o2 o1.2))⟩)⟩
theorem lc_0 (I : J_ σ A R) (hj : Jr_ σ A c) (g : Gd_ A) (hc : c < 1000000000) (nx : Nx_ γ nm l4 Q σ R c) (v1 : vp_in (l4 + (1 : Int32)) (ga_L γ)) (v2 : vp_in (l4 + (2 : Int32)) (ga_L γ)) (v3 : vp_in (l4 + (3 : Int32)) (ga_L γ)) (v4 : vp_in (l4 + (4 : Int32)) (ga_L γ)) (v5 : vp_in (l4 + (5 : Int32)) (ga_L γ)) (b1 : -2147483648 ≤ z1 ∧ z1 < 2147483648) (b2 : -2147483648 ≤ z2 ∧ z2 < 2147483648) :
      vp_in (l4 + (1 : Int32)) (ga_L γ) ∧
      vp_in (l4 + (2 : Int32)) (ga_L γ) ∧
      vp_in (l4 + (3 : Int32)) (ga_L γ) ∧
      vp_in (l4 + (4 : Int32)) (ga_L γ) ∧
      vp_in (l4 + (5 : Int32)) (ga_L γ) ∧
      ∃ (v10 : Int32) (s8 : st_T), Wd s8 ∧ fn_ γ m_X11_append 1 [.ref 128, .int (i_ z1), .int (i_ z2), .int x3, .int x4, .int x5] σ (.int v10) s8 ∧
      vp_in (l4 + (1 : Int32)) (ga_L γ) ∧
      vp_in (l4 + (2 : Int32)) (ga_L γ) ∧
      vp_in (l4 + (3 : Int32)) (ga_L γ) ∧
      vp_in (l4 + (4 : Int32)) (ga_L γ) ∧
      vp_in (l4 + (5 : Int32)) (ga_L γ) ∧
      ∃ (v18 : Int32) (s16 : st_T), Wd s16 ∧ fn_ γ m_X12_append 1 [.ref 185, .int (i_ z1), .int (i_ z2), .int x3, .int x4, .int x5] s8 (.int v18) s16 ∧
      (v10 = v18 →
        vv_ γ (m_law nm) 84 23 [(0, .ref 22), (1, .ref 128), (2, .ref 185), (3, .ref 219), (4, .int (l4 + 6))] [] s16 Q
      ) ∧ (¬ v10 = v18 →
        Q (.inl (some (.int (0 : Int32)))) s16
      ) := by
  have zP := I.2.1.2.1
  have hN := I.2.1.2.2.1
  have gc : Gc_ (aP_ A) := I.2.1.2.2.2
  have hb := bz_all zP
  have hq := bq_of zP hb
  have hB : ∀ i, i < an2_ A → -128 ≤ aB_ A i ∧ aB_ A i < 128 := fun i zi => (I.1.2.1.2 i zi).2
  have h8 := I.2.2.1.2.1.1
  by_cases h : an2_ A ≤ 580
  · have k1 := c_append (γ := γ) I (i_ z1) (i_ z2) x3 x4 x5
    simp only [if_pos h] at k1
    refine ⟨v1, v2, v3, v4, v5, cs_1 k1 (fun s1 R1 j1 o1 => ⟨v1, v2, v3, v4, v5, ?_⟩)⟩
    have k2 := r_append (γ := γ) (e := eI_) (jr_cq j1.1.1 o1 hj) (i_ z1) (i_ z2) x3 x4 x5
    simp only [if_pos h] at k2
    exact cs_2 (e := eI_) k2 (fun s2 c2 j2 b2 o2 => ⟨fun _ => nx s2 _ _ c2 (j_ro o2 j1) j2 g b2 (cz_ro o2 o1.2), fun y => absurd rfl y⟩)
  · have k1 := c_append (γ := γ) I (i_ z1) (i_ z2) x3 x4 x5
    simp only [if_neg h] at k1
    refine ⟨v1, v2, v3, v4, v5, cs_1 k1 (fun s1 R1 j1 o1 => ⟨v1, v2, v3, v4, v5, ?_⟩)⟩
    have k2 := r_append (γ := γ) (e := eI_) (jr_cq j1.1.1 o1 hj) (i_ z1) (i_ z2) x3 x4 x5
    simp only [if_neg h] at k2
    exact cs_2 (e := eI_) k2 (fun s2 c2 j2 b2 o2 => ⟨fun _ => nx s2 _ _ c2 (j_ro o2 j1) j2 g b2 (cz_ro o2 o1.2), fun y => absurd rfl y⟩)
theorem lc_3 (I : J_ σ A R) (hj : Jr_ σ A c) (g : Gd_ A) (hc : c < 1000000000) (nx : Nx_ γ nm l4 Q σ R c) :
      ∃ (v38 : Int32) (s36 : st_T), Wd s36 ∧ fn_ γ m_X11_define 62 [.ref 128] σ (.int v38) s36 ∧
      ∃ (v41 : Int32) (s39 : st_T), Wd s39 ∧ fn_ γ m_X12_define 62 [.ref 185] s36 (.int v41) s39 ∧
      (v38 = v41 →
        vv_ γ (m_law nm) 84 23 [(0, .ref 22), (1, .ref 128), (2, .ref 185), (3, .ref 219), (4, .int (l4 + 6))] [] s39 Q
      ) ∧ (¬ v38 = v41 →
        Q (.inl (some (.int (0 : Int32)))) s39
      ) := by
  have zP := I.2.1.2.1
  have hN := I.2.1.2.2.1
  have gc : Gc_ (aP_ A) := I.2.1.2.2.2
  have hb := bz_all zP
  have hq := bq_of zP hb
  have hB : ∀ i, i < an2_ A → -128 ≤ aB_ A i ∧ aB_ A i < 128 := fun i zi => (I.1.2.1.2 i zi).2
  have h8 := I.2.2.1.2.1.1
  obtain ⟨r, A2, hp, ha, h3⟩ := c_define (γ := γ) I
  rcases h3 with ⟨S, rfl, rfl, cn⟩ | ⟨k, rfl, rfl⟩
  · refine cs_1 ha (fun s1 R1 j1 o1 => ?_)
    obtain ⟨r2, hp2, ha2⟩ := r_define (γ := γ) (e := eI_) (jr_cq j1.1.1 o1 hj) hB
    have er := PR_det hp2 hp
    subst er
    exact cs_2 (e := eI_) ha2 (fun s2 c2 j2 b2 o2 => ⟨fun _ => nx s2 _ _ c2 (j_ro o2 j1) j2 (gd_new cn) b2 (cz_ro o2 o1.2), fun y => absurd rfl y⟩)
  · refine cs_1 ha (fun s1 R1 j1 o1 => ?_)
    obtain ⟨r2, hp2, ha2⟩ := r_define (γ := γ) (e := eI_) (jr_cq j1.1.1 o1 hj) hB
    have er := PR_det hp2 hp
    subst er
    exact cs_2 (e := eI_) ha2 (fun s2 c2 j2 b2 o2 => ⟨fun _ => nx s2 _ _ c2 (j_ro o2 j1) j2 g b2 (cz_ro o2 o1.2), fun y => absurd rfl y⟩)
end LC
