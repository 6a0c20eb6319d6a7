/-! the law's cases -/
section LC
variable {γ : ga_T} {nm : String} {l4 x3 x4 x5 : Int32} {σ : st_T} {A : ca_T} {R : rt_T} {c : Nat} {Q : rs_T → st_T → Prop} {z1 z2 : Int}
theorem lc_14 (I : J_ σ A R) (hj : Jr_ σ A c) (g : Gd_ A) (hc : c < 1000000000) (nx : Nx_ γ nm l4 Q σ R c) (v1 : vp_in (l4 + (1 : Int32)) (ga_L γ)) (v2 : vp_in (l4 + (2 : Int32)) (ga_L γ)) (b1 : -2147483648 ≤ z1 ∧ z1 < 2147483648) (b2 : -2147483648 ≤ z2 ∧ z2 < 2147483648) :
      vp_in (l4 + (1 : Int32)) (ga_L γ) ∧
      vp_in (l4 + (2 : Int32)) (ga_L γ) ∧
      ∃ (v160 : Int32) (s158 : st_T), Wd s158 ∧ fn_ γ m_L_extraOutcomes 10 [.ref 128, .int (i_ z1), .int (i_ z2), .ref 219] σ (.int v160) s158 ∧
      vp_in (l4 + (1 : Int32)) (ga_L γ) ∧
      vp_in (l4 + (2 : Int32)) (ga_L γ) ∧
      ∃ (v165 : Int32) (s163 : st_T), Wd s163 ∧ fn_ γ m_X12_extraOutcomes 7 [.ref 185, .int (i_ z1), .int (i_ z2)] s158 (.int v165) s163 ∧
      ∃ (v168 : Int32) (s166 : st_T), Wd s166 ∧ fn_ γ m_X12_thrown 0 [.ref 185] s163 (.int v168) s166 ∧
      (v168 = v160 →
        (v160 = (0 : Int32) →
          ((st_L s166 219 0) = (v165.toInt64) →
            vv_ γ (m_law nm) 84 23 [(0, .ref 22), (1, .ref 128), (2, .ref 185), (3, .ref 219), (4, .int (l4 + 6))] [] s166 Q
          ) ∧ (¬ (st_L s166 219 0) = (v165.toInt64) →
            Q (.inl (some (.int (0 : Int32)))) s166
          )
        ) ∧ (¬ v160 = (0 : Int32) →
          vv_ γ (m_law nm) 84 23 [(0, .ref 22), (1, .ref 128), (2, .ref 185), (3, .ref 219), (4, .int (l4 + 6))] [] s166 Q
        )
      ) ∧ (¬ v168 = v160 →
        Q (.inl (some (.int (0 : Int32)))) s166
      ) := by
  have zP := I.2.1.2.1
  have hN := I.2.1.2.2.1
  have gc : Gc_ (aP_ A) := I.2.1.2.2.2
  have hb := bz_all zP
  have hq := bq_of zP hb
  have hB : ∀ i, i < an2_ A → -128 ≤ aB_ A i ∧ aB_ A i < 128 := fun i zi => (I.1.2.1.2 i zi).2
  have h8 := I.2.2.1.2.1.1
  exact ⟨v1, v2, cs_L (lm_extraOutcomes I.1.1 (c_extra I hq b1 b2) (vr_mq (fun _ _ => vr_mq (fun _ _ => vr_ri _)))) (fun s1 R1 j1 o1 v => ⟨v1, v2, ct_i (r_extraOutcomes (jr_cq j1.1.1 o1 hj) (by omega) zP hb b1 b2) v (by decide) (vr_mq (fun _ _ => vr_mq (fun _ _ => vr_ri _))) ve_I (fun s2 c2 j2 b2 o2 => nx s2 _ _ c2 (j_ro o2 j1) j2 g b2 (cz_ro o2 o1.2))⟩)⟩
theorem lc_15 (I : J_ σ A R) (hj : Jr_ σ A c) (g : Gd_ A) (hc : c < 1000000000) (nx : Nx_ γ nm l4 Q σ R c) (v1 : vp_in (l4 + (1 : Int32)) (ga_L γ)) (b1 : -2147483648 ≤ z1 ∧ z1 < 2147483648) :
      vp_in (l4 + (1 : Int32)) (ga_L γ) ∧
      ∃ (v175 : Int32) (s173 : st_T), Wd s173 ∧ fn_ γ m_X11_fulfils 1 [.ref 128, .int (i_ z1)] σ (.int v175) s173 ∧
      vp_in (l4 + (1 : Int32)) (ga_L γ) ∧
      ∃ (v179 : Int32) (s177 : st_T), Wd s177 ∧ fn_ γ m_X12_fulfils 3 [.ref 185, .int (i_ z1)] s173 (.int v179) s177 ∧
      (v175 = v179 →
        vv_ γ (m_law nm) 84 23 [(0, .ref 22), (1, .ref 128), (2, .ref 185), (3, .ref 219), (4, .int (l4 + 6))] [] s177 Q
      ) ∧ (¬ v175 = v179 →
        Q (.inl (some (.int (0 : Int32)))) s177
      ) := by
  have zP := I.2.1.2.1
  have hN := I.2.1.2.2.1
  have gc : Gc_ (aP_ A) := I.2.1.2.2.2
  have hb := bz_all zP
  have hq := bq_of zP hb
  have hB : ∀ i, i < an2_ A → -128 ≤ aB_ A i ∧ aB_ A i < 128 := fun i zi => (I.1.2.1.2 i zi).2
  have h8 := I.2.2.1.2.1.1
  exact ⟨v1, cs_1 (c_fulfils I b1) (fun s1 R1 j1 o1 => ⟨v1, cs_2 (e := eI_) (r_fulfils (jr_cq j1.1.1 o1 hj) gc b1) (fun s2 c2 j2 b2 o2 => ⟨fun _ => nx s2 _ _ c2 (j_ro o2 j1) j2 g b2 (cz_ro o2 o1.2), fun y => absurd rfl y⟩)⟩)⟩
theorem lc_16 (I : J_ σ A R) (hj : Jr_ σ A c) (g : Gd_ A) (hc : c < 1000000000) (nx : Nx_ γ nm l4 Q σ R c) (v1 : vp_in (l4 + (1 : Int32)) (ga_L γ)) (b1 : -2147483648 ≤ z1 ∧ z1 < 2147483648) :
      vp_in (l4 + (1 : Int32)) (ga_L γ) ∧
      ∃ (v184 : Int32) (s182 : st_T), Wd s182 ∧ fn_ γ m_L_matchCount 10 [.ref 128, .int (i_ z1), .ref 219] σ (.int v184) s182 ∧
      vp_in (l4 + (1 : Int32)) (ga_L γ) ∧
      ∃ (v188 : Int32) (s186 : st_T), Wd s186 ∧ fn_ γ m_X12_matchCount 7 [.ref 185, .int (i_ z1)] s182 (.int v188) s186 ∧
      ∃ (v191 : Int32) (s189 : st_T), Wd s189 ∧ fn_ γ m_X12_thrown 0 [.ref 185] s186 (.int v191) s189 ∧
      (v191 = v184 →
        (v184 = (0 : Int32) →
          ((st_L s189 219 0) = (v188.toInt64) →
            vv_ γ (m_law nm) 84 23 [(0, .ref 22), (1, .ref 128), (2, .ref 185), (3, .ref 219), (4, .int (l4 + 6))] [] s189 Q
          ) ∧ (¬ (st_L s189 219 0) = (v188.toInt64) →
            Q (.inl (some (.int (0 : Int32)))) s189
          )
        ) ∧ (¬ v184 = (0 : Int32) →
          vv_ γ (m_law nm) 84 23 [(0, .ref 22), (1, .ref 128), (2, .ref 185), (3, .ref 219), (4, .int (l4 + 6))] [] s189 Q
        )
      ) ∧ (¬ v191 = v184 →
        Q (.inl (some (.int (0 : Int32)))) s189
      ) := by
  have zP := I.2.1.2.1
  have hN := I.2.1.2.2.1
  have gc : Gc_ (aP_ A) := I.2.1.2.2.2
  have hb := bz_all zP
  have hq := bq_of zP hb
  have hB : ∀ i, i < an2_ A → -128 ≤ aB_ A i ∧ aB_ A i < 128 := fun i zi => (I.1.2.1.2 i zi).2
  have h8 := I.2.2.1.2.1.1
  exact ⟨v1, cs_L (lm_matchCount I.1.1 (c_matchCount I hq b1) (vr_mq (fun _ _ => vr_ri _))) (fun s1 R1 j1 o1 v => ⟨v1, ct_i (r_matchCount (jr_cq j1.1.1 o1 hj) (by omega) zP gc hb b1) v (by decide) (vr_mq (fun _ _ => vr_ri _)) ve_I (fun s2 c2 j2 b2 o2 => nx s2 _ _ c2 (j_ro o2 j1) j2 g b2 (cz_ro o2 o1.2))⟩)⟩
theorem lc_17 (I : J_ σ A R) (hj : Jr_ σ A c) (g : Gd_ A) (hc : c < 1000000000) (nx : Nx_ γ nm l4 Q σ R c) (v1 : vp_in (l4 + (1 : Int32)) (ga_L γ)) (b1 : -2147483648 ≤ z1 ∧ z1 < 2147483648) :
      vp_in (l4 + (1 : Int32)) (ga_L γ) ∧
      ∃ (v198 : Int32) (s196 : st_T), Wd s196 ∧ fn_ γ m_L_firstMatch 10 [.ref 128, .int (i_ z1), .ref 219] σ (.int v198) s196 ∧
      vp_in (l4 + (1 : Int32)) (ga_L γ) ∧
      ∃ (v202 : Int32) (s200 : st_T), Wd s200 ∧ fn_ γ m_X12_firstMatch 7 [.ref 185, .int (i_ z1)] s196 (.int v202) s200 ∧
      ∃ (v205 : Int32) (s203 : st_T), Wd s203 ∧ fn_ γ m_X12_thrown 0 [.ref 185] s200 (.int v205) s203 ∧
      (v205 = v198 →
        (v198 = (0 : Int32) →
          ((st_L s203 219 0) = (v202.toInt64) →
            vv_ γ (m_law nm) 84 23 [(0, .ref 22), (1, .ref 128), (2, .ref 185), (3, .ref 219), (4, .int (l4 + 6))] [] s203 Q
          ) ∧ (¬ (st_L s203 219 0) = (v202.toInt64) →
            Q (.inl (some (.int (0 : Int32)))) s203
          )
        ) ∧ (¬ v198 = (0 : Int32) →
          vv_ γ (m_law nm) 84 23 [(0, .ref 22), (1, .ref 128), (2, .ref 185), (3, .ref 219), (4, .int (l4 + 6))] [] s203 Q
        )
      ) ∧ (¬ v205 = v198 →
        Q (.inl (some (.int (0 : Int32)))) s203
      ) := by
  have zP := I.2.1.2.1
  have hN := I.2.1.2.2.1
  have gc : Gc_ (aP_ A) := I.2.1.2.2.2
  have hb := bz_all zP
  have hq := bq_of zP hb
  have hB : ∀ i, i < an2_ A → -128 ≤ aB_ A i ∧ aB_ A i < 128 := fun i zi => (I.1.2.1.2 i zi).2
  have h8 := I.2.2.1.2.1.1
  exact ⟨v1, cs_L (lm_firstMatch I.1.1 (c_firstMatch I hq b1) (vr_mq (fun _ _ => vr_ri _))) (fun s1 R1 j1 o1 v => ⟨v1, ct_i (r_firstMatch (jr_cq j1.1.1 o1 hj) (by omega) zP gc hb b1) v (by decide) (vr_mq (fun _ _ => vr_ri _)) ve_I (fun s2 c2 j2 b2 o2 => nx s2 _ _ c2 (j_ro o2 j1) j2 g b2 (cz_ro o2 o1.2))⟩)⟩
theorem lc_18 (I : J_ σ A R) (hj : Jr_ σ A c) (g : Gd_ A) (hc : c < 1000000000) (nx : Nx_ γ nm l4 Q σ R c) (v1 : vp_in (l4 + (1 : Int32)) (ga_L γ)) (b1 : -2147483648 ≤ z1 ∧ z1 < 2147483648) :
      vp_in (l4 + (1 : Int32)) (ga_L γ) ∧
      ∃ (v212 : Int32) (s210 : st_T), Wd s210 ∧ fn_ γ m_L_stateCount 10 [.ref 128, .int (i_ z1), .ref 219] σ (.int v212) s210 ∧
      vp_in (l4 + (1 : Int32)) (ga_L γ) ∧
      ∃ (v216 : Int32) (s214 : st_T), Wd s214 ∧ fn_ γ m_X12_stateCount 7 [.ref 185, .int (i_ z1)] s210 (.int v216) s214 ∧
      ∃ (v219 : Int32) (s217 : st_T), Wd s217 ∧ fn_ γ m_X12_thrown 0 [.ref 185] s214 (.int v219) s217 ∧
      (v219 = v212 →
        (v212 = (0 : Int32) →
          ((st_L s217 219 0) = (v216.toInt64) →
            vv_ γ (m_law nm) 84 23 [(0, .ref 22), (1, .ref 128), (2, .ref 185), (3, .ref 219), (4, .int (l4 + 6))] [] s217 Q
          ) ∧ (¬ (st_L s217 219 0) = (v216.toInt64) →
            Q (.inl (some (.int (0 : Int32)))) s217
          )
        ) ∧ (¬ v212 = (0 : Int32) →
          vv_ γ (m_law nm) 84 23 [(0, .ref 22), (1, .ref 128), (2, .ref 185), (3, .ref 219), (4, .int (l4 + 6))] [] s217 Q
        )
      ) ∧ (¬ v219 = v212 →
        Q (.inl (some (.int (0 : Int32)))) s217
      ) := by
  have zP := I.2.1.2.1
  have hN := I.2.1.2.2.1
  have gc : Gc_ (aP_ A) := I.2.1.2.2.2
  have hb := bz_all zP
  have hq := bq_of zP hb
  have hB : ∀ i, i < an2_ A → -128 ≤ aB_ A i ∧ aB_ A i < 128 := fun i zi => (I.1.2.1.2 i zi).2
  have h8 := I.2.2.1.2.1.1
  exact ⟨v1, cs_L (lm_stateCount I.1.1 (c_stateCount I hq b1) (vr_mq (fun _ _ => vr_ri _))) (fun s1 R1 j1 o1 v => ⟨v1, ct_i (r_stateCount (jr_cq j1.1.1 o1 hj) (by omega) zP hb b1) v (by decide) (vr_mq (fun _ _ => vr_ri _)) ve_I (fun s2 c2 j2 b2 o2 => nx s2 _ _ c2 (j_ro o2 j1) j2 g b2 (cz_ro o2 o1.2))⟩)⟩
theorem lc_20 (I : J_ σ A R) (hj : Jr_ σ A c) (g : Gd_ A) (hc : c < 1000000000) (nx : Nx_ γ nm l4 Q σ R c) (v1 : vp_in (l4 + (1 : Int32)) (ga_L γ)) (v2 : vp_in (l4 + (2 : Int32)) (ga_L γ)) (b1 : -2147483648 ≤ z1 ∧ z1 < 2147483648) (b2 : -2147483648 ≤ z2 ∧ z2 < 2147483648) :
      vp_in (l4 + (1 : Int32)) (ga_L γ) ∧
      vp_in (l4 + (2 : Int32)) (ga_L γ) ∧
      ∃ (v241 : Int32) (s239 : st_T), Wd s239 ∧ fn_ γ m_L_executionsWith 10 [.ref 128, .int (i_ z1), .int (i_ z2), .ref 219] σ (.int v241) s239 ∧
      vp_in (l4 + (1 : Int32)) (ga_L γ) ∧
      vp_in (l4 + (2 : Int32)) (ga_L γ) ∧
      ∃ (v246 : Int64) (s244 : st_T), Wd s244 ∧ fn_ γ m_X12_executionsWith 7 [.ref 185, .int (i_ z1), .int (i_ z2)] s239 (.long v246) s244 ∧
      ∃ (v249 : Int32) (s247 : st_T), Wd s247 ∧ fn_ γ m_X12_thrown 0 [.ref 185] s244 (.int v249) s247 ∧
      (v249 = v241 →
        (v241 = (0 : Int32) →
          ((st_L s247 219 0) = v246 →
            vv_ γ (m_law nm) 84 23 [(0, .ref 22), (1, .ref 128), (2, .ref 185), (3, .ref 219), (4, .int (l4 + 6))] [] s247 Q
          ) ∧ (¬ (st_L s247 219 0) = v246 →
            Q (.inl (some (.int (0 : Int32)))) s247
          )
        ) ∧ (¬ v241 = (0 : Int32) →
          vv_ γ (m_law nm) 84 23 [(0, .ref 22), (1, .ref 128), (2, .ref 185), (3, .ref 219), (4, .int (l4 + 6))] [] s247 Q
        )
      ) ∧ (¬ v249 = v241 →
        Q (.inl (some (.int (0 : Int32)))) s247
      ) := by
  have zP := I.2.1.2.1
  have hN := I.2.1.2.2.1
  have gc : Gc_ (aP_ A) := I.2.1.2.2.2
  have hb := bz_all zP
  have hq := bq_of zP hb
  have hB : ∀ i, i < an2_ A → -128 ≤ aB_ A i ∧ aB_ A i < 128 := fun i zi => (I.1.2.1.2 i zi).2
  have h8 := I.2.2.1.2.1.1
  exact ⟨v1, v2, cs_L (lm_executionsWith I.1.1 (c_executionsWith I hq b1 b2) vl_mq) (fun s1 R1 j1 o1 v => ⟨v1, v2, ct_l (r_executionsWith (jr_cq j1.1.1 o1 hj) (by omega) zP hb b1 b2) v vl_mq (fun s2 c2 j2 b2 o2 => nx s2 _ _ c2 (j_ro o2 j1) j2 g b2 (cz_ro o2 o1.2))⟩)⟩
theorem lc_21 (I : J_ σ A R) (hj : Jr_ σ A c) (g : Gd_ A) (hc : c < 1000000000) (nx : Nx_ γ nm l4 Q σ R c) (v1 : vp_in (l4 + (1 : Int32)) (ga_L γ)) (v2 : vp_in (l4 + (2 : Int32)) (ga_L γ)) (b1 : -2147483648 ≤ z1 ∧ z1 < 2147483648) (b2 : -2147483648 ≤ z2 ∧ z2 < 2147483648) :
      vp_in (l4 + (1 : Int32)) (ga_L γ) ∧
      vp_in (l4 + (2 : Int32)) (ga_L γ) ∧
      ∃ (v257 : Int32) (s255 : st_T), Wd s255 ∧ fn_ γ m_L_readValues 10 [.ref 128, .int (i_ z1), .int (i_ z2), .ref 219] σ (.int v257) s255 ∧
      vp_in (l4 + (1 : Int32)) (ga_L γ) ∧
      vp_in (l4 + (2 : Int32)) (ga_L γ) ∧
      ∃ (v262 : Int32) (s260 : st_T), Wd s260 ∧ fn_ γ m_X12_readValues 7 [.ref 185, .int (i_ z1), .int (i_ z2)] s255 (.int v262) s260 ∧
      ∃ (v265 : Int32) (s263 : st_T), Wd s263 ∧ fn_ γ m_X12_thrown 0 [.ref 185] s260 (.int v265) s263 ∧
      (v265 = v257 →
        (v257 = (0 : Int32) →
          ((st_L s263 219 0) = (v262.toInt64) →
            vv_ γ (m_law nm) 84 23 [(0, .ref 22), (1, .ref 128), (2, .ref 185), (3, .ref 219), (4, .int (l4 + 6))] [] s263 Q
          ) ∧ (¬ (st_L s263 219 0) = (v262.toInt64) →
            Q (.inl (some (.int (0 : Int32)))) s263
          )
        ) ∧ (¬ v257 = (0 : Int32) →
          vv_ γ (m_law nm) 84 23 [(0, .ref 22), (1, .ref 128), (2, .ref 185), (3, .ref 219), (4, .int (l4 + 6))] [] s263 Q
        )
      ) ∧ (¬ v265 = v257 →
        Q (.inl (some (.int (0 : Int32)))) s263
      ) := by
  have zP := I.2.1.2.1
  have hN := I.2.1.2.2.1
  have gc : Gc_ (aP_ A) := I.2.1.2.2.2
  have hb := bz_all zP
  have hq := bq_of zP hb
  have hB : ∀ i, i < an2_ A → -128 ≤ aB_ A i ∧ aB_ A i < 128 := fun i zi => (I.1.2.1.2 i zi).2
  have h8 := I.2.2.1.2.1.1
  refine ⟨v1, v2, cs_L (lm_readValues I.1.1 (c_readValues I hq b1 b2) (vr_mq (fun _ _ => vr_im (fun _ _ => vr_if (fun _ => vr_nse) (fun _ => vr_ri _))))) (fun s1 R1 j1 o1 v => ⟨v1, v2, ?_⟩)⟩
  have k2 := r_readValues (γ := γ) (jr_cq j1.1.1 o1 hj) (by omega) zP hb b1 b2
  rw [er_read zP hb] at k2
  exact ct_i k2 v (by decide) (vr_mq (fun _ _ => vr_im (fun _ _ => vr_if (fun _ => vr_nse) (fun _ => vr_ri _)))) ve_L (fun s2 c2 j2 b2 o2 => nx s2 _ _ c2 (j_ro o2 j1) j2 g b2 (cz_ro o2 o1.2))
theorem lc_22 (I : J_ σ A R) (hj : Jr_ σ A c) (g : Gd_ A) (hc : c < 1000000000) (nx : Nx_ γ nm l4 Q σ R c) (v1 : vp_in (l4 + (1 : Int32)) (ga_L γ)) (v2 : vp_in (l4 + (2 : Int32)) (ga_L γ)) (b1 : -2147483648 ≤ z1 ∧ z1 < 2147483648) (b2 : -2147483648 ≤ z2 ∧ z2 < 2147483648) :
      vp_in (l4 + (1 : Int32)) (ga_L γ) ∧
      vp_in (l4 + (2 : Int32)) (ga_L γ) ∧
      ∃ (v273 : Int32) (s271 : st_T), Wd s271 ∧ fn_ γ m_L_finalValues 10 [.ref 128, .int (i_ z1), .int (i_ z2), .ref 219] σ (.int v273) s271 ∧
      vp_in (l4 + (1 : Int32)) (ga_L γ) ∧
      vp_in (l4 + (2 : Int32)) (ga_L γ) ∧
      ∃ (v278 : Int32) (s276 : st_T), Wd s276 ∧ fn_ γ m_X12_finalValues 7 [.ref 185, .int (i_ z1), .int (i_ z2)] s271 (.int v278) s276 ∧
      ∃ (v281 : Int32) (s279 : st_T), Wd s279 ∧ fn_ γ m_X12_thrown 0 [.ref 185] s276 (.int v281) s279 ∧
      (v281 = v273 →
        (v273 = (0 : Int32) →
          ((st_L s279 219 0) = (v278.toInt64) →
            vv_ γ (m_law nm) 84 23 [(0, .ref 22), (1, .ref 128), (2, .ref 185), (3, .ref 219), (4, .int (l4 + 6))] [] s279 Q
          ) ∧ (¬ (st_L s279 219 0) = (v278.toInt64) →
            Q (.inl (some (.int (0 : Int32)))) s279
          )
        ) ∧ (¬ v273 = (0 : Int32) →
          vv_ γ (m_law nm) 84 23 [(0, .ref 22), (1, .ref 128), (2, .ref 185), (3, .ref 219), (4, .int (l4 + 6))] [] s279 Q
        )
      ) ∧ (¬ v281 = v273 →
        Q (.inl (some (.int (0 : Int32)))) s279
      ) := by
  have zP := I.2.1.2.1
  have hN := I.2.1.2.2.1
  have gc : Gc_ (aP_ A) := I.2.1.2.2.2
  have hb := bz_all zP
  have hq := bq_of zP hb
  have hB : ∀ i, i < an2_ A → -128 ≤ aB_ A i ∧ aB_ A i < 128 := fun i zi => (I.1.2.1.2 i zi).2
  have h8 := I.2.2.1.2.1.1
  exact ⟨v1, v2, cs_L (lm_finalValues I.1.1 (c_finalValues I hq b1 b2) (vr_mq (fun _ _ => vr_lm (fun _ _ => vr_ri _)))) (fun s1 R1 j1 o1 v => ⟨v1, v2, ct_i (r_finalValues (jr_cq j1.1.1 o1 hj) (by omega) zP hb b1 b2) v (by decide) (vr_mq (fun _ _ => vr_lm (fun _ _ => vr_ri _))) ve_L2 (fun s2 c2 j2 b2 o2 => nx s2 _ _ c2 (j_ro o2 j1) j2 g b2 (cz_ro o2 o1.2))⟩)⟩
theorem lc_23 (I : J_ σ A R) (hj : Jr_ σ A c) (g : Gd_ A) (hc : c < 1000000000) (nx : Nx_ γ nm l4 Q σ R c) (v1 : vp_in (l4 + (1 : Int32)) (ga_L γ)) (v2 : vp_in (l4 + (2 : Int32)) (ga_L γ)) (b1 : -2147483648 ≤ z1 ∧ z1 < 2147483648) (b2 : -2147483648 ≤ z2 ∧ z2 < 2147483648) :
      vp_in (l4 + (1 : Int32)) (ga_L γ) ∧
      vp_in (l4 + (2 : Int32)) (ga_L γ) ∧
      ∃ (v289 : Int32) (s287 : st_T), Wd s287 ∧ fn_ γ m_L_greatestBuffer 10 [.ref 128, .int (i_ z1), .int (i_ z2), .ref 219] σ (.int v289) s287 ∧
      vp_in (l4 + (1 : Int32)) (ga_L γ) ∧
      vp_in (l4 + (2 : Int32)) (ga_L γ) ∧
      ∃ (v294 : Int32) (s292 : st_T), Wd s292 ∧ fn_ γ m_X12_greatestBuffer 7 [.ref 185, .int (i_ z1), .int (i_ z2)] s287 (.int v294) s292 ∧
      ∃ (v297 : Int32) (s295 : st_T), Wd s295 ∧ fn_ γ m_X12_thrown 0 [.ref 185] s292 (.int v297) s295 ∧
      (v297 = v289 →
        (v289 = (0 : Int32) →
          ((st_L s295 219 0) = (v294.toInt64) →
            vv_ γ (m_law nm) 84 23 [(0, .ref 22), (1, .ref 128), (2, .ref 185), (3, .ref 219), (4, .int (l4 + 6))] [] s295 Q
          ) ∧ (¬ (st_L s295 219 0) = (v294.toInt64) →
            Q (.inl (some (.int (0 : Int32)))) s295
          )
        ) ∧ (¬ v289 = (0 : Int32) →
          vv_ γ (m_law nm) 84 23 [(0, .ref 22), (1, .ref 128), (2, .ref 185), (3, .ref 219), (4, .int (l4 + 6))] [] s295 Q
        )
      ) ∧ (¬ v297 = v289 →
        Q (.inl (some (.int (0 : Int32)))) s295
      ) := by
  have zP := I.2.1.2.1
  have hN := I.2.1.2.2.1
  have gc : Gc_ (aP_ A) := I.2.1.2.2.2
  have hb := bz_all zP
  have hq := bq_of zP hb
  have hB : ∀ i, i < an2_ A → -128 ≤ aB_ A i ∧ aB_ A i < 128 := fun i zi => (I.1.2.1.2 i zi).2
  have h8 := I.2.2.1.2.1.1
  refine ⟨v1, v2, cs_L (lm_greatestBuffer I.1.1 (c_greatestBuffer I b1 b2) (vr_mq (fun _ _ => vr_if (fun _ => vr_if (fun _ => vr_ri _) (fun _ => vr_ri _)) (fun _ => vr_ioo)))) (fun s1 R1 j1 o1 v => ⟨v1, v2, ?_⟩)⟩
  have k2 := r_greatestBuffer (γ := γ) (jr_cq j1.1.1 o1 hj) (by omega) zP hb b1 b2
  rw [er_gbuf zP hb] at k2
  exact ct_i k2 v (by decide) (vr_mq (fun _ _ => vr_if (fun _ => vr_if (fun _ => vr_ri _) (fun _ => vr_ri _)) (fun _ => vr_ioo))) ve_L2 (fun s2 c2 j2 b2 o2 => nx s2 _ _ c2 (j_ro o2 j1) j2 g b2 (cz_ro o2 o1.2))
end LC
