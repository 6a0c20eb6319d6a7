/-! the law's cases -/
section LC
variable {γ : ga_T} {nm : String} {l4 x3 x4 x5 : Int32} {σ : st_T} {A : ca_T} {R : rt_T} {c : Nat} {Q : rs_T → st_T → Prop} {z1 z2 : Int}
theorem lc_24 (I : J_ σ A R) (hj : Jr_ σ A c) (g : Gd_ A) (hc : c < 1000000000) (nx : Nx_ γ nm l4 Q σ R c) (v1 : vp_in (l4 + (1 : Int32)) (ga_L γ)) (v2 : vp_in (l4 + (2 : Int32)) (ga_L γ)) (b1 : -2147483648 ≤ z1 ∧ z1 < 2147483648) (b2 : -2147483648 ≤ z2 ∧ z2 < 2147483648) :
      vp_in (l4 + (1 : Int32)) (ga_L γ) ∧
      vp_in (l4 + (2 : Int32)) (ga_L γ) ∧
      ∃ (v305 : Int32) (s303 : st_T), Wd s303 ∧ fn_ γ m_L_isRace 10 [.ref 128, .int (i_ z1), .int (i_ z2), .ref 219] σ (.int v305) s303 ∧
      vp_in (l4 + (1 : Int32)) (ga_L γ) ∧
      vp_in (l4 + (2 : Int32)) (ga_L γ) ∧
      ∃ (v310 : Int32) (s308 : st_T), Wd s308 ∧ fn_ γ m_X12_isRace 7 [.ref 185, .int (i_ z1), .int (i_ z2)] s303 (.int v310) s308 ∧
      ∃ (v313 : Int32) (s311 : st_T), Wd s311 ∧ fn_ γ m_X12_thrown 0 [.ref 185] s308 (.int v313) s311 ∧
      (v313 = v305 →
        (v305 = (0 : Int32) →
          (v310 = (0 : Int32) →
            ((st_L s311 219 0) = (0 : Int64) →
              vv_ γ (m_law nm) 84 23 [(0, .ref 22), (1, .ref 128), (2, .ref 185), (3, .ref 219), (4, .int (l4 + 6))] [] s311 Q
            ) ∧ (¬ (st_L s311 219 0) = (0 : Int64) →
              Q (.inl (some (.int (0 : Int32)))) s311
            )
          ) ∧ (¬ v310 = (0 : Int32) →
            ((st_L s311 219 0) = (1 : Int64) →
              vv_ γ (m_law nm) 84 23 [(0, .ref 22), (1, .ref 128), (2, .ref 185), (3, .ref 219), (4, .int (l4 + 6))] [] s311 Q
            ) ∧ (¬ (st_L s311 219 0) = (1 : Int64) →
              Q (.inl (some (.int (0 : Int32)))) s311
            )
          )
        ) ∧ (¬ v305 = (0 : Int32) →
          vv_ γ (m_law nm) 84 23 [(0, .ref 22), (1, .ref 128), (2, .ref 185), (3, .ref 219), (4, .int (l4 + 6))] [] s311 Q
        )
      ) ∧ (¬ v313 = v305 →
        Q (.inl (some (.int (0 : Int32)))) s311
      ) := by
  have zP := I.2.1.2.1
  have hN := I.2.1.2.2.1
  have gc : Gc_ (aP_ A) := I.2.1.2.2.2
  have hb := bz_all zP
  have hq := bq_of zP hb
  have hB : ∀ i, i < an2_ A → -128 ≤ aB_ A i ∧ aB_ A i < 128 := fun i zi => (I.1.2.1.2 i zi).2
  have h8 := I.2.2.1.2.1.1
  exact ⟨v1, v2, cs_L (lm_isRace I.1.1 (c_isRace I b1 b2) (vr_im (fun _ _ => vr_im (fun _ _ => vr_rb _)))) (fun s1 R1 j1 o1 v => ⟨v1, v2, ct_b (r_isRace (jr_cq j1.1.1 o1 hj) (by omega) zP hb b1 b2) v (by decide) (vr_im (fun _ _ => vr_im (fun _ _ => vr_rb _))) ve_O1 (fun s2 c2 j2 b2 o2 => nx s2 _ _ c2 (j_ro o2 j1) j2 g b2 (cz_ro o2 o1.2))⟩)⟩
theorem lc_25 (I : J_ σ A R) (hj : Jr_ σ A c) (g : Gd_ A) (hc : c < 1000000000) (nx : Nx_ γ nm l4 Q σ R c) :
      ∃ (v321 : Int32) (s319 : st_T), Wd s319 ∧ fn_ γ m_X11_raceCount 2 [.ref 128] σ (.int v321) s319 ∧
      ∃ (v324 : Int32) (s322 : st_T), Wd s322 ∧ fn_ γ m_X12_raceCount 7 [.ref 185] s319 (.int v324) s322 ∧
      (v321 = v324 →
        vv_ γ (m_law nm) 84 23 [(0, .ref 22), (1, .ref 128), (2, .ref 185), (3, .ref 219), (4, .int (l4 + 6))] [] s322 Q
      ) ∧ (¬ v321 = v324 →
        Q (.inl (some (.int (0 : Int32)))) s322
      ) := by
  have zP := I.2.1.2.1
  have hN := I.2.1.2.2.1
  have gc : Gc_ (aP_ A) := I.2.1.2.2.2
  have hb := bz_all zP
  have hq := bq_of zP hb
  have hB : ∀ i, i < an2_ A → -128 ≤ aB_ A i ∧ aB_ A i < 128 := fun i zi => (I.1.2.1.2 i zi).2
  have h8 := I.2.2.1.2.1.1
  exact cs_1 (c_raceCount I) (fun s1 R1 j1 o1 => cs_2 (e := eI_) (r_raceCount (jr_cq j1.1.1 o1 hj) (by omega) zP hb) (fun s2 c2 j2 b2 o2 => ⟨fun _ => nx s2 _ _ c2 (j_ro o2 j1) j2 g b2 (cz_ro o2 o1.2), fun y => absurd rfl y⟩))
theorem lc_26 (I : J_ σ A R) (hj : Jr_ σ A c) (g : Gd_ A) (hc : c < 1000000000) (nx : Nx_ γ nm l4 Q σ R c) :
      ∃ (v328 : Int32) (s326 : st_T), Wd s326 ∧ fn_ γ m_X11_gapCount 3 [.ref 128] σ (.int v328) s326 ∧
      ∃ (v331 : Int32) (s329 : st_T), Wd s329 ∧ fn_ γ m_X12_gapCount 4 [.ref 185] s326 (.int v331) s329 ∧
      (v328 = v331 →
        vv_ γ (m_law nm) 84 23 [(0, .ref 22), (1, .ref 128), (2, .ref 185), (3, .ref 219), (4, .int (l4 + 6))] [] s329 Q
      ) ∧ (¬ v328 = v331 →
        Q (.inl (some (.int (0 : Int32)))) s329
      ) := by
  have zP := I.2.1.2.1
  have hN := I.2.1.2.2.1
  have gc : Gc_ (aP_ A) := I.2.1.2.2.2
  have hb := bz_all zP
  have hq := bq_of zP hb
  have hB : ∀ i, i < an2_ A → -128 ≤ aB_ A i ∧ aB_ A i < 128 := fun i zi => (I.1.2.1.2 i zi).2
  have h8 := I.2.2.1.2.1.1
  exact cs_1 (c_gapCount I) (fun s1 R1 j1 o1 => cs_2 (e := eI_) (r_gapCount (jr_cq j1.1.1 o1 hj)) (fun s2 c2 j2 b2 o2 => ⟨fun _ => nx s2 _ _ c2 (j_ro o2 j1) j2 g b2 (cz_ro o2 o1.2), fun y => absurd rfl y⟩))
theorem lc_27 (I : J_ σ A R) (hj : Jr_ σ A c) (g : Gd_ A) (hc : c < 1000000000) (nx : Nx_ γ nm l4 Q σ R c) (v1 : vp_in (l4 + (1 : Int32)) (ga_L γ)) (b1 : -2147483648 ≤ z1 ∧ z1 < 2147483648) :
      vp_in (l4 + (1 : Int32)) (ga_L γ) ∧
      ∃ (v336 : Int32) (s334 : st_T), Wd s334 ∧ fn_ γ m_X11_gapBefore 3 [.ref 128, .int (i_ z1)] σ (.int v336) s334 ∧
      vp_in (l4 + (1 : Int32)) (ga_L γ) ∧
      ∃ (v340 : Int32) (s338 : st_T), Wd s338 ∧ fn_ γ m_X12_gapBefore 4 [.ref 185, .int (i_ z1)] s334 (.int v340) s338 ∧
      (v336 = v340 →
        vv_ γ (m_law nm) 84 23 [(0, .ref 22), (1, .ref 128), (2, .ref 185), (3, .ref 219), (4, .int (l4 + 6))] [] s338 Q
      ) ∧ (¬ v336 = v340 →
        Q (.inl (some (.int (0 : Int32)))) s338
      ) := by
  have zP := I.2.1.2.1
  have hN := I.2.1.2.2.1
  have gc : Gc_ (aP_ A) := I.2.1.2.2.2
  have hb := bz_all zP
  have hq := bq_of zP hb
  have hB : ∀ i, i < an2_ A → -128 ≤ aB_ A i ∧ aB_ A i < 128 := fun i zi => (I.1.2.1.2 i zi).2
  have h8 := I.2.2.1.2.1.1
  exact ⟨v1, cs_1 (c_gapBefore I b1) (fun s1 R1 j1 o1 => ⟨v1, cs_2 (e := eI_) (r_gapBefore (jr_cq j1.1.1 o1 hj) b1) (fun s2 c2 j2 b2 o2 => ⟨fun _ => nx s2 _ _ c2 (j_ro o2 j1) j2 g b2 (cz_ro o2 o1.2), fun y => absurd rfl y⟩)⟩)⟩
theorem lc_28 (I : J_ σ A R) (hj : Jr_ σ A c) (g : Gd_ A) (hc : c < 1000000000) (nx : Nx_ γ nm l4 Q σ R c) (v1 : vp_in (l4 + (1 : Int32)) (ga_L γ)) (v2 : vp_in (l4 + (2 : Int32)) (ga_L γ)) (b1 : -2147483648 ≤ z1 ∧ z1 < 2147483648) (b2 : -2147483648 ≤ z2 ∧ z2 < 2147483648) :
      vp_in (l4 + (1 : Int32)) (ga_L γ) ∧
      vp_in (l4 + (2 : Int32)) (ga_L γ) ∧
      ∃ (v346 : Int32) (s344 : st_T), Wd s344 ∧ fn_ γ m_L_matchesWith 10 [.ref 128, .int (i_ z1), .int (i_ z2), .ref 219] σ (.int v346) s344 ∧
      vp_in (l4 + (1 : Int32)) (ga_L γ) ∧
      vp_in (l4 + (2 : Int32)) (ga_L γ) ∧
      ∃ (v351 : Int32) (s349 : st_T), Wd s349 ∧ fn_ γ m_X12_matchesWith 6 [.ref 185, .int (i_ z1), .int (i_ z2)] s344 (.int v351) s349 ∧
      ∃ (v354 : Int32) (s352 : st_T), Wd s352 ∧ fn_ γ m_X12_thrown 0 [.ref 185] s349 (.int v354) s352 ∧
      (v354 = v346 →
        (v346 = (0 : Int32) →
          ((st_L s352 219 0) = (v351.toInt64) →
            vv_ γ (m_law nm) 84 23 [(0, .ref 22), (1, .ref 128), (2, .ref 185), (3, .ref 219), (4, .int (l4 + 6))] [] s352 Q
          ) ∧ (¬ (st_L s352 219 0) = (v351.toInt64) →
            Q (.inl (some (.int (0 : Int32)))) s352
          )
        ) ∧ (¬ v346 = (0 : Int32) →
          vv_ γ (m_law nm) 84 23 [(0, .ref 22), (1, .ref 128), (2, .ref 185), (3, .ref 219), (4, .int (l4 + 6))] [] s352 Q
        )
      ) ∧ (¬ v354 = v346 →
        Q (.inl (some (.int (0 : Int32)))) s352
      ) := by
  have zP := I.2.1.2.1
  have hN := I.2.1.2.2.1
  have gc : Gc_ (aP_ A) := I.2.1.2.2.2
  have hb := bz_all zP
  have hq := bq_of zP hb
  have hB : ∀ i, i < an2_ A → -128 ≤ aB_ A i ∧ aB_ A i < 128 := fun i zi => (I.1.2.1.2 i zi).2
  have h8 := I.2.2.1.2.1.1
  refine ⟨v1, v2, cs_L (lm_matchesWith I.1.1 (c_matchesWith I hq b1 b2) (vr_mq (fun _ _ => vr_if (fun _ => vr_ri _) (fun _ => vr_iae)))) (fun s1 R1 j1 o1 v => ⟨v1, v2, ?_⟩)⟩
  have k2 := r_matchesWith (γ := γ) (jr_cq j1.1.1 o1 hj) (by omega) zP gc hb b1 b2
  rw [er_with zP hb] at k2
  exact ct_i k2 v (by decide) (vr_mq (fun _ _ => vr_if (fun _ => vr_ri _) (fun _ => vr_iae))) ve_I (fun s2 c2 j2 b2 o2 => nx s2 _ _ c2 (j_ro o2 j1) j2 g b2 (cz_ro o2 o1.2))
theorem lc_29 (I : J_ σ A R) (hj : Jr_ σ A c) (g : Gd_ A) (hc : c < 1000000000) (nx : Nx_ γ nm l4 Q σ R c) (v1 : vp_in (l4 + (1 : Int32)) (ga_L γ)) (b1 : -2147483648 ≤ z1 ∧ z1 < 2147483648) :
      vp_in (l4 + (1 : Int32)) (ga_L γ) ∧
      ∃ (v361 : Int32) (s359 : st_T), Wd s359 ∧ fn_ γ m_L_fewestFences 11 [.ref 128, .int (i_ z1), .ref 219] σ (.int v361) s359 ∧
      vp_in (l4 + (1 : Int32)) (ga_L γ) ∧
      ∃ (v365 : Int32) (s363 : st_T), Wd s363 ∧ fn_ γ m_X12_fewestFences 7 [.ref 185, .int (i_ z1)] s359 (.int v365) s363 ∧
      ∃ (v368 : Int32) (s366 : st_T), Wd s366 ∧ fn_ γ m_X12_thrown 0 [.ref 185] s363 (.int v368) s366 ∧
      (v368 = v361 →
        (v361 = (0 : Int32) →
          ((st_L s366 219 0) = (v365.toInt64) →
            vv_ γ (m_law nm) 84 23 [(0, .ref 22), (1, .ref 128), (2, .ref 185), (3, .ref 219), (4, .int (l4 + 6))] [] s366 Q
          ) ∧ (¬ (st_L s366 219 0) = (v365.toInt64) →
            Q (.inl (some (.int (0 : Int32)))) s366
          )
        ) ∧ (¬ v361 = (0 : Int32) →
          vv_ γ (m_law nm) 84 23 [(0, .ref 22), (1, .ref 128), (2, .ref 185), (3, .ref 219), (4, .int (l4 + 6))] [] s366 Q
        )
      ) ∧ (¬ v368 = v361 →
        Q (.inl (some (.int (0 : Int32)))) s366
      ) := by
  have zP := I.2.1.2.1
  have hN := I.2.1.2.2.1
  have gc : Gc_ (aP_ A) := I.2.1.2.2.2
  have hb := bz_all zP
  have hq := bq_of zP hb
  have hB : ∀ i, i < an2_ A → -128 ≤ aB_ A i ∧ aB_ A i < 128 := fun i zi => (I.1.2.1.2 i zi).2
  have h8 := I.2.2.1.2.1.1
  refine ⟨v1, cs_L (lm_fewestFences I.1.1 (c_fewestFences I hq b1) (vr_mq (fun _ _ => vr_if (fun _ => vr_ri _) (fun _ => vr_ri _)))) (fun s1 R1 j1 o1 v => ⟨v1, ?_⟩)⟩
  have k2 := r_fewestFences (γ := γ) (jr_cq j1.1.1 o1 hj) (by omega) zP gc hb b1
  rw [er_few zP hb] at k2
  exact ct_i k2 v (by decide) (vr_mq (fun _ _ => vr_if (fun _ => vr_ri _) (fun _ => vr_ri _))) ve_I (fun s2 c2 j2 b2 o2 => nx s2 _ _ c2 (j_ro o2 j1) j2 g b2 (cz_ro o2 o1.2))
theorem lc_30 (I : J_ σ A R) (hj : Jr_ σ A c) (g : Gd_ A) (hc : c < 1000000000) (nx : Nx_ γ nm l4 Q σ R c) (v1 : vp_in (l4 + (1 : Int32)) (ga_L γ)) (b1 : -2147483648 ≤ z1 ∧ z1 < 2147483648) :
      vp_in (l4 + (1 : Int32)) (ga_L γ) ∧
      ∃ (v375 : Int32) (s373 : st_T), Wd s373 ∧ fn_ γ m_L_repairingFences 10 [.ref 128, .int (i_ z1), .ref 219] σ (.int v375) s373 ∧
      vp_in (l4 + (1 : Int32)) (ga_L γ) ∧
      ∃ (v379 : Int32) (s377 : st_T), Wd s377 ∧ fn_ γ m_X12_repairingFences 7 [.ref 185, .int (i_ z1)] s373 (.int v379) s377 ∧
      ∃ (v382 : Int32) (s380 : st_T), Wd s380 ∧ fn_ γ m_X12_thrown 0 [.ref 185] s377 (.int v382) s380 ∧
      (v382 = v375 →
        (v375 = (0 : Int32) →
          ((st_L s380 219 0) = (v379.toInt64) →
            vv_ γ (m_law nm) 84 23 [(0, .ref 22), (1, .ref 128), (2, .ref 185), (3, .ref 219), (4, .int (l4 + 6))] [] s380 Q
          ) ∧ (¬ (st_L s380 219 0) = (v379.toInt64) →
            Q (.inl (some (.int (0 : Int32)))) s380
          )
        ) ∧ (¬ v375 = (0 : Int32) →
          vv_ γ (m_law nm) 84 23 [(0, .ref 22), (1, .ref 128), (2, .ref 185), (3, .ref 219), (4, .int (l4 + 6))] [] s380 Q
        )
      ) ∧ (¬ v382 = v375 →
        Q (.inl (some (.int (0 : Int32)))) s380
      ) := by
  have zP := I.2.1.2.1
  have hN := I.2.1.2.2.1
  have gc : Gc_ (aP_ A) := I.2.1.2.2.2
  have hb := bz_all zP
  have hq := bq_of zP hb
  have hB : ∀ i, i < an2_ A → -128 ≤ aB_ A i ∧ aB_ A i < 128 := fun i zi => (I.1.2.1.2 i zi).2
  have h8 := I.2.2.1.2.1.1
  refine ⟨v1, cs_L (lm_repairingFences I.1.1 (c_repairingFences I hq b1) (vr_mq (fun _ _ => vr_ri _))) (fun s1 R1 j1 o1 v => ⟨v1, ?_⟩)⟩
  have k2 := r_repairingFences (γ := γ) (jr_cq j1.1.1 o1 hj) (by omega) zP gc hb b1
  rw [er_rep zP hb] at k2
  exact ct_i k2 v (by decide) (vr_mq (fun _ _ => vr_ri _)) ve_I (fun s2 c2 j2 b2 o2 => nx s2 _ _ c2 (j_ro o2 j1) j2 g b2 (cz_ro o2 o1.2))
theorem lc_31 (I : J_ σ A R) (hj : Jr_ σ A c) (g : Gd_ A) (hc : c < 1000000000) (nx : Nx_ γ nm l4 Q σ R c) (v1 : vp_in (l4 + (1 : Int32)) (ga_L γ)) (v2 : vp_in (l4 + (2 : Int32)) (ga_L γ)) (b1 : -2147483648 ≤ z1 ∧ z1 < 2147483648) (b2 : -2147483648 ≤ z2 ∧ z2 < 2147483648) :
      vp_in (l4 + (1 : Int32)) (ga_L γ) ∧
      vp_in (l4 + (2 : Int32)) (ga_L γ) ∧
      ∃ (v390 : Int32) (s388 : st_T), Wd s388 ∧ fn_ γ m_L_isFenceNeeded 10 [.ref 128, .int (i_ z1), .int (i_ z2), .ref 219] σ (.int v390) s388 ∧
      vp_in (l4 + (1 : Int32)) (ga_L γ) ∧
      vp_in (l4 + (2 : Int32)) (ga_L γ) ∧
      ∃ (v395 : Int32) (s393 : st_T), Wd s393 ∧ fn_ γ m_X12_isFenceNeeded 7 [.ref 185, .int (i_ z1), .int (i_ z2)] s388 (.int v395) s393 ∧
      ∃ (v398 : Int32) (s396 : st_T), Wd s396 ∧ fn_ γ m_X12_thrown 0 [.ref 185] s393 (.int v398) s396 ∧
      (v398 = v390 →
        (v390 = (0 : Int32) →
          (v395 = (0 : Int32) →
            ((st_L s396 219 0) = (0 : Int64) →
              vv_ γ (m_law nm) 84 23 [(0, .ref 22), (1, .ref 128), (2, .ref 185), (3, .ref 219), (4, .int (l4 + 6))] [] s396 Q
            ) ∧ (¬ (st_L s396 219 0) = (0 : Int64) →
              Q (.inl (some (.int (0 : Int32)))) s396
            )
          ) ∧ (¬ v395 = (0 : Int32) →
            ((st_L s396 219 0) = (1 : Int64) →
              vv_ γ (m_law nm) 84 23 [(0, .ref 22), (1, .ref 128), (2, .ref 185), (3, .ref 219), (4, .int (l4 + 6))] [] s396 Q
            ) ∧ (¬ (st_L s396 219 0) = (1 : Int64) →
              Q (.inl (some (.int (0 : Int32)))) s396
            )
          )
        ) ∧ (¬ v390 = (0 : Int32) →
          vv_ γ (m_law nm) 84 23 [(0, .ref 22), (1, .ref 128), (2, .ref 185), (3, .ref 219), (4, .int (l4 + 6))] [] s396 Q
        )
      ) ∧ (¬ v398 = v390 →
        Q (.inl (some (.int (0 : Int32)))) s396
      ) := by
  have zP := I.2.1.2.1
  have hN := I.2.1.2.2.1
  have gc : Gc_ (aP_ A) := I.2.1.2.2.2
  have hb := bz_all zP
  have hq := bq_of zP hb
  have hB : ∀ i, i < an2_ A → -128 ≤ aB_ A i ∧ aB_ A i < 128 := fun i zi => (I.1.2.1.2 i zi).2
  have h8 := I.2.2.1.2.1.1
  refine ⟨v1, v2, cs_L (lm_isFenceNeeded I.1.1 (c_isFenceNeeded I hq b1 b2) (vr_mq (fun _ _ => vr_im (fun _ _ => vr_if (fun _ => vr_rb _) (fun _ => vr_nse))))) (fun s1 R1 j1 o1 v => ⟨v1, v2, ?_⟩)⟩
  have k2 := r_isFenceNeeded (γ := γ) (jr_cq j1.1.1 o1 hj) (by omega) zP hb b1 b2
  rw [er_need zP hb] at k2
  exact ct_b k2 v (by decide) (vr_mq (fun _ _ => vr_im (fun _ _ => vr_if (fun _ => vr_rb _) (fun _ => vr_nse)))) ve_L (fun s2 c2 j2 b2 o2 => nx s2 _ _ c2 (j_ro o2 j1) j2 g b2 (cz_ro o2 o1.2))
end LC
