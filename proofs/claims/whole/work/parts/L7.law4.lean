/-! the law's cases -/
section LC
variable {γ : ga_T} {nm : String} {l4 x3 x4 x5 : Int32} {σ : st_T} {A : ca_T} {R : rt_T} {c : Nat} {Q : rs_T → st_T → Prop} {z1 z2 : Int}
theorem lc_32 (I : J_ σ A R) (hj : Jr_ σ A c) (g : Gd_ A) (hc : c < 1000000000) (nx : Nx_ γ nm l4 Q σ R c) (v1 : vp_in (l4 + (1 : Int32)) (ga_L γ)) (b1 : -2147483648 ≤ z1 ∧ z1 < 2147483648) :
      vp_in (l4 + (1 : Int32)) (ga_L γ) ∧
      ∃ (v407 : Int32) (s405 : st_T), Wd s405 ∧ fn_ γ m_L_insertFence 9 [.ref 128, .int (i_ z1), .ref 219] σ (.int v407) s405 ∧
      vp_in (l4 + (1 : Int32)) (ga_L γ) ∧
      ∃ (v411 : Int32) (s409 : st_T), Wd s409 ∧ fn_ γ m_X12_insertFence 4 [.ref 185, .int (i_ z1)] s405 (.int v411) s409 ∧
      ∃ (v414 : Int32) (s412 : st_T), Wd s412 ∧ fn_ γ m_X12_thrown 0 [.ref 185] s409 (.int v414) s412 ∧
      (v414 = v407 →
        (v407 = (0 : Int32) →
          ((st_L s412 219 0) = (v411.toInt64) →
            vv_ γ (m_law nm) 84 23 [(0, .ref 22), (1, .ref 128), (2, .ref 185), (3, .ref 219), (4, .int (l4 + 6))] [] s412 Q
          ) ∧ (¬ (st_L s412 219 0) = (v411.toInt64) →
            Q (.inl (some (.int (0 : Int32)))) s412
          )
        ) ∧ (¬ v407 = (0 : Int32) →
          vv_ γ (m_law nm) 84 23 [(0, .ref 22), (1, .ref 128), (2, .ref 185), (3, .ref 219), (4, .int (l4 + 6))] [] s412 Q
        )
      ) ∧ (¬ v414 = v407 →
        Q (.inl (some (.int (0 : Int32)))) s412
      ) := by
  have zP := I.2.1.2.1
  have hN := I.2.1.2.2.1
  have gc : Gc_ (aP_ A) := I.2.1.2.2.2
  have hb := bz_all zP
  have hq := bq_of zP hb
  have hB : ∀ i, i < an2_ A → -128 ≤ aB_ A i ∧ aB_ A i < 128 := fun i zi => (I.1.2.1.2 i zi).2
  have h8 := I.2.2.1.2.1.1
  exact ⟨v1, cs_L (lm_insertFence I.1.1 ((c_insertFence I g.1 b1).1) vr_ins) (fun s1 R1 j1 o1 v => ⟨v1, ct_i (r_insertFence (jr_cq j1.1.1 o1 hj) zP g.1 h8 b1) v (by decide) vr_ins ve_3 (fun s2 c2 j2 b2 o2 => nx s2 _ _ c2 (j_ro o2 j1) j2 (gd_ins g (c_insertFence (γ := γ) I g.1 b1).2) b2 (cz_ro o2 o1.2))⟩)⟩
theorem lc_33 (I : J_ σ A R) (hj : Jr_ σ A c) (g : Gd_ A) (hc : c < 1000000000) (nx : Nx_ γ nm l4 Q σ R c) (v1 : vp_in (l4 + (1 : Int32)) (ga_L γ)) (b1 : -2147483648 ≤ z1 ∧ z1 < 2147483648) :
      vp_in (l4 + (1 : Int32)) (ga_L γ) ∧
      ∃ (v421 : Int32) (s419 : st_T), Wd s419 ∧ fn_ γ m_L_removeFence 10 [.ref 128, .int (i_ z1), .ref 219] σ (.int v421) s419 ∧
      vp_in (l4 + (1 : Int32)) (ga_L γ) ∧
      ∃ (v425 : Int32) (s423 : st_T), Wd s423 ∧ fn_ γ m_X12_removeFence 3 [.ref 185, .int (i_ z1)] s419 (.int v425) s423 ∧
      ∃ (v428 : Int32) (s426 : st_T), Wd s426 ∧ fn_ γ m_X12_thrown 0 [.ref 185] s423 (.int v428) s426 ∧
      (v428 = v421 →
        (v421 = (0 : Int32) →
          ((st_L s426 219 0) = (v425.toInt64) →
            vv_ γ (m_law nm) 84 23 [(0, .ref 22), (1, .ref 128), (2, .ref 185), (3, .ref 219), (4, .int (l4 + 6))] [] s426 Q
          ) ∧ (¬ (st_L s426 219 0) = (v425.toInt64) →
            Q (.inl (some (.int (0 : Int32)))) s426
          )
        ) ∧ (¬ v421 = (0 : Int32) →
          vv_ γ (m_law nm) 84 23 [(0, .ref 22), (1, .ref 128), (2, .ref 185), (3, .ref 219), (4, .int (l4 + 6))] [] s426 Q
        )
      ) ∧ (¬ v428 = v421 →
        Q (.inl (some (.int (0 : Int32)))) s426
      ) := by
  have zP := I.2.1.2.1
  have hN := I.2.1.2.2.1
  have gc : Gc_ (aP_ A) := I.2.1.2.2.2
  have hb := bz_all zP
  have hq := bq_of zP hb
  have hB : ∀ i, i < an2_ A → -128 ≤ aB_ A i ∧ aB_ A i < 128 := fun i zi => (I.1.2.1.2 i zi).2
  have h8 := I.2.2.1.2.1.1
  exact ⟨v1, cs_L (lm_removeFence I.1.1 ((c_removeFence I g.1 g.2.1 b1).1) vr_rem) (fun s1 R1 j1 o1 v => ⟨v1, ct_i (r_removeFence (jr_cq j1.1.1 o1 hj) zP g.1 g.2.1 h8 b1) v (by decide) vr_rem ve_O (fun s2 c2 j2 b2 o2 => nx s2 _ _ c2 (j_ro o2 j1) j2 (gd_rem g (c_removeFence (γ := γ) I g.1 g.2.1 b1).2) b2 (cz_ro o2 o1.2))⟩)⟩
theorem lc_34 (I : J_ σ A R) (hj : Jr_ σ A c) (g : Gd_ A) (hc : c < 1000000000) (nx : Nx_ γ nm l4 Q σ R c) :
      ∃ (v434 : Int32) (s432 : st_T), Wd s432 ∧ fn_ γ m_X11_undo 3 [.ref 128] σ (.int v434) s432 ∧
      ∃ (v437 : Int32) (s435 : st_T), Wd s435 ∧ fn_ γ m_X12_undo 0 [.ref 185] s432 (.int v437) s435 ∧
      (v434 = v437 →
        vv_ γ (m_law nm) 84 23 [(0, .ref 22), (1, .ref 128), (2, .ref 185), (3, .ref 219), (4, .int (l4 + 6))] [] s435 Q
      ) ∧ (¬ v434 = v437 →
        Q (.inl (some (.int (0 : Int32)))) s435
      ) := by
  have zP := I.2.1.2.1
  have hN := I.2.1.2.2.1
  have gc : Gc_ (aP_ A) := I.2.1.2.2.2
  have hb := bz_all zP
  have hq := bq_of zP hb
  have hB : ∀ i, i < an2_ A → -128 ≤ aB_ A i ∧ aB_ A i < 128 := fun i zi => (I.1.2.1.2 i zi).2
  have h8 := I.2.2.1.2.1.1
  obtain ⟨k1, k2⟩ := c_undo (γ := γ) I g.1
  have gd := gd_und g k2
  obtain ⟨x, ex⟩ := ud_v (A := A)
  rw [ex] at k1
  refine cs_1 k1 (fun s1 R1 j1 o1 => ?_)
  have k3 := r_undo (γ := γ) (e := eI_) (jr_cq j1.1.1 o1 hj) g.1 h8
  rw [ex] at k3
  exact cs_2 (e := eI_) k3 (fun s2 c2 j2 b2 o2 => ⟨fun _ => nx s2 _ _ c2 (j_ro o2 j1) j2 gd b2 (cz_ro o2 o1.2), fun y => absurd rfl y⟩)
theorem lc_35 (I : J_ σ A R) (hj : Jr_ σ A c) (g : Gd_ A) (hc : c < 1000000000) (nx : Nx_ γ nm l4 Q σ R c) (v1 : vp_in (l4 + (1 : Int32)) (ga_L γ)) (v2 : vp_in (l4 + (2 : Int32)) (ga_L γ)) (b1 : -2147483648 ≤ z1 ∧ z1 < 2147483648) (b2 : -2147483648 ≤ z2 ∧ z2 < 2147483648) :
      vp_in (l4 + (1 : Int32)) (ga_L γ) ∧
      vp_in (l4 + (2 : Int32)) (ga_L γ) ∧
      ∃ (v443 : Int32) (s441 : st_T), Wd s441 ∧ fn_ γ m_L_explain 83 [.ref 128, .int (i_ z1), .int (i_ z2), .ref 219] σ (.int v443) s441 ∧
      vp_in (l4 + (1 : Int32)) (ga_L γ) ∧
      vp_in (l4 + (2 : Int32)) (ga_L γ) ∧
      ∃ (v448 : Int32) (s446 : st_T), Wd s446 ∧ fn_ γ m_X12_explain 7 [.ref 185, .int (i_ z1), .int (i_ z2)] s441 (.int v448) s446 ∧
      ∃ (v451 : Int32) (s449 : st_T), Wd s449 ∧ fn_ γ m_X12_thrown 0 [.ref 185] s446 (.int v451) s449 ∧
      (v451 = v443 →
        (v443 = (0 : Int32) →
          ((st_L s449 219 0) = (v448.toInt64) →
            vv_ γ (m_law nm) 84 23 [(0, .ref 22), (1, .ref 128), (2, .ref 185), (3, .ref 219), (4, .int (l4 + 6))] [] s449 Q
          ) ∧ (¬ (st_L s449 219 0) = (v448.toInt64) →
            Q (.inl (some (.int (0 : Int32)))) s449
          )
        ) ∧ (¬ v443 = (0 : Int32) →
          vv_ γ (m_law nm) 84 23 [(0, .ref 22), (1, .ref 128), (2, .ref 185), (3, .ref 219), (4, .int (l4 + 6))] [] s449 Q
        )
      ) ∧ (¬ v451 = v443 →
        Q (.inl (some (.int (0 : Int32)))) s449
      ) := by
  have zP := I.2.1.2.1
  have hN := I.2.1.2.2.1
  have gc : Gc_ (aP_ A) := I.2.1.2.2.2
  have hb := bz_all zP
  have hq := bq_of zP hb
  have hB : ∀ i, i < an2_ A → -128 ≤ aB_ A i ∧ aB_ A i < 128 := fun i zi => (I.1.2.1.2 i zi).2
  have h8 := I.2.2.1.2.1.1
  obtain ⟨A2, ha, hA⟩ := c_explain (γ := γ) I hq b1 b2
  have gd := gd_exp g zP hA
  exact ⟨v1, v2, cs_L (lm_explain I.1.1 ha (vr_mq (fun _ _ => vr_if (fun _ => vr_ri _) (fun _ => vr_ri _)))) (fun s1 R1 j1 o1 v => ⟨v1, v2, ct_i (r_explain (jr_cq j1.1.1 o1 hj) (by omega) zP hb b1 b2 hA (ex_len j1)) v (by decide) (vr_mq (fun _ _ => vr_if (fun _ => vr_ri _) (fun _ => vr_ri _))) ve_I (fun s2 c2 j2 b2 o2 => nx s2 _ _ c2 (j_ro o2 j1) j2 gd b2 (cz_ro o2 o1.2))⟩)⟩
theorem lc_36 (I : J_ σ A R) (hj : Jr_ σ A c) (g : Gd_ A) (hc : c < 1000000000) (nx : Nx_ γ nm l4 Q σ R c) (v1 : vp_in (l4 + (1 : Int32)) (ga_L γ)) (b1 : -2147483648 ≤ z1 ∧ z1 < 2147483648) :
      vp_in (l4 + (1 : Int32)) (ga_L γ) ∧
      ∃ (v458 : Int32) (s456 : st_T), Wd s456 ∧ fn_ γ m_X11_step 1 [.ref 128, .int (i_ z1)] σ (.int v458) s456 ∧
      vp_in (l4 + (1 : Int32)) (ga_L γ) ∧
      ∃ (v462 : Int32) (s460 : st_T), Wd s460 ∧ fn_ γ m_X12_step 1 [.ref 185, .int (i_ z1)] s456 (.int v462) s460 ∧
      (v458 = v462 →
        vv_ γ (m_law nm) 84 23 [(0, .ref 22), (1, .ref 128), (2, .ref 185), (3, .ref 219), (4, .int (l4 + 6))] [] s460 Q
      ) ∧ (¬ v458 = v462 →
        Q (.inl (some (.int (0 : Int32)))) s460
      ) := by
  have zP := I.2.1.2.1
  have hN := I.2.1.2.2.1
  have gc : Gc_ (aP_ A) := I.2.1.2.2.2
  have hb := bz_all zP
  have hq := bq_of zP hb
  have hB : ∀ i, i < an2_ A → -128 ≤ aB_ A i ∧ aB_ A i < 128 := fun i zi => (I.1.2.1.2 i zi).2
  have h8 := I.2.2.1.2.1.1
  exact ⟨v1, cs_1 (c_step I b1) (fun s1 R1 j1 o1 => ⟨v1, cs_2 (e := eI_) (r_step (jr_cq j1.1.1 o1 hj) b1) (fun s2 c2 j2 b2 o2 => ⟨fun _ => nx s2 _ _ c2 (j_ro o2 j1) j2 g b2 (cz_ro o2 o1.2), fun y => absurd rfl y⟩)⟩)⟩
theorem lc_37 (I : J_ σ A R) (hj : Jr_ σ A c) (g : Gd_ A) (hc : c < 1000000000) (nx : Nx_ γ nm l4 Q σ R c) (v1 : vp_in (l4 + (1 : Int32)) (ga_L γ)) (b1 : -2147483648 ≤ z1 ∧ z1 < 2147483648) :
      vp_in (l4 + (1 : Int32)) (ga_L γ) ∧
      ∃ (v467 : Int32) (s465 : st_T), Wd s465 ∧ fn_ γ m_L_readsFrom 10 [.ref 128, .int (i_ z1), .ref 219] σ (.int v467) s465 ∧
      vp_in (l4 + (1 : Int32)) (ga_L γ) ∧
      ∃ (v471 : Int32) (s469 : st_T), Wd s469 ∧ fn_ γ m_X12_readsFrom 3 [.ref 185, .int (i_ z1)] s465 (.int v471) s469 ∧
      ∃ (v474 : Int32) (s472 : st_T), Wd s472 ∧ fn_ γ m_X12_thrown 0 [.ref 185] s469 (.int v474) s472 ∧
      (v474 = v467 →
        (v467 = (0 : Int32) →
          ((st_L s472 219 0) = (v471.toInt64) →
            vv_ γ (m_law nm) 84 23 [(0, .ref 22), (1, .ref 128), (2, .ref 185), (3, .ref 219), (4, .int (l4 + 6))] [] s472 Q
          ) ∧ (¬ (st_L s472 219 0) = (v471.toInt64) →
            Q (.inl (some (.int (0 : Int32)))) s472
          )
        ) ∧ (¬ v467 = (0 : Int32) →
          vv_ γ (m_law nm) 84 23 [(0, .ref 22), (1, .ref 128), (2, .ref 185), (3, .ref 219), (4, .int (l4 + 6))] [] s472 Q
        )
      ) ∧ (¬ v474 = v467 →
        Q (.inl (some (.int (0 : Int32)))) s472
      ) := by
  have zP := I.2.1.2.1
  have hN := I.2.1.2.2.1
  have gc : Gc_ (aP_ A) := I.2.1.2.2.2
  have hb := bz_all zP
  have hq := bq_of zP hb
  have hB : ∀ i, i < an2_ A → -128 ≤ aB_ A i ∧ aB_ A i < 128 := fun i zi => (I.1.2.1.2 i zi).2
  have h8 := I.2.2.1.2.1.1
  exact ⟨v1, cs_L (lm_readsFrom I.1.1 (c_readsFrom I b1) (vr_im (fun _ _ => vr_if (fun _ => vr_nse) (fun _ => vr_ri _)))) (fun s1 R1 j1 o1 v => ⟨v1, ct_i (r_readsFrom (jr_cq j1.1.1 o1 hj) zP b1) v (by decide) (vr_im (fun _ _ => vr_if (fun _ => vr_nse) (fun _ => vr_ri _))) ve_O (fun s2 c2 j2 b2 o2 => nx s2 _ _ c2 (j_ro o2 j1) j2 g b2 (cz_ro o2 o1.2))⟩)⟩
theorem lc_38 (I : J_ σ A R) (hj : Jr_ σ A c) (g : Gd_ A) (hc : c < 1000000000) (nx : Nx_ γ nm l4 Q σ R c) (v1 : vp_in (l4 + (1 : Int32)) (ga_L γ)) (v2 : vp_in (l4 + (2 : Int32)) (ga_L γ)) (b1 : -2147483648 ≤ z1 ∧ z1 < 2147483648) (b2 : -2147483648 ≤ z2 ∧ z2 < 2147483648) :
      vp_in (l4 + (1 : Int32)) (ga_L γ) ∧
      vp_in (l4 + (2 : Int32)) (ga_L γ) ∧
      ∃ (v482 : Int32) (s480 : st_T), Wd s480 ∧ fn_ γ m_L_writtenBy 10 [.ref 128, .int (i_ z1), .int (i_ z2), .ref 219] σ (.int v482) s480 ∧
      vp_in (l4 + (1 : Int32)) (ga_L γ) ∧
      vp_in (l4 + (2 : Int32)) (ga_L γ) ∧
      ∃ (v487 : Int32) (s485 : st_T), Wd s485 ∧ fn_ γ m_X12_writtenBy 1 [.ref 185, .int (i_ z1), .int (i_ z2)] s480 (.int v487) s485 ∧
      ∃ (v490 : Int32) (s488 : st_T), Wd s488 ∧ fn_ γ m_X12_thrown 0 [.ref 185] s485 (.int v490) s488 ∧
      (v490 = v482 →
        (v482 = (0 : Int32) →
          ((st_L s488 219 0) = (v487.toInt64) →
            vv_ γ (m_law nm) 84 23 [(0, .ref 22), (1, .ref 128), (2, .ref 185), (3, .ref 219), (4, .int (l4 + 6))] [] s488 Q
          ) ∧ (¬ (st_L s488 219 0) = (v487.toInt64) →
            Q (.inl (some (.int (0 : Int32)))) s488
          )
        ) ∧ (¬ v482 = (0 : Int32) →
          vv_ γ (m_law nm) 84 23 [(0, .ref 22), (1, .ref 128), (2, .ref 185), (3, .ref 219), (4, .int (l4 + 6))] [] s488 Q
        )
      ) ∧ (¬ v490 = v482 →
        Q (.inl (some (.int (0 : Int32)))) s488
      ) := by
  have zP := I.2.1.2.1
  have hN := I.2.1.2.2.1
  have gc : Gc_ (aP_ A) := I.2.1.2.2.2
  have hb := bz_all zP
  have hq := bq_of zP hb
  have hB : ∀ i, i < an2_ A → -128 ≤ aB_ A i ∧ aB_ A i < 128 := fun i zi => (I.1.2.1.2 i zi).2
  have h8 := I.2.2.1.2.1.1
  exact ⟨v1, v2, cs_L (lm_writtenBy I.1.1 (c_writtenBy I b1 b2) (vr_lm (fun _ _ => vr_ri _))) (fun s1 R1 j1 o1 v => ⟨v1, v2, ct_i (r_writtenBy (jr_cq j1.1.1 o1 hj) g.2.2 b1 b2) v (by decide) (vr_lm (fun _ _ => vr_ri _)) ve_O1 (fun s2 c2 j2 b2 o2 => nx s2 _ _ c2 (j_ro o2 j1) j2 g b2 (cz_ro o2 o1.2))⟩)⟩
end LC
