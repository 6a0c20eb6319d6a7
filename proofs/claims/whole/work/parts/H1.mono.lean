/-! fewer waits, more outcomes; what model 0 gives, every model gives (T8) -/
section MO
variable {p : pr_T} {g g2 : gm_T} {K t w m n l G : Nat} {z : Int} {S S0 S2 : gs_T} {F F2 : Nat → Bool}
theorem gt_mono (hF : ∀ n, F2 n = true → F n = true) (e : gt_ (gcl_ p m F) S t w = some S2) : gt_ (gcl_ p m F2) S t w = some S2 := by
  unfold gt_ at e ⊢
  by_cases c : w = 0
  · rw [if_pos c] at e ⊢
    obtain ⟨z1, z2⟩ := gx_eq (by rw [e]; exact fun y => by cases y)
    have eb := gx_b z1 z2
    rw [e] at eb
    rw [gx_b (g := gcl_ p m F2) (S := S) (t := t) z1 (fun y => z2 ⟨hF _ y.1, y.2⟩), Option.some.inj eb]
    rfl
  · rw [if_neg c] at e ⊢
    exact e
theorem rc_mono (hF : ∀ n, F2 n = true → F n = true) (h : Rc_ (gcl_ p m F) S0 S) : Rc_ (gcl_ p m F2) S0 S := h (Rc_ (gcl_ p m F2) S0) rc_0 (fun _ _ _ _ y z1 z2 z3 => rc_s y z1 z2 (gt_mono hF z3))
theorem ub_ub {f : Nat → Bool} (h : f n = false) : ub_ (ub_ f n true) n false = f := funext (fun j => by
  unfold ub_
  by_cases c : j = n
  · rw [if_pos c, c, h]
  · rw [if_neg c, if_neg c])
/-- a step of model 0, in another model -/
theorem t8_step (zP : Wp_ p) (hm : m < 3) (hW : ∀ n, sW_ S n = false) (q1 : t < 4) (e : gt_ (gcl_ p 0 F) S t w = some S2) : (∀ n, sW_ S2 n = false) ∧ ∀ S0, Rc_ (gcl_ p m F2) S0 S → Rc_ (gcl_ p m F2) S0 S2 := by
  have n1 : ∀ g u, ga1_ g S u = none := fun g u => (f1_none _ _ _).mpr (fun j _ _ => hW j)
  have n2 : ∀ g u l, gw2_ g S u l = none := fun g u l => (f2_none _ _ _).mpr (fun j _ _ => by rw [hW j, Bool.false_and])
  by_cases c : w = 0
  · subst c
    have e : gx_ (gcl_ p 0 F) S t = some S2 := e
    obtain ⟨z1, z2⟩ := gx_eq (by rw [e]; exact fun y => by cases y)
    have eb := gx_b z1 z2
    rw [e] at eb
    have eb := Option.some.inj eb
    have z1' : sP_ S t < gl_ (gcl_ p m F2) t := z1
    have ex := gx_b (g := gcl_ p m F2) (S := S) (t := t) z1' (fun y => y.2 (n1 _ t))
    have hn := th_n (m := m) (F := F2) zP z1'
    obtain ⟨n, en⟩ : ∃ n, n = gB0_ p t + sP_ S t := ⟨_, rfl⟩
    have eb : S2 = gxb_ (gcl_ p 0 F) S t n := by rw [en]; exact eb
    have ex : gx_ (gcl_ p m F2) S t = some (gxb_ (gcl_ p m F2) S t n) := by rw [en]; exact ex
    rw [← en] at hn
    by_cases k0 : pC_ p n 1 = 0
    · have e2 : S2 = (un_ (sP_ S) t (sP_ S t + 1), sR_ S, un_ (sM_ S) (pC_ p n 2).toNat (gv_ (gcl_ p 0 F) S t n), sW_ S) := by
        rw [eb]
        unfold gxb_
        rw [if_pos (show gC_ (gcl_ p 0 F) n 1 = 0 from k0), if_pos (show gm_ (gcl_ p 0 F) = 0 from rfl)]
        rfl
      refine ⟨fun j => by rw [e2]; exact hW j, fun S0 h => ?_⟩
      by_cases m0 : m = 0
      · subst m0
        have e3 : gxb_ (gcl_ p 0 F2) S t n = S2 := by
          rw [e2]
          unfold gxb_
          rw [if_pos (show gC_ (gcl_ p 0 F2) n 1 = 0 from k0), if_pos (show gm_ (gcl_ p 0 F2) = 0 from rfl)]
          rfl
        rw [e3] at ex
        exact rc_s (w := 0) h q1 (by decide) ex
      · have e3 : gxb_ (gcl_ p m F2) S t n = (un_ (sP_ S) t (sP_ S t + 1), sR_ S, sM_ S, ub_ (sW_ S) n true) := by
          unfold gxb_
          rw [if_pos (show gC_ (gcl_ p m F2) n 1 = 0 from k0), if_neg (show ¬ gm_ (gcl_ p m F2) = 0 from m0)]
        rw [e3] at ex
        have h1 := rc_s (w := 0) h q1 (by decide) ex
        obtain ⟨b1, b2⟩ := (zP.2.1 n hn.1).2.2.2.2.1 (by omega)
        have bL := zP.1.2.2.1
        obtain ⟨l, hl⟩ : ∃ l : Nat, pC_ p n 2 = l := ⟨(pC_ p n 2).toNat, by omega⟩
        have seg : gB0_ p t ≤ n ∧ n < gB0_ p t + gl_ (gcl_ p m F2) t := by omega
        have y1 : gw1_ (gcl_ p m F2) (un_ (sP_ S) t (sP_ S t + 1), sR_ S, sM_ S, ub_ (sW_ S) n true) t (l : Int) = some n := by
          refine (f1_some _ _ _).mpr ⟨seg.1, seg.2, ?_, fun j j1 j2 => ?_⟩
          · show ((if n = n then true else sW_ S n) && decide (pC_ p n 2 = l)) = true
            rw [if_pos rfl, hl]
            exact decide_eq_true rfl
          · show ((if j = n then true else sW_ S j) && _) = false
            rw [if_neg (by omega), hW j, Bool.false_and]
        have y2 : ga1_ (gcl_ p m F2) (un_ (sP_ S) t (sP_ S t + 1), sR_ S, sM_ S, ub_ (sW_ S) n true) t = some n := by
          refine (f1_some _ _ _).mpr ⟨seg.1, seg.2, ?_, fun j j1 j2 => ?_⟩
          · show (if n = n then true else sW_ S n) = true
            rw [if_pos rfl]
          · show (if j = n then true else sW_ S j) = false
            rw [if_neg (by omega), hW j]
        have y3 : gn_ (gcl_ p m F2) (un_ (sP_ S) t (sP_ S t + 1), sR_ S, sM_ S, ub_ (sW_ S) n true) t l = some n := by
          unfold gn_
          rw [y1]
          dsimp only
          rw [y2, if_neg (fun y => y.2 rfl)]
        have y4 : gt_ (gcl_ p m F2) (un_ (sP_ S) t (sP_ S t + 1), sR_ S, sM_ S, ub_ (sW_ S) n true) t (l + 1) = some S2 := by
          unfold gt_
          rw [if_neg (by omega), Nat.add_sub_cancel]
          unfold gc_
          rw [y3, e2]
          show some (un_ (sP_ S) t (sP_ S t + 1), sR_ S, un_ (sM_ S) l (gv_ (gcl_ p m F2) (un_ (sP_ S) t (sP_ S t + 1), sR_ S, sM_ S, ub_ (sW_ S) n true) t n), ub_ (ub_ (sW_ S) n true) n false) = _
          rw [ub_ub (hW n), hl, Int.toNat_natCast]
          rfl
        exact rc_s h1 q1 (by omega) y4
    · have e3 : gxb_ (gcl_ p m F2) S t n = S2 := by
        rw [eb]
        unfold gxb_
        rw [if_neg (show ¬ gC_ (gcl_ p m F2) n 1 = 0 from k0), if_neg (show ¬ gC_ (gcl_ p 0 F) n 1 = 0 from k0), n2, n2]
        rfl
      rw [e3] at ex
      refine ⟨fun j => ?_, fun S0 h => rc_s (w := 0) h q1 (by decide) ex⟩
      have eW : sW_ S2 = sW_ S := by
        rw [← e3]
        unfold gxb_
        rw [if_neg (show ¬ gC_ (gcl_ p m F2) n 1 = 0 from k0)]
        repeat (first | rfl | split)
      rw [eW]
      exact hW j
  · exfalso
    unfold gt_ at e
    rw [if_neg c, gc_none (n1 _ t)] at e
    cases e
theorem t8_ (zP : Wp_ p) (hm : m < 3) (h : Rc_ (gcl_ p 0 F) (s0k_ p (pL_ p)) S) : Rc_ (gcl_ p m F2) (s0k_ p (pL_ p)) S := (h (fun S => (∀ n, sW_ S n = false) ∧ Rc_ (gcl_ p m F2) (s0k_ p (pL_ p)) S) ⟨fun _ => rfl, rc_0⟩ (fun _ _ _ _ y z1 _ z3 => ⟨(t8_step (F2 := F2) zP hm y.1 z1 z3).1, (t8_step zP hm y.1 z1 z3).2 _ y.2⟩)).2
end MO
