/-! the program written -/
section WR
variable {γ : ga_T} {σ σ1 : st_T} {A A' : ca_T} {R : rt_T} {P : pq_T}
def wd_ (P : pq_T) : Nat → List Int
  | 0 => []
  | l + 1 => wd_ P l ++ odc_ P l
def wi_ (P : pq_T) (a : Nat) : Nat → List Int
  | 0 => []
  | k + 1 => wi_ P a k ++ oin_ P (a + k)
def wth_ (P : pq_T) : Nat → List Int
  | 0 => []
  | t + 1 => wth_ P t ++ ((kt_ 1 ++ [59]) ++ wi_ P (gB0_ P.1 t) (gB0_ P.1 (t + 1) - gB0_ P.1 t))
def wri_ (P : pq_T) : List Int := wd_ P (pL_ P.1) ++ wth_ P (pT_ P.1)
theorem odc_len (hN : Nv_ P) {l : Nat} (hl : l < pL_ P.1) : (odc_ P l).length ≤ 15 := by
  have y := (hN l hl).1
  have y2 := onu_len (pI_ P.1 l)
  unfold odc_
  simp only [List.length_append, List.length_cons, List.length_nil]
  omega
theorem oin_len (hN : Nv_ P) (hP : Wp_ P.1) {i : Nat} (hi : i < pN_ P.1) : (oin_ P i).length ≤ 23 := by
  have W := hP.2.1 i hi
  have b1 := hP.1.2.2.2.2 i 1
  have w3 := W.2.2.1
  have y4 := onu_len (pC_ P.1 i 4)
  have yg : ∀ z : Int, (org_ z).length ≤ 3 := by
    intro z
    unfold org_
    split <;> simp
  have g1 := yg (pC_ P.1 i 3)
  have g2 := yg (pC_ P.1 i 5)
  have k5 : (kt_ (okd_ (pC_ P.1 i 1))).length ≤ 5 := by
    rw [kt_len]
    have e : pC_ P.1 i 1 = 0 ∨ pC_ P.1 i 1 = 1 ∨ pC_ P.1 i 1 = 2 ∨ pC_ P.1 i 1 = 3 := by omega
    rcases e with e | e | e | e <;> rw [e] <;> decide
  have nm : (if pC_ P.1 i 1 = 3 then ([] : List Int) else 32 :: P.2.1 (pC_ P.1 i 2).toNat).length ≤ 9 := by
    split
    · exact Nat.zero_le _
    · rename_i e
      have y := W.2.2.2.2.1 e
      have y2 := (hN (pC_ P.1 i 2).toNat (by omega)).1
      rw [List.length_cons]
      omega
  unfold oin_
  simp only [List.length_append, List.length_cons, List.length_nil] at *
  omega
theorem wd_len (hN : Nv_ P) : ∀ l, l ≤ pL_ P.1 → (wd_ P l).length ≤ 15 * l
  | 0, _ => Nat.zero_le _
  | l + 1, h => by
    have y := wd_len hN l (by omega)
    have y2 := odc_len hN (l := l) (by omega)
    show (wd_ P l ++ odc_ P l).length ≤ _
    rw [List.length_append]
    omega
theorem wi_len (hN : Nv_ P) (hP : Wp_ P.1) (a : Nat) : ∀ k, a + k ≤ pN_ P.1 → (wi_ P a k).length ≤ 23 * k
  | 0, _ => Nat.zero_le _
  | k + 1, h => by
    have y := wi_len hN hP a k (by omega)
    have y2 := oin_len hN hP (i := a + k) (by omega)
    show (wi_ P a k ++ oin_ P (a + k)).length ≤ _
    rw [List.length_append]
    omega
theorem kt1_len : (kt_ 1).length = 6 := by
  rw [kt_len]
  decide
theorem wth_len (hN : Nv_ P) (hP : Wp_ P.1) : ∀ t, t ≤ pT_ P.1 → (wth_ P t).length ≤ 7 * t + 23 * gB0_ P.1 t
  | 0, _ => Nat.zero_le _
  | t + 1, h => by
    have y := wth_len hN hP t (by omega)
    have m := gB_mono hP (show t ≤ t + 1 by omega)
    have le := gB_le (p := P.1) (t + 1)
    have y2 := wi_len hN hP (gB0_ P.1 t) (gB0_ P.1 (t + 1) - gB0_ P.1 t) (by omega)
    have k1 := kt1_len
    show (wth_ P t ++ ((kt_ 1 ++ [59]) ++ wi_ P (gB0_ P.1 t) (gB0_ P.1 (t + 1) - gB0_ P.1 t))).length ≤ _
    rw [List.length_append, List.length_append, List.length_append, List.length_singleton]
    omega
theorem c_write (h : J_ σ A R) : Ans_ γ m_X11_write 16 [.ref 128] σ R (aB_ A, an2_ A, aP_ A, wri_ (aP_ A), (A.2.2.2.2)) (ri_ (wri_ (aP_ A)).length) := by
  have key : sp_ γ m_X11_write 16 [.ref 128] σ (fun q s => q = ri_ (wri_ (aP_ A)).length ∧ ∃ R1, J_ s (aB_ A, an2_ A, aP_ A, wri_ (aP_ A), (A.2.2.2.2)) R1 ∧ Co_ σ R 0 s R1) := by
    have w := h.1.1
    have zP := h.2.1.1
    obtain ⟨hP, hN, -⟩ := h.2.1.2
    have b0 := zP.1.1.1
    have b1 := zP.1.1.2.1
    have b2 := zP.1.1.2.2.1
    have fin : ∀ s, Wd s → Xo_ s (wri_ (aP_ A)) → of_ σ s → J_ s (aB_ A, an2_ A, aP_ A, wri_ (aP_ A), (A.2.2.2.2)) R ∧ Co_ σ R 0 s R := fun s k1 k2 k3 =>
      j_mk (A' := (aB_ A, an2_ A, aP_ A, wri_ (aP_ A), (A.2.2.2.2))) h k1 k3.2.1 k3.2.2.1 k3.2.2.2 (fun b z => k3.1 b (by omega) (by omega)) ⟨⟨h.1.2.1.1, fun i zi => by rw [(k3.1 129 (by omega) (by omega)).1]; exact h.1.2.1.2 i zi⟩, by rw [(k3.1 128 (by omega) (by omega)).1]; exact h.1.2.2⟩
        ⟨pq_eh zP (k3.1 _ (by omega) (by omega)) (k3.1 _ (by omega) (by omega)) (k3.1 _ (by omega) (by omega)) (k3.1 _ (by omega) (by omega)) (k3.1 _ (by omega) (by omega)), h.2.1.2⟩ ⟨k2, Xc_eh h.2.2.1.2.1 (k3.1 _ (by omega) (by omega)) (k3.1 _ (by omega) (by omega)), Ep_eh h.2.2.1.2.2 (k3.1 _ (by omega) (by omega)) (k3.1 _ (by omega) (by omega)) (k3.1 _ (by omega) (by omega)) (k3.1 _ (by omega) (by omega))⟩ (fun m hm => j_kn h k3.2.1 (fun b z => k3.1 b (by omega) (by omega)) hm)
    generalize hQ : (fun (q : rs_T) (s : st_T) => q = ri_ (wri_ (aP_ A)).length ∧ ∃ R1, J_ s (aB_ A, an2_ A, aP_ A, wri_ (aP_ A), (A.2.2.2.2)) R1 ∧ Co_ σ R 0 s R1) = Q
    have zQ : ∀ s, Wd s → Xo_ s (wri_ (aP_ A)) → of_ σ s → Q (ri_ (wri_ (aP_ A)).length) s := fun s k1 k2 k3 => by
      rw [← hQ]
      exact ⟨rfl, R, fin s k1 k2 k3⟩
    clear hQ fin
    generalize aP_ A = P at zP hP hN b0 b1 b2 zQ
    have pq : ∀ s, of_ σ s → Pq_ s 132 P := fun s k3 => pq_eh zP (k3.1 _ (by omega) (by omega)) (k3.1 _ (by omega) (by omega)) (k3.1 _ (by omega) (by omega)) (k3.1 _ (by omega) (by omega)) (k3.1 _ (by omega) (by omega))
    have wl := wd_len hN (pL_ P.1) (Nat.le_refl _)
    have instrs : ∀ (t : Nat), t < pT_ P.1 → (∀ s, Wd s → Xo_ s (wd_ P (pL_ P.1) ++ wth_ P (t + 1)) → of_ σ s → vv_ γ m_X11_write 16 42 [(0, .ref 128), (1, .int (i_ (gB0_ P.1 (t + 1) : Int))), (2, .int (i_ ((t + 1 : Nat) : Int)))] [] s Q) →
        ∀ k i : Nat, gB0_ P.1 t + i + k = gB0_ P.1 (t + 1) → ∀ s, Wd s → Xo_ s (wd_ P (pL_ P.1) ++ (wth_ P t ++ ((kt_ 1 ++ [59]) ++ wi_ P (gB0_ P.1 t) i))) → of_ σ s → vv_ γ m_X11_write 16 73 [(0, .ref 128), (1, .int (i_ ((gB0_ P.1 t + i : Nat) : Int))), (2, .int (i_ (t : Int))), (3, .int (i_ (gB0_ P.1 (t + 1) : Int)))] [] s Q := by
      intro t ht hn k
      have le := gB_le (p := P.1) (t + 1)
      have l1 := wth_len hN hP t (by omega)
      have k1 := kt1_len
      induction k with
      | zero =>
        intro i zi s w1 x1 o1
        refine g_X11_write_73 w1 ?_
        unfold p_X11_write_73
        simp (disch := omega) only [i_le]
        refine ⟨fun _ => ?_, fun z => by omega⟩
        rw [i_lit 1, i_add, show gB0_ P.1 t + i = gB0_ P.1 (t + 1) by omega]
        refine hn s w1 ?_ o1
        show Xo_ s (wd_ P (pL_ P.1) ++ (wth_ P t ++ ((kt_ 1 ++ [59]) ++ wi_ P (gB0_ P.1 t) (gB0_ P.1 (t + 1) - gB0_ P.1 t))))
        rw [show gB0_ P.1 (t + 1) - gB0_ P.1 t = i by omega]
        exact x1
      | succ k ih =>
        intro i zi s w1 x1 o1
        refine g_X11_write_73 w1 ?_
        unfold p_X11_write_73
        simp (disch := omega) only [i_le]
        have hi : gB0_ P.1 t + i < pN_ P.1 := by omega
        have W := hP.2.1 _ hi
        have l2 := wi_len hN hP (gB0_ P.1 t) i (by omega)
        obtain ⟨s2, g1, g2, g3, g4⟩ := c_putInstr (γ := γ) w1 (pq s o1) hN x1 hi W.2.2.1 W.2.2.2.2.1 (by
          simp only [List.length_append, List.length_singleton]
          omega)
        have y := ih (i + 1) (by omega) s2 g2 (by
          show Xo_ s2 (wd_ P (pL_ P.1) ++ (wth_ P t ++ ((kt_ 1 ++ [59]) ++ (wi_ P (gB0_ P.1 t) i ++ oin_ P (gB0_ P.1 t + i)))))
          simp only [List.append_assoc] at g3 ⊢
          exact g3) (of_tr o1 g4)
        refine ⟨fun z => by omega, fun _ => ⟨s2, g2, g1, ?_⟩⟩
        rw [i_lit 1, i_add]
        exact y
    have threads : ∀ k t : Nat, t + k = pT_ P.1 → ∀ s, Wd s → Xo_ s (wd_ P (pL_ P.1) ++ wth_ P t) → of_ σ s → vv_ γ m_X11_write 16 42 [(0, .ref 128), (1, .int (i_ (gB0_ P.1 t : Int))), (2, .int (i_ (t : Int)))] [] s Q := by
      intro k
      induction k with
      | zero =>
        intro t zt s w1 x1 o1
        have zR := (pq s o1).1
        refine g_X11_write_42 w1 ?_
        unfold p_X11_write_42
        refine ⟨_, s, w1, c_threads (Or.inl rfl) w1 zR, ?_⟩
        simp (disch := omega) only [i_le]
        rw [show t = pT_ P.1 by omega] at x1
        have el : fn_ γ m_X5_length 0 [.ref 130] s (.int (i_ ((wri_ P).length : Int))) s := fn_q (fun Q zQ => e_X5_length w1 (by
          unfold p_X5_length_0
          rw [x1.2.1]
          exact zQ))
        exact ⟨fun _ => ⟨_, s, w1, el, zQ s w1 x1 o1⟩, fun z => by omega⟩
      | succ k ih =>
        intro t zt s w1 x1 o1
        have zR := (pq s o1).1
        have m := gB_mono hP (show t ≤ t + 1 by omega)
        have le := gB_le (p := P.1) (t + 1)
        have l1 := wth_len hN hP t (by omega)
        have le2 := gB_le (p := P.1) t
        have k1 := kt1_len
        refine g_X11_write_42 w1 ?_
        unfold p_X11_write_42
        refine ⟨_, s, w1, c_threads (Or.inl rfl) w1 zR, ?_⟩
        simp (disch := omega) only [i_le]
        obtain ⟨s2, g1, g2, g3, g4⟩ := c_putLine (γ := γ) w1 x1 (a := 1) (by decide) (by
          rw [← kt_len, k1]
          simp only [List.length_append]
          omega)
        have o2 := of_tr o1 g4
        have cs := c_szt (γ := γ) (Or.inl rfl) g2 (pq s2 o2).1 (t := (t : Int)) (by omega)
        have es : szt_ P.1 (t : Int) = gB0_ P.1 (t + 1) - gB0_ P.1 t := (gl_ct (m := 0) (F := fun _ => false) hP t).symm
        rw [es] at cs
        have y := instrs t (by omega) (fun s3 a1 a2 a3 => ih (t + 1) (by omega) s3 a1 a2 a3) (gB0_ P.1 (t + 1) - gB0_ P.1 t) 0 (by omega) s2 g2 (by
          show Xo_ s2 (wd_ P (pL_ P.1) ++ (wth_ P t ++ ((kt_ 1 ++ [59]) ++ [])))
          simp only [List.append_assoc, List.append_nil] at g3 ⊢
          exact g3) o2
        rw [Nat.add_zero] at y
        refine ⟨fun z => by omega, fun _ => ⟨s2, g2, g1, _, s2, g2, cs, ?_⟩⟩
        rw [i_add, show (gB0_ P.1 t : Int) + ((gB0_ P.1 (t + 1) - gB0_ P.1 t : Nat) : Int) = (gB0_ P.1 (t + 1) : Int) by omega]
        exact y
    have decls : ∀ k l : Nat, l + k = pL_ P.1 → ∀ s, Wd s → Xo_ s (wd_ P l) → of_ σ s → vv_ γ m_X11_write 16 9 [(0, .ref 128), (1, .int (i_ (l : Int)))] [] s Q := by
      intro k
      induction k with
      | zero =>
        intro l zl s w1 x1 o1
        have zR := (pq s o1).1
        refine g_X11_write_9 w1 ?_
        unfold p_X11_write_9
        refine ⟨_, s, w1, c_locations (Or.inl rfl) w1 zR, ?_⟩
        simp (disch := omega) only [i_le]
        refine ⟨fun _ => ?_, fun z => by omega⟩
        have y := threads (pT_ P.1) 0 (by omega) s w1 (by
          rw [show pL_ P.1 = l by omega]
          show Xo_ s (wd_ P l ++ [])
          rw [List.append_nil]
          exact x1) o1
        rw [gB_0 hP] at y
        exact y
      | succ k ih =>
        intro l zl s w1 x1 o1
        have zR := (pq s o1).1
        have l1 := wd_len hN l (by omega)
        refine g_X11_write_9 w1 ?_
        unfold p_X11_write_9
        refine ⟨_, s, w1, c_locations (Or.inl rfl) w1 zR, ?_⟩
        simp (disch := omega) only [i_le]
        obtain ⟨s2, g1, g2, g3, g4⟩ := c_putDecl (γ := γ) w1 (pq s o1) hN x1 (l := l) (by omega) (by omega)
        refine ⟨fun z => by omega, fun _ => ⟨s2, g2, g1, ?_⟩⟩
        rw [i_lit 1, i_add]
        exact ih (l + 1) (by omega) s2 g2 g3 (of_tr o1 g4)
    refine e_X11_write w ?_
    unfold p_X11_write_0
    have w0 : Wd (pt_I σ 130 1 0) := w
    have x0 : Xo_ (pt_I σ 130 1 0) [] := ⟨Nat.zero_le _, st_sI _ _ _ _, fun k z y => by cases y⟩
    have o0 : of_ σ (pt_I σ 130 1 0) := ⟨fun b z1 z2 => eh_I z1, rfl, rfl, rfl⟩
    exact ⟨_, w0, fw_q (fun Q zQ => e_X5_clear w zQ), decls (pL_ P.1) 0 (by omega) _ w0 x0 o0⟩
  exact an_of key
end WR
