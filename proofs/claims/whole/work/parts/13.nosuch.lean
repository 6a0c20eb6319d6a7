/-! an exception class whose constructor hands its text on by an entry of its own: above it stands a chain that the library knows (Bundle.chainS) -/
section NX
/-- the class above, and the chain that begins there -/
def nx_up (names : List String) : String := names.headD Bundle.tN
def nx_ab : List String → List Cond
  | [] => []
  | Y :: r => Bundle.chainSAtoms Y r
theorem nx_upf {names : List String} (h : ∀ n ∈ names, Bundle.fit n = true) : Bundle.fit (nx_up names) = true := by
  cases names with
  | nil => decide
  | cons Y r => exact h Y List.mem_cons_self
theorem nx_abo {args : Array Value} {s : State} {pl : Platform} (hpl : pl.magicAccessors = ({} : Platform).magicAccessors) {top : MethodId} (ht : s.methodNamed? (Bundle.initS Bundle.tN) = some top) {names : List String} (hn : ∀ n ∈ names, Bundle.fit n = true)
    (h : ∀ w ∈ nx_ab names, w.before args s = true) : ∃ Ps : List PassC, Ps.length = names.length ∧ (∀ P ∈ Ps, P.LinksS pl s) ∧ PassesOn top (Ps.map (·.toPassT)) ∧ s.methodNamed? (Bundle.initS (nx_up names)) = some (firstOf top (Ps.map (·.toPassT))) := by
  cases names with
  | nil => exact ⟨[], rfl, (by intro P hP; cases hP), trivial, ht⟩
  | cons Y r =>
    have k := Bundle.chainS (args := args) hpl ht r Y (hn Y List.mem_cons_self) (fun n z => hn n (List.mem_cons_of_mem _ z)) h
    rcases k with ⟨A, As, k1, k2, k3, k4, k5, k6⟩
    exact ⟨A :: As, by rw [List.length_cons, List.length_cons, k1], List.forall_mem_cons.mpr ⟨k2, k3⟩, ⟨k5, k6⟩, k4⟩
/-- Throwable's fields of an object -/
def nx_fd : List (String × String) := [("backtrace", "Ljava/lang/Object;"), ("detailMessage", "Ljava/lang/String;"), ("cause", "Ljava/lang/Throwable;"), ("suppressedExceptions", Bundle.listD), ("stackTrace", Bundle.steD)]
def nx_own (own : String) (ic : Nat) (X : String) (ix : Nat) (rx : ByteArray) (names : List String) : List Cond :=
  Cond.methodLink own ic (Bundle.initS X) :: Cond.instantiable X 6 :: Cond.fieldLink Bundle.tN 198 Bundle.tN "backtrace" "Ljava/lang/Object;" :: Cond.lays Bundle.tN Bundle.tN "backtrace" "Ljava/lang/Object;" ::
    ([("UNASSIGNED_STACK", Bundle.steD), ("SUPPRESSED_SENTINEL", Bundle.listD)].map (fun q => Cond.isRef (.static Bundle.tN q.1 q.2)) ++ [Bundle.tFill, Bundle.tFill0].map (fun y => Cond.selects X y y) ++
      nx_fd.map (fun q => Cond.lays X Bundle.tN q.1 q.2) ++ (Bundle.passSAtoms X (nx_up names) ix rx ++ nx_ab names) ++ (Bundle.throwableSAtoms ++ Bundle.throwableAtoms))
end NX
section NY
variable {p : Program} {l : Launch} {e : Env} {R : Room} {s : State} {m₀ : MethodId} {args : Array Value} {below : List Frame} {meth : Method} {c : Code} {W : State} {locs : List Loc} {cells slots : Nat}
variable {cls : String} {cX : ClassId} {kX : Class}
theorem nx_sel (X : Stand p l e R s m₀ args below meth c W locs cells slots) {y : MethodName} {z : MethodId} (hc : s.vm.findClass cls = some cX) (hy : y.cls ≠ "java/lang/invoke/MethodHandle" ∧ y.cls ≠ "java/lang/invoke/VarHandle") (hz : s.methodNamed? y = some z)
    (h : (Cond.selects cls y y).before args s = true) : selectMethod e.platform s.vm cX z = .method z := by
  rcases Cond.selects_spec (o := none) h with ⟨b, r, q, e1, e2, e3, e4, -⟩
  rw [hc] at e1
  rw [State.methodFound?_of_named hz hy] at e2
  rw [hz] at e3
  cases e1
  cases e2
  cases e3
  exact (Launch.admits_selectMethod X.admits _ _ _).trans e4
/-- the cell of Throwable's statics is as it was -/
theorem nx_sta (X : Stand p l e R s m₀ args below meth c W locs cells slots) (hl : ∀ q ∈ locs, ∀ x, s.heap[q.base]? = some x → x.vm.isStatics = false) {z : Addr} {x : Cell} (hz : s.heap[z]? = some x) (hx : x.vm.isStatics = true) :
    ∃ y, W.heap[z]? = some y ∧ y.vm ≠ .unknown ∧ ∀ i : Nat, y.slots[i]? = x.slots[i]? := by
  have k : ∀ i : Nat, (⟨z, i⟩ : Loc) ∉ locs := fun i hi => by
    have := hl _ hi x hz
    simp [hx] at this
  rcases X.same.2.2.2.2.2 z x hz with ⟨y, y1, y2, -, y4⟩
  refine ⟨y, y1, fun hu => ?_, fun i => y4 i (k i)⟩
  rw [y2] at hu
  rw [show x.vm = .unknown from hu] at hx
  cases hx
theorem nx_put {x : Cell} {i j : Nat} {v : Value} (h : j ≠ i) : (x.setSlot i v).slots[j]? = x.slots[j]? := Array.getElem?_setIfInBounds_ne (Ne.symm h)
theorem nx_ctor (X : Stand p l e R s m₀ args below meth c W locs cells slots) (hexec : p.tables.exec = Jvm.exec) (htr : e.platform.stackTraces = false) {own : String} {names : List String} {ic : Nat} {ix : Nat} {rx : ByteArray} (x0 : decode rx 0 = .ok (.aload_n 0, 1)) (x1 : decode rx 1 = .ok (.aload_n 1, 1)) (x2 : decode rx 2 = .ok (.invokespecial ix, 3)) (x5 : decode rx 5 = .ok (.return_, 1))
    (hown : s.vm.findClass own = some m₀.cls) (hcls : Bundle.fit cls = true) (hnames : ∀ n ∈ names, Bundle.fit n = true) (h : ∀ w ∈ nx_own own ic cls ix rx names, w.before args s = true)
    (hlocs : ∀ q ∈ locs, ∀ x, s.heap[q.base]? = some x → x.vm.isStatics = false) {a : Addr} (hc : s.vm.findClass cls = some cX) (hk : s.vm.classes[cX]? = some kX) (hcell : W.heap[a]? = some (freshCell cX kX)) (hnew : s.heap.size ≤ a)
    {msg : Value} (hmsg : msg.isRef = true) {g : JFrame} (hg : g.method = m₀) (hsize : g.locals.size = c.maxLocals) (hlocked : g.locked = none) (hentered : g.entered = []) {rest : List Value} (hstack : g.stack = msg :: .ref a :: .ref a :: rest)
    (hd6 : decode c.code g.pc = .ok (.invokespecial ic, 3)) (hd9 : decode c.code (g.pc + 3) = .ok (.athrow, 1)) (hout : ∀ x ∈ c.exceptionTable.toList, covers x (g.pc + 3) = false)
    (hRf : names.length + 3 < R.frames) (hRl : 2 * g.monitorRoom + ((Value.ref a :: rest).map fun v => v.category).sum + (13 * (names.length + 1) + 42) ≤ R.locals) (hlocks : meth.locks = false) :
    ∃ U : State, Steps p.tables e below (W.setTop g) U ∧ U.status = .running ∧ Ended U below (.threw a) ∧ s.WarmedH U.vm ∧ s.sameButNew ({ U with vm := s.vm } : State) locs cells slots ∧
      ∃ ce, U.heap[a]? = some ce ∧ ce.vm = .none ∧ s.vm.findClass cls = some ce.cls := by
  have hpl : e.platform.magicAccessors = ({} : Platform).magicAccessors := by rw [X.admits.platform]
  -- the words, by groups
  have w1 : (Cond.methodLink own ic (Bundle.initS cls)).before args s = true := h _ List.mem_cons_self
  have w2 : (Cond.instantiable cls 6).before args s = true := h _ (by simp [nx_own])
  have wS : ∀ q ∈ [("UNASSIGNED_STACK", Bundle.steD), ("SUPPRESSED_SENTINEL", Bundle.listD)], (Cond.isRef (.static Bundle.tN q.1 q.2)).before args s = true := fun q hq => h _ (by
    simp only [nx_own, List.mem_cons, List.mem_append]
    exact .inr (.inr (.inr (.inr (.inl (.inl (.inl (.inl (List.mem_map_of_mem hq)))))))))
  have wV : ∀ y ∈ [Bundle.tFill, Bundle.tFill0], (Cond.selects cls y y).before args s = true := fun y hy => h _ (by
    simp only [nx_own, List.mem_cons, List.mem_append]
    exact .inr (.inr (.inr (.inr (.inl (.inl (.inl (.inr (List.mem_map_of_mem hy)))))))))
  have wF : ∀ q ∈ nx_fd, (Cond.lays cls Bundle.tN q.1 q.2).before args s = true := fun q hq => h _ (by
    simp only [nx_own, List.mem_cons, List.mem_append]
    exact .inr (.inr (.inr (.inr (.inl (.inl (.inr (List.mem_map_of_mem hq))))))))
  have wP : ∀ w ∈ Bundle.passSAtoms cls (nx_up names) ix rx, w.before args s = true := fun w hw => h w (by simp [nx_own, hw])
  have wA : ∀ w ∈ nx_ab names, w.before args s = true := fun w hw => h w (by simp [nx_own, hw])
  -- Throwable, its constructor of a text, the chain
  rcases ThrowableC.of_atoms (args := args) (s := s) (by rw [X.admits.platform]) (by rw [X.admits.platform]) hpl (fun w hw => h w (by simp [nx_own, hw])) with ⟨T, Z9, L, -, Y⟩
  rcases Init0T.ofS_atoms (args := args) hpl L Y (fun w hw => h w (by simp [nx_own, hw])) with ⟨Z, M, LZ, LM, hZ⟩
  rcases nx_abo (args := args) hpl hZ hnames wA with ⟨Ps, p1, p2, p3, p4⟩
  rcases PassC.ofS_atoms (args := args) (s := s) hpl (Bundle.fit_spec hcls).1 (Bundle.fit_spec (nx_upf hnames)).2 x0 x1 x2 x5 wP with ⟨P, q1, q2, q3⟩
  have hq : PassesOn (Z.m T.toThrowableT) ((P :: Ps).map (·.toPassT)) := ⟨Option.some.inj (q3.symm.trans p4), p3⟩
  -- the new object's cell
  rcases Cond.instantiable_spec (o := none) w2 with ⟨c9, k9, r1, r2, hord, -⟩
  rw [hc] at r1
  cases r1
  rw [hk] at r2
  cases r2
  have lay : ∀ {n d : String} {c8 i8 : Nat} {k8 : Class} {f : Field}, s.fieldFound? Bundle.tN n d = some (c8, k8, i8, f) → (n, d) ∈ nx_fd → kX.instanceTypes[f.slot]? = some f.type ∧ ∃ b, Jmm.declares? s.vm f.slot (cX + 1) cX = some b ∧ b.2.name = f.name :=
    fun hf hm => Cond.laysAt (o := none) hc hk hf (wF _ hm)
  have tak : ∀ {n d : String} {c8 i8 : Nat} {k8 : Class} {f : Field} {v : Value}, s.fieldFound? Bundle.tN n d = some (c8, k8, i8, f) → (n, d) ∈ nx_fd → fits f.type v = true → Takes s (freshCell cX kX) f v :=
    fun hf hm hv => Takes.of_laid hk hord (lay hf hm).1 hv
  rcases Cond.ownField (o := none) (t := .object "java/lang/Object") Y.found L.cls (by decide +kernel) (h (Cond.fieldLink Bundle.tN 198 Bundle.tN "backtrace" "Ljava/lang/Object;") (by simp [nx_own])) (h (Cond.lays Bundle.tN Bundle.tN "backtrace" "Ljava/lang/Object;") (by simp [nx_own])) e.platform hpl with ⟨b1, b2, fB, b3, b4, b5, b6, -, b7, b8, b9⟩
  have mB : ("backtrace", "Ljava/lang/Object;") ∈ nx_fd := by simp [nx_fd]
  have mC : ("cause", "Ljava/lang/Throwable;") ∈ nx_fd := by simp [nx_fd]
  have mT : ("stackTrace", Bundle.steD) ∈ nx_fd := by simp [nx_fd]
  have mS : ("suppressedExceptions", Bundle.listD) ∈ nx_fd := by simp [nx_fd]
  have mM : ("detailMessage", "Ljava/lang/String;") ∈ nx_fd := by simp [nx_fd]
  have far : ∀ {n d : String} {c8 i8 : Nat} {k8 : Class} {f : Field}, s.fieldFound? Bundle.tN n d = some (c8, k8, i8, f) → (n, d) ∈ nx_fd → f.name ≠ "backtrace" → fB.slot ≠ f.slot := fun hf hm hne => by
    rcases (lay b9 mB).2 with ⟨u, u1, u2⟩
    rcases (lay hf hm).2 with ⟨v, v1, v2⟩
    exact Cond.laysApart u1 v1 u2 v2 (fun z => hne (z.symm.trans b7))
  rcases Y.msg with ⟨iM, hM⟩
  -- the statics that it reads
  rcases Y.statics with ⟨y0, y1, y2⟩
  rcases Cond.staticRefV (o := none) Y.unassigned L.unassignedStatic L.statics y1 y2 (wS _ List.mem_cons_self) with ⟨u0, hu0⟩
  rcases Cond.staticRefV (o := none) Y.sentinel L.sentinelStatic L.statics y1 y2 (wS _ (List.mem_cons_of_mem _ List.mem_cons_self)) with ⟨sen, hsen⟩
  rcases nx_sta X hlocs y1 y2 with ⟨y, y3, y4, y5⟩
  have hne : T.aS ≠ a := fun z => by
    have k := (Array.getElem?_eq_some_iff.mp y1).1
    rw [z] at k
    exact Nat.not_lt.mpr hnew k
  have hskip : SkipFacts T e.platform s (fun u => u) u0 ((preparedCellV T.toThrowableT (freshCell cX kX) a u0 sen).withEntry W.cur) := by
    refine ⟨{ ci198 := b1, i198 := b2, fBack := fB }, ⟨b3, b4, b5, b6⟩, ?_, fun _ _ => rfl⟩
    refine (nx_put (far Y.supp mS (by rw [Y.suppName]; decide))).trans ((nx_put (far Y.stack mT (by rw [Y.stackName]; decide))).trans ((nx_put (far Y.cause mC (by rw [Y.causeName]; decide))).trans ?_))
    rw [fresh_default (lay b9 mB).1, b8]
    rfl
  -- the walk: the call, the constructors, the throw
  have i1 : Cond.instanceMethod (Bundle.initS cls) ∈ Bundle.passSAtoms cls (nx_up names) ix rx := by simp [Bundle.passSAtoms]
  have i2 : Cond.code (Bundle.initS cls) rx 2 none ∈ Bundle.passSAtoms cls (nx_up names) ix rx := by simp [Bundle.passSAtoms]
  rcases Steps.initColdS (tb := p.tables) (e := e) (below := below) (s := s) (U := W) X.here hexec X.warmed hpl hown (t := Bundle.initS cls) rfl rfl (Bundle.fit_spec hcls).2 w1 (wP _ i1) (wP _ i2) (f := g) hg hstack hd6 with ⟨tm, -, -, -, vm₁, t1, -, -, -, -, -, -, -, t2, t3⟩
  rw [q2] at t1
  cases t1
  rcases (X.noted t2).ctorMessageOffV hexec (g := { g with stack := .ref a :: rest }) hg hsize T L Z LZ M LM (P :: Ps) (List.forall_mem_cons.mpr ⟨q1, p2⟩) hq (u0 := u0) (sen := sen) (self := a) hmsg (cell := freshCell cX kX) (cellS := y)
    hcell (fun k => by intro z; cases z) (by intro z; cases z) rfl rfl (nx_sel X hc (by decide) Y.fill0 (wV _ (List.mem_cons_of_mem _ List.mem_cons_self))) (nx_sel X hc (by decide) Y.fill (wV _ List.mem_cons_self)) y3 hne y4 ((y5 _).trans hu0) ((y5 _).trans hsen)
    (tak Y.cause mC (by rw [Y.causeType]; rfl)) (tak Y.stack mT (by rw [Y.stackType]; exact fits_refV_array _ u0)) (tak Y.supp mS (by rw [Y.suppType]; exact fits_refV_object _ sen)) (tak hM mM (by rw [Y.msgType]; exact fits_refV_object _ ⟨msg, hmsg⟩))
    Y.objLocals hskip htr [] hd6 (by rw [List.length_cons, p1]; omega) (by rw [List.length_cons, p1]; exact hRl) with ⟨vm₂, X₂, t4⟩
  rcases X₂.athrowLeaves hexec (g := { g with stack := .ref a :: rest, pc := g.pc + 3 }) hg hlocked hentered hout rfl hd9 hlocks with ⟨v1, v2, v3, v4, v5⟩
  refine ⟨_, t3 _ (fun acts => ?_), v2, v3, v4, v5.weaken (fun z hz hlt => ?_) (Nat.le_refl _) (Nat.le_refl _), _, heapAt_setCell_self (s := (W.setVm vm₁).setVm vm₂) _ (Array.getElem?_eq_some_iff.mp hcell).1, rfl, hc⟩
  · rw [doInvoke_state]
    exact t4 _ v1
  · refine (List.mem_append.mp hz).elim id (fun hb => ?_)
    have hza : z.base = a := by
      revert hb
      simp only [List.mem_cons, List.not_mem_nil, or_false]
      rintro (rfl | rfl | rfl | rfl | rfl) <;> rfl
    rw [hza] at hlt
    exact absurd hlt (Nat.not_lt.mpr hnew)
end NY
def nx_atS (own : String) (ic : Nat) (X : String) (ix : Nat) (rx : ByteArray) (names : List String) : List Cond := (nx_own own ic X ix rx names).filter vx_no
section NZ
variable {p : Program} {l : Launch} {e : Env} {R : Room} {s : State} {m : MethodId} {args : Array Value} {below : List Frame} {meth : Method} {c : Code} {H : Heap} {locs : List Loc} {cells slots : Nat} {Q : State → Prop}
variable {mc ms : Nat} {free : Addr → Prop} {A0 A1 : Nat → Prop} {H0 : Heap} {a : Array Value} {ls : Array Slot} {st0 rest : List Value}
variable {Qc : Array Value → State → Outcome → State → Prop} {XC : String → State → State → Prop}
theorem nx_throwS {cc : ByteArray} {pc : Nat} (hexec : p.tables.exec = Jvm.exec) (hb : c.code = cc) (hl : l.stackTraces = false) {own cls text : String} {names : List String} {ix : Nat} {rx : ByteArray} (x0 : decode rx 0 = .ok (.aload_n 0, 1)) (x1 : decode rx 1 = .ok (.aload_n 1, 1)) (x2 : decode rx 2 = .ok (.invokespecial ix, 3)) (x5 : decode rx 5 = .ok (.return_, 1)) {ik is ic mc ms sa : Nat} {A : Nat → Prop}
    (hown : s.vm.findClass own = some m.cls) (hcls : Bundle.fit cls = true) (hnames : ∀ n ∈ names, Bundle.fit n = true)
    (hk : (Cond.classLink own ik cls).before args s = true) (hini : (Cond.initialized cls).before args s = true) (hstr : vk_R own is text sa s) (hat : ∀ w ∈ nx_atS own ic cls ix rx names, w.before args s = true)
    (hgood : ∀ w ∈ Cond.classLink own ik cls :: Cond.initialized cls :: nx_atS own ic cls ix rx names, vx_ot w = true)
    (hU : vx_Zq Bundle.tN "UNASSIGNED_STACK" Bundle.steD A s s.heap) (hN : vx_Zq Bundle.tN "SUPPRESSED_SENTINEL" Bundle.listD A s s.heap) (hS : va_S A s.heap H locs) (hsize : ls.size = c.maxLocals)
    (d0 : decode cc pc = .ok (.new ik, 3)) (d3 : decode cc (pc + 3) = .ok (.dup, 1)) (d4 : decode cc (pc + 4) = .ok (.ldc is, 2)) (d6 : decode cc (pc + 6) = .ok (.invokespecial ic, 3)) (d9 : decode cc (pc + 9) = .ok (.athrow, 1))
    (hout : ∀ x ∈ c.exceptionTable.toList, covers x (pc + 9) = false)
    (hRframes : names.length + 3 < R.frames) (hRlocals : (rest.map fun v => v.category).sum + (13 * (names.length + 1) + 43) ≤ R.locals) (hRcells : cells + 1 ≤ R.cells) (hRslots : slots + 6 ≤ R.slots) (hlocks : meth.locks = false)
    (hx : ∀ t : State, s.vm.Alike t.vm → H.size ≤ t.heap.size → (∀ q : Nat, q < H.size → t.heap[q]? = H[q]?) → XC cls s t)
    (hf : ∀ z ∈ locs, free z.base) (hc : cells + 1 ≤ mc) (hs : slots + 6 ≤ ms) :
    W p l e R s m args below meth c H locs cells slots (vx_MQ below Qc XC args s mc ms free) (F0 m pc ls rest) := by
  intro T hT X
  have htr : e.platform.stackTraces = false := (show e.platform.stackTraces = l.stackTraces by rw [X.admits.platform]).trans hl
  have Y := vx_rebase X (R' := { frames := R.frames, locals := R.locals, cells := 1, slots := 6 }) (Nat.le_refl _) (Nat.le_refl _) hRcells hRslots
  obtain ⟨s', hA⟩ : ∃ z, z = (T.setVm s.vm).setFrames (.invoking m args :: below) := ⟨_, rfl⟩
  rw [← hA] at Y
  have hvm : s'.vm = s.vm := by rw [hA]; rfl
  have hhp : s'.heap = H := by rw [hA]; exact hT
  have hW0 : s.WarmedH s'.vm := by rw [hvm]; exact State.WarmedH.refl s
  have hat' : ∀ w ∈ nx_atS own ic cls ix rx names, w.before args s' = true := fun w hw => vx_ot_at hW0 hvm.symm (hgood w (List.mem_cons_of_mem _ (List.mem_cons_of_mem _ hw))) (hat w hw)
  have hk' : (Cond.classLink own ik cls).before args s' = true := vx_ot_at hW0 hvm.symm (hgood _ List.mem_cons_self) hk
  have hini' : (Cond.initialized cls).before args s' = true := vx_ot_at hW0 hvm.symm (hgood _ (List.mem_cons_of_mem _ List.mem_cons_self)) hini
  have hU' : vx_Zq Bundle.tN "UNASSIGNED_STACK" Bundle.steD A s' s'.heap := by rw [hhp]; exact vx_Zq.moved hW0.alike (hU.kept hS.2.1)
  have hN' : vx_Zq Bundle.tN "SUPPRESSED_SENTINEL" Bundle.listD A s' s'.heap := by rw [hhp]; exact vx_Zq.moved hW0.alike (hN.kept hS.2.1)
  have h : ∀ w ∈ nx_own own ic cls ix rx names, w.before args s' = true := vx_own hat' (vx_isRefq hU'.1) (vx_isRefq hN'.1) hU'.2.word hN'.2.word
  have hown' : s'.vm.findClass own = some m.cls := by rw [hvm]; exact hown
  have hins : (Cond.instantiable cls 6).before args s' = true := h _ (by simp [nx_own])
  obtain ⟨vm₁, cX, kX, hfX, hkX, -, -, X₁, st1⟩ := Y.newCold hexec (own := own) (C := cls) (index := ik) (n := 6) hown' hk' hins hini'
    (g := F0 m pc ls rest) rfl (by rw [hb]; exact d0) (Nat.le_refl _) (Nat.le_refl _)
  generalize hT1 : (T.setVm vm₁).pushCell { cls := cX, slots := kX.instanceTypes.map defaultValue, vm := .none } = T1 at X₁ st1
  have hcat : (Value.ref T.heap.size).category = 1 := rfl
  have hcellA : T1.heap[T.heap.size]? = some (freshCell cX kX) := by rw [← hT1]; exact State.heap_pushCell_size _ _
  have d3' : decode c.code (pc + 3) = .ok (.dup, 1) := by rw [hb]; exact d3
  have d4' : decode c.code (pc + 4) = .ok (.ldc is, 2) := by rw [hb]; exact d4
  have hstr' : vk_R own is text sa s' := vk_R.warm hW0 hstr
  obtain ⟨U, hsteps, hrun, hend, hW, hsame, ce, hce, hOv, hOc⟩ := nx_ctor X₁ hexec htr x0 x1 x2 x5 (own := own) (cls := cls) (names := names) (ic := ic) hown' hcls hnames h (fun x hx => nomatch hx) hfX hkX hcellA (by rw [hhp, hT]; exact Nat.le_refl _) (msg := .ref sa) rfl
    (g := { method := m, pc := pc + 6, locals := ls, stack := .ref sa :: .ref T.heap.size :: .ref T.heap.size :: rest, locked := none }) rfl hsize rfl rfl (rest := rest) rfl
    (by rw [hb]; exact d6) (by rw [hb]; exact d9) hout hRframes (by simp only [List.map_cons, List.sum_cons, hcat]; omega) hlocks
  obtain ⟨f1, f2⟩ := vx_frame hsame
  rw [hhp] at f1 f2
  have hWs : s.WarmedH U.vm := State.WarmedH.trans hW0 hW
  have hcl : s.vm.findClass cls = some ce.cls := by
    have h9 := hOc
    rw [hvm] at h9
    exact h9
  have hall : s.sameButNew ({ U with vm := s.vm } : State) locs mc ms := by
    subst hA
    obtain ⟨e1, e2⟩ := hsame
    rw [State.setFrames_setFrames] at e1
    have h2 : (T.setVm s.vm).sameButNew ({ U with vm := s.vm } : State) [] (0 + 1) (0 + 6) := ⟨e1, e2⟩
    have h3 := X.same.trans h2
    rw [List.append_nil] at h3
    exact h3.mono hc hs
  refine ⟨U, ?_, .threw T.heap.size, hrun, hend, Or.inr ⟨T.heap.size, rfl, cls, ce, locs, hx U hWs.alike f1 (fun q hq => f2 q hq (fun z hz => nomatch hz)), hce, hOv, hcl, hWs, hall, hf⟩⟩
  refine st1 _ ?_
  show Steps p.tables e below (T1.setTop { method := m, pc := pc + 3, locals := ls, stack := .ref T.heap.size :: rest, locked := none }) _
  jvm_step X₁.here [X₁.here.top, hexec, d3', Value.category]
  exact X₁.ldcString hexec (own := own) (text := text) (index := is) (a := sa) hown' hstr'.1 hstr'.2
    (g := { method := m, pc := pc + 4, locals := ls, stack := .ref T.heap.size :: .ref T.heap.size :: rest, locked := none }) rfl d4' _ hsteps
theorem nx_throwSW {cc : ByteArray} {pc : Nat} (hexec : p.tables.exec = Jvm.exec) (hb : c.code = cc) (hl : l.stackTraces = false) {own cls text : String} {names : List String} {ix : Nat} {rx : ByteArray} (x0 : decode rx 0 = .ok (.aload_n 0, 1)) (x1 : decode rx 1 = .ok (.aload_n 1, 1)) (x2 : decode rx 2 = .ok (.invokespecial ix, 3)) (x5 : decode rx 5 = .ok (.return_, 1)) {ik is ic mc ms sa : Nat} {A : Nat → Prop}
    (hown : s.vm.findClass own = some m.cls) (hcls : Bundle.fit cls = true) (hnames : ∀ n ∈ names, Bundle.fit n = true)
    (hk : (Cond.classLink own ik cls).before args s = true) (hini : (Cond.initialized cls).before args s = true) (hstr : vk_R own is text sa s) (hat : ∀ w ∈ nx_atS own ic cls ix rx names, w.before args s = true)
    (hgood : ∀ w ∈ Cond.classLink own ik cls :: Cond.initialized cls :: nx_atS own ic cls ix rx names, vx_ot w = true)
    (hU : vx_Zq Bundle.tN "UNASSIGNED_STACK" Bundle.steD A s s.heap) (hN : vx_Zq Bundle.tN "SUPPRESSED_SENTINEL" Bundle.listD A s s.heap) (hS : va_S A s.heap H locs) (hsize : ls.size = c.maxLocals)
    (d0 : decode cc pc = .ok (.new ik, 3)) (d3 : decode cc (pc + 3) = .ok (.dup, 1)) (d4 : decode cc (pc + 4) = .ok (.ldc_w is, 3)) (d7 : decode cc (pc + 7) = .ok (.invokespecial ic, 3)) (d10 : decode cc (pc + 10) = .ok (.athrow, 1))
    (hout : ∀ x ∈ c.exceptionTable.toList, covers x (pc + 10) = false)
    (hRframes : names.length + 3 < R.frames) (hRlocals : (rest.map fun v => v.category).sum + (13 * (names.length + 1) + 43) ≤ R.locals) (hRcells : cells + 1 ≤ R.cells) (hRslots : slots + 6 ≤ R.slots) (hlocks : meth.locks = false)
    (hx : ∀ t : State, s.vm.Alike t.vm → H.size ≤ t.heap.size → (∀ q : Nat, q < H.size → t.heap[q]? = H[q]?) → XC cls s t)
    (hf : ∀ z ∈ locs, free z.base) (hc : cells + 1 ≤ mc) (hs : slots + 6 ≤ ms) :
    W p l e R s m args below meth c H locs cells slots (vx_MQ below Qc XC args s mc ms free) (F0 m pc ls rest) := by
  intro T hT X
  have htr : e.platform.stackTraces = false := (show e.platform.stackTraces = l.stackTraces by rw [X.admits.platform]).trans hl
  have Y := vx_rebase X (R' := { frames := R.frames, locals := R.locals, cells := 1, slots := 6 }) (Nat.le_refl _) (Nat.le_refl _) hRcells hRslots
  obtain ⟨s', hA⟩ : ∃ z, z = (T.setVm s.vm).setFrames (.invoking m args :: below) := ⟨_, rfl⟩
  rw [← hA] at Y
  have hvm : s'.vm = s.vm := by rw [hA]; rfl
  have hhp : s'.heap = H := by rw [hA]; exact hT
  have hW0 : s.WarmedH s'.vm := by rw [hvm]; exact State.WarmedH.refl s
  have hat' : ∀ w ∈ nx_atS own ic cls ix rx names, w.before args s' = true := fun w hw => vx_ot_at hW0 hvm.symm (hgood w (List.mem_cons_of_mem _ (List.mem_cons_of_mem _ hw))) (hat w hw)
  have hk' : (Cond.classLink own ik cls).before args s' = true := vx_ot_at hW0 hvm.symm (hgood _ List.mem_cons_self) hk
  have hini' : (Cond.initialized cls).before args s' = true := vx_ot_at hW0 hvm.symm (hgood _ (List.mem_cons_of_mem _ List.mem_cons_self)) hini
  have hU' : vx_Zq Bundle.tN "UNASSIGNED_STACK" Bundle.steD A s' s'.heap := by rw [hhp]; exact vx_Zq.moved hW0.alike (hU.kept hS.2.1)
  have hN' : vx_Zq Bundle.tN "SUPPRESSED_SENTINEL" Bundle.listD A s' s'.heap := by rw [hhp]; exact vx_Zq.moved hW0.alike (hN.kept hS.2.1)
  have h : ∀ w ∈ nx_own own ic cls ix rx names, w.before args s' = true := vx_own hat' (vx_isRefq hU'.1) (vx_isRefq hN'.1) hU'.2.word hN'.2.word
  have hown' : s'.vm.findClass own = some m.cls := by rw [hvm]; exact hown
  have hins : (Cond.instantiable cls 6).before args s' = true := h _ (by simp [nx_own])
  obtain ⟨vm₁, cX, kX, hfX, hkX, -, -, X₁, st1⟩ := Y.newCold hexec (own := own) (C := cls) (index := ik) (n := 6) hown' hk' hins hini'
    (g := F0 m pc ls rest) rfl (by rw [hb]; exact d0) (Nat.le_refl _) (Nat.le_refl _)
  generalize hT1 : (T.setVm vm₁).pushCell { cls := cX, slots := kX.instanceTypes.map defaultValue, vm := .none } = T1 at X₁ st1
  have hcat : (Value.ref T.heap.size).category = 1 := rfl
  have hcellA : T1.heap[T.heap.size]? = some (freshCell cX kX) := by rw [← hT1]; exact State.heap_pushCell_size _ _
  have d3' : decode c.code (pc + 3) = .ok (.dup, 1) := by rw [hb]; exact d3
  have d4' : decode c.code (pc + 4) = .ok (.ldc_w is, 3) := by rw [hb]; exact d4
  have hstr' : vk_R own is text sa s' := vk_R.warm hW0 hstr
  obtain ⟨U, hsteps, hrun, hend, hW, hsame, ce, hce, hOv, hOc⟩ := nx_ctor X₁ hexec htr x0 x1 x2 x5 (own := own) (cls := cls) (names := names) (ic := ic) hown' hcls hnames h (fun x hx => nomatch hx) hfX hkX hcellA (by rw [hhp, hT]; exact Nat.le_refl _) (msg := .ref sa) rfl
    (g := { method := m, pc := pc + 7, locals := ls, stack := .ref sa :: .ref T.heap.size :: .ref T.heap.size :: rest, locked := none }) rfl hsize rfl rfl (rest := rest) rfl
    (by rw [hb]; exact d7) (by rw [hb]; exact d10) hout hRframes (by simp only [List.map_cons, List.sum_cons, hcat]; omega) hlocks
  obtain ⟨f1, f2⟩ := vx_frame hsame
  rw [hhp] at f1 f2
  have hWs : s.WarmedH U.vm := State.WarmedH.trans hW0 hW
  have hcl : s.vm.findClass cls = some ce.cls := by
    have h9 := hOc
    rw [hvm] at h9
    exact h9
  have hall : s.sameButNew ({ U with vm := s.vm } : State) locs mc ms := by
    subst hA
    obtain ⟨e1, e2⟩ := hsame
    rw [State.setFrames_setFrames] at e1
    have h2 : (T.setVm s.vm).sameButNew ({ U with vm := s.vm } : State) [] (0 + 1) (0 + 6) := ⟨e1, e2⟩
    have h3 := X.same.trans h2
    rw [List.append_nil] at h3
    exact h3.mono hc hs
  refine ⟨U, ?_, .threw T.heap.size, hrun, hend, Or.inr ⟨T.heap.size, rfl, cls, ce, locs, hx U hWs.alike f1 (fun q hq => f2 q hq (fun z hz => nomatch hz)), hce, hOv, hcl, hWs, hall, hf⟩⟩
  refine st1 _ ?_
  show Steps p.tables e below (T1.setTop { method := m, pc := pc + 3, locals := ls, stack := .ref T.heap.size :: rest, locked := none }) _
  jvm_step X₁.here [X₁.here.top, hexec, d3', Value.category]
  exact X₁.ldcStringW hexec (own := own) (text := text) (index := is) (a := sa) hown' hstr'.1 hstr'.2
    (g := { method := m, pc := pc + 4, locals := ls, stack := .ref T.heap.size :: .ref T.heap.size :: rest, locked := none }) rfl d4' _ hsteps
end NZ
