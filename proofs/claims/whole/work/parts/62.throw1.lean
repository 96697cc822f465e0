section THR
/-- a static that holds null or a reference, in a cell outside A -/
theorem tx_st {n d : String} {A : Nat → Prop} {s : State} {cf fi a : Nat} {kf : Class} {f : Field} (z : va_Zq Bundle.tN n d A s s.heap) (hf : s.fieldFound? Bundle.tN n d = some (cf, kf, fi, f)) (ha : kf.statics = some a) : ∃ (u : RefV) (cell : Cell), s.heap[a]? = some cell ∧ cell.vm.isStatics = true ∧ cell.slots[f.slot]? = some u.v ∧ ¬ A a := by
  have go : ∀ v : Value, v.isRef = true → va_Z Bundle.tN n d v A s s.heap → ∃ (u : RefV) (cell : Cell), s.heap[a]? = some cell ∧ cell.vm.isStatics = true ∧ cell.slots[f.slot]? = some u.v ∧ ¬ A a := by
    intro v hv ⟨cf', kf', fi', f', a', ce, h1, h2, h3, h4, h5, h6, h7, h8⟩
    have e := Option.some.inj (h1.symm.trans hf)
    simp only [Prod.mk.injEq] at e
    obtain ⟨-, rfl, -, rfl⟩ := e
    cases Option.some.inj (h4.symm.trans ha)
    exact ⟨⟨v, hv⟩, ce, h5, h6, h7, h8⟩
  rcases z with z | ⟨t, z⟩
  · exact go _ rfl z
  · exact go _ rfl z
section TXC
variable {p : Program} {l : Launch} {e : Env} {R : Room} {s : State} {m : MethodId} {args : Array Value} {below : List Frame} {meth : Method} {c : Code} {T' : State} {locs : List Loc} {cells slots : Nat}
set_option maxHeartbeats 4000000 in
/-- a new exception's constructor with a message, then its throw: what is thrown, and the memory; no traces are kept -/
theorem tx_ctor (X : Stand p l e R s m args below meth c T' locs cells slots) (hexec : p.tables.exec = Jvm.exec) (htr : e.platform.stackTraces = false) {own cls nY : String} {names : List String} {ic ix : Nat} {rx : ByteArray} {A : Nat → Prop}
    (hown : s.vm.findClass own = some m.cls) (hcls : Bundle.fit cls = true) (hfY : Bundle.fit nY = true) (hnames : ∀ n ∈ names, Bundle.fit n = true)
    (hT : ∀ w ∈ Bundle.throwableAtoms, w.before args s = true) (hTS : ∀ w ∈ Bundle.throwableSAtoms, w.before args s = true) (hC : ∀ w ∈ Bundle.passSAtoms cls nY ix rx, w.before args s = true) (hC2 : ∀ w ∈ Bundle.chainSAtoms nY names, w.before args s = true)
    (x0 : decode rx 0 = .ok (.aload_n 0, 1)) (x1 : decode rx 1 = .ok (.aload_n 1, 1)) (x2 : decode rx 2 = .ok (.invokespecial ix, 3)) (x5 : decode rx 5 = .ok (.return_, 1))
    (hml : (Cond.methodLink own ic (Bundle.initS cls)).before args s = true) (hI : (Cond.instanceMethod (Bundle.initS cls)).before args s = true) (hCo : (Cond.code (Bundle.initS cls) rx 2 none).before args s = true)
    (h6 : (Cond.instantiable cls 6).before args s = true) (hs0 : (Cond.selects cls Bundle.tFill0 Bundle.tFill0).before args s = true) (hs1 : (Cond.selects cls Bundle.tFill Bundle.tFill).before args s = true)
    (y1 : (Cond.lays cls Bundle.tN "cause" "Ljava/lang/Throwable;").before args s = true) (y2 : (Cond.lays cls Bundle.tN "stackTrace" Bundle.steD).before args s = true) (y3 : (Cond.lays cls Bundle.tN "suppressedExceptions" Bundle.listD).before args s = true) (y4 : (Cond.lays cls Bundle.tN "detailMessage" "Ljava/lang/String;").before args s = true) (y5 : (Cond.lays cls Bundle.tN "backtrace" "Ljava/lang/Object;").before args s = true)
    (b1 : (Cond.fieldLink Bundle.tN 198 Bundle.tN "backtrace" "Ljava/lang/Object;").before args s = true) (b2 : (Cond.lays Bundle.tN Bundle.tN "backtrace" "Ljava/lang/Object;").before args s = true)
    (zU : va_Zq Bundle.tN "UNASSIGNED_STACK" Bundle.steD A s s.heap) (zS : va_Zq Bundle.tN "SUPPRESSED_SENTINEL" Bundle.listD A s s.heap) (hA : ∀ x ∈ locs, A x.base)
    {a : Addr} {cX : ClassId} {kX : Class} (hfoundX : s.vm.findClass cls = some cX) (hkX : s.vm.classes[cX]? = some kX) (hcell : T'.heap[a]? = some (freshCell cX kX)) (hnew : s.heap.size ≤ a)
    {msg : Value} (hmsg : msg.isRef = true)
    {g : JFrame} (hg : g.method = m) (hsize : g.locals.size = c.maxLocals) (hlocked : g.locked = none) (hentered : g.entered = []) {rest : List Value} (hstack : g.stack = msg :: .ref a :: .ref a :: rest)
    (hd6 : decode c.code g.pc = .ok (.invokespecial ic, 3)) (hd9 : decode c.code (g.pc + 3) = .ok (.athrow, 1)) (hout : ∀ x ∈ c.exceptionTable.toList, covers x (g.pc + 3) = false)
    (hRframes : names.length + 4 < R.frames) (hRlocals : 2 * g.monitorRoom + ((Value.ref a :: rest).map fun v => v.category).sum + (13 * (names.length + 2) + 42) ≤ R.locals) (hlocks : meth.locks = false) :
    ∃ (U : State) (ce : Cell), Steps p.tables e below (T'.setTop g) U ∧ U.status = .running ∧ Ended U below (.threw a) ∧ s.WarmedH U.vm ∧ s.sameButNew ({ U with vm := s.vm } : State) locs cells slots ∧ U.heap = T'.heap.setIfInBounds a ce ∧ ce.cls = cX ∧ ce.vm = .none := by
  have hP := X.admits.platform
  have hpl : e.platform.magicAccessors = ({} : Platform).magicAccessors := by rw [hP]
  obtain ⟨T, Z0, L, -, Y⟩ := ThrowableC.of_atoms (args := args) (pl := e.platform) (by rw [hP]) (by rw [hP]) hpl hT
  obtain ⟨Z, Mg, LZ, LM, hnZ⟩ := Init0T.ofS_atoms (args := args) hpl L Y hTS
  obtain ⟨P1, L1, hm1, hsu⟩ := PassC.ofS_atoms (args := args) (s := s) hpl (X := cls) (Y := nY) (Bundle.fit_spec hcls).1 (Bundle.fit_spec hfY).2 x0 x1 x2 x5 hC
  obtain ⟨P2, Ps, hlen, L2, hL, hm2, hk2, hk3⟩ := Bundle.chainS (args := args) hpl hnZ names nY hfY hnames hC2
  have hk1 : P1.sup = P2.m := Option.some.inj (hsu.symm.trans hm2)
  have hfd : s.vm.findClass cls = some P1.m.cls := findClass_of_methodNamed hm1
  cases Option.some.inj (hfoundX.symm.trans hfd)
  obtain ⟨c1, kX', q1, hk, hord, -, -, hn6⟩ := Cond.instantiable_spec h6
  cases Option.some.inj (q1.symm.trans hfd)
  cases Option.some.inj (hkX.symm.trans hk)
  have sel : ∀ (t : MethodName) (mt : MethodId), (Cond.selects cls t t).before args s = true → s.methodNamed? t = some mt → (t.cls ≠ "java/lang/invoke/MethodHandle" ∧ t.cls ≠ "java/lang/invoke/VarHandle") → selectMethod e.platform s.vm P1.m.cls mt = .method mt := by
    intro t mt hs hn hc
    obtain ⟨c2, r2, m2, w1, w2, w3, w4, -⟩ := Cond.selects_spec hs
    cases Option.some.inj (w1.symm.trans hfd)
    cases Option.some.inj (w2.symm.trans (State.methodFound?_of_named hn hc))
    cases Option.some.inj (w3.symm.trans hn)
    rw [Launch.admits_selectMethod X.admits]
    exact w4
  obtain ⟨u0, cS, hcS, hiS, huS, hnA⟩ := tx_st zU Y.unassigned L.statics
  obtain ⟨sen, cS', hcS', -, hsS, -⟩ := tx_st zS Y.sentinel L.statics
  cases Option.some.inj (hcS.symm.trans hcS')
  obtain ⟨cellS, hcellS, heS, -, hkeep⟩ := X.same.2.2.2.2.2 T.aS cS hcS
  have hfree : ∀ i, (⟨T.aS, i⟩ : Loc) ∉ locs := fun i hi => hnA (hA _ hi)
  have hneS : T.aS ≠ a := Nat.ne_of_lt (Nat.lt_of_lt_of_le (Array.getElem?_eq_some_iff.mp hcS).1 hnew)
  have hknS : cellS.vm ≠ .unknown := by
    rw [heS]
    intro hu
    rw [show cS.vm = .unknown from hu] at hiS
    cases hiS
  obtain ⟨ci198, i198, fB, f1, f2, f3, f4, -, f5, f6, f7⟩ := Cond.ownField (t := .object "java/lang/Object") Y.found L.cls (by decide +kernel) b1 b2 e.platform hpl
  obtain ⟨iM, hfM⟩ := Y.msg
  obtain ⟨tC, dC, g1, g2⟩ := Cond.laysAt hfd hk Y.cause y1
  obtain ⟨tS, dS, g3, g4⟩ := Cond.laysAt hfd hk Y.stack y2
  obtain ⟨tP, dP, g5, g6⟩ := Cond.laysAt hfd hk Y.supp y3
  obtain ⟨tM, dM, g7, g8⟩ := Cond.laysAt hfd hk hfM y4
  obtain ⟨tB, dB, g9, g10⟩ := Cond.laysAt hfd hk f7 y5
  have bC := Cond.laysApart g9 g1 g10 g2 (by rw [f5, Y.causeName]; decide)
  have bS := Cond.laysApart g9 g3 g10 g4 (by rw [f5, Y.stackName]; decide)
  have bP := Cond.laysApart g9 g5 g10 g6 (by rw [f5, Y.suppName]; decide)
  have hskip : SkipFacts T e.platform s (fun u => u) u0 ((preparedCellV T.toThrowableT (freshCell P1.m.cls kX) a u0 sen).withEntry T'.cur) := by
    refine ⟨{ ci198 := ci198, i198 := i198, fBack := fB }, ⟨f1, f2, f3, f4⟩, ?_, fun _ _ => rfl⟩
    have q := fresh_default (c := P1.m.cls) tB
    rw [f6] at q
    simpa [preparedCellV, Cell.setSlot, Cell.withEntry, Array.getElem?_setIfInBounds, bC, bS, bP, bC.symm, bS.symm, bP.symm, defaultValue] using q
  obtain ⟨tm, mC, cC, kC, vm1, hnC, -, -, -, -, -, -, -, hW1, st1⟩ := Steps.initColdS (tb := p.tables) (e := e) (below := below) (s := s) (U := T') X.here hexec X.warmed hpl hown (t := Bundle.initS cls) rfl rfl (Bundle.fit_spec hcls).2 hml hI (bytes := rx) (maxL := 2) hCo (f := g) hg (a := a) (msg := msg) (rest := .ref a :: rest) hstack hd6
  cases Option.some.inj (hnC.symm.trans hm1)
  obtain ⟨vm2, X2, st2⟩ := (X.noted hW1).ctorMessageOffV hexec (g := { g with stack := .ref a :: rest }) hg hsize T L Z LZ Mg LM (P1 :: P2 :: Ps)
    (fun P hP => (List.mem_cons.mp hP).elim (fun q => by rw [q]; exact L1) (fun hP => (List.mem_cons.mp hP).elim (fun q => by rw [q]; exact L2) (hL P))) ⟨hk1, hk2, hk3⟩ (u0 := u0) (sen := sen) (self := a) hmsg (cell := freshCell P1.m.cls kX) (cellS := cellS)
    hcell (fun _ => by simp) (by simp) rfl rfl (sel Bundle.tFill0 T.fill0 hs0 Y.fill0 (by decide)) (sel Bundle.tFill T.fill hs1 Y.fill (by decide)) hcellS hneS hknS (by rw [hkeep _ (hfree _)]; exact huS) (by rw [hkeep _ (hfree _)]; exact hsS)
    (Takes.of_laid hk hord tC (by rw [Y.causeType]; rfl)) (Takes.of_laid hk hord tS (by rw [Y.stackType]; exact fits_refV_array _ u0)) (Takes.of_laid hk hord tP (by rw [Y.suppType]; exact fits_refV_object _ sen))
    (Takes.of_laid hk hord tM (by rw [Y.msgType]; exact fits_refV_object _ ⟨msg, hmsg⟩)) Y.objLocals hskip htr [] hd6 (by simp only [List.length_cons, hlen]; omega) (by simp only [List.length_cons, hlen]; exact hRlocals)
  obtain ⟨hw, hrun, hend, hWU, hsm⟩ := X2.athrowLeaves hexec (g := { g with stack := .ref a :: rest, pc := g.pc + 3 }) hg hlocked hentered hout (a := a) (rest := rest) rfl hd9 hlocks
  refine ⟨_, plainBareV T.toThrowableT (freshCell P1.m.cls kX) a u0 sen msg, st1 _ (fun acts => ?_), hrun, hend, hWU, hsm.weaken (fun y hy hlt => ?_) (Nat.le_refl _) (Nat.le_refl _), rfl, rfl, rfl⟩
  · rw [doInvoke_state]
    exact st2 _ hw
  · rcases List.mem_append.mp hy with q | q
    · exact q
    · have hb : y.base = a := by
        simp only [List.mem_cons, List.not_mem_nil, or_false] at q
        rcases q with rfl | rfl | rfl | rfl | rfl <;> rfl
      rw [hb] at hlt
      exact absurd hlt (Nat.not_lt.mpr hnew)
end TXC
end THR
