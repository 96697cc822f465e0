section TH2
def tx_N : String := "java/util/NoSuchElementException"
def tx_I : String := "java/lang/IllegalArgumentException"
def tx_n (k : Nat) : String := if k = 1 then tx_N else tx_I
/-- a static of Throwable's, below the region -/
def tz (L0 : Nat) (n d : String) (U : State) : Prop := (Cond.laysStatic Bundle.tN n d).before #[] U = true ∧ va_Zq Bundle.tN n d (fun q => L0 ≤ q) U U.heap
theorem tz_mv {L0 : Nat} {n d : String} {s U : State} (hW : s.WarmedH U.vm) (hk : ∀ a : Nat, a < s.heap.size → ¬ L0 ≤ a → U.heap[a]? = s.heap[a]?) (h : tz L0 n d s) : tz L0 n d U := by
  obtain ⟨h1, h2⟩ := h
  have z := h2.moved (U := U) hW.alike
  refine ⟨?_, z.kept hk⟩
  obtain ⟨c, k, i, f, a, ce, hc, hi, hst, ha, hce, hs, hcl, hlt, hty⟩ := Cond.laysStatic_spec (Cond.laysStatic_setVm hW.alike h1)
  have hna : ¬ L0 ≤ a ∧ a < s.heap.size := by
    refine ⟨?_, (Array.getElem?_eq_some_iff.mp (show s.heap[a]? = some ce from hce)).1⟩
    have go : ∀ v, va_Z Bundle.tN n d v (fun q => L0 ≤ q) U s.heap → ¬ L0 ≤ a := by
      intro v ⟨cf', kf', fi', f', a', ce', w1, w2, w3, w4, w5, w6, w7, w8⟩
      have e := Option.some.inj (w1.symm.trans (show U.fieldFound? Bundle.tN n d = some (c, k, i, f) from hi))
      simp only [Prod.mk.injEq] at e
      obtain ⟨-, rfl, -, rfl⟩ := e
      cases Option.some.inj (w4.symm.trans ha)
      exact w8
    rcases z with z | ⟨t, z⟩
    · exact go _ z
    · exact go _ z
  exact Cond.laysStatic_of (s := U) hc hi hst ha ((hk a hna.2 hna.1).trans hce) hs hcl hlt hty
def tx_na (U : State) : Prop := ∀ c1 c2 : ClassId, U.vm.findClass tx_I = some c1 → U.vm.findClass tx_N = some c2 → U.vm.assignable c1 c2 = false
/-- what a throw asks of the state -/
def tq (L0 : Nat) (U : State) : Prop := tz L0 "UNASSIGNED_STACK" Bundle.steD U ∧ tz L0 "SUPPRESSED_SENTINEL" Bundle.listD U ∧ (∃ a, vk_R "PurseHouse" 148 "nothing is at this place of such a link" a U) ∧ (∃ a, vk_R "PurseHouse" 161 "what is 0, 1, 2 or 3" a U) ∧ (∃ a, vk_R "PurseHouse" 176 "nothing such was recorded" a U) ∧ (∃ a, vk_R "PurseHouse" 185 "what is 0 or 1" a U) ∧ (∃ a, vk_R "PurseHouse" 193 "no such finished snapshot or currency" a U) ∧ tx_na U
theorem tq_mv {L0 : Nat} {s U : State} (hW : s.WarmedH U.vm) (hk : ∀ a : Nat, a < s.heap.size → ¬ L0 ≤ a → U.heap[a]? = s.heap[a]?) (h : tq L0 s) : tq L0 U := by
  obtain ⟨h1, h2, ⟨a3, h3⟩, ⟨a4, h4⟩, ⟨a5, h5⟩, ⟨a6, h6⟩, ⟨a7, h7⟩, h8⟩ := h
  refine ⟨tz_mv hW hk h1, tz_mv hW hk h2, ⟨a3, h3.warm hW⟩, ⟨a4, h4.warm hW⟩, ⟨a5, h5.warm hW⟩, ⟨a6, h6.warm hW⟩, ⟨a7, h7.warm hW⟩, fun c1 c2 e1 e2 => ?_⟩
  rw [hW.alike.assignable]
  exact h8 c1 c2 (by rw [← hW.alike.findClass]; exact e1) (by rw [← hW.alike.findClass]; exact e2)
/-! a method that throws -/
/-- it threw; the tables only grew; of the old memory only what L names has changed, and k new cells with n slots were taken -/
def tx_E (st : State) (o : Outcome) (t : State) (L : List Loc) (k n : Nat) : Prop := (∃ x, o = .threw x) ∧ st.WarmedH t.vm ∧ st.sameButNew ({ t with vm := st.vm } : State) L k n
def MQt (below : List Frame) (Qc : Array Value → State → Outcome → State → Prop) (a : Array Value) (s : State) (mc ms : Nat) (free : Addr → Prop) : State → Prop := fun t =>
  ∃ o, t.status = .running ∧ Ended t below o ∧ Qc a s o t ∧ ∃ L, tx_E s o t L mc ms ∧ ∀ q ∈ L, free q.base
def MetT (l : Launch) (y : MethodName) (ws : List Cond) (rm : Room) (Pc : Array Value → State → Prop) (Qc : Array Value → State → Outcome → State → Prop) (mc ms : Nat) (free : Addr → Prop) : Prop :=
  MetFree l y (headSpec ws rm) Pc (fun _ _ _ _ _ => True) (fun a st o t => Qc a st o t ∧ ∃ L, tx_E st o t L mc ms ∧ ∀ q ∈ L, free q.base)
theorem tx_ofW {l : Launch} {y : MethodName} {ws ws' : List Cond} {rm : Room} {Pc : Array Value → State → Prop} {Qc : Array Value → State → Outcome → State → Prop} {mc ms : Nat} {free : Addr → Prop} {cc : ByteArray} {maxL : Nat} {ret : Option FieldType}
    (hy : plainName y.cls = true) (hw : ws = Cond.code y cc maxL ret :: ws')
    (body : ∀ p e s m args below meth c s₁, BodyLoose p l y (headSpec ws rm) cc maxL ret e s m args below meth c s₁ → c.maxLocals = maxL → Pc args s →
      W p l e (headSpec ws rm).room s m args below meth c s.heap [] 0 0 (MQt below Qc args s mc ms free) (entryFrame m args maxL)) : MetT l y ws rm Pc Qc mc ms free := by
  refine MetFree.of_bodyS (code := cc) (maxLocals := maxL) (ret := ret) hy (fun args s m h hn => ?_) (fun p e s m args below meth c s₁ B hml hP _ => ?_)
  · obtain ⟨meth, c, h1, h2, h3, h4, h5, h6, -, -⟩ := Cond.code_spec hn (atoms_spec (ws := ws) h _ (by rw [hw]; exact List.mem_cons_self))
    exact ⟨meth, c, h1, h2, h3, h4, h5, h6⟩
  · obtain ⟨t, a1, o, b1, b2, b3⟩ := body p e s m args below meth c s₁ B hml hP s₁ (by rw [B.state]; rfl) (Stand.of_body B)
    exact ⟨t, o, a1, b1, b2, b3.1, b3.2⟩
abbrev tx_Q (L0 : Nat) (e0 : Nat → Nat) (D : va_G) (cl : List vw_C) (tys : List (ClassId × FieldType)) (K : Nat → mo_M → Prop) : Array Value → State → Outcome → State → Prop := fun _ st oc t =>
  ∃ (a : Addr) (k : Nat) (M1 : mo_M) (ce : Cell), oc = .threw a ∧ K k M1 ∧ mo_B L0 e0 D cl tys M1 t ∧ va_F (fun q => L0 ≤ q) st t ∧ t.heap[a]? = some ce ∧ t.vm.findClass (tx_n k) = some ce.cls ∧ ce.vm = .none
section LEAF
variable {p : Program} {l : Launch} {e : Env} {R : Room} {s : State} {m : MethodId} {args : Array Value} {below : List Frame} {meth : Method} {c : Code} {H : Heap} {locs : List Loc}
variable {cc : ByteArray} {pc : Nat} {ls : Array Slot} {L0 : Nat} {e0 : Nat → Nat} {D : va_G} {cl : List vw_C} {tys : List (ClassId × FieldType)} {M : mo_M}
/-- the memory holds what it held, whatever is new -/
theorem mo_more {H1 : Heap} (h : mo_in L0 D cl M H) (oq : ∀ q : Nat, q < H.size → H1[q]? = H[q]?) : mo_in L0 D cl M H1 := by
  obtain ⟨L, f, hM, hP, hD⟩ := h
  exact ⟨L, f, hM, hP.kept (fun k x hx => oq x.1 ((hP k x hx).lt)), hD⟩
theorem tx_tw (hts : ∀ w ∈ lw_g, w.before args s = true) (z1 : (Cond.laysStatic Bundle.tN "UNASSIGNED_STACK" Bundle.steD).before args s = true) (z2 : (Cond.laysStatic Bundle.tN "SUPPRESSED_SENTINEL" Bundle.listD).before args s = true) : ∀ w ∈ Bundle.throwableAtoms, w.before args s = true :=
  List.forall_mem_cons.mpr ⟨hts _ wd_47, List.forall_mem_cons.mpr ⟨hts _ wd_525, List.forall_mem_cons.mpr ⟨hts _ wd_534, List.forall_mem_cons.mpr ⟨hts _ wd_537, List.forall_mem_cons.mpr ⟨hts _ wd_540, List.forall_mem_cons.mpr ⟨hts _ wd_542, List.forall_mem_cons.mpr ⟨hts _ wd_526, List.forall_mem_cons.mpr ⟨hts _ wd_527, List.forall_mem_cons.mpr ⟨hts _ wd_58, List.forall_mem_cons.mpr ⟨hts _ wd_59, List.forall_mem_cons.mpr ⟨hts _ wd_528, List.forall_mem_cons.mpr ⟨hts _ wd_533, List.forall_mem_cons.mpr ⟨hts _ wd_538, List.forall_mem_cons.mpr ⟨hts _ wd_558, List.forall_mem_cons.mpr ⟨hts _ wd_515, List.forall_mem_cons.mpr ⟨hts _ wd_559, List.forall_mem_cons.mpr ⟨hts _ wd_517, List.forall_mem_cons.mpr ⟨hts _ wd_560, List.forall_mem_cons.mpr ⟨hts _ wd_519, List.forall_mem_cons.mpr ⟨hts _ wd_529, List.forall_mem_cons.mpr ⟨z1, List.forall_mem_cons.mpr ⟨hts _ wd_531, List.forall_mem_cons.mpr ⟨z2, List.forall_mem_cons.mpr ⟨hts _ wd_521, fun _ h => absurd h List.not_mem_nil⟩⟩⟩⟩⟩⟩⟩⟩⟩⟩⟩⟩⟩⟩⟩⟩⟩⟩⟩⟩⟩⟩⟩⟩
theorem tx_ts (hts : ∀ w ∈ lw_g, w.before args s = true) : ∀ w ∈ Bundle.throwableSAtoms, w.before args s = true :=
  List.forall_mem_cons.mpr ⟨hts _ wd_554, List.forall_mem_cons.mpr ⟨hts _ wd_555, List.forall_mem_cons.mpr ⟨hts _ wd_557, List.forall_mem_cons.mpr ⟨hts _ wd_521, fun _ h => absurd h List.not_mem_nil⟩⟩⟩⟩
abbrev tx_R : String := "java/lang/RuntimeException"
abbrev tx_names : List String := ["java/lang/Exception"]
theorem tx_ch1 (hts : ∀ w ∈ lw_g, w.before args s = true) (hok : mo_ok L0 e0 D cl tys s M H locs) {X : String} {ix : Nat} {rx : ByteArray} (h1 : (Cond.instanceMethod (Bundle.initS X)).before args s = true) (h2 : (Cond.code (Bundle.initS X) rx 2 none).before args s = true) (h3 : (Cond.methodLink X ix (Bundle.initS tx_R)).before args s = true) : ∀ w ∈ Bundle.passSAtoms X tx_R ix rx, w.before args s = true := by
  have d1 := (mo_nw_of hok wn_507 rfl).use (A := args) rfl
  exact List.forall_mem_cons.mpr ⟨h1, List.forall_mem_cons.mpr ⟨h2, List.forall_mem_cons.mpr ⟨h3, List.forall_mem_cons.mpr ⟨hts _ wd_548, List.forall_mem_cons.mpr ⟨d1, fun _ h => absurd h List.not_mem_nil⟩⟩⟩⟩⟩
theorem tx_ch2 (hts : ∀ w ∈ lw_g, w.before args s = true) (hok : mo_ok L0 e0 D cl tys s M H locs) : ∀ w ∈ Bundle.chainSAtoms tx_R tx_names, w.before args s = true := by
  have d2 := (mo_nw_of hok wn_509 rfl).use (A := args) rfl
  have d3 := (mo_nw_of hok wn_511 rfl).use (A := args) rfl
  exact List.forall_mem_cons.mpr ⟨hts _ wd_548, List.forall_mem_cons.mpr ⟨hts _ wd_549, List.forall_mem_cons.mpr ⟨hts _ wd_550, List.forall_mem_cons.mpr ⟨hts _ wd_551, List.forall_mem_cons.mpr ⟨d2, List.forall_mem_cons.mpr ⟨hts _ wd_551, List.forall_mem_cons.mpr ⟨hts _ wd_552, List.forall_mem_cons.mpr ⟨hts _ wd_553, List.forall_mem_cons.mpr ⟨hts _ wd_554, List.forall_mem_cons.mpr ⟨d3, fun _ h => absurd h List.not_mem_nil⟩⟩⟩⟩⟩⟩⟩⟩⟩⟩
set_option maxHeartbeats 4000000 in
theorem tx_go {K : Nat → mo_M → Prop} {k nL i1 i2 i3 ix q : Nat} {rx : ByteArray} {tx : String} (hexec : p.tables.exec = Jvm.exec) (hb : c.code = cc) (hml : c.maxLocals = nL) (hts : ∀ w ∈ lw_g, w.before args s = true) (hown : s.vm.findClass "PurseHouse" = some m.cls) (hlocks : meth.locks = false) (hxt : c.exceptionTable.isEmpty = true) (htr : e.platform.stackTraces = false)
    (hok : mo_ok L0 e0 D cl tys s M H locs) (hq : tq L0 s) (hK : K k M) (hls : ls.size = nL) (hfit : Bundle.fit (tx_n k) = true)
    (x0 : decode rx 0 = .ok (.aload_n 0, 1)) (x1 : decode rx 1 = .ok (.aload_n 1, 1)) (x2 : decode rx 2 = .ok (.invokespecial ix, 3)) (x5 : decode rx 5 = .ok (.return_, 1))
    (w1 : (Cond.classLink "PurseHouse" i1 (tx_n k)).before args s = true) (w2 : (Cond.instantiable (tx_n k) 6).before args s = true) (w3 : (Cond.initialized (tx_n k)).before args s = true) (w4 : (Cond.methodLink "PurseHouse" i3 (Bundle.initS (tx_n k))).before args s = true) (w5 : (Cond.instanceMethod (Bundle.initS (tx_n k))).before args s = true) (w6 : (Cond.code (Bundle.initS (tx_n k)) rx 2 none).before args s = true) (w7 : (Cond.methodLink (tx_n k) ix (Bundle.initS "java/lang/RuntimeException")).before args s = true) (w8 : (Cond.selects (tx_n k) Bundle.tFill0 Bundle.tFill0).before args s = true) (w9 : (Cond.selects (tx_n k) Bundle.tFill Bundle.tFill).before args s = true)
    (y1 : (Cond.lays (tx_n k) Bundle.tN "cause" "Ljava/lang/Throwable;").before args s = true) (y2 : (Cond.lays (tx_n k) Bundle.tN "stackTrace" Bundle.steD).before args s = true) (y3 : (Cond.lays (tx_n k) Bundle.tN "suppressedExceptions" Bundle.listD).before args s = true) (y4 : (Cond.lays (tx_n k) Bundle.tN "detailMessage" "Ljava/lang/String;").before args s = true) (y5 : (Cond.lays (tx_n k) Bundle.tN "backtrace" "Ljava/lang/Object;").before args s = true)
    (hv : vk_R "PurseHouse" i2 tx q s) (hR : 1 ≤ R.cells ∧ 6 ≤ R.slots ∧ 5 < R.frames ∧ 100 ≤ R.locals)
    (dn : decode cc pc = .ok (.new i1, 3)) (dd : decode cc (pc + 3) = .ok (.dup, 1)) (dl : decode cc (pc + 3 + 1) = .ok (.ldc i2, 2)) (di : decode cc (pc + 3 + 1 + 2) = .ok (.invokespecial i3, 3)) (da : decode cc (pc + 3 + 1 + 2 + 3) = .ok (.athrow, 1)) :
    W p l e R s m args below meth c H locs 0 0 (MQt below (tx_Q L0 e0 D cl tys K) args s 1 6 (fun q => L0 ≤ q)) (F0 m pc ls []) := by
  obtain ⟨h0, ⟨hKk, hE⟩, hI, hS⟩ := id hok
  obtain ⟨cX, kX, hfX, hkX, -⟩ := Cond.instantiable_spec w2
  have z1 : (Cond.laysStatic Bundle.tN "UNASSIGNED_STACK" Bundle.steD).before args s = true := hq.1.1
  have z2 : (Cond.laysStatic Bundle.tN "SUPPRESSED_SENTINEL" Bundle.listD).before args s = true := hq.2.1.1
  refine W.newcK hexec hb hown w1 w2 w3 rfl dn (by have := hR.1; omega) (by have := hR.2.1; omega) hfX rfl fun H1 kC hkC e1 s1 o1 => ?_
  refine W.eq (g2 := F0 m (pc + 3) ls [.ref H.size]) rfl ?_
  refine lv_dup hexec hb dd rfl ?_
  refine va_ldcS hexec hb hown hv dl ?_
  intro T hT X
  obtain ⟨U, ce, st, hrun, hend, hW, hsm, hU, hc1, hc2⟩ := tx_ctor (A := fun q => L0 ≤ q) X hexec htr hown hfit (nY := tx_R) (names := tx_names) (by decide) (by decide) (tx_tw hts z1 z2) (tx_ts hts) (tx_ch1 hts hok w5 w6 w7) (tx_ch2 hts hok) x0 x1 x2 x5 w4 w5 w6 w2 w8 w9 y1 y2 y3 y4 y5 (hts _ wd_524) (hts _ wd_523) hq.1.2 hq.2.1.2 hS.2.2
    (a := H.size) hfX hkC (by rw [hT]; exact e1) hS.1 (msg := .ref q) rfl (g := F0 m (pc + 3 + 1 + 2) ls [.ref q, .ref H.size, .ref H.size]) rfl (hls.trans hml.symm) rfl rfl (rest := []) rfl (by rw [hb]; exact di) (by rw [hb]; exact da) (fun x hx => by rw [Array.isEmpty_iff.mp hxt] at hx; cases hx) hR.2.2.1 (by have := hR.2.2.2; show 2 * 0 + (1 + 0) + (13 * (1 + 2) + 42) ≤ R.locals; omega) hlocks
  have hUh : ∀ x : Nat, x < H.size → U.heap[x]? = H[x]? := fun x hx => by
    rw [hU, Array.getElem?_setIfInBounds_ne (by omega), hT]
    exact o1 x hx
  have hUz : H.size ≤ U.heap.size := by rw [hU, Array.size_setIfInBounds, hT, s1]; omega
  have hUa : U.heap[H.size]? = some ce := by
    rw [hU, hT]
    exact Array.getElem?_setIfInBounds_self_of_lt (by omega)
  have hS' := mo_crS hS hUz hUh
  refine ⟨U, st, .threw H.size, hrun, hend, ⟨H.size, k, M, ce, rfl, hK, ⟨Nat.le_trans h0 hS'.1, ⟨va_K.moved hW.alike hKk, mo_Ew hW hS' hE⟩, mo_more hI hUh⟩, hS'.F rfl, hUa, ?_, hc2⟩, locs, ⟨⟨_, rfl⟩, hW, hsm⟩, hS.2.2⟩
  rw [hW.alike.findClass, hc1]
  exact hfX
theorem tx_nse {K : Nat → mo_M → Prop} {nL i2 q : Nat} {tx : String} (hexec : p.tables.exec = Jvm.exec) (hb : c.code = cc) (hml : c.maxLocals = nL) (hts : ∀ w ∈ lw_g, w.before args s = true) (hown : s.vm.findClass "PurseHouse" = some m.cls) (hlocks : meth.locks = false) (hxt : c.exceptionTable.isEmpty = true) (htr : e.platform.stackTraces = false)
    (hok : mo_ok L0 e0 D cl tys s M H locs) (hq : tq L0 s) (hK : K 1 M) (hls : ls.size = nL) (hv : vk_R "PurseHouse" i2 tx q s) (hR : 1 ≤ R.cells ∧ 6 ≤ R.slots ∧ 5 < R.frames ∧ 100 ≤ R.locals)
    (dn : decode cc pc = .ok (.new 146, 3)) (dd : decode cc (pc + 3) = .ok (.dup, 1)) (dl : decode cc (pc + 3 + 1) = .ok (.ldc i2, 2)) (di : decode cc (pc + 3 + 1 + 2) = .ok (.invokespecial 150, 3)) (da : decode cc (pc + 3 + 1 + 2 + 3) = .ok (.athrow, 1)) :
    W p l e R s m args below meth c H locs 0 0 (MQt below (tx_Q L0 e0 D cl tys K) args s 1 6 (fun q => L0 ≤ q)) (F0 m pc ls []) :=
  tx_go (k := 1) (ix := 13) (rx := prog_23_method_4_code) hexec hb hml hts hown hlocks hxt htr hok hq hK hls (by decide) (by decide +kernel) (by decide +kernel) (by decide +kernel) (by decide +kernel) (hts _ wd_503) (hts _ wd_504) (hts _ wd_50) (hts _ wd_544) (hts _ wd_545) (hts _ wd_546) (hts _ wd_547) (hts _ wd_512) (hts _ wd_513) (hts _ wd_514) (hts _ wd_516) (hts _ wd_518) (hts _ wd_520) (hts _ wd_522) hv hR dn dd dl di da
theorem tx_iae {K : Nat → mo_M → Prop} {nL i2 q : Nat} {tx : String} (hexec : p.tables.exec = Jvm.exec) (hb : c.code = cc) (hml : c.maxLocals = nL) (hts : ∀ w ∈ lw_g, w.before args s = true) (hown : s.vm.findClass "PurseHouse" = some m.cls) (hlocks : meth.locks = false) (hxt : c.exceptionTable.isEmpty = true) (htr : e.platform.stackTraces = false)
    (hok : mo_ok L0 e0 D cl tys s M H locs) (hq : tq L0 s) (hK : K 2 M) (hls : ls.size = nL) (hv : vk_R "PurseHouse" i2 tx q s) (hR : 1 ≤ R.cells ∧ 6 ≤ R.slots ∧ 5 < R.frames ∧ 100 ≤ R.locals)
    (dn : decode cc pc = .ok (.new 159, 3)) (dd : decode cc (pc + 3) = .ok (.dup, 1)) (dl : decode cc (pc + 3 + 1) = .ok (.ldc i2, 2)) (di : decode cc (pc + 3 + 1 + 2) = .ok (.invokespecial 163, 3)) (da : decode cc (pc + 3 + 1 + 2 + 3) = .ok (.athrow, 1)) :
    W p l e R s m args below meth c H locs 0 0 (MQt below (tx_Q L0 e0 D cl tys K) args s 1 6 (fun q => L0 ≤ q)) (F0 m pc ls []) :=
  tx_go (k := 2) (ix := 7) (rx := prog_10_method_2_code) hexec hb hml hts hown hlocks hxt htr hok hq hK hls (by decide) (by decide +kernel) (by decide +kernel) (by decide +kernel) (by decide +kernel) (hts _ wd_570) (hts _ wd_571) (hts _ wd_51) (hts _ wd_580) (hts _ wd_581) (hts _ wd_582) (hts _ wd_583) (hts _ wd_573) (hts _ wd_536) (hts _ wd_574) (hts _ wd_575) (hts _ wd_576) (hts _ wd_577) (hts _ wd_578) hv hR dn dd dl di da
end LEAF
end TH2
