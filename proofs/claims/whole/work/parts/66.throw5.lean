section TH5
section TXB
variable {Q : Handler → Pre} {E : CtlPost} {e : Env} {d : Bool} {acts : List Action} {U : State} {f : JFrame} {a : Addr}
/-- a row of the table that covers the place: its class is linked and noted, then the row takes what is thrown, or the search goes on in the rows below -/
theorem ch_row {x : ExceptionTableEntry} {t : List ExceptionTableEntry} {k : ClassId} {ce : Cell} (b : Bool) (hc : x.startPc ≤ f.pc ∧ f.pc < x.endPc) (h0 : x.catchType ≠ 0) (hl : U.vm.ClassLinks e.platform f.method.cls x.catchType k) (ha : U.heap[a]? = some ce) (hv : ce.vm = .none)
    (h1 : ∃ z, U.vm.classes[ce.cls]? = some z) (h2 : ∃ z, U.vm.classes[k]? = some z) (hb : U.vm.assignable ce.cls k = b) :
    wp (findHandler.go f a (x :: t)) Q E e d acts U ↔ (if b = true then Q (.found x.handlerPc) d acts (U.setVm (U.vm.noted f.method.cls x.catchType (.cls k))) else wp (findHandler.go f a t) Q E e d acts (U.setVm (U.vm.noted f.method.cls x.catchType (.cls k)))) := by
  have hno : ∀ z, ce.vm ≠ .statics z := fun z q => by rw [hv] at q; cases q
  have al := (Vm.Alike.refl U.vm).noted f.method.cls x.catchType (.cls k)
  obtain ⟨z1, h1⟩ := h1
  obtain ⟨z2, h2⟩ := h2
  obtain ⟨y1, g1, -⟩ := al.2.2 _ _ h1
  obtain ⟨y2, g2, -⟩ := al.2.2 _ _ h2
  have g3 := hb
  rw [← al.assignable] at g3
  obtain ⟨r1, r2⟩ := (resolveClass_links e.toSetting hl).op (op := VmOp.resolveClass f.method.cls x.catchType) rfl
  cases b <;> simp [findHandler.go, hc.1, hc.2, h0, r1, r2, ha, hno, g1, g2, g3, VmOp.dirties, VmOp.acts]
/-- the step into a handler, where the search has noted classes -/
theorem ch_step {tb : Tables} {s target : State} {g : JFrame} {c : Code} {below : List Frame} {pc : Nat} {vm' : Vm} (h : At s g.method c below)
    (hf : ∀ (Q : Handler → Pre) (E : CtlPost) (d : Bool) (acts : List Action), wp (findHandler g a) Q E e d acts ((s.setTop g).pushFrame (.throwing a)) ↔ Q (.found pc) d acts (((s.setTop g).pushFrame (.throwing a)).setVm vm'))
    (hr : Steps tb e below ((s.setVm vm').setTop { g with pc := pc, stack := [.ref a] }) target) : Steps tb e below ((s.setTop g).pushFrame (.throwing a)) target := by
  obtain ⟨hgo, hw⟩ := h.throwing a
  have hst : (stepThrowing e ((s.setTop g).pushFrame (.throwing a)) a (.java g :: s.frames.tail)).1 = (((s.setTop g).pushFrame (.throwing a)).setVm vm').setFrames (.java { g with pc := pc, stack := [.ref a] } :: s.frames.tail) := by
    simp only [stepThrowing, searchFrame, vmDo]
    generalize hq : Sem.go _ e false [] ((s.setTop g).pushFrame (.throwing a)) = res
    obtain ⟨as, rfl, -⟩ := Sem.eq_ok_of hq (a := Handler.found pc) (s' := ((s.setTop g).pushFrame (.throwing a)).setVm vm') (acts' := []) (by simp [hf _ _ _ _])
    rfl
  refine Steps.head hgo hw ?_
  rw [stepThread_throwing (frames_entered h.top _), hst]
  obtain ⟨g₀, hg⟩ := Option.isSome_iff_exists.mp h.top
  obtain ⟨r, hfr⟩ := State.topJava?_eq_some.mp hg
  have hfr' : (s.setVm vm').frames = .java g₀ :: r := hfr
  rw [State.setTop_of_frames _ hfr'] at hr
  have sw : ∀ A B : List Frame, ((s.setFrames A).setVm vm').setFrames B = (s.setVm vm').setFrames B := fun A B => by
    rw [show (s.setFrames A).setVm vm' = (s.setVm vm').setFrames A from rfl, State.setFrames_setFrames]
  rw [State.pushFrame, State.setTop_of_frames _ hfr, State.setFrames_setFrames, sw, hfr]
  exact hr
end TXB
section TXR
variable {p : Program} {l : Launch} {e : Env} {R : Room} {s : State} {m : MethodId} {args : Array Value} {below : List Frame} {meth : Method} {c : Code} {H : Heap} {locs : List Loc} {cells slots : Nat} {Q : State → Prop}
variable {y : MethodName} {bytes cc : ByteArray} {maxL nL mc ms n index : Nat} {ret : Option FieldType} {ws : List Cond} {rm : Room} {Pc : Array Value → State → Prop} {Qc : Array Value → State → Outcome → State → Prop} {free : Addr → Prop} {Ts : List Cond} {own C : String} {b : Addr} {As rest : List Value} {g : JFrame}
/-- a call that throws -/
theorem tx_runV (S : CallFix p m c cc nL s args Ts own) (hM : MetT l y ws rm Pc Qc mc ms free) (cw : CallW R s args own C index y bytes maxL ret ws rm mc ms n) (hp : PreV s H C b Pc As)
    (hg : g.method = m) (hn : As.length = n) (hsize : g.locals.size = nL) (hstack : g.stack = As.reverse ++ .ref b :: rest) (hW : 2 * g.monitorRoom + (rest.map fun v => v.category).sum ≤ 8) (hdg : decode cc g.pc = .ok (.invokevirtual index, 3)) (hf : cells + mc ≤ R.cells ∧ slots + ms ≤ R.slots)
    {T : State} (hT : T.heap = H) (X : Stand p l e R s m args below meth c T locs cells slots) :
    ∃ (x : Addr) (st₀ t T' : State) (L : List Loc), st₀.heap = H ∧ s.WarmedH st₀.vm ∧ Stand p l e R s m args below meth c T' (locs ++ L) (cells + mc) (slots + ms) ∧ (∀ q ∈ L, free q.base) ∧ T'.heap = t.heap ∧ T'.vm = t.vm ∧ Qc (Value.ref b :: As).toArray st₀ (.threw x) t ∧
      Steps p.tables e below (T.setTop g) ((T'.setTop { g with stack := rest }).pushFrame (.throwing x)) := by
  obtain ⟨⟨hrc, hrs, hfr, hlo, hws, hcw, hcode, hini, hy, hlen, hl⟩, hin, hse⟩ := cw
  obtain ⟨hx, hb, hml, ho, -⟩ := S
  obtain ⟨hbl, ⟨cellB, hcB, hoB, hclB⟩, hPc⟩ := hp
  obtain ⟨mk, mM, hnm, hmM, hst, hab⟩ := Cond.instanceMethod_spec hin
  obtain ⟨mM', cM, hmM', -, -, -, -, -, -, hsig⟩ := Cond.code_spec hnm hcode
  cases hmM.symm.trans hmM'
  obtain ⟨c2, r2, m2, q1, q2, q3, q4, kP, hkP, hkPi⟩ := Cond.selects_spec hse
  cases hclB.symm.trans q1
  cases (State.methodFound?_of_named hnm hy).symm.trans q2
  cases hnm.symm.trans q3
  have hsel : selectMethod e.platform s.vm cellB.cls mk = .method mk := by rw [Launch.admits_selectMethod X.admits]; exact q4
  obtain ⟨vm₁, X₁, hstep⟩ := X.invokevirtual hx ho hl hnm hmM hst hkP hkPi hy (a := b) (cell := cellB) (by rw [hT]; exact hcB) (fun z h => by rw [h] at hoB; cases hoB) hsel hmM hab hkP hkPi (g := g) hg (argsL := As) (rest := rest) (hn.trans (hlen _ hsig)) hstack (by rw [hb]; exact hdg)
  have hnU := X₁.named hnm
  have hiU : (Cond.initialized y.cls).before (Value.ref b :: As).toArray (T.setVm vm₁) = true := word_at X₁.warmed (Or.inl (by first | rfl | simp [Cond.onTables, Cond.keeps, Cond.steady])) hini
  obtain ⟨mY, cY, hmY, hcY, -, hlY, -, -, -, -⟩ := Cond.code_spec hnU (hws _ hcw (Value.ref b :: As).toArray (T.setVm vm₁) X₁.warmed)
  obtain ⟨kY, hkY, -⟩ := className_of_methodNamed hnU
  have hkI : kY.init = .initialized := Cond.initialized_spec (findClass_of_methodNamed hnU) hkY hiU
  have hat : At (T.setVm vm₁) ({ g with stack := rest } : JFrame).method c below := by
    rw [show ({ g with stack := rest } : JFrame).method = m from hg]
    exact X₁.here
  have hF : ((T.setVm vm₁).setTop { g with stack := rest }).frames = [.java { g with stack := rest }] ++ below := by
    rw [State.frames_setTop' _ hat.top, X₁.tail]
    rfl
  have happ : (headSpec ws rm).appliesLoose y e.platform ((T.setVm vm₁).calling { g with stack := rest } mk (Value.ref b :: As).toArray) = true :=
    Spec.appliesLoose_calling hat (by rw [hb]; exact hdg) hnU hkY hkI (X₁.room_calling (g := { g with stack := rest }) (R' := rm) (hsize.trans hml.symm) hmY hcY hfr (by
      show 2 * g.monitorRoom + (rest.map fun v => v.category).sum + (cY.maxLocals + 11) + rm.locals ≤ R.locals
      rw [hlY]
      omega) (by rw [hrc]; exact hf.1) (by rw [hrs]; exact hf.2)) (atoms_intro fun w hw => hws w hw _ _ X₁.warmed)
  obtain ⟨o, t, hs, -, hend, hq, L, ⟨⟨x, rfl⟩, hW2, hsm⟩, hL⟩ := Steps.callFree hM p X₁.admits X₁.cas X₁.clock (acts := []) hF happ (hbl _ _ _ _ (hPc (T.setVm vm₁) hT X₁.warmed)) trivial
  rw [hF] at hend
  obtain ⟨T', X', -, -, ht⟩ := X₁.outOfThrown (g := { g with stack := rest }) hg hend hW2 hsm
  refine ⟨x, (T.setVm vm₁).calling { g with stack := rest } mk (Value.ref b :: As).toArray, t, T', L, hT, X₁.warmed, X', hL, ?_, ?_, hq, hstep _ (fun acts => ?_)⟩
  · rw [ht]
    exact (Jvm.Stand.throwing_heap _ _ _).symm
  · rw [ht]
    exact (Jvm.Stand.throwing_vm _ _ _).symm
  · rw [doInvoke_state, ← ht]
    exact hs
/-- it is caught here -/
theorem tx_catch {T' : State} {a : Addr} {ce : Cell} {k b0 b1 h1 h2 : Nat} {rows : List ExceptionTableEntry} (X : Stand p l e R s m args below meth c T' locs cells slots) (hts : ∀ w ∈ lw_g, w.before args s = true) (hown : s.vm.findClass "PurseHouseLaw" = some m.cls) (hna : tx_na s) (hcc : ∀ k, ∃ c, s.vm.findClass (tx_n k) = some c ∧ s.vm.assignable c c = true)
    (hcell : T'.heap[a]? = some ce) (hcl : s.vm.findClass (tx_n k) = some ce.cls) (hvm : ce.vm = .none) (hg : g.method = m)
    (htab : c.exceptionTable.toList = ⟨b0, b1, h1, 13⟩ :: rows) (hk : k = 1 ∨ (k = 2 ∧ rows = [⟨b0, b1, h2, 15⟩])) (hcov : b0 ≤ g.pc ∧ g.pc < b1) :
    ∃ vm', Stand p l e R s m args below meth c (T'.setVm vm') locs cells slots ∧ ∀ target, Steps p.tables e below ((T'.setVm vm').setTop { g with pc := if k = 1 then h1 else h2, stack := [.ref a] }) target → Steps p.tables e below ((T'.setTop g).pushFrame (.throwing a)) target := by
  have hpl : e.platform.magicAccessors = ({} : Platform).magicAccessors := by rw [X.admits.platform]
  subst hg
  obtain ⟨cc, hcc1, hcc2⟩ := hcc k
  cases Option.some.inj (hcl.symm.trans hcc1)
  have hUv := Jvm.Stand.throwing_vm T' g a
  have hUh := Jvm.Stand.throwing_heap T' g a
  have hme : ((T'.setTop g).pushFrame (.throwing a)).vm.method? g.method = some meth := by rw [hUv]; exact X.method'
  generalize hUU : (T'.setTop g).pushFrame (.throwing a) = U at hUv hUh hme
  have hWU : s.WarmedH U.vm := by rw [hUv]; exact X.warmed
  have hcU : U.heap[a]? = some ce := by rw [hUh]; exact hcell
  have fin : ∀ (pc : Nat) (vm' : Vm), s.WarmedH vm' → (∀ (Q : Handler → Pre) (E : CtlPost) (d : Bool) (acts : List Action), wp (findHandler.go g a c.exceptionTable.toList) Q E e d acts U ↔ Q (.found pc) d acts (U.setVm vm')) →
      ∃ vm', Stand p l e R s g.method args below meth c (T'.setVm vm') locs cells slots ∧ ∀ target, Steps p.tables e below ((T'.setVm vm').setTop { g with pc := pc, stack := [.ref a] }) target → Steps p.tables e below U target := by
    intro pc vm' hW hq
    refine ⟨vm', X.noted hW, fun target hr => ?_⟩
    rw [← hUU]
    refine ch_step X.here (fun Q E d acts => ?_) hr
    rw [hUU, W.findHandler_eq hme X.code]
    exact hq Q E d acts
  -- a class that a row names, where the search stands
  have nt : ∀ {V : State} {i : Nat} {z : String}, s.WarmedH V.vm → (Cond.classLink "PurseHouseLaw" i z).before args s = true → ∃ q, s.vm.findClass z = some q ∧ V.vm.ClassLinks e.platform g.method.cls i q ∧ (∃ w, V.vm.classes[q]? = some w) ∧ s.WarmedH (V.vm.noted g.method.cls i (.cls q)) := by
    intro V i z hV hz
    obtain ⟨q, hq, hlq⟩ := Cond.classLink_spec hown hz e.platform hpl
    obtain ⟨dk, _, _, kt, hd, _, _, _, _, hkt, _, hopen⟩ := hlq.here
    obtain ⟨kt', hkt', -⟩ := hV.alike.2.2 _ _ hkt
    exact ⟨q, hq, hV.classLinks hlq, ⟨kt', hkt'⟩, hV.noted hd hopen (State.rightAt_cls hlq)⟩
  have own1 : ∀ {V : State}, s.WarmedH V.vm → ∃ w, V.vm.classes[ce.cls]? = some w := fun {V} hV => Vm.classAt_of_findClass (vm := V.vm) (name := tx_n k) (by rw [hV.alike.findClass]; exact hcl)
  rcases hk with rfl | ⟨rfl, hr⟩
  · obtain ⟨q, hq, l1, l2, l3⟩ := nt hWU (hts _ wd_497)
    cases Option.some.inj (hq.symm.trans hcl)
    exact fin h1 _ l3 (fun Q E d acts => by
      rw [htab, ch_row true hcov (show (13 : Nat) ≠ 0 by decide) l1 hcU hvm (own1 hWU) l2 (by rw [hWU.alike.assignable]; exact hcc2)]
      simp)
  · obtain ⟨q, hq, l1, l2, l3⟩ := nt hWU (hts _ wd_497)
    obtain ⟨q', hq', k1, k2, k3⟩ := nt (V := U.setVm (U.vm.noted g.method.cls 13 (.cls q))) l3 (hts _ wd_498)
    cases Option.some.inj (hq'.symm.trans hcl)
    refine fin h2 _ k3 (fun Q E d acts => ?_)
    rw [htab, hr, ch_row false hcov (show (13 : Nat) ≠ 0 by decide) l1 hcU hvm (own1 hWU) l2 (by rw [hWU.alike.assignable]; exact hna _ _ hcl hq)]
    rw [if_neg (by decide), ch_row (U := U.setVm (U.vm.noted g.method.cls 13 (.cls q))) true hcov (show (15 : Nat) ≠ 0 by decide) k1 hcU hvm (own1 (V := U.setVm _) l3) k2 (by show (U.vm.noted g.method.cls 13 (.cls q)).assignable ce.cls ce.cls = true; rw [l3.alike.assignable]; exact hcc2), if_pos rfl]
    rfl
end TXR
section TXW
variable {p : Program} {l : Launch} {e : Env} {R : Room} {s : State} {m : MethodId} {args : Array Value} {below : List Frame} {meth : Method} {c : Code} {H : Heap} {locs : List Loc} {cells slots : Nat} {Q : State → Prop}
variable {cc : ByteArray} {pc : Nat} {ls : Array Slot} {rest As : List Value} {L0 : Nat} {e0 : Nat → Nat} {D : va_G} {tys : List (ClassId × FieldType)} {M : mo_M}
theorem tx_preV (hok : mo_ok L0 e0 D vwCl tys s M H locs) (hq : tq L0 s) {b : Nat} {fs : List Value} (he : M b = some (.inr (0, fs))) (As : List Value) : PreV s H "PurseHouse" b (va_Pc (.ref b :: As) (fun U => mo_B L0 e0 D vwCl tys M U ∧ tq L0 U)) As := by
  obtain ⟨h1, h2, h3⟩ := mo_preV hok he rfl As
  refine ⟨fun a U g mk q => ?_, h2, fun U hU hW => ?_⟩
  · obtain ⟨q1, q2⟩ := h1 a U g mk ⟨q.1, q.2.1⟩
    exact ⟨q1, q2, tq_mv (s := U) (U := U.calling g mk a) (State.WarmedH.refl U) (fun _ _ _ => rfl) q.2.2⟩
  · obtain ⟨q1, q2⟩ := h3 U hU hW
    exact ⟨q1, q2, tq_mv hW (fun x hx hn => by rw [hU]; exact hok.2.2.2.2.1 x hx hn) hq⟩
theorem tx_W {K : Nat → mo_M → Prop} {y : MethodName} {bytes : ByteArray} {maxL nL n index b h1 h2 b0 b1 : Nat} {ret : Option FieldType} {ws : List Cond} {rm : Room} {rows : List ExceptionTableEntry} {fs : List Value} {st0 : List Value} (S : CallFix p m c cc nL s args lw_g "PurseHouseLaw") (hM : MetT l y ws rm (va_Pc (.ref b :: As) (fun U => mo_B L0 e0 D vwCl tys M U ∧ tq L0 U)) (tx_Q L0 e0 D vwCl tys K) 1 6 (fun q => L0 ≤ q))
    (cw : CallW R s args "PurseHouseLaw" "PurseHouse" index y bytes maxL ret ws rm 1 6 n) (hok : mo_ok L0 e0 D vwCl tys s M H locs) (hq : tq L0 s) (he : M b = some (.inr (0, fs))) (hn : As.length = n) (hsize : ls.size = nL) (hst : st0 = As.reverse ++ .ref b :: rest) (hW : (rest.map fun v => v.category).sum ≤ 8) (hdg : decode cc pc = .ok (.invokevirtual index, 3)) (hf : cells + 1 ≤ R.cells ∧ slots + 6 ≤ R.slots)
    (htab : c.exceptionTable.toList = ⟨b0, b1, h1, 13⟩ :: rows) (hk : ∀ k M1, K k M1 → k = 1 ∨ (k = 2 ∧ rows = [⟨b0, b1, h2, 15⟩])) (hcov : b0 ≤ pc ∧ pc < b1)
    (kk : ∀ (k : Nat) (M1 : mo_M) (H1 : Heap) (locs1 : List Loc) (a : Nat), K k M1 → mo_ok L0 e0 D vwCl tys s M1 H1 locs1 → W p l e R s m args below meth c H1 locs1 (cells + 1) (slots + 6) Q (F0 m (if k = 1 then h1 else h2) ls [.ref a])) : W p l e R s m args below meth c H locs cells slots Q (F0 m pc ls st0) := by
  intro T hT X
  have hcc : ∀ k, ∃ c, s.vm.findClass (tx_n k) = some c ∧ s.vm.assignable c c = true := by
    have go : ∀ {z}, va_Nw (.castable z z) s → ∃ c, s.vm.findClass z = some c ∧ s.vm.assignable c c = true := by
      intro z hz
      obtain ⟨c3, t3, w1, w2, w3⟩ := Cond.castable_spec (args := #[]) (show (Cond.castable z z).holds #[] s none s [] = true from hz)
      cases Option.some.inj (w1.symm.trans w2)
      exact ⟨c3, w1, w3⟩
    intro k
    unfold tx_n
    by_cases z : k = 1
    · rw [if_pos z]; exact go (mo_nw_of hok wn_505 rfl)
    · rw [if_neg z]; exact go (mo_nw_of hok wn_572 rfl)
  obtain ⟨x, st₀, t, T', L, q1, q2, X', hL, e1, e2, ⟨a, k, M1, ce, r1, r2, r3, r4, r5, r6, r7⟩, hs⟩ := tx_runV (g := F0 m pc ls st0) (rest := rest) S hM cw (tx_preV hok hq he As) rfl hn hsize hst (by simpa using hW) hdg hf hT X
  cases r1
  have hal := X'.warmed.alike
  have hcl : s.vm.findClass (tx_n k) = some ce.cls := by rw [← hal.findClass, e2]; exact r6
  obtain ⟨vm', X2, st2⟩ := tx_catch (g := F0 m pc ls rest) (h2 := h2) X' S.2.2.2.2 S.2.2.2.1 hq.2.2.2.2.2.2.2 hcc (by rw [e1]; exact r5) hcl r7 rfl htab (hk k M1 r2) hcov
  obtain ⟨h0, ⟨hK, hE⟩, hI, hS⟩ := hok
  have hS2 : va_S (fun q => L0 ≤ q) s.heap t.heap (locs ++ L) := by
    refine ⟨Nat.le_trans hS.1 (by rw [← q1]; exact r4.1), fun z hz hn => ?_, fun z hz => ?_⟩
    · rw [r4.2 z (by rw [q1]; exact Nat.lt_of_lt_of_le hz hS.1) hn, q1]
      exact hS.2.1 z hz hn
    · rcases List.mem_append.mp hz with w | w
      · exact hS.2.2 z w
      · exact hL z w
  obtain ⟨t2, a1, b1⟩ := kk k M1 t.heap (locs ++ L) x r2 ⟨h0, ⟨hK, hE⟩, r3.2.2, hS2⟩ (T'.setVm vm') e1 X2
  exact ⟨t2, hs.trans (st2 t2 a1), b1⟩
end TXW
end TH5
