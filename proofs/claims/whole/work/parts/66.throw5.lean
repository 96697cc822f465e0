section TH5
section TXB
variable {l : Launch} {R : Room} {p : Program} {e : Env} {below : List Frame} {s : State} {sargs : Array Value} {y : MethodName}
def tx_Po (Qc : Array Value → State → Outcome → State → Prop) (mc ms : Nat) (free : Addr → Prop) : Pt → Array Value → Addr → Pt → Prop := fun A a x B =>
  ∃ (g : JFrame) (mk : MethodId) (t : State) (L : List Loc), B.U.heap = t.heap ∧ B.U.vm = t.vm ∧ Qc a (A.U.calling g mk a) (.threw x) t ∧ B.locs = A.locs ++ L ∧ (∀ q ∈ L, free q.base) ∧ B.cells = A.cells + mc ∧ B.slots = A.slots + ms
theorem tx_back {ws : List Cond} {rm : Room} {Pc : Array Value → State → Prop} {Qc : Array Value → State → Outcome → State → Prop} {mc ms len W : Nat} {free : Addr → Prop} {bytes : ByteArray} {maxL : Nat} {ret : Option FieldType}
    (hM : MetT l y ws rm Pc Qc mc ms free) (hbl : FrameBlind Pc) (hrc : rm.cells = mc) (hrs : rm.slots = ms) (hfr : rm.frames + 1 ≤ R.frames) (hlo : W + (maxL + 11) + rm.locals ≤ R.locals)
    (hws : ∀ w ∈ ws, ∀ a' U, s.WarmedH U.vm → w.before a' U = true) (hcode : Cond.code y bytes maxL ret ∈ ws) (hinit : ∀ a' U, s.WarmedH U.vm → (Cond.initialized y.cls).before a' U = true) :
    BackT l R p e below s sargs y len W (PreOf R mc ms Pc) (tx_Po Qc mc ms free) := by
  refine BackT.of_free (S := headSpec ws rm) (P := Pc) (K := fun _ _ _ _ _ => True) (Q := fun a st o t => Qc a st o t ∧ ∃ L, FrameEndT st o t L mc ms ∧ ∀ q ∈ L, free q.base) (bytes := bytes) (maxL := maxL) (ret := ret)
    (E := fun _ _ _ _ L k n => k = mc ∧ n = ms ∧ ∀ q ∈ L, free q.base) hM hfr hlo (fun m meth c A a X hp => ?_) (fun m meth c A a g mk X hp => hbl _ _ _ _ hp.2.2) (fun _ _ _ _ _ _ _ _ _ => trivial) (fun a st o t hq => ?_) (fun m meth c A a g mk v t L k n X hp hq hF hE => ?_)
  · refine ⟨atoms_intro fun w hw => hws w hw _ _ X.warmed, hws _ hcode _ _ X.warmed, hinit _ _ X.warmed, ?_, ?_⟩
    · rw [show (headSpec ws rm).room.cells = mc from hrc]; exact hp.1
    · rw [show (headSpec ws rm).room.slots = ms from hrs]; exact hp.2.1
  · obtain ⟨-, L, hF, hL⟩ := hq
    exact ⟨L, mc, ms, hF, rfl, rfl, hL⟩
  · obtain ⟨rfl, rfl, hL⟩ := hE
    exact ⟨g, mk, t, L, rfl, rfl, hq.1, rfl, hL, rfl, rfl⟩
end TXB
section TXR
variable {p : Program} {l : Launch} {e : Env} {R : Room} {s : State} {m : MethodId} {args : Array Value} {below : List Frame} {meth : Method} {c : Code} {H : Heap} {locs : List Loc} {cells slots : Nat} {Q : State → Prop}
variable {y : MethodName} {bytes cc : ByteArray} {maxL nL mc ms n index : Nat} {ret : Option FieldType} {ws : List Cond} {rm : Room} {Pc : Array Value → State → Prop} {Qc : Array Value → State → Outcome → State → Prop} {free : Addr → Prop} {Ts : List Cond} {own C : String} {b : Addr} {As rest : List Value} {g : JFrame}
/-- a call that throws -/
theorem tx_runV (S : CallFix p m c cc nL s args Ts own) (hM : MetT l y ws rm Pc Qc mc ms free) (cw : CallW R s args own C index y bytes maxL ret ws rm mc ms n) (hp : PreV s H C b Pc As)
    (hg : g.method = m) (hn : As.length = n) (hsize : g.locals.size = nL) (hstack : g.stack = As.reverse ++ .ref b :: rest) (hW : 2 * g.monitorRoom + (rest.map fun v => v.category).sum ≤ 8) (hdg : decode cc g.pc = .ok (.invokevirtual index, 3)) (hf : cells + mc ≤ R.cells ∧ slots + ms ≤ R.slots)
    {T : State} (hT : T.heap = H) (X : Stand p l e R s m args below meth c T locs cells slots) :
    ∃ (x : Addr) (st₀ t T' : State) (L : List Loc), st₀.heap = H ∧ s.WarmedH st₀.vm ∧ Stand p l e R s m args below meth c T' (locs ++ L) (cells + mc) (slots + ms) ∧ (∀ q ∈ L, free q.base) ∧ T'.heap = t.heap ∧ T'.vm = t.vm ∧ Qc (Value.ref b :: As).toArray st₀ (.threw x) t ∧
      Steps p.tables e below (T.setTop g) ((T'.setTop { g with stack := rest }).pushFrame (.throwing x)) := by
  obtain ⟨⟨hrc, hrs, hfr, hlo, hws, hcw, hcode, hini, hy, hlen, hl⟩, hin, hse⟩ := cw
  have hK : BackT l R p e below s args y 3 8 (PreOf R mc ms Pc) (tx_Po Qc mc ms free) := tx_back (bytes := bytes) (maxL := maxL) (ret := ret) hM hp.1 hrc hrs hfr hlo hws hcw (fun a' U hW => word_at hW (Or.inl (by first | rfl | simp [Cond.onTables, Cond.keeps, Cond.steady])) hini)
  obtain ⟨hx, hb, hml, ho, -⟩ := S
  obtain ⟨-, ⟨cellB, hcB, hoB, hclB⟩, hPc⟩ := hp
  obtain ⟨mk, mM, hnm, hmM, hst, hab⟩ := Cond.instanceMethod_spec hin
  obtain ⟨mM', cM, hmM', -, -, -, -, -, -, hsig⟩ := Cond.code_spec hnm hcode
  cases hmM.symm.trans hmM'
  obtain ⟨c2, r2, m2, q1, q2, q3, q4, kP, hkP, hkPi⟩ := Cond.selects_spec hse
  cases hclB.symm.trans q1
  cases (State.methodFound?_of_named hnm hy).symm.trans q2
  cases hnm.symm.trans q3
  have hsel : selectMethod e.platform s.vm cellB.cls mk = .method mk := by rw [Launch.admits_selectMethod X.admits]; exact q4
  obtain ⟨vm₁, X₁, hstep⟩ := X.invokevirtual hx ho hl hnm hmM hst hkP hkPi hy (a := b) (cell := cellB) (by rw [hT]; exact hcB) (fun z h => by rw [h] at hoB; cases hoB) hsel hmM hab hkP hkPi (g := g) hg (argsL := As) (rest := rest) (hn.trans (hlen _ hsig)) hstack (by rw [hb]; exact hdg)
  obtain ⟨x, ⟨U', l2, c2, s2⟩, X', ⟨g', mk', t, L, e1, e2, hq, h1, hL, h2, h3⟩, hs⟩ := hK m meth c ⟨T.setVm vm₁, locs, cells, slots⟩ { g with stack := rest } (.invokevirtual index) mk (Value.ref b :: As).toArray X₁ hg (hsize.trans hml.symm) (by rw [hb]; exact hdg) hW (X₁.named hnm) ⟨hf.1, hf.2, hPc (T.setVm vm₁) hT X₁.warmed⟩
  dsimp only [Pt.U, Pt.locs, Pt.cells, Pt.slots] at X' e1 e2 h1 h2 h3 hs
  subst h1; subst h2; subst h3
  exact ⟨x, (T.setVm vm₁).calling g' mk' (Value.ref b :: As).toArray, t, U', L, hT, X₁.warmed, X', hL, e1, e2, hq, hstep _ (fun acts => by rw [doInvoke_state]; exact hs)⟩
/-- it is caught here -/
theorem tx_catch {T' : State} {a : Addr} {ce : Cell} {k b0 b1 h1 h2 : Nat} {rows : List ExceptionTableEntry} (X : Stand p l e R s m args below meth c T' locs cells slots) (hts : ∀ w ∈ lw_g, w.before args s = true) (hown : s.vm.findClass "PurseHouseLaw" = some m.cls) (hna : tx_na s) (hcc : ∀ k, ∃ c, s.vm.findClass (tx_n k) = some c ∧ s.vm.assignable c c = true)
    (hcell : T'.heap[a]? = some ce) (hcl : s.vm.findClass (tx_n k) = some ce.cls) (hvm : ce.vm = .none) (hg : g.method = m)
    (htab : c.exceptionTable.toList = ⟨b0, b1, h1, 13⟩ :: rows) (hk : k = 1 ∨ (k = 2 ∧ rows = [⟨b0, b1, h2, 15⟩])) (hcov : b0 ≤ g.pc ∧ g.pc < b1) :
    ∃ vm', Stand p l e R s m args below meth c (T'.setVm vm') locs cells slots ∧ ∀ target, Steps p.tables e below ((T'.setVm vm').setTop { g with pc := if k = 1 then h1 else h2, stack := [.ref a] }) target → Steps p.tables e below ((T'.setTop g).pushFrame (.throwing a)) target := by
  have hpl : e.platform.magicAccessors = ({} : Platform).magicAccessors := by rw [X.admits.platform]
  have hob : ce.vm.isStatics = false := by rw [hvm]; rfl
  obtain ⟨cc, hcc1, hcc2⟩ := hcc k
  cases Option.some.inj (hcl.symm.trans hcc1)
  have cv : ∀ hh ct, covers ⟨b0, b1, hh, ct⟩ g.pc = true := fun hh ct => by
    simp only [covers, Bool.and_eq_true, decide_eq_true_eq]
    exact hcov
  rcases hk with rfl | ⟨rfl, hr⟩
  · obtain ⟨hend, hk0⟩ := X.catches_of_link hown (x := ⟨b0, b1, h1, 13⟩) (show (13 : Nat) ≠ 0 by decide) (hts _ wd_497) hcl hcc2
    obtain ⟨vm', X', st⟩ := X.caughtThrough a hg hcell hob hk0 [] ⟨b0, b1, h1, 13⟩ rows htab (fun _ h => absurd h List.not_mem_nil) (cv _ _) hend
    refine ⟨vm', X', fun target h => ?_⟩
    rw [X.pushThrowing_eq g a]
    exact st target h
  · obtain ⟨hend, hk0⟩ := X.catches_of_link hown (x := ⟨b0, b1, h2, 15⟩) (show (15 : Nat) ≠ 0 by decide) (hts _ wd_498) hcl hcc2
    obtain ⟨cN, hN, hlN⟩ := Cond.classLink_spec hown (hts _ wd_497) e.platform hpl
    obtain ⟨vm', X', st⟩ := X.caughtThrough a hg hcell hob hk0 [⟨b0, b1, h1, 13⟩] ⟨b0, b1, h2, 15⟩ [] (by rw [htab, hr]; rfl) (fun z hz => by
      rw [List.mem_singleton.mp hz]
      exact Or.inr ⟨show (13 : Nat) ≠ 0 by decide, cN, hlN, hna _ _ hcl hN⟩) (cv _ _) hend
    refine ⟨vm', X', fun target h => ?_⟩
    rw [X.pushThrowing_eq g a]
    exact st target h
end TXR
section TXW
variable {p : Program} {l : Launch} {e : Env} {R : Room} {s : State} {m : MethodId} {args : Array Value} {below : List Frame} {meth : Method} {c : Code} {H : Heap} {locs : List Loc} {cells slots : Nat} {Q : State → Prop}
variable {cc : ByteArray} {pc : Nat} {ls : Array Slot} {rest As : List Value} {L0 : Nat} {e0 : Nat → Nat} {D : va_G} {tys : List (ClassId × FieldType)} {M : mo_M}
theorem tx_preV (hok : mo_ok L0 e0 D vwCl tys s M H locs) (hq : tq L0 s) {b : Nat} {fs : List Value} (he : M b = some (.inr (0, fs))) (As : List Value) : PreV s H "PurseHouse" b (va_Pc (.ref b :: As) (fun U => mo_B L0 e0 D vwCl tys M U ∧ tq L0 U)) As := by
  obtain ⟨h1, h2, h3⟩ := mo_preV hok he rfl As
  refine ⟨fun a U g mk q => ?_, h2, fun U hU hW => ?_⟩
  · obtain ⟨q1, q2⟩ := h1 a U g mk ⟨q.1, q.2.1⟩
    exact ⟨q1, q2, tq_mv (s := U) (U := U.calling g mk a) (State.WarmedH.refl U) (fun _ _ _ => rfl) q.2.2⟩
  · obtain ⟨q1, q2⟩ := h3 U hU hW
    exact ⟨q1, q2, tq_mv hW (fun x hx hn => by rw [hU]; exact hok.2.2.2.2.1 x hx hn) hq⟩
theorem tx_W {K : Nat → mo_M → Prop} {y : MethodName} {bytes : ByteArray} {maxL nL n index b h1 h2 b0 b1 : Nat} {ret : Option FieldType} {ws : List Cond} {rm : Room} {rows : List ExceptionTableEntry} {fs : List Value} {st0 : List Value} (S : CallFix p m c cc nL s args lw_g "PurseHouseLaw") (hM : MetT l y ws rm (va_Pc (.ref b :: As) (fun U => mo_B L0 e0 D vwCl tys M U ∧ tq L0 U)) (tx_Q L0 e0 D vwCl tys K) 1 6 (fun q => L0 ≤ q))
    (cw : CallW R s args "PurseHouseLaw" "PurseHouse" index y bytes maxL ret ws rm 1 6 n) (hok : mo_ok L0 e0 D vwCl tys s M H locs) (hq : tq L0 s) (he : M b = some (.inr (0, fs))) (hn : As.length = n) (hsize : ls.size = nL) (hst : st0 = As.reverse ++ .ref b :: rest) (hW : (rest.map fun v => v.category).sum ≤ 8) (hdg : decode cc pc = .ok (.invokevirtual index, 3)) (hf : cells + 1 ≤ R.cells ∧ slots + 6 ≤ R.slots)
    (htab : c.exceptionTable.toList = ⟨b0, b1, h1, 13⟩ :: rows) (hk : ∀ k M1, K k M1 → k = 1 ∨ (k = 2 ∧ rows = [⟨b0, b1, h2, 15⟩])) (hcov : b0 ≤ pc ∧ pc < b1)
    (kk : ∀ (k : Nat) (M1 : mo_M) (H1 : Heap) (locs1 : List Loc) (a : Nat), K k M1 → mo_ok L0 e0 D vwCl tys s M1 H1 locs1 → W p l e R s m args below meth c H1 locs1 (cells + 1) (slots + 6) Q (F0 m (if k = 1 then h1 else h2) ls [.ref a])) : W p l e R s m args below meth c H locs cells slots Q (F0 m pc ls st0) := by
  intro T hT X
  have hcc : ∀ k, ∃ c, s.vm.findClass (tx_n k) = some c ∧ s.vm.assignable c c = true := by
    have go : ∀ {z}, va_Nw (.castable z z) s → ∃ c, s.vm.findClass z = some c ∧ s.vm.assignable c c = true := by
      intro z hz
      obtain ⟨c3, t3, w1, w2, w3⟩ := Cond.castable_spec (args := #[]) (show (Cond.castable z z).holds #[] s none s [] = true from hz)
      cases Option.some.inj (w1.symm.trans w2)
      exact ⟨c3, w1, w3⟩
    intro k
    unfold tx_n
    by_cases z : k = 1
    · rw [if_pos z]; exact go (mo_nw_of hok wn_505 rfl)
    · rw [if_neg z]; exact go (mo_nw_of hok wn_572 rfl)
  obtain ⟨x, st₀, t, T', L, q1, q2, X', hL, e1, e2, ⟨a, k, M1, ce, r1, r2, r3, r4, r5, r6, r7⟩, hs⟩ := tx_runV (g := F0 m pc ls st0) (rest := rest) S hM cw (tx_preV hok hq he As) rfl hn hsize hst (by simpa using hW) hdg hf hT X
  cases r1
  have hal := X'.warmed.alike
  have hcl : s.vm.findClass (tx_n k) = some ce.cls := by rw [← hal.findClass, e2]; exact r6
  obtain ⟨vm', X2, st2⟩ := tx_catch (g := F0 m pc ls rest) (h2 := h2) X' S.2.2.2.2 S.2.2.2.1 hq.2.2.2.2.2.2.2 hcc (by rw [e1]; exact r5) hcl r7 rfl htab (hk k M1 r2) hcov
  obtain ⟨h0, ⟨hK, hE⟩, hI, hS⟩ := hok
  have hS2 : va_S (fun q => L0 ≤ q) s.heap t.heap (locs ++ L) := by
    refine ⟨Nat.le_trans hS.1 (by rw [← q1]; exact r4.1), fun z hz hn => ?_, fun z hz => ?_⟩
    · rw [r4.2 z (by rw [q1]; exact Nat.lt_of_lt_of_le hz hS.1) hn, q1]
      exact hS.2.1 z hz hn
    · rcases List.mem_append.mp hz with w | w
      · exact hS.2.2 z w
      · exact hL z w
  obtain ⟨t2, a1, b1⟩ := kk k M1 t.heap (locs ++ L) x r2 ⟨h0, ⟨hK, hE⟩, r3.2.2, hS2⟩ (T'.setVm vm') e1 X2
  exact ⟨t2, hs.trans (st2 t2 a1), b1⟩
end TXW
end TH5
