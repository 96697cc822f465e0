section LW2
section LWR
variable {p : Program} {l : Launch} {e : Env} {R : Room} {s : State} {m : MethodId} {args : Array Value} {below : List Frame} {meth : Method} {c : Code} {H : Heap} {locs : List Loc} {cells slots : Nat} {Q : State → Prop}
variable {y : MethodName} {bytes cc : ByteArray} {maxL nL mc ms n index : Nat} {ret : Option FieldType} {hh : List (Nat × Nat × Nat × Nat)} {ws ws' : List Cond} {rm : Room} {Pc : Array Value → State → Prop} {Qc : Array Value → State → Outcome → State → Prop} {free : Addr → Prop} {Ts : List Cond} {own : String} {As rest : List Value} {g : JFrame}
/-- what a static call of a method with a table asks -/
abbrev lw_CW (R : Room) (s : State) (args : Array Value) (own : String) (index : Nat) (y : MethodName) (bytes : ByteArray) (maxL : Nat) (ret : Option FieldType) (hh : List (Nat × Nat × Nat × Nat)) (ws : List Cond) (rm : Room) (mc ms n : Nat) : Prop :=
  (rm.cells = mc ∧ rm.slots = ms ∧ rm.frames + 1 ≤ R.frames ∧ 8 + (maxL + 11) + rm.locals ≤ R.locals ∧ (∀ w ∈ ws, ∀ (a' : Array Value) (U : State), s.WarmedH U.vm → w.before a' U = true) ∧ Cond.codeWith y bytes maxL ret hh ∈ ws) ∧
  (Cond.codeWith y bytes maxL ret hh).before args s = true ∧ (Cond.initialized y.cls).before args s = true ∧ (y.cls ≠ "java/lang/invoke/MethodHandle" ∧ y.cls ≠ "java/lang/invoke/VarHandle") ∧ (∀ sig, parseMethodDescriptor y.desc = some sig → n = sig.parameters.length) ∧ (Cond.methodLink own index y).before args s = true ∧ (Cond.static y).before args s = true
theorem lw_cw (n : Nat) (ht : ∀ w ∈ Ts, w.before args s = true) (hG : GoodIn Ts ws) (hw : ws = Cond.codeWith y bytes maxL ret hh :: ws') (hrc : rm.cells = mc) (hrs : rm.slots = ms) (hini : (Cond.initialized y.cls).before args s = true) (hl : (Cond.methodLink own index y).before args s = true) (hst : (Cond.static y).before args s = true)
    (hd : y.cls ≠ "java/lang/invoke/MethodHandle" ∧ y.cls ≠ "java/lang/invoke/VarHandle" ∧ (parseMethodDescriptor y.desc).map (fun d => d.parameters.length) = some n) (hR : rm.frames + 1 ≤ R.frames ∧ 8 + (maxL + 11) + rm.locals ≤ R.locals) : lw_CW R s args own index y bytes maxL ret hh ws rm mc ms n := by
  have hc : Cond.codeWith y bytes maxL ret hh ∈ ws := by rw [hw]; exact List.mem_cons_self
  refine ⟨⟨hrc, hrs, hR.1, hR.2, pay_in ht hG, hc⟩, ht _ (hG _ hc).1, hini, ⟨hd.1, hd.2.1⟩, fun sig h => ?_, hl, hst⟩
  have h2 := hd.2.2
  rw [h] at h2
  exact (Option.some.inj h2).symm
theorem lw_run (S : CallFix p m c cc nL s args Ts own) (hM : Met l y ws rm Pc Qc mc ms free) (cw : lw_CW R s args own index y bytes maxL ret hh ws rm mc ms n) (hp : PreS s H Pc As)
    (hg : g.method = m) (hn : As.length = n) (hsize : g.locals.size = nL) (hstack : g.stack = As.reverse ++ rest) (hW : 2 * g.monitorRoom + (rest.map fun v => v.category).sum ≤ 8) (hdg : decode cc g.pc = .ok (.invokestatic index, 3)) (hf : cells + mc ≤ R.cells ∧ slots + ms ≤ R.slots) :
    va_Run p l e R s m args below meth c H locs cells slots mc ms g rest (Qc As.toArray) (free) := by
  obtain ⟨⟨hrc, hrs, hfr, hlo, hws, hcw⟩, hcode, hini, hy, hlen, hl, hstt⟩ := cw
  have hK : Back l R p e below s args y 3 8 (PreOf R mc ms Pc) (PostOf Qc mc ms free) := va_backW (bytes := bytes) (maxL := maxL) (ret := ret) (hh := hh) hM hp.1 hrc hrs hfr hlo hws hcw (fun a' U hW => word_at hW (Or.inl (by first | rfl | simp [Cond.onTables, Cond.keeps, Cond.steady])) hini)
  obtain ⟨hx, hb, hml, ho, -⟩ := S
  intro T hT X
  obtain ⟨mk, mM, cM, hnm, hmM, -, -, -, -, -, -, hsig⟩ := Cond.codeWith_spec hcode
  have hst : mM.isStatic = true := Cond.static_spec hnm hmM hstt
  obtain ⟨kP, hkP, -⟩ := className_of_methodNamed hnm
  obtain ⟨vm₁, X₁, hstep⟩ := X.invokestatic hx ho hl hnm hmM hst hkP (Cond.initialized_spec (findClass_of_methodNamed hnm) hkP hini) hy (g := g) hg (argsL := As) (rest := rest) (hn.trans (hlen _ hsig)) hstack (by rw [hb]; exact hdg)
  obtain ⟨v, ⟨U', l2, c2, s2⟩, X', ⟨g', mk', t, L, e1, e2, hq, h1, hL, h2, h3⟩, hs⟩ := hK m meth c ⟨T.setVm vm₁, locs, cells, slots⟩ { g with stack := rest } (.invokestatic index) mk As.toArray X₁ hg (hsize.trans hml.symm) (by rw [hb]; exact hdg) hW (X₁.named hnm) ⟨hf.1, hf.2, hp.2 (T.setVm vm₁) hT X₁.warmed⟩
  dsimp only [Pt.U, Pt.locs, Pt.cells, Pt.slots] at X' e1 e2 h1 h2 h3 hs
  subst h1; subst h2; subst h3
  exact ⟨v, (T.setVm vm₁).calling g' mk' As.toArray, t, U', L, hT, X', hL, e1, e2, hq, fun target h => hstep _ fun acts => by rw [doInvoke_state]; exact hs.trans h⟩
/-- what is written in new cells is forgotten -/
theorem lw_fg (hl : ∀ x ∈ locs, s.heap.size ≤ x.base) (k : W p l e R s m args below meth c H [] cells slots Q g) : W p l e R s m args below meth c H locs cells slots Q g := fun T hT X => k T hT (Stand.forget (locs := []) (extra := locs) X hl)
end LWR
section LWP
variable {s : State} {H : Heap} {locs : List Loc} {L0 : Nat} {e0 : Nat → Nat} {D : va_G} {tys : List (ClassId × FieldType)} {M : mo_M}
theorem lw_preS (hok : mo_ok L0 e0 D vwCl tys s M H locs) (hq : tq L0 s) (As : List Value) : PreS s H (va_Pc As (fun U => mo_B L0 e0 D vwCl tys M U ∧ tq L0 U)) As := by
  obtain ⟨h1, h3⟩ := mo_preS hok As
  refine ⟨fun a U g mk q => ?_, fun U hU hW => ?_⟩
  · obtain ⟨q1, q2⟩ := h1 a U g mk ⟨q.1, q.2.1⟩
    exact ⟨q1, q2, tq_mv (s := U) (U := U.calling g mk a) (State.WarmedH.refl U) (fun _ _ _ => rfl) q.2.2⟩
  · obtain ⟨q1, q2⟩ := h3 U hU hW
    exact ⟨q1, q2, tq_mv hW (fun x hx hn => by rw [hU]; exact hok.2.2.2.2.1 x hx hn) hq⟩
def lw_sc (b L L0 : Nat) (xs : Nat → Int32) (U : State) : Prop := va_X b L xs U U.heap ∧ b < U.heap.size ∧ ¬ L0 ≤ b
theorem lw_preC {b L : Nat} {xs : Nat → Int32} (hok : mo_ok L0 e0 D vwCl tys s M H locs) (hX : lw_sc b L L0 xs s) (As : List Value) : PreS s H (va_Pc As (fun U => mo_B L0 e0 D vwCl tys M U ∧ lw_sc b L L0 xs U)) As := by
  obtain ⟨h1, h3⟩ := mo_preS hok As
  refine ⟨fun a U g mk q => ?_, fun U hU hW => ?_⟩
  · obtain ⟨q1, q2⟩ := h1 a U g mk ⟨q.1, q.2.1⟩
    exact ⟨q1, q2, va_X.moved (u := U) (U := U.calling g mk a) (Vm.Alike.refl U.vm) q.2.2.1, q.2.2.2⟩
  · obtain ⟨q1, q2⟩ := h3 U hU hW
    obtain ⟨x1, x2, x3⟩ := hX
    refine ⟨q1, q2, (x1.kept (H1 := U.heap) ?_).moved hW.alike, ?_, x3⟩
    · rw [hU]; exact hok.2.2.2.2.1 b x2 x3
    · rw [hU]; exact Nat.lt_of_lt_of_le x2 hok.2.2.2.1
end LWP
abbrev b_W_cell : ByteArray := method_2_code
def y_W_cell : MethodName := ⟨"PurseHouseLaw", "cell", "([II)I"⟩
def ws_W_cell : List Cond := .code y_W_cell b_W_cell 2 (Option.some Jvm.ClassFile.FieldType.int) :: lw_g
theorem d_W_cell_0 : decode b_W_cell 0 = .ok (.iload_n 1, 1) := by decide +kernel
theorem d_W_cell_1 : decode b_W_cell 1 = .ok (.aload_n 0, 1) := by decide +kernel
theorem d_W_cell_2 : decode b_W_cell 2 = .ok (.arraylength, 1) := by decide +kernel
theorem d_W_cell_3 : decode b_W_cell 3 = .ok (.if_icmp .ge 9, 3) := by decide +kernel
theorem d_W_cell_6 : decode b_W_cell 6 = .ok (.aload_n 0, 1) := by decide +kernel
theorem d_W_cell_7 : decode b_W_cell 7 = .ok (.iload_n 1, 1) := by decide +kernel
theorem d_W_cell_8 : decode b_W_cell 8 = .ok (.iaload, 1) := by decide +kernel
theorem d_W_cell_9 : decode b_W_cell 9 = .ok (.goto 4, 3) := by decide +kernel
theorem d_W_cell_12 : decode b_W_cell 12 = .ok (.iconst 0, 1) := by decide +kernel
theorem d_W_cell_13 : decode b_W_cell 13 = .ok (.ireturn, 1) := by decide +kernel
set_option maxHeartbeats 4000000 in
set_option maxRecDepth 100000 in
theorem cc_W_cell (l : Launch) (L0 : Nat) (D : va_G) {g : Nat → ClassId} {e0 : Nat → Nat} {K : Int32 → mo_M → Prop} {M : mo_M} {b L : Nat} {xs : Nat → Int32} (hL : L ≤ 2561) (hP : K (if L = 0 then 0 else xs 0) M) : Met l y_W_cell ws_W_cell (mo_R 0 0 0 0) (va_Pc [.ref b, .int 0] (fun U => mo_B L0 e0 D vwCl (mo_T g) M U ∧ lw_sc b L L0 xs U)) (mo_Qi L0 e0 D vwCl (mo_T g) K) 0 0 (fun q => L0 ≤ q) := by
  refine Met.ofW (cc := b_W_cell) (maxL := 2) (ret := (Option.some Jvm.ClassFile.FieldType.int)) (by decide +kernel) rfl ?_
  intro p e s m args below meth c s₁ B hml hv
  obtain ⟨hv1, hB0, hX, hbl, hbA⟩ := hv
  have hx := B.exec
  have hb := B.bytes
  have hr := B.returns
  have hlocks := B.notSynchronized
  have hok : mo_ok L0 e0 D vwCl (mo_T g) s M s.heap [] := ⟨hB0.1, hB0.2.1, hB0.2.2, va_S.rf⟩
  have hl := lv_entry ([.ref b, .int 0]) (n := 2) (Nat.le_of_ble_eq_true rfl)
  rw [hv1, lg_entry_eq]
  rw [← hv1]
  generalize (lg_sl [.ref b, .int 0] ++ List.replicate (2 - (lg_sl [.ref b, .int 0]).length) Slot.unset).toArray = ls at hl ⊢
  have hl : lv_has ls 2 [(0, .ref b), (1, .int 0)] := hl
  refine lv_iload_n hx hb d_W_cell_0 rfl (lv_at hl 1 rfl) ?_
  refine lv_aload_n hx hb d_W_cell_1 rfl (lv_at hl 0 rfl) ?_
  refine va_slen (A := fun q => L0 ≤ q) hx hb hX hbl hbA hok.2.2.2 d_W_cell_2 ?_
  refine lv_icmp_ge (tgt := 12) hx hb d_W_cell_3 (by decide) (fun hc => ?_) (fun hc => ?_)
  · have hc' : nI L ≤ nI 0 := hc
    rw [nI_leI (by omega) (by decide)] at hc'
    have h0 : L = 0 := by omega
    rw [if_pos h0] at hP
    refine lv_iconst (v := 0) hx hb d_W_cell_12 (by decide) ?_
    exact mo_iret hx hb hr hlocks hok hP d_W_cell_13
  · have hc' : ¬ nI L ≤ nI 0 := hc
    rw [nI_leI (by omega) (by decide)] at hc'
    rw [if_neg (by omega)] at hP
    refine lv_aload_n hx hb d_W_cell_6 rfl (lv_at hl 0 rfl) ?_
    refine lv_iload_n hx hb d_W_cell_7 rfl (lv_at hl 1 rfl) ?_
    refine va_sld (A := fun q => L0 ≤ q) hx hb hX hbl hbA hok.2.2.2 (nI_in (c := 0) (N := L) (by omega) (by omega)) d_W_cell_8 ?_
    refine lv_goto (tgt := 13) hx hb d_W_cell_9 (by decide) ?_
    exact mo_iret hx hb hr hlocks hok (v := xs (nI 0).toNatClampNeg) (by rw [nI_clamp (by decide)]; exact hP) d_W_cell_13
end LW2
