/-! The map kit (mine): the memory that a walk may touch is a map from some addresses to contents (mo_M). All its cells lie at L0 or above; a contract speaks of ONE such map, so no call needs a frame. Over the kit's pools (va_pl). -/
abbrev mo_M : Type := Nat → Option va_E
def mo_in (L0 : Nat) (D : va_G) (cl : List vw_C) (M : mo_M) (H : Heap) : Prop := ∃ (L : List Nat) (f : Nat → va_E), (∀ a e, M a = some e → a ∈ L ∧ f a = e) ∧ va_P D cl (va_pl L f) H ∧ va_D (fun q => L0 ≤ q) (va_pl L f)
def mo_AA (ty : FieldType) (U : State) : Prop := (Cond.arrayOver (.array ty)).before #[] U = true
theorem mo_AAm {ty : FieldType} {u U : State} (hvm : u.vm.Alike U.vm) (h : mo_AA ty u) : mo_AA ty U := over_moved (a := #[]) (a' := #[]) hvm h
def mo_X (mi : Nat) (U : State) : Prop := (∀ w ∈ lw_tbl, lw_nk w = true → va_Nw w U) ∧ va_AO "PurseHouse$Kiosk" U ∧ va_AO "java/lang/Object" U ∧ va_Mi "[Ljava/lang/Object;" mi U ∧ mo_AA .int U ∧ mo_AA .long U
/-- what old cells and the tables say beside the words -/
def mo_E (L0 : Nat) (e0 : Nat → Nat) (U : State) (H : Heap) : Prop := mo_X (e0 1) U ∧ va_Z "java/util/ArrayList" "DEFAULTCAPACITY_EMPTY_ELEMENTDATA" "[Ljava/lang/Object;" (.ref (e0 0)) (fun q => L0 ≤ q) U H ∧ va_T (.object "java/lang/Object") (e0 0) 0 (fun _ => .null) (fun q => L0 ≤ q) U H
theorem mo_nkw {s U : State} (hW : s.WarmedH U.vm) {w : Cond} (hk : lw_nk w = true) (h : va_Nw w s) : va_Nw w U := by
  cases w <;> first | exact va_Nw.warmM hW h | exact va_Nw.warmF hW h | exact va_Nw.warmC hW h | exact va_Nw.warmD hW h | (exact absurd hk (by simp [lw_nk]))
theorem mo_nks {s U : State} (hW : s.vm = U.vm) {w : Cond} (hk : lw_nk w = true) (h : va_Nw w s) : va_Nw w U := by
  cases w <;> first | exact va_Nw.same rfl hW h | exact absurd hk (by simp [lw_nk])
theorem mo_Xw {mi : Nat} {s U : State} (hW : s.WarmedH U.vm) (h : mo_X mi s) : mo_X mi U := by
  obtain ⟨h1, h2, h3, h4, h5, h6⟩ := h
  exact ⟨fun w hw hk => mo_nkw hW hk (h1 w hw hk), h2.moved hW.alike, h3.moved hW.alike, h4.moved hW.alike, mo_AAm hW.alike h5, mo_AAm hW.alike h6⟩
theorem mo_Xs {mi : Nat} {s U : State} (hW : s.vm = U.vm) (h : mo_X mi s) : mo_X mi U := by
  obtain ⟨h1, h2, h3, h4, h5, h6⟩ := h
  have ha : s.vm.Alike U.vm := by rw [hW]; exact Vm.Alike.refl _
  exact ⟨fun w hw hk => mo_nks hW hk (h1 w hw hk), h2.moved ha, h3.moved ha, h4.moved ha, mo_AAm ha h5, mo_AAm ha h6⟩
theorem mo_Ew {L0 : Nat} {e0 : Nat → Nat} {s U : State} {H : Heap} {locs : List Loc} (hW : s.WarmedH U.vm) (hS : va_S (fun q => L0 ≤ q) s.heap H locs) (h : mo_E L0 e0 s s.heap) : mo_E L0 e0 U H := ⟨mo_Xw hW h.1, (h.2.1.moved hW.alike).kept hS.2.1, (h.2.2.moved hW.alike).kept hS.2.1⟩
theorem mo_Es {L0 : Nat} {e0 : Nat → Nat} {s U : State} {H : Heap} (hW : s.vm = U.vm) (h : mo_E L0 e0 s H) : mo_E L0 e0 U H := by
  have ha : s.vm.Alike U.vm := by rw [hW]; exact Vm.Alike.refl _
  exact ⟨mo_Xs hW h.1, h.2.1.moved ha, h.2.2.moved ha⟩
def mo_B (L0 : Nat) (e0 : Nat → Nat) (D : va_G) (cl : List vw_C) (tys : List (ClassId × FieldType)) (M : mo_M) (U : State) : Prop := L0 ≤ U.heap.size ∧ (va_K D cl tys U ∧ mo_E L0 e0 U U.heap) ∧ mo_in L0 D cl M U.heap
def mo_ok (L0 : Nat) (e0 : Nat → Nat) (D : va_G) (cl : List vw_C) (tys : List (ClassId × FieldType)) (s : State) (M : mo_M) (H : Heap) (locs : List Loc) : Prop := L0 ≤ s.heap.size ∧ (va_K D cl tys s ∧ mo_E L0 e0 s s.heap) ∧ mo_in L0 D cl M H ∧ va_S (fun q => L0 ≤ q) s.heap H locs
theorem mo_up {L : List Nat} {f : Nat → va_E} {M : mo_M} {a : Nat} {e' : va_E} (h : ∀ a e, M a = some e → a ∈ L ∧ f a = e) (ha : a ∈ L) : ∀ b e, va_up M a (some e') b = some e → b ∈ L ∧ va_up f a e' b = e := by
  intro b e hb
  by_cases q : b = a
  · subst q
    rw [va_up_self] at hb
    cases hb
    exact ⟨ha, va_up_self _ _ _⟩
  · rw [va_up_ne _ _ q] at hb
    obtain ⟨h1, h2⟩ := h b e hb
    exact ⟨h1, by rw [va_up_ne _ _ q]; exact h2⟩
theorem mo_nw {L : List Nat} {f : Nat → va_E} {M : mo_M} {a : Nat} {e' : va_E} (h : ∀ a e, M a = some e → a ∈ L ∧ f a = e) : ∀ b e, va_up M a (some e') b = some e → b ∈ L ++ [a] ∧ va_up f a e' b = e := by
  intro b e hb
  by_cases q : b = a
  · subst q
    rw [va_up_self] at hb
    cases hb
    exact ⟨List.mem_append_right _ List.mem_cons_self, va_up_self _ _ _⟩
  · rw [va_up_ne _ _ q] at hb
    obtain ⟨h1, h2⟩ := h b e hb
    exact ⟨List.mem_append_left _ h1, by rw [va_up_ne _ _ q]; exact h2⟩
theorem mo_at {D : va_G} {cl : List vw_C} {L : List Nat} {f : Nat → va_E} {a : Nat} {e : va_E} (h1 : a ∈ L) (h2 : f a = e) : ∃ k : Nat, (va_pl L f)[k]? = some (a, e) := by
  obtain ⟨k, hk⟩ := va_pl_get (X := []) (f := f) h1
  exact ⟨k, by rw [← h2]; exact hk⟩
theorem mo_setP {D : va_G} {cl : List vw_C} {A : Nat → Prop} {L : List Nat} {f : Nat → va_E} {a k : Nat} {e e' : va_E} {H1 : Heap} (hD : va_D A (va_pl L f)) (h1 : a ∈ L) (h2 : f a = e) (hk : (va_pl L f)[k]? = some (a, e)) (hP : va_P D cl ((va_pl L f).set k (a, e')) H1) : va_P D cl (va_pl L (va_up f a e')) H1 := by
  have := va_pl_set (X := []) (e := e') hD h1 (by rw [h2]; exact hk)
  rw [List.nil_append, List.nil_append] at this
  rw [← this]
  exact hP
theorem mo_setD {A : Nat → Prop} {L : List Nat} {f : Nat → va_E} {a k : Nat} {e e' : va_E} (hD : va_D A (va_pl L f)) (h1 : a ∈ L) (h2 : f a = e) (hk : (va_pl L f)[k]? = some (a, e)) : va_D A (va_pl L (va_up f a e')) := by
  have := va_pl_set (X := []) (e := e') hD h1 (by rw [h2]; exact hk)
  rw [List.nil_append, List.nil_append] at this
  rw [← this]
  exact hD.set hk
theorem mo_lt {L0 : Nat} {D : va_G} {cl : List vw_C} {M : mo_M} {H : Heap} (h : mo_in L0 D cl M H) {a : Nat} {e : va_E} (ha : M a = some e) : L0 ≤ a ∧ a < H.size := by
  obtain ⟨L, f, hM, hP, hD⟩ := h
  obtain ⟨h1, h2⟩ := hM a e ha
  obtain ⟨k, hk⟩ := mo_at (D := D) (cl := cl) h1 h2
  exact ⟨hD.2 k _ hk, (hP k _ hk).lt⟩
theorem mo_has {L0 : Nat} {D : va_G} {cl : List vw_C} {M : mo_M} {H : Heap} (h : mo_in L0 D cl M H) {a : Nat} {e : va_E} (ha : M a = some e) : va_at D cl (a, e) H := by
  obtain ⟨L, f, hM, hP, hD⟩ := h
  obtain ⟨h1, h2⟩ := hM a e ha
  obtain ⟨k, hk⟩ := mo_at (D := D) (cl := cl) h1 h2
  exact hP k _ hk
/-- one cell is written -/
theorem mo_wr {L0 : Nat} {D : va_G} {cl : List vw_C} {M : mo_M} {H H1 : Heap} {a : Nat} {e e' : va_E} (h : mo_in L0 D cl M H) (ha : M a = some e) (he : va_at D cl (a, e') H1) (oq : ∀ q : Nat, q ≠ a → H1[q]? = H[q]?) : mo_in L0 D cl (va_up M a (some e')) H1 := by
  obtain ⟨L, f, hM, hP, hD⟩ := h
  obtain ⟨h1, h2⟩ := hM a e ha
  obtain ⟨k, hk⟩ := mo_at (D := D) (cl := cl) h1 h2
  exact ⟨L, va_up f a e', mo_up hM h1, mo_setP hD h1 h2 hk (hP.set hD hk he oq), mo_setD hD h1 h2 hk⟩
/-- a cell is new -/
theorem mo_cr {L0 : Nat} {D : va_G} {cl : List vw_C} {M : mo_M} {H H1 : Heap} {e' : va_E} (h : mo_in L0 D cl M H) (h0 : L0 ≤ H.size) (he : va_at D cl (H.size, e') H1) (oq : ∀ q : Nat, q < H.size → H1[q]? = H[q]?) : mo_in L0 D cl (va_up M H.size (some e')) H1 := by
  obtain ⟨L, f, hM, hP, hD⟩ := h
  have hn : H.size ∉ L := va_pl_fresh (X := []) hP (Nat.le_refl _)
  refine ⟨L ++ [H.size], va_up f H.size e', mo_nw hM, ?_, ?_⟩
  · rw [← va_pl_push hn]
    refine va_P.app (hP.kept (fun k x hx => oq x.1 ((hP k x hx).lt))) (fun k x hx => ?_)
    have hz : k < 1 := (List.getElem?_eq_some_iff.mp hx).1
    rw [show k = 0 by omega] at hx
    cases hx
    exact he
  · rw [← va_pl_push hn]
    exact hD.push hP rfl h0
theorem mo_fresh {L0 : Nat} {D : va_G} {cl : List vw_C} {M : mo_M} {H : Heap} (h : mo_in L0 D cl M H) : M H.size = none := by
  cases q : M H.size with
  | none => rfl
  | some e => exact absurd (mo_lt h q).2 (Nat.lt_irrefl _)
theorem mo_crS {L0 : Nat} {H0 H H1 : Heap} {locs : List Loc} (hS : va_S (fun q => L0 ≤ q) H0 H locs) (z : H.size ≤ H1.size) (oq : ∀ q : Nat, q < H.size → H1[q]? = H[q]?) : va_S (fun q => L0 ≤ q) H0 H1 locs :=
  ⟨Nat.le_trans hS.1 z, fun x h1 h2 => (oq x (Nat.lt_of_lt_of_le h1 hS.1)).trans (hS.2.1 x h1 h2), hS.2.2⟩
section MOR
variable {p : Program} {l : Launch} {e : Env} {R : Room} {s : State} {m : MethodId} {args : Array Value} {below : List Frame} {meth : Method} {c : Code} {H : Heap} {locs : List Loc} {cells slots : Nat} {Q : State → Prop}
variable {cc : ByteArray} {pc : Nat} {ls : Array Slot} {rest : List Value} {L0 : Nat} {e0 : Nat → Nat} {D : va_G} {cl : List vw_C} {a : Nat} {tys : List (ClassId × FieldType)} {M : mo_M}
theorem mo_get (hexec : p.tables.exec = Jvm.exec) (hb : c.code = cc) {own ref C : String} {T : u_T} {N ci index : Nat} {Ts : List Cond} (hts : ∀ w ∈ Ts, w.before args s = true) (hin : ∀ w ∈ u_ws C T N, w ∈ Ts) (hown : s.vm.findClass own = some m.cls) (hok : mo_ok L0 e0 D cl tys s M H locs) {fs : List Value} (he : M a = some (.inr (ci, fs))) (hc : cl[ci]? = some (C, T, N)) (k : Nat) (hk : k < N) (hlink : (Cond.fieldLink own index ref (T k).2.1 (T k).2.2.1).before args s = true) (hsame : ∀ x, s.fieldFound? (T k).1 (T k).2.1 (T k).2.2.1 = some x → s.fieldFound? ref (T k).2.1 (T k).2.2.1 = some x) {v : Value} (hv : fs[k]? = some v) (hdg : decode cc pc = .ok (.getfield index, 3))
    (kk : W p l e R s m args below meth c H locs cells slots Q (F0 m (pc + 3) ls (v :: rest))) : W p l e R s m args below meth c H locs cells slots Q (F0 m pc ls (.ref a :: rest)) := by
  obtain ⟨-, ⟨hK, hE⟩, ⟨L, f, hM, hP, hD⟩, hS⟩ := hok
  obtain ⟨h1, h2⟩ := hM _ _ he
  obtain ⟨q0, hq⟩ := mo_at (D := D) (cl := cl) h1 h2
  exact va_get hexec hb hts hin hown hK hP q0 hq hc k hk hlink hsame hv hdg kk
theorem mo_getN (hexec : p.tables.exec = Jvm.exec) (hb : c.code = cc) {own ref C host : String} {T : u_T} {N ci index : Nat} {Ts : List Cond} (hts : ∀ w ∈ Ts, w.before args s = true) (hin : ∀ w ∈ u_ws C T N, w ∈ Ts) (hown : s.vm.findClass own = some m.cls) (hok : mo_ok L0 e0 D cl tys s M H locs) {fs : List Value} (he : M a = some (.inr (ci, fs))) (hc : cl[ci]? = some (C, T, N)) (k : Nat) (hk : k < N) (hlink : (Cond.fieldLinkNest own index ref (T k).2.1 (T k).2.2.1 host).before args s = true) (hsame : ∀ x, s.fieldFound? (T k).1 (T k).2.1 (T k).2.2.1 = some x → s.fieldFound? ref (T k).2.1 (T k).2.2.1 = some x) {v : Value} (hv : fs[k]? = some v) (hdg : decode cc pc = .ok (.getfield index, 3))
    (kk : W p l e R s m args below meth c H locs cells slots Q (F0 m (pc + 3) ls (v :: rest))) : W p l e R s m args below meth c H locs cells slots Q (F0 m pc ls (.ref a :: rest)) := by
  obtain ⟨-, ⟨hK, hE⟩, ⟨L, f, hM, hP, hD⟩, hS⟩ := hok
  obtain ⟨h1, h2⟩ := hM _ _ he
  obtain ⟨q0, hq⟩ := mo_at (D := D) (cl := cl) h1 h2
  exact va_getN hexec hb hts hin hown hK hP q0 hq hc k hk hlink hsame hv hdg kk
theorem mo_put (hexec : p.tables.exec = Jvm.exec) (hb : c.code = cc) {own ref C : String} {T : u_T} {N ci index : Nat} {Ts : List Cond} (hts : ∀ w ∈ Ts, w.before args s = true) (hin : ∀ w ∈ u_ws C T N, w ∈ Ts) (ty0 : Nat → FieldType) (hty : ∀ k, k < N → parseFieldDescriptor (T k).2.2.1 = some (ty0 k)) (hnm : ∀ a, a < N → ∀ b, b < N → a ≠ b → (T a).2.1 ≠ (T b).2.1) (hown : s.vm.findClass own = some m.cls) (hok : mo_ok L0 e0 D cl tys s M H locs) {fs : List Value} (he : M a = some (.inr (ci, fs))) (hc : cl[ci]? = some (C, T, N)) (k : Nat) (hk : k < N) (hlink : (Cond.fieldLink own index ref (T k).2.1 (T k).2.2.1).before args s = true) (hsame : ∀ x, s.fieldFound? (T k).1 (T k).2.1 (T k).2.2.1 = some x → s.fieldFound? ref (T k).2.1 (T k).2.2.1 = some x) (hfin : (T k).2.2.2 = false) {ty : FieldType} {v : Value} (hd : parseFieldDescriptor (T k).2.2.1 = some ty) (hn : narrow ty v = v) (hfit : fits ty v = true) (hl : k < fs.length)
    (hdg : decode cc pc = .ok (.putfield index, 3)) (kk : ∀ (H1 : Heap) (locs1 : List Loc), mo_ok L0 e0 D cl tys s (va_up M a (some (.inr (ci, fs.set k v)))) H1 locs1 → W p l e R s m args below meth c H1 locs1 cells slots Q (F0 m (pc + 3) ls rest)) : W p l e R s m args below meth c H locs cells slots Q (F0 m pc ls (v :: .ref a :: rest)) := by
  obtain ⟨h0, ⟨hK, hE⟩, ⟨L, f, hM, hP, hD⟩, hS⟩ := hok
  obtain ⟨h1, h2⟩ := hM _ _ he
  obtain ⟨q0, hq⟩ := mo_at (D := D) (cl := cl) h1 h2
  exact va_put hexec hb hts hin ty0 hty hnm hown hK hP hD hS q0 hq hc k hk hlink hsame hfin hd hn hfit hl hdg (fun H1 locs1 hP1 hD1 hS1 => kk H1 locs1 ⟨h0, ⟨hK, hE⟩, ⟨L, _, mo_up hM h1, mo_setP hD h1 h2 hq hP1, mo_setD hD h1 h2 hq⟩, hS1⟩)
theorem mo_putF (hexec : p.tables.exec = Jvm.exec) (hb : c.code = cc) {own ref C : String} {T : u_T} {N ci index : Nat} {Ts : List Cond} (hts : ∀ w ∈ Ts, w.before args s = true) (hin : ∀ w ∈ u_ws C T N, w ∈ Ts) (ty0 : Nat → FieldType) (hty : ∀ k, k < N → parseFieldDescriptor (T k).2.2.1 = some (ty0 k)) (hnm : ∀ a, a < N → ∀ b, b < N → a ≠ b → (T a).2.1 ≠ (T b).2.1) (hown : s.vm.findClass own = some m.cls) (hok : mo_ok L0 e0 D cl tys s M H locs) {fs : List Value} (he : M a = some (.inr (ci, fs))) (hc : cl[ci]? = some (C, T, N)) (k : Nat) (hk : k < N) (hlink : (Cond.fieldLink own index ref (T k).2.1 (T k).2.2.1).before args s = true) (hsame : ∀ x, s.fieldFound? (T k).1 (T k).2.1 (T k).2.2.1 = some x → s.fieldFound? ref (T k).2.1 (T k).2.2.1 = some x) (hfin : (T k).2.2.2 = true) (hin2 : meth.name = "<init>") (hdecl : (T k).1 = own) {ty : FieldType} {v : Value} (hd : parseFieldDescriptor (T k).2.2.1 = some ty) (hn : narrow ty v = v) (hfit : fits ty v = true) (hl : k < fs.length)
    (hdg : decode cc pc = .ok (.putfield index, 3)) (kk : ∀ (H1 : Heap) (locs1 : List Loc), mo_ok L0 e0 D cl tys s (va_up M a (some (.inr (ci, fs.set k v)))) H1 locs1 → W p l e R s m args below meth c H1 locs1 cells slots Q (F0 m (pc + 3) ls rest)) : W p l e R s m args below meth c H locs cells slots Q (F0 m pc ls (v :: .ref a :: rest)) := by
  obtain ⟨h0, ⟨hK, hE⟩, ⟨L, f, hM, hP, hD⟩, hS⟩ := hok
  obtain ⟨h1, h2⟩ := hM _ _ he
  obtain ⟨q0, hq⟩ := mo_at (D := D) (cl := cl) h1 h2
  exact va_putF hexec hb hts hin ty0 hty hnm hown hK hP hD hS q0 hq hc k hk hlink hsame hfin hin2 hdecl hd hn hfit hl hdg (fun H1 locs1 hP1 hD1 hS1 => kk H1 locs1 ⟨h0, ⟨hK, hE⟩, ⟨L, _, mo_up hM h1, mo_setP hD h1 h2 hq hP1, mo_setD hD h1 h2 hq⟩, hS1⟩)
theorem mo_iald (hexec : p.tables.exec = Jvm.exec) (hb : c.code = cc) (hok : mo_ok L0 e0 D cl tys s M H locs) (t0 : Nat) {cA : ClassId} {n : Nat} {f : Nat → Int32} (ha : M a = some (.inl (cA, n, .inl f))) (ht : tys[t0]? = some (cA, .int)) {i : Int32} (hin : vp_in i n) (hdg : decode cc pc = .ok (.iaload, 1))
    (kk : W p l e R s m args below meth c H locs cells slots Q (F0 m (pc + 1) ls (.int (f i.toNatClampNeg) :: rest))) : W p l e R s m args below meth c H locs cells slots Q (F0 m pc ls (.int i :: .ref a :: rest)) := by
  obtain ⟨h0, ⟨hK, hE⟩, ⟨L, f, hM, hP, hD⟩, hS⟩ := hok
  obtain ⟨h1, h2⟩ := hM _ _ ha
  obtain ⟨q0, hq⟩ := mo_at (D := D) (cl := cl) h1 h2
  exact va_iald hexec hb hK hP q0 t0 hq ht hin hdg kk
theorem mo_zald (hexec : p.tables.exec = Jvm.exec) (hb : c.code = cc) (hok : mo_ok L0 e0 D cl tys s M H locs) (t0 : Nat) {cA : ClassId} {n : Nat} {f : Nat → Int32} (ha : M a = some (.inl (cA, n, .inl f))) (ht : tys[t0]? = some (cA, .boolean)) {i : Int32} (hin : vp_in i n) (hdg : decode cc pc = .ok (.baload, 1))
    (kk : W p l e R s m args below meth c H locs cells slots Q (F0 m (pc + 1) ls (.int (f i.toNatClampNeg) :: rest))) : W p l e R s m args below meth c H locs cells slots Q (F0 m pc ls (.int i :: .ref a :: rest)) := by
  obtain ⟨h0, ⟨hK, hE⟩, ⟨L, f, hM, hP, hD⟩, hS⟩ := hok
  obtain ⟨h1, h2⟩ := hM _ _ ha
  obtain ⟨q0, hq⟩ := mo_at (D := D) (cl := cl) h1 h2
  exact va_zald hexec hb hK hP q0 t0 hq ht hin hdg kk
theorem mo_lald (hexec : p.tables.exec = Jvm.exec) (hb : c.code = cc) (hok : mo_ok L0 e0 D cl tys s M H locs) (t0 : Nat) {cA : ClassId} {n : Nat} {f : Nat → Int64} (ha : M a = some (.inl (cA, n, .inr (.inl f)))) (ht : tys[t0]? = some (cA, .long)) {i : Int32} (hin : vp_in i n) (hdg : decode cc pc = .ok (.laload, 1))
    (kk : W p l e R s m args below meth c H locs cells slots Q (F0 m (pc + 1) ls (.long (f i.toNatClampNeg) :: rest))) : W p l e R s m args below meth c H locs cells slots Q (F0 m pc ls (.int i :: .ref a :: rest)) := by
  obtain ⟨h0, ⟨hK, hE⟩, ⟨L, f, hM, hP, hD⟩, hS⟩ := hok
  obtain ⟨h1, h2⟩ := hM _ _ ha
  obtain ⟨q0, hq⟩ := mo_at (D := D) (cl := cl) h1 h2
  exact va_lald hexec hb hK hP q0 t0 hq ht hin hdg kk
/-- a reference out of an array of references of any kind -/
theorem mo_aald (hexec : p.tables.exec = Jvm.exec) (hb : c.code = cc) (hok : mo_ok L0 e0 D cl tys s M H locs) (t0 : Nat) {cA : ClassId} {ty : FieldType} (hty : ty.isReference = true) {n : Nat} {f : Nat → Option Nat} (ha : M a = some (.inl (cA, n, .inr (.inr (.inr (.inr f)))))) (ht : tys[t0]? = some (cA, ty)) {i : Int32} (hin : vp_in i n) (hdg : decode cc pc = .ok (.aaload, 1))
    (kk : W p l e R s m args below meth c H locs cells slots Q (F0 m (pc + 1) ls (va_rf (f i.toNatClampNeg) :: rest))) : W p l e R s m args below meth c H locs cells slots Q (F0 m pc ls (.int i :: .ref a :: rest)) := by
  obtain ⟨h0, ⟨hK, hE⟩, hI, hS⟩ := hok
  have hat := mo_has hI ha
  have hlt : i.toNatClampNeg < n := Nat.not_le.mp fun q => hin (Or.inr q)
  exact W.aald (v := va_rf (f i.toNatClampNeg)) (ty := ty) hexec hb hat ((hK.2 t0 _ ht).1 n (fun j => va_rf (f j))) hty (fun q => by cases q) (by show ¬ (i < 0 ∨ (arrV _ _ _).slots.size ≤ _); rw [arrV_size]; exact hin) (by show (arrV _ _ _).slots[_]? = _; rw [arrV_read _ _ hlt]) rfl rfl hdg kk
theorem mo_iast (hexec : p.tables.exec = Jvm.exec) (hb : c.code = cc) (hok : mo_ok L0 e0 D cl tys s M H locs) (t0 : Nat) {cA : ClassId} {n : Nat} {f : Nat → Int32} (ha : M a = some (.inl (cA, n, .inl f))) (ht : tys[t0]? = some (cA, .int)) {i : Int32} {x : Int32} (hin : vp_in i n) (hdg : decode cc pc = .ok (.iastore, 1))
    (kk : ∀ (H1 : Heap) (locs1 : List Loc), mo_ok L0 e0 D cl tys s (va_up M a (some (.inl (cA, n, .inl (upd f i.toNatClampNeg x))))) H1 locs1 → W p l e R s m args below meth c H1 locs1 cells slots Q (F0 m (pc + 1) ls rest)) : W p l e R s m args below meth c H locs cells slots Q (F0 m pc ls (.int x :: .int i :: .ref a :: rest)) := by
  obtain ⟨h0, ⟨hK, hE⟩, ⟨L, f, hM, hP, hD⟩, hS⟩ := hok
  obtain ⟨h1, h2⟩ := hM _ _ ha
  obtain ⟨q0, hq⟩ := mo_at (D := D) (cl := cl) h1 h2
  exact va_iast hexec hb hK hP hD hS q0 t0 hq ht hin hdg (fun H1 locs1 hP1 hD1 hS1 => kk H1 locs1 ⟨h0, ⟨hK, hE⟩, ⟨L, _, mo_up hM h1, mo_setP hD h1 h2 hq hP1, mo_setD hD h1 h2 hq⟩, hS1⟩)
theorem mo_zast (hexec : p.tables.exec = Jvm.exec) (hb : c.code = cc) (hok : mo_ok L0 e0 D cl tys s M H locs) (t0 : Nat) {cA : ClassId} {n : Nat} {f : Nat → Int32} (ha : M a = some (.inl (cA, n, .inl f))) (ht : tys[t0]? = some (cA, .boolean)) {i : Int32} {x : Int32} (hin : vp_in i n) (hdg : decode cc pc = .ok (.bastore, 1))
    (kk : ∀ (H1 : Heap) (locs1 : List Loc), mo_ok L0 e0 D cl tys s (va_up M a (some (.inl (cA, n, .inl (upd f i.toNatClampNeg (vp_nar .boolean x)))))) H1 locs1 → W p l e R s m args below meth c H1 locs1 cells slots Q (F0 m (pc + 1) ls rest)) : W p l e R s m args below meth c H locs cells slots Q (F0 m pc ls (.int x :: .int i :: .ref a :: rest)) := by
  obtain ⟨h0, ⟨hK, hE⟩, ⟨L, f, hM, hP, hD⟩, hS⟩ := hok
  obtain ⟨h1, h2⟩ := hM _ _ ha
  obtain ⟨q0, hq⟩ := mo_at (D := D) (cl := cl) h1 h2
  exact va_zast hexec hb hK hP hD hS q0 t0 hq ht hin hdg (fun H1 locs1 hP1 hD1 hS1 => kk H1 locs1 ⟨h0, ⟨hK, hE⟩, ⟨L, _, mo_up hM h1, mo_setP hD h1 h2 hq hP1, mo_setD hD h1 h2 hq⟩, hS1⟩)
theorem mo_last (hexec : p.tables.exec = Jvm.exec) (hb : c.code = cc) (hok : mo_ok L0 e0 D cl tys s M H locs) (t0 : Nat) {cA : ClassId} {n : Nat} {f : Nat → Int64} (ha : M a = some (.inl (cA, n, .inr (.inl f)))) (ht : tys[t0]? = some (cA, .long)) {i : Int32} {x : Int64} (hin : vp_in i n) (hdg : decode cc pc = .ok (.lastore, 1))
    (kk : ∀ (H1 : Heap) (locs1 : List Loc), mo_ok L0 e0 D cl tys s (va_up M a (some (.inl (cA, n, .inr (.inl (vp_updL f i.toNatClampNeg x)))))) H1 locs1 → W p l e R s m args below meth c H1 locs1 cells slots Q (F0 m (pc + 1) ls rest)) : W p l e R s m args below meth c H locs cells slots Q (F0 m pc ls (.long x :: .int i :: .ref a :: rest)) := by
  obtain ⟨h0, ⟨hK, hE⟩, ⟨L, f, hM, hP, hD⟩, hS⟩ := hok
  obtain ⟨h1, h2⟩ := hM _ _ ha
  obtain ⟨q0, hq⟩ := mo_at (D := D) (cl := cl) h1 h2
  exact va_last hexec hb hK hP hD hS q0 t0 hq ht hin hdg (fun H1 locs1 hP1 hD1 hS1 => kk H1 locs1 ⟨h0, ⟨hK, hE⟩, ⟨L, _, mo_up hM h1, mo_setP hD h1 h2 hq hP1, mo_setD hD h1 h2 hq⟩, hS1⟩)
theorem mo_alen (hexec : p.tables.exec = Jvm.exec) (hb : c.code = cc) (hok : mo_ok L0 e0 D cl tys s M H locs) (t0 : Nat) {cA : ClassId} {x : vp_A} (ha : M a = some (.inl (cA, x))) {ty : FieldType} (ht : tys[t0]? = some (cA, ty)) (hdg : decode cc pc = .ok (.arraylength, 1))
    (kk : W p l e R s m args below meth c H locs cells slots Q (F0 m (pc + 1) ls (.int (nI x.1) :: rest))) : W p l e R s m args below meth c H locs cells slots Q (F0 m pc ls (.ref a :: rest)) := by
  obtain ⟨h0, ⟨hK, hE⟩, ⟨L, f, hM, hP, hD⟩, hS⟩ := hok
  obtain ⟨h1, h2⟩ := hM _ _ ha
  obtain ⟨q0, hq⟩ := mo_at (D := D) (cl := cl) h1 h2
  exact va_alen hexec hb hK hP q0 t0 hq ht rfl hdg kk
theorem mo_new (hexec : p.tables.exec = Jvm.exec) (hb : c.code = cc) {own C : String} {T : u_T} {N ci index : Nat} {Ts : List Cond} (hts : ∀ w ∈ Ts, w.before args s = true) (hin : ∀ w ∈ u_ws C T N, w ∈ Ts) (ty : Nat → FieldType) (hty : ∀ k, k < N → parseFieldDescriptor (T k).2.2.1 = some (ty k)) (hown : s.vm.findClass own = some m.cls) (hcl : (Cond.classLink own index C).before args s = true) (hinst : (Cond.instantiable C N).before args s = true) (hini : (Cond.initialized C).before args s = true)
    (hok : mo_ok L0 e0 D cl tys s M H locs) (hc : cl[ci]? = some (C, T, N)) {fs : List Value} (hfs : ∀ j, j < N → defaultValue (ty j) = vp_V fs j) (hcells : cells + 1 ≤ R.cells) (hslots : slots + N ≤ R.slots) (hdg : decode cc pc = .ok (.new index, 3))
    (kk : ∀ (q : Nat) (H1 : Heap), M q = none → mo_ok L0 e0 D cl tys s (va_up M q (some (.inr (ci, fs)))) H1 locs →
      W p l e R s m args below meth c H1 locs (cells + 1) (slots + N) Q (F0 m (pc + 3) ls (.ref q :: rest))) : W p l e R s m args below meth c H locs cells slots Q (F0 m pc ls rest) := by
  obtain ⟨h0, ⟨hK, hE⟩, hI, hS⟩ := hok
  have hKn := hK.1 ci _ hc
  refine W.newcK hexec hb hown hcl hinst hini rfl hdg hcells hslots hKn.2.1 rfl fun H1 kC hkC e1 z1 o1 => ?_
  exact kk H.size H1 (mo_fresh hI) ⟨h0, ⟨hK, hE⟩, mo_cr hI (Nat.le_trans h0 hS.1) ⟨_, hc, (u_born ty hts hin hKn hkC e1 hty).to hfs⟩ o1, mo_crS hS (by omega) o1⟩
theorem mo_newa (hexec : p.tables.exec = Jvm.exec) (hb : c.code = cc) {atype : ArrayType} (harr : (Cond.arrayClass (newarray.typeOf atype)).before args s = true) {ty : FieldType} (hty : newarray.typeOf atype = ty) (hok : mo_ok L0 e0 D cl tys s M H locs) (t0 : Nat) {cA : ClassId} (ht : tys[t0]? = some (cA, ty)) (hpr : va_RA s cA ty → s.vm.findClass ("[" ++ ty.toString) = some cA)
    {n : Int32} {N' : Nat} {a0 : vp_A} (ha : vp_cell cA a0 = arrV cA N' (fun _ => defaultValue ty)) (hn : ¬ n < 0) (hN : n.toNatClampNeg = N') (hbytes : N' * componentBytes ty ≤ 536870912) (hcells : cells + 1 ≤ R.cells) (hslots : slots + N' ≤ R.slots) (hdg : decode cc pc = .ok (.newarray atype, 2))
    (kk : ∀ (q : Nat) (H1 : Heap), M q = none → mo_ok L0 e0 D cl tys s (va_up M q (some (.inl (cA, a0)))) H1 locs →
      W p l e R s m args below meth c H1 locs (cells + 1) (slots + N') Q (F0 m (pc + 2) ls (.ref q :: rest))) : W p l e R s m args below meth c H locs cells slots Q (F0 m pc ls (.int n :: rest)) := by
  subst hty
  obtain ⟨h0, ⟨hK, hE⟩, hI, hS⟩ := hok
  refine va_newaK hexec hb harr rfl hdg rfl hn hN hbytes hcells hslots rfl fun H1 cA' e1 z1 o1 hAr hNm => ?_
  have e2 : cA' = cA := Option.some.inj (hNm.symm.trans (hpr (hK.2 t0 _ ht).2))
  subst e2
  exact kk H.size H1 (mo_fresh hI) ⟨h0, ⟨hK, hE⟩, mo_cr hI (Nat.le_trans h0 hS.1) (show H1[H.size]? = some (vp_cell _ _) by rw [ha]; exact e1) o1, mo_crS hS (by omega) o1⟩
/-- behind a call: the callee's map comes back -/
theorem mo_calli {K : Int32 → mo_M → Prop} {pc : Nat} {st0 : List Value} {av : Array Value} {mc ms : Nat} (hok : mo_ok L0 e0 D cl tys s M H locs) (hr : va_Run p l e R s m args below meth c H locs cells slots mc ms (F0 m pc ls st0) rest (va_Qi K (fun M1 t => mo_B L0 e0 D cl tys M1 t) (fun q => L0 ≤ q) av) (fun q => L0 ≤ q))
    (kk : ∀ (r : Int32) (M1 : mo_M) (H1 : Heap) (locs1 : List Loc), K r M1 → mo_ok L0 e0 D cl tys s M1 H1 locs1 → W p l e R s m args below meth c H1 locs1 (cells + mc) (slots + ms) Q (F0 m (pc + 3) ls (.int r :: rest))) : W p l e R s m args below meth c H locs cells slots Q (F0 m pc ls st0) := by
  obtain ⟨h0, ⟨hK, hE⟩, hI, hS⟩ := hok
  refine va_calli hr hS (fun _ _ h => h) (fun _ h => h) (fun r u t H1 locs1 ht hvm hp hB hz hk hS1 => kk r u H1 locs1 hp ⟨h0, ⟨hK, hE⟩, ?_, hS1⟩)
  rw [← ht]
  exact hB.2.2
theorem mo_calll {K : Int64 → mo_M → Prop} {pc : Nat} {st0 : List Value} {av : Array Value} {mc ms : Nat} (hok : mo_ok L0 e0 D cl tys s M H locs) (hr : va_Run p l e R s m args below meth c H locs cells slots mc ms (F0 m pc ls st0) rest (va_Ql K (fun M1 t => mo_B L0 e0 D cl tys M1 t) (fun q => L0 ≤ q) av) (fun q => L0 ≤ q))
    (kk : ∀ (r : Int64) (M1 : mo_M) (H1 : Heap) (locs1 : List Loc), K r M1 → mo_ok L0 e0 D cl tys s M1 H1 locs1 → W p l e R s m args below meth c H1 locs1 (cells + mc) (slots + ms) Q (F0 m (pc + 3) ls (.long r :: rest))) : W p l e R s m args below meth c H locs cells slots Q (F0 m pc ls st0) := by
  obtain ⟨h0, ⟨hK, hE⟩, hI, hS⟩ := hok
  refine va_calll hr hS (fun _ _ h => h) (fun _ h => h) (fun r u t H1 locs1 ht hvm hp hB hz hk hS1 => kk r u H1 locs1 hp ⟨h0, ⟨hK, hE⟩, ?_, hS1⟩)
  rw [← ht]
  exact hB.2.2
theorem mo_callv {K : mo_M → Prop} {pc : Nat} {st0 : List Value} {av : Array Value} {mc ms : Nat} (hok : mo_ok L0 e0 D cl tys s M H locs) (hr : va_Run p l e R s m args below meth c H locs cells slots mc ms (F0 m pc ls st0) rest (va_Qv K (fun M1 t => mo_B L0 e0 D cl tys M1 t) (fun q => L0 ≤ q) av) (fun q => L0 ≤ q))
    (kk : ∀ (M1 : mo_M) (H1 : Heap) (locs1 : List Loc), K M1 → mo_ok L0 e0 D cl tys s M1 H1 locs1 → W p l e R s m args below meth c H1 locs1 (cells + mc) (slots + ms) Q (F0 m (pc + 3) ls rest)) : W p l e R s m args below meth c H locs cells slots Q (F0 m pc ls st0) := by
  obtain ⟨h0, ⟨hK, hE⟩, hI, hS⟩ := hok
  refine va_callv hr hS (fun _ _ h => h) (fun _ h => h) (fun u t H1 locs1 ht hvm hp hB hz hk hS1 => kk u H1 locs1 hp ⟨h0, ⟨hK, hE⟩, ?_, hS1⟩)
  rw [← ht]
  exact hB.2.2
/-- a reference comes back: the pair of its address and the map -/
theorem mo_callr {K : Nat → mo_M → Prop} {pc : Nat} {st0 : List Value} {av : Array Value} {mc ms : Nat} (hok : mo_ok L0 e0 D cl tys s M H locs) (hr : va_Run p l e R s m args below meth c H locs cells slots mc ms (F0 m pc ls st0) rest (va_Qr (fun _ : mo_M => True) (fun M1 ra t => K ra M1 ∧ mo_B L0 e0 D cl tys M1 t) (fun q => L0 ≤ q) av) (fun q => L0 ≤ q))
    (kk : ∀ (ra : Nat) (M1 : mo_M) (H1 : Heap) (locs1 : List Loc), K ra M1 → mo_ok L0 e0 D cl tys s M1 H1 locs1 → W p l e R s m args below meth c H1 locs1 (cells + mc) (slots + ms) Q (F0 m (pc + 3) ls (.ref ra :: rest))) : W p l e R s m args below meth c H locs cells slots Q (F0 m pc ls st0) := by
  obtain ⟨h0, ⟨hK, hE⟩, hI, hS⟩ := hok
  refine va_callr hr hS (fun _ _ h => h) (fun _ h => h) (fun u ra t H1 locs1 ht hvm hp hB hz hk hS1 => kk ra u H1 locs1 hB.1 ⟨h0, ⟨hK, hE⟩, ?_, hS1⟩)
  rw [← ht]
  exact hB.2.2.2
theorem mo_preS (hok : mo_ok L0 e0 D cl tys s M H locs) (As : List Value) : PreS s H (va_Pc As (fun U => mo_B L0 e0 D cl tys M U)) As := by
  obtain ⟨h0, ⟨hK, hE⟩, hI, hS⟩ := hok
  refine ⟨fun av U g mk q => ?_, fun U hU hW => ⟨rfl, by rw [hU]; exact Nat.le_trans h0 hS.1, ⟨va_K.moved hW.alike hK, by rw [hU]; exact mo_Ew hW hS hE⟩, by rw [hU]; exact hI⟩⟩
  obtain ⟨q0, q1, ⟨q2, q4⟩, q3⟩ := q
  exact ⟨q0, q1, ⟨va_K.moved (u := U) (U := U.calling g mk av) (Vm.Alike.refl U.vm) q2, (show mo_E L0 e0 (U.calling g mk av) U.heap from mo_Es (s := U) rfl q4)⟩, q3⟩
theorem mo_preV (hok : mo_ok L0 e0 D cl tys s M H locs) {b ci : Nat} {fs : List Value} {C : String} {T : u_T} {N : Nat} (he : M b = some (.inr (ci, fs))) (hc : cl[ci]? = some (C, T, N)) (As : List Value) : PreV s H C b (va_Pc (.ref b :: As) (fun U => mo_B L0 e0 D cl tys M U)) As := by
  obtain ⟨h1, h2⟩ := mo_preS hok (.ref b :: As)
  refine ⟨h1, ?_, h2⟩
  obtain ⟨h0, ⟨hK, hE⟩, hI, hS⟩ := hok
  obtain ⟨r, q1, cell, q2, q3, q4, -⟩ := mo_has hI he
  have hr : r = (C, T, N) := Option.some.inj (q1.symm.trans hc)
  subst hr
  exact ⟨cell, q2, by rw [q4]; rfl, by rw [q3]; exact (hK.1 ci _ hc).2.1⟩
end MOR
/-! ends of a method -/
abbrev mo_R (f mc ms w : Nat) : Room := { frames := f, cells := mc, slots := ms, locals := w }
abbrev mo_Qi (L0 : Nat) (e0 : Nat → Nat) (D : va_G) (cl : List vw_C) (tys : List (ClassId × FieldType)) (K : Int32 → mo_M → Prop) : Array Value → State → Outcome → State → Prop := va_Qi K (fun M1 t => mo_B L0 e0 D cl tys M1 t) (fun q => L0 ≤ q)
abbrev mo_Ql (L0 : Nat) (e0 : Nat → Nat) (D : va_G) (cl : List vw_C) (tys : List (ClassId × FieldType)) (K : Int64 → mo_M → Prop) : Array Value → State → Outcome → State → Prop := va_Ql K (fun M1 t => mo_B L0 e0 D cl tys M1 t) (fun q => L0 ≤ q)
abbrev mo_Qv (L0 : Nat) (e0 : Nat → Nat) (D : va_G) (cl : List vw_C) (tys : List (ClassId × FieldType)) (K : mo_M → Prop) : Array Value → State → Outcome → State → Prop := va_Qv K (fun M1 t => mo_B L0 e0 D cl tys M1 t) (fun q => L0 ≤ q)
abbrev mo_Qr (L0 : Nat) (e0 : Nat → Nat) (D : va_G) (cl : List vw_C) (tys : List (ClassId × FieldType)) (K : Nat → mo_M → Prop) : Array Value → State → Outcome → State → Prop := va_Qr (fun _ : mo_M => True) (fun M1 ra t => K ra M1 ∧ mo_B L0 e0 D cl tys M1 t) (fun q => L0 ≤ q)
abbrev mo_Z (below : List Frame) (Qc : Array Value → State → Outcome → State → Prop) (args : Array Value) (s : State) (mc ms L0 : Nat) : State → Prop := MQ below Qc args s mc ms (fun q => L0 ≤ q)
section MOE
variable {p : Program} {l : Launch} {e : Env} {R : Room} {s : State} {m : MethodId} {args : Array Value} {below : List Frame} {meth : Method} {c : Code} {H : Heap} {locs : List Loc} {cells slots : Nat}
variable {cc : ByteArray} {pc : Nat} {ls : Array Slot} {L0 : Nat} {e0 : Nat → Nat} {D : va_G} {cl : List vw_C} {tys : List (ClassId × FieldType)} {M : mo_M}
theorem mo_end (hok : mo_ok L0 e0 D cl tys s M H locs) (t : State) (ht : t.heap = H) (hW : s.WarmedH t.vm) : mo_B L0 e0 D cl tys M t := by
  obtain ⟨h0, ⟨hK, hE⟩, hI, hS⟩ := hok
  exact ⟨by rw [ht]; exact Nat.le_trans h0 hS.1, ⟨va_K.moved hW.alike hK, by rw [ht]; exact mo_Ew hW hS hE⟩, by rw [ht]; exact hI⟩
theorem mo_iret (hexec : p.tables.exec = Jvm.exec) (hb : c.code = cc) (hr : meth.sig.returnType = some .int) (hlocks : meth.locks = false) (hok : mo_ok L0 e0 D cl tys s M H locs) {K : Int32 → mo_M → Prop} {v : Int32} (hK : K v M) (hdg : decode cc pc = .ok (.ireturn, 1)) :
    W p l e R s m args below meth c H locs cells slots (mo_Z below (mo_Qi L0 e0 D cl tys K) args s cells slots L0) (F0 m pc ls [.int v]) :=
  W.iret hexec hb hr (fun t ht hW => ⟨⟨v, M, rfl, hK, mo_end hok t ht hW⟩, hok.2.2.2.F ht⟩) hok.2.2.2.2.2 hdg hlocks
theorem mo_zret (hexec : p.tables.exec = Jvm.exec) (hb : c.code = cc) (hr : meth.sig.returnType = some .boolean) (hlocks : meth.locks = false) (hok : mo_ok L0 e0 D cl tys s M H locs) {K : Int32 → mo_M → Prop} {v : Int32} (hK : narrow .boolean (.int v) = .int v ∧ K v M) (hdg : decode cc pc = .ok (.ireturn, 1)) :
    W p l e R s m args below meth c H locs cells slots (mo_Z below (mo_Qi L0 e0 D cl tys K) args s cells slots L0) (F0 m pc ls [.int v]) :=
  W.zret hexec hb hr hK.1 (fun t ht hW => ⟨⟨v, M, rfl, hK.2, mo_end hok t ht hW⟩, hok.2.2.2.F ht⟩) hok.2.2.2.2.2 hdg hlocks
theorem mo_lret (hexec : p.tables.exec = Jvm.exec) (hb : c.code = cc) (hr : meth.sig.returnType = some .long) (hlocks : meth.locks = false) (hok : mo_ok L0 e0 D cl tys s M H locs) {K : Int64 → mo_M → Prop} {v : Int64} (hK : K v M) (hdg : decode cc pc = .ok (.lreturn, 1)) :
    W p l e R s m args below meth c H locs cells slots (mo_Z below (mo_Ql L0 e0 D cl tys K) args s cells slots L0) (F0 m pc ls [.long v]) :=
  W.lret hexec hb hr (fun t ht hW => ⟨⟨v, M, rfl, hK, mo_end hok t ht hW⟩, hok.2.2.2.F ht⟩) hok.2.2.2.2.2 hdg hlocks
theorem mo_vret (hexec : p.tables.exec = Jvm.exec) (hb : c.code = cc) (hr : meth.sig.returnType = none) (hlocks : meth.locks = false) (hok : mo_ok L0 e0 D cl tys s M H locs) {K : mo_M → Prop} (hK : K M) (hdg : decode cc pc = .ok (.return_, 1)) :
    W p l e R s m args below meth c H locs cells slots (mo_Z below (mo_Qv L0 e0 D cl tys K) args s cells slots L0) (F0 m pc ls []) :=
  W.vret hexec hb hr (fun t ht hW => ⟨⟨M, rfl, hK, mo_end hok t ht hW⟩, hok.2.2.2.F ht⟩) hok.2.2.2.2.2 hdg hlocks
theorem mo_aret (hexec : p.tables.exec = Jvm.exec) (hb : c.code = cc) {rt : FieldType} (hr : meth.sig.returnType = some rt) (hrt : (∃ n, rt = .object n) ∨ ∃ t, rt = .array t) (hlocks : meth.locks = false) (hok : mo_ok L0 e0 D cl tys s M H locs) {K : Nat → mo_M → Prop} {v : Nat} (hK : K v M) (hdg : decode cc pc = .ok (.areturn, 1)) :
    W p l e R s m args below meth c H locs cells slots (mo_Z below (mo_Qr L0 e0 D cl tys K) args s cells slots L0) (F0 m pc ls [.ref v]) :=
  W.aret hexec hb hr hrt (Or.inr ⟨v, rfl⟩) (fun t ht hW => ⟨⟨M, v, rfl, trivial, hK, mo_end hok t ht hW⟩, hok.2.2.2.F ht⟩) hok.2.2.2.2.2 hdg hlocks
end MOE
/-! what an instruction asks of the map, and hands on (N) -/
def mo_fr (M : mo_M) (q : Nat) : Prop := ∀ b, q ≤ b → M b = none
def mp_gi (M : mo_M) (a ci k : Nat) (N : Int32 → Prop) : Prop := ∃ (fs : List Value) (x : Int32), M a = some (.inr (ci, fs)) ∧ fs[k]? = some (.int x) ∧ N x
def mp_gl (M : mo_M) (a ci k : Nat) (N : Int64 → Prop) : Prop := ∃ (fs : List Value) (x : Int64), M a = some (.inr (ci, fs)) ∧ fs[k]? = some (.long x) ∧ N x
def mp_gr (M : mo_M) (a ci k : Nat) (N : Nat → Prop) : Prop := ∃ (fs : List Value) (x : Nat), M a = some (.inr (ci, fs)) ∧ fs[k]? = some (.ref x) ∧ N x
def mp_pt (M : mo_M) (a ci k : Nat) (v : Value) (N : mo_M → Prop) : Prop := ∃ fs : List Value, M a = some (.inr (ci, fs)) ∧ k < fs.length ∧ N (va_up M a (some (.inr (ci, fs.set k v))))
def mp_ai (cA : ClassId) (M : mo_M) (a : Nat) (i : Int32) (N : Int32 → Prop) : Prop := ∃ (n : Nat) (f : Nat → Int32), M a = some (.inl (cA, n, .inl f)) ∧ vp_in i n ∧ N (f i.toNatClampNeg)
def mp_al (cA : ClassId) (M : mo_M) (a : Nat) (i : Int32) (N : Int64 → Prop) : Prop := ∃ (n : Nat) (f : Nat → Int64), M a = some (.inl (cA, n, .inr (.inl f))) ∧ vp_in i n ∧ N (f i.toNatClampNeg)
def mp_ar (cA : ClassId) (M : mo_M) (a : Nat) (i : Int32) (N : Nat → Prop) : Prop := ∃ (n : Nat) (f : Nat → Option Nat) (b : Nat), M a = some (.inl (cA, n, .inr (.inr (.inr (.inr f))))) ∧ vp_in i n ∧ f i.toNatClampNeg = some b ∧ N b
def mp_si (cA : ClassId) (M : mo_M) (a : Nat) (i x : Int32) (N : mo_M → Prop) : Prop := ∃ (n : Nat) (f : Nat → Int32), M a = some (.inl (cA, n, .inl f)) ∧ vp_in i n ∧ N (va_up M a (some (.inl (cA, n, .inl (upd f i.toNatClampNeg x)))))
def mp_sz (cA : ClassId) (M : mo_M) (a : Nat) (i x : Int32) (N : mo_M → Prop) : Prop := ∃ (n : Nat) (f : Nat → Int32), M a = some (.inl (cA, n, .inl f)) ∧ vp_in i n ∧ N (va_up M a (some (.inl (cA, n, .inl (upd f i.toNatClampNeg (vp_nar .boolean x))))))
def mp_sl (cA : ClassId) (M : mo_M) (a : Nat) (i : Int32) (x : Int64) (N : mo_M → Prop) : Prop := ∃ (n : Nat) (f : Nat → Int64), M a = some (.inl (cA, n, .inr (.inl f))) ∧ vp_in i n ∧ N (va_up M a (some (.inl (cA, n, .inr (.inl (vp_updL f i.toNatClampNeg x))))))
def mp_ln (cA : ClassId) (M : mo_M) (a : Nat) (N : Int32 → Prop) : Prop := ∃ x : vp_A, M a = some (.inl (cA, x)) ∧ N (nI x.1)
def mp_nw (M : mo_M) (ci : Nat) (fs : List Value) (N : Nat → mo_M → Prop) : Prop := ∀ q, mo_fr M q → N q (va_up M q (some (.inr (ci, fs))))
def mp_na (cA : ClassId) (M : mo_M) (n : Int32) (x : (Nat → Int32) ⊕ (Nat → Int64) ⊕ (Nat → UInt32) ⊕ (Nat → UInt64) ⊕ (Nat → Option Nat)) (N : Nat → mo_M → Prop) : Prop := ¬ n < 0 ∧ n.toNatClampNeg ≤ 1000000 ∧ ∀ q, mo_fr M q → N q (va_up M q (some (.inl (cA, n.toNatClampNeg, x))))
/-- the receiver is of that kind -/
def mp_is (M : mo_M) (a ci : Nat) : Prop := ∃ fs : List Value, M a = some (.inr (ci, fs))
theorem mo_frs {L0 : Nat} {D : va_G} {cl : List vw_C} {M : mo_M} {H : Heap} (h : mo_in L0 D cl M H) : mo_fr M H.size := by
  intro b hb
  cases q : M b with
  | none => rfl
  | some e => exact absurd (mo_lt h q).2 (Nat.not_lt.mpr hb)
section MRR
variable {p : Program} {l : Launch} {e : Env} {R : Room} {s : State} {m : MethodId} {args : Array Value} {below : List Frame} {meth : Method} {c : Code} {H : Heap} {locs : List Loc} {cells slots : Nat} {Q : State → Prop}
variable {cc : ByteArray} {pc : Nat} {ls : Array Slot} {rest : List Value} {L0 : Nat} {e0 : Nat → Nat} {D : va_G} {cl : List vw_C} {a : Nat} {tys : List (ClassId × FieldType)} {M : mo_M}
theorem mr_gi {own ref C : String} {T : u_T} {N ci index k : Nat} {Ts : List Cond} {P : Int32 → Prop} (hexec : p.tables.exec = Jvm.exec) (hb : c.code = cc) (hts : ∀ w ∈ Ts, w.before args s = true) (hown : s.vm.findClass own = some m.cls) (hok : mo_ok L0 e0 D cl tys s M H locs) (hP : mp_gi M a ci k P) (hin : ∀ w ∈ u_ws C T N, w ∈ Ts) (hc : cl[ci]? = some (C, T, N)) (hk : k < N) (hlink : (Cond.fieldLink own index ref (T k).2.1 (T k).2.2.1).before args s = true) (hsame : ∀ x, s.fieldFound? (T k).1 (T k).2.1 (T k).2.2.1 = some x → s.fieldFound? ref (T k).2.1 (T k).2.2.1 = some x) (hdg : decode cc pc = .ok (.getfield index, 3))
    (kk : ∀ x : Int32, P x → W p l e R s m args below meth c H locs cells slots Q (F0 m (pc + 3) ls (.int x :: rest))) : W p l e R s m args below meth c H locs cells slots Q (F0 m pc ls (.ref a :: rest)) := by
  obtain ⟨fs, x, he, hv, hN⟩ := hP
  exact mo_get hexec hb hts hin hown hok he hc k hk hlink hsame hv hdg (kk x hN)
theorem mr_giN {own ref C host : String} {T : u_T} {N ci index k : Nat} {Ts : List Cond} {P : Int32 → Prop} (hexec : p.tables.exec = Jvm.exec) (hb : c.code = cc) (hts : ∀ w ∈ Ts, w.before args s = true) (hown : s.vm.findClass own = some m.cls) (hok : mo_ok L0 e0 D cl tys s M H locs) (hP : mp_gi M a ci k P) (hin : ∀ w ∈ u_ws C T N, w ∈ Ts) (hc : cl[ci]? = some (C, T, N)) (hk : k < N) (hlink : (Cond.fieldLinkNest own index ref (T k).2.1 (T k).2.2.1 host).before args s = true) (hsame : ∀ x, s.fieldFound? (T k).1 (T k).2.1 (T k).2.2.1 = some x → s.fieldFound? ref (T k).2.1 (T k).2.2.1 = some x) (hdg : decode cc pc = .ok (.getfield index, 3))
    (kk : ∀ x : Int32, P x → W p l e R s m args below meth c H locs cells slots Q (F0 m (pc + 3) ls (.int x :: rest))) : W p l e R s m args below meth c H locs cells slots Q (F0 m pc ls (.ref a :: rest)) := by
  obtain ⟨fs, x, he, hv, hN⟩ := hP
  exact mo_getN hexec hb hts hin hown hok he hc k hk hlink hsame hv hdg (kk x hN)
theorem mr_gl {own ref C : String} {T : u_T} {N ci index k : Nat} {Ts : List Cond} {P : Int64 → Prop} (hexec : p.tables.exec = Jvm.exec) (hb : c.code = cc) (hts : ∀ w ∈ Ts, w.before args s = true) (hown : s.vm.findClass own = some m.cls) (hok : mo_ok L0 e0 D cl tys s M H locs) (hP : mp_gl M a ci k P) (hin : ∀ w ∈ u_ws C T N, w ∈ Ts) (hc : cl[ci]? = some (C, T, N)) (hk : k < N) (hlink : (Cond.fieldLink own index ref (T k).2.1 (T k).2.2.1).before args s = true) (hsame : ∀ x, s.fieldFound? (T k).1 (T k).2.1 (T k).2.2.1 = some x → s.fieldFound? ref (T k).2.1 (T k).2.2.1 = some x) (hdg : decode cc pc = .ok (.getfield index, 3))
    (kk : ∀ x : Int64, P x → W p l e R s m args below meth c H locs cells slots Q (F0 m (pc + 3) ls (.long x :: rest))) : W p l e R s m args below meth c H locs cells slots Q (F0 m pc ls (.ref a :: rest)) := by
  obtain ⟨fs, x, he, hv, hN⟩ := hP
  exact mo_get hexec hb hts hin hown hok he hc k hk hlink hsame hv hdg (kk x hN)
theorem mr_glN {own ref C host : String} {T : u_T} {N ci index k : Nat} {Ts : List Cond} {P : Int64 → Prop} (hexec : p.tables.exec = Jvm.exec) (hb : c.code = cc) (hts : ∀ w ∈ Ts, w.before args s = true) (hown : s.vm.findClass own = some m.cls) (hok : mo_ok L0 e0 D cl tys s M H locs) (hP : mp_gl M a ci k P) (hin : ∀ w ∈ u_ws C T N, w ∈ Ts) (hc : cl[ci]? = some (C, T, N)) (hk : k < N) (hlink : (Cond.fieldLinkNest own index ref (T k).2.1 (T k).2.2.1 host).before args s = true) (hsame : ∀ x, s.fieldFound? (T k).1 (T k).2.1 (T k).2.2.1 = some x → s.fieldFound? ref (T k).2.1 (T k).2.2.1 = some x) (hdg : decode cc pc = .ok (.getfield index, 3))
    (kk : ∀ x : Int64, P x → W p l e R s m args below meth c H locs cells slots Q (F0 m (pc + 3) ls (.long x :: rest))) : W p l e R s m args below meth c H locs cells slots Q (F0 m pc ls (.ref a :: rest)) := by
  obtain ⟨fs, x, he, hv, hN⟩ := hP
  exact mo_getN hexec hb hts hin hown hok he hc k hk hlink hsame hv hdg (kk x hN)
theorem mr_gr {own ref C : String} {T : u_T} {N ci index k : Nat} {Ts : List Cond} {P : Nat → Prop} (hexec : p.tables.exec = Jvm.exec) (hb : c.code = cc) (hts : ∀ w ∈ Ts, w.before args s = true) (hown : s.vm.findClass own = some m.cls) (hok : mo_ok L0 e0 D cl tys s M H locs) (hP : mp_gr M a ci k P) (hin : ∀ w ∈ u_ws C T N, w ∈ Ts) (hc : cl[ci]? = some (C, T, N)) (hk : k < N) (hlink : (Cond.fieldLink own index ref (T k).2.1 (T k).2.2.1).before args s = true) (hsame : ∀ x, s.fieldFound? (T k).1 (T k).2.1 (T k).2.2.1 = some x → s.fieldFound? ref (T k).2.1 (T k).2.2.1 = some x) (hdg : decode cc pc = .ok (.getfield index, 3))
    (kk : ∀ x : Nat, P x → W p l e R s m args below meth c H locs cells slots Q (F0 m (pc + 3) ls (.ref x :: rest))) : W p l e R s m args below meth c H locs cells slots Q (F0 m pc ls (.ref a :: rest)) := by
  obtain ⟨fs, x, he, hv, hN⟩ := hP
  exact mo_get hexec hb hts hin hown hok he hc k hk hlink hsame hv hdg (kk x hN)
theorem mr_grN {own ref C host : String} {T : u_T} {N ci index k : Nat} {Ts : List Cond} {P : Nat → Prop} (hexec : p.tables.exec = Jvm.exec) (hb : c.code = cc) (hts : ∀ w ∈ Ts, w.before args s = true) (hown : s.vm.findClass own = some m.cls) (hok : mo_ok L0 e0 D cl tys s M H locs) (hP : mp_gr M a ci k P) (hin : ∀ w ∈ u_ws C T N, w ∈ Ts) (hc : cl[ci]? = some (C, T, N)) (hk : k < N) (hlink : (Cond.fieldLinkNest own index ref (T k).2.1 (T k).2.2.1 host).before args s = true) (hsame : ∀ x, s.fieldFound? (T k).1 (T k).2.1 (T k).2.2.1 = some x → s.fieldFound? ref (T k).2.1 (T k).2.2.1 = some x) (hdg : decode cc pc = .ok (.getfield index, 3))
    (kk : ∀ x : Nat, P x → W p l e R s m args below meth c H locs cells slots Q (F0 m (pc + 3) ls (.ref x :: rest))) : W p l e R s m args below meth c H locs cells slots Q (F0 m pc ls (.ref a :: rest)) := by
  obtain ⟨fs, x, he, hv, hN⟩ := hP
  exact mo_getN hexec hb hts hin hown hok he hc k hk hlink hsame hv hdg (kk x hN)
theorem mr_pt {own ref C : String} {T : u_T} {N ci index k : Nat} {Ts : List Cond} {P : mo_M → Prop} {ty : FieldType} {v : Value} (hexec : p.tables.exec = Jvm.exec) (hb : c.code = cc) (hts : ∀ w ∈ Ts, w.before args s = true) (hown : s.vm.findClass own = some m.cls) (hok : mo_ok L0 e0 D cl tys s M H locs) (hP : mp_pt M a ci k v P) (hin : ∀ w ∈ u_ws C T N, w ∈ Ts) (ty0 : Nat → FieldType) (hty : ∀ k, k < N → parseFieldDescriptor (T k).2.2.1 = some (ty0 k)) (hnm : ∀ a, a < N → ∀ b, b < N → a ≠ b → (T a).2.1 ≠ (T b).2.1) (hc : cl[ci]? = some (C, T, N)) (hk : k < N) (hlink : (Cond.fieldLink own index ref (T k).2.1 (T k).2.2.1).before args s = true) (hsame : ∀ x, s.fieldFound? (T k).1 (T k).2.1 (T k).2.2.1 = some x → s.fieldFound? ref (T k).2.1 (T k).2.2.1 = some x) (hfin : (T k).2.2.2 = false) (hd : parseFieldDescriptor (T k).2.2.1 = some ty) (hn : narrow ty v = v) (hfit : fits ty v = true) (hdg : decode cc pc = .ok (.putfield index, 3))
    (kk : ∀ (M1 : mo_M) (H1 : Heap) (locs1 : List Loc), P M1 → mo_ok L0 e0 D cl tys s M1 H1 locs1 → W p l e R s m args below meth c H1 locs1 cells slots Q (F0 m (pc + 3) ls rest)) : W p l e R s m args below meth c H locs cells slots Q (F0 m pc ls (v :: .ref a :: rest)) := by
  obtain ⟨fs, he, hlt, hN⟩ := hP
  exact mo_put hexec hb hts hin ty0 hty hnm hown hok he hc k hk hlink hsame hfin hd hn hfit hlt hdg (fun H1 locs1 h1 => kk _ H1 locs1 hN h1)
theorem mr_ptF {own ref C : String} {T : u_T} {N ci index k : Nat} {Ts : List Cond} {P : mo_M → Prop} {ty : FieldType} {v : Value} (hexec : p.tables.exec = Jvm.exec) (hb : c.code = cc) (hts : ∀ w ∈ Ts, w.before args s = true) (hown : s.vm.findClass own = some m.cls) (hok : mo_ok L0 e0 D cl tys s M H locs) (hP : mp_pt M a ci k v P) (hin : ∀ w ∈ u_ws C T N, w ∈ Ts) (ty0 : Nat → FieldType) (hty : ∀ k, k < N → parseFieldDescriptor (T k).2.2.1 = some (ty0 k)) (hnm : ∀ a, a < N → ∀ b, b < N → a ≠ b → (T a).2.1 ≠ (T b).2.1) (hc : cl[ci]? = some (C, T, N)) (hk : k < N) (hlink : (Cond.fieldLink own index ref (T k).2.1 (T k).2.2.1).before args s = true) (hsame : ∀ x, s.fieldFound? (T k).1 (T k).2.1 (T k).2.2.1 = some x → s.fieldFound? ref (T k).2.1 (T k).2.2.1 = some x) (hfin : (T k).2.2.2 = true) (hin2 : meth.name = "<init>") (hdecl : (T k).1 = own) (hd : parseFieldDescriptor (T k).2.2.1 = some ty) (hn : narrow ty v = v) (hfit : fits ty v = true) (hdg : decode cc pc = .ok (.putfield index, 3))
    (kk : ∀ (M1 : mo_M) (H1 : Heap) (locs1 : List Loc), P M1 → mo_ok L0 e0 D cl tys s M1 H1 locs1 → W p l e R s m args below meth c H1 locs1 cells slots Q (F0 m (pc + 3) ls rest)) : W p l e R s m args below meth c H locs cells slots Q (F0 m pc ls (v :: .ref a :: rest)) := by
  obtain ⟨fs, he, hlt, hN⟩ := hP
  exact mo_putF hexec hb hts hin ty0 hty hnm hown hok he hc k hk hlink hsame hfin hin2 hdecl hd hn hfit hlt hdg (fun H1 locs1 h1 => kk _ H1 locs1 hN h1)
theorem mr_ai {cA : ClassId} {i : Int32} {P : Int32 → Prop} (hexec : p.tables.exec = Jvm.exec) (hb : c.code = cc) (hok : mo_ok L0 e0 D cl tys s M H locs) (hP : mp_ai cA M a i P) (t0 : Nat) (ht : tys[t0]? = some (cA, .int)) (hdg : decode cc pc = .ok (.iaload, 1))
    (kk : ∀ x : Int32, P x → W p l e R s m args below meth c H locs cells slots Q (F0 m (pc + 1) ls (.int x :: rest))) : W p l e R s m args below meth c H locs cells slots Q (F0 m pc ls (.int i :: .ref a :: rest)) := by
  obtain ⟨n, f, he, hi, hN⟩ := hP
  exact mo_iald hexec hb hok t0 he ht hi hdg (kk _ hN)
theorem mr_az {cA : ClassId} {i : Int32} {P : Int32 → Prop} (hexec : p.tables.exec = Jvm.exec) (hb : c.code = cc) (hok : mo_ok L0 e0 D cl tys s M H locs) (hP : mp_ai cA M a i P) (t0 : Nat) (ht : tys[t0]? = some (cA, .boolean)) (hdg : decode cc pc = .ok (.baload, 1))
    (kk : ∀ x : Int32, P x → W p l e R s m args below meth c H locs cells slots Q (F0 m (pc + 1) ls (.int x :: rest))) : W p l e R s m args below meth c H locs cells slots Q (F0 m pc ls (.int i :: .ref a :: rest)) := by
  obtain ⟨n, f, he, hi, hN⟩ := hP
  exact mo_zald hexec hb hok t0 he ht hi hdg (kk _ hN)
theorem mr_al {cA : ClassId} {i : Int32} {P : Int64 → Prop} (hexec : p.tables.exec = Jvm.exec) (hb : c.code = cc) (hok : mo_ok L0 e0 D cl tys s M H locs) (hP : mp_al cA M a i P) (t0 : Nat) (ht : tys[t0]? = some (cA, .long)) (hdg : decode cc pc = .ok (.laload, 1))
    (kk : ∀ x : Int64, P x → W p l e R s m args below meth c H locs cells slots Q (F0 m (pc + 1) ls (.long x :: rest))) : W p l e R s m args below meth c H locs cells slots Q (F0 m pc ls (.int i :: .ref a :: rest)) := by
  obtain ⟨n, f, he, hi, hN⟩ := hP
  exact mo_lald hexec hb hok t0 he ht hi hdg (kk _ hN)
theorem mr_ar {cA : ClassId} {i : Int32} {P : Nat → Prop} {ty : FieldType} (hexec : p.tables.exec = Jvm.exec) (hb : c.code = cc) (hok : mo_ok L0 e0 D cl tys s M H locs) (hP : mp_ar cA M a i P) (t0 : Nat) (ht : tys[t0]? = some (cA, ty)) (hty : ty.isReference = true) (hdg : decode cc pc = .ok (.aaload, 1))
    (kk : ∀ x : Nat, P x → W p l e R s m args below meth c H locs cells slots Q (F0 m (pc + 1) ls (.ref x :: rest))) : W p l e R s m args below meth c H locs cells slots Q (F0 m pc ls (.int i :: .ref a :: rest)) := by
  obtain ⟨n, f, b, he, hi, hf, hN⟩ := hP
  refine mo_aald hexec hb hok t0 hty he ht hi hdg ?_
  rw [hf]
  exact kk b hN
theorem mr_si {cA : ClassId} {i : Int32} {x : Int32} {P : mo_M → Prop} (hexec : p.tables.exec = Jvm.exec) (hb : c.code = cc) (hok : mo_ok L0 e0 D cl tys s M H locs) (hP : mp_si cA M a i x P) (t0 : Nat) (ht : tys[t0]? = some (cA, .int)) (hdg : decode cc pc = .ok (.iastore, 1))
    (kk : ∀ (M1 : mo_M) (H1 : Heap) (locs1 : List Loc), P M1 → mo_ok L0 e0 D cl tys s M1 H1 locs1 → W p l e R s m args below meth c H1 locs1 cells slots Q (F0 m (pc + 1) ls rest)) : W p l e R s m args below meth c H locs cells slots Q (F0 m pc ls (.int x :: .int i :: .ref a :: rest)) := by
  obtain ⟨n, f, he, hi, hN⟩ := hP
  exact mo_iast hexec hb hok t0 he ht hi hdg (fun H1 locs1 h1 => kk _ H1 locs1 hN h1)
theorem mr_sz {cA : ClassId} {i : Int32} {x : Int32} {P : mo_M → Prop} (hexec : p.tables.exec = Jvm.exec) (hb : c.code = cc) (hok : mo_ok L0 e0 D cl tys s M H locs) (hP : mp_sz cA M a i x P) (t0 : Nat) (ht : tys[t0]? = some (cA, .boolean)) (hdg : decode cc pc = .ok (.bastore, 1))
    (kk : ∀ (M1 : mo_M) (H1 : Heap) (locs1 : List Loc), P M1 → mo_ok L0 e0 D cl tys s M1 H1 locs1 → W p l e R s m args below meth c H1 locs1 cells slots Q (F0 m (pc + 1) ls rest)) : W p l e R s m args below meth c H locs cells slots Q (F0 m pc ls (.int x :: .int i :: .ref a :: rest)) := by
  obtain ⟨n, f, he, hi, hN⟩ := hP
  exact mo_zast hexec hb hok t0 he ht hi hdg (fun H1 locs1 h1 => kk _ H1 locs1 hN h1)
theorem mr_sl {cA : ClassId} {i : Int32} {x : Int64} {P : mo_M → Prop} (hexec : p.tables.exec = Jvm.exec) (hb : c.code = cc) (hok : mo_ok L0 e0 D cl tys s M H locs) (hP : mp_sl cA M a i x P) (t0 : Nat) (ht : tys[t0]? = some (cA, .long)) (hdg : decode cc pc = .ok (.lastore, 1))
    (kk : ∀ (M1 : mo_M) (H1 : Heap) (locs1 : List Loc), P M1 → mo_ok L0 e0 D cl tys s M1 H1 locs1 → W p l e R s m args below meth c H1 locs1 cells slots Q (F0 m (pc + 1) ls rest)) : W p l e R s m args below meth c H locs cells slots Q (F0 m pc ls (.long x :: .int i :: .ref a :: rest)) := by
  obtain ⟨n, f, he, hi, hN⟩ := hP
  exact mo_last hexec hb hok t0 he ht hi hdg (fun H1 locs1 h1 => kk _ H1 locs1 hN h1)
theorem mr_ln {cA : ClassId} {P : Int32 → Prop} {ty : FieldType} (hexec : p.tables.exec = Jvm.exec) (hb : c.code = cc) (hok : mo_ok L0 e0 D cl tys s M H locs) (hP : mp_ln cA M a P) (t0 : Nat) (ht : tys[t0]? = some (cA, ty)) (hdg : decode cc pc = .ok (.arraylength, 1))
    (kk : ∀ x : Int32, P x → W p l e R s m args below meth c H locs cells slots Q (F0 m (pc + 1) ls (.int x :: rest))) : W p l e R s m args below meth c H locs cells slots Q (F0 m pc ls (.ref a :: rest)) := by
  obtain ⟨x, he, hN⟩ := hP
  exact mo_alen hexec hb hok t0 he ht hdg (kk _ hN)
theorem mr_nw {own C : String} {T : u_T} {N ci index : Nat} {Ts : List Cond} {fs : List Value} {P : Nat → mo_M → Prop} (hexec : p.tables.exec = Jvm.exec) (hb : c.code = cc) (hts : ∀ w ∈ Ts, w.before args s = true) (hown : s.vm.findClass own = some m.cls) (hok : mo_ok L0 e0 D cl tys s M H locs) (hP : mp_nw M ci fs P) (hin : ∀ w ∈ u_ws C T N, w ∈ Ts) (ty : Nat → FieldType) (hty : ∀ k, k < N → parseFieldDescriptor (T k).2.2.1 = some (ty k)) (hc : cl[ci]? = some (C, T, N)) (hfs : ∀ j, j < N → defaultValue (ty j) = vp_V fs j) (hcl : (Cond.classLink own index C).before args s = true) (hinst : (Cond.instantiable C N).before args s = true) (hini : (Cond.initialized C).before args s = true) (hcells : cells + 1 ≤ R.cells) (hslots : slots + N ≤ R.slots) (hdg : decode cc pc = .ok (.new index, 3))
    (kk : ∀ (q : Nat) (M1 : mo_M) (H1 : Heap), P q M1 → mo_ok L0 e0 D cl tys s M1 H1 locs → W p l e R s m args below meth c H1 locs (cells + 1) (slots + N) Q (F0 m (pc + 3) ls (.ref q :: rest))) : W p l e R s m args below meth c H locs cells slots Q (F0 m pc ls rest) := by
  obtain ⟨h0, ⟨hK, hE⟩, hI, hS⟩ := hok
  have hKn := hK.1 ci _ hc
  refine W.newcK hexec hb hown hcl hinst hini rfl hdg hcells hslots hKn.2.1 rfl fun H1 kC hkC e1 z1 o1 => ?_
  exact kk H.size _ H1 (hP _ (mo_frs hI)) ⟨h0, ⟨hK, hE⟩, mo_cr hI (Nat.le_trans h0 hS.1) ⟨_, hc, (u_born ty hts hin hKn hkC e1 hty).to hfs⟩ o1, mo_crS hS (by omega) o1⟩
theorem mr_na {atype : ArrayType} {cA : ClassId} {ty : FieldType} {n : Int32} {x : (Nat → Int32) ⊕ (Nat → Int64) ⊕ (Nat → UInt32) ⊕ (Nat → UInt64) ⊕ (Nat → Option Nat)} {P : Nat → mo_M → Prop} (hexec : p.tables.exec = Jvm.exec) (hb : c.code = cc) (hok : mo_ok L0 e0 D cl tys s M H locs) (hP : mp_na cA M n x P) (harr : (Cond.arrayClass (newarray.typeOf atype)).before args s = true) (hty : newarray.typeOf atype = ty) (t0 : Nat) (ht : tys[t0]? = some (cA, ty)) (hpr : va_RA s cA ty → s.vm.findClass ("[" ++ ty.toString) = some cA)
    (ha : ∀ N', vp_cell cA (N', x) = arrV cA N' (fun _ => defaultValue ty)) (hby : componentBytes ty ≤ 8) (hcells : cells + 1 ≤ R.cells) (hslots : slots + n.toNatClampNeg ≤ R.slots) (hdg : decode cc pc = .ok (.newarray atype, 2))
    (kk : ∀ (q : Nat) (M1 : mo_M) (H1 : Heap), P q M1 → mo_ok L0 e0 D cl tys s M1 H1 locs → W p l e R s m args below meth c H1 locs (cells + 1) (slots + n.toNatClampNeg) Q (F0 m (pc + 2) ls (.ref q :: rest))) : W p l e R s m args below meth c H locs cells slots Q (F0 m pc ls (.int n :: rest)) := by
  subst hty
  obtain ⟨h0, ⟨hK, hE⟩, hI, hS⟩ := hok
  obtain ⟨hn, hle, hP⟩ := hP
  have hbytes : n.toNatClampNeg * componentBytes (newarray.typeOf atype) ≤ 536870912 := Nat.le_trans (Nat.mul_le_mul hle hby) (by decide)
  refine va_newaK hexec hb harr rfl hdg rfl hn rfl hbytes hcells hslots rfl fun H1 cA' e1 z1 o1 hAr hNm => ?_
  have e2 : cA' = cA := Option.some.inj (hNm.symm.trans (hpr (hK.2 t0 _ ht).2))
  subst e2
  exact kk H.size _ H1 (hP _ (mo_frs hI)) ⟨h0, ⟨hK, hE⟩, mo_cr hI (Nat.le_trans h0 hS.1) (show H1[H.size]? = some (vp_cell _ _) by rw [ha]; exact e1) o1, mo_crS hS (by omega) o1⟩
end MRR
section MRX
variable {p : Program} {l : Launch} {e : Env} {R : Room} {s : State} {m : MethodId} {args : Array Value} {below : List Frame} {meth : Method} {c : Code} {H : Heap} {locs : List Loc} {cells slots : Nat} {Q : State → Prop}
variable {cc : ByteArray} {pc : Nat} {ls : Array Slot} {rest : List Value} {L0 : Nat} {e0 : Nat → Nat} {D : va_G} {cl : List vw_C} {a : Nat} {tys : List (ClassId × FieldType)} {M : mo_M}
theorem mo_nw_of (hok : mo_ok L0 e0 D cl tys s M H locs) {w : Cond} (hw : w ∈ lw_tbl) (hk : lw_nk w = true) : va_Nw w s := hok.2.1.2.1.1 w hw hk
theorem mr_cast {own C : String} {T : u_T} {N ci index : Nat} (hexec : p.tables.exec = Jvm.exec) (hb : c.code = cc) (hown : s.vm.findClass own = some m.cls) (hok : mo_ok L0 e0 D cl tys s M H locs) (his : mp_is M a ci) (hc : cl[ci]? = some (C, T, N)) (hlink : (Cond.classLink own index C).before args s = true) (hdg : decode cc pc = .ok (.checkcast index, 3))
    (k : W p l e R s m args below meth c H locs cells slots Q (F0 m (pc + 3) ls (.ref a :: rest))) : W p l e R s m args below meth c H locs cells slots Q (F0 m pc ls (.ref a :: rest)) := by
  obtain ⟨fs, he⟩ := his
  have hp := (mo_preV hok he hc []).2.1
  exact va_castS hexec hb hown hlink (hok.2.1.1.1 ci _ hc).2 hp hdg k
/-- the empty array that lists begin with -/
theorem mr_gst {own : String} {index : Nat} (hexec : p.tables.exec = Jvm.exec) (hb : c.code = cc) (hown : s.vm.findClass own = some m.cls) (hok : mo_ok L0 e0 D cl tys s M H locs) (hlink : (Cond.fieldLink own index "java/util/ArrayList" "DEFAULTCAPACITY_EMPTY_ELEMENTDATA" "[Ljava/lang/Object;").before args s = true) (hdg : decode cc pc = .ok (.getstatic index, 3))
    (kk : W p l e R s m args below meth c H locs cells slots Q (F0 m (pc + 3) ls (.ref (e0 0) :: rest))) : W p l e R s m args below meth c H locs cells slots Q (F0 m pc ls rest) :=
  va_gets hexec hb hok.2.1.2.2.1 hok.2.2.2 hown hlink (fun _ h => h) hdg kk
/-- the length of a list's array: one of the map, or the empty one -/
def mp_lq (cA : ClassId) (e0 : Nat → Nat) (M : mo_M) (a : Nat) (N : Int32 → Prop) : Prop := (∃ x : vp_A, M a = some (.inl (cA, x)) ∧ N (nI x.1)) ∨ (a = e0 0 ∧ N 0)
theorem mr_lq {cA : ClassId} {P : Int32 → Prop} {ty : FieldType} (hexec : p.tables.exec = Jvm.exec) (hb : c.code = cc) (hok : mo_ok L0 e0 D cl tys s M H locs) (hP : mp_lq cA e0 M a P) (t0 : Nat) (ht : tys[t0]? = some (cA, ty)) (hdg : decode cc pc = .ok (.arraylength, 1))
    (kk : ∀ x : Int32, P x → W p l e R s m args below meth c H locs cells slots Q (F0 m (pc + 1) ls (.int x :: rest))) : W p l e R s m args below meth c H locs cells slots Q (F0 m pc ls (.ref a :: rest)) := by
  rcases hP with ⟨x, he, hN⟩ | ⟨rfl, hN⟩
  · exact mo_alen hexec hb hok t0 he ht hdg (kk _ hN)
  · exact va_tlen hexec hb hok.2.1.2.2.2 hok.2.2.2 rfl hdg (kk _ hN)
theorem mr_acmp_eq {rx ry : Nat} {off : Int} {tgt : Nat} (hexec : p.tables.exec = Jvm.exec) (hb : c.code = cc) (hdg : decode cc pc = .ok (.if_acmp .eq off, 3)) (ht : (pc : Int) + off = (tgt : Int))
    (kt : rx = ry → W p l e R s m args below meth c H locs cells slots Q (F0 m tgt ls rest)) (kf : ¬ rx = ry → W p l e R s m args below meth c H locs cells slots Q (F0 m (pc + 3) ls rest)) : W p l e R s m args below meth c H locs cells slots Q (F0 m pc ls (.ref ry :: .ref rx :: rest)) :=
  lv_acmp_eq (rx := some rx) (ry := some ry) hexec hb hdg ht (fun h => kt (Option.some.inj h)) (fun h => kf (fun q => h (by rw [q])))
theorem mr_acmp_ne {rx ry : Nat} {off : Int} {tgt : Nat} (hexec : p.tables.exec = Jvm.exec) (hb : c.code = cc) (hdg : decode cc pc = .ok (.if_acmp .ne off, 3)) (ht : (pc : Int) + off = (tgt : Int))
    (kt : ¬ rx = ry → W p l e R s m args below meth c H locs cells slots Q (F0 m tgt ls rest)) (kf : rx = ry → W p l e R s m args below meth c H locs cells slots Q (F0 m (pc + 3) ls rest)) : W p l e R s m args below meth c H locs cells slots Q (F0 m pc ls (.ref ry :: .ref rx :: rest)) :=
  lv_acmp_ne (rx := some rx) (ry := some ry) hexec hb hdg ht (fun h => kt (fun q => h (by rw [q]))) (fun h => kf (Option.some.inj h))
end MRX
/-! how what an instruction asks is met, when the map is known at the address -/
section MQ2
variable {M : mo_M} {a ci k : Nat} {cA : ClassId}
theorem mq_gi {fs : List Value} {x : Int32} {N : Int32 → Prop} (h : M a = some (.inr (ci, fs))) (hk : fs[k]? = some (.int x)) (hN : N x) : mp_gi M a ci k N := ⟨fs, x, h, hk, hN⟩
theorem mq_gl {fs : List Value} {x : Int64} {N : Int64 → Prop} (h : M a = some (.inr (ci, fs))) (hk : fs[k]? = some (.long x)) (hN : N x) : mp_gl M a ci k N := ⟨fs, x, h, hk, hN⟩
theorem mq_gr {fs : List Value} {x : Nat} {N : Nat → Prop} (h : M a = some (.inr (ci, fs))) (hk : fs[k]? = some (.ref x)) (hN : N x) : mp_gr M a ci k N := ⟨fs, x, h, hk, hN⟩
theorem mq_pt {fs : List Value} {v : Value} {N : mo_M → Prop} (h : M a = some (.inr (ci, fs))) (hk : k < fs.length) (hN : N (va_up M a (some (.inr (ci, fs.set k v))))) : mp_pt M a ci k v N := ⟨fs, h, hk, hN⟩
theorem mq_ai {n j : Nat} {f : Nat → Int32} {i : Int32} {N : Int32 → Prop} (h : M a = some (.inl (cA, n, .inl f))) (hi : i = nI j) (hj : j < n) (hn : n < 2 ^ 31) (hN : N (f j)) : mp_ai cA M a i N := by
  subst hi
  exact ⟨n, f, h, vp_in_nI hj hn, by rw [nI_clamp (Nat.lt_trans hj hn)]; exact hN⟩
theorem mq_al {n j : Nat} {f : Nat → Int64} {i : Int32} {N : Int64 → Prop} (h : M a = some (.inl (cA, n, .inr (.inl f)))) (hi : i = nI j) (hj : j < n) (hn : n < 2 ^ 31) (hN : N (f j)) : mp_al cA M a i N := by
  subst hi
  exact ⟨n, f, h, vp_in_nI hj hn, by rw [nI_clamp (Nat.lt_trans hj hn)]; exact hN⟩
theorem mq_ar {n j b : Nat} {f : Nat → Option Nat} {i : Int32} {N : Nat → Prop} (h : M a = some (.inl (cA, n, .inr (.inr (.inr (.inr f)))))) (hi : i = nI j) (hj : j < n) (hn : n < 2 ^ 31) (hb : f j = some b) (hN : N b) : mp_ar cA M a i N := by
  subst hi
  exact ⟨n, f, b, h, vp_in_nI hj hn, by rw [nI_clamp (Nat.lt_trans hj hn)]; exact hb, hN⟩
theorem mq_si {n j : Nat} {f : Nat → Int32} {i x : Int32} {N : mo_M → Prop} (h : M a = some (.inl (cA, n, .inl f))) (hi : i = nI j) (hj : j < n) (hn : n < 2 ^ 31) (hN : N (va_up M a (some (.inl (cA, n, .inl (upd f j x)))))) : mp_si cA M a i x N := by
  subst hi
  exact ⟨n, f, h, vp_in_nI hj hn, by rw [nI_clamp (Nat.lt_trans hj hn)]; exact hN⟩
theorem mq_sz {n j : Nat} {f : Nat → Int32} {i x : Int32} {N : mo_M → Prop} (h : M a = some (.inl (cA, n, .inl f))) (hi : i = nI j) (hj : j < n) (hn : n < 2 ^ 31) (hN : N (va_up M a (some (.inl (cA, n, .inl (upd f j (vp_nar .boolean x))))))) : mp_sz cA M a i x N := by
  subst hi
  exact ⟨n, f, h, vp_in_nI hj hn, by rw [nI_clamp (Nat.lt_trans hj hn)]; exact hN⟩
theorem mq_sl {n j : Nat} {f : Nat → Int64} {i : Int32} {x : Int64} {N : mo_M → Prop} (h : M a = some (.inl (cA, n, .inr (.inl f)))) (hi : i = nI j) (hj : j < n) (hn : n < 2 ^ 31) (hN : N (va_up M a (some (.inl (cA, n, .inr (.inl (vp_updL f j x))))))) : mp_sl cA M a i x N := by
  subst hi
  exact ⟨n, f, h, vp_in_nI hj hn, by rw [nI_clamp (Nat.lt_trans hj hn)]; exact hN⟩
theorem mq_ln {x : vp_A} {N : Int32 → Prop} (h : M a = some (.inl (cA, x))) (hN : N (nI x.1)) : mp_ln cA M a N := ⟨x, h, hN⟩
end MQ2
/-- a truth value as the machine has it -/
def zb_i (b : Bool) : Int32 := if b = true then 1 else 0
theorem zb_nar (b : Bool) : narrow .boolean (.int (zb_i b)) = .int (zb_i b) := by cases b <;> rfl
theorem zb_t : zb_i true = 1 := rfl
theorem zb_f : zb_i false = 0 := rfl
theorem zb_0 (b : Bool) : zb_i b = 0 ↔ b = false := by cases b <;> decide
