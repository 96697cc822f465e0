/-! more of the map kit: arrays of references, copies, a grid at one stroke -/
def mp_so (cA : ClassId) (M : mo_M) (a : Nat) (i : Int32) (v : Nat) (N : mo_M → Prop) : Prop := ∃ (n : Nat) (f : Nat → Option Nat), M a = some (.inl (cA, n, .inr (.inr (.inr (.inr f))))) ∧ vp_in i n ∧ (mp_is M v 2 ∨ mp_is M v 3) ∧ N (va_up M a (some (.inl (cA, n, .inr (.inr (.inr (.inr (va_up f i.toNatClampNeg (some v)))))))))
def mp_sk (cA : ClassId) (M : mo_M) (a : Nat) (i : Int32) (v : Nat) (N : mo_M → Prop) : Prop := ∃ (n : Nat) (f : Nat → Option Nat), M a = some (.inl (cA, n, .inr (.inr (.inr (.inr f))))) ∧ vp_in i n ∧ mp_is M v 1 ∧ N (va_up M a (some (.inl (cA, n, .inr (.inr (.inr (.inr (va_up f i.toNatClampNeg (some v)))))))))
def mp_sn (cA : ClassId) (M : mo_M) (a : Nat) (i : Int32) (N : mo_M → Prop) : Prop := ∃ (n : Nat) (f : Nat → Option Nat), M a = some (.inl (cA, n, .inr (.inr (.inr (.inr f))))) ∧ vp_in i n ∧ N (va_up M a (some (.inl (cA, n, .inr (.inr (.inr (.inr (va_up f i.toNatClampNeg none))))))))
def mp_cl (cA : ClassId) (M : mo_M) (a0 : Nat) (sp : Int32) (a : Nat) (dp n : Int32) (N : mo_M → Prop) : Prop := ∃ (n0 n1 : Nat) (f h : Nat → Int64), M a0 = some (.inl (cA, n0, .inr (.inl f))) ∧ M a = some (.inl (cA, n1, .inr (.inl h))) ∧ (¬ sp < 0 ∧ ¬ dp < 0 ∧ ¬ n < 0) ∧ sp.toNatClampNeg + n.toNatClampNeg ≤ n0 ∧ dp.toNatClampNeg + n.toNatClampNeg ≤ n1 ∧ N (va_up M a (some (.inl (cA, n1, .inr (.inl (va_cpy f h sp.toNatClampNeg dp.toNatClampNeg n.toNatClampNeg))))))
def mp_cq (cA : ClassId) (M : mo_M) (a0 : Nat) (sp : Int32) (a : Nat) (dp n : Int32) (N : mo_M → Prop) : Prop := ∃ (n0 n1 : Nat) (f h : Nat → Option Nat), M a0 = some (.inl (cA, n0, .inr (.inr (.inr (.inr f))))) ∧ M a = some (.inl (cA, n1, .inr (.inr (.inr (.inr h))))) ∧ (¬ sp < 0 ∧ ¬ dp < 0 ∧ ¬ n < 0) ∧ sp.toNatClampNeg + n.toNatClampNeg ≤ n0 ∧ dp.toNatClampNeg + n.toNatClampNeg ≤ n1 ∧ (∀ i, i < n.toNatClampNeg → ∀ y, f (sp.toNatClampNeg + i) = some y → mp_is M y 2 ∨ mp_is M y 3) ∧ N (va_up M a (some (.inl (cA, n1, .inr (.inr (.inr (.inr (va_cpy f h sp.toNatClampNeg dp.toNatClampNeg n.toNatClampNeg))))))))
/-- q holds n rows of k, at the next n addresses -/
def mo_mn (M : mo_M) (q n k : Nat) (cO cI : ClassId) (x : (Nat → Int32) ⊕ (Nat → Int64) ⊕ (Nat → UInt32) ⊕ (Nat → UInt64) ⊕ (Nat → Option Nat)) : mo_M := fun b => if b = q then some (.inl (cO, n, .inr (.inr (.inr (.inr (fun i => if i < n then some (q + 1 + i) else none)))))) else if q < b ∧ b ≤ q + n then some (.inl (cI, k, x)) else M b
def mp_mn (cO cI : ClassId) (M : mo_M) (n k : Int32) (x : (Nat → Int32) ⊕ (Nat → Int64) ⊕ (Nat → UInt32) ⊕ (Nat → UInt64) ⊕ (Nat → Option Nat)) (N : Nat → mo_M → Prop) : Prop := ¬ n < 0 ∧ ¬ k < 0 ∧ n.toNatClampNeg ≤ 1000000 ∧ k.toNatClampNeg ≤ 1000000 ∧ ∀ q, mo_fr M q → N q (mo_mn M q n.toNatClampNeg k.toNatClampNeg cO cI x)
/-- cells after the old ones: a row of them -/
theorem mo_crN {L0 : Nat} {D : va_G} {cl : List vw_C} {M : mo_M} {H H1 : Heap} (h : mo_in L0 D cl M H) (h0 : L0 ≤ H.size) (oq : ∀ q : Nat, q < H.size → H1[q]? = H[q]?) (e : Nat → va_E) : ∀ n : Nat, (∀ j, j < n → va_at D cl (H.size + j, e j) H1) → mo_in L0 D cl (fun b => if H.size ≤ b ∧ b < H.size + n then some (e (b - H.size)) else M b) H1
  | 0, _ => by
    obtain ⟨L, f, hM, hP, hD⟩ := h
    refine ⟨L, f, fun a e' ha => hM a e' ?_, hP.kept (fun k x hx => oq x.1 ((hP k x hx).lt)), hD⟩
    dsimp only at ha
    rw [if_neg (by omega)] at ha
    exact ha
  | n + 1, he => by
    obtain ⟨L, f, hM, hP, hD⟩ := mo_crN h h0 oq e n (fun j hj => he j (by omega))
    have hlt : ∀ a, a ∈ L → ∃ e', (va_pl L f)[e']? = some (a, f a) := fun a ha => by
      obtain ⟨k, hk⟩ := va_pl_get (X := []) (f := f) ha
      exact ⟨k, hk⟩
    by_cases hin : H.size + n ∈ L
    · obtain ⟨k, hk⟩ := hlt _ hin
      refine ⟨L, va_up f (H.size + n) (e n), fun a e' ha => ?_, ?_, ?_⟩
      · dsimp only at ha
        by_cases q : a = H.size + n
        · subst q
          rw [if_pos (by omega), show H.size + n - H.size = n by omega] at ha
          cases ha
          exact ⟨hin, va_up_self _ _ _⟩
        · have ha' : (if H.size ≤ a ∧ a < H.size + n then some (e (a - H.size)) else M a) = some e' := by
            by_cases c : H.size ≤ a ∧ a < H.size + n
            · rw [if_pos c]; rw [if_pos (by omega)] at ha; exact ha
            · rw [if_neg c]; rw [if_neg (by omega)] at ha; exact ha
          obtain ⟨g1, g2⟩ := hM a e' ha'
          exact ⟨g1, by rw [va_up_ne _ _ q]; exact g2⟩
      · exact mo_setP hD hin rfl hk (hP.set hD hk (he n (by omega)) (fun _ _ => rfl))
      · exact mo_setD hD hin rfl hk
    · refine ⟨L ++ [H.size + n], va_up f (H.size + n) (e n), fun a e' ha => ?_, ?_, ?_⟩
      · dsimp only at ha
        by_cases q : a = H.size + n
        · subst q
          rw [if_pos (by omega), show H.size + n - H.size = n by omega] at ha
          cases ha
          exact ⟨List.mem_append_right _ List.mem_cons_self, va_up_self _ _ _⟩
        · have ha' : (if H.size ≤ a ∧ a < H.size + n then some (e (a - H.size)) else M a) = some e' := by
            by_cases c : H.size ≤ a ∧ a < H.size + n
            · rw [if_pos c]; rw [if_pos (by omega)] at ha; exact ha
            · rw [if_neg c]; rw [if_neg (by omega)] at ha; exact ha
          obtain ⟨g1, g2⟩ := hM a e' ha'
          exact ⟨List.mem_append_left _ g1, by rw [va_up_ne _ _ q]; exact g2⟩
      · rw [← va_pl_push hin]
        refine va_P.app hP (fun k x hx => ?_)
        have hz : k < 1 := (List.getElem?_eq_some_iff.mp hx).1
        rw [show k = 0 by omega] at hx
        cases hx
        exact he n (by omega)
      · rw [← va_pl_push hin]
        refine va_D.app hD ⟨fun i j x y hx hy _ => ?_, fun k x hx => ?_⟩ (fun i j x y hx hy hxy => ?_)
        · have h1 : i < 1 := (List.getElem?_eq_some_iff.mp hx).1
          have h2 : j < 1 := (List.getElem?_eq_some_iff.mp hy).1
          omega
        · have hz : k < 1 := (List.getElem?_eq_some_iff.mp hx).1
          rw [show k = 0 by omega] at hx
          cases hx
          show L0 ≤ H.size + n
          omega
        · have hz : j < 1 := (List.getElem?_eq_some_iff.mp hy).1
          rw [show j = 0 by omega] at hy
          cases hy
          obtain ⟨a, ha, rfl⟩ := List.mem_map.mp (List.mem_of_getElem? hx)
          exact hin ((show a = H.size + n from hxy) ▸ ha)
theorem mo_outer (c : ClassId) (N b : Nat) : ∀ i : Nat, Jvm.Free.Multi.outerC c N b i = arrV c N (fun j => va_rf (if j < i then some (b + 1 + j) else none))
  | 0 => by
    show ({ cls := c, slots := Array.replicate N .null, vm := .none } : Cell) = _
    rw [arrV_new]
    exact congrArg (arrV c N) (funext fun j => by simp [va_rf])
  | i + 1 => by
    show (Jvm.Free.Multi.outerC c N b i).setSlot i (.ref (b + 1 + i)) = _
    rw [mo_outer c N b i, arrV_store]
    refine congrArg (arrV c N) (funext fun j => ?_)
    rcases Nat.lt_trichotomy j i with h | h | h
    · simp [updV, Nat.ne_of_lt h, h, Nat.lt_succ_of_lt h]
    · subst h
      simp [updV, va_rf]
    · simp [updV, Nat.ne_of_gt h, Nat.not_lt_of_gt h, show ¬ j < i + 1 by omega]
section MR2
variable {p : Program} {l : Launch} {e : Env} {R : Room} {s : State} {m : MethodId} {args : Array Value} {below : List Frame} {meth : Method} {c : Code} {H : Heap} {locs : List Loc} {cells slots : Nat} {Q : State → Prop}
variable {cc : ByteArray} {pc : Nat} {ls : Array Slot} {rest : List Value} {L0 : Nat} {e0 : Nat → Nat} {D : va_G} {a : Nat} {tys : List (ClassId × FieldType)} {M : mo_M}
theorem mo_any (hok : mo_ok L0 e0 D vwCl tys s M H locs) {y : Nat} (h : mp_is M y 2 ∨ mp_is M y 3) : va_Any "java/lang/Object" s H y := by
  obtain ⟨h0, ⟨hK, hE⟩, hI, hS⟩ := hok
  obtain ⟨L, f, hM, hP, hD⟩ := hI
  rcases h with ⟨fs, he⟩ | ⟨fs, he⟩
  · obtain ⟨h1, h2⟩ := hM _ _ he
    obtain ⟨q0, hq⟩ := mo_at (D := D) (cl := vwCl) h1 h2
    refine va_rAny hK hP hq rfl (fun comp c0 g1 g2 => ?_)
    obtain ⟨c1, t1, f1, f2, f3⟩ := Cond.castable_spec (va_Nw.use (A := #[]) rfl (hE.1.1 _ wn_868 rfl))
    cases g2.symm.trans f1
    cases g1.symm.trans f2
    exact f3
  · obtain ⟨h1, h2⟩ := hM _ _ he
    obtain ⟨q0, hq⟩ := mo_at (D := D) (cl := vwCl) h1 h2
    refine va_rAny hK hP hq rfl (fun comp c0 g1 g2 => ?_)
    obtain ⟨c1, t1, f1, f2, f3⟩ := Cond.castable_spec (va_Nw.use (A := #[]) rfl (hE.1.1 _ wn_869 rfl))
    cases g2.symm.trans f1
    cases g1.symm.trans f2
    exact f3
theorem mr_so {cA : ClassId} {i : Int32} {v : Nat} {P : mo_M → Prop} (hexec : p.tables.exec = Jvm.exec) (hb : c.code = cc) (hok : mo_ok L0 e0 D vwCl tys s M H locs) (hP : mp_so cA M a i v P) (t0 : Nat) (ht : tys[t0]? = some (cA, .object "java/lang/Object")) (hdg : decode cc pc = .ok (.aastore, 1))
    (kk : ∀ (M1 : mo_M) (H1 : Heap) (locs1 : List Loc), P M1 → mo_ok L0 e0 D vwCl tys s M1 H1 locs1 → W p l e R s m args below meth c H1 locs1 cells slots Q (F0 m (pc + 1) ls rest)) : W p l e R s m args below meth c H locs cells slots Q (F0 m pc ls (.ref v :: .int i :: .ref a :: rest)) := by
  obtain ⟨n, f, he, hi, his, hN⟩ := hP
  have hany := mo_any hok his
  obtain ⟨h0, ⟨hK, hE⟩, ⟨L, f9, hM, hP, hD⟩, hS⟩ := hok
  obtain ⟨h1, h2⟩ := hM _ _ he
  obtain ⟨q0, hq⟩ := mo_at (D := D) (cl := vwCl) h1 h2
  exact va_astqM hexec hb hK hP hD hS q0 t0 hq ht hany hi hdg (fun H1 locs1 hP1 hD1 hS1 => kk _ H1 locs1 hN ⟨h0, ⟨hK, hE⟩, ⟨L, _, mo_up hM h1, mo_setP hD h1 h2 hq hP1, mo_setD hD h1 h2 hq⟩, hS1⟩)
theorem mr_sk {cA : ClassId} {i : Int32} {v : Nat} {P : mo_M → Prop} (hexec : p.tables.exec = Jvm.exec) (hb : c.code = cc) (hok : mo_ok L0 e0 D vwCl tys s M H locs) (hP : mp_sk cA M a i v P) (t0 : Nat) (ht : tys[t0]? = some (cA, .object "PurseHouse$Kiosk")) (hdg : decode cc pc = .ok (.aastore, 1))
    (kk : ∀ (M1 : mo_M) (H1 : Heap) (locs1 : List Loc), P M1 → mo_ok L0 e0 D vwCl tys s M1 H1 locs1 → W p l e R s m args below meth c H1 locs1 cells slots Q (F0 m (pc + 1) ls rest)) : W p l e R s m args below meth c H locs cells slots Q (F0 m pc ls (.ref v :: .int i :: .ref a :: rest)) := by
  obtain ⟨n, f, he, hi, ⟨vs, hv⟩, hN⟩ := hP
  obtain ⟨h0, ⟨hK, hE⟩, ⟨L, f9, hM, hP, hD⟩, hS⟩ := hok
  obtain ⟨h1, h2⟩ := hM _ _ he
  obtain ⟨g1, g2⟩ := hM _ _ hv
  obtain ⟨q0, hq⟩ := mo_at (D := D) (cl := vwCl) h1 h2
  obtain ⟨qk, hqk⟩ := mo_at (D := D) (cl := vwCl) g1 g2
  exact va_astq (r := ("PurseHouse$Kiosk", F_1, 9)) hexec hb hK hP hD hS q0 t0 qk 1 hq ht hqk rfl hi hdg (fun H1 locs1 hP1 hD1 hS1 => kk _ H1 locs1 hN ⟨h0, ⟨hK, hE⟩, ⟨L, _, mo_up hM h1, mo_setP hD h1 h2 hq hP1, mo_setD hD h1 h2 hq⟩, hS1⟩)
theorem mr_sn {cA : ClassId} {C : String} {i : Int32} {P : mo_M → Prop} (hexec : p.tables.exec = Jvm.exec) (hb : c.code = cc) (hok : mo_ok L0 e0 D vwCl tys s M H locs) (hP : mp_sn cA M a i P) (t0 : Nat) (ht : tys[t0]? = some (cA, .object C)) (hdg : decode cc pc = .ok (.aastore, 1))
    (kk : ∀ (M1 : mo_M) (H1 : Heap) (locs1 : List Loc), P M1 → mo_ok L0 e0 D vwCl tys s M1 H1 locs1 → W p l e R s m args below meth c H1 locs1 cells slots Q (F0 m (pc + 1) ls rest)) : W p l e R s m args below meth c H locs cells slots Q (F0 m pc ls (.null :: .int i :: .ref a :: rest)) := by
  obtain ⟨n, f, he, hi, hN⟩ := hP
  obtain ⟨h0, ⟨hK, hE⟩, ⟨L, f9, hM, hP, hD⟩, hS⟩ := hok
  obtain ⟨h1, h2⟩ := hM _ _ he
  obtain ⟨q0, hq⟩ := mo_at (D := D) (cl := vwCl) h1 h2
  exact va_astqN hexec hb hK hP hD hS q0 t0 hq ht hi hdg (fun H1 locs1 hP1 hD1 hS1 => kk _ H1 locs1 hN ⟨h0, ⟨hK, hE⟩, ⟨L, _, mo_up hM h1, mo_setP hD h1 h2 hq hP1, mo_setD hD h1 h2 hq⟩, hS1⟩)
theorem mr_nq {own C : String} {index : Nat} {cA : ClassId} {n : Int32} {P : Nat → mo_M → Prop} (hexec : p.tables.exec = Jvm.exec) (hb : c.code = cc) (hown : s.vm.findClass own = some m.cls) (hok : mo_ok L0 e0 D vwCl tys s M H locs) (hP : mp_na cA M n (.inr (.inr (.inr (.inr (fun _ => none))))) P) (hclink : (Cond.classLink own index C).before args s = true) (hover : va_AO C s) (t0 : Nat) (ht : tys[t0]? = some (cA, .object C)) (hcells : cells + 1 ≤ R.cells) (hslots : slots + n.toNatClampNeg ≤ R.slots) (hdg : decode cc pc = .ok (.anewarray index, 3))
    (kk : ∀ (q : Nat) (M1 : mo_M) (H1 : Heap), P q M1 → mo_ok L0 e0 D vwCl tys s M1 H1 locs → W p l e R s m args below meth c H1 locs (cells + 1) (slots + n.toNatClampNeg) Q (F0 m (pc + 3) ls (.ref q :: rest))) : W p l e R s m args below meth c H locs cells slots Q (F0 m pc ls (.int n :: rest)) := by
  obtain ⟨h0, ⟨hK, hE⟩, hI, hS⟩ := hok
  obtain ⟨hn, hle, hP⟩ := hP
  refine W.anew hexec hb hown hclink (va_AO.use hover) rfl hdg rfl hn (by omega) hcells hslots fun cA' kA comp f1 f2 f3 f4 => ?_
  have e2 : cA' = cA := Option.some.inj (f1.symm.trans (va_nmO (hK.2 t0 _ ht).2 rfl))
  subst e2
  generalize hH1 : H.push ({ cls := cA', slots := Array.replicate n.toNatClampNeg .null, vm := .none } : Cell) = H1
  have z1 : H1.size = H.size + 1 := by rw [← hH1, Array.size_push]
  have e1 : H1[H.size]? = some (arrV cA' n.toNatClampNeg (fun _ => .null)) := by rw [← hH1, Array.getElem?_push_size, ← arrV_new]
  have o1 : ∀ q : Nat, q < H.size → H1[q]? = H[q]? := fun q hq => by rw [← hH1, Array.getElem?_push, if_neg (Nat.ne_of_lt hq)]
  exact kk H.size _ H1 (hP _ (mo_frs hI)) ⟨h0, ⟨hK, hE⟩, mo_cr hI (Nat.le_trans h0 hS.1) (show H1[H.size]? = some (vp_cell _ _) by rw [vp_cell_q]; exact e1) o1, mo_crS hS (by omega) o1⟩
theorem mr_cl {own : String} {index a0 : Nat} {cA : ClassId} {sp dp n : Int32} {P : mo_M → Prop} (hexec : p.tables.exec = Jvm.exec) (hb : c.code = cc) (hml : c.maxLocals = ls.size) (hown : s.vm.findClass own = some m.cls) (hok : mo_ok L0 e0 D vwCl tys s M H locs) (hP : mp_cl cA M a0 sp a dp n P) (hlink : (Cond.methodLink own index arraycopyName).before args s = true) (hnat : (Cond.native arraycopyName).before args s = true) (hstat : (Cond.static arraycopyName).before args s = true) (hini : (Cond.initialized "java/lang/System").before args s = true) (t0 : Nat) (ht : tys[t0]? = some (cA, .long)) (hframes : 1 ≤ R.frames) (hlocals : (rest.map fun v => v.category).sum + (nativeFrameWords "java/lang/System" "arraycopy" 5 + 11) ≤ R.locals) (hdg : decode cc pc = .ok (.invokestatic index, 3))
    (kk : ∀ (M1 : mo_M) (H1 : Heap) (locs1 : List Loc), P M1 → mo_ok L0 e0 D vwCl tys s M1 H1 locs1 → W p l e R s m args below meth c H1 locs1 cells slots Q (F0 m (pc + 3) ls rest)) : W p l e R s m args below meth c H locs cells slots Q (F0 m pc ls (.int n :: .int dp :: .ref a :: .int sp :: .ref a0 :: rest)) := by
  obtain ⟨n0, n1, f, h, he0, he, ⟨g1, g2, g3⟩, g4, g5, hN⟩ := hP
  obtain ⟨h0, ⟨hK, hE⟩, ⟨L, f9, hM, hP, hD⟩, hS⟩ := hok
  obtain ⟨h1, h2⟩ := hM _ _ he
  obtain ⟨k1, k2⟩ := hM _ _ he0
  obtain ⟨q1, hq1⟩ := mo_at (D := D) (cl := vwCl) h1 h2
  obtain ⟨q0, hq0⟩ := mo_at (D := D) (cl := vwCl) k1 k2
  exact va_copyl hexec hb hml hown hlink hnat hstat hini hK hP hD hS q0 q1 t0 t0 hq0 hq1 ht ht rfl g1 g2 g3 g4 g5 (fun _ _ => rfl) hframes hlocals hdg (fun H1 locs1 hP1 hD1 hS1 => kk _ H1 locs1 hN ⟨h0, ⟨hK, hE⟩, ⟨L, _, mo_up hM h1, mo_setP hD h1 h2 hq1 hP1, mo_setD hD h1 h2 hq1⟩, hS1⟩)
theorem mr_cq {own : String} {index a0 : Nat} {cA : ClassId} {sp dp n : Int32} {P : mo_M → Prop} (hexec : p.tables.exec = Jvm.exec) (hb : c.code = cc) (hml : c.maxLocals = ls.size) (hown : s.vm.findClass own = some m.cls) (hok : mo_ok L0 e0 D vwCl tys s M H locs) (hP : mp_cq cA M a0 sp a dp n P) (hlink : (Cond.methodLink own index arraycopyName).before args s = true) (hnat : (Cond.native arraycopyName).before args s = true) (hstat : (Cond.static arraycopyName).before args s = true) (hini : (Cond.initialized "java/lang/System").before args s = true) (t0 : Nat) (ht : tys[t0]? = some (cA, .object "java/lang/Object")) (hframes : 1 ≤ R.frames) (hlocals : (rest.map fun v => v.category).sum + (nativeFrameWords "java/lang/System" "arraycopy" 5 + 11) ≤ R.locals) (hdg : decode cc pc = .ok (.invokestatic index, 3))
    (kk : ∀ (M1 : mo_M) (H1 : Heap) (locs1 : List Loc), P M1 → mo_ok L0 e0 D vwCl tys s M1 H1 locs1 → W p l e R s m args below meth c H1 locs1 cells slots Q (F0 m (pc + 3) ls rest)) : W p l e R s m args below meth c H locs cells slots Q (F0 m pc ls (.int n :: .int dp :: .ref a :: .int sp :: .ref a0 :: rest)) := by
  obtain ⟨n0, n1, f, h, he0, he, ⟨g1, g2, g3⟩, g4, g5, hel, hN⟩ := hP
  have hany : ∀ i : Nat, i < n.toNatClampNeg → ∀ y : Nat, f (sp.toNatClampNeg + i) = some y → va_Any "java/lang/Object" s H y := fun i hi y hy => mo_any hok (hel i hi y hy)
  obtain ⟨h0, ⟨hK, hE⟩, ⟨L, f9, hM, hP, hD⟩, hS⟩ := hok
  obtain ⟨h1, h2⟩ := hM _ _ he
  obtain ⟨k1, k2⟩ := hM _ _ he0
  obtain ⟨q1, hq1⟩ := mo_at (D := D) (cl := vwCl) h1 h2
  obtain ⟨q0, hq0⟩ := mo_at (D := D) (cl := vwCl) k1 k2
  exact va_copyM hexec hb hml hown hlink hnat hstat hini hK hP hD hS q0 q1 t0 t0 hq0 hq1 ht ht g1 g2 g3 g4 g5 hany hframes hlocals hdg (fun H1 locs1 hP1 hD1 hS1 => kk _ H1 locs1 hN ⟨h0, ⟨hK, hE⟩, ⟨L, _, mo_up hM h1, mo_setP hD h1 h2 hq1 hP1, mo_setD hD h1 h2 hq1⟩, hS1⟩)
theorem mr_ldm {own : String} {index : Nat} (hexec : p.tables.exec = Jvm.exec) (hb : c.code = cc) (hown : s.vm.findClass own = some m.cls) (hok : mo_ok L0 e0 D vwCl tys s M H locs) (hlink : (Cond.classLink own index "[Ljava/lang/Object;").before args s = true) (hdg : decode cc pc = .ok (.ldc index, 2))
    (k : W p l e R s m args below meth c H locs cells slots Q (F0 m (pc + 2) ls (.ref (e0 1) :: rest))) : W p l e R s m args below meth c H locs cells slots Q (F0 m pc ls rest) :=
  va_ldcM hexec hb hown hlink hok.2.1.2.1.2.2.2.1 hdg k
/-- getClass of a list's array -/
def mp_gc (cA : ClassId) (M : mo_M) (a : Nat) (N : Prop) : Prop := (∃ x : vp_A, M a = some (.inl (cA, x))) ∧ N
theorem mr_gc {own : String} {index : Nat} {cA : ClassId} {P : Prop} (hexec : p.tables.exec = Jvm.exec) (hb : c.code = cc) (hml : c.maxLocals = ls.size) (hown : s.vm.findClass own = some m.cls) (hok : mo_ok L0 e0 D vwCl tys s M H locs) (hP : mp_gc cA M a P) (t0 : Nat) (ht : tys[t0]? = some (cA, .object "java/lang/Object")) (hlink : (Cond.methodLink own index ⟨"java/lang/Object", "getClass", "()Ljava/lang/Class;"⟩).before args s = true) (hdecl : va_Nw (.declares ⟨"java/lang/Object", "getClass", "()Ljava/lang/Class;"⟩) s)
    (hsel : (Cond.selects "[Ljava/lang/Object;" ⟨"java/lang/Object", "getClass", "()Ljava/lang/Class;"⟩ ⟨"java/lang/Object", "getClass", "()Ljava/lang/Class;"⟩).before args s = true) (hinst : (Cond.instanceMethod ⟨"java/lang/Object", "getClass", "()Ljava/lang/Class;"⟩).before args s = true) (hnat : (Cond.native ⟨"java/lang/Object", "getClass", "()Ljava/lang/Class;"⟩).before args s = true)
    (hframes : 1 ≤ R.frames) (hlocals : (rest.map fun v => v.category).sum + 14 ≤ R.locals) (hdg : decode cc pc = .ok (.invokevirtual index, 3))
    (kk : P → W p l e R s m args below meth c H locs cells slots Q (F0 m (pc + 3) ls (.ref (e0 1) :: rest))) : W p l e R s m args below meth c H locs cells slots Q (F0 m pc ls (.ref a :: rest)) := by
  obtain ⟨⟨x, he⟩, hN⟩ := hP
  obtain ⟨h0, ⟨hK, hE⟩, hI, hS⟩ := hok
  have hat : H[a]? = some (vp_cell cA x) := mo_has hI he
  have hvm0 : (vp_cell cA x).vm = .none := by
    obtain ⟨n, f | f | f | f | f⟩ := x <;> rfl
  have hcl0 : (vp_cell cA x).cls = cA := by
    obtain ⟨n, f | f | f | f | f⟩ := x <;> rfl
  exact va_getC hexec hb hml hown hlink (va_Nw.use rfl hdecl) hsel hinst hnat hE.1.2.2.2.1 ⟨_, hat, by rw [hvm0]; rfl, by rw [hcl0]; exact va_nmO (hK.2 t0 _ ht).2 rfl⟩ hframes hlocals hdg (kk hN)
theorem mr_mn {own nm : String} {index : Nat} {ty : FieldType} {cO cI : ClassId} {n k : Int32} {x : (Nat → Int32) ⊕ (Nat → Int64) ⊕ (Nat → UInt32) ⊕ (Nat → UInt64) ⊕ (Nat → Option Nat)} {P : Nat → mo_M → Prop} (hexec : p.tables.exec = Jvm.exec) (hb : c.code = cc) (hown : s.vm.findClass own = some m.cls) (hok : mo_ok L0 e0 D vwCl tys s M H locs) (hP : mp_mn cO cI M n k x P) (hnm : "[" ++ (FieldType.array ty).toString = nm) (hclink : (Cond.classLink own index nm).before args s = true) (hover : mo_AA ty s) (harr : (Cond.arrayClass ty).before args s = true) (tO tI : Nat) (htO : tys[tO]? = some (cO, .array ty)) (htI : tys[tI]? = some (cI, ty)) (hnI : va_RA s cI ty → s.vm.findClass (FieldType.array ty).toString = some cI) (hby : componentBytes ty ≤ 8) (hdf : fits ty (defaultValue ty) = true) (hdd : (defaultValue ty).isDefault = true) (hx : ∀ K' : Nat, vp_cell cI (K', x) = arrV cI K' (fun _ => defaultValue ty)) (hcells : cells + (1 + n.toNatClampNeg) ≤ R.cells) (hslots : slots + (n.toNatClampNeg + n.toNatClampNeg * k.toNatClampNeg) ≤ R.slots) (hdg : decode cc pc = .ok (.multianewarray index 2, 4))
    (kk : ∀ (q : Nat) (M1 : mo_M) (H1 : Heap), P q M1 → mo_ok L0 e0 D vwCl tys s M1 H1 locs → W p l e R s m args below meth c H1 locs (cells + 1 + n.toNatClampNeg) (slots + n.toNatClampNeg + n.toNatClampNeg * k.toNatClampNeg) Q (F0 m (pc + 4) ls (.ref q :: rest))) : W p l e R s m args below meth c H locs cells slots Q (F0 m pc ls (.int k :: .int n :: rest)) := by
  subst hnm
  obtain ⟨h0, ⟨hK, hE⟩, hI, hS⟩ := hok
  obtain ⟨hn, hk, hle1, hle2, hP⟩ := hP
  intro T hT X
  obtain ⟨vm₁, cA, comp, -, fA, fC, -, -, X', step⟩ := X.multianewarray2F hexec hown hclink hover harr (g := F0 m pc ls (.int k :: .int n :: rest)) rfl (by rw [hb]; exact hdg) rfl hn hk (by omega) (Nat.le_trans (Nat.mul_le_mul hle2 hby) (by decide)) (by omega) hdf hdd hcells hslots
  have e1 : cA = cO := Option.some.inj (fA.symm.trans (hK.2 tO _ htO).2)
  have e2 : comp = cI := Option.some.inj (fC.symm.trans (hnI (hK.2 tI _ htI).2))
  subst e1
  subst e2
  have hTh : (T.setVm vm₁).heap = H := hT
  obtain ⟨f1, f2, -, -⟩ := Jvm.Free.Multi.fill_facts (T.setVm vm₁) cA comp n.toNatClampNeg k.toNatClampNeg (defaultValue ty) n.toNatClampNeg
  have f3 := fun (q : Nat) (hq : q < (T.setVm vm₁).heap.size) => Jvm.Free.Multi.fill_old (T.setVm vm₁) cA comp n.toNatClampNeg k.toNatClampNeg (defaultValue ty) (a := q) hq n.toNatClampNeg
  have f4 := fun (j : Nat) (hj : j < n.toNatClampNeg) => Jvm.Free.Multi.fill_inner (T.setVm vm₁) cA comp n.toNatClampNeg k.toNatClampNeg (defaultValue ty) n.toNatClampNeg j hj
  generalize hF : Jvm.Free.Multi.fill (T.setVm vm₁) cA comp n.toNatClampNeg k.toNatClampNeg (defaultValue ty) n.toNatClampNeg = F at X' step f1 f2 f3 f4
  rw [hTh] at f1 f2 f3 f4
  have hO : Jvm.Free.Multi.outerC cA n.toNatClampNeg H.size n.toNatClampNeg = vp_cell cA (n.toNatClampNeg, .inr (.inr (.inr (.inr (fun i => if i < n.toNatClampNeg then some (H.size + 1 + i) else none))))) := by
    rw [vp_cell_q]
    exact mo_outer cA n.toNatClampNeg H.size n.toNatClampNeg
  rw [hO] at f2
  have hin := mo_crN (H1 := F.heap) hI (Nat.le_trans h0 hS.1) f3 (fun j => if j = 0 then .inl (cA, n.toNatClampNeg, .inr (.inr (.inr (.inr (fun i => if i < n.toNatClampNeg then some (H.size + 1 + i) else none))))) else .inl (comp, k.toNatClampNeg, x)) (n.toNatClampNeg + 1) (fun j hj => by
    by_cases hj0 : j = 0
    · subst hj0
      simp only [if_true]
      exact f2
    · simp only [if_neg hj0]
      have h9 := f4 (j - 1) (by omega)
      rw [show H.size + 1 + (j - 1) = H.size + j by omega] at h9
      show F.heap[H.size + j]? = some (vp_cell _ _)
      rw [h9, hx, ← arrV_new]
      rfl)
  have hmem : (fun b => if H.size ≤ b ∧ b < H.size + (n.toNatClampNeg + 1) then some ((fun j => if j = 0 then (.inl (cA, n.toNatClampNeg, .inr (.inr (.inr (.inr (fun i => if i < n.toNatClampNeg then some (H.size + 1 + i) else none))))) : va_E) else .inl (comp, k.toNatClampNeg, x)) (b - H.size)) else M b) = mo_mn M H.size n.toNatClampNeg k.toNatClampNeg cA comp x := by
    funext b
    unfold mo_mn
    by_cases hb0 : b = H.size
    · subst hb0
      simp
    · by_cases hb1 : H.size < b ∧ b ≤ H.size + n.toNatClampNeg
      · rw [if_pos (by omega), if_neg hb0, if_pos hb1]
        simp only [if_neg (show ¬ b - H.size = 0 by omega)]
      · rw [if_neg (by omega), if_neg hb0, if_neg hb1]
  rw [hmem] at hin
  obtain ⟨t, a1, b1⟩ := kk H.size _ F.heap (hP _ (mo_frs hI)) ⟨h0, ⟨hK, hE⟩, hin, mo_crS hS (by omega) f3⟩ F rfl X'
  exact ⟨t, step t (by rw [hT]; exact a1), b1⟩
end MR2
