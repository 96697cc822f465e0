/-! more of the map kit: arrays of references, copies, a grid at one stroke -/
def mp_so (cA : ClassId) (M : mo_M) (a : Nat) (i : Int32) (v : Nat) (N : mo_M → Prop) : Prop := ∃ (n : Nat) (f : Nat → Option Nat), M a = some (.inl (cA, n, .inr (.inr (.inr (.inr f))))) ∧ vp_in i n ∧ (mp_is M v 2 ∨ mp_is M v 3) ∧ N (va_up M a (some (.inl (cA, n, .inr (.inr (.inr (.inr (va_up f i.toNatClampNeg (some v)))))))))
def mp_sk (cA : ClassId) (M : mo_M) (a : Nat) (i : Int32) (v : Nat) (N : mo_M → Prop) : Prop := ∃ (n : Nat) (f : Nat → Option Nat), M a = some (.inl (cA, n, .inr (.inr (.inr (.inr f))))) ∧ vp_in i n ∧ mp_is M v 1 ∧ N (va_up M a (some (.inl (cA, n, .inr (.inr (.inr (.inr (va_up f i.toNatClampNeg (some v)))))))))
def mp_sn (cA : ClassId) (M : mo_M) (a : Nat) (i : Int32) (N : mo_M → Prop) : Prop := ∃ (n : Nat) (f : Nat → Option Nat), M a = some (.inl (cA, n, .inr (.inr (.inr (.inr f))))) ∧ vp_in i n ∧ N (va_up M a (some (.inl (cA, n, .inr (.inr (.inr (.inr (va_up f i.toNatClampNeg none))))))))
def mp_cl (cA : ClassId) (M : mo_M) (a0 : Nat) (sp : Int32) (a : Nat) (dp n : Int32) (N : mo_M → Prop) : Prop := ∃ (n0 n1 : Nat) (f h : Nat → Int64), M a0 = some (.inl (cA, n0, .inr (.inl f))) ∧ M a = some (.inl (cA, n1, .inr (.inl h))) ∧ (¬ sp < 0 ∧ ¬ dp < 0 ∧ ¬ n < 0) ∧ sp.toNatClampNeg + n.toNatClampNeg ≤ n0 ∧ dp.toNatClampNeg + n.toNatClampNeg ≤ n1 ∧ N (va_up M a (some (.inl (cA, n1, .inr (.inl (va_cpy f h sp.toNatClampNeg dp.toNatClampNeg n.toNatClampNeg))))))
def mp_cq (cA : ClassId) (M : mo_M) (a0 : Nat) (sp : Int32) (a : Nat) (dp n : Int32) (N : mo_M → Prop) : Prop := ∃ (n0 n1 : Nat) (f h : Nat → Option Nat), M a0 = some (.inl (cA, n0, .inr (.inr (.inr (.inr f))))) ∧ M a = some (.inl (cA, n1, .inr (.inr (.inr (.inr h))))) ∧ (¬ sp < 0 ∧ ¬ dp < 0 ∧ ¬ n < 0) ∧ sp.toNatClampNeg + n.toNatClampNeg ≤ n0 ∧ dp.toNatClampNeg + n.toNatClampNeg ≤ n1 ∧ (∀ i, i < n.toNatClampNeg → ∀ y, f (sp.toNatClampNeg + i) = some y → mp_is M y 2 ∨ mp_is M y 3) ∧ N (va_up M a (some (.inl (cA, n1, .inr (.inr (.inr (.inr (va_cpy f h sp.toNatClampNeg dp.toNatClampNeg n.toNatClampNeg))))))))
/-- q holds n rows of k, at the next n addresses -/
def mo_mn (M : mo_M) (q n k : Nat) (cO cI : ClassId) (x : (Nat → Int32) ⊕ (Nat → Int64) ⊕ (Nat → UInt32) ⊕ (Nat → UInt64) ⊕ (Nat → Option Nat)) : mo_M := fun b => if b = q then some (.inl (cO, n, .inr (.inr (.inr (.inr (fun i => if i < n then some (q + 1 + i) else none)))))) else if q < b ∧ b ≤ q + n then some (.inl (cI, k, x)) else M b
def mp_mn (cO cI : ClassId) (M : mo_M) (n k : Int32) (x : (Nat → Int32) ⊕ (Nat → Int64) ⊕ (Nat → UInt32) ⊕ (Nat → UInt64) ⊕ (Nat → Option Nat)) (N : Nat → mo_M → Prop) : Prop := ¬ n < 0 ∧ ¬ k < 0 ∧ n.toNatClampNeg ≤ 1000000 ∧ k.toNatClampNeg ≤ 1000000 ∧ ∀ q, mo_fr M q → N q (mo_mn M q n.toNatClampNeg k.toNatClampNeg cO cI x)
/-- cells after the old ones: a row of them -/
theorem mo_crN {L0 : Nat} {D : va_G} {cl : List vw_C} {M : mo_M} {H H1 : Heap} (h : mo_in L0 D cl M H) (h0 : L0 ≤ H.size) (oq : ∀ q : Nat, q < H.size → H1[q]? = H[q]?) (e : Nat → va_E) : ∀ n : Nat, (∀ j, j < n → va_at D cl (H.size + j, e j) H1) → mo_in L0 D cl (fun b => if H.size ≤ b ∧ b < H.size + n then some (e (b - H.size)) else M b) H1
  | 0, _ => by
    obtain ⟨L, f, hM, hP, hD⟩ := h
    refine ⟨L, f, fun a e' ha => hM a e' ?_, hP.kept (fun k x hx => oq x.1 ((hP k x hx).lt)), hD⟩
    dsimp only at ha
    rw [if_neg (by omega)] at ha
    exact ha
  | n + 1, he => by
    obtain ⟨L, f, hM, hP, hD⟩ := mo_crN h h0 oq e n (fun j hj => he j (by omega))
    have hlt : ∀ a, a ∈ L → ∃ e', (va_pl L f)[e']? = some (a, f a) := fun a ha => by
      obtain ⟨k, hk⟩ := va_pl_get (X := []) (f := f) ha
      exact ⟨k, hk⟩
    by_cases hin : H.size + n ∈ L
    · obtain ⟨k, hk⟩ := hlt _ hin
      refine ⟨L, va_up f (H.size + n) (e n), fun a e' ha => ?_, ?_, ?_⟩
      · dsimp only at ha
        by_cases q : a = H.size + n
        · subst q
          rw [if_pos (by omega), show H.size + n - H.size = n by omega] at ha
          cases ha
          exact ⟨hin, va_up_self _ _ _⟩
        · have ha' : (if H.size ≤ a ∧ a < H.size + n then some (e (a - H.size)) else M a) = some e' := by
            by_cases c : H.size ≤ a ∧ a < H.size + n
            · rw [if_pos c]; rw [if_pos (by omega)] at ha; exact ha
            · rw [if_neg c]; rw [if_neg (by omega)] at ha; exact ha
          obtain ⟨g1, g2⟩ := hM a e' ha'
          exact ⟨g1, by rw [va_up_ne _ _ q]; exact g2⟩
      · exact mo_setP hD hin rfl hk (hP.set hD hk (he n (by omega)) (fun _ _ => rfl))
      · exact mo_setD hD hin rfl hk
    · refine ⟨L ++ [H.size + n], va_up f (H.size + n) (e n), fun a e' ha => ?_, ?_, ?_⟩
      · dsimp only at ha
        by_cases q : a = H.size + n
        · subst q
          rw [if_pos (by omega), show H.size + n - H.size = n by omega] at ha
          cases ha
          exact ⟨List.mem_append_right _ List.mem_cons_self, va_up_self _ _ _⟩
        · have ha' : (if H.size ≤ a ∧ a < H.size + n then some (e (a - H.size)) else M a) = some e' := by
            by_cases c : H.size ≤ a ∧ a < H.size + n
            · rw [if_pos c]; rw [if_pos (by omega)] at ha; exact ha
            · rw [if_neg c]; rw [if_neg (by omega)] at ha; exact ha
          obtain ⟨g1, g2⟩ := hM a e' ha'
          exact ⟨List.mem_append_left _ g1, by rw [va_up_ne _ _ q]; exact g2⟩
      · rw [← va_pl_push hin]
        refine va_P.app hP (fun k x hx => ?_)
        have hz : k < 1 := (List.getElem?_eq_some_iff.mp hx).1
        rw [show k = 0 by omega] at hx
        cases hx
        exact he n (by omega)
      · rw [← va_pl_push hin]
        refine va_D.app hD ⟨fun i j x y hx hy _ => ?_, fun k x hx => ?_⟩ (fun i j x y hx hy hxy => ?_)
        · have h1 : i < 1 := (List.getElem?_eq_some_iff.mp hx).1
          have h2 : j < 1 := (List.getElem?_eq_some_iff.mp hy).1
          omega
        · have hz : k < 1 := (List.getElem?_eq_some_iff.mp hx).1
          rw [show k = 0 by omega] at hx
          cases hx
          show L0 ≤ H.size + n
          omega
        · have hz : j < 1 := (List.getElem?_eq_some_iff.mp hy).1
          rw [show j = 0 by omega] at hy
          cases hy
          obtain ⟨a, ha, rfl⟩ := List.mem_map.mp (List.mem_of_getElem? hx)
          exact hin ((show a = H.size + n from hxy) ▸ ha)
/-! a grid at one stroke -/
/-- the row of rows, i of them laid -/
def mn_O (cO : ClassId) (N q i : Nat) : Cell := arrV cO N (fun j => va_rf (if j < i then some (q + 1 + j) else none))
def mn_I (cI : ClassId) (K : Nat) (dv : Value) : Cell := { cls := cI, slots := Array.replicate K dv, vm := .none }
def mn_st (U : State) (cO cI : ClassId) (N K : Nat) (dv : Value) : Nat → State
  | 0 => U.pushCell (mn_O cO N U.heap.size 0)
  | i + 1 => ((mn_st U cO cI N K dv i).pushCell (mn_I cI K dv)).setCell U.heap.size (mn_O cO N U.heap.size (i + 1))
theorem mn_O0 (cO : ClassId) (N q : Nat) : ({ cls := cO, slots := Array.replicate N .null, vm := .none } : Cell) = mn_O cO N q 0 := by
  rw [arrV_new]
  exact congrArg (arrV cO N) (funext fun j => by simp [va_rf])
theorem mn_Os (cO : ClassId) (N q i : Nat) : (mn_O cO N q i).setSlot i (.ref (q + 1 + i)) = mn_O cO N q (i + 1) := by
  unfold mn_O
  rw [arrV_store]
  refine congrArg (arrV cO N) (funext fun j => ?_)
  rcases Nat.lt_trichotomy j i with h | h | h
  · simp [updV, Nat.ne_of_lt h, h, Nat.lt_succ_of_lt h]
  · subst h
    simp [updV, va_rf]
  · simp [updV, Nat.ne_of_gt h, Nat.not_lt_of_gt h, show ¬ j < i + 1 by omega]
theorem mn_ft (U : State) (cO cI : ClassId) (N K : Nat) (dv : Value) : ∀ i, (mn_st U cO cI N K dv i).heap.size = U.heap.size + 1 + i ∧ (mn_st U cO cI N K dv i).heap[U.heap.size]? = some (mn_O cO N U.heap.size i) ∧ (mn_st U cO cI N K dv i).vm = U.vm ∧ (mn_st U cO cI N K dv i).slotsUsed = U.slotsUsed + N + i * K ∧
    (∀ a : Nat, a < U.heap.size → (mn_st U cO cI N K dv i).heap[a]? = U.heap[a]?) ∧ (∀ j : Nat, j < i → (mn_st U cO cI N K dv i).heap[U.heap.size + 1 + j]? = some (mn_I cI K dv))
  | 0 => by
    refine ⟨by simp [mn_st], by simp [mn_st], rfl, ?_, fun a ha => State.heap_pushCell_of_lt _ _ ha, fun j hj => absurd hj (Nat.not_lt_zero _)⟩
    simp [mn_st, mn_O, arrV_size]
  | i + 1 => by
    obtain ⟨h1, h2, h3, h4, h5, h6⟩ := mn_ft U cO cI N K dv i
    have low : ∀ a : Nat, a < U.heap.size + 1 + i → ((mn_st U cO cI N K dv i).pushCell (mn_I cI K dv)).heap[a]? = (mn_st U cO cI N K dv i).heap[a]? := fun a ha => State.heap_pushCell_of_lt _ _ (by rw [h1]; exact ha)
    have off : ∀ a : Nat, a ≠ U.heap.size → (mn_st U cO cI N K dv (i + 1)).heap[a]? = ((mn_st U cO cI N K dv i).pushCell (mn_I cI K dv)).heap[a]? := fun a ha => State.heap_setCell_other (Ne.symm ha)
    refine ⟨?_, State.heap_setCell_self (c := mn_O cO N U.heap.size i) (by rw [low _ (by omega)]; exact h2), by simp [mn_st, h3], ?_, fun a ha => ?_, fun j hj => ?_⟩
    · simp [mn_st, State.setCell, h1]
      omega
    · simp [mn_st, h4, mn_I, Nat.succ_mul]
      omega
    · rw [off a (by omega), low a (by omega)]
      exact h5 a ha
    · rw [off _ (by omega)]
      by_cases q : j = i
      · rw [q, ← h1]
        exact State.heap_pushCell_size _ _
      · rw [low _ (by omega)]
        exact h6 j (by omega)
theorem mn_top (U : State) (f : JFrame) (cO cI : ClassId) (N K : Nat) (dv : Value) : ∀ i, mn_st (U.setTop f) cO cI N K dv i = (mn_st U cO cI N K dv i).setTop f
  | 0 => rfl
  | i + 1 => by
    simp only [mn_st, mn_top U f cO cI N K dv i, State.heap_setTop, State.pushCell_setTop, State.setCell_setTop]
section MNW
variable {E : CtlPost} {e : Env} {d : Bool} {acts : List Action} {U : State}
theorem mn_new {cc comp : ClassId} {kl : Class} {ty : FieldType} {n : Nat} {v : Value} (hk : U.vm.classes[cc]? = some kl) (hkd : kl.kind = .array comp ty) (h1 : n ≤ e.platform.arrayLengthLimit) (h2 : n * componentBytes ty ≤ e.platform.maxHeapBytes) (hf : fits ty v = true) (hd : v.isDefault = true) {Q : Addr → Pre}
    (h3 : U.heap.size < e.platform.maxCells) (h4 : U.slotsUsed + n ≤ e.platform.maxSlots) (hq : Q U.heap.size d acts (U.pushCell { cls := cc, slots := Array.replicate n v, vm := .none })) : wp (Jvm.newArray cc n v) Q E e d acts U := by
  have ha : allocActs (Array.replicate n v) U.heap.size acts = acts := by
    unfold allocActs
    refine if_pos ?_
    rw [Array.all_replicate]
    split
    · rfl
    · exact hd
  have hs : ∀ i w, (Array.replicate n v)[i]? = some w → U.fitsSlot cc .none i w = true := fun i w hw => by
    rw [Array.getElem?_replicate] at hw
    by_cases q : i < n
    · rw [if_pos q] at hw
      cases hw
      simp [State.fitsSlot, State.slotType?, hk, hkd, hf]
    · rw [if_neg q] at hw
      cases hw
  simp only [Jvm.newArray, Jvm.arrayFits, wp_bind', W.ask, W.ite, Nat.not_lt.mpr h1, gt_iff_lt, if_false, wp_pure', W.theClass, hk, hkd, Nat.not_lt.mpr h2, W.alloc, W.stop, Option.some.injEq, exists_eq_left', Array.size_replicate, ha]
  rw [if_neg (by omega)]
  exact ⟨h3, h4, hs, hq⟩
theorem mn_make {cO cI cE : ClassId} {kO kI : Class} {ty : FieldType} {n k : Int32} (hO : U.vm.classes[cO]? = some kO) (hOk : kO.kind = .array cI (.array ty)) (hI : U.vm.classes[cI]? = some kI) (hIk : kI.kind = .array cE ty) (hn : ¬ n < 0) (hk : ¬ k < 0)
    (h1 : n.toNatClampNeg ≤ e.platform.arrayLengthLimit) (h2 : n.toNatClampNeg * componentBytes (.array ty) ≤ e.platform.maxHeapBytes) (h3 : k.toNatClampNeg ≤ e.platform.arrayLengthLimit) (h4 : k.toNatClampNeg * componentBytes ty ≤ e.platform.maxHeapBytes) (hdf : fits ty (defaultValue ty) = true) (hdd : (defaultValue ty).isDefault = true)
    (h5 : U.heap.size + 1 + n.toNatClampNeg ≤ e.platform.maxCells) (h6 : U.slotsUsed + n.toNatClampNeg + n.toNatClampNeg * k.toNatClampNeg ≤ e.platform.maxSlots) {Q : Addr → Pre}
    (hq : ∀ d' acts', Q U.heap.size d' acts' (mn_st U cO cI n.toNatClampNeg k.toNatClampNeg (defaultValue ty) n.toNatClampNeg)) : wp (multianewarray.make cO [n, k]) Q E e d acts U := by
  have hz : ([k].find? (· < 0)) = none := by simp [hk]
  rw [multianewarray.make]
  simp only [wp_bind', W.ite, hn, if_false, wp_pure', W.theClass, hO, hOk, Option.some.injEq, exists_eq_left', hz, ite_self]
  refine mn_new hO hOk h1 h2 rfl rfl (by omega) (by have := Nat.zero_le (n.toNatClampNeg * k.toNatClampNeg); omega) ?_
  rw [mn_O0 cO n.toNatClampNeg U.heap.size, wp_bind', Std.Legacy.Range.forIn_eq_forIn_range', show ([:n.toNatClampNeg] : Std.Legacy.Range).size = n.toNatClampNeg by simp [Std.Legacy.Range.size]]
  refine wp_forIn_inv (fun r V => r.length ≤ n.toNatClampNeg ∧ r = List.range' (n.toNatClampNeg - r.length) r.length ∧ V = mn_st U cO cI n.toNatClampNeg k.toNatClampNeg (defaultValue ty) (n.toNatClampNeg - r.length)) _ _ ?_ ?_ ?_
  · rw [List.length_range']
    exact ⟨Nat.le_refl _, by rw [Nat.sub_self], by rw [Nat.sub_self]; rfl⟩
  · rintro x r V d' acts' Q' ⟨hl, hr, rfl⟩ hnext
    rw [List.length_cons] at hl hr
    rw [List.range'_succ] at hr
    obtain ⟨hx, hr⟩ := List.cons.inj hr
    rw [List.length_cons, ← hx]
    have hx1 : n.toNatClampNeg - r.length = x + 1 := by omega
    obtain ⟨f1, f2, f3, f4, -, -⟩ := mn_ft U cO cI n.toNatClampNeg k.toNatClampNeg (defaultValue ty) x
    have hm : x * k.toNatClampNeg + k.toNatClampNeg ≤ n.toNatClampNeg * k.toNatClampNeg := by
      rw [← Nat.succ_mul]
      exact Nat.mul_le_mul_right _ (by omega)
    rw [wp_bind', multianewarray.make]
    simp only [wp_bind', W.ite, hk, if_false, wp_pure', W.theClass, f3, hI, hIk, Option.some.injEq, exists_eq_left']
    refine mn_new (by rw [f3]; exact hI) hIk h3 h4 hdf hdd (by rw [f1]; omega) (by rw [f4]; omega) ?_
    simp only [wp_bind', W.writeLoc, wp_pure']
    have lt : U.heap.size < (mn_st U cO cI n.toNatClampNeg k.toNatClampNeg (defaultValue ty) x).heap.size := by rw [f1]; omega
    refine ⟨mn_O cO n.toNatClampNeg U.heap.size x, (State.heap_pushCell_of_lt _ _ lt).trans f2, (fun q => by cases q), (by unfold mn_O; rw [arrV_size]; omega), ?_, hnext _ _ _ ⟨by omega, ?_, ?_⟩⟩
    · show State.fitsSlot _ cO .none x _ = true
      simp [State.fitsSlot, State.slotType?, f3, hO, hOk, fits]
    · rw [hx1, hx]
      exact hr
    · rw [hx1, f1, mn_Os]
      rfl
  · rintro V d' acts' ⟨-, -, rfl⟩
    exact hq _ _
end MNW
section MNS
variable {p : Program} {l : Launch} {e : Env} {R : Room} {s : State} {m : MethodId} {args : Array Value} {below : List Frame} {meth : Method} {c : Code} {T : State} {locs : List Loc} {cells slots : Nat}
theorem mn_X (X : Stand p l e R s m args below meth c T locs cells slots) (cO cI : ClassId) (N K : Nat) (dv : Value) : ∀ i, Stand p l e R s m args below meth c (mn_st T cO cI N K dv i) locs (cells + 1 + i) (slots + N + i * K)
  | 0 => by
    have h := X.pushed (mn_O cO N T.heap.size 0)
    rw [show (mn_O cO N T.heap.size 0).slots.size = N from arrV_size _ _ _] at h
    rw [Nat.zero_mul]
    exact h
  | i + 1 => by
    obtain ⟨f1, f2, -⟩ := mn_ft T cO cI N K dv i
    have lt : T.heap.size < (mn_st T cO cI N K dv i).heap.size := by rw [f1]; omega
    have h := ((mn_X X cO cI N K dv i).pushed (mn_I cI K dv)).stored ((State.heap_pushCell_of_lt _ _ lt).trans f2) i (.ref (T.heap.size + 1 + i))
    rw [mn_Os, show (mn_I cI K dv).slots.size = K by simp [mn_I]] at h
    rw [Nat.succ_mul, ← Nat.add_assoc (slots + N)]
    exact h.dropFresh (fun x hx => by rw [List.mem_singleton.mp hx]; exact X.heapGrown)
theorem mn_step (X : Stand p l e R s m args below meth c T locs cells slots) (hexec : p.tables.exec = Jvm.exec) {own : String} {index : Nat} {ty : FieldType} (hown : s.vm.findClass own = some m.cls) (hlink : (Cond.classLink own index ("[" ++ (FieldType.array ty).toString)).before args s = true)
    {cO cI : ClassId} (hO : s.vm.findClass ("[" ++ (FieldType.array ty).toString) = some cO) (hOk : ∃ kO, s.vm.classes[cO]? = some kO ∧ kO.kind = .array cI (.array ty)) (hIk : ∃ kI cE, s.vm.classes[cI]? = some kI ∧ kI.kind = .array cE ty)
    {g : JFrame} (hg : g.method = m) (hdg : decode c.code g.pc = .ok (.multianewarray index 2, 4)) {n k : Int32} {rest : List Value} (hst : g.stack = .int k :: .int n :: rest) (hn : ¬ n < 0) (hk : ¬ k < 0) (hb1 : n.toNatClampNeg * 4 ≤ 536870912) (hb2 : k.toNatClampNeg * componentBytes ty ≤ 536870912) (hb3 : k.toNatClampNeg ≤ 536870912)
    (hdf : fits ty (defaultValue ty) = true) (hdd : (defaultValue ty).isDefault = true) (hcells : cells + (1 + n.toNatClampNeg) ≤ R.cells) (hslots : slots + (n.toNatClampNeg + n.toNatClampNeg * k.toNatClampNeg) ≤ R.slots) :
    ∃ vm₁ : Vm, Stand p l e R s m args below meth c (mn_st (T.setVm vm₁) cO cI n.toNatClampNeg k.toNatClampNeg (defaultValue ty) n.toNatClampNeg) locs (cells + 1 + n.toNatClampNeg) (slots + n.toNatClampNeg + n.toNatClampNeg * k.toNatClampNeg) ∧
      ∀ target, Steps p.tables e below ((mn_st (T.setVm vm₁) cO cI n.toNatClampNeg k.toNatClampNeg (defaultValue ty) n.toNatClampNeg).setTop { g with pc := g.pc + 4, stack := .ref T.heap.size :: rest }) target → Steps p.tables e below (T.setTop g) target := by
  subst hg
  obtain ⟨c1, hc1, hl1⟩ := Cond.classLink_spec hown hlink e.platform (by rw [X.admits.platform])
  cases Option.some.inj (hc1.symm.trans hO)
  obtain ⟨kO, hOc, hOk⟩ := hOk
  obtain ⟨kI, cE, hIc, hIk⟩ := hIk
  obtain ⟨hgv, hW, -⟩ := State.classEntry (e := e) X.warmed hl1
  refine ⟨T.vm.noted g.method.cls index (.cls cO), ?_⟩
  generalize T.vm.noted g.method.cls index (.cls cO) = vm₁ at hgv hW
  obtain ⟨kO', hOc', eO⟩ := hW.alike.2.2 _ _ hOc
  obtain ⟨kI', hIc', eI⟩ := hW.alike.2.2 _ _ hIc
  have XF := mn_X (X.noted hW) cO cI n.toNatClampNeg k.toNatClampNeg (defaultValue ty) n.toNatClampNeg
  obtain ⟨r1, r2⟩ := X.roomAbove hcells hslots
  refine ⟨XF, fun target hrest => ?_⟩
  jvm_step X.here [hexec, hdg]
  simp only [multianewarray.sem, wp_bind', W.resolveClassAt_links (State.method?_setTop g X.here.top) hgv]
  rw [W.popN, if_neg (by decide)]
  refine ⟨g, State.topJava?_setTop' (s := T.setVm vm₁) g X.here.top, [.int n, .int k], rest, rfl, hst, ?_⟩
  simp only [List.mapM_cons, List.mapM_nil, wp_bind', wp_pure']
  have eS : ((T.setTop g).setVm vm₁).setTop { g with stack := rest } = (T.setVm vm₁).setTop { g with stack := rest } := State.setTop_setTop (s := T.setVm vm₁) (f := g) (g := { g with stack := rest })
  rw [eS]
  refine mn_make (kO := kO') (kI := kI') (cE := cE) hOc' (by rw [eO]; exact hOk) hIc' (by rw [eI]; exact hIk) hn hk (by rw [Launch.admits_arrayLengthLimit X.admits]; omega) (by rw [Launch.admits_maxHeapBytes X.admits]; exact hb1) (by rw [Launch.admits_arrayLengthLimit X.admits]; omega) (by rw [Launch.admits_maxHeapBytes X.admits]; exact hb2) hdf hdd
    (by show T.heap.size + 1 + _ ≤ _; omega) (by show T.slotsUsed + _ + _ ≤ _; omega) (fun d' acts' => ?_)
  rw [mn_top]
  simp only [wp_bind', W.mark, W.pushRef, State.topJava?_setTop' _ XF.here.top, Option.some.injEq, exists_eq_left', State.setTop_setTop, State.heap_setTop]
  intro acts
  simp [jvm, XF.here.top]
  exact hrest
/-- the class of rows of rows, as the word tells it -/
theorem mn_cls {ty : FieldType} (hover : (Cond.arrayOver (.array ty)).before args s = true) : ∃ comp c k, s.vm.findClass (FieldType.array ty).toString = some comp ∧ s.vm.classes[c]? = some k ∧ k.kind = .array comp (.array ty) ∧ s.vm.findClass ("[" ++ (FieldType.array ty).toString) = some c := by
  have h' := hover
  simp only [Cond.before, Cond.holds, Cond.value, beq_iff_eq, Option.bind_eq_some_iff, Option.map_eq_some_iff] at h'
  obtain ⟨comp, h1, c, h2, k, h3, h4⟩ := h'
  obtain ⟨hlt, hp, -⟩ := Array.findIdx?_eq_some_iff_getElem.mp h2
  rw [(Array.getElem?_eq_some_iff.mp h3).2] at hp
  cases hk : k.kind with
  | array z ty' =>
    rw [hk] at h4 hp
    simp at h4 hp
    exact ⟨comp, c, k, h1, h3, by rw [hk, hp, h4.1], h4.2⟩
  | _ =>
    rw [hk] at h4
    simp at h4
end MNS
section MR2
variable {p : Program} {l : Launch} {e : Env} {R : Room} {s : State} {m : MethodId} {args : Array Value} {below : List Frame} {meth : Method} {c : Code} {H : Heap} {locs : List Loc} {cells slots : Nat} {Q : State → Prop}
variable {cc : ByteArray} {pc : Nat} {ls : Array Slot} {rest : List Value} {L0 : Nat} {e0 : Nat → Nat} {D : va_G} {a : Nat} {tys : List (ClassId × FieldType)} {M : mo_M}
theorem mo_any (hok : mo_ok L0 e0 D vwCl tys s M H locs) {y : Nat} (h : mp_is M y 2 ∨ mp_is M y 3) : va_Any "java/lang/Object" s H y := by
  obtain ⟨h0, ⟨hK, hE⟩, hI, hS⟩ := hok
  obtain ⟨L, f, hM, hP, hD⟩ := hI
  rcases h with ⟨fs, he⟩ | ⟨fs, he⟩
  · obtain ⟨h1, h2⟩ := hM _ _ he
    obtain ⟨q0, hq⟩ := mo_at (D := D) (cl := vwCl) h1 h2
    refine va_rAny hK hP hq rfl (fun comp c0 g1 g2 => ?_)
    obtain ⟨c1, t1, f1, f2, f3⟩ := Cond.castable_spec (va_Nw.use (A := #[]) rfl (hE.1.1 _ wn_868 rfl))
    cases g2.symm.trans f1
    cases g1.symm.trans f2
    exact f3
  · obtain ⟨h1, h2⟩ := hM _ _ he
    obtain ⟨q0, hq⟩ := mo_at (D := D) (cl := vwCl) h1 h2
    refine va_rAny hK hP hq rfl (fun comp c0 g1 g2 => ?_)
    obtain ⟨c1, t1, f1, f2, f3⟩ := Cond.castable_spec (va_Nw.use (A := #[]) rfl (hE.1.1 _ wn_869 rfl))
    cases g2.symm.trans f1
    cases g1.symm.trans f2
    exact f3
theorem mr_so {cA : ClassId} {i : Int32} {v : Nat} {P : mo_M → Prop} (hexec : p.tables.exec = Jvm.exec) (hb : c.code = cc) (hok : mo_ok L0 e0 D vwCl tys s M H locs) (hP : mp_so cA M a i v P) (t0 : Nat) (ht : tys[t0]? = some (cA, .object "java/lang/Object")) (hdg : decode cc pc = .ok (.aastore, 1))
    (kk : ∀ (M1 : mo_M) (H1 : Heap) (locs1 : List Loc), P M1 → mo_ok L0 e0 D vwCl tys s M1 H1 locs1 → W p l e R s m args below meth c H1 locs1 cells slots Q (F0 m (pc + 1) ls rest)) : W p l e R s m args below meth c H locs cells slots Q (F0 m pc ls (.ref v :: .int i :: .ref a :: rest)) := by
  obtain ⟨n, f, he, hi, his, hN⟩ := hP
  have hany := mo_any hok his
  obtain ⟨h0, ⟨hK, hE⟩, ⟨L, f9, hM, hP, hD⟩, hS⟩ := hok
  obtain ⟨h1, h2⟩ := hM _ _ he
  obtain ⟨q0, hq⟩ := mo_at (D := D) (cl := vwCl) h1 h2
  exact va_astqM hexec hb hK hP hD hS q0 t0 hq ht hany hi hdg (fun H1 locs1 hP1 hD1 hS1 => kk _ H1 locs1 hN ⟨h0, ⟨hK, hE⟩, ⟨L, _, mo_up hM h1, mo_setP hD h1 h2 hq hP1, mo_setD hD h1 h2 hq⟩, hS1⟩)
theorem mr_sk {cA : ClassId} {i : Int32} {v : Nat} {P : mo_M → Prop} (hexec : p.tables.exec = Jvm.exec) (hb : c.code = cc) (hok : mo_ok L0 e0 D vwCl tys s M H locs) (hP : mp_sk cA M a i v P) (t0 : Nat) (ht : tys[t0]? = some (cA, .object "PurseHouse$Kiosk")) (hdg : decode cc pc = .ok (.aastore, 1))
    (kk : ∀ (M1 : mo_M) (H1 : Heap) (locs1 : List Loc), P M1 → mo_ok L0 e0 D vwCl tys s M1 H1 locs1 → W p l e R s m args below meth c H1 locs1 cells slots Q (F0 m (pc + 1) ls rest)) : W p l e R s m args below meth c H locs cells slots Q (F0 m pc ls (.ref v :: .int i :: .ref a :: rest)) := by
  obtain ⟨n, f, he, hi, ⟨vs, hv⟩, hN⟩ := hP
  obtain ⟨h0, ⟨hK, hE⟩, ⟨L, f9, hM, hP, hD⟩, hS⟩ := hok
  obtain ⟨h1, h2⟩ := hM _ _ he
  obtain ⟨g1, g2⟩ := hM _ _ hv
  obtain ⟨q0, hq⟩ := mo_at (D := D) (cl := vwCl) h1 h2
  obtain ⟨qk, hqk⟩ := mo_at (D := D) (cl := vwCl) g1 g2
  exact va_astq (r := ("PurseHouse$Kiosk", F_1, 9)) hexec hb hK hP hD hS q0 t0 qk 1 hq ht hqk rfl hi hdg (fun H1 locs1 hP1 hD1 hS1 => kk _ H1 locs1 hN ⟨h0, ⟨hK, hE⟩, ⟨L, _, mo_up hM h1, mo_setP hD h1 h2 hq hP1, mo_setD hD h1 h2 hq⟩, hS1⟩)
theorem mr_sn {cA : ClassId} {C : String} {i : Int32} {P : mo_M → Prop} (hexec : p.tables.exec = Jvm.exec) (hb : c.code = cc) (hok : mo_ok L0 e0 D vwCl tys s M H locs) (hP : mp_sn cA M a i P) (t0 : Nat) (ht : tys[t0]? = some (cA, .object C)) (hdg : decode cc pc = .ok (.aastore, 1))
    (kk : ∀ (M1 : mo_M) (H1 : Heap) (locs1 : List Loc), P M1 → mo_ok L0 e0 D vwCl tys s M1 H1 locs1 → W p l e R s m args below meth c H1 locs1 cells slots Q (F0 m (pc + 1) ls rest)) : W p l e R s m args below meth c H locs cells slots Q (F0 m pc ls (.null :: .int i :: .ref a :: rest)) := by
  obtain ⟨n, f, he, hi, hN⟩ := hP
  obtain ⟨h0, ⟨hK, hE⟩, ⟨L, f9, hM, hP, hD⟩, hS⟩ := hok
  obtain ⟨h1, h2⟩ := hM _ _ he
  obtain ⟨q0, hq⟩ := mo_at (D := D) (cl := vwCl) h1 h2
  exact va_astqN hexec hb hK hP hD hS q0 t0 hq ht hi hdg (fun H1 locs1 hP1 hD1 hS1 => kk _ H1 locs1 hN ⟨h0, ⟨hK, hE⟩, ⟨L, _, mo_up hM h1, mo_setP hD h1 h2 hq hP1, mo_setD hD h1 h2 hq⟩, hS1⟩)
theorem mr_nq {own C : String} {index : Nat} {cA : ClassId} {n : Int32} {P : Nat → mo_M → Prop} (hexec : p.tables.exec = Jvm.exec) (hb : c.code = cc) (hown : s.vm.findClass own = some m.cls) (hok : mo_ok L0 e0 D vwCl tys s M H locs) (hP : mp_na cA M n (.inr (.inr (.inr (.inr (fun _ => none))))) P) (hclink : (Cond.classLink own index C).before args s = true) (hover : va_AO C s) (t0 : Nat) (ht : tys[t0]? = some (cA, .object C)) (hcells : cells + 1 ≤ R.cells) (hslots : slots + n.toNatClampNeg ≤ R.slots) (hdg : decode cc pc = .ok (.anewarray index, 3))
    (kk : ∀ (q : Nat) (M1 : mo_M) (H1 : Heap), P q M1 → mo_ok L0 e0 D vwCl tys s M1 H1 locs → W p l e R s m args below meth c H1 locs (cells + 1) (slots + n.toNatClampNeg) Q (F0 m (pc + 3) ls (.ref q :: rest))) : W p l e R s m args below meth c H locs cells slots Q (F0 m pc ls (.int n :: rest)) := by
  obtain ⟨h0, ⟨hK, hE⟩, hI, hS⟩ := hok
  obtain ⟨hn, hle, hP⟩ := hP
  refine W.anew hexec hb hown hclink (va_AO.use hover) rfl hdg rfl hn (by omega) hcells hslots fun cA' kA comp f1 f2 f3 f4 => ?_
  have e2 : cA' = cA := Option.some.inj (f1.symm.trans (va_nmO (hK.2 t0 _ ht).2 rfl))
  subst e2
  generalize hH1 : H.push ({ cls := cA', slots := Array.replicate n.toNatClampNeg .null, vm := .none } : Cell) = H1
  have z1 : H1.size = H.size + 1 := by rw [← hH1, Array.size_push]
  have e1 : H1[H.size]? = some (arrV cA' n.toNatClampNeg (fun _ => .null)) := by rw [← hH1, Array.getElem?_push_size, ← arrV_new]
  have o1 : ∀ q : Nat, q < H.size → H1[q]? = H[q]? := fun q hq => by rw [← hH1, Array.getElem?_push, if_neg (Nat.ne_of_lt hq)]
  exact kk H.size _ H1 (hP _ (mo_frs hI)) ⟨h0, ⟨hK, hE⟩, mo_cr hI (Nat.le_trans h0 hS.1) (show H1[H.size]? = some (vp_cell _ _) by rw [vp_cell_q]; exact e1) o1, mo_crS hS (by omega) o1⟩
theorem mr_cl {own : String} {index a0 : Nat} {cA : ClassId} {sp dp n : Int32} {P : mo_M → Prop} (hexec : p.tables.exec = Jvm.exec) (hb : c.code = cc) (hml : c.maxLocals = ls.size) (hown : s.vm.findClass own = some m.cls) (hok : mo_ok L0 e0 D vwCl tys s M H locs) (hP : mp_cl cA M a0 sp a dp n P) (hlink : (Cond.methodLink own index arraycopyName).before args s = true) (hnat : (Cond.native arraycopyName).before args s = true) (hstat : (Cond.static arraycopyName).before args s = true) (hini : (Cond.initialized "java/lang/System").before args s = true) (t0 : Nat) (ht : tys[t0]? = some (cA, .long)) (hframes : 1 ≤ R.frames) (hlocals : (rest.map fun v => v.category).sum + (nativeFrameWords "java/lang/System" "arraycopy" 5 + 11) ≤ R.locals) (hdg : decode cc pc = .ok (.invokestatic index, 3))
    (kk : ∀ (M1 : mo_M) (H1 : Heap) (locs1 : List Loc), P M1 → mo_ok L0 e0 D vwCl tys s M1 H1 locs1 → W p l e R s m args below meth c H1 locs1 cells slots Q (F0 m (pc + 3) ls rest)) : W p l e R s m args below meth c H locs cells slots Q (F0 m pc ls (.int n :: .int dp :: .ref a :: .int sp :: .ref a0 :: rest)) := by
  obtain ⟨n0, n1, f, h, he0, he, ⟨g1, g2, g3⟩, g4, g5, hN⟩ := hP
  obtain ⟨h0, ⟨hK, hE⟩, ⟨L, f9, hM, hP, hD⟩, hS⟩ := hok
  obtain ⟨h1, h2⟩ := hM _ _ he
  obtain ⟨k1, k2⟩ := hM _ _ he0
  obtain ⟨q1, hq1⟩ := mo_at (D := D) (cl := vwCl) h1 h2
  obtain ⟨q0, hq0⟩ := mo_at (D := D) (cl := vwCl) k1 k2
  exact va_copyl hexec hb hml hown hlink hnat hstat hini hK hP hD hS q0 q1 t0 t0 hq0 hq1 ht ht rfl g1 g2 g3 g4 g5 (fun _ _ => rfl) hframes hlocals hdg (fun H1 locs1 hP1 hD1 hS1 => kk _ H1 locs1 hN ⟨h0, ⟨hK, hE⟩, ⟨L, _, mo_up hM h1, mo_setP hD h1 h2 hq1 hP1, mo_setD hD h1 h2 hq1⟩, hS1⟩)
theorem mr_cq {own : String} {index a0 : Nat} {cA : ClassId} {sp dp n : Int32} {P : mo_M → Prop} (hexec : p.tables.exec = Jvm.exec) (hb : c.code = cc) (hml : c.maxLocals = ls.size) (hown : s.vm.findClass own = some m.cls) (hok : mo_ok L0 e0 D vwCl tys s M H locs) (hP : mp_cq cA M a0 sp a dp n P) (hlink : (Cond.methodLink own index arraycopyName).before args s = true) (hnat : (Cond.native arraycopyName).before args s = true) (hstat : (Cond.static arraycopyName).before args s = true) (hini : (Cond.initialized "java/lang/System").before args s = true) (t0 : Nat) (ht : tys[t0]? = some (cA, .object "java/lang/Object")) (hframes : 1 ≤ R.frames) (hlocals : (rest.map fun v => v.category).sum + (nativeFrameWords "java/lang/System" "arraycopy" 5 + 11) ≤ R.locals) (hdg : decode cc pc = .ok (.invokestatic index, 3))
    (kk : ∀ (M1 : mo_M) (H1 : Heap) (locs1 : List Loc), P M1 → mo_ok L0 e0 D vwCl tys s M1 H1 locs1 → W p l e R s m args below meth c H1 locs1 cells slots Q (F0 m (pc + 3) ls rest)) : W p l e R s m args below meth c H locs cells slots Q (F0 m pc ls (.int n :: .int dp :: .ref a :: .int sp :: .ref a0 :: rest)) := by
  obtain ⟨n0, n1, f, h, he0, he, ⟨g1, g2, g3⟩, g4, g5, hel, hN⟩ := hP
  have hany : ∀ i : Nat, i < n.toNatClampNeg → ∀ y : Nat, f (sp.toNatClampNeg + i) = some y → va_Any "java/lang/Object" s H y := fun i hi y hy => mo_any hok (hel i hi y hy)
  obtain ⟨h0, ⟨hK, hE⟩, ⟨L, f9, hM, hP, hD⟩, hS⟩ := hok
  obtain ⟨h1, h2⟩ := hM _ _ he
  obtain ⟨k1, k2⟩ := hM _ _ he0
  obtain ⟨q1, hq1⟩ := mo_at (D := D) (cl := vwCl) h1 h2
  obtain ⟨q0, hq0⟩ := mo_at (D := D) (cl := vwCl) k1 k2
  exact va_copyM hexec hb hml hown hlink hnat hstat hini hK hP hD hS q0 q1 t0 t0 hq0 hq1 ht ht g1 g2 g3 g4 g5 hany hframes hlocals hdg (fun H1 locs1 hP1 hD1 hS1 => kk _ H1 locs1 hN ⟨h0, ⟨hK, hE⟩, ⟨L, _, mo_up hM h1, mo_setP hD h1 h2 hq1 hP1, mo_setD hD h1 h2 hq1⟩, hS1⟩)
theorem mr_ldm {own : String} {index : Nat} (hexec : p.tables.exec = Jvm.exec) (hb : c.code = cc) (hown : s.vm.findClass own = some m.cls) (hok : mo_ok L0 e0 D vwCl tys s M H locs) (hlink : (Cond.classLink own index "[Ljava/lang/Object;").before args s = true) (hdg : decode cc pc = .ok (.ldc index, 2))
    (k : W p l e R s m args below meth c H locs cells slots Q (F0 m (pc + 2) ls (.ref (e0 1) :: rest))) : W p l e R s m args below meth c H locs cells slots Q (F0 m pc ls rest) :=
  va_ldcM hexec hb hown hlink hok.2.1.2.1.2.2.2.1 hdg k
/-- getClass of a list's array -/
def mp_gc (cA : ClassId) (M : mo_M) (a : Nat) (N : Prop) : Prop := (∃ x : vp_A, M a = some (.inl (cA, x))) ∧ N
theorem mr_gc {own : String} {index : Nat} {cA : ClassId} {P : Prop} (hexec : p.tables.exec = Jvm.exec) (hb : c.code = cc) (hml : c.maxLocals = ls.size) (hown : s.vm.findClass own = some m.cls) (hok : mo_ok L0 e0 D vwCl tys s M H locs) (hP : mp_gc cA M a P) (t0 : Nat) (ht : tys[t0]? = some (cA, .object "java/lang/Object")) (hlink : (Cond.methodLink own index ⟨"java/lang/Object", "getClass", "()Ljava/lang/Class;"⟩).before args s = true) (hdecl : va_Nw (.declares ⟨"java/lang/Object", "getClass", "()Ljava/lang/Class;"⟩) s)
    (hsel : (Cond.selects "[Ljava/lang/Object;" ⟨"java/lang/Object", "getClass", "()Ljava/lang/Class;"⟩ ⟨"java/lang/Object", "getClass", "()Ljava/lang/Class;"⟩).before args s = true) (hinst : (Cond.instanceMethod ⟨"java/lang/Object", "getClass", "()Ljava/lang/Class;"⟩).before args s = true) (hnat : (Cond.native ⟨"java/lang/Object", "getClass", "()Ljava/lang/Class;"⟩).before args s = true)
    (hframes : 1 ≤ R.frames) (hlocals : (rest.map fun v => v.category).sum + 14 ≤ R.locals) (hdg : decode cc pc = .ok (.invokevirtual index, 3))
    (kk : P → W p l e R s m args below meth c H locs cells slots Q (F0 m (pc + 3) ls (.ref (e0 1) :: rest))) : W p l e R s m args below meth c H locs cells slots Q (F0 m pc ls (.ref a :: rest)) := by
  obtain ⟨⟨x, he⟩, hN⟩ := hP
  obtain ⟨h0, ⟨hK, hE⟩, hI, hS⟩ := hok
  have hat : H[a]? = some (vp_cell cA x) := mo_has hI he
  have hvm0 : (vp_cell cA x).vm = .none := by
    obtain ⟨n, f | f | f | f | f⟩ := x <;> rfl
  have hcl0 : (vp_cell cA x).cls = cA := by
    obtain ⟨n, f | f | f | f | f⟩ := x <;> rfl
  exact va_getC hexec hb hml hown hlink (va_Nw.use rfl hdecl) hsel hinst hnat hE.1.2.2.2.1 ⟨_, hat, by rw [hvm0]; rfl, by rw [hcl0]; exact va_nmO (hK.2 t0 _ ht).2 rfl⟩ hframes hlocals hdg (kk hN)
theorem mr_mn {own nm : String} {index : Nat} {ty : FieldType} {cO cI : ClassId} {n k : Int32} {x : (Nat → Int32) ⊕ (Nat → Int64) ⊕ (Nat → UInt32) ⊕ (Nat → UInt64) ⊕ (Nat → Option Nat)} {P : Nat → mo_M → Prop} (hexec : p.tables.exec = Jvm.exec) (hb : c.code = cc) (hown : s.vm.findClass own = some m.cls) (hok : mo_ok L0 e0 D vwCl tys s M H locs) (hP : mp_mn cO cI M n k x P) (hnm : "[" ++ (FieldType.array ty).toString = nm) (hclink : (Cond.classLink own index nm).before args s = true) (hover : mo_AA ty s) (harr : (Cond.arrayClass ty).before args s = true) (tO tI : Nat) (htO : tys[tO]? = some (cO, .array ty)) (htI : tys[tI]? = some (cI, ty)) (hnI : va_RA s cI ty → s.vm.findClass (FieldType.array ty).toString = some cI) (hby : componentBytes ty ≤ 8) (hdf : fits ty (defaultValue ty) = true) (hdd : (defaultValue ty).isDefault = true) (hx : ∀ K' : Nat, vp_cell cI (K', x) = arrV cI K' (fun _ => defaultValue ty)) (hcells : cells + (1 + n.toNatClampNeg) ≤ R.cells) (hslots : slots + (n.toNatClampNeg + n.toNatClampNeg * k.toNatClampNeg) ≤ R.slots) (hdg : decode cc pc = .ok (.multianewarray index 2, 4))
    (kk : ∀ (q : Nat) (M1 : mo_M) (H1 : Heap), P q M1 → mo_ok L0 e0 D vwCl tys s M1 H1 locs → W p l e R s m args below meth c H1 locs (cells + 1 + n.toNatClampNeg) (slots + n.toNatClampNeg + n.toNatClampNeg * k.toNatClampNeg) Q (F0 m (pc + 4) ls (.ref q :: rest))) : W p l e R s m args below meth c H locs cells slots Q (F0 m pc ls (.int k :: .int n :: rest)) := by
  subst hnm
  obtain ⟨h0, ⟨hK, hE⟩, hI, hS⟩ := hok
  obtain ⟨hn, hk, hle1, hle2, hP⟩ := hP
  intro T hT X
  obtain ⟨comp, cA, kA, fC, fk, fkd, fA⟩ := mn_cls (args := #[]) hover
  obtain ⟨comp', kC, cE, g1, g2, g3⟩ := Cond.arrayClass_spec harr
  cases Option.some.inj (g1.symm.trans fC)
  obtain ⟨vm₁, X', step⟩ := mn_step X hexec hown hclink fA ⟨kA, fk, fkd⟩ ⟨kC, cE, g2, g3⟩ (g := F0 m pc ls (.int k :: .int n :: rest)) rfl (by rw [hb]; exact hdg) rfl hn hk (by omega) (Nat.le_trans (Nat.mul_le_mul hle2 hby) (by decide)) (by omega) hdf hdd hcells hslots
  have e1 : cA = cO := Option.some.inj (fA.symm.trans (hK.2 tO _ htO).2)
  have e2 : comp = cI := Option.some.inj (fC.symm.trans (hnI (hK.2 tI _ htI).2))
  subst e1
  subst e2
  have hTh : (T.setVm vm₁).heap = H := hT
  obtain ⟨f1, f2, -, -, f3, f4⟩ := mn_ft (T.setVm vm₁) cA comp n.toNatClampNeg k.toNatClampNeg (defaultValue ty) n.toNatClampNeg
  generalize hF : mn_st (T.setVm vm₁) cA comp n.toNatClampNeg k.toNatClampNeg (defaultValue ty) n.toNatClampNeg = F at X' step f1 f2 f3 f4
  rw [hTh] at f1 f2 f3 f4
  have hO : mn_O cA n.toNatClampNeg H.size n.toNatClampNeg = vp_cell cA (n.toNatClampNeg, .inr (.inr (.inr (.inr (fun i => if i < n.toNatClampNeg then some (H.size + 1 + i) else none))))) := by
    rw [vp_cell_q]
    rfl
  rw [hO] at f2
  have hin := mo_crN (H1 := F.heap) hI (Nat.le_trans h0 hS.1) f3 (fun j => if j = 0 then .inl (cA, n.toNatClampNeg, .inr (.inr (.inr (.inr (fun i => if i < n.toNatClampNeg then some (H.size + 1 + i) else none))))) else .inl (comp, k.toNatClampNeg, x)) (n.toNatClampNeg + 1) (fun j hj => by
    by_cases hj0 : j = 0
    · subst hj0
      simp only [if_true]
      exact f2
    · simp only [if_neg hj0]
      have h9 := f4 (j - 1) (by omega)
      rw [show H.size + 1 + (j - 1) = H.size + j by omega] at h9
      show F.heap[H.size + j]? = some (vp_cell _ _)
      rw [h9, hx, ← arrV_new]
      rfl)
  have hmem : (fun b => if H.size ≤ b ∧ b < H.size + (n.toNatClampNeg + 1) then some ((fun j => if j = 0 then (.inl (cA, n.toNatClampNeg, .inr (.inr (.inr (.inr (fun i => if i < n.toNatClampNeg then some (H.size + 1 + i) else none))))) : va_E) else .inl (comp, k.toNatClampNeg, x)) (b - H.size)) else M b) = mo_mn M H.size n.toNatClampNeg k.toNatClampNeg cA comp x := by
    funext b
    unfold mo_mn
    by_cases hb0 : b = H.size
    · subst hb0
      simp
    · by_cases hb1 : H.size < b ∧ b ≤ H.size + n.toNatClampNeg
      · rw [if_pos (by omega), if_neg hb0, if_pos hb1]
        simp only [if_neg (show ¬ b - H.size = 0 by omega)]
      · rw [if_neg (by omega), if_neg hb0, if_neg hb1]
  rw [hmem] at hin
  obtain ⟨t, a1, b1⟩ := kk H.size _ F.heap (hP _ (mo_frs hI)) ⟨h0, ⟨hK, hE⟩, hin, mo_crS hS (by omega) f3⟩ F rfl X'
  exact ⟨t, step t (by rw [hT]; exact a1), b1⟩
end MR2
