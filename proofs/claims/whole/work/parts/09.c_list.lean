abbrev b_AC_init : ByteArray := prog_17_method_1_code
def y_AC_init : MethodName := ⟨"java/util/AbstractCollection", "<init>", "()V"⟩
def ws_AC_init : List Cond := .code y_AC_init b_AC_init 1 (Option.none : Option Jvm.ClassFile.FieldType) :: lw_g
theorem d_AC_init_0 : decode b_AC_init 0 = .ok (.aload_n 0, 1) := by decide +kernel
theorem d_AC_init_1 : decode b_AC_init 1 = .ok (.invokespecial 1, 3) := by decide +kernel
theorem d_AC_init_4 : decode b_AC_init 4 = .ok (.return_, 1) := by decide +kernel
def pp_AC_init (g : Nat → ClassId) (e0 : Nat → Nat) (K : mo_M → Prop) (M : mo_M) (x0 : Nat) : Prop := K M
set_option maxHeartbeats 4000000 in
set_option maxRecDepth 100000 in
theorem cc_AC_init (l : Launch) (L0 : Nat) (D : va_G) {g : Nat → ClassId} {e0 : Nat → Nat} {K : mo_M → Prop} {M : mo_M} {x0 : Nat} (hP : pp_AC_init g e0 K M x0) : Met l y_AC_init ws_AC_init (mo_R 1 0 0 12) (va_Pc [.ref x0] (fun U => mo_B L0 e0 D vwCl (mo_T g) M U)) (mo_Qv L0 e0 D vwCl (mo_T g) K) 0 0 (fun q => L0 ≤ q) := by
  refine va_MetF (cc := b_AC_init) (maxL := 1) (ret := (Option.none : Option Jvm.ClassFile.FieldType)) (by decide +kernel) rfl ?_
  intro p e s m args below meth c s₁ B hml hv
  obtain ⟨hv1, hB0⟩ := hv
  have hx := B.exec
  have hb := B.bytes
  have hr := B.returns
  have hts : ∀ w ∈ lw_g, w.before args s = true := fun w hw => atoms_spec (ws := ws_AC_init) B.pre w (List.mem_cons_of_mem _ hw)
  have hown : s.vm.findClass "java/util/AbstractCollection" = some m.cls := findClass_of_methodNamed B.named
  have hlocks := B.notSynchronized
  have hin : meth.name = "<init>" := (name_of_methodNamed B.named B.method).1
  have hok : mo_ok L0 e0 D vwCl (mo_T g) s M s.heap [] := ⟨hB0.1, hB0.2.1, hB0.2.2, va_S.rf⟩
  have hl := lv_entry ([.ref x0]) (n := 1) (Nat.le_of_ble_eq_true rfl)
  rw [hv1, lg_entry_eq]
  rw [← hv1]
  generalize (lg_sl [.ref x0] ++ List.replicate (1 - (lg_sl [.ref x0]).length) Slot.unset).toArray = ls at hl ⊢
  have hl : lv_has ls 1 [(0, .ref x0)] := hl
  unfold pp_AC_init at hP
  refine lv_aload_n hx hb d_AC_init_0 rfl (lv_at hl 0 rfl) ?_
  refine W.objInit hx hb hown (hts _ wd_71) (hts _ wd_58) (hts _ wd_59) rfl (by rw [hml]; exact hl.1) rfl d_AC_init_1 (Nat.le_of_ble_eq_true rfl) (Nat.le_of_ble_eq_true rfl) ?_
  refine W.eq (g2 := F0 m 4 ls []) rfl ?_
  exact mo_vret hx hb hr hlocks hok hP d_AC_init_4

abbrev b_AL_init : ByteArray := prog_18_method_1_code
def y_AL_init : MethodName := ⟨"java/util/AbstractList", "<init>", "()V"⟩
def ws_AL_init : List Cond := .code y_AL_init b_AL_init 1 (Option.none : Option Jvm.ClassFile.FieldType) :: lw_g
theorem d_AL_init_0 : decode b_AL_init 0 = .ok (.aload_n 0, 1) := by decide +kernel
theorem d_AL_init_1 : decode b_AL_init 1 = .ok (.invokespecial 1, 3) := by decide +kernel
theorem d_AL_init_4 : decode b_AL_init 4 = .ok (.aload_n 0, 1) := by decide +kernel
theorem d_AL_init_5 : decode b_AL_init 5 = .ok (.iconst 0, 1) := by decide +kernel
theorem d_AL_init_6 : decode b_AL_init 6 = .ok (.putfield 7, 3) := by decide +kernel
theorem d_AL_init_9 : decode b_AL_init 9 = .ok (.return_, 1) := by decide +kernel
def pp_AL_init (g : Nat → ClassId) (e0 : Nat → Nat) (K : mo_M → Prop) (M : mo_M) (x0 : Nat) : Prop := pp_AC_init g e0 (fun M1 => mp_pt M1 x0 5 0 (.int ((0 : Int32))) (fun M2 => K M2)) M x0
set_option maxHeartbeats 4000000 in
set_option maxRecDepth 100000 in
theorem cc_AL_init (l : Launch) (L0 : Nat) (D : va_G) {g : Nat → ClassId} {e0 : Nat → Nat} {K : mo_M → Prop} {M : mo_M} {x0 : Nat} (hP : pp_AL_init g e0 K M x0) : Met l y_AL_init ws_AL_init (mo_R 2 0 0 32) (va_Pc [.ref x0] (fun U => mo_B L0 e0 D vwCl (mo_T g) M U)) (mo_Qv L0 e0 D vwCl (mo_T g) K) 0 0 (fun q => L0 ≤ q) := by
  refine va_MetF (cc := b_AL_init) (maxL := 1) (ret := (Option.none : Option Jvm.ClassFile.FieldType)) (by decide +kernel) rfl ?_
  intro p e s m args below meth c s₁ B hml hv
  obtain ⟨hv1, hB0⟩ := hv
  have hx := B.exec
  have hb := B.bytes
  have hr := B.returns
  have hts : ∀ w ∈ lw_g, w.before args s = true := fun w hw => atoms_spec (ws := ws_AL_init) B.pre w (List.mem_cons_of_mem _ hw)
  have hown : s.vm.findClass "java/util/AbstractList" = some m.cls := findClass_of_methodNamed B.named
  have hlocks := B.notSynchronized
  have hin : meth.name = "<init>" := (name_of_methodNamed B.named B.method).1
  have hok : mo_ok L0 e0 D vwCl (mo_T g) s M s.heap [] := ⟨hB0.1, hB0.2.1, hB0.2.2, va_S.rf⟩
  have hl := lv_entry ([.ref x0]) (n := 1) (Nat.le_of_ble_eq_true rfl)
  rw [hv1, lg_entry_eq]
  rw [← hv1]
  generalize (lg_sl [.ref x0] ++ List.replicate (1 - (lg_sl [.ref x0]).length) Slot.unset).toArray = ls at hl ⊢
  have hl : lv_has ls 1 [(0, .ref x0)] := hl
  unfold pp_AL_init at hP
  refine lv_aload_n hx hb d_AL_init_0 rfl (lv_at hl 0 rfl) ?_
  refine mo_callv hok (va_runI (As := []) (rest := []) ⟨hx, hb, hml, hown, hts⟩ (cc_AC_init l L0 D hP) ⟨(callB_of 0 hts (lw_gi wd_70) rfl rfl rfl (hts _ wd_34) (hts _ wd_68) (by decide +kernel) ⟨Nat.le_of_ble_eq_true rfl, Nat.le_of_ble_eq_true rfl⟩), rfl, hts _ wd_69⟩ (mo_preS hok [.ref x0]) rfl rfl hl.1 rfl (lv_room (Nat.le_of_ble_eq_true rfl)) d_AL_init_1 ⟨Nat.zero_le _, Nat.zero_le _⟩) (fun M1 H locs hP hok => ?_)
  refine lv_aload_n hx hb d_AL_init_4 rfl (lv_at hl 0 rfl) ?_
  refine lv_iconst (v := 0) hx hb d_AL_init_5 (by decide) ?_
  refine mr_pt (C := "java/util/ArrayList") (T := F_5) (N := 3) (ref := "java/util/AbstractList") (ty := .int) hx hb hts hown hok hP ui_5 ty_5 th_5 tn_5 rfl (by decide) (hts _ wd_76) (fun _ h => h) rfl (by decide +kernel) rfl rfl d_AL_init_6 (fun M2 H locs hP hok => ?_)
  exact mo_vret hx hb hr hlocks hok hP d_AL_init_9

abbrev b_A_init : ByteArray := prog_19_method_2_code
def y_A_init : MethodName := ⟨"java/util/ArrayList", "<init>", "()V"⟩
def ws_A_init : List Cond := .code y_A_init b_A_init 1 (Option.none : Option Jvm.ClassFile.FieldType) :: lw_g
theorem d_A_init_0 : decode b_A_init 0 = .ok (.aload_n 0, 1) := by decide +kernel
theorem d_A_init_1 : decode b_A_init 1 = .ok (.invokespecial 1, 3) := by decide +kernel
theorem d_A_init_4 : decode b_A_init 4 = .ok (.aload_n 0, 1) := by decide +kernel
theorem d_A_init_5 : decode b_A_init 5 = .ok (.getstatic 39, 3) := by decide +kernel
theorem d_A_init_8 : decode b_A_init 8 = .ok (.putfield 9, 3) := by decide +kernel
theorem d_A_init_11 : decode b_A_init 11 = .ok (.return_, 1) := by decide +kernel
def pp_A_init (g : Nat → ClassId) (e0 : Nat → Nat) (K : mo_M → Prop) (M : mo_M) (x0 : Nat) : Prop := pp_AL_init g e0 (fun M1 => mp_pt M1 x0 5 1 (.ref ((e0 0))) (fun M2 => K M2)) M x0
set_option maxHeartbeats 4000000 in
set_option maxRecDepth 100000 in
theorem cc_A_init (l : Launch) (L0 : Nat) (D : va_G) {g : Nat → ClassId} {e0 : Nat → Nat} {K : mo_M → Prop} {M : mo_M} {x0 : Nat} (hP : pp_A_init g e0 K M x0) : Met l y_A_init ws_A_init (mo_R 3 0 0 52) (va_Pc [.ref x0] (fun U => mo_B L0 e0 D vwCl (mo_T g) M U)) (mo_Qv L0 e0 D vwCl (mo_T g) K) 0 0 (fun q => L0 ≤ q) := by
  refine va_MetF (cc := b_A_init) (maxL := 1) (ret := (Option.none : Option Jvm.ClassFile.FieldType)) (by decide +kernel) rfl ?_
  intro p e s m args below meth c s₁ B hml hv
  obtain ⟨hv1, hB0⟩ := hv
  have hx := B.exec
  have hb := B.bytes
  have hr := B.returns
  have hts : ∀ w ∈ lw_g, w.before args s = true := fun w hw => atoms_spec (ws := ws_A_init) B.pre w (List.mem_cons_of_mem _ hw)
  have hown : s.vm.findClass "java/util/ArrayList" = some m.cls := findClass_of_methodNamed B.named
  have hlocks := B.notSynchronized
  have hin : meth.name = "<init>" := (name_of_methodNamed B.named B.method).1
  have hok : mo_ok L0 e0 D vwCl (mo_T g) s M s.heap [] := ⟨hB0.1, hB0.2.1, hB0.2.2, va_S.rf⟩
  have hl := lv_entry ([.ref x0]) (n := 1) (Nat.le_of_ble_eq_true rfl)
  rw [hv1, lg_entry_eq]
  rw [← hv1]
  generalize (lg_sl [.ref x0] ++ List.replicate (1 - (lg_sl [.ref x0]).length) Slot.unset).toArray = ls at hl ⊢
  have hl : lv_has ls 1 [(0, .ref x0)] := hl
  unfold pp_A_init at hP
  refine lv_aload_n hx hb d_A_init_0 rfl (lv_at hl 0 rfl) ?_
  refine mo_callv hok (va_runI (As := []) (rest := []) ⟨hx, hb, hml, hown, hts⟩ (cc_AL_init l L0 D hP) ⟨(callB_of 0 hts (lw_gi wd_67) rfl rfl rfl (hts _ wd_35) (hts _ wd_65) (by decide +kernel) ⟨Nat.le_of_ble_eq_true rfl, Nat.le_of_ble_eq_true rfl⟩), rfl, hts _ wd_66⟩ (mo_preS hok [.ref x0]) rfl rfl hl.1 rfl (lv_room (Nat.le_of_ble_eq_true rfl)) d_A_init_1 ⟨Nat.zero_le _, Nat.zero_le _⟩) (fun M1 H locs hP hok => ?_)
  refine lv_aload_n hx hb d_A_init_4 rfl (lv_at hl 0 rfl) ?_
  refine mr_gst hx hb hown hok (hts _ wd_72) d_A_init_5 ?_
  refine mr_pt (C := "java/util/ArrayList") (T := F_5) (N := 3) (ref := "java/util/ArrayList") (ty := (.array (.object "java/lang/Object"))) hx hb hts hown hok hP ui_5 ty_5 th_5 tn_5 rfl (by decide) (hts _ wd_74) (fun _ h => h) rfl (by decide +kernel) rfl rfl d_A_init_8 (fun M2 H locs hP hok => ?_)
  exact mo_vret hx hb hr hlocks hok hP d_A_init_11

abbrev b_A_size : ByteArray := prog_19_method_8_code
def y_A_size : MethodName := ⟨"java/util/ArrayList", "size", "()I"⟩
def ws_A_size : List Cond := .code y_A_size b_A_size 1 (Option.some Jvm.ClassFile.FieldType.int) :: lw_g
theorem d_A_size_0 : decode b_A_size 0 = .ok (.aload_n 0, 1) := by decide +kernel
theorem d_A_size_1 : decode b_A_size 1 = .ok (.getfield 48, 3) := by decide +kernel
theorem d_A_size_4 : decode b_A_size 4 = .ok (.ireturn, 1) := by decide +kernel
def pp_A_size (g : Nat → ClassId) (e0 : Nat → Nat) (K : Int32 → mo_M → Prop) (M : mo_M) (x0 : Nat) : Prop := mp_gi M x0 5 2 (fun v1 => K v1 M)
set_option maxHeartbeats 4000000 in
set_option maxRecDepth 100000 in
theorem cc_A_size (l : Launch) (L0 : Nat) (D : va_G) {g : Nat → ClassId} {e0 : Nat → Nat} {K : Int32 → mo_M → Prop} {M : mo_M} {x0 : Nat} (hP : pp_A_size g e0 K M x0) : Met l y_A_size ws_A_size (mo_R 0 0 0 0) (va_Pc [.ref x0] (fun U => mo_B L0 e0 D vwCl (mo_T g) M U)) (mo_Qi L0 e0 D vwCl (mo_T g) K) 0 0 (fun q => L0 ≤ q) := by
  refine va_MetF (cc := b_A_size) (maxL := 1) (ret := (Option.some Jvm.ClassFile.FieldType.int)) (by decide +kernel) rfl ?_
  intro p e s m args below meth c s₁ B hml hv
  obtain ⟨hv1, hB0⟩ := hv
  have hx := B.exec
  have hb := B.bytes
  have hr := B.returns
  have hts : ∀ w ∈ lw_g, w.before args s = true := fun w hw => atoms_spec (ws := ws_A_size) B.pre w (List.mem_cons_of_mem _ hw)
  have hown : s.vm.findClass "java/util/ArrayList" = some m.cls := findClass_of_methodNamed B.named
  have hlocks := B.notSynchronized
  have hok : mo_ok L0 e0 D vwCl (mo_T g) s M s.heap [] := ⟨hB0.1, hB0.2.1, hB0.2.2, va_S.rf⟩
  have hl := lv_entry ([.ref x0]) (n := 1) (Nat.le_of_ble_eq_true rfl)
  rw [hv1, lg_entry_eq]
  rw [← hv1]
  generalize (lg_sl [.ref x0] ++ List.replicate (1 - (lg_sl [.ref x0]).length) Slot.unset).toArray = ls at hl ⊢
  have hl : lv_has ls 1 [(0, .ref x0)] := hl
  unfold pp_A_size at hP
  refine lv_aload_n hx hb d_A_size_0 rfl (lv_at hl 0 rfl) ?_
  refine mr_gi (C := "java/util/ArrayList") (T := F_5) (N := 3) (ref := "java/util/ArrayList") hx hb hts hown hok hP ui_5 rfl (by decide) (hts _ wd_75) (fun _ h => h) d_A_size_1 (fun v1 hP => ?_)
  exact mo_iret hx hb hr hlocks hok hP d_A_size_4

abbrev b_S_newLength : ByteArray := prog_27_method_27_code
def y_S_newLength : MethodName := ⟨"jdk/internal/util/ArraysSupport", "newLength", "(III)I"⟩
def ws_S_newLength : List Cond := .code y_S_newLength b_S_newLength 4 (Option.some Jvm.ClassFile.FieldType.int) :: lw_g
theorem d_S_newLength_0 : decode b_S_newLength 0 = .ok (.iload_n 0, 1) := by decide +kernel
theorem d_S_newLength_1 : decode b_S_newLength 1 = .ok (.iload_n 1, 1) := by decide +kernel
theorem d_S_newLength_2 : decode b_S_newLength 2 = .ok (.iload_n 2, 1) := by decide +kernel
theorem d_S_newLength_3 : decode b_S_newLength 3 = .ok (.invokestatic 194, 3) := by decide +kernel
theorem d_S_newLength_6 : decode b_S_newLength 6 = .ok (.iadd, 1) := by decide +kernel
theorem d_S_newLength_7 : decode b_S_newLength 7 = .ok (.istore_n 3, 1) := by decide +kernel
theorem d_S_newLength_8 : decode b_S_newLength 8 = .ok (.iconst 0, 1) := by decide +kernel
theorem d_S_newLength_9 : decode b_S_newLength 9 = .ok (.iload_n 3, 1) := by decide +kernel
theorem d_S_newLength_10 : decode b_S_newLength 10 = .ok (.if_icmp .ge 11, 3) := by decide +kernel
theorem d_S_newLength_13 : decode b_S_newLength 13 = .ok (.iload_n 3, 1) := by decide +kernel
theorem d_S_newLength_14 : decode b_S_newLength 14 = .ok (.ldc 200, 2) := by decide +kernel
theorem d_S_newLength_16 : decode b_S_newLength 16 = .ok (.if_icmp .gt 5, 3) := by decide +kernel
theorem d_S_newLength_19 : decode b_S_newLength 19 = .ok (.iload_n 3, 1) := by decide +kernel
theorem d_S_newLength_20 : decode b_S_newLength 20 = .ok (.ireturn, 1) := by decide +kernel
theorem d_S_newLength_21 : decode b_S_newLength 21 = .ok (.iload_n 0, 1) := by decide +kernel
theorem d_S_newLength_22 : decode b_S_newLength 22 = .ok (.iload_n 1, 1) := by decide +kernel
theorem d_S_newLength_23 : decode b_S_newLength 23 = .ok (.invokestatic 201, 3) := by decide +kernel
theorem d_S_newLength_26 : decode b_S_newLength 26 = .ok (.ireturn, 1) := by decide +kernel
def pp_S_newLength_b21 (g : Nat → ClassId) (e0 : Nat → Nat) (K : Int32 → mo_M → Prop) (M : mo_M) (x0 : Int32) (x1 : Int32) : Prop := False
def pp_S_newLength (g : Nat → ClassId) (e0 : Nat → Nat) (K : Int32 → mo_M → Prop) (M : mo_M) (x0 : Int32) (x1 : Int32) (x2 : Int32) : Prop := ((((x0 + ((if x1 < x2 then x2 else x1)))) ≤ ((0 : Int32)) → pp_S_newLength_b21 g e0 K M x0 x1) ∧ (¬ (((x0 + ((if x1 < x2 then x2 else x1)))) ≤ ((0 : Int32))) → ((((2147483639 : Int32)) < ((x0 + ((if x1 < x2 then x2 else x1)))) → pp_S_newLength_b21 g e0 K M x0 x1) ∧ (¬ (((2147483639 : Int32)) < ((x0 + ((if x1 < x2 then x2 else x1))))) → K ((x0 + ((if x1 < x2 then x2 else x1)))) M))))
set_option maxHeartbeats 4000000 in
set_option maxRecDepth 100000 in
theorem cc_S_newLength (l : Launch) (L0 : Nat) (D : va_G) {g : Nat → ClassId} {e0 : Nat → Nat} {K : Int32 → mo_M → Prop} {M : mo_M} {x0 : Int32} {x1 : Int32} {x2 : Int32} (hP : pp_S_newLength g e0 K M x0 x1 x2) : Met l y_S_newLength ws_S_newLength (mo_R 1 0 0 21) (va_Pc [.int x0, .int x1, .int x2] (fun U => mo_B L0 e0 D vwCl (mo_T g) M U)) (mo_Qi L0 e0 D vwCl (mo_T g) K) 0 0 (fun q => L0 ≤ q) := by
  refine va_MetF (cc := b_S_newLength) (maxL := 4) (ret := (Option.some Jvm.ClassFile.FieldType.int)) (by decide +kernel) rfl ?_
  intro p e s m args below meth c s₁ B hml hv
  obtain ⟨hv1, hB0⟩ := hv
  have hx := B.exec
  have hb := B.bytes
  have hr := B.returns
  have hts : ∀ w ∈ lw_g, w.before args s = true := fun w hw => atoms_spec (ws := ws_S_newLength) B.pre w (List.mem_cons_of_mem _ hw)
  have hown : s.vm.findClass "jdk/internal/util/ArraysSupport" = some m.cls := findClass_of_methodNamed B.named
  have hlocks := B.notSynchronized
  have w_21 : ∀ (M : mo_M) (x0 : Int32) (x1 : Int32) (H : Heap) (locs : List Loc) (ls : Array Slot), pp_S_newLength_b21 g e0 K M x0 x1 → mo_ok L0 e0 D vwCl (mo_T g) s M H locs → lv_has ls 4 [(0, .int x0), (1, .int x1)] → W p l e (headSpec ws_S_newLength (mo_R 1 0 0 21)).room s m args below meth c H locs 0 0 (mo_Z below (mo_Qi L0 e0 D vwCl (mo_T g) K) args s 0 0 L0) (F0 m 21 ls []) := by
    intro M x0 x1 H locs ls hP hok hl
    unfold pp_S_newLength_b21 at hP
    refine lv_iload_n hx hb d_S_newLength_21 rfl (lv_at hl 0 rfl) ?_
    refine lv_iload_n hx hb d_S_newLength_22 rfl (lv_at hl 1 rfl) ?_
    exact hP.elim
  have hok : mo_ok L0 e0 D vwCl (mo_T g) s M s.heap [] := ⟨hB0.1, hB0.2.1, hB0.2.2, va_S.rf⟩
  have hl := lv_entry ([.int x0, .int x1, .int x2]) (n := 4) (Nat.le_of_ble_eq_true rfl)
  rw [hv1, lg_entry_eq]
  rw [← hv1]
  generalize (lg_sl [.int x0, .int x1, .int x2] ++ List.replicate (4 - (lg_sl [.int x0, .int x1, .int x2]).length) Slot.unset).toArray = ls at hl ⊢
  have hl : lv_has ls 4 [(0, .int x0), (1, .int x1), (2, .int x2)] := hl
  unfold pp_S_newLength at hP
  refine lv_iload_n hx hb d_S_newLength_0 rfl (lv_at hl 0 rfl) ?_
  refine lv_iload_n hx hb d_S_newLength_1 rfl (lv_at hl 1 rfl) ?_
  refine lv_iload_n hx hb d_S_newLength_2 rfl (lv_at hl 2 rfl) ?_
  refine va_mmax hx hb (by rw [hml]; exact hl.1.symm) hown (hts _ wd_225) (hts _ wd_92) (hts _ wd_37) (hts _ wd_93) (Nat.le_of_ble_eq_true rfl) (Nat.le_of_ble_eq_true rfl) (Nat.zero_le _) (Nat.zero_le _) d_S_newLength_3 ?_
  refine lv_iadd hx hb d_S_newLength_6 ?_
  refine lv_istore_n (lv' := [(3, .int ((x0 + ((if x1 < x2 then x2 else x1))))), (0, .int x0), (1, .int x1), (2, .int x2)]) hx hb d_S_newLength_7 rfl hl (by decide) rfl (fun ls hl => ?_)
  refine lv_iconst (v := 0) hx hb d_S_newLength_8 (by decide) ?_
  refine lv_iload_n hx hb d_S_newLength_9 rfl (lv_at hl 0 rfl) ?_
  refine lv_icmp_ge (tgt := 21) hx hb d_S_newLength_10 (by decide) (fun hc => ?_) (fun hc => ?_)
  · replace hP := hP.1 hc
    exact w_21  _ _ _ _ _ _ hP hok (lv_sub hl [1, 2] rfl)
  · replace hP := hP.2 hc
    refine lv_iload_n hx hb d_S_newLength_13 rfl (lv_at hl 0 rfl) ?_
    refine lv_ldc hx hb hown (hts _ wd_226) d_S_newLength_14 ?_
    refine lv_icmp_gt (tgt := 21) hx hb d_S_newLength_16 (by decide) (fun hc => ?_) (fun hc => ?_)
    · replace hP := hP.1 hc
      exact w_21  _ _ _ _ _ _ hP hok (lv_sub hl [1, 2] rfl)
    · replace hP := hP.2 hc
      refine lv_iload_n hx hb d_S_newLength_19 rfl (lv_at hl 0 rfl) ?_
      exact mo_iret hx hb hr hlocks hok hP d_S_newLength_20

abbrev b_R_copyOf1 : ByteArray := prog_20_method_120_code
def y_R_copyOf1 : MethodName := ⟨"java/util/Arrays", "copyOf", "([Ljava/lang/Object;ILjava/lang/Class;)[Ljava/lang/Object;"⟩
def ws_R_copyOf1 : List Cond := .code y_R_copyOf1 b_R_copyOf1 4 (Option.some (Jvm.ClassFile.FieldType.array (Jvm.ClassFile.FieldType.object "java/lang/Object"))) :: lw_g
theorem d_R_copyOf1_0 : decode b_R_copyOf1 0 = .ok (.aload_n 2, 1) := by decide +kernel
theorem d_R_copyOf1_1 : decode b_R_copyOf1 1 = .ok (.ldc 110, 2) := by decide +kernel
theorem d_R_copyOf1_3 : decode b_R_copyOf1 3 = .ok (.if_acmp .ne 10, 3) := by decide +kernel
theorem d_R_copyOf1_6 : decode b_R_copyOf1 6 = .ok (.iload_n 1, 1) := by decide +kernel
theorem d_R_copyOf1_7 : decode b_R_copyOf1 7 = .ok (.anewarray 2, 3) := by decide +kernel
theorem d_R_copyOf1_10 : decode b_R_copyOf1 10 = .ok (.goto 14, 3) := by decide +kernel
theorem d_R_copyOf1_13 : decode b_R_copyOf1 13 = .ok (.aload_n 2, 1) := by decide +kernel
theorem d_R_copyOf1_14 : decode b_R_copyOf1 14 = .ok (.invokevirtual 90, 3) := by decide +kernel
theorem d_R_copyOf1_17 : decode b_R_copyOf1 17 = .ok (.iload_n 1, 1) := by decide +kernel
theorem d_R_copyOf1_18 : decode b_R_copyOf1 18 = .ok (.invokestatic 95, 3) := by decide +kernel
theorem d_R_copyOf1_21 : decode b_R_copyOf1 21 = .ok (.checkcast 110, 3) := by decide +kernel
theorem d_R_copyOf1_24 : decode b_R_copyOf1 24 = .ok (.astore_n 3, 1) := by decide +kernel
theorem d_R_copyOf1_25 : decode b_R_copyOf1 25 = .ok (.aload_n 0, 1) := by decide +kernel
theorem d_R_copyOf1_26 : decode b_R_copyOf1 26 = .ok (.iconst 0, 1) := by decide +kernel
theorem d_R_copyOf1_27 : decode b_R_copyOf1 27 = .ok (.aload_n 3, 1) := by decide +kernel
theorem d_R_copyOf1_28 : decode b_R_copyOf1 28 = .ok (.iconst 0, 1) := by decide +kernel
theorem d_R_copyOf1_29 : decode b_R_copyOf1 29 = .ok (.aload_n 0, 1) := by decide +kernel
theorem d_R_copyOf1_30 : decode b_R_copyOf1 30 = .ok (.arraylength, 1) := by decide +kernel
theorem d_R_copyOf1_31 : decode b_R_copyOf1 31 = .ok (.iload_n 1, 1) := by decide +kernel
theorem d_R_copyOf1_32 : decode b_R_copyOf1 32 = .ok (.invokestatic 304, 3) := by decide +kernel
theorem d_R_copyOf1_35 : decode b_R_copyOf1 35 = .ok (.invokestatic 150, 3) := by decide +kernel
theorem d_R_copyOf1_38 : decode b_R_copyOf1 38 = .ok (.aload_n 3, 1) := by decide +kernel
theorem d_R_copyOf1_39 : decode b_R_copyOf1 39 = .ok (.areturn, 1) := by decide +kernel
def pp_R_copyOf1_b24 (g : Nat → ClassId) (e0 : Nat → Nat) (mc ms : Nat) (K : Nat → mo_M → Prop) (M : mo_M) (cu su : Nat) (x0 : Nat) (x1 : Int32) (s0 : Nat) : Prop := mp_lq (g 6) e0 M x0 (fun v3 => (cu ≤ mc ∧ su ≤ ms ∧ mp_cq (g 6) M x0 ((0 : Int32)) s0 ((0 : Int32)) ((if x1 < v3 then x1 else v3)) (fun M4 => (cu ≤ mc ∧ su ≤ ms ∧ K s0 M4))))
def pp_R_copyOf1 (g : Nat → ClassId) (e0 : Nat → Nat) (mc ms : Nat) (K : Nat → mo_M → Prop) (M : mo_M) (x0 : Nat) (x1 : Int32) (x2 : Nat) : Prop := ((x2 = ((e0 1)) → (0 + 1 ≤ mc ∧ 0 + x1.toNatClampNeg ≤ ms ∧ mp_na (g 6) M x1 (.inr (.inr (.inr (.inr (fun _ => none))))) (fun q1 M2 => pp_R_copyOf1_b24 g e0 mc ms K M2 ((0 + 1)) ((0 + x1.toNatClampNeg)) x0 x1 q1))) ∧ (¬ (x2 = ((e0 1))) → False))
set_option maxHeartbeats 4000000 in
set_option maxRecDepth 100000 in
theorem cc_R_copyOf1 (l : Launch) (L0 : Nat) (D : va_G) {g : Nat → ClassId} {e0 : Nat → Nat} {mc ms : Nat} {K : Nat → mo_M → Prop} {M : mo_M} {x0 : Nat} {x1 : Int32} {x2 : Nat} (hP : pp_R_copyOf1 g e0 mc ms K M x0 x1 x2) : Met l y_R_copyOf1 ws_R_copyOf1 (mo_R 1 mc ms 60) (va_Pc [.ref x0, .int x1, .ref x2] (fun U => mo_B L0 e0 D vwCl (mo_T g) M U)) (mo_Qr L0 e0 D vwCl (mo_T g) K) mc ms (fun q => L0 ≤ q) := by
  refine va_MetF (cc := b_R_copyOf1) (maxL := 4) (ret := (Option.some (Jvm.ClassFile.FieldType.array (Jvm.ClassFile.FieldType.object "java/lang/Object")))) (by decide +kernel) rfl ?_
  intro p e s m args below meth c s₁ B hml hv
  obtain ⟨hv1, hB0⟩ := hv
  have hx := B.exec
  have hb := B.bytes
  have hr := B.returns
  have hts : ∀ w ∈ lw_g, w.before args s = true := fun w hw => atoms_spec (ws := ws_R_copyOf1) B.pre w (List.mem_cons_of_mem _ hw)
  have hown : s.vm.findClass "java/util/Arrays" = some m.cls := findClass_of_methodNamed B.named
  have hlocks := B.notSynchronized
  have w_24 : ∀ (M : mo_M) (cu su : Nat) (x0 : Nat) (x1 : Int32) (s0 : Nat) (H : Heap) (locs : List Loc) (ls : Array Slot), pp_R_copyOf1_b24 g e0 mc ms K M cu su x0 x1 s0 → mo_ok L0 e0 D vwCl (mo_T g) s M H locs → lv_has ls 4 [(0, .ref x0), (1, .int x1)] → W p l e (headSpec ws_R_copyOf1 (mo_R 1 mc ms 60)).room s m args below meth c H locs cu su (mo_Z below (mo_Qr L0 e0 D vwCl (mo_T g) K) args s mc ms L0) (F0 m 24 ls [.ref s0]) := by
    intro M cu su x0 x1 s0 H locs ls hP hok hl
    unfold pp_R_copyOf1_b24 at hP
    refine lv_astore_n (lv' := [(3, .ref s0), (0, .ref x0), (1, .int x1)]) hx hb d_R_copyOf1_24 rfl hl (by decide) rfl (fun ls hl => ?_)
    refine lv_aload_n hx hb d_R_copyOf1_25 rfl (lv_at hl 1 rfl) ?_
    refine lv_iconst (v := 0) hx hb d_R_copyOf1_26 (by decide) ?_
    refine lv_aload_n hx hb d_R_copyOf1_27 rfl (lv_at hl 0 rfl) ?_
    refine lv_iconst (v := 0) hx hb d_R_copyOf1_28 (by decide) ?_
    refine lv_aload_n hx hb d_R_copyOf1_29 rfl (lv_at hl 1 rfl) ?_
    refine mr_lq hx hb hok hP 6 rfl d_R_copyOf1_30 (fun v3 hP => ?_)
    refine lv_iload_n hx hb d_R_copyOf1_31 rfl (lv_at hl 2 rfl) ?_
    obtain ⟨hcc, hss, hP⟩ := hP
    refine va_mmin hx hb (by rw [hml]; exact hl.1.symm) hown (hts _ wd_251) (hts _ wd_89) (hts _ wd_37) (hts _ wd_90) (Nat.le_of_ble_eq_true rfl) (Nat.le_of_ble_eq_true rfl) hcc hss d_R_copyOf1_32 ?_
    refine mr_cq hx hb (hml.trans hl.1.symm) hown hok hP (hts _ wd_252) (hts _ wd_254) (hts _ wd_253) (hts _ wd_43) 6 rfl (Nat.le_of_ble_eq_true rfl) (Nat.le_of_ble_eq_true rfl) d_R_copyOf1_35 (fun M4 H locs hP hok => ?_)
    refine lv_aload_n hx hb d_R_copyOf1_38 rfl (lv_at hl 0 rfl) ?_
    obtain ⟨hcu, hsu, hP⟩ := hP
    refine W.widen (k := mc) (n := ms) hcu hsu ?_
    exact mo_aret hx hb hr (Or.inr ⟨_, rfl⟩) hlocks hok hP d_R_copyOf1_39
  have hok : mo_ok L0 e0 D vwCl (mo_T g) s M s.heap [] := ⟨hB0.1, hB0.2.1, hB0.2.2, va_S.rf⟩
  have hl := lv_entry ([.ref x0, .int x1, .ref x2]) (n := 4) (Nat.le_of_ble_eq_true rfl)
  rw [hv1, lg_entry_eq]
  rw [← hv1]
  generalize (lg_sl [.ref x0, .int x1, .ref x2] ++ List.replicate (4 - (lg_sl [.ref x0, .int x1, .ref x2]).length) Slot.unset).toArray = ls at hl ⊢
  have hl : lv_has ls 4 [(0, .ref x0), (1, .int x1), (2, .ref x2)] := hl
  unfold pp_R_copyOf1 at hP
  refine lv_aload_n hx hb d_R_copyOf1_0 rfl (lv_at hl 2 rfl) ?_
  refine mr_ldm hx hb hown hok (hts _ wd_248) d_R_copyOf1_1 ?_
  refine mr_acmp_ne (rx := x2) (ry := ((e0 1))) (tgt := 13) hx hb d_R_copyOf1_3 (by decide) (fun hc => ?_) (fun hc => ?_)
  · replace hP := hP.2 hc
    refine lv_aload_n hx hb d_R_copyOf1_13 rfl (lv_at hl 2 rfl) ?_
    exact hP.elim
  · replace hP := hP.1 hc
    refine lv_iload_n hx hb d_R_copyOf1_6 rfl (lv_at hl 1 rfl) ?_
    obtain ⟨hcc, hss, hP⟩ := hP
    refine mr_nq hx hb hown hok hP (hts _ wd_250) hok.2.1.2.1.2.2.1 6 rfl hcc hss d_R_copyOf1_7 (fun q1 M2 H hP hok => ?_)
    refine lv_goto (tgt := 24) hx hb d_R_copyOf1_10 (by decide) ?_
    exact w_24  _ _ _ _ _ _ _ _ _ hP hok (lv_sub hl [0, 1] rfl)

abbrev b_R_copyOf0 : ByteArray := prog_20_method_119_code
def y_R_copyOf0 : MethodName := ⟨"java/util/Arrays", "copyOf", "([Ljava/lang/Object;I)[Ljava/lang/Object;"⟩
def ws_R_copyOf0 : List Cond := .code y_R_copyOf0 b_R_copyOf0 2 (Option.some (Jvm.ClassFile.FieldType.array (Jvm.ClassFile.FieldType.object "java/lang/Object"))) :: lw_g
theorem d_R_copyOf0_0 : decode b_R_copyOf0 0 = .ok (.aload_n 0, 1) := by decide +kernel
theorem d_R_copyOf0_1 : decode b_R_copyOf0 1 = .ok (.iload_n 1, 1) := by decide +kernel
theorem d_R_copyOf0_2 : decode b_R_copyOf0 2 = .ok (.aload_n 0, 1) := by decide +kernel
theorem d_R_copyOf0_3 : decode b_R_copyOf0 3 = .ok (.invokevirtual 86, 3) := by decide +kernel
theorem d_R_copyOf0_6 : decode b_R_copyOf0 6 = .ok (.invokestatic 300, 3) := by decide +kernel
theorem d_R_copyOf0_9 : decode b_R_copyOf0 9 = .ok (.areturn, 1) := by decide +kernel
def pp_R_copyOf0 (g : Nat → ClassId) (e0 : Nat → Nat) (mc ms : Nat) (K : Nat → mo_M → Prop) (M : mo_M) (x0 : Nat) (x1 : Int32) : Prop := mp_gc (g 6) M x0 ((∃ c1 t2 : Nat, 0 + c1 ≤ mc ∧ 0 + t2 ≤ ms ∧ pp_R_copyOf1 g e0 c1 t2 (fun r4 M3 => (((0 + c1)) ≤ mc ∧ ((0 + t2)) ≤ ms ∧ K r4 M3)) M x0 x1 ((e0 1))))
set_option maxHeartbeats 4000000 in
set_option maxRecDepth 100000 in
theorem cc_R_copyOf0 (l : Launch) (L0 : Nat) (D : va_G) {g : Nat → ClassId} {e0 : Nat → Nat} {mc ms : Nat} {K : Nat → mo_M → Prop} {M : mo_M} {x0 : Nat} {x1 : Int32} (hP : pp_R_copyOf0 g e0 mc ms K M x0 x1) : Met l y_R_copyOf0 ws_R_copyOf0 (mo_R 2 mc ms 83) (va_Pc [.ref x0, .int x1] (fun U => mo_B L0 e0 D vwCl (mo_T g) M U)) (mo_Qr L0 e0 D vwCl (mo_T g) K) mc ms (fun q => L0 ≤ q) := by
  refine va_MetF (cc := b_R_copyOf0) (maxL := 2) (ret := (Option.some (Jvm.ClassFile.FieldType.array (Jvm.ClassFile.FieldType.object "java/lang/Object")))) (by decide +kernel) rfl ?_
  intro p e s m args below meth c s₁ B hml hv
  obtain ⟨hv1, hB0⟩ := hv
  have hx := B.exec
  have hb := B.bytes
  have hr := B.returns
  have hts : ∀ w ∈ lw_g, w.before args s = true := fun w hw => atoms_spec (ws := ws_R_copyOf0) B.pre w (List.mem_cons_of_mem _ hw)
  have hown : s.vm.findClass "java/util/Arrays" = some m.cls := findClass_of_methodNamed B.named
  have hlocks := B.notSynchronized
  have hok : mo_ok L0 e0 D vwCl (mo_T g) s M s.heap [] := ⟨hB0.1, hB0.2.1, hB0.2.2, va_S.rf⟩
  have hl := lv_entry ([.ref x0, .int x1]) (n := 2) (Nat.le_of_ble_eq_true rfl)
  rw [hv1, lg_entry_eq]
  rw [← hv1]
  generalize (lg_sl [.ref x0, .int x1] ++ List.replicate (2 - (lg_sl [.ref x0, .int x1]).length) Slot.unset).toArray = ls at hl ⊢
  have hl : lv_has ls 2 [(0, .ref x0), (1, .int x1)] := hl
  unfold pp_R_copyOf0 at hP
  refine lv_aload_n hx hb d_R_copyOf0_0 rfl (lv_at hl 0 rfl) ?_
  refine lv_iload_n hx hb d_R_copyOf0_1 rfl (lv_at hl 1 rfl) ?_
  refine lv_aload_n hx hb d_R_copyOf0_2 rfl (lv_at hl 0 rfl) ?_
  refine mr_gc hx hb (hml.trans hl.1.symm) hown hok hP 6 rfl (hts _ wd_233) (mo_nw_of hok wn_864 rfl) (hts _ wd_863) (hts _ wd_234) (hts _ wd_244) (Nat.le_of_ble_eq_true rfl) (Nat.le_of_ble_eq_true rfl) d_R_copyOf0_3 (fun hP => ?_)
  obtain ⟨c1, t2, hcc, hss, hP⟩ := hP
  refine mo_callr hok (va_runS (As := [.ref x0, .int x1, .ref ((e0 1))]) (rest := []) ⟨hx, hb, hml, hown, hts⟩ (cc_R_copyOf1 l L0 D hP) ⟨(callB_of 3 hts (lw_gi wd_247) rfl rfl rfl (hts _ wd_42) (hts _ wd_245) (by decide +kernel) ⟨Nat.le_of_ble_eq_true rfl, Nat.le_of_ble_eq_true rfl⟩), hts _ wd_246⟩ (mo_preS hok [.ref x0, .int x1, .ref ((e0 1))]) rfl rfl hl.1 rfl (lv_room (Nat.le_of_ble_eq_true rfl)) d_R_copyOf0_6 ⟨hcc, hss⟩) (fun r4 M3 H locs hP hok => ?_)
  obtain ⟨hcu, hsu, hP⟩ := hP
  refine W.widen (k := mc) (n := ms) hcu hsu ?_
  exact mo_aret hx hb hr (Or.inr ⟨_, rfl⟩) hlocks hok hP d_R_copyOf0_9

abbrev b_A_grow1 : ByteArray := prog_19_method_6_code
def y_A_grow1 : MethodName := ⟨"java/util/ArrayList", "grow", "(I)[Ljava/lang/Object;"⟩
def ws_A_grow1 : List Cond := .code y_A_grow1 b_A_grow1 4 (Option.some (Jvm.ClassFile.FieldType.array (Jvm.ClassFile.FieldType.object "java/lang/Object"))) :: lw_g
theorem d_A_grow1_0 : decode b_A_grow1 0 = .ok (.aload_n 0, 1) := by decide +kernel
theorem d_A_grow1_1 : decode b_A_grow1 1 = .ok (.getfield 9, 3) := by decide +kernel
theorem d_A_grow1_4 : decode b_A_grow1 4 = .ok (.arraylength, 1) := by decide +kernel
theorem d_A_grow1_5 : decode b_A_grow1 5 = .ok (.istore_n 2, 1) := by decide +kernel
theorem d_A_grow1_6 : decode b_A_grow1 6 = .ok (.iload_n 2, 1) := by decide +kernel
theorem d_A_grow1_7 : decode b_A_grow1 7 = .ok (.ifCond .gt 13, 3) := by decide +kernel
theorem d_A_grow1_10 : decode b_A_grow1 10 = .ok (.aload_n 0, 1) := by decide +kernel
theorem d_A_grow1_11 : decode b_A_grow1 11 = .ok (.getfield 9, 3) := by decide +kernel
theorem d_A_grow1_14 : decode b_A_grow1 14 = .ok (.getstatic 39, 3) := by decide +kernel
theorem d_A_grow1_17 : decode b_A_grow1 17 = .ok (.if_acmp .eq 28, 3) := by decide +kernel
theorem d_A_grow1_20 : decode b_A_grow1 20 = .ok (.iload_n 2, 1) := by decide +kernel
theorem d_A_grow1_21 : decode b_A_grow1 21 = .ok (.iload_n 1, 1) := by decide +kernel
theorem d_A_grow1_22 : decode b_A_grow1 22 = .ok (.iload_n 2, 1) := by decide +kernel
theorem d_A_grow1_23 : decode b_A_grow1 23 = .ok (.isub, 1) := by decide +kernel
theorem d_A_grow1_24 : decode b_A_grow1 24 = .ok (.iload_n 2, 1) := by decide +kernel
theorem d_A_grow1_25 : decode b_A_grow1 25 = .ok (.iconst 1, 1) := by decide +kernel
theorem d_A_grow1_26 : decode b_A_grow1 26 = .ok (.ishr, 1) := by decide +kernel
theorem d_A_grow1_27 : decode b_A_grow1 27 = .ok (.invokestatic 73, 3) := by decide +kernel
theorem d_A_grow1_30 : decode b_A_grow1 30 = .ok (.istore_n 3, 1) := by decide +kernel
theorem d_A_grow1_31 : decode b_A_grow1 31 = .ok (.aload_n 0, 1) := by decide +kernel
theorem d_A_grow1_32 : decode b_A_grow1 32 = .ok (.aload_n 0, 1) := by decide +kernel
theorem d_A_grow1_33 : decode b_A_grow1 33 = .ok (.getfield 9, 3) := by decide +kernel
theorem d_A_grow1_36 : decode b_A_grow1 36 = .ok (.iload_n 3, 1) := by decide +kernel
theorem d_A_grow1_37 : decode b_A_grow1 37 = .ok (.invokestatic 66, 3) := by decide +kernel
theorem d_A_grow1_40 : decode b_A_grow1 40 = .ok (.dup_x1, 1) := by decide +kernel
theorem d_A_grow1_41 : decode b_A_grow1 41 = .ok (.putfield 9, 3) := by decide +kernel
theorem d_A_grow1_44 : decode b_A_grow1 44 = .ok (.areturn, 1) := by decide +kernel
theorem d_A_grow1_45 : decode b_A_grow1 45 = .ok (.aload_n 0, 1) := by decide +kernel
theorem d_A_grow1_46 : decode b_A_grow1 46 = .ok (.bipush 10, 2) := by decide +kernel
theorem d_A_grow1_48 : decode b_A_grow1 48 = .ok (.iload_n 1, 1) := by decide +kernel
theorem d_A_grow1_49 : decode b_A_grow1 49 = .ok (.invokestatic 79, 3) := by decide +kernel
theorem d_A_grow1_52 : decode b_A_grow1 52 = .ok (.anewarray 7, 3) := by decide +kernel
theorem d_A_grow1_55 : decode b_A_grow1 55 = .ok (.dup_x1, 1) := by decide +kernel
theorem d_A_grow1_56 : decode b_A_grow1 56 = .ok (.putfield 9, 3) := by decide +kernel
theorem d_A_grow1_59 : decode b_A_grow1 59 = .ok (.areturn, 1) := by decide +kernel
def pp_A_grow1_b20 (g : Nat → ClassId) (e0 : Nat → Nat) (mc ms : Nat) (K : Nat → mo_M → Prop) (M : mo_M) (cu su : Nat) (x0 : Nat) (x1 : Int32) (x2 : Int32) : Prop := (cu ≤ mc ∧ su ≤ ms ∧ pp_S_newLength g e0 (fun r8 M7 => mp_gr M7 x0 5 1 (fun v9 => (∃ c10 t11 : Nat, cu + c10 ≤ mc ∧ su + t11 ≤ ms ∧ pp_R_copyOf0 g e0 c10 t11 (fun r13 M12 => mp_pt M12 x0 5 1 (.ref r13) (fun M14 => (((cu + c10)) ≤ mc ∧ ((su + t11)) ≤ ms ∧ K r13 M14))) M7 v9 r8))) M x2 ((x1 - x2)) ((x2 >>> (((1 : Int32)) &&& 31))))
def pp_A_grow1 (g : Nat → ClassId) (e0 : Nat → Nat) (mc ms : Nat) (K : Nat → mo_M → Prop) (M : mo_M) (x0 : Nat) (x1 : Int32) : Prop := mp_gr M x0 5 1 (fun v1 => mp_lq (g 6) e0 M v1 (fun v2 => ((0 < v2 → pp_A_grow1_b20 g e0 mc ms K M 0 0 x0 x1 v2) ∧ (¬ (0 < v2) → mp_gr M x0 5 1 (fun v3 => ((v3 = ((e0 0)) → (0 ≤ mc ∧ 0 ≤ ms ∧ (0 + 1 ≤ mc ∧ 0 + ((if ((10 : Int32)) < x1 then x1 else ((10 : Int32)))).toNatClampNeg ≤ ms ∧ mp_na (g 6) M ((if ((10 : Int32)) < x1 then x1 else ((10 : Int32)))) (.inr (.inr (.inr (.inr (fun _ => none))))) (fun q4 M5 => mp_pt M5 x0 5 1 (.ref q4) (fun M6 => (((0 + 1)) ≤ mc ∧ ((0 + ((if ((10 : Int32)) < x1 then x1 else ((10 : Int32)))).toNatClampNeg)) ≤ ms ∧ K q4 M6)))))) ∧ (¬ (v3 = ((e0 0))) → pp_A_grow1_b20 g e0 mc ms K M 0 0 x0 x1 v2)))))))
set_option maxHeartbeats 4000000 in
set_option maxRecDepth 100000 in
theorem cc_A_grow1 (l : Launch) (L0 : Nat) (D : va_G) {g : Nat → ClassId} {e0 : Nat → Nat} {mc ms : Nat} {K : Nat → mo_M → Prop} {M : mo_M} {x0 : Nat} {x1 : Int32} (hP : pp_A_grow1 g e0 mc ms K M x0 x1) : Met l y_A_grow1 ws_A_grow1 (mo_R 3 mc ms 104) (va_Pc [.ref x0, .int x1] (fun U => mo_B L0 e0 D vwCl (mo_T g) M U)) (mo_Qr L0 e0 D vwCl (mo_T g) K) mc ms (fun q => L0 ≤ q) := by
  refine va_MetF (cc := b_A_grow1) (maxL := 4) (ret := (Option.some (Jvm.ClassFile.FieldType.array (Jvm.ClassFile.FieldType.object "java/lang/Object")))) (by decide +kernel) rfl ?_
  intro p e s m args below meth c s₁ B hml hv
  obtain ⟨hv1, hB0⟩ := hv
  have hx := B.exec
  have hb := B.bytes
  have hr := B.returns
  have hts : ∀ w ∈ lw_g, w.before args s = true := fun w hw => atoms_spec (ws := ws_A_grow1) B.pre w (List.mem_cons_of_mem _ hw)
  have hown : s.vm.findClass "java/util/ArrayList" = some m.cls := findClass_of_methodNamed B.named
  have hlocks := B.notSynchronized
  have w_20 : ∀ (M : mo_M) (cu su : Nat) (x0 : Nat) (x1 : Int32) (x2 : Int32) (H : Heap) (locs : List Loc) (ls : Array Slot), pp_A_grow1_b20 g e0 mc ms K M cu su x0 x1 x2 → mo_ok L0 e0 D vwCl (mo_T g) s M H locs → lv_has ls 4 [(0, .ref x0), (1, .int x1), (2, .int x2)] → W p l e (headSpec ws_A_grow1 (mo_R 3 mc ms 104)).room s m args below meth c H locs cu su (mo_Z below (mo_Qr L0 e0 D vwCl (mo_T g) K) args s mc ms L0) (F0 m 20 ls []) := by
    intro M cu su x0 x1 x2 H locs ls hP hok hl
    unfold pp_A_grow1_b20 at hP
    refine lv_iload_n hx hb d_A_grow1_20 rfl (lv_at hl 2 rfl) ?_
    refine lv_iload_n hx hb d_A_grow1_21 rfl (lv_at hl 1 rfl) ?_
    refine lv_iload_n hx hb d_A_grow1_22 rfl (lv_at hl 2 rfl) ?_
    refine lv_isub hx hb d_A_grow1_23 ?_
    refine lv_iload_n hx hb d_A_grow1_24 rfl (lv_at hl 2 rfl) ?_
    refine lv_iconst (v := 1) hx hb d_A_grow1_25 (by decide) ?_
    refine lv_ishr hx hb d_A_grow1_26 ?_
    obtain ⟨hcc, hss, hP⟩ := hP
    refine mo_calli hok (va_runS (As := [.int x2, .int ((x1 - x2)), .int ((x2 >>> (((1 : Int32)) &&& 31)))]) (rest := []) ⟨hx, hb, hml, hown, hts⟩ (cc_S_newLength l L0 D hP) ⟨(callB_of 3 hts (lw_gi wd_224) rfl rfl rfl (hts _ wd_41) (hts _ wd_222) (by decide +kernel) ⟨Nat.le_of_ble_eq_true rfl, Nat.le_of_ble_eq_true rfl⟩), hts _ wd_223⟩ (mo_preS hok [.int x2, .int ((x1 - x2)), .int ((x2 >>> (((1 : Int32)) &&& 31)))]) rfl rfl hl.1 rfl (lv_room (Nat.le_of_ble_eq_true rfl)) d_A_grow1_27 ⟨hcc, hss⟩) (fun r8 M7 H locs hP hok => ?_)
    refine lv_istore_n (lv' := [(3, .int r8), (0, .ref x0), (1, .int x1), (2, .int x2)]) hx hb d_A_grow1_30 rfl hl (by decide) rfl (fun ls hl => ?_)
    refine lv_aload_n hx hb d_A_grow1_31 rfl (lv_at hl 1 rfl) ?_
    refine lv_aload_n hx hb d_A_grow1_32 rfl (lv_at hl 1 rfl) ?_
    refine mr_gr (C := "java/util/ArrayList") (T := F_5) (N := 3) (ref := "java/util/ArrayList") hx hb hts hown hok hP ui_5 rfl (by decide) (hts _ wd_74) (fun _ h => h) d_A_grow1_33 (fun v9 hP => ?_)
    refine lv_iload_n hx hb d_A_grow1_36 rfl (lv_at hl 0 rfl) ?_
    obtain ⟨c10, t11, hcc, hss, hP⟩ := hP
    refine mo_callr hok (va_runS (As := [.ref v9, .int r8]) (rest := [.ref x0]) ⟨hx, hb, hml, hown, hts⟩ (cc_R_copyOf0 l L0 D hP) ⟨(callB_of 2 hts (lw_gi wd_232) rfl rfl rfl (hts _ wd_42) (hts _ wd_230) (by decide +kernel) ⟨Nat.le_of_ble_eq_true rfl, Nat.le_of_ble_eq_true rfl⟩), hts _ wd_231⟩ (mo_preS hok [.ref v9, .int r8]) rfl rfl hl.1 rfl (lv_room (Nat.le_of_ble_eq_true rfl)) d_A_grow1_37 ⟨hcc, hss⟩) (fun r13 M12 H locs hP hok => ?_)
    refine lv_dup_x1 hx hb d_A_grow1_40 rfl rfl ?_
    refine mr_pt (C := "java/util/ArrayList") (T := F_5) (N := 3) (ref := "java/util/ArrayList") (ty := (.array (.object "java/lang/Object"))) hx hb hts hown hok hP ui_5 ty_5 th_5 tn_5 rfl (by decide) (hts _ wd_74) (fun _ h => h) rfl (by decide +kernel) rfl rfl d_A_grow1_41 (fun M14 H locs hP hok => ?_)
    obtain ⟨hcu, hsu, hP⟩ := hP
    refine W.widen (k := mc) (n := ms) hcu hsu ?_
    exact mo_aret hx hb hr (Or.inr ⟨_, rfl⟩) hlocks hok hP d_A_grow1_44
  have hok : mo_ok L0 e0 D vwCl (mo_T g) s M s.heap [] := ⟨hB0.1, hB0.2.1, hB0.2.2, va_S.rf⟩
  have hl := lv_entry ([.ref x0, .int x1]) (n := 4) (Nat.le_of_ble_eq_true rfl)
  rw [hv1, lg_entry_eq]
  rw [← hv1]
  generalize (lg_sl [.ref x0, .int x1] ++ List.replicate (4 - (lg_sl [.ref x0, .int x1]).length) Slot.unset).toArray = ls at hl ⊢
  have hl : lv_has ls 4 [(0, .ref x0), (1, .int x1)] := hl
  unfold pp_A_grow1 at hP
  refine lv_aload_n hx hb d_A_grow1_0 rfl (lv_at hl 0 rfl) ?_
  refine mr_gr (C := "java/util/ArrayList") (T := F_5) (N := 3) (ref := "java/util/ArrayList") hx hb hts hown hok hP ui_5 rfl (by decide) (hts _ wd_74) (fun _ h => h) d_A_grow1_1 (fun v1 hP => ?_)
  refine mr_lq hx hb hok hP 6 rfl d_A_grow1_4 (fun v2 hP => ?_)
  refine lv_istore_n (lv' := [(2, .int v2), (0, .ref x0), (1, .int x1)]) hx hb d_A_grow1_5 rfl hl (by decide) rfl (fun ls hl => ?_)
  refine lv_iload_n hx hb d_A_grow1_6 rfl (lv_at hl 0 rfl) ?_
  refine lv_if_gt (tgt := 20) hx hb d_A_grow1_7 (by decide) (fun hc => ?_) (fun hc => ?_)
  · replace hP := hP.1 hc
    exact w_20  _ _ _ _ _ _ _ _ _ hP hok (lv_sub hl [1, 2, 0] rfl)
  · replace hP := hP.2 hc
    refine lv_aload_n hx hb d_A_grow1_10 rfl (lv_at hl 1 rfl) ?_
    refine mr_gr (C := "java/util/ArrayList") (T := F_5) (N := 3) (ref := "java/util/ArrayList") hx hb hts hown hok hP ui_5 rfl (by decide) (hts _ wd_74) (fun _ h => h) d_A_grow1_11 (fun v3 hP => ?_)
    refine mr_gst hx hb hown hok (hts _ wd_72) d_A_grow1_14 ?_
    refine mr_acmp_eq (rx := v3) (ry := ((e0 0))) (tgt := 45) hx hb d_A_grow1_17 (by decide) (fun hc => ?_) (fun hc => ?_)
    · replace hP := hP.1 hc
      refine lv_aload_n hx hb d_A_grow1_45 rfl (lv_at hl 1 rfl) ?_
      refine lv_bipush (v := 10) hx hb d_A_grow1_46 (by decide) ?_
      refine lv_iload_n hx hb d_A_grow1_48 rfl (lv_at hl 2 rfl) ?_
      obtain ⟨hcc, hss, hP⟩ := hP
      refine va_mmax hx hb (by rw [hml]; exact hl.1.symm) hown (hts _ wd_255) (hts _ wd_92) (hts _ wd_37) (hts _ wd_93) (Nat.le_of_ble_eq_true rfl) (Nat.le_of_ble_eq_true rfl) hcc hss d_A_grow1_49 ?_
      obtain ⟨hcc, hss, hP⟩ := hP
      refine mr_nq hx hb hown hok hP (hts _ wd_256) hok.2.1.2.1.2.2.1 6 rfl hcc hss d_A_grow1_52 (fun q4 M5 H hP hok => ?_)
      refine lv_dup_x1 hx hb d_A_grow1_55 rfl rfl ?_
      refine mr_pt (C := "java/util/ArrayList") (T := F_5) (N := 3) (ref := "java/util/ArrayList") (ty := (.array (.object "java/lang/Object"))) hx hb hts hown hok hP ui_5 ty_5 th_5 tn_5 rfl (by decide) (hts _ wd_74) (fun _ h => h) rfl (by decide +kernel) rfl rfl d_A_grow1_56 (fun M6 H locs hP hok => ?_)
      obtain ⟨hcu, hsu, hP⟩ := hP
      refine W.widen (k := mc) (n := ms) hcu hsu ?_
      exact mo_aret hx hb hr (Or.inr ⟨_, rfl⟩) hlocks hok hP d_A_grow1_59
    · replace hP := hP.2 hc
      exact w_20  _ _ _ _ _ _ _ _ _ hP hok (lv_sub hl [1, 2, 0] rfl)

abbrev b_A_grow0 : ByteArray := prog_19_method_7_code
def y_A_grow0 : MethodName := ⟨"java/util/ArrayList", "grow", "()[Ljava/lang/Object;"⟩
def ws_A_grow0 : List Cond := .code y_A_grow0 b_A_grow0 1 (Option.some (Jvm.ClassFile.FieldType.array (Jvm.ClassFile.FieldType.object "java/lang/Object"))) :: lw_g
theorem d_A_grow0_0 : decode b_A_grow0 0 = .ok (.aload_n 0, 1) := by decide +kernel
theorem d_A_grow0_1 : decode b_A_grow0 1 = .ok (.aload_n 0, 1) := by decide +kernel
theorem d_A_grow0_2 : decode b_A_grow0 2 = .ok (.getfield 48, 3) := by decide +kernel
theorem d_A_grow0_5 : decode b_A_grow0 5 = .ok (.iconst 1, 1) := by decide +kernel
theorem d_A_grow0_6 : decode b_A_grow0 6 = .ok (.iadd, 1) := by decide +kernel
theorem d_A_grow0_7 : decode b_A_grow0 7 = .ok (.invokevirtual 69, 3) := by decide +kernel
theorem d_A_grow0_10 : decode b_A_grow0 10 = .ok (.areturn, 1) := by decide +kernel
def pp_A_grow0 (g : Nat → ClassId) (e0 : Nat → Nat) (mc ms : Nat) (K : Nat → mo_M → Prop) (M : mo_M) (x0 : Nat) : Prop := mp_gi M x0 5 2 (fun v1 => (∃ c2 t3 : Nat, 0 + c2 ≤ mc ∧ 0 + t3 ≤ ms ∧ (mp_is M x0 5 ∧ pp_A_grow1 g e0 c2 t3 (fun r5 M4 => (((0 + c2)) ≤ mc ∧ ((0 + t3)) ≤ ms ∧ K r5 M4)) M x0 ((v1 + ((1 : Int32)))))))
set_option maxHeartbeats 4000000 in
set_option maxRecDepth 100000 in
theorem cc_A_grow0 (l : Launch) (L0 : Nat) (D : va_G) {g : Nat → ClassId} {e0 : Nat → Nat} {mc ms : Nat} {K : Nat → mo_M → Prop} {M : mo_M} {x0 : Nat} (hP : pp_A_grow0 g e0 mc ms K M x0) : Met l y_A_grow0 ws_A_grow0 (mo_R 4 mc ms 127) (va_Pc [.ref x0] (fun U => mo_B L0 e0 D vwCl (mo_T g) M U)) (mo_Qr L0 e0 D vwCl (mo_T g) K) mc ms (fun q => L0 ≤ q) := by
  refine va_MetF (cc := b_A_grow0) (maxL := 1) (ret := (Option.some (Jvm.ClassFile.FieldType.array (Jvm.ClassFile.FieldType.object "java/lang/Object")))) (by decide +kernel) rfl ?_
  intro p e s m args below meth c s₁ B hml hv
  obtain ⟨hv1, hB0⟩ := hv
  have hx := B.exec
  have hb := B.bytes
  have hr := B.returns
  have hts : ∀ w ∈ lw_g, w.before args s = true := fun w hw => atoms_spec (ws := ws_A_grow0) B.pre w (List.mem_cons_of_mem _ hw)
  have hown : s.vm.findClass "java/util/ArrayList" = some m.cls := findClass_of_methodNamed B.named
  have hlocks := B.notSynchronized
  have hok : mo_ok L0 e0 D vwCl (mo_T g) s M s.heap [] := ⟨hB0.1, hB0.2.1, hB0.2.2, va_S.rf⟩
  have hl := lv_entry ([.ref x0]) (n := 1) (Nat.le_of_ble_eq_true rfl)
  rw [hv1, lg_entry_eq]
  rw [← hv1]
  generalize (lg_sl [.ref x0] ++ List.replicate (1 - (lg_sl [.ref x0]).length) Slot.unset).toArray = ls at hl ⊢
  have hl : lv_has ls 1 [(0, .ref x0)] := hl
  unfold pp_A_grow0 at hP
  refine lv_aload_n hx hb d_A_grow0_0 rfl (lv_at hl 0 rfl) ?_
  refine lv_aload_n hx hb d_A_grow0_1 rfl (lv_at hl 0 rfl) ?_
  refine mr_gi (C := "java/util/ArrayList") (T := F_5) (N := 3) (ref := "java/util/ArrayList") hx hb hts hown hok hP ui_5 rfl (by decide) (hts _ wd_75) (fun _ h => h) d_A_grow0_2 (fun v1 hP => ?_)
  refine lv_iconst (v := 1) hx hb d_A_grow0_5 (by decide) ?_
  refine lv_iadd hx hb d_A_grow0_6 ?_
  obtain ⟨c2, t3, hcc, hss, hP⟩ := hP
  obtain ⟨⟨fs9, he9⟩, hP⟩ := hP
  refine mo_callr hok (va_runV (As := [.int ((v1 + ((1 : Int32))))]) (rest := []) ⟨hx, hb, hml, hown, hts⟩ (cc_A_grow1 l L0 D hP) ⟨(callB_of 1 hts (lw_gi wd_221) rfl rfl rfl (hts _ wd_36) (hts _ wd_218) (by decide +kernel) ⟨Nat.le_of_ble_eq_true rfl, Nat.le_of_ble_eq_true rfl⟩), hts _ wd_220, hts _ wd_3⟩ (mo_preV hok he9 rfl [.int ((v1 + ((1 : Int32))))]) rfl rfl hl.1 rfl (lv_room (Nat.le_of_ble_eq_true rfl)) d_A_grow0_7 ⟨hcc, hss⟩) (fun r5 M4 H locs hP hok => ?_)
  obtain ⟨hcu, hsu, hP⟩ := hP
  refine W.widen (k := mc) (n := ms) hcu hsu ?_
  exact mo_aret hx hb hr (Or.inr ⟨_, rfl⟩) hlocks hok hP d_A_grow0_10

abbrev b_A_add1 : ByteArray := prog_19_method_24_code
def y_A_add1 : MethodName := ⟨"java/util/ArrayList", "add", "(Ljava/lang/Object;[Ljava/lang/Object;I)V"⟩
def ws_A_add1 : List Cond := .code y_A_add1 b_A_add1 4 (Option.none : Option Jvm.ClassFile.FieldType) :: lw_g
theorem d_A_add1_0 : decode b_A_add1 0 = .ok (.iload_n 3, 1) := by decide +kernel
theorem d_A_add1_1 : decode b_A_add1 1 = .ok (.aload_n 2, 1) := by decide +kernel
theorem d_A_add1_2 : decode b_A_add1 2 = .ok (.arraylength, 1) := by decide +kernel
theorem d_A_add1_3 : decode b_A_add1 3 = .ok (.if_icmp .ne 8, 3) := by decide +kernel
theorem d_A_add1_6 : decode b_A_add1 6 = .ok (.aload_n 0, 1) := by decide +kernel
theorem d_A_add1_7 : decode b_A_add1 7 = .ok (.invokevirtual 129, 3) := by decide +kernel
theorem d_A_add1_10 : decode b_A_add1 10 = .ok (.astore_n 2, 1) := by decide +kernel
theorem d_A_add1_11 : decode b_A_add1 11 = .ok (.aload_n 2, 1) := by decide +kernel
theorem d_A_add1_12 : decode b_A_add1 12 = .ok (.iload_n 3, 1) := by decide +kernel
theorem d_A_add1_13 : decode b_A_add1 13 = .ok (.aload_n 1, 1) := by decide +kernel
theorem d_A_add1_14 : decode b_A_add1 14 = .ok (.aastore, 1) := by decide +kernel
theorem d_A_add1_15 : decode b_A_add1 15 = .ok (.aload_n 0, 1) := by decide +kernel
theorem d_A_add1_16 : decode b_A_add1 16 = .ok (.iload_n 3, 1) := by decide +kernel
theorem d_A_add1_17 : decode b_A_add1 17 = .ok (.iconst 1, 1) := by decide +kernel
theorem d_A_add1_18 : decode b_A_add1 18 = .ok (.iadd, 1) := by decide +kernel
theorem d_A_add1_19 : decode b_A_add1 19 = .ok (.putfield 48, 3) := by decide +kernel
theorem d_A_add1_22 : decode b_A_add1 22 = .ok (.return_, 1) := by decide +kernel
def pp_A_add1_b11 (g : Nat → ClassId) (e0 : Nat → Nat) (mc ms : Nat) (K : mo_M → Prop) (M : mo_M) (cu su : Nat) (x0 : Nat) (x1 : Nat) (x2 : Nat) (x3 : Int32) : Prop := mp_so (g 6) M x2 x3 x1 (fun M6 => mp_pt M6 x0 5 2 (.int ((x3 + ((1 : Int32))))) (fun M7 => (cu ≤ mc ∧ su ≤ ms ∧ K M7)))
def pp_A_add1 (g : Nat → ClassId) (e0 : Nat → Nat) (mc ms : Nat) (K : mo_M → Prop) (M : mo_M) (x0 : Nat) (x1 : Nat) (x2 : Nat) (x3 : Int32) : Prop := mp_lq (g 6) e0 M x2 (fun v1 => ((x3 = v1 → (∃ c2 t3 : Nat, 0 + c2 ≤ mc ∧ 0 + t3 ≤ ms ∧ (mp_is M x0 5 ∧ pp_A_grow0 g e0 c2 t3 (fun r5 M4 => pp_A_add1_b11 g e0 mc ms K M4 ((0 + c2)) ((0 + t3)) x0 x1 r5 x3) M x0))) ∧ (¬ (x3 = v1) → pp_A_add1_b11 g e0 mc ms K M 0 0 x0 x1 x2 x3)))
set_option maxHeartbeats 4000000 in
set_option maxRecDepth 100000 in
theorem cc_A_add1 (l : Launch) (L0 : Nat) (D : va_G) {g : Nat → ClassId} {e0 : Nat → Nat} {mc ms : Nat} {K : mo_M → Prop} {M : mo_M} {x0 : Nat} {x1 : Nat} {x2 : Nat} {x3 : Int32} (hP : pp_A_add1 g e0 mc ms K M x0 x1 x2 x3) : Met l y_A_add1 ws_A_add1 (mo_R 5 mc ms 147) (va_Pc [.ref x0, .ref x1, .ref x2, .int x3] (fun U => mo_B L0 e0 D vwCl (mo_T g) M U)) (mo_Qv L0 e0 D vwCl (mo_T g) K) mc ms (fun q => L0 ≤ q) := by
  refine va_MetF (cc := b_A_add1) (maxL := 4) (ret := (Option.none : Option Jvm.ClassFile.FieldType)) (by decide +kernel) rfl ?_
  intro p e s m args below meth c s₁ B hml hv
  obtain ⟨hv1, hB0⟩ := hv
  have hx := B.exec
  have hb := B.bytes
  have hr := B.returns
  have hts : ∀ w ∈ lw_g, w.before args s = true := fun w hw => atoms_spec (ws := ws_A_add1) B.pre w (List.mem_cons_of_mem _ hw)
  have hown : s.vm.findClass "java/util/ArrayList" = some m.cls := findClass_of_methodNamed B.named
  have hlocks := B.notSynchronized
  have w_11 : ∀ (M : mo_M) (cu su : Nat) (x0 : Nat) (x1 : Nat) (x2 : Nat) (x3 : Int32) (H : Heap) (locs : List Loc) (ls : Array Slot), pp_A_add1_b11 g e0 mc ms K M cu su x0 x1 x2 x3 → mo_ok L0 e0 D vwCl (mo_T g) s M H locs → lv_has ls 4 [(0, .ref x0), (1, .ref x1), (2, .ref x2), (3, .int x3)] → W p l e (headSpec ws_A_add1 (mo_R 5 mc ms 147)).room s m args below meth c H locs cu su (mo_Z below (mo_Qv L0 e0 D vwCl (mo_T g) K) args s mc ms L0) (F0 m 11 ls []) := by
    intro M cu su x0 x1 x2 x3 H locs ls hP hok hl
    unfold pp_A_add1_b11 at hP
    refine lv_aload_n hx hb d_A_add1_11 rfl (lv_at hl 2 rfl) ?_
    refine lv_iload_n hx hb d_A_add1_12 rfl (lv_at hl 3 rfl) ?_
    refine lv_aload_n hx hb d_A_add1_13 rfl (lv_at hl 1 rfl) ?_
    refine mr_so hx hb hok hP 6 rfl d_A_add1_14 (fun M6 H locs hP hok => ?_)
    refine lv_aload_n hx hb d_A_add1_15 rfl (lv_at hl 0 rfl) ?_
    refine lv_iload_n hx hb d_A_add1_16 rfl (lv_at hl 3 rfl) ?_
    refine lv_iconst (v := 1) hx hb d_A_add1_17 (by decide) ?_
    refine lv_iadd hx hb d_A_add1_18 ?_
    refine mr_pt (C := "java/util/ArrayList") (T := F_5) (N := 3) (ref := "java/util/ArrayList") (ty := .int) hx hb hts hown hok hP ui_5 ty_5 th_5 tn_5 rfl (by decide) (hts _ wd_75) (fun _ h => h) rfl (by decide +kernel) rfl rfl d_A_add1_19 (fun M7 H locs hP hok => ?_)
    obtain ⟨hcu, hsu, hP⟩ := hP
    refine W.widen (k := mc) (n := ms) hcu hsu ?_
    exact mo_vret hx hb hr hlocks hok hP d_A_add1_22
  have hok : mo_ok L0 e0 D vwCl (mo_T g) s M s.heap [] := ⟨hB0.1, hB0.2.1, hB0.2.2, va_S.rf⟩
  have hl := lv_entry ([.ref x0, .ref x1, .ref x2, .int x3]) (n := 4) (Nat.le_of_ble_eq_true rfl)
  rw [hv1, lg_entry_eq]
  rw [← hv1]
  generalize (lg_sl [.ref x0, .ref x1, .ref x2, .int x3] ++ List.replicate (4 - (lg_sl [.ref x0, .ref x1, .ref x2, .int x3]).length) Slot.unset).toArray = ls at hl ⊢
  have hl : lv_has ls 4 [(0, .ref x0), (1, .ref x1), (2, .ref x2), (3, .int x3)] := hl
  unfold pp_A_add1 at hP
  refine lv_iload_n hx hb d_A_add1_0 rfl (lv_at hl 3 rfl) ?_
  refine lv_aload_n hx hb d_A_add1_1 rfl (lv_at hl 2 rfl) ?_
  refine mr_lq hx hb hok hP 6 rfl d_A_add1_2 (fun v1 hP => ?_)
  refine lv_icmp_ne (tgt := 11) hx hb d_A_add1_3 (by decide) (fun hc => ?_) (fun hc => ?_)
  · replace hP := hP.2 hc
    exact w_11  _ _ _ _ _ _ _ _ _ _ hP hok (lv_sub hl [0, 1, 2, 3] rfl)
  · replace hP := hP.1 hc
    refine lv_aload_n hx hb d_A_add1_6 rfl (lv_at hl 0 rfl) ?_
    obtain ⟨c2, t3, hcc, hss, hP⟩ := hP
    obtain ⟨⟨fs9, he9⟩, hP⟩ := hP
    refine mo_callr hok (va_runV (As := []) (rest := []) ⟨hx, hb, hml, hown, hts⟩ (cc_A_grow0 l L0 D hP) ⟨(callB_of 0 hts (lw_gi wd_217) rfl rfl rfl (hts _ wd_36) (hts _ wd_214) (by decide +kernel) ⟨Nat.le_of_ble_eq_true rfl, Nat.le_of_ble_eq_true rfl⟩), hts _ wd_216, hts _ wd_2⟩ (mo_preV hok he9 rfl []) rfl rfl hl.1 rfl (lv_room (Nat.le_of_ble_eq_true rfl)) d_A_add1_7 ⟨hcc, hss⟩) (fun r5 M4 H locs hP hok => ?_)
    refine lv_astore_n (lv' := [(2, .ref r5), (0, .ref x0), (1, .ref x1), (3, .int x3)]) hx hb d_A_add1_10 rfl hl (by decide) rfl (fun ls hl => ?_)
    exact w_11  _ _ _ _ _ _ _ _ _ _ hP hok (lv_sub hl [1, 2, 0, 3] rfl)

abbrev b_A_add0 : ByteArray := prog_19_method_25_code
def y_A_add0 : MethodName := ⟨"java/util/ArrayList", "add", "(Ljava/lang/Object;)Z"⟩
def ws_A_add0 : List Cond := .code y_A_add0 b_A_add0 2 (Option.some Jvm.ClassFile.FieldType.boolean) :: lw_g
theorem d_A_add0_0 : decode b_A_add0 0 = .ok (.aload_n 0, 1) := by decide +kernel
theorem d_A_add0_1 : decode b_A_add0 1 = .ok (.dup, 1) := by decide +kernel
theorem d_A_add0_2 : decode b_A_add0 2 = .ok (.getfield 63, 3) := by decide +kernel
theorem d_A_add0_5 : decode b_A_add0 5 = .ok (.iconst 1, 1) := by decide +kernel
theorem d_A_add0_6 : decode b_A_add0 6 = .ok (.iadd, 1) := by decide +kernel
theorem d_A_add0_7 : decode b_A_add0 7 = .ok (.putfield 63, 3) := by decide +kernel
theorem d_A_add0_10 : decode b_A_add0 10 = .ok (.aload_n 0, 1) := by decide +kernel
theorem d_A_add0_11 : decode b_A_add0 11 = .ok (.aload_n 1, 1) := by decide +kernel
theorem d_A_add0_12 : decode b_A_add0 12 = .ok (.aload_n 0, 1) := by decide +kernel
theorem d_A_add0_13 : decode b_A_add0 13 = .ok (.getfield 9, 3) := by decide +kernel
theorem d_A_add0_16 : decode b_A_add0 16 = .ok (.aload_n 0, 1) := by decide +kernel
theorem d_A_add0_17 : decode b_A_add0 17 = .ok (.getfield 48, 3) := by decide +kernel
theorem d_A_add0_20 : decode b_A_add0 20 = .ok (.invokevirtual 131, 3) := by decide +kernel
theorem d_A_add0_23 : decode b_A_add0 23 = .ok (.iconst 1, 1) := by decide +kernel
theorem d_A_add0_24 : decode b_A_add0 24 = .ok (.ireturn, 1) := by decide +kernel
def pp_A_add0 (g : Nat → ClassId) (e0 : Nat → Nat) (mc ms : Nat) (K : Int32 → mo_M → Prop) (M : mo_M) (x0 : Nat) (x1 : Nat) : Prop := mp_gi M x0 5 0 (fun v1 => mp_pt M x0 5 0 (.int ((v1 + ((1 : Int32))))) (fun M2 => mp_gr M2 x0 5 1 (fun v3 => mp_gi M2 x0 5 2 (fun v4 => (∃ c5 t6 : Nat, 0 + c5 ≤ mc ∧ 0 + t6 ≤ ms ∧ (mp_is M2 x0 5 ∧ pp_A_add1 g e0 c5 t6 (fun M7 => (((0 + c5)) ≤ mc ∧ ((0 + t6)) ≤ ms ∧ (narrow .boolean (.int ((1 : Int32))) = .int ((1 : Int32)) ∧ K ((1 : Int32)) M7))) M2 x0 x1 v3 v4))))))
set_option maxHeartbeats 4000000 in
set_option maxRecDepth 100000 in
theorem cc_A_add0 (l : Launch) (L0 : Nat) (D : va_G) {g : Nat → ClassId} {e0 : Nat → Nat} {mc ms : Nat} {K : Int32 → mo_M → Prop} {M : mo_M} {x0 : Nat} {x1 : Nat} (hP : pp_A_add0 g e0 mc ms K M x0 x1) : Met l y_A_add0 ws_A_add0 (mo_R 6 mc ms 170) (va_Pc [.ref x0, .ref x1] (fun U => mo_B L0 e0 D vwCl (mo_T g) M U)) (mo_Qi L0 e0 D vwCl (mo_T g) K) mc ms (fun q => L0 ≤ q) := by
  refine va_MetF (cc := b_A_add0) (maxL := 2) (ret := (Option.some Jvm.ClassFile.FieldType.boolean)) (by decide +kernel) rfl ?_
  intro p e s m args below meth c s₁ B hml hv
  obtain ⟨hv1, hB0⟩ := hv
  have hx := B.exec
  have hb := B.bytes
  have hr := B.returns
  have hts : ∀ w ∈ lw_g, w.before args s = true := fun w hw => atoms_spec (ws := ws_A_add0) B.pre w (List.mem_cons_of_mem _ hw)
  have hown : s.vm.findClass "java/util/ArrayList" = some m.cls := findClass_of_methodNamed B.named
  have hlocks := B.notSynchronized
  have hok : mo_ok L0 e0 D vwCl (mo_T g) s M s.heap [] := ⟨hB0.1, hB0.2.1, hB0.2.2, va_S.rf⟩
  have hl := lv_entry ([.ref x0, .ref x1]) (n := 2) (Nat.le_of_ble_eq_true rfl)
  rw [hv1, lg_entry_eq]
  rw [← hv1]
  generalize (lg_sl [.ref x0, .ref x1] ++ List.replicate (2 - (lg_sl [.ref x0, .ref x1]).length) Slot.unset).toArray = ls at hl ⊢
  have hl : lv_has ls 2 [(0, .ref x0), (1, .ref x1)] := hl
  unfold pp_A_add0 at hP
  refine lv_aload_n hx hb d_A_add0_0 rfl (lv_at hl 0 rfl) ?_
  refine lv_dup hx hb d_A_add0_1 rfl ?_
  refine mr_gi (C := "java/util/ArrayList") (T := F_5) (N := 3) (ref := "java/util/ArrayList") hx hb hts hown hok hP ui_5 rfl (by decide) (hts _ wd_77) (fun x9 h9 => u_same (hts _ wd_78) x9 h9) d_A_add0_2 (fun v1 hP => ?_)
  refine lv_iconst (v := 1) hx hb d_A_add0_5 (by decide) ?_
  refine lv_iadd hx hb d_A_add0_6 ?_
  refine mr_pt (C := "java/util/ArrayList") (T := F_5) (N := 3) (ref := "java/util/ArrayList") (ty := .int) hx hb hts hown hok hP ui_5 ty_5 th_5 tn_5 rfl (by decide) (hts _ wd_77) (fun x9 h9 => u_same (hts _ wd_78) x9 h9) rfl (by decide +kernel) rfl rfl d_A_add0_7 (fun M2 H locs hP hok => ?_)
  refine lv_aload_n hx hb d_A_add0_10 rfl (lv_at hl 0 rfl) ?_
  refine lv_aload_n hx hb d_A_add0_11 rfl (lv_at hl 1 rfl) ?_
  refine lv_aload_n hx hb d_A_add0_12 rfl (lv_at hl 0 rfl) ?_
  refine mr_gr (C := "java/util/ArrayList") (T := F_5) (N := 3) (ref := "java/util/ArrayList") hx hb hts hown hok hP ui_5 rfl (by decide) (hts _ wd_74) (fun _ h => h) d_A_add0_13 (fun v3 hP => ?_)
  refine lv_aload_n hx hb d_A_add0_16 rfl (lv_at hl 0 rfl) ?_
  refine mr_gi (C := "java/util/ArrayList") (T := F_5) (N := 3) (ref := "java/util/ArrayList") hx hb hts hown hok hP ui_5 rfl (by decide) (hts _ wd_75) (fun _ h => h) d_A_add0_17 (fun v4 hP => ?_)
  obtain ⟨c5, t6, hcc, hss, hP⟩ := hP
  obtain ⟨⟨fs9, he9⟩, hP⟩ := hP
  refine mo_callv hok (va_runV (As := [.ref x1, .ref v3, .int v4]) (rest := []) ⟨hx, hb, hml, hown, hts⟩ (cc_A_add1 l L0 D hP) ⟨(callB_of 3 hts (lw_gi wd_213) rfl rfl rfl (hts _ wd_36) (hts _ wd_210) (by decide +kernel) ⟨Nat.le_of_ble_eq_true rfl, Nat.le_of_ble_eq_true rfl⟩), hts _ wd_212, hts _ wd_1⟩ (mo_preV hok he9 rfl [.ref x1, .ref v3, .int v4]) rfl rfl hl.1 rfl (lv_room (Nat.le_of_ble_eq_true rfl)) d_A_add0_20 ⟨hcc, hss⟩) (fun M7 H locs hP hok => ?_)
  refine lv_iconst (v := 1) hx hb d_A_add0_23 (by decide) ?_
  obtain ⟨hcu, hsu, hP⟩ := hP
  refine W.widen (k := mc) (n := ms) hcu hsu ?_
  exact mo_zret hx hb hr hlocks hok hP d_A_add0_24

abbrev b_P_checkIndex : ByteArray := prog_28_method_11_code
def y_P_checkIndex : MethodName := ⟨"jdk/internal/util/Preconditions", "checkIndex", "(IILjava/util/function/BiFunction;)I"⟩
def ws_P_checkIndex : List Cond := .code y_P_checkIndex b_P_checkIndex 3 (Option.some Jvm.ClassFile.FieldType.int) :: lw_g
theorem d_P_checkIndex_0 : decode b_P_checkIndex 0 = .ok (.iload_n 0, 1) := by decide +kernel
theorem d_P_checkIndex_1 : decode b_P_checkIndex 1 = .ok (.ifCond .lt 8, 3) := by decide +kernel
theorem d_P_checkIndex_4 : decode b_P_checkIndex 4 = .ok (.iload_n 0, 1) := by decide +kernel
theorem d_P_checkIndex_5 : decode b_P_checkIndex 5 = .ok (.iload_n 1, 1) := by decide +kernel
theorem d_P_checkIndex_6 : decode b_P_checkIndex 6 = .ok (.if_icmp .lt 10, 3) := by decide +kernel
theorem d_P_checkIndex_9 : decode b_P_checkIndex 9 = .ok (.aload_n 2, 1) := by decide +kernel
theorem d_P_checkIndex_10 : decode b_P_checkIndex 10 = .ok (.iload_n 0, 1) := by decide +kernel
theorem d_P_checkIndex_11 : decode b_P_checkIndex 11 = .ok (.iload_n 1, 1) := by decide +kernel
theorem d_P_checkIndex_12 : decode b_P_checkIndex 12 = .ok (.invokestatic 95, 3) := by decide +kernel
theorem d_P_checkIndex_15 : decode b_P_checkIndex 15 = .ok (.athrow, 1) := by decide +kernel
theorem d_P_checkIndex_16 : decode b_P_checkIndex 16 = .ok (.iload_n 0, 1) := by decide +kernel
theorem d_P_checkIndex_17 : decode b_P_checkIndex 17 = .ok (.ireturn, 1) := by decide +kernel
def pp_P_checkIndex_b9 (g : Nat → ClassId) (e0 : Nat → Nat) (K : Int32 → mo_M → Prop) (M : mo_M) (x0 : Int32) (x1 : Int32) : Prop := False
def pp_P_checkIndex (g : Nat → ClassId) (e0 : Nat → Nat) (K : Int32 → mo_M → Prop) (M : mo_M) (x0 : Int32) (x1 : Int32) : Prop := ((x0 < 0 → pp_P_checkIndex_b9 g e0 K M x0 x1) ∧ (¬ (x0 < 0) → ((x0 < x1 → K x0 M) ∧ (¬ (x0 < x1) → pp_P_checkIndex_b9 g e0 K M x0 x1))))
set_option maxHeartbeats 4000000 in
set_option maxRecDepth 100000 in
theorem cc_P_checkIndex (l : Launch) (L0 : Nat) (D : va_G) {g : Nat → ClassId} {e0 : Nat → Nat} {K : Int32 → mo_M → Prop} {M : mo_M} {x0 : Int32} {x1 : Int32} (hP : pp_P_checkIndex g e0 K M x0 x1) : Met l y_P_checkIndex ws_P_checkIndex (mo_R 0 0 0 0) (va_Pc [.int x0, .int x1, .null] (fun U => mo_B L0 e0 D vwCl (mo_T g) M U)) (mo_Qi L0 e0 D vwCl (mo_T g) K) 0 0 (fun q => L0 ≤ q) := by
  refine va_MetF (cc := b_P_checkIndex) (maxL := 3) (ret := (Option.some Jvm.ClassFile.FieldType.int)) (by decide +kernel) rfl ?_
  intro p e s m args below meth c s₁ B hml hv
  obtain ⟨hv1, hB0⟩ := hv
  have hx := B.exec
  have hb := B.bytes
  have hr := B.returns
  have hts : ∀ w ∈ lw_g, w.before args s = true := fun w hw => atoms_spec (ws := ws_P_checkIndex) B.pre w (List.mem_cons_of_mem _ hw)
  have hown : s.vm.findClass "jdk/internal/util/Preconditions" = some m.cls := findClass_of_methodNamed B.named
  have hlocks := B.notSynchronized
  have w_9 : ∀ (M : mo_M) (x0 : Int32) (x1 : Int32) (H : Heap) (locs : List Loc) (ls : Array Slot), pp_P_checkIndex_b9 g e0 K M x0 x1 → mo_ok L0 e0 D vwCl (mo_T g) s M H locs → lv_has ls 3 [(0, .int x0), (1, .int x1)] → W p l e (headSpec ws_P_checkIndex (mo_R 0 0 0 0)).room s m args below meth c H locs 0 0 (mo_Z below (mo_Qi L0 e0 D vwCl (mo_T g) K) args s 0 0 L0) (F0 m 9 ls []) := by
    intro M x0 x1 H locs ls hP hok hl
    unfold pp_P_checkIndex_b9 at hP
    exact hP.elim
  have hok : mo_ok L0 e0 D vwCl (mo_T g) s M s.heap [] := ⟨hB0.1, hB0.2.1, hB0.2.2, va_S.rf⟩
  have hl := lv_entry ([.int x0, .int x1, .null]) (n := 3) (Nat.le_of_ble_eq_true rfl)
  rw [hv1, lg_entry_eq]
  rw [← hv1]
  generalize (lg_sl [.int x0, .int x1, .null] ++ List.replicate (3 - (lg_sl [.int x0, .int x1, .null]).length) Slot.unset).toArray = ls at hl ⊢
  have hl : lv_has ls 3 [(0, .int x0), (1, .int x1), (2, .null)] := hl
  unfold pp_P_checkIndex at hP
  refine lv_iload_n hx hb d_P_checkIndex_0 rfl (lv_at hl 0 rfl) ?_
  refine lv_if_lt (tgt := 9) hx hb d_P_checkIndex_1 (by decide) (fun hc => ?_) (fun hc => ?_)
  · replace hP := hP.1 hc
    exact w_9  _ _ _ _ _ _ hP hok (lv_sub hl [0, 1] rfl)
  · replace hP := hP.2 hc
    refine lv_iload_n hx hb d_P_checkIndex_4 rfl (lv_at hl 0 rfl) ?_
    refine lv_iload_n hx hb d_P_checkIndex_5 rfl (lv_at hl 1 rfl) ?_
    refine lv_icmp_lt (tgt := 16) hx hb d_P_checkIndex_6 (by decide) (fun hc => ?_) (fun hc => ?_)
    · replace hP := hP.1 hc
      refine lv_iload_n hx hb d_P_checkIndex_16 rfl (lv_at hl 0 rfl) ?_
      exact mo_iret hx hb hr hlocks hok hP d_P_checkIndex_17
    · replace hP := hP.2 hc
      exact w_9  _ _ _ _ _ _ hP hok (lv_sub hl [0, 1] rfl)

abbrev b_O_checkIndex : ByteArray := prog_24_method_17_code
def y_O_checkIndex : MethodName := ⟨"java/util/Objects", "checkIndex", "(II)I"⟩
def ws_O_checkIndex : List Cond := .code y_O_checkIndex b_O_checkIndex 2 (Option.some Jvm.ClassFile.FieldType.int) :: lw_g
theorem d_O_checkIndex_0 : decode b_O_checkIndex 0 = .ok (.iload_n 0, 1) := by decide +kernel
theorem d_O_checkIndex_1 : decode b_O_checkIndex 1 = .ok (.iload_n 1, 1) := by decide +kernel
theorem d_O_checkIndex_2 : decode b_O_checkIndex 2 = .ok (.aconst_null, 1) := by decide +kernel
theorem d_O_checkIndex_3 : decode b_O_checkIndex 3 = .ok (.invokestatic 105, 3) := by decide +kernel
theorem d_O_checkIndex_6 : decode b_O_checkIndex 6 = .ok (.ireturn, 1) := by decide +kernel
def pp_O_checkIndex (g : Nat → ClassId) (e0 : Nat → Nat) (K : Int32 → mo_M → Prop) (M : mo_M) (x0 : Int32) (x1 : Int32) : Prop := pp_P_checkIndex g e0 (fun r2 M1 => K r2 M1) M x0 x1
set_option maxHeartbeats 4000000 in
set_option maxRecDepth 100000 in
theorem cc_O_checkIndex (l : Launch) (L0 : Nat) (D : va_G) {g : Nat → ClassId} {e0 : Nat → Nat} {K : Int32 → mo_M → Prop} {M : mo_M} {x0 : Int32} {x1 : Int32} (hP : pp_O_checkIndex g e0 K M x0 x1) : Met l y_O_checkIndex ws_O_checkIndex (mo_R 1 0 0 22) (va_Pc [.int x0, .int x1] (fun U => mo_B L0 e0 D vwCl (mo_T g) M U)) (mo_Qi L0 e0 D vwCl (mo_T g) K) 0 0 (fun q => L0 ≤ q) := by
  refine va_MetF (cc := b_O_checkIndex) (maxL := 2) (ret := (Option.some Jvm.ClassFile.FieldType.int)) (by decide +kernel) rfl ?_
  intro p e s m args below meth c s₁ B hml hv
  obtain ⟨hv1, hB0⟩ := hv
  have hx := B.exec
  have hb := B.bytes
  have hr := B.returns
  have hts : ∀ w ∈ lw_g, w.before args s = true := fun w hw => atoms_spec (ws := ws_O_checkIndex) B.pre w (List.mem_cons_of_mem _ hw)
  have hown : s.vm.findClass "java/util/Objects" = some m.cls := findClass_of_methodNamed B.named
  have hlocks := B.notSynchronized
  have hok : mo_ok L0 e0 D vwCl (mo_T g) s M s.heap [] := ⟨hB0.1, hB0.2.1, hB0.2.2, va_S.rf⟩
  have hl := lv_entry ([.int x0, .int x1]) (n := 2) (Nat.le_of_ble_eq_true rfl)
  rw [hv1, lg_entry_eq]
  rw [← hv1]
  generalize (lg_sl [.int x0, .int x1] ++ List.replicate (2 - (lg_sl [.int x0, .int x1]).length) Slot.unset).toArray = ls at hl ⊢
  have hl : lv_has ls 2 [(0, .int x0), (1, .int x1)] := hl
  unfold pp_O_checkIndex at hP
  refine lv_iload_n hx hb d_O_checkIndex_0 rfl (lv_at hl 0 rfl) ?_
  refine lv_iload_n hx hb d_O_checkIndex_1 rfl (lv_at hl 1 rfl) ?_
  refine lv_null hx hb d_O_checkIndex_2 ?_
  refine mo_calli hok (va_runS (As := [.int x0, .int x1, .null]) (rest := []) ⟨hx, hb, hml, hown, hts⟩ (cc_P_checkIndex l L0 D hP) ⟨(callB_of 3 hts (lw_gi wd_319) rfl rfl rfl (hts _ wd_45) (hts _ wd_317) (by decide +kernel) ⟨Nat.le_of_ble_eq_true rfl, Nat.le_of_ble_eq_true rfl⟩), hts _ wd_318⟩ (mo_preS hok [.int x0, .int x1, .null]) rfl rfl hl.1 rfl (lv_room (Nat.le_of_ble_eq_true rfl)) d_O_checkIndex_3 ⟨Nat.zero_le _, Nat.zero_le _⟩) (fun r2 M1 H locs hP hok => ?_)
  exact mo_iret hx hb hr hlocks hok hP d_O_checkIndex_6

abbrev b_A_elementData : ByteArray := prog_19_method_18_code
def y_A_elementData : MethodName := ⟨"java/util/ArrayList", "elementData", "(I)Ljava/lang/Object;"⟩
def ws_A_elementData : List Cond := .code y_A_elementData b_A_elementData 2 (Option.some (Jvm.ClassFile.FieldType.object "java/lang/Object")) :: lw_g
theorem d_A_elementData_0 : decode b_A_elementData 0 = .ok (.aload_n 0, 1) := by decide +kernel
theorem d_A_elementData_1 : decode b_A_elementData 1 = .ok (.getfield 9, 3) := by decide +kernel
theorem d_A_elementData_4 : decode b_A_elementData 4 = .ok (.iload_n 1, 1) := by decide +kernel
theorem d_A_elementData_5 : decode b_A_elementData 5 = .ok (.aaload, 1) := by decide +kernel
theorem d_A_elementData_6 : decode b_A_elementData 6 = .ok (.areturn, 1) := by decide +kernel
def pp_A_elementData (g : Nat → ClassId) (e0 : Nat → Nat) (K : Nat → mo_M → Prop) (M : mo_M) (x0 : Nat) (x1 : Int32) : Prop := mp_gr M x0 5 1 (fun v1 => mp_ar (g 6) M v1 x1 (fun v2 => K v2 M))
set_option maxHeartbeats 4000000 in
set_option maxRecDepth 100000 in
theorem cc_A_elementData (l : Launch) (L0 : Nat) (D : va_G) {g : Nat → ClassId} {e0 : Nat → Nat} {K : Nat → mo_M → Prop} {M : mo_M} {x0 : Nat} {x1 : Int32} (hP : pp_A_elementData g e0 K M x0 x1) : Met l y_A_elementData ws_A_elementData (mo_R 0 0 0 0) (va_Pc [.ref x0, .int x1] (fun U => mo_B L0 e0 D vwCl (mo_T g) M U)) (mo_Qr L0 e0 D vwCl (mo_T g) K) 0 0 (fun q => L0 ≤ q) := by
  refine va_MetF (cc := b_A_elementData) (maxL := 2) (ret := (Option.some (Jvm.ClassFile.FieldType.object "java/lang/Object"))) (by decide +kernel) rfl ?_
  intro p e s m args below meth c s₁ B hml hv
  obtain ⟨hv1, hB0⟩ := hv
  have hx := B.exec
  have hb := B.bytes
  have hr := B.returns
  have hts : ∀ w ∈ lw_g, w.before args s = true := fun w hw => atoms_spec (ws := ws_A_elementData) B.pre w (List.mem_cons_of_mem _ hw)
  have hown : s.vm.findClass "java/util/ArrayList" = some m.cls := findClass_of_methodNamed B.named
  have hlocks := B.notSynchronized
  have hok : mo_ok L0 e0 D vwCl (mo_T g) s M s.heap [] := ⟨hB0.1, hB0.2.1, hB0.2.2, va_S.rf⟩
  have hl := lv_entry ([.ref x0, .int x1]) (n := 2) (Nat.le_of_ble_eq_true rfl)
  rw [hv1, lg_entry_eq]
  rw [← hv1]
  generalize (lg_sl [.ref x0, .int x1] ++ List.replicate (2 - (lg_sl [.ref x0, .int x1]).length) Slot.unset).toArray = ls at hl ⊢
  have hl : lv_has ls 2 [(0, .ref x0), (1, .int x1)] := hl
  unfold pp_A_elementData at hP
  refine lv_aload_n hx hb d_A_elementData_0 rfl (lv_at hl 0 rfl) ?_
  refine mr_gr (C := "java/util/ArrayList") (T := F_5) (N := 3) (ref := "java/util/ArrayList") hx hb hts hown hok hP ui_5 rfl (by decide) (hts _ wd_74) (fun _ h => h) d_A_elementData_1 (fun v1 hP => ?_)
  refine lv_iload_n hx hb d_A_elementData_4 rfl (lv_at hl 1 rfl) ?_
  refine mr_ar hx hb hok hP 6 rfl rfl d_A_elementData_5 (fun v2 hP => ?_)
  exact mo_aret hx hb hr (Or.inl ⟨_, rfl⟩) hlocks hok hP d_A_elementData_6

abbrev b_A_get : ByteArray := prog_19_method_20_code
def y_A_get : MethodName := ⟨"java/util/ArrayList", "get", "(I)Ljava/lang/Object;"⟩
def ws_A_get : List Cond := .code y_A_get b_A_get 2 (Option.some (Jvm.ClassFile.FieldType.object "java/lang/Object")) :: lw_g
theorem d_A_get_0 : decode b_A_get 0 = .ok (.iload_n 1, 1) := by decide +kernel
theorem d_A_get_1 : decode b_A_get 1 = .ok (.aload_n 0, 1) := by decide +kernel
theorem d_A_get_2 : decode b_A_get 2 = .ok (.getfield 48, 3) := by decide +kernel
theorem d_A_get_5 : decode b_A_get 5 = .ok (.invokestatic 118, 3) := by decide +kernel
theorem d_A_get_8 : decode b_A_get 8 = .ok (.pop, 1) := by decide +kernel
theorem d_A_get_9 : decode b_A_get 9 = .ok (.aload_n 0, 1) := by decide +kernel
theorem d_A_get_10 : decode b_A_get 10 = .ok (.iload_n 1, 1) := by decide +kernel
theorem d_A_get_11 : decode b_A_get 11 = .ok (.invokevirtual 123, 3) := by decide +kernel
theorem d_A_get_14 : decode b_A_get 14 = .ok (.areturn, 1) := by decide +kernel
def pp_A_get (g : Nat → ClassId) (e0 : Nat → Nat) (K : Nat → mo_M → Prop) (M : mo_M) (x0 : Nat) (x1 : Int32) : Prop := mp_gi M x0 5 2 (fun v1 => pp_O_checkIndex g e0 (fun r3 M2 => (mp_is M2 x0 5 ∧ pp_A_elementData g e0 (fun r5 M4 => K r5 M4) M2 x0 x1)) M x1 v1)
set_option maxHeartbeats 4000000 in
set_option maxRecDepth 100000 in
theorem cc_A_get (l : Launch) (L0 : Nat) (D : va_G) {g : Nat → ClassId} {e0 : Nat → Nat} {K : Nat → mo_M → Prop} {M : mo_M} {x0 : Nat} {x1 : Int32} (hP : pp_A_get g e0 K M x0 x1) : Met l y_A_get ws_A_get (mo_R 2 0 0 43) (va_Pc [.ref x0, .int x1] (fun U => mo_B L0 e0 D vwCl (mo_T g) M U)) (mo_Qr L0 e0 D vwCl (mo_T g) K) 0 0 (fun q => L0 ≤ q) := by
  refine va_MetF (cc := b_A_get) (maxL := 2) (ret := (Option.some (Jvm.ClassFile.FieldType.object "java/lang/Object"))) (by decide +kernel) rfl ?_
  intro p e s m args below meth c s₁ B hml hv
  obtain ⟨hv1, hB0⟩ := hv
  have hx := B.exec
  have hb := B.bytes
  have hr := B.returns
  have hts : ∀ w ∈ lw_g, w.before args s = true := fun w hw => atoms_spec (ws := ws_A_get) B.pre w (List.mem_cons_of_mem _ hw)
  have hown : s.vm.findClass "java/util/ArrayList" = some m.cls := findClass_of_methodNamed B.named
  have hlocks := B.notSynchronized
  have hok : mo_ok L0 e0 D vwCl (mo_T g) s M s.heap [] := ⟨hB0.1, hB0.2.1, hB0.2.2, va_S.rf⟩
  have hl := lv_entry ([.ref x0, .int x1]) (n := 2) (Nat.le_of_ble_eq_true rfl)
  rw [hv1, lg_entry_eq]
  rw [← hv1]
  generalize (lg_sl [.ref x0, .int x1] ++ List.replicate (2 - (lg_sl [.ref x0, .int x1]).length) Slot.unset).toArray = ls at hl ⊢
  have hl : lv_has ls 2 [(0, .ref x0), (1, .int x1)] := hl
  unfold pp_A_get at hP
  refine lv_iload_n hx hb d_A_get_0 rfl (lv_at hl 1 rfl) ?_
  refine lv_aload_n hx hb d_A_get_1 rfl (lv_at hl 0 rfl) ?_
  refine mr_gi (C := "java/util/ArrayList") (T := F_5) (N := 3) (ref := "java/util/ArrayList") hx hb hts hown hok hP ui_5 rfl (by decide) (hts _ wd_75) (fun _ h => h) d_A_get_2 (fun v1 hP => ?_)
  refine mo_calli hok (va_runS (As := [.int x1, .int v1]) (rest := []) ⟨hx, hb, hml, hown, hts⟩ (cc_O_checkIndex l L0 D hP) ⟨(callB_of 2 hts (lw_gi wd_316) rfl rfl rfl (hts _ wd_44) (hts _ wd_314) (by decide +kernel) ⟨Nat.le_of_ble_eq_true rfl, Nat.le_of_ble_eq_true rfl⟩), hts _ wd_315⟩ (mo_preS hok [.int x1, .int v1]) rfl rfl hl.1 rfl (lv_room (Nat.le_of_ble_eq_true rfl)) d_A_get_5 ⟨Nat.zero_le _, Nat.zero_le _⟩) (fun r3 M2 H locs hP hok => ?_)
  refine lv_pop hx hb d_A_get_8 rfl ?_
  refine lv_aload_n hx hb d_A_get_9 rfl (lv_at hl 0 rfl) ?_
  refine lv_iload_n hx hb d_A_get_10 rfl (lv_at hl 1 rfl) ?_
  obtain ⟨⟨fs9, he9⟩, hP⟩ := hP
  refine mo_callr hok (va_runV (As := [.int x1]) (rest := []) ⟨hx, hb, hml, hown, hts⟩ (cc_A_elementData l L0 D hP) ⟨(callB_of 1 hts (lw_gi wd_323) rfl rfl rfl (hts _ wd_36) (hts _ wd_320) (by decide +kernel) ⟨Nat.le_of_ble_eq_true rfl, Nat.le_of_ble_eq_true rfl⟩), hts _ wd_321, hts _ wd_322⟩ (mo_preV hok he9 rfl [.int x1]) rfl rfl hl.1 rfl (lv_room (Nat.le_of_ble_eq_true rfl)) d_A_get_11 ⟨Nat.zero_le _, Nat.zero_le _⟩) (fun r5 M4 H locs hP hok => ?_)
  exact mo_aret hx hb hr (Or.inl ⟨_, rfl⟩) hlocks hok hP d_A_get_14

abbrev b_A_fastRemove : ByteArray := prog_19_method_39_code
def y_A_fastRemove : MethodName := ⟨"java/util/ArrayList", "fastRemove", "([Ljava/lang/Object;I)V"⟩
def ws_A_fastRemove : List Cond := .code y_A_fastRemove b_A_fastRemove 4 (Option.none : Option Jvm.ClassFile.FieldType) :: lw_g
theorem d_A_fastRemove_0 : decode b_A_fastRemove 0 = .ok (.aload_n 0, 1) := by decide +kernel
theorem d_A_fastRemove_1 : decode b_A_fastRemove 1 = .ok (.dup, 1) := by decide +kernel
theorem d_A_fastRemove_2 : decode b_A_fastRemove 2 = .ok (.getfield 63, 3) := by decide +kernel
theorem d_A_fastRemove_5 : decode b_A_fastRemove 5 = .ok (.iconst 1, 1) := by decide +kernel
theorem d_A_fastRemove_6 : decode b_A_fastRemove 6 = .ok (.iadd, 1) := by decide +kernel
theorem d_A_fastRemove_7 : decode b_A_fastRemove 7 = .ok (.putfield 63, 3) := by decide +kernel
theorem d_A_fastRemove_10 : decode b_A_fastRemove 10 = .ok (.aload_n 0, 1) := by decide +kernel
theorem d_A_fastRemove_11 : decode b_A_fastRemove 11 = .ok (.getfield 48, 3) := by decide +kernel
theorem d_A_fastRemove_14 : decode b_A_fastRemove 14 = .ok (.iconst 1, 1) := by decide +kernel
theorem d_A_fastRemove_15 : decode b_A_fastRemove 15 = .ok (.isub, 1) := by decide +kernel
theorem d_A_fastRemove_16 : decode b_A_fastRemove 16 = .ok (.dup, 1) := by decide +kernel
theorem d_A_fastRemove_17 : decode b_A_fastRemove 17 = .ok (.istore_n 3, 1) := by decide +kernel
theorem d_A_fastRemove_18 : decode b_A_fastRemove 18 = .ok (.iload_n 2, 1) := by decide +kernel
theorem d_A_fastRemove_19 : decode b_A_fastRemove 19 = .ok (.if_icmp .le 15, 3) := by decide +kernel
theorem d_A_fastRemove_22 : decode b_A_fastRemove 22 = .ok (.aload_n 1, 1) := by decide +kernel
theorem d_A_fastRemove_23 : decode b_A_fastRemove 23 = .ok (.iload_n 2, 1) := by decide +kernel
theorem d_A_fastRemove_24 : decode b_A_fastRemove 24 = .ok (.iconst 1, 1) := by decide +kernel
theorem d_A_fastRemove_25 : decode b_A_fastRemove 25 = .ok (.iadd, 1) := by decide +kernel
theorem d_A_fastRemove_26 : decode b_A_fastRemove 26 = .ok (.aload_n 1, 1) := by decide +kernel
theorem d_A_fastRemove_27 : decode b_A_fastRemove 27 = .ok (.iload_n 2, 1) := by decide +kernel
theorem d_A_fastRemove_28 : decode b_A_fastRemove 28 = .ok (.iload_n 3, 1) := by decide +kernel
theorem d_A_fastRemove_29 : decode b_A_fastRemove 29 = .ok (.iload_n 2, 1) := by decide +kernel
theorem d_A_fastRemove_30 : decode b_A_fastRemove 30 = .ok (.isub, 1) := by decide +kernel
theorem d_A_fastRemove_31 : decode b_A_fastRemove 31 = .ok (.invokestatic 112, 3) := by decide +kernel
theorem d_A_fastRemove_34 : decode b_A_fastRemove 34 = .ok (.aload_n 1, 1) := by decide +kernel
theorem d_A_fastRemove_35 : decode b_A_fastRemove 35 = .ok (.aload_n 0, 1) := by decide +kernel
theorem d_A_fastRemove_36 : decode b_A_fastRemove 36 = .ok (.iload_n 3, 1) := by decide +kernel
theorem d_A_fastRemove_37 : decode b_A_fastRemove 37 = .ok (.dup_x1, 1) := by decide +kernel
theorem d_A_fastRemove_38 : decode b_A_fastRemove 38 = .ok (.putfield 48, 3) := by decide +kernel
theorem d_A_fastRemove_41 : decode b_A_fastRemove 41 = .ok (.aconst_null, 1) := by decide +kernel
theorem d_A_fastRemove_42 : decode b_A_fastRemove 42 = .ok (.aastore, 1) := by decide +kernel
theorem d_A_fastRemove_43 : decode b_A_fastRemove 43 = .ok (.return_, 1) := by decide +kernel
def pp_A_fastRemove_b34 (g : Nat → ClassId) (e0 : Nat → Nat) (K : mo_M → Prop) (M : mo_M) (x0 : Nat) (x1 : Nat) (x3 : Int32) : Prop := mp_pt M x0 5 2 (.int x3) (fun M5 => mp_sn (g 6) M5 x1 x3 (fun M6 => K M6))
def pp_A_fastRemove (g : Nat → ClassId) (e0 : Nat → Nat) (K : mo_M → Prop) (M : mo_M) (x0 : Nat) (x1 : Nat) (x2 : Int32) : Prop := mp_gi M x0 5 0 (fun v1 => mp_pt M x0 5 0 (.int ((v1 + ((1 : Int32))))) (fun M2 => mp_gi M2 x0 5 2 (fun v3 => ((((v3 - ((1 : Int32)))) ≤ x2 → pp_A_fastRemove_b34 g e0 K M2 x0 x1 ((v3 - ((1 : Int32))))) ∧ (¬ (((v3 - ((1 : Int32)))) ≤ x2) → mp_cq (g 6) M2 x1 ((x2 + ((1 : Int32)))) x1 x2 ((((v3 - ((1 : Int32)))) - x2)) (fun M4 => pp_A_fastRemove_b34 g e0 K M4 x0 x1 ((v3 - ((1 : Int32))))))))))
set_option maxHeartbeats 4000000 in
set_option maxRecDepth 100000 in
theorem cc_A_fastRemove (l : Launch) (L0 : Nat) (D : va_G) {g : Nat → ClassId} {e0 : Nat → Nat} {K : mo_M → Prop} {M : mo_M} {x0 : Nat} {x1 : Nat} {x2 : Int32} (hP : pp_A_fastRemove g e0 K M x0 x1 x2) : Met l y_A_fastRemove ws_A_fastRemove (mo_R 1 0 0 60) (va_Pc [.ref x0, .ref x1, .int x2] (fun U => mo_B L0 e0 D vwCl (mo_T g) M U)) (mo_Qv L0 e0 D vwCl (mo_T g) K) 0 0 (fun q => L0 ≤ q) := by
  refine va_MetF (cc := b_A_fastRemove) (maxL := 4) (ret := (Option.none : Option Jvm.ClassFile.FieldType)) (by decide +kernel) rfl ?_
  intro p e s m args below meth c s₁ B hml hv
  obtain ⟨hv1, hB0⟩ := hv
  have hx := B.exec
  have hb := B.bytes
  have hr := B.returns
  have hts : ∀ w ∈ lw_g, w.before args s = true := fun w hw => atoms_spec (ws := ws_A_fastRemove) B.pre w (List.mem_cons_of_mem _ hw)
  have hown : s.vm.findClass "java/util/ArrayList" = some m.cls := findClass_of_methodNamed B.named
  have hlocks := B.notSynchronized
  have w_34 : ∀ (M : mo_M) (x0 : Nat) (x1 : Nat) (x3 : Int32) (H : Heap) (locs : List Loc) (ls : Array Slot), pp_A_fastRemove_b34 g e0 K M x0 x1 x3 → mo_ok L0 e0 D vwCl (mo_T g) s M H locs → lv_has ls 4 [(0, .ref x0), (1, .ref x1), (3, .int x3)] → W p l e (headSpec ws_A_fastRemove (mo_R 1 0 0 60)).room s m args below meth c H locs 0 0 (mo_Z below (mo_Qv L0 e0 D vwCl (mo_T g) K) args s 0 0 L0) (F0 m 34 ls []) := by
    intro M x0 x1 x3 H locs ls hP hok hl
    unfold pp_A_fastRemove_b34 at hP
    refine lv_aload_n hx hb d_A_fastRemove_34 rfl (lv_at hl 1 rfl) ?_
    refine lv_aload_n hx hb d_A_fastRemove_35 rfl (lv_at hl 0 rfl) ?_
    refine lv_iload_n hx hb d_A_fastRemove_36 rfl (lv_at hl 2 rfl) ?_
    refine lv_dup_x1 hx hb d_A_fastRemove_37 rfl rfl ?_
    refine mr_pt (C := "java/util/ArrayList") (T := F_5) (N := 3) (ref := "java/util/ArrayList") (ty := .int) hx hb hts hown hok hP ui_5 ty_5 th_5 tn_5 rfl (by decide) (hts _ wd_75) (fun _ h => h) rfl (by decide +kernel) rfl rfl d_A_fastRemove_38 (fun M5 H locs hP hok => ?_)
    refine lv_null hx hb d_A_fastRemove_41 ?_
    refine mr_sn hx hb hok hP 6 rfl d_A_fastRemove_42 (fun M6 H locs hP hok => ?_)
    exact mo_vret hx hb hr hlocks hok hP d_A_fastRemove_43
  have hok : mo_ok L0 e0 D vwCl (mo_T g) s M s.heap [] := ⟨hB0.1, hB0.2.1, hB0.2.2, va_S.rf⟩
  have hl := lv_entry ([.ref x0, .ref x1, .int x2]) (n := 4) (Nat.le_of_ble_eq_true rfl)
  rw [hv1, lg_entry_eq]
  rw [← hv1]
  generalize (lg_sl [.ref x0, .ref x1, .int x2] ++ List.replicate (4 - (lg_sl [.ref x0, .ref x1, .int x2]).length) Slot.unset).toArray = ls at hl ⊢
  have hl : lv_has ls 4 [(0, .ref x0), (1, .ref x1), (2, .int x2)] := hl
  unfold pp_A_fastRemove at hP
  refine lv_aload_n hx hb d_A_fastRemove_0 rfl (lv_at hl 0 rfl) ?_
  refine lv_dup hx hb d_A_fastRemove_1 rfl ?_
  refine mr_gi (C := "java/util/ArrayList") (T := F_5) (N := 3) (ref := "java/util/ArrayList") hx hb hts hown hok hP ui_5 rfl (by decide) (hts _ wd_77) (fun x9 h9 => u_same (hts _ wd_78) x9 h9) d_A_fastRemove_2 (fun v1 hP => ?_)
  refine lv_iconst (v := 1) hx hb d_A_fastRemove_5 (by decide) ?_
  refine lv_iadd hx hb d_A_fastRemove_6 ?_
  refine mr_pt (C := "java/util/ArrayList") (T := F_5) (N := 3) (ref := "java/util/ArrayList") (ty := .int) hx hb hts hown hok hP ui_5 ty_5 th_5 tn_5 rfl (by decide) (hts _ wd_77) (fun x9 h9 => u_same (hts _ wd_78) x9 h9) rfl (by decide +kernel) rfl rfl d_A_fastRemove_7 (fun M2 H locs hP hok => ?_)
  refine lv_aload_n hx hb d_A_fastRemove_10 rfl (lv_at hl 0 rfl) ?_
  refine mr_gi (C := "java/util/ArrayList") (T := F_5) (N := 3) (ref := "java/util/ArrayList") hx hb hts hown hok hP ui_5 rfl (by decide) (hts _ wd_75) (fun _ h => h) d_A_fastRemove_11 (fun v3 hP => ?_)
  refine lv_iconst (v := 1) hx hb d_A_fastRemove_14 (by decide) ?_
  refine lv_isub hx hb d_A_fastRemove_15 ?_
  refine lv_dup hx hb d_A_fastRemove_16 rfl ?_
  refine lv_istore_n (lv' := [(3, .int ((v3 - ((1 : Int32))))), (0, .ref x0), (1, .ref x1), (2, .int x2)]) hx hb d_A_fastRemove_17 rfl hl (by decide) rfl (fun ls hl => ?_)
  refine lv_iload_n hx hb d_A_fastRemove_18 rfl (lv_at hl 3 rfl) ?_
  refine lv_icmp_le (tgt := 34) hx hb d_A_fastRemove_19 (by decide) (fun hc => ?_) (fun hc => ?_)
  · replace hP := hP.1 hc
    exact w_34  _ _ _ _ _ _ _ hP hok (lv_sub hl [1, 2, 0] rfl)
  · replace hP := hP.2 hc
    refine lv_aload_n hx hb d_A_fastRemove_22 rfl (lv_at hl 2 rfl) ?_
    refine lv_iload_n hx hb d_A_fastRemove_23 rfl (lv_at hl 3 rfl) ?_
    refine lv_iconst (v := 1) hx hb d_A_fastRemove_24 (by decide) ?_
    refine lv_iadd hx hb d_A_fastRemove_25 ?_
    refine lv_aload_n hx hb d_A_fastRemove_26 rfl (lv_at hl 2 rfl) ?_
    refine lv_iload_n hx hb d_A_fastRemove_27 rfl (lv_at hl 3 rfl) ?_
    refine lv_iload_n hx hb d_A_fastRemove_28 rfl (lv_at hl 0 rfl) ?_
    refine lv_iload_n hx hb d_A_fastRemove_29 rfl (lv_at hl 3 rfl) ?_
    refine lv_isub hx hb d_A_fastRemove_30 ?_
    refine mr_cq hx hb (hml.trans hl.1.symm) hown hok hP (hts _ wd_382) (hts _ wd_254) (hts _ wd_253) (hts _ wd_43) 6 rfl (Nat.le_of_ble_eq_true rfl) (Nat.le_of_ble_eq_true rfl) d_A_fastRemove_31 (fun M4 H locs hP hok => ?_)
    exact w_34  _ _ _ _ _ _ _ hP hok (lv_sub hl [1, 2, 0] rfl)

abbrev b_A_remove : ByteArray := prog_19_method_29_code
def y_A_remove : MethodName := ⟨"java/util/ArrayList", "remove", "(I)Ljava/lang/Object;"⟩
def ws_A_remove : List Cond := .code y_A_remove b_A_remove 4 (Option.some (Jvm.ClassFile.FieldType.object "java/lang/Object")) :: lw_g
theorem d_A_remove_0 : decode b_A_remove 0 = .ok (.iload_n 1, 1) := by decide +kernel
theorem d_A_remove_1 : decode b_A_remove 1 = .ok (.aload_n 0, 1) := by decide +kernel
theorem d_A_remove_2 : decode b_A_remove 2 = .ok (.getfield 48, 3) := by decide +kernel
theorem d_A_remove_5 : decode b_A_remove 5 = .ok (.invokestatic 118, 3) := by decide +kernel
theorem d_A_remove_8 : decode b_A_remove 8 = .ok (.pop, 1) := by decide +kernel
theorem d_A_remove_9 : decode b_A_remove 9 = .ok (.aload_n 0, 1) := by decide +kernel
theorem d_A_remove_10 : decode b_A_remove 10 = .ok (.getfield 9, 3) := by decide +kernel
theorem d_A_remove_13 : decode b_A_remove 13 = .ok (.astore_n 2, 1) := by decide +kernel
theorem d_A_remove_14 : decode b_A_remove 14 = .ok (.aload_n 2, 1) := by decide +kernel
theorem d_A_remove_15 : decode b_A_remove 15 = .ok (.iload_n 1, 1) := by decide +kernel
theorem d_A_remove_16 : decode b_A_remove 16 = .ok (.aaload, 1) := by decide +kernel
theorem d_A_remove_17 : decode b_A_remove 17 = .ok (.astore_n 3, 1) := by decide +kernel
theorem d_A_remove_18 : decode b_A_remove 18 = .ok (.aload_n 0, 1) := by decide +kernel
theorem d_A_remove_19 : decode b_A_remove 19 = .ok (.aload_n 2, 1) := by decide +kernel
theorem d_A_remove_20 : decode b_A_remove 20 = .ok (.iload_n 1, 1) := by decide +kernel
theorem d_A_remove_21 : decode b_A_remove 21 = .ok (.invokevirtual 144, 3) := by decide +kernel
theorem d_A_remove_24 : decode b_A_remove 24 = .ok (.aload_n 3, 1) := by decide +kernel
theorem d_A_remove_25 : decode b_A_remove 25 = .ok (.areturn, 1) := by decide +kernel
def pp_A_remove (g : Nat → ClassId) (e0 : Nat → Nat) (K : Nat → mo_M → Prop) (M : mo_M) (x0 : Nat) (x1 : Int32) : Prop := mp_gi M x0 5 2 (fun v1 => pp_O_checkIndex g e0 (fun r3 M2 => mp_gr M2 x0 5 1 (fun v4 => mp_ar (g 6) M2 v4 x1 (fun v5 => (mp_is M2 x0 5 ∧ pp_A_fastRemove g e0 (fun M6 => K v5 M6) M2 x0 v4 x1)))) M x1 v1)
set_option maxHeartbeats 4000000 in
set_option maxRecDepth 100000 in
theorem cc_A_remove (l : Launch) (L0 : Nat) (D : va_G) {g : Nat → ClassId} {e0 : Nat → Nat} {K : Nat → mo_M → Prop} {M : mo_M} {x0 : Nat} {x1 : Int32} (hP : pp_A_remove g e0 K M x0 x1) : Met l y_A_remove ws_A_remove (mo_R 2 0 0 83) (va_Pc [.ref x0, .int x1] (fun U => mo_B L0 e0 D vwCl (mo_T g) M U)) (mo_Qr L0 e0 D vwCl (mo_T g) K) 0 0 (fun q => L0 ≤ q) := by
  refine va_MetF (cc := b_A_remove) (maxL := 4) (ret := (Option.some (Jvm.ClassFile.FieldType.object "java/lang/Object"))) (by decide +kernel) rfl ?_
  intro p e s m args below meth c s₁ B hml hv
  obtain ⟨hv1, hB0⟩ := hv
  have hx := B.exec
  have hb := B.bytes
  have hr := B.returns
  have hts : ∀ w ∈ lw_g, w.before args s = true := fun w hw => atoms_spec (ws := ws_A_remove) B.pre w (List.mem_cons_of_mem _ hw)
  have hown : s.vm.findClass "java/util/ArrayList" = some m.cls := findClass_of_methodNamed B.named
  have hlocks := B.notSynchronized
  have hok : mo_ok L0 e0 D vwCl (mo_T g) s M s.heap [] := ⟨hB0.1, hB0.2.1, hB0.2.2, va_S.rf⟩
  have hl := lv_entry ([.ref x0, .int x1]) (n := 4) (Nat.le_of_ble_eq_true rfl)
  rw [hv1, lg_entry_eq]
  rw [← hv1]
  generalize (lg_sl [.ref x0, .int x1] ++ List.replicate (4 - (lg_sl [.ref x0, .int x1]).length) Slot.unset).toArray = ls at hl ⊢
  have hl : lv_has ls 4 [(0, .ref x0), (1, .int x1)] := hl
  unfold pp_A_remove at hP
  refine lv_iload_n hx hb d_A_remove_0 rfl (lv_at hl 1 rfl) ?_
  refine lv_aload_n hx hb d_A_remove_1 rfl (lv_at hl 0 rfl) ?_
  refine mr_gi (C := "java/util/ArrayList") (T := F_5) (N := 3) (ref := "java/util/ArrayList") hx hb hts hown hok hP ui_5 rfl (by decide) (hts _ wd_75) (fun _ h => h) d_A_remove_2 (fun v1 hP => ?_)
  refine mo_calli hok (va_runS (As := [.int x1, .int v1]) (rest := []) ⟨hx, hb, hml, hown, hts⟩ (cc_O_checkIndex l L0 D hP) ⟨(callB_of 2 hts (lw_gi wd_316) rfl rfl rfl (hts _ wd_44) (hts _ wd_314) (by decide +kernel) ⟨Nat.le_of_ble_eq_true rfl, Nat.le_of_ble_eq_true rfl⟩), hts _ wd_315⟩ (mo_preS hok [.int x1, .int v1]) rfl rfl hl.1 rfl (lv_room (Nat.le_of_ble_eq_true rfl)) d_A_remove_5 ⟨Nat.zero_le _, Nat.zero_le _⟩) (fun r3 M2 H locs hP hok => ?_)
  refine lv_pop hx hb d_A_remove_8 rfl ?_
  refine lv_aload_n hx hb d_A_remove_9 rfl (lv_at hl 0 rfl) ?_
  refine mr_gr (C := "java/util/ArrayList") (T := F_5) (N := 3) (ref := "java/util/ArrayList") hx hb hts hown hok hP ui_5 rfl (by decide) (hts _ wd_74) (fun _ h => h) d_A_remove_10 (fun v4 hP => ?_)
  refine lv_astore_n (lv' := [(2, .ref v4), (0, .ref x0), (1, .int x1)]) hx hb d_A_remove_13 rfl hl (by decide) rfl (fun ls hl => ?_)
  refine lv_aload_n hx hb d_A_remove_14 rfl (lv_at hl 0 rfl) ?_
  refine lv_iload_n hx hb d_A_remove_15 rfl (lv_at hl 2 rfl) ?_
  refine mr_ar hx hb hok hP 6 rfl rfl d_A_remove_16 (fun v5 hP => ?_)
  refine lv_astore_n (lv' := [(3, .ref v5), (2, .ref v4), (0, .ref x0), (1, .int x1)]) hx hb d_A_remove_17 rfl hl (by decide) rfl (fun ls hl => ?_)
  refine lv_aload_n hx hb d_A_remove_18 rfl (lv_at hl 2 rfl) ?_
  refine lv_aload_n hx hb d_A_remove_19 rfl (lv_at hl 1 rfl) ?_
  refine lv_iload_n hx hb d_A_remove_20 rfl (lv_at hl 3 rfl) ?_
  obtain ⟨⟨fs9, he9⟩, hP⟩ := hP
  refine mo_callv hok (va_runV (As := [.ref v4, .int x1]) (rest := []) ⟨hx, hb, hml, hown, hts⟩ (cc_A_fastRemove l L0 D hP) ⟨(callB_of 2 hts (lw_gi wd_381) rfl rfl rfl (hts _ wd_36) (hts _ wd_378) (by decide +kernel) ⟨Nat.le_of_ble_eq_true rfl, Nat.le_of_ble_eq_true rfl⟩), hts _ wd_380, hts _ wd_7⟩ (mo_preV hok he9 rfl [.ref v4, .int x1]) rfl rfl hl.1 rfl (lv_room (Nat.le_of_ble_eq_true rfl)) d_A_remove_21 ⟨Nat.zero_le _, Nat.zero_le _⟩) (fun M6 H locs hP hok => ?_)
  refine lv_aload_n hx hb d_A_remove_24 rfl (lv_at hl 0 rfl) ?_
  exact mo_aret hx hb hr (Or.inl ⟨_, rfl⟩) hlocks hok hP d_A_remove_25

