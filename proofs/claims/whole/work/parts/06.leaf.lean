abbrev b_H_isBetween : ByteArray := prog_1_method_23_code
def y_H_isBetween : MethodName := ⟨"PurseHouse", "isBetween", "(III)Z"⟩
def ws_H_isBetween : List Cond := .code y_H_isBetween b_H_isBetween 3 (Option.some Jvm.ClassFile.FieldType.boolean) :: lw_g
theorem d_H_isBetween_0 : decode b_H_isBetween 0 = .ok (.iload_n 0, 1) := by decide +kernel
theorem d_H_isBetween_1 : decode b_H_isBetween 1 = .ok (.iload_n 1, 1) := by decide +kernel
theorem d_H_isBetween_2 : decode b_H_isBetween 2 = .ok (.if_icmp .lt 12, 3) := by decide +kernel
theorem d_H_isBetween_5 : decode b_H_isBetween 5 = .ok (.iload_n 0, 1) := by decide +kernel
theorem d_H_isBetween_6 : decode b_H_isBetween 6 = .ok (.iload_n 2, 1) := by decide +kernel
theorem d_H_isBetween_7 : decode b_H_isBetween 7 = .ok (.if_icmp .gt 7, 3) := by decide +kernel
theorem d_H_isBetween_10 : decode b_H_isBetween 10 = .ok (.iconst 1, 1) := by decide +kernel
theorem d_H_isBetween_11 : decode b_H_isBetween 11 = .ok (.goto 4, 3) := by decide +kernel
theorem d_H_isBetween_14 : decode b_H_isBetween 14 = .ok (.iconst 0, 1) := by decide +kernel
theorem d_H_isBetween_15 : decode b_H_isBetween 15 = .ok (.ireturn, 1) := by decide +kernel
def pp_H_isBetween (g : Nat → ClassId) (e0 : Nat) (K : Int32 → mo_M → Prop) (M : mo_M) (x0 : Int32) (x1 : Int32) (x2 : Int32) : Prop := ((x0 < x1 → (narrow .boolean (.int ((0 : Int32))) = .int ((0 : Int32)) ∧ K ((0 : Int32)) M)) ∧ (¬ (x0 < x1) → ((x2 < x0 → (narrow .boolean (.int ((0 : Int32))) = .int ((0 : Int32)) ∧ K ((0 : Int32)) M)) ∧ (¬ (x2 < x0) → (narrow .boolean (.int ((1 : Int32))) = .int ((1 : Int32)) ∧ K ((1 : Int32)) M)))))
set_option maxHeartbeats 4000000 in
set_option maxRecDepth 100000 in
theorem cc_H_isBetween (l : Launch) (L0 : Nat) (D : va_G) {g : Nat → ClassId} {e0 : Nat} {K : Int32 → mo_M → Prop} {M : mo_M} {x0 : Int32} {x1 : Int32} {x2 : Int32} (hP : pp_H_isBetween g e0 K M x0 x1 x2) : Met l y_H_isBetween ws_H_isBetween (mo_R 0 0 0 0) (va_Pc [.int x0, .int x1, .int x2] (fun U => mo_B L0 e0 D vwCl (mo_T g) M U)) (mo_Qi L0 e0 D vwCl (mo_T g) K) 0 0 (fun q => L0 ≤ q) := by
  refine Met.ofW (cc := b_H_isBetween) (maxL := 3) (ret := (Option.some Jvm.ClassFile.FieldType.boolean)) (by decide) rfl ?_
  intro p e s m args below meth c s₁ B hml hv
  obtain ⟨hv1, hB0⟩ := hv
  have hx := B.exec
  have hb := B.bytes
  have hr := B.returns
  have hts : ∀ w ∈ lw_g, w.before args s = true := fun w hw => atoms_spec (ws := ws_H_isBetween) B.pre w (List.mem_cons_of_mem _ hw)
  have hown : s.vm.findClass "PurseHouse" = some m.cls := findClass_of_methodNamed B.named
  have hlocks := B.notSynchronized
  have hok : mo_ok L0 e0 D vwCl (mo_T g) s M s.heap [] := ⟨hB0.1, hB0.2.1, hB0.2.2, va_S.rf⟩
  have hl := lv_entry ([.int x0, .int x1, .int x2]) (n := 3) (Nat.le_of_ble_eq_true rfl)
  rw [hv1, lg_entry_eq]
  rw [← hv1]
  generalize (lg_sl [.int x0, .int x1, .int x2] ++ List.replicate (3 - (lg_sl [.int x0, .int x1, .int x2]).length) Slot.unset).toArray = ls at hl ⊢
  have hl : lv_has ls 3 [(0, .int x0), (1, .int x1), (2, .int x2)] := hl
  unfold pp_H_isBetween at hP
  refine lv_iload_n hx hb d_H_isBetween_0 rfl (lv_at hl 0 rfl) ?_
  refine lv_iload_n hx hb d_H_isBetween_1 rfl (lv_at hl 1 rfl) ?_
  refine lv_icmp_lt (tgt := 14) hx hb d_H_isBetween_2 (by decide) (fun hc => ?_) (fun hc => ?_)
  · replace hP := hP.1 hc
    refine lv_iconst (v := 0) hx hb d_H_isBetween_14 (by decide) ?_
    exact mo_zret hx hb hr hlocks hok hP d_H_isBetween_15
  · replace hP := hP.2 hc
    refine lv_iload_n hx hb d_H_isBetween_5 rfl (lv_at hl 0 rfl) ?_
    refine lv_iload_n hx hb d_H_isBetween_6 rfl (lv_at hl 2 rfl) ?_
    refine lv_icmp_gt (tgt := 14) hx hb d_H_isBetween_7 (by decide) (fun hc => ?_) (fun hc => ?_)
    · replace hP := hP.1 hc
      refine lv_iconst (v := 0) hx hb d_H_isBetween_14 (by decide) ?_
      exact mo_zret hx hb hr hlocks hok hP d_H_isBetween_15
    · replace hP := hP.2 hc
      refine lv_iconst (v := 1) hx hb d_H_isBetween_10 (by decide) ?_
      refine lv_goto (tgt := 15) hx hb d_H_isBetween_11 (by decide) ?_
      exact mo_zret hx hb hr hlocks hok hP d_H_isBetween_15

abbrev b_H_hasCurrency : ByteArray := prog_1_method_24_code
def y_H_hasCurrency : MethodName := ⟨"PurseHouse", "hasCurrency", "(I)Z"⟩
def ws_H_hasCurrency : List Cond := .code y_H_hasCurrency b_H_hasCurrency 1 (Option.some Jvm.ClassFile.FieldType.boolean) :: lw_g
theorem d_H_hasCurrency_0 : decode b_H_hasCurrency 0 = .ok (.iload_n 0, 1) := by decide +kernel
theorem d_H_hasCurrency_1 : decode b_H_hasCurrency 1 = .ok (.iconst 0, 1) := by decide +kernel
theorem d_H_hasCurrency_2 : decode b_H_hasCurrency 2 = .ok (.iconst 2, 1) := by decide +kernel
theorem d_H_hasCurrency_3 : decode b_H_hasCurrency 3 = .ok (.invokestatic 65, 3) := by decide +kernel
theorem d_H_hasCurrency_6 : decode b_H_hasCurrency 6 = .ok (.ireturn, 1) := by decide +kernel
def pp_H_hasCurrency (g : Nat → ClassId) (e0 : Nat) (K : Int32 → mo_M → Prop) (M : mo_M) (x0 : Int32) : Prop := pp_H_isBetween g e0 (fun r2 M1 => (narrow .boolean (.int r2) = .int r2 ∧ K r2 M1)) M x0 ((0 : Int32)) ((2 : Int32))
set_option maxHeartbeats 4000000 in
set_option maxRecDepth 100000 in
theorem cc_H_hasCurrency (l : Launch) (L0 : Nat) (D : va_G) {g : Nat → ClassId} {e0 : Nat} {K : Int32 → mo_M → Prop} {M : mo_M} {x0 : Int32} (hP : pp_H_hasCurrency g e0 K M x0) : Met l y_H_hasCurrency ws_H_hasCurrency (mo_R 1 0 0 22) (va_Pc [.int x0] (fun U => mo_B L0 e0 D vwCl (mo_T g) M U)) (mo_Qi L0 e0 D vwCl (mo_T g) K) 0 0 (fun q => L0 ≤ q) := by
  refine Met.ofW (cc := b_H_hasCurrency) (maxL := 1) (ret := (Option.some Jvm.ClassFile.FieldType.boolean)) (by decide) rfl ?_
  intro p e s m args below meth c s₁ B hml hv
  obtain ⟨hv1, hB0⟩ := hv
  have hx := B.exec
  have hb := B.bytes
  have hr := B.returns
  have hts : ∀ w ∈ lw_g, w.before args s = true := fun w hw => atoms_spec (ws := ws_H_hasCurrency) B.pre w (List.mem_cons_of_mem _ hw)
  have hown : s.vm.findClass "PurseHouse" = some m.cls := findClass_of_methodNamed B.named
  have hlocks := B.notSynchronized
  have hok : mo_ok L0 e0 D vwCl (mo_T g) s M s.heap [] := ⟨hB0.1, hB0.2.1, hB0.2.2, va_S.rf⟩
  have hl := lv_entry ([.int x0]) (n := 1) (Nat.le_of_ble_eq_true rfl)
  rw [hv1, lg_entry_eq]
  rw [← hv1]
  generalize (lg_sl [.int x0] ++ List.replicate (1 - (lg_sl [.int x0]).length) Slot.unset).toArray = ls at hl ⊢
  have hl : lv_has ls 1 [(0, .int x0)] := hl
  unfold pp_H_hasCurrency at hP
  refine lv_iload_n hx hb d_H_hasCurrency_0 rfl (lv_at hl 0 rfl) ?_
  refine lv_iconst (v := 0) hx hb d_H_hasCurrency_1 (by decide) ?_
  refine lv_iconst (v := 2) hx hb d_H_hasCurrency_2 (by decide) ?_
  refine mo_calli hok (va_runS (As := [.int x0, .int ((0 : Int32)), .int ((2 : Int32))]) (rest := []) ⟨hx, hb, hml, hown, hts⟩ (cc_H_isBetween l L0 D hP) ⟨(callB_of 3 hts (lw_gi wd_167) rfl rfl rfl (hts _ wd_33) (hts _ wd_165) (by decide +kernel) ⟨by decide, by decide⟩), hts _ wd_166⟩ (mo_preS hok [.int x0, .int ((0 : Int32)), .int ((2 : Int32))]) rfl rfl hl.1 rfl (lv_room (Nat.le_of_ble_eq_true rfl)) d_H_hasCurrency_3 ⟨Nat.zero_le _, Nat.zero_le _⟩) (fun r2 M1 H locs hP hok => ?_)
  exact mo_zret hx hb hr hlocks hok hP d_H_hasCurrency_6

abbrev b_H_hasBit : ByteArray := prog_1_method_25_code
def y_H_hasBit : MethodName := ⟨"PurseHouse", "hasBit", "(II)Z"⟩
def ws_H_hasBit : List Cond := .code y_H_hasBit b_H_hasBit 2 (Option.some Jvm.ClassFile.FieldType.boolean) :: lw_g
theorem d_H_hasBit_0 : decode b_H_hasBit 0 = .ok (.iload_n 0, 1) := by decide +kernel
theorem d_H_hasBit_1 : decode b_H_hasBit 1 = .ok (.iload_n 1, 1) := by decide +kernel
theorem d_H_hasBit_2 : decode b_H_hasBit 2 = .ok (.ishr, 1) := by decide +kernel
theorem d_H_hasBit_3 : decode b_H_hasBit 3 = .ok (.iconst 1, 1) := by decide +kernel
theorem d_H_hasBit_4 : decode b_H_hasBit 4 = .ok (.iand, 1) := by decide +kernel
theorem d_H_hasBit_5 : decode b_H_hasBit 5 = .ok (.iconst 1, 1) := by decide +kernel
theorem d_H_hasBit_6 : decode b_H_hasBit 6 = .ok (.if_icmp .ne 7, 3) := by decide +kernel
theorem d_H_hasBit_9 : decode b_H_hasBit 9 = .ok (.iconst 1, 1) := by decide +kernel
theorem d_H_hasBit_10 : decode b_H_hasBit 10 = .ok (.goto 4, 3) := by decide +kernel
theorem d_H_hasBit_13 : decode b_H_hasBit 13 = .ok (.iconst 0, 1) := by decide +kernel
theorem d_H_hasBit_14 : decode b_H_hasBit 14 = .ok (.ireturn, 1) := by decide +kernel
def pp_H_hasBit (g : Nat → ClassId) (e0 : Nat) (K : Int32 → mo_M → Prop) (M : mo_M) (x0 : Int32) (x1 : Int32) : Prop := ((((((x0 >>> (x1 &&& 31))) &&& ((1 : Int32)))) = ((1 : Int32)) → (narrow .boolean (.int ((1 : Int32))) = .int ((1 : Int32)) ∧ K ((1 : Int32)) M)) ∧ (¬ (((((x0 >>> (x1 &&& 31))) &&& ((1 : Int32)))) = ((1 : Int32))) → (narrow .boolean (.int ((0 : Int32))) = .int ((0 : Int32)) ∧ K ((0 : Int32)) M)))
set_option maxHeartbeats 4000000 in
set_option maxRecDepth 100000 in
theorem cc_H_hasBit (l : Launch) (L0 : Nat) (D : va_G) {g : Nat → ClassId} {e0 : Nat} {K : Int32 → mo_M → Prop} {M : mo_M} {x0 : Int32} {x1 : Int32} (hP : pp_H_hasBit g e0 K M x0 x1) : Met l y_H_hasBit ws_H_hasBit (mo_R 0 0 0 0) (va_Pc [.int x0, .int x1] (fun U => mo_B L0 e0 D vwCl (mo_T g) M U)) (mo_Qi L0 e0 D vwCl (mo_T g) K) 0 0 (fun q => L0 ≤ q) := by
  refine Met.ofW (cc := b_H_hasBit) (maxL := 2) (ret := (Option.some Jvm.ClassFile.FieldType.boolean)) (by decide) rfl ?_
  intro p e s m args below meth c s₁ B hml hv
  obtain ⟨hv1, hB0⟩ := hv
  have hx := B.exec
  have hb := B.bytes
  have hr := B.returns
  have hts : ∀ w ∈ lw_g, w.before args s = true := fun w hw => atoms_spec (ws := ws_H_hasBit) B.pre w (List.mem_cons_of_mem _ hw)
  have hown : s.vm.findClass "PurseHouse" = some m.cls := findClass_of_methodNamed B.named
  have hlocks := B.notSynchronized
  have hok : mo_ok L0 e0 D vwCl (mo_T g) s M s.heap [] := ⟨hB0.1, hB0.2.1, hB0.2.2, va_S.rf⟩
  have hl := lv_entry ([.int x0, .int x1]) (n := 2) (Nat.le_of_ble_eq_true rfl)
  rw [hv1, lg_entry_eq]
  rw [← hv1]
  generalize (lg_sl [.int x0, .int x1] ++ List.replicate (2 - (lg_sl [.int x0, .int x1]).length) Slot.unset).toArray = ls at hl ⊢
  have hl : lv_has ls 2 [(0, .int x0), (1, .int x1)] := hl
  unfold pp_H_hasBit at hP
  refine lv_iload_n hx hb d_H_hasBit_0 rfl (lv_at hl 0 rfl) ?_
  refine lv_iload_n hx hb d_H_hasBit_1 rfl (lv_at hl 1 rfl) ?_
  refine lv_ishr hx hb d_H_hasBit_2 ?_
  refine lv_iconst (v := 1) hx hb d_H_hasBit_3 (by decide) ?_
  refine lv_iand hx hb d_H_hasBit_4 ?_
  refine lv_iconst (v := 1) hx hb d_H_hasBit_5 (by decide) ?_
  refine lv_icmp_ne (tgt := 13) hx hb d_H_hasBit_6 (by decide) (fun hc => ?_) (fun hc => ?_)
  · replace hP := hP.2 hc
    refine lv_iconst (v := 0) hx hb d_H_hasBit_13 (by decide) ?_
    exact mo_zret hx hb hr hlocks hok hP d_H_hasBit_14
  · replace hP := hP.1 hc
    refine lv_iconst (v := 1) hx hb d_H_hasBit_9 (by decide) ?_
    refine lv_goto (tgt := 14) hx hb d_H_hasBit_10 (by decide) ?_
    exact mo_zret hx hb hr hlocks hok hP d_H_hasBit_14

abbrev b_H_hasKiosk : ByteArray := prog_1_method_27_code
def y_H_hasKiosk : MethodName := ⟨"PurseHouse", "hasKiosk", "(I)Z"⟩
def ws_H_hasKiosk : List Cond := .code y_H_hasKiosk b_H_hasKiosk 2 (Option.some Jvm.ClassFile.FieldType.boolean) :: lw_g
theorem d_H_hasKiosk_0 : decode b_H_hasKiosk 0 = .ok (.iload_n 1, 1) := by decide +kernel
theorem d_H_hasKiosk_1 : decode b_H_hasKiosk 1 = .ok (.iconst 0, 1) := by decide +kernel
theorem d_H_hasKiosk_2 : decode b_H_hasKiosk 2 = .ok (.aload_n 0, 1) := by decide +kernel
theorem d_H_hasKiosk_3 : decode b_H_hasKiosk 3 = .ok (.getfield 39, 3) := by decide +kernel
theorem d_H_hasKiosk_6 : decode b_H_hasKiosk 6 = .ok (.arraylength, 1) := by decide +kernel
theorem d_H_hasKiosk_7 : decode b_H_hasKiosk 7 = .ok (.iconst 1, 1) := by decide +kernel
theorem d_H_hasKiosk_8 : decode b_H_hasKiosk 8 = .ok (.isub, 1) := by decide +kernel
theorem d_H_hasKiosk_9 : decode b_H_hasKiosk 9 = .ok (.invokestatic 65, 3) := by decide +kernel
theorem d_H_hasKiosk_12 : decode b_H_hasKiosk 12 = .ok (.ireturn, 1) := by decide +kernel
def pp_H_hasKiosk (g : Nat → ClassId) (e0 : Nat) (K : Int32 → mo_M → Prop) (M : mo_M) (x0 : Nat) (x1 : Int32) : Prop := mp_gr M x0 0 0 (fun v1 => mp_ln (g 3) M v1 (fun v2 => pp_H_isBetween g e0 (fun r4 M3 => (narrow .boolean (.int r4) = .int r4 ∧ K r4 M3)) M x1 ((0 : Int32)) ((v2 - ((1 : Int32))))))
set_option maxHeartbeats 4000000 in
set_option maxRecDepth 100000 in
theorem cc_H_hasKiosk (l : Launch) (L0 : Nat) (D : va_G) {g : Nat → ClassId} {e0 : Nat} {K : Int32 → mo_M → Prop} {M : mo_M} {x0 : Nat} {x1 : Int32} (hP : pp_H_hasKiosk g e0 K M x0 x1) : Met l y_H_hasKiosk ws_H_hasKiosk (mo_R 1 0 0 22) (va_Pc [.ref x0, .int x1] (fun U => mo_B L0 e0 D vwCl (mo_T g) M U)) (mo_Qi L0 e0 D vwCl (mo_T g) K) 0 0 (fun q => L0 ≤ q) := by
  refine Met.ofW (cc := b_H_hasKiosk) (maxL := 2) (ret := (Option.some Jvm.ClassFile.FieldType.boolean)) (by decide) rfl ?_
  intro p e s m args below meth c s₁ B hml hv
  obtain ⟨hv1, hB0⟩ := hv
  have hx := B.exec
  have hb := B.bytes
  have hr := B.returns
  have hts : ∀ w ∈ lw_g, w.before args s = true := fun w hw => atoms_spec (ws := ws_H_hasKiosk) B.pre w (List.mem_cons_of_mem _ hw)
  have hown : s.vm.findClass "PurseHouse" = some m.cls := findClass_of_methodNamed B.named
  have hlocks := B.notSynchronized
  have hok : mo_ok L0 e0 D vwCl (mo_T g) s M s.heap [] := ⟨hB0.1, hB0.2.1, hB0.2.2, va_S.rf⟩
  have hl := lv_entry ([.ref x0, .int x1]) (n := 2) (Nat.le_of_ble_eq_true rfl)
  rw [hv1, lg_entry_eq]
  rw [← hv1]
  generalize (lg_sl [.ref x0, .int x1] ++ List.replicate (2 - (lg_sl [.ref x0, .int x1]).length) Slot.unset).toArray = ls at hl ⊢
  have hl : lv_has ls 2 [(0, .ref x0), (1, .int x1)] := hl
  unfold pp_H_hasKiosk at hP
  refine lv_iload_n hx hb d_H_hasKiosk_0 rfl (lv_at hl 1 rfl) ?_
  refine lv_iconst (v := 0) hx hb d_H_hasKiosk_1 (by decide) ?_
  refine lv_aload_n hx hb d_H_hasKiosk_2 rfl (lv_at hl 0 rfl) ?_
  refine mr_gr (C := "PurseHouse") (T := F_0) (N := 5) (ref := "PurseHouse") hx hb hts hown hok hP ui_0 rfl (by decide) (hts _ wd_141) (fun _ h => h) d_H_hasKiosk_3 (fun v1 hP => ?_)
  refine mr_ln hx hb hok hP 3 rfl d_H_hasKiosk_6 (fun v2 hP => ?_)
  refine lv_iconst (v := 1) hx hb d_H_hasKiosk_7 (by decide) ?_
  refine lv_isub hx hb d_H_hasKiosk_8 ?_
  refine mo_calli hok (va_runS (As := [.int x1, .int ((0 : Int32)), .int ((v2 - ((1 : Int32))))]) (rest := []) ⟨hx, hb, hml, hown, hts⟩ (cc_H_isBetween l L0 D hP) ⟨(callB_of 3 hts (lw_gi wd_167) rfl rfl rfl (hts _ wd_33) (hts _ wd_165) (by decide +kernel) ⟨by decide, by decide⟩), hts _ wd_166⟩ (mo_preS hok [.int x1, .int ((0 : Int32)), .int ((v2 - ((1 : Int32))))]) rfl rfl hl.1 rfl (lv_room (Nat.le_of_ble_eq_true rfl)) d_H_hasKiosk_9 ⟨Nat.zero_le _, Nat.zero_le _⟩) (fun r4 M3 H locs hP hok => ?_)
  exact mo_zret hx hb hr hlocks hok hP d_H_hasKiosk_12

abbrev b_H_hasNumber : ByteArray := prog_1_method_30_code
def y_H_hasNumber : MethodName := ⟨"PurseHouse", "hasNumber", "(I)Z"⟩
def ws_H_hasNumber : List Cond := .code y_H_hasNumber b_H_hasNumber 2 (Option.some Jvm.ClassFile.FieldType.boolean) :: lw_g
theorem d_H_hasNumber_0 : decode b_H_hasNumber 0 = .ok (.iload_n 1, 1) := by decide +kernel
theorem d_H_hasNumber_1 : decode b_H_hasNumber 1 = .ok (.iconst 0, 1) := by decide +kernel
theorem d_H_hasNumber_2 : decode b_H_hasNumber 2 = .ok (.aload_n 0, 1) := by decide +kernel
theorem d_H_hasNumber_3 : decode b_H_hasNumber 3 = .ok (.getfield 24, 3) := by decide +kernel
theorem d_H_hasNumber_6 : decode b_H_hasNumber 6 = .ok (.iconst 1, 1) := by decide +kernel
theorem d_H_hasNumber_7 : decode b_H_hasNumber 7 = .ok (.isub, 1) := by decide +kernel
theorem d_H_hasNumber_8 : decode b_H_hasNumber 8 = .ok (.invokestatic 65, 3) := by decide +kernel
theorem d_H_hasNumber_11 : decode b_H_hasNumber 11 = .ok (.ireturn, 1) := by decide +kernel
def pp_H_hasNumber (g : Nat → ClassId) (e0 : Nat) (K : Int32 → mo_M → Prop) (M : mo_M) (x0 : Nat) (x1 : Int32) : Prop := mp_gi M x0 0 4 (fun v1 => pp_H_isBetween g e0 (fun r3 M2 => (narrow .boolean (.int r3) = .int r3 ∧ K r3 M2)) M x1 ((0 : Int32)) ((v1 - ((1 : Int32)))))
set_option maxHeartbeats 4000000 in
set_option maxRecDepth 100000 in
theorem cc_H_hasNumber (l : Launch) (L0 : Nat) (D : va_G) {g : Nat → ClassId} {e0 : Nat} {K : Int32 → mo_M → Prop} {M : mo_M} {x0 : Nat} {x1 : Int32} (hP : pp_H_hasNumber g e0 K M x0 x1) : Met l y_H_hasNumber ws_H_hasNumber (mo_R 1 0 0 22) (va_Pc [.ref x0, .int x1] (fun U => mo_B L0 e0 D vwCl (mo_T g) M U)) (mo_Qi L0 e0 D vwCl (mo_T g) K) 0 0 (fun q => L0 ≤ q) := by
  refine Met.ofW (cc := b_H_hasNumber) (maxL := 2) (ret := (Option.some Jvm.ClassFile.FieldType.boolean)) (by decide) rfl ?_
  intro p e s m args below meth c s₁ B hml hv
  obtain ⟨hv1, hB0⟩ := hv
  have hx := B.exec
  have hb := B.bytes
  have hr := B.returns
  have hts : ∀ w ∈ lw_g, w.before args s = true := fun w hw => atoms_spec (ws := ws_H_hasNumber) B.pre w (List.mem_cons_of_mem _ hw)
  have hown : s.vm.findClass "PurseHouse" = some m.cls := findClass_of_methodNamed B.named
  have hlocks := B.notSynchronized
  have hok : mo_ok L0 e0 D vwCl (mo_T g) s M s.heap [] := ⟨hB0.1, hB0.2.1, hB0.2.2, va_S.rf⟩
  have hl := lv_entry ([.ref x0, .int x1]) (n := 2) (Nat.le_of_ble_eq_true rfl)
  rw [hv1, lg_entry_eq]
  rw [← hv1]
  generalize (lg_sl [.ref x0, .int x1] ++ List.replicate (2 - (lg_sl [.ref x0, .int x1]).length) Slot.unset).toArray = ls at hl ⊢
  have hl : lv_has ls 2 [(0, .ref x0), (1, .int x1)] := hl
  unfold pp_H_hasNumber at hP
  refine lv_iload_n hx hb d_H_hasNumber_0 rfl (lv_at hl 1 rfl) ?_
  refine lv_iconst (v := 0) hx hb d_H_hasNumber_1 (by decide) ?_
  refine lv_aload_n hx hb d_H_hasNumber_2 rfl (lv_at hl 0 rfl) ?_
  refine mr_gi (C := "PurseHouse") (T := F_0) (N := 5) (ref := "PurseHouse") hx hb hts hown hok hP ui_0 rfl (by decide) (hts _ wd_145) (fun _ h => h) d_H_hasNumber_3 (fun v1 hP => ?_)
  refine lv_iconst (v := 1) hx hb d_H_hasNumber_6 (by decide) ?_
  refine lv_isub hx hb d_H_hasNumber_7 ?_
  refine mo_calli hok (va_runS (As := [.int x1, .int ((0 : Int32)), .int ((v1 - ((1 : Int32))))]) (rest := []) ⟨hx, hb, hml, hown, hts⟩ (cc_H_isBetween l L0 D hP) ⟨(callB_of 3 hts (lw_gi wd_167) rfl rfl rfl (hts _ wd_33) (hts _ wd_165) (by decide +kernel) ⟨by decide, by decide⟩), hts _ wd_166⟩ (mo_preS hok [.int x1, .int ((0 : Int32)), .int ((v1 - ((1 : Int32))))]) rfl rfl hl.1 rfl (lv_room (Nat.le_of_ble_eq_true rfl)) d_H_hasNumber_8 ⟨Nat.zero_le _, Nat.zero_le _⟩) (fun r3 M2 H locs hP hok => ?_)
  exact mo_zret hx hb hr hlocks hok hP d_H_hasNumber_11

abbrev b_K_hasMark : ByteArray := prog_2_method_2_code
def y_K_hasMark : MethodName := ⟨"PurseHouse$Kiosk", "hasMark", "(I)Z"⟩
def ws_K_hasMark : List Cond := .code y_K_hasMark b_K_hasMark 2 (Option.some Jvm.ClassFile.FieldType.boolean) :: lw_g
theorem d_K_hasMark_0 : decode b_K_hasMark 0 = .ok (.aload_n 0, 1) := by decide +kernel
theorem d_K_hasMark_1 : decode b_K_hasMark 1 = .ok (.getfield 25, 3) := by decide +kernel
theorem d_K_hasMark_4 : decode b_K_hasMark 4 = .ok (.iload_n 1, 1) := by decide +kernel
theorem d_K_hasMark_5 : decode b_K_hasMark 5 = .ok (.invokestatic 43, 3) := by decide +kernel
theorem d_K_hasMark_8 : decode b_K_hasMark 8 = .ok (.ireturn, 1) := by decide +kernel
def pp_K_hasMark (g : Nat → ClassId) (e0 : Nat) (K : Int32 → mo_M → Prop) (M : mo_M) (x0 : Nat) (x1 : Int32) : Prop := mp_gi M x0 1 4 (fun v1 => pp_H_hasBit g e0 (fun r3 M2 => (narrow .boolean (.int r3) = .int r3 ∧ K r3 M2)) M v1 x1)
set_option maxHeartbeats 4000000 in
set_option maxRecDepth 100000 in
theorem cc_K_hasMark (l : Launch) (L0 : Nat) (D : va_G) {g : Nat → ClassId} {e0 : Nat} {K : Int32 → mo_M → Prop} {M : mo_M} {x0 : Nat} {x1 : Int32} (hP : pp_K_hasMark g e0 K M x0 x1) : Met l y_K_hasMark ws_K_hasMark (mo_R 1 0 0 21) (va_Pc [.ref x0, .int x1] (fun U => mo_B L0 e0 D vwCl (mo_T g) M U)) (mo_Qi L0 e0 D vwCl (mo_T g) K) 0 0 (fun q => L0 ≤ q) := by
  refine Met.ofW (cc := b_K_hasMark) (maxL := 2) (ret := (Option.some Jvm.ClassFile.FieldType.boolean)) (by decide) rfl ?_
  intro p e s m args below meth c s₁ B hml hv
  obtain ⟨hv1, hB0⟩ := hv
  have hx := B.exec
  have hb := B.bytes
  have hr := B.returns
  have hts : ∀ w ∈ lw_g, w.before args s = true := fun w hw => atoms_spec (ws := ws_K_hasMark) B.pre w (List.mem_cons_of_mem _ hw)
  have hown : s.vm.findClass "PurseHouse$Kiosk" = some m.cls := findClass_of_methodNamed B.named
  have hlocks := B.notSynchronized
  have hok : mo_ok L0 e0 D vwCl (mo_T g) s M s.heap [] := ⟨hB0.1, hB0.2.1, hB0.2.2, va_S.rf⟩
  have hl := lv_entry ([.ref x0, .int x1]) (n := 2) (Nat.le_of_ble_eq_true rfl)
  rw [hv1, lg_entry_eq]
  rw [← hv1]
  generalize (lg_sl [.ref x0, .int x1] ++ List.replicate (2 - (lg_sl [.ref x0, .int x1]).length) Slot.unset).toArray = ls at hl ⊢
  have hl : lv_has ls 2 [(0, .ref x0), (1, .int x1)] := hl
  unfold pp_K_hasMark at hP
  refine lv_aload_n hx hb d_K_hasMark_0 rfl (lv_at hl 0 rfl) ?_
  refine mr_gi (C := "PurseHouse$Kiosk") (T := F_1) (N := 9) (ref := "PurseHouse$Kiosk") hx hb hts hown hok hP ui_1 rfl (by decide) (hts _ wd_110) (fun _ h => h) d_K_hasMark_1 (fun v1 hP => ?_)
  refine lv_iload_n hx hb d_K_hasMark_4 rfl (lv_at hl 1 rfl) ?_
  refine mo_calli hok (va_runSN (As := [.int v1, .int x1]) (rest := []) ⟨hx, hb, hml, hown, hts⟩ (cc_H_hasBit l L0 D hP) ⟨(va_cnB 2 hts (lw_gi wd_398) rfl rfl rfl (mo_nw_of hok wn_396 rfl) (hts _ wd_33) (by decide +kernel) ⟨by decide, by decide⟩), hts _ wd_397, trivial⟩ (mo_preS hok [.int v1, .int x1]) rfl rfl hl.1 rfl (lv_room (Nat.le_of_ble_eq_true rfl)) d_K_hasMark_5 ⟨Nat.zero_le _, Nat.zero_le _⟩) (fun r3 M2 H locs hP hok => ?_)
  exact mo_zret hx hb hr hlocks hok hP d_K_hasMark_8

abbrev b_K_hasCoins : ByteArray := prog_2_method_3_code
def y_K_hasCoins : MethodName := ⟨"PurseHouse$Kiosk", "hasCoins", "(II)Z"⟩
def ws_K_hasCoins : List Cond := .code y_K_hasCoins b_K_hasCoins 3 (Option.some Jvm.ClassFile.FieldType.boolean) :: lw_g
theorem d_K_hasCoins_0 : decode b_K_hasCoins 0 = .ok (.iload_n 2, 1) := by decide +kernel
theorem d_K_hasCoins_1 : decode b_K_hasCoins 1 = .ok (.iconst 1, 1) := by decide +kernel
theorem d_K_hasCoins_2 : decode b_K_hasCoins 2 = .ok (.ldc 47, 2) := by decide +kernel
theorem d_K_hasCoins_4 : decode b_K_hasCoins 4 = .ok (.invokestatic 48, 3) := by decide +kernel
theorem d_K_hasCoins_7 : decode b_K_hasCoins 7 = .ok (.ifCond .eq 19, 3) := by decide +kernel
theorem d_K_hasCoins_10 : decode b_K_hasCoins 10 = .ok (.aload_n 0, 1) := by decide +kernel
theorem d_K_hasCoins_11 : decode b_K_hasCoins 11 = .ok (.getfield 9, 3) := by decide +kernel
theorem d_K_hasCoins_14 : decode b_K_hasCoins 14 = .ok (.iload_n 1, 1) := by decide +kernel
theorem d_K_hasCoins_15 : decode b_K_hasCoins 15 = .ok (.laload, 1) := by decide +kernel
theorem d_K_hasCoins_16 : decode b_K_hasCoins 16 = .ok (.iload_n 2, 1) := by decide +kernel
theorem d_K_hasCoins_17 : decode b_K_hasCoins 17 = .ok (.i2l, 1) := by decide +kernel
theorem d_K_hasCoins_18 : decode b_K_hasCoins 18 = .ok (.lcmp, 1) := by decide +kernel
theorem d_K_hasCoins_19 : decode b_K_hasCoins 19 = .ok (.ifCond .lt 7, 3) := by decide +kernel
theorem d_K_hasCoins_22 : decode b_K_hasCoins 22 = .ok (.iconst 1, 1) := by decide +kernel
theorem d_K_hasCoins_23 : decode b_K_hasCoins 23 = .ok (.goto 4, 3) := by decide +kernel
theorem d_K_hasCoins_26 : decode b_K_hasCoins 26 = .ok (.iconst 0, 1) := by decide +kernel
theorem d_K_hasCoins_27 : decode b_K_hasCoins 27 = .ok (.ireturn, 1) := by decide +kernel
def pp_K_hasCoins (g : Nat → ClassId) (e0 : Nat) (K : Int32 → mo_M → Prop) (M : mo_M) (x0 : Nat) (x1 : Int32) (x2 : Int32) : Prop := pp_H_isBetween g e0 (fun r2 M1 => ((r2 = 0 → (narrow .boolean (.int ((0 : Int32))) = .int ((0 : Int32)) ∧ K ((0 : Int32)) M1)) ∧ (¬ (r2 = 0) → mp_gr M1 x0 1 0 (fun v3 => mp_al (g 1) M1 v3 x1 (fun v4 => (((lg_cmp v4 x2.toInt64) < 0 → (narrow .boolean (.int ((0 : Int32))) = .int ((0 : Int32)) ∧ K ((0 : Int32)) M1)) ∧ (¬ ((lg_cmp v4 x2.toInt64) < 0) → (narrow .boolean (.int ((1 : Int32))) = .int ((1 : Int32)) ∧ K ((1 : Int32)) M1)))))))) M x2 ((1 : Int32)) ((1000000000 : Int32))
set_option maxHeartbeats 4000000 in
set_option maxRecDepth 100000 in
theorem cc_K_hasCoins (l : Launch) (L0 : Nat) (D : va_G) {g : Nat → ClassId} {e0 : Nat} {K : Int32 → mo_M → Prop} {M : mo_M} {x0 : Nat} {x1 : Int32} {x2 : Int32} (hP : pp_K_hasCoins g e0 K M x0 x1 x2) : Met l y_K_hasCoins ws_K_hasCoins (mo_R 1 0 0 22) (va_Pc [.ref x0, .int x1, .int x2] (fun U => mo_B L0 e0 D vwCl (mo_T g) M U)) (mo_Qi L0 e0 D vwCl (mo_T g) K) 0 0 (fun q => L0 ≤ q) := by
  refine Met.ofW (cc := b_K_hasCoins) (maxL := 3) (ret := (Option.some Jvm.ClassFile.FieldType.boolean)) (by decide) rfl ?_
  intro p e s m args below meth c s₁ B hml hv
  obtain ⟨hv1, hB0⟩ := hv
  have hx := B.exec
  have hb := B.bytes
  have hr := B.returns
  have hts : ∀ w ∈ lw_g, w.before args s = true := fun w hw => atoms_spec (ws := ws_K_hasCoins) B.pre w (List.mem_cons_of_mem _ hw)
  have hown : s.vm.findClass "PurseHouse$Kiosk" = some m.cls := findClass_of_methodNamed B.named
  have hlocks := B.notSynchronized
  have hok : mo_ok L0 e0 D vwCl (mo_T g) s M s.heap [] := ⟨hB0.1, hB0.2.1, hB0.2.2, va_S.rf⟩
  have hl := lv_entry ([.ref x0, .int x1, .int x2]) (n := 3) (Nat.le_of_ble_eq_true rfl)
  rw [hv1, lg_entry_eq]
  rw [← hv1]
  generalize (lg_sl [.ref x0, .int x1, .int x2] ++ List.replicate (3 - (lg_sl [.ref x0, .int x1, .int x2]).length) Slot.unset).toArray = ls at hl ⊢
  have hl : lv_has ls 3 [(0, .ref x0), (1, .int x1), (2, .int x2)] := hl
  unfold pp_K_hasCoins at hP
  refine lv_iload_n hx hb d_K_hasCoins_0 rfl (lv_at hl 2 rfl) ?_
  refine lv_iconst (v := 1) hx hb d_K_hasCoins_1 (by decide) ?_
  refine lv_ldc hx hb hown (hts _ wd_286) d_K_hasCoins_2 ?_
  refine mo_calli hok (va_runSN (As := [.int x2, .int ((1 : Int32)), .int ((1000000000 : Int32))]) (rest := []) ⟨hx, hb, hml, hown, hts⟩ (cc_H_isBetween l L0 D hP) ⟨(va_cnB 3 hts (lw_gi wd_167) rfl rfl rfl (mo_nw_of hok wn_287 rfl) (hts _ wd_33) (by decide +kernel) ⟨by decide, by decide⟩), hts _ wd_166, trivial⟩ (mo_preS hok [.int x2, .int ((1 : Int32)), .int ((1000000000 : Int32))]) rfl rfl hl.1 rfl (lv_room (Nat.le_of_ble_eq_true rfl)) d_K_hasCoins_4 ⟨Nat.zero_le _, Nat.zero_le _⟩) (fun r2 M1 H locs hP hok => ?_)
  refine lv_if_eq (tgt := 26) hx hb d_K_hasCoins_7 (by decide) (fun hc => ?_) (fun hc => ?_)
  · replace hP := hP.1 hc
    refine lv_iconst (v := 0) hx hb d_K_hasCoins_26 (by decide) ?_
    exact mo_zret hx hb hr hlocks hok hP d_K_hasCoins_27
  · replace hP := hP.2 hc
    refine lv_aload_n hx hb d_K_hasCoins_10 rfl (lv_at hl 0 rfl) ?_
    refine mr_gr (C := "PurseHouse$Kiosk") (T := F_1) (N := 9) (ref := "PurseHouse$Kiosk") hx hb hts hown hok hP ui_1 rfl (by decide) (hts _ wd_103) (fun _ h => h) d_K_hasCoins_11 (fun v3 hP => ?_)
    refine lv_iload_n hx hb d_K_hasCoins_14 rfl (lv_at hl 1 rfl) ?_
    refine mr_al hx hb hok hP 1 rfl d_K_hasCoins_15 (fun v4 hP => ?_)
    refine lv_iload_n hx hb d_K_hasCoins_16 rfl (lv_at hl 2 rfl) ?_
    refine lv_i2l hx hb d_K_hasCoins_17 rfl ?_
    refine W.lcmp hx hb d_K_hasCoins_18 ?_
    refine lv_if_lt (tgt := 26) hx hb d_K_hasCoins_19 (by decide) (fun hc => ?_) (fun hc => ?_)
    · replace hP := hP.1 hc
      refine lv_iconst (v := 0) hx hb d_K_hasCoins_26 (by decide) ?_
      exact mo_zret hx hb hr hlocks hok hP d_K_hasCoins_27
    · replace hP := hP.2 hc
      refine lv_iconst (v := 1) hx hb d_K_hasCoins_22 (by decide) ?_
      refine lv_goto (tgt := 27) hx hb d_K_hasCoins_23 (by decide) ?_
      exact mo_zret hx hb hr hlocks hok hP d_K_hasCoins_27

abbrev b_K_addCoins : ByteArray := prog_2_method_4_code
def y_K_addCoins : MethodName := ⟨"PurseHouse$Kiosk", "addCoins", "(II)V"⟩
def ws_K_addCoins : List Cond := .code y_K_addCoins b_K_addCoins 3 (Option.none : Option Jvm.ClassFile.FieldType) :: lw_g
theorem d_K_addCoins_0 : decode b_K_addCoins 0 = .ok (.aload_n 0, 1) := by decide +kernel
theorem d_K_addCoins_1 : decode b_K_addCoins 1 = .ok (.getfield 9, 3) := by decide +kernel
theorem d_K_addCoins_4 : decode b_K_addCoins 4 = .ok (.iload_n 1, 1) := by decide +kernel
theorem d_K_addCoins_5 : decode b_K_addCoins 5 = .ok (.dup2, 1) := by decide +kernel
theorem d_K_addCoins_6 : decode b_K_addCoins 6 = .ok (.laload, 1) := by decide +kernel
theorem d_K_addCoins_7 : decode b_K_addCoins 7 = .ok (.iload_n 2, 1) := by decide +kernel
theorem d_K_addCoins_8 : decode b_K_addCoins 8 = .ok (.i2l, 1) := by decide +kernel
theorem d_K_addCoins_9 : decode b_K_addCoins 9 = .ok (.ladd, 1) := by decide +kernel
theorem d_K_addCoins_10 : decode b_K_addCoins 10 = .ok (.lastore, 1) := by decide +kernel
theorem d_K_addCoins_11 : decode b_K_addCoins 11 = .ok (.aload_n 0, 1) := by decide +kernel
theorem d_K_addCoins_12 : decode b_K_addCoins 12 = .ok (.getfield 18, 3) := by decide +kernel
theorem d_K_addCoins_15 : decode b_K_addCoins 15 = .ok (.iload_n 1, 1) := by decide +kernel
theorem d_K_addCoins_16 : decode b_K_addCoins 16 = .ok (.dup2, 1) := by decide +kernel
theorem d_K_addCoins_17 : decode b_K_addCoins 17 = .ok (.laload, 1) := by decide +kernel
theorem d_K_addCoins_18 : decode b_K_addCoins 18 = .ok (.iload_n 2, 1) := by decide +kernel
theorem d_K_addCoins_19 : decode b_K_addCoins 19 = .ok (.i2l, 1) := by decide +kernel
theorem d_K_addCoins_20 : decode b_K_addCoins 20 = .ok (.ladd, 1) := by decide +kernel
theorem d_K_addCoins_21 : decode b_K_addCoins 21 = .ok (.lastore, 1) := by decide +kernel
theorem d_K_addCoins_22 : decode b_K_addCoins 22 = .ok (.aload_n 0, 1) := by decide +kernel
theorem d_K_addCoins_23 : decode b_K_addCoins 23 = .ok (.dup, 1) := by decide +kernel
theorem d_K_addCoins_24 : decode b_K_addCoins 24 = .ok (.getfield 21, 3) := by decide +kernel
theorem d_K_addCoins_27 : decode b_K_addCoins 27 = .ok (.iconst 1, 1) := by decide +kernel
theorem d_K_addCoins_28 : decode b_K_addCoins 28 = .ok (.iadd, 1) := by decide +kernel
theorem d_K_addCoins_29 : decode b_K_addCoins 29 = .ok (.putfield 21, 3) := by decide +kernel
theorem d_K_addCoins_32 : decode b_K_addCoins 32 = .ok (.return_, 1) := by decide +kernel
def pp_K_addCoins (g : Nat → ClassId) (e0 : Nat) (K : mo_M → Prop) (M : mo_M) (x0 : Nat) (x1 : Int32) (x2 : Int32) : Prop := mp_gr M x0 1 0 (fun v1 => mp_al (g 1) M v1 x1 (fun v2 => mp_sl (g 1) M v1 x1 ((v2 + x2.toInt64)) (fun M3 => mp_gr M3 x0 1 2 (fun v4 => mp_al (g 1) M3 v4 x1 (fun v5 => mp_sl (g 1) M3 v4 x1 ((v5 + x2.toInt64)) (fun M6 => mp_gi M6 x0 1 3 (fun v7 => mp_pt M6 x0 1 3 (.int ((v7 + ((1 : Int32))))) (fun M8 => K M8))))))))
set_option maxHeartbeats 4000000 in
set_option maxRecDepth 100000 in
theorem cc_K_addCoins (l : Launch) (L0 : Nat) (D : va_G) {g : Nat → ClassId} {e0 : Nat} {K : mo_M → Prop} {M : mo_M} {x0 : Nat} {x1 : Int32} {x2 : Int32} (hP : pp_K_addCoins g e0 K M x0 x1 x2) : Met l y_K_addCoins ws_K_addCoins (mo_R 0 0 0 0) (va_Pc [.ref x0, .int x1, .int x2] (fun U => mo_B L0 e0 D vwCl (mo_T g) M U)) (mo_Qv L0 e0 D vwCl (mo_T g) K) 0 0 (fun q => L0 ≤ q) := by
  refine Met.ofW (cc := b_K_addCoins) (maxL := 3) (ret := (Option.none : Option Jvm.ClassFile.FieldType)) (by decide) rfl ?_
  intro p e s m args below meth c s₁ B hml hv
  obtain ⟨hv1, hB0⟩ := hv
  have hx := B.exec
  have hb := B.bytes
  have hr := B.returns
  have hts : ∀ w ∈ lw_g, w.before args s = true := fun w hw => atoms_spec (ws := ws_K_addCoins) B.pre w (List.mem_cons_of_mem _ hw)
  have hown : s.vm.findClass "PurseHouse$Kiosk" = some m.cls := findClass_of_methodNamed B.named
  have hlocks := B.notSynchronized
  have hok : mo_ok L0 e0 D vwCl (mo_T g) s M s.heap [] := ⟨hB0.1, hB0.2.1, hB0.2.2, va_S.rf⟩
  have hl := lv_entry ([.ref x0, .int x1, .int x2]) (n := 3) (Nat.le_of_ble_eq_true rfl)
  rw [hv1, lg_entry_eq]
  rw [← hv1]
  generalize (lg_sl [.ref x0, .int x1, .int x2] ++ List.replicate (3 - (lg_sl [.ref x0, .int x1, .int x2]).length) Slot.unset).toArray = ls at hl ⊢
  have hl : lv_has ls 3 [(0, .ref x0), (1, .int x1), (2, .int x2)] := hl
  unfold pp_K_addCoins at hP
  refine lv_aload_n hx hb d_K_addCoins_0 rfl (lv_at hl 0 rfl) ?_
  refine mr_gr (C := "PurseHouse$Kiosk") (T := F_1) (N := 9) (ref := "PurseHouse$Kiosk") hx hb hts hown hok hP ui_1 rfl (by decide) (hts _ wd_103) (fun _ h => h) d_K_addCoins_1 (fun v1 hP => ?_)
  refine lv_iload_n hx hb d_K_addCoins_4 rfl (lv_at hl 1 rfl) ?_
  refine lv_dup2_11 hx hb d_K_addCoins_5 rfl rfl ?_
  refine mr_al hx hb hok hP 1 rfl d_K_addCoins_6 (fun v2 hP => ?_)
  refine lv_iload_n hx hb d_K_addCoins_7 rfl (lv_at hl 2 rfl) ?_
  refine lv_i2l hx hb d_K_addCoins_8 rfl ?_
  refine lv_ladd hx hb d_K_addCoins_9 ?_
  refine mr_sl hx hb hok hP 1 rfl d_K_addCoins_10 (fun M3 H locs hP hok => ?_)
  refine lv_aload_n hx hb d_K_addCoins_11 rfl (lv_at hl 0 rfl) ?_
  refine mr_gr (C := "PurseHouse$Kiosk") (T := F_1) (N := 9) (ref := "PurseHouse$Kiosk") hx hb hts hown hok hP ui_1 rfl (by decide) (hts _ wd_107) (fun _ h => h) d_K_addCoins_12 (fun v4 hP => ?_)
  refine lv_iload_n hx hb d_K_addCoins_15 rfl (lv_at hl 1 rfl) ?_
  refine lv_dup2_11 hx hb d_K_addCoins_16 rfl rfl ?_
  refine mr_al hx hb hok hP 1 rfl d_K_addCoins_17 (fun v5 hP => ?_)
  refine lv_iload_n hx hb d_K_addCoins_18 rfl (lv_at hl 2 rfl) ?_
  refine lv_i2l hx hb d_K_addCoins_19 rfl ?_
  refine lv_ladd hx hb d_K_addCoins_20 ?_
  refine mr_sl hx hb hok hP 1 rfl d_K_addCoins_21 (fun M6 H locs hP hok => ?_)
  refine lv_aload_n hx hb d_K_addCoins_22 rfl (lv_at hl 0 rfl) ?_
  refine lv_dup hx hb d_K_addCoins_23 rfl ?_
  refine mr_gi (C := "PurseHouse$Kiosk") (T := F_1) (N := 9) (ref := "PurseHouse$Kiosk") hx hb hts hown hok hP ui_1 rfl (by decide) (hts _ wd_108) (fun _ h => h) d_K_addCoins_24 (fun v7 hP => ?_)
  refine lv_iconst (v := 1) hx hb d_K_addCoins_27 (by decide) ?_
  refine lv_iadd hx hb d_K_addCoins_28 ?_
  refine mr_pt (C := "PurseHouse$Kiosk") (T := F_1) (N := 9) (ref := "PurseHouse$Kiosk") (ty := .int) hx hb hts hown hok hP ui_1 ty_1 th_1 tn_1 rfl (by decide) (hts _ wd_108) (fun _ h => h) rfl (by decide +kernel) rfl rfl d_K_addCoins_29 (fun M8 H locs hP hok => ?_)
  exact mo_vret hx hb hr hlocks hok hP d_K_addCoins_32

abbrev b_K_swapCoins : ByteArray := prog_2_method_5_code
def y_K_swapCoins : MethodName := ⟨"PurseHouse$Kiosk", "swapCoins", "(IJIJ)V"⟩
def ws_K_swapCoins : List Cond := .code y_K_swapCoins b_K_swapCoins 7 (Option.none : Option Jvm.ClassFile.FieldType) :: lw_g
theorem d_K_swapCoins_0 : decode b_K_swapCoins 0 = .ok (.aload_n 0, 1) := by decide +kernel
theorem d_K_swapCoins_1 : decode b_K_swapCoins 1 = .ok (.getfield 9, 3) := by decide +kernel
theorem d_K_swapCoins_4 : decode b_K_swapCoins 4 = .ok (.iload_n 1, 1) := by decide +kernel
theorem d_K_swapCoins_5 : decode b_K_swapCoins 5 = .ok (.dup2, 1) := by decide +kernel
theorem d_K_swapCoins_6 : decode b_K_swapCoins 6 = .ok (.laload, 1) := by decide +kernel
theorem d_K_swapCoins_7 : decode b_K_swapCoins 7 = .ok (.lload_n 2, 1) := by decide +kernel
theorem d_K_swapCoins_8 : decode b_K_swapCoins 8 = .ok (.lsub, 1) := by decide +kernel
theorem d_K_swapCoins_9 : decode b_K_swapCoins 9 = .ok (.lastore, 1) := by decide +kernel
theorem d_K_swapCoins_10 : decode b_K_swapCoins 10 = .ok (.aload_n 0, 1) := by decide +kernel
theorem d_K_swapCoins_11 : decode b_K_swapCoins 11 = .ok (.getfield 15, 3) := by decide +kernel
theorem d_K_swapCoins_14 : decode b_K_swapCoins 14 = .ok (.iload_n 1, 1) := by decide +kernel
theorem d_K_swapCoins_15 : decode b_K_swapCoins 15 = .ok (.dup2, 1) := by decide +kernel
theorem d_K_swapCoins_16 : decode b_K_swapCoins 16 = .ok (.laload, 1) := by decide +kernel
theorem d_K_swapCoins_17 : decode b_K_swapCoins 17 = .ok (.lload_n 2, 1) := by decide +kernel
theorem d_K_swapCoins_18 : decode b_K_swapCoins 18 = .ok (.ladd, 1) := by decide +kernel
theorem d_K_swapCoins_19 : decode b_K_swapCoins 19 = .ok (.lastore, 1) := by decide +kernel
theorem d_K_swapCoins_20 : decode b_K_swapCoins 20 = .ok (.aload_n 0, 1) := by decide +kernel
theorem d_K_swapCoins_21 : decode b_K_swapCoins 21 = .ok (.getfield 15, 3) := by decide +kernel
theorem d_K_swapCoins_24 : decode b_K_swapCoins 24 = .ok (.iload 4, 2) := by decide +kernel
theorem d_K_swapCoins_26 : decode b_K_swapCoins 26 = .ok (.dup2, 1) := by decide +kernel
theorem d_K_swapCoins_27 : decode b_K_swapCoins 27 = .ok (.laload, 1) := by decide +kernel
theorem d_K_swapCoins_28 : decode b_K_swapCoins 28 = .ok (.lload 5, 2) := by decide +kernel
theorem d_K_swapCoins_30 : decode b_K_swapCoins 30 = .ok (.lsub, 1) := by decide +kernel
theorem d_K_swapCoins_31 : decode b_K_swapCoins 31 = .ok (.lastore, 1) := by decide +kernel
theorem d_K_swapCoins_32 : decode b_K_swapCoins 32 = .ok (.aload_n 0, 1) := by decide +kernel
theorem d_K_swapCoins_33 : decode b_K_swapCoins 33 = .ok (.getfield 9, 3) := by decide +kernel
theorem d_K_swapCoins_36 : decode b_K_swapCoins 36 = .ok (.iload 4, 2) := by decide +kernel
theorem d_K_swapCoins_38 : decode b_K_swapCoins 38 = .ok (.dup2, 1) := by decide +kernel
theorem d_K_swapCoins_39 : decode b_K_swapCoins 39 = .ok (.laload, 1) := by decide +kernel
theorem d_K_swapCoins_40 : decode b_K_swapCoins 40 = .ok (.lload 5, 2) := by decide +kernel
theorem d_K_swapCoins_42 : decode b_K_swapCoins 42 = .ok (.ladd, 1) := by decide +kernel
theorem d_K_swapCoins_43 : decode b_K_swapCoins 43 = .ok (.lastore, 1) := by decide +kernel
theorem d_K_swapCoins_44 : decode b_K_swapCoins 44 = .ok (.aload_n 0, 1) := by decide +kernel
theorem d_K_swapCoins_45 : decode b_K_swapCoins 45 = .ok (.dup, 1) := by decide +kernel
theorem d_K_swapCoins_46 : decode b_K_swapCoins 46 = .ok (.getfield 21, 3) := by decide +kernel
theorem d_K_swapCoins_49 : decode b_K_swapCoins 49 = .ok (.iconst 1, 1) := by decide +kernel
theorem d_K_swapCoins_50 : decode b_K_swapCoins 50 = .ok (.iadd, 1) := by decide +kernel
theorem d_K_swapCoins_51 : decode b_K_swapCoins 51 = .ok (.putfield 21, 3) := by decide +kernel
theorem d_K_swapCoins_54 : decode b_K_swapCoins 54 = .ok (.return_, 1) := by decide +kernel
def pp_K_swapCoins (g : Nat → ClassId) (e0 : Nat) (K : mo_M → Prop) (M : mo_M) (x0 : Nat) (x1 : Int32) (x2 : Int64) (x4 : Int32) (x5 : Int64) : Prop := mp_gr M x0 1 0 (fun v1 => mp_al (g 1) M v1 x1 (fun v2 => mp_sl (g 1) M v1 x1 ((v2 - x2)) (fun M3 => mp_gr M3 x0 1 1 (fun v4 => mp_al (g 1) M3 v4 x1 (fun v5 => mp_sl (g 1) M3 v4 x1 ((v5 + x2)) (fun M6 => mp_gr M6 x0 1 1 (fun v7 => mp_al (g 1) M6 v7 x4 (fun v8 => mp_sl (g 1) M6 v7 x4 ((v8 - x5)) (fun M9 => mp_gr M9 x0 1 0 (fun v10 => mp_al (g 1) M9 v10 x4 (fun v11 => mp_sl (g 1) M9 v10 x4 ((v11 + x5)) (fun M12 => mp_gi M12 x0 1 3 (fun v13 => mp_pt M12 x0 1 3 (.int ((v13 + ((1 : Int32))))) (fun M14 => K M14))))))))))))))
set_option maxHeartbeats 4000000 in
set_option maxRecDepth 100000 in
theorem cc_K_swapCoins (l : Launch) (L0 : Nat) (D : va_G) {g : Nat → ClassId} {e0 : Nat} {K : mo_M → Prop} {M : mo_M} {x0 : Nat} {x1 : Int32} {x2 : Int64} {x4 : Int32} {x5 : Int64} (hP : pp_K_swapCoins g e0 K M x0 x1 x2 x4 x5) : Met l y_K_swapCoins ws_K_swapCoins (mo_R 0 0 0 0) (va_Pc [.ref x0, .int x1, .long x2, .int x4, .long x5] (fun U => mo_B L0 e0 D vwCl (mo_T g) M U)) (mo_Qv L0 e0 D vwCl (mo_T g) K) 0 0 (fun q => L0 ≤ q) := by
  refine Met.ofW (cc := b_K_swapCoins) (maxL := 7) (ret := (Option.none : Option Jvm.ClassFile.FieldType)) (by decide) rfl ?_
  intro p e s m args below meth c s₁ B hml hv
  obtain ⟨hv1, hB0⟩ := hv
  have hx := B.exec
  have hb := B.bytes
  have hr := B.returns
  have hts : ∀ w ∈ lw_g, w.before args s = true := fun w hw => atoms_spec (ws := ws_K_swapCoins) B.pre w (List.mem_cons_of_mem _ hw)
  have hown : s.vm.findClass "PurseHouse$Kiosk" = some m.cls := findClass_of_methodNamed B.named
  have hlocks := B.notSynchronized
  have hok : mo_ok L0 e0 D vwCl (mo_T g) s M s.heap [] := ⟨hB0.1, hB0.2.1, hB0.2.2, va_S.rf⟩
  have hl := lv_entry ([.ref x0, .int x1, .long x2, .int x4, .long x5]) (n := 7) (Nat.le_of_ble_eq_true rfl)
  rw [hv1, lg_entry_eq]
  rw [← hv1]
  generalize (lg_sl [.ref x0, .int x1, .long x2, .int x4, .long x5] ++ List.replicate (7 - (lg_sl [.ref x0, .int x1, .long x2, .int x4, .long x5]).length) Slot.unset).toArray = ls at hl ⊢
  have hl : lv_has ls 7 [(0, .ref x0), (1, .int x1), (2, .long x2), (4, .int x4), (5, .long x5)] := hl
  unfold pp_K_swapCoins at hP
  refine lv_aload_n hx hb d_K_swapCoins_0 rfl (lv_at hl 0 rfl) ?_
  refine mr_gr (C := "PurseHouse$Kiosk") (T := F_1) (N := 9) (ref := "PurseHouse$Kiosk") hx hb hts hown hok hP ui_1 rfl (by decide) (hts _ wd_103) (fun _ h => h) d_K_swapCoins_1 (fun v1 hP => ?_)
  refine lv_iload_n hx hb d_K_swapCoins_4 rfl (lv_at hl 1 rfl) ?_
  refine lv_dup2_11 hx hb d_K_swapCoins_5 rfl rfl ?_
  refine mr_al hx hb hok hP 1 rfl d_K_swapCoins_6 (fun v2 hP => ?_)
  refine lv_lload_n hx hb d_K_swapCoins_7 rfl (lv_at hl 2 rfl) ?_
  refine lv_lsub hx hb d_K_swapCoins_8 ?_
  refine mr_sl hx hb hok hP 1 rfl d_K_swapCoins_9 (fun M3 H locs hP hok => ?_)
  refine lv_aload_n hx hb d_K_swapCoins_10 rfl (lv_at hl 0 rfl) ?_
  refine mr_gr (C := "PurseHouse$Kiosk") (T := F_1) (N := 9) (ref := "PurseHouse$Kiosk") hx hb hts hown hok hP ui_1 rfl (by decide) (hts _ wd_105) (fun _ h => h) d_K_swapCoins_11 (fun v4 hP => ?_)
  refine lv_iload_n hx hb d_K_swapCoins_14 rfl (lv_at hl 1 rfl) ?_
  refine lv_dup2_11 hx hb d_K_swapCoins_15 rfl rfl ?_
  refine mr_al hx hb hok hP 1 rfl d_K_swapCoins_16 (fun v5 hP => ?_)
  refine lv_lload_n hx hb d_K_swapCoins_17 rfl (lv_at hl 2 rfl) ?_
  refine lv_ladd hx hb d_K_swapCoins_18 ?_
  refine mr_sl hx hb hok hP 1 rfl d_K_swapCoins_19 (fun M6 H locs hP hok => ?_)
  refine lv_aload_n hx hb d_K_swapCoins_20 rfl (lv_at hl 0 rfl) ?_
  refine mr_gr (C := "PurseHouse$Kiosk") (T := F_1) (N := 9) (ref := "PurseHouse$Kiosk") hx hb hts hown hok hP ui_1 rfl (by decide) (hts _ wd_105) (fun _ h => h) d_K_swapCoins_21 (fun v7 hP => ?_)
  refine lv_iload hx hb d_K_swapCoins_24 (lv_at hl 3 rfl) ?_
  refine lv_dup2_11 hx hb d_K_swapCoins_26 rfl rfl ?_
  refine mr_al hx hb hok hP 1 rfl d_K_swapCoins_27 (fun v8 hP => ?_)
  refine lv_lload hx hb d_K_swapCoins_28 (lv_at hl 4 rfl) ?_
  refine lv_lsub hx hb d_K_swapCoins_30 ?_
  refine mr_sl hx hb hok hP 1 rfl d_K_swapCoins_31 (fun M9 H locs hP hok => ?_)
  refine lv_aload_n hx hb d_K_swapCoins_32 rfl (lv_at hl 0 rfl) ?_
  refine mr_gr (C := "PurseHouse$Kiosk") (T := F_1) (N := 9) (ref := "PurseHouse$Kiosk") hx hb hts hown hok hP ui_1 rfl (by decide) (hts _ wd_103) (fun _ h => h) d_K_swapCoins_33 (fun v10 hP => ?_)
  refine lv_iload hx hb d_K_swapCoins_36 (lv_at hl 3 rfl) ?_
  refine lv_dup2_11 hx hb d_K_swapCoins_38 rfl rfl ?_
  refine mr_al hx hb hok hP 1 rfl d_K_swapCoins_39 (fun v11 hP => ?_)
  refine lv_lload hx hb d_K_swapCoins_40 (lv_at hl 4 rfl) ?_
  refine lv_ladd hx hb d_K_swapCoins_42 ?_
  refine mr_sl hx hb hok hP 1 rfl d_K_swapCoins_43 (fun M12 H locs hP hok => ?_)
  refine lv_aload_n hx hb d_K_swapCoins_44 rfl (lv_at hl 0 rfl) ?_
  refine lv_dup hx hb d_K_swapCoins_45 rfl ?_
  refine mr_gi (C := "PurseHouse$Kiosk") (T := F_1) (N := 9) (ref := "PurseHouse$Kiosk") hx hb hts hown hok hP ui_1 rfl (by decide) (hts _ wd_108) (fun _ h => h) d_K_swapCoins_46 (fun v13 hP => ?_)
  refine lv_iconst (v := 1) hx hb d_K_swapCoins_49 (by decide) ?_
  refine lv_iadd hx hb d_K_swapCoins_50 ?_
  refine mr_pt (C := "PurseHouse$Kiosk") (T := F_1) (N := 9) (ref := "PurseHouse$Kiosk") (ty := .int) hx hb hts hown hok hP ui_1 ty_1 th_1 tn_1 rfl (by decide) (hts _ wd_108) (fun _ h => h) rfl (by decide +kernel) rfl rfl d_K_swapCoins_51 (fun M14 H locs hP hok => ?_)
  exact mo_vret hx hb hr hlocks hok hP d_K_swapCoins_54

abbrev b_K_giveCoins : ByteArray := prog_2_method_6_code
def y_K_giveCoins : MethodName := ⟨"PurseHouse$Kiosk", "giveCoins", "(II)V"⟩
def ws_K_giveCoins : List Cond := .code y_K_giveCoins b_K_giveCoins 3 (Option.none : Option Jvm.ClassFile.FieldType) :: lw_g
theorem d_K_giveCoins_0 : decode b_K_giveCoins 0 = .ok (.aload_n 0, 1) := by decide +kernel
theorem d_K_giveCoins_1 : decode b_K_giveCoins 1 = .ok (.getfield 9, 3) := by decide +kernel
theorem d_K_giveCoins_4 : decode b_K_giveCoins 4 = .ok (.iload_n 1, 1) := by decide +kernel
theorem d_K_giveCoins_5 : decode b_K_giveCoins 5 = .ok (.dup2, 1) := by decide +kernel
theorem d_K_giveCoins_6 : decode b_K_giveCoins 6 = .ok (.laload, 1) := by decide +kernel
theorem d_K_giveCoins_7 : decode b_K_giveCoins 7 = .ok (.iload_n 2, 1) := by decide +kernel
theorem d_K_giveCoins_8 : decode b_K_giveCoins 8 = .ok (.i2l, 1) := by decide +kernel
theorem d_K_giveCoins_9 : decode b_K_giveCoins 9 = .ok (.lsub, 1) := by decide +kernel
theorem d_K_giveCoins_10 : decode b_K_giveCoins 10 = .ok (.lastore, 1) := by decide +kernel
theorem d_K_giveCoins_11 : decode b_K_giveCoins 11 = .ok (.aload_n 0, 1) := by decide +kernel
theorem d_K_giveCoins_12 : decode b_K_giveCoins 12 = .ok (.dup, 1) := by decide +kernel
theorem d_K_giveCoins_13 : decode b_K_giveCoins 13 = .ok (.getfield 21, 3) := by decide +kernel
theorem d_K_giveCoins_16 : decode b_K_giveCoins 16 = .ok (.iconst 1, 1) := by decide +kernel
theorem d_K_giveCoins_17 : decode b_K_giveCoins 17 = .ok (.iadd, 1) := by decide +kernel
theorem d_K_giveCoins_18 : decode b_K_giveCoins 18 = .ok (.putfield 21, 3) := by decide +kernel
theorem d_K_giveCoins_21 : decode b_K_giveCoins 21 = .ok (.return_, 1) := by decide +kernel
def pp_K_giveCoins (g : Nat → ClassId) (e0 : Nat) (K : mo_M → Prop) (M : mo_M) (x0 : Nat) (x1 : Int32) (x2 : Int32) : Prop := mp_gr M x0 1 0 (fun v1 => mp_al (g 1) M v1 x1 (fun v2 => mp_sl (g 1) M v1 x1 ((v2 - x2.toInt64)) (fun M3 => mp_gi M3 x0 1 3 (fun v4 => mp_pt M3 x0 1 3 (.int ((v4 + ((1 : Int32))))) (fun M5 => K M5)))))
set_option maxHeartbeats 4000000 in
set_option maxRecDepth 100000 in
theorem cc_K_giveCoins (l : Launch) (L0 : Nat) (D : va_G) {g : Nat → ClassId} {e0 : Nat} {K : mo_M → Prop} {M : mo_M} {x0 : Nat} {x1 : Int32} {x2 : Int32} (hP : pp_K_giveCoins g e0 K M x0 x1 x2) : Met l y_K_giveCoins ws_K_giveCoins (mo_R 0 0 0 0) (va_Pc [.ref x0, .int x1, .int x2] (fun U => mo_B L0 e0 D vwCl (mo_T g) M U)) (mo_Qv L0 e0 D vwCl (mo_T g) K) 0 0 (fun q => L0 ≤ q) := by
  refine Met.ofW (cc := b_K_giveCoins) (maxL := 3) (ret := (Option.none : Option Jvm.ClassFile.FieldType)) (by decide) rfl ?_
  intro p e s m args below meth c s₁ B hml hv
  obtain ⟨hv1, hB0⟩ := hv
  have hx := B.exec
  have hb := B.bytes
  have hr := B.returns
  have hts : ∀ w ∈ lw_g, w.before args s = true := fun w hw => atoms_spec (ws := ws_K_giveCoins) B.pre w (List.mem_cons_of_mem _ hw)
  have hown : s.vm.findClass "PurseHouse$Kiosk" = some m.cls := findClass_of_methodNamed B.named
  have hlocks := B.notSynchronized
  have hok : mo_ok L0 e0 D vwCl (mo_T g) s M s.heap [] := ⟨hB0.1, hB0.2.1, hB0.2.2, va_S.rf⟩
  have hl := lv_entry ([.ref x0, .int x1, .int x2]) (n := 3) (Nat.le_of_ble_eq_true rfl)
  rw [hv1, lg_entry_eq]
  rw [← hv1]
  generalize (lg_sl [.ref x0, .int x1, .int x2] ++ List.replicate (3 - (lg_sl [.ref x0, .int x1, .int x2]).length) Slot.unset).toArray = ls at hl ⊢
  have hl : lv_has ls 3 [(0, .ref x0), (1, .int x1), (2, .int x2)] := hl
  unfold pp_K_giveCoins at hP
  refine lv_aload_n hx hb d_K_giveCoins_0 rfl (lv_at hl 0 rfl) ?_
  refine mr_gr (C := "PurseHouse$Kiosk") (T := F_1) (N := 9) (ref := "PurseHouse$Kiosk") hx hb hts hown hok hP ui_1 rfl (by decide) (hts _ wd_103) (fun _ h => h) d_K_giveCoins_1 (fun v1 hP => ?_)
  refine lv_iload_n hx hb d_K_giveCoins_4 rfl (lv_at hl 1 rfl) ?_
  refine lv_dup2_11 hx hb d_K_giveCoins_5 rfl rfl ?_
  refine mr_al hx hb hok hP 1 rfl d_K_giveCoins_6 (fun v2 hP => ?_)
  refine lv_iload_n hx hb d_K_giveCoins_7 rfl (lv_at hl 2 rfl) ?_
  refine lv_i2l hx hb d_K_giveCoins_8 rfl ?_
  refine lv_lsub hx hb d_K_giveCoins_9 ?_
  refine mr_sl hx hb hok hP 1 rfl d_K_giveCoins_10 (fun M3 H locs hP hok => ?_)
  refine lv_aload_n hx hb d_K_giveCoins_11 rfl (lv_at hl 0 rfl) ?_
  refine lv_dup hx hb d_K_giveCoins_12 rfl ?_
  refine mr_gi (C := "PurseHouse$Kiosk") (T := F_1) (N := 9) (ref := "PurseHouse$Kiosk") hx hb hts hown hok hP ui_1 rfl (by decide) (hts _ wd_108) (fun _ h => h) d_K_giveCoins_13 (fun v4 hP => ?_)
  refine lv_iconst (v := 1) hx hb d_K_giveCoins_16 (by decide) ?_
  refine lv_iadd hx hb d_K_giveCoins_17 ?_
  refine mr_pt (C := "PurseHouse$Kiosk") (T := F_1) (N := 9) (ref := "PurseHouse$Kiosk") (ty := .int) hx hb hts hown hok hP ui_1 ty_1 th_1 tn_1 rfl (by decide) (hts _ wd_108) (fun _ h => h) rfl (by decide +kernel) rfl rfl d_K_giveCoins_18 (fun M5 H locs hP hok => ?_)
  exact mo_vret hx hb hr hlocks hok hP d_K_giveCoins_21

abbrev b_K_receiveCoins : ByteArray := prog_2_method_7_code
def y_K_receiveCoins : MethodName := ⟨"PurseHouse$Kiosk", "receiveCoins", "(II)V"⟩
def ws_K_receiveCoins : List Cond := .code y_K_receiveCoins b_K_receiveCoins 3 (Option.none : Option Jvm.ClassFile.FieldType) :: lw_g
theorem d_K_receiveCoins_0 : decode b_K_receiveCoins 0 = .ok (.aload_n 0, 1) := by decide +kernel
theorem d_K_receiveCoins_1 : decode b_K_receiveCoins 1 = .ok (.getfield 9, 3) := by decide +kernel
theorem d_K_receiveCoins_4 : decode b_K_receiveCoins 4 = .ok (.iload_n 1, 1) := by decide +kernel
theorem d_K_receiveCoins_5 : decode b_K_receiveCoins 5 = .ok (.dup2, 1) := by decide +kernel
theorem d_K_receiveCoins_6 : decode b_K_receiveCoins 6 = .ok (.laload, 1) := by decide +kernel
theorem d_K_receiveCoins_7 : decode b_K_receiveCoins 7 = .ok (.iload_n 2, 1) := by decide +kernel
theorem d_K_receiveCoins_8 : decode b_K_receiveCoins 8 = .ok (.i2l, 1) := by decide +kernel
theorem d_K_receiveCoins_9 : decode b_K_receiveCoins 9 = .ok (.ladd, 1) := by decide +kernel
theorem d_K_receiveCoins_10 : decode b_K_receiveCoins 10 = .ok (.lastore, 1) := by decide +kernel
theorem d_K_receiveCoins_11 : decode b_K_receiveCoins 11 = .ok (.aload_n 0, 1) := by decide +kernel
theorem d_K_receiveCoins_12 : decode b_K_receiveCoins 12 = .ok (.dup, 1) := by decide +kernel
theorem d_K_receiveCoins_13 : decode b_K_receiveCoins 13 = .ok (.getfield 21, 3) := by decide +kernel
theorem d_K_receiveCoins_16 : decode b_K_receiveCoins 16 = .ok (.iconst 1, 1) := by decide +kernel
theorem d_K_receiveCoins_17 : decode b_K_receiveCoins 17 = .ok (.iadd, 1) := by decide +kernel
theorem d_K_receiveCoins_18 : decode b_K_receiveCoins 18 = .ok (.putfield 21, 3) := by decide +kernel
theorem d_K_receiveCoins_21 : decode b_K_receiveCoins 21 = .ok (.return_, 1) := by decide +kernel
def pp_K_receiveCoins (g : Nat → ClassId) (e0 : Nat) (K : mo_M → Prop) (M : mo_M) (x0 : Nat) (x1 : Int32) (x2 : Int32) : Prop := mp_gr M x0 1 0 (fun v1 => mp_al (g 1) M v1 x1 (fun v2 => mp_sl (g 1) M v1 x1 ((v2 + x2.toInt64)) (fun M3 => mp_gi M3 x0 1 3 (fun v4 => mp_pt M3 x0 1 3 (.int ((v4 + ((1 : Int32))))) (fun M5 => K M5)))))
set_option maxHeartbeats 4000000 in
set_option maxRecDepth 100000 in
theorem cc_K_receiveCoins (l : Launch) (L0 : Nat) (D : va_G) {g : Nat → ClassId} {e0 : Nat} {K : mo_M → Prop} {M : mo_M} {x0 : Nat} {x1 : Int32} {x2 : Int32} (hP : pp_K_receiveCoins g e0 K M x0 x1 x2) : Met l y_K_receiveCoins ws_K_receiveCoins (mo_R 0 0 0 0) (va_Pc [.ref x0, .int x1, .int x2] (fun U => mo_B L0 e0 D vwCl (mo_T g) M U)) (mo_Qv L0 e0 D vwCl (mo_T g) K) 0 0 (fun q => L0 ≤ q) := by
  refine Met.ofW (cc := b_K_receiveCoins) (maxL := 3) (ret := (Option.none : Option Jvm.ClassFile.FieldType)) (by decide) rfl ?_
  intro p e s m args below meth c s₁ B hml hv
  obtain ⟨hv1, hB0⟩ := hv
  have hx := B.exec
  have hb := B.bytes
  have hr := B.returns
  have hts : ∀ w ∈ lw_g, w.before args s = true := fun w hw => atoms_spec (ws := ws_K_receiveCoins) B.pre w (List.mem_cons_of_mem _ hw)
  have hown : s.vm.findClass "PurseHouse$Kiosk" = some m.cls := findClass_of_methodNamed B.named
  have hlocks := B.notSynchronized
  have hok : mo_ok L0 e0 D vwCl (mo_T g) s M s.heap [] := ⟨hB0.1, hB0.2.1, hB0.2.2, va_S.rf⟩
  have hl := lv_entry ([.ref x0, .int x1, .int x2]) (n := 3) (Nat.le_of_ble_eq_true rfl)
  rw [hv1, lg_entry_eq]
  rw [← hv1]
  generalize (lg_sl [.ref x0, .int x1, .int x2] ++ List.replicate (3 - (lg_sl [.ref x0, .int x1, .int x2]).length) Slot.unset).toArray = ls at hl ⊢
  have hl : lv_has ls 3 [(0, .ref x0), (1, .int x1), (2, .int x2)] := hl
  unfold pp_K_receiveCoins at hP
  refine lv_aload_n hx hb d_K_receiveCoins_0 rfl (lv_at hl 0 rfl) ?_
  refine mr_gr (C := "PurseHouse$Kiosk") (T := F_1) (N := 9) (ref := "PurseHouse$Kiosk") hx hb hts hown hok hP ui_1 rfl (by decide) (hts _ wd_103) (fun _ h => h) d_K_receiveCoins_1 (fun v1 hP => ?_)
  refine lv_iload_n hx hb d_K_receiveCoins_4 rfl (lv_at hl 1 rfl) ?_
  refine lv_dup2_11 hx hb d_K_receiveCoins_5 rfl rfl ?_
  refine mr_al hx hb hok hP 1 rfl d_K_receiveCoins_6 (fun v2 hP => ?_)
  refine lv_iload_n hx hb d_K_receiveCoins_7 rfl (lv_at hl 2 rfl) ?_
  refine lv_i2l hx hb d_K_receiveCoins_8 rfl ?_
  refine lv_ladd hx hb d_K_receiveCoins_9 ?_
  refine mr_sl hx hb hok hP 1 rfl d_K_receiveCoins_10 (fun M3 H locs hP hok => ?_)
  refine lv_aload_n hx hb d_K_receiveCoins_11 rfl (lv_at hl 0 rfl) ?_
  refine lv_dup hx hb d_K_receiveCoins_12 rfl ?_
  refine mr_gi (C := "PurseHouse$Kiosk") (T := F_1) (N := 9) (ref := "PurseHouse$Kiosk") hx hb hts hown hok hP ui_1 rfl (by decide) (hts _ wd_108) (fun _ h => h) d_K_receiveCoins_13 (fun v4 hP => ?_)
  refine lv_iconst (v := 1) hx hb d_K_receiveCoins_16 (by decide) ?_
  refine lv_iadd hx hb d_K_receiveCoins_17 ?_
  refine mr_pt (C := "PurseHouse$Kiosk") (T := F_1) (N := 9) (ref := "PurseHouse$Kiosk") (ty := .int) hx hb hts hown hok hP ui_1 ty_1 th_1 tn_1 rfl (by decide) (hts _ wd_108) (fun _ h => h) rfl (by decide +kernel) rfl rfl d_K_receiveCoins_18 (fun M5 H locs hP hok => ?_)
  exact mo_vret hx hb hr hlocks hok hP d_K_receiveCoins_21

abbrev b_H_allKiosksRecorded : ByteArray := prog_1_method_32_code
def y_H_allKiosksRecorded : MethodName := ⟨"PurseHouse", "allKiosksRecorded", "(I)Z"⟩
def ws_H_allKiosksRecorded : List Cond := .code y_H_allKiosksRecorded b_H_allKiosksRecorded 3 (Option.some Jvm.ClassFile.FieldType.boolean) :: lw_g
theorem d_H_allKiosksRecorded_0 : decode b_H_allKiosksRecorded 0 = .ok (.iconst 0, 1) := by decide +kernel
theorem d_H_allKiosksRecorded_1 : decode b_H_allKiosksRecorded 1 = .ok (.istore_n 2, 1) := by decide +kernel
theorem d_H_allKiosksRecorded_2 : decode b_H_allKiosksRecorded 2 = .ok (.iload_n 2, 1) := by decide +kernel
theorem d_H_allKiosksRecorded_3 : decode b_H_allKiosksRecorded 3 = .ok (.aload_n 0, 1) := by decide +kernel
theorem d_H_allKiosksRecorded_4 : decode b_H_allKiosksRecorded 4 = .ok (.getfield 39, 3) := by decide +kernel
theorem d_H_allKiosksRecorded_7 : decode b_H_allKiosksRecorded 7 = .ok (.arraylength, 1) := by decide +kernel
theorem d_H_allKiosksRecorded_8 : decode b_H_allKiosksRecorded 8 = .ok (.if_icmp .ge 24, 3) := by decide +kernel
theorem d_H_allKiosksRecorded_11 : decode b_H_allKiosksRecorded 11 = .ok (.aload_n 0, 1) := by decide +kernel
theorem d_H_allKiosksRecorded_12 : decode b_H_allKiosksRecorded 12 = .ok (.getfield 39, 3) := by decide +kernel
theorem d_H_allKiosksRecorded_15 : decode b_H_allKiosksRecorded 15 = .ok (.iload_n 2, 1) := by decide +kernel
theorem d_H_allKiosksRecorded_16 : decode b_H_allKiosksRecorded 16 = .ok (.aaload, 1) := by decide +kernel
theorem d_H_allKiosksRecorded_17 : decode b_H_allKiosksRecorded 17 = .ok (.iload_n 1, 1) := by decide +kernel
theorem d_H_allKiosksRecorded_18 : decode b_H_allKiosksRecorded 18 = .ok (.invokevirtual 167, 3) := by decide +kernel
theorem d_H_allKiosksRecorded_21 : decode b_H_allKiosksRecorded 21 = .ok (.ifCond .ne 5, 3) := by decide +kernel
theorem d_H_allKiosksRecorded_24 : decode b_H_allKiosksRecorded 24 = .ok (.iconst 0, 1) := by decide +kernel
theorem d_H_allKiosksRecorded_25 : decode b_H_allKiosksRecorded 25 = .ok (.ireturn, 1) := by decide +kernel
theorem d_H_allKiosksRecorded_26 : decode b_H_allKiosksRecorded 26 = .ok (.iinc 2 1, 3) := by decide +kernel
theorem d_H_allKiosksRecorded_29 : decode b_H_allKiosksRecorded 29 = .ok (.goto (-27), 3) := by decide +kernel
theorem d_H_allKiosksRecorded_32 : decode b_H_allKiosksRecorded 32 = .ok (.iconst 1, 1) := by decide +kernel
theorem d_H_allKiosksRecorded_33 : decode b_H_allKiosksRecorded 33 = .ok (.ireturn, 1) := by decide +kernel
def pp_H_allKiosksRecorded_b2 (g : Nat → ClassId) (e0 : Nat) (K : Int32 → mo_M → Prop) : Nat → mo_M → Nat → Int32 → Int32 → Prop
  | 0, _, _, _, _ => False
  | n + 1, M, x0, x1, x2 => mp_gr M x0 0 0 (fun v2 => mp_ln (g 3) M v2 (fun v3 => ((v3 ≤ x2 → (narrow .boolean (.int ((1 : Int32))) = .int ((1 : Int32)) ∧ K ((1 : Int32)) M)) ∧ (¬ (v3 ≤ x2) → mp_gr M x0 0 0 (fun v4 => mp_ar (g 3) M v4 x2 (fun v5 => (mp_is M v5 1 ∧ pp_K_hasMark g e0 (fun r7 M6 => ((r7 = 0 → (narrow .boolean (.int ((0 : Int32))) = .int ((0 : Int32)) ∧ K ((0 : Int32)) M6)) ∧ (¬ (r7 = 0) → pp_H_allKiosksRecorded_b2 g e0 K n M6 x0 x1 (x2 + 1)))) M v5 x1)))))))
def pp_H_allKiosksRecorded (g : Nat → ClassId) (e0 : Nat) (K : Int32 → mo_M → Prop) (M : mo_M) (x0 : Nat) (x1 : Int32) : Prop := ∃ n : Nat, pp_H_allKiosksRecorded_b2 g e0 K n M x0 x1 ((0 : Int32))
set_option maxHeartbeats 4000000 in
set_option maxRecDepth 100000 in
theorem cc_H_allKiosksRecorded (l : Launch) (L0 : Nat) (D : va_G) {g : Nat → ClassId} {e0 : Nat} {K : Int32 → mo_M → Prop} {M : mo_M} {x0 : Nat} {x1 : Int32} (hP : pp_H_allKiosksRecorded g e0 K M x0 x1) : Met l y_H_allKiosksRecorded ws_H_allKiosksRecorded (mo_R 2 0 0 42) (va_Pc [.ref x0, .int x1] (fun U => mo_B L0 e0 D vwCl (mo_T g) M U)) (mo_Qi L0 e0 D vwCl (mo_T g) K) 0 0 (fun q => L0 ≤ q) := by
  refine Met.ofW (cc := b_H_allKiosksRecorded) (maxL := 3) (ret := (Option.some Jvm.ClassFile.FieldType.boolean)) (by decide) rfl ?_
  intro p e s m args below meth c s₁ B hml hv
  obtain ⟨hv1, hB0⟩ := hv
  have hx := B.exec
  have hb := B.bytes
  have hr := B.returns
  have hts : ∀ w ∈ lw_g, w.before args s = true := fun w hw => atoms_spec (ws := ws_H_allKiosksRecorded) B.pre w (List.mem_cons_of_mem _ hw)
  have hown : s.vm.findClass "PurseHouse" = some m.cls := findClass_of_methodNamed B.named
  have hlocks := B.notSynchronized
  have w_2 : ∀ (n : Nat) (M : mo_M) (x0 : Nat) (x1 : Int32) (x2 : Int32) (H : Heap) (locs : List Loc) (ls : Array Slot), pp_H_allKiosksRecorded_b2 g e0 K n M x0 x1 x2 → mo_ok L0 e0 D vwCl (mo_T g) s M H locs → lv_has ls 3 [(0, .ref x0), (1, .int x1), (2, .int x2)] → W p l e (headSpec ws_H_allKiosksRecorded (mo_R 2 0 0 42)).room s m args below meth c H locs 0 0 (mo_Z below (mo_Qi L0 e0 D vwCl (mo_T g) K) args s 0 0 L0) (F0 m 2 ls []) := by
    intro n
    induction n with
    | zero => intro M x0 x1 x2 H locs ls hP; exact hP.elim
    | succ n ih =>
      intro M x0 x1 x2 H locs ls hP hok hl
      unfold pp_H_allKiosksRecorded_b2 at hP
      refine lv_iload_n hx hb d_H_allKiosksRecorded_2 rfl (lv_at hl 2 rfl) ?_
      refine lv_aload_n hx hb d_H_allKiosksRecorded_3 rfl (lv_at hl 0 rfl) ?_
      refine mr_gr (C := "PurseHouse") (T := F_0) (N := 5) (ref := "PurseHouse") hx hb hts hown hok hP ui_0 rfl (by decide) (hts _ wd_141) (fun _ h => h) d_H_allKiosksRecorded_4 (fun v2 hP => ?_)
      refine mr_ln hx hb hok hP 3 rfl d_H_allKiosksRecorded_7 (fun v3 hP => ?_)
      refine lv_icmp_ge (tgt := 32) hx hb d_H_allKiosksRecorded_8 (by decide) (fun hc => ?_) (fun hc => ?_)
      · replace hP := hP.1 hc
        refine lv_iconst (v := 1) hx hb d_H_allKiosksRecorded_32 (by decide) ?_
        exact mo_zret hx hb hr hlocks hok hP d_H_allKiosksRecorded_33
      · replace hP := hP.2 hc
        refine lv_aload_n hx hb d_H_allKiosksRecorded_11 rfl (lv_at hl 0 rfl) ?_
        refine mr_gr (C := "PurseHouse") (T := F_0) (N := 5) (ref := "PurseHouse") hx hb hts hown hok hP ui_0 rfl (by decide) (hts _ wd_141) (fun _ h => h) d_H_allKiosksRecorded_12 (fun v4 hP => ?_)
        refine lv_iload_n hx hb d_H_allKiosksRecorded_15 rfl (lv_at hl 2 rfl) ?_
        refine mr_ar hx hb hok hP 3 rfl rfl d_H_allKiosksRecorded_16 (fun v5 hP => ?_)
        refine lv_iload_n hx hb d_H_allKiosksRecorded_17 rfl (lv_at hl 1 rfl) ?_
        obtain ⟨⟨fs9, he9⟩, hP⟩ := hP
        refine mo_calli hok (va_runV (As := [.int x1]) (rest := []) ⟨hx, hb, hml, hown, hts⟩ (cc_K_hasMark l L0 D hP) ⟨(callB_of 1 hts (lw_gi wd_395) rfl rfl rfl (hts _ wd_38) (hts _ wd_392) (by decide +kernel) ⟨by decide, by decide⟩), hts _ wd_393, hts _ wd_394⟩ (mo_preV hok he9 rfl [.int x1]) rfl rfl hl.1 rfl (lv_room (Nat.le_of_ble_eq_true rfl)) d_H_allKiosksRecorded_18 ⟨Nat.zero_le _, Nat.zero_le _⟩) (fun r7 M6 H locs hP hok => ?_)
        refine lv_if_ne (tgt := 26) hx hb d_H_allKiosksRecorded_21 (by decide) (fun hc => ?_) (fun hc => ?_)
        · replace hP := hP.2 hc
          refine lv_iinc (k := 2) (v := x2 + 1) (lv' := [(2, .int (x2 + 1)), (0, .ref x0), (1, .int x1)]) hx hb d_H_allKiosksRecorded_26 hl rfl rfl (by decide) rfl (fun ls hl => ?_)
          refine lv_goto (tgt := 2) hx hb d_H_allKiosksRecorded_29 (by decide) ?_
          exact ih _ _ _ _ _ _ _ hP hok (lv_sub hl [1, 2, 0] rfl)
        · replace hP := hP.1 hc
          refine lv_iconst (v := 0) hx hb d_H_allKiosksRecorded_24 (by decide) ?_
          exact mo_zret hx hb hr hlocks hok hP d_H_allKiosksRecorded_25
  have hok : mo_ok L0 e0 D vwCl (mo_T g) s M s.heap [] := ⟨hB0.1, hB0.2.1, hB0.2.2, va_S.rf⟩
  have hl := lv_entry ([.ref x0, .int x1]) (n := 3) (Nat.le_of_ble_eq_true rfl)
  rw [hv1, lg_entry_eq]
  rw [← hv1]
  generalize (lg_sl [.ref x0, .int x1] ++ List.replicate (3 - (lg_sl [.ref x0, .int x1]).length) Slot.unset).toArray = ls at hl ⊢
  have hl : lv_has ls 3 [(0, .ref x0), (1, .int x1)] := hl
  unfold pp_H_allKiosksRecorded at hP
  refine lv_iconst (v := 0) hx hb d_H_allKiosksRecorded_0 (by decide) ?_
  refine lv_istore_n (lv' := [(2, .int ((0 : Int32))), (0, .ref x0), (1, .int x1)]) hx hb d_H_allKiosksRecorded_1 rfl hl (by decide) rfl (fun ls hl => ?_)
  obtain ⟨n1, hP⟩ := hP
  exact w_2  n1 _ _ _ _ _ _ _ hP hok (lv_sub hl [1, 2, 0] rfl)
