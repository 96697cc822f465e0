abbrev b_J_floorDiv : ByteArray := prog_12_method_49_code
def y_J_floorDiv : MethodName := ⟨"java/lang/Math", "floorDiv", "(JJ)J"⟩
def ws_J_floorDiv : List Cond := .code y_J_floorDiv b_J_floorDiv 6 (Option.some Jvm.ClassFile.FieldType.long) :: lw_g
theorem d_J_floorDiv_0 : decode b_J_floorDiv 0 = .ok (.lload_n 0, 1) := by decide +kernel
theorem d_J_floorDiv_1 : decode b_J_floorDiv 1 = .ok (.lload_n 2, 1) := by decide +kernel
theorem d_J_floorDiv_2 : decode b_J_floorDiv 2 = .ok (.ldiv, 1) := by decide +kernel
theorem d_J_floorDiv_3 : decode b_J_floorDiv 3 = .ok (.lstore 4, 2) := by decide +kernel
theorem d_J_floorDiv_5 : decode b_J_floorDiv 5 = .ok (.lload_n 0, 1) := by decide +kernel
theorem d_J_floorDiv_6 : decode b_J_floorDiv 6 = .ok (.lload_n 2, 1) := by decide +kernel
theorem d_J_floorDiv_7 : decode b_J_floorDiv 7 = .ok (.lxor, 1) := by decide +kernel
theorem d_J_floorDiv_8 : decode b_J_floorDiv 8 = .ok (.lconst 0, 1) := by decide +kernel
theorem d_J_floorDiv_9 : decode b_J_floorDiv 9 = .ok (.lcmp, 1) := by decide +kernel
theorem d_J_floorDiv_10 : decode b_J_floorDiv 10 = .ok (.ifCond .ge 17, 3) := by decide +kernel
theorem d_J_floorDiv_13 : decode b_J_floorDiv 13 = .ok (.lload 4, 2) := by decide +kernel
theorem d_J_floorDiv_15 : decode b_J_floorDiv 15 = .ok (.lload_n 2, 1) := by decide +kernel
theorem d_J_floorDiv_16 : decode b_J_floorDiv 16 = .ok (.lmul, 1) := by decide +kernel
theorem d_J_floorDiv_17 : decode b_J_floorDiv 17 = .ok (.lload_n 0, 1) := by decide +kernel
theorem d_J_floorDiv_18 : decode b_J_floorDiv 18 = .ok (.lcmp, 1) := by decide +kernel
theorem d_J_floorDiv_19 : decode b_J_floorDiv 19 = .ok (.ifCond .eq 8, 3) := by decide +kernel
theorem d_J_floorDiv_22 : decode b_J_floorDiv 22 = .ok (.lload 4, 2) := by decide +kernel
theorem d_J_floorDiv_24 : decode b_J_floorDiv 24 = .ok (.lconst 1, 1) := by decide +kernel
theorem d_J_floorDiv_25 : decode b_J_floorDiv 25 = .ok (.lsub, 1) := by decide +kernel
theorem d_J_floorDiv_26 : decode b_J_floorDiv 26 = .ok (.lreturn, 1) := by decide +kernel
theorem d_J_floorDiv_27 : decode b_J_floorDiv 27 = .ok (.lload 4, 2) := by decide +kernel
theorem d_J_floorDiv_29 : decode b_J_floorDiv 29 = .ok (.lreturn, 1) := by decide +kernel
def pp_J_floorDiv (g : Nat → ClassId) (e0 : Nat → Nat) (K : Int64 → mo_M → Prop) (M : mo_M) (x0 : Int64) (x2 : Int64) : Prop := (¬ x2 = 0 ∧ ((0 ≤ (lg_cmp ((x0 ^^^ x2)) ((0 : Int64))) → K ((x0 / x2)) M) ∧ (¬ (0 ≤ (lg_cmp ((x0 ^^^ x2)) ((0 : Int64)))) → (((lg_cmp ((((x0 / x2)) * x2)) x0) = 0 → K ((x0 / x2)) M) ∧ (¬ ((lg_cmp ((((x0 / x2)) * x2)) x0) = 0) → K ((((x0 / x2)) - ((1 : Int64)))) M)))))
set_option maxHeartbeats 4000000 in
set_option maxRecDepth 100000 in
theorem cc_J_floorDiv (l : Launch) (L0 : Nat) (D : va_G) {g : Nat → ClassId} {e0 : Nat → Nat} {K : Int64 → mo_M → Prop} {M : mo_M} {x0 : Int64} {x2 : Int64} (hP : pp_J_floorDiv g e0 K M x0 x2) : Met l y_J_floorDiv ws_J_floorDiv (mo_R 0 0 0 0) (va_Pc [.long x0, .long x2] (fun U => mo_B L0 e0 D vwCl (mo_T g) M U)) (mo_Ql L0 e0 D vwCl (mo_T g) K) 0 0 (fun q => L0 ≤ q) := by
  refine va_MetF (cc := b_J_floorDiv) (maxL := 6) (ret := (Option.some Jvm.ClassFile.FieldType.long)) (by decide +kernel) rfl ?_
  intro p e s m args below meth c s₁ B hml hv
  obtain ⟨hv1, hB0⟩ := hv
  have hx := B.exec
  have hb := B.bytes
  have hr := B.returns
  have hts : ∀ w ∈ lw_g, w.before args s = true := fun w hw => atoms_spec (ws := ws_J_floorDiv) B.pre w (List.mem_cons_of_mem _ hw)
  have hown : s.vm.findClass "java/lang/Math" = some m.cls := findClass_of_methodNamed B.named
  have hlocks := B.notSynchronized
  have hok : mo_ok L0 e0 D vwCl (mo_T g) s M s.heap [] := ⟨hB0.1, hB0.2.1, hB0.2.2, va_S.rf⟩
  have hl := lv_entry ([.long x0, .long x2]) (n := 6) (Nat.le_of_ble_eq_true rfl)
  rw [hv1, lg_entry_eq]
  rw [← hv1]
  generalize (lg_sl [.long x0, .long x2] ++ List.replicate (6 - (lg_sl [.long x0, .long x2]).length) Slot.unset).toArray = ls at hl ⊢
  have hl : lv_has ls 6 [(0, .long x0), (2, .long x2)] := hl
  unfold pp_J_floorDiv at hP
  refine lv_lload_n hx hb d_J_floorDiv_0 rfl (lv_at hl 0 rfl) ?_
  refine lv_lload_n hx hb d_J_floorDiv_1 rfl (lv_at hl 1 rfl) ?_
  obtain ⟨hne, hP⟩ := hP
  refine lv_ldiv hx hb d_J_floorDiv_2 hne ?_
  refine lv_lstore (lv' := [(4, .long ((x0 / x2))), (0, .long x0), (2, .long x2)]) hx hb d_J_floorDiv_3 hl (by decide) rfl (fun ls hl => ?_)
  refine lv_lload_n hx hb d_J_floorDiv_5 rfl (lv_at hl 1 rfl) ?_
  refine lv_lload_n hx hb d_J_floorDiv_6 rfl (lv_at hl 2 rfl) ?_
  refine lv_lxor hx hb d_J_floorDiv_7 ?_
  refine lv_lconst (v := 0) hx hb d_J_floorDiv_8 (by decide) ?_
  refine W.lcmp hx hb d_J_floorDiv_9 ?_
  refine lv_if_ge (tgt := 27) hx hb d_J_floorDiv_10 (by decide) (fun hc => ?_) (fun hc => ?_)
  · replace hP := hP.1 hc
    refine lv_lload hx hb d_J_floorDiv_27 (lv_at hl 0 rfl) ?_
    exact mo_lret hx hb hr hlocks hok hP d_J_floorDiv_29
  · replace hP := hP.2 hc
    refine lv_lload hx hb d_J_floorDiv_13 (lv_at hl 0 rfl) ?_
    refine lv_lload_n hx hb d_J_floorDiv_15 rfl (lv_at hl 2 rfl) ?_
    refine lv_lmul hx hb d_J_floorDiv_16 ?_
    refine lv_lload_n hx hb d_J_floorDiv_17 rfl (lv_at hl 1 rfl) ?_
    refine W.lcmp hx hb d_J_floorDiv_18 ?_
    refine lv_if_eq (tgt := 27) hx hb d_J_floorDiv_19 (by decide) (fun hc => ?_) (fun hc => ?_)
    · replace hP := hP.1 hc
      refine lv_lload hx hb d_J_floorDiv_27 (lv_at hl 0 rfl) ?_
      exact mo_lret hx hb hr hlocks hok hP d_J_floorDiv_29
    · replace hP := hP.2 hc
      refine lv_lload hx hb d_J_floorDiv_22 (lv_at hl 0 rfl) ?_
      refine lv_lconst (v := 1) hx hb d_J_floorDiv_24 (by decide) ?_
      refine lv_lsub hx hb d_J_floorDiv_25 ?_
      exact mo_lret hx hb hr hlocks hok hP d_J_floorDiv_26

abbrev b_H_isBetween : ByteArray := prog_1_method_23_code
def y_H_isBetween : MethodName := ⟨"PurseHouse", "isBetween", "(III)Z"⟩
def ws_H_isBetween : List Cond := .code y_H_isBetween b_H_isBetween 3 (Option.some Jvm.ClassFile.FieldType.boolean) :: lw_g
theorem d_H_isBetween_0 : decode b_H_isBetween 0 = .ok (.iload_n 0, 1) := by decide +kernel
theorem d_H_isBetween_1 : decode b_H_isBetween 1 = .ok (.iload_n 1, 1) := by decide +kernel
theorem d_H_isBetween_2 : decode b_H_isBetween 2 = .ok (.if_icmp .lt 12, 3) := by decide +kernel
theorem d_H_isBetween_5 : decode b_H_isBetween 5 = .ok (.iload_n 0, 1) := by decide +kernel
theorem d_H_isBetween_6 : decode b_H_isBetween 6 = .ok (.iload_n 2, 1) := by decide +kernel
theorem d_H_isBetween_7 : decode b_H_isBetween 7 = .ok (.if_icmp .gt 7, 3) := by decide +kernel
theorem d_H_isBetween_10 : decode b_H_isBetween 10 = .ok (.iconst 1, 1) := by decide +kernel
theorem d_H_isBetween_11 : decode b_H_isBetween 11 = .ok (.goto 4, 3) := by decide +kernel
theorem d_H_isBetween_14 : decode b_H_isBetween 14 = .ok (.iconst 0, 1) := by decide +kernel
theorem d_H_isBetween_15 : decode b_H_isBetween 15 = .ok (.ireturn, 1) := by decide +kernel
def pp_H_isBetween (g : Nat → ClassId) (e0 : Nat → Nat) (K : Int32 → mo_M → Prop) (M : mo_M) (x0 : Int32) (x1 : Int32) (x2 : Int32) : Prop := ((x0 < x1 → (narrow .boolean (.int ((0 : Int32))) = .int ((0 : Int32)) ∧ K ((0 : Int32)) M)) ∧ (¬ (x0 < x1) → ((x2 < x0 → (narrow .boolean (.int ((0 : Int32))) = .int ((0 : Int32)) ∧ K ((0 : Int32)) M)) ∧ (¬ (x2 < x0) → (narrow .boolean (.int ((1 : Int32))) = .int ((1 : Int32)) ∧ K ((1 : Int32)) M)))))
set_option maxHeartbeats 4000000 in
set_option maxRecDepth 100000 in
theorem cc_H_isBetween (l : Launch) (L0 : Nat) (D : va_G) {g : Nat → ClassId} {e0 : Nat → Nat} {K : Int32 → mo_M → Prop} {M : mo_M} {x0 : Int32} {x1 : Int32} {x2 : Int32} (hP : pp_H_isBetween g e0 K M x0 x1 x2) : Met l y_H_isBetween ws_H_isBetween (mo_R 0 0 0 0) (va_Pc [.int x0, .int x1, .int x2] (fun U => mo_B L0 e0 D vwCl (mo_T g) M U)) (mo_Qi L0 e0 D vwCl (mo_T g) K) 0 0 (fun q => L0 ≤ q) := by
  refine Met.ofW (cc := b_H_isBetween) (maxL := 3) (ret := (Option.some Jvm.ClassFile.FieldType.boolean)) (by decide +kernel) rfl ?_
  intro p e s m args below meth c s₁ B hml hv
  obtain ⟨hv1, hB0⟩ := hv
  have hx := B.exec
  have hb := B.bytes
  have hr := B.returns
  have hts : ∀ w ∈ lw_g, w.before args s = true := fun w hw => atoms_spec (ws := ws_H_isBetween) B.pre w (List.mem_cons_of_mem _ hw)
  have hown : s.vm.findClass "PurseHouse" = some m.cls := findClass_of_methodNamed B.named
  have hlocks := B.notSynchronized
  have hok : mo_ok L0 e0 D vwCl (mo_T g) s M s.heap [] := ⟨hB0.1, hB0.2.1, hB0.2.2, va_S.rf⟩
  have hl := lv_entry ([.int x0, .int x1, .int x2]) (n := 3) (Nat.le_of_ble_eq_true rfl)
  rw [hv1, lg_entry_eq]
  rw [← hv1]
  generalize (lg_sl [.int x0, .int x1, .int x2] ++ List.replicate (3 - (lg_sl [.int x0, .int x1, .int x2]).length) Slot.unset).toArray = ls at hl ⊢
  have hl : lv_has ls 3 [(0, .int x0), (1, .int x1), (2, .int x2)] := hl
  unfold pp_H_isBetween at hP
  refine lv_iload_n hx hb d_H_isBetween_0 rfl (lv_at hl 0 rfl) ?_
  refine lv_iload_n hx hb d_H_isBetween_1 rfl (lv_at hl 1 rfl) ?_
  refine lv_icmp_lt (tgt := 14) hx hb d_H_isBetween_2 (by decide) (fun hc => ?_) (fun hc => ?_)
  · replace hP := hP.1 hc
    refine lv_iconst (v := 0) hx hb d_H_isBetween_14 (by decide) ?_
    exact mo_zret hx hb hr hlocks hok hP d_H_isBetween_15
  · replace hP := hP.2 hc
    refine lv_iload_n hx hb d_H_isBetween_5 rfl (lv_at hl 0 rfl) ?_
    refine lv_iload_n hx hb d_H_isBetween_6 rfl (lv_at hl 2 rfl) ?_
    refine lv_icmp_gt (tgt := 14) hx hb d_H_isBetween_7 (by decide) (fun hc => ?_) (fun hc => ?_)
    · replace hP := hP.1 hc
      refine lv_iconst (v := 0) hx hb d_H_isBetween_14 (by decide) ?_
      exact mo_zret hx hb hr hlocks hok hP d_H_isBetween_15
    · replace hP := hP.2 hc
      refine lv_iconst (v := 1) hx hb d_H_isBetween_10 (by decide) ?_
      refine lv_goto (tgt := 15) hx hb d_H_isBetween_11 (by decide) ?_
      exact mo_zret hx hb hr hlocks hok hP d_H_isBetween_15

abbrev b_H_hasKiosk : ByteArray := prog_1_method_27_code
def y_H_hasKiosk : MethodName := ⟨"PurseHouse", "hasKiosk", "(I)Z"⟩
def ws_H_hasKiosk : List Cond := .code y_H_hasKiosk b_H_hasKiosk 2 (Option.some Jvm.ClassFile.FieldType.boolean) :: lw_g
theorem d_H_hasKiosk_0 : decode b_H_hasKiosk 0 = .ok (.iload_n 1, 1) := by decide +kernel
theorem d_H_hasKiosk_1 : decode b_H_hasKiosk 1 = .ok (.iconst 0, 1) := by decide +kernel
theorem d_H_hasKiosk_2 : decode b_H_hasKiosk 2 = .ok (.aload_n 0, 1) := by decide +kernel
theorem d_H_hasKiosk_3 : decode b_H_hasKiosk 3 = .ok (.getfield 39, 3) := by decide +kernel
theorem d_H_hasKiosk_6 : decode b_H_hasKiosk 6 = .ok (.arraylength, 1) := by decide +kernel
theorem d_H_hasKiosk_7 : decode b_H_hasKiosk 7 = .ok (.iconst 1, 1) := by decide +kernel
theorem d_H_hasKiosk_8 : decode b_H_hasKiosk 8 = .ok (.isub, 1) := by decide +kernel
theorem d_H_hasKiosk_9 : decode b_H_hasKiosk 9 = .ok (.invokestatic 65, 3) := by decide +kernel
theorem d_H_hasKiosk_12 : decode b_H_hasKiosk 12 = .ok (.ireturn, 1) := by decide +kernel
def pp_H_hasKiosk (g : Nat → ClassId) (e0 : Nat → Nat) (K : Int32 → mo_M → Prop) (M : mo_M) (x0 : Nat) (x1 : Int32) : Prop := mp_gr M x0 0 0 (fun v1 => mp_ln (g 3) M v1 (fun v2 => pp_H_isBetween g e0 (fun r4 M3 => (narrow .boolean (.int r4) = .int r4 ∧ K r4 M3)) M x1 ((0 : Int32)) ((v2 - ((1 : Int32))))))
set_option maxHeartbeats 4000000 in
set_option maxRecDepth 100000 in
theorem cc_H_hasKiosk (l : Launch) (L0 : Nat) (D : va_G) {g : Nat → ClassId} {e0 : Nat → Nat} {K : Int32 → mo_M → Prop} {M : mo_M} {x0 : Nat} {x1 : Int32} (hP : pp_H_hasKiosk g e0 K M x0 x1) : Met l y_H_hasKiosk ws_H_hasKiosk (mo_R 1 0 0 22) (va_Pc [.ref x0, .int x1] (fun U => mo_B L0 e0 D vwCl (mo_T g) M U)) (mo_Qi L0 e0 D vwCl (mo_T g) K) 0 0 (fun q => L0 ≤ q) := by
  refine Met.ofW (cc := b_H_hasKiosk) (maxL := 2) (ret := (Option.some Jvm.ClassFile.FieldType.boolean)) (by decide +kernel) rfl ?_
  intro p e s m args below meth c s₁ B hml hv
  obtain ⟨hv1, hB0⟩ := hv
  have hx := B.exec
  have hb := B.bytes
  have hr := B.returns
  have hts : ∀ w ∈ lw_g, w.before args s = true := fun w hw => atoms_spec (ws := ws_H_hasKiosk) B.pre w (List.mem_cons_of_mem _ hw)
  have hown : s.vm.findClass "PurseHouse" = some m.cls := findClass_of_methodNamed B.named
  have hlocks := B.notSynchronized
  have hok : mo_ok L0 e0 D vwCl (mo_T g) s M s.heap [] := ⟨hB0.1, hB0.2.1, hB0.2.2, va_S.rf⟩
  have hl := lv_entry ([.ref x0, .int x1]) (n := 2) (Nat.le_of_ble_eq_true rfl)
  rw [hv1, lg_entry_eq]
  rw [← hv1]
  generalize (lg_sl [.ref x0, .int x1] ++ List.replicate (2 - (lg_sl [.ref x0, .int x1]).length) Slot.unset).toArray = ls at hl ⊢
  have hl : lv_has ls 2 [(0, .ref x0), (1, .int x1)] := hl
  unfold pp_H_hasKiosk at hP
  refine lv_iload_n hx hb d_H_hasKiosk_0 rfl (lv_at hl 1 rfl) ?_
  refine lv_iconst (v := 0) hx hb d_H_hasKiosk_1 (by decide) ?_
  refine lv_aload_n hx hb d_H_hasKiosk_2 rfl (lv_at hl 0 rfl) ?_
  refine mr_gr (C := "PurseHouse") (T := F_0) (N := 5) (ref := "PurseHouse") hx hb hts hown hok hP ui_0 rfl (by decide) (hts _ wd_141) (fun _ h => h) d_H_hasKiosk_3 (fun v1 hP => ?_)
  refine mr_ln hx hb hok hP 3 rfl d_H_hasKiosk_6 (fun v2 hP => ?_)
  refine lv_iconst (v := 1) hx hb d_H_hasKiosk_7 (by decide) ?_
  refine lv_isub hx hb d_H_hasKiosk_8 ?_
  refine mo_calli hok (va_runS (As := [.int x1, .int ((0 : Int32)), .int ((v2 - ((1 : Int32))))]) (rest := []) ⟨hx, hb, hml, hown, hts⟩ (cc_H_isBetween l L0 D hP) ⟨(callB_of 3 hts (lw_gi wd_167) rfl rfl rfl (hts _ wd_33) (hts _ wd_165) (by decide +kernel) ⟨Nat.le_of_ble_eq_true rfl, Nat.le_of_ble_eq_true rfl⟩), hts _ wd_166⟩ (mo_preS hok [.int x1, .int ((0 : Int32)), .int ((v2 - ((1 : Int32))))]) rfl rfl hl.1 rfl (lv_room (Nat.le_of_ble_eq_true rfl)) d_H_hasKiosk_9 ⟨Nat.zero_le _, Nat.zero_le _⟩) (fun r4 M3 H locs hP hok => ?_)
  exact mo_zret hx hb hr hlocks hok hP d_H_hasKiosk_12

abbrev b_H_hasCurrency : ByteArray := prog_1_method_24_code
def y_H_hasCurrency : MethodName := ⟨"PurseHouse", "hasCurrency", "(I)Z"⟩
def ws_H_hasCurrency : List Cond := .code y_H_hasCurrency b_H_hasCurrency 1 (Option.some Jvm.ClassFile.FieldType.boolean) :: lw_g
theorem d_H_hasCurrency_0 : decode b_H_hasCurrency 0 = .ok (.iload_n 0, 1) := by decide +kernel
theorem d_H_hasCurrency_1 : decode b_H_hasCurrency 1 = .ok (.iconst 0, 1) := by decide +kernel
theorem d_H_hasCurrency_2 : decode b_H_hasCurrency 2 = .ok (.iconst 2, 1) := by decide +kernel
theorem d_H_hasCurrency_3 : decode b_H_hasCurrency 3 = .ok (.invokestatic 65, 3) := by decide +kernel
theorem d_H_hasCurrency_6 : decode b_H_hasCurrency 6 = .ok (.ireturn, 1) := by decide +kernel
def pp_H_hasCurrency (g : Nat → ClassId) (e0 : Nat → Nat) (K : Int32 → mo_M → Prop) (M : mo_M) (x0 : Int32) : Prop := pp_H_isBetween g e0 (fun r2 M1 => (narrow .boolean (.int r2) = .int r2 ∧ K r2 M1)) M x0 ((0 : Int32)) ((2 : Int32))
set_option maxHeartbeats 4000000 in
set_option maxRecDepth 100000 in
theorem cc_H_hasCurrency (l : Launch) (L0 : Nat) (D : va_G) {g : Nat → ClassId} {e0 : Nat → Nat} {K : Int32 → mo_M → Prop} {M : mo_M} {x0 : Int32} (hP : pp_H_hasCurrency g e0 K M x0) : Met l y_H_hasCurrency ws_H_hasCurrency (mo_R 1 0 0 22) (va_Pc [.int x0] (fun U => mo_B L0 e0 D vwCl (mo_T g) M U)) (mo_Qi L0 e0 D vwCl (mo_T g) K) 0 0 (fun q => L0 ≤ q) := by
  refine Met.ofW (cc := b_H_hasCurrency) (maxL := 1) (ret := (Option.some Jvm.ClassFile.FieldType.boolean)) (by decide +kernel) rfl ?_
  intro p e s m args below meth c s₁ B hml hv
  obtain ⟨hv1, hB0⟩ := hv
  have hx := B.exec
  have hb := B.bytes
  have hr := B.returns
  have hts : ∀ w ∈ lw_g, w.before args s = true := fun w hw => atoms_spec (ws := ws_H_hasCurrency) B.pre w (List.mem_cons_of_mem _ hw)
  have hown : s.vm.findClass "PurseHouse" = some m.cls := findClass_of_methodNamed B.named
  have hlocks := B.notSynchronized
  have hok : mo_ok L0 e0 D vwCl (mo_T g) s M s.heap [] := ⟨hB0.1, hB0.2.1, hB0.2.2, va_S.rf⟩
  have hl := lv_entry ([.int x0]) (n := 1) (Nat.le_of_ble_eq_true rfl)
  rw [hv1, lg_entry_eq]
  rw [← hv1]
  generalize (lg_sl [.int x0] ++ List.replicate (1 - (lg_sl [.int x0]).length) Slot.unset).toArray = ls at hl ⊢
  have hl : lv_has ls 1 [(0, .int x0)] := hl
  unfold pp_H_hasCurrency at hP
  refine lv_iload_n hx hb d_H_hasCurrency_0 rfl (lv_at hl 0 rfl) ?_
  refine lv_iconst (v := 0) hx hb d_H_hasCurrency_1 (by decide) ?_
  refine lv_iconst (v := 2) hx hb d_H_hasCurrency_2 (by decide) ?_
  refine mo_calli hok (va_runS (As := [.int x0, .int ((0 : Int32)), .int ((2 : Int32))]) (rest := []) ⟨hx, hb, hml, hown, hts⟩ (cc_H_isBetween l L0 D hP) ⟨(callB_of 3 hts (lw_gi wd_167) rfl rfl rfl (hts _ wd_33) (hts _ wd_165) (by decide +kernel) ⟨Nat.le_of_ble_eq_true rfl, Nat.le_of_ble_eq_true rfl⟩), hts _ wd_166⟩ (mo_preS hok [.int x0, .int ((0 : Int32)), .int ((2 : Int32))]) rfl rfl hl.1 rfl (lv_room (Nat.le_of_ble_eq_true rfl)) d_H_hasCurrency_3 ⟨Nat.zero_le _, Nat.zero_le _⟩) (fun r2 M1 H locs hP hok => ?_)
  exact mo_zret hx hb hr hlocks hok hP d_H_hasCurrency_6

abbrev b_H_floorOf : ByteArray := prog_1_method_26_code
def y_H_floorOf : MethodName := ⟨"PurseHouse", "floorOf", "(JJ)J"⟩
def ws_H_floorOf : List Cond := .code y_H_floorOf b_H_floorOf 4 (Option.some Jvm.ClassFile.FieldType.long) :: lw_g
theorem d_H_floorOf_0 : decode b_H_floorOf 0 = .ok (.lload_n 2, 1) := by decide +kernel
theorem d_H_floorOf_1 : decode b_H_floorOf 1 = .ok (.lconst 0, 1) := by decide +kernel
theorem d_H_floorOf_2 : decode b_H_floorOf 2 = .ok (.lcmp, 1) := by decide +kernel
theorem d_H_floorOf_3 : decode b_H_floorOf 3 = .ok (.ifCond .ne 7, 3) := by decide +kernel
theorem d_H_floorOf_6 : decode b_H_floorOf 6 = .ok (.lconst 0, 1) := by decide +kernel
theorem d_H_floorOf_7 : decode b_H_floorOf 7 = .ok (.goto 8, 3) := by decide +kernel
theorem d_H_floorOf_10 : decode b_H_floorOf 10 = .ok (.lload_n 0, 1) := by decide +kernel
theorem d_H_floorOf_11 : decode b_H_floorOf 11 = .ok (.lload_n 2, 1) := by decide +kernel
theorem d_H_floorOf_12 : decode b_H_floorOf 12 = .ok (.invokestatic 209, 3) := by decide +kernel
theorem d_H_floorOf_15 : decode b_H_floorOf 15 = .ok (.lreturn, 1) := by decide +kernel
def pp_H_floorOf (g : Nat → ClassId) (e0 : Nat → Nat) (K : Int64 → mo_M → Prop) (M : mo_M) (x0 : Int64) (x2 : Int64) : Prop := (((lg_cmp x2 ((0 : Int64))) = 0 → K ((0 : Int64)) M) ∧ (¬ ((lg_cmp x2 ((0 : Int64))) = 0) → pp_J_floorDiv g e0 (fun r2 M1 => K r2 M1) M x0 x2))
set_option maxHeartbeats 4000000 in
set_option maxRecDepth 100000 in
theorem cc_H_floorOf (l : Launch) (L0 : Nat) (D : va_G) {g : Nat → ClassId} {e0 : Nat → Nat} {K : Int64 → mo_M → Prop} {M : mo_M} {x0 : Int64} {x2 : Int64} (hP : pp_H_floorOf g e0 K M x0 x2) : Met l y_H_floorOf ws_H_floorOf (mo_R 1 0 0 25) (va_Pc [.long x0, .long x2] (fun U => mo_B L0 e0 D vwCl (mo_T g) M U)) (mo_Ql L0 e0 D vwCl (mo_T g) K) 0 0 (fun q => L0 ≤ q) := by
  refine Met.ofW (cc := b_H_floorOf) (maxL := 4) (ret := (Option.some Jvm.ClassFile.FieldType.long)) (by decide +kernel) rfl ?_
  intro p e s m args below meth c s₁ B hml hv
  obtain ⟨hv1, hB0⟩ := hv
  have hx := B.exec
  have hb := B.bytes
  have hr := B.returns
  have hts : ∀ w ∈ lw_g, w.before args s = true := fun w hw => atoms_spec (ws := ws_H_floorOf) B.pre w (List.mem_cons_of_mem _ hw)
  have hown : s.vm.findClass "PurseHouse" = some m.cls := findClass_of_methodNamed B.named
  have hlocks := B.notSynchronized
  have hok : mo_ok L0 e0 D vwCl (mo_T g) s M s.heap [] := ⟨hB0.1, hB0.2.1, hB0.2.2, va_S.rf⟩
  have hl := lv_entry ([.long x0, .long x2]) (n := 4) (Nat.le_of_ble_eq_true rfl)
  rw [hv1, lg_entry_eq]
  rw [← hv1]
  generalize (lg_sl [.long x0, .long x2] ++ List.replicate (4 - (lg_sl [.long x0, .long x2]).length) Slot.unset).toArray = ls at hl ⊢
  have hl : lv_has ls 4 [(0, .long x0), (2, .long x2)] := hl
  unfold pp_H_floorOf at hP
  refine lv_lload_n hx hb d_H_floorOf_0 rfl (lv_at hl 1 rfl) ?_
  refine lv_lconst (v := 0) hx hb d_H_floorOf_1 (by decide) ?_
  refine W.lcmp hx hb d_H_floorOf_2 ?_
  refine lv_if_ne (tgt := 10) hx hb d_H_floorOf_3 (by decide) (fun hc => ?_) (fun hc => ?_)
  · replace hP := hP.2 hc
    refine lv_lload_n hx hb d_H_floorOf_10 rfl (lv_at hl 0 rfl) ?_
    refine lv_lload_n hx hb d_H_floorOf_11 rfl (lv_at hl 1 rfl) ?_
    refine mo_calll hok (va_runS (As := [.long x0, .long x2]) (rest := []) ⟨hx, hb, hml, hown, hts⟩ (cc_J_floorDiv l L0 D hP) ⟨(callB_of 2 hts (lw_gi wd_297) rfl rfl rfl (hts _ wd_37) (hts _ wd_295) (by decide +kernel) ⟨Nat.le_of_ble_eq_true rfl, Nat.le_of_ble_eq_true rfl⟩), hts _ wd_296⟩ (mo_preS hok [.long x0, .long x2]) rfl rfl hl.1 rfl (lv_room (Nat.le_of_ble_eq_true rfl)) d_H_floorOf_12 ⟨Nat.zero_le _, Nat.zero_le _⟩) (fun r2 M1 H locs hP hok => ?_)
    exact mo_lret hx hb hr hlocks hok hP d_H_floorOf_15
  · replace hP := hP.1 hc
    refine lv_lconst (v := 0) hx hb d_H_floorOf_6 (by decide) ?_
    refine lv_goto (tgt := 15) hx hb d_H_floorOf_7 (by decide) ?_
    exact mo_lret hx hb hr hlocks hok hP d_H_floorOf_15

abbrev b_H_hasBit : ByteArray := prog_1_method_25_code
def y_H_hasBit : MethodName := ⟨"PurseHouse", "hasBit", "(II)Z"⟩
def ws_H_hasBit : List Cond := .code y_H_hasBit b_H_hasBit 2 (Option.some Jvm.ClassFile.FieldType.boolean) :: lw_g
theorem d_H_hasBit_0 : decode b_H_hasBit 0 = .ok (.iload_n 0, 1) := by decide +kernel
theorem d_H_hasBit_1 : decode b_H_hasBit 1 = .ok (.iload_n 1, 1) := by decide +kernel
theorem d_H_hasBit_2 : decode b_H_hasBit 2 = .ok (.ishr, 1) := by decide +kernel
theorem d_H_hasBit_3 : decode b_H_hasBit 3 = .ok (.iconst 1, 1) := by decide +kernel
theorem d_H_hasBit_4 : decode b_H_hasBit 4 = .ok (.iand, 1) := by decide +kernel
theorem d_H_hasBit_5 : decode b_H_hasBit 5 = .ok (.iconst 1, 1) := by decide +kernel
theorem d_H_hasBit_6 : decode b_H_hasBit 6 = .ok (.if_icmp .ne 7, 3) := by decide +kernel
theorem d_H_hasBit_9 : decode b_H_hasBit 9 = .ok (.iconst 1, 1) := by decide +kernel
theorem d_H_hasBit_10 : decode b_H_hasBit 10 = .ok (.goto 4, 3) := by decide +kernel
theorem d_H_hasBit_13 : decode b_H_hasBit 13 = .ok (.iconst 0, 1) := by decide +kernel
theorem d_H_hasBit_14 : decode b_H_hasBit 14 = .ok (.ireturn, 1) := by decide +kernel
def pp_H_hasBit (g : Nat → ClassId) (e0 : Nat → Nat) (K : Int32 → mo_M → Prop) (M : mo_M) (x0 : Int32) (x1 : Int32) : Prop := ((((((x0 >>> (x1 &&& 31))) &&& ((1 : Int32)))) = ((1 : Int32)) → (narrow .boolean (.int ((1 : Int32))) = .int ((1 : Int32)) ∧ K ((1 : Int32)) M)) ∧ (¬ (((((x0 >>> (x1 &&& 31))) &&& ((1 : Int32)))) = ((1 : Int32))) → (narrow .boolean (.int ((0 : Int32))) = .int ((0 : Int32)) ∧ K ((0 : Int32)) M)))
set_option maxHeartbeats 4000000 in
set_option maxRecDepth 100000 in
theorem cc_H_hasBit (l : Launch) (L0 : Nat) (D : va_G) {g : Nat → ClassId} {e0 : Nat → Nat} {K : Int32 → mo_M → Prop} {M : mo_M} {x0 : Int32} {x1 : Int32} (hP : pp_H_hasBit g e0 K M x0 x1) : Met l y_H_hasBit ws_H_hasBit (mo_R 0 0 0 0) (va_Pc [.int x0, .int x1] (fun U => mo_B L0 e0 D vwCl (mo_T g) M U)) (mo_Qi L0 e0 D vwCl (mo_T g) K) 0 0 (fun q => L0 ≤ q) := by
  refine Met.ofW (cc := b_H_hasBit) (maxL := 2) (ret := (Option.some Jvm.ClassFile.FieldType.boolean)) (by decide +kernel) rfl ?_
  intro p e s m args below meth c s₁ B hml hv
  obtain ⟨hv1, hB0⟩ := hv
  have hx := B.exec
  have hb := B.bytes
  have hr := B.returns
  have hts : ∀ w ∈ lw_g, w.before args s = true := fun w hw => atoms_spec (ws := ws_H_hasBit) B.pre w (List.mem_cons_of_mem _ hw)
  have hown : s.vm.findClass "PurseHouse" = some m.cls := findClass_of_methodNamed B.named
  have hlocks := B.notSynchronized
  have hok : mo_ok L0 e0 D vwCl (mo_T g) s M s.heap [] := ⟨hB0.1, hB0.2.1, hB0.2.2, va_S.rf⟩
  have hl := lv_entry ([.int x0, .int x1]) (n := 2) (Nat.le_of_ble_eq_true rfl)
  rw [hv1, lg_entry_eq]
  rw [← hv1]
  generalize (lg_sl [.int x0, .int x1] ++ List.replicate (2 - (lg_sl [.int x0, .int x1]).length) Slot.unset).toArray = ls at hl ⊢
  have hl : lv_has ls 2 [(0, .int x0), (1, .int x1)] := hl
  unfold pp_H_hasBit at hP
  refine lv_iload_n hx hb d_H_hasBit_0 rfl (lv_at hl 0 rfl) ?_
  refine lv_iload_n hx hb d_H_hasBit_1 rfl (lv_at hl 1 rfl) ?_
  refine lv_ishr hx hb d_H_hasBit_2 ?_
  refine lv_iconst (v := 1) hx hb d_H_hasBit_3 (by decide) ?_
  refine lv_iand hx hb d_H_hasBit_4 ?_
  refine lv_iconst (v := 1) hx hb d_H_hasBit_5 (by decide) ?_
  refine lv_icmp_ne (tgt := 13) hx hb d_H_hasBit_6 (by decide) (fun hc => ?_) (fun hc => ?_)
  · replace hP := hP.2 hc
    refine lv_iconst (v := 0) hx hb d_H_hasBit_13 (by decide) ?_
    exact mo_zret hx hb hr hlocks hok hP d_H_hasBit_14
  · replace hP := hP.1 hc
    refine lv_iconst (v := 1) hx hb d_H_hasBit_9 (by decide) ?_
    refine lv_goto (tgt := 14) hx hb d_H_hasBit_10 (by decide) ?_
    exact mo_zret hx hb hr hlocks hok hP d_H_hasBit_14

abbrev b_H_hasNumber : ByteArray := prog_1_method_30_code
def y_H_hasNumber : MethodName := ⟨"PurseHouse", "hasNumber", "(I)Z"⟩
def ws_H_hasNumber : List Cond := .code y_H_hasNumber b_H_hasNumber 2 (Option.some Jvm.ClassFile.FieldType.boolean) :: lw_g
theorem d_H_hasNumber_0 : decode b_H_hasNumber 0 = .ok (.iload_n 1, 1) := by decide +kernel
theorem d_H_hasNumber_1 : decode b_H_hasNumber 1 = .ok (.iconst 0, 1) := by decide +kernel
theorem d_H_hasNumber_2 : decode b_H_hasNumber 2 = .ok (.aload_n 0, 1) := by decide +kernel
theorem d_H_hasNumber_3 : decode b_H_hasNumber 3 = .ok (.getfield 24, 3) := by decide +kernel
theorem d_H_hasNumber_6 : decode b_H_hasNumber 6 = .ok (.iconst 1, 1) := by decide +kernel
theorem d_H_hasNumber_7 : decode b_H_hasNumber 7 = .ok (.isub, 1) := by decide +kernel
theorem d_H_hasNumber_8 : decode b_H_hasNumber 8 = .ok (.invokestatic 65, 3) := by decide +kernel
theorem d_H_hasNumber_11 : decode b_H_hasNumber 11 = .ok (.ireturn, 1) := by decide +kernel
def pp_H_hasNumber (g : Nat → ClassId) (e0 : Nat → Nat) (K : Int32 → mo_M → Prop) (M : mo_M) (x0 : Nat) (x1 : Int32) : Prop := mp_gi M x0 0 4 (fun v1 => pp_H_isBetween g e0 (fun r3 M2 => (narrow .boolean (.int r3) = .int r3 ∧ K r3 M2)) M x1 ((0 : Int32)) ((v1 - ((1 : Int32)))))
set_option maxHeartbeats 4000000 in
set_option maxRecDepth 100000 in
theorem cc_H_hasNumber (l : Launch) (L0 : Nat) (D : va_G) {g : Nat → ClassId} {e0 : Nat → Nat} {K : Int32 → mo_M → Prop} {M : mo_M} {x0 : Nat} {x1 : Int32} (hP : pp_H_hasNumber g e0 K M x0 x1) : Met l y_H_hasNumber ws_H_hasNumber (mo_R 1 0 0 22) (va_Pc [.ref x0, .int x1] (fun U => mo_B L0 e0 D vwCl (mo_T g) M U)) (mo_Qi L0 e0 D vwCl (mo_T g) K) 0 0 (fun q => L0 ≤ q) := by
  refine Met.ofW (cc := b_H_hasNumber) (maxL := 2) (ret := (Option.some Jvm.ClassFile.FieldType.boolean)) (by decide +kernel) rfl ?_
  intro p e s m args below meth c s₁ B hml hv
  obtain ⟨hv1, hB0⟩ := hv
  have hx := B.exec
  have hb := B.bytes
  have hr := B.returns
  have hts : ∀ w ∈ lw_g, w.before args s = true := fun w hw => atoms_spec (ws := ws_H_hasNumber) B.pre w (List.mem_cons_of_mem _ hw)
  have hown : s.vm.findClass "PurseHouse" = some m.cls := findClass_of_methodNamed B.named
  have hlocks := B.notSynchronized
  have hok : mo_ok L0 e0 D vwCl (mo_T g) s M s.heap [] := ⟨hB0.1, hB0.2.1, hB0.2.2, va_S.rf⟩
  have hl := lv_entry ([.ref x0, .int x1]) (n := 2) (Nat.le_of_ble_eq_true rfl)
  rw [hv1, lg_entry_eq]
  rw [← hv1]
  generalize (lg_sl [.ref x0, .int x1] ++ List.replicate (2 - (lg_sl [.ref x0, .int x1]).length) Slot.unset).toArray = ls at hl ⊢
  have hl : lv_has ls 2 [(0, .ref x0), (1, .int x1)] := hl
  unfold pp_H_hasNumber at hP
  refine lv_iload_n hx hb d_H_hasNumber_0 rfl (lv_at hl 1 rfl) ?_
  refine lv_iconst (v := 0) hx hb d_H_hasNumber_1 (by decide) ?_
  refine lv_aload_n hx hb d_H_hasNumber_2 rfl (lv_at hl 0 rfl) ?_
  refine mr_gi (C := "PurseHouse") (T := F_0) (N := 5) (ref := "PurseHouse") hx hb hts hown hok hP ui_0 rfl (by decide) (hts _ wd_145) (fun _ h => h) d_H_hasNumber_3 (fun v1 hP => ?_)
  refine lv_iconst (v := 1) hx hb d_H_hasNumber_6 (by decide) ?_
  refine lv_isub hx hb d_H_hasNumber_7 ?_
  refine mo_calli hok (va_runS (As := [.int x1, .int ((0 : Int32)), .int ((v1 - ((1 : Int32))))]) (rest := []) ⟨hx, hb, hml, hown, hts⟩ (cc_H_isBetween l L0 D hP) ⟨(callB_of 3 hts (lw_gi wd_167) rfl rfl rfl (hts _ wd_33) (hts _ wd_165) (by decide +kernel) ⟨Nat.le_of_ble_eq_true rfl, Nat.le_of_ble_eq_true rfl⟩), hts _ wd_166⟩ (mo_preS hok [.int x1, .int ((0 : Int32)), .int ((v1 - ((1 : Int32))))]) rfl rfl hl.1 rfl (lv_room (Nat.le_of_ble_eq_true rfl)) d_H_hasNumber_8 ⟨Nat.zero_le _, Nat.zero_le _⟩) (fun r3 M2 H locs hP hok => ?_)
  exact mo_zret hx hb hr hlocks hok hP d_H_hasNumber_11

