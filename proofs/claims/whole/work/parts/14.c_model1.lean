abbrev b_M_thrown : ByteArray := prog_6_method_2_code
def y_M_thrown : MethodName := ⟨"PurseHouseModel", "thrown", "()I"⟩
def ws_M_thrown : List Cond := .code y_M_thrown b_M_thrown 1 (Option.some Jvm.ClassFile.FieldType.int) :: lw_g
theorem d_M_thrown_0 : decode b_M_thrown 0 = .ok (.aload_n 0, 1) := by decide +kernel
theorem d_M_thrown_1 : decode b_M_thrown 1 = .ok (.getfield 76, 3) := by decide +kernel
theorem d_M_thrown_4 : decode b_M_thrown 4 = .ok (.ireturn, 1) := by decide +kernel
def pp_M_thrown (g : Nat → ClassId) (e0 : Nat → Nat) (K : Int32 → mo_M → Prop) (M : mo_M) (x0 : Nat) : Prop := mp_gi M x0 4 0 (fun v1 => K v1 M)
set_option maxHeartbeats 4000000 in
set_option maxRecDepth 100000 in
theorem cc_M_thrown (l : Launch) (L0 : Nat) (D : va_G) {g : Nat → ClassId} {e0 : Nat → Nat} {K : Int32 → mo_M → Prop} {M : mo_M} {x0 : Nat} (hP : pp_M_thrown g e0 K M x0) : Met l y_M_thrown ws_M_thrown (mo_R 0 0 0 0) (va_Pc [.ref x0] (fun U => mo_B L0 e0 D vwCl (mo_T g) M U)) (mo_Qi L0 e0 D vwCl (mo_T g) K) 0 0 (fun q => L0 ≤ q) := by
  refine Met.ofW (cc := b_M_thrown) (maxL := 1) (ret := (Option.some Jvm.ClassFile.FieldType.int)) (by decide +kernel) rfl ?_
  intro p e s m args below meth c s₁ B hml hv
  obtain ⟨hv1, hB0⟩ := hv
  have hx := B.exec
  have hb := B.bytes
  have hr := B.returns
  have hts : ∀ w ∈ lw_g, w.before args s = true := fun w hw => atoms_spec (ws := ws_M_thrown) B.pre w (List.mem_cons_of_mem _ hw)
  have hown : s.vm.findClass "PurseHouseModel" = some m.cls := findClass_of_methodNamed B.named
  have hlocks := B.notSynchronized
  have hok : mo_ok L0 e0 D vwCl (mo_T g) s M s.heap [] := ⟨hB0.1, hB0.2.1, hB0.2.2, va_S.rf⟩
  have hl := lv_entry ([.ref x0]) (n := 1) (Nat.le_of_ble_eq_true rfl)
  rw [hv1, lg_entry_eq]
  rw [← hv1]
  generalize (lg_sl [.ref x0] ++ List.replicate (1 - (lg_sl [.ref x0]).length) Slot.unset).toArray = ls at hl ⊢
  have hl : lv_has ls 1 [(0, .ref x0)] := hl
  unfold pp_M_thrown at hP
  refine lv_aload_n hx hb d_M_thrown_0 rfl (lv_at hl 0 rfl) ?_
  refine mr_gi (C := "PurseHouseModel") (T := F_4) (N := 27) (ref := "PurseHouseModel") hx hb hts hown hok hP ui_4 rfl (by decide) (hts _ wd_610) (fun _ h => h) d_M_thrown_1 (fun v1 hP => ?_)
  exact mo_iret hx hb hr hlocks hok hP d_M_thrown_4

abbrev b_M_isKiosk : ByteArray := prog_6_method_3_code
def y_M_isKiosk : MethodName := ⟨"PurseHouseModel", "isKiosk", "(I)Z"⟩
def ws_M_isKiosk : List Cond := .code y_M_isKiosk b_M_isKiosk 2 (Option.some Jvm.ClassFile.FieldType.boolean) :: lw_g
theorem d_M_isKiosk_0 : decode b_M_isKiosk 0 = .ok (.iload_n 1, 1) := by decide +kernel
theorem d_M_isKiosk_1 : decode b_M_isKiosk 1 = .ok (.ifCond .lt 15, 3) := by decide +kernel
theorem d_M_isKiosk_4 : decode b_M_isKiosk 4 = .ok (.iload_n 1, 1) := by decide +kernel
theorem d_M_isKiosk_5 : decode b_M_isKiosk 5 = .ok (.aload_n 0, 1) := by decide +kernel
theorem d_M_isKiosk_6 : decode b_M_isKiosk 6 = .ok (.getfield 72, 3) := by decide +kernel
theorem d_M_isKiosk_9 : decode b_M_isKiosk 9 = .ok (.if_icmp .ge 7, 3) := by decide +kernel
theorem d_M_isKiosk_12 : decode b_M_isKiosk 12 = .ok (.iconst 1, 1) := by decide +kernel
theorem d_M_isKiosk_13 : decode b_M_isKiosk 13 = .ok (.goto 4, 3) := by decide +kernel
theorem d_M_isKiosk_16 : decode b_M_isKiosk 16 = .ok (.iconst 0, 1) := by decide +kernel
theorem d_M_isKiosk_17 : decode b_M_isKiosk 17 = .ok (.ireturn, 1) := by decide +kernel
def pp_M_isKiosk (g : Nat → ClassId) (e0 : Nat → Nat) (K : Int32 → mo_M → Prop) (M : mo_M) (x0 : Nat) (x1 : Int32) : Prop := ((x1 < 0 → (narrow .boolean (.int ((0 : Int32))) = .int ((0 : Int32)) ∧ K ((0 : Int32)) M)) ∧ (¬ (x1 < 0) → mp_gi M x0 4 1 (fun v1 => ((v1 ≤ x1 → (narrow .boolean (.int ((0 : Int32))) = .int ((0 : Int32)) ∧ K ((0 : Int32)) M)) ∧ (¬ (v1 ≤ x1) → (narrow .boolean (.int ((1 : Int32))) = .int ((1 : Int32)) ∧ K ((1 : Int32)) M))))))
set_option maxHeartbeats 4000000 in
set_option maxRecDepth 100000 in
theorem cc_M_isKiosk (l : Launch) (L0 : Nat) (D : va_G) {g : Nat → ClassId} {e0 : Nat → Nat} {K : Int32 → mo_M → Prop} {M : mo_M} {x0 : Nat} {x1 : Int32} (hP : pp_M_isKiosk g e0 K M x0 x1) : Met l y_M_isKiosk ws_M_isKiosk (mo_R 0 0 0 0) (va_Pc [.ref x0, .int x1] (fun U => mo_B L0 e0 D vwCl (mo_T g) M U)) (mo_Qi L0 e0 D vwCl (mo_T g) K) 0 0 (fun q => L0 ≤ q) := by
  refine Met.ofW (cc := b_M_isKiosk) (maxL := 2) (ret := (Option.some Jvm.ClassFile.FieldType.boolean)) (by decide +kernel) rfl ?_
  intro p e s m args below meth c s₁ B hml hv
  obtain ⟨hv1, hB0⟩ := hv
  have hx := B.exec
  have hb := B.bytes
  have hr := B.returns
  have hts : ∀ w ∈ lw_g, w.before args s = true := fun w hw => atoms_spec (ws := ws_M_isKiosk) B.pre w (List.mem_cons_of_mem _ hw)
  have hown : s.vm.findClass "PurseHouseModel" = some m.cls := findClass_of_methodNamed B.named
  have hlocks := B.notSynchronized
  have hok : mo_ok L0 e0 D vwCl (mo_T g) s M s.heap [] := ⟨hB0.1, hB0.2.1, hB0.2.2, va_S.rf⟩
  have hl := lv_entry ([.ref x0, .int x1]) (n := 2) (Nat.le_of_ble_eq_true rfl)
  rw [hv1, lg_entry_eq]
  rw [← hv1]
  generalize (lg_sl [.ref x0, .int x1] ++ List.replicate (2 - (lg_sl [.ref x0, .int x1]).length) Slot.unset).toArray = ls at hl ⊢
  have hl : lv_has ls 2 [(0, .ref x0), (1, .int x1)] := hl
  unfold pp_M_isKiosk at hP
  refine lv_iload_n hx hb d_M_isKiosk_0 rfl (lv_at hl 1 rfl) ?_
  refine lv_if_lt (tgt := 16) hx hb d_M_isKiosk_1 (by decide) (fun hc => ?_) (fun hc => ?_)
  · replace hP := hP.1 hc
    refine lv_iconst (v := 0) hx hb d_M_isKiosk_16 (by decide) ?_
    exact mo_zret hx hb hr hlocks hok hP d_M_isKiosk_17
  · replace hP := hP.2 hc
    refine lv_iload_n hx hb d_M_isKiosk_4 rfl (lv_at hl 1 rfl) ?_
    refine lv_aload_n hx hb d_M_isKiosk_5 rfl (lv_at hl 0 rfl) ?_
    refine mr_gi (C := "PurseHouseModel") (T := F_4) (N := 27) (ref := "PurseHouseModel") hx hb hts hown hok hP ui_4 rfl (by decide) (hts _ wd_611) (fun _ h => h) d_M_isKiosk_6 (fun v1 hP => ?_)
    refine lv_icmp_ge (tgt := 16) hx hb d_M_isKiosk_9 (by decide) (fun hc => ?_) (fun hc => ?_)
    · replace hP := hP.1 hc
      refine lv_iconst (v := 0) hx hb d_M_isKiosk_16 (by decide) ?_
      exact mo_zret hx hb hr hlocks hok hP d_M_isKiosk_17
    · replace hP := hP.2 hc
      refine lv_iconst (v := 1) hx hb d_M_isKiosk_12 (by decide) ?_
      refine lv_goto (tgt := 17) hx hb d_M_isKiosk_13 (by decide) ?_
      exact mo_zret hx hb hr hlocks hok hP d_M_isKiosk_17

abbrev b_M_link : ByteArray := prog_6_method_8_code
def y_M_link : MethodName := ⟨"PurseHouseModel", "link", "(IIZ)I"⟩
def ws_M_link : List Cond := .code y_M_link b_M_link 4 (Option.some Jvm.ClassFile.FieldType.int) :: lw_g
theorem d_M_link_0 : decode b_M_link 0 = .ok (.aload_n 0, 1) := by decide +kernel
theorem d_M_link_1 : decode b_M_link 1 = .ok (.iconst 0, 1) := by decide +kernel
theorem d_M_link_2 : decode b_M_link 2 = .ok (.putfield 76, 3) := by decide +kernel
theorem d_M_link_5 : decode b_M_link 5 = .ok (.aload_n 0, 1) := by decide +kernel
theorem d_M_link_6 : decode b_M_link 6 = .ok (.iload_n 1, 1) := by decide +kernel
theorem d_M_link_7 : decode b_M_link 7 = .ok (.invokevirtual 86, 3) := by decide +kernel
theorem d_M_link_10 : decode b_M_link 10 = .ok (.ifCond .eq 32, 3) := by decide +kernel
theorem d_M_link_13 : decode b_M_link 13 = .ok (.aload_n 0, 1) := by decide +kernel
theorem d_M_link_14 : decode b_M_link 14 = .ok (.iload_n 2, 1) := by decide +kernel
theorem d_M_link_15 : decode b_M_link 15 = .ok (.invokevirtual 86, 3) := by decide +kernel
theorem d_M_link_18 : decode b_M_link 18 = .ok (.ifCond .eq 24, 3) := by decide +kernel
theorem d_M_link_21 : decode b_M_link 21 = .ok (.iload_n 1, 1) := by decide +kernel
theorem d_M_link_22 : decode b_M_link 22 = .ok (.iload_n 2, 1) := by decide +kernel
theorem d_M_link_23 : decode b_M_link 23 = .ok (.if_icmp .eq 19, 3) := by decide +kernel
theorem d_M_link_26 : decode b_M_link 26 = .ok (.aload_n 0, 1) := by decide +kernel
theorem d_M_link_27 : decode b_M_link 27 = .ok (.getfield 79, 3) := by decide +kernel
theorem d_M_link_30 : decode b_M_link 30 = .ok (.bipush 12, 2) := by decide +kernel
theorem d_M_link_32 : decode b_M_link 32 = .ok (.if_icmp .eq 10, 3) := by decide +kernel
theorem d_M_link_35 : decode b_M_link 35 = .ok (.aload_n 0, 1) := by decide +kernel
theorem d_M_link_36 : decode b_M_link 36 = .ok (.getfield 82, 3) := by decide +kernel
theorem d_M_link_39 : decode b_M_link 39 = .ok (.ifCond .le 5, 3) := by decide +kernel
theorem d_M_link_42 : decode b_M_link 42 = .ok (.iconst (-1), 1) := by decide +kernel
theorem d_M_link_43 : decode b_M_link 43 = .ok (.ireturn, 1) := by decide +kernel
theorem d_M_link_44 : decode b_M_link 44 = .ok (.aload_n 0, 1) := by decide +kernel
theorem d_M_link_45 : decode b_M_link 45 = .ok (.getfield 7, 3) := by decide +kernel
theorem d_M_link_48 : decode b_M_link 48 = .ok (.aload_n 0, 1) := by decide +kernel
theorem d_M_link_49 : decode b_M_link 49 = .ok (.getfield 79, 3) := by decide +kernel
theorem d_M_link_52 : decode b_M_link 52 = .ok (.iload_n 1, 1) := by decide +kernel
theorem d_M_link_53 : decode b_M_link 53 = .ok (.iastore, 1) := by decide +kernel
theorem d_M_link_54 : decode b_M_link 54 = .ok (.aload_n 0, 1) := by decide +kernel
theorem d_M_link_55 : decode b_M_link 55 = .ok (.getfield 13, 3) := by decide +kernel
theorem d_M_link_58 : decode b_M_link 58 = .ok (.aload_n 0, 1) := by decide +kernel
theorem d_M_link_59 : decode b_M_link 59 = .ok (.getfield 79, 3) := by decide +kernel
theorem d_M_link_62 : decode b_M_link 62 = .ok (.iload_n 2, 1) := by decide +kernel
theorem d_M_link_63 : decode b_M_link 63 = .ok (.iastore, 1) := by decide +kernel
theorem d_M_link_64 : decode b_M_link 64 = .ok (.aload_n 0, 1) := by decide +kernel
theorem d_M_link_65 : decode b_M_link 65 = .ok (.getfield 16, 3) := by decide +kernel
theorem d_M_link_68 : decode b_M_link 68 = .ok (.aload_n 0, 1) := by decide +kernel
theorem d_M_link_69 : decode b_M_link 69 = .ok (.getfield 79, 3) := by decide +kernel
theorem d_M_link_72 : decode b_M_link 72 = .ok (.iload_n 3, 1) := by decide +kernel
theorem d_M_link_73 : decode b_M_link 73 = .ok (.bastore, 1) := by decide +kernel
theorem d_M_link_74 : decode b_M_link 74 = .ok (.aload_n 0, 1) := by decide +kernel
theorem d_M_link_75 : decode b_M_link 75 = .ok (.dup, 1) := by decide +kernel
theorem d_M_link_76 : decode b_M_link 76 = .ok (.getfield 79, 3) := by decide +kernel
theorem d_M_link_79 : decode b_M_link 79 = .ok (.iconst 1, 1) := by decide +kernel
theorem d_M_link_80 : decode b_M_link 80 = .ok (.iadd, 1) := by decide +kernel
theorem d_M_link_81 : decode b_M_link 81 = .ok (.putfield 79, 3) := by decide +kernel
theorem d_M_link_84 : decode b_M_link 84 = .ok (.aload_n 0, 1) := by decide +kernel
theorem d_M_link_85 : decode b_M_link 85 = .ok (.getfield 79, 3) := by decide +kernel
theorem d_M_link_88 : decode b_M_link 88 = .ok (.iconst 1, 1) := by decide +kernel
theorem d_M_link_89 : decode b_M_link 89 = .ok (.isub, 1) := by decide +kernel
theorem d_M_link_90 : decode b_M_link 90 = .ok (.ireturn, 1) := by decide +kernel
def pp_M_link (g : Nat → ClassId) (e0 : Nat → Nat) (K : Int32 → mo_M → Prop) (M : mo_M) (x0 : Nat) (x1 : Int32) (x2 : Int32) (x3 : Int32) : Prop := mp_pt M x0 4 0 (.int ((0 : Int32))) (fun M1 => (mp_is M1 x0 4 ∧ pp_M_isKiosk g e0 (fun r3 M2 => ((r3 = 0 → K ((-1 : Int32)) M2) ∧ (¬ (r3 = 0) → (mp_is M2 x0 4 ∧ pp_M_isKiosk g e0 (fun r5 M4 => ((r5 = 0 → K ((-1 : Int32)) M4) ∧ (¬ (r5 = 0) → ((x1 = x2 → K ((-1 : Int32)) M4) ∧ (¬ (x1 = x2) → mp_gi M4 x0 4 3 (fun v6 => ((v6 = ((12 : Int32)) → K ((-1 : Int32)) M4) ∧ (¬ (v6 = ((12 : Int32))) → mp_gi M4 x0 4 25 (fun v7 => ((v7 ≤ 0 → mp_gr M4 x0 4 4 (fun v8 => mp_gi M4 x0 4 3 (fun v9 => mp_si (g 0) M4 v8 v9 x1 (fun M10 => mp_gr M10 x0 4 5 (fun v11 => mp_gi M10 x0 4 3 (fun v12 => mp_si (g 0) M10 v11 v12 x2 (fun M13 => mp_gr M13 x0 4 6 (fun v14 => mp_gi M13 x0 4 3 (fun v15 => mp_sz (g 2) M13 v14 v15 x3 (fun M16 => mp_gi M16 x0 4 3 (fun v17 => mp_pt M16 x0 4 3 (.int ((v17 + ((1 : Int32))))) (fun M18 => mp_gi M18 x0 4 3 (fun v19 => K ((v19 - ((1 : Int32)))) M18))))))))))))) ∧ (¬ (v7 ≤ 0) → K ((-1 : Int32)) M4))))))))))) M2 x0 x2)))) M1 x0 x1))
set_option maxHeartbeats 4000000 in
set_option maxRecDepth 100000 in
theorem cc_M_link (l : Launch) (L0 : Nat) (D : va_G) {g : Nat → ClassId} {e0 : Nat → Nat} {K : Int32 → mo_M → Prop} {M : mo_M} {x0 : Nat} {x1 : Int32} {x2 : Int32} {x3 : Int32} (hP : pp_M_link g e0 K M x0 x1 x2 x3) : Met l y_M_link ws_M_link (mo_R 1 0 0 21) (va_Pc [.ref x0, .int x1, .int x2, .int x3] (fun U => mo_B L0 e0 D vwCl (mo_T g) M U)) (mo_Qi L0 e0 D vwCl (mo_T g) K) 0 0 (fun q => L0 ≤ q) := by
  refine Met.ofW (cc := b_M_link) (maxL := 4) (ret := (Option.some Jvm.ClassFile.FieldType.int)) (by decide +kernel) rfl ?_
  intro p e s m args below meth c s₁ B hml hv
  obtain ⟨hv1, hB0⟩ := hv
  have hx := B.exec
  have hb := B.bytes
  have hr := B.returns
  have hts : ∀ w ∈ lw_g, w.before args s = true := fun w hw => atoms_spec (ws := ws_M_link) B.pre w (List.mem_cons_of_mem _ hw)
  have hown : s.vm.findClass "PurseHouseModel" = some m.cls := findClass_of_methodNamed B.named
  have hlocks := B.notSynchronized
  have hok : mo_ok L0 e0 D vwCl (mo_T g) s M s.heap [] := ⟨hB0.1, hB0.2.1, hB0.2.2, va_S.rf⟩
  have hl := lv_entry ([.ref x0, .int x1, .int x2, .int x3]) (n := 4) (Nat.le_of_ble_eq_true rfl)
  rw [hv1, lg_entry_eq]
  rw [← hv1]
  generalize (lg_sl [.ref x0, .int x1, .int x2, .int x3] ++ List.replicate (4 - (lg_sl [.ref x0, .int x1, .int x2, .int x3]).length) Slot.unset).toArray = ls at hl ⊢
  have hl : lv_has ls 4 [(0, .ref x0), (1, .int x1), (2, .int x2), (3, .int x3)] := hl
  unfold pp_M_link at hP
  refine lv_aload_n hx hb d_M_link_0 rfl (lv_at hl 0 rfl) ?_
  refine lv_iconst (v := 0) hx hb d_M_link_1 (by decide) ?_
  refine mr_pt (C := "PurseHouseModel") (T := F_4) (N := 27) (ref := "PurseHouseModel") (ty := .int) hx hb hts hown hok hP ui_4 ty_4 th_4 tn_4 rfl (by decide) (hts _ wd_610) (fun _ h => h) rfl (by decide +kernel) rfl rfl d_M_link_2 (fun M1 H locs hP hok => ?_)
  refine lv_aload_n hx hb d_M_link_5 rfl (lv_at hl 0 rfl) ?_
  refine lv_iload_n hx hb d_M_link_6 rfl (lv_at hl 1 rfl) ?_
  obtain ⟨⟨fs9, he9⟩, hP⟩ := hP
  refine mo_calli hok (va_runV (As := [.int x1]) (rest := []) ⟨hx, hb, hml, hown, hts⟩ (cc_M_isKiosk l L0 D hP) ⟨(callB_of 1 hts (lw_gi wd_704) rfl rfl rfl (hts _ wd_39) (hts _ wd_701) (by decide +kernel) ⟨Nat.le_of_ble_eq_true rfl, Nat.le_of_ble_eq_true rfl⟩), hts _ wd_703, hts _ wd_15⟩ (mo_preV hok he9 rfl [.int x1]) rfl rfl hl.1 rfl (lv_room (Nat.le_of_ble_eq_true rfl)) d_M_link_7 ⟨Nat.zero_le _, Nat.zero_le _⟩) (fun r3 M2 H locs hP hok => ?_)
  refine lv_if_eq (tgt := 42) hx hb d_M_link_10 (by decide) (fun hc => ?_) (fun hc => ?_)
  · replace hP := hP.1 hc
    refine lv_iconst (v := (-1)) hx hb d_M_link_42 (by decide) ?_
    exact mo_iret hx hb hr hlocks hok hP d_M_link_43
  · replace hP := hP.2 hc
    refine lv_aload_n hx hb d_M_link_13 rfl (lv_at hl 0 rfl) ?_
    refine lv_iload_n hx hb d_M_link_14 rfl (lv_at hl 2 rfl) ?_
    obtain ⟨⟨fs9, he9⟩, hP⟩ := hP
    refine mo_calli hok (va_runV (As := [.int x2]) (rest := []) ⟨hx, hb, hml, hown, hts⟩ (cc_M_isKiosk l L0 D hP) ⟨(callB_of 1 hts (lw_gi wd_704) rfl rfl rfl (hts _ wd_39) (hts _ wd_701) (by decide +kernel) ⟨Nat.le_of_ble_eq_true rfl, Nat.le_of_ble_eq_true rfl⟩), hts _ wd_703, hts _ wd_15⟩ (mo_preV hok he9 rfl [.int x2]) rfl rfl hl.1 rfl (lv_room (Nat.le_of_ble_eq_true rfl)) d_M_link_15 ⟨Nat.zero_le _, Nat.zero_le _⟩) (fun r5 M4 H locs hP hok => ?_)
    refine lv_if_eq (tgt := 42) hx hb d_M_link_18 (by decide) (fun hc => ?_) (fun hc => ?_)
    · replace hP := hP.1 hc
      refine lv_iconst (v := (-1)) hx hb d_M_link_42 (by decide) ?_
      exact mo_iret hx hb hr hlocks hok hP d_M_link_43
    · replace hP := hP.2 hc
      refine lv_iload_n hx hb d_M_link_21 rfl (lv_at hl 1 rfl) ?_
      refine lv_iload_n hx hb d_M_link_22 rfl (lv_at hl 2 rfl) ?_
      refine lv_icmp_eq (tgt := 42) hx hb d_M_link_23 (by decide) (fun hc => ?_) (fun hc => ?_)
      · replace hP := hP.1 hc
        refine lv_iconst (v := (-1)) hx hb d_M_link_42 (by decide) ?_
        exact mo_iret hx hb hr hlocks hok hP d_M_link_43
      · replace hP := hP.2 hc
        refine lv_aload_n hx hb d_M_link_26 rfl (lv_at hl 0 rfl) ?_
        refine mr_gi (C := "PurseHouseModel") (T := F_4) (N := 27) (ref := "PurseHouseModel") hx hb hts hown hok hP ui_4 rfl (by decide) (hts _ wd_613) (fun _ h => h) d_M_link_27 (fun v6 hP => ?_)
        refine lv_bipush (v := 12) hx hb d_M_link_30 (by decide) ?_
        refine lv_icmp_eq (tgt := 42) hx hb d_M_link_32 (by decide) (fun hc => ?_) (fun hc => ?_)
        · replace hP := hP.1 hc
          refine lv_iconst (v := (-1)) hx hb d_M_link_42 (by decide) ?_
          exact mo_iret hx hb hr hlocks hok hP d_M_link_43
        · replace hP := hP.2 hc
          refine lv_aload_n hx hb d_M_link_35 rfl (lv_at hl 0 rfl) ?_
          refine mr_gi (C := "PurseHouseModel") (T := F_4) (N := 27) (ref := "PurseHouseModel") hx hb hts hown hok hP ui_4 rfl (by decide) (hts _ wd_635) (fun _ h => h) d_M_link_36 (fun v7 hP => ?_)
          refine lv_if_le (tgt := 44) hx hb d_M_link_39 (by decide) (fun hc => ?_) (fun hc => ?_)
          · replace hP := hP.1 hc
            refine lv_aload_n hx hb d_M_link_44 rfl (lv_at hl 0 rfl) ?_
            refine mr_gr (C := "PurseHouseModel") (T := F_4) (N := 27) (ref := "PurseHouseModel") hx hb hts hown hok hP ui_4 rfl (by decide) (hts _ wd_614) (fun _ h => h) d_M_link_45 (fun v8 hP => ?_)
            refine lv_aload_n hx hb d_M_link_48 rfl (lv_at hl 0 rfl) ?_
            refine mr_gi (C := "PurseHouseModel") (T := F_4) (N := 27) (ref := "PurseHouseModel") hx hb hts hown hok hP ui_4 rfl (by decide) (hts _ wd_613) (fun _ h => h) d_M_link_49 (fun v9 hP => ?_)
            refine lv_iload_n hx hb d_M_link_52 rfl (lv_at hl 1 rfl) ?_
            refine mr_si hx hb hok hP 0 rfl d_M_link_53 (fun M10 H locs hP hok => ?_)
            refine lv_aload_n hx hb d_M_link_54 rfl (lv_at hl 0 rfl) ?_
            refine mr_gr (C := "PurseHouseModel") (T := F_4) (N := 27) (ref := "PurseHouseModel") hx hb hts hown hok hP ui_4 rfl (by decide) (hts _ wd_615) (fun _ h => h) d_M_link_55 (fun v11 hP => ?_)
            refine lv_aload_n hx hb d_M_link_58 rfl (lv_at hl 0 rfl) ?_
            refine mr_gi (C := "PurseHouseModel") (T := F_4) (N := 27) (ref := "PurseHouseModel") hx hb hts hown hok hP ui_4 rfl (by decide) (hts _ wd_613) (fun _ h => h) d_M_link_59 (fun v12 hP => ?_)
            refine lv_iload_n hx hb d_M_link_62 rfl (lv_at hl 2 rfl) ?_
            refine mr_si hx hb hok hP 0 rfl d_M_link_63 (fun M13 H locs hP hok => ?_)
            refine lv_aload_n hx hb d_M_link_64 rfl (lv_at hl 0 rfl) ?_
            refine mr_gr (C := "PurseHouseModel") (T := F_4) (N := 27) (ref := "PurseHouseModel") hx hb hts hown hok hP ui_4 rfl (by decide) (hts _ wd_616) (fun _ h => h) d_M_link_65 (fun v14 hP => ?_)
            refine lv_aload_n hx hb d_M_link_68 rfl (lv_at hl 0 rfl) ?_
            refine mr_gi (C := "PurseHouseModel") (T := F_4) (N := 27) (ref := "PurseHouseModel") hx hb hts hown hok hP ui_4 rfl (by decide) (hts _ wd_613) (fun _ h => h) d_M_link_69 (fun v15 hP => ?_)
            refine lv_iload_n hx hb d_M_link_72 rfl (lv_at hl 3 rfl) ?_
            refine mr_sz hx hb hok hP 2 rfl d_M_link_73 (fun M16 H locs hP hok => ?_)
            refine lv_aload_n hx hb d_M_link_74 rfl (lv_at hl 0 rfl) ?_
            refine lv_dup hx hb d_M_link_75 rfl ?_
            refine mr_gi (C := "PurseHouseModel") (T := F_4) (N := 27) (ref := "PurseHouseModel") hx hb hts hown hok hP ui_4 rfl (by decide) (hts _ wd_613) (fun _ h => h) d_M_link_76 (fun v17 hP => ?_)
            refine lv_iconst (v := 1) hx hb d_M_link_79 (by decide) ?_
            refine lv_iadd hx hb d_M_link_80 ?_
            refine mr_pt (C := "PurseHouseModel") (T := F_4) (N := 27) (ref := "PurseHouseModel") (ty := .int) hx hb hts hown hok hP ui_4 ty_4 th_4 tn_4 rfl (by decide) (hts _ wd_613) (fun _ h => h) rfl (by decide +kernel) rfl rfl d_M_link_81 (fun M18 H locs hP hok => ?_)
            refine lv_aload_n hx hb d_M_link_84 rfl (lv_at hl 0 rfl) ?_
            refine mr_gi (C := "PurseHouseModel") (T := F_4) (N := 27) (ref := "PurseHouseModel") hx hb hts hown hok hP ui_4 rfl (by decide) (hts _ wd_613) (fun _ h => h) d_M_link_85 (fun v19 hP => ?_)
            refine lv_iconst (v := 1) hx hb d_M_link_88 (by decide) ?_
            refine lv_isub hx hb d_M_link_89 ?_
            exact mo_iret hx hb hr hlocks hok hP d_M_link_90
          · replace hP := hP.2 hc
            refine lv_iconst (v := (-1)) hx hb d_M_link_42 (by decide) ?_
            exact mo_iret hx hb hr hlocks hok hP d_M_link_43

abbrev b_M_isCurrency : ByteArray := prog_6_method_4_code
def y_M_isCurrency : MethodName := ⟨"PurseHouseModel", "isCurrency", "(I)Z"⟩
def ws_M_isCurrency : List Cond := .code y_M_isCurrency b_M_isCurrency 1 (Option.some Jvm.ClassFile.FieldType.boolean) :: lw_g
theorem d_M_isCurrency_0 : decode b_M_isCurrency 0 = .ok (.iload_n 0, 1) := by decide +kernel
theorem d_M_isCurrency_1 : decode b_M_isCurrency 1 = .ok (.ifCond .lt 12, 3) := by decide +kernel
theorem d_M_isCurrency_4 : decode b_M_isCurrency 4 = .ok (.iload_n 0, 1) := by decide +kernel
theorem d_M_isCurrency_5 : decode b_M_isCurrency 5 = .ok (.iconst 3, 1) := by decide +kernel
theorem d_M_isCurrency_6 : decode b_M_isCurrency 6 = .ok (.if_icmp .ge 7, 3) := by decide +kernel
theorem d_M_isCurrency_9 : decode b_M_isCurrency 9 = .ok (.iconst 1, 1) := by decide +kernel
theorem d_M_isCurrency_10 : decode b_M_isCurrency 10 = .ok (.goto 4, 3) := by decide +kernel
theorem d_M_isCurrency_13 : decode b_M_isCurrency 13 = .ok (.iconst 0, 1) := by decide +kernel
theorem d_M_isCurrency_14 : decode b_M_isCurrency 14 = .ok (.ireturn, 1) := by decide +kernel
def pp_M_isCurrency (g : Nat → ClassId) (e0 : Nat → Nat) (K : Int32 → mo_M → Prop) (M : mo_M) (x0 : Int32) : Prop := ((x0 < 0 → (narrow .boolean (.int ((0 : Int32))) = .int ((0 : Int32)) ∧ K ((0 : Int32)) M)) ∧ (¬ (x0 < 0) → ((((3 : Int32)) ≤ x0 → (narrow .boolean (.int ((0 : Int32))) = .int ((0 : Int32)) ∧ K ((0 : Int32)) M)) ∧ (¬ (((3 : Int32)) ≤ x0) → (narrow .boolean (.int ((1 : Int32))) = .int ((1 : Int32)) ∧ K ((1 : Int32)) M)))))
set_option maxHeartbeats 4000000 in
set_option maxRecDepth 100000 in
theorem cc_M_isCurrency (l : Launch) (L0 : Nat) (D : va_G) {g : Nat → ClassId} {e0 : Nat → Nat} {K : Int32 → mo_M → Prop} {M : mo_M} {x0 : Int32} (hP : pp_M_isCurrency g e0 K M x0) : Met l y_M_isCurrency ws_M_isCurrency (mo_R 0 0 0 0) (va_Pc [.int x0] (fun U => mo_B L0 e0 D vwCl (mo_T g) M U)) (mo_Qi L0 e0 D vwCl (mo_T g) K) 0 0 (fun q => L0 ≤ q) := by
  refine Met.ofW (cc := b_M_isCurrency) (maxL := 1) (ret := (Option.some Jvm.ClassFile.FieldType.boolean)) (by decide +kernel) rfl ?_
  intro p e s m args below meth c s₁ B hml hv
  obtain ⟨hv1, hB0⟩ := hv
  have hx := B.exec
  have hb := B.bytes
  have hr := B.returns
  have hts : ∀ w ∈ lw_g, w.before args s = true := fun w hw => atoms_spec (ws := ws_M_isCurrency) B.pre w (List.mem_cons_of_mem _ hw)
  have hown : s.vm.findClass "PurseHouseModel" = some m.cls := findClass_of_methodNamed B.named
  have hlocks := B.notSynchronized
  have hok : mo_ok L0 e0 D vwCl (mo_T g) s M s.heap [] := ⟨hB0.1, hB0.2.1, hB0.2.2, va_S.rf⟩
  have hl := lv_entry ([.int x0]) (n := 1) (Nat.le_of_ble_eq_true rfl)
  rw [hv1, lg_entry_eq]
  rw [← hv1]
  generalize (lg_sl [.int x0] ++ List.replicate (1 - (lg_sl [.int x0]).length) Slot.unset).toArray = ls at hl ⊢
  have hl : lv_has ls 1 [(0, .int x0)] := hl
  unfold pp_M_isCurrency at hP
  refine lv_iload_n hx hb d_M_isCurrency_0 rfl (lv_at hl 0 rfl) ?_
  refine lv_if_lt (tgt := 13) hx hb d_M_isCurrency_1 (by decide) (fun hc => ?_) (fun hc => ?_)
  · replace hP := hP.1 hc
    refine lv_iconst (v := 0) hx hb d_M_isCurrency_13 (by decide) ?_
    exact mo_zret hx hb hr hlocks hok hP d_M_isCurrency_14
  · replace hP := hP.2 hc
    refine lv_iload_n hx hb d_M_isCurrency_4 rfl (lv_at hl 0 rfl) ?_
    refine lv_iconst (v := 3) hx hb d_M_isCurrency_5 (by decide) ?_
    refine lv_icmp_ge (tgt := 13) hx hb d_M_isCurrency_6 (by decide) (fun hc => ?_) (fun hc => ?_)
    · replace hP := hP.1 hc
      refine lv_iconst (v := 0) hx hb d_M_isCurrency_13 (by decide) ?_
      exact mo_zret hx hb hr hlocks hok hP d_M_isCurrency_14
    · replace hP := hP.2 hc
      refine lv_iconst (v := 1) hx hb d_M_isCurrency_9 (by decide) ?_
      refine lv_goto (tgt := 14) hx hb d_M_isCurrency_10 (by decide) ?_
      exact mo_zret hx hb hr hlocks hok hP d_M_isCurrency_14

abbrev b_M_rate : ByteArray := prog_6_method_9_code
def y_M_rate : MethodName := ⟨"PurseHouseModel", "rate", "(IIII)Z"⟩
def ws_M_rate : List Cond := .code y_M_rate b_M_rate 5 (Option.some Jvm.ClassFile.FieldType.boolean) :: lw_g
theorem d_M_rate_0 : decode b_M_rate 0 = .ok (.aload_n 0, 1) := by decide +kernel
theorem d_M_rate_1 : decode b_M_rate 1 = .ok (.iconst 0, 1) := by decide +kernel
theorem d_M_rate_2 : decode b_M_rate 2 = .ok (.putfield 76, 3) := by decide +kernel
theorem d_M_rate_5 : decode b_M_rate 5 = .ok (.iload_n 1, 1) := by decide +kernel
theorem d_M_rate_6 : decode b_M_rate 6 = .ok (.invokestatic 90, 3) := by decide +kernel
theorem d_M_rate_9 : decode b_M_rate 9 = .ok (.ifCond .eq 39, 3) := by decide +kernel
theorem d_M_rate_12 : decode b_M_rate 12 = .ok (.iload_n 2, 1) := by decide +kernel
theorem d_M_rate_13 : decode b_M_rate 13 = .ok (.invokestatic 90, 3) := by decide +kernel
theorem d_M_rate_16 : decode b_M_rate 16 = .ok (.ifCond .eq 32, 3) := by decide +kernel
theorem d_M_rate_19 : decode b_M_rate 19 = .ok (.iload_n 1, 1) := by decide +kernel
theorem d_M_rate_20 : decode b_M_rate 20 = .ok (.iload_n 2, 1) := by decide +kernel
theorem d_M_rate_21 : decode b_M_rate 21 = .ok (.if_icmp .eq 27, 3) := by decide +kernel
theorem d_M_rate_24 : decode b_M_rate 24 = .ok (.iload_n 3, 1) := by decide +kernel
theorem d_M_rate_25 : decode b_M_rate 25 = .ok (.iconst 1, 1) := by decide +kernel
theorem d_M_rate_26 : decode b_M_rate 26 = .ok (.if_icmp .lt 22, 3) := by decide +kernel
theorem d_M_rate_29 : decode b_M_rate 29 = .ok (.iload_n 3, 1) := by decide +kernel
theorem d_M_rate_30 : decode b_M_rate 30 = .ok (.ldc 93, 2) := by decide +kernel
theorem d_M_rate_32 : decode b_M_rate 32 = .ok (.if_icmp .gt 16, 3) := by decide +kernel
theorem d_M_rate_35 : decode b_M_rate 35 = .ok (.iload 4, 2) := by decide +kernel
theorem d_M_rate_37 : decode b_M_rate 37 = .ok (.iconst 1, 1) := by decide +kernel
theorem d_M_rate_38 : decode b_M_rate 38 = .ok (.if_icmp .lt 10, 3) := by decide +kernel
theorem d_M_rate_41 : decode b_M_rate 41 = .ok (.iload 4, 2) := by decide +kernel
theorem d_M_rate_43 : decode b_M_rate 43 = .ok (.ldc 93, 2) := by decide +kernel
theorem d_M_rate_45 : decode b_M_rate 45 = .ok (.if_icmp .le 5, 3) := by decide +kernel
theorem d_M_rate_48 : decode b_M_rate 48 = .ok (.iconst 0, 1) := by decide +kernel
theorem d_M_rate_49 : decode b_M_rate 49 = .ok (.ireturn, 1) := by decide +kernel
theorem d_M_rate_50 : decode b_M_rate 50 = .ok (.aload_n 0, 1) := by decide +kernel
theorem d_M_rate_51 : decode b_M_rate 51 = .ok (.getfield 20, 3) := by decide +kernel
theorem d_M_rate_54 : decode b_M_rate 54 = .ok (.iconst 3, 1) := by decide +kernel
theorem d_M_rate_55 : decode b_M_rate 55 = .ok (.iload_n 1, 1) := by decide +kernel
theorem d_M_rate_56 : decode b_M_rate 56 = .ok (.imul, 1) := by decide +kernel
theorem d_M_rate_57 : decode b_M_rate 57 = .ok (.iload_n 2, 1) := by decide +kernel
theorem d_M_rate_58 : decode b_M_rate 58 = .ok (.iadd, 1) := by decide +kernel
theorem d_M_rate_59 : decode b_M_rate 59 = .ok (.iload_n 3, 1) := by decide +kernel
theorem d_M_rate_60 : decode b_M_rate 60 = .ok (.iastore, 1) := by decide +kernel
theorem d_M_rate_61 : decode b_M_rate 61 = .ok (.aload_n 0, 1) := by decide +kernel
theorem d_M_rate_62 : decode b_M_rate 62 = .ok (.getfield 23, 3) := by decide +kernel
theorem d_M_rate_65 : decode b_M_rate 65 = .ok (.iconst 3, 1) := by decide +kernel
theorem d_M_rate_66 : decode b_M_rate 66 = .ok (.iload_n 1, 1) := by decide +kernel
theorem d_M_rate_67 : decode b_M_rate 67 = .ok (.imul, 1) := by decide +kernel
theorem d_M_rate_68 : decode b_M_rate 68 = .ok (.iload_n 2, 1) := by decide +kernel
theorem d_M_rate_69 : decode b_M_rate 69 = .ok (.iadd, 1) := by decide +kernel
theorem d_M_rate_70 : decode b_M_rate 70 = .ok (.iload 4, 2) := by decide +kernel
theorem d_M_rate_72 : decode b_M_rate 72 = .ok (.iastore, 1) := by decide +kernel
theorem d_M_rate_73 : decode b_M_rate 73 = .ok (.iconst 1, 1) := by decide +kernel
theorem d_M_rate_74 : decode b_M_rate 74 = .ok (.ireturn, 1) := by decide +kernel
def pp_M_rate (g : Nat → ClassId) (e0 : Nat → Nat) (K : Int32 → mo_M → Prop) (M : mo_M) (x0 : Nat) (x1 : Int32) (x2 : Int32) (x3 : Int32) (x4 : Int32) : Prop := mp_pt M x0 4 0 (.int ((0 : Int32))) (fun M1 => pp_M_isCurrency g e0 (fun r3 M2 => ((r3 = 0 → (narrow .boolean (.int ((0 : Int32))) = .int ((0 : Int32)) ∧ K ((0 : Int32)) M2)) ∧ (¬ (r3 = 0) → pp_M_isCurrency g e0 (fun r5 M4 => ((r5 = 0 → (narrow .boolean (.int ((0 : Int32))) = .int ((0 : Int32)) ∧ K ((0 : Int32)) M4)) ∧ (¬ (r5 = 0) → ((x1 = x2 → (narrow .boolean (.int ((0 : Int32))) = .int ((0 : Int32)) ∧ K ((0 : Int32)) M4)) ∧ (¬ (x1 = x2) → ((x3 < ((1 : Int32)) → (narrow .boolean (.int ((0 : Int32))) = .int ((0 : Int32)) ∧ K ((0 : Int32)) M4)) ∧ (¬ (x3 < ((1 : Int32))) → ((((1000000 : Int32)) < x3 → (narrow .boolean (.int ((0 : Int32))) = .int ((0 : Int32)) ∧ K ((0 : Int32)) M4)) ∧ (¬ (((1000000 : Int32)) < x3) → ((x4 < ((1 : Int32)) → (narrow .boolean (.int ((0 : Int32))) = .int ((0 : Int32)) ∧ K ((0 : Int32)) M4)) ∧ (¬ (x4 < ((1 : Int32))) → ((x4 ≤ ((1000000 : Int32)) → mp_gr M4 x0 4 7 (fun v6 => mp_si (g 0) M4 v6 ((((((3 : Int32)) * x1)) + x2)) x3 (fun M7 => mp_gr M7 x0 4 8 (fun v8 => mp_si (g 0) M7 v8 ((((((3 : Int32)) * x1)) + x2)) x4 (fun M9 => (narrow .boolean (.int ((1 : Int32))) = .int ((1 : Int32)) ∧ K ((1 : Int32)) M9)))))) ∧ (¬ (x4 ≤ ((1000000 : Int32))) → (narrow .boolean (.int ((0 : Int32))) = .int ((0 : Int32)) ∧ K ((0 : Int32)) M4)))))))))))))) M2 x2))) M1 x1)
set_option maxHeartbeats 4000000 in
set_option maxRecDepth 100000 in
theorem cc_M_rate (l : Launch) (L0 : Nat) (D : va_G) {g : Nat → ClassId} {e0 : Nat → Nat} {K : Int32 → mo_M → Prop} {M : mo_M} {x0 : Nat} {x1 : Int32} {x2 : Int32} {x3 : Int32} {x4 : Int32} (hP : pp_M_rate g e0 K M x0 x1 x2 x3 x4) : Met l y_M_rate ws_M_rate (mo_R 1 0 0 20) (va_Pc [.ref x0, .int x1, .int x2, .int x3, .int x4] (fun U => mo_B L0 e0 D vwCl (mo_T g) M U)) (mo_Qi L0 e0 D vwCl (mo_T g) K) 0 0 (fun q => L0 ≤ q) := by
  refine Met.ofW (cc := b_M_rate) (maxL := 5) (ret := (Option.some Jvm.ClassFile.FieldType.boolean)) (by decide +kernel) rfl ?_
  intro p e s m args below meth c s₁ B hml hv
  obtain ⟨hv1, hB0⟩ := hv
  have hx := B.exec
  have hb := B.bytes
  have hr := B.returns
  have hts : ∀ w ∈ lw_g, w.before args s = true := fun w hw => atoms_spec (ws := ws_M_rate) B.pre w (List.mem_cons_of_mem _ hw)
  have hown : s.vm.findClass "PurseHouseModel" = some m.cls := findClass_of_methodNamed B.named
  have hlocks := B.notSynchronized
  have hok : mo_ok L0 e0 D vwCl (mo_T g) s M s.heap [] := ⟨hB0.1, hB0.2.1, hB0.2.2, va_S.rf⟩
  have hl := lv_entry ([.ref x0, .int x1, .int x2, .int x3, .int x4]) (n := 5) (Nat.le_of_ble_eq_true rfl)
  rw [hv1, lg_entry_eq]
  rw [← hv1]
  generalize (lg_sl [.ref x0, .int x1, .int x2, .int x3, .int x4] ++ List.replicate (5 - (lg_sl [.ref x0, .int x1, .int x2, .int x3, .int x4]).length) Slot.unset).toArray = ls at hl ⊢
  have hl : lv_has ls 5 [(0, .ref x0), (1, .int x1), (2, .int x2), (3, .int x3), (4, .int x4)] := hl
  unfold pp_M_rate at hP
  refine lv_aload_n hx hb d_M_rate_0 rfl (lv_at hl 0 rfl) ?_
  refine lv_iconst (v := 0) hx hb d_M_rate_1 (by decide) ?_
  refine mr_pt (C := "PurseHouseModel") (T := F_4) (N := 27) (ref := "PurseHouseModel") (ty := .int) hx hb hts hown hok hP ui_4 ty_4 th_4 tn_4 rfl (by decide) (hts _ wd_610) (fun _ h => h) rfl (by decide +kernel) rfl rfl d_M_rate_2 (fun M1 H locs hP hok => ?_)
  refine lv_iload_n hx hb d_M_rate_5 rfl (lv_at hl 1 rfl) ?_
  refine mo_calli hok (va_runS (As := [.int x1]) (rest := []) ⟨hx, hb, hml, hown, hts⟩ (cc_M_isCurrency l L0 D hP) ⟨(callB_of 1 hts (lw_gi wd_711) rfl rfl rfl (hts _ wd_39) (hts _ wd_709) (by decide +kernel) ⟨Nat.le_of_ble_eq_true rfl, Nat.le_of_ble_eq_true rfl⟩), hts _ wd_710⟩ (mo_preS hok [.int x1]) rfl rfl hl.1 rfl (lv_room (Nat.le_of_ble_eq_true rfl)) d_M_rate_6 ⟨Nat.zero_le _, Nat.zero_le _⟩) (fun r3 M2 H locs hP hok => ?_)
  refine lv_if_eq (tgt := 48) hx hb d_M_rate_9 (by decide) (fun hc => ?_) (fun hc => ?_)
  · replace hP := hP.1 hc
    refine lv_iconst (v := 0) hx hb d_M_rate_48 (by decide) ?_
    exact mo_zret hx hb hr hlocks hok hP d_M_rate_49
  · replace hP := hP.2 hc
    refine lv_iload_n hx hb d_M_rate_12 rfl (lv_at hl 2 rfl) ?_
    refine mo_calli hok (va_runS (As := [.int x2]) (rest := []) ⟨hx, hb, hml, hown, hts⟩ (cc_M_isCurrency l L0 D hP) ⟨(callB_of 1 hts (lw_gi wd_711) rfl rfl rfl (hts _ wd_39) (hts _ wd_709) (by decide +kernel) ⟨Nat.le_of_ble_eq_true rfl, Nat.le_of_ble_eq_true rfl⟩), hts _ wd_710⟩ (mo_preS hok [.int x2]) rfl rfl hl.1 rfl (lv_room (Nat.le_of_ble_eq_true rfl)) d_M_rate_13 ⟨Nat.zero_le _, Nat.zero_le _⟩) (fun r5 M4 H locs hP hok => ?_)
    refine lv_if_eq (tgt := 48) hx hb d_M_rate_16 (by decide) (fun hc => ?_) (fun hc => ?_)
    · replace hP := hP.1 hc
      refine lv_iconst (v := 0) hx hb d_M_rate_48 (by decide) ?_
      exact mo_zret hx hb hr hlocks hok hP d_M_rate_49
    · replace hP := hP.2 hc
      refine lv_iload_n hx hb d_M_rate_19 rfl (lv_at hl 1 rfl) ?_
      refine lv_iload_n hx hb d_M_rate_20 rfl (lv_at hl 2 rfl) ?_
      refine lv_icmp_eq (tgt := 48) hx hb d_M_rate_21 (by decide) (fun hc => ?_) (fun hc => ?_)
      · replace hP := hP.1 hc
        refine lv_iconst (v := 0) hx hb d_M_rate_48 (by decide) ?_
        exact mo_zret hx hb hr hlocks hok hP d_M_rate_49
      · replace hP := hP.2 hc
        refine lv_iload_n hx hb d_M_rate_24 rfl (lv_at hl 3 rfl) ?_
        refine lv_iconst (v := 1) hx hb d_M_rate_25 (by decide) ?_
        refine lv_icmp_lt (tgt := 48) hx hb d_M_rate_26 (by decide) (fun hc => ?_) (fun hc => ?_)
        · replace hP := hP.1 hc
          refine lv_iconst (v := 0) hx hb d_M_rate_48 (by decide) ?_
          exact mo_zret hx hb hr hlocks hok hP d_M_rate_49
        · replace hP := hP.2 hc
          refine lv_iload_n hx hb d_M_rate_29 rfl (lv_at hl 3 rfl) ?_
          refine lv_ldc hx hb hown (hts _ wd_712) d_M_rate_30 ?_
          refine lv_icmp_gt (tgt := 48) hx hb d_M_rate_32 (by decide) (fun hc => ?_) (fun hc => ?_)
          · replace hP := hP.1 hc
            refine lv_iconst (v := 0) hx hb d_M_rate_48 (by decide) ?_
            exact mo_zret hx hb hr hlocks hok hP d_M_rate_49
          · replace hP := hP.2 hc
            refine lv_iload hx hb d_M_rate_35 (lv_at hl 4 rfl) ?_
            refine lv_iconst (v := 1) hx hb d_M_rate_37 (by decide) ?_
            refine lv_icmp_lt (tgt := 48) hx hb d_M_rate_38 (by decide) (fun hc => ?_) (fun hc => ?_)
            · replace hP := hP.1 hc
              refine lv_iconst (v := 0) hx hb d_M_rate_48 (by decide) ?_
              exact mo_zret hx hb hr hlocks hok hP d_M_rate_49
            · replace hP := hP.2 hc
              refine lv_iload hx hb d_M_rate_41 (lv_at hl 4 rfl) ?_
              refine lv_ldc hx hb hown (hts _ wd_712) d_M_rate_43 ?_
              refine lv_icmp_le (tgt := 50) hx hb d_M_rate_45 (by decide) (fun hc => ?_) (fun hc => ?_)
              · replace hP := hP.1 hc
                refine lv_aload_n hx hb d_M_rate_50 rfl (lv_at hl 0 rfl) ?_
                refine mr_gr (C := "PurseHouseModel") (T := F_4) (N := 27) (ref := "PurseHouseModel") hx hb hts hown hok hP ui_4 rfl (by decide) (hts _ wd_617) (fun _ h => h) d_M_rate_51 (fun v6 hP => ?_)
                refine lv_iconst (v := 3) hx hb d_M_rate_54 (by decide) ?_
                refine lv_iload_n hx hb d_M_rate_55 rfl (lv_at hl 1 rfl) ?_
                refine lv_imul hx hb d_M_rate_56 ?_
                refine lv_iload_n hx hb d_M_rate_57 rfl (lv_at hl 2 rfl) ?_
                refine lv_iadd hx hb d_M_rate_58 ?_
                refine lv_iload_n hx hb d_M_rate_59 rfl (lv_at hl 3 rfl) ?_
                refine mr_si hx hb hok hP 0 rfl d_M_rate_60 (fun M7 H locs hP hok => ?_)
                refine lv_aload_n hx hb d_M_rate_61 rfl (lv_at hl 0 rfl) ?_
                refine mr_gr (C := "PurseHouseModel") (T := F_4) (N := 27) (ref := "PurseHouseModel") hx hb hts hown hok hP ui_4 rfl (by decide) (hts _ wd_618) (fun _ h => h) d_M_rate_62 (fun v8 hP => ?_)
                refine lv_iconst (v := 3) hx hb d_M_rate_65 (by decide) ?_
                refine lv_iload_n hx hb d_M_rate_66 rfl (lv_at hl 1 rfl) ?_
                refine lv_imul hx hb d_M_rate_67 ?_
                refine lv_iload_n hx hb d_M_rate_68 rfl (lv_at hl 2 rfl) ?_
                refine lv_iadd hx hb d_M_rate_69 ?_
                refine lv_iload hx hb d_M_rate_70 (lv_at hl 4 rfl) ?_
                refine mr_si hx hb hok hP 0 rfl d_M_rate_72 (fun M9 H locs hP hok => ?_)
                refine lv_iconst (v := 1) hx hb d_M_rate_73 (by decide) ?_
                exact mo_zret hx hb hr hlocks hok hP d_M_rate_74
              · replace hP := hP.2 hc
                refine lv_iconst (v := 0) hx hb d_M_rate_48 (by decide) ?_
                exact mo_zret hx hb hr hlocks hok hP d_M_rate_49

abbrev b_M_isAmount : ByteArray := prog_6_method_7_code
def y_M_isAmount : MethodName := ⟨"PurseHouseModel", "isAmount", "(I)Z"⟩
def ws_M_isAmount : List Cond := .code y_M_isAmount b_M_isAmount 1 (Option.some Jvm.ClassFile.FieldType.boolean) :: lw_g
theorem d_M_isAmount_0 : decode b_M_isAmount 0 = .ok (.iload_n 0, 1) := by decide +kernel
theorem d_M_isAmount_1 : decode b_M_isAmount 1 = .ok (.iconst 1, 1) := by decide +kernel
theorem d_M_isAmount_2 : decode b_M_isAmount 2 = .ok (.if_icmp .lt 13, 3) := by decide +kernel
theorem d_M_isAmount_5 : decode b_M_isAmount 5 = .ok (.iload_n 0, 1) := by decide +kernel
theorem d_M_isAmount_6 : decode b_M_isAmount 6 = .ok (.ldc 85, 2) := by decide +kernel
theorem d_M_isAmount_8 : decode b_M_isAmount 8 = .ok (.if_icmp .gt 7, 3) := by decide +kernel
theorem d_M_isAmount_11 : decode b_M_isAmount 11 = .ok (.iconst 1, 1) := by decide +kernel
theorem d_M_isAmount_12 : decode b_M_isAmount 12 = .ok (.goto 4, 3) := by decide +kernel
theorem d_M_isAmount_15 : decode b_M_isAmount 15 = .ok (.iconst 0, 1) := by decide +kernel
theorem d_M_isAmount_16 : decode b_M_isAmount 16 = .ok (.ireturn, 1) := by decide +kernel
def pp_M_isAmount (g : Nat → ClassId) (e0 : Nat → Nat) (K : Int32 → mo_M → Prop) (M : mo_M) (x0 : Int32) : Prop := ((x0 < ((1 : Int32)) → (narrow .boolean (.int ((0 : Int32))) = .int ((0 : Int32)) ∧ K ((0 : Int32)) M)) ∧ (¬ (x0 < ((1 : Int32))) → ((((1000000000 : Int32)) < x0 → (narrow .boolean (.int ((0 : Int32))) = .int ((0 : Int32)) ∧ K ((0 : Int32)) M)) ∧ (¬ (((1000000000 : Int32)) < x0) → (narrow .boolean (.int ((1 : Int32))) = .int ((1 : Int32)) ∧ K ((1 : Int32)) M)))))
set_option maxHeartbeats 4000000 in
set_option maxRecDepth 100000 in
theorem cc_M_isAmount (l : Launch) (L0 : Nat) (D : va_G) {g : Nat → ClassId} {e0 : Nat → Nat} {K : Int32 → mo_M → Prop} {M : mo_M} {x0 : Int32} (hP : pp_M_isAmount g e0 K M x0) : Met l y_M_isAmount ws_M_isAmount (mo_R 0 0 0 0) (va_Pc [.int x0] (fun U => mo_B L0 e0 D vwCl (mo_T g) M U)) (mo_Qi L0 e0 D vwCl (mo_T g) K) 0 0 (fun q => L0 ≤ q) := by
  refine Met.ofW (cc := b_M_isAmount) (maxL := 1) (ret := (Option.some Jvm.ClassFile.FieldType.boolean)) (by decide +kernel) rfl ?_
  intro p e s m args below meth c s₁ B hml hv
  obtain ⟨hv1, hB0⟩ := hv
  have hx := B.exec
  have hb := B.bytes
  have hr := B.returns
  have hts : ∀ w ∈ lw_g, w.before args s = true := fun w hw => atoms_spec (ws := ws_M_isAmount) B.pre w (List.mem_cons_of_mem _ hw)
  have hown : s.vm.findClass "PurseHouseModel" = some m.cls := findClass_of_methodNamed B.named
  have hlocks := B.notSynchronized
  have hok : mo_ok L0 e0 D vwCl (mo_T g) s M s.heap [] := ⟨hB0.1, hB0.2.1, hB0.2.2, va_S.rf⟩
  have hl := lv_entry ([.int x0]) (n := 1) (Nat.le_of_ble_eq_true rfl)
  rw [hv1, lg_entry_eq]
  rw [← hv1]
  generalize (lg_sl [.int x0] ++ List.replicate (1 - (lg_sl [.int x0]).length) Slot.unset).toArray = ls at hl ⊢
  have hl : lv_has ls 1 [(0, .int x0)] := hl
  unfold pp_M_isAmount at hP
  refine lv_iload_n hx hb d_M_isAmount_0 rfl (lv_at hl 0 rfl) ?_
  refine lv_iconst (v := 1) hx hb d_M_isAmount_1 (by decide) ?_
  refine lv_icmp_lt (tgt := 15) hx hb d_M_isAmount_2 (by decide) (fun hc => ?_) (fun hc => ?_)
  · replace hP := hP.1 hc
    refine lv_iconst (v := 0) hx hb d_M_isAmount_15 (by decide) ?_
    exact mo_zret hx hb hr hlocks hok hP d_M_isAmount_16
  · replace hP := hP.2 hc
    refine lv_iload_n hx hb d_M_isAmount_5 rfl (lv_at hl 0 rfl) ?_
    refine lv_ldc hx hb hown (hts _ wd_720) d_M_isAmount_6 ?_
    refine lv_icmp_gt (tgt := 15) hx hb d_M_isAmount_8 (by decide) (fun hc => ?_) (fun hc => ?_)
    · replace hP := hP.1 hc
      refine lv_iconst (v := 0) hx hb d_M_isAmount_15 (by decide) ?_
      exact mo_zret hx hb hr hlocks hok hP d_M_isAmount_16
    · replace hP := hP.2 hc
      refine lv_iconst (v := 1) hx hb d_M_isAmount_11 (by decide) ?_
      refine lv_goto (tgt := 16) hx hb d_M_isAmount_12 (by decide) ?_
      exact mo_zret hx hb hr hlocks hok hP d_M_isAmount_16

abbrev b_M_note : ByteArray := prog_6_method_10_code
def y_M_note : MethodName := ⟨"PurseHouseModel", "note", "(IIJJJ)V"⟩
def ws_M_note : List Cond := .code y_M_note b_M_note 9 (Option.none : Option Jvm.ClassFile.FieldType) :: lw_g
theorem d_M_note_0 : decode b_M_note 0 = .ok (.aload_n 0, 1) := by decide +kernel
theorem d_M_note_1 : decode b_M_note 1 = .ok (.dup, 1) := by decide +kernel
theorem d_M_note_2 : decode b_M_note 2 = .ok (.getfield 94, 3) := by decide +kernel
theorem d_M_note_5 : decode b_M_note 5 = .ok (.iconst 1, 1) := by decide +kernel
theorem d_M_note_6 : decode b_M_note 6 = .ok (.iadd, 1) := by decide +kernel
theorem d_M_note_7 : decode b_M_note 7 = .ok (.putfield 94, 3) := by decide +kernel
theorem d_M_note_10 : decode b_M_note 10 = .ok (.aload_n 0, 1) := by decide +kernel
theorem d_M_note_11 : decode b_M_note 11 = .ok (.getfield 26, 3) := by decide +kernel
theorem d_M_note_14 : decode b_M_note 14 = .ok (.aload_n 0, 1) := by decide +kernel
theorem d_M_note_15 : decode b_M_note 15 = .ok (.getfield 97, 3) := by decide +kernel
theorem d_M_note_18 : decode b_M_note 18 = .ok (.iload_n 1, 1) := by decide +kernel
theorem d_M_note_19 : decode b_M_note 19 = .ok (.iastore, 1) := by decide +kernel
theorem d_M_note_20 : decode b_M_note 20 = .ok (.aload_n 0, 1) := by decide +kernel
theorem d_M_note_21 : decode b_M_note 21 = .ok (.getfield 29, 3) := by decide +kernel
theorem d_M_note_24 : decode b_M_note 24 = .ok (.aload_n 0, 1) := by decide +kernel
theorem d_M_note_25 : decode b_M_note 25 = .ok (.getfield 97, 3) := by decide +kernel
theorem d_M_note_28 : decode b_M_note 28 = .ok (.iload_n 2, 1) := by decide +kernel
theorem d_M_note_29 : decode b_M_note 29 = .ok (.iastore, 1) := by decide +kernel
theorem d_M_note_30 : decode b_M_note 30 = .ok (.aload_n 0, 1) := by decide +kernel
theorem d_M_note_31 : decode b_M_note 31 = .ok (.getfield 32, 3) := by decide +kernel
theorem d_M_note_34 : decode b_M_note 34 = .ok (.aload_n 0, 1) := by decide +kernel
theorem d_M_note_35 : decode b_M_note 35 = .ok (.getfield 97, 3) := by decide +kernel
theorem d_M_note_38 : decode b_M_note 38 = .ok (.aload_n 0, 1) := by decide +kernel
theorem d_M_note_39 : decode b_M_note 39 = .ok (.getfield 94, 3) := by decide +kernel
theorem d_M_note_42 : decode b_M_note 42 = .ok (.iastore, 1) := by decide +kernel
theorem d_M_note_43 : decode b_M_note 43 = .ok (.aload_n 0, 1) := by decide +kernel
theorem d_M_note_44 : decode b_M_note 44 = .ok (.getfield 35, 3) := by decide +kernel
theorem d_M_note_47 : decode b_M_note 47 = .ok (.aload_n 0, 1) := by decide +kernel
theorem d_M_note_48 : decode b_M_note 48 = .ok (.getfield 97, 3) := by decide +kernel
theorem d_M_note_51 : decode b_M_note 51 = .ok (.iconst 1, 1) := by decide +kernel
theorem d_M_note_52 : decode b_M_note 52 = .ok (.iastore, 1) := by decide +kernel
theorem d_M_note_53 : decode b_M_note 53 = .ok (.aload_n 0, 1) := by decide +kernel
theorem d_M_note_54 : decode b_M_note 54 = .ok (.getfield 38, 3) := by decide +kernel
theorem d_M_note_57 : decode b_M_note 57 = .ok (.aload_n 0, 1) := by decide +kernel
theorem d_M_note_58 : decode b_M_note 58 = .ok (.getfield 97, 3) := by decide +kernel
theorem d_M_note_61 : decode b_M_note 61 = .ok (.lload_n 3, 1) := by decide +kernel
theorem d_M_note_62 : decode b_M_note 62 = .ok (.lastore, 1) := by decide +kernel
theorem d_M_note_63 : decode b_M_note 63 = .ok (.aload_n 0, 1) := by decide +kernel
theorem d_M_note_64 : decode b_M_note 64 = .ok (.getfield 42, 3) := by decide +kernel
theorem d_M_note_67 : decode b_M_note 67 = .ok (.aload_n 0, 1) := by decide +kernel
theorem d_M_note_68 : decode b_M_note 68 = .ok (.getfield 97, 3) := by decide +kernel
theorem d_M_note_71 : decode b_M_note 71 = .ok (.lload 5, 2) := by decide +kernel
theorem d_M_note_73 : decode b_M_note 73 = .ok (.lastore, 1) := by decide +kernel
theorem d_M_note_74 : decode b_M_note 74 = .ok (.aload_n 0, 1) := by decide +kernel
theorem d_M_note_75 : decode b_M_note 75 = .ok (.getfield 45, 3) := by decide +kernel
theorem d_M_note_78 : decode b_M_note 78 = .ok (.aload_n 0, 1) := by decide +kernel
theorem d_M_note_79 : decode b_M_note 79 = .ok (.getfield 97, 3) := by decide +kernel
theorem d_M_note_82 : decode b_M_note 82 = .ok (.lload 7, 2) := by decide +kernel
theorem d_M_note_84 : decode b_M_note 84 = .ok (.lastore, 1) := by decide +kernel
theorem d_M_note_85 : decode b_M_note 85 = .ok (.aload_n 0, 1) := by decide +kernel
theorem d_M_note_86 : decode b_M_note 86 = .ok (.dup, 1) := by decide +kernel
theorem d_M_note_87 : decode b_M_note 87 = .ok (.getfield 97, 3) := by decide +kernel
theorem d_M_note_90 : decode b_M_note 90 = .ok (.iconst 1, 1) := by decide +kernel
theorem d_M_note_91 : decode b_M_note 91 = .ok (.iadd, 1) := by decide +kernel
theorem d_M_note_92 : decode b_M_note 92 = .ok (.putfield 97, 3) := by decide +kernel
theorem d_M_note_95 : decode b_M_note 95 = .ok (.return_, 1) := by decide +kernel
def pp_M_note (g : Nat → ClassId) (e0 : Nat → Nat) (K : mo_M → Prop) (M : mo_M) (x0 : Nat) (x1 : Int32) (x2 : Int32) (x3 : Int64) (x5 : Int64) (x7 : Int64) : Prop := mp_gi M x0 4 2 (fun v1 => mp_pt M x0 4 2 (.int ((v1 + ((1 : Int32))))) (fun M2 => mp_gr M2 x0 4 10 (fun v3 => mp_gi M2 x0 4 9 (fun v4 => mp_si (g 0) M2 v3 v4 x1 (fun M5 => mp_gr M5 x0 4 11 (fun v6 => mp_gi M5 x0 4 9 (fun v7 => mp_si (g 0) M5 v6 v7 x2 (fun M8 => mp_gr M8 x0 4 12 (fun v9 => mp_gi M8 x0 4 9 (fun v10 => mp_gi M8 x0 4 2 (fun v11 => mp_si (g 0) M8 v9 v10 v11 (fun M12 => mp_gr M12 x0 4 13 (fun v13 => mp_gi M12 x0 4 9 (fun v14 => mp_si (g 0) M12 v13 v14 ((1 : Int32)) (fun M15 => mp_gr M15 x0 4 14 (fun v16 => mp_gi M15 x0 4 9 (fun v17 => mp_sl (g 1) M15 v16 v17 x3 (fun M18 => mp_gr M18 x0 4 15 (fun v19 => mp_gi M18 x0 4 9 (fun v20 => mp_sl (g 1) M18 v19 v20 x5 (fun M21 => mp_gr M21 x0 4 16 (fun v22 => mp_gi M21 x0 4 9 (fun v23 => mp_sl (g 1) M21 v22 v23 x7 (fun M24 => mp_gi M24 x0 4 9 (fun v25 => mp_pt M24 x0 4 9 (.int ((v25 + ((1 : Int32))))) (fun M26 => K M26))))))))))))))))))))))))))
set_option maxHeartbeats 4000000 in
set_option maxRecDepth 100000 in
theorem cc_M_note (l : Launch) (L0 : Nat) (D : va_G) {g : Nat → ClassId} {e0 : Nat → Nat} {K : mo_M → Prop} {M : mo_M} {x0 : Nat} {x1 : Int32} {x2 : Int32} {x3 : Int64} {x5 : Int64} {x7 : Int64} (hP : pp_M_note g e0 K M x0 x1 x2 x3 x5 x7) : Met l y_M_note ws_M_note (mo_R 0 0 0 0) (va_Pc [.ref x0, .int x1, .int x2, .long x3, .long x5, .long x7] (fun U => mo_B L0 e0 D vwCl (mo_T g) M U)) (mo_Qv L0 e0 D vwCl (mo_T g) K) 0 0 (fun q => L0 ≤ q) := by
  refine Met.ofW (cc := b_M_note) (maxL := 9) (ret := (Option.none : Option Jvm.ClassFile.FieldType)) (by decide +kernel) rfl ?_
  intro p e s m args below meth c s₁ B hml hv
  obtain ⟨hv1, hB0⟩ := hv
  have hx := B.exec
  have hb := B.bytes
  have hr := B.returns
  have hts : ∀ w ∈ lw_g, w.before args s = true := fun w hw => atoms_spec (ws := ws_M_note) B.pre w (List.mem_cons_of_mem _ hw)
  have hown : s.vm.findClass "PurseHouseModel" = some m.cls := findClass_of_methodNamed B.named
  have hlocks := B.notSynchronized
  have hok : mo_ok L0 e0 D vwCl (mo_T g) s M s.heap [] := ⟨hB0.1, hB0.2.1, hB0.2.2, va_S.rf⟩
  have hl := lv_entry ([.ref x0, .int x1, .int x2, .long x3, .long x5, .long x7]) (n := 9) (Nat.le_of_ble_eq_true rfl)
  rw [hv1, lg_entry_eq]
  rw [← hv1]
  generalize (lg_sl [.ref x0, .int x1, .int x2, .long x3, .long x5, .long x7] ++ List.replicate (9 - (lg_sl [.ref x0, .int x1, .int x2, .long x3, .long x5, .long x7]).length) Slot.unset).toArray = ls at hl ⊢
  have hl : lv_has ls 9 [(0, .ref x0), (1, .int x1), (2, .int x2), (3, .long x3), (5, .long x5), (7, .long x7)] := hl
  unfold pp_M_note at hP
  refine lv_aload_n hx hb d_M_note_0 rfl (lv_at hl 0 rfl) ?_
  refine lv_dup hx hb d_M_note_1 rfl ?_
  refine mr_gi (C := "PurseHouseModel") (T := F_4) (N := 27) (ref := "PurseHouseModel") hx hb hts hown hok hP ui_4 rfl (by decide) (hts _ wd_612) (fun _ h => h) d_M_note_2 (fun v1 hP => ?_)
  refine lv_iconst (v := 1) hx hb d_M_note_5 (by decide) ?_
  refine lv_iadd hx hb d_M_note_6 ?_
  refine mr_pt (C := "PurseHouseModel") (T := F_4) (N := 27) (ref := "PurseHouseModel") (ty := .int) hx hb hts hown hok hP ui_4 ty_4 th_4 tn_4 rfl (by decide) (hts _ wd_612) (fun _ h => h) rfl (by decide +kernel) rfl rfl d_M_note_7 (fun M2 H locs hP hok => ?_)
  refine lv_aload_n hx hb d_M_note_10 rfl (lv_at hl 0 rfl) ?_
  refine mr_gr (C := "PurseHouseModel") (T := F_4) (N := 27) (ref := "PurseHouseModel") hx hb hts hown hok hP ui_4 rfl (by decide) (hts _ wd_620) (fun _ h => h) d_M_note_11 (fun v3 hP => ?_)
  refine lv_aload_n hx hb d_M_note_14 rfl (lv_at hl 0 rfl) ?_
  refine mr_gi (C := "PurseHouseModel") (T := F_4) (N := 27) (ref := "PurseHouseModel") hx hb hts hown hok hP ui_4 rfl (by decide) (hts _ wd_619) (fun _ h => h) d_M_note_15 (fun v4 hP => ?_)
  refine lv_iload_n hx hb d_M_note_18 rfl (lv_at hl 1 rfl) ?_
  refine mr_si hx hb hok hP 0 rfl d_M_note_19 (fun M5 H locs hP hok => ?_)
  refine lv_aload_n hx hb d_M_note_20 rfl (lv_at hl 0 rfl) ?_
  refine mr_gr (C := "PurseHouseModel") (T := F_4) (N := 27) (ref := "PurseHouseModel") hx hb hts hown hok hP ui_4 rfl (by decide) (hts _ wd_621) (fun _ h => h) d_M_note_21 (fun v6 hP => ?_)
  refine lv_aload_n hx hb d_M_note_24 rfl (lv_at hl 0 rfl) ?_
  refine mr_gi (C := "PurseHouseModel") (T := F_4) (N := 27) (ref := "PurseHouseModel") hx hb hts hown hok hP ui_4 rfl (by decide) (hts _ wd_619) (fun _ h => h) d_M_note_25 (fun v7 hP => ?_)
  refine lv_iload_n hx hb d_M_note_28 rfl (lv_at hl 2 rfl) ?_
  refine mr_si hx hb hok hP 0 rfl d_M_note_29 (fun M8 H locs hP hok => ?_)
  refine lv_aload_n hx hb d_M_note_30 rfl (lv_at hl 0 rfl) ?_
  refine mr_gr (C := "PurseHouseModel") (T := F_4) (N := 27) (ref := "PurseHouseModel") hx hb hts hown hok hP ui_4 rfl (by decide) (hts _ wd_622) (fun _ h => h) d_M_note_31 (fun v9 hP => ?_)
  refine lv_aload_n hx hb d_M_note_34 rfl (lv_at hl 0 rfl) ?_
  refine mr_gi (C := "PurseHouseModel") (T := F_4) (N := 27) (ref := "PurseHouseModel") hx hb hts hown hok hP ui_4 rfl (by decide) (hts _ wd_619) (fun _ h => h) d_M_note_35 (fun v10 hP => ?_)
  refine lv_aload_n hx hb d_M_note_38 rfl (lv_at hl 0 rfl) ?_
  refine mr_gi (C := "PurseHouseModel") (T := F_4) (N := 27) (ref := "PurseHouseModel") hx hb hts hown hok hP ui_4 rfl (by decide) (hts _ wd_612) (fun _ h => h) d_M_note_39 (fun v11 hP => ?_)
  refine mr_si hx hb hok hP 0 rfl d_M_note_42 (fun M12 H locs hP hok => ?_)
  refine lv_aload_n hx hb d_M_note_43 rfl (lv_at hl 0 rfl) ?_
  refine mr_gr (C := "PurseHouseModel") (T := F_4) (N := 27) (ref := "PurseHouseModel") hx hb hts hown hok hP ui_4 rfl (by decide) (hts _ wd_623) (fun _ h => h) d_M_note_44 (fun v13 hP => ?_)
  refine lv_aload_n hx hb d_M_note_47 rfl (lv_at hl 0 rfl) ?_
  refine mr_gi (C := "PurseHouseModel") (T := F_4) (N := 27) (ref := "PurseHouseModel") hx hb hts hown hok hP ui_4 rfl (by decide) (hts _ wd_619) (fun _ h => h) d_M_note_48 (fun v14 hP => ?_)
  refine lv_iconst (v := 1) hx hb d_M_note_51 (by decide) ?_
  refine mr_si hx hb hok hP 0 rfl d_M_note_52 (fun M15 H locs hP hok => ?_)
  refine lv_aload_n hx hb d_M_note_53 rfl (lv_at hl 0 rfl) ?_
  refine mr_gr (C := "PurseHouseModel") (T := F_4) (N := 27) (ref := "PurseHouseModel") hx hb hts hown hok hP ui_4 rfl (by decide) (hts _ wd_624) (fun _ h => h) d_M_note_54 (fun v16 hP => ?_)
  refine lv_aload_n hx hb d_M_note_57 rfl (lv_at hl 0 rfl) ?_
  refine mr_gi (C := "PurseHouseModel") (T := F_4) (N := 27) (ref := "PurseHouseModel") hx hb hts hown hok hP ui_4 rfl (by decide) (hts _ wd_619) (fun _ h => h) d_M_note_58 (fun v17 hP => ?_)
  refine lv_lload_n hx hb d_M_note_61 rfl (lv_at hl 3 rfl) ?_
  refine mr_sl hx hb hok hP 1 rfl d_M_note_62 (fun M18 H locs hP hok => ?_)
  refine lv_aload_n hx hb d_M_note_63 rfl (lv_at hl 0 rfl) ?_
  refine mr_gr (C := "PurseHouseModel") (T := F_4) (N := 27) (ref := "PurseHouseModel") hx hb hts hown hok hP ui_4 rfl (by decide) (hts _ wd_625) (fun _ h => h) d_M_note_64 (fun v19 hP => ?_)
  refine lv_aload_n hx hb d_M_note_67 rfl (lv_at hl 0 rfl) ?_
  refine mr_gi (C := "PurseHouseModel") (T := F_4) (N := 27) (ref := "PurseHouseModel") hx hb hts hown hok hP ui_4 rfl (by decide) (hts _ wd_619) (fun _ h => h) d_M_note_68 (fun v20 hP => ?_)
  refine lv_lload hx hb d_M_note_71 (lv_at hl 4 rfl) ?_
  refine mr_sl hx hb hok hP 1 rfl d_M_note_73 (fun M21 H locs hP hok => ?_)
  refine lv_aload_n hx hb d_M_note_74 rfl (lv_at hl 0 rfl) ?_
  refine mr_gr (C := "PurseHouseModel") (T := F_4) (N := 27) (ref := "PurseHouseModel") hx hb hts hown hok hP ui_4 rfl (by decide) (hts _ wd_626) (fun _ h => h) d_M_note_75 (fun v22 hP => ?_)
  refine lv_aload_n hx hb d_M_note_78 rfl (lv_at hl 0 rfl) ?_
  refine mr_gi (C := "PurseHouseModel") (T := F_4) (N := 27) (ref := "PurseHouseModel") hx hb hts hown hok hP ui_4 rfl (by decide) (hts _ wd_619) (fun _ h => h) d_M_note_79 (fun v23 hP => ?_)
  refine lv_lload hx hb d_M_note_82 (lv_at hl 5 rfl) ?_
  refine mr_sl hx hb hok hP 1 rfl d_M_note_84 (fun M24 H locs hP hok => ?_)
  refine lv_aload_n hx hb d_M_note_85 rfl (lv_at hl 0 rfl) ?_
  refine lv_dup hx hb d_M_note_86 rfl ?_
  refine mr_gi (C := "PurseHouseModel") (T := F_4) (N := 27) (ref := "PurseHouseModel") hx hb hts hown hok hP ui_4 rfl (by decide) (hts _ wd_619) (fun _ h => h) d_M_note_87 (fun v25 hP => ?_)
  refine lv_iconst (v := 1) hx hb d_M_note_90 (by decide) ?_
  refine lv_iadd hx hb d_M_note_91 ?_
  refine mr_pt (C := "PurseHouseModel") (T := F_4) (N := 27) (ref := "PurseHouseModel") (ty := .int) hx hb hts hown hok hP ui_4 ty_4 th_4 tn_4 rfl (by decide) (hts _ wd_619) (fun _ h => h) rfl (by decide +kernel) rfl rfl d_M_note_92 (fun M26 H locs hP hok => ?_)
  exact mo_vret hx hb hr hlocks hok hP d_M_note_95

abbrev b_M_mint : ByteArray := prog_6_method_14_code
def y_M_mint : MethodName := ⟨"PurseHouseModel", "mint", "(III)Z"⟩
def ws_M_mint : List Cond := .code y_M_mint b_M_mint 4 (Option.some Jvm.ClassFile.FieldType.boolean) :: lw_g
theorem d_M_mint_0 : decode b_M_mint 0 = .ok (.aload_n 0, 1) := by decide +kernel
theorem d_M_mint_1 : decode b_M_mint 1 = .ok (.iconst 0, 1) := by decide +kernel
theorem d_M_mint_2 : decode b_M_mint 2 = .ok (.putfield 76, 3) := by decide +kernel
theorem d_M_mint_5 : decode b_M_mint 5 = .ok (.aload_n 0, 1) := by decide +kernel
theorem d_M_mint_6 : decode b_M_mint 6 = .ok (.iload_n 1, 1) := by decide +kernel
theorem d_M_mint_7 : decode b_M_mint 7 = .ok (.invokevirtual 86, 3) := by decide +kernel
theorem d_M_mint_10 : decode b_M_mint 10 = .ok (.ifCond .eq 17, 3) := by decide +kernel
theorem d_M_mint_13 : decode b_M_mint 13 = .ok (.iload_n 2, 1) := by decide +kernel
theorem d_M_mint_14 : decode b_M_mint 14 = .ok (.invokestatic 90, 3) := by decide +kernel
theorem d_M_mint_17 : decode b_M_mint 17 = .ok (.ifCond .eq 10, 3) := by decide +kernel
theorem d_M_mint_20 : decode b_M_mint 20 = .ok (.iload_n 3, 1) := by decide +kernel
theorem d_M_mint_21 : decode b_M_mint 21 = .ok (.invokestatic 100, 3) := by decide +kernel
theorem d_M_mint_24 : decode b_M_mint 24 = .ok (.ifCond .ne 5, 3) := by decide +kernel
theorem d_M_mint_27 : decode b_M_mint 27 = .ok (.iconst 0, 1) := by decide +kernel
theorem d_M_mint_28 : decode b_M_mint 28 = .ok (.ireturn, 1) := by decide +kernel
theorem d_M_mint_29 : decode b_M_mint 29 = .ok (.aload_n 0, 1) := by decide +kernel
theorem d_M_mint_30 : decode b_M_mint 30 = .ok (.iload_n 1, 1) := by decide +kernel
theorem d_M_mint_31 : decode b_M_mint 31 = .ok (.iload_n 2, 1) := by decide +kernel
theorem d_M_mint_32 : decode b_M_mint 32 = .ok (.iload_n 3, 1) := by decide +kernel
theorem d_M_mint_33 : decode b_M_mint 33 = .ok (.i2l, 1) := by decide +kernel
theorem d_M_mint_34 : decode b_M_mint 34 = .ok (.lconst 0, 1) := by decide +kernel
theorem d_M_mint_35 : decode b_M_mint 35 = .ok (.iload_n 3, 1) := by decide +kernel
theorem d_M_mint_36 : decode b_M_mint 36 = .ok (.i2l, 1) := by decide +kernel
theorem d_M_mint_37 : decode b_M_mint 37 = .ok (.invokevirtual 103, 3) := by decide +kernel
theorem d_M_mint_40 : decode b_M_mint 40 = .ok (.iconst 1, 1) := by decide +kernel
theorem d_M_mint_41 : decode b_M_mint 41 = .ok (.ireturn, 1) := by decide +kernel
def pp_M_mint (g : Nat → ClassId) (e0 : Nat → Nat) (K : Int32 → mo_M → Prop) (M : mo_M) (x0 : Nat) (x1 : Int32) (x2 : Int32) (x3 : Int32) : Prop := mp_pt M x0 4 0 (.int ((0 : Int32))) (fun M1 => (mp_is M1 x0 4 ∧ pp_M_isKiosk g e0 (fun r3 M2 => ((r3 = 0 → (narrow .boolean (.int ((0 : Int32))) = .int ((0 : Int32)) ∧ K ((0 : Int32)) M2)) ∧ (¬ (r3 = 0) → pp_M_isCurrency g e0 (fun r5 M4 => ((r5 = 0 → (narrow .boolean (.int ((0 : Int32))) = .int ((0 : Int32)) ∧ K ((0 : Int32)) M4)) ∧ (¬ (r5 = 0) → pp_M_isAmount g e0 (fun r7 M6 => ((r7 = 0 → (narrow .boolean (.int ((0 : Int32))) = .int ((0 : Int32)) ∧ K ((0 : Int32)) M6)) ∧ (¬ (r7 = 0) → (mp_is M6 x0 4 ∧ pp_M_note g e0 (fun M8 => (narrow .boolean (.int ((1 : Int32))) = .int ((1 : Int32)) ∧ K ((1 : Int32)) M8)) M6 x0 x1 x2 x3.toInt64 ((0 : Int64)) x3.toInt64)))) M4 x3))) M2 x2))) M1 x0 x1))
set_option maxHeartbeats 4000000 in
set_option maxRecDepth 100000 in
theorem cc_M_mint (l : Launch) (L0 : Nat) (D : va_G) {g : Nat → ClassId} {e0 : Nat → Nat} {K : Int32 → mo_M → Prop} {M : mo_M} {x0 : Nat} {x1 : Int32} {x2 : Int32} {x3 : Int32} (hP : pp_M_mint g e0 K M x0 x1 x2 x3) : Met l y_M_mint ws_M_mint (mo_R 1 0 0 28) (va_Pc [.ref x0, .int x1, .int x2, .int x3] (fun U => mo_B L0 e0 D vwCl (mo_T g) M U)) (mo_Qi L0 e0 D vwCl (mo_T g) K) 0 0 (fun q => L0 ≤ q) := by
  refine Met.ofW (cc := b_M_mint) (maxL := 4) (ret := (Option.some Jvm.ClassFile.FieldType.boolean)) (by decide +kernel) rfl ?_
  intro p e s m args below meth c s₁ B hml hv
  obtain ⟨hv1, hB0⟩ := hv
  have hx := B.exec
  have hb := B.bytes
  have hr := B.returns
  have hts : ∀ w ∈ lw_g, w.before args s = true := fun w hw => atoms_spec (ws := ws_M_mint) B.pre w (List.mem_cons_of_mem _ hw)
  have hown : s.vm.findClass "PurseHouseModel" = some m.cls := findClass_of_methodNamed B.named
  have hlocks := B.notSynchronized
  have hok : mo_ok L0 e0 D vwCl (mo_T g) s M s.heap [] := ⟨hB0.1, hB0.2.1, hB0.2.2, va_S.rf⟩
  have hl := lv_entry ([.ref x0, .int x1, .int x2, .int x3]) (n := 4) (Nat.le_of_ble_eq_true rfl)
  rw [hv1, lg_entry_eq]
  rw [← hv1]
  generalize (lg_sl [.ref x0, .int x1, .int x2, .int x3] ++ List.replicate (4 - (lg_sl [.ref x0, .int x1, .int x2, .int x3]).length) Slot.unset).toArray = ls at hl ⊢
  have hl : lv_has ls 4 [(0, .ref x0), (1, .int x1), (2, .int x2), (3, .int x3)] := hl
  unfold pp_M_mint at hP
  refine lv_aload_n hx hb d_M_mint_0 rfl (lv_at hl 0 rfl) ?_
  refine lv_iconst (v := 0) hx hb d_M_mint_1 (by decide) ?_
  refine mr_pt (C := "PurseHouseModel") (T := F_4) (N := 27) (ref := "PurseHouseModel") (ty := .int) hx hb hts hown hok hP ui_4 ty_4 th_4 tn_4 rfl (by decide) (hts _ wd_610) (fun _ h => h) rfl (by decide +kernel) rfl rfl d_M_mint_2 (fun M1 H locs hP hok => ?_)
  refine lv_aload_n hx hb d_M_mint_5 rfl (lv_at hl 0 rfl) ?_
  refine lv_iload_n hx hb d_M_mint_6 rfl (lv_at hl 1 rfl) ?_
  obtain ⟨⟨fs9, he9⟩, hP⟩ := hP
  refine mo_calli hok (va_runV (As := [.int x1]) (rest := []) ⟨hx, hb, hml, hown, hts⟩ (cc_M_isKiosk l L0 D hP) ⟨(callB_of 1 hts (lw_gi wd_704) rfl rfl rfl (hts _ wd_39) (hts _ wd_701) (by decide +kernel) ⟨Nat.le_of_ble_eq_true rfl, Nat.le_of_ble_eq_true rfl⟩), hts _ wd_703, hts _ wd_15⟩ (mo_preV hok he9 rfl [.int x1]) rfl rfl hl.1 rfl (lv_room (Nat.le_of_ble_eq_true rfl)) d_M_mint_7 ⟨Nat.zero_le _, Nat.zero_le _⟩) (fun r3 M2 H locs hP hok => ?_)
  refine lv_if_eq (tgt := 27) hx hb d_M_mint_10 (by decide) (fun hc => ?_) (fun hc => ?_)
  · replace hP := hP.1 hc
    refine lv_iconst (v := 0) hx hb d_M_mint_27 (by decide) ?_
    exact mo_zret hx hb hr hlocks hok hP d_M_mint_28
  · replace hP := hP.2 hc
    refine lv_iload_n hx hb d_M_mint_13 rfl (lv_at hl 2 rfl) ?_
    refine mo_calli hok (va_runS (As := [.int x2]) (rest := []) ⟨hx, hb, hml, hown, hts⟩ (cc_M_isCurrency l L0 D hP) ⟨(callB_of 1 hts (lw_gi wd_711) rfl rfl rfl (hts _ wd_39) (hts _ wd_709) (by decide +kernel) ⟨Nat.le_of_ble_eq_true rfl, Nat.le_of_ble_eq_true rfl⟩), hts _ wd_710⟩ (mo_preS hok [.int x2]) rfl rfl hl.1 rfl (lv_room (Nat.le_of_ble_eq_true rfl)) d_M_mint_14 ⟨Nat.zero_le _, Nat.zero_le _⟩) (fun r5 M4 H locs hP hok => ?_)
    refine lv_if_eq (tgt := 27) hx hb d_M_mint_17 (by decide) (fun hc => ?_) (fun hc => ?_)
    · replace hP := hP.1 hc
      refine lv_iconst (v := 0) hx hb d_M_mint_27 (by decide) ?_
      exact mo_zret hx hb hr hlocks hok hP d_M_mint_28
    · replace hP := hP.2 hc
      refine lv_iload_n hx hb d_M_mint_20 rfl (lv_at hl 3 rfl) ?_
      refine mo_calli hok (va_runS (As := [.int x3]) (rest := []) ⟨hx, hb, hml, hown, hts⟩ (cc_M_isAmount l L0 D hP) ⟨(callB_of 1 hts (lw_gi wd_719) rfl rfl rfl (hts _ wd_39) (hts _ wd_717) (by decide +kernel) ⟨Nat.le_of_ble_eq_true rfl, Nat.le_of_ble_eq_true rfl⟩), hts _ wd_718⟩ (mo_preS hok [.int x3]) rfl rfl hl.1 rfl (lv_room (Nat.le_of_ble_eq_true rfl)) d_M_mint_21 ⟨Nat.zero_le _, Nat.zero_le _⟩) (fun r7 M6 H locs hP hok => ?_)
      refine lv_if_ne (tgt := 29) hx hb d_M_mint_24 (by decide) (fun hc => ?_) (fun hc => ?_)
      · replace hP := hP.2 hc
        refine lv_aload_n hx hb d_M_mint_29 rfl (lv_at hl 0 rfl) ?_
        refine lv_iload_n hx hb d_M_mint_30 rfl (lv_at hl 1 rfl) ?_
        refine lv_iload_n hx hb d_M_mint_31 rfl (lv_at hl 2 rfl) ?_
        refine lv_iload_n hx hb d_M_mint_32 rfl (lv_at hl 3 rfl) ?_
        refine lv_i2l hx hb d_M_mint_33 rfl ?_
        refine lv_lconst (v := 0) hx hb d_M_mint_34 (by decide) ?_
        refine lv_iload_n hx hb d_M_mint_35 rfl (lv_at hl 3 rfl) ?_
        refine lv_i2l hx hb d_M_mint_36 rfl ?_
        obtain ⟨⟨fs9, he9⟩, hP⟩ := hP
        refine mo_callv hok (va_runV (As := [.int x1, .int x2, .long x3.toInt64, .long ((0 : Int64)), .long x3.toInt64]) (rest := []) ⟨hx, hb, hml, hown, hts⟩ (cc_M_note l L0 D hP) ⟨(callB_of 5 hts (lw_gi wd_724) rfl rfl rfl (hts _ wd_39) (hts _ wd_721) (by decide +kernel) ⟨Nat.le_of_ble_eq_true rfl, Nat.le_of_ble_eq_true rfl⟩), hts _ wd_723, hts _ wd_16⟩ (mo_preV hok he9 rfl [.int x1, .int x2, .long x3.toInt64, .long ((0 : Int64)), .long x3.toInt64]) rfl rfl hl.1 rfl (lv_room (Nat.le_of_ble_eq_true rfl)) d_M_mint_37 ⟨Nat.zero_le _, Nat.zero_le _⟩) (fun M8 H locs hP hok => ?_)
        refine lv_iconst (v := 1) hx hb d_M_mint_40 (by decide) ?_
        exact mo_zret hx hb hr hlocks hok hP d_M_mint_41
      · replace hP := hP.1 hc
        refine lv_iconst (v := 0) hx hb d_M_mint_27 (by decide) ?_
        exact mo_zret hx hb hr hlocks hok hP d_M_mint_28

abbrev b_M_stockAt : ByteArray := prog_6_method_11_code
def y_M_stockAt : MethodName := ⟨"PurseHouseModel", "stockAt", "(III)J"⟩
def ws_M_stockAt : List Cond := .code y_M_stockAt b_M_stockAt 7 (Option.some Jvm.ClassFile.FieldType.long) :: lw_g
theorem d_M_stockAt_0 : decode b_M_stockAt 0 = .ok (.lconst 0, 1) := by decide +kernel
theorem d_M_stockAt_1 : decode b_M_stockAt 1 = .ok (.lstore 4, 2) := by decide +kernel
theorem d_M_stockAt_3 : decode b_M_stockAt 3 = .ok (.iconst 0, 1) := by decide +kernel
theorem d_M_stockAt_4 : decode b_M_stockAt 4 = .ok (.istore 6, 2) := by decide +kernel
theorem d_M_stockAt_6 : decode b_M_stockAt 6 = .ok (.iload 6, 2) := by decide +kernel
theorem d_M_stockAt_8 : decode b_M_stockAt 8 = .ok (.aload_n 0, 1) := by decide +kernel
theorem d_M_stockAt_9 : decode b_M_stockAt 9 = .ok (.getfield 97, 3) := by decide +kernel
theorem d_M_stockAt_12 : decode b_M_stockAt 12 = .ok (.if_icmp .ge 58, 3) := by decide +kernel
theorem d_M_stockAt_15 : decode b_M_stockAt 15 = .ok (.lload 4, 2) := by decide +kernel
theorem d_M_stockAt_17 : decode b_M_stockAt 17 = .ok (.aload_n 0, 1) := by decide +kernel
theorem d_M_stockAt_18 : decode b_M_stockAt 18 = .ok (.getfield 26, 3) := by decide +kernel
theorem d_M_stockAt_21 : decode b_M_stockAt 21 = .ok (.iload 6, 2) := by decide +kernel
theorem d_M_stockAt_23 : decode b_M_stockAt 23 = .ok (.iaload, 1) := by decide +kernel
theorem d_M_stockAt_24 : decode b_M_stockAt 24 = .ok (.iload_n 1, 1) := by decide +kernel
theorem d_M_stockAt_25 : decode b_M_stockAt 25 = .ok (.if_icmp .ne 35, 3) := by decide +kernel
theorem d_M_stockAt_28 : decode b_M_stockAt 28 = .ok (.aload_n 0, 1) := by decide +kernel
theorem d_M_stockAt_29 : decode b_M_stockAt 29 = .ok (.getfield 29, 3) := by decide +kernel
theorem d_M_stockAt_32 : decode b_M_stockAt 32 = .ok (.iload 6, 2) := by decide +kernel
theorem d_M_stockAt_34 : decode b_M_stockAt 34 = .ok (.iaload, 1) := by decide +kernel
theorem d_M_stockAt_35 : decode b_M_stockAt 35 = .ok (.iload_n 2, 1) := by decide +kernel
theorem d_M_stockAt_36 : decode b_M_stockAt 36 = .ok (.if_icmp .ne 24, 3) := by decide +kernel
theorem d_M_stockAt_39 : decode b_M_stockAt 39 = .ok (.aload_n 0, 1) := by decide +kernel
theorem d_M_stockAt_40 : decode b_M_stockAt 40 = .ok (.getfield 32, 3) := by decide +kernel
theorem d_M_stockAt_43 : decode b_M_stockAt 43 = .ok (.iload 6, 2) := by decide +kernel
theorem d_M_stockAt_45 : decode b_M_stockAt 45 = .ok (.iaload, 1) := by decide +kernel
theorem d_M_stockAt_46 : decode b_M_stockAt 46 = .ok (.iload_n 3, 1) := by decide +kernel
theorem d_M_stockAt_47 : decode b_M_stockAt 47 = .ok (.if_icmp .gt 13, 3) := by decide +kernel
theorem d_M_stockAt_50 : decode b_M_stockAt 50 = .ok (.aload_n 0, 1) := by decide +kernel
theorem d_M_stockAt_51 : decode b_M_stockAt 51 = .ok (.getfield 38, 3) := by decide +kernel
theorem d_M_stockAt_54 : decode b_M_stockAt 54 = .ok (.iload 6, 2) := by decide +kernel
theorem d_M_stockAt_56 : decode b_M_stockAt 56 = .ok (.laload, 1) := by decide +kernel
theorem d_M_stockAt_57 : decode b_M_stockAt 57 = .ok (.goto 4, 3) := by decide +kernel
theorem d_M_stockAt_60 : decode b_M_stockAt 60 = .ok (.lconst 0, 1) := by decide +kernel
theorem d_M_stockAt_61 : decode b_M_stockAt 61 = .ok (.ladd, 1) := by decide +kernel
theorem d_M_stockAt_62 : decode b_M_stockAt 62 = .ok (.lstore 4, 2) := by decide +kernel
theorem d_M_stockAt_64 : decode b_M_stockAt 64 = .ok (.iinc 6 1, 3) := by decide +kernel
theorem d_M_stockAt_67 : decode b_M_stockAt 67 = .ok (.goto (-61), 3) := by decide +kernel
theorem d_M_stockAt_70 : decode b_M_stockAt 70 = .ok (.lload 4, 2) := by decide +kernel
theorem d_M_stockAt_72 : decode b_M_stockAt 72 = .ok (.lreturn, 1) := by decide +kernel
def pp_M_stockAt_b61 (g : Nat → ClassId) (e0 : Nat → Nat) (K : Int64 → mo_M → Prop) (B_6 : mo_M → Nat → Int32 → Int32 → Int32 → Int64 → Int32 → Prop) (M : mo_M) (x0 : Nat) (x1 : Int32) (x2 : Int32) (x3 : Int32) (x6 : Int32) (s0 : Int64) (s1 : Int64) : Prop := B_6 M x0 x1 x2 x3 ((s1 + s0)) (x6 + 1)
def pp_M_stockAt_b60 (g : Nat → ClassId) (e0 : Nat → Nat) (K : Int64 → mo_M → Prop) (B_6 : mo_M → Nat → Int32 → Int32 → Int32 → Int64 → Int32 → Prop) (M : mo_M) (x0 : Nat) (x1 : Int32) (x2 : Int32) (x3 : Int32) (x6 : Int32) (s0 : Int64) : Prop := pp_M_stockAt_b61 g e0 K B_6 M x0 x1 x2 x3 x6 ((0 : Int64)) s0
def pp_M_stockAt_b6 (g : Nat → ClassId) (e0 : Nat → Nat) (K : Int64 → mo_M → Prop) : Nat → mo_M → Nat → Int32 → Int32 → Int32 → Int64 → Int32 → Prop
  | 0, _, _, _, _, _, _, _ => False
  | n + 1, M, x0, x1, x2, x3, x4, x6 => mp_gi M x0 4 9 (fun v2 => ((v2 ≤ x6 → K x4 M) ∧ (¬ (v2 ≤ x6) → mp_gr M x0 4 10 (fun v3 => mp_ai (g 0) M v3 x6 (fun v4 => ((v4 = x1 → mp_gr M x0 4 11 (fun v5 => mp_ai (g 0) M v5 x6 (fun v6 => ((v6 = x2 → mp_gr M x0 4 12 (fun v7 => mp_ai (g 0) M v7 x6 (fun v8 => ((x3 < v8 → pp_M_stockAt_b60 g e0 K (fun M x0 x1 x2 x3 x4 x6 => pp_M_stockAt_b6 g e0 K n M x0 x1 x2 x3 x4 x6) M x0 x1 x2 x3 x6 x4) ∧ (¬ (x3 < v8) → mp_gr M x0 4 14 (fun v9 => mp_al (g 1) M v9 x6 (fun v10 => pp_M_stockAt_b61 g e0 K (fun M x0 x1 x2 x3 x4 x6 => pp_M_stockAt_b6 g e0 K n M x0 x1 x2 x3 x4 x6) M x0 x1 x2 x3 x6 v10 x4))))))) ∧ (¬ (v6 = x2) → pp_M_stockAt_b60 g e0 K (fun M x0 x1 x2 x3 x4 x6 => pp_M_stockAt_b6 g e0 K n M x0 x1 x2 x3 x4 x6) M x0 x1 x2 x3 x6 x4))))) ∧ (¬ (v4 = x1) → pp_M_stockAt_b60 g e0 K (fun M x0 x1 x2 x3 x4 x6 => pp_M_stockAt_b6 g e0 K n M x0 x1 x2 x3 x4 x6) M x0 x1 x2 x3 x6 x4)))))))
def pp_M_stockAt (g : Nat → ClassId) (e0 : Nat → Nat) (K : Int64 → mo_M → Prop) (M : mo_M) (x0 : Nat) (x1 : Int32) (x2 : Int32) (x3 : Int32) : Prop := ∃ n1 : Nat, pp_M_stockAt_b6 g e0 K n1 M x0 x1 x2 x3 ((0 : Int64)) ((0 : Int32))
set_option maxHeartbeats 4000000 in
set_option maxRecDepth 100000 in
theorem cc_M_stockAt (l : Launch) (L0 : Nat) (D : va_G) {g : Nat → ClassId} {e0 : Nat → Nat} {K : Int64 → mo_M → Prop} {M : mo_M} {x0 : Nat} {x1 : Int32} {x2 : Int32} {x3 : Int32} (hP : pp_M_stockAt g e0 K M x0 x1 x2 x3) : Met l y_M_stockAt ws_M_stockAt (mo_R 0 0 0 0) (va_Pc [.ref x0, .int x1, .int x2, .int x3] (fun U => mo_B L0 e0 D vwCl (mo_T g) M U)) (mo_Ql L0 e0 D vwCl (mo_T g) K) 0 0 (fun q => L0 ≤ q) := by
  refine Met.ofW (cc := b_M_stockAt) (maxL := 7) (ret := (Option.some Jvm.ClassFile.FieldType.long)) (by decide +kernel) rfl ?_
  intro p e s m args below meth c s₁ B hml hv
  obtain ⟨hv1, hB0⟩ := hv
  have hx := B.exec
  have hb := B.bytes
  have hr := B.returns
  have hts : ∀ w ∈ lw_g, w.before args s = true := fun w hw => atoms_spec (ws := ws_M_stockAt) B.pre w (List.mem_cons_of_mem _ hw)
  have hown : s.vm.findClass "PurseHouseModel" = some m.cls := findClass_of_methodNamed B.named
  have hlocks := B.notSynchronized
  have w_61 : ∀ (B_6 : mo_M → Nat → Int32 → Int32 → Int32 → Int64 → Int32 → Prop) (hB_6 : ∀ (M : mo_M) (x0 : Nat) (x1 : Int32) (x2 : Int32) (x3 : Int32) (x4 : Int64) (x6 : Int32) (H : Heap) (locs : List Loc) (ls : Array Slot), B_6 M x0 x1 x2 x3 x4 x6 → mo_ok L0 e0 D vwCl (mo_T g) s M H locs → lv_has ls 7 [(0, .ref x0), (1, .int x1), (2, .int x2), (3, .int x3), (4, .long x4), (6, .int x6)] → W p l e (headSpec ws_M_stockAt (mo_R 0 0 0 0)).room s m args below meth c H locs 0 0 (mo_Z below (mo_Ql L0 e0 D vwCl (mo_T g) K) args s 0 0 L0) (F0 m 6 ls [])) (M : mo_M) (x0 : Nat) (x1 : Int32) (x2 : Int32) (x3 : Int32) (x6 : Int32) (s0 : Int64) (s1 : Int64) (H : Heap) (locs : List Loc) (ls : Array Slot), pp_M_stockAt_b61 g e0 K B_6 M x0 x1 x2 x3 x6 s0 s1 → mo_ok L0 e0 D vwCl (mo_T g) s M H locs → lv_has ls 7 [(0, .ref x0), (1, .int x1), (2, .int x2), (3, .int x3), (6, .int x6)] → W p l e (headSpec ws_M_stockAt (mo_R 0 0 0 0)).room s m args below meth c H locs 0 0 (mo_Z below (mo_Ql L0 e0 D vwCl (mo_T g) K) args s 0 0 L0) (F0 m 61 ls [.long s0, .long s1]) := by
    intro B_6 hB_6 M x0 x1 x2 x3 x6 s0 s1 H locs ls hP hok hl
    unfold pp_M_stockAt_b61 at hP
    refine lv_ladd hx hb d_M_stockAt_61 ?_
    refine lv_lstore (lv' := [(4, .long ((s1 + s0))), (0, .ref x0), (1, .int x1), (2, .int x2), (3, .int x3), (6, .int x6)]) hx hb d_M_stockAt_62 hl (by decide) rfl (fun ls hl => ?_)
    refine lv_iinc (k := 5) (v := x6 + 1) (lv' := [(6, .int (x6 + 1)), (4, .long ((s1 + s0))), (0, .ref x0), (1, .int x1), (2, .int x2), (3, .int x3)]) hx hb d_M_stockAt_64 hl rfl rfl (by decide) rfl (fun ls hl => ?_)
    refine lv_goto (tgt := 6) hx hb d_M_stockAt_67 (by decide) ?_
    exact hB_6 _ _ _ _ _ _ _ _ _ _ hP hok (lv_sub hl [2, 3, 4, 5, 1, 0] rfl)
  have w_60 : ∀ (B_6 : mo_M → Nat → Int32 → Int32 → Int32 → Int64 → Int32 → Prop) (hB_6 : ∀ (M : mo_M) (x0 : Nat) (x1 : Int32) (x2 : Int32) (x3 : Int32) (x4 : Int64) (x6 : Int32) (H : Heap) (locs : List Loc) (ls : Array Slot), B_6 M x0 x1 x2 x3 x4 x6 → mo_ok L0 e0 D vwCl (mo_T g) s M H locs → lv_has ls 7 [(0, .ref x0), (1, .int x1), (2, .int x2), (3, .int x3), (4, .long x4), (6, .int x6)] → W p l e (headSpec ws_M_stockAt (mo_R 0 0 0 0)).room s m args below meth c H locs 0 0 (mo_Z below (mo_Ql L0 e0 D vwCl (mo_T g) K) args s 0 0 L0) (F0 m 6 ls [])) (M : mo_M) (x0 : Nat) (x1 : Int32) (x2 : Int32) (x3 : Int32) (x6 : Int32) (s0 : Int64) (H : Heap) (locs : List Loc) (ls : Array Slot), pp_M_stockAt_b60 g e0 K B_6 M x0 x1 x2 x3 x6 s0 → mo_ok L0 e0 D vwCl (mo_T g) s M H locs → lv_has ls 7 [(0, .ref x0), (1, .int x1), (2, .int x2), (3, .int x3), (6, .int x6)] → W p l e (headSpec ws_M_stockAt (mo_R 0 0 0 0)).room s m args below meth c H locs 0 0 (mo_Z below (mo_Ql L0 e0 D vwCl (mo_T g) K) args s 0 0 L0) (F0 m 60 ls [.long s0]) := by
    intro B_6 hB_6 M x0 x1 x2 x3 x6 s0 H locs ls hP hok hl
    unfold pp_M_stockAt_b60 at hP
    refine lv_lconst (v := 0) hx hb d_M_stockAt_60 (by decide) ?_
    exact w_61 B_6 hB_6 _ _ _ _ _ _ _ _ _ _ _ hP hok (lv_sub hl [0, 1, 2, 3, 4] rfl)
  have w_6 : ∀ (n : Nat) (M : mo_M) (x0 : Nat) (x1 : Int32) (x2 : Int32) (x3 : Int32) (x4 : Int64) (x6 : Int32) (H : Heap) (locs : List Loc) (ls : Array Slot), pp_M_stockAt_b6 g e0 K n M x0 x1 x2 x3 x4 x6 → mo_ok L0 e0 D vwCl (mo_T g) s M H locs → lv_has ls 7 [(0, .ref x0), (1, .int x1), (2, .int x2), (3, .int x3), (4, .long x4), (6, .int x6)] → W p l e (headSpec ws_M_stockAt (mo_R 0 0 0 0)).room s m args below meth c H locs 0 0 (mo_Z below (mo_Ql L0 e0 D vwCl (mo_T g) K) args s 0 0 L0) (F0 m 6 ls []) := by
    intro n
    induction n with
    | zero => intro M x0 x1 x2 x3 x4 x6 H locs ls hP; exact hP.elim
    | succ n ih =>
      intro M x0 x1 x2 x3 x4 x6 H locs ls hP hok hl
      unfold pp_M_stockAt_b6 at hP
      refine lv_iload hx hb d_M_stockAt_6 (lv_at hl 5 rfl) ?_
      refine lv_aload_n hx hb d_M_stockAt_8 rfl (lv_at hl 0 rfl) ?_
      refine mr_gi (C := "PurseHouseModel") (T := F_4) (N := 27) (ref := "PurseHouseModel") hx hb hts hown hok hP ui_4 rfl (by decide) (hts _ wd_619) (fun _ h => h) d_M_stockAt_9 (fun v2 hP => ?_)
      refine lv_icmp_ge (tgt := 70) hx hb d_M_stockAt_12 (by decide) (fun hc => ?_) (fun hc => ?_)
      · replace hP := hP.1 hc
        refine lv_lload hx hb d_M_stockAt_70 (lv_at hl 4 rfl) ?_
        exact mo_lret hx hb hr hlocks hok hP d_M_stockAt_72
      · replace hP := hP.2 hc
        refine lv_lload hx hb d_M_stockAt_15 (lv_at hl 4 rfl) ?_
        refine lv_aload_n hx hb d_M_stockAt_17 rfl (lv_at hl 0 rfl) ?_
        refine mr_gr (C := "PurseHouseModel") (T := F_4) (N := 27) (ref := "PurseHouseModel") hx hb hts hown hok hP ui_4 rfl (by decide) (hts _ wd_620) (fun _ h => h) d_M_stockAt_18 (fun v3 hP => ?_)
        refine lv_iload hx hb d_M_stockAt_21 (lv_at hl 5 rfl) ?_
        refine mr_ai hx hb hok hP 0 rfl d_M_stockAt_23 (fun v4 hP => ?_)
        refine lv_iload_n hx hb d_M_stockAt_24 rfl (lv_at hl 1 rfl) ?_
        refine lv_icmp_ne (tgt := 60) hx hb d_M_stockAt_25 (by decide) (fun hc => ?_) (fun hc => ?_)
        · replace hP := hP.2 hc
          exact w_60 _ ih _ _ _ _ _ _ _ _ _ _ hP hok (lv_sub hl [0, 1, 2, 3, 5] rfl)
        · replace hP := hP.1 hc
          refine lv_aload_n hx hb d_M_stockAt_28 rfl (lv_at hl 0 rfl) ?_
          refine mr_gr (C := "PurseHouseModel") (T := F_4) (N := 27) (ref := "PurseHouseModel") hx hb hts hown hok hP ui_4 rfl (by decide) (hts _ wd_621) (fun _ h => h) d_M_stockAt_29 (fun v5 hP => ?_)
          refine lv_iload hx hb d_M_stockAt_32 (lv_at hl 5 rfl) ?_
          refine mr_ai hx hb hok hP 0 rfl d_M_stockAt_34 (fun v6 hP => ?_)
          refine lv_iload_n hx hb d_M_stockAt_35 rfl (lv_at hl 2 rfl) ?_
          refine lv_icmp_ne (tgt := 60) hx hb d_M_stockAt_36 (by decide) (fun hc => ?_) (fun hc => ?_)
          · replace hP := hP.2 hc
            exact w_60 _ ih _ _ _ _ _ _ _ _ _ _ hP hok (lv_sub hl [0, 1, 2, 3, 5] rfl)
          · replace hP := hP.1 hc
            refine lv_aload_n hx hb d_M_stockAt_39 rfl (lv_at hl 0 rfl) ?_
            refine mr_gr (C := "PurseHouseModel") (T := F_4) (N := 27) (ref := "PurseHouseModel") hx hb hts hown hok hP ui_4 rfl (by decide) (hts _ wd_622) (fun _ h => h) d_M_stockAt_40 (fun v7 hP => ?_)
            refine lv_iload hx hb d_M_stockAt_43 (lv_at hl 5 rfl) ?_
            refine mr_ai hx hb hok hP 0 rfl d_M_stockAt_45 (fun v8 hP => ?_)
            refine lv_iload_n hx hb d_M_stockAt_46 rfl (lv_at hl 3 rfl) ?_
            refine lv_icmp_gt (tgt := 60) hx hb d_M_stockAt_47 (by decide) (fun hc => ?_) (fun hc => ?_)
            · replace hP := hP.1 hc
              exact w_60 _ ih _ _ _ _ _ _ _ _ _ _ hP hok (lv_sub hl [0, 1, 2, 3, 5] rfl)
            · replace hP := hP.2 hc
              refine lv_aload_n hx hb d_M_stockAt_50 rfl (lv_at hl 0 rfl) ?_
              refine mr_gr (C := "PurseHouseModel") (T := F_4) (N := 27) (ref := "PurseHouseModel") hx hb hts hown hok hP ui_4 rfl (by decide) (hts _ wd_624) (fun _ h => h) d_M_stockAt_51 (fun v9 hP => ?_)
              refine lv_iload hx hb d_M_stockAt_54 (lv_at hl 5 rfl) ?_
              refine mr_al hx hb hok hP 1 rfl d_M_stockAt_56 (fun v10 hP => ?_)
              refine lv_goto (tgt := 61) hx hb d_M_stockAt_57 (by decide) ?_
              exact w_61 _ ih _ _ _ _ _ _ _ _ _ _ _ hP hok (lv_sub hl [0, 1, 2, 3, 5] rfl)
  have hok : mo_ok L0 e0 D vwCl (mo_T g) s M s.heap [] := ⟨hB0.1, hB0.2.1, hB0.2.2, va_S.rf⟩
  have hl := lv_entry ([.ref x0, .int x1, .int x2, .int x3]) (n := 7) (Nat.le_of_ble_eq_true rfl)
  rw [hv1, lg_entry_eq]
  rw [← hv1]
  generalize (lg_sl [.ref x0, .int x1, .int x2, .int x3] ++ List.replicate (7 - (lg_sl [.ref x0, .int x1, .int x2, .int x3]).length) Slot.unset).toArray = ls at hl ⊢
  have hl : lv_has ls 7 [(0, .ref x0), (1, .int x1), (2, .int x2), (3, .int x3)] := hl
  unfold pp_M_stockAt at hP
  refine lv_lconst (v := 0) hx hb d_M_stockAt_0 (by decide) ?_
  refine lv_lstore (lv' := [(4, .long ((0 : Int64))), (0, .ref x0), (1, .int x1), (2, .int x2), (3, .int x3)]) hx hb d_M_stockAt_1 hl (by decide) rfl (fun ls hl => ?_)
  refine lv_iconst (v := 0) hx hb d_M_stockAt_3 (by decide) ?_
  refine lv_istore (lv' := [(6, .int ((0 : Int32))), (4, .long ((0 : Int64))), (0, .ref x0), (1, .int x1), (2, .int x2), (3, .int x3)]) hx hb d_M_stockAt_4 hl (by decide) rfl (fun ls hl => ?_)
  obtain ⟨n1, hP⟩ := hP
  exact w_6  n1 _ _ _ _ _ _ _ _ _ _ hP hok (lv_sub hl [2, 3, 4, 5, 1, 0] rfl)

abbrev b_M_has : ByteArray := prog_6_method_15_code
def y_M_has : MethodName := ⟨"PurseHouseModel", "has", "(III)Z"⟩
def ws_M_has : List Cond := .code y_M_has b_M_has 4 (Option.some Jvm.ClassFile.FieldType.boolean) :: lw_g
theorem d_M_has_0 : decode b_M_has 0 = .ok (.aload_n 0, 1) := by decide +kernel
theorem d_M_has_1 : decode b_M_has 1 = .ok (.iload_n 1, 1) := by decide +kernel
theorem d_M_has_2 : decode b_M_has 2 = .ok (.invokevirtual 86, 3) := by decide +kernel
theorem d_M_has_5 : decode b_M_has 5 = .ok (.ifCond .eq 37, 3) := by decide +kernel
theorem d_M_has_8 : decode b_M_has 8 = .ok (.iload_n 2, 1) := by decide +kernel
theorem d_M_has_9 : decode b_M_has 9 = .ok (.invokestatic 90, 3) := by decide +kernel
theorem d_M_has_12 : decode b_M_has 12 = .ok (.ifCond .eq 30, 3) := by decide +kernel
theorem d_M_has_15 : decode b_M_has 15 = .ok (.iload_n 3, 1) := by decide +kernel
theorem d_M_has_16 : decode b_M_has 16 = .ok (.invokestatic 100, 3) := by decide +kernel
theorem d_M_has_19 : decode b_M_has 19 = .ok (.ifCond .eq 23, 3) := by decide +kernel
theorem d_M_has_22 : decode b_M_has 22 = .ok (.aload_n 0, 1) := by decide +kernel
theorem d_M_has_23 : decode b_M_has 23 = .ok (.iload_n 1, 1) := by decide +kernel
theorem d_M_has_24 : decode b_M_has 24 = .ok (.iload_n 2, 1) := by decide +kernel
theorem d_M_has_25 : decode b_M_has 25 = .ok (.aload_n 0, 1) := by decide +kernel
theorem d_M_has_26 : decode b_M_has 26 = .ok (.getfield 94, 3) := by decide +kernel
theorem d_M_has_29 : decode b_M_has 29 = .ok (.invokevirtual 107, 3) := by decide +kernel
theorem d_M_has_32 : decode b_M_has 32 = .ok (.iload_n 3, 1) := by decide +kernel
theorem d_M_has_33 : decode b_M_has 33 = .ok (.i2l, 1) := by decide +kernel
theorem d_M_has_34 : decode b_M_has 34 = .ok (.lcmp, 1) := by decide +kernel
theorem d_M_has_35 : decode b_M_has 35 = .ok (.ifCond .lt 7, 3) := by decide +kernel
theorem d_M_has_38 : decode b_M_has 38 = .ok (.iconst 1, 1) := by decide +kernel
theorem d_M_has_39 : decode b_M_has 39 = .ok (.goto 4, 3) := by decide +kernel
theorem d_M_has_42 : decode b_M_has 42 = .ok (.iconst 0, 1) := by decide +kernel
theorem d_M_has_43 : decode b_M_has 43 = .ok (.ireturn, 1) := by decide +kernel
def pp_M_has (g : Nat → ClassId) (e0 : Nat → Nat) (K : Int32 → mo_M → Prop) (M : mo_M) (x0 : Nat) (x1 : Int32) (x2 : Int32) (x3 : Int32) : Prop := (mp_is M x0 4 ∧ pp_M_isKiosk g e0 (fun r2 M1 => ((r2 = 0 → (narrow .boolean (.int ((0 : Int32))) = .int ((0 : Int32)) ∧ K ((0 : Int32)) M1)) ∧ (¬ (r2 = 0) → pp_M_isCurrency g e0 (fun r4 M3 => ((r4 = 0 → (narrow .boolean (.int ((0 : Int32))) = .int ((0 : Int32)) ∧ K ((0 : Int32)) M3)) ∧ (¬ (r4 = 0) → pp_M_isAmount g e0 (fun r6 M5 => ((r6 = 0 → (narrow .boolean (.int ((0 : Int32))) = .int ((0 : Int32)) ∧ K ((0 : Int32)) M5)) ∧ (¬ (r6 = 0) → mp_gi M5 x0 4 2 (fun v7 => (mp_is M5 x0 4 ∧ pp_M_stockAt g e0 (fun r9 M8 => (((lg_cmp r9 x3.toInt64) < 0 → (narrow .boolean (.int ((0 : Int32))) = .int ((0 : Int32)) ∧ K ((0 : Int32)) M8)) ∧ (¬ ((lg_cmp r9 x3.toInt64) < 0) → (narrow .boolean (.int ((1 : Int32))) = .int ((1 : Int32)) ∧ K ((1 : Int32)) M8)))) M5 x0 x1 x2 v7))))) M3 x3))) M1 x2))) M x0 x1)
set_option maxHeartbeats 4000000 in
set_option maxRecDepth 100000 in
theorem cc_M_has (l : Launch) (L0 : Nat) (D : va_G) {g : Nat → ClassId} {e0 : Nat → Nat} {K : Int32 → mo_M → Prop} {M : mo_M} {x0 : Nat} {x1 : Int32} {x2 : Int32} {x3 : Int32} (hP : pp_M_has g e0 K M x0 x1 x2 x3) : Met l y_M_has ws_M_has (mo_R 1 0 0 26) (va_Pc [.ref x0, .int x1, .int x2, .int x3] (fun U => mo_B L0 e0 D vwCl (mo_T g) M U)) (mo_Qi L0 e0 D vwCl (mo_T g) K) 0 0 (fun q => L0 ≤ q) := by
  refine Met.ofW (cc := b_M_has) (maxL := 4) (ret := (Option.some Jvm.ClassFile.FieldType.boolean)) (by decide +kernel) rfl ?_
  intro p e s m args below meth c s₁ B hml hv
  obtain ⟨hv1, hB0⟩ := hv
  have hx := B.exec
  have hb := B.bytes
  have hr := B.returns
  have hts : ∀ w ∈ lw_g, w.before args s = true := fun w hw => atoms_spec (ws := ws_M_has) B.pre w (List.mem_cons_of_mem _ hw)
  have hown : s.vm.findClass "PurseHouseModel" = some m.cls := findClass_of_methodNamed B.named
  have hlocks := B.notSynchronized
  have hok : mo_ok L0 e0 D vwCl (mo_T g) s M s.heap [] := ⟨hB0.1, hB0.2.1, hB0.2.2, va_S.rf⟩
  have hl := lv_entry ([.ref x0, .int x1, .int x2, .int x3]) (n := 4) (Nat.le_of_ble_eq_true rfl)
  rw [hv1, lg_entry_eq]
  rw [← hv1]
  generalize (lg_sl [.ref x0, .int x1, .int x2, .int x3] ++ List.replicate (4 - (lg_sl [.ref x0, .int x1, .int x2, .int x3]).length) Slot.unset).toArray = ls at hl ⊢
  have hl : lv_has ls 4 [(0, .ref x0), (1, .int x1), (2, .int x2), (3, .int x3)] := hl
  unfold pp_M_has at hP
  refine lv_aload_n hx hb d_M_has_0 rfl (lv_at hl 0 rfl) ?_
  refine lv_iload_n hx hb d_M_has_1 rfl (lv_at hl 1 rfl) ?_
  obtain ⟨⟨fs9, he9⟩, hP⟩ := hP
  refine mo_calli hok (va_runV (As := [.int x1]) (rest := []) ⟨hx, hb, hml, hown, hts⟩ (cc_M_isKiosk l L0 D hP) ⟨(callB_of 1 hts (lw_gi wd_704) rfl rfl rfl (hts _ wd_39) (hts _ wd_701) (by decide +kernel) ⟨Nat.le_of_ble_eq_true rfl, Nat.le_of_ble_eq_true rfl⟩), hts _ wd_703, hts _ wd_15⟩ (mo_preV hok he9 rfl [.int x1]) rfl rfl hl.1 rfl (lv_room (Nat.le_of_ble_eq_true rfl)) d_M_has_2 ⟨Nat.zero_le _, Nat.zero_le _⟩) (fun r2 M1 H locs hP hok => ?_)
  refine lv_if_eq (tgt := 42) hx hb d_M_has_5 (by decide) (fun hc => ?_) (fun hc => ?_)
  · replace hP := hP.1 hc
    refine lv_iconst (v := 0) hx hb d_M_has_42 (by decide) ?_
    exact mo_zret hx hb hr hlocks hok hP d_M_has_43
  · replace hP := hP.2 hc
    refine lv_iload_n hx hb d_M_has_8 rfl (lv_at hl 2 rfl) ?_
    refine mo_calli hok (va_runS (As := [.int x2]) (rest := []) ⟨hx, hb, hml, hown, hts⟩ (cc_M_isCurrency l L0 D hP) ⟨(callB_of 1 hts (lw_gi wd_711) rfl rfl rfl (hts _ wd_39) (hts _ wd_709) (by decide +kernel) ⟨Nat.le_of_ble_eq_true rfl, Nat.le_of_ble_eq_true rfl⟩), hts _ wd_710⟩ (mo_preS hok [.int x2]) rfl rfl hl.1 rfl (lv_room (Nat.le_of_ble_eq_true rfl)) d_M_has_9 ⟨Nat.zero_le _, Nat.zero_le _⟩) (fun r4 M3 H locs hP hok => ?_)
    refine lv_if_eq (tgt := 42) hx hb d_M_has_12 (by decide) (fun hc => ?_) (fun hc => ?_)
    · replace hP := hP.1 hc
      refine lv_iconst (v := 0) hx hb d_M_has_42 (by decide) ?_
      exact mo_zret hx hb hr hlocks hok hP d_M_has_43
    · replace hP := hP.2 hc
      refine lv_iload_n hx hb d_M_has_15 rfl (lv_at hl 3 rfl) ?_
      refine mo_calli hok (va_runS (As := [.int x3]) (rest := []) ⟨hx, hb, hml, hown, hts⟩ (cc_M_isAmount l L0 D hP) ⟨(callB_of 1 hts (lw_gi wd_719) rfl rfl rfl (hts _ wd_39) (hts _ wd_717) (by decide +kernel) ⟨Nat.le_of_ble_eq_true rfl, Nat.le_of_ble_eq_true rfl⟩), hts _ wd_718⟩ (mo_preS hok [.int x3]) rfl rfl hl.1 rfl (lv_room (Nat.le_of_ble_eq_true rfl)) d_M_has_16 ⟨Nat.zero_le _, Nat.zero_le _⟩) (fun r6 M5 H locs hP hok => ?_)
      refine lv_if_eq (tgt := 42) hx hb d_M_has_19 (by decide) (fun hc => ?_) (fun hc => ?_)
      · replace hP := hP.1 hc
        refine lv_iconst (v := 0) hx hb d_M_has_42 (by decide) ?_
        exact mo_zret hx hb hr hlocks hok hP d_M_has_43
      · replace hP := hP.2 hc
        refine lv_aload_n hx hb d_M_has_22 rfl (lv_at hl 0 rfl) ?_
        refine lv_iload_n hx hb d_M_has_23 rfl (lv_at hl 1 rfl) ?_
        refine lv_iload_n hx hb d_M_has_24 rfl (lv_at hl 2 rfl) ?_
        refine lv_aload_n hx hb d_M_has_25 rfl (lv_at hl 0 rfl) ?_
        refine mr_gi (C := "PurseHouseModel") (T := F_4) (N := 27) (ref := "PurseHouseModel") hx hb hts hown hok hP ui_4 rfl (by decide) (hts _ wd_612) (fun _ h => h) d_M_has_26 (fun v7 hP => ?_)
        obtain ⟨⟨fs9, he9⟩, hP⟩ := hP
        refine mo_calll hok (va_runV (As := [.int x1, .int x2, .int v7]) (rest := []) ⟨hx, hb, hml, hown, hts⟩ (cc_M_stockAt l L0 D hP) ⟨(callB_of 3 hts (lw_gi wd_736) rfl rfl rfl (hts _ wd_39) (hts _ wd_733) (by decide +kernel) ⟨Nat.le_of_ble_eq_true rfl, Nat.le_of_ble_eq_true rfl⟩), hts _ wd_735, hts _ wd_18⟩ (mo_preV hok he9 rfl [.int x1, .int x2, .int v7]) rfl rfl hl.1 rfl (lv_room (Nat.le_of_ble_eq_true rfl)) d_M_has_29 ⟨Nat.zero_le _, Nat.zero_le _⟩) (fun r9 M8 H locs hP hok => ?_)
        refine lv_iload_n hx hb d_M_has_32 rfl (lv_at hl 3 rfl) ?_
        refine lv_i2l hx hb d_M_has_33 rfl ?_
        refine W.lcmp hx hb d_M_has_34 ?_
        refine lv_if_lt (tgt := 42) hx hb d_M_has_35 (by decide) (fun hc => ?_) (fun hc => ?_)
        · replace hP := hP.1 hc
          refine lv_iconst (v := 0) hx hb d_M_has_42 (by decide) ?_
          exact mo_zret hx hb hr hlocks hok hP d_M_has_43
        · replace hP := hP.2 hc
          refine lv_iconst (v := 1) hx hb d_M_has_38 (by decide) ?_
          refine lv_goto (tgt := 43) hx hb d_M_has_39 (by decide) ?_
          exact mo_zret hx hb hr hlocks hok hP d_M_has_43

abbrev b_M_melt : ByteArray := prog_6_method_16_code
def y_M_melt : MethodName := ⟨"PurseHouseModel", "melt", "(III)Z"⟩
def ws_M_melt : List Cond := .code y_M_melt b_M_melt 4 (Option.some Jvm.ClassFile.FieldType.boolean) :: lw_g
theorem d_M_melt_0 : decode b_M_melt 0 = .ok (.aload_n 0, 1) := by decide +kernel
theorem d_M_melt_1 : decode b_M_melt 1 = .ok (.iconst 0, 1) := by decide +kernel
theorem d_M_melt_2 : decode b_M_melt 2 = .ok (.putfield 76, 3) := by decide +kernel
theorem d_M_melt_5 : decode b_M_melt 5 = .ok (.aload_n 0, 1) := by decide +kernel
theorem d_M_melt_6 : decode b_M_melt 6 = .ok (.iload_n 1, 1) := by decide +kernel
theorem d_M_melt_7 : decode b_M_melt 7 = .ok (.iload_n 2, 1) := by decide +kernel
theorem d_M_melt_8 : decode b_M_melt 8 = .ok (.iload_n 3, 1) := by decide +kernel
theorem d_M_melt_9 : decode b_M_melt 9 = .ok (.invokevirtual 111, 3) := by decide +kernel
theorem d_M_melt_12 : decode b_M_melt 12 = .ok (.ifCond .ne 5, 3) := by decide +kernel
theorem d_M_melt_15 : decode b_M_melt 15 = .ok (.iconst 0, 1) := by decide +kernel
theorem d_M_melt_16 : decode b_M_melt 16 = .ok (.ireturn, 1) := by decide +kernel
theorem d_M_melt_17 : decode b_M_melt 17 = .ok (.aload_n 0, 1) := by decide +kernel
theorem d_M_melt_18 : decode b_M_melt 18 = .ok (.iload_n 1, 1) := by decide +kernel
theorem d_M_melt_19 : decode b_M_melt 19 = .ok (.iload_n 2, 1) := by decide +kernel
theorem d_M_melt_20 : decode b_M_melt 20 = .ok (.iload_n 3, 1) := by decide +kernel
theorem d_M_melt_21 : decode b_M_melt 21 = .ok (.ineg, 1) := by decide +kernel
theorem d_M_melt_22 : decode b_M_melt 22 = .ok (.i2l, 1) := by decide +kernel
theorem d_M_melt_23 : decode b_M_melt 23 = .ok (.lconst 0, 1) := by decide +kernel
theorem d_M_melt_24 : decode b_M_melt 24 = .ok (.iload_n 3, 1) := by decide +kernel
theorem d_M_melt_25 : decode b_M_melt 25 = .ok (.ineg, 1) := by decide +kernel
theorem d_M_melt_26 : decode b_M_melt 26 = .ok (.i2l, 1) := by decide +kernel
theorem d_M_melt_27 : decode b_M_melt 27 = .ok (.invokevirtual 103, 3) := by decide +kernel
theorem d_M_melt_30 : decode b_M_melt 30 = .ok (.iconst 1, 1) := by decide +kernel
theorem d_M_melt_31 : decode b_M_melt 31 = .ok (.ireturn, 1) := by decide +kernel
def pp_M_melt (g : Nat → ClassId) (e0 : Nat → Nat) (K : Int32 → mo_M → Prop) (M : mo_M) (x0 : Nat) (x1 : Int32) (x2 : Int32) (x3 : Int32) : Prop := mp_pt M x0 4 0 (.int ((0 : Int32))) (fun M1 => (mp_is M1 x0 4 ∧ pp_M_has g e0 (fun r3 M2 => ((r3 = 0 → (narrow .boolean (.int ((0 : Int32))) = .int ((0 : Int32)) ∧ K ((0 : Int32)) M2)) ∧ (¬ (r3 = 0) → (mp_is M2 x0 4 ∧ pp_M_note g e0 (fun M4 => (narrow .boolean (.int ((1 : Int32))) = .int ((1 : Int32)) ∧ K ((1 : Int32)) M4)) M2 x0 x1 x2 (((-x3)).toInt64) ((0 : Int64)) (((-x3)).toInt64))))) M1 x0 x1 x2 x3))
set_option maxHeartbeats 4000000 in
set_option maxRecDepth 100000 in
theorem cc_M_melt (l : Launch) (L0 : Nat) (D : va_G) {g : Nat → ClassId} {e0 : Nat → Nat} {K : Int32 → mo_M → Prop} {M : mo_M} {x0 : Nat} {x1 : Int32} {x2 : Int32} {x3 : Int32} (hP : pp_M_melt g e0 K M x0 x1 x2 x3) : Met l y_M_melt ws_M_melt (mo_R 2 0 0 49) (va_Pc [.ref x0, .int x1, .int x2, .int x3] (fun U => mo_B L0 e0 D vwCl (mo_T g) M U)) (mo_Qi L0 e0 D vwCl (mo_T g) K) 0 0 (fun q => L0 ≤ q) := by
  refine Met.ofW (cc := b_M_melt) (maxL := 4) (ret := (Option.some Jvm.ClassFile.FieldType.boolean)) (by decide +kernel) rfl ?_
  intro p e s m args below meth c s₁ B hml hv
  obtain ⟨hv1, hB0⟩ := hv
  have hx := B.exec
  have hb := B.bytes
  have hr := B.returns
  have hts : ∀ w ∈ lw_g, w.before args s = true := fun w hw => atoms_spec (ws := ws_M_melt) B.pre w (List.mem_cons_of_mem _ hw)
  have hown : s.vm.findClass "PurseHouseModel" = some m.cls := findClass_of_methodNamed B.named
  have hlocks := B.notSynchronized
  have hok : mo_ok L0 e0 D vwCl (mo_T g) s M s.heap [] := ⟨hB0.1, hB0.2.1, hB0.2.2, va_S.rf⟩
  have hl := lv_entry ([.ref x0, .int x1, .int x2, .int x3]) (n := 4) (Nat.le_of_ble_eq_true rfl)
  rw [hv1, lg_entry_eq]
  rw [← hv1]
  generalize (lg_sl [.ref x0, .int x1, .int x2, .int x3] ++ List.replicate (4 - (lg_sl [.ref x0, .int x1, .int x2, .int x3]).length) Slot.unset).toArray = ls at hl ⊢
  have hl : lv_has ls 4 [(0, .ref x0), (1, .int x1), (2, .int x2), (3, .int x3)] := hl
  unfold pp_M_melt at hP
  refine lv_aload_n hx hb d_M_melt_0 rfl (lv_at hl 0 rfl) ?_
  refine lv_iconst (v := 0) hx hb d_M_melt_1 (by decide) ?_
  refine mr_pt (C := "PurseHouseModel") (T := F_4) (N := 27) (ref := "PurseHouseModel") (ty := .int) hx hb hts hown hok hP ui_4 ty_4 th_4 tn_4 rfl (by decide) (hts _ wd_610) (fun _ h => h) rfl (by decide +kernel) rfl rfl d_M_melt_2 (fun M1 H locs hP hok => ?_)
  refine lv_aload_n hx hb d_M_melt_5 rfl (lv_at hl 0 rfl) ?_
  refine lv_iload_n hx hb d_M_melt_6 rfl (lv_at hl 1 rfl) ?_
  refine lv_iload_n hx hb d_M_melt_7 rfl (lv_at hl 2 rfl) ?_
  refine lv_iload_n hx hb d_M_melt_8 rfl (lv_at hl 3 rfl) ?_
  obtain ⟨⟨fs9, he9⟩, hP⟩ := hP
  refine mo_calli hok (va_runV (As := [.int x1, .int x2, .int x3]) (rest := []) ⟨hx, hb, hml, hown, hts⟩ (cc_M_has l L0 D hP) ⟨(callB_of 3 hts (lw_gi wd_732) rfl rfl rfl (hts _ wd_39) (hts _ wd_729) (by decide +kernel) ⟨Nat.le_of_ble_eq_true rfl, Nat.le_of_ble_eq_true rfl⟩), hts _ wd_731, hts _ wd_17⟩ (mo_preV hok he9 rfl [.int x1, .int x2, .int x3]) rfl rfl hl.1 rfl (lv_room (Nat.le_of_ble_eq_true rfl)) d_M_melt_9 ⟨Nat.zero_le _, Nat.zero_le _⟩) (fun r3 M2 H locs hP hok => ?_)
  refine lv_if_ne (tgt := 17) hx hb d_M_melt_12 (by decide) (fun hc => ?_) (fun hc => ?_)
  · replace hP := hP.2 hc
    refine lv_aload_n hx hb d_M_melt_17 rfl (lv_at hl 0 rfl) ?_
    refine lv_iload_n hx hb d_M_melt_18 rfl (lv_at hl 1 rfl) ?_
    refine lv_iload_n hx hb d_M_melt_19 rfl (lv_at hl 2 rfl) ?_
    refine lv_iload_n hx hb d_M_melt_20 rfl (lv_at hl 3 rfl) ?_
    refine lv_ineg hx hb d_M_melt_21 ?_
    refine lv_i2l hx hb d_M_melt_22 rfl ?_
    refine lv_lconst (v := 0) hx hb d_M_melt_23 (by decide) ?_
    refine lv_iload_n hx hb d_M_melt_24 rfl (lv_at hl 3 rfl) ?_
    refine lv_ineg hx hb d_M_melt_25 ?_
    refine lv_i2l hx hb d_M_melt_26 rfl ?_
    obtain ⟨⟨fs9, he9⟩, hP⟩ := hP
    refine mo_callv hok (va_runV (As := [.int x1, .int x2, .long (((-x3)).toInt64), .long ((0 : Int64)), .long (((-x3)).toInt64)]) (rest := []) ⟨hx, hb, hml, hown, hts⟩ (cc_M_note l L0 D hP) ⟨(callB_of 5 hts (lw_gi wd_724) rfl rfl rfl (hts _ wd_39) (hts _ wd_721) (by decide +kernel) ⟨Nat.le_of_ble_eq_true rfl, Nat.le_of_ble_eq_true rfl⟩), hts _ wd_723, hts _ wd_16⟩ (mo_preV hok he9 rfl [.int x1, .int x2, .long (((-x3)).toInt64), .long ((0 : Int64)), .long (((-x3)).toInt64)]) rfl rfl hl.1 rfl (lv_room (Nat.le_of_ble_eq_true rfl)) d_M_melt_27 ⟨Nat.zero_le _, Nat.zero_le _⟩) (fun M4 H locs hP hok => ?_)
    refine lv_iconst (v := 1) hx hb d_M_melt_30 (by decide) ?_
    exact mo_zret hx hb hr hlocks hok hP d_M_melt_31
  · replace hP := hP.1 hc
    refine lv_iconst (v := 0) hx hb d_M_melt_15 (by decide) ?_
    exact mo_zret hx hb hr hlocks hok hP d_M_melt_16

abbrev b_M_exchange : ByteArray := prog_6_method_17_code
def y_M_exchange : MethodName := ⟨"PurseHouseModel", "exchange", "(IIII)Z"⟩
def ws_M_exchange : List Cond := .code y_M_exchange b_M_exchange 7 (Option.some Jvm.ClassFile.FieldType.boolean) :: lw_g
theorem d_M_exchange_0 : decode b_M_exchange 0 = .ok (.aload_n 0, 1) := by decide +kernel
theorem d_M_exchange_1 : decode b_M_exchange 1 = .ok (.iconst 0, 1) := by decide +kernel
theorem d_M_exchange_2 : decode b_M_exchange 2 = .ok (.putfield 76, 3) := by decide +kernel
theorem d_M_exchange_5 : decode b_M_exchange 5 = .ok (.aload_n 0, 1) := by decide +kernel
theorem d_M_exchange_6 : decode b_M_exchange 6 = .ok (.iload_n 1, 1) := by decide +kernel
theorem d_M_exchange_7 : decode b_M_exchange 7 = .ok (.iload_n 2, 1) := by decide +kernel
theorem d_M_exchange_8 : decode b_M_exchange 8 = .ok (.iload 4, 2) := by decide +kernel
theorem d_M_exchange_10 : decode b_M_exchange 10 = .ok (.invokevirtual 111, 3) := by decide +kernel
theorem d_M_exchange_13 : decode b_M_exchange 13 = .ok (.ifCond .eq 15, 3) := by decide +kernel
theorem d_M_exchange_16 : decode b_M_exchange 16 = .ok (.iload_n 3, 1) := by decide +kernel
theorem d_M_exchange_17 : decode b_M_exchange 17 = .ok (.invokestatic 90, 3) := by decide +kernel
theorem d_M_exchange_20 : decode b_M_exchange 20 = .ok (.ifCond .eq 8, 3) := by decide +kernel
theorem d_M_exchange_23 : decode b_M_exchange 23 = .ok (.iload_n 2, 1) := by decide +kernel
theorem d_M_exchange_24 : decode b_M_exchange 24 = .ok (.iload_n 3, 1) := by decide +kernel
theorem d_M_exchange_25 : decode b_M_exchange 25 = .ok (.if_icmp .ne 5, 3) := by decide +kernel
theorem d_M_exchange_28 : decode b_M_exchange 28 = .ok (.iconst 0, 1) := by decide +kernel
theorem d_M_exchange_29 : decode b_M_exchange 29 = .ok (.ireturn, 1) := by decide +kernel
theorem d_M_exchange_30 : decode b_M_exchange 30 = .ok (.iload 4, 2) := by decide +kernel
theorem d_M_exchange_32 : decode b_M_exchange 32 = .ok (.i2l, 1) := by decide +kernel
theorem d_M_exchange_33 : decode b_M_exchange 33 = .ok (.aload_n 0, 1) := by decide +kernel
theorem d_M_exchange_34 : decode b_M_exchange 34 = .ok (.getfield 20, 3) := by decide +kernel
theorem d_M_exchange_37 : decode b_M_exchange 37 = .ok (.iconst 3, 1) := by decide +kernel
theorem d_M_exchange_38 : decode b_M_exchange 38 = .ok (.iload_n 2, 1) := by decide +kernel
theorem d_M_exchange_39 : decode b_M_exchange 39 = .ok (.imul, 1) := by decide +kernel
theorem d_M_exchange_40 : decode b_M_exchange 40 = .ok (.iload_n 3, 1) := by decide +kernel
theorem d_M_exchange_41 : decode b_M_exchange 41 = .ok (.iadd, 1) := by decide +kernel
theorem d_M_exchange_42 : decode b_M_exchange 42 = .ok (.iaload, 1) := by decide +kernel
theorem d_M_exchange_43 : decode b_M_exchange 43 = .ok (.i2l, 1) := by decide +kernel
theorem d_M_exchange_44 : decode b_M_exchange 44 = .ok (.lmul, 1) := by decide +kernel
theorem d_M_exchange_45 : decode b_M_exchange 45 = .ok (.aload_n 0, 1) := by decide +kernel
theorem d_M_exchange_46 : decode b_M_exchange 46 = .ok (.getfield 23, 3) := by decide +kernel
theorem d_M_exchange_49 : decode b_M_exchange 49 = .ok (.iconst 3, 1) := by decide +kernel
theorem d_M_exchange_50 : decode b_M_exchange 50 = .ok (.iload_n 2, 1) := by decide +kernel
theorem d_M_exchange_51 : decode b_M_exchange 51 = .ok (.imul, 1) := by decide +kernel
theorem d_M_exchange_52 : decode b_M_exchange 52 = .ok (.iload_n 3, 1) := by decide +kernel
theorem d_M_exchange_53 : decode b_M_exchange 53 = .ok (.iadd, 1) := by decide +kernel
theorem d_M_exchange_54 : decode b_M_exchange 54 = .ok (.iaload, 1) := by decide +kernel
theorem d_M_exchange_55 : decode b_M_exchange 55 = .ok (.i2l, 1) := by decide +kernel
theorem d_M_exchange_56 : decode b_M_exchange 56 = .ok (.ldiv, 1) := by decide +kernel
theorem d_M_exchange_57 : decode b_M_exchange 57 = .ok (.lstore 5, 2) := by decide +kernel
theorem d_M_exchange_59 : decode b_M_exchange 59 = .ok (.aload_n 0, 1) := by decide +kernel
theorem d_M_exchange_60 : decode b_M_exchange 60 = .ok (.iload_n 1, 1) := by decide +kernel
theorem d_M_exchange_61 : decode b_M_exchange 61 = .ok (.iload_n 2, 1) := by decide +kernel
theorem d_M_exchange_62 : decode b_M_exchange 62 = .ok (.iload 4, 2) := by decide +kernel
theorem d_M_exchange_64 : decode b_M_exchange 64 = .ok (.ineg, 1) := by decide +kernel
theorem d_M_exchange_65 : decode b_M_exchange 65 = .ok (.i2l, 1) := by decide +kernel
theorem d_M_exchange_66 : decode b_M_exchange 66 = .ok (.iload 4, 2) := by decide +kernel
theorem d_M_exchange_68 : decode b_M_exchange 68 = .ok (.i2l, 1) := by decide +kernel
theorem d_M_exchange_69 : decode b_M_exchange 69 = .ok (.lconst 0, 1) := by decide +kernel
theorem d_M_exchange_70 : decode b_M_exchange 70 = .ok (.invokevirtual 103, 3) := by decide +kernel
theorem d_M_exchange_73 : decode b_M_exchange 73 = .ok (.aload_n 0, 1) := by decide +kernel
theorem d_M_exchange_74 : decode b_M_exchange 74 = .ok (.iload_n 1, 1) := by decide +kernel
theorem d_M_exchange_75 : decode b_M_exchange 75 = .ok (.iload_n 3, 1) := by decide +kernel
theorem d_M_exchange_76 : decode b_M_exchange 76 = .ok (.lload 5, 2) := by decide +kernel
theorem d_M_exchange_78 : decode b_M_exchange 78 = .ok (.lload 5, 2) := by decide +kernel
theorem d_M_exchange_80 : decode b_M_exchange 80 = .ok (.lneg, 1) := by decide +kernel
theorem d_M_exchange_81 : decode b_M_exchange 81 = .ok (.lconst 0, 1) := by decide +kernel
theorem d_M_exchange_82 : decode b_M_exchange 82 = .ok (.invokevirtual 103, 3) := by decide +kernel
theorem d_M_exchange_85 : decode b_M_exchange 85 = .ok (.aload_n 0, 1) := by decide +kernel
theorem d_M_exchange_86 : decode b_M_exchange 86 = .ok (.getfield 35, 3) := by decide +kernel
theorem d_M_exchange_89 : decode b_M_exchange 89 = .ok (.aload_n 0, 1) := by decide +kernel
theorem d_M_exchange_90 : decode b_M_exchange 90 = .ok (.getfield 97, 3) := by decide +kernel
theorem d_M_exchange_93 : decode b_M_exchange 93 = .ok (.iconst 1, 1) := by decide +kernel
theorem d_M_exchange_94 : decode b_M_exchange 94 = .ok (.isub, 1) := by decide +kernel
theorem d_M_exchange_95 : decode b_M_exchange 95 = .ok (.iconst 0, 1) := by decide +kernel
theorem d_M_exchange_96 : decode b_M_exchange 96 = .ok (.iastore, 1) := by decide +kernel
theorem d_M_exchange_97 : decode b_M_exchange 97 = .ok (.iconst 1, 1) := by decide +kernel
theorem d_M_exchange_98 : decode b_M_exchange 98 = .ok (.ireturn, 1) := by decide +kernel
def pp_M_exchange (g : Nat → ClassId) (e0 : Nat → Nat) (K : Int32 → mo_M → Prop) (M : mo_M) (x0 : Nat) (x1 : Int32) (x2 : Int32) (x3 : Int32) (x4 : Int32) : Prop := mp_pt M x0 4 0 (.int ((0 : Int32))) (fun M1 => (mp_is M1 x0 4 ∧ pp_M_has g e0 (fun r3 M2 => ((r3 = 0 → (narrow .boolean (.int ((0 : Int32))) = .int ((0 : Int32)) ∧ K ((0 : Int32)) M2)) ∧ (¬ (r3 = 0) → pp_M_isCurrency g e0 (fun r5 M4 => ((r5 = 0 → (narrow .boolean (.int ((0 : Int32))) = .int ((0 : Int32)) ∧ K ((0 : Int32)) M4)) ∧ (¬ (r5 = 0) → ((x2 = x3 → (narrow .boolean (.int ((0 : Int32))) = .int ((0 : Int32)) ∧ K ((0 : Int32)) M4)) ∧ (¬ (x2 = x3) → mp_gr M4 x0 4 7 (fun v6 => mp_ai (g 0) M4 v6 ((((((3 : Int32)) * x2)) + x3)) (fun v7 => mp_gr M4 x0 4 8 (fun v8 => mp_ai (g 0) M4 v8 ((((((3 : Int32)) * x2)) + x3)) (fun v9 => (¬ v9.toInt64 = 0 ∧ (mp_is M4 x0 4 ∧ pp_M_note g e0 (fun M10 => (mp_is M10 x0 4 ∧ pp_M_note g e0 (fun M11 => mp_gr M11 x0 4 13 (fun v12 => mp_gi M11 x0 4 9 (fun v13 => mp_si (g 0) M11 v12 ((v13 - ((1 : Int32)))) ((0 : Int32)) (fun M14 => (narrow .boolean (.int ((1 : Int32))) = .int ((1 : Int32)) ∧ K ((1 : Int32)) M14))))) M10 x0 x1 x3 ((((x4.toInt64 * v7.toInt64)) / v9.toInt64)) ((-((((x4.toInt64 * v7.toInt64)) / v9.toInt64)))) ((0 : Int64)))) M4 x0 x1 x2 (((-x4)).toInt64) x4.toInt64 ((0 : Int64))))))))))))) M2 x3))) M1 x0 x1 x2 x4))
set_option maxHeartbeats 4000000 in
set_option maxRecDepth 100000 in
theorem cc_M_exchange (l : Launch) (L0 : Nat) (D : va_G) {g : Nat → ClassId} {e0 : Nat → Nat} {K : Int32 → mo_M → Prop} {M : mo_M} {x0 : Nat} {x1 : Int32} {x2 : Int32} {x3 : Int32} {x4 : Int32} (hP : pp_M_exchange g e0 K M x0 x1 x2 x3 x4) : Met l y_M_exchange ws_M_exchange (mo_R 2 0 0 49) (va_Pc [.ref x0, .int x1, .int x2, .int x3, .int x4] (fun U => mo_B L0 e0 D vwCl (mo_T g) M U)) (mo_Qi L0 e0 D vwCl (mo_T g) K) 0 0 (fun q => L0 ≤ q) := by
  refine Met.ofW (cc := b_M_exchange) (maxL := 7) (ret := (Option.some Jvm.ClassFile.FieldType.boolean)) (by decide +kernel) rfl ?_
  intro p e s m args below meth c s₁ B hml hv
  obtain ⟨hv1, hB0⟩ := hv
  have hx := B.exec
  have hb := B.bytes
  have hr := B.returns
  have hts : ∀ w ∈ lw_g, w.before args s = true := fun w hw => atoms_spec (ws := ws_M_exchange) B.pre w (List.mem_cons_of_mem _ hw)
  have hown : s.vm.findClass "PurseHouseModel" = some m.cls := findClass_of_methodNamed B.named
  have hlocks := B.notSynchronized
  have hok : mo_ok L0 e0 D vwCl (mo_T g) s M s.heap [] := ⟨hB0.1, hB0.2.1, hB0.2.2, va_S.rf⟩
  have hl := lv_entry ([.ref x0, .int x1, .int x2, .int x3, .int x4]) (n := 7) (Nat.le_of_ble_eq_true rfl)
  rw [hv1, lg_entry_eq]
  rw [← hv1]
  generalize (lg_sl [.ref x0, .int x1, .int x2, .int x3, .int x4] ++ List.replicate (7 - (lg_sl [.ref x0, .int x1, .int x2, .int x3, .int x4]).length) Slot.unset).toArray = ls at hl ⊢
  have hl : lv_has ls 7 [(0, .ref x0), (1, .int x1), (2, .int x2), (3, .int x3), (4, .int x4)] := hl
  unfold pp_M_exchange at hP
  refine lv_aload_n hx hb d_M_exchange_0 rfl (lv_at hl 0 rfl) ?_
  refine lv_iconst (v := 0) hx hb d_M_exchange_1 (by decide) ?_
  refine mr_pt (C := "PurseHouseModel") (T := F_4) (N := 27) (ref := "PurseHouseModel") (ty := .int) hx hb hts hown hok hP ui_4 ty_4 th_4 tn_4 rfl (by decide) (hts _ wd_610) (fun _ h => h) rfl (by decide +kernel) rfl rfl d_M_exchange_2 (fun M1 H locs hP hok => ?_)
  refine lv_aload_n hx hb d_M_exchange_5 rfl (lv_at hl 0 rfl) ?_
  refine lv_iload_n hx hb d_M_exchange_6 rfl (lv_at hl 1 rfl) ?_
  refine lv_iload_n hx hb d_M_exchange_7 rfl (lv_at hl 2 rfl) ?_
  refine lv_iload hx hb d_M_exchange_8 (lv_at hl 4 rfl) ?_
  obtain ⟨⟨fs9, he9⟩, hP⟩ := hP
  refine mo_calli hok (va_runV (As := [.int x1, .int x2, .int x4]) (rest := []) ⟨hx, hb, hml, hown, hts⟩ (cc_M_has l L0 D hP) ⟨(callB_of 3 hts (lw_gi wd_732) rfl rfl rfl (hts _ wd_39) (hts _ wd_729) (by decide +kernel) ⟨Nat.le_of_ble_eq_true rfl, Nat.le_of_ble_eq_true rfl⟩), hts _ wd_731, hts _ wd_17⟩ (mo_preV hok he9 rfl [.int x1, .int x2, .int x4]) rfl rfl hl.1 rfl (lv_room (Nat.le_of_ble_eq_true rfl)) d_M_exchange_10 ⟨Nat.zero_le _, Nat.zero_le _⟩) (fun r3 M2 H locs hP hok => ?_)
  refine lv_if_eq (tgt := 28) hx hb d_M_exchange_13 (by decide) (fun hc => ?_) (fun hc => ?_)
  · replace hP := hP.1 hc
    refine lv_iconst (v := 0) hx hb d_M_exchange_28 (by decide) ?_
    exact mo_zret hx hb hr hlocks hok hP d_M_exchange_29
  · replace hP := hP.2 hc
    refine lv_iload_n hx hb d_M_exchange_16 rfl (lv_at hl 3 rfl) ?_
    refine mo_calli hok (va_runS (As := [.int x3]) (rest := []) ⟨hx, hb, hml, hown, hts⟩ (cc_M_isCurrency l L0 D hP) ⟨(callB_of 1 hts (lw_gi wd_711) rfl rfl rfl (hts _ wd_39) (hts _ wd_709) (by decide +kernel) ⟨Nat.le_of_ble_eq_true rfl, Nat.le_of_ble_eq_true rfl⟩), hts _ wd_710⟩ (mo_preS hok [.int x3]) rfl rfl hl.1 rfl (lv_room (Nat.le_of_ble_eq_true rfl)) d_M_exchange_17 ⟨Nat.zero_le _, Nat.zero_le _⟩) (fun r5 M4 H locs hP hok => ?_)
    refine lv_if_eq (tgt := 28) hx hb d_M_exchange_20 (by decide) (fun hc => ?_) (fun hc => ?_)
    · replace hP := hP.1 hc
      refine lv_iconst (v := 0) hx hb d_M_exchange_28 (by decide) ?_
      exact mo_zret hx hb hr hlocks hok hP d_M_exchange_29
    · replace hP := hP.2 hc
      refine lv_iload_n hx hb d_M_exchange_23 rfl (lv_at hl 2 rfl) ?_
      refine lv_iload_n hx hb d_M_exchange_24 rfl (lv_at hl 3 rfl) ?_
      refine lv_icmp_ne (tgt := 30) hx hb d_M_exchange_25 (by decide) (fun hc => ?_) (fun hc => ?_)
      · replace hP := hP.2 hc
        refine lv_iload hx hb d_M_exchange_30 (lv_at hl 4 rfl) ?_
        refine lv_i2l hx hb d_M_exchange_32 rfl ?_
        refine lv_aload_n hx hb d_M_exchange_33 rfl (lv_at hl 0 rfl) ?_
        refine mr_gr (C := "PurseHouseModel") (T := F_4) (N := 27) (ref := "PurseHouseModel") hx hb hts hown hok hP ui_4 rfl (by decide) (hts _ wd_617) (fun _ h => h) d_M_exchange_34 (fun v6 hP => ?_)
        refine lv_iconst (v := 3) hx hb d_M_exchange_37 (by decide) ?_
        refine lv_iload_n hx hb d_M_exchange_38 rfl (lv_at hl 2 rfl) ?_
        refine lv_imul hx hb d_M_exchange_39 ?_
        refine lv_iload_n hx hb d_M_exchange_40 rfl (lv_at hl 3 rfl) ?_
        refine lv_iadd hx hb d_M_exchange_41 ?_
        refine mr_ai hx hb hok hP 0 rfl d_M_exchange_42 (fun v7 hP => ?_)
        refine lv_i2l hx hb d_M_exchange_43 rfl ?_
        refine lv_lmul hx hb d_M_exchange_44 ?_
        refine lv_aload_n hx hb d_M_exchange_45 rfl (lv_at hl 0 rfl) ?_
        refine mr_gr (C := "PurseHouseModel") (T := F_4) (N := 27) (ref := "PurseHouseModel") hx hb hts hown hok hP ui_4 rfl (by decide) (hts _ wd_618) (fun _ h => h) d_M_exchange_46 (fun v8 hP => ?_)
        refine lv_iconst (v := 3) hx hb d_M_exchange_49 (by decide) ?_
        refine lv_iload_n hx hb d_M_exchange_50 rfl (lv_at hl 2 rfl) ?_
        refine lv_imul hx hb d_M_exchange_51 ?_
        refine lv_iload_n hx hb d_M_exchange_52 rfl (lv_at hl 3 rfl) ?_
        refine lv_iadd hx hb d_M_exchange_53 ?_
        refine mr_ai hx hb hok hP 0 rfl d_M_exchange_54 (fun v9 hP => ?_)
        refine lv_i2l hx hb d_M_exchange_55 rfl ?_
        obtain ⟨hne, hP⟩ := hP
        refine lv_ldiv hx hb d_M_exchange_56 hne ?_
        refine lv_lstore (lv' := [(5, .long ((((x4.toInt64 * v7.toInt64)) / v9.toInt64))), (0, .ref x0), (1, .int x1), (2, .int x2), (3, .int x3), (4, .int x4)]) hx hb d_M_exchange_57 hl (by decide) rfl (fun ls hl => ?_)
        refine lv_aload_n hx hb d_M_exchange_59 rfl (lv_at hl 1 rfl) ?_
        refine lv_iload_n hx hb d_M_exchange_60 rfl (lv_at hl 2 rfl) ?_
        refine lv_iload_n hx hb d_M_exchange_61 rfl (lv_at hl 3 rfl) ?_
        refine lv_iload hx hb d_M_exchange_62 (lv_at hl 5 rfl) ?_
        refine lv_ineg hx hb d_M_exchange_64 ?_
        refine lv_i2l hx hb d_M_exchange_65 rfl ?_
        refine lv_iload hx hb d_M_exchange_66 (lv_at hl 5 rfl) ?_
        refine lv_i2l hx hb d_M_exchange_68 rfl ?_
        refine lv_lconst (v := 0) hx hb d_M_exchange_69 (by decide) ?_
        obtain ⟨⟨fs9, he9⟩, hP⟩ := hP
        refine mo_callv hok (va_runV (As := [.int x1, .int x2, .long (((-x4)).toInt64), .long x4.toInt64, .long ((0 : Int64))]) (rest := []) ⟨hx, hb, hml, hown, hts⟩ (cc_M_note l L0 D hP) ⟨(callB_of 5 hts (lw_gi wd_724) rfl rfl rfl (hts _ wd_39) (hts _ wd_721) (by decide +kernel) ⟨Nat.le_of_ble_eq_true rfl, Nat.le_of_ble_eq_true rfl⟩), hts _ wd_723, hts _ wd_16⟩ (mo_preV hok he9 rfl [.int x1, .int x2, .long (((-x4)).toInt64), .long x4.toInt64, .long ((0 : Int64))]) rfl rfl hl.1 rfl (lv_room (Nat.le_of_ble_eq_true rfl)) d_M_exchange_70 ⟨Nat.zero_le _, Nat.zero_le _⟩) (fun M10 H locs hP hok => ?_)
        refine lv_aload_n hx hb d_M_exchange_73 rfl (lv_at hl 1 rfl) ?_
        refine lv_iload_n hx hb d_M_exchange_74 rfl (lv_at hl 2 rfl) ?_
        refine lv_iload_n hx hb d_M_exchange_75 rfl (lv_at hl 4 rfl) ?_
        refine lv_lload hx hb d_M_exchange_76 (lv_at hl 0 rfl) ?_
        refine lv_lload hx hb d_M_exchange_78 (lv_at hl 0 rfl) ?_
        refine lv_lneg hx hb d_M_exchange_80 ?_
        refine lv_lconst (v := 0) hx hb d_M_exchange_81 (by decide) ?_
        obtain ⟨⟨fs9, he9⟩, hP⟩ := hP
        refine mo_callv hok (va_runV (As := [.int x1, .int x3, .long ((((x4.toInt64 * v7.toInt64)) / v9.toInt64)), .long ((-((((x4.toInt64 * v7.toInt64)) / v9.toInt64)))), .long ((0 : Int64))]) (rest := []) ⟨hx, hb, hml, hown, hts⟩ (cc_M_note l L0 D hP) ⟨(callB_of 5 hts (lw_gi wd_724) rfl rfl rfl (hts _ wd_39) (hts _ wd_721) (by decide +kernel) ⟨Nat.le_of_ble_eq_true rfl, Nat.le_of_ble_eq_true rfl⟩), hts _ wd_723, hts _ wd_16⟩ (mo_preV hok he9 rfl [.int x1, .int x3, .long ((((x4.toInt64 * v7.toInt64)) / v9.toInt64)), .long ((-((((x4.toInt64 * v7.toInt64)) / v9.toInt64)))), .long ((0 : Int64))]) rfl rfl hl.1 rfl (lv_room (Nat.le_of_ble_eq_true rfl)) d_M_exchange_82 ⟨Nat.zero_le _, Nat.zero_le _⟩) (fun M11 H locs hP hok => ?_)
        refine lv_aload_n hx hb d_M_exchange_85 rfl (lv_at hl 1 rfl) ?_
        refine mr_gr (C := "PurseHouseModel") (T := F_4) (N := 27) (ref := "PurseHouseModel") hx hb hts hown hok hP ui_4 rfl (by decide) (hts _ wd_623) (fun _ h => h) d_M_exchange_86 (fun v12 hP => ?_)
        refine lv_aload_n hx hb d_M_exchange_89 rfl (lv_at hl 1 rfl) ?_
        refine mr_gi (C := "PurseHouseModel") (T := F_4) (N := 27) (ref := "PurseHouseModel") hx hb hts hown hok hP ui_4 rfl (by decide) (hts _ wd_619) (fun _ h => h) d_M_exchange_90 (fun v13 hP => ?_)
        refine lv_iconst (v := 1) hx hb d_M_exchange_93 (by decide) ?_
        refine lv_isub hx hb d_M_exchange_94 ?_
        refine lv_iconst (v := 0) hx hb d_M_exchange_95 (by decide) ?_
        refine mr_si hx hb hok hP 0 rfl d_M_exchange_96 (fun M14 H locs hP hok => ?_)
        refine lv_iconst (v := 1) hx hb d_M_exchange_97 (by decide) ?_
        exact mo_zret hx hb hr hlocks hok hP d_M_exchange_98
      · replace hP := hP.1 hc
        refine lv_iconst (v := 0) hx hb d_M_exchange_28 (by decide) ?_
        exact mo_zret hx hb hr hlocks hok hP d_M_exchange_29

abbrev b_M_isLink : ByteArray := prog_6_method_5_code
def y_M_isLink : MethodName := ⟨"PurseHouseModel", "isLink", "(I)Z"⟩
def ws_M_isLink : List Cond := .code y_M_isLink b_M_isLink 2 (Option.some Jvm.ClassFile.FieldType.boolean) :: lw_g
theorem d_M_isLink_0 : decode b_M_isLink 0 = .ok (.iload_n 1, 1) := by decide +kernel
theorem d_M_isLink_1 : decode b_M_isLink 1 = .ok (.ifCond .lt 15, 3) := by decide +kernel
theorem d_M_isLink_4 : decode b_M_isLink 4 = .ok (.iload_n 1, 1) := by decide +kernel
theorem d_M_isLink_5 : decode b_M_isLink 5 = .ok (.aload_n 0, 1) := by decide +kernel
theorem d_M_isLink_6 : decode b_M_isLink 6 = .ok (.getfield 79, 3) := by decide +kernel
theorem d_M_isLink_9 : decode b_M_isLink 9 = .ok (.if_icmp .ge 7, 3) := by decide +kernel
theorem d_M_isLink_12 : decode b_M_isLink 12 = .ok (.iconst 1, 1) := by decide +kernel
theorem d_M_isLink_13 : decode b_M_isLink 13 = .ok (.goto 4, 3) := by decide +kernel
theorem d_M_isLink_16 : decode b_M_isLink 16 = .ok (.iconst 0, 1) := by decide +kernel
theorem d_M_isLink_17 : decode b_M_isLink 17 = .ok (.ireturn, 1) := by decide +kernel
def pp_M_isLink (g : Nat → ClassId) (e0 : Nat → Nat) (K : Int32 → mo_M → Prop) (M : mo_M) (x0 : Nat) (x1 : Int32) : Prop := ((x1 < 0 → (narrow .boolean (.int ((0 : Int32))) = .int ((0 : Int32)) ∧ K ((0 : Int32)) M)) ∧ (¬ (x1 < 0) → mp_gi M x0 4 3 (fun v1 => ((v1 ≤ x1 → (narrow .boolean (.int ((0 : Int32))) = .int ((0 : Int32)) ∧ K ((0 : Int32)) M)) ∧ (¬ (v1 ≤ x1) → (narrow .boolean (.int ((1 : Int32))) = .int ((1 : Int32)) ∧ K ((1 : Int32)) M))))))
set_option maxHeartbeats 4000000 in
set_option maxRecDepth 100000 in
theorem cc_M_isLink (l : Launch) (L0 : Nat) (D : va_G) {g : Nat → ClassId} {e0 : Nat → Nat} {K : Int32 → mo_M → Prop} {M : mo_M} {x0 : Nat} {x1 : Int32} (hP : pp_M_isLink g e0 K M x0 x1) : Met l y_M_isLink ws_M_isLink (mo_R 0 0 0 0) (va_Pc [.ref x0, .int x1] (fun U => mo_B L0 e0 D vwCl (mo_T g) M U)) (mo_Qi L0 e0 D vwCl (mo_T g) K) 0 0 (fun q => L0 ≤ q) := by
  refine Met.ofW (cc := b_M_isLink) (maxL := 2) (ret := (Option.some Jvm.ClassFile.FieldType.boolean)) (by decide +kernel) rfl ?_
  intro p e s m args below meth c s₁ B hml hv
  obtain ⟨hv1, hB0⟩ := hv
  have hx := B.exec
  have hb := B.bytes
  have hr := B.returns
  have hts : ∀ w ∈ lw_g, w.before args s = true := fun w hw => atoms_spec (ws := ws_M_isLink) B.pre w (List.mem_cons_of_mem _ hw)
  have hown : s.vm.findClass "PurseHouseModel" = some m.cls := findClass_of_methodNamed B.named
  have hlocks := B.notSynchronized
  have hok : mo_ok L0 e0 D vwCl (mo_T g) s M s.heap [] := ⟨hB0.1, hB0.2.1, hB0.2.2, va_S.rf⟩
  have hl := lv_entry ([.ref x0, .int x1]) (n := 2) (Nat.le_of_ble_eq_true rfl)
  rw [hv1, lg_entry_eq]
  rw [← hv1]
  generalize (lg_sl [.ref x0, .int x1] ++ List.replicate (2 - (lg_sl [.ref x0, .int x1]).length) Slot.unset).toArray = ls at hl ⊢
  have hl : lv_has ls 2 [(0, .ref x0), (1, .int x1)] := hl
  unfold pp_M_isLink at hP
  refine lv_iload_n hx hb d_M_isLink_0 rfl (lv_at hl 1 rfl) ?_
  refine lv_if_lt (tgt := 16) hx hb d_M_isLink_1 (by decide) (fun hc => ?_) (fun hc => ?_)
  · replace hP := hP.1 hc
    refine lv_iconst (v := 0) hx hb d_M_isLink_16 (by decide) ?_
    exact mo_zret hx hb hr hlocks hok hP d_M_isLink_17
  · replace hP := hP.2 hc
    refine lv_iload_n hx hb d_M_isLink_4 rfl (lv_at hl 1 rfl) ?_
    refine lv_aload_n hx hb d_M_isLink_5 rfl (lv_at hl 0 rfl) ?_
    refine mr_gi (C := "PurseHouseModel") (T := F_4) (N := 27) (ref := "PurseHouseModel") hx hb hts hown hok hP ui_4 rfl (by decide) (hts _ wd_613) (fun _ h => h) d_M_isLink_6 (fun v1 hP => ?_)
    refine lv_icmp_ge (tgt := 16) hx hb d_M_isLink_9 (by decide) (fun hc => ?_) (fun hc => ?_)
    · replace hP := hP.1 hc
      refine lv_iconst (v := 0) hx hb d_M_isLink_16 (by decide) ?_
      exact mo_zret hx hb hr hlocks hok hP d_M_isLink_17
    · replace hP := hP.2 hc
      refine lv_iconst (v := 1) hx hb d_M_isLink_12 (by decide) ?_
      refine lv_goto (tgt := 17) hx hb d_M_isLink_13 (by decide) ?_
      exact mo_zret hx hb hr hlocks hok hP d_M_isLink_17

