abbrev b_K_init : ByteArray := prog_2_method_1_code
def y_K_init : MethodName := ⟨"PurseHouse$Kiosk", "<init>", "()V"⟩
def ws_K_init : List Cond := .code y_K_init b_K_init 1 (Option.none : Option Jvm.ClassFile.FieldType) :: lw_g
theorem d_K_init_0 : decode b_K_init 0 = .ok (.aload_n 0, 1) := by decide +kernel
theorem d_K_init_1 : decode b_K_init 1 = .ok (.invokespecial 3, 3) := by decide +kernel
theorem d_K_init_4 : decode b_K_init 4 = .ok (.aload_n 0, 1) := by decide +kernel
theorem d_K_init_5 : decode b_K_init 5 = .ok (.iconst 3, 1) := by decide +kernel
theorem d_K_init_6 : decode b_K_init 6 = .ok (.newarray .long, 2) := by decide +kernel
theorem d_K_init_8 : decode b_K_init 8 = .ok (.putfield 9, 3) := by decide +kernel
theorem d_K_init_11 : decode b_K_init 11 = .ok (.aload_n 0, 1) := by decide +kernel
theorem d_K_init_12 : decode b_K_init 12 = .ok (.iconst 3, 1) := by decide +kernel
theorem d_K_init_13 : decode b_K_init 13 = .ok (.newarray .long, 2) := by decide +kernel
theorem d_K_init_15 : decode b_K_init 15 = .ok (.putfield 15, 3) := by decide +kernel
theorem d_K_init_18 : decode b_K_init 18 = .ok (.aload_n 0, 1) := by decide +kernel
theorem d_K_init_19 : decode b_K_init 19 = .ok (.iconst 3, 1) := by decide +kernel
theorem d_K_init_20 : decode b_K_init 20 = .ok (.newarray .long, 2) := by decide +kernel
theorem d_K_init_22 : decode b_K_init 22 = .ok (.putfield 18, 3) := by decide +kernel
theorem d_K_init_25 : decode b_K_init 25 = .ok (.aload_n 0, 1) := by decide +kernel
theorem d_K_init_26 : decode b_K_init 26 = .ok (.iconst 0, 1) := by decide +kernel
theorem d_K_init_27 : decode b_K_init 27 = .ok (.putfield 21, 3) := by decide +kernel
theorem d_K_init_30 : decode b_K_init 30 = .ok (.aload_n 0, 1) := by decide +kernel
theorem d_K_init_31 : decode b_K_init 31 = .ok (.iconst 0, 1) := by decide +kernel
theorem d_K_init_32 : decode b_K_init 32 = .ok (.putfield 25, 3) := by decide +kernel
theorem d_K_init_35 : decode b_K_init 35 = .ok (.aload_n 0, 1) := by decide +kernel
theorem d_K_init_36 : decode b_K_init 36 = .ok (.bipush 16, 2) := by decide +kernel
theorem d_K_init_38 : decode b_K_init 38 = .ok (.iconst 3, 1) := by decide +kernel
theorem d_K_init_39 : decode b_K_init 39 = .ok (.multianewarray 28 2, 4) := by decide +kernel
theorem d_K_init_43 : decode b_K_init 43 = .ok (.putfield 30, 3) := by decide +kernel
theorem d_K_init_46 : decode b_K_init 46 = .ok (.aload_n 0, 1) := by decide +kernel
theorem d_K_init_47 : decode b_K_init 47 = .ok (.bipush 16, 2) := by decide +kernel
theorem d_K_init_49 : decode b_K_init 49 = .ok (.iconst 3, 1) := by decide +kernel
theorem d_K_init_50 : decode b_K_init 50 = .ok (.multianewarray 28 2, 4) := by decide +kernel
theorem d_K_init_54 : decode b_K_init 54 = .ok (.putfield 33, 3) := by decide +kernel
theorem d_K_init_57 : decode b_K_init 57 = .ok (.aload_n 0, 1) := by decide +kernel
theorem d_K_init_58 : decode b_K_init 58 = .ok (.bipush 16, 2) := by decide +kernel
theorem d_K_init_60 : decode b_K_init 60 = .ok (.iconst 3, 1) := by decide +kernel
theorem d_K_init_61 : decode b_K_init 61 = .ok (.multianewarray 28 2, 4) := by decide +kernel
theorem d_K_init_65 : decode b_K_init 65 = .ok (.putfield 36, 3) := by decide +kernel
theorem d_K_init_68 : decode b_K_init 68 = .ok (.aload_n 0, 1) := by decide +kernel
theorem d_K_init_69 : decode b_K_init 69 = .ok (.bipush 16, 2) := by decide +kernel
theorem d_K_init_71 : decode b_K_init 71 = .ok (.newarray .int, 2) := by decide +kernel
theorem d_K_init_73 : decode b_K_init 73 = .ok (.putfield 39, 3) := by decide +kernel
theorem d_K_init_76 : decode b_K_init 76 = .ok (.return_, 1) := by decide +kernel
def pp_K_init (g : Nat → ClassId) (e0 : Nat → Nat) (mc ms : Nat) (K : mo_M → Prop) (M : mo_M) (x0 : Nat) : Prop := (0 + 1 ≤ mc ∧ 0 + ((3 : Int32)).toNatClampNeg ≤ ms ∧ mp_na (g 1) M ((3 : Int32)) (.inr (.inl (fun _ => 0))) (fun q1 M2 => mp_pt M2 x0 1 0 (.ref q1) (fun M3 => (((0 + 1)) + 1 ≤ mc ∧ ((0 + ((3 : Int32)).toNatClampNeg)) + ((3 : Int32)).toNatClampNeg ≤ ms ∧ mp_na (g 1) M3 ((3 : Int32)) (.inr (.inl (fun _ => 0))) (fun q4 M5 => mp_pt M5 x0 1 1 (.ref q4) (fun M6 => ((((0 + 1) + 1)) + 1 ≤ mc ∧ (((0 + ((3 : Int32)).toNatClampNeg) + ((3 : Int32)).toNatClampNeg)) + ((3 : Int32)).toNatClampNeg ≤ ms ∧ mp_na (g 1) M6 ((3 : Int32)) (.inr (.inl (fun _ => 0))) (fun q7 M8 => mp_pt M8 x0 1 2 (.ref q7) (fun M9 => mp_pt M9 x0 1 3 (.int ((0 : Int32))) (fun M10 => mp_pt M10 x0 1 4 (.int ((0 : Int32))) (fun M11 => (((((0 + 1) + 1) + 1)) + (1 + ((16 : Int32)).toNatClampNeg) ≤ mc ∧ ((((0 + ((3 : Int32)).toNatClampNeg) + ((3 : Int32)).toNatClampNeg) + ((3 : Int32)).toNatClampNeg)) + (((16 : Int32)).toNatClampNeg + ((16 : Int32)).toNatClampNeg * ((3 : Int32)).toNatClampNeg) ≤ ms ∧ mp_mn (g 4) (g 1) M11 ((16 : Int32)) ((3 : Int32)) (.inr (.inl (fun _ => 0))) (fun q12 M13 => mp_pt M13 x0 1 5 (.ref q12) (fun M14 => ((((((0 + 1) + 1) + 1) + 1 + ((16 : Int32)).toNatClampNeg)) + (1 + ((16 : Int32)).toNatClampNeg) ≤ mc ∧ (((((0 + ((3 : Int32)).toNatClampNeg) + ((3 : Int32)).toNatClampNeg) + ((3 : Int32)).toNatClampNeg) + ((16 : Int32)).toNatClampNeg + ((16 : Int32)).toNatClampNeg * ((3 : Int32)).toNatClampNeg)) + (((16 : Int32)).toNatClampNeg + ((16 : Int32)).toNatClampNeg * ((3 : Int32)).toNatClampNeg) ≤ ms ∧ mp_mn (g 4) (g 1) M14 ((16 : Int32)) ((3 : Int32)) (.inr (.inl (fun _ => 0))) (fun q15 M16 => mp_pt M16 x0 1 6 (.ref q15) (fun M17 => (((((((0 + 1) + 1) + 1) + 1 + ((16 : Int32)).toNatClampNeg) + 1 + ((16 : Int32)).toNatClampNeg)) + (1 + ((16 : Int32)).toNatClampNeg) ≤ mc ∧ ((((((0 + ((3 : Int32)).toNatClampNeg) + ((3 : Int32)).toNatClampNeg) + ((3 : Int32)).toNatClampNeg) + ((16 : Int32)).toNatClampNeg + ((16 : Int32)).toNatClampNeg * ((3 : Int32)).toNatClampNeg) + ((16 : Int32)).toNatClampNeg + ((16 : Int32)).toNatClampNeg * ((3 : Int32)).toNatClampNeg)) + (((16 : Int32)).toNatClampNeg + ((16 : Int32)).toNatClampNeg * ((3 : Int32)).toNatClampNeg) ≤ ms ∧ mp_mn (g 4) (g 1) M17 ((16 : Int32)) ((3 : Int32)) (.inr (.inl (fun _ => 0))) (fun q18 M19 => mp_pt M19 x0 1 7 (.ref q18) (fun M20 => ((((((((0 + 1) + 1) + 1) + 1 + ((16 : Int32)).toNatClampNeg) + 1 + ((16 : Int32)).toNatClampNeg) + 1 + ((16 : Int32)).toNatClampNeg)) + 1 ≤ mc ∧ (((((((0 + ((3 : Int32)).toNatClampNeg) + ((3 : Int32)).toNatClampNeg) + ((3 : Int32)).toNatClampNeg) + ((16 : Int32)).toNatClampNeg + ((16 : Int32)).toNatClampNeg * ((3 : Int32)).toNatClampNeg) + ((16 : Int32)).toNatClampNeg + ((16 : Int32)).toNatClampNeg * ((3 : Int32)).toNatClampNeg) + ((16 : Int32)).toNatClampNeg + ((16 : Int32)).toNatClampNeg * ((3 : Int32)).toNatClampNeg)) + ((16 : Int32)).toNatClampNeg ≤ ms ∧ mp_na (g 0) M20 ((16 : Int32)) (.inl (fun _ => 0)) (fun q21 M22 => mp_pt M22 x0 1 8 (.ref q21) (fun M23 => (((((((((0 + 1) + 1) + 1) + 1 + ((16 : Int32)).toNatClampNeg) + 1 + ((16 : Int32)).toNatClampNeg) + 1 + ((16 : Int32)).toNatClampNeg) + 1)) ≤ mc ∧ ((((((((0 + ((3 : Int32)).toNatClampNeg) + ((3 : Int32)).toNatClampNeg) + ((3 : Int32)).toNatClampNeg) + ((16 : Int32)).toNatClampNeg + ((16 : Int32)).toNatClampNeg * ((3 : Int32)).toNatClampNeg) + ((16 : Int32)).toNatClampNeg + ((16 : Int32)).toNatClampNeg * ((3 : Int32)).toNatClampNeg) + ((16 : Int32)).toNatClampNeg + ((16 : Int32)).toNatClampNeg * ((3 : Int32)).toNatClampNeg) + ((16 : Int32)).toNatClampNeg)) ≤ ms ∧ K M23))))))))))))))))))))))))
set_option maxHeartbeats 4000000 in
set_option maxRecDepth 100000 in
theorem cc_K_init (l : Launch) (L0 : Nat) (D : va_G) {g : Nat → ClassId} {e0 : Nat → Nat} {mc ms : Nat} {K : mo_M → Prop} {M : mo_M} {x0 : Nat} (hP : pp_K_init g e0 mc ms K M x0) : Met l y_K_init ws_K_init (mo_R 1 mc ms 12) (va_Pc [.ref x0] (fun U => mo_B L0 e0 D vwCl (mo_T g) M U)) (mo_Qv L0 e0 D vwCl (mo_T g) K) mc ms (fun q => L0 ≤ q) := by
  refine Met.ofW (cc := b_K_init) (maxL := 1) (ret := (Option.none : Option Jvm.ClassFile.FieldType)) (by decide +kernel) rfl ?_
  intro p e s m args below meth c s₁ B hml hv
  obtain ⟨hv1, hB0⟩ := hv
  have hx := B.exec
  have hb := B.bytes
  have hr := B.returns
  have hts : ∀ w ∈ lw_g, w.before args s = true := fun w hw => atoms_spec (ws := ws_K_init) B.pre w (List.mem_cons_of_mem _ hw)
  have hown : s.vm.findClass "PurseHouse$Kiosk" = some m.cls := findClass_of_methodNamed B.named
  have hlocks := B.notSynchronized
  have hin : meth.name = "<init>" := (name_of_methodNamed B.named B.method).1
  have hok : mo_ok L0 e0 D vwCl (mo_T g) s M s.heap [] := ⟨hB0.1, hB0.2.1, hB0.2.2, va_S.rf⟩
  have hl := lv_entry ([.ref x0]) (n := 1) (Nat.le_of_ble_eq_true rfl)
  rw [hv1, lg_entry_eq]
  rw [← hv1]
  generalize (lg_sl [.ref x0] ++ List.replicate (1 - (lg_sl [.ref x0]).length) Slot.unset).toArray = ls at hl ⊢
  have hl : lv_has ls 1 [(0, .ref x0)] := hl
  unfold pp_K_init at hP
  refine lv_aload_n hx hb d_K_init_0 rfl (lv_at hl 0 rfl) ?_
  refine W.objInit hx hb hown (hts _ wd_100) (hts _ wd_58) (hts _ wd_59) rfl (by rw [hml]; exact hl.1) rfl d_K_init_1 (Nat.le_of_ble_eq_true rfl) (Nat.le_of_ble_eq_true rfl) ?_
  refine W.eq (g2 := F0 m 4 ls []) rfl ?_
  refine lv_aload_n hx hb d_K_init_4 rfl (lv_at hl 0 rfl) ?_
  refine lv_iconst (v := 3) hx hb d_K_init_5 (by decide) ?_
  obtain ⟨hcc, hss, hP⟩ := hP
  refine mr_na (atype := .long) (ty := .long) hx hb hok hP (hts _ wd_140) rfl 1 rfl (fun h => h) (fun _ => rfl) (by decide) hcc hss d_K_init_6 (fun q1 M2 H hP hok => ?_)
  refine mr_ptF (C := "PurseHouse$Kiosk") (T := F_1) (N := 9) (ref := "PurseHouse$Kiosk") (ty := (.array .long)) hx hb hts hown hok hP ui_1 ty_1 th_1 tn_1 rfl (by decide) (hts _ wd_103) (fun _ h => h) rfl hin rfl (by decide +kernel) rfl rfl d_K_init_8 (fun M3 H locs hP hok => ?_)
  refine lv_aload_n hx hb d_K_init_11 rfl (lv_at hl 0 rfl) ?_
  refine lv_iconst (v := 3) hx hb d_K_init_12 (by decide) ?_
  obtain ⟨hcc, hss, hP⟩ := hP
  refine mr_na (atype := .long) (ty := .long) hx hb hok hP (hts _ wd_140) rfl 1 rfl (fun h => h) (fun _ => rfl) (by decide) hcc hss d_K_init_13 (fun q4 M5 H hP hok => ?_)
  refine mr_ptF (C := "PurseHouse$Kiosk") (T := F_1) (N := 9) (ref := "PurseHouse$Kiosk") (ty := (.array .long)) hx hb hts hown hok hP ui_1 ty_1 th_1 tn_1 rfl (by decide) (hts _ wd_105) (fun _ h => h) rfl hin rfl (by decide +kernel) rfl rfl d_K_init_15 (fun M6 H locs hP hok => ?_)
  refine lv_aload_n hx hb d_K_init_18 rfl (lv_at hl 0 rfl) ?_
  refine lv_iconst (v := 3) hx hb d_K_init_19 (by decide) ?_
  obtain ⟨hcc, hss, hP⟩ := hP
  refine mr_na (atype := .long) (ty := .long) hx hb hok hP (hts _ wd_140) rfl 1 rfl (fun h => h) (fun _ => rfl) (by decide) hcc hss d_K_init_20 (fun q7 M8 H hP hok => ?_)
  refine mr_ptF (C := "PurseHouse$Kiosk") (T := F_1) (N := 9) (ref := "PurseHouse$Kiosk") (ty := (.array .long)) hx hb hts hown hok hP ui_1 ty_1 th_1 tn_1 rfl (by decide) (hts _ wd_107) (fun _ h => h) rfl hin rfl (by decide +kernel) rfl rfl d_K_init_22 (fun M9 H locs hP hok => ?_)
  refine lv_aload_n hx hb d_K_init_25 rfl (lv_at hl 0 rfl) ?_
  refine lv_iconst (v := 0) hx hb d_K_init_26 (by decide) ?_
  refine mr_pt (C := "PurseHouse$Kiosk") (T := F_1) (N := 9) (ref := "PurseHouse$Kiosk") (ty := .int) hx hb hts hown hok hP ui_1 ty_1 th_1 tn_1 rfl (by decide) (hts _ wd_108) (fun _ h => h) rfl (by decide +kernel) rfl rfl d_K_init_27 (fun M10 H locs hP hok => ?_)
  refine lv_aload_n hx hb d_K_init_30 rfl (lv_at hl 0 rfl) ?_
  refine lv_iconst (v := 0) hx hb d_K_init_31 (by decide) ?_
  refine mr_pt (C := "PurseHouse$Kiosk") (T := F_1) (N := 9) (ref := "PurseHouse$Kiosk") (ty := .int) hx hb hts hown hok hP ui_1 ty_1 th_1 tn_1 rfl (by decide) (hts _ wd_110) (fun _ h => h) rfl (by decide +kernel) rfl rfl d_K_init_32 (fun M11 H locs hP hok => ?_)
  refine lv_aload_n hx hb d_K_init_35 rfl (lv_at hl 0 rfl) ?_
  refine lv_bipush (v := 16) hx hb d_K_init_36 (by decide) ?_
  refine lv_iconst (v := 3) hx hb d_K_init_38 (by decide) ?_
  obtain ⟨hcc, hss, hP⟩ := hP
  refine mr_mn (ty := .long) hx hb hown hok hP (by decide) (hts _ wd_101) hok.2.1.2.1.2.2.2.2.2 (hts _ wd_140) 4 1 rfl rfl (fun h => h) (by decide) rfl rfl (fun _ => rfl) hcc hss d_K_init_39 (fun q12 M13 H hP hok => ?_)
  refine mr_ptF (C := "PurseHouse$Kiosk") (T := F_1) (N := 9) (ref := "PurseHouse$Kiosk") (ty := (.array (.array .long))) hx hb hts hown hok hP ui_1 ty_1 th_1 tn_1 rfl (by decide) (hts _ wd_112) (fun _ h => h) rfl hin rfl (by decide +kernel) rfl rfl d_K_init_43 (fun M14 H locs hP hok => ?_)
  refine lv_aload_n hx hb d_K_init_46 rfl (lv_at hl 0 rfl) ?_
  refine lv_bipush (v := 16) hx hb d_K_init_47 (by decide) ?_
  refine lv_iconst (v := 3) hx hb d_K_init_49 (by decide) ?_
  obtain ⟨hcc, hss, hP⟩ := hP
  refine mr_mn (ty := .long) hx hb hown hok hP (by decide) (hts _ wd_101) hok.2.1.2.1.2.2.2.2.2 (hts _ wd_140) 4 1 rfl rfl (fun h => h) (by decide) rfl rfl (fun _ => rfl) hcc hss d_K_init_50 (fun q15 M16 H hP hok => ?_)
  refine mr_ptF (C := "PurseHouse$Kiosk") (T := F_1) (N := 9) (ref := "PurseHouse$Kiosk") (ty := (.array (.array .long))) hx hb hts hown hok hP ui_1 ty_1 th_1 tn_1 rfl (by decide) (hts _ wd_114) (fun _ h => h) rfl hin rfl (by decide +kernel) rfl rfl d_K_init_54 (fun M17 H locs hP hok => ?_)
  refine lv_aload_n hx hb d_K_init_57 rfl (lv_at hl 0 rfl) ?_
  refine lv_bipush (v := 16) hx hb d_K_init_58 (by decide) ?_
  refine lv_iconst (v := 3) hx hb d_K_init_60 (by decide) ?_
  obtain ⟨hcc, hss, hP⟩ := hP
  refine mr_mn (ty := .long) hx hb hown hok hP (by decide) (hts _ wd_101) hok.2.1.2.1.2.2.2.2.2 (hts _ wd_140) 4 1 rfl rfl (fun h => h) (by decide) rfl rfl (fun _ => rfl) hcc hss d_K_init_61 (fun q18 M19 H hP hok => ?_)
  refine mr_ptF (C := "PurseHouse$Kiosk") (T := F_1) (N := 9) (ref := "PurseHouse$Kiosk") (ty := (.array (.array .long))) hx hb hts hown hok hP ui_1 ty_1 th_1 tn_1 rfl (by decide) (hts _ wd_116) (fun _ h => h) rfl hin rfl (by decide +kernel) rfl rfl d_K_init_65 (fun M20 H locs hP hok => ?_)
  refine lv_aload_n hx hb d_K_init_68 rfl (lv_at hl 0 rfl) ?_
  refine lv_bipush (v := 16) hx hb d_K_init_69 (by decide) ?_
  obtain ⟨hcc, hss, hP⟩ := hP
  refine mr_na (atype := .int) (ty := .int) hx hb hok hP (hts _ wd_139) rfl 0 rfl (fun h => h) (fun _ => rfl) (by decide) hcc hss d_K_init_71 (fun q21 M22 H hP hok => ?_)
  refine mr_ptF (C := "PurseHouse$Kiosk") (T := F_1) (N := 9) (ref := "PurseHouse$Kiosk") (ty := (.array .int)) hx hb hts hown hok hP ui_1 ty_1 th_1 tn_1 rfl (by decide) (hts _ wd_118) (fun _ h => h) rfl hin rfl (by decide +kernel) rfl rfl d_K_init_73 (fun M23 H locs hP hok => ?_)
  obtain ⟨hcu, hsu, hP⟩ := hP
  refine W.widen (k := mc) (n := ms) hcu hsu ?_
  exact mo_vret hx hb hr hlocks hok hP d_K_init_76

abbrev b_K_addCoins : ByteArray := prog_2_method_4_code
def y_K_addCoins : MethodName := ⟨"PurseHouse$Kiosk", "addCoins", "(II)V"⟩
def ws_K_addCoins : List Cond := .code y_K_addCoins b_K_addCoins 3 (Option.none : Option Jvm.ClassFile.FieldType) :: lw_g
theorem d_K_addCoins_0 : decode b_K_addCoins 0 = .ok (.aload_n 0, 1) := by decide +kernel
theorem d_K_addCoins_1 : decode b_K_addCoins 1 = .ok (.getfield 9, 3) := by decide +kernel
theorem d_K_addCoins_4 : decode b_K_addCoins 4 = .ok (.iload_n 1, 1) := by decide +kernel
theorem d_K_addCoins_5 : decode b_K_addCoins 5 = .ok (.dup2, 1) := by decide +kernel
theorem d_K_addCoins_6 : decode b_K_addCoins 6 = .ok (.laload, 1) := by decide +kernel
theorem d_K_addCoins_7 : decode b_K_addCoins 7 = .ok (.iload_n 2, 1) := by decide +kernel
theorem d_K_addCoins_8 : decode b_K_addCoins 8 = .ok (.i2l, 1) := by decide +kernel
theorem d_K_addCoins_9 : decode b_K_addCoins 9 = .ok (.ladd, 1) := by decide +kernel
theorem d_K_addCoins_10 : decode b_K_addCoins 10 = .ok (.lastore, 1) := by decide +kernel
theorem d_K_addCoins_11 : decode b_K_addCoins 11 = .ok (.aload_n 0, 1) := by decide +kernel
theorem d_K_addCoins_12 : decode b_K_addCoins 12 = .ok (.getfield 18, 3) := by decide +kernel
theorem d_K_addCoins_15 : decode b_K_addCoins 15 = .ok (.iload_n 1, 1) := by decide +kernel
theorem d_K_addCoins_16 : decode b_K_addCoins 16 = .ok (.dup2, 1) := by decide +kernel
theorem d_K_addCoins_17 : decode b_K_addCoins 17 = .ok (.laload, 1) := by decide +kernel
theorem d_K_addCoins_18 : decode b_K_addCoins 18 = .ok (.iload_n 2, 1) := by decide +kernel
theorem d_K_addCoins_19 : decode b_K_addCoins 19 = .ok (.i2l, 1) := by decide +kernel
theorem d_K_addCoins_20 : decode b_K_addCoins 20 = .ok (.ladd, 1) := by decide +kernel
theorem d_K_addCoins_21 : decode b_K_addCoins 21 = .ok (.lastore, 1) := by decide +kernel
theorem d_K_addCoins_22 : decode b_K_addCoins 22 = .ok (.aload_n 0, 1) := by decide +kernel
theorem d_K_addCoins_23 : decode b_K_addCoins 23 = .ok (.dup, 1) := by decide +kernel
theorem d_K_addCoins_24 : decode b_K_addCoins 24 = .ok (.getfield 21, 3) := by decide +kernel
theorem d_K_addCoins_27 : decode b_K_addCoins 27 = .ok (.iconst 1, 1) := by decide +kernel
theorem d_K_addCoins_28 : decode b_K_addCoins 28 = .ok (.iadd, 1) := by decide +kernel
theorem d_K_addCoins_29 : decode b_K_addCoins 29 = .ok (.putfield 21, 3) := by decide +kernel
theorem d_K_addCoins_32 : decode b_K_addCoins 32 = .ok (.return_, 1) := by decide +kernel
def pp_K_addCoins (g : Nat → ClassId) (e0 : Nat → Nat) (K : mo_M → Prop) (M : mo_M) (x0 : Nat) (x1 : Int32) (x2 : Int32) : Prop := mp_gr M x0 1 0 (fun v1 => mp_al (g 1) M v1 x1 (fun v2 => mp_sl (g 1) M v1 x1 ((v2 + x2.toInt64)) (fun M3 => mp_gr M3 x0 1 2 (fun v4 => mp_al (g 1) M3 v4 x1 (fun v5 => mp_sl (g 1) M3 v4 x1 ((v5 + x2.toInt64)) (fun M6 => mp_gi M6 x0 1 3 (fun v7 => mp_pt M6 x0 1 3 (.int ((v7 + ((1 : Int32))))) (fun M8 => K M8))))))))
set_option maxHeartbeats 4000000 in
set_option maxRecDepth 100000 in
theorem cc_K_addCoins (l : Launch) (L0 : Nat) (D : va_G) {g : Nat → ClassId} {e0 : Nat → Nat} {K : mo_M → Prop} {M : mo_M} {x0 : Nat} {x1 : Int32} {x2 : Int32} (hP : pp_K_addCoins g e0 K M x0 x1 x2) : Met l y_K_addCoins ws_K_addCoins (mo_R 0 0 0 0) (va_Pc [.ref x0, .int x1, .int x2] (fun U => mo_B L0 e0 D vwCl (mo_T g) M U)) (mo_Qv L0 e0 D vwCl (mo_T g) K) 0 0 (fun q => L0 ≤ q) := by
  refine Met.ofW (cc := b_K_addCoins) (maxL := 3) (ret := (Option.none : Option Jvm.ClassFile.FieldType)) (by decide +kernel) rfl ?_
  intro p e s m args below meth c s₁ B hml hv
  obtain ⟨hv1, hB0⟩ := hv
  have hx := B.exec
  have hb := B.bytes
  have hr := B.returns
  have hts : ∀ w ∈ lw_g, w.before args s = true := fun w hw => atoms_spec (ws := ws_K_addCoins) B.pre w (List.mem_cons_of_mem _ hw)
  have hown : s.vm.findClass "PurseHouse$Kiosk" = some m.cls := findClass_of_methodNamed B.named
  have hlocks := B.notSynchronized
  have hok : mo_ok L0 e0 D vwCl (mo_T g) s M s.heap [] := ⟨hB0.1, hB0.2.1, hB0.2.2, va_S.rf⟩
  have hl := lv_entry ([.ref x0, .int x1, .int x2]) (n := 3) (Nat.le_of_ble_eq_true rfl)
  rw [hv1, lg_entry_eq]
  rw [← hv1]
  generalize (lg_sl [.ref x0, .int x1, .int x2] ++ List.replicate (3 - (lg_sl [.ref x0, .int x1, .int x2]).length) Slot.unset).toArray = ls at hl ⊢
  have hl : lv_has ls 3 [(0, .ref x0), (1, .int x1), (2, .int x2)] := hl
  unfold pp_K_addCoins at hP
  refine lv_aload_n hx hb d_K_addCoins_0 rfl (lv_at hl 0 rfl) ?_
  refine mr_gr (C := "PurseHouse$Kiosk") (T := F_1) (N := 9) (ref := "PurseHouse$Kiosk") hx hb hts hown hok hP ui_1 rfl (by decide) (hts _ wd_103) (fun _ h => h) d_K_addCoins_1 (fun v1 hP => ?_)
  refine lv_iload_n hx hb d_K_addCoins_4 rfl (lv_at hl 1 rfl) ?_
  refine lv_dup2_11 hx hb d_K_addCoins_5 rfl rfl ?_
  refine mr_al hx hb hok hP 1 rfl d_K_addCoins_6 (fun v2 hP => ?_)
  refine lv_iload_n hx hb d_K_addCoins_7 rfl (lv_at hl 2 rfl) ?_
  refine lv_i2l hx hb d_K_addCoins_8 rfl ?_
  refine lv_ladd hx hb d_K_addCoins_9 ?_
  refine mr_sl hx hb hok hP 1 rfl d_K_addCoins_10 (fun M3 H locs hP hok => ?_)
  refine lv_aload_n hx hb d_K_addCoins_11 rfl (lv_at hl 0 rfl) ?_
  refine mr_gr (C := "PurseHouse$Kiosk") (T := F_1) (N := 9) (ref := "PurseHouse$Kiosk") hx hb hts hown hok hP ui_1 rfl (by decide) (hts _ wd_107) (fun _ h => h) d_K_addCoins_12 (fun v4 hP => ?_)
  refine lv_iload_n hx hb d_K_addCoins_15 rfl (lv_at hl 1 rfl) ?_
  refine lv_dup2_11 hx hb d_K_addCoins_16 rfl rfl ?_
  refine mr_al hx hb hok hP 1 rfl d_K_addCoins_17 (fun v5 hP => ?_)
  refine lv_iload_n hx hb d_K_addCoins_18 rfl (lv_at hl 2 rfl) ?_
  refine lv_i2l hx hb d_K_addCoins_19 rfl ?_
  refine lv_ladd hx hb d_K_addCoins_20 ?_
  refine mr_sl hx hb hok hP 1 rfl d_K_addCoins_21 (fun M6 H locs hP hok => ?_)
  refine lv_aload_n hx hb d_K_addCoins_22 rfl (lv_at hl 0 rfl) ?_
  refine lv_dup hx hb d_K_addCoins_23 rfl ?_
  refine mr_gi (C := "PurseHouse$Kiosk") (T := F_1) (N := 9) (ref := "PurseHouse$Kiosk") hx hb hts hown hok hP ui_1 rfl (by decide) (hts _ wd_108) (fun _ h => h) d_K_addCoins_24 (fun v7 hP => ?_)
  refine lv_iconst (v := 1) hx hb d_K_addCoins_27 (by decide) ?_
  refine lv_iadd hx hb d_K_addCoins_28 ?_
  refine mr_pt (C := "PurseHouse$Kiosk") (T := F_1) (N := 9) (ref := "PurseHouse$Kiosk") (ty := .int) hx hb hts hown hok hP ui_1 ty_1 th_1 tn_1 rfl (by decide) (hts _ wd_108) (fun _ h => h) rfl (by decide +kernel) rfl rfl d_K_addCoins_29 (fun M8 H locs hP hok => ?_)
  exact mo_vret hx hb hr hlocks hok hP d_K_addCoins_32

abbrev b_K_hasCoins : ByteArray := prog_2_method_3_code
def y_K_hasCoins : MethodName := ⟨"PurseHouse$Kiosk", "hasCoins", "(II)Z"⟩
def ws_K_hasCoins : List Cond := .code y_K_hasCoins b_K_hasCoins 3 (Option.some Jvm.ClassFile.FieldType.boolean) :: lw_g
theorem d_K_hasCoins_0 : decode b_K_hasCoins 0 = .ok (.iload_n 2, 1) := by decide +kernel
theorem d_K_hasCoins_1 : decode b_K_hasCoins 1 = .ok (.iconst 1, 1) := by decide +kernel
theorem d_K_hasCoins_2 : decode b_K_hasCoins 2 = .ok (.ldc 47, 2) := by decide +kernel
theorem d_K_hasCoins_4 : decode b_K_hasCoins 4 = .ok (.invokestatic 48, 3) := by decide +kernel
theorem d_K_hasCoins_7 : decode b_K_hasCoins 7 = .ok (.ifCond .eq 19, 3) := by decide +kernel
theorem d_K_hasCoins_10 : decode b_K_hasCoins 10 = .ok (.aload_n 0, 1) := by decide +kernel
theorem d_K_hasCoins_11 : decode b_K_hasCoins 11 = .ok (.getfield 9, 3) := by decide +kernel
theorem d_K_hasCoins_14 : decode b_K_hasCoins 14 = .ok (.iload_n 1, 1) := by decide +kernel
theorem d_K_hasCoins_15 : decode b_K_hasCoins 15 = .ok (.laload, 1) := by decide +kernel
theorem d_K_hasCoins_16 : decode b_K_hasCoins 16 = .ok (.iload_n 2, 1) := by decide +kernel
theorem d_K_hasCoins_17 : decode b_K_hasCoins 17 = .ok (.i2l, 1) := by decide +kernel
theorem d_K_hasCoins_18 : decode b_K_hasCoins 18 = .ok (.lcmp, 1) := by decide +kernel
theorem d_K_hasCoins_19 : decode b_K_hasCoins 19 = .ok (.ifCond .lt 7, 3) := by decide +kernel
theorem d_K_hasCoins_22 : decode b_K_hasCoins 22 = .ok (.iconst 1, 1) := by decide +kernel
theorem d_K_hasCoins_23 : decode b_K_hasCoins 23 = .ok (.goto 4, 3) := by decide +kernel
theorem d_K_hasCoins_26 : decode b_K_hasCoins 26 = .ok (.iconst 0, 1) := by decide +kernel
theorem d_K_hasCoins_27 : decode b_K_hasCoins 27 = .ok (.ireturn, 1) := by decide +kernel
def pp_K_hasCoins (g : Nat → ClassId) (e0 : Nat → Nat) (K : Int32 → mo_M → Prop) (M : mo_M) (x0 : Nat) (x1 : Int32) (x2 : Int32) : Prop := pp_H_isBetween g e0 (fun r2 M1 => ((r2 = 0 → (narrow .boolean (.int ((0 : Int32))) = .int ((0 : Int32)) ∧ K ((0 : Int32)) M1)) ∧ (¬ (r2 = 0) → mp_gr M1 x0 1 0 (fun v3 => mp_al (g 1) M1 v3 x1 (fun v4 => (((lg_cmp v4 x2.toInt64) < 0 → (narrow .boolean (.int ((0 : Int32))) = .int ((0 : Int32)) ∧ K ((0 : Int32)) M1)) ∧ (¬ ((lg_cmp v4 x2.toInt64) < 0) → (narrow .boolean (.int ((1 : Int32))) = .int ((1 : Int32)) ∧ K ((1 : Int32)) M1)))))))) M x2 ((1 : Int32)) ((1000000000 : Int32))
set_option maxHeartbeats 4000000 in
set_option maxRecDepth 100000 in
theorem cc_K_hasCoins (l : Launch) (L0 : Nat) (D : va_G) {g : Nat → ClassId} {e0 : Nat → Nat} {K : Int32 → mo_M → Prop} {M : mo_M} {x0 : Nat} {x1 : Int32} {x2 : Int32} (hP : pp_K_hasCoins g e0 K M x0 x1 x2) : Met l y_K_hasCoins ws_K_hasCoins (mo_R 1 0 0 22) (va_Pc [.ref x0, .int x1, .int x2] (fun U => mo_B L0 e0 D vwCl (mo_T g) M U)) (mo_Qi L0 e0 D vwCl (mo_T g) K) 0 0 (fun q => L0 ≤ q) := by
  refine Met.ofW (cc := b_K_hasCoins) (maxL := 3) (ret := (Option.some Jvm.ClassFile.FieldType.boolean)) (by decide +kernel) rfl ?_
  intro p e s m args below meth c s₁ B hml hv
  obtain ⟨hv1, hB0⟩ := hv
  have hx := B.exec
  have hb := B.bytes
  have hr := B.returns
  have hts : ∀ w ∈ lw_g, w.before args s = true := fun w hw => atoms_spec (ws := ws_K_hasCoins) B.pre w (List.mem_cons_of_mem _ hw)
  have hown : s.vm.findClass "PurseHouse$Kiosk" = some m.cls := findClass_of_methodNamed B.named
  have hlocks := B.notSynchronized
  have hok : mo_ok L0 e0 D vwCl (mo_T g) s M s.heap [] := ⟨hB0.1, hB0.2.1, hB0.2.2, va_S.rf⟩
  have hl := lv_entry ([.ref x0, .int x1, .int x2]) (n := 3) (Nat.le_of_ble_eq_true rfl)
  rw [hv1, lg_entry_eq]
  rw [← hv1]
  generalize (lg_sl [.ref x0, .int x1, .int x2] ++ List.replicate (3 - (lg_sl [.ref x0, .int x1, .int x2]).length) Slot.unset).toArray = ls at hl ⊢
  have hl : lv_has ls 3 [(0, .ref x0), (1, .int x1), (2, .int x2)] := hl
  unfold pp_K_hasCoins at hP
  refine lv_iload_n hx hb d_K_hasCoins_0 rfl (lv_at hl 2 rfl) ?_
  refine lv_iconst (v := 1) hx hb d_K_hasCoins_1 (by decide) ?_
  refine lv_ldc hx hb hown (hts _ wd_286) d_K_hasCoins_2 ?_
  refine mo_calli hok (va_runSN (As := [.int x2, .int ((1 : Int32)), .int ((1000000000 : Int32))]) (rest := []) ⟨hx, hb, hml, hown, hts⟩ (cc_H_isBetween l L0 D hP) ⟨(va_cnB 3 hts (lw_gi wd_167) rfl rfl rfl (mo_nw_of hok wn_287 rfl) (hts _ wd_33) (by decide +kernel) ⟨Nat.le_of_ble_eq_true rfl, Nat.le_of_ble_eq_true rfl⟩), hts _ wd_166, trivial⟩ (mo_preS hok [.int x2, .int ((1 : Int32)), .int ((1000000000 : Int32))]) rfl rfl hl.1 rfl (lv_room (Nat.le_of_ble_eq_true rfl)) d_K_hasCoins_4 ⟨Nat.zero_le _, Nat.zero_le _⟩) (fun r2 M1 H locs hP hok => ?_)
  refine lv_if_eq (tgt := 26) hx hb d_K_hasCoins_7 (by decide) (fun hc => ?_) (fun hc => ?_)
  · replace hP := hP.1 hc
    refine lv_iconst (v := 0) hx hb d_K_hasCoins_26 (by decide) ?_
    exact mo_zret hx hb hr hlocks hok hP d_K_hasCoins_27
  · replace hP := hP.2 hc
    refine lv_aload_n hx hb d_K_hasCoins_10 rfl (lv_at hl 0 rfl) ?_
    refine mr_gr (C := "PurseHouse$Kiosk") (T := F_1) (N := 9) (ref := "PurseHouse$Kiosk") hx hb hts hown hok hP ui_1 rfl (by decide) (hts _ wd_103) (fun _ h => h) d_K_hasCoins_11 (fun v3 hP => ?_)
    refine lv_iload_n hx hb d_K_hasCoins_14 rfl (lv_at hl 1 rfl) ?_
    refine mr_al hx hb hok hP 1 rfl d_K_hasCoins_15 (fun v4 hP => ?_)
    refine lv_iload_n hx hb d_K_hasCoins_16 rfl (lv_at hl 2 rfl) ?_
    refine lv_i2l hx hb d_K_hasCoins_17 rfl ?_
    refine W.lcmp hx hb d_K_hasCoins_18 ?_
    refine lv_if_lt (tgt := 26) hx hb d_K_hasCoins_19 (by decide) (fun hc => ?_) (fun hc => ?_)
    · replace hP := hP.1 hc
      refine lv_iconst (v := 0) hx hb d_K_hasCoins_26 (by decide) ?_
      exact mo_zret hx hb hr hlocks hok hP d_K_hasCoins_27
    · replace hP := hP.2 hc
      refine lv_iconst (v := 1) hx hb d_K_hasCoins_22 (by decide) ?_
      refine lv_goto (tgt := 27) hx hb d_K_hasCoins_23 (by decide) ?_
      exact mo_zret hx hb hr hlocks hok hP d_K_hasCoins_27

abbrev b_K_swapCoins : ByteArray := prog_2_method_5_code
def y_K_swapCoins : MethodName := ⟨"PurseHouse$Kiosk", "swapCoins", "(IJIJ)V"⟩
def ws_K_swapCoins : List Cond := .code y_K_swapCoins b_K_swapCoins 7 (Option.none : Option Jvm.ClassFile.FieldType) :: lw_g
theorem d_K_swapCoins_0 : decode b_K_swapCoins 0 = .ok (.aload_n 0, 1) := by decide +kernel
theorem d_K_swapCoins_1 : decode b_K_swapCoins 1 = .ok (.getfield 9, 3) := by decide +kernel
theorem d_K_swapCoins_4 : decode b_K_swapCoins 4 = .ok (.iload_n 1, 1) := by decide +kernel
theorem d_K_swapCoins_5 : decode b_K_swapCoins 5 = .ok (.dup2, 1) := by decide +kernel
theorem d_K_swapCoins_6 : decode b_K_swapCoins 6 = .ok (.laload, 1) := by decide +kernel
theorem d_K_swapCoins_7 : decode b_K_swapCoins 7 = .ok (.lload_n 2, 1) := by decide +kernel
theorem d_K_swapCoins_8 : decode b_K_swapCoins 8 = .ok (.lsub, 1) := by decide +kernel
theorem d_K_swapCoins_9 : decode b_K_swapCoins 9 = .ok (.lastore, 1) := by decide +kernel
theorem d_K_swapCoins_10 : decode b_K_swapCoins 10 = .ok (.aload_n 0, 1) := by decide +kernel
theorem d_K_swapCoins_11 : decode b_K_swapCoins 11 = .ok (.getfield 15, 3) := by decide +kernel
theorem d_K_swapCoins_14 : decode b_K_swapCoins 14 = .ok (.iload_n 1, 1) := by decide +kernel
theorem d_K_swapCoins_15 : decode b_K_swapCoins 15 = .ok (.dup2, 1) := by decide +kernel
theorem d_K_swapCoins_16 : decode b_K_swapCoins 16 = .ok (.laload, 1) := by decide +kernel
theorem d_K_swapCoins_17 : decode b_K_swapCoins 17 = .ok (.lload_n 2, 1) := by decide +kernel
theorem d_K_swapCoins_18 : decode b_K_swapCoins 18 = .ok (.ladd, 1) := by decide +kernel
theorem d_K_swapCoins_19 : decode b_K_swapCoins 19 = .ok (.lastore, 1) := by decide +kernel
theorem d_K_swapCoins_20 : decode b_K_swapCoins 20 = .ok (.aload_n 0, 1) := by decide +kernel
theorem d_K_swapCoins_21 : decode b_K_swapCoins 21 = .ok (.getfield 15, 3) := by decide +kernel
theorem d_K_swapCoins_24 : decode b_K_swapCoins 24 = .ok (.iload 4, 2) := by decide +kernel
theorem d_K_swapCoins_26 : decode b_K_swapCoins 26 = .ok (.dup2, 1) := by decide +kernel
theorem d_K_swapCoins_27 : decode b_K_swapCoins 27 = .ok (.laload, 1) := by decide +kernel
theorem d_K_swapCoins_28 : decode b_K_swapCoins 28 = .ok (.lload 5, 2) := by decide +kernel
theorem d_K_swapCoins_30 : decode b_K_swapCoins 30 = .ok (.lsub, 1) := by decide +kernel
theorem d_K_swapCoins_31 : decode b_K_swapCoins 31 = .ok (.lastore, 1) := by decide +kernel
theorem d_K_swapCoins_32 : decode b_K_swapCoins 32 = .ok (.aload_n 0, 1) := by decide +kernel
theorem d_K_swapCoins_33 : decode b_K_swapCoins 33 = .ok (.getfield 9, 3) := by decide +kernel
theorem d_K_swapCoins_36 : decode b_K_swapCoins 36 = .ok (.iload 4, 2) := by decide +kernel
theorem d_K_swapCoins_38 : decode b_K_swapCoins 38 = .ok (.dup2, 1) := by decide +kernel
theorem d_K_swapCoins_39 : decode b_K_swapCoins 39 = .ok (.laload, 1) := by decide +kernel
theorem d_K_swapCoins_40 : decode b_K_swapCoins 40 = .ok (.lload 5, 2) := by decide +kernel
theorem d_K_swapCoins_42 : decode b_K_swapCoins 42 = .ok (.ladd, 1) := by decide +kernel
theorem d_K_swapCoins_43 : decode b_K_swapCoins 43 = .ok (.lastore, 1) := by decide +kernel
theorem d_K_swapCoins_44 : decode b_K_swapCoins 44 = .ok (.aload_n 0, 1) := by decide +kernel
theorem d_K_swapCoins_45 : decode b_K_swapCoins 45 = .ok (.dup, 1) := by decide +kernel
theorem d_K_swapCoins_46 : decode b_K_swapCoins 46 = .ok (.getfield 21, 3) := by decide +kernel
theorem d_K_swapCoins_49 : decode b_K_swapCoins 49 = .ok (.iconst 1, 1) := by decide +kernel
theorem d_K_swapCoins_50 : decode b_K_swapCoins 50 = .ok (.iadd, 1) := by decide +kernel
theorem d_K_swapCoins_51 : decode b_K_swapCoins 51 = .ok (.putfield 21, 3) := by decide +kernel
theorem d_K_swapCoins_54 : decode b_K_swapCoins 54 = .ok (.return_, 1) := by decide +kernel
def pp_K_swapCoins (g : Nat → ClassId) (e0 : Nat → Nat) (K : mo_M → Prop) (M : mo_M) (x0 : Nat) (x1 : Int32) (x2 : Int64) (x4 : Int32) (x5 : Int64) : Prop := mp_gr M x0 1 0 (fun v1 => mp_al (g 1) M v1 x1 (fun v2 => mp_sl (g 1) M v1 x1 ((v2 - x2)) (fun M3 => mp_gr M3 x0 1 1 (fun v4 => mp_al (g 1) M3 v4 x1 (fun v5 => mp_sl (g 1) M3 v4 x1 ((v5 + x2)) (fun M6 => mp_gr M6 x0 1 1 (fun v7 => mp_al (g 1) M6 v7 x4 (fun v8 => mp_sl (g 1) M6 v7 x4 ((v8 - x5)) (fun M9 => mp_gr M9 x0 1 0 (fun v10 => mp_al (g 1) M9 v10 x4 (fun v11 => mp_sl (g 1) M9 v10 x4 ((v11 + x5)) (fun M12 => mp_gi M12 x0 1 3 (fun v13 => mp_pt M12 x0 1 3 (.int ((v13 + ((1 : Int32))))) (fun M14 => K M14))))))))))))))
set_option maxHeartbeats 4000000 in
set_option maxRecDepth 100000 in
theorem cc_K_swapCoins (l : Launch) (L0 : Nat) (D : va_G) {g : Nat → ClassId} {e0 : Nat → Nat} {K : mo_M → Prop} {M : mo_M} {x0 : Nat} {x1 : Int32} {x2 : Int64} {x4 : Int32} {x5 : Int64} (hP : pp_K_swapCoins g e0 K M x0 x1 x2 x4 x5) : Met l y_K_swapCoins ws_K_swapCoins (mo_R 0 0 0 0) (va_Pc [.ref x0, .int x1, .long x2, .int x4, .long x5] (fun U => mo_B L0 e0 D vwCl (mo_T g) M U)) (mo_Qv L0 e0 D vwCl (mo_T g) K) 0 0 (fun q => L0 ≤ q) := by
  refine Met.ofW (cc := b_K_swapCoins) (maxL := 7) (ret := (Option.none : Option Jvm.ClassFile.FieldType)) (by decide +kernel) rfl ?_
  intro p e s m args below meth c s₁ B hml hv
  obtain ⟨hv1, hB0⟩ := hv
  have hx := B.exec
  have hb := B.bytes
  have hr := B.returns
  have hts : ∀ w ∈ lw_g, w.before args s = true := fun w hw => atoms_spec (ws := ws_K_swapCoins) B.pre w (List.mem_cons_of_mem _ hw)
  have hown : s.vm.findClass "PurseHouse$Kiosk" = some m.cls := findClass_of_methodNamed B.named
  have hlocks := B.notSynchronized
  have hok : mo_ok L0 e0 D vwCl (mo_T g) s M s.heap [] := ⟨hB0.1, hB0.2.1, hB0.2.2, va_S.rf⟩
  have hl := lv_entry ([.ref x0, .int x1, .long x2, .int x4, .long x5]) (n := 7) (Nat.le_of_ble_eq_true rfl)
  rw [hv1, lg_entry_eq]
  rw [← hv1]
  generalize (lg_sl [.ref x0, .int x1, .long x2, .int x4, .long x5] ++ List.replicate (7 - (lg_sl [.ref x0, .int x1, .long x2, .int x4, .long x5]).length) Slot.unset).toArray = ls at hl ⊢
  have hl : lv_has ls 7 [(0, .ref x0), (1, .int x1), (2, .long x2), (4, .int x4), (5, .long x5)] := hl
  unfold pp_K_swapCoins at hP
  refine lv_aload_n hx hb d_K_swapCoins_0 rfl (lv_at hl 0 rfl) ?_
  refine mr_gr (C := "PurseHouse$Kiosk") (T := F_1) (N := 9) (ref := "PurseHouse$Kiosk") hx hb hts hown hok hP ui_1 rfl (by decide) (hts _ wd_103) (fun _ h => h) d_K_swapCoins_1 (fun v1 hP => ?_)
  refine lv_iload_n hx hb d_K_swapCoins_4 rfl (lv_at hl 1 rfl) ?_
  refine lv_dup2_11 hx hb d_K_swapCoins_5 rfl rfl ?_
  refine mr_al hx hb hok hP 1 rfl d_K_swapCoins_6 (fun v2 hP => ?_)
  refine lv_lload_n hx hb d_K_swapCoins_7 rfl (lv_at hl 2 rfl) ?_
  refine lv_lsub hx hb d_K_swapCoins_8 ?_
  refine mr_sl hx hb hok hP 1 rfl d_K_swapCoins_9 (fun M3 H locs hP hok => ?_)
  refine lv_aload_n hx hb d_K_swapCoins_10 rfl (lv_at hl 0 rfl) ?_
  refine mr_gr (C := "PurseHouse$Kiosk") (T := F_1) (N := 9) (ref := "PurseHouse$Kiosk") hx hb hts hown hok hP ui_1 rfl (by decide) (hts _ wd_105) (fun _ h => h) d_K_swapCoins_11 (fun v4 hP => ?_)
  refine lv_iload_n hx hb d_K_swapCoins_14 rfl (lv_at hl 1 rfl) ?_
  refine lv_dup2_11 hx hb d_K_swapCoins_15 rfl rfl ?_
  refine mr_al hx hb hok hP 1 rfl d_K_swapCoins_16 (fun v5 hP => ?_)
  refine lv_lload_n hx hb d_K_swapCoins_17 rfl (lv_at hl 2 rfl) ?_
  refine lv_ladd hx hb d_K_swapCoins_18 ?_
  refine mr_sl hx hb hok hP 1 rfl d_K_swapCoins_19 (fun M6 H locs hP hok => ?_)
  refine lv_aload_n hx hb d_K_swapCoins_20 rfl (lv_at hl 0 rfl) ?_
  refine mr_gr (C := "PurseHouse$Kiosk") (T := F_1) (N := 9) (ref := "PurseHouse$Kiosk") hx hb hts hown hok hP ui_1 rfl (by decide) (hts _ wd_105) (fun _ h => h) d_K_swapCoins_21 (fun v7 hP => ?_)
  refine lv_iload hx hb d_K_swapCoins_24 (lv_at hl 3 rfl) ?_
  refine lv_dup2_11 hx hb d_K_swapCoins_26 rfl rfl ?_
  refine mr_al hx hb hok hP 1 rfl d_K_swapCoins_27 (fun v8 hP => ?_)
  refine lv_lload hx hb d_K_swapCoins_28 (lv_at hl 4 rfl) ?_
  refine lv_lsub hx hb d_K_swapCoins_30 ?_
  refine mr_sl hx hb hok hP 1 rfl d_K_swapCoins_31 (fun M9 H locs hP hok => ?_)
  refine lv_aload_n hx hb d_K_swapCoins_32 rfl (lv_at hl 0 rfl) ?_
  refine mr_gr (C := "PurseHouse$Kiosk") (T := F_1) (N := 9) (ref := "PurseHouse$Kiosk") hx hb hts hown hok hP ui_1 rfl (by decide) (hts _ wd_103) (fun _ h => h) d_K_swapCoins_33 (fun v10 hP => ?_)
  refine lv_iload hx hb d_K_swapCoins_36 (lv_at hl 3 rfl) ?_
  refine lv_dup2_11 hx hb d_K_swapCoins_38 rfl rfl ?_
  refine mr_al hx hb hok hP 1 rfl d_K_swapCoins_39 (fun v11 hP => ?_)
  refine lv_lload hx hb d_K_swapCoins_40 (lv_at hl 4 rfl) ?_
  refine lv_ladd hx hb d_K_swapCoins_42 ?_
  refine mr_sl hx hb hok hP 1 rfl d_K_swapCoins_43 (fun M12 H locs hP hok => ?_)
  refine lv_aload_n hx hb d_K_swapCoins_44 rfl (lv_at hl 0 rfl) ?_
  refine lv_dup hx hb d_K_swapCoins_45 rfl ?_
  refine mr_gi (C := "PurseHouse$Kiosk") (T := F_1) (N := 9) (ref := "PurseHouse$Kiosk") hx hb hts hown hok hP ui_1 rfl (by decide) (hts _ wd_108) (fun _ h => h) d_K_swapCoins_46 (fun v13 hP => ?_)
  refine lv_iconst (v := 1) hx hb d_K_swapCoins_49 (by decide) ?_
  refine lv_iadd hx hb d_K_swapCoins_50 ?_
  refine mr_pt (C := "PurseHouse$Kiosk") (T := F_1) (N := 9) (ref := "PurseHouse$Kiosk") (ty := .int) hx hb hts hown hok hP ui_1 ty_1 th_1 tn_1 rfl (by decide) (hts _ wd_108) (fun _ h => h) rfl (by decide +kernel) rfl rfl d_K_swapCoins_51 (fun M14 H locs hP hok => ?_)
  exact mo_vret hx hb hr hlocks hok hP d_K_swapCoins_54

abbrev b_K_giveCoins : ByteArray := prog_2_method_6_code
def y_K_giveCoins : MethodName := ⟨"PurseHouse$Kiosk", "giveCoins", "(II)V"⟩
def ws_K_giveCoins : List Cond := .code y_K_giveCoins b_K_giveCoins 3 (Option.none : Option Jvm.ClassFile.FieldType) :: lw_g
theorem d_K_giveCoins_0 : decode b_K_giveCoins 0 = .ok (.aload_n 0, 1) := by decide +kernel
theorem d_K_giveCoins_1 : decode b_K_giveCoins 1 = .ok (.getfield 9, 3) := by decide +kernel
theorem d_K_giveCoins_4 : decode b_K_giveCoins 4 = .ok (.iload_n 1, 1) := by decide +kernel
theorem d_K_giveCoins_5 : decode b_K_giveCoins 5 = .ok (.dup2, 1) := by decide +kernel
theorem d_K_giveCoins_6 : decode b_K_giveCoins 6 = .ok (.laload, 1) := by decide +kernel
theorem d_K_giveCoins_7 : decode b_K_giveCoins 7 = .ok (.iload_n 2, 1) := by decide +kernel
theorem d_K_giveCoins_8 : decode b_K_giveCoins 8 = .ok (.i2l, 1) := by decide +kernel
theorem d_K_giveCoins_9 : decode b_K_giveCoins 9 = .ok (.lsub, 1) := by decide +kernel
theorem d_K_giveCoins_10 : decode b_K_giveCoins 10 = .ok (.lastore, 1) := by decide +kernel
theorem d_K_giveCoins_11 : decode b_K_giveCoins 11 = .ok (.aload_n 0, 1) := by decide +kernel
theorem d_K_giveCoins_12 : decode b_K_giveCoins 12 = .ok (.dup, 1) := by decide +kernel
theorem d_K_giveCoins_13 : decode b_K_giveCoins 13 = .ok (.getfield 21, 3) := by decide +kernel
theorem d_K_giveCoins_16 : decode b_K_giveCoins 16 = .ok (.iconst 1, 1) := by decide +kernel
theorem d_K_giveCoins_17 : decode b_K_giveCoins 17 = .ok (.iadd, 1) := by decide +kernel
theorem d_K_giveCoins_18 : decode b_K_giveCoins 18 = .ok (.putfield 21, 3) := by decide +kernel
theorem d_K_giveCoins_21 : decode b_K_giveCoins 21 = .ok (.return_, 1) := by decide +kernel
def pp_K_giveCoins (g : Nat → ClassId) (e0 : Nat → Nat) (K : mo_M → Prop) (M : mo_M) (x0 : Nat) (x1 : Int32) (x2 : Int32) : Prop := mp_gr M x0 1 0 (fun v1 => mp_al (g 1) M v1 x1 (fun v2 => mp_sl (g 1) M v1 x1 ((v2 - x2.toInt64)) (fun M3 => mp_gi M3 x0 1 3 (fun v4 => mp_pt M3 x0 1 3 (.int ((v4 + ((1 : Int32))))) (fun M5 => K M5)))))
set_option maxHeartbeats 4000000 in
set_option maxRecDepth 100000 in
theorem cc_K_giveCoins (l : Launch) (L0 : Nat) (D : va_G) {g : Nat → ClassId} {e0 : Nat → Nat} {K : mo_M → Prop} {M : mo_M} {x0 : Nat} {x1 : Int32} {x2 : Int32} (hP : pp_K_giveCoins g e0 K M x0 x1 x2) : Met l y_K_giveCoins ws_K_giveCoins (mo_R 0 0 0 0) (va_Pc [.ref x0, .int x1, .int x2] (fun U => mo_B L0 e0 D vwCl (mo_T g) M U)) (mo_Qv L0 e0 D vwCl (mo_T g) K) 0 0 (fun q => L0 ≤ q) := by
  refine Met.ofW (cc := b_K_giveCoins) (maxL := 3) (ret := (Option.none : Option Jvm.ClassFile.FieldType)) (by decide +kernel) rfl ?_
  intro p e s m args below meth c s₁ B hml hv
  obtain ⟨hv1, hB0⟩ := hv
  have hx := B.exec
  have hb := B.bytes
  have hr := B.returns
  have hts : ∀ w ∈ lw_g, w.before args s = true := fun w hw => atoms_spec (ws := ws_K_giveCoins) B.pre w (List.mem_cons_of_mem _ hw)
  have hown : s.vm.findClass "PurseHouse$Kiosk" = some m.cls := findClass_of_methodNamed B.named
  have hlocks := B.notSynchronized
  have hok : mo_ok L0 e0 D vwCl (mo_T g) s M s.heap [] := ⟨hB0.1, hB0.2.1, hB0.2.2, va_S.rf⟩
  have hl := lv_entry ([.ref x0, .int x1, .int x2]) (n := 3) (Nat.le_of_ble_eq_true rfl)
  rw [hv1, lg_entry_eq]
  rw [← hv1]
  generalize (lg_sl [.ref x0, .int x1, .int x2] ++ List.replicate (3 - (lg_sl [.ref x0, .int x1, .int x2]).length) Slot.unset).toArray = ls at hl ⊢
  have hl : lv_has ls 3 [(0, .ref x0), (1, .int x1), (2, .int x2)] := hl
  unfold pp_K_giveCoins at hP
  refine lv_aload_n hx hb d_K_giveCoins_0 rfl (lv_at hl 0 rfl) ?_
  refine mr_gr (C := "PurseHouse$Kiosk") (T := F_1) (N := 9) (ref := "PurseHouse$Kiosk") hx hb hts hown hok hP ui_1 rfl (by decide) (hts _ wd_103) (fun _ h => h) d_K_giveCoins_1 (fun v1 hP => ?_)
  refine lv_iload_n hx hb d_K_giveCoins_4 rfl (lv_at hl 1 rfl) ?_
  refine lv_dup2_11 hx hb d_K_giveCoins_5 rfl rfl ?_
  refine mr_al hx hb hok hP 1 rfl d_K_giveCoins_6 (fun v2 hP => ?_)
  refine lv_iload_n hx hb d_K_giveCoins_7 rfl (lv_at hl 2 rfl) ?_
  refine lv_i2l hx hb d_K_giveCoins_8 rfl ?_
  refine lv_lsub hx hb d_K_giveCoins_9 ?_
  refine mr_sl hx hb hok hP 1 rfl d_K_giveCoins_10 (fun M3 H locs hP hok => ?_)
  refine lv_aload_n hx hb d_K_giveCoins_11 rfl (lv_at hl 0 rfl) ?_
  refine lv_dup hx hb d_K_giveCoins_12 rfl ?_
  refine mr_gi (C := "PurseHouse$Kiosk") (T := F_1) (N := 9) (ref := "PurseHouse$Kiosk") hx hb hts hown hok hP ui_1 rfl (by decide) (hts _ wd_108) (fun _ h => h) d_K_giveCoins_13 (fun v4 hP => ?_)
  refine lv_iconst (v := 1) hx hb d_K_giveCoins_16 (by decide) ?_
  refine lv_iadd hx hb d_K_giveCoins_17 ?_
  refine mr_pt (C := "PurseHouse$Kiosk") (T := F_1) (N := 9) (ref := "PurseHouse$Kiosk") (ty := .int) hx hb hts hown hok hP ui_1 ty_1 th_1 tn_1 rfl (by decide) (hts _ wd_108) (fun _ h => h) rfl (by decide +kernel) rfl rfl d_K_giveCoins_18 (fun M5 H locs hP hok => ?_)
  exact mo_vret hx hb hr hlocks hok hP d_K_giveCoins_21

abbrev b_K_hasMark : ByteArray := prog_2_method_2_code
def y_K_hasMark : MethodName := ⟨"PurseHouse$Kiosk", "hasMark", "(I)Z"⟩
def ws_K_hasMark : List Cond := .code y_K_hasMark b_K_hasMark 2 (Option.some Jvm.ClassFile.FieldType.boolean) :: lw_g
theorem d_K_hasMark_0 : decode b_K_hasMark 0 = .ok (.aload_n 0, 1) := by decide +kernel
theorem d_K_hasMark_1 : decode b_K_hasMark 1 = .ok (.getfield 25, 3) := by decide +kernel
theorem d_K_hasMark_4 : decode b_K_hasMark 4 = .ok (.iload_n 1, 1) := by decide +kernel
theorem d_K_hasMark_5 : decode b_K_hasMark 5 = .ok (.invokestatic 43, 3) := by decide +kernel
theorem d_K_hasMark_8 : decode b_K_hasMark 8 = .ok (.ireturn, 1) := by decide +kernel
def pp_K_hasMark (g : Nat → ClassId) (e0 : Nat → Nat) (K : Int32 → mo_M → Prop) (M : mo_M) (x0 : Nat) (x1 : Int32) : Prop := mp_gi M x0 1 4 (fun v1 => pp_H_hasBit g e0 (fun r3 M2 => (narrow .boolean (.int r3) = .int r3 ∧ K r3 M2)) M v1 x1)
set_option maxHeartbeats 4000000 in
set_option maxRecDepth 100000 in
theorem cc_K_hasMark (l : Launch) (L0 : Nat) (D : va_G) {g : Nat → ClassId} {e0 : Nat → Nat} {K : Int32 → mo_M → Prop} {M : mo_M} {x0 : Nat} {x1 : Int32} (hP : pp_K_hasMark g e0 K M x0 x1) : Met l y_K_hasMark ws_K_hasMark (mo_R 1 0 0 21) (va_Pc [.ref x0, .int x1] (fun U => mo_B L0 e0 D vwCl (mo_T g) M U)) (mo_Qi L0 e0 D vwCl (mo_T g) K) 0 0 (fun q => L0 ≤ q) := by
  refine Met.ofW (cc := b_K_hasMark) (maxL := 2) (ret := (Option.some Jvm.ClassFile.FieldType.boolean)) (by decide +kernel) rfl ?_
  intro p e s m args below meth c s₁ B hml hv
  obtain ⟨hv1, hB0⟩ := hv
  have hx := B.exec
  have hb := B.bytes
  have hr := B.returns
  have hts : ∀ w ∈ lw_g, w.before args s = true := fun w hw => atoms_spec (ws := ws_K_hasMark) B.pre w (List.mem_cons_of_mem _ hw)
  have hown : s.vm.findClass "PurseHouse$Kiosk" = some m.cls := findClass_of_methodNamed B.named
  have hlocks := B.notSynchronized
  have hok : mo_ok L0 e0 D vwCl (mo_T g) s M s.heap [] := ⟨hB0.1, hB0.2.1, hB0.2.2, va_S.rf⟩
  have hl := lv_entry ([.ref x0, .int x1]) (n := 2) (Nat.le_of_ble_eq_true rfl)
  rw [hv1, lg_entry_eq]
  rw [← hv1]
  generalize (lg_sl [.ref x0, .int x1] ++ List.replicate (2 - (lg_sl [.ref x0, .int x1]).length) Slot.unset).toArray = ls at hl ⊢
  have hl : lv_has ls 2 [(0, .ref x0), (1, .int x1)] := hl
  unfold pp_K_hasMark at hP
  refine lv_aload_n hx hb d_K_hasMark_0 rfl (lv_at hl 0 rfl) ?_
  refine mr_gi (C := "PurseHouse$Kiosk") (T := F_1) (N := 9) (ref := "PurseHouse$Kiosk") hx hb hts hown hok hP ui_1 rfl (by decide) (hts _ wd_110) (fun _ h => h) d_K_hasMark_1 (fun v1 hP => ?_)
  refine lv_iload_n hx hb d_K_hasMark_4 rfl (lv_at hl 1 rfl) ?_
  refine mo_calli hok (va_runSN (As := [.int v1, .int x1]) (rest := []) ⟨hx, hb, hml, hown, hts⟩ (cc_H_hasBit l L0 D hP) ⟨(va_cnB 2 hts (lw_gi wd_398) rfl rfl rfl (mo_nw_of hok wn_396 rfl) (hts _ wd_33) (by decide +kernel) ⟨Nat.le_of_ble_eq_true rfl, Nat.le_of_ble_eq_true rfl⟩), hts _ wd_397, trivial⟩ (mo_preS hok [.int v1, .int x1]) rfl rfl hl.1 rfl (lv_room (Nat.le_of_ble_eq_true rfl)) d_K_hasMark_5 ⟨Nat.zero_le _, Nat.zero_le _⟩) (fun r3 M2 H locs hP hok => ?_)
  exact mo_zret hx hb hr hlocks hok hP d_K_hasMark_8

abbrev b_K_keepPage : ByteArray := prog_2_method_8_code
def y_K_keepPage : MethodName := ⟨"PurseHouse$Kiosk", "keepPage", "(I)V"⟩
def ws_K_keepPage : List Cond := .code y_K_keepPage b_K_keepPage 2 (Option.none : Option Jvm.ClassFile.FieldType) :: lw_g
theorem d_K_keepPage_0 : decode b_K_keepPage 0 = .ok (.aload_n 0, 1) := by decide +kernel
theorem d_K_keepPage_1 : decode b_K_keepPage 1 = .ok (.getfield 9, 3) := by decide +kernel
theorem d_K_keepPage_4 : decode b_K_keepPage 4 = .ok (.iconst 0, 1) := by decide +kernel
theorem d_K_keepPage_5 : decode b_K_keepPage 5 = .ok (.aload_n 0, 1) := by decide +kernel
theorem d_K_keepPage_6 : decode b_K_keepPage 6 = .ok (.getfield 30, 3) := by decide +kernel
theorem d_K_keepPage_9 : decode b_K_keepPage 9 = .ok (.iload_n 1, 1) := by decide +kernel
theorem d_K_keepPage_10 : decode b_K_keepPage 10 = .ok (.aaload, 1) := by decide +kernel
theorem d_K_keepPage_11 : decode b_K_keepPage 11 = .ok (.iconst 0, 1) := by decide +kernel
theorem d_K_keepPage_12 : decode b_K_keepPage 12 = .ok (.iconst 3, 1) := by decide +kernel
theorem d_K_keepPage_13 : decode b_K_keepPage 13 = .ok (.invokestatic 52, 3) := by decide +kernel
theorem d_K_keepPage_16 : decode b_K_keepPage 16 = .ok (.aload_n 0, 1) := by decide +kernel
theorem d_K_keepPage_17 : decode b_K_keepPage 17 = .ok (.getfield 15, 3) := by decide +kernel
theorem d_K_keepPage_20 : decode b_K_keepPage 20 = .ok (.iconst 0, 1) := by decide +kernel
theorem d_K_keepPage_21 : decode b_K_keepPage 21 = .ok (.aload_n 0, 1) := by decide +kernel
theorem d_K_keepPage_22 : decode b_K_keepPage 22 = .ok (.getfield 33, 3) := by decide +kernel
theorem d_K_keepPage_25 : decode b_K_keepPage 25 = .ok (.iload_n 1, 1) := by decide +kernel
theorem d_K_keepPage_26 : decode b_K_keepPage 26 = .ok (.aaload, 1) := by decide +kernel
theorem d_K_keepPage_27 : decode b_K_keepPage 27 = .ok (.iconst 0, 1) := by decide +kernel
theorem d_K_keepPage_28 : decode b_K_keepPage 28 = .ok (.iconst 3, 1) := by decide +kernel
theorem d_K_keepPage_29 : decode b_K_keepPage 29 = .ok (.invokestatic 52, 3) := by decide +kernel
theorem d_K_keepPage_32 : decode b_K_keepPage 32 = .ok (.aload_n 0, 1) := by decide +kernel
theorem d_K_keepPage_33 : decode b_K_keepPage 33 = .ok (.getfield 18, 3) := by decide +kernel
theorem d_K_keepPage_36 : decode b_K_keepPage 36 = .ok (.iconst 0, 1) := by decide +kernel
theorem d_K_keepPage_37 : decode b_K_keepPage 37 = .ok (.aload_n 0, 1) := by decide +kernel
theorem d_K_keepPage_38 : decode b_K_keepPage 38 = .ok (.getfield 36, 3) := by decide +kernel
theorem d_K_keepPage_41 : decode b_K_keepPage 41 = .ok (.iload_n 1, 1) := by decide +kernel
theorem d_K_keepPage_42 : decode b_K_keepPage 42 = .ok (.aaload, 1) := by decide +kernel
theorem d_K_keepPage_43 : decode b_K_keepPage 43 = .ok (.iconst 0, 1) := by decide +kernel
theorem d_K_keepPage_44 : decode b_K_keepPage 44 = .ok (.iconst 3, 1) := by decide +kernel
theorem d_K_keepPage_45 : decode b_K_keepPage 45 = .ok (.invokestatic 52, 3) := by decide +kernel
theorem d_K_keepPage_48 : decode b_K_keepPage 48 = .ok (.aload_n 0, 1) := by decide +kernel
theorem d_K_keepPage_49 : decode b_K_keepPage 49 = .ok (.getfield 39, 3) := by decide +kernel
theorem d_K_keepPage_52 : decode b_K_keepPage 52 = .ok (.iload_n 1, 1) := by decide +kernel
theorem d_K_keepPage_53 : decode b_K_keepPage 53 = .ok (.aload_n 0, 1) := by decide +kernel
theorem d_K_keepPage_54 : decode b_K_keepPage 54 = .ok (.getfield 21, 3) := by decide +kernel
theorem d_K_keepPage_57 : decode b_K_keepPage 57 = .ok (.iastore, 1) := by decide +kernel
theorem d_K_keepPage_58 : decode b_K_keepPage 58 = .ok (.aload_n 0, 1) := by decide +kernel
theorem d_K_keepPage_59 : decode b_K_keepPage 59 = .ok (.dup, 1) := by decide +kernel
theorem d_K_keepPage_60 : decode b_K_keepPage 60 = .ok (.getfield 25, 3) := by decide +kernel
theorem d_K_keepPage_63 : decode b_K_keepPage 63 = .ok (.iconst 1, 1) := by decide +kernel
theorem d_K_keepPage_64 : decode b_K_keepPage 64 = .ok (.iload_n 1, 1) := by decide +kernel
theorem d_K_keepPage_65 : decode b_K_keepPage 65 = .ok (.ishl, 1) := by decide +kernel
theorem d_K_keepPage_66 : decode b_K_keepPage 66 = .ok (.ior, 1) := by decide +kernel
theorem d_K_keepPage_67 : decode b_K_keepPage 67 = .ok (.putfield 25, 3) := by decide +kernel
theorem d_K_keepPage_70 : decode b_K_keepPage 70 = .ok (.return_, 1) := by decide +kernel
def pp_K_keepPage (g : Nat → ClassId) (e0 : Nat → Nat) (K : mo_M → Prop) (M : mo_M) (x0 : Nat) (x1 : Int32) : Prop := mp_gr M x0 1 0 (fun v1 => mp_gr M x0 1 5 (fun v2 => mp_ar (g 4) M v2 x1 (fun v3 => mp_cl (g 1) M v1 ((0 : Int32)) v3 ((0 : Int32)) ((3 : Int32)) (fun M4 => mp_gr M4 x0 1 1 (fun v5 => mp_gr M4 x0 1 6 (fun v6 => mp_ar (g 4) M4 v6 x1 (fun v7 => mp_cl (g 1) M4 v5 ((0 : Int32)) v7 ((0 : Int32)) ((3 : Int32)) (fun M8 => mp_gr M8 x0 1 2 (fun v9 => mp_gr M8 x0 1 7 (fun v10 => mp_ar (g 4) M8 v10 x1 (fun v11 => mp_cl (g 1) M8 v9 ((0 : Int32)) v11 ((0 : Int32)) ((3 : Int32)) (fun M12 => mp_gr M12 x0 1 8 (fun v13 => mp_gi M12 x0 1 3 (fun v14 => mp_si (g 0) M12 v13 x1 v14 (fun M15 => mp_gi M15 x0 1 4 (fun v16 => mp_pt M15 x0 1 4 (.int ((v16 ||| ((((1 : Int32)) <<< (x1 &&& 31)))))) (fun M17 => K M17)))))))))))))))))
set_option maxHeartbeats 4000000 in
set_option maxRecDepth 100000 in
theorem cc_K_keepPage (l : Launch) (L0 : Nat) (D : va_G) {g : Nat → ClassId} {e0 : Nat → Nat} {K : mo_M → Prop} {M : mo_M} {x0 : Nat} {x1 : Int32} (hP : pp_K_keepPage g e0 K M x0 x1) : Met l y_K_keepPage ws_K_keepPage (mo_R 1 0 0 60) (va_Pc [.ref x0, .int x1] (fun U => mo_B L0 e0 D vwCl (mo_T g) M U)) (mo_Qv L0 e0 D vwCl (mo_T g) K) 0 0 (fun q => L0 ≤ q) := by
  refine Met.ofW (cc := b_K_keepPage) (maxL := 2) (ret := (Option.none : Option Jvm.ClassFile.FieldType)) (by decide +kernel) rfl ?_
  intro p e s m args below meth c s₁ B hml hv
  obtain ⟨hv1, hB0⟩ := hv
  have hx := B.exec
  have hb := B.bytes
  have hr := B.returns
  have hts : ∀ w ∈ lw_g, w.before args s = true := fun w hw => atoms_spec (ws := ws_K_keepPage) B.pre w (List.mem_cons_of_mem _ hw)
  have hown : s.vm.findClass "PurseHouse$Kiosk" = some m.cls := findClass_of_methodNamed B.named
  have hlocks := B.notSynchronized
  have hok : mo_ok L0 e0 D vwCl (mo_T g) s M s.heap [] := ⟨hB0.1, hB0.2.1, hB0.2.2, va_S.rf⟩
  have hl := lv_entry ([.ref x0, .int x1]) (n := 2) (Nat.le_of_ble_eq_true rfl)
  rw [hv1, lg_entry_eq]
  rw [← hv1]
  generalize (lg_sl [.ref x0, .int x1] ++ List.replicate (2 - (lg_sl [.ref x0, .int x1]).length) Slot.unset).toArray = ls at hl ⊢
  have hl : lv_has ls 2 [(0, .ref x0), (1, .int x1)] := hl
  unfold pp_K_keepPage at hP
  refine lv_aload_n hx hb d_K_keepPage_0 rfl (lv_at hl 0 rfl) ?_
  refine mr_gr (C := "PurseHouse$Kiosk") (T := F_1) (N := 9) (ref := "PurseHouse$Kiosk") hx hb hts hown hok hP ui_1 rfl (by decide) (hts _ wd_103) (fun _ h => h) d_K_keepPage_1 (fun v1 hP => ?_)
  refine lv_iconst (v := 0) hx hb d_K_keepPage_4 (by decide) ?_
  refine lv_aload_n hx hb d_K_keepPage_5 rfl (lv_at hl 0 rfl) ?_
  refine mr_gr (C := "PurseHouse$Kiosk") (T := F_1) (N := 9) (ref := "PurseHouse$Kiosk") hx hb hts hown hok hP ui_1 rfl (by decide) (hts _ wd_112) (fun _ h => h) d_K_keepPage_6 (fun v2 hP => ?_)
  refine lv_iload_n hx hb d_K_keepPage_9 rfl (lv_at hl 1 rfl) ?_
  refine mr_ar hx hb hok hP 4 rfl rfl d_K_keepPage_10 (fun v3 hP => ?_)
  refine lv_iconst (v := 0) hx hb d_K_keepPage_11 (by decide) ?_
  refine lv_iconst (v := 3) hx hb d_K_keepPage_12 (by decide) ?_
  refine mr_cl hx hb (hml.trans hl.1.symm) hown hok hP (hts _ wd_403) (hts _ wd_254) (hts _ wd_253) (hts _ wd_43) 1 rfl (Nat.le_of_ble_eq_true rfl) (Nat.le_of_ble_eq_true rfl) d_K_keepPage_13 (fun M4 H locs hP hok => ?_)
  refine lv_aload_n hx hb d_K_keepPage_16 rfl (lv_at hl 0 rfl) ?_
  refine mr_gr (C := "PurseHouse$Kiosk") (T := F_1) (N := 9) (ref := "PurseHouse$Kiosk") hx hb hts hown hok hP ui_1 rfl (by decide) (hts _ wd_105) (fun _ h => h) d_K_keepPage_17 (fun v5 hP => ?_)
  refine lv_iconst (v := 0) hx hb d_K_keepPage_20 (by decide) ?_
  refine lv_aload_n hx hb d_K_keepPage_21 rfl (lv_at hl 0 rfl) ?_
  refine mr_gr (C := "PurseHouse$Kiosk") (T := F_1) (N := 9) (ref := "PurseHouse$Kiosk") hx hb hts hown hok hP ui_1 rfl (by decide) (hts _ wd_114) (fun _ h => h) d_K_keepPage_22 (fun v6 hP => ?_)
  refine lv_iload_n hx hb d_K_keepPage_25 rfl (lv_at hl 1 rfl) ?_
  refine mr_ar hx hb hok hP 4 rfl rfl d_K_keepPage_26 (fun v7 hP => ?_)
  refine lv_iconst (v := 0) hx hb d_K_keepPage_27 (by decide) ?_
  refine lv_iconst (v := 3) hx hb d_K_keepPage_28 (by decide) ?_
  refine mr_cl hx hb (hml.trans hl.1.symm) hown hok hP (hts _ wd_403) (hts _ wd_254) (hts _ wd_253) (hts _ wd_43) 1 rfl (Nat.le_of_ble_eq_true rfl) (Nat.le_of_ble_eq_true rfl) d_K_keepPage_29 (fun M8 H locs hP hok => ?_)
  refine lv_aload_n hx hb d_K_keepPage_32 rfl (lv_at hl 0 rfl) ?_
  refine mr_gr (C := "PurseHouse$Kiosk") (T := F_1) (N := 9) (ref := "PurseHouse$Kiosk") hx hb hts hown hok hP ui_1 rfl (by decide) (hts _ wd_107) (fun _ h => h) d_K_keepPage_33 (fun v9 hP => ?_)
  refine lv_iconst (v := 0) hx hb d_K_keepPage_36 (by decide) ?_
  refine lv_aload_n hx hb d_K_keepPage_37 rfl (lv_at hl 0 rfl) ?_
  refine mr_gr (C := "PurseHouse$Kiosk") (T := F_1) (N := 9) (ref := "PurseHouse$Kiosk") hx hb hts hown hok hP ui_1 rfl (by decide) (hts _ wd_116) (fun _ h => h) d_K_keepPage_38 (fun v10 hP => ?_)
  refine lv_iload_n hx hb d_K_keepPage_41 rfl (lv_at hl 1 rfl) ?_
  refine mr_ar hx hb hok hP 4 rfl rfl d_K_keepPage_42 (fun v11 hP => ?_)
  refine lv_iconst (v := 0) hx hb d_K_keepPage_43 (by decide) ?_
  refine lv_iconst (v := 3) hx hb d_K_keepPage_44 (by decide) ?_
  refine mr_cl hx hb (hml.trans hl.1.symm) hown hok hP (hts _ wd_403) (hts _ wd_254) (hts _ wd_253) (hts _ wd_43) 1 rfl (Nat.le_of_ble_eq_true rfl) (Nat.le_of_ble_eq_true rfl) d_K_keepPage_45 (fun M12 H locs hP hok => ?_)
  refine lv_aload_n hx hb d_K_keepPage_48 rfl (lv_at hl 0 rfl) ?_
  refine mr_gr (C := "PurseHouse$Kiosk") (T := F_1) (N := 9) (ref := "PurseHouse$Kiosk") hx hb hts hown hok hP ui_1 rfl (by decide) (hts _ wd_118) (fun _ h => h) d_K_keepPage_49 (fun v13 hP => ?_)
  refine lv_iload_n hx hb d_K_keepPage_52 rfl (lv_at hl 1 rfl) ?_
  refine lv_aload_n hx hb d_K_keepPage_53 rfl (lv_at hl 0 rfl) ?_
  refine mr_gi (C := "PurseHouse$Kiosk") (T := F_1) (N := 9) (ref := "PurseHouse$Kiosk") hx hb hts hown hok hP ui_1 rfl (by decide) (hts _ wd_108) (fun _ h => h) d_K_keepPage_54 (fun v14 hP => ?_)
  refine mr_si hx hb hok hP 0 rfl d_K_keepPage_57 (fun M15 H locs hP hok => ?_)
  refine lv_aload_n hx hb d_K_keepPage_58 rfl (lv_at hl 0 rfl) ?_
  refine lv_dup hx hb d_K_keepPage_59 rfl ?_
  refine mr_gi (C := "PurseHouse$Kiosk") (T := F_1) (N := 9) (ref := "PurseHouse$Kiosk") hx hb hts hown hok hP ui_1 rfl (by decide) (hts _ wd_110) (fun _ h => h) d_K_keepPage_60 (fun v16 hP => ?_)
  refine lv_iconst (v := 1) hx hb d_K_keepPage_63 (by decide) ?_
  refine lv_iload_n hx hb d_K_keepPage_64 rfl (lv_at hl 1 rfl) ?_
  refine lv_ishl hx hb d_K_keepPage_65 ?_
  refine lv_ior hx hb d_K_keepPage_66 ?_
  refine mr_pt (C := "PurseHouse$Kiosk") (T := F_1) (N := 9) (ref := "PurseHouse$Kiosk") (ty := .int) hx hb hts hown hok hP ui_1 ty_1 th_1 tn_1 rfl (by decide) (hts _ wd_110) (fun _ h => h) rfl (by decide +kernel) rfl rfl d_K_keepPage_67 (fun M17 H locs hP hok => ?_)
  exact mo_vret hx hb hr hlocks hok hP d_K_keepPage_70

abbrev b_K_receiveCoins : ByteArray := prog_2_method_7_code
def y_K_receiveCoins : MethodName := ⟨"PurseHouse$Kiosk", "receiveCoins", "(II)V"⟩
def ws_K_receiveCoins : List Cond := .code y_K_receiveCoins b_K_receiveCoins 3 (Option.none : Option Jvm.ClassFile.FieldType) :: lw_g
theorem d_K_receiveCoins_0 : decode b_K_receiveCoins 0 = .ok (.aload_n 0, 1) := by decide +kernel
theorem d_K_receiveCoins_1 : decode b_K_receiveCoins 1 = .ok (.getfield 9, 3) := by decide +kernel
theorem d_K_receiveCoins_4 : decode b_K_receiveCoins 4 = .ok (.iload_n 1, 1) := by decide +kernel
theorem d_K_receiveCoins_5 : decode b_K_receiveCoins 5 = .ok (.dup2, 1) := by decide +kernel
theorem d_K_receiveCoins_6 : decode b_K_receiveCoins 6 = .ok (.laload, 1) := by decide +kernel
theorem d_K_receiveCoins_7 : decode b_K_receiveCoins 7 = .ok (.iload_n 2, 1) := by decide +kernel
theorem d_K_receiveCoins_8 : decode b_K_receiveCoins 8 = .ok (.i2l, 1) := by decide +kernel
theorem d_K_receiveCoins_9 : decode b_K_receiveCoins 9 = .ok (.ladd, 1) := by decide +kernel
theorem d_K_receiveCoins_10 : decode b_K_receiveCoins 10 = .ok (.lastore, 1) := by decide +kernel
theorem d_K_receiveCoins_11 : decode b_K_receiveCoins 11 = .ok (.aload_n 0, 1) := by decide +kernel
theorem d_K_receiveCoins_12 : decode b_K_receiveCoins 12 = .ok (.dup, 1) := by decide +kernel
theorem d_K_receiveCoins_13 : decode b_K_receiveCoins 13 = .ok (.getfield 21, 3) := by decide +kernel
theorem d_K_receiveCoins_16 : decode b_K_receiveCoins 16 = .ok (.iconst 1, 1) := by decide +kernel
theorem d_K_receiveCoins_17 : decode b_K_receiveCoins 17 = .ok (.iadd, 1) := by decide +kernel
theorem d_K_receiveCoins_18 : decode b_K_receiveCoins 18 = .ok (.putfield 21, 3) := by decide +kernel
theorem d_K_receiveCoins_21 : decode b_K_receiveCoins 21 = .ok (.return_, 1) := by decide +kernel
def pp_K_receiveCoins (g : Nat → ClassId) (e0 : Nat → Nat) (K : mo_M → Prop) (M : mo_M) (x0 : Nat) (x1 : Int32) (x2 : Int32) : Prop := mp_gr M x0 1 0 (fun v1 => mp_al (g 1) M v1 x1 (fun v2 => mp_sl (g 1) M v1 x1 ((v2 + x2.toInt64)) (fun M3 => mp_gi M3 x0 1 3 (fun v4 => mp_pt M3 x0 1 3 (.int ((v4 + ((1 : Int32))))) (fun M5 => K M5)))))
set_option maxHeartbeats 4000000 in
set_option maxRecDepth 100000 in
theorem cc_K_receiveCoins (l : Launch) (L0 : Nat) (D : va_G) {g : Nat → ClassId} {e0 : Nat → Nat} {K : mo_M → Prop} {M : mo_M} {x0 : Nat} {x1 : Int32} {x2 : Int32} (hP : pp_K_receiveCoins g e0 K M x0 x1 x2) : Met l y_K_receiveCoins ws_K_receiveCoins (mo_R 0 0 0 0) (va_Pc [.ref x0, .int x1, .int x2] (fun U => mo_B L0 e0 D vwCl (mo_T g) M U)) (mo_Qv L0 e0 D vwCl (mo_T g) K) 0 0 (fun q => L0 ≤ q) := by
  refine Met.ofW (cc := b_K_receiveCoins) (maxL := 3) (ret := (Option.none : Option Jvm.ClassFile.FieldType)) (by decide +kernel) rfl ?_
  intro p e s m args below meth c s₁ B hml hv
  obtain ⟨hv1, hB0⟩ := hv
  have hx := B.exec
  have hb := B.bytes
  have hr := B.returns
  have hts : ∀ w ∈ lw_g, w.before args s = true := fun w hw => atoms_spec (ws := ws_K_receiveCoins) B.pre w (List.mem_cons_of_mem _ hw)
  have hown : s.vm.findClass "PurseHouse$Kiosk" = some m.cls := findClass_of_methodNamed B.named
  have hlocks := B.notSynchronized
  have hok : mo_ok L0 e0 D vwCl (mo_T g) s M s.heap [] := ⟨hB0.1, hB0.2.1, hB0.2.2, va_S.rf⟩
  have hl := lv_entry ([.ref x0, .int x1, .int x2]) (n := 3) (Nat.le_of_ble_eq_true rfl)
  rw [hv1, lg_entry_eq]
  rw [← hv1]
  generalize (lg_sl [.ref x0, .int x1, .int x2] ++ List.replicate (3 - (lg_sl [.ref x0, .int x1, .int x2]).length) Slot.unset).toArray = ls at hl ⊢
  have hl : lv_has ls 3 [(0, .ref x0), (1, .int x1), (2, .int x2)] := hl
  unfold pp_K_receiveCoins at hP
  refine lv_aload_n hx hb d_K_receiveCoins_0 rfl (lv_at hl 0 rfl) ?_
  refine mr_gr (C := "PurseHouse$Kiosk") (T := F_1) (N := 9) (ref := "PurseHouse$Kiosk") hx hb hts hown hok hP ui_1 rfl (by decide) (hts _ wd_103) (fun _ h => h) d_K_receiveCoins_1 (fun v1 hP => ?_)
  refine lv_iload_n hx hb d_K_receiveCoins_4 rfl (lv_at hl 1 rfl) ?_
  refine lv_dup2_11 hx hb d_K_receiveCoins_5 rfl rfl ?_
  refine mr_al hx hb hok hP 1 rfl d_K_receiveCoins_6 (fun v2 hP => ?_)
  refine lv_iload_n hx hb d_K_receiveCoins_7 rfl (lv_at hl 2 rfl) ?_
  refine lv_i2l hx hb d_K_receiveCoins_8 rfl ?_
  refine lv_ladd hx hb d_K_receiveCoins_9 ?_
  refine mr_sl hx hb hok hP 1 rfl d_K_receiveCoins_10 (fun M3 H locs hP hok => ?_)
  refine lv_aload_n hx hb d_K_receiveCoins_11 rfl (lv_at hl 0 rfl) ?_
  refine lv_dup hx hb d_K_receiveCoins_12 rfl ?_
  refine mr_gi (C := "PurseHouse$Kiosk") (T := F_1) (N := 9) (ref := "PurseHouse$Kiosk") hx hb hts hown hok hP ui_1 rfl (by decide) (hts _ wd_108) (fun _ h => h) d_K_receiveCoins_13 (fun v4 hP => ?_)
  refine lv_iconst (v := 1) hx hb d_K_receiveCoins_16 (by decide) ?_
  refine lv_iadd hx hb d_K_receiveCoins_17 ?_
  refine mr_pt (C := "PurseHouse$Kiosk") (T := F_1) (N := 9) (ref := "PurseHouse$Kiosk") (ty := .int) hx hb hts hown hok hP ui_1 ty_1 th_1 tn_1 rfl (by decide) (hts _ wd_108) (fun _ h => h) rfl (by decide +kernel) rfl rfl d_K_receiveCoins_18 (fun M5 H locs hP hok => ?_)
  exact mo_vret hx hb hr hlocks hok hP d_K_receiveCoins_21

abbrev b_T_init : ByteArray := prog_4_method_1_code
def y_T_init : MethodName := ⟨"PurseHouse$Thing", "<init>", "(IIII)V"⟩
def ws_T_init : List Cond := .code y_T_init b_T_init 5 (Option.none : Option Jvm.ClassFile.FieldType) :: lw_g
theorem d_T_init_0 : decode b_T_init 0 = .ok (.aload_n 0, 1) := by decide +kernel
theorem d_T_init_1 : decode b_T_init 1 = .ok (.invokespecial 1, 3) := by decide +kernel
theorem d_T_init_4 : decode b_T_init 4 = .ok (.aload_n 0, 1) := by decide +kernel
theorem d_T_init_5 : decode b_T_init 5 = .ok (.iload_n 1, 1) := by decide +kernel
theorem d_T_init_6 : decode b_T_init 6 = .ok (.putfield 7, 3) := by decide +kernel
theorem d_T_init_9 : decode b_T_init 9 = .ok (.aload_n 0, 1) := by decide +kernel
theorem d_T_init_10 : decode b_T_init 10 = .ok (.iload_n 2, 1) := by decide +kernel
theorem d_T_init_11 : decode b_T_init 11 = .ok (.putfield 13, 3) := by decide +kernel
theorem d_T_init_14 : decode b_T_init 14 = .ok (.aload_n 0, 1) := by decide +kernel
theorem d_T_init_15 : decode b_T_init 15 = .ok (.iload_n 3, 1) := by decide +kernel
theorem d_T_init_16 : decode b_T_init 16 = .ok (.putfield 16, 3) := by decide +kernel
theorem d_T_init_19 : decode b_T_init 19 = .ok (.aload_n 0, 1) := by decide +kernel
theorem d_T_init_20 : decode b_T_init 20 = .ok (.iload 4, 2) := by decide +kernel
theorem d_T_init_22 : decode b_T_init 22 = .ok (.putfield 19, 3) := by decide +kernel
theorem d_T_init_25 : decode b_T_init 25 = .ok (.return_, 1) := by decide +kernel
def pp_T_init (g : Nat → ClassId) (e0 : Nat → Nat) (K : mo_M → Prop) (M : mo_M) (x0 : Nat) (x1 : Int32) (x2 : Int32) (x3 : Int32) (x4 : Int32) : Prop := mp_pt M x0 3 0 (.int x1) (fun M1 => mp_pt M1 x0 3 1 (.int x2) (fun M2 => mp_pt M2 x0 3 2 (.int x3) (fun M3 => mp_pt M3 x0 3 3 (.int x4) (fun M4 => K M4))))
set_option maxHeartbeats 4000000 in
set_option maxRecDepth 100000 in
theorem cc_T_init (l : Launch) (L0 : Nat) (D : va_G) {g : Nat → ClassId} {e0 : Nat → Nat} {K : mo_M → Prop} {M : mo_M} {x0 : Nat} {x1 : Int32} {x2 : Int32} {x3 : Int32} {x4 : Int32} (hP : pp_T_init g e0 K M x0 x1 x2 x3 x4) : Met l y_T_init ws_T_init (mo_R 1 0 0 12) (va_Pc [.ref x0, .int x1, .int x2, .int x3, .int x4] (fun U => mo_B L0 e0 D vwCl (mo_T g) M U)) (mo_Qv L0 e0 D vwCl (mo_T g) K) 0 0 (fun q => L0 ≤ q) := by
  refine Met.ofW (cc := b_T_init) (maxL := 5) (ret := (Option.none : Option Jvm.ClassFile.FieldType)) (by decide +kernel) rfl ?_
  intro p e s m args below meth c s₁ B hml hv
  obtain ⟨hv1, hB0⟩ := hv
  have hx := B.exec
  have hb := B.bytes
  have hr := B.returns
  have hts : ∀ w ∈ lw_g, w.before args s = true := fun w hw => atoms_spec (ws := ws_T_init) B.pre w (List.mem_cons_of_mem _ hw)
  have hown : s.vm.findClass "PurseHouse$Thing" = some m.cls := findClass_of_methodNamed B.named
  have hlocks := B.notSynchronized
  have hin : meth.name = "<init>" := (name_of_methodNamed B.named B.method).1
  have hok : mo_ok L0 e0 D vwCl (mo_T g) s M s.heap [] := ⟨hB0.1, hB0.2.1, hB0.2.2, va_S.rf⟩
  have hl := lv_entry ([.ref x0, .int x1, .int x2, .int x3, .int x4]) (n := 5) (Nat.le_of_ble_eq_true rfl)
  rw [hv1, lg_entry_eq]
  rw [← hv1]
  generalize (lg_sl [.ref x0, .int x1, .int x2, .int x3, .int x4] ++ List.replicate (5 - (lg_sl [.ref x0, .int x1, .int x2, .int x3, .int x4]).length) Slot.unset).toArray = ls at hl ⊢
  have hl : lv_has ls 5 [(0, .ref x0), (1, .int x1), (2, .int x2), (3, .int x3), (4, .int x4)] := hl
  unfold pp_T_init at hP
  refine lv_aload_n hx hb d_T_init_0 rfl (lv_at hl 0 rfl) ?_
  refine W.objInit hx hb hown (hts _ wd_343) (hts _ wd_58) (hts _ wd_59) rfl (by rw [hml]; exact hl.1) rfl d_T_init_1 (Nat.le_of_ble_eq_true rfl) (Nat.le_of_ble_eq_true rfl) ?_
  refine W.eq (g2 := F0 m 4 ls []) rfl ?_
  refine lv_aload_n hx hb d_T_init_4 rfl (lv_at hl 0 rfl) ?_
  refine lv_iload_n hx hb d_T_init_5 rfl (lv_at hl 1 rfl) ?_
  refine mr_ptF (C := "PurseHouse$Thing") (T := F_3) (N := 4) (ref := "PurseHouse$Thing") (ty := .int) hx hb hts hown hok hP ui_3 ty_3 th_3 tn_3 rfl (by decide) (hts _ wd_344) (fun _ h => h) rfl hin rfl (by decide +kernel) rfl rfl d_T_init_6 (fun M1 H locs hP hok => ?_)
  refine lv_aload_n hx hb d_T_init_9 rfl (lv_at hl 0 rfl) ?_
  refine lv_iload_n hx hb d_T_init_10 rfl (lv_at hl 2 rfl) ?_
  refine mr_ptF (C := "PurseHouse$Thing") (T := F_3) (N := 4) (ref := "PurseHouse$Thing") (ty := .int) hx hb hts hown hok hP ui_3 ty_3 th_3 tn_3 rfl (by decide) (hts _ wd_347) (fun _ h => h) rfl hin rfl (by decide +kernel) rfl rfl d_T_init_11 (fun M2 H locs hP hok => ?_)
  refine lv_aload_n hx hb d_T_init_14 rfl (lv_at hl 0 rfl) ?_
  refine lv_iload_n hx hb d_T_init_15 rfl (lv_at hl 3 rfl) ?_
  refine mr_ptF (C := "PurseHouse$Thing") (T := F_3) (N := 4) (ref := "PurseHouse$Thing") (ty := .int) hx hb hts hown hok hP ui_3 ty_3 th_3 tn_3 rfl (by decide) (hts _ wd_350) (fun _ h => h) rfl hin rfl (by decide +kernel) rfl rfl d_T_init_16 (fun M3 H locs hP hok => ?_)
  refine lv_aload_n hx hb d_T_init_19 rfl (lv_at hl 0 rfl) ?_
  refine lv_iload hx hb d_T_init_20 (lv_at hl 4 rfl) ?_
  refine mr_ptF (C := "PurseHouse$Thing") (T := F_3) (N := 4) (ref := "PurseHouse$Thing") (ty := .int) hx hb hts hown hok hP ui_3 ty_3 th_3 tn_3 rfl (by decide) (hts _ wd_353) (fun _ h => h) rfl hin rfl (by decide +kernel) rfl rfl d_T_init_22 (fun M4 H locs hP hok => ?_)
  exact mo_vret hx hb hr hlocks hok hP d_T_init_25

