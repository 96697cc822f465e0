abbrev b_M_isThere : ByteArray := prog_6_method_19_code
def y_M_isThere : MethodName := ⟨"PurseHouseModel", "isThere", "(II)Z"⟩
def ws_M_isThere : List Cond := .code y_M_isThere b_M_isThere 3 (Option.some Jvm.ClassFile.FieldType.boolean) :: lw_g
theorem d_M_isThere_0 : decode b_M_isThere 0 = .ok (.aload_n 0, 1) := by decide +kernel
theorem d_M_isThere_1 : decode b_M_isThere 1 = .ok (.getfield 51, 3) := by decide +kernel
theorem d_M_isThere_4 : decode b_M_isThere 4 = .ok (.iload_n 1, 1) := by decide +kernel
theorem d_M_isThere_5 : decode b_M_isThere 5 = .ok (.iaload, 1) := by decide +kernel
theorem d_M_isThere_6 : decode b_M_isThere 6 = .ok (.iload_n 2, 1) := by decide +kernel
theorem d_M_isThere_7 : decode b_M_isThere 7 = .ok (.if_icmp .ne 16, 3) := by decide +kernel
theorem d_M_isThere_10 : decode b_M_isThere 10 = .ok (.aload_n 0, 1) := by decide +kernel
theorem d_M_isThere_11 : decode b_M_isThere 11 = .ok (.getfield 66, 3) := by decide +kernel
theorem d_M_isThere_14 : decode b_M_isThere 14 = .ok (.iload_n 1, 1) := by decide +kernel
theorem d_M_isThere_15 : decode b_M_isThere 15 = .ok (.iaload, 1) := by decide +kernel
theorem d_M_isThere_16 : decode b_M_isThere 16 = .ok (.ifCond .ne 7, 3) := by decide +kernel
theorem d_M_isThere_19 : decode b_M_isThere 19 = .ok (.iconst 1, 1) := by decide +kernel
theorem d_M_isThere_20 : decode b_M_isThere 20 = .ok (.goto 4, 3) := by decide +kernel
theorem d_M_isThere_23 : decode b_M_isThere 23 = .ok (.iconst 0, 1) := by decide +kernel
theorem d_M_isThere_24 : decode b_M_isThere 24 = .ok (.ireturn, 1) := by decide +kernel
def pp_M_isThere (g : Nat → ClassId) (e0 : Nat → Nat) (K : Int32 → mo_M → Prop) (M : mo_M) (x0 : Nat) (x1 : Int32) (x2 : Int32) : Prop := mp_gr M x0 4 19 (fun v1 => mp_ai (g 0) M v1 x1 (fun v2 => ((v2 = x2 → mp_gr M x0 4 24 (fun v3 => mp_ai (g 0) M v3 x1 (fun v4 => ((v4 = 0 → (narrow .boolean (.int ((1 : Int32))) = .int ((1 : Int32)) ∧ K ((1 : Int32)) M)) ∧ (¬ (v4 = 0) → (narrow .boolean (.int ((0 : Int32))) = .int ((0 : Int32)) ∧ K ((0 : Int32)) M)))))) ∧ (¬ (v2 = x2) → (narrow .boolean (.int ((0 : Int32))) = .int ((0 : Int32)) ∧ K ((0 : Int32)) M)))))
set_option maxHeartbeats 4000000 in
set_option maxRecDepth 100000 in
theorem cc_M_isThere (l : Launch) (L0 : Nat) (D : va_G) {g : Nat → ClassId} {e0 : Nat → Nat} {K : Int32 → mo_M → Prop} {M : mo_M} {x0 : Nat} {x1 : Int32} {x2 : Int32} (hP : pp_M_isThere g e0 K M x0 x1 x2) : Met l y_M_isThere ws_M_isThere (mo_R 0 0 0 0) (va_Pc [.ref x0, .int x1, .int x2] (fun U => mo_B L0 e0 D vwCl (mo_T g) M U)) (mo_Qi L0 e0 D vwCl (mo_T g) K) 0 0 (fun q => L0 ≤ q) := by
  refine Met.ofW (cc := b_M_isThere) (maxL := 3) (ret := (Option.some Jvm.ClassFile.FieldType.boolean)) (by decide +kernel) rfl ?_
  intro p e s m args below meth c s₁ B hml hv
  obtain ⟨hv1, hB0⟩ := hv
  have hx := B.exec
  have hb := B.bytes
  have hr := B.returns
  have hts : ∀ w ∈ lw_g, w.before args s = true := fun w hw => atoms_spec (ws := ws_M_isThere) B.pre w (List.mem_cons_of_mem _ hw)
  have hown : s.vm.findClass "PurseHouseModel" = some m.cls := findClass_of_methodNamed B.named
  have hlocks := B.notSynchronized
  have hok : mo_ok L0 e0 D vwCl (mo_T g) s M s.heap [] := ⟨hB0.1, hB0.2.1, hB0.2.2, va_S.rf⟩
  have hl := lv_entry ([.ref x0, .int x1, .int x2]) (n := 3) (Nat.le_of_ble_eq_true rfl)
  rw [hv1, lg_entry_eq]
  rw [← hv1]
  generalize (lg_sl [.ref x0, .int x1, .int x2] ++ List.replicate (3 - (lg_sl [.ref x0, .int x1, .int x2]).length) Slot.unset).toArray = ls at hl ⊢
  have hl : lv_has ls 3 [(0, .ref x0), (1, .int x1), (2, .int x2)] := hl
  unfold pp_M_isThere at hP
  refine lv_aload_n hx hb d_M_isThere_0 rfl (lv_at hl 0 rfl) ?_
  refine mr_gr (C := "PurseHouseModel") (T := F_4) (N := 27) (ref := "PurseHouseModel") hx hb hts hown hok hP ui_4 rfl (by decide) (hts _ wd_629) (fun _ h => h) d_M_isThere_1 (fun v1 hP => ?_)
  refine lv_iload_n hx hb d_M_isThere_4 rfl (lv_at hl 1 rfl) ?_
  refine mr_ai hx hb hok hP 0 rfl d_M_isThere_5 (fun v2 hP => ?_)
  refine lv_iload_n hx hb d_M_isThere_6 rfl (lv_at hl 2 rfl) ?_
  refine lv_icmp_ne (tgt := 23) hx hb d_M_isThere_7 (by decide) (fun hc => ?_) (fun hc => ?_)
  · replace hP := hP.2 hc
    refine lv_iconst (v := 0) hx hb d_M_isThere_23 (by decide) ?_
    exact mo_zret hx hb hr hlocks hok hP d_M_isThere_24
  · replace hP := hP.1 hc
    refine lv_aload_n hx hb d_M_isThere_10 rfl (lv_at hl 0 rfl) ?_
    refine mr_gr (C := "PurseHouseModel") (T := F_4) (N := 27) (ref := "PurseHouseModel") hx hb hts hown hok hP ui_4 rfl (by decide) (hts _ wd_634) (fun _ h => h) d_M_isThere_11 (fun v3 hP => ?_)
    refine lv_iload_n hx hb d_M_isThere_14 rfl (lv_at hl 1 rfl) ?_
    refine mr_ai hx hb hok hP 0 rfl d_M_isThere_15 (fun v4 hP => ?_)
    refine lv_if_ne (tgt := 23) hx hb d_M_isThere_16 (by decide) (fun hc => ?_) (fun hc => ?_)
    · replace hP := hP.2 hc
      refine lv_iconst (v := 0) hx hb d_M_isThere_23 (by decide) ?_
      exact mo_zret hx hb hr hlocks hok hP d_M_isThere_24
    · replace hP := hP.1 hc
      refine lv_iconst (v := 1) hx hb d_M_isThere_19 (by decide) ?_
      refine lv_goto (tgt := 24) hx hb d_M_isThere_20 (by decide) ?_
      exact mo_zret hx hb hr hlocks hok hP d_M_isThere_24

abbrev b_M_send : ByteArray := prog_6_method_18_code
def y_M_send : MethodName := ⟨"PurseHouseModel", "send", "(IIIII)V"⟩
def ws_M_send : List Cond := .code y_M_send b_M_send 6 (Option.none : Option Jvm.ClassFile.FieldType) :: lw_g
theorem d_M_send_0 : decode b_M_send 0 = .ok (.aload_n 0, 1) := by decide +kernel
theorem d_M_send_1 : decode b_M_send 1 = .ok (.dup, 1) := by decide +kernel
theorem d_M_send_2 : decode b_M_send 2 = .ok (.getfield 94, 3) := by decide +kernel
theorem d_M_send_5 : decode b_M_send 5 = .ok (.iconst 1, 1) := by decide +kernel
theorem d_M_send_6 : decode b_M_send 6 = .ok (.iadd, 1) := by decide +kernel
theorem d_M_send_7 : decode b_M_send 7 = .ok (.putfield 94, 3) := by decide +kernel
theorem d_M_send_10 : decode b_M_send 10 = .ok (.aload_n 0, 1) := by decide +kernel
theorem d_M_send_11 : decode b_M_send 11 = .ok (.getfield 48, 3) := by decide +kernel
theorem d_M_send_14 : decode b_M_send 14 = .ok (.aload_n 0, 1) := by decide +kernel
theorem d_M_send_15 : decode b_M_send 15 = .ok (.getfield 115, 3) := by decide +kernel
theorem d_M_send_18 : decode b_M_send 18 = .ok (.iload_n 1, 1) := by decide +kernel
theorem d_M_send_19 : decode b_M_send 19 = .ok (.iastore, 1) := by decide +kernel
theorem d_M_send_20 : decode b_M_send 20 = .ok (.aload_n 0, 1) := by decide +kernel
theorem d_M_send_21 : decode b_M_send 21 = .ok (.getfield 51, 3) := by decide +kernel
theorem d_M_send_24 : decode b_M_send 24 = .ok (.aload_n 0, 1) := by decide +kernel
theorem d_M_send_25 : decode b_M_send 25 = .ok (.getfield 115, 3) := by decide +kernel
theorem d_M_send_28 : decode b_M_send 28 = .ok (.iload_n 2, 1) := by decide +kernel
theorem d_M_send_29 : decode b_M_send 29 = .ok (.iastore, 1) := by decide +kernel
theorem d_M_send_30 : decode b_M_send 30 = .ok (.aload_n 0, 1) := by decide +kernel
theorem d_M_send_31 : decode b_M_send 31 = .ok (.getfield 54, 3) := by decide +kernel
theorem d_M_send_34 : decode b_M_send 34 = .ok (.aload_n 0, 1) := by decide +kernel
theorem d_M_send_35 : decode b_M_send 35 = .ok (.getfield 115, 3) := by decide +kernel
theorem d_M_send_38 : decode b_M_send 38 = .ok (.iload_n 3, 1) := by decide +kernel
theorem d_M_send_39 : decode b_M_send 39 = .ok (.iastore, 1) := by decide +kernel
theorem d_M_send_40 : decode b_M_send 40 = .ok (.aload_n 0, 1) := by decide +kernel
theorem d_M_send_41 : decode b_M_send 41 = .ok (.getfield 57, 3) := by decide +kernel
theorem d_M_send_44 : decode b_M_send 44 = .ok (.aload_n 0, 1) := by decide +kernel
theorem d_M_send_45 : decode b_M_send 45 = .ok (.getfield 115, 3) := by decide +kernel
theorem d_M_send_48 : decode b_M_send 48 = .ok (.iload 4, 2) := by decide +kernel
theorem d_M_send_50 : decode b_M_send 50 = .ok (.iastore, 1) := by decide +kernel
theorem d_M_send_51 : decode b_M_send 51 = .ok (.aload_n 0, 1) := by decide +kernel
theorem d_M_send_52 : decode b_M_send 52 = .ok (.getfield 60, 3) := by decide +kernel
theorem d_M_send_55 : decode b_M_send 55 = .ok (.aload_n 0, 1) := by decide +kernel
theorem d_M_send_56 : decode b_M_send 56 = .ok (.getfield 115, 3) := by decide +kernel
theorem d_M_send_59 : decode b_M_send 59 = .ok (.iload 5, 2) := by decide +kernel
theorem d_M_send_61 : decode b_M_send 61 = .ok (.iastore, 1) := by decide +kernel
theorem d_M_send_62 : decode b_M_send 62 = .ok (.aload_n 0, 1) := by decide +kernel
theorem d_M_send_63 : decode b_M_send 63 = .ok (.getfield 63, 3) := by decide +kernel
theorem d_M_send_66 : decode b_M_send 66 = .ok (.aload_n 0, 1) := by decide +kernel
theorem d_M_send_67 : decode b_M_send 67 = .ok (.getfield 115, 3) := by decide +kernel
theorem d_M_send_70 : decode b_M_send 70 = .ok (.aload_n 0, 1) := by decide +kernel
theorem d_M_send_71 : decode b_M_send 71 = .ok (.getfield 94, 3) := by decide +kernel
theorem d_M_send_74 : decode b_M_send 74 = .ok (.iastore, 1) := by decide +kernel
theorem d_M_send_75 : decode b_M_send 75 = .ok (.aload_n 0, 1) := by decide +kernel
theorem d_M_send_76 : decode b_M_send 76 = .ok (.getfield 66, 3) := by decide +kernel
theorem d_M_send_79 : decode b_M_send 79 = .ok (.aload_n 0, 1) := by decide +kernel
theorem d_M_send_80 : decode b_M_send 80 = .ok (.getfield 115, 3) := by decide +kernel
theorem d_M_send_83 : decode b_M_send 83 = .ok (.iconst 0, 1) := by decide +kernel
theorem d_M_send_84 : decode b_M_send 84 = .ok (.iastore, 1) := by decide +kernel
theorem d_M_send_85 : decode b_M_send 85 = .ok (.aload_n 0, 1) := by decide +kernel
theorem d_M_send_86 : decode b_M_send 86 = .ok (.dup, 1) := by decide +kernel
theorem d_M_send_87 : decode b_M_send 87 = .ok (.getfield 115, 3) := by decide +kernel
theorem d_M_send_90 : decode b_M_send 90 = .ok (.iconst 1, 1) := by decide +kernel
theorem d_M_send_91 : decode b_M_send 91 = .ok (.iadd, 1) := by decide +kernel
theorem d_M_send_92 : decode b_M_send 92 = .ok (.putfield 115, 3) := by decide +kernel
theorem d_M_send_95 : decode b_M_send 95 = .ok (.return_, 1) := by decide +kernel
def pp_M_send (g : Nat → ClassId) (e0 : Nat → Nat) (K : mo_M → Prop) (M : mo_M) (x0 : Nat) (x1 : Int32) (x2 : Int32) (x3 : Int32) (x4 : Int32) (x5 : Int32) : Prop := mp_gi M x0 4 2 (fun v1 => mp_pt M x0 4 2 (.int ((v1 + ((1 : Int32))))) (fun M2 => mp_gr M2 x0 4 18 (fun v3 => mp_gi M2 x0 4 17 (fun v4 => mp_si (g 0) M2 v3 v4 x1 (fun M5 => mp_gr M5 x0 4 19 (fun v6 => mp_gi M5 x0 4 17 (fun v7 => mp_si (g 0) M5 v6 v7 x2 (fun M8 => mp_gr M8 x0 4 20 (fun v9 => mp_gi M8 x0 4 17 (fun v10 => mp_si (g 0) M8 v9 v10 x3 (fun M11 => mp_gr M11 x0 4 21 (fun v12 => mp_gi M11 x0 4 17 (fun v13 => mp_si (g 0) M11 v12 v13 x4 (fun M14 => mp_gr M14 x0 4 22 (fun v15 => mp_gi M14 x0 4 17 (fun v16 => mp_si (g 0) M14 v15 v16 x5 (fun M17 => mp_gr M17 x0 4 23 (fun v18 => mp_gi M17 x0 4 17 (fun v19 => mp_gi M17 x0 4 2 (fun v20 => mp_si (g 0) M17 v18 v19 v20 (fun M21 => mp_gr M21 x0 4 24 (fun v22 => mp_gi M21 x0 4 17 (fun v23 => mp_si (g 0) M21 v22 v23 ((0 : Int32)) (fun M24 => mp_gi M24 x0 4 17 (fun v25 => mp_pt M24 x0 4 17 (.int ((v25 + ((1 : Int32))))) (fun M26 => K M26))))))))))))))))))))))))))
set_option maxHeartbeats 4000000 in
set_option maxRecDepth 100000 in
theorem cc_M_send (l : Launch) (L0 : Nat) (D : va_G) {g : Nat → ClassId} {e0 : Nat → Nat} {K : mo_M → Prop} {M : mo_M} {x0 : Nat} {x1 : Int32} {x2 : Int32} {x3 : Int32} {x4 : Int32} {x5 : Int32} (hP : pp_M_send g e0 K M x0 x1 x2 x3 x4 x5) : Met l y_M_send ws_M_send (mo_R 0 0 0 0) (va_Pc [.ref x0, .int x1, .int x2, .int x3, .int x4, .int x5] (fun U => mo_B L0 e0 D vwCl (mo_T g) M U)) (mo_Qv L0 e0 D vwCl (mo_T g) K) 0 0 (fun q => L0 ≤ q) := by
  refine Met.ofW (cc := b_M_send) (maxL := 6) (ret := (Option.none : Option Jvm.ClassFile.FieldType)) (by decide +kernel) rfl ?_
  intro p e s m args below meth c s₁ B hml hv
  obtain ⟨hv1, hB0⟩ := hv
  have hx := B.exec
  have hb := B.bytes
  have hr := B.returns
  have hts : ∀ w ∈ lw_g, w.before args s = true := fun w hw => atoms_spec (ws := ws_M_send) B.pre w (List.mem_cons_of_mem _ hw)
  have hown : s.vm.findClass "PurseHouseModel" = some m.cls := findClass_of_methodNamed B.named
  have hlocks := B.notSynchronized
  have hok : mo_ok L0 e0 D vwCl (mo_T g) s M s.heap [] := ⟨hB0.1, hB0.2.1, hB0.2.2, va_S.rf⟩
  have hl := lv_entry ([.ref x0, .int x1, .int x2, .int x3, .int x4, .int x5]) (n := 6) (Nat.le_of_ble_eq_true rfl)
  rw [hv1, lg_entry_eq]
  rw [← hv1]
  generalize (lg_sl [.ref x0, .int x1, .int x2, .int x3, .int x4, .int x5] ++ List.replicate (6 - (lg_sl [.ref x0, .int x1, .int x2, .int x3, .int x4, .int x5]).length) Slot.unset).toArray = ls at hl ⊢
  have hl : lv_has ls 6 [(0, .ref x0), (1, .int x1), (2, .int x2), (3, .int x3), (4, .int x4), (5, .int x5)] := hl
  unfold pp_M_send at hP
  refine lv_aload_n hx hb d_M_send_0 rfl (lv_at hl 0 rfl) ?_
  refine lv_dup hx hb d_M_send_1 rfl ?_
  refine mr_gi (C := "PurseHouseModel") (T := F_4) (N := 27) (ref := "PurseHouseModel") hx hb hts hown hok hP ui_4 rfl (by decide) (hts _ wd_612) (fun _ h => h) d_M_send_2 (fun v1 hP => ?_)
  refine lv_iconst (v := 1) hx hb d_M_send_5 (by decide) ?_
  refine lv_iadd hx hb d_M_send_6 ?_
  refine mr_pt (C := "PurseHouseModel") (T := F_4) (N := 27) (ref := "PurseHouseModel") (ty := .int) hx hb hts hown hok hP ui_4 ty_4 th_4 tn_4 rfl (by decide) (hts _ wd_612) (fun _ h => h) rfl (by decide +kernel) rfl rfl d_M_send_7 (fun M2 H locs hP hok => ?_)
  refine lv_aload_n hx hb d_M_send_10 rfl (lv_at hl 0 rfl) ?_
  refine mr_gr (C := "PurseHouseModel") (T := F_4) (N := 27) (ref := "PurseHouseModel") hx hb hts hown hok hP ui_4 rfl (by decide) (hts _ wd_628) (fun _ h => h) d_M_send_11 (fun v3 hP => ?_)
  refine lv_aload_n hx hb d_M_send_14 rfl (lv_at hl 0 rfl) ?_
  refine mr_gi (C := "PurseHouseModel") (T := F_4) (N := 27) (ref := "PurseHouseModel") hx hb hts hown hok hP ui_4 rfl (by decide) (hts _ wd_627) (fun _ h => h) d_M_send_15 (fun v4 hP => ?_)
  refine lv_iload_n hx hb d_M_send_18 rfl (lv_at hl 1 rfl) ?_
  refine mr_si hx hb hok hP 0 rfl d_M_send_19 (fun M5 H locs hP hok => ?_)
  refine lv_aload_n hx hb d_M_send_20 rfl (lv_at hl 0 rfl) ?_
  refine mr_gr (C := "PurseHouseModel") (T := F_4) (N := 27) (ref := "PurseHouseModel") hx hb hts hown hok hP ui_4 rfl (by decide) (hts _ wd_629) (fun _ h => h) d_M_send_21 (fun v6 hP => ?_)
  refine lv_aload_n hx hb d_M_send_24 rfl (lv_at hl 0 rfl) ?_
  refine mr_gi (C := "PurseHouseModel") (T := F_4) (N := 27) (ref := "PurseHouseModel") hx hb hts hown hok hP ui_4 rfl (by decide) (hts _ wd_627) (fun _ h => h) d_M_send_25 (fun v7 hP => ?_)
  refine lv_iload_n hx hb d_M_send_28 rfl (lv_at hl 2 rfl) ?_
  refine mr_si hx hb hok hP 0 rfl d_M_send_29 (fun M8 H locs hP hok => ?_)
  refine lv_aload_n hx hb d_M_send_30 rfl (lv_at hl 0 rfl) ?_
  refine mr_gr (C := "PurseHouseModel") (T := F_4) (N := 27) (ref := "PurseHouseModel") hx hb hts hown hok hP ui_4 rfl (by decide) (hts _ wd_630) (fun _ h => h) d_M_send_31 (fun v9 hP => ?_)
  refine lv_aload_n hx hb d_M_send_34 rfl (lv_at hl 0 rfl) ?_
  refine mr_gi (C := "PurseHouseModel") (T := F_4) (N := 27) (ref := "PurseHouseModel") hx hb hts hown hok hP ui_4 rfl (by decide) (hts _ wd_627) (fun _ h => h) d_M_send_35 (fun v10 hP => ?_)
  refine lv_iload_n hx hb d_M_send_38 rfl (lv_at hl 3 rfl) ?_
  refine mr_si hx hb hok hP 0 rfl d_M_send_39 (fun M11 H locs hP hok => ?_)
  refine lv_aload_n hx hb d_M_send_40 rfl (lv_at hl 0 rfl) ?_
  refine mr_gr (C := "PurseHouseModel") (T := F_4) (N := 27) (ref := "PurseHouseModel") hx hb hts hown hok hP ui_4 rfl (by decide) (hts _ wd_631) (fun _ h => h) d_M_send_41 (fun v12 hP => ?_)
  refine lv_aload_n hx hb d_M_send_44 rfl (lv_at hl 0 rfl) ?_
  refine mr_gi (C := "PurseHouseModel") (T := F_4) (N := 27) (ref := "PurseHouseModel") hx hb hts hown hok hP ui_4 rfl (by decide) (hts _ wd_627) (fun _ h => h) d_M_send_45 (fun v13 hP => ?_)
  refine lv_iload hx hb d_M_send_48 (lv_at hl 4 rfl) ?_
  refine mr_si hx hb hok hP 0 rfl d_M_send_50 (fun M14 H locs hP hok => ?_)
  refine lv_aload_n hx hb d_M_send_51 rfl (lv_at hl 0 rfl) ?_
  refine mr_gr (C := "PurseHouseModel") (T := F_4) (N := 27) (ref := "PurseHouseModel") hx hb hts hown hok hP ui_4 rfl (by decide) (hts _ wd_632) (fun _ h => h) d_M_send_52 (fun v15 hP => ?_)
  refine lv_aload_n hx hb d_M_send_55 rfl (lv_at hl 0 rfl) ?_
  refine mr_gi (C := "PurseHouseModel") (T := F_4) (N := 27) (ref := "PurseHouseModel") hx hb hts hown hok hP ui_4 rfl (by decide) (hts _ wd_627) (fun _ h => h) d_M_send_56 (fun v16 hP => ?_)
  refine lv_iload hx hb d_M_send_59 (lv_at hl 5 rfl) ?_
  refine mr_si hx hb hok hP 0 rfl d_M_send_61 (fun M17 H locs hP hok => ?_)
  refine lv_aload_n hx hb d_M_send_62 rfl (lv_at hl 0 rfl) ?_
  refine mr_gr (C := "PurseHouseModel") (T := F_4) (N := 27) (ref := "PurseHouseModel") hx hb hts hown hok hP ui_4 rfl (by decide) (hts _ wd_633) (fun _ h => h) d_M_send_63 (fun v18 hP => ?_)
  refine lv_aload_n hx hb d_M_send_66 rfl (lv_at hl 0 rfl) ?_
  refine mr_gi (C := "PurseHouseModel") (T := F_4) (N := 27) (ref := "PurseHouseModel") hx hb hts hown hok hP ui_4 rfl (by decide) (hts _ wd_627) (fun _ h => h) d_M_send_67 (fun v19 hP => ?_)
  refine lv_aload_n hx hb d_M_send_70 rfl (lv_at hl 0 rfl) ?_
  refine mr_gi (C := "PurseHouseModel") (T := F_4) (N := 27) (ref := "PurseHouseModel") hx hb hts hown hok hP ui_4 rfl (by decide) (hts _ wd_612) (fun _ h => h) d_M_send_71 (fun v20 hP => ?_)
  refine mr_si hx hb hok hP 0 rfl d_M_send_74 (fun M21 H locs hP hok => ?_)
  refine lv_aload_n hx hb d_M_send_75 rfl (lv_at hl 0 rfl) ?_
  refine mr_gr (C := "PurseHouseModel") (T := F_4) (N := 27) (ref := "PurseHouseModel") hx hb hts hown hok hP ui_4 rfl (by decide) (hts _ wd_634) (fun _ h => h) d_M_send_76 (fun v22 hP => ?_)
  refine lv_aload_n hx hb d_M_send_79 rfl (lv_at hl 0 rfl) ?_
  refine mr_gi (C := "PurseHouseModel") (T := F_4) (N := 27) (ref := "PurseHouseModel") hx hb hts hown hok hP ui_4 rfl (by decide) (hts _ wd_627) (fun _ h => h) d_M_send_80 (fun v23 hP => ?_)
  refine lv_iconst (v := 0) hx hb d_M_send_83 (by decide) ?_
  refine mr_si hx hb hok hP 0 rfl d_M_send_84 (fun M24 H locs hP hok => ?_)
  refine lv_aload_n hx hb d_M_send_85 rfl (lv_at hl 0 rfl) ?_
  refine lv_dup hx hb d_M_send_86 rfl ?_
  refine mr_gi (C := "PurseHouseModel") (T := F_4) (N := 27) (ref := "PurseHouseModel") hx hb hts hown hok hP ui_4 rfl (by decide) (hts _ wd_627) (fun _ h => h) d_M_send_87 (fun v25 hP => ?_)
  refine lv_iconst (v := 1) hx hb d_M_send_90 (by decide) ?_
  refine lv_iadd hx hb d_M_send_91 ?_
  refine mr_pt (C := "PurseHouseModel") (T := F_4) (N := 27) (ref := "PurseHouseModel") (ty := .int) hx hb hts hown hok hP ui_4 ty_4 th_4 tn_4 rfl (by decide) (hts _ wd_627) (fun _ h => h) rfl (by decide +kernel) rfl rfl d_M_send_92 (fun M26 H locs hP hok => ?_)
  exact mo_vret hx hb hr hlocks hok hP d_M_send_95

abbrev b_M_bag : ByteArray := prog_6_method_23_code
def y_M_bag : MethodName := ⟨"PurseHouseModel", "bag", "(III)Z"⟩
def ws_M_bag : List Cond := .code y_M_bag b_M_bag 6 (Option.some Jvm.ClassFile.FieldType.boolean) :: lw_g
theorem d_M_bag_0 : decode b_M_bag 0 = .ok (.aload_n 0, 1) := by decide +kernel
theorem d_M_bag_1 : decode b_M_bag 1 = .ok (.iconst 0, 1) := by decide +kernel
theorem d_M_bag_2 : decode b_M_bag 2 = .ok (.putfield 76, 3) := by decide +kernel
theorem d_M_bag_5 : decode b_M_bag 5 = .ok (.aload_n 0, 1) := by decide +kernel
theorem d_M_bag_6 : decode b_M_bag 6 = .ok (.iload_n 1, 1) := by decide +kernel
theorem d_M_bag_7 : decode b_M_bag 7 = .ok (.invokevirtual 126, 3) := by decide +kernel
theorem d_M_bag_10 : decode b_M_bag 10 = .ok (.ifCond .eq 18, 3) := by decide +kernel
theorem d_M_bag_13 : decode b_M_bag 13 = .ok (.aload_n 0, 1) := by decide +kernel
theorem d_M_bag_14 : decode b_M_bag 14 = .ok (.aload_n 0, 1) := by decide +kernel
theorem d_M_bag_15 : decode b_M_bag 15 = .ok (.getfield 7, 3) := by decide +kernel
theorem d_M_bag_18 : decode b_M_bag 18 = .ok (.iload_n 1, 1) := by decide +kernel
theorem d_M_bag_19 : decode b_M_bag 19 = .ok (.iaload, 1) := by decide +kernel
theorem d_M_bag_20 : decode b_M_bag 20 = .ok (.iload_n 2, 1) := by decide +kernel
theorem d_M_bag_21 : decode b_M_bag 21 = .ok (.iload_n 3, 1) := by decide +kernel
theorem d_M_bag_22 : decode b_M_bag 22 = .ok (.invokevirtual 111, 3) := by decide +kernel
theorem d_M_bag_25 : decode b_M_bag 25 = .ok (.ifCond .ne 5, 3) := by decide +kernel
theorem d_M_bag_28 : decode b_M_bag 28 = .ok (.iconst 0, 1) := by decide +kernel
theorem d_M_bag_29 : decode b_M_bag 29 = .ok (.ireturn, 1) := by decide +kernel
theorem d_M_bag_30 : decode b_M_bag 30 = .ok (.iconst 0, 1) := by decide +kernel
theorem d_M_bag_31 : decode b_M_bag 31 = .ok (.istore 4, 2) := by decide +kernel
theorem d_M_bag_33 : decode b_M_bag 33 = .ok (.iconst 0, 1) := by decide +kernel
theorem d_M_bag_34 : decode b_M_bag 34 = .ok (.istore 5, 2) := by decide +kernel
theorem d_M_bag_36 : decode b_M_bag 36 = .ok (.iload 5, 2) := by decide +kernel
theorem d_M_bag_38 : decode b_M_bag 38 = .ok (.aload_n 0, 1) := by decide +kernel
theorem d_M_bag_39 : decode b_M_bag 39 = .ok (.getfield 115, 3) := by decide +kernel
theorem d_M_bag_42 : decode b_M_bag 42 = .ok (.if_icmp .ge 40, 3) := by decide +kernel
theorem d_M_bag_45 : decode b_M_bag 45 = .ok (.iload 4, 2) := by decide +kernel
theorem d_M_bag_47 : decode b_M_bag 47 = .ok (.aload_n 0, 1) := by decide +kernel
theorem d_M_bag_48 : decode b_M_bag 48 = .ok (.iload 5, 2) := by decide +kernel
theorem d_M_bag_50 : decode b_M_bag 50 = .ok (.iload_n 1, 1) := by decide +kernel
theorem d_M_bag_51 : decode b_M_bag 51 = .ok (.invokevirtual 118, 3) := by decide +kernel
theorem d_M_bag_54 : decode b_M_bag 54 = .ok (.ifCond .eq 18, 3) := by decide +kernel
theorem d_M_bag_57 : decode b_M_bag 57 = .ok (.aload_n 0, 1) := by decide +kernel
theorem d_M_bag_58 : decode b_M_bag 58 = .ok (.getfield 48, 3) := by decide +kernel
theorem d_M_bag_61 : decode b_M_bag 61 = .ok (.iload 5, 2) := by decide +kernel
theorem d_M_bag_63 : decode b_M_bag 63 = .ok (.iaload, 1) := by decide +kernel
theorem d_M_bag_64 : decode b_M_bag 64 = .ok (.iconst 1, 1) := by decide +kernel
theorem d_M_bag_65 : decode b_M_bag 65 = .ok (.if_icmp .ne 7, 3) := by decide +kernel
theorem d_M_bag_68 : decode b_M_bag 68 = .ok (.iconst 1, 1) := by decide +kernel
theorem d_M_bag_69 : decode b_M_bag 69 = .ok (.goto 4, 3) := by decide +kernel
theorem d_M_bag_72 : decode b_M_bag 72 = .ok (.iconst 0, 1) := by decide +kernel
theorem d_M_bag_73 : decode b_M_bag 73 = .ok (.iadd, 1) := by decide +kernel
theorem d_M_bag_74 : decode b_M_bag 74 = .ok (.istore 4, 2) := by decide +kernel
theorem d_M_bag_76 : decode b_M_bag 76 = .ok (.iinc 5 1, 3) := by decide +kernel
theorem d_M_bag_79 : decode b_M_bag 79 = .ok (.goto (-43), 3) := by decide +kernel
theorem d_M_bag_82 : decode b_M_bag 82 = .ok (.iload 4, 2) := by decide +kernel
theorem d_M_bag_84 : decode b_M_bag 84 = .ok (.bipush 16, 2) := by decide +kernel
theorem d_M_bag_86 : decode b_M_bag 86 = .ok (.if_icmp .ne 5, 3) := by decide +kernel
theorem d_M_bag_89 : decode b_M_bag 89 = .ok (.iconst 0, 1) := by decide +kernel
theorem d_M_bag_90 : decode b_M_bag 90 = .ok (.ireturn, 1) := by decide +kernel
theorem d_M_bag_91 : decode b_M_bag 91 = .ok (.aload_n 0, 1) := by decide +kernel
theorem d_M_bag_92 : decode b_M_bag 92 = .ok (.aload_n 0, 1) := by decide +kernel
theorem d_M_bag_93 : decode b_M_bag 93 = .ok (.getfield 7, 3) := by decide +kernel
theorem d_M_bag_96 : decode b_M_bag 96 = .ok (.iload_n 1, 1) := by decide +kernel
theorem d_M_bag_97 : decode b_M_bag 97 = .ok (.iaload, 1) := by decide +kernel
theorem d_M_bag_98 : decode b_M_bag 98 = .ok (.iload_n 2, 1) := by decide +kernel
theorem d_M_bag_99 : decode b_M_bag 99 = .ok (.iload_n 3, 1) := by decide +kernel
theorem d_M_bag_100 : decode b_M_bag 100 = .ok (.ineg, 1) := by decide +kernel
theorem d_M_bag_101 : decode b_M_bag 101 = .ok (.i2l, 1) := by decide +kernel
theorem d_M_bag_102 : decode b_M_bag 102 = .ok (.lconst 0, 1) := by decide +kernel
theorem d_M_bag_103 : decode b_M_bag 103 = .ok (.lconst 0, 1) := by decide +kernel
theorem d_M_bag_104 : decode b_M_bag 104 = .ok (.invokevirtual 103, 3) := by decide +kernel
theorem d_M_bag_107 : decode b_M_bag 107 = .ok (.aload_n 0, 1) := by decide +kernel
theorem d_M_bag_108 : decode b_M_bag 108 = .ok (.iconst 1, 1) := by decide +kernel
theorem d_M_bag_109 : decode b_M_bag 109 = .ok (.iload_n 1, 1) := by decide +kernel
theorem d_M_bag_110 : decode b_M_bag 110 = .ok (.iload_n 2, 1) := by decide +kernel
theorem d_M_bag_111 : decode b_M_bag 111 = .ok (.iload_n 3, 1) := by decide +kernel
theorem d_M_bag_112 : decode b_M_bag 112 = .ok (.iconst (-1), 1) := by decide +kernel
theorem d_M_bag_113 : decode b_M_bag 113 = .ok (.invokevirtual 129, 3) := by decide +kernel
theorem d_M_bag_116 : decode b_M_bag 116 = .ok (.iconst 1, 1) := by decide +kernel
theorem d_M_bag_117 : decode b_M_bag 117 = .ok (.ireturn, 1) := by decide +kernel
def pp_M_bag_b73 (g : Nat → ClassId) (e0 : Nat → Nat) (K : Int32 → mo_M → Prop) (B_36 : mo_M → Nat → Int32 → Int32 → Int32 → Int32 → Int32 → Prop) (M : mo_M) (x0 : Nat) (x1 : Int32) (x2 : Int32) (x3 : Int32) (x5 : Int32) (s0 : Int32) (s1 : Int32) : Prop := B_36 M x0 x1 x2 x3 ((s1 + s0)) (x5 + 1)
def pp_M_bag_b72 (g : Nat → ClassId) (e0 : Nat → Nat) (K : Int32 → mo_M → Prop) (B_36 : mo_M → Nat → Int32 → Int32 → Int32 → Int32 → Int32 → Prop) (M : mo_M) (x0 : Nat) (x1 : Int32) (x2 : Int32) (x3 : Int32) (x5 : Int32) (s0 : Int32) : Prop := pp_M_bag_b73 g e0 K B_36 M x0 x1 x2 x3 x5 ((0 : Int32)) s0
def pp_M_bag_b36 (g : Nat → ClassId) (e0 : Nat → Nat) (K : Int32 → mo_M → Prop) : Nat → mo_M → Nat → Int32 → Int32 → Int32 → Int32 → Int32 → Prop
  | 0, _, _, _, _, _, _, _ => False
  | n + 1, M, x0, x1, x2, x3, x4, x5 => mp_gi M x0 4 17 (fun v9 => ((v9 ≤ x5 → ((x4 = ((16 : Int32)) → (narrow .boolean (.int ((0 : Int32))) = .int ((0 : Int32)) ∧ K ((0 : Int32)) M)) ∧ (¬ (x4 = ((16 : Int32))) → mp_gr M x0 4 4 (fun v10 => mp_ai (g 0) M v10 x1 (fun v11 => (mp_is M x0 4 ∧ pp_M_note g e0 (fun M12 => (mp_is M12 x0 4 ∧ pp_M_send g e0 (fun M13 => (narrow .boolean (.int ((1 : Int32))) = .int ((1 : Int32)) ∧ K ((1 : Int32)) M13)) M12 x0 ((1 : Int32)) x1 x2 x3 ((-1 : Int32)))) M x0 v11 x2 (((-x3)).toInt64) ((0 : Int64)) ((0 : Int64)))))))) ∧ (¬ (v9 ≤ x5) → (mp_is M x0 4 ∧ pp_M_isThere g e0 (fun r15 M14 => ((r15 = 0 → pp_M_bag_b72 g e0 K (fun M x0 x1 x2 x3 x4 x5 => pp_M_bag_b36 g e0 K n M x0 x1 x2 x3 x4 x5) M14 x0 x1 x2 x3 x5 x4) ∧ (¬ (r15 = 0) → mp_gr M14 x0 4 18 (fun v16 => mp_ai (g 0) M14 v16 x5 (fun v17 => ((v17 = ((1 : Int32)) → pp_M_bag_b73 g e0 K (fun M x0 x1 x2 x3 x4 x5 => pp_M_bag_b36 g e0 K n M x0 x1 x2 x3 x4 x5) M14 x0 x1 x2 x3 x5 ((1 : Int32)) x4) ∧ (¬ (v17 = ((1 : Int32))) → pp_M_bag_b72 g e0 K (fun M x0 x1 x2 x3 x4 x5 => pp_M_bag_b36 g e0 K n M x0 x1 x2 x3 x4 x5) M14 x0 x1 x2 x3 x5 x4))))))) M x0 x5 x1))))
def pp_M_bag (g : Nat → ClassId) (e0 : Nat → Nat) (K : Int32 → mo_M → Prop) (M : mo_M) (x0 : Nat) (x1 : Int32) (x2 : Int32) (x3 : Int32) : Prop := mp_pt M x0 4 0 (.int ((0 : Int32))) (fun M1 => (mp_is M1 x0 4 ∧ pp_M_isLink g e0 (fun r3 M2 => ((r3 = 0 → (narrow .boolean (.int ((0 : Int32))) = .int ((0 : Int32)) ∧ K ((0 : Int32)) M2)) ∧ (¬ (r3 = 0) → mp_gr M2 x0 4 4 (fun v4 => mp_ai (g 0) M2 v4 x1 (fun v5 => (mp_is M2 x0 4 ∧ pp_M_has g e0 (fun r7 M6 => ((r7 = 0 → (narrow .boolean (.int ((0 : Int32))) = .int ((0 : Int32)) ∧ K ((0 : Int32)) M6)) ∧ (¬ (r7 = 0) → ∃ n8 : Nat, pp_M_bag_b36 g e0 K n8 M6 x0 x1 x2 x3 ((0 : Int32)) ((0 : Int32))))) M2 x0 v5 x2 x3)))))) M1 x0 x1))
set_option maxHeartbeats 4000000 in
set_option maxRecDepth 100000 in
theorem cc_M_bag (l : Launch) (L0 : Nat) (D : va_G) {g : Nat → ClassId} {e0 : Nat → Nat} {K : Int32 → mo_M → Prop} {M : mo_M} {x0 : Nat} {x1 : Int32} {x2 : Int32} {x3 : Int32} (hP : pp_M_bag g e0 K M x0 x1 x2 x3) : Met l y_M_bag ws_M_bag (mo_R 2 0 0 49) (va_Pc [.ref x0, .int x1, .int x2, .int x3] (fun U => mo_B L0 e0 D vwCl (mo_T g) M U)) (mo_Qi L0 e0 D vwCl (mo_T g) K) 0 0 (fun q => L0 ≤ q) := by
  refine Met.ofW (cc := b_M_bag) (maxL := 6) (ret := (Option.some Jvm.ClassFile.FieldType.boolean)) (by decide +kernel) rfl ?_
  intro p e s m args below meth c s₁ B hml hv
  obtain ⟨hv1, hB0⟩ := hv
  have hx := B.exec
  have hb := B.bytes
  have hr := B.returns
  have hts : ∀ w ∈ lw_g, w.before args s = true := fun w hw => atoms_spec (ws := ws_M_bag) B.pre w (List.mem_cons_of_mem _ hw)
  have hown : s.vm.findClass "PurseHouseModel" = some m.cls := findClass_of_methodNamed B.named
  have hlocks := B.notSynchronized
  have w_73 : ∀ (B_36 : mo_M → Nat → Int32 → Int32 → Int32 → Int32 → Int32 → Prop) (hB_36 : ∀ (M : mo_M) (x0 : Nat) (x1 : Int32) (x2 : Int32) (x3 : Int32) (x4 : Int32) (x5 : Int32) (H : Heap) (locs : List Loc) (ls : Array Slot), B_36 M x0 x1 x2 x3 x4 x5 → mo_ok L0 e0 D vwCl (mo_T g) s M H locs → lv_has ls 6 [(0, .ref x0), (1, .int x1), (2, .int x2), (3, .int x3), (4, .int x4), (5, .int x5)] → W p l e (headSpec ws_M_bag (mo_R 2 0 0 49)).room s m args below meth c H locs 0 0 (mo_Z below (mo_Qi L0 e0 D vwCl (mo_T g) K) args s 0 0 L0) (F0 m 36 ls [])) (M : mo_M) (x0 : Nat) (x1 : Int32) (x2 : Int32) (x3 : Int32) (x5 : Int32) (s0 : Int32) (s1 : Int32) (H : Heap) (locs : List Loc) (ls : Array Slot), pp_M_bag_b73 g e0 K B_36 M x0 x1 x2 x3 x5 s0 s1 → mo_ok L0 e0 D vwCl (mo_T g) s M H locs → lv_has ls 6 [(0, .ref x0), (1, .int x1), (2, .int x2), (3, .int x3), (5, .int x5)] → W p l e (headSpec ws_M_bag (mo_R 2 0 0 49)).room s m args below meth c H locs 0 0 (mo_Z below (mo_Qi L0 e0 D vwCl (mo_T g) K) args s 0 0 L0) (F0 m 73 ls [.int s0, .int s1]) := by
    intro B_36 hB_36 M x0 x1 x2 x3 x5 s0 s1 H locs ls hP hok hl
    unfold pp_M_bag_b73 at hP
    refine lv_iadd hx hb d_M_bag_73 ?_
    refine lv_istore (lv' := [(4, .int ((s1 + s0))), (0, .ref x0), (1, .int x1), (2, .int x2), (3, .int x3), (5, .int x5)]) hx hb d_M_bag_74 hl (by decide) rfl (fun ls hl => ?_)
    refine lv_iinc (k := 5) (v := x5 + 1) (lv' := [(5, .int (x5 + 1)), (4, .int ((s1 + s0))), (0, .ref x0), (1, .int x1), (2, .int x2), (3, .int x3)]) hx hb d_M_bag_76 hl rfl rfl (by decide) rfl (fun ls hl => ?_)
    refine lv_goto (tgt := 36) hx hb d_M_bag_79 (by decide) ?_
    exact hB_36 _ _ _ _ _ _ _ _ _ _ hP hok (lv_sub hl [2, 3, 4, 5, 1, 0] rfl)
  have w_72 : ∀ (B_36 : mo_M → Nat → Int32 → Int32 → Int32 → Int32 → Int32 → Prop) (hB_36 : ∀ (M : mo_M) (x0 : Nat) (x1 : Int32) (x2 : Int32) (x3 : Int32) (x4 : Int32) (x5 : Int32) (H : Heap) (locs : List Loc) (ls : Array Slot), B_36 M x0 x1 x2 x3 x4 x5 → mo_ok L0 e0 D vwCl (mo_T g) s M H locs → lv_has ls 6 [(0, .ref x0), (1, .int x1), (2, .int x2), (3, .int x3), (4, .int x4), (5, .int x5)] → W p l e (headSpec ws_M_bag (mo_R 2 0 0 49)).room s m args below meth c H locs 0 0 (mo_Z below (mo_Qi L0 e0 D vwCl (mo_T g) K) args s 0 0 L0) (F0 m 36 ls [])) (M : mo_M) (x0 : Nat) (x1 : Int32) (x2 : Int32) (x3 : Int32) (x5 : Int32) (s0 : Int32) (H : Heap) (locs : List Loc) (ls : Array Slot), pp_M_bag_b72 g e0 K B_36 M x0 x1 x2 x3 x5 s0 → mo_ok L0 e0 D vwCl (mo_T g) s M H locs → lv_has ls 6 [(0, .ref x0), (1, .int x1), (2, .int x2), (3, .int x3), (5, .int x5)] → W p l e (headSpec ws_M_bag (mo_R 2 0 0 49)).room s m args below meth c H locs 0 0 (mo_Z below (mo_Qi L0 e0 D vwCl (mo_T g) K) args s 0 0 L0) (F0 m 72 ls [.int s0]) := by
    intro B_36 hB_36 M x0 x1 x2 x3 x5 s0 H locs ls hP hok hl
    unfold pp_M_bag_b72 at hP
    refine lv_iconst (v := 0) hx hb d_M_bag_72 (by decide) ?_
    exact w_73 B_36 hB_36 _ _ _ _ _ _ _ _ _ _ _ hP hok (lv_sub hl [0, 1, 2, 3, 4] rfl)
  have w_36 : ∀ (n : Nat) (M : mo_M) (x0 : Nat) (x1 : Int32) (x2 : Int32) (x3 : Int32) (x4 : Int32) (x5 : Int32) (H : Heap) (locs : List Loc) (ls : Array Slot), pp_M_bag_b36 g e0 K n M x0 x1 x2 x3 x4 x5 → mo_ok L0 e0 D vwCl (mo_T g) s M H locs → lv_has ls 6 [(0, .ref x0), (1, .int x1), (2, .int x2), (3, .int x3), (4, .int x4), (5, .int x5)] → W p l e (headSpec ws_M_bag (mo_R 2 0 0 49)).room s m args below meth c H locs 0 0 (mo_Z below (mo_Qi L0 e0 D vwCl (mo_T g) K) args s 0 0 L0) (F0 m 36 ls []) := by
    intro n
    induction n with
    | zero => intro M x0 x1 x2 x3 x4 x5 H locs ls hP; exact hP.elim
    | succ n ih =>
      intro M x0 x1 x2 x3 x4 x5 H locs ls hP hok hl
      unfold pp_M_bag_b36 at hP
      refine lv_iload hx hb d_M_bag_36 (lv_at hl 5 rfl) ?_
      refine lv_aload_n hx hb d_M_bag_38 rfl (lv_at hl 0 rfl) ?_
      refine mr_gi (C := "PurseHouseModel") (T := F_4) (N := 27) (ref := "PurseHouseModel") hx hb hts hown hok hP ui_4 rfl (by decide) (hts _ wd_627) (fun _ h => h) d_M_bag_39 (fun v9 hP => ?_)
      refine lv_icmp_ge (tgt := 82) hx hb d_M_bag_42 (by decide) (fun hc => ?_) (fun hc => ?_)
      · replace hP := hP.1 hc
        refine lv_iload hx hb d_M_bag_82 (lv_at hl 4 rfl) ?_
        refine lv_bipush (v := 16) hx hb d_M_bag_84 (by decide) ?_
        refine lv_icmp_ne (tgt := 91) hx hb d_M_bag_86 (by decide) (fun hc => ?_) (fun hc => ?_)
        · replace hP := hP.2 hc
          refine lv_aload_n hx hb d_M_bag_91 rfl (lv_at hl 0 rfl) ?_
          refine lv_aload_n hx hb d_M_bag_92 rfl (lv_at hl 0 rfl) ?_
          refine mr_gr (C := "PurseHouseModel") (T := F_4) (N := 27) (ref := "PurseHouseModel") hx hb hts hown hok hP ui_4 rfl (by decide) (hts _ wd_614) (fun _ h => h) d_M_bag_93 (fun v10 hP => ?_)
          refine lv_iload_n hx hb d_M_bag_96 rfl (lv_at hl 1 rfl) ?_
          refine mr_ai hx hb hok hP 0 rfl d_M_bag_97 (fun v11 hP => ?_)
          refine lv_iload_n hx hb d_M_bag_98 rfl (lv_at hl 2 rfl) ?_
          refine lv_iload_n hx hb d_M_bag_99 rfl (lv_at hl 3 rfl) ?_
          refine lv_ineg hx hb d_M_bag_100 ?_
          refine lv_i2l hx hb d_M_bag_101 rfl ?_
          refine lv_lconst (v := 0) hx hb d_M_bag_102 (by decide) ?_
          refine lv_lconst (v := 0) hx hb d_M_bag_103 (by decide) ?_
          obtain ⟨⟨fs9, he9⟩, hP⟩ := hP
          refine mo_callv hok (va_runV (As := [.int v11, .int x2, .long (((-x3)).toInt64), .long ((0 : Int64)), .long ((0 : Int64))]) (rest := []) ⟨hx, hb, hml, hown, hts⟩ (cc_M_note l L0 D hP) ⟨(callB_of 5 hts (lw_gi wd_724) rfl rfl rfl (hts _ wd_39) (hts _ wd_721) (by decide +kernel) ⟨Nat.le_of_ble_eq_true rfl, Nat.le_of_ble_eq_true rfl⟩), hts _ wd_723, hts _ wd_16⟩ (mo_preV hok he9 rfl [.int v11, .int x2, .long (((-x3)).toInt64), .long ((0 : Int64)), .long ((0 : Int64))]) rfl rfl hl.1 rfl (lv_room (Nat.le_of_ble_eq_true rfl)) d_M_bag_104 ⟨Nat.zero_le _, Nat.zero_le _⟩) (fun M12 H locs hP hok => ?_)
          refine lv_aload_n hx hb d_M_bag_107 rfl (lv_at hl 0 rfl) ?_
          refine lv_iconst (v := 1) hx hb d_M_bag_108 (by decide) ?_
          refine lv_iload_n hx hb d_M_bag_109 rfl (lv_at hl 1 rfl) ?_
          refine lv_iload_n hx hb d_M_bag_110 rfl (lv_at hl 2 rfl) ?_
          refine lv_iload_n hx hb d_M_bag_111 rfl (lv_at hl 3 rfl) ?_
          refine lv_iconst (v := (-1)) hx hb d_M_bag_112 (by decide) ?_
          obtain ⟨⟨fs9, he9⟩, hP⟩ := hP
          refine mo_callv hok (va_runV (As := [.int ((1 : Int32)), .int x1, .int x2, .int x3, .int ((-1 : Int32))]) (rest := []) ⟨hx, hb, hml, hown, hts⟩ (cc_M_send l L0 D hP) ⟨(callB_of 5 hts (lw_gi wd_756) rfl rfl rfl (hts _ wd_39) (hts _ wd_753) (by decide +kernel) ⟨Nat.le_of_ble_eq_true rfl, Nat.le_of_ble_eq_true rfl⟩), hts _ wd_755, hts _ wd_21⟩ (mo_preV hok he9 rfl [.int ((1 : Int32)), .int x1, .int x2, .int x3, .int ((-1 : Int32))]) rfl rfl hl.1 rfl (lv_room (Nat.le_of_ble_eq_true rfl)) d_M_bag_113 ⟨Nat.zero_le _, Nat.zero_le _⟩) (fun M13 H locs hP hok => ?_)
          refine lv_iconst (v := 1) hx hb d_M_bag_116 (by decide) ?_
          exact mo_zret hx hb hr hlocks hok hP d_M_bag_117
        · replace hP := hP.1 hc
          refine lv_iconst (v := 0) hx hb d_M_bag_89 (by decide) ?_
          exact mo_zret hx hb hr hlocks hok hP d_M_bag_90
      · replace hP := hP.2 hc
        refine lv_iload hx hb d_M_bag_45 (lv_at hl 4 rfl) ?_
        refine lv_aload_n hx hb d_M_bag_47 rfl (lv_at hl 0 rfl) ?_
        refine lv_iload hx hb d_M_bag_48 (lv_at hl 5 rfl) ?_
        refine lv_iload_n hx hb d_M_bag_50 rfl (lv_at hl 1 rfl) ?_
        obtain ⟨⟨fs9, he9⟩, hP⟩ := hP
        refine mo_calli hok (va_runV (As := [.int x5, .int x1]) (rest := [.int x4]) ⟨hx, hb, hml, hown, hts⟩ (cc_M_isThere l L0 D hP) ⟨(callB_of 2 hts (lw_gi wd_752) rfl rfl rfl (hts _ wd_39) (hts _ wd_749) (by decide +kernel) ⟨Nat.le_of_ble_eq_true rfl, Nat.le_of_ble_eq_true rfl⟩), hts _ wd_751, hts _ wd_20⟩ (mo_preV hok he9 rfl [.int x5, .int x1]) rfl rfl hl.1 rfl (lv_room (Nat.le_of_ble_eq_true rfl)) d_M_bag_51 ⟨Nat.zero_le _, Nat.zero_le _⟩) (fun r15 M14 H locs hP hok => ?_)
        refine lv_if_eq (tgt := 72) hx hb d_M_bag_54 (by decide) (fun hc => ?_) (fun hc => ?_)
        · replace hP := hP.1 hc
          exact w_72 _ ih _ _ _ _ _ _ _ _ _ _ hP hok (lv_sub hl [0, 1, 2, 3, 5] rfl)
        · replace hP := hP.2 hc
          refine lv_aload_n hx hb d_M_bag_57 rfl (lv_at hl 0 rfl) ?_
          refine mr_gr (C := "PurseHouseModel") (T := F_4) (N := 27) (ref := "PurseHouseModel") hx hb hts hown hok hP ui_4 rfl (by decide) (hts _ wd_628) (fun _ h => h) d_M_bag_58 (fun v16 hP => ?_)
          refine lv_iload hx hb d_M_bag_61 (lv_at hl 5 rfl) ?_
          refine mr_ai hx hb hok hP 0 rfl d_M_bag_63 (fun v17 hP => ?_)
          refine lv_iconst (v := 1) hx hb d_M_bag_64 (by decide) ?_
          refine lv_icmp_ne (tgt := 72) hx hb d_M_bag_65 (by decide) (fun hc => ?_) (fun hc => ?_)
          · replace hP := hP.2 hc
            exact w_72 _ ih _ _ _ _ _ _ _ _ _ _ hP hok (lv_sub hl [0, 1, 2, 3, 5] rfl)
          · replace hP := hP.1 hc
            refine lv_iconst (v := 1) hx hb d_M_bag_68 (by decide) ?_
            refine lv_goto (tgt := 73) hx hb d_M_bag_69 (by decide) ?_
            exact w_73 _ ih _ _ _ _ _ _ _ _ _ _ _ hP hok (lv_sub hl [0, 1, 2, 3, 5] rfl)
  have hok : mo_ok L0 e0 D vwCl (mo_T g) s M s.heap [] := ⟨hB0.1, hB0.2.1, hB0.2.2, va_S.rf⟩
  have hl := lv_entry ([.ref x0, .int x1, .int x2, .int x3]) (n := 6) (Nat.le_of_ble_eq_true rfl)
  rw [hv1, lg_entry_eq]
  rw [← hv1]
  generalize (lg_sl [.ref x0, .int x1, .int x2, .int x3] ++ List.replicate (6 - (lg_sl [.ref x0, .int x1, .int x2, .int x3]).length) Slot.unset).toArray = ls at hl ⊢
  have hl : lv_has ls 6 [(0, .ref x0), (1, .int x1), (2, .int x2), (3, .int x3)] := hl
  unfold pp_M_bag at hP
  refine lv_aload_n hx hb d_M_bag_0 rfl (lv_at hl 0 rfl) ?_
  refine lv_iconst (v := 0) hx hb d_M_bag_1 (by decide) ?_
  refine mr_pt (C := "PurseHouseModel") (T := F_4) (N := 27) (ref := "PurseHouseModel") (ty := .int) hx hb hts hown hok hP ui_4 ty_4 th_4 tn_4 rfl (by decide) (hts _ wd_610) (fun _ h => h) rfl (by decide +kernel) rfl rfl d_M_bag_2 (fun M1 H locs hP hok => ?_)
  refine lv_aload_n hx hb d_M_bag_5 rfl (lv_at hl 0 rfl) ?_
  refine lv_iload_n hx hb d_M_bag_6 rfl (lv_at hl 1 rfl) ?_
  obtain ⟨⟨fs9, he9⟩, hP⟩ := hP
  refine mo_calli hok (va_runV (As := [.int x1]) (rest := []) ⟨hx, hb, hml, hown, hts⟩ (cc_M_isLink l L0 D hP) ⟨(callB_of 1 hts (lw_gi wd_748) rfl rfl rfl (hts _ wd_39) (hts _ wd_745) (by decide +kernel) ⟨Nat.le_of_ble_eq_true rfl, Nat.le_of_ble_eq_true rfl⟩), hts _ wd_747, hts _ wd_19⟩ (mo_preV hok he9 rfl [.int x1]) rfl rfl hl.1 rfl (lv_room (Nat.le_of_ble_eq_true rfl)) d_M_bag_7 ⟨Nat.zero_le _, Nat.zero_le _⟩) (fun r3 M2 H locs hP hok => ?_)
  refine lv_if_eq (tgt := 28) hx hb d_M_bag_10 (by decide) (fun hc => ?_) (fun hc => ?_)
  · replace hP := hP.1 hc
    refine lv_iconst (v := 0) hx hb d_M_bag_28 (by decide) ?_
    exact mo_zret hx hb hr hlocks hok hP d_M_bag_29
  · replace hP := hP.2 hc
    refine lv_aload_n hx hb d_M_bag_13 rfl (lv_at hl 0 rfl) ?_
    refine lv_aload_n hx hb d_M_bag_14 rfl (lv_at hl 0 rfl) ?_
    refine mr_gr (C := "PurseHouseModel") (T := F_4) (N := 27) (ref := "PurseHouseModel") hx hb hts hown hok hP ui_4 rfl (by decide) (hts _ wd_614) (fun _ h => h) d_M_bag_15 (fun v4 hP => ?_)
    refine lv_iload_n hx hb d_M_bag_18 rfl (lv_at hl 1 rfl) ?_
    refine mr_ai hx hb hok hP 0 rfl d_M_bag_19 (fun v5 hP => ?_)
    refine lv_iload_n hx hb d_M_bag_20 rfl (lv_at hl 2 rfl) ?_
    refine lv_iload_n hx hb d_M_bag_21 rfl (lv_at hl 3 rfl) ?_
    obtain ⟨⟨fs9, he9⟩, hP⟩ := hP
    refine mo_calli hok (va_runV (As := [.int v5, .int x2, .int x3]) (rest := []) ⟨hx, hb, hml, hown, hts⟩ (cc_M_has l L0 D hP) ⟨(callB_of 3 hts (lw_gi wd_732) rfl rfl rfl (hts _ wd_39) (hts _ wd_729) (by decide +kernel) ⟨Nat.le_of_ble_eq_true rfl, Nat.le_of_ble_eq_true rfl⟩), hts _ wd_731, hts _ wd_17⟩ (mo_preV hok he9 rfl [.int v5, .int x2, .int x3]) rfl rfl hl.1 rfl (lv_room (Nat.le_of_ble_eq_true rfl)) d_M_bag_22 ⟨Nat.zero_le _, Nat.zero_le _⟩) (fun r7 M6 H locs hP hok => ?_)
    refine lv_if_ne (tgt := 30) hx hb d_M_bag_25 (by decide) (fun hc => ?_) (fun hc => ?_)
    · replace hP := hP.2 hc
      refine lv_iconst (v := 0) hx hb d_M_bag_30 (by decide) ?_
      refine lv_istore (lv' := [(4, .int ((0 : Int32))), (0, .ref x0), (1, .int x1), (2, .int x2), (3, .int x3)]) hx hb d_M_bag_31 hl (by decide) rfl (fun ls hl => ?_)
      refine lv_iconst (v := 0) hx hb d_M_bag_33 (by decide) ?_
      refine lv_istore (lv' := [(5, .int ((0 : Int32))), (4, .int ((0 : Int32))), (0, .ref x0), (1, .int x1), (2, .int x2), (3, .int x3)]) hx hb d_M_bag_34 hl (by decide) rfl (fun ls hl => ?_)
      obtain ⟨n8, hP⟩ := hP
      exact w_36  n8 _ _ _ _ _ _ _ _ _ _ hP hok (lv_sub hl [2, 3, 4, 5, 1, 0] rfl)
    · replace hP := hP.1 hc
      refine lv_iconst (v := 0) hx hb d_M_bag_28 (by decide) ?_
      exact mo_zret hx hb hr hlocks hok hP d_M_bag_29

abbrev b_M_thingAt : ByteArray := prog_6_method_20_code
def y_M_thingAt : MethodName := ⟨"PurseHouseModel", "thingAt", "(II)I"⟩
def ws_M_thingAt : List Cond := .code y_M_thingAt b_M_thingAt 5 (Option.some Jvm.ClassFile.FieldType.int) :: lw_g
theorem d_M_thingAt_0 : decode b_M_thingAt 0 = .ok (.iload_n 2, 1) := by decide +kernel
theorem d_M_thingAt_1 : decode b_M_thingAt 1 = .ok (.istore_n 3, 1) := by decide +kernel
theorem d_M_thingAt_2 : decode b_M_thingAt 2 = .ok (.iconst 0, 1) := by decide +kernel
theorem d_M_thingAt_3 : decode b_M_thingAt 3 = .ok (.istore 4, 2) := by decide +kernel
theorem d_M_thingAt_5 : decode b_M_thingAt 5 = .ok (.iload 4, 2) := by decide +kernel
theorem d_M_thingAt_7 : decode b_M_thingAt 7 = .ok (.aload_n 0, 1) := by decide +kernel
theorem d_M_thingAt_8 : decode b_M_thingAt 8 = .ok (.getfield 115, 3) := by decide +kernel
theorem d_M_thingAt_11 : decode b_M_thingAt 11 = .ok (.if_icmp .ge 36, 3) := by decide +kernel
theorem d_M_thingAt_14 : decode b_M_thingAt 14 = .ok (.iload_n 3, 1) := by decide +kernel
theorem d_M_thingAt_15 : decode b_M_thingAt 15 = .ok (.ifCond .lt 32, 3) := by decide +kernel
theorem d_M_thingAt_18 : decode b_M_thingAt 18 = .ok (.aload_n 0, 1) := by decide +kernel
theorem d_M_thingAt_19 : decode b_M_thingAt 19 = .ok (.iload 4, 2) := by decide +kernel
theorem d_M_thingAt_21 : decode b_M_thingAt 21 = .ok (.iload_n 1, 1) := by decide +kernel
theorem d_M_thingAt_22 : decode b_M_thingAt 22 = .ok (.invokevirtual 118, 3) := by decide +kernel
theorem d_M_thingAt_25 : decode b_M_thingAt 25 = .ok (.ifCond .ne 6, 3) := by decide +kernel
theorem d_M_thingAt_28 : decode b_M_thingAt 28 = .ok (.goto 13, 3) := by decide +kernel
theorem d_M_thingAt_31 : decode b_M_thingAt 31 = .ok (.iload_n 3, 1) := by decide +kernel
theorem d_M_thingAt_32 : decode b_M_thingAt 32 = .ok (.ifCond .ne 6, 3) := by decide +kernel
theorem d_M_thingAt_35 : decode b_M_thingAt 35 = .ok (.iload 4, 2) := by decide +kernel
theorem d_M_thingAt_37 : decode b_M_thingAt 37 = .ok (.ireturn, 1) := by decide +kernel
theorem d_M_thingAt_38 : decode b_M_thingAt 38 = .ok (.iinc 3 (-1), 3) := by decide +kernel
theorem d_M_thingAt_41 : decode b_M_thingAt 41 = .ok (.iinc 4 1, 3) := by decide +kernel
theorem d_M_thingAt_44 : decode b_M_thingAt 44 = .ok (.goto (-39), 3) := by decide +kernel
theorem d_M_thingAt_47 : decode b_M_thingAt 47 = .ok (.iconst (-1), 1) := by decide +kernel
theorem d_M_thingAt_48 : decode b_M_thingAt 48 = .ok (.ireturn, 1) := by decide +kernel
def pp_M_thingAt_b41 (g : Nat → ClassId) (e0 : Nat → Nat) (K : Int32 → mo_M → Prop) (B_5 : mo_M → Nat → Int32 → Int32 → Int32 → Prop) (M : mo_M) (x0 : Nat) (x1 : Int32) (x3 : Int32) (x4 : Int32) : Prop := B_5 M x0 x1 x3 (x4 + 1)
def pp_M_thingAt_b5 (g : Nat → ClassId) (e0 : Nat → Nat) (K : Int32 → mo_M → Prop) : Nat → mo_M → Nat → Int32 → Int32 → Int32 → Prop
  | 0, _, _, _, _, _ => False
  | n + 1, M, x0, x1, x3, x4 => mp_gi M x0 4 17 (fun v2 => ((v2 ≤ x4 → K ((-1 : Int32)) M) ∧ (¬ (v2 ≤ x4) → ((x3 < 0 → K ((-1 : Int32)) M) ∧ (¬ (x3 < 0) → (mp_is M x0 4 ∧ pp_M_isThere g e0 (fun r4 M3 => ((r4 = 0 → pp_M_thingAt_b41 g e0 K (fun M x0 x1 x3 x4 => pp_M_thingAt_b5 g e0 K n M x0 x1 x3 x4) M3 x0 x1 x3 x4) ∧ (¬ (r4 = 0) → ((x3 = 0 → K x4 M3) ∧ (¬ (x3 = 0) → pp_M_thingAt_b41 g e0 K (fun M x0 x1 x3 x4 => pp_M_thingAt_b5 g e0 K n M x0 x1 x3 x4) M3 x0 x1 (x3 + (-1)) x4))))) M x0 x4 x1))))))
def pp_M_thingAt (g : Nat → ClassId) (e0 : Nat → Nat) (K : Int32 → mo_M → Prop) (M : mo_M) (x0 : Nat) (x1 : Int32) (x2 : Int32) : Prop := ∃ n1 : Nat, pp_M_thingAt_b5 g e0 K n1 M x0 x1 x2 ((0 : Int32))
set_option maxHeartbeats 4000000 in
set_option maxRecDepth 100000 in
theorem cc_M_thingAt (l : Launch) (L0 : Nat) (D : va_G) {g : Nat → ClassId} {e0 : Nat → Nat} {K : Int32 → mo_M → Prop} {M : mo_M} {x0 : Nat} {x1 : Int32} {x2 : Int32} (hP : pp_M_thingAt g e0 K M x0 x1 x2) : Met l y_M_thingAt ws_M_thingAt (mo_R 1 0 0 22) (va_Pc [.ref x0, .int x1, .int x2] (fun U => mo_B L0 e0 D vwCl (mo_T g) M U)) (mo_Qi L0 e0 D vwCl (mo_T g) K) 0 0 (fun q => L0 ≤ q) := by
  refine Met.ofW (cc := b_M_thingAt) (maxL := 5) (ret := (Option.some Jvm.ClassFile.FieldType.int)) (by decide +kernel) rfl ?_
  intro p e s m args below meth c s₁ B hml hv
  obtain ⟨hv1, hB0⟩ := hv
  have hx := B.exec
  have hb := B.bytes
  have hr := B.returns
  have hts : ∀ w ∈ lw_g, w.before args s = true := fun w hw => atoms_spec (ws := ws_M_thingAt) B.pre w (List.mem_cons_of_mem _ hw)
  have hown : s.vm.findClass "PurseHouseModel" = some m.cls := findClass_of_methodNamed B.named
  have hlocks := B.notSynchronized
  have w_41 : ∀ (B_5 : mo_M → Nat → Int32 → Int32 → Int32 → Prop) (hB_5 : ∀ (M : mo_M) (x0 : Nat) (x1 : Int32) (x3 : Int32) (x4 : Int32) (H : Heap) (locs : List Loc) (ls : Array Slot), B_5 M x0 x1 x3 x4 → mo_ok L0 e0 D vwCl (mo_T g) s M H locs → lv_has ls 5 [(0, .ref x0), (1, .int x1), (3, .int x3), (4, .int x4)] → W p l e (headSpec ws_M_thingAt (mo_R 1 0 0 22)).room s m args below meth c H locs 0 0 (mo_Z below (mo_Qi L0 e0 D vwCl (mo_T g) K) args s 0 0 L0) (F0 m 5 ls [])) (M : mo_M) (x0 : Nat) (x1 : Int32) (x3 : Int32) (x4 : Int32) (H : Heap) (locs : List Loc) (ls : Array Slot), pp_M_thingAt_b41 g e0 K B_5 M x0 x1 x3 x4 → mo_ok L0 e0 D vwCl (mo_T g) s M H locs → lv_has ls 5 [(0, .ref x0), (1, .int x1), (3, .int x3), (4, .int x4)] → W p l e (headSpec ws_M_thingAt (mo_R 1 0 0 22)).room s m args below meth c H locs 0 0 (mo_Z below (mo_Qi L0 e0 D vwCl (mo_T g) K) args s 0 0 L0) (F0 m 41 ls []) := by
    intro B_5 hB_5 M x0 x1 x3 x4 H locs ls hP hok hl
    unfold pp_M_thingAt_b41 at hP
    refine lv_iinc (k := 3) (v := x4 + 1) (lv' := [(4, .int (x4 + 1)), (0, .ref x0), (1, .int x1), (3, .int x3)]) hx hb d_M_thingAt_41 hl rfl rfl (by decide) rfl (fun ls hl => ?_)
    refine lv_goto (tgt := 5) hx hb d_M_thingAt_44 (by decide) ?_
    exact hB_5 _ _ _ _ _ _ _ _ hP hok (lv_sub hl [1, 2, 3, 0] rfl)
  have w_5 : ∀ (n : Nat) (M : mo_M) (x0 : Nat) (x1 : Int32) (x3 : Int32) (x4 : Int32) (H : Heap) (locs : List Loc) (ls : Array Slot), pp_M_thingAt_b5 g e0 K n M x0 x1 x3 x4 → mo_ok L0 e0 D vwCl (mo_T g) s M H locs → lv_has ls 5 [(0, .ref x0), (1, .int x1), (3, .int x3), (4, .int x4)] → W p l e (headSpec ws_M_thingAt (mo_R 1 0 0 22)).room s m args below meth c H locs 0 0 (mo_Z below (mo_Qi L0 e0 D vwCl (mo_T g) K) args s 0 0 L0) (F0 m 5 ls []) := by
    intro n
    induction n with
    | zero => intro M x0 x1 x3 x4 H locs ls hP; exact hP.elim
    | succ n ih =>
      intro M x0 x1 x3 x4 H locs ls hP hok hl
      unfold pp_M_thingAt_b5 at hP
      refine lv_iload hx hb d_M_thingAt_5 (lv_at hl 3 rfl) ?_
      refine lv_aload_n hx hb d_M_thingAt_7 rfl (lv_at hl 0 rfl) ?_
      refine mr_gi (C := "PurseHouseModel") (T := F_4) (N := 27) (ref := "PurseHouseModel") hx hb hts hown hok hP ui_4 rfl (by decide) (hts _ wd_627) (fun _ h => h) d_M_thingAt_8 (fun v2 hP => ?_)
      refine lv_icmp_ge (tgt := 47) hx hb d_M_thingAt_11 (by decide) (fun hc => ?_) (fun hc => ?_)
      · replace hP := hP.1 hc
        refine lv_iconst (v := (-1)) hx hb d_M_thingAt_47 (by decide) ?_
        exact mo_iret hx hb hr hlocks hok hP d_M_thingAt_48
      · replace hP := hP.2 hc
        refine lv_iload_n hx hb d_M_thingAt_14 rfl (lv_at hl 2 rfl) ?_
        refine lv_if_lt (tgt := 47) hx hb d_M_thingAt_15 (by decide) (fun hc => ?_) (fun hc => ?_)
        · replace hP := hP.1 hc
          refine lv_iconst (v := (-1)) hx hb d_M_thingAt_47 (by decide) ?_
          exact mo_iret hx hb hr hlocks hok hP d_M_thingAt_48
        · replace hP := hP.2 hc
          refine lv_aload_n hx hb d_M_thingAt_18 rfl (lv_at hl 0 rfl) ?_
          refine lv_iload hx hb d_M_thingAt_19 (lv_at hl 3 rfl) ?_
          refine lv_iload_n hx hb d_M_thingAt_21 rfl (lv_at hl 1 rfl) ?_
          obtain ⟨⟨fs9, he9⟩, hP⟩ := hP
          refine mo_calli hok (va_runV (As := [.int x4, .int x1]) (rest := []) ⟨hx, hb, hml, hown, hts⟩ (cc_M_isThere l L0 D hP) ⟨(callB_of 2 hts (lw_gi wd_752) rfl rfl rfl (hts _ wd_39) (hts _ wd_749) (by decide +kernel) ⟨Nat.le_of_ble_eq_true rfl, Nat.le_of_ble_eq_true rfl⟩), hts _ wd_751, hts _ wd_20⟩ (mo_preV hok he9 rfl [.int x4, .int x1]) rfl rfl hl.1 rfl (lv_room (Nat.le_of_ble_eq_true rfl)) d_M_thingAt_22 ⟨Nat.zero_le _, Nat.zero_le _⟩) (fun r4 M3 H locs hP hok => ?_)
          refine lv_if_ne (tgt := 31) hx hb d_M_thingAt_25 (by decide) (fun hc => ?_) (fun hc => ?_)
          · replace hP := hP.2 hc
            refine lv_iload_n hx hb d_M_thingAt_31 rfl (lv_at hl 2 rfl) ?_
            refine lv_if_ne (tgt := 38) hx hb d_M_thingAt_32 (by decide) (fun hc => ?_) (fun hc => ?_)
            · replace hP := hP.2 hc
              refine lv_iinc (k := 2) (v := x3 + (-1)) (lv' := [(3, .int (x3 + (-1))), (0, .ref x0), (1, .int x1), (4, .int x4)]) hx hb d_M_thingAt_38 hl rfl rfl (by decide) rfl (fun ls hl => ?_)
              exact w_41 _ ih _ _ _ _ _ _ _ _ hP hok (lv_sub hl [1, 2, 0, 3] rfl)
            · replace hP := hP.1 hc
              refine lv_iload hx hb d_M_thingAt_35 (lv_at hl 3 rfl) ?_
              exact mo_iret hx hb hr hlocks hok hP d_M_thingAt_37
          · replace hP := hP.1 hc
            refine lv_goto (tgt := 41) hx hb d_M_thingAt_28 (by decide) ?_
            exact w_41 _ ih _ _ _ _ _ _ _ _ hP hok (lv_sub hl [0, 1, 2, 3] rfl)
  have hok : mo_ok L0 e0 D vwCl (mo_T g) s M s.heap [] := ⟨hB0.1, hB0.2.1, hB0.2.2, va_S.rf⟩
  have hl := lv_entry ([.ref x0, .int x1, .int x2]) (n := 5) (Nat.le_of_ble_eq_true rfl)
  rw [hv1, lg_entry_eq]
  rw [← hv1]
  generalize (lg_sl [.ref x0, .int x1, .int x2] ++ List.replicate (5 - (lg_sl [.ref x0, .int x1, .int x2]).length) Slot.unset).toArray = ls at hl ⊢
  have hl : lv_has ls 5 [(0, .ref x0), (1, .int x1), (2, .int x2)] := hl
  unfold pp_M_thingAt at hP
  refine lv_iload_n hx hb d_M_thingAt_0 rfl (lv_at hl 2 rfl) ?_
  refine lv_istore_n (lv' := [(3, .int x2), (0, .ref x0), (1, .int x1), (2, .int x2)]) hx hb d_M_thingAt_1 rfl hl (by decide) rfl (fun ls hl => ?_)
  refine lv_iconst (v := 0) hx hb d_M_thingAt_2 (by decide) ?_
  refine lv_istore (lv' := [(4, .int ((0 : Int32))), (3, .int x2), (0, .ref x0), (1, .int x1), (2, .int x2)]) hx hb d_M_thingAt_3 hl (by decide) rfl (fun ls hl => ?_)
  obtain ⟨n1, hP⟩ := hP
  exact w_5  n1 _ _ _ _ _ _ _ _ hP hok (lv_sub hl [2, 3, 1, 0] rfl)

abbrev b_M_recording : ByteArray := prog_6_method_21_code
def y_M_recording : MethodName := ⟨"PurseHouseModel", "recording", "(II)I"⟩
def ws_M_recording : List Cond := .code y_M_recording b_M_recording 3 (Option.some Jvm.ClassFile.FieldType.int) :: lw_g
theorem d_M_recording_0 : decode b_M_recording 0 = .ok (.aload_n 0, 1) := by decide +kernel
theorem d_M_recording_1 : decode b_M_recording 1 = .ok (.getfield 69, 3) := by decide +kernel
theorem d_M_recording_4 : decode b_M_recording 4 = .ok (.bipush 6, 2) := by decide +kernel
theorem d_M_recording_6 : decode b_M_recording 6 = .ok (.iload_n 1, 1) := by decide +kernel
theorem d_M_recording_7 : decode b_M_recording 7 = .ok (.imul, 1) := by decide +kernel
theorem d_M_recording_8 : decode b_M_recording 8 = .ok (.iload_n 2, 1) := by decide +kernel
theorem d_M_recording_9 : decode b_M_recording 9 = .ok (.iadd, 1) := by decide +kernel
theorem d_M_recording_10 : decode b_M_recording 10 = .ok (.iaload, 1) := by decide +kernel
theorem d_M_recording_11 : decode b_M_recording 11 = .ok (.ireturn, 1) := by decide +kernel
def pp_M_recording (g : Nat → ClassId) (e0 : Nat → Nat) (K : Int32 → mo_M → Prop) (M : mo_M) (x0 : Nat) (x1 : Int32) (x2 : Int32) : Prop := mp_gr M x0 4 26 (fun v1 => mp_ai (g 0) M v1 ((((((6 : Int32)) * x1)) + x2)) (fun v2 => K v2 M))
set_option maxHeartbeats 4000000 in
set_option maxRecDepth 100000 in
theorem cc_M_recording (l : Launch) (L0 : Nat) (D : va_G) {g : Nat → ClassId} {e0 : Nat → Nat} {K : Int32 → mo_M → Prop} {M : mo_M} {x0 : Nat} {x1 : Int32} {x2 : Int32} (hP : pp_M_recording g e0 K M x0 x1 x2) : Met l y_M_recording ws_M_recording (mo_R 0 0 0 0) (va_Pc [.ref x0, .int x1, .int x2] (fun U => mo_B L0 e0 D vwCl (mo_T g) M U)) (mo_Qi L0 e0 D vwCl (mo_T g) K) 0 0 (fun q => L0 ≤ q) := by
  refine Met.ofW (cc := b_M_recording) (maxL := 3) (ret := (Option.some Jvm.ClassFile.FieldType.int)) (by decide +kernel) rfl ?_
  intro p e s m args below meth c s₁ B hml hv
  obtain ⟨hv1, hB0⟩ := hv
  have hx := B.exec
  have hb := B.bytes
  have hr := B.returns
  have hts : ∀ w ∈ lw_g, w.before args s = true := fun w hw => atoms_spec (ws := ws_M_recording) B.pre w (List.mem_cons_of_mem _ hw)
  have hown : s.vm.findClass "PurseHouseModel" = some m.cls := findClass_of_methodNamed B.named
  have hlocks := B.notSynchronized
  have hok : mo_ok L0 e0 D vwCl (mo_T g) s M s.heap [] := ⟨hB0.1, hB0.2.1, hB0.2.2, va_S.rf⟩
  have hl := lv_entry ([.ref x0, .int x1, .int x2]) (n := 3) (Nat.le_of_ble_eq_true rfl)
  rw [hv1, lg_entry_eq]
  rw [← hv1]
  generalize (lg_sl [.ref x0, .int x1, .int x2] ++ List.replicate (3 - (lg_sl [.ref x0, .int x1, .int x2]).length) Slot.unset).toArray = ls at hl ⊢
  have hl : lv_has ls 3 [(0, .ref x0), (1, .int x1), (2, .int x2)] := hl
  unfold pp_M_recording at hP
  refine lv_aload_n hx hb d_M_recording_0 rfl (lv_at hl 0 rfl) ?_
  refine mr_gr (C := "PurseHouseModel") (T := F_4) (N := 27) (ref := "PurseHouseModel") hx hb hts hown hok hP ui_4 rfl (by decide) (hts _ wd_636) (fun _ h => h) d_M_recording_1 (fun v1 hP => ?_)
  refine lv_bipush (v := 6) hx hb d_M_recording_4 (by decide) ?_
  refine lv_iload_n hx hb d_M_recording_6 rfl (lv_at hl 1 rfl) ?_
  refine lv_imul hx hb d_M_recording_7 ?_
  refine lv_iload_n hx hb d_M_recording_8 rfl (lv_at hl 2 rfl) ?_
  refine lv_iadd hx hb d_M_recording_9 ?_
  refine mr_ai hx hb hok hP 0 rfl d_M_recording_10 (fun v2 hP => ?_)
  exact mo_iret hx hb hr hlocks hok hP d_M_recording_11

abbrev b_M_record : ByteArray := prog_6_method_24_code
def y_M_record : MethodName := ⟨"PurseHouseModel", "record", "(II)V"⟩
def ws_M_record : List Cond := .code y_M_record b_M_record 4 (Option.none : Option Jvm.ClassFile.FieldType) :: lw_g
theorem d_M_record_0 : decode b_M_record 0 = .ok (.aload_n 0, 1) := by decide +kernel
theorem d_M_record_1 : decode b_M_record 1 = .ok (.iload_n 1, 1) := by decide +kernel
theorem d_M_record_2 : decode b_M_record 2 = .ok (.iload_n 2, 1) := by decide +kernel
theorem d_M_record_3 : decode b_M_record 3 = .ok (.invokevirtual 122, 3) := by decide +kernel
theorem d_M_record_6 : decode b_M_record 6 = .ok (.ifCond .le 4, 3) := by decide +kernel
theorem d_M_record_9 : decode b_M_record 9 = .ok (.return_, 1) := by decide +kernel
theorem d_M_record_10 : decode b_M_record 10 = .ok (.aload_n 0, 1) := by decide +kernel
theorem d_M_record_11 : decode b_M_record 11 = .ok (.dup, 1) := by decide +kernel
theorem d_M_record_12 : decode b_M_record 12 = .ok (.getfield 94, 3) := by decide +kernel
theorem d_M_record_15 : decode b_M_record 15 = .ok (.iconst 1, 1) := by decide +kernel
theorem d_M_record_16 : decode b_M_record 16 = .ok (.iadd, 1) := by decide +kernel
theorem d_M_record_17 : decode b_M_record 17 = .ok (.putfield 94, 3) := by decide +kernel
theorem d_M_record_20 : decode b_M_record 20 = .ok (.aload_n 0, 1) := by decide +kernel
theorem d_M_record_21 : decode b_M_record 21 = .ok (.getfield 69, 3) := by decide +kernel
theorem d_M_record_24 : decode b_M_record 24 = .ok (.bipush 6, 2) := by decide +kernel
theorem d_M_record_26 : decode b_M_record 26 = .ok (.iload_n 1, 1) := by decide +kernel
theorem d_M_record_27 : decode b_M_record 27 = .ok (.imul, 1) := by decide +kernel
theorem d_M_record_28 : decode b_M_record 28 = .ok (.iload_n 2, 1) := by decide +kernel
theorem d_M_record_29 : decode b_M_record 29 = .ok (.iadd, 1) := by decide +kernel
theorem d_M_record_30 : decode b_M_record 30 = .ok (.aload_n 0, 1) := by decide +kernel
theorem d_M_record_31 : decode b_M_record 31 = .ok (.getfield 94, 3) := by decide +kernel
theorem d_M_record_34 : decode b_M_record 34 = .ok (.iastore, 1) := by decide +kernel
theorem d_M_record_35 : decode b_M_record 35 = .ok (.iconst 0, 1) := by decide +kernel
theorem d_M_record_36 : decode b_M_record 36 = .ok (.istore_n 3, 1) := by decide +kernel
theorem d_M_record_37 : decode b_M_record 37 = .ok (.iload_n 3, 1) := by decide +kernel
theorem d_M_record_38 : decode b_M_record 38 = .ok (.aload_n 0, 1) := by decide +kernel
theorem d_M_record_39 : decode b_M_record 39 = .ok (.getfield 79, 3) := by decide +kernel
theorem d_M_record_42 : decode b_M_record 42 = .ok (.if_icmp .ge 41, 3) := by decide +kernel
theorem d_M_record_45 : decode b_M_record 45 = .ok (.aload_n 0, 1) := by decide +kernel
theorem d_M_record_46 : decode b_M_record 46 = .ok (.getfield 7, 3) := by decide +kernel
theorem d_M_record_49 : decode b_M_record 49 = .ok (.iload_n 3, 1) := by decide +kernel
theorem d_M_record_50 : decode b_M_record 50 = .ok (.iaload, 1) := by decide +kernel
theorem d_M_record_51 : decode b_M_record 51 = .ok (.iload_n 2, 1) := by decide +kernel
theorem d_M_record_52 : decode b_M_record 52 = .ok (.if_icmp .ne 25, 3) := by decide +kernel
theorem d_M_record_55 : decode b_M_record 55 = .ok (.aload_n 0, 1) := by decide +kernel
theorem d_M_record_56 : decode b_M_record 56 = .ok (.aload_n 0, 1) := by decide +kernel
theorem d_M_record_57 : decode b_M_record 57 = .ok (.getfield 16, 3) := by decide +kernel
theorem d_M_record_60 : decode b_M_record 60 = .ok (.iload_n 3, 1) := by decide +kernel
theorem d_M_record_61 : decode b_M_record 61 = .ok (.baload, 1) := by decide +kernel
theorem d_M_record_62 : decode b_M_record 62 = .ok (.ifCond .eq 7, 3) := by decide +kernel
theorem d_M_record_65 : decode b_M_record 65 = .ok (.iconst 3, 1) := by decide +kernel
theorem d_M_record_66 : decode b_M_record 66 = .ok (.goto 4, 3) := by decide +kernel
theorem d_M_record_69 : decode b_M_record 69 = .ok (.iconst 2, 1) := by decide +kernel
theorem d_M_record_70 : decode b_M_record 70 = .ok (.iload_n 3, 1) := by decide +kernel
theorem d_M_record_71 : decode b_M_record 71 = .ok (.iconst (-1), 1) := by decide +kernel
theorem d_M_record_72 : decode b_M_record 72 = .ok (.iconst 0, 1) := by decide +kernel
theorem d_M_record_73 : decode b_M_record 73 = .ok (.iload_n 1, 1) := by decide +kernel
theorem d_M_record_74 : decode b_M_record 74 = .ok (.invokevirtual 129, 3) := by decide +kernel
theorem d_M_record_77 : decode b_M_record 77 = .ok (.iinc 3 1, 3) := by decide +kernel
theorem d_M_record_80 : decode b_M_record 80 = .ok (.goto (-43), 3) := by decide +kernel
theorem d_M_record_83 : decode b_M_record 83 = .ok (.return_, 1) := by decide +kernel
def pp_M_record_b77 (g : Nat → ClassId) (e0 : Nat → Nat) (K : mo_M → Prop) (B_37 : mo_M → Nat → Int32 → Int32 → Int32 → Prop) (M : mo_M) (x0 : Nat) (x1 : Int32) (x2 : Int32) (x3 : Int32) : Prop := B_37 M x0 x1 x2 (x3 + 1)
def pp_M_record_b70 (g : Nat → ClassId) (e0 : Nat → Nat) (K : mo_M → Prop) (B_37 : mo_M → Nat → Int32 → Int32 → Int32 → Prop) (M : mo_M) (x0 : Nat) (x1 : Int32) (x2 : Int32) (x3 : Int32) (s0 : Int32) (s1 : Nat) : Prop := (mp_is M s1 4 ∧ pp_M_send g e0 (fun M14 => pp_M_record_b77 g e0 K B_37 M14 x0 x1 x2 x3) M s1 s0 x3 ((-1 : Int32)) ((0 : Int32)) x1)
def pp_M_record_b37 (g : Nat → ClassId) (e0 : Nat → Nat) (K : mo_M → Prop) : Nat → mo_M → Nat → Int32 → Int32 → Int32 → Prop
  | 0, _, _, _, _, _ => False
  | n + 1, M, x0, x1, x2, x3 => mp_gi M x0 4 3 (fun v9 => ((v9 ≤ x3 → K M) ∧ (¬ (v9 ≤ x3) → mp_gr M x0 4 4 (fun v10 => mp_ai (g 0) M v10 x3 (fun v11 => ((v11 = x2 → mp_gr M x0 4 6 (fun v12 => mp_ai (g 2) M v12 x3 (fun v13 => ((v13 = 0 → pp_M_record_b70 g e0 K (fun M x0 x1 x2 x3 => pp_M_record_b37 g e0 K n M x0 x1 x2 x3) M x0 x1 x2 x3 ((2 : Int32)) x0) ∧ (¬ (v13 = 0) → pp_M_record_b70 g e0 K (fun M x0 x1 x2 x3 => pp_M_record_b37 g e0 K n M x0 x1 x2 x3) M x0 x1 x2 x3 ((3 : Int32)) x0))))) ∧ (¬ (v11 = x2) → pp_M_record_b77 g e0 K (fun M x0 x1 x2 x3 => pp_M_record_b37 g e0 K n M x0 x1 x2 x3) M x0 x1 x2 x3)))))))
def pp_M_record (g : Nat → ClassId) (e0 : Nat → Nat) (K : mo_M → Prop) (M : mo_M) (x0 : Nat) (x1 : Int32) (x2 : Int32) : Prop := (mp_is M x0 4 ∧ pp_M_recording g e0 (fun r2 M1 => ((r2 ≤ 0 → mp_gi M1 x0 4 2 (fun v3 => mp_pt M1 x0 4 2 (.int ((v3 + ((1 : Int32))))) (fun M4 => mp_gr M4 x0 4 26 (fun v5 => mp_gi M4 x0 4 2 (fun v6 => mp_si (g 0) M4 v5 ((((((6 : Int32)) * x1)) + x2)) v6 (fun M7 => ∃ n8 : Nat, pp_M_record_b37 g e0 K n8 M7 x0 x1 x2 ((0 : Int32)))))))) ∧ (¬ (r2 ≤ 0) → K M1))) M x0 x1 x2)
set_option maxHeartbeats 4000000 in
set_option maxRecDepth 100000 in
theorem cc_M_record (l : Launch) (L0 : Nat) (D : va_G) {g : Nat → ClassId} {e0 : Nat → Nat} {K : mo_M → Prop} {M : mo_M} {x0 : Nat} {x1 : Int32} {x2 : Int32} (hP : pp_M_record g e0 K M x0 x1 x2) : Met l y_M_record ws_M_record (mo_R 1 0 0 25) (va_Pc [.ref x0, .int x1, .int x2] (fun U => mo_B L0 e0 D vwCl (mo_T g) M U)) (mo_Qv L0 e0 D vwCl (mo_T g) K) 0 0 (fun q => L0 ≤ q) := by
  refine Met.ofW (cc := b_M_record) (maxL := 4) (ret := (Option.none : Option Jvm.ClassFile.FieldType)) (by decide +kernel) rfl ?_
  intro p e s m args below meth c s₁ B hml hv
  obtain ⟨hv1, hB0⟩ := hv
  have hx := B.exec
  have hb := B.bytes
  have hr := B.returns
  have hts : ∀ w ∈ lw_g, w.before args s = true := fun w hw => atoms_spec (ws := ws_M_record) B.pre w (List.mem_cons_of_mem _ hw)
  have hown : s.vm.findClass "PurseHouseModel" = some m.cls := findClass_of_methodNamed B.named
  have hlocks := B.notSynchronized
  have w_77 : ∀ (B_37 : mo_M → Nat → Int32 → Int32 → Int32 → Prop) (hB_37 : ∀ (M : mo_M) (x0 : Nat) (x1 : Int32) (x2 : Int32) (x3 : Int32) (H : Heap) (locs : List Loc) (ls : Array Slot), B_37 M x0 x1 x2 x3 → mo_ok L0 e0 D vwCl (mo_T g) s M H locs → lv_has ls 4 [(0, .ref x0), (1, .int x1), (2, .int x2), (3, .int x3)] → W p l e (headSpec ws_M_record (mo_R 1 0 0 25)).room s m args below meth c H locs 0 0 (mo_Z below (mo_Qv L0 e0 D vwCl (mo_T g) K) args s 0 0 L0) (F0 m 37 ls [])) (M : mo_M) (x0 : Nat) (x1 : Int32) (x2 : Int32) (x3 : Int32) (H : Heap) (locs : List Loc) (ls : Array Slot), pp_M_record_b77 g e0 K B_37 M x0 x1 x2 x3 → mo_ok L0 e0 D vwCl (mo_T g) s M H locs → lv_has ls 4 [(0, .ref x0), (1, .int x1), (2, .int x2), (3, .int x3)] → W p l e (headSpec ws_M_record (mo_R 1 0 0 25)).room s m args below meth c H locs 0 0 (mo_Z below (mo_Qv L0 e0 D vwCl (mo_T g) K) args s 0 0 L0) (F0 m 77 ls []) := by
    intro B_37 hB_37 M x0 x1 x2 x3 H locs ls hP hok hl
    unfold pp_M_record_b77 at hP
    refine lv_iinc (k := 3) (v := x3 + 1) (lv' := [(3, .int (x3 + 1)), (0, .ref x0), (1, .int x1), (2, .int x2)]) hx hb d_M_record_77 hl rfl rfl (by decide) rfl (fun ls hl => ?_)
    refine lv_goto (tgt := 37) hx hb d_M_record_80 (by decide) ?_
    exact hB_37 _ _ _ _ _ _ _ _ hP hok (lv_sub hl [1, 2, 3, 0] rfl)
  have w_70 : ∀ (B_37 : mo_M → Nat → Int32 → Int32 → Int32 → Prop) (hB_37 : ∀ (M : mo_M) (x0 : Nat) (x1 : Int32) (x2 : Int32) (x3 : Int32) (H : Heap) (locs : List Loc) (ls : Array Slot), B_37 M x0 x1 x2 x3 → mo_ok L0 e0 D vwCl (mo_T g) s M H locs → lv_has ls 4 [(0, .ref x0), (1, .int x1), (2, .int x2), (3, .int x3)] → W p l e (headSpec ws_M_record (mo_R 1 0 0 25)).room s m args below meth c H locs 0 0 (mo_Z below (mo_Qv L0 e0 D vwCl (mo_T g) K) args s 0 0 L0) (F0 m 37 ls [])) (M : mo_M) (x0 : Nat) (x1 : Int32) (x2 : Int32) (x3 : Int32) (s0 : Int32) (s1 : Nat) (H : Heap) (locs : List Loc) (ls : Array Slot), pp_M_record_b70 g e0 K B_37 M x0 x1 x2 x3 s0 s1 → mo_ok L0 e0 D vwCl (mo_T g) s M H locs → lv_has ls 4 [(0, .ref x0), (1, .int x1), (2, .int x2), (3, .int x3)] → W p l e (headSpec ws_M_record (mo_R 1 0 0 25)).room s m args below meth c H locs 0 0 (mo_Z below (mo_Qv L0 e0 D vwCl (mo_T g) K) args s 0 0 L0) (F0 m 70 ls [.int s0, .ref s1]) := by
    intro B_37 hB_37 M x0 x1 x2 x3 s0 s1 H locs ls hP hok hl
    unfold pp_M_record_b70 at hP
    refine lv_iload_n hx hb d_M_record_70 rfl (lv_at hl 3 rfl) ?_
    refine lv_iconst (v := (-1)) hx hb d_M_record_71 (by decide) ?_
    refine lv_iconst (v := 0) hx hb d_M_record_72 (by decide) ?_
    refine lv_iload_n hx hb d_M_record_73 rfl (lv_at hl 1 rfl) ?_
    obtain ⟨⟨fs9, he9⟩, hP⟩ := hP
    refine mo_callv hok (va_runV (As := [.int s0, .int x3, .int ((-1 : Int32)), .int ((0 : Int32)), .int x1]) (rest := []) ⟨hx, hb, hml, hown, hts⟩ (cc_M_send l L0 D hP) ⟨(callB_of 5 hts (lw_gi wd_756) rfl rfl rfl (hts _ wd_39) (hts _ wd_753) (by decide +kernel) ⟨Nat.le_of_ble_eq_true rfl, Nat.le_of_ble_eq_true rfl⟩), hts _ wd_755, hts _ wd_21⟩ (mo_preV hok he9 rfl [.int s0, .int x3, .int ((-1 : Int32)), .int ((0 : Int32)), .int x1]) rfl rfl hl.1 rfl (lv_room (Nat.le_of_ble_eq_true rfl)) d_M_record_74 ⟨Nat.zero_le _, Nat.zero_le _⟩) (fun M14 H locs hP hok => ?_)
    exact w_77 B_37 hB_37 _ _ _ _ _ _ _ _ hP hok (lv_sub hl [0, 1, 2, 3] rfl)
  have w_37 : ∀ (n : Nat) (M : mo_M) (x0 : Nat) (x1 : Int32) (x2 : Int32) (x3 : Int32) (H : Heap) (locs : List Loc) (ls : Array Slot), pp_M_record_b37 g e0 K n M x0 x1 x2 x3 → mo_ok L0 e0 D vwCl (mo_T g) s M H locs → lv_has ls 4 [(0, .ref x0), (1, .int x1), (2, .int x2), (3, .int x3)] → W p l e (headSpec ws_M_record (mo_R 1 0 0 25)).room s m args below meth c H locs 0 0 (mo_Z below (mo_Qv L0 e0 D vwCl (mo_T g) K) args s 0 0 L0) (F0 m 37 ls []) := by
    intro n
    induction n with
    | zero => intro M x0 x1 x2 x3 H locs ls hP; exact hP.elim
    | succ n ih =>
      intro M x0 x1 x2 x3 H locs ls hP hok hl
      unfold pp_M_record_b37 at hP
      refine lv_iload_n hx hb d_M_record_37 rfl (lv_at hl 3 rfl) ?_
      refine lv_aload_n hx hb d_M_record_38 rfl (lv_at hl 0 rfl) ?_
      refine mr_gi (C := "PurseHouseModel") (T := F_4) (N := 27) (ref := "PurseHouseModel") hx hb hts hown hok hP ui_4 rfl (by decide) (hts _ wd_613) (fun _ h => h) d_M_record_39 (fun v9 hP => ?_)
      refine lv_icmp_ge (tgt := 83) hx hb d_M_record_42 (by decide) (fun hc => ?_) (fun hc => ?_)
      · replace hP := hP.1 hc
        exact mo_vret hx hb hr hlocks hok hP d_M_record_83
      · replace hP := hP.2 hc
        refine lv_aload_n hx hb d_M_record_45 rfl (lv_at hl 0 rfl) ?_
        refine mr_gr (C := "PurseHouseModel") (T := F_4) (N := 27) (ref := "PurseHouseModel") hx hb hts hown hok hP ui_4 rfl (by decide) (hts _ wd_614) (fun _ h => h) d_M_record_46 (fun v10 hP => ?_)
        refine lv_iload_n hx hb d_M_record_49 rfl (lv_at hl 3 rfl) ?_
        refine mr_ai hx hb hok hP 0 rfl d_M_record_50 (fun v11 hP => ?_)
        refine lv_iload_n hx hb d_M_record_51 rfl (lv_at hl 2 rfl) ?_
        refine lv_icmp_ne (tgt := 77) hx hb d_M_record_52 (by decide) (fun hc => ?_) (fun hc => ?_)
        · replace hP := hP.2 hc
          exact w_77 _ ih _ _ _ _ _ _ _ _ hP hok (lv_sub hl [0, 1, 2, 3] rfl)
        · replace hP := hP.1 hc
          refine lv_aload_n hx hb d_M_record_55 rfl (lv_at hl 0 rfl) ?_
          refine lv_aload_n hx hb d_M_record_56 rfl (lv_at hl 0 rfl) ?_
          refine mr_gr (C := "PurseHouseModel") (T := F_4) (N := 27) (ref := "PurseHouseModel") hx hb hts hown hok hP ui_4 rfl (by decide) (hts _ wd_616) (fun _ h => h) d_M_record_57 (fun v12 hP => ?_)
          refine lv_iload_n hx hb d_M_record_60 rfl (lv_at hl 3 rfl) ?_
          refine mr_az hx hb hok hP 2 rfl d_M_record_61 (fun v13 hP => ?_)
          refine lv_if_eq (tgt := 69) hx hb d_M_record_62 (by decide) (fun hc => ?_) (fun hc => ?_)
          · replace hP := hP.1 hc
            refine lv_iconst (v := 2) hx hb d_M_record_69 (by decide) ?_
            exact w_70 _ ih _ _ _ _ _ _ _ _ _ _ hP hok (lv_sub hl [0, 1, 2, 3] rfl)
          · replace hP := hP.2 hc
            refine lv_iconst (v := 3) hx hb d_M_record_65 (by decide) ?_
            refine lv_goto (tgt := 70) hx hb d_M_record_66 (by decide) ?_
            exact w_70 _ ih _ _ _ _ _ _ _ _ _ _ hP hok (lv_sub hl [0, 1, 2, 3] rfl)
  have hok : mo_ok L0 e0 D vwCl (mo_T g) s M s.heap [] := ⟨hB0.1, hB0.2.1, hB0.2.2, va_S.rf⟩
  have hl := lv_entry ([.ref x0, .int x1, .int x2]) (n := 4) (Nat.le_of_ble_eq_true rfl)
  rw [hv1, lg_entry_eq]
  rw [← hv1]
  generalize (lg_sl [.ref x0, .int x1, .int x2] ++ List.replicate (4 - (lg_sl [.ref x0, .int x1, .int x2]).length) Slot.unset).toArray = ls at hl ⊢
  have hl : lv_has ls 4 [(0, .ref x0), (1, .int x1), (2, .int x2)] := hl
  unfold pp_M_record at hP
  refine lv_aload_n hx hb d_M_record_0 rfl (lv_at hl 0 rfl) ?_
  refine lv_iload_n hx hb d_M_record_1 rfl (lv_at hl 1 rfl) ?_
  refine lv_iload_n hx hb d_M_record_2 rfl (lv_at hl 2 rfl) ?_
  obtain ⟨⟨fs9, he9⟩, hP⟩ := hP
  refine mo_calli hok (va_runV (As := [.int x1, .int x2]) (rest := []) ⟨hx, hb, hml, hown, hts⟩ (cc_M_recording l L0 D hP) ⟨(callB_of 2 hts (lw_gi wd_772) rfl rfl rfl (hts _ wd_39) (hts _ wd_769) (by decide +kernel) ⟨Nat.le_of_ble_eq_true rfl, Nat.le_of_ble_eq_true rfl⟩), hts _ wd_771, hts _ wd_24⟩ (mo_preV hok he9 rfl [.int x1, .int x2]) rfl rfl hl.1 rfl (lv_room (Nat.le_of_ble_eq_true rfl)) d_M_record_3 ⟨Nat.zero_le _, Nat.zero_le _⟩) (fun r2 M1 H locs hP hok => ?_)
  refine lv_if_le (tgt := 10) hx hb d_M_record_6 (by decide) (fun hc => ?_) (fun hc => ?_)
  · replace hP := hP.1 hc
    refine lv_aload_n hx hb d_M_record_10 rfl (lv_at hl 0 rfl) ?_
    refine lv_dup hx hb d_M_record_11 rfl ?_
    refine mr_gi (C := "PurseHouseModel") (T := F_4) (N := 27) (ref := "PurseHouseModel") hx hb hts hown hok hP ui_4 rfl (by decide) (hts _ wd_612) (fun _ h => h) d_M_record_12 (fun v3 hP => ?_)
    refine lv_iconst (v := 1) hx hb d_M_record_15 (by decide) ?_
    refine lv_iadd hx hb d_M_record_16 ?_
    refine mr_pt (C := "PurseHouseModel") (T := F_4) (N := 27) (ref := "PurseHouseModel") (ty := .int) hx hb hts hown hok hP ui_4 ty_4 th_4 tn_4 rfl (by decide) (hts _ wd_612) (fun _ h => h) rfl (by decide +kernel) rfl rfl d_M_record_17 (fun M4 H locs hP hok => ?_)
    refine lv_aload_n hx hb d_M_record_20 rfl (lv_at hl 0 rfl) ?_
    refine mr_gr (C := "PurseHouseModel") (T := F_4) (N := 27) (ref := "PurseHouseModel") hx hb hts hown hok hP ui_4 rfl (by decide) (hts _ wd_636) (fun _ h => h) d_M_record_21 (fun v5 hP => ?_)
    refine lv_bipush (v := 6) hx hb d_M_record_24 (by decide) ?_
    refine lv_iload_n hx hb d_M_record_26 rfl (lv_at hl 1 rfl) ?_
    refine lv_imul hx hb d_M_record_27 ?_
    refine lv_iload_n hx hb d_M_record_28 rfl (lv_at hl 2 rfl) ?_
    refine lv_iadd hx hb d_M_record_29 ?_
    refine lv_aload_n hx hb d_M_record_30 rfl (lv_at hl 0 rfl) ?_
    refine mr_gi (C := "PurseHouseModel") (T := F_4) (N := 27) (ref := "PurseHouseModel") hx hb hts hown hok hP ui_4 rfl (by decide) (hts _ wd_612) (fun _ h => h) d_M_record_31 (fun v6 hP => ?_)
    refine mr_si hx hb hok hP 0 rfl d_M_record_34 (fun M7 H locs hP hok => ?_)
    refine lv_iconst (v := 0) hx hb d_M_record_35 (by decide) ?_
    refine lv_istore_n (lv' := [(3, .int ((0 : Int32))), (0, .ref x0), (1, .int x1), (2, .int x2)]) hx hb d_M_record_36 rfl hl (by decide) rfl (fun ls hl => ?_)
    obtain ⟨n8, hP⟩ := hP
    exact w_37  n8 _ _ _ _ _ _ _ _ hP hok (lv_sub hl [1, 2, 3, 0] rfl)
  · replace hP := hP.2 hc
    exact mo_vret hx hb hr hlocks hok hP d_M_record_9

abbrev b_M_isMarked : ByteArray := prog_6_method_22_code
def y_M_isMarked : MethodName := ⟨"PurseHouseModel", "isMarked", "(II)Z"⟩
def ws_M_isMarked : List Cond := .code y_M_isMarked b_M_isMarked 4 (Option.some Jvm.ClassFile.FieldType.boolean) :: lw_g
theorem d_M_isMarked_0 : decode b_M_isMarked 0 = .ok (.aload_n 0, 1) := by decide +kernel
theorem d_M_isMarked_1 : decode b_M_isMarked 1 = .ok (.iload_n 2, 1) := by decide +kernel
theorem d_M_isMarked_2 : decode b_M_isMarked 2 = .ok (.aload_n 0, 1) := by decide +kernel
theorem d_M_isMarked_3 : decode b_M_isMarked 3 = .ok (.getfield 7, 3) := by decide +kernel
theorem d_M_isMarked_6 : decode b_M_isMarked 6 = .ok (.aload_n 0, 1) := by decide +kernel
theorem d_M_isMarked_7 : decode b_M_isMarked 7 = .ok (.getfield 51, 3) := by decide +kernel
theorem d_M_isMarked_10 : decode b_M_isMarked 10 = .ok (.iload_n 1, 1) := by decide +kernel
theorem d_M_isMarked_11 : decode b_M_isMarked 11 = .ok (.iaload, 1) := by decide +kernel
theorem d_M_isMarked_12 : decode b_M_isMarked 12 = .ok (.iaload, 1) := by decide +kernel
theorem d_M_isMarked_13 : decode b_M_isMarked 13 = .ok (.invokevirtual 122, 3) := by decide +kernel
theorem d_M_isMarked_16 : decode b_M_isMarked 16 = .ok (.istore_n 3, 1) := by decide +kernel
theorem d_M_isMarked_17 : decode b_M_isMarked 17 = .ok (.iload_n 3, 1) := by decide +kernel
theorem d_M_isMarked_18 : decode b_M_isMarked 18 = .ok (.ifCond .le 17, 3) := by decide +kernel
theorem d_M_isMarked_21 : decode b_M_isMarked 21 = .ok (.iload_n 3, 1) := by decide +kernel
theorem d_M_isMarked_22 : decode b_M_isMarked 22 = .ok (.aload_n 0, 1) := by decide +kernel
theorem d_M_isMarked_23 : decode b_M_isMarked 23 = .ok (.getfield 63, 3) := by decide +kernel
theorem d_M_isMarked_26 : decode b_M_isMarked 26 = .ok (.iload_n 1, 1) := by decide +kernel
theorem d_M_isMarked_27 : decode b_M_isMarked 27 = .ok (.iaload, 1) := by decide +kernel
theorem d_M_isMarked_28 : decode b_M_isMarked 28 = .ok (.if_icmp .ge 7, 3) := by decide +kernel
theorem d_M_isMarked_31 : decode b_M_isMarked 31 = .ok (.iconst 1, 1) := by decide +kernel
theorem d_M_isMarked_32 : decode b_M_isMarked 32 = .ok (.goto 4, 3) := by decide +kernel
theorem d_M_isMarked_35 : decode b_M_isMarked 35 = .ok (.iconst 0, 1) := by decide +kernel
theorem d_M_isMarked_36 : decode b_M_isMarked 36 = .ok (.ireturn, 1) := by decide +kernel
def pp_M_isMarked (g : Nat → ClassId) (e0 : Nat → Nat) (K : Int32 → mo_M → Prop) (M : mo_M) (x0 : Nat) (x1 : Int32) (x2 : Int32) : Prop := mp_gr M x0 4 4 (fun v1 => mp_gr M x0 4 19 (fun v2 => mp_ai (g 0) M v2 x1 (fun v3 => mp_ai (g 0) M v1 v3 (fun v4 => (mp_is M x0 4 ∧ pp_M_recording g e0 (fun r6 M5 => ((r6 ≤ 0 → (narrow .boolean (.int ((0 : Int32))) = .int ((0 : Int32)) ∧ K ((0 : Int32)) M5)) ∧ (¬ (r6 ≤ 0) → mp_gr M5 x0 4 23 (fun v7 => mp_ai (g 0) M5 v7 x1 (fun v8 => ((v8 ≤ r6 → (narrow .boolean (.int ((0 : Int32))) = .int ((0 : Int32)) ∧ K ((0 : Int32)) M5)) ∧ (¬ (v8 ≤ r6) → (narrow .boolean (.int ((1 : Int32))) = .int ((1 : Int32)) ∧ K ((1 : Int32)) M5)))))))) M x0 x2 v4)))))
set_option maxHeartbeats 4000000 in
set_option maxRecDepth 100000 in
theorem cc_M_isMarked (l : Launch) (L0 : Nat) (D : va_G) {g : Nat → ClassId} {e0 : Nat → Nat} {K : Int32 → mo_M → Prop} {M : mo_M} {x0 : Nat} {x1 : Int32} {x2 : Int32} (hP : pp_M_isMarked g e0 K M x0 x1 x2) : Met l y_M_isMarked ws_M_isMarked (mo_R 1 0 0 22) (va_Pc [.ref x0, .int x1, .int x2] (fun U => mo_B L0 e0 D vwCl (mo_T g) M U)) (mo_Qi L0 e0 D vwCl (mo_T g) K) 0 0 (fun q => L0 ≤ q) := by
  refine Met.ofW (cc := b_M_isMarked) (maxL := 4) (ret := (Option.some Jvm.ClassFile.FieldType.boolean)) (by decide +kernel) rfl ?_
  intro p e s m args below meth c s₁ B hml hv
  obtain ⟨hv1, hB0⟩ := hv
  have hx := B.exec
  have hb := B.bytes
  have hr := B.returns
  have hts : ∀ w ∈ lw_g, w.before args s = true := fun w hw => atoms_spec (ws := ws_M_isMarked) B.pre w (List.mem_cons_of_mem _ hw)
  have hown : s.vm.findClass "PurseHouseModel" = some m.cls := findClass_of_methodNamed B.named
  have hlocks := B.notSynchronized
  have hok : mo_ok L0 e0 D vwCl (mo_T g) s M s.heap [] := ⟨hB0.1, hB0.2.1, hB0.2.2, va_S.rf⟩
  have hl := lv_entry ([.ref x0, .int x1, .int x2]) (n := 4) (Nat.le_of_ble_eq_true rfl)
  rw [hv1, lg_entry_eq]
  rw [← hv1]
  generalize (lg_sl [.ref x0, .int x1, .int x2] ++ List.replicate (4 - (lg_sl [.ref x0, .int x1, .int x2]).length) Slot.unset).toArray = ls at hl ⊢
  have hl : lv_has ls 4 [(0, .ref x0), (1, .int x1), (2, .int x2)] := hl
  unfold pp_M_isMarked at hP
  refine lv_aload_n hx hb d_M_isMarked_0 rfl (lv_at hl 0 rfl) ?_
  refine lv_iload_n hx hb d_M_isMarked_1 rfl (lv_at hl 2 rfl) ?_
  refine lv_aload_n hx hb d_M_isMarked_2 rfl (lv_at hl 0 rfl) ?_
  refine mr_gr (C := "PurseHouseModel") (T := F_4) (N := 27) (ref := "PurseHouseModel") hx hb hts hown hok hP ui_4 rfl (by decide) (hts _ wd_614) (fun _ h => h) d_M_isMarked_3 (fun v1 hP => ?_)
  refine lv_aload_n hx hb d_M_isMarked_6 rfl (lv_at hl 0 rfl) ?_
  refine mr_gr (C := "PurseHouseModel") (T := F_4) (N := 27) (ref := "PurseHouseModel") hx hb hts hown hok hP ui_4 rfl (by decide) (hts _ wd_629) (fun _ h => h) d_M_isMarked_7 (fun v2 hP => ?_)
  refine lv_iload_n hx hb d_M_isMarked_10 rfl (lv_at hl 1 rfl) ?_
  refine mr_ai hx hb hok hP 0 rfl d_M_isMarked_11 (fun v3 hP => ?_)
  refine mr_ai hx hb hok hP 0 rfl d_M_isMarked_12 (fun v4 hP => ?_)
  obtain ⟨⟨fs9, he9⟩, hP⟩ := hP
  refine mo_calli hok (va_runV (As := [.int x2, .int v4]) (rest := []) ⟨hx, hb, hml, hown, hts⟩ (cc_M_recording l L0 D hP) ⟨(callB_of 2 hts (lw_gi wd_772) rfl rfl rfl (hts _ wd_39) (hts _ wd_769) (by decide +kernel) ⟨Nat.le_of_ble_eq_true rfl, Nat.le_of_ble_eq_true rfl⟩), hts _ wd_771, hts _ wd_24⟩ (mo_preV hok he9 rfl [.int x2, .int v4]) rfl rfl hl.1 rfl (lv_room (Nat.le_of_ble_eq_true rfl)) d_M_isMarked_13 ⟨Nat.zero_le _, Nat.zero_le _⟩) (fun r6 M5 H locs hP hok => ?_)
  refine lv_istore_n (lv' := [(3, .int r6), (0, .ref x0), (1, .int x1), (2, .int x2)]) hx hb d_M_isMarked_16 rfl hl (by decide) rfl (fun ls hl => ?_)
  refine lv_iload_n hx hb d_M_isMarked_17 rfl (lv_at hl 0 rfl) ?_
  refine lv_if_le (tgt := 35) hx hb d_M_isMarked_18 (by decide) (fun hc => ?_) (fun hc => ?_)
  · replace hP := hP.1 hc
    refine lv_iconst (v := 0) hx hb d_M_isMarked_35 (by decide) ?_
    exact mo_zret hx hb hr hlocks hok hP d_M_isMarked_36
  · replace hP := hP.2 hc
    refine lv_iload_n hx hb d_M_isMarked_21 rfl (lv_at hl 0 rfl) ?_
    refine lv_aload_n hx hb d_M_isMarked_22 rfl (lv_at hl 1 rfl) ?_
    refine mr_gr (C := "PurseHouseModel") (T := F_4) (N := 27) (ref := "PurseHouseModel") hx hb hts hown hok hP ui_4 rfl (by decide) (hts _ wd_633) (fun _ h => h) d_M_isMarked_23 (fun v7 hP => ?_)
    refine lv_iload_n hx hb d_M_isMarked_26 rfl (lv_at hl 2 rfl) ?_
    refine mr_ai hx hb hok hP 0 rfl d_M_isMarked_27 (fun v8 hP => ?_)
    refine lv_icmp_ge (tgt := 35) hx hb d_M_isMarked_28 (by decide) (fun hc => ?_) (fun hc => ?_)
    · replace hP := hP.1 hc
      refine lv_iconst (v := 0) hx hb d_M_isMarked_35 (by decide) ?_
      exact mo_zret hx hb hr hlocks hok hP d_M_isMarked_36
    · replace hP := hP.2 hc
      refine lv_iconst (v := 1) hx hb d_M_isMarked_31 (by decide) ?_
      refine lv_goto (tgt := 36) hx hb d_M_isMarked_32 (by decide) ?_
      exact mo_zret hx hb hr hlocks hok hP d_M_isMarked_36

abbrev b_M_deliver : ByteArray := prog_6_method_25_code
def y_M_deliver : MethodName := ⟨"PurseHouseModel", "deliver", "(II)Z"⟩
def ws_M_deliver : List Cond := .code y_M_deliver b_M_deliver 5 (Option.some Jvm.ClassFile.FieldType.boolean) :: lw_g
theorem d_M_deliver_0 : decode b_M_deliver 0 = .ok (.aload_n 0, 1) := by decide +kernel
theorem d_M_deliver_1 : decode b_M_deliver 1 = .ok (.iconst 0, 1) := by decide +kernel
theorem d_M_deliver_2 : decode b_M_deliver 2 = .ok (.putfield 76, 3) := by decide +kernel
theorem d_M_deliver_5 : decode b_M_deliver 5 = .ok (.aload_n 0, 1) := by decide +kernel
theorem d_M_deliver_6 : decode b_M_deliver 6 = .ok (.iload_n 1, 1) := by decide +kernel
theorem d_M_deliver_7 : decode b_M_deliver 7 = .ok (.invokevirtual 126, 3) := by decide +kernel
theorem d_M_deliver_10 : decode b_M_deliver 10 = .ok (.ifCond .eq 16, 3) := by decide +kernel
theorem d_M_deliver_13 : decode b_M_deliver 13 = .ok (.iload_n 2, 1) := by decide +kernel
theorem d_M_deliver_14 : decode b_M_deliver 14 = .ok (.ifCond .lt 12, 3) := by decide +kernel
theorem d_M_deliver_17 : decode b_M_deliver 17 = .ok (.aload_n 0, 1) := by decide +kernel
theorem d_M_deliver_18 : decode b_M_deliver 18 = .ok (.iload_n 1, 1) := by decide +kernel
theorem d_M_deliver_19 : decode b_M_deliver 19 = .ok (.iload_n 2, 1) := by decide +kernel
theorem d_M_deliver_20 : decode b_M_deliver 20 = .ok (.invokevirtual 133, 3) := by decide +kernel
theorem d_M_deliver_23 : decode b_M_deliver 23 = .ok (.goto 4, 3) := by decide +kernel
theorem d_M_deliver_26 : decode b_M_deliver 26 = .ok (.iconst (-1), 1) := by decide +kernel
theorem d_M_deliver_27 : decode b_M_deliver 27 = .ok (.istore_n 3, 1) := by decide +kernel
theorem d_M_deliver_28 : decode b_M_deliver 28 = .ok (.iload_n 3, 1) := by decide +kernel
theorem d_M_deliver_29 : decode b_M_deliver 29 = .ok (.ifCond .lt 16, 3) := by decide +kernel
theorem d_M_deliver_32 : decode b_M_deliver 32 = .ok (.aload_n 0, 1) := by decide +kernel
theorem d_M_deliver_33 : decode b_M_deliver 33 = .ok (.getfield 16, 3) := by decide +kernel
theorem d_M_deliver_36 : decode b_M_deliver 36 = .ok (.iload_n 1, 1) := by decide +kernel
theorem d_M_deliver_37 : decode b_M_deliver 37 = .ok (.baload, 1) := by decide +kernel
theorem d_M_deliver_38 : decode b_M_deliver 38 = .ok (.ifCond .eq 9, 3) := by decide +kernel
theorem d_M_deliver_41 : decode b_M_deliver 41 = .ok (.iload_n 2, 1) := by decide +kernel
theorem d_M_deliver_42 : decode b_M_deliver 42 = .ok (.ifCond .le 5, 3) := by decide +kernel
theorem d_M_deliver_45 : decode b_M_deliver 45 = .ok (.iconst 0, 1) := by decide +kernel
theorem d_M_deliver_46 : decode b_M_deliver 46 = .ok (.ireturn, 1) := by decide +kernel
theorem d_M_deliver_47 : decode b_M_deliver 47 = .ok (.aload_n 0, 1) := by decide +kernel
theorem d_M_deliver_48 : decode b_M_deliver 48 = .ok (.getfield 48, 3) := by decide +kernel
theorem d_M_deliver_51 : decode b_M_deliver 51 = .ok (.iload_n 3, 1) := by decide +kernel
theorem d_M_deliver_52 : decode b_M_deliver 52 = .ok (.iaload, 1) := by decide +kernel
theorem d_M_deliver_53 : decode b_M_deliver 53 = .ok (.iconst 3, 1) := by decide +kernel
theorem d_M_deliver_54 : decode b_M_deliver 54 = .ok (.if_icmp .ne 19, 3) := by decide +kernel
theorem d_M_deliver_57 : decode b_M_deliver 57 = .ok (.aload_n 0, 1) := by decide +kernel
theorem d_M_deliver_58 : decode b_M_deliver 58 = .ok (.aload_n 0, 1) := by decide +kernel
theorem d_M_deliver_59 : decode b_M_deliver 59 = .ok (.getfield 60, 3) := by decide +kernel
theorem d_M_deliver_62 : decode b_M_deliver 62 = .ok (.iload_n 3, 1) := by decide +kernel
theorem d_M_deliver_63 : decode b_M_deliver 63 = .ok (.iaload, 1) := by decide +kernel
theorem d_M_deliver_64 : decode b_M_deliver 64 = .ok (.aload_n 0, 1) := by decide +kernel
theorem d_M_deliver_65 : decode b_M_deliver 65 = .ok (.getfield 13, 3) := by decide +kernel
theorem d_M_deliver_68 : decode b_M_deliver 68 = .ok (.iload_n 1, 1) := by decide +kernel
theorem d_M_deliver_69 : decode b_M_deliver 69 = .ok (.iaload, 1) := by decide +kernel
theorem d_M_deliver_70 : decode b_M_deliver 70 = .ok (.invokevirtual 136, 3) := by decide +kernel
theorem d_M_deliver_73 : decode b_M_deliver 73 = .ok (.iconst 0, 1) := by decide +kernel
theorem d_M_deliver_74 : decode b_M_deliver 74 = .ok (.istore 4, 2) := by decide +kernel
theorem d_M_deliver_76 : decode b_M_deliver 76 = .ok (.iload 4, 2) := by decide +kernel
theorem d_M_deliver_78 : decode b_M_deliver 78 = .ok (.aload_n 0, 1) := by decide +kernel
theorem d_M_deliver_79 : decode b_M_deliver 79 = .ok (.getfield 82, 3) := by decide +kernel
theorem d_M_deliver_82 : decode b_M_deliver 82 = .ok (.if_icmp .ge 41, 3) := by decide +kernel
theorem d_M_deliver_85 : decode b_M_deliver 85 = .ok (.aload_n 0, 1) := by decide +kernel
theorem d_M_deliver_86 : decode b_M_deliver 86 = .ok (.getfield 48, 3) := by decide +kernel
theorem d_M_deliver_89 : decode b_M_deliver 89 = .ok (.iload_n 3, 1) := by decide +kernel
theorem d_M_deliver_90 : decode b_M_deliver 90 = .ok (.iaload, 1) := by decide +kernel
theorem d_M_deliver_91 : decode b_M_deliver 91 = .ok (.iconst 3, 1) := by decide +kernel
theorem d_M_deliver_92 : decode b_M_deliver 92 = .ok (.if_icmp .eq 25, 3) := by decide +kernel
theorem d_M_deliver_95 : decode b_M_deliver 95 = .ok (.aload_n 0, 1) := by decide +kernel
theorem d_M_deliver_96 : decode b_M_deliver 96 = .ok (.iload_n 3, 1) := by decide +kernel
theorem d_M_deliver_97 : decode b_M_deliver 97 = .ok (.iload 4, 2) := by decide +kernel
theorem d_M_deliver_99 : decode b_M_deliver 99 = .ok (.invokevirtual 140, 3) := by decide +kernel
theorem d_M_deliver_102 : decode b_M_deliver 102 = .ok (.ifCond .eq 15, 3) := by decide +kernel
theorem d_M_deliver_105 : decode b_M_deliver 105 = .ok (.aload_n 0, 1) := by decide +kernel
theorem d_M_deliver_106 : decode b_M_deliver 106 = .ok (.iload 4, 2) := by decide +kernel
theorem d_M_deliver_108 : decode b_M_deliver 108 = .ok (.aload_n 0, 1) := by decide +kernel
theorem d_M_deliver_109 : decode b_M_deliver 109 = .ok (.getfield 13, 3) := by decide +kernel
theorem d_M_deliver_112 : decode b_M_deliver 112 = .ok (.iload_n 1, 1) := by decide +kernel
theorem d_M_deliver_113 : decode b_M_deliver 113 = .ok (.iaload, 1) := by decide +kernel
theorem d_M_deliver_114 : decode b_M_deliver 114 = .ok (.invokevirtual 136, 3) := by decide +kernel
theorem d_M_deliver_117 : decode b_M_deliver 117 = .ok (.iinc 4 1, 3) := by decide +kernel
theorem d_M_deliver_120 : decode b_M_deliver 120 = .ok (.goto (-44), 3) := by decide +kernel
theorem d_M_deliver_123 : decode b_M_deliver 123 = .ok (.aload_n 0, 1) := by decide +kernel
theorem d_M_deliver_124 : decode b_M_deliver 124 = .ok (.getfield 48, 3) := by decide +kernel
theorem d_M_deliver_127 : decode b_M_deliver 127 = .ok (.iload_n 3, 1) := by decide +kernel
theorem d_M_deliver_128 : decode b_M_deliver 128 = .ok (.iaload, 1) := by decide +kernel
theorem d_M_deliver_129 : decode b_M_deliver 129 = .ok (.iconst 1, 1) := by decide +kernel
theorem d_M_deliver_130 : decode b_M_deliver 130 = .ok (.if_icmp .ne 28, 3) := by decide +kernel
theorem d_M_deliver_133 : decode b_M_deliver 133 = .ok (.aload_n 0, 1) := by decide +kernel
theorem d_M_deliver_134 : decode b_M_deliver 134 = .ok (.aload_n 0, 1) := by decide +kernel
theorem d_M_deliver_135 : decode b_M_deliver 135 = .ok (.getfield 13, 3) := by decide +kernel
theorem d_M_deliver_138 : decode b_M_deliver 138 = .ok (.iload_n 1, 1) := by decide +kernel
theorem d_M_deliver_139 : decode b_M_deliver 139 = .ok (.iaload, 1) := by decide +kernel
theorem d_M_deliver_140 : decode b_M_deliver 140 = .ok (.aload_n 0, 1) := by decide +kernel
theorem d_M_deliver_141 : decode b_M_deliver 141 = .ok (.getfield 54, 3) := by decide +kernel
theorem d_M_deliver_144 : decode b_M_deliver 144 = .ok (.iload_n 3, 1) := by decide +kernel
theorem d_M_deliver_145 : decode b_M_deliver 145 = .ok (.iaload, 1) := by decide +kernel
theorem d_M_deliver_146 : decode b_M_deliver 146 = .ok (.aload_n 0, 1) := by decide +kernel
theorem d_M_deliver_147 : decode b_M_deliver 147 = .ok (.getfield 57, 3) := by decide +kernel
theorem d_M_deliver_150 : decode b_M_deliver 150 = .ok (.iload_n 3, 1) := by decide +kernel
theorem d_M_deliver_151 : decode b_M_deliver 151 = .ok (.iaload, 1) := by decide +kernel
theorem d_M_deliver_152 : decode b_M_deliver 152 = .ok (.i2l, 1) := by decide +kernel
theorem d_M_deliver_153 : decode b_M_deliver 153 = .ok (.lconst 0, 1) := by decide +kernel
theorem d_M_deliver_154 : decode b_M_deliver 154 = .ok (.lconst 0, 1) := by decide +kernel
theorem d_M_deliver_155 : decode b_M_deliver 155 = .ok (.invokevirtual 103, 3) := by decide +kernel
theorem d_M_deliver_158 : decode b_M_deliver 158 = .ok (.aload_n 0, 1) := by decide +kernel
theorem d_M_deliver_159 : decode b_M_deliver 159 = .ok (.dup, 1) := by decide +kernel
theorem d_M_deliver_160 : decode b_M_deliver 160 = .ok (.getfield 94, 3) := by decide +kernel
theorem d_M_deliver_163 : decode b_M_deliver 163 = .ok (.iconst 1, 1) := by decide +kernel
theorem d_M_deliver_164 : decode b_M_deliver 164 = .ok (.iadd, 1) := by decide +kernel
theorem d_M_deliver_165 : decode b_M_deliver 165 = .ok (.putfield 94, 3) := by decide +kernel
theorem d_M_deliver_168 : decode b_M_deliver 168 = .ok (.aload_n 0, 1) := by decide +kernel
theorem d_M_deliver_169 : decode b_M_deliver 169 = .ok (.getfield 66, 3) := by decide +kernel
theorem d_M_deliver_172 : decode b_M_deliver 172 = .ok (.iload_n 3, 1) := by decide +kernel
theorem d_M_deliver_173 : decode b_M_deliver 173 = .ok (.aload_n 0, 1) := by decide +kernel
theorem d_M_deliver_174 : decode b_M_deliver 174 = .ok (.getfield 94, 3) := by decide +kernel
theorem d_M_deliver_177 : decode b_M_deliver 177 = .ok (.iastore, 1) := by decide +kernel
theorem d_M_deliver_178 : decode b_M_deliver 178 = .ok (.iconst 1, 1) := by decide +kernel
theorem d_M_deliver_179 : decode b_M_deliver 179 = .ok (.ireturn, 1) := by decide +kernel
def pp_M_deliver_b158 (g : Nat → ClassId) (e0 : Nat → Nat) (K : Int32 → mo_M → Prop) (M : mo_M) (x0 : Nat) (x3 : Int32) : Prop := mp_gi M x0 4 2 (fun v33 => mp_pt M x0 4 2 (.int ((v33 + ((1 : Int32))))) (fun M34 => mp_gr M34 x0 4 24 (fun v35 => mp_gi M34 x0 4 2 (fun v36 => mp_si (g 0) M34 v35 x3 v36 (fun M37 => (narrow .boolean (.int ((1 : Int32))) = .int ((1 : Int32)) ∧ K ((1 : Int32)) M37))))))
def pp_M_deliver_b117 (g : Nat → ClassId) (e0 : Nat → Nat) (K : Int32 → mo_M → Prop) (B_76 : mo_M → Nat → Int32 → Int32 → Int32 → Prop) (M : mo_M) (x0 : Nat) (x1 : Int32) (x3 : Int32) (x4 : Int32) : Prop := B_76 M x0 x1 x3 (x4 + 1)
def pp_M_deliver_b76 (g : Nat → ClassId) (e0 : Nat → Nat) (K : Int32 → mo_M → Prop) : Nat → mo_M → Nat → Int32 → Int32 → Int32 → Prop
  | 0, _, _, _, _, _ => False
  | n + 1, M, x0, x1, x3, x4 => mp_gi M x0 4 25 (fun v16 => ((v16 ≤ x4 → mp_gr M x0 4 18 (fun v17 => mp_ai (g 0) M v17 x3 (fun v18 => ((v18 = ((1 : Int32)) → mp_gr M x0 4 5 (fun v19 => mp_ai (g 0) M v19 x1 (fun v20 => mp_gr M x0 4 20 (fun v21 => mp_ai (g 0) M v21 x3 (fun v22 => mp_gr M x0 4 21 (fun v23 => mp_ai (g 0) M v23 x3 (fun v24 => (mp_is M x0 4 ∧ pp_M_note g e0 (fun M25 => pp_M_deliver_b158 g e0 K M25 x0 x3) M x0 v20 v22 v24.toInt64 ((0 : Int64)) ((0 : Int64)))))))))) ∧ (¬ (v18 = ((1 : Int32))) → pp_M_deliver_b158 g e0 K M x0 x3))))) ∧ (¬ (v16 ≤ x4) → mp_gr M x0 4 18 (fun v26 => mp_ai (g 0) M v26 x3 (fun v27 => ((v27 = ((3 : Int32)) → pp_M_deliver_b117 g e0 K (fun M x0 x1 x3 x4 => pp_M_deliver_b76 g e0 K n M x0 x1 x3 x4) M x0 x1 x3 x4) ∧ (¬ (v27 = ((3 : Int32))) → (mp_is M x0 4 ∧ pp_M_isMarked g e0 (fun r29 M28 => ((r29 = 0 → pp_M_deliver_b117 g e0 K (fun M x0 x1 x3 x4 => pp_M_deliver_b76 g e0 K n M x0 x1 x3 x4) M28 x0 x1 x3 x4) ∧ (¬ (r29 = 0) → mp_gr M28 x0 4 5 (fun v30 => mp_ai (g 0) M28 v30 x1 (fun v31 => (mp_is M28 x0 4 ∧ pp_M_record g e0 (fun M32 => pp_M_deliver_b117 g e0 K (fun M x0 x1 x3 x4 => pp_M_deliver_b76 g e0 K n M x0 x1 x3 x4) M32 x0 x1 x3 x4) M28 x0 x4 v31)))))) M x0 x3 x4))))))))
def pp_M_deliver_b73 (g : Nat → ClassId) (e0 : Nat → Nat) (K : Int32 → mo_M → Prop) (M : mo_M) (x0 : Nat) (x1 : Int32) (x3 : Int32) : Prop := ∃ n15 : Nat, pp_M_deliver_b76 g e0 K n15 M x0 x1 x3 ((0 : Int32))
def pp_M_deliver_b47 (g : Nat → ClassId) (e0 : Nat → Nat) (K : Int32 → mo_M → Prop) (M : mo_M) (x0 : Nat) (x1 : Int32) (x3 : Int32) : Prop := mp_gr M x0 4 18 (fun v8 => mp_ai (g 0) M v8 x3 (fun v9 => ((v9 = ((3 : Int32)) → mp_gr M x0 4 22 (fun v10 => mp_ai (g 0) M v10 x3 (fun v11 => mp_gr M x0 4 5 (fun v12 => mp_ai (g 0) M v12 x1 (fun v13 => (mp_is M x0 4 ∧ pp_M_record g e0 (fun M14 => pp_M_deliver_b73 g e0 K M14 x0 x1 x3) M x0 v11 v13)))))) ∧ (¬ (v9 = ((3 : Int32))) → pp_M_deliver_b73 g e0 K M x0 x1 x3))))
def pp_M_deliver_b27 (g : Nat → ClassId) (e0 : Nat → Nat) (K : Int32 → mo_M → Prop) (M : mo_M) (x0 : Nat) (x1 : Int32) (x2 : Int32) (s0 : Int32) : Prop := ((s0 < 0 → (narrow .boolean (.int ((0 : Int32))) = .int ((0 : Int32)) ∧ K ((0 : Int32)) M)) ∧ (¬ (s0 < 0) → mp_gr M x0 4 6 (fun v6 => mp_ai (g 2) M v6 x1 (fun v7 => ((v7 = 0 → pp_M_deliver_b47 g e0 K M x0 x1 s0) ∧ (¬ (v7 = 0) → ((x2 ≤ 0 → pp_M_deliver_b47 g e0 K M x0 x1 s0) ∧ (¬ (x2 ≤ 0) → (narrow .boolean (.int ((0 : Int32))) = .int ((0 : Int32)) ∧ K ((0 : Int32)) M)))))))))
def pp_M_deliver_b26 (g : Nat → ClassId) (e0 : Nat → Nat) (K : Int32 → mo_M → Prop) (M : mo_M) (x0 : Nat) (x1 : Int32) (x2 : Int32) : Prop := pp_M_deliver_b27 g e0 K M x0 x1 x2 ((-1 : Int32))
def pp_M_deliver (g : Nat → ClassId) (e0 : Nat → Nat) (K : Int32 → mo_M → Prop) (M : mo_M) (x0 : Nat) (x1 : Int32) (x2 : Int32) : Prop := mp_pt M x0 4 0 (.int ((0 : Int32))) (fun M1 => (mp_is M1 x0 4 ∧ pp_M_isLink g e0 (fun r3 M2 => ((r3 = 0 → pp_M_deliver_b26 g e0 K M2 x0 x1 x2) ∧ (¬ (r3 = 0) → ((x2 < 0 → pp_M_deliver_b26 g e0 K M2 x0 x1 x2) ∧ (¬ (x2 < 0) → (mp_is M2 x0 4 ∧ pp_M_thingAt g e0 (fun r5 M4 => pp_M_deliver_b27 g e0 K M4 x0 x1 x2 r5) M2 x0 x1 x2)))))) M1 x0 x1))
set_option maxHeartbeats 4000000 in
set_option maxRecDepth 100000 in
theorem cc_M_deliver (l : Launch) (L0 : Nat) (D : va_G) {g : Nat → ClassId} {e0 : Nat → Nat} {K : Int32 → mo_M → Prop} {M : mo_M} {x0 : Nat} {x1 : Int32} {x2 : Int32} (hP : pp_M_deliver g e0 K M x0 x1 x2) : Met l y_M_deliver ws_M_deliver (mo_R 2 0 0 48) (va_Pc [.ref x0, .int x1, .int x2] (fun U => mo_B L0 e0 D vwCl (mo_T g) M U)) (mo_Qi L0 e0 D vwCl (mo_T g) K) 0 0 (fun q => L0 ≤ q) := by
  refine Met.ofW (cc := b_M_deliver) (maxL := 5) (ret := (Option.some Jvm.ClassFile.FieldType.boolean)) (by decide +kernel) rfl ?_
  intro p e s m args below meth c s₁ B hml hv
  obtain ⟨hv1, hB0⟩ := hv
  have hx := B.exec
  have hb := B.bytes
  have hr := B.returns
  have hts : ∀ w ∈ lw_g, w.before args s = true := fun w hw => atoms_spec (ws := ws_M_deliver) B.pre w (List.mem_cons_of_mem _ hw)
  have hown : s.vm.findClass "PurseHouseModel" = some m.cls := findClass_of_methodNamed B.named
  have hlocks := B.notSynchronized
  have w_158 : ∀ (M : mo_M) (x0 : Nat) (x3 : Int32) (H : Heap) (locs : List Loc) (ls : Array Slot), pp_M_deliver_b158 g e0 K M x0 x3 → mo_ok L0 e0 D vwCl (mo_T g) s M H locs → lv_has ls 5 [(0, .ref x0), (3, .int x3)] → W p l e (headSpec ws_M_deliver (mo_R 2 0 0 48)).room s m args below meth c H locs 0 0 (mo_Z below (mo_Qi L0 e0 D vwCl (mo_T g) K) args s 0 0 L0) (F0 m 158 ls []) := by
    intro M x0 x3 H locs ls hP hok hl
    unfold pp_M_deliver_b158 at hP
    refine lv_aload_n hx hb d_M_deliver_158 rfl (lv_at hl 0 rfl) ?_
    refine lv_dup hx hb d_M_deliver_159 rfl ?_
    refine mr_gi (C := "PurseHouseModel") (T := F_4) (N := 27) (ref := "PurseHouseModel") hx hb hts hown hok hP ui_4 rfl (by decide) (hts _ wd_612) (fun _ h => h) d_M_deliver_160 (fun v33 hP => ?_)
    refine lv_iconst (v := 1) hx hb d_M_deliver_163 (by decide) ?_
    refine lv_iadd hx hb d_M_deliver_164 ?_
    refine mr_pt (C := "PurseHouseModel") (T := F_4) (N := 27) (ref := "PurseHouseModel") (ty := .int) hx hb hts hown hok hP ui_4 ty_4 th_4 tn_4 rfl (by decide) (hts _ wd_612) (fun _ h => h) rfl (by decide +kernel) rfl rfl d_M_deliver_165 (fun M34 H locs hP hok => ?_)
    refine lv_aload_n hx hb d_M_deliver_168 rfl (lv_at hl 0 rfl) ?_
    refine mr_gr (C := "PurseHouseModel") (T := F_4) (N := 27) (ref := "PurseHouseModel") hx hb hts hown hok hP ui_4 rfl (by decide) (hts _ wd_634) (fun _ h => h) d_M_deliver_169 (fun v35 hP => ?_)
    refine lv_iload_n hx hb d_M_deliver_172 rfl (lv_at hl 1 rfl) ?_
    refine lv_aload_n hx hb d_M_deliver_173 rfl (lv_at hl 0 rfl) ?_
    refine mr_gi (C := "PurseHouseModel") (T := F_4) (N := 27) (ref := "PurseHouseModel") hx hb hts hown hok hP ui_4 rfl (by decide) (hts _ wd_612) (fun _ h => h) d_M_deliver_174 (fun v36 hP => ?_)
    refine mr_si hx hb hok hP 0 rfl d_M_deliver_177 (fun M37 H locs hP hok => ?_)
    refine lv_iconst (v := 1) hx hb d_M_deliver_178 (by decide) ?_
    exact mo_zret hx hb hr hlocks hok hP d_M_deliver_179
  have w_117 : ∀ (B_76 : mo_M → Nat → Int32 → Int32 → Int32 → Prop) (hB_76 : ∀ (M : mo_M) (x0 : Nat) (x1 : Int32) (x3 : Int32) (x4 : Int32) (H : Heap) (locs : List Loc) (ls : Array Slot), B_76 M x0 x1 x3 x4 → mo_ok L0 e0 D vwCl (mo_T g) s M H locs → lv_has ls 5 [(0, .ref x0), (1, .int x1), (3, .int x3), (4, .int x4)] → W p l e (headSpec ws_M_deliver (mo_R 2 0 0 48)).room s m args below meth c H locs 0 0 (mo_Z below (mo_Qi L0 e0 D vwCl (mo_T g) K) args s 0 0 L0) (F0 m 76 ls [])) (M : mo_M) (x0 : Nat) (x1 : Int32) (x3 : Int32) (x4 : Int32) (H : Heap) (locs : List Loc) (ls : Array Slot), pp_M_deliver_b117 g e0 K B_76 M x0 x1 x3 x4 → mo_ok L0 e0 D vwCl (mo_T g) s M H locs → lv_has ls 5 [(0, .ref x0), (1, .int x1), (3, .int x3), (4, .int x4)] → W p l e (headSpec ws_M_deliver (mo_R 2 0 0 48)).room s m args below meth c H locs 0 0 (mo_Z below (mo_Qi L0 e0 D vwCl (mo_T g) K) args s 0 0 L0) (F0 m 117 ls []) := by
    intro B_76 hB_76 M x0 x1 x3 x4 H locs ls hP hok hl
    unfold pp_M_deliver_b117 at hP
    refine lv_iinc (k := 3) (v := x4 + 1) (lv' := [(4, .int (x4 + 1)), (0, .ref x0), (1, .int x1), (3, .int x3)]) hx hb d_M_deliver_117 hl rfl rfl (by decide) rfl (fun ls hl => ?_)
    refine lv_goto (tgt := 76) hx hb d_M_deliver_120 (by decide) ?_
    exact hB_76 _ _ _ _ _ _ _ _ hP hok (lv_sub hl [1, 2, 3, 0] rfl)
  have w_76 : ∀ (n : Nat) (M : mo_M) (x0 : Nat) (x1 : Int32) (x3 : Int32) (x4 : Int32) (H : Heap) (locs : List Loc) (ls : Array Slot), pp_M_deliver_b76 g e0 K n M x0 x1 x3 x4 → mo_ok L0 e0 D vwCl (mo_T g) s M H locs → lv_has ls 5 [(0, .ref x0), (1, .int x1), (3, .int x3), (4, .int x4)] → W p l e (headSpec ws_M_deliver (mo_R 2 0 0 48)).room s m args below meth c H locs 0 0 (mo_Z below (mo_Qi L0 e0 D vwCl (mo_T g) K) args s 0 0 L0) (F0 m 76 ls []) := by
    intro n
    induction n with
    | zero => intro M x0 x1 x3 x4 H locs ls hP; exact hP.elim
    | succ n ih =>
      intro M x0 x1 x3 x4 H locs ls hP hok hl
      unfold pp_M_deliver_b76 at hP
      refine lv_iload hx hb d_M_deliver_76 (lv_at hl 3 rfl) ?_
      refine lv_aload_n hx hb d_M_deliver_78 rfl (lv_at hl 0 rfl) ?_
      refine mr_gi (C := "PurseHouseModel") (T := F_4) (N := 27) (ref := "PurseHouseModel") hx hb hts hown hok hP ui_4 rfl (by decide) (hts _ wd_635) (fun _ h => h) d_M_deliver_79 (fun v16 hP => ?_)
      refine lv_icmp_ge (tgt := 123) hx hb d_M_deliver_82 (by decide) (fun hc => ?_) (fun hc => ?_)
      · replace hP := hP.1 hc
        refine lv_aload_n hx hb d_M_deliver_123 rfl (lv_at hl 0 rfl) ?_
        refine mr_gr (C := "PurseHouseModel") (T := F_4) (N := 27) (ref := "PurseHouseModel") hx hb hts hown hok hP ui_4 rfl (by decide) (hts _ wd_628) (fun _ h => h) d_M_deliver_124 (fun v17 hP => ?_)
        refine lv_iload_n hx hb d_M_deliver_127 rfl (lv_at hl 2 rfl) ?_
        refine mr_ai hx hb hok hP 0 rfl d_M_deliver_128 (fun v18 hP => ?_)
        refine lv_iconst (v := 1) hx hb d_M_deliver_129 (by decide) ?_
        refine lv_icmp_ne (tgt := 158) hx hb d_M_deliver_130 (by decide) (fun hc => ?_) (fun hc => ?_)
        · replace hP := hP.2 hc
          exact w_158  _ _ _ _ _ _ hP hok (lv_sub hl [0, 2] rfl)
        · replace hP := hP.1 hc
          refine lv_aload_n hx hb d_M_deliver_133 rfl (lv_at hl 0 rfl) ?_
          refine lv_aload_n hx hb d_M_deliver_134 rfl (lv_at hl 0 rfl) ?_
          refine mr_gr (C := "PurseHouseModel") (T := F_4) (N := 27) (ref := "PurseHouseModel") hx hb hts hown hok hP ui_4 rfl (by decide) (hts _ wd_615) (fun _ h => h) d_M_deliver_135 (fun v19 hP => ?_)
          refine lv_iload_n hx hb d_M_deliver_138 rfl (lv_at hl 1 rfl) ?_
          refine mr_ai hx hb hok hP 0 rfl d_M_deliver_139 (fun v20 hP => ?_)
          refine lv_aload_n hx hb d_M_deliver_140 rfl (lv_at hl 0 rfl) ?_
          refine mr_gr (C := "PurseHouseModel") (T := F_4) (N := 27) (ref := "PurseHouseModel") hx hb hts hown hok hP ui_4 rfl (by decide) (hts _ wd_630) (fun _ h => h) d_M_deliver_141 (fun v21 hP => ?_)
          refine lv_iload_n hx hb d_M_deliver_144 rfl (lv_at hl 2 rfl) ?_
          refine mr_ai hx hb hok hP 0 rfl d_M_deliver_145 (fun v22 hP => ?_)
          refine lv_aload_n hx hb d_M_deliver_146 rfl (lv_at hl 0 rfl) ?_
          refine mr_gr (C := "PurseHouseModel") (T := F_4) (N := 27) (ref := "PurseHouseModel") hx hb hts hown hok hP ui_4 rfl (by decide) (hts _ wd_631) (fun _ h => h) d_M_deliver_147 (fun v23 hP => ?_)
          refine lv_iload_n hx hb d_M_deliver_150 rfl (lv_at hl 2 rfl) ?_
          refine mr_ai hx hb hok hP 0 rfl d_M_deliver_151 (fun v24 hP => ?_)
          refine lv_i2l hx hb d_M_deliver_152 rfl ?_
          refine lv_lconst (v := 0) hx hb d_M_deliver_153 (by decide) ?_
          refine lv_lconst (v := 0) hx hb d_M_deliver_154 (by decide) ?_
          obtain ⟨⟨fs9, he9⟩, hP⟩ := hP
          refine mo_callv hok (va_runV (As := [.int v20, .int v22, .long v24.toInt64, .long ((0 : Int64)), .long ((0 : Int64))]) (rest := []) ⟨hx, hb, hml, hown, hts⟩ (cc_M_note l L0 D hP) ⟨(callB_of 5 hts (lw_gi wd_724) rfl rfl rfl (hts _ wd_39) (hts _ wd_721) (by decide +kernel) ⟨Nat.le_of_ble_eq_true rfl, Nat.le_of_ble_eq_true rfl⟩), hts _ wd_723, hts _ wd_16⟩ (mo_preV hok he9 rfl [.int v20, .int v22, .long v24.toInt64, .long ((0 : Int64)), .long ((0 : Int64))]) rfl rfl hl.1 rfl (lv_room (Nat.le_of_ble_eq_true rfl)) d_M_deliver_155 ⟨Nat.zero_le _, Nat.zero_le _⟩) (fun M25 H locs hP hok => ?_)
          exact w_158  _ _ _ _ _ _ hP hok (lv_sub hl [0, 2] rfl)
      · replace hP := hP.2 hc
        refine lv_aload_n hx hb d_M_deliver_85 rfl (lv_at hl 0 rfl) ?_
        refine mr_gr (C := "PurseHouseModel") (T := F_4) (N := 27) (ref := "PurseHouseModel") hx hb hts hown hok hP ui_4 rfl (by decide) (hts _ wd_628) (fun _ h => h) d_M_deliver_86 (fun v26 hP => ?_)
        refine lv_iload_n hx hb d_M_deliver_89 rfl (lv_at hl 2 rfl) ?_
        refine mr_ai hx hb hok hP 0 rfl d_M_deliver_90 (fun v27 hP => ?_)
        refine lv_iconst (v := 3) hx hb d_M_deliver_91 (by decide) ?_
        refine lv_icmp_eq (tgt := 117) hx hb d_M_deliver_92 (by decide) (fun hc => ?_) (fun hc => ?_)
        · replace hP := hP.1 hc
          exact w_117 _ ih _ _ _ _ _ _ _ _ hP hok (lv_sub hl [0, 1, 2, 3] rfl)
        · replace hP := hP.2 hc
          refine lv_aload_n hx hb d_M_deliver_95 rfl (lv_at hl 0 rfl) ?_
          refine lv_iload_n hx hb d_M_deliver_96 rfl (lv_at hl 2 rfl) ?_
          refine lv_iload hx hb d_M_deliver_97 (lv_at hl 3 rfl) ?_
          obtain ⟨⟨fs9, he9⟩, hP⟩ := hP
          refine mo_calli hok (va_runV (As := [.int x3, .int x4]) (rest := []) ⟨hx, hb, hml, hown, hts⟩ (cc_M_isMarked l L0 D hP) ⟨(callB_of 2 hts (lw_gi wd_776) rfl rfl rfl (hts _ wd_39) (hts _ wd_773) (by decide +kernel) ⟨Nat.le_of_ble_eq_true rfl, Nat.le_of_ble_eq_true rfl⟩), hts _ wd_775, hts _ wd_25⟩ (mo_preV hok he9 rfl [.int x3, .int x4]) rfl rfl hl.1 rfl (lv_room (Nat.le_of_ble_eq_true rfl)) d_M_deliver_99 ⟨Nat.zero_le _, Nat.zero_le _⟩) (fun r29 M28 H locs hP hok => ?_)
          refine lv_if_eq (tgt := 117) hx hb d_M_deliver_102 (by decide) (fun hc => ?_) (fun hc => ?_)
          · replace hP := hP.1 hc
            exact w_117 _ ih _ _ _ _ _ _ _ _ hP hok (lv_sub hl [0, 1, 2, 3] rfl)
          · replace hP := hP.2 hc
            refine lv_aload_n hx hb d_M_deliver_105 rfl (lv_at hl 0 rfl) ?_
            refine lv_iload hx hb d_M_deliver_106 (lv_at hl 3 rfl) ?_
            refine lv_aload_n hx hb d_M_deliver_108 rfl (lv_at hl 0 rfl) ?_
            refine mr_gr (C := "PurseHouseModel") (T := F_4) (N := 27) (ref := "PurseHouseModel") hx hb hts hown hok hP ui_4 rfl (by decide) (hts _ wd_615) (fun _ h => h) d_M_deliver_109 (fun v30 hP => ?_)
            refine lv_iload_n hx hb d_M_deliver_112 rfl (lv_at hl 1 rfl) ?_
            refine mr_ai hx hb hok hP 0 rfl d_M_deliver_113 (fun v31 hP => ?_)
            obtain ⟨⟨fs9, he9⟩, hP⟩ := hP
            refine mo_callv hok (va_runV (As := [.int x4, .int v31]) (rest := []) ⟨hx, hb, hml, hown, hts⟩ (cc_M_record l L0 D hP) ⟨(callB_of 2 hts (lw_gi wd_768) rfl rfl rfl (hts _ wd_39) (hts _ wd_765) (by decide +kernel) ⟨Nat.le_of_ble_eq_true rfl, Nat.le_of_ble_eq_true rfl⟩), hts _ wd_767, hts _ wd_23⟩ (mo_preV hok he9 rfl [.int x4, .int v31]) rfl rfl hl.1 rfl (lv_room (Nat.le_of_ble_eq_true rfl)) d_M_deliver_114 ⟨Nat.zero_le _, Nat.zero_le _⟩) (fun M32 H locs hP hok => ?_)
            exact w_117 _ ih _ _ _ _ _ _ _ _ hP hok (lv_sub hl [0, 1, 2, 3] rfl)
  have w_73 : ∀ (M : mo_M) (x0 : Nat) (x1 : Int32) (x3 : Int32) (H : Heap) (locs : List Loc) (ls : Array Slot), pp_M_deliver_b73 g e0 K M x0 x1 x3 → mo_ok L0 e0 D vwCl (mo_T g) s M H locs → lv_has ls 5 [(0, .ref x0), (1, .int x1), (3, .int x3)] → W p l e (headSpec ws_M_deliver (mo_R 2 0 0 48)).room s m args below meth c H locs 0 0 (mo_Z below (mo_Qi L0 e0 D vwCl (mo_T g) K) args s 0 0 L0) (F0 m 73 ls []) := by
    intro M x0 x1 x3 H locs ls hP hok hl
    unfold pp_M_deliver_b73 at hP
    refine lv_iconst (v := 0) hx hb d_M_deliver_73 (by decide) ?_
    refine lv_istore (lv' := [(4, .int ((0 : Int32))), (0, .ref x0), (1, .int x1), (3, .int x3)]) hx hb d_M_deliver_74 hl (by decide) rfl (fun ls hl => ?_)
    obtain ⟨n15, hP⟩ := hP
    exact w_76  n15 _ _ _ _ _ _ _ _ hP hok (lv_sub hl [1, 2, 3, 0] rfl)
  have w_47 : ∀ (M : mo_M) (x0 : Nat) (x1 : Int32) (x3 : Int32) (H : Heap) (locs : List Loc) (ls : Array Slot), pp_M_deliver_b47 g e0 K M x0 x1 x3 → mo_ok L0 e0 D vwCl (mo_T g) s M H locs → lv_has ls 5 [(0, .ref x0), (1, .int x1), (3, .int x3)] → W p l e (headSpec ws_M_deliver (mo_R 2 0 0 48)).room s m args below meth c H locs 0 0 (mo_Z below (mo_Qi L0 e0 D vwCl (mo_T g) K) args s 0 0 L0) (F0 m 47 ls []) := by
    intro M x0 x1 x3 H locs ls hP hok hl
    unfold pp_M_deliver_b47 at hP
    refine lv_aload_n hx hb d_M_deliver_47 rfl (lv_at hl 0 rfl) ?_
    refine mr_gr (C := "PurseHouseModel") (T := F_4) (N := 27) (ref := "PurseHouseModel") hx hb hts hown hok hP ui_4 rfl (by decide) (hts _ wd_628) (fun _ h => h) d_M_deliver_48 (fun v8 hP => ?_)
    refine lv_iload_n hx hb d_M_deliver_51 rfl (lv_at hl 2 rfl) ?_
    refine mr_ai hx hb hok hP 0 rfl d_M_deliver_52 (fun v9 hP => ?_)
    refine lv_iconst (v := 3) hx hb d_M_deliver_53 (by decide) ?_
    refine lv_icmp_ne (tgt := 73) hx hb d_M_deliver_54 (by decide) (fun hc => ?_) (fun hc => ?_)
    · replace hP := hP.2 hc
      exact w_73  _ _ _ _ _ _ _ hP hok (lv_sub hl [0, 1, 2] rfl)
    · replace hP := hP.1 hc
      refine lv_aload_n hx hb d_M_deliver_57 rfl (lv_at hl 0 rfl) ?_
      refine lv_aload_n hx hb d_M_deliver_58 rfl (lv_at hl 0 rfl) ?_
      refine mr_gr (C := "PurseHouseModel") (T := F_4) (N := 27) (ref := "PurseHouseModel") hx hb hts hown hok hP ui_4 rfl (by decide) (hts _ wd_632) (fun _ h => h) d_M_deliver_59 (fun v10 hP => ?_)
      refine lv_iload_n hx hb d_M_deliver_62 rfl (lv_at hl 2 rfl) ?_
      refine mr_ai hx hb hok hP 0 rfl d_M_deliver_63 (fun v11 hP => ?_)
      refine lv_aload_n hx hb d_M_deliver_64 rfl (lv_at hl 0 rfl) ?_
      refine mr_gr (C := "PurseHouseModel") (T := F_4) (N := 27) (ref := "PurseHouseModel") hx hb hts hown hok hP ui_4 rfl (by decide) (hts _ wd_615) (fun _ h => h) d_M_deliver_65 (fun v12 hP => ?_)
      refine lv_iload_n hx hb d_M_deliver_68 rfl (lv_at hl 1 rfl) ?_
      refine mr_ai hx hb hok hP 0 rfl d_M_deliver_69 (fun v13 hP => ?_)
      obtain ⟨⟨fs9, he9⟩, hP⟩ := hP
      refine mo_callv hok (va_runV (As := [.int v11, .int v13]) (rest := []) ⟨hx, hb, hml, hown, hts⟩ (cc_M_record l L0 D hP) ⟨(callB_of 2 hts (lw_gi wd_768) rfl rfl rfl (hts _ wd_39) (hts _ wd_765) (by decide +kernel) ⟨Nat.le_of_ble_eq_true rfl, Nat.le_of_ble_eq_true rfl⟩), hts _ wd_767, hts _ wd_23⟩ (mo_preV hok he9 rfl [.int v11, .int v13]) rfl rfl hl.1 rfl (lv_room (Nat.le_of_ble_eq_true rfl)) d_M_deliver_70 ⟨Nat.zero_le _, Nat.zero_le _⟩) (fun M14 H locs hP hok => ?_)
      exact w_73  _ _ _ _ _ _ _ hP hok (lv_sub hl [0, 1, 2] rfl)
  have w_27 : ∀ (M : mo_M) (x0 : Nat) (x1 : Int32) (x2 : Int32) (s0 : Int32) (H : Heap) (locs : List Loc) (ls : Array Slot), pp_M_deliver_b27 g e0 K M x0 x1 x2 s0 → mo_ok L0 e0 D vwCl (mo_T g) s M H locs → lv_has ls 5 [(0, .ref x0), (1, .int x1), (2, .int x2)] → W p l e (headSpec ws_M_deliver (mo_R 2 0 0 48)).room s m args below meth c H locs 0 0 (mo_Z below (mo_Qi L0 e0 D vwCl (mo_T g) K) args s 0 0 L0) (F0 m 27 ls [.int s0]) := by
    intro M x0 x1 x2 s0 H locs ls hP hok hl
    unfold pp_M_deliver_b27 at hP
    refine lv_istore_n (lv' := [(3, .int s0), (0, .ref x0), (1, .int x1), (2, .int x2)]) hx hb d_M_deliver_27 rfl hl (by decide) rfl (fun ls hl => ?_)
    refine lv_iload_n hx hb d_M_deliver_28 rfl (lv_at hl 0 rfl) ?_
    refine lv_if_lt (tgt := 45) hx hb d_M_deliver_29 (by decide) (fun hc => ?_) (fun hc => ?_)
    · replace hP := hP.1 hc
      refine lv_iconst (v := 0) hx hb d_M_deliver_45 (by decide) ?_
      exact mo_zret hx hb hr hlocks hok hP d_M_deliver_46
    · replace hP := hP.2 hc
      refine lv_aload_n hx hb d_M_deliver_32 rfl (lv_at hl 1 rfl) ?_
      refine mr_gr (C := "PurseHouseModel") (T := F_4) (N := 27) (ref := "PurseHouseModel") hx hb hts hown hok hP ui_4 rfl (by decide) (hts _ wd_616) (fun _ h => h) d_M_deliver_33 (fun v6 hP => ?_)
      refine lv_iload_n hx hb d_M_deliver_36 rfl (lv_at hl 2 rfl) ?_
      refine mr_az hx hb hok hP 2 rfl d_M_deliver_37 (fun v7 hP => ?_)
      refine lv_if_eq (tgt := 47) hx hb d_M_deliver_38 (by decide) (fun hc => ?_) (fun hc => ?_)
      · replace hP := hP.1 hc
        exact w_47  _ _ _ _ _ _ _ hP hok (lv_sub hl [1, 2, 0] rfl)
      · replace hP := hP.2 hc
        refine lv_iload_n hx hb d_M_deliver_41 rfl (lv_at hl 3 rfl) ?_
        refine lv_if_le (tgt := 47) hx hb d_M_deliver_42 (by decide) (fun hc => ?_) (fun hc => ?_)
        · replace hP := hP.1 hc
          exact w_47  _ _ _ _ _ _ _ hP hok (lv_sub hl [1, 2, 0] rfl)
        · replace hP := hP.2 hc
          refine lv_iconst (v := 0) hx hb d_M_deliver_45 (by decide) ?_
          exact mo_zret hx hb hr hlocks hok hP d_M_deliver_46
  have w_26 : ∀ (M : mo_M) (x0 : Nat) (x1 : Int32) (x2 : Int32) (H : Heap) (locs : List Loc) (ls : Array Slot), pp_M_deliver_b26 g e0 K M x0 x1 x2 → mo_ok L0 e0 D vwCl (mo_T g) s M H locs → lv_has ls 5 [(0, .ref x0), (1, .int x1), (2, .int x2)] → W p l e (headSpec ws_M_deliver (mo_R 2 0 0 48)).room s m args below meth c H locs 0 0 (mo_Z below (mo_Qi L0 e0 D vwCl (mo_T g) K) args s 0 0 L0) (F0 m 26 ls []) := by
    intro M x0 x1 x2 H locs ls hP hok hl
    unfold pp_M_deliver_b26 at hP
    refine lv_iconst (v := (-1)) hx hb d_M_deliver_26 (by decide) ?_
    exact w_27  _ _ _ _ _ _ _ _ hP hok (lv_sub hl [0, 1, 2] rfl)
  have hok : mo_ok L0 e0 D vwCl (mo_T g) s M s.heap [] := ⟨hB0.1, hB0.2.1, hB0.2.2, va_S.rf⟩
  have hl := lv_entry ([.ref x0, .int x1, .int x2]) (n := 5) (Nat.le_of_ble_eq_true rfl)
  rw [hv1, lg_entry_eq]
  rw [← hv1]
  generalize (lg_sl [.ref x0, .int x1, .int x2] ++ List.replicate (5 - (lg_sl [.ref x0, .int x1, .int x2]).length) Slot.unset).toArray = ls at hl ⊢
  have hl : lv_has ls 5 [(0, .ref x0), (1, .int x1), (2, .int x2)] := hl
  unfold pp_M_deliver at hP
  refine lv_aload_n hx hb d_M_deliver_0 rfl (lv_at hl 0 rfl) ?_
  refine lv_iconst (v := 0) hx hb d_M_deliver_1 (by decide) ?_
  refine mr_pt (C := "PurseHouseModel") (T := F_4) (N := 27) (ref := "PurseHouseModel") (ty := .int) hx hb hts hown hok hP ui_4 ty_4 th_4 tn_4 rfl (by decide) (hts _ wd_610) (fun _ h => h) rfl (by decide +kernel) rfl rfl d_M_deliver_2 (fun M1 H locs hP hok => ?_)
  refine lv_aload_n hx hb d_M_deliver_5 rfl (lv_at hl 0 rfl) ?_
  refine lv_iload_n hx hb d_M_deliver_6 rfl (lv_at hl 1 rfl) ?_
  obtain ⟨⟨fs9, he9⟩, hP⟩ := hP
  refine mo_calli hok (va_runV (As := [.int x1]) (rest := []) ⟨hx, hb, hml, hown, hts⟩ (cc_M_isLink l L0 D hP) ⟨(callB_of 1 hts (lw_gi wd_748) rfl rfl rfl (hts _ wd_39) (hts _ wd_745) (by decide +kernel) ⟨Nat.le_of_ble_eq_true rfl, Nat.le_of_ble_eq_true rfl⟩), hts _ wd_747, hts _ wd_19⟩ (mo_preV hok he9 rfl [.int x1]) rfl rfl hl.1 rfl (lv_room (Nat.le_of_ble_eq_true rfl)) d_M_deliver_7 ⟨Nat.zero_le _, Nat.zero_le _⟩) (fun r3 M2 H locs hP hok => ?_)
  refine lv_if_eq (tgt := 26) hx hb d_M_deliver_10 (by decide) (fun hc => ?_) (fun hc => ?_)
  · replace hP := hP.1 hc
    exact w_26  _ _ _ _ _ _ _ hP hok (lv_sub hl [0, 1, 2] rfl)
  · replace hP := hP.2 hc
    refine lv_iload_n hx hb d_M_deliver_13 rfl (lv_at hl 2 rfl) ?_
    refine lv_if_lt (tgt := 26) hx hb d_M_deliver_14 (by decide) (fun hc => ?_) (fun hc => ?_)
    · replace hP := hP.1 hc
      exact w_26  _ _ _ _ _ _ _ hP hok (lv_sub hl [0, 1, 2] rfl)
    · replace hP := hP.2 hc
      refine lv_aload_n hx hb d_M_deliver_17 rfl (lv_at hl 0 rfl) ?_
      refine lv_iload_n hx hb d_M_deliver_18 rfl (lv_at hl 1 rfl) ?_
      refine lv_iload_n hx hb d_M_deliver_19 rfl (lv_at hl 2 rfl) ?_
      obtain ⟨⟨fs9, he9⟩, hP⟩ := hP
      refine mo_calli hok (va_runV (As := [.int x1, .int x2]) (rest := []) ⟨hx, hb, hml, hown, hts⟩ (cc_M_thingAt l L0 D hP) ⟨(callB_of 2 hts (lw_gi wd_764) rfl rfl rfl (hts _ wd_39) (hts _ wd_761) (by decide +kernel) ⟨Nat.le_of_ble_eq_true rfl, Nat.le_of_ble_eq_true rfl⟩), hts _ wd_763, hts _ wd_22⟩ (mo_preV hok he9 rfl [.int x1, .int x2]) rfl rfl hl.1 rfl (lv_room (Nat.le_of_ble_eq_true rfl)) d_M_deliver_20 ⟨Nat.zero_le _, Nat.zero_le _⟩) (fun r5 M4 H locs hP hok => ?_)
      refine lv_goto (tgt := 27) hx hb d_M_deliver_23 (by decide) ?_
      exact w_27  _ _ _ _ _ _ _ _ hP hok (lv_sub hl [0, 1, 2] rfl)

abbrev b_M_snap : ByteArray := prog_6_method_26_code
def y_M_snap : MethodName := ⟨"PurseHouseModel", "snap", "(I)I"⟩
def ws_M_snap : List Cond := .code y_M_snap b_M_snap 2 (Option.some Jvm.ClassFile.FieldType.int) :: lw_g
theorem d_M_snap_0 : decode b_M_snap 0 = .ok (.aload_n 0, 1) := by decide +kernel
theorem d_M_snap_1 : decode b_M_snap 1 = .ok (.iconst 0, 1) := by decide +kernel
theorem d_M_snap_2 : decode b_M_snap 2 = .ok (.putfield 76, 3) := by decide +kernel
theorem d_M_snap_5 : decode b_M_snap 5 = .ok (.aload_n 0, 1) := by decide +kernel
theorem d_M_snap_6 : decode b_M_snap 6 = .ok (.iload_n 1, 1) := by decide +kernel
theorem d_M_snap_7 : decode b_M_snap 7 = .ok (.invokevirtual 86, 3) := by decide +kernel
theorem d_M_snap_10 : decode b_M_snap 10 = .ok (.ifCond .eq 12, 3) := by decide +kernel
theorem d_M_snap_13 : decode b_M_snap 13 = .ok (.aload_n 0, 1) := by decide +kernel
theorem d_M_snap_14 : decode b_M_snap 14 = .ok (.getfield 82, 3) := by decide +kernel
theorem d_M_snap_17 : decode b_M_snap 17 = .ok (.bipush 16, 2) := by decide +kernel
theorem d_M_snap_19 : decode b_M_snap 19 = .ok (.if_icmp .ne 5, 3) := by decide +kernel
theorem d_M_snap_22 : decode b_M_snap 22 = .ok (.iconst (-1), 1) := by decide +kernel
theorem d_M_snap_23 : decode b_M_snap 23 = .ok (.ireturn, 1) := by decide +kernel
theorem d_M_snap_24 : decode b_M_snap 24 = .ok (.aload_n 0, 1) := by decide +kernel
theorem d_M_snap_25 : decode b_M_snap 25 = .ok (.dup, 1) := by decide +kernel
theorem d_M_snap_26 : decode b_M_snap 26 = .ok (.getfield 82, 3) := by decide +kernel
theorem d_M_snap_29 : decode b_M_snap 29 = .ok (.iconst 1, 1) := by decide +kernel
theorem d_M_snap_30 : decode b_M_snap 30 = .ok (.iadd, 1) := by decide +kernel
theorem d_M_snap_31 : decode b_M_snap 31 = .ok (.putfield 82, 3) := by decide +kernel
theorem d_M_snap_34 : decode b_M_snap 34 = .ok (.aload_n 0, 1) := by decide +kernel
theorem d_M_snap_35 : decode b_M_snap 35 = .ok (.aload_n 0, 1) := by decide +kernel
theorem d_M_snap_36 : decode b_M_snap 36 = .ok (.getfield 82, 3) := by decide +kernel
theorem d_M_snap_39 : decode b_M_snap 39 = .ok (.iconst 1, 1) := by decide +kernel
theorem d_M_snap_40 : decode b_M_snap 40 = .ok (.isub, 1) := by decide +kernel
theorem d_M_snap_41 : decode b_M_snap 41 = .ok (.iload_n 1, 1) := by decide +kernel
theorem d_M_snap_42 : decode b_M_snap 42 = .ok (.invokevirtual 136, 3) := by decide +kernel
theorem d_M_snap_45 : decode b_M_snap 45 = .ok (.aload_n 0, 1) := by decide +kernel
theorem d_M_snap_46 : decode b_M_snap 46 = .ok (.getfield 82, 3) := by decide +kernel
theorem d_M_snap_49 : decode b_M_snap 49 = .ok (.iconst 1, 1) := by decide +kernel
theorem d_M_snap_50 : decode b_M_snap 50 = .ok (.isub, 1) := by decide +kernel
theorem d_M_snap_51 : decode b_M_snap 51 = .ok (.ireturn, 1) := by decide +kernel
def pp_M_snap (g : Nat → ClassId) (e0 : Nat → Nat) (K : Int32 → mo_M → Prop) (M : mo_M) (x0 : Nat) (x1 : Int32) : Prop := mp_pt M x0 4 0 (.int ((0 : Int32))) (fun M1 => (mp_is M1 x0 4 ∧ pp_M_isKiosk g e0 (fun r3 M2 => ((r3 = 0 → K ((-1 : Int32)) M2) ∧ (¬ (r3 = 0) → mp_gi M2 x0 4 25 (fun v4 => ((v4 = ((16 : Int32)) → K ((-1 : Int32)) M2) ∧ (¬ (v4 = ((16 : Int32))) → mp_gi M2 x0 4 25 (fun v5 => mp_pt M2 x0 4 25 (.int ((v5 + ((1 : Int32))))) (fun M6 => mp_gi M6 x0 4 25 (fun v7 => (mp_is M6 x0 4 ∧ pp_M_record g e0 (fun M8 => mp_gi M8 x0 4 25 (fun v9 => K ((v9 - ((1 : Int32)))) M8)) M6 x0 ((v7 - ((1 : Int32)))) x1)))))))))) M1 x0 x1))
set_option maxHeartbeats 4000000 in
set_option maxRecDepth 100000 in
theorem cc_M_snap (l : Launch) (L0 : Nat) (D : va_G) {g : Nat → ClassId} {e0 : Nat → Nat} {K : Int32 → mo_M → Prop} {M : mo_M} {x0 : Nat} {x1 : Int32} (hP : pp_M_snap g e0 K M x0 x1) : Met l y_M_snap ws_M_snap (mo_R 2 0 0 48) (va_Pc [.ref x0, .int x1] (fun U => mo_B L0 e0 D vwCl (mo_T g) M U)) (mo_Qi L0 e0 D vwCl (mo_T g) K) 0 0 (fun q => L0 ≤ q) := by
  refine Met.ofW (cc := b_M_snap) (maxL := 2) (ret := (Option.some Jvm.ClassFile.FieldType.int)) (by decide +kernel) rfl ?_
  intro p e s m args below meth c s₁ B hml hv
  obtain ⟨hv1, hB0⟩ := hv
  have hx := B.exec
  have hb := B.bytes
  have hr := B.returns
  have hts : ∀ w ∈ lw_g, w.before args s = true := fun w hw => atoms_spec (ws := ws_M_snap) B.pre w (List.mem_cons_of_mem _ hw)
  have hown : s.vm.findClass "PurseHouseModel" = some m.cls := findClass_of_methodNamed B.named
  have hlocks := B.notSynchronized
  have hok : mo_ok L0 e0 D vwCl (mo_T g) s M s.heap [] := ⟨hB0.1, hB0.2.1, hB0.2.2, va_S.rf⟩
  have hl := lv_entry ([.ref x0, .int x1]) (n := 2) (Nat.le_of_ble_eq_true rfl)
  rw [hv1, lg_entry_eq]
  rw [← hv1]
  generalize (lg_sl [.ref x0, .int x1] ++ List.replicate (2 - (lg_sl [.ref x0, .int x1]).length) Slot.unset).toArray = ls at hl ⊢
  have hl : lv_has ls 2 [(0, .ref x0), (1, .int x1)] := hl
  unfold pp_M_snap at hP
  refine lv_aload_n hx hb d_M_snap_0 rfl (lv_at hl 0 rfl) ?_
  refine lv_iconst (v := 0) hx hb d_M_snap_1 (by decide) ?_
  refine mr_pt (C := "PurseHouseModel") (T := F_4) (N := 27) (ref := "PurseHouseModel") (ty := .int) hx hb hts hown hok hP ui_4 ty_4 th_4 tn_4 rfl (by decide) (hts _ wd_610) (fun _ h => h) rfl (by decide +kernel) rfl rfl d_M_snap_2 (fun M1 H locs hP hok => ?_)
  refine lv_aload_n hx hb d_M_snap_5 rfl (lv_at hl 0 rfl) ?_
  refine lv_iload_n hx hb d_M_snap_6 rfl (lv_at hl 1 rfl) ?_
  obtain ⟨⟨fs9, he9⟩, hP⟩ := hP
  refine mo_calli hok (va_runV (As := [.int x1]) (rest := []) ⟨hx, hb, hml, hown, hts⟩ (cc_M_isKiosk l L0 D hP) ⟨(callB_of 1 hts (lw_gi wd_704) rfl rfl rfl (hts _ wd_39) (hts _ wd_701) (by decide +kernel) ⟨Nat.le_of_ble_eq_true rfl, Nat.le_of_ble_eq_true rfl⟩), hts _ wd_703, hts _ wd_15⟩ (mo_preV hok he9 rfl [.int x1]) rfl rfl hl.1 rfl (lv_room (Nat.le_of_ble_eq_true rfl)) d_M_snap_7 ⟨Nat.zero_le _, Nat.zero_le _⟩) (fun r3 M2 H locs hP hok => ?_)
  refine lv_if_eq (tgt := 22) hx hb d_M_snap_10 (by decide) (fun hc => ?_) (fun hc => ?_)
  · replace hP := hP.1 hc
    refine lv_iconst (v := (-1)) hx hb d_M_snap_22 (by decide) ?_
    exact mo_iret hx hb hr hlocks hok hP d_M_snap_23
  · replace hP := hP.2 hc
    refine lv_aload_n hx hb d_M_snap_13 rfl (lv_at hl 0 rfl) ?_
    refine mr_gi (C := "PurseHouseModel") (T := F_4) (N := 27) (ref := "PurseHouseModel") hx hb hts hown hok hP ui_4 rfl (by decide) (hts _ wd_635) (fun _ h => h) d_M_snap_14 (fun v4 hP => ?_)
    refine lv_bipush (v := 16) hx hb d_M_snap_17 (by decide) ?_
    refine lv_icmp_ne (tgt := 24) hx hb d_M_snap_19 (by decide) (fun hc => ?_) (fun hc => ?_)
    · replace hP := hP.2 hc
      refine lv_aload_n hx hb d_M_snap_24 rfl (lv_at hl 0 rfl) ?_
      refine lv_dup hx hb d_M_snap_25 rfl ?_
      refine mr_gi (C := "PurseHouseModel") (T := F_4) (N := 27) (ref := "PurseHouseModel") hx hb hts hown hok hP ui_4 rfl (by decide) (hts _ wd_635) (fun _ h => h) d_M_snap_26 (fun v5 hP => ?_)
      refine lv_iconst (v := 1) hx hb d_M_snap_29 (by decide) ?_
      refine lv_iadd hx hb d_M_snap_30 ?_
      refine mr_pt (C := "PurseHouseModel") (T := F_4) (N := 27) (ref := "PurseHouseModel") (ty := .int) hx hb hts hown hok hP ui_4 ty_4 th_4 tn_4 rfl (by decide) (hts _ wd_635) (fun _ h => h) rfl (by decide +kernel) rfl rfl d_M_snap_31 (fun M6 H locs hP hok => ?_)
      refine lv_aload_n hx hb d_M_snap_34 rfl (lv_at hl 0 rfl) ?_
      refine lv_aload_n hx hb d_M_snap_35 rfl (lv_at hl 0 rfl) ?_
      refine mr_gi (C := "PurseHouseModel") (T := F_4) (N := 27) (ref := "PurseHouseModel") hx hb hts hown hok hP ui_4 rfl (by decide) (hts _ wd_635) (fun _ h => h) d_M_snap_36 (fun v7 hP => ?_)
      refine lv_iconst (v := 1) hx hb d_M_snap_39 (by decide) ?_
      refine lv_isub hx hb d_M_snap_40 ?_
      refine lv_iload_n hx hb d_M_snap_41 rfl (lv_at hl 1 rfl) ?_
      obtain ⟨⟨fs9, he9⟩, hP⟩ := hP
      refine mo_callv hok (va_runV (As := [.int ((v7 - ((1 : Int32)))), .int x1]) (rest := []) ⟨hx, hb, hml, hown, hts⟩ (cc_M_record l L0 D hP) ⟨(callB_of 2 hts (lw_gi wd_768) rfl rfl rfl (hts _ wd_39) (hts _ wd_765) (by decide +kernel) ⟨Nat.le_of_ble_eq_true rfl, Nat.le_of_ble_eq_true rfl⟩), hts _ wd_767, hts _ wd_23⟩ (mo_preV hok he9 rfl [.int ((v7 - ((1 : Int32)))), .int x1]) rfl rfl hl.1 rfl (lv_room (Nat.le_of_ble_eq_true rfl)) d_M_snap_42 ⟨Nat.zero_le _, Nat.zero_le _⟩) (fun M8 H locs hP hok => ?_)
      refine lv_aload_n hx hb d_M_snap_45 rfl (lv_at hl 0 rfl) ?_
      refine mr_gi (C := "PurseHouseModel") (T := F_4) (N := 27) (ref := "PurseHouseModel") hx hb hts hown hok hP ui_4 rfl (by decide) (hts _ wd_635) (fun _ h => h) d_M_snap_46 (fun v9 hP => ?_)
      refine lv_iconst (v := 1) hx hb d_M_snap_49 (by decide) ?_
      refine lv_isub hx hb d_M_snap_50 ?_
      exact mo_iret hx hb hr hlocks hok hP d_M_snap_51
    · replace hP := hP.1 hc
      refine lv_iconst (v := (-1)) hx hb d_M_snap_22 (by decide) ?_
      exact mo_iret hx hb hr hlocks hok hP d_M_snap_23

abbrev b_M_stock : ByteArray := prog_6_method_27_code
def y_M_stock : MethodName := ⟨"PurseHouseModel", "stock", "(II)J"⟩
def ws_M_stock : List Cond := .code y_M_stock b_M_stock 3 (Option.some Jvm.ClassFile.FieldType.long) :: lw_g
theorem d_M_stock_0 : decode b_M_stock 0 = .ok (.aload_n 0, 1) := by decide +kernel
theorem d_M_stock_1 : decode b_M_stock 1 = .ok (.iconst 0, 1) := by decide +kernel
theorem d_M_stock_2 : decode b_M_stock 2 = .ok (.putfield 76, 3) := by decide +kernel
theorem d_M_stock_5 : decode b_M_stock 5 = .ok (.aload_n 0, 1) := by decide +kernel
theorem d_M_stock_6 : decode b_M_stock 6 = .ok (.iload_n 1, 1) := by decide +kernel
theorem d_M_stock_7 : decode b_M_stock 7 = .ok (.invokevirtual 86, 3) := by decide +kernel
theorem d_M_stock_10 : decode b_M_stock 10 = .ok (.ifCond .eq 23, 3) := by decide +kernel
theorem d_M_stock_13 : decode b_M_stock 13 = .ok (.iload_n 2, 1) := by decide +kernel
theorem d_M_stock_14 : decode b_M_stock 14 = .ok (.invokestatic 90, 3) := by decide +kernel
theorem d_M_stock_17 : decode b_M_stock 17 = .ok (.ifCond .eq 16, 3) := by decide +kernel
theorem d_M_stock_20 : decode b_M_stock 20 = .ok (.aload_n 0, 1) := by decide +kernel
theorem d_M_stock_21 : decode b_M_stock 21 = .ok (.iload_n 1, 1) := by decide +kernel
theorem d_M_stock_22 : decode b_M_stock 22 = .ok (.iload_n 2, 1) := by decide +kernel
theorem d_M_stock_23 : decode b_M_stock 23 = .ok (.aload_n 0, 1) := by decide +kernel
theorem d_M_stock_24 : decode b_M_stock 24 = .ok (.getfield 94, 3) := by decide +kernel
theorem d_M_stock_27 : decode b_M_stock 27 = .ok (.invokevirtual 107, 3) := by decide +kernel
theorem d_M_stock_30 : decode b_M_stock 30 = .ok (.goto 4, 3) := by decide +kernel
theorem d_M_stock_33 : decode b_M_stock 33 = .ok (.lconst 0, 1) := by decide +kernel
theorem d_M_stock_34 : decode b_M_stock 34 = .ok (.lreturn, 1) := by decide +kernel
def pp_M_stock (g : Nat → ClassId) (e0 : Nat → Nat) (K : Int64 → mo_M → Prop) (M : mo_M) (x0 : Nat) (x1 : Int32) (x2 : Int32) : Prop := mp_pt M x0 4 0 (.int ((0 : Int32))) (fun M1 => (mp_is M1 x0 4 ∧ pp_M_isKiosk g e0 (fun r3 M2 => ((r3 = 0 → K ((0 : Int64)) M2) ∧ (¬ (r3 = 0) → pp_M_isCurrency g e0 (fun r5 M4 => ((r5 = 0 → K ((0 : Int64)) M4) ∧ (¬ (r5 = 0) → mp_gi M4 x0 4 2 (fun v6 => (mp_is M4 x0 4 ∧ pp_M_stockAt g e0 (fun r8 M7 => K r8 M7) M4 x0 x1 x2 v6))))) M2 x2))) M1 x0 x1))
set_option maxHeartbeats 4000000 in
set_option maxRecDepth 100000 in
theorem cc_M_stock (l : Launch) (L0 : Nat) (D : va_G) {g : Nat → ClassId} {e0 : Nat → Nat} {K : Int64 → mo_M → Prop} {M : mo_M} {x0 : Nat} {x1 : Int32} {x2 : Int32} (hP : pp_M_stock g e0 K M x0 x1 x2) : Met l y_M_stock ws_M_stock (mo_R 1 0 0 26) (va_Pc [.ref x0, .int x1, .int x2] (fun U => mo_B L0 e0 D vwCl (mo_T g) M U)) (mo_Ql L0 e0 D vwCl (mo_T g) K) 0 0 (fun q => L0 ≤ q) := by
  refine Met.ofW (cc := b_M_stock) (maxL := 3) (ret := (Option.some Jvm.ClassFile.FieldType.long)) (by decide +kernel) rfl ?_
  intro p e s m args below meth c s₁ B hml hv
  obtain ⟨hv1, hB0⟩ := hv
  have hx := B.exec
  have hb := B.bytes
  have hr := B.returns
  have hts : ∀ w ∈ lw_g, w.before args s = true := fun w hw => atoms_spec (ws := ws_M_stock) B.pre w (List.mem_cons_of_mem _ hw)
  have hown : s.vm.findClass "PurseHouseModel" = some m.cls := findClass_of_methodNamed B.named
  have hlocks := B.notSynchronized
  have hok : mo_ok L0 e0 D vwCl (mo_T g) s M s.heap [] := ⟨hB0.1, hB0.2.1, hB0.2.2, va_S.rf⟩
  have hl := lv_entry ([.ref x0, .int x1, .int x2]) (n := 3) (Nat.le_of_ble_eq_true rfl)
  rw [hv1, lg_entry_eq]
  rw [← hv1]
  generalize (lg_sl [.ref x0, .int x1, .int x2] ++ List.replicate (3 - (lg_sl [.ref x0, .int x1, .int x2]).length) Slot.unset).toArray = ls at hl ⊢
  have hl : lv_has ls 3 [(0, .ref x0), (1, .int x1), (2, .int x2)] := hl
  unfold pp_M_stock at hP
  refine lv_aload_n hx hb d_M_stock_0 rfl (lv_at hl 0 rfl) ?_
  refine lv_iconst (v := 0) hx hb d_M_stock_1 (by decide) ?_
  refine mr_pt (C := "PurseHouseModel") (T := F_4) (N := 27) (ref := "PurseHouseModel") (ty := .int) hx hb hts hown hok hP ui_4 ty_4 th_4 tn_4 rfl (by decide) (hts _ wd_610) (fun _ h => h) rfl (by decide +kernel) rfl rfl d_M_stock_2 (fun M1 H locs hP hok => ?_)
  refine lv_aload_n hx hb d_M_stock_5 rfl (lv_at hl 0 rfl) ?_
  refine lv_iload_n hx hb d_M_stock_6 rfl (lv_at hl 1 rfl) ?_
  obtain ⟨⟨fs9, he9⟩, hP⟩ := hP
  refine mo_calli hok (va_runV (As := [.int x1]) (rest := []) ⟨hx, hb, hml, hown, hts⟩ (cc_M_isKiosk l L0 D hP) ⟨(callB_of 1 hts (lw_gi wd_704) rfl rfl rfl (hts _ wd_39) (hts _ wd_701) (by decide +kernel) ⟨Nat.le_of_ble_eq_true rfl, Nat.le_of_ble_eq_true rfl⟩), hts _ wd_703, hts _ wd_15⟩ (mo_preV hok he9 rfl [.int x1]) rfl rfl hl.1 rfl (lv_room (Nat.le_of_ble_eq_true rfl)) d_M_stock_7 ⟨Nat.zero_le _, Nat.zero_le _⟩) (fun r3 M2 H locs hP hok => ?_)
  refine lv_if_eq (tgt := 33) hx hb d_M_stock_10 (by decide) (fun hc => ?_) (fun hc => ?_)
  · replace hP := hP.1 hc
    refine lv_lconst (v := 0) hx hb d_M_stock_33 (by decide) ?_
    exact mo_lret hx hb hr hlocks hok hP d_M_stock_34
  · replace hP := hP.2 hc
    refine lv_iload_n hx hb d_M_stock_13 rfl (lv_at hl 2 rfl) ?_
    refine mo_calli hok (va_runS (As := [.int x2]) (rest := []) ⟨hx, hb, hml, hown, hts⟩ (cc_M_isCurrency l L0 D hP) ⟨(callB_of 1 hts (lw_gi wd_711) rfl rfl rfl (hts _ wd_39) (hts _ wd_709) (by decide +kernel) ⟨Nat.le_of_ble_eq_true rfl, Nat.le_of_ble_eq_true rfl⟩), hts _ wd_710⟩ (mo_preS hok [.int x2]) rfl rfl hl.1 rfl (lv_room (Nat.le_of_ble_eq_true rfl)) d_M_stock_14 ⟨Nat.zero_le _, Nat.zero_le _⟩) (fun r5 M4 H locs hP hok => ?_)
    refine lv_if_eq (tgt := 33) hx hb d_M_stock_17 (by decide) (fun hc => ?_) (fun hc => ?_)
    · replace hP := hP.1 hc
      refine lv_lconst (v := 0) hx hb d_M_stock_33 (by decide) ?_
      exact mo_lret hx hb hr hlocks hok hP d_M_stock_34
    · replace hP := hP.2 hc
      refine lv_aload_n hx hb d_M_stock_20 rfl (lv_at hl 0 rfl) ?_
      refine lv_iload_n hx hb d_M_stock_21 rfl (lv_at hl 1 rfl) ?_
      refine lv_iload_n hx hb d_M_stock_22 rfl (lv_at hl 2 rfl) ?_
      refine lv_aload_n hx hb d_M_stock_23 rfl (lv_at hl 0 rfl) ?_
      refine mr_gi (C := "PurseHouseModel") (T := F_4) (N := 27) (ref := "PurseHouseModel") hx hb hts hown hok hP ui_4 rfl (by decide) (hts _ wd_612) (fun _ h => h) d_M_stock_24 (fun v6 hP => ?_)
      obtain ⟨⟨fs9, he9⟩, hP⟩ := hP
      refine mo_calll hok (va_runV (As := [.int x1, .int x2, .int v6]) (rest := []) ⟨hx, hb, hml, hown, hts⟩ (cc_M_stockAt l L0 D hP) ⟨(callB_of 3 hts (lw_gi wd_736) rfl rfl rfl (hts _ wd_39) (hts _ wd_733) (by decide +kernel) ⟨Nat.le_of_ble_eq_true rfl, Nat.le_of_ble_eq_true rfl⟩), hts _ wd_735, hts _ wd_18⟩ (mo_preV hok he9 rfl [.int x1, .int x2, .int v6]) rfl rfl hl.1 rfl (lv_room (Nat.le_of_ble_eq_true rfl)) d_M_stock_27 ⟨Nat.zero_le _, Nat.zero_le _⟩) (fun r8 M7 H locs hP hok => ?_)
      refine lv_goto (tgt := 34) hx hb d_M_stock_30 (by decide) ?_
      exact mo_lret hx hb hr hlocks hok hP d_M_stock_34

