abbrev b_H_deliver : ByteArray := prog_1_method_8_code
def y_H_deliver : MethodName := ⟨"PurseHouse", "deliver", "(II)Z"⟩
def ws_H_deliver : List Cond := .code y_H_deliver b_H_deliver 5 (Option.some Jvm.ClassFile.FieldType.boolean) :: lw_g
theorem d_H_deliver_0 : decode b_H_deliver 0 = .ok (.aload_n 0, 1) := by decide +kernel
theorem d_H_deliver_1 : decode b_H_deliver 1 = .ok (.iload_n 1, 1) := by decide +kernel
theorem d_H_deliver_2 : decode b_H_deliver 2 = .ok (.iload_n 2, 1) := by decide +kernel
theorem d_H_deliver_3 : decode b_H_deliver 3 = .ok (.invokevirtual 106, 3) := by decide +kernel
theorem d_H_deliver_6 : decode b_H_deliver 6 = .ok (.ifCond .ne 5, 3) := by decide +kernel
theorem d_H_deliver_9 : decode b_H_deliver 9 = .ok (.iconst 0, 1) := by decide +kernel
theorem d_H_deliver_10 : decode b_H_deliver 10 = .ok (.ireturn, 1) := by decide +kernel
theorem d_H_deliver_11 : decode b_H_deliver 11 = .ok (.aload_n 0, 1) := by decide +kernel
theorem d_H_deliver_12 : decode b_H_deliver 12 = .ok (.getfield 10, 3) := by decide +kernel
theorem d_H_deliver_15 : decode b_H_deliver 15 = .ok (.iload_n 1, 1) := by decide +kernel
theorem d_H_deliver_16 : decode b_H_deliver 16 = .ok (.invokevirtual 88, 3) := by decide +kernel
theorem d_H_deliver_19 : decode b_H_deliver 19 = .ok (.checkcast 52, 3) := by decide +kernel
theorem d_H_deliver_22 : decode b_H_deliver 22 = .ok (.astore_n 3, 1) := by decide +kernel
theorem d_H_deliver_23 : decode b_H_deliver 23 = .ok (.aload_n 3, 1) := by decide +kernel
theorem d_H_deliver_24 : decode b_H_deliver 24 = .ok (.getfield 109, 3) := by decide +kernel
theorem d_H_deliver_27 : decode b_H_deliver 27 = .ok (.ifCond .eq 9, 3) := by decide +kernel
theorem d_H_deliver_30 : decode b_H_deliver 30 = .ok (.iload_n 2, 1) := by decide +kernel
theorem d_H_deliver_31 : decode b_H_deliver 31 = .ok (.ifCond .eq 5, 3) := by decide +kernel
theorem d_H_deliver_34 : decode b_H_deliver 34 = .ok (.iconst 0, 1) := by decide +kernel
theorem d_H_deliver_35 : decode b_H_deliver 35 = .ok (.ireturn, 1) := by decide +kernel
theorem d_H_deliver_36 : decode b_H_deliver 36 = .ok (.aload_n 3, 1) := by decide +kernel
theorem d_H_deliver_37 : decode b_H_deliver 37 = .ok (.getfield 113, 3) := by decide +kernel
theorem d_H_deliver_40 : decode b_H_deliver 40 = .ok (.iload_n 2, 1) := by decide +kernel
theorem d_H_deliver_41 : decode b_H_deliver 41 = .ok (.invokevirtual 116, 3) := by decide +kernel
theorem d_H_deliver_44 : decode b_H_deliver 44 = .ok (.checkcast 119, 3) := by decide +kernel
theorem d_H_deliver_47 : decode b_H_deliver 47 = .ok (.astore 4, 2) := by decide +kernel
theorem d_H_deliver_49 : decode b_H_deliver 49 = .ok (.aload 4, 2) := by decide +kernel
theorem d_H_deliver_51 : decode b_H_deliver 51 = .ok (.getfield 121, 3) := by decide +kernel
theorem d_H_deliver_54 : decode b_H_deliver 54 = .ok (.iconst 3, 1) := by decide +kernel
theorem d_H_deliver_55 : decode b_H_deliver 55 = .ok (.if_icmp .ne 16, 3) := by decide +kernel
theorem d_H_deliver_58 : decode b_H_deliver 58 = .ok (.aload_n 0, 1) := by decide +kernel
theorem d_H_deliver_59 : decode b_H_deliver 59 = .ok (.aload_n 3, 1) := by decide +kernel
theorem d_H_deliver_60 : decode b_H_deliver 60 = .ok (.aload 4, 2) := by decide +kernel
theorem d_H_deliver_62 : decode b_H_deliver 62 = .ok (.getfield 124, 3) := by decide +kernel
theorem d_H_deliver_65 : decode b_H_deliver 65 = .ok (.invokevirtual 127, 3) := by decide +kernel
theorem d_H_deliver_68 : decode b_H_deliver 68 = .ok (.goto 10, 3) := by decide +kernel
theorem d_H_deliver_71 : decode b_H_deliver 71 = .ok (.aload_n 0, 1) := by decide +kernel
theorem d_H_deliver_72 : decode b_H_deliver 72 = .ok (.aload_n 3, 1) := by decide +kernel
theorem d_H_deliver_73 : decode b_H_deliver 73 = .ok (.aload 4, 2) := by decide +kernel
theorem d_H_deliver_75 : decode b_H_deliver 75 = .ok (.invokevirtual 131, 3) := by decide +kernel
theorem d_H_deliver_78 : decode b_H_deliver 78 = .ok (.iconst 1, 1) := by decide +kernel
theorem d_H_deliver_79 : decode b_H_deliver 79 = .ok (.ireturn, 1) := by decide +kernel
def pp_H_deliver_b36 (g : Nat → ClassId) (e0 : Nat → Nat) (mc ms : Nat) (K : Int32 → mo_M → Prop) (M : mo_M) (cu su : Nat) (x0 : Nat) (x2 : Int32) (x3 : Nat) : Prop := mp_gr M x3 2 3 (fun v7 => (cu ≤ mc ∧ su ≤ ms ∧ (mp_is M v7 5 ∧ pp_A_remove g e0 (fun r9 M8 => (mp_is M8 r9 3 ∧ mp_gi M8 r9 3 0 (fun v10 => ((v10 = ((3 : Int32)) → mp_gi M8 r9 3 2 (fun v14 => (∃ c15 t16 : Nat, cu + c15 ≤ mc ∧ su + t16 ≤ ms ∧ (mp_is M8 x0 0 ∧ pp_H_takeMarker g e0 c15 t16 (fun M17 => (((cu + c15)) ≤ mc ∧ ((su + t16)) ≤ ms ∧ (narrow .boolean (.int ((1 : Int32))) = .int ((1 : Int32)) ∧ K ((1 : Int32)) M17))) M8 x0 x3 v14)))) ∧ (¬ (v10 = ((3 : Int32))) → (∃ c11 t12 : Nat, cu + c11 ≤ mc ∧ su + t12 ≤ ms ∧ (mp_is M8 x0 0 ∧ pp_H_takeBag g e0 c11 t12 (fun M13 => (((cu + c11)) ≤ mc ∧ ((su + t12)) ≤ ms ∧ (narrow .boolean (.int ((1 : Int32))) = .int ((1 : Int32)) ∧ K ((1 : Int32)) M13))) M8 x0 x3 r9))))))) M v7 x2)))
def pp_H_deliver (g : Nat → ClassId) (e0 : Nat → Nat) (mc ms : Nat) (K : Int32 → mo_M → Prop) (M : mo_M) (x0 : Nat) (x1 : Int32) (x2 : Int32) : Prop := (0 ≤ mc ∧ 0 ≤ ms ∧ (mp_is M x0 0 ∧ pp_H_hasThing g e0 (fun r2 M1 => ((r2 = 0 → (0 ≤ mc ∧ 0 ≤ ms ∧ (narrow .boolean (.int ((0 : Int32))) = .int ((0 : Int32)) ∧ K ((0 : Int32)) M1))) ∧ (¬ (r2 = 0) → mp_gr M1 x0 0 1 (fun v3 => (0 ≤ mc ∧ 0 ≤ ms ∧ (mp_is M1 v3 5 ∧ pp_A_get g e0 (fun r5 M4 => (mp_is M4 r5 2 ∧ mp_gi M4 r5 2 2 (fun v6 => ((v6 = 0 → pp_H_deliver_b36 g e0 mc ms K M4 0 0 x0 x2 r5) ∧ (¬ (v6 = 0) → ((x2 = 0 → pp_H_deliver_b36 g e0 mc ms K M4 0 0 x0 x2 r5) ∧ (¬ (x2 = 0) → (0 ≤ mc ∧ 0 ≤ ms ∧ (narrow .boolean (.int ((0 : Int32))) = .int ((0 : Int32)) ∧ K ((0 : Int32)) M4))))))))) M1 v3 x1)))))) M x0 x1 x2))
set_option maxHeartbeats 4000000 in
set_option maxRecDepth 100000 in
theorem cc_H_deliver (l : Launch) (L0 : Nat) (D : va_G) {g : Nat → ClassId} {e0 : Nat → Nat} {mc ms : Nat} {K : Int32 → mo_M → Prop} {M : mo_M} {x0 : Nat} {x1 : Int32} {x2 : Int32} (hP : pp_H_deliver g e0 mc ms K M x0 x1 x2) : Met l y_H_deliver ws_H_deliver (mo_R 10 mc ms 258) (va_Pc [.ref x0, .int x1, .int x2] (fun U => mo_B L0 e0 D vwCl (mo_T g) M U)) (mo_Qi L0 e0 D vwCl (mo_T g) K) mc ms (fun q => L0 ≤ q) := by
  refine Met.ofW (cc := b_H_deliver) (maxL := 5) (ret := (Option.some Jvm.ClassFile.FieldType.boolean)) (by decide +kernel) rfl ?_
  intro p e s m args below meth c s₁ B hml hv
  obtain ⟨hv1, hB0⟩ := hv
  have hx := B.exec
  have hb := B.bytes
  have hr := B.returns
  have hts : ∀ w ∈ lw_g, w.before args s = true := fun w hw => atoms_spec (ws := ws_H_deliver) B.pre w (List.mem_cons_of_mem _ hw)
  have hown : s.vm.findClass "PurseHouse" = some m.cls := findClass_of_methodNamed B.named
  have hlocks := B.notSynchronized
  have w_36 : ∀ (M : mo_M) (cu su : Nat) (x0 : Nat) (x2 : Int32) (x3 : Nat) (H : Heap) (locs : List Loc) (ls : Array Slot), pp_H_deliver_b36 g e0 mc ms K M cu su x0 x2 x3 → mo_ok L0 e0 D vwCl (mo_T g) s M H locs → lv_has ls 5 [(0, .ref x0), (2, .int x2), (3, .ref x3)] → W p l e (headSpec ws_H_deliver (mo_R 10 mc ms 258)).room s m args below meth c H locs cu su (mo_Z below (mo_Qi L0 e0 D vwCl (mo_T g) K) args s mc ms L0) (F0 m 36 ls []) := by
    intro M cu su x0 x2 x3 H locs ls hP hok hl
    unfold pp_H_deliver_b36 at hP
    refine lv_aload_n hx hb d_H_deliver_36 rfl (lv_at hl 2 rfl) ?_
    refine mr_gr (C := "PurseHouse$Link") (T := F_2) (N := 6) (ref := "PurseHouse$Link") hx hb hts hown hok hP ui_2 rfl (by decide) (hts _ wd_188) (fun _ h => h) d_H_deliver_37 (fun v7 hP => ?_)
    refine lv_iload_n hx hb d_H_deliver_40 rfl (lv_at hl 1 rfl) ?_
    obtain ⟨hcc, hss, hP⟩ := hP
    obtain ⟨⟨fs9, he9⟩, hP⟩ := hP
    refine mo_callr hok (va_runV (As := [.int x2]) (rest := []) ⟨hx, hb, hml, hown, hts⟩ (cc_A_remove l L0 D hP) ⟨(callB_of 1 hts (lw_gi wd_377) rfl rfl rfl (hts _ wd_36) (hts _ wd_374) (by decide +kernel) ⟨Nat.le_of_ble_eq_true rfl, Nat.le_of_ble_eq_true rfl⟩), hts _ wd_375, hts _ wd_376⟩ (mo_preV hok he9 rfl [.int x2]) rfl rfl hl.1 rfl (lv_room (Nat.le_of_ble_eq_true rfl)) d_H_deliver_41 ⟨hcc, hss⟩) (fun r9 M8 H locs hP hok => ?_)
    obtain ⟨his, hP⟩ := hP
    refine mr_cast (C := "PurseHouse$Thing") (T := F_3) (N := 4) hx hb hown hok his rfl (hts _ wd_383) d_H_deliver_44 ?_
    refine lv_astore (lv' := [(4, .ref r9), (0, .ref x0), (2, .int x2), (3, .ref x3)]) hx hb d_H_deliver_47 hl (by decide) rfl (fun ls hl => ?_)
    refine lv_aload hx hb d_H_deliver_49 (lv_at hl 0 rfl) ?_
    refine mr_gi (C := "PurseHouse$Thing") (T := F_3) (N := 4) (ref := "PurseHouse$Thing") hx hb hts hown hok hP ui_3 rfl (by decide) (hts _ wd_346) (fun _ h => h) d_H_deliver_51 (fun v10 hP => ?_)
    refine lv_iconst (v := 3) hx hb d_H_deliver_54 (by decide) ?_
    refine lv_icmp_ne (tgt := 71) hx hb d_H_deliver_55 (by decide) (fun hc => ?_) (fun hc => ?_)
    · replace hP := hP.2 hc
      refine lv_aload_n hx hb d_H_deliver_71 rfl (lv_at hl 1 rfl) ?_
      refine lv_aload_n hx hb d_H_deliver_72 rfl (lv_at hl 3 rfl) ?_
      refine lv_aload hx hb d_H_deliver_73 (lv_at hl 0 rfl) ?_
      obtain ⟨c11, t12, hcc, hss, hP⟩ := hP
      obtain ⟨⟨fs9, he9⟩, hP⟩ := hP
      refine mo_callv hok (va_runV (As := [.ref x3, .ref r9]) (rest := []) ⟨hx, hb, hml, hown, hts⟩ (cc_H_takeBag l L0 D hP) ⟨(callB_of 2 hts (lw_gi wd_411) rfl rfl rfl (hts _ wd_33) (hts _ wd_408) (by decide +kernel) ⟨Nat.le_of_ble_eq_true rfl, Nat.le_of_ble_eq_true rfl⟩), hts _ wd_410, hts _ wd_10⟩ (mo_preV hok he9 rfl [.ref x3, .ref r9]) rfl rfl hl.1 rfl (lv_room (Nat.le_of_ble_eq_true rfl)) d_H_deliver_75 ⟨hcc, hss⟩) (fun M13 H locs hP hok => ?_)
      refine lv_iconst (v := 1) hx hb d_H_deliver_78 (by decide) ?_
      obtain ⟨hcu, hsu, hP⟩ := hP
      refine W.widen (k := mc) (n := ms) hcu hsu ?_
      exact mo_zret hx hb hr hlocks hok hP d_H_deliver_79
    · replace hP := hP.1 hc
      refine lv_aload_n hx hb d_H_deliver_58 rfl (lv_at hl 1 rfl) ?_
      refine lv_aload_n hx hb d_H_deliver_59 rfl (lv_at hl 3 rfl) ?_
      refine lv_aload hx hb d_H_deliver_60 (lv_at hl 0 rfl) ?_
      refine mr_gi (C := "PurseHouse$Thing") (T := F_3) (N := 4) (ref := "PurseHouse$Thing") hx hb hts hown hok hP ui_3 rfl (by decide) (hts _ wd_352) (fun _ h => h) d_H_deliver_62 (fun v14 hP => ?_)
      obtain ⟨c15, t16, hcc, hss, hP⟩ := hP
      obtain ⟨⟨fs9, he9⟩, hP⟩ := hP
      refine mo_callv hok (va_runV (As := [.ref x3, .int v14]) (rest := []) ⟨hx, hb, hml, hown, hts⟩ (cc_H_takeMarker l L0 D hP) ⟨(callB_of 2 hts (lw_gi wd_387) rfl rfl rfl (hts _ wd_33) (hts _ wd_384) (by decide +kernel) ⟨Nat.le_of_ble_eq_true rfl, Nat.le_of_ble_eq_true rfl⟩), hts _ wd_386, hts _ wd_8⟩ (mo_preV hok he9 rfl [.ref x3, .int v14]) rfl rfl hl.1 rfl (lv_room (Nat.le_of_ble_eq_true rfl)) d_H_deliver_65 ⟨hcc, hss⟩) (fun M17 H locs hP hok => ?_)
      refine lv_goto (tgt := 78) hx hb d_H_deliver_68 (by decide) ?_
      refine lv_iconst (v := 1) hx hb d_H_deliver_78 (by decide) ?_
      obtain ⟨hcu, hsu, hP⟩ := hP
      refine W.widen (k := mc) (n := ms) hcu hsu ?_
      exact mo_zret hx hb hr hlocks hok hP d_H_deliver_79
  have hok : mo_ok L0 e0 D vwCl (mo_T g) s M s.heap [] := ⟨hB0.1, hB0.2.1, hB0.2.2, va_S.rf⟩
  have hl := lv_entry ([.ref x0, .int x1, .int x2]) (n := 5) (Nat.le_of_ble_eq_true rfl)
  rw [hv1, lg_entry_eq]
  rw [← hv1]
  generalize (lg_sl [.ref x0, .int x1, .int x2] ++ List.replicate (5 - (lg_sl [.ref x0, .int x1, .int x2]).length) Slot.unset).toArray = ls at hl ⊢
  have hl : lv_has ls 5 [(0, .ref x0), (1, .int x1), (2, .int x2)] := hl
  unfold pp_H_deliver at hP
  refine lv_aload_n hx hb d_H_deliver_0 rfl (lv_at hl 0 rfl) ?_
  refine lv_iload_n hx hb d_H_deliver_1 rfl (lv_at hl 1 rfl) ?_
  refine lv_iload_n hx hb d_H_deliver_2 rfl (lv_at hl 2 rfl) ?_
  obtain ⟨hcc, hss, hP⟩ := hP
  obtain ⟨⟨fs9, he9⟩, hP⟩ := hP
  refine mo_calli hok (va_runV (As := [.int x1, .int x2]) (rest := []) ⟨hx, hb, hml, hown, hts⟩ (cc_H_hasThing l L0 D hP) ⟨(callB_of 2 hts (lw_gi wd_373) rfl rfl rfl (hts _ wd_33) (hts _ wd_370) (by decide +kernel) ⟨Nat.le_of_ble_eq_true rfl, Nat.le_of_ble_eq_true rfl⟩), hts _ wd_372, hts _ wd_6⟩ (mo_preV hok he9 rfl [.int x1, .int x2]) rfl rfl hl.1 rfl (lv_room (Nat.le_of_ble_eq_true rfl)) d_H_deliver_3 ⟨hcc, hss⟩) (fun r2 M1 H locs hP hok => ?_)
  refine lv_if_ne (tgt := 11) hx hb d_H_deliver_6 (by decide) (fun hc => ?_) (fun hc => ?_)
  · replace hP := hP.2 hc
    refine lv_aload_n hx hb d_H_deliver_11 rfl (lv_at hl 0 rfl) ?_
    refine mr_gr (C := "PurseHouse") (T := F_0) (N := 5) (ref := "PurseHouse") hx hb hts hown hok hP ui_0 rfl (by decide) (hts _ wd_142) (fun _ h => h) d_H_deliver_12 (fun v3 hP => ?_)
    refine lv_iload_n hx hb d_H_deliver_15 rfl (lv_at hl 1 rfl) ?_
    obtain ⟨hcc, hss, hP⟩ := hP
    obtain ⟨⟨fs9, he9⟩, hP⟩ := hP
    refine mo_callr hok (va_runV (As := [.int x1]) (rest := []) ⟨hx, hb, hml, hown, hts⟩ (cc_A_get l L0 D hP) ⟨(callB_of 1 hts (lw_gi wd_313) rfl rfl rfl (hts _ wd_36) (hts _ wd_310) (by decide +kernel) ⟨Nat.le_of_ble_eq_true rfl, Nat.le_of_ble_eq_true rfl⟩), hts _ wd_311, hts _ wd_312⟩ (mo_preV hok he9 rfl [.int x1]) rfl rfl hl.1 rfl (lv_room (Nat.le_of_ble_eq_true rfl)) d_H_deliver_16 ⟨hcc, hss⟩) (fun r5 M4 H locs hP hok => ?_)
    obtain ⟨his, hP⟩ := hP
    refine mr_cast (C := "PurseHouse$Link") (T := F_2) (N := 6) hx hb hown hok his rfl (hts _ wd_172) d_H_deliver_19 ?_
    refine lv_astore_n (lv' := [(3, .ref r5), (0, .ref x0), (1, .int x1), (2, .int x2)]) hx hb d_H_deliver_22 rfl hl (by decide) rfl (fun ls hl => ?_)
    refine lv_aload_n hx hb d_H_deliver_23 rfl (lv_at hl 0 rfl) ?_
    refine mr_gi (C := "PurseHouse$Link") (T := F_2) (N := 6) (ref := "PurseHouse$Link") hx hb hts hown hok hP ui_2 rfl (by decide) (hts _ wd_186) (fun _ h => h) d_H_deliver_24 (fun v6 hP => ?_)
    refine lv_if_eq (tgt := 36) hx hb d_H_deliver_27 (by decide) (fun hc => ?_) (fun hc => ?_)
    · replace hP := hP.1 hc
      exact w_36  _ _ _ _ _ _ _ _ _ hP hok (lv_sub hl [1, 3, 0] rfl)
    · replace hP := hP.2 hc
      refine lv_iload_n hx hb d_H_deliver_30 rfl (lv_at hl 3 rfl) ?_
      refine lv_if_eq (tgt := 36) hx hb d_H_deliver_31 (by decide) (fun hc => ?_) (fun hc => ?_)
      · replace hP := hP.1 hc
        exact w_36  _ _ _ _ _ _ _ _ _ hP hok (lv_sub hl [1, 3, 0] rfl)
      · replace hP := hP.2 hc
        refine lv_iconst (v := 0) hx hb d_H_deliver_34 (by decide) ?_
        obtain ⟨hcu, hsu, hP⟩ := hP
        refine W.widen (k := mc) (n := ms) hcu hsu ?_
        exact mo_zret hx hb hr hlocks hok hP d_H_deliver_35
  · replace hP := hP.1 hc
    refine lv_iconst (v := 0) hx hb d_H_deliver_9 (by decide) ?_
    obtain ⟨hcu, hsu, hP⟩ := hP
    refine W.widen (k := mc) (n := ms) hcu hsu ?_
    exact mo_zret hx hb hr hlocks hok hP d_H_deliver_10

abbrev b_H_snap : ByteArray := prog_1_method_9_code
def y_H_snap : MethodName := ⟨"PurseHouse", "snap", "(I)I"⟩
def ws_H_snap : List Cond := .code y_H_snap b_H_snap 3 (Option.some Jvm.ClassFile.FieldType.int) :: lw_g
theorem d_H_snap_0 : decode b_H_snap 0 = .ok (.aload_n 0, 1) := by decide +kernel
theorem d_H_snap_1 : decode b_H_snap 1 = .ok (.iload_n 1, 1) := by decide +kernel
theorem d_H_snap_2 : decode b_H_snap 2 = .ok (.invokevirtual 44, 3) := by decide +kernel
theorem d_H_snap_5 : decode b_H_snap 5 = .ok (.ifCond .eq 12, 3) := by decide +kernel
theorem d_H_snap_8 : decode b_H_snap 8 = .ok (.aload_n 0, 1) := by decide +kernel
theorem d_H_snap_9 : decode b_H_snap 9 = .ok (.getfield 24, 3) := by decide +kernel
theorem d_H_snap_12 : decode b_H_snap 12 = .ok (.bipush 16, 2) := by decide +kernel
theorem d_H_snap_14 : decode b_H_snap 14 = .ok (.if_icmp .lt 5, 3) := by decide +kernel
theorem d_H_snap_17 : decode b_H_snap 17 = .ok (.iconst (-1), 1) := by decide +kernel
theorem d_H_snap_18 : decode b_H_snap 18 = .ok (.ireturn, 1) := by decide +kernel
theorem d_H_snap_19 : decode b_H_snap 19 = .ok (.aload_n 0, 1) := by decide +kernel
theorem d_H_snap_20 : decode b_H_snap 20 = .ok (.getfield 24, 3) := by decide +kernel
theorem d_H_snap_23 : decode b_H_snap 23 = .ok (.istore_n 2, 1) := by decide +kernel
theorem d_H_snap_24 : decode b_H_snap 24 = .ok (.aload_n 0, 1) := by decide +kernel
theorem d_H_snap_25 : decode b_H_snap 25 = .ok (.dup, 1) := by decide +kernel
theorem d_H_snap_26 : decode b_H_snap 26 = .ok (.getfield 24, 3) := by decide +kernel
theorem d_H_snap_29 : decode b_H_snap 29 = .ok (.iconst 1, 1) := by decide +kernel
theorem d_H_snap_30 : decode b_H_snap 30 = .ok (.iadd, 1) := by decide +kernel
theorem d_H_snap_31 : decode b_H_snap 31 = .ok (.putfield 24, 3) := by decide +kernel
theorem d_H_snap_34 : decode b_H_snap 34 = .ok (.aload_n 0, 1) := by decide +kernel
theorem d_H_snap_35 : decode b_H_snap 35 = .ok (.aload_n 0, 1) := by decide +kernel
theorem d_H_snap_36 : decode b_H_snap 36 = .ok (.getfield 39, 3) := by decide +kernel
theorem d_H_snap_39 : decode b_H_snap 39 = .ok (.iload_n 1, 1) := by decide +kernel
theorem d_H_snap_40 : decode b_H_snap 40 = .ok (.aaload, 1) := by decide +kernel
theorem d_H_snap_41 : decode b_H_snap 41 = .ok (.iload_n 2, 1) := by decide +kernel
theorem d_H_snap_42 : decode b_H_snap 42 = .ok (.invokevirtual 135, 3) := by decide +kernel
theorem d_H_snap_45 : decode b_H_snap 45 = .ok (.iload_n 2, 1) := by decide +kernel
theorem d_H_snap_46 : decode b_H_snap 46 = .ok (.ireturn, 1) := by decide +kernel
def pp_H_snap (g : Nat → ClassId) (e0 : Nat → Nat) (mc ms : Nat) (K : Int32 → mo_M → Prop) (M : mo_M) (x0 : Nat) (x1 : Int32) : Prop := (0 ≤ mc ∧ 0 ≤ ms ∧ (mp_is M x0 0 ∧ pp_H_hasKiosk g e0 (fun r2 M1 => ((r2 = 0 → (0 ≤ mc ∧ 0 ≤ ms ∧ K ((-1 : Int32)) M1)) ∧ (¬ (r2 = 0) → mp_gi M1 x0 0 4 (fun v3 => ((v3 < ((16 : Int32)) → mp_gi M1 x0 0 4 (fun v4 => mp_gi M1 x0 0 4 (fun v5 => mp_pt M1 x0 0 4 (.int ((v5 + ((1 : Int32))))) (fun M6 => mp_gr M6 x0 0 0 (fun v7 => mp_ar (g 3) M6 v7 x1 (fun v8 => (∃ c9 t10 : Nat, 0 + c9 ≤ mc ∧ 0 + t10 ≤ ms ∧ (mp_is M6 x0 0 ∧ pp_H_recordAt g e0 c9 t10 (fun M11 => (((0 + c9)) ≤ mc ∧ ((0 + t10)) ≤ ms ∧ K v4 M11)) M6 x0 v8 v4)))))))) ∧ (¬ (v3 < ((16 : Int32))) → (0 ≤ mc ∧ 0 ≤ ms ∧ K ((-1 : Int32)) M1))))))) M x0 x1))
set_option maxHeartbeats 4000000 in
set_option maxRecDepth 100000 in
theorem cc_H_snap (l : Launch) (L0 : Nat) (D : va_G) {g : Nat → ClassId} {e0 : Nat → Nat} {mc ms : Nat} {K : Int32 → mo_M → Prop} {M : mo_M} {x0 : Nat} {x1 : Int32} (hP : pp_H_snap g e0 mc ms K M x0 x1) : Met l y_H_snap ws_H_snap (mo_R 9 mc ms 235) (va_Pc [.ref x0, .int x1] (fun U => mo_B L0 e0 D vwCl (mo_T g) M U)) (mo_Qi L0 e0 D vwCl (mo_T g) K) mc ms (fun q => L0 ≤ q) := by
  refine Met.ofW (cc := b_H_snap) (maxL := 3) (ret := (Option.some Jvm.ClassFile.FieldType.int)) (by decide +kernel) rfl ?_
  intro p e s m args below meth c s₁ B hml hv
  obtain ⟨hv1, hB0⟩ := hv
  have hx := B.exec
  have hb := B.bytes
  have hr := B.returns
  have hts : ∀ w ∈ lw_g, w.before args s = true := fun w hw => atoms_spec (ws := ws_H_snap) B.pre w (List.mem_cons_of_mem _ hw)
  have hown : s.vm.findClass "PurseHouse" = some m.cls := findClass_of_methodNamed B.named
  have hlocks := B.notSynchronized
  have hok : mo_ok L0 e0 D vwCl (mo_T g) s M s.heap [] := ⟨hB0.1, hB0.2.1, hB0.2.2, va_S.rf⟩
  have hl := lv_entry ([.ref x0, .int x1]) (n := 3) (Nat.le_of_ble_eq_true rfl)
  rw [hv1, lg_entry_eq]
  rw [← hv1]
  generalize (lg_sl [.ref x0, .int x1] ++ List.replicate (3 - (lg_sl [.ref x0, .int x1]).length) Slot.unset).toArray = ls at hl ⊢
  have hl : lv_has ls 3 [(0, .ref x0), (1, .int x1)] := hl
  unfold pp_H_snap at hP
  refine lv_aload_n hx hb d_H_snap_0 rfl (lv_at hl 0 rfl) ?_
  refine lv_iload_n hx hb d_H_snap_1 rfl (lv_at hl 1 rfl) ?_
  obtain ⟨hcc, hss, hP⟩ := hP
  obtain ⟨⟨fs9, he9⟩, hP⟩ := hP
  refine mo_calli hok (va_runV (As := [.int x1]) (rest := []) ⟨hx, hb, hml, hown, hts⟩ (cc_H_hasKiosk l L0 D hP) ⟨(callB_of 1 hts (lw_gi wd_164) rfl rfl rfl (hts _ wd_33) (hts _ wd_161) (by decide +kernel) ⟨Nat.le_of_ble_eq_true rfl, Nat.le_of_ble_eq_true rfl⟩), hts _ wd_163, hts _ wd_0⟩ (mo_preV hok he9 rfl [.int x1]) rfl rfl hl.1 rfl (lv_room (Nat.le_of_ble_eq_true rfl)) d_H_snap_2 ⟨hcc, hss⟩) (fun r2 M1 H locs hP hok => ?_)
  refine lv_if_eq (tgt := 17) hx hb d_H_snap_5 (by decide) (fun hc => ?_) (fun hc => ?_)
  · replace hP := hP.1 hc
    refine lv_iconst (v := (-1)) hx hb d_H_snap_17 (by decide) ?_
    obtain ⟨hcu, hsu, hP⟩ := hP
    refine W.widen (k := mc) (n := ms) hcu hsu ?_
    exact mo_iret hx hb hr hlocks hok hP d_H_snap_18
  · replace hP := hP.2 hc
    refine lv_aload_n hx hb d_H_snap_8 rfl (lv_at hl 0 rfl) ?_
    refine mr_gi (C := "PurseHouse") (T := F_0) (N := 5) (ref := "PurseHouse") hx hb hts hown hok hP ui_0 rfl (by decide) (hts _ wd_145) (fun _ h => h) d_H_snap_9 (fun v3 hP => ?_)
    refine lv_bipush (v := 16) hx hb d_H_snap_12 (by decide) ?_
    refine lv_icmp_lt (tgt := 19) hx hb d_H_snap_14 (by decide) (fun hc => ?_) (fun hc => ?_)
    · replace hP := hP.1 hc
      refine lv_aload_n hx hb d_H_snap_19 rfl (lv_at hl 0 rfl) ?_
      refine mr_gi (C := "PurseHouse") (T := F_0) (N := 5) (ref := "PurseHouse") hx hb hts hown hok hP ui_0 rfl (by decide) (hts _ wd_145) (fun _ h => h) d_H_snap_20 (fun v4 hP => ?_)
      refine lv_istore_n (lv' := [(2, .int v4), (0, .ref x0), (1, .int x1)]) hx hb d_H_snap_23 rfl hl (by decide) rfl (fun ls hl => ?_)
      refine lv_aload_n hx hb d_H_snap_24 rfl (lv_at hl 1 rfl) ?_
      refine lv_dup hx hb d_H_snap_25 rfl ?_
      refine mr_gi (C := "PurseHouse") (T := F_0) (N := 5) (ref := "PurseHouse") hx hb hts hown hok hP ui_0 rfl (by decide) (hts _ wd_145) (fun _ h => h) d_H_snap_26 (fun v5 hP => ?_)
      refine lv_iconst (v := 1) hx hb d_H_snap_29 (by decide) ?_
      refine lv_iadd hx hb d_H_snap_30 ?_
      refine mr_pt (C := "PurseHouse") (T := F_0) (N := 5) (ref := "PurseHouse") (ty := .int) hx hb hts hown hok hP ui_0 ty_0 th_0 tn_0 rfl (by decide) (hts _ wd_145) (fun _ h => h) rfl (by decide +kernel) rfl rfl d_H_snap_31 (fun M6 H locs hP hok => ?_)
      refine lv_aload_n hx hb d_H_snap_34 rfl (lv_at hl 1 rfl) ?_
      refine lv_aload_n hx hb d_H_snap_35 rfl (lv_at hl 1 rfl) ?_
      refine mr_gr (C := "PurseHouse") (T := F_0) (N := 5) (ref := "PurseHouse") hx hb hts hown hok hP ui_0 rfl (by decide) (hts _ wd_141) (fun _ h => h) d_H_snap_36 (fun v7 hP => ?_)
      refine lv_iload_n hx hb d_H_snap_39 rfl (lv_at hl 2 rfl) ?_
      refine mr_ar hx hb hok hP 3 rfl rfl d_H_snap_40 (fun v8 hP => ?_)
      refine lv_iload_n hx hb d_H_snap_41 rfl (lv_at hl 0 rfl) ?_
      obtain ⟨c9, t10, hcc, hss, hP⟩ := hP
      obtain ⟨⟨fs9, he9⟩, hP⟩ := hP
      refine mo_callv hok (va_runV (As := [.ref v8, .int v4]) (rest := []) ⟨hx, hb, hml, hown, hts⟩ (cc_H_recordAt l L0 D hP) ⟨(callB_of 2 hts (lw_gi wd_391) rfl rfl rfl (hts _ wd_33) (hts _ wd_388) (by decide +kernel) ⟨Nat.le_of_ble_eq_true rfl, Nat.le_of_ble_eq_true rfl⟩), hts _ wd_390, hts _ wd_9⟩ (mo_preV hok he9 rfl [.ref v8, .int v4]) rfl rfl hl.1 rfl (lv_room (Nat.le_of_ble_eq_true rfl)) d_H_snap_42 ⟨hcc, hss⟩) (fun M11 H locs hP hok => ?_)
      refine lv_iload_n hx hb d_H_snap_45 rfl (lv_at hl 0 rfl) ?_
      obtain ⟨hcu, hsu, hP⟩ := hP
      refine W.widen (k := mc) (n := ms) hcu hsu ?_
      exact mo_iret hx hb hr hlocks hok hP d_H_snap_46
    · replace hP := hP.2 hc
      refine lv_iconst (v := (-1)) hx hb d_H_snap_17 (by decide) ?_
      obtain ⟨hcu, hsu, hP⟩ := hP
      refine W.widen (k := mc) (n := ms) hcu hsu ?_
      exact mo_iret hx hb hr hlocks hok hP d_H_snap_18

abbrev b_H_stock : ByteArray := prog_1_method_10_code
def y_H_stock : MethodName := ⟨"PurseHouse", "stock", "(II)J"⟩
def ws_H_stock : List Cond := .code y_H_stock b_H_stock 3 (Option.some Jvm.ClassFile.FieldType.long) :: lw_g
theorem d_H_stock_0 : decode b_H_stock 0 = .ok (.aload_n 0, 1) := by decide +kernel
theorem d_H_stock_1 : decode b_H_stock 1 = .ok (.iload_n 1, 1) := by decide +kernel
theorem d_H_stock_2 : decode b_H_stock 2 = .ok (.invokevirtual 44, 3) := by decide +kernel
theorem d_H_stock_5 : decode b_H_stock 5 = .ok (.ifCond .eq 24, 3) := by decide +kernel
theorem d_H_stock_8 : decode b_H_stock 8 = .ok (.iload_n 2, 1) := by decide +kernel
theorem d_H_stock_9 : decode b_H_stock 9 = .ok (.invokestatic 61, 3) := by decide +kernel
theorem d_H_stock_12 : decode b_H_stock 12 = .ok (.ifCond .eq 17, 3) := by decide +kernel
theorem d_H_stock_15 : decode b_H_stock 15 = .ok (.aload_n 0, 1) := by decide +kernel
theorem d_H_stock_16 : decode b_H_stock 16 = .ok (.getfield 39, 3) := by decide +kernel
theorem d_H_stock_19 : decode b_H_stock 19 = .ok (.iload_n 1, 1) := by decide +kernel
theorem d_H_stock_20 : decode b_H_stock 20 = .ok (.aaload, 1) := by decide +kernel
theorem d_H_stock_21 : decode b_H_stock 21 = .ok (.getfield 139, 3) := by decide +kernel
theorem d_H_stock_24 : decode b_H_stock 24 = .ok (.iload_n 2, 1) := by decide +kernel
theorem d_H_stock_25 : decode b_H_stock 25 = .ok (.laload, 1) := by decide +kernel
theorem d_H_stock_26 : decode b_H_stock 26 = .ok (.goto 4, 3) := by decide +kernel
theorem d_H_stock_29 : decode b_H_stock 29 = .ok (.lconst 0, 1) := by decide +kernel
theorem d_H_stock_30 : decode b_H_stock 30 = .ok (.lreturn, 1) := by decide +kernel
def pp_H_stock (g : Nat → ClassId) (e0 : Nat → Nat) (K : Int64 → mo_M → Prop) (M : mo_M) (x0 : Nat) (x1 : Int32) (x2 : Int32) : Prop := (mp_is M x0 0 ∧ pp_H_hasKiosk g e0 (fun r2 M1 => ((r2 = 0 → K ((0 : Int64)) M1) ∧ (¬ (r2 = 0) → pp_H_hasCurrency g e0 (fun r4 M3 => ((r4 = 0 → K ((0 : Int64)) M3) ∧ (¬ (r4 = 0) → mp_gr M3 x0 0 0 (fun v5 => mp_ar (g 3) M3 v5 x1 (fun v6 => mp_gr M3 v6 1 0 (fun v7 => mp_al (g 1) M3 v7 x2 (fun v8 => K v8 M3))))))) M1 x2))) M x0 x1)
set_option maxHeartbeats 4000000 in
set_option maxRecDepth 100000 in
theorem cc_H_stock (l : Launch) (L0 : Nat) (D : va_G) {g : Nat → ClassId} {e0 : Nat → Nat} {K : Int64 → mo_M → Prop} {M : mo_M} {x0 : Nat} {x1 : Int32} {x2 : Int32} (hP : pp_H_stock g e0 K M x0 x1 x2) : Met l y_H_stock ws_H_stock (mo_R 2 0 0 43) (va_Pc [.ref x0, .int x1, .int x2] (fun U => mo_B L0 e0 D vwCl (mo_T g) M U)) (mo_Ql L0 e0 D vwCl (mo_T g) K) 0 0 (fun q => L0 ≤ q) := by
  refine Met.ofW (cc := b_H_stock) (maxL := 3) (ret := (Option.some Jvm.ClassFile.FieldType.long)) (by decide +kernel) rfl ?_
  intro p e s m args below meth c s₁ B hml hv
  obtain ⟨hv1, hB0⟩ := hv
  have hx := B.exec
  have hb := B.bytes
  have hr := B.returns
  have hts : ∀ w ∈ lw_g, w.before args s = true := fun w hw => atoms_spec (ws := ws_H_stock) B.pre w (List.mem_cons_of_mem _ hw)
  have hown : s.vm.findClass "PurseHouse" = some m.cls := findClass_of_methodNamed B.named
  have hlocks := B.notSynchronized
  have hok : mo_ok L0 e0 D vwCl (mo_T g) s M s.heap [] := ⟨hB0.1, hB0.2.1, hB0.2.2, va_S.rf⟩
  have hl := lv_entry ([.ref x0, .int x1, .int x2]) (n := 3) (Nat.le_of_ble_eq_true rfl)
  rw [hv1, lg_entry_eq]
  rw [← hv1]
  generalize (lg_sl [.ref x0, .int x1, .int x2] ++ List.replicate (3 - (lg_sl [.ref x0, .int x1, .int x2]).length) Slot.unset).toArray = ls at hl ⊢
  have hl : lv_has ls 3 [(0, .ref x0), (1, .int x1), (2, .int x2)] := hl
  unfold pp_H_stock at hP
  refine lv_aload_n hx hb d_H_stock_0 rfl (lv_at hl 0 rfl) ?_
  refine lv_iload_n hx hb d_H_stock_1 rfl (lv_at hl 1 rfl) ?_
  obtain ⟨⟨fs9, he9⟩, hP⟩ := hP
  refine mo_calli hok (va_runV (As := [.int x1]) (rest := []) ⟨hx, hb, hml, hown, hts⟩ (cc_H_hasKiosk l L0 D hP) ⟨(callB_of 1 hts (lw_gi wd_164) rfl rfl rfl (hts _ wd_33) (hts _ wd_161) (by decide +kernel) ⟨Nat.le_of_ble_eq_true rfl, Nat.le_of_ble_eq_true rfl⟩), hts _ wd_163, hts _ wd_0⟩ (mo_preV hok he9 rfl [.int x1]) rfl rfl hl.1 rfl (lv_room (Nat.le_of_ble_eq_true rfl)) d_H_stock_2 ⟨Nat.zero_le _, Nat.zero_le _⟩) (fun r2 M1 H locs hP hok => ?_)
  refine lv_if_eq (tgt := 29) hx hb d_H_stock_5 (by decide) (fun hc => ?_) (fun hc => ?_)
  · replace hP := hP.1 hc
    refine lv_lconst (v := 0) hx hb d_H_stock_29 (by decide) ?_
    exact mo_lret hx hb hr hlocks hok hP d_H_stock_30
  · replace hP := hP.2 hc
    refine lv_iload_n hx hb d_H_stock_8 rfl (lv_at hl 2 rfl) ?_
    refine mo_calli hok (va_runS (As := [.int x2]) (rest := []) ⟨hx, hb, hml, hown, hts⟩ (cc_H_hasCurrency l L0 D hP) ⟨(callB_of 1 hts (lw_gi wd_263) rfl rfl rfl (hts _ wd_33) (hts _ wd_261) (by decide +kernel) ⟨Nat.le_of_ble_eq_true rfl, Nat.le_of_ble_eq_true rfl⟩), hts _ wd_262⟩ (mo_preS hok [.int x2]) rfl rfl hl.1 rfl (lv_room (Nat.le_of_ble_eq_true rfl)) d_H_stock_9 ⟨Nat.zero_le _, Nat.zero_le _⟩) (fun r4 M3 H locs hP hok => ?_)
    refine lv_if_eq (tgt := 29) hx hb d_H_stock_12 (by decide) (fun hc => ?_) (fun hc => ?_)
    · replace hP := hP.1 hc
      refine lv_lconst (v := 0) hx hb d_H_stock_29 (by decide) ?_
      exact mo_lret hx hb hr hlocks hok hP d_H_stock_30
    · replace hP := hP.2 hc
      refine lv_aload_n hx hb d_H_stock_15 rfl (lv_at hl 0 rfl) ?_
      refine mr_gr (C := "PurseHouse") (T := F_0) (N := 5) (ref := "PurseHouse") hx hb hts hown hok hP ui_0 rfl (by decide) (hts _ wd_141) (fun _ h => h) d_H_stock_16 (fun v5 hP => ?_)
      refine lv_iload_n hx hb d_H_stock_19 rfl (lv_at hl 1 rfl) ?_
      refine mr_ar hx hb hok hP 3 rfl rfl d_H_stock_20 (fun v6 hP => ?_)
      refine mr_gr (C := "PurseHouse$Kiosk") (T := F_1) (N := 9) (ref := "PurseHouse$Kiosk") hx hb hts hown hok hP ui_1 rfl (by decide) (hts _ wd_104) (fun _ h => h) d_H_stock_21 (fun v7 hP => ?_)
      refine lv_iload_n hx hb d_H_stock_24 rfl (lv_at hl 2 rfl) ?_
      refine mr_al hx hb hok hP 1 rfl d_H_stock_25 (fun v8 hP => ?_)
      refine lv_goto (tgt := 30) hx hb d_H_stock_26 (by decide) ?_
      exact mo_lret hx hb hr hlocks hok hP d_H_stock_30

abbrev b_H_till : ByteArray := prog_1_method_11_code
def y_H_till : MethodName := ⟨"PurseHouse", "till", "(II)J"⟩
def ws_H_till : List Cond := .code y_H_till b_H_till 3 (Option.some Jvm.ClassFile.FieldType.long) :: lw_g
theorem d_H_till_0 : decode b_H_till 0 = .ok (.aload_n 0, 1) := by decide +kernel
theorem d_H_till_1 : decode b_H_till 1 = .ok (.iload_n 1, 1) := by decide +kernel
theorem d_H_till_2 : decode b_H_till 2 = .ok (.invokevirtual 44, 3) := by decide +kernel
theorem d_H_till_5 : decode b_H_till 5 = .ok (.ifCond .eq 24, 3) := by decide +kernel
theorem d_H_till_8 : decode b_H_till 8 = .ok (.iload_n 2, 1) := by decide +kernel
theorem d_H_till_9 : decode b_H_till 9 = .ok (.invokestatic 61, 3) := by decide +kernel
theorem d_H_till_12 : decode b_H_till 12 = .ok (.ifCond .eq 17, 3) := by decide +kernel
theorem d_H_till_15 : decode b_H_till 15 = .ok (.aload_n 0, 1) := by decide +kernel
theorem d_H_till_16 : decode b_H_till 16 = .ok (.getfield 39, 3) := by decide +kernel
theorem d_H_till_19 : decode b_H_till 19 = .ok (.iload_n 1, 1) := by decide +kernel
theorem d_H_till_20 : decode b_H_till 20 = .ok (.aaload, 1) := by decide +kernel
theorem d_H_till_21 : decode b_H_till 21 = .ok (.getfield 143, 3) := by decide +kernel
theorem d_H_till_24 : decode b_H_till 24 = .ok (.iload_n 2, 1) := by decide +kernel
theorem d_H_till_25 : decode b_H_till 25 = .ok (.laload, 1) := by decide +kernel
theorem d_H_till_26 : decode b_H_till 26 = .ok (.goto 4, 3) := by decide +kernel
theorem d_H_till_29 : decode b_H_till 29 = .ok (.lconst 0, 1) := by decide +kernel
theorem d_H_till_30 : decode b_H_till 30 = .ok (.lreturn, 1) := by decide +kernel
def pp_H_till (g : Nat → ClassId) (e0 : Nat → Nat) (K : Int64 → mo_M → Prop) (M : mo_M) (x0 : Nat) (x1 : Int32) (x2 : Int32) : Prop := (mp_is M x0 0 ∧ pp_H_hasKiosk g e0 (fun r2 M1 => ((r2 = 0 → K ((0 : Int64)) M1) ∧ (¬ (r2 = 0) → pp_H_hasCurrency g e0 (fun r4 M3 => ((r4 = 0 → K ((0 : Int64)) M3) ∧ (¬ (r4 = 0) → mp_gr M3 x0 0 0 (fun v5 => mp_ar (g 3) M3 v5 x1 (fun v6 => mp_gr M3 v6 1 1 (fun v7 => mp_al (g 1) M3 v7 x2 (fun v8 => K v8 M3))))))) M1 x2))) M x0 x1)
set_option maxHeartbeats 4000000 in
set_option maxRecDepth 100000 in
theorem cc_H_till (l : Launch) (L0 : Nat) (D : va_G) {g : Nat → ClassId} {e0 : Nat → Nat} {K : Int64 → mo_M → Prop} {M : mo_M} {x0 : Nat} {x1 : Int32} {x2 : Int32} (hP : pp_H_till g e0 K M x0 x1 x2) : Met l y_H_till ws_H_till (mo_R 2 0 0 43) (va_Pc [.ref x0, .int x1, .int x2] (fun U => mo_B L0 e0 D vwCl (mo_T g) M U)) (mo_Ql L0 e0 D vwCl (mo_T g) K) 0 0 (fun q => L0 ≤ q) := by
  refine Met.ofW (cc := b_H_till) (maxL := 3) (ret := (Option.some Jvm.ClassFile.FieldType.long)) (by decide +kernel) rfl ?_
  intro p e s m args below meth c s₁ B hml hv
  obtain ⟨hv1, hB0⟩ := hv
  have hx := B.exec
  have hb := B.bytes
  have hr := B.returns
  have hts : ∀ w ∈ lw_g, w.before args s = true := fun w hw => atoms_spec (ws := ws_H_till) B.pre w (List.mem_cons_of_mem _ hw)
  have hown : s.vm.findClass "PurseHouse" = some m.cls := findClass_of_methodNamed B.named
  have hlocks := B.notSynchronized
  have hok : mo_ok L0 e0 D vwCl (mo_T g) s M s.heap [] := ⟨hB0.1, hB0.2.1, hB0.2.2, va_S.rf⟩
  have hl := lv_entry ([.ref x0, .int x1, .int x2]) (n := 3) (Nat.le_of_ble_eq_true rfl)
  rw [hv1, lg_entry_eq]
  rw [← hv1]
  generalize (lg_sl [.ref x0, .int x1, .int x2] ++ List.replicate (3 - (lg_sl [.ref x0, .int x1, .int x2]).length) Slot.unset).toArray = ls at hl ⊢
  have hl : lv_has ls 3 [(0, .ref x0), (1, .int x1), (2, .int x2)] := hl
  unfold pp_H_till at hP
  refine lv_aload_n hx hb d_H_till_0 rfl (lv_at hl 0 rfl) ?_
  refine lv_iload_n hx hb d_H_till_1 rfl (lv_at hl 1 rfl) ?_
  obtain ⟨⟨fs9, he9⟩, hP⟩ := hP
  refine mo_calli hok (va_runV (As := [.int x1]) (rest := []) ⟨hx, hb, hml, hown, hts⟩ (cc_H_hasKiosk l L0 D hP) ⟨(callB_of 1 hts (lw_gi wd_164) rfl rfl rfl (hts _ wd_33) (hts _ wd_161) (by decide +kernel) ⟨Nat.le_of_ble_eq_true rfl, Nat.le_of_ble_eq_true rfl⟩), hts _ wd_163, hts _ wd_0⟩ (mo_preV hok he9 rfl [.int x1]) rfl rfl hl.1 rfl (lv_room (Nat.le_of_ble_eq_true rfl)) d_H_till_2 ⟨Nat.zero_le _, Nat.zero_le _⟩) (fun r2 M1 H locs hP hok => ?_)
  refine lv_if_eq (tgt := 29) hx hb d_H_till_5 (by decide) (fun hc => ?_) (fun hc => ?_)
  · replace hP := hP.1 hc
    refine lv_lconst (v := 0) hx hb d_H_till_29 (by decide) ?_
    exact mo_lret hx hb hr hlocks hok hP d_H_till_30
  · replace hP := hP.2 hc
    refine lv_iload_n hx hb d_H_till_8 rfl (lv_at hl 2 rfl) ?_
    refine mo_calli hok (va_runS (As := [.int x2]) (rest := []) ⟨hx, hb, hml, hown, hts⟩ (cc_H_hasCurrency l L0 D hP) ⟨(callB_of 1 hts (lw_gi wd_263) rfl rfl rfl (hts _ wd_33) (hts _ wd_261) (by decide +kernel) ⟨Nat.le_of_ble_eq_true rfl, Nat.le_of_ble_eq_true rfl⟩), hts _ wd_262⟩ (mo_preS hok [.int x2]) rfl rfl hl.1 rfl (lv_room (Nat.le_of_ble_eq_true rfl)) d_H_till_9 ⟨Nat.zero_le _, Nat.zero_le _⟩) (fun r4 M3 H locs hP hok => ?_)
    refine lv_if_eq (tgt := 29) hx hb d_H_till_12 (by decide) (fun hc => ?_) (fun hc => ?_)
    · replace hP := hP.1 hc
      refine lv_lconst (v := 0) hx hb d_H_till_29 (by decide) ?_
      exact mo_lret hx hb hr hlocks hok hP d_H_till_30
    · replace hP := hP.2 hc
      refine lv_aload_n hx hb d_H_till_15 rfl (lv_at hl 0 rfl) ?_
      refine mr_gr (C := "PurseHouse") (T := F_0) (N := 5) (ref := "PurseHouse") hx hb hts hown hok hP ui_0 rfl (by decide) (hts _ wd_141) (fun _ h => h) d_H_till_16 (fun v5 hP => ?_)
      refine lv_iload_n hx hb d_H_till_19 rfl (lv_at hl 1 rfl) ?_
      refine mr_ar hx hb hok hP 3 rfl rfl d_H_till_20 (fun v6 hP => ?_)
      refine mr_gr (C := "PurseHouse$Kiosk") (T := F_1) (N := 9) (ref := "PurseHouse$Kiosk") hx hb hts hown hok hP ui_1 rfl (by decide) (hts _ wd_106) (fun _ h => h) d_H_till_21 (fun v7 hP => ?_)
      refine lv_iload_n hx hb d_H_till_24 rfl (lv_at hl 2 rfl) ?_
      refine mr_al hx hb hok hP 1 rfl d_H_till_25 (fun v8 hP => ?_)
      refine lv_goto (tgt := 30) hx hb d_H_till_26 (by decide) ?_
      exact mo_lret hx hb hr hlocks hok hP d_H_till_30

abbrev b_H_onLink : ByteArray := prog_1_method_12_code
def y_H_onLink : MethodName := ⟨"PurseHouse", "onLink", "(I)I"⟩
def ws_H_onLink : List Cond := .code y_H_onLink b_H_onLink 2 (Option.some Jvm.ClassFile.FieldType.int) :: lw_g
theorem d_H_onLink_0 : decode b_H_onLink 0 = .ok (.aload_n 0, 1) := by decide +kernel
theorem d_H_onLink_1 : decode b_H_onLink 1 = .ok (.iload_n 1, 1) := by decide +kernel
theorem d_H_onLink_2 : decode b_H_onLink 2 = .ok (.invokevirtual 85, 3) := by decide +kernel
theorem d_H_onLink_5 : decode b_H_onLink 5 = .ok (.ifCond .eq 23, 3) := by decide +kernel
theorem d_H_onLink_8 : decode b_H_onLink 8 = .ok (.aload_n 0, 1) := by decide +kernel
theorem d_H_onLink_9 : decode b_H_onLink 9 = .ok (.getfield 10, 3) := by decide +kernel
theorem d_H_onLink_12 : decode b_H_onLink 12 = .ok (.iload_n 1, 1) := by decide +kernel
theorem d_H_onLink_13 : decode b_H_onLink 13 = .ok (.invokevirtual 88, 3) := by decide +kernel
theorem d_H_onLink_16 : decode b_H_onLink 16 = .ok (.checkcast 52, 3) := by decide +kernel
theorem d_H_onLink_19 : decode b_H_onLink 19 = .ok (.getfield 113, 3) := by decide +kernel
theorem d_H_onLink_22 : decode b_H_onLink 22 = .ok (.invokevirtual 48, 3) := by decide +kernel
theorem d_H_onLink_25 : decode b_H_onLink 25 = .ok (.goto 4, 3) := by decide +kernel
theorem d_H_onLink_28 : decode b_H_onLink 28 = .ok (.iconst (-1), 1) := by decide +kernel
theorem d_H_onLink_29 : decode b_H_onLink 29 = .ok (.ireturn, 1) := by decide +kernel
def pp_H_onLink (g : Nat → ClassId) (e0 : Nat → Nat) (K : Int32 → mo_M → Prop) (M : mo_M) (x0 : Nat) (x1 : Int32) : Prop := (mp_is M x0 0 ∧ pp_H_hasLink g e0 (fun r2 M1 => ((r2 = 0 → K ((-1 : Int32)) M1) ∧ (¬ (r2 = 0) → mp_gr M1 x0 0 1 (fun v3 => (mp_is M1 v3 5 ∧ pp_A_get g e0 (fun r5 M4 => (mp_is M4 r5 2 ∧ mp_gr M4 r5 2 3 (fun v6 => (mp_is M4 v6 5 ∧ pp_A_size g e0 (fun r8 M7 => K r8 M7) M4 v6)))) M1 v3 x1))))) M x0 x1)
set_option maxHeartbeats 4000000 in
set_option maxRecDepth 100000 in
theorem cc_H_onLink (l : Launch) (L0 : Nat) (D : va_G) {g : Nat → ClassId} {e0 : Nat → Nat} {K : Int32 → mo_M → Prop} {M : mo_M} {x0 : Nat} {x1 : Int32} (hP : pp_H_onLink g e0 K M x0 x1) : Met l y_H_onLink ws_H_onLink (mo_R 3 0 0 64) (va_Pc [.ref x0, .int x1] (fun U => mo_B L0 e0 D vwCl (mo_T g) M U)) (mo_Qi L0 e0 D vwCl (mo_T g) K) 0 0 (fun q => L0 ≤ q) := by
  refine Met.ofW (cc := b_H_onLink) (maxL := 2) (ret := (Option.some Jvm.ClassFile.FieldType.int)) (by decide +kernel) rfl ?_
  intro p e s m args below meth c s₁ B hml hv
  obtain ⟨hv1, hB0⟩ := hv
  have hx := B.exec
  have hb := B.bytes
  have hr := B.returns
  have hts : ∀ w ∈ lw_g, w.before args s = true := fun w hw => atoms_spec (ws := ws_H_onLink) B.pre w (List.mem_cons_of_mem _ hw)
  have hown : s.vm.findClass "PurseHouse" = some m.cls := findClass_of_methodNamed B.named
  have hlocks := B.notSynchronized
  have hok : mo_ok L0 e0 D vwCl (mo_T g) s M s.heap [] := ⟨hB0.1, hB0.2.1, hB0.2.2, va_S.rf⟩
  have hl := lv_entry ([.ref x0, .int x1]) (n := 2) (Nat.le_of_ble_eq_true rfl)
  rw [hv1, lg_entry_eq]
  rw [← hv1]
  generalize (lg_sl [.ref x0, .int x1] ++ List.replicate (2 - (lg_sl [.ref x0, .int x1]).length) Slot.unset).toArray = ls at hl ⊢
  have hl : lv_has ls 2 [(0, .ref x0), (1, .int x1)] := hl
  unfold pp_H_onLink at hP
  refine lv_aload_n hx hb d_H_onLink_0 rfl (lv_at hl 0 rfl) ?_
  refine lv_iload_n hx hb d_H_onLink_1 rfl (lv_at hl 1 rfl) ?_
  obtain ⟨⟨fs9, he9⟩, hP⟩ := hP
  refine mo_calli hok (va_runV (As := [.int x1]) (rest := []) ⟨hx, hb, hml, hown, hts⟩ (cc_H_hasLink l L0 D hP) ⟨(callB_of 1 hts (lw_gi wd_309) rfl rfl rfl (hts _ wd_33) (hts _ wd_306) (by decide +kernel) ⟨Nat.le_of_ble_eq_true rfl, Nat.le_of_ble_eq_true rfl⟩), hts _ wd_308, hts _ wd_5⟩ (mo_preV hok he9 rfl [.int x1]) rfl rfl hl.1 rfl (lv_room (Nat.le_of_ble_eq_true rfl)) d_H_onLink_2 ⟨Nat.zero_le _, Nat.zero_le _⟩) (fun r2 M1 H locs hP hok => ?_)
  refine lv_if_eq (tgt := 28) hx hb d_H_onLink_5 (by decide) (fun hc => ?_) (fun hc => ?_)
  · replace hP := hP.1 hc
    refine lv_iconst (v := (-1)) hx hb d_H_onLink_28 (by decide) ?_
    exact mo_iret hx hb hr hlocks hok hP d_H_onLink_29
  · replace hP := hP.2 hc
    refine lv_aload_n hx hb d_H_onLink_8 rfl (lv_at hl 0 rfl) ?_
    refine mr_gr (C := "PurseHouse") (T := F_0) (N := 5) (ref := "PurseHouse") hx hb hts hown hok hP ui_0 rfl (by decide) (hts _ wd_142) (fun _ h => h) d_H_onLink_9 (fun v3 hP => ?_)
    refine lv_iload_n hx hb d_H_onLink_12 rfl (lv_at hl 1 rfl) ?_
    obtain ⟨⟨fs9, he9⟩, hP⟩ := hP
    refine mo_callr hok (va_runV (As := [.int x1]) (rest := []) ⟨hx, hb, hml, hown, hts⟩ (cc_A_get l L0 D hP) ⟨(callB_of 1 hts (lw_gi wd_313) rfl rfl rfl (hts _ wd_36) (hts _ wd_310) (by decide +kernel) ⟨Nat.le_of_ble_eq_true rfl, Nat.le_of_ble_eq_true rfl⟩), hts _ wd_311, hts _ wd_312⟩ (mo_preV hok he9 rfl [.int x1]) rfl rfl hl.1 rfl (lv_room (Nat.le_of_ble_eq_true rfl)) d_H_onLink_13 ⟨Nat.zero_le _, Nat.zero_le _⟩) (fun r5 M4 H locs hP hok => ?_)
    obtain ⟨his, hP⟩ := hP
    refine mr_cast (C := "PurseHouse$Link") (T := F_2) (N := 6) hx hb hown hok his rfl (hts _ wd_172) d_H_onLink_16 ?_
    refine mr_gr (C := "PurseHouse$Link") (T := F_2) (N := 6) (ref := "PurseHouse$Link") hx hb hts hown hok hP ui_2 rfl (by decide) (hts _ wd_188) (fun _ h => h) d_H_onLink_19 (fun v6 hP => ?_)
    obtain ⟨⟨fs9, he9⟩, hP⟩ := hP
    refine mo_calli hok (va_runV (As := []) (rest := []) ⟨hx, hb, hml, hown, hts⟩ (cc_A_size l L0 D hP) ⟨(callB_of 0 hts (lw_gi wd_171) rfl rfl rfl (hts _ wd_36) (hts _ wd_168) (by decide +kernel) ⟨Nat.le_of_ble_eq_true rfl, Nat.le_of_ble_eq_true rfl⟩), hts _ wd_169, hts _ wd_170⟩ (mo_preV hok he9 rfl []) rfl rfl hl.1 rfl (lv_room (Nat.le_of_ble_eq_true rfl)) d_H_onLink_22 ⟨Nat.zero_le _, Nat.zero_le _⟩) (fun r8 M7 H locs hP hok => ?_)
    refine lv_goto (tgt := 29) hx hb d_H_onLink_25 (by decide) ?_
    exact mo_iret hx hb hr hlocks hok hP d_H_onLink_29

abbrev b_H_recorded : ByteArray := prog_1_method_14_code
def y_H_recorded : MethodName := ⟨"PurseHouse", "recorded", "(II)Z"⟩
def ws_H_recorded : List Cond := .code y_H_recorded b_H_recorded 3 (Option.some Jvm.ClassFile.FieldType.boolean) :: lw_g
theorem d_H_recorded_0 : decode b_H_recorded 0 = .ok (.aload_n 0, 1) := by decide +kernel
theorem d_H_recorded_1 : decode b_H_recorded 1 = .ok (.iload_n 1, 1) := by decide +kernel
theorem d_H_recorded_2 : decode b_H_recorded 2 = .ok (.invokevirtual 164, 3) := by decide +kernel
theorem d_H_recorded_5 : decode b_H_recorded 5 = .ok (.ifCond .eq 28, 3) := by decide +kernel
theorem d_H_recorded_8 : decode b_H_recorded 8 = .ok (.aload_n 0, 1) := by decide +kernel
theorem d_H_recorded_9 : decode b_H_recorded 9 = .ok (.iload_n 2, 1) := by decide +kernel
theorem d_H_recorded_10 : decode b_H_recorded 10 = .ok (.invokevirtual 44, 3) := by decide +kernel
theorem d_H_recorded_13 : decode b_H_recorded 13 = .ok (.ifCond .eq 20, 3) := by decide +kernel
theorem d_H_recorded_16 : decode b_H_recorded 16 = .ok (.aload_n 0, 1) := by decide +kernel
theorem d_H_recorded_17 : decode b_H_recorded 17 = .ok (.getfield 39, 3) := by decide +kernel
theorem d_H_recorded_20 : decode b_H_recorded 20 = .ok (.iload_n 2, 1) := by decide +kernel
theorem d_H_recorded_21 : decode b_H_recorded 21 = .ok (.aaload, 1) := by decide +kernel
theorem d_H_recorded_22 : decode b_H_recorded 22 = .ok (.iload_n 1, 1) := by decide +kernel
theorem d_H_recorded_23 : decode b_H_recorded 23 = .ok (.invokevirtual 167, 3) := by decide +kernel
theorem d_H_recorded_26 : decode b_H_recorded 26 = .ok (.ifCond .eq 7, 3) := by decide +kernel
theorem d_H_recorded_29 : decode b_H_recorded 29 = .ok (.iconst 1, 1) := by decide +kernel
theorem d_H_recorded_30 : decode b_H_recorded 30 = .ok (.goto 4, 3) := by decide +kernel
theorem d_H_recorded_33 : decode b_H_recorded 33 = .ok (.iconst 0, 1) := by decide +kernel
theorem d_H_recorded_34 : decode b_H_recorded 34 = .ok (.ireturn, 1) := by decide +kernel
def pp_H_recorded (g : Nat → ClassId) (e0 : Nat → Nat) (K : Int32 → mo_M → Prop) (M : mo_M) (x0 : Nat) (x1 : Int32) (x2 : Int32) : Prop := (mp_is M x0 0 ∧ pp_H_hasNumber g e0 (fun r2 M1 => ((r2 = 0 → (narrow .boolean (.int ((0 : Int32))) = .int ((0 : Int32)) ∧ K ((0 : Int32)) M1)) ∧ (¬ (r2 = 0) → (mp_is M1 x0 0 ∧ pp_H_hasKiosk g e0 (fun r4 M3 => ((r4 = 0 → (narrow .boolean (.int ((0 : Int32))) = .int ((0 : Int32)) ∧ K ((0 : Int32)) M3)) ∧ (¬ (r4 = 0) → mp_gr M3 x0 0 0 (fun v5 => mp_ar (g 3) M3 v5 x2 (fun v6 => (mp_is M3 v6 1 ∧ pp_K_hasMark g e0 (fun r8 M7 => ((r8 = 0 → (narrow .boolean (.int ((0 : Int32))) = .int ((0 : Int32)) ∧ K ((0 : Int32)) M7)) ∧ (¬ (r8 = 0) → (narrow .boolean (.int ((1 : Int32))) = .int ((1 : Int32)) ∧ K ((1 : Int32)) M7)))) M3 v6 x1)))))) M1 x0 x2)))) M x0 x1)
set_option maxHeartbeats 4000000 in
set_option maxRecDepth 100000 in
theorem cc_H_recorded (l : Launch) (L0 : Nat) (D : va_G) {g : Nat → ClassId} {e0 : Nat → Nat} {K : Int32 → mo_M → Prop} {M : mo_M} {x0 : Nat} {x1 : Int32} {x2 : Int32} (hP : pp_H_recorded g e0 K M x0 x1 x2) : Met l y_H_recorded ws_H_recorded (mo_R 2 0 0 43) (va_Pc [.ref x0, .int x1, .int x2] (fun U => mo_B L0 e0 D vwCl (mo_T g) M U)) (mo_Qi L0 e0 D vwCl (mo_T g) K) 0 0 (fun q => L0 ≤ q) := by
  refine Met.ofW (cc := b_H_recorded) (maxL := 3) (ret := (Option.some Jvm.ClassFile.FieldType.boolean)) (by decide +kernel) rfl ?_
  intro p e s m args below meth c s₁ B hml hv
  obtain ⟨hv1, hB0⟩ := hv
  have hx := B.exec
  have hb := B.bytes
  have hr := B.returns
  have hts : ∀ w ∈ lw_g, w.before args s = true := fun w hw => atoms_spec (ws := ws_H_recorded) B.pre w (List.mem_cons_of_mem _ hw)
  have hown : s.vm.findClass "PurseHouse" = some m.cls := findClass_of_methodNamed B.named
  have hlocks := B.notSynchronized
  have hok : mo_ok L0 e0 D vwCl (mo_T g) s M s.heap [] := ⟨hB0.1, hB0.2.1, hB0.2.2, va_S.rf⟩
  have hl := lv_entry ([.ref x0, .int x1, .int x2]) (n := 3) (Nat.le_of_ble_eq_true rfl)
  rw [hv1, lg_entry_eq]
  rw [← hv1]
  generalize (lg_sl [.ref x0, .int x1, .int x2] ++ List.replicate (3 - (lg_sl [.ref x0, .int x1, .int x2]).length) Slot.unset).toArray = ls at hl ⊢
  have hl : lv_has ls 3 [(0, .ref x0), (1, .int x1), (2, .int x2)] := hl
  unfold pp_H_recorded at hP
  refine lv_aload_n hx hb d_H_recorded_0 rfl (lv_at hl 0 rfl) ?_
  refine lv_iload_n hx hb d_H_recorded_1 rfl (lv_at hl 1 rfl) ?_
  obtain ⟨⟨fs9, he9⟩, hP⟩ := hP
  refine mo_calli hok (va_runV (As := [.int x1]) (rest := []) ⟨hx, hb, hml, hown, hts⟩ (cc_H_hasNumber l L0 D hP) ⟨(callB_of 1 hts (lw_gi wd_446) rfl rfl rfl (hts _ wd_33) (hts _ wd_443) (by decide +kernel) ⟨Nat.le_of_ble_eq_true rfl, Nat.le_of_ble_eq_true rfl⟩), hts _ wd_445, hts _ wd_11⟩ (mo_preV hok he9 rfl [.int x1]) rfl rfl hl.1 rfl (lv_room (Nat.le_of_ble_eq_true rfl)) d_H_recorded_2 ⟨Nat.zero_le _, Nat.zero_le _⟩) (fun r2 M1 H locs hP hok => ?_)
  refine lv_if_eq (tgt := 33) hx hb d_H_recorded_5 (by decide) (fun hc => ?_) (fun hc => ?_)
  · replace hP := hP.1 hc
    refine lv_iconst (v := 0) hx hb d_H_recorded_33 (by decide) ?_
    exact mo_zret hx hb hr hlocks hok hP d_H_recorded_34
  · replace hP := hP.2 hc
    refine lv_aload_n hx hb d_H_recorded_8 rfl (lv_at hl 0 rfl) ?_
    refine lv_iload_n hx hb d_H_recorded_9 rfl (lv_at hl 2 rfl) ?_
    obtain ⟨⟨fs9, he9⟩, hP⟩ := hP
    refine mo_calli hok (va_runV (As := [.int x2]) (rest := []) ⟨hx, hb, hml, hown, hts⟩ (cc_H_hasKiosk l L0 D hP) ⟨(callB_of 1 hts (lw_gi wd_164) rfl rfl rfl (hts _ wd_33) (hts _ wd_161) (by decide +kernel) ⟨Nat.le_of_ble_eq_true rfl, Nat.le_of_ble_eq_true rfl⟩), hts _ wd_163, hts _ wd_0⟩ (mo_preV hok he9 rfl [.int x2]) rfl rfl hl.1 rfl (lv_room (Nat.le_of_ble_eq_true rfl)) d_H_recorded_10 ⟨Nat.zero_le _, Nat.zero_le _⟩) (fun r4 M3 H locs hP hok => ?_)
    refine lv_if_eq (tgt := 33) hx hb d_H_recorded_13 (by decide) (fun hc => ?_) (fun hc => ?_)
    · replace hP := hP.1 hc
      refine lv_iconst (v := 0) hx hb d_H_recorded_33 (by decide) ?_
      exact mo_zret hx hb hr hlocks hok hP d_H_recorded_34
    · replace hP := hP.2 hc
      refine lv_aload_n hx hb d_H_recorded_16 rfl (lv_at hl 0 rfl) ?_
      refine mr_gr (C := "PurseHouse") (T := F_0) (N := 5) (ref := "PurseHouse") hx hb hts hown hok hP ui_0 rfl (by decide) (hts _ wd_141) (fun _ h => h) d_H_recorded_17 (fun v5 hP => ?_)
      refine lv_iload_n hx hb d_H_recorded_20 rfl (lv_at hl 2 rfl) ?_
      refine mr_ar hx hb hok hP 3 rfl rfl d_H_recorded_21 (fun v6 hP => ?_)
      refine lv_iload_n hx hb d_H_recorded_22 rfl (lv_at hl 1 rfl) ?_
      obtain ⟨⟨fs9, he9⟩, hP⟩ := hP
      refine mo_calli hok (va_runV (As := [.int x1]) (rest := []) ⟨hx, hb, hml, hown, hts⟩ (cc_K_hasMark l L0 D hP) ⟨(callB_of 1 hts (lw_gi wd_395) rfl rfl rfl (hts _ wd_38) (hts _ wd_392) (by decide +kernel) ⟨Nat.le_of_ble_eq_true rfl, Nat.le_of_ble_eq_true rfl⟩), hts _ wd_393, hts _ wd_394⟩ (mo_preV hok he9 rfl [.int x1]) rfl rfl hl.1 rfl (lv_room (Nat.le_of_ble_eq_true rfl)) d_H_recorded_23 ⟨Nat.zero_le _, Nat.zero_le _⟩) (fun r8 M7 H locs hP hok => ?_)
      refine lv_if_eq (tgt := 33) hx hb d_H_recorded_26 (by decide) (fun hc => ?_) (fun hc => ?_)
      · replace hP := hP.1 hc
        refine lv_iconst (v := 0) hx hb d_H_recorded_33 (by decide) ?_
        exact mo_zret hx hb hr hlocks hok hP d_H_recorded_34
      · replace hP := hP.2 hc
        refine lv_iconst (v := 1) hx hb d_H_recorded_29 (by decide) ?_
        refine lv_goto (tgt := 34) hx hb d_H_recorded_30 (by decide) ?_
        exact mo_zret hx hb hr hlocks hok hP d_H_recorded_34

abbrev b_H_allKiosksRecorded : ByteArray := prog_1_method_32_code
def y_H_allKiosksRecorded : MethodName := ⟨"PurseHouse", "allKiosksRecorded", "(I)Z"⟩
def ws_H_allKiosksRecorded : List Cond := .code y_H_allKiosksRecorded b_H_allKiosksRecorded 3 (Option.some Jvm.ClassFile.FieldType.boolean) :: lw_g
theorem d_H_allKiosksRecorded_0 : decode b_H_allKiosksRecorded 0 = .ok (.iconst 0, 1) := by decide +kernel
theorem d_H_allKiosksRecorded_1 : decode b_H_allKiosksRecorded 1 = .ok (.istore_n 2, 1) := by decide +kernel
theorem d_H_allKiosksRecorded_2 : decode b_H_allKiosksRecorded 2 = .ok (.iload_n 2, 1) := by decide +kernel
theorem d_H_allKiosksRecorded_3 : decode b_H_allKiosksRecorded 3 = .ok (.aload_n 0, 1) := by decide +kernel
theorem d_H_allKiosksRecorded_4 : decode b_H_allKiosksRecorded 4 = .ok (.getfield 39, 3) := by decide +kernel
theorem d_H_allKiosksRecorded_7 : decode b_H_allKiosksRecorded 7 = .ok (.arraylength, 1) := by decide +kernel
theorem d_H_allKiosksRecorded_8 : decode b_H_allKiosksRecorded 8 = .ok (.if_icmp .ge 24, 3) := by decide +kernel
theorem d_H_allKiosksRecorded_11 : decode b_H_allKiosksRecorded 11 = .ok (.aload_n 0, 1) := by decide +kernel
theorem d_H_allKiosksRecorded_12 : decode b_H_allKiosksRecorded 12 = .ok (.getfield 39, 3) := by decide +kernel
theorem d_H_allKiosksRecorded_15 : decode b_H_allKiosksRecorded 15 = .ok (.iload_n 2, 1) := by decide +kernel
theorem d_H_allKiosksRecorded_16 : decode b_H_allKiosksRecorded 16 = .ok (.aaload, 1) := by decide +kernel
theorem d_H_allKiosksRecorded_17 : decode b_H_allKiosksRecorded 17 = .ok (.iload_n 1, 1) := by decide +kernel
theorem d_H_allKiosksRecorded_18 : decode b_H_allKiosksRecorded 18 = .ok (.invokevirtual 167, 3) := by decide +kernel
theorem d_H_allKiosksRecorded_21 : decode b_H_allKiosksRecorded 21 = .ok (.ifCond .ne 5, 3) := by decide +kernel
theorem d_H_allKiosksRecorded_24 : decode b_H_allKiosksRecorded 24 = .ok (.iconst 0, 1) := by decide +kernel
theorem d_H_allKiosksRecorded_25 : decode b_H_allKiosksRecorded 25 = .ok (.ireturn, 1) := by decide +kernel
theorem d_H_allKiosksRecorded_26 : decode b_H_allKiosksRecorded 26 = .ok (.iinc 2 1, 3) := by decide +kernel
theorem d_H_allKiosksRecorded_29 : decode b_H_allKiosksRecorded 29 = .ok (.goto (-27), 3) := by decide +kernel
theorem d_H_allKiosksRecorded_32 : decode b_H_allKiosksRecorded 32 = .ok (.iconst 1, 1) := by decide +kernel
theorem d_H_allKiosksRecorded_33 : decode b_H_allKiosksRecorded 33 = .ok (.ireturn, 1) := by decide +kernel
def pp_H_allKiosksRecorded_b2 (g : Nat → ClassId) (e0 : Nat → Nat) (K : Int32 → mo_M → Prop) : Nat → mo_M → Nat → Int32 → Int32 → Prop
  | 0, _, _, _, _ => False
  | n + 1, M, x0, x1, x2 => mp_gr M x0 0 0 (fun v2 => mp_ln (g 3) M v2 (fun v3 => ((v3 ≤ x2 → (narrow .boolean (.int ((1 : Int32))) = .int ((1 : Int32)) ∧ K ((1 : Int32)) M)) ∧ (¬ (v3 ≤ x2) → mp_gr M x0 0 0 (fun v4 => mp_ar (g 3) M v4 x2 (fun v5 => (mp_is M v5 1 ∧ pp_K_hasMark g e0 (fun r7 M6 => ((r7 = 0 → (narrow .boolean (.int ((0 : Int32))) = .int ((0 : Int32)) ∧ K ((0 : Int32)) M6)) ∧ (¬ (r7 = 0) → pp_H_allKiosksRecorded_b2 g e0 K n M6 x0 x1 (x2 + 1)))) M v5 x1)))))))
def pp_H_allKiosksRecorded (g : Nat → ClassId) (e0 : Nat → Nat) (K : Int32 → mo_M → Prop) (M : mo_M) (x0 : Nat) (x1 : Int32) : Prop := ∃ n1 : Nat, pp_H_allKiosksRecorded_b2 g e0 K n1 M x0 x1 ((0 : Int32))
set_option maxHeartbeats 4000000 in
set_option maxRecDepth 100000 in
theorem cc_H_allKiosksRecorded (l : Launch) (L0 : Nat) (D : va_G) {g : Nat → ClassId} {e0 : Nat → Nat} {K : Int32 → mo_M → Prop} {M : mo_M} {x0 : Nat} {x1 : Int32} (hP : pp_H_allKiosksRecorded g e0 K M x0 x1) : Met l y_H_allKiosksRecorded ws_H_allKiosksRecorded (mo_R 2 0 0 42) (va_Pc [.ref x0, .int x1] (fun U => mo_B L0 e0 D vwCl (mo_T g) M U)) (mo_Qi L0 e0 D vwCl (mo_T g) K) 0 0 (fun q => L0 ≤ q) := by
  refine Met.ofW (cc := b_H_allKiosksRecorded) (maxL := 3) (ret := (Option.some Jvm.ClassFile.FieldType.boolean)) (by decide +kernel) rfl ?_
  intro p e s m args below meth c s₁ B hml hv
  obtain ⟨hv1, hB0⟩ := hv
  have hx := B.exec
  have hb := B.bytes
  have hr := B.returns
  have hts : ∀ w ∈ lw_g, w.before args s = true := fun w hw => atoms_spec (ws := ws_H_allKiosksRecorded) B.pre w (List.mem_cons_of_mem _ hw)
  have hown : s.vm.findClass "PurseHouse" = some m.cls := findClass_of_methodNamed B.named
  have hlocks := B.notSynchronized
  have w_2 : ∀ (n : Nat) (M : mo_M) (x0 : Nat) (x1 : Int32) (x2 : Int32) (H : Heap) (locs : List Loc) (ls : Array Slot), pp_H_allKiosksRecorded_b2 g e0 K n M x0 x1 x2 → mo_ok L0 e0 D vwCl (mo_T g) s M H locs → lv_has ls 3 [(0, .ref x0), (1, .int x1), (2, .int x2)] → W p l e (headSpec ws_H_allKiosksRecorded (mo_R 2 0 0 42)).room s m args below meth c H locs 0 0 (mo_Z below (mo_Qi L0 e0 D vwCl (mo_T g) K) args s 0 0 L0) (F0 m 2 ls []) := by
    intro n
    induction n with
    | zero => intro M x0 x1 x2 H locs ls hP; exact hP.elim
    | succ n ih =>
      intro M x0 x1 x2 H locs ls hP hok hl
      unfold pp_H_allKiosksRecorded_b2 at hP
      refine lv_iload_n hx hb d_H_allKiosksRecorded_2 rfl (lv_at hl 2 rfl) ?_
      refine lv_aload_n hx hb d_H_allKiosksRecorded_3 rfl (lv_at hl 0 rfl) ?_
      refine mr_gr (C := "PurseHouse") (T := F_0) (N := 5) (ref := "PurseHouse") hx hb hts hown hok hP ui_0 rfl (by decide) (hts _ wd_141) (fun _ h => h) d_H_allKiosksRecorded_4 (fun v2 hP => ?_)
      refine mr_ln hx hb hok hP 3 rfl d_H_allKiosksRecorded_7 (fun v3 hP => ?_)
      refine lv_icmp_ge (tgt := 32) hx hb d_H_allKiosksRecorded_8 (by decide) (fun hc => ?_) (fun hc => ?_)
      · replace hP := hP.1 hc
        refine lv_iconst (v := 1) hx hb d_H_allKiosksRecorded_32 (by decide) ?_
        exact mo_zret hx hb hr hlocks hok hP d_H_allKiosksRecorded_33
      · replace hP := hP.2 hc
        refine lv_aload_n hx hb d_H_allKiosksRecorded_11 rfl (lv_at hl 0 rfl) ?_
        refine mr_gr (C := "PurseHouse") (T := F_0) (N := 5) (ref := "PurseHouse") hx hb hts hown hok hP ui_0 rfl (by decide) (hts _ wd_141) (fun _ h => h) d_H_allKiosksRecorded_12 (fun v4 hP => ?_)
        refine lv_iload_n hx hb d_H_allKiosksRecorded_15 rfl (lv_at hl 2 rfl) ?_
        refine mr_ar hx hb hok hP 3 rfl rfl d_H_allKiosksRecorded_16 (fun v5 hP => ?_)
        refine lv_iload_n hx hb d_H_allKiosksRecorded_17 rfl (lv_at hl 1 rfl) ?_
        obtain ⟨⟨fs9, he9⟩, hP⟩ := hP
        refine mo_calli hok (va_runV (As := [.int x1]) (rest := []) ⟨hx, hb, hml, hown, hts⟩ (cc_K_hasMark l L0 D hP) ⟨(callB_of 1 hts (lw_gi wd_395) rfl rfl rfl (hts _ wd_38) (hts _ wd_392) (by decide +kernel) ⟨Nat.le_of_ble_eq_true rfl, Nat.le_of_ble_eq_true rfl⟩), hts _ wd_393, hts _ wd_394⟩ (mo_preV hok he9 rfl [.int x1]) rfl rfl hl.1 rfl (lv_room (Nat.le_of_ble_eq_true rfl)) d_H_allKiosksRecorded_18 ⟨Nat.zero_le _, Nat.zero_le _⟩) (fun r7 M6 H locs hP hok => ?_)
        refine lv_if_ne (tgt := 26) hx hb d_H_allKiosksRecorded_21 (by decide) (fun hc => ?_) (fun hc => ?_)
        · replace hP := hP.2 hc
          refine lv_iinc (k := 2) (v := x2 + 1) (lv' := [(2, .int (x2 + 1)), (0, .ref x0), (1, .int x1)]) hx hb d_H_allKiosksRecorded_26 hl rfl rfl (by decide) rfl (fun ls hl => ?_)
          refine lv_goto (tgt := 2) hx hb d_H_allKiosksRecorded_29 (by decide) ?_
          exact ih _ _ _ _ _ _ _ hP hok (lv_sub hl [1, 2, 0] rfl)
        · replace hP := hP.1 hc
          refine lv_iconst (v := 0) hx hb d_H_allKiosksRecorded_24 (by decide) ?_
          exact mo_zret hx hb hr hlocks hok hP d_H_allKiosksRecorded_25
  have hok : mo_ok L0 e0 D vwCl (mo_T g) s M s.heap [] := ⟨hB0.1, hB0.2.1, hB0.2.2, va_S.rf⟩
  have hl := lv_entry ([.ref x0, .int x1]) (n := 3) (Nat.le_of_ble_eq_true rfl)
  rw [hv1, lg_entry_eq]
  rw [← hv1]
  generalize (lg_sl [.ref x0, .int x1] ++ List.replicate (3 - (lg_sl [.ref x0, .int x1]).length) Slot.unset).toArray = ls at hl ⊢
  have hl : lv_has ls 3 [(0, .ref x0), (1, .int x1)] := hl
  unfold pp_H_allKiosksRecorded at hP
  refine lv_iconst (v := 0) hx hb d_H_allKiosksRecorded_0 (by decide) ?_
  refine lv_istore_n (lv' := [(2, .int ((0 : Int32))), (0, .ref x0), (1, .int x1)]) hx hb d_H_allKiosksRecorded_1 rfl hl (by decide) rfl (fun ls hl => ?_)
  obtain ⟨n1, hP⟩ := hP
  exact w_2  n1 _ _ _ _ _ _ _ hP hok (lv_sub hl [1, 2, 0] rfl)

abbrev b_H_allLinksDone : ByteArray := prog_1_method_33_code
def y_H_allLinksDone : MethodName := ⟨"PurseHouse", "allLinksDone", "(I)Z"⟩
def ws_H_allLinksDone : List Cond := .code y_H_allLinksDone b_H_allLinksDone 3 (Option.some Jvm.ClassFile.FieldType.boolean) :: lw_g
theorem d_H_allLinksDone_0 : decode b_H_allLinksDone 0 = .ok (.iconst 0, 1) := by decide +kernel
theorem d_H_allLinksDone_1 : decode b_H_allLinksDone 1 = .ok (.istore_n 2, 1) := by decide +kernel
theorem d_H_allLinksDone_2 : decode b_H_allLinksDone 2 = .ok (.iload_n 2, 1) := by decide +kernel
theorem d_H_allLinksDone_3 : decode b_H_allLinksDone 3 = .ok (.aload_n 0, 1) := by decide +kernel
theorem d_H_allLinksDone_4 : decode b_H_allLinksDone 4 = .ok (.getfield 10, 3) := by decide +kernel
theorem d_H_allLinksDone_7 : decode b_H_allLinksDone 7 = .ok (.invokevirtual 48, 3) := by decide +kernel
theorem d_H_allLinksDone_10 : decode b_H_allLinksDone 10 = .ok (.if_icmp .ge 29, 3) := by decide +kernel
theorem d_H_allLinksDone_13 : decode b_H_allLinksDone 13 = .ok (.aload_n 0, 1) := by decide +kernel
theorem d_H_allLinksDone_14 : decode b_H_allLinksDone 14 = .ok (.getfield 10, 3) := by decide +kernel
theorem d_H_allLinksDone_17 : decode b_H_allLinksDone 17 = .ok (.iload_n 2, 1) := by decide +kernel
theorem d_H_allLinksDone_18 : decode b_H_allLinksDone 18 = .ok (.invokevirtual 88, 3) := by decide +kernel
theorem d_H_allLinksDone_21 : decode b_H_allLinksDone 21 = .ok (.checkcast 52, 3) := by decide +kernel
theorem d_H_allLinksDone_24 : decode b_H_allLinksDone 24 = .ok (.iload_n 1, 1) := by decide +kernel
theorem d_H_allLinksDone_25 : decode b_H_allLinksDone 25 = .ok (.invokevirtual 212, 3) := by decide +kernel
theorem d_H_allLinksDone_28 : decode b_H_allLinksDone 28 = .ok (.ifCond .ne 5, 3) := by decide +kernel
theorem d_H_allLinksDone_31 : decode b_H_allLinksDone 31 = .ok (.iconst 0, 1) := by decide +kernel
theorem d_H_allLinksDone_32 : decode b_H_allLinksDone 32 = .ok (.ireturn, 1) := by decide +kernel
theorem d_H_allLinksDone_33 : decode b_H_allLinksDone 33 = .ok (.iinc 2 1, 3) := by decide +kernel
theorem d_H_allLinksDone_36 : decode b_H_allLinksDone 36 = .ok (.goto (-34), 3) := by decide +kernel
theorem d_H_allLinksDone_39 : decode b_H_allLinksDone 39 = .ok (.iconst 1, 1) := by decide +kernel
theorem d_H_allLinksDone_40 : decode b_H_allLinksDone 40 = .ok (.ireturn, 1) := by decide +kernel
def pp_H_allLinksDone_b2 (g : Nat → ClassId) (e0 : Nat → Nat) (K : Int32 → mo_M → Prop) : Nat → mo_M → Nat → Int32 → Int32 → Prop
  | 0, _, _, _, _ => False
  | n + 1, M, x0, x1, x2 => mp_gr M x0 0 1 (fun v2 => (mp_is M v2 5 ∧ pp_A_size g e0 (fun r4 M3 => ((r4 ≤ x2 → (narrow .boolean (.int ((1 : Int32))) = .int ((1 : Int32)) ∧ K ((1 : Int32)) M3)) ∧ (¬ (r4 ≤ x2) → mp_gr M3 x0 0 1 (fun v5 => (mp_is M3 v5 5 ∧ pp_A_get g e0 (fun r7 M6 => (mp_is M6 r7 2 ∧ (mp_is M6 r7 2 ∧ pp_L_isDone g e0 (fun r9 M8 => ((r9 = 0 → (narrow .boolean (.int ((0 : Int32))) = .int ((0 : Int32)) ∧ K ((0 : Int32)) M8)) ∧ (¬ (r9 = 0) → pp_H_allLinksDone_b2 g e0 K n M8 x0 x1 (x2 + 1)))) M6 r7 x1))) M3 v5 x2))))) M v2))
def pp_H_allLinksDone (g : Nat → ClassId) (e0 : Nat → Nat) (K : Int32 → mo_M → Prop) (M : mo_M) (x0 : Nat) (x1 : Int32) : Prop := ∃ n1 : Nat, pp_H_allLinksDone_b2 g e0 K n1 M x0 x1 ((0 : Int32))
set_option maxHeartbeats 4000000 in
set_option maxRecDepth 100000 in
theorem cc_H_allLinksDone (l : Launch) (L0 : Nat) (D : va_G) {g : Nat → ClassId} {e0 : Nat → Nat} {K : Int32 → mo_M → Prop} {M : mo_M} {x0 : Nat} {x1 : Int32} (hP : pp_H_allLinksDone g e0 K M x0 x1) : Met l y_H_allLinksDone ws_H_allLinksDone (mo_R 5 0 0 108) (va_Pc [.ref x0, .int x1] (fun U => mo_B L0 e0 D vwCl (mo_T g) M U)) (mo_Qi L0 e0 D vwCl (mo_T g) K) 0 0 (fun q => L0 ≤ q) := by
  refine Met.ofW (cc := b_H_allLinksDone) (maxL := 3) (ret := (Option.some Jvm.ClassFile.FieldType.boolean)) (by decide +kernel) rfl ?_
  intro p e s m args below meth c s₁ B hml hv
  obtain ⟨hv1, hB0⟩ := hv
  have hx := B.exec
  have hb := B.bytes
  have hr := B.returns
  have hts : ∀ w ∈ lw_g, w.before args s = true := fun w hw => atoms_spec (ws := ws_H_allLinksDone) B.pre w (List.mem_cons_of_mem _ hw)
  have hown : s.vm.findClass "PurseHouse" = some m.cls := findClass_of_methodNamed B.named
  have hlocks := B.notSynchronized
  have w_2 : ∀ (n : Nat) (M : mo_M) (x0 : Nat) (x1 : Int32) (x2 : Int32) (H : Heap) (locs : List Loc) (ls : Array Slot), pp_H_allLinksDone_b2 g e0 K n M x0 x1 x2 → mo_ok L0 e0 D vwCl (mo_T g) s M H locs → lv_has ls 3 [(0, .ref x0), (1, .int x1), (2, .int x2)] → W p l e (headSpec ws_H_allLinksDone (mo_R 5 0 0 108)).room s m args below meth c H locs 0 0 (mo_Z below (mo_Qi L0 e0 D vwCl (mo_T g) K) args s 0 0 L0) (F0 m 2 ls []) := by
    intro n
    induction n with
    | zero => intro M x0 x1 x2 H locs ls hP; exact hP.elim
    | succ n ih =>
      intro M x0 x1 x2 H locs ls hP hok hl
      unfold pp_H_allLinksDone_b2 at hP
      refine lv_iload_n hx hb d_H_allLinksDone_2 rfl (lv_at hl 2 rfl) ?_
      refine lv_aload_n hx hb d_H_allLinksDone_3 rfl (lv_at hl 0 rfl) ?_
      refine mr_gr (C := "PurseHouse") (T := F_0) (N := 5) (ref := "PurseHouse") hx hb hts hown hok hP ui_0 rfl (by decide) (hts _ wd_142) (fun _ h => h) d_H_allLinksDone_4 (fun v2 hP => ?_)
      obtain ⟨⟨fs9, he9⟩, hP⟩ := hP
      refine mo_calli hok (va_runV (As := []) (rest := [.int x2]) ⟨hx, hb, hml, hown, hts⟩ (cc_A_size l L0 D hP) ⟨(callB_of 0 hts (lw_gi wd_171) rfl rfl rfl (hts _ wd_36) (hts _ wd_168) (by decide +kernel) ⟨Nat.le_of_ble_eq_true rfl, Nat.le_of_ble_eq_true rfl⟩), hts _ wd_169, hts _ wd_170⟩ (mo_preV hok he9 rfl []) rfl rfl hl.1 rfl (lv_room (Nat.le_of_ble_eq_true rfl)) d_H_allLinksDone_7 ⟨Nat.zero_le _, Nat.zero_le _⟩) (fun r4 M3 H locs hP hok => ?_)
      refine lv_icmp_ge (tgt := 39) hx hb d_H_allLinksDone_10 (by decide) (fun hc => ?_) (fun hc => ?_)
      · replace hP := hP.1 hc
        refine lv_iconst (v := 1) hx hb d_H_allLinksDone_39 (by decide) ?_
        exact mo_zret hx hb hr hlocks hok hP d_H_allLinksDone_40
      · replace hP := hP.2 hc
        refine lv_aload_n hx hb d_H_allLinksDone_13 rfl (lv_at hl 0 rfl) ?_
        refine mr_gr (C := "PurseHouse") (T := F_0) (N := 5) (ref := "PurseHouse") hx hb hts hown hok hP ui_0 rfl (by decide) (hts _ wd_142) (fun _ h => h) d_H_allLinksDone_14 (fun v5 hP => ?_)
        refine lv_iload_n hx hb d_H_allLinksDone_17 rfl (lv_at hl 2 rfl) ?_
        obtain ⟨⟨fs9, he9⟩, hP⟩ := hP
        refine mo_callr hok (va_runV (As := [.int x2]) (rest := []) ⟨hx, hb, hml, hown, hts⟩ (cc_A_get l L0 D hP) ⟨(callB_of 1 hts (lw_gi wd_313) rfl rfl rfl (hts _ wd_36) (hts _ wd_310) (by decide +kernel) ⟨Nat.le_of_ble_eq_true rfl, Nat.le_of_ble_eq_true rfl⟩), hts _ wd_311, hts _ wd_312⟩ (mo_preV hok he9 rfl [.int x2]) rfl rfl hl.1 rfl (lv_room (Nat.le_of_ble_eq_true rfl)) d_H_allLinksDone_18 ⟨Nat.zero_le _, Nat.zero_le _⟩) (fun r7 M6 H locs hP hok => ?_)
        obtain ⟨his, hP⟩ := hP
        refine mr_cast (C := "PurseHouse$Link") (T := F_2) (N := 6) hx hb hown hok his rfl (hts _ wd_172) d_H_allLinksDone_21 ?_
        refine lv_iload_n hx hb d_H_allLinksDone_24 rfl (lv_at hl 1 rfl) ?_
        obtain ⟨⟨fs9, he9⟩, hP⟩ := hP
        refine mo_calli hok (va_runV (As := [.int x1]) (rest := []) ⟨hx, hb, hml, hown, hts⟩ (cc_L_isDone l L0 D hP) ⟨(callB_of 1 hts (lw_gi wd_462) rfl rfl rfl (hts _ wd_40) (hts _ wd_459) (by decide +kernel) ⟨Nat.le_of_ble_eq_true rfl, Nat.le_of_ble_eq_true rfl⟩), hts _ wd_460, hts _ wd_461⟩ (mo_preV hok he9 rfl [.int x1]) rfl rfl hl.1 rfl (lv_room (Nat.le_of_ble_eq_true rfl)) d_H_allLinksDone_25 ⟨Nat.zero_le _, Nat.zero_le _⟩) (fun r9 M8 H locs hP hok => ?_)
        refine lv_if_ne (tgt := 33) hx hb d_H_allLinksDone_28 (by decide) (fun hc => ?_) (fun hc => ?_)
        · replace hP := hP.2 hc
          refine lv_iinc (k := 2) (v := x2 + 1) (lv' := [(2, .int (x2 + 1)), (0, .ref x0), (1, .int x1)]) hx hb d_H_allLinksDone_33 hl rfl rfl (by decide) rfl (fun ls hl => ?_)
          refine lv_goto (tgt := 2) hx hb d_H_allLinksDone_36 (by decide) ?_
          exact ih _ _ _ _ _ _ _ hP hok (lv_sub hl [1, 2, 0] rfl)
        · replace hP := hP.1 hc
          refine lv_iconst (v := 0) hx hb d_H_allLinksDone_31 (by decide) ?_
          exact mo_zret hx hb hr hlocks hok hP d_H_allLinksDone_32
  have hok : mo_ok L0 e0 D vwCl (mo_T g) s M s.heap [] := ⟨hB0.1, hB0.2.1, hB0.2.2, va_S.rf⟩
  have hl := lv_entry ([.ref x0, .int x1]) (n := 3) (Nat.le_of_ble_eq_true rfl)
  rw [hv1, lg_entry_eq]
  rw [← hv1]
  generalize (lg_sl [.ref x0, .int x1] ++ List.replicate (3 - (lg_sl [.ref x0, .int x1]).length) Slot.unset).toArray = ls at hl ⊢
  have hl : lv_has ls 3 [(0, .ref x0), (1, .int x1)] := hl
  unfold pp_H_allLinksDone at hP
  refine lv_iconst (v := 0) hx hb d_H_allLinksDone_0 (by decide) ?_
  refine lv_istore_n (lv' := [(2, .int ((0 : Int32))), (0, .ref x0), (1, .int x1)]) hx hb d_H_allLinksDone_1 rfl hl (by decide) rfl (fun ls hl => ?_)
  obtain ⟨n1, hP⟩ := hP
  exact w_2  n1 _ _ _ _ _ _ _ hP hok (lv_sub hl [1, 2, 0] rfl)

abbrev b_H_finished : ByteArray := prog_1_method_15_code
def y_H_finished : MethodName := ⟨"PurseHouse", "finished", "(I)Z"⟩
def ws_H_finished : List Cond := .code y_H_finished b_H_finished 2 (Option.some Jvm.ClassFile.FieldType.boolean) :: lw_g
theorem d_H_finished_0 : decode b_H_finished 0 = .ok (.aload_n 0, 1) := by decide +kernel
theorem d_H_finished_1 : decode b_H_finished 1 = .ok (.iload_n 1, 1) := by decide +kernel
theorem d_H_finished_2 : decode b_H_finished 2 = .ok (.invokevirtual 164, 3) := by decide +kernel
theorem d_H_finished_5 : decode b_H_finished 5 = .ok (.ifCond .eq 23, 3) := by decide +kernel
theorem d_H_finished_8 : decode b_H_finished 8 = .ok (.aload_n 0, 1) := by decide +kernel
theorem d_H_finished_9 : decode b_H_finished 9 = .ok (.iload_n 1, 1) := by decide +kernel
theorem d_H_finished_10 : decode b_H_finished 10 = .ok (.invokevirtual 170, 3) := by decide +kernel
theorem d_H_finished_13 : decode b_H_finished 13 = .ok (.ifCond .eq 15, 3) := by decide +kernel
theorem d_H_finished_16 : decode b_H_finished 16 = .ok (.aload_n 0, 1) := by decide +kernel
theorem d_H_finished_17 : decode b_H_finished 17 = .ok (.iload_n 1, 1) := by decide +kernel
theorem d_H_finished_18 : decode b_H_finished 18 = .ok (.invokevirtual 173, 3) := by decide +kernel
theorem d_H_finished_21 : decode b_H_finished 21 = .ok (.ifCond .eq 7, 3) := by decide +kernel
theorem d_H_finished_24 : decode b_H_finished 24 = .ok (.iconst 1, 1) := by decide +kernel
theorem d_H_finished_25 : decode b_H_finished 25 = .ok (.goto 4, 3) := by decide +kernel
theorem d_H_finished_28 : decode b_H_finished 28 = .ok (.iconst 0, 1) := by decide +kernel
theorem d_H_finished_29 : decode b_H_finished 29 = .ok (.ireturn, 1) := by decide +kernel
def pp_H_finished (g : Nat → ClassId) (e0 : Nat → Nat) (K : Int32 → mo_M → Prop) (M : mo_M) (x0 : Nat) (x1 : Int32) : Prop := (mp_is M x0 0 ∧ pp_H_hasNumber g e0 (fun r2 M1 => ((r2 = 0 → (narrow .boolean (.int ((0 : Int32))) = .int ((0 : Int32)) ∧ K ((0 : Int32)) M1)) ∧ (¬ (r2 = 0) → (mp_is M1 x0 0 ∧ pp_H_allKiosksRecorded g e0 (fun r4 M3 => ((r4 = 0 → (narrow .boolean (.int ((0 : Int32))) = .int ((0 : Int32)) ∧ K ((0 : Int32)) M3)) ∧ (¬ (r4 = 0) → (mp_is M3 x0 0 ∧ pp_H_allLinksDone g e0 (fun r6 M5 => ((r6 = 0 → (narrow .boolean (.int ((0 : Int32))) = .int ((0 : Int32)) ∧ K ((0 : Int32)) M5)) ∧ (¬ (r6 = 0) → (narrow .boolean (.int ((1 : Int32))) = .int ((1 : Int32)) ∧ K ((1 : Int32)) M5)))) M3 x0 x1)))) M1 x0 x1)))) M x0 x1)
set_option maxHeartbeats 4000000 in
set_option maxRecDepth 100000 in
theorem cc_H_finished (l : Launch) (L0 : Nat) (D : va_G) {g : Nat → ClassId} {e0 : Nat → Nat} {K : Int32 → mo_M → Prop} {M : mo_M} {x0 : Nat} {x1 : Int32} (hP : pp_H_finished g e0 K M x0 x1) : Met l y_H_finished ws_H_finished (mo_R 6 0 0 130) (va_Pc [.ref x0, .int x1] (fun U => mo_B L0 e0 D vwCl (mo_T g) M U)) (mo_Qi L0 e0 D vwCl (mo_T g) K) 0 0 (fun q => L0 ≤ q) := by
  refine Met.ofW (cc := b_H_finished) (maxL := 2) (ret := (Option.some Jvm.ClassFile.FieldType.boolean)) (by decide +kernel) rfl ?_
  intro p e s m args below meth c s₁ B hml hv
  obtain ⟨hv1, hB0⟩ := hv
  have hx := B.exec
  have hb := B.bytes
  have hr := B.returns
  have hts : ∀ w ∈ lw_g, w.before args s = true := fun w hw => atoms_spec (ws := ws_H_finished) B.pre w (List.mem_cons_of_mem _ hw)
  have hown : s.vm.findClass "PurseHouse" = some m.cls := findClass_of_methodNamed B.named
  have hlocks := B.notSynchronized
  have hok : mo_ok L0 e0 D vwCl (mo_T g) s M s.heap [] := ⟨hB0.1, hB0.2.1, hB0.2.2, va_S.rf⟩
  have hl := lv_entry ([.ref x0, .int x1]) (n := 2) (Nat.le_of_ble_eq_true rfl)
  rw [hv1, lg_entry_eq]
  rw [← hv1]
  generalize (lg_sl [.ref x0, .int x1] ++ List.replicate (2 - (lg_sl [.ref x0, .int x1]).length) Slot.unset).toArray = ls at hl ⊢
  have hl : lv_has ls 2 [(0, .ref x0), (1, .int x1)] := hl
  unfold pp_H_finished at hP
  refine lv_aload_n hx hb d_H_finished_0 rfl (lv_at hl 0 rfl) ?_
  refine lv_iload_n hx hb d_H_finished_1 rfl (lv_at hl 1 rfl) ?_
  obtain ⟨⟨fs9, he9⟩, hP⟩ := hP
  refine mo_calli hok (va_runV (As := [.int x1]) (rest := []) ⟨hx, hb, hml, hown, hts⟩ (cc_H_hasNumber l L0 D hP) ⟨(callB_of 1 hts (lw_gi wd_446) rfl rfl rfl (hts _ wd_33) (hts _ wd_443) (by decide +kernel) ⟨Nat.le_of_ble_eq_true rfl, Nat.le_of_ble_eq_true rfl⟩), hts _ wd_445, hts _ wd_11⟩ (mo_preV hok he9 rfl [.int x1]) rfl rfl hl.1 rfl (lv_room (Nat.le_of_ble_eq_true rfl)) d_H_finished_2 ⟨Nat.zero_le _, Nat.zero_le _⟩) (fun r2 M1 H locs hP hok => ?_)
  refine lv_if_eq (tgt := 28) hx hb d_H_finished_5 (by decide) (fun hc => ?_) (fun hc => ?_)
  · replace hP := hP.1 hc
    refine lv_iconst (v := 0) hx hb d_H_finished_28 (by decide) ?_
    exact mo_zret hx hb hr hlocks hok hP d_H_finished_29
  · replace hP := hP.2 hc
    refine lv_aload_n hx hb d_H_finished_8 rfl (lv_at hl 0 rfl) ?_
    refine lv_iload_n hx hb d_H_finished_9 rfl (lv_at hl 1 rfl) ?_
    obtain ⟨⟨fs9, he9⟩, hP⟩ := hP
    refine mo_calli hok (va_runV (As := [.int x1]) (rest := []) ⟨hx, hb, hml, hown, hts⟩ (cc_H_allKiosksRecorded l L0 D hP) ⟨(callB_of 1 hts (lw_gi wd_454) rfl rfl rfl (hts _ wd_33) (hts _ wd_451) (by decide +kernel) ⟨Nat.le_of_ble_eq_true rfl, Nat.le_of_ble_eq_true rfl⟩), hts _ wd_453, hts _ wd_12⟩ (mo_preV hok he9 rfl [.int x1]) rfl rfl hl.1 rfl (lv_room (Nat.le_of_ble_eq_true rfl)) d_H_finished_10 ⟨Nat.zero_le _, Nat.zero_le _⟩) (fun r4 M3 H locs hP hok => ?_)
    refine lv_if_eq (tgt := 28) hx hb d_H_finished_13 (by decide) (fun hc => ?_) (fun hc => ?_)
    · replace hP := hP.1 hc
      refine lv_iconst (v := 0) hx hb d_H_finished_28 (by decide) ?_
      exact mo_zret hx hb hr hlocks hok hP d_H_finished_29
    · replace hP := hP.2 hc
      refine lv_aload_n hx hb d_H_finished_16 rfl (lv_at hl 0 rfl) ?_
      refine lv_iload_n hx hb d_H_finished_17 rfl (lv_at hl 1 rfl) ?_
      obtain ⟨⟨fs9, he9⟩, hP⟩ := hP
      refine mo_calli hok (va_runV (As := [.int x1]) (rest := []) ⟨hx, hb, hml, hown, hts⟩ (cc_H_allLinksDone l L0 D hP) ⟨(callB_of 1 hts (lw_gi wd_458) rfl rfl rfl (hts _ wd_33) (hts _ wd_455) (by decide +kernel) ⟨Nat.le_of_ble_eq_true rfl, Nat.le_of_ble_eq_true rfl⟩), hts _ wd_457, hts _ wd_13⟩ (mo_preV hok he9 rfl [.int x1]) rfl rfl hl.1 rfl (lv_room (Nat.le_of_ble_eq_true rfl)) d_H_finished_18 ⟨Nat.zero_le _, Nat.zero_le _⟩) (fun r6 M5 H locs hP hok => ?_)
      refine lv_if_eq (tgt := 28) hx hb d_H_finished_21 (by decide) (fun hc => ?_) (fun hc => ?_)
      · replace hP := hP.1 hc
        refine lv_iconst (v := 0) hx hb d_H_finished_28 (by decide) ?_
        exact mo_zret hx hb hr hlocks hok hP d_H_finished_29
      · replace hP := hP.2 hc
        refine lv_iconst (v := 1) hx hb d_H_finished_24 (by decide) ?_
        refine lv_goto (tgt := 29) hx hb d_H_finished_25 (by decide) ?_
        exact mo_zret hx hb hr hlocks hok hP d_H_finished_29

abbrev b_H_road : ByteArray := prog_1_method_17_code
def y_H_road : MethodName := ⟨"PurseHouse", "road", "(III)J"⟩
def ws_H_road : List Cond := .code y_H_road b_H_road 4 (Option.some Jvm.ClassFile.FieldType.long) :: lw_g
theorem d_H_road_0 : decode b_H_road 0 = .ok (.aload_n 0, 1) := by decide +kernel
theorem d_H_road_1 : decode b_H_road 1 = .ok (.iload_n 1, 1) := by decide +kernel
theorem d_H_road_2 : decode b_H_road 2 = .ok (.invokevirtual 164, 3) := by decide +kernel
theorem d_H_road_5 : decode b_H_road 5 = .ok (.ifCond .eq 39, 3) := by decide +kernel
theorem d_H_road_8 : decode b_H_road 8 = .ok (.aload_n 0, 1) := by decide +kernel
theorem d_H_road_9 : decode b_H_road 9 = .ok (.iload_n 2, 1) := by decide +kernel
theorem d_H_road_10 : decode b_H_road 10 = .ok (.invokevirtual 85, 3) := by decide +kernel
theorem d_H_road_13 : decode b_H_road 13 = .ok (.ifCond .eq 31, 3) := by decide +kernel
theorem d_H_road_16 : decode b_H_road 16 = .ok (.iload_n 3, 1) := by decide +kernel
theorem d_H_road_17 : decode b_H_road 17 = .ok (.invokestatic 61, 3) := by decide +kernel
theorem d_H_road_20 : decode b_H_road 20 = .ok (.ifCond .eq 24, 3) := by decide +kernel
theorem d_H_road_23 : decode b_H_road 23 = .ok (.aload_n 0, 1) := by decide +kernel
theorem d_H_road_24 : decode b_H_road 24 = .ok (.getfield 10, 3) := by decide +kernel
theorem d_H_road_27 : decode b_H_road 27 = .ok (.iload_n 2, 1) := by decide +kernel
theorem d_H_road_28 : decode b_H_road 28 = .ok (.invokevirtual 88, 3) := by decide +kernel
theorem d_H_road_31 : decode b_H_road 31 = .ok (.checkcast 52, 3) := by decide +kernel
theorem d_H_road_34 : decode b_H_road 34 = .ok (.getfield 187, 3) := by decide +kernel
theorem d_H_road_37 : decode b_H_road 37 = .ok (.iload_n 1, 1) := by decide +kernel
theorem d_H_road_38 : decode b_H_road 38 = .ok (.aaload, 1) := by decide +kernel
theorem d_H_road_39 : decode b_H_road 39 = .ok (.iload_n 3, 1) := by decide +kernel
theorem d_H_road_40 : decode b_H_road 40 = .ok (.laload, 1) := by decide +kernel
theorem d_H_road_41 : decode b_H_road 41 = .ok (.goto 4, 3) := by decide +kernel
theorem d_H_road_44 : decode b_H_road 44 = .ok (.lconst 0, 1) := by decide +kernel
theorem d_H_road_45 : decode b_H_road 45 = .ok (.lreturn, 1) := by decide +kernel
def pp_H_road (g : Nat → ClassId) (e0 : Nat → Nat) (K : Int64 → mo_M → Prop) (M : mo_M) (x0 : Nat) (x1 : Int32) (x2 : Int32) (x3 : Int32) : Prop := (mp_is M x0 0 ∧ pp_H_hasNumber g e0 (fun r2 M1 => ((r2 = 0 → K ((0 : Int64)) M1) ∧ (¬ (r2 = 0) → (mp_is M1 x0 0 ∧ pp_H_hasLink g e0 (fun r4 M3 => ((r4 = 0 → K ((0 : Int64)) M3) ∧ (¬ (r4 = 0) → pp_H_hasCurrency g e0 (fun r6 M5 => ((r6 = 0 → K ((0 : Int64)) M5) ∧ (¬ (r6 = 0) → mp_gr M5 x0 0 1 (fun v7 => (mp_is M5 v7 5 ∧ pp_A_get g e0 (fun r9 M8 => (mp_is M8 r9 2 ∧ mp_gr M8 r9 2 4 (fun v10 => mp_ar (g 4) M8 v10 x1 (fun v11 => mp_al (g 1) M8 v11 x3 (fun v12 => K v12 M8))))) M5 v7 x2))))) M3 x3))) M1 x0 x2)))) M x0 x1)
set_option maxHeartbeats 4000000 in
set_option maxRecDepth 100000 in
theorem cc_H_road (l : Launch) (L0 : Nat) (D : va_G) {g : Nat → ClassId} {e0 : Nat → Nat} {K : Int64 → mo_M → Prop} {M : mo_M} {x0 : Nat} {x1 : Int32} {x2 : Int32} {x3 : Int32} (hP : pp_H_road g e0 K M x0 x1 x2 x3) : Met l y_H_road ws_H_road (mo_R 3 0 0 64) (va_Pc [.ref x0, .int x1, .int x2, .int x3] (fun U => mo_B L0 e0 D vwCl (mo_T g) M U)) (mo_Ql L0 e0 D vwCl (mo_T g) K) 0 0 (fun q => L0 ≤ q) := by
  refine Met.ofW (cc := b_H_road) (maxL := 4) (ret := (Option.some Jvm.ClassFile.FieldType.long)) (by decide +kernel) rfl ?_
  intro p e s m args below meth c s₁ B hml hv
  obtain ⟨hv1, hB0⟩ := hv
  have hx := B.exec
  have hb := B.bytes
  have hr := B.returns
  have hts : ∀ w ∈ lw_g, w.before args s = true := fun w hw => atoms_spec (ws := ws_H_road) B.pre w (List.mem_cons_of_mem _ hw)
  have hown : s.vm.findClass "PurseHouse" = some m.cls := findClass_of_methodNamed B.named
  have hlocks := B.notSynchronized
  have hok : mo_ok L0 e0 D vwCl (mo_T g) s M s.heap [] := ⟨hB0.1, hB0.2.1, hB0.2.2, va_S.rf⟩
  have hl := lv_entry ([.ref x0, .int x1, .int x2, .int x3]) (n := 4) (Nat.le_of_ble_eq_true rfl)
  rw [hv1, lg_entry_eq]
  rw [← hv1]
  generalize (lg_sl [.ref x0, .int x1, .int x2, .int x3] ++ List.replicate (4 - (lg_sl [.ref x0, .int x1, .int x2, .int x3]).length) Slot.unset).toArray = ls at hl ⊢
  have hl : lv_has ls 4 [(0, .ref x0), (1, .int x1), (2, .int x2), (3, .int x3)] := hl
  unfold pp_H_road at hP
  refine lv_aload_n hx hb d_H_road_0 rfl (lv_at hl 0 rfl) ?_
  refine lv_iload_n hx hb d_H_road_1 rfl (lv_at hl 1 rfl) ?_
  obtain ⟨⟨fs9, he9⟩, hP⟩ := hP
  refine mo_calli hok (va_runV (As := [.int x1]) (rest := []) ⟨hx, hb, hml, hown, hts⟩ (cc_H_hasNumber l L0 D hP) ⟨(callB_of 1 hts (lw_gi wd_446) rfl rfl rfl (hts _ wd_33) (hts _ wd_443) (by decide +kernel) ⟨Nat.le_of_ble_eq_true rfl, Nat.le_of_ble_eq_true rfl⟩), hts _ wd_445, hts _ wd_11⟩ (mo_preV hok he9 rfl [.int x1]) rfl rfl hl.1 rfl (lv_room (Nat.le_of_ble_eq_true rfl)) d_H_road_2 ⟨Nat.zero_le _, Nat.zero_le _⟩) (fun r2 M1 H locs hP hok => ?_)
  refine lv_if_eq (tgt := 44) hx hb d_H_road_5 (by decide) (fun hc => ?_) (fun hc => ?_)
  · replace hP := hP.1 hc
    refine lv_lconst (v := 0) hx hb d_H_road_44 (by decide) ?_
    exact mo_lret hx hb hr hlocks hok hP d_H_road_45
  · replace hP := hP.2 hc
    refine lv_aload_n hx hb d_H_road_8 rfl (lv_at hl 0 rfl) ?_
    refine lv_iload_n hx hb d_H_road_9 rfl (lv_at hl 2 rfl) ?_
    obtain ⟨⟨fs9, he9⟩, hP⟩ := hP
    refine mo_calli hok (va_runV (As := [.int x2]) (rest := []) ⟨hx, hb, hml, hown, hts⟩ (cc_H_hasLink l L0 D hP) ⟨(callB_of 1 hts (lw_gi wd_309) rfl rfl rfl (hts _ wd_33) (hts _ wd_306) (by decide +kernel) ⟨Nat.le_of_ble_eq_true rfl, Nat.le_of_ble_eq_true rfl⟩), hts _ wd_308, hts _ wd_5⟩ (mo_preV hok he9 rfl [.int x2]) rfl rfl hl.1 rfl (lv_room (Nat.le_of_ble_eq_true rfl)) d_H_road_10 ⟨Nat.zero_le _, Nat.zero_le _⟩) (fun r4 M3 H locs hP hok => ?_)
    refine lv_if_eq (tgt := 44) hx hb d_H_road_13 (by decide) (fun hc => ?_) (fun hc => ?_)
    · replace hP := hP.1 hc
      refine lv_lconst (v := 0) hx hb d_H_road_44 (by decide) ?_
      exact mo_lret hx hb hr hlocks hok hP d_H_road_45
    · replace hP := hP.2 hc
      refine lv_iload_n hx hb d_H_road_16 rfl (lv_at hl 3 rfl) ?_
      refine mo_calli hok (va_runS (As := [.int x3]) (rest := []) ⟨hx, hb, hml, hown, hts⟩ (cc_H_hasCurrency l L0 D hP) ⟨(callB_of 1 hts (lw_gi wd_263) rfl rfl rfl (hts _ wd_33) (hts _ wd_261) (by decide +kernel) ⟨Nat.le_of_ble_eq_true rfl, Nat.le_of_ble_eq_true rfl⟩), hts _ wd_262⟩ (mo_preS hok [.int x3]) rfl rfl hl.1 rfl (lv_room (Nat.le_of_ble_eq_true rfl)) d_H_road_17 ⟨Nat.zero_le _, Nat.zero_le _⟩) (fun r6 M5 H locs hP hok => ?_)
      refine lv_if_eq (tgt := 44) hx hb d_H_road_20 (by decide) (fun hc => ?_) (fun hc => ?_)
      · replace hP := hP.1 hc
        refine lv_lconst (v := 0) hx hb d_H_road_44 (by decide) ?_
        exact mo_lret hx hb hr hlocks hok hP d_H_road_45
      · replace hP := hP.2 hc
        refine lv_aload_n hx hb d_H_road_23 rfl (lv_at hl 0 rfl) ?_
        refine mr_gr (C := "PurseHouse") (T := F_0) (N := 5) (ref := "PurseHouse") hx hb hts hown hok hP ui_0 rfl (by decide) (hts _ wd_142) (fun _ h => h) d_H_road_24 (fun v7 hP => ?_)
        refine lv_iload_n hx hb d_H_road_27 rfl (lv_at hl 2 rfl) ?_
        obtain ⟨⟨fs9, he9⟩, hP⟩ := hP
        refine mo_callr hok (va_runV (As := [.int x2]) (rest := []) ⟨hx, hb, hml, hown, hts⟩ (cc_A_get l L0 D hP) ⟨(callB_of 1 hts (lw_gi wd_313) rfl rfl rfl (hts _ wd_36) (hts _ wd_310) (by decide +kernel) ⟨Nat.le_of_ble_eq_true rfl, Nat.le_of_ble_eq_true rfl⟩), hts _ wd_311, hts _ wd_312⟩ (mo_preV hok he9 rfl [.int x2]) rfl rfl hl.1 rfl (lv_room (Nat.le_of_ble_eq_true rfl)) d_H_road_28 ⟨Nat.zero_le _, Nat.zero_le _⟩) (fun r9 M8 H locs hP hok => ?_)
        obtain ⟨his, hP⟩ := hP
        refine mr_cast (C := "PurseHouse$Link") (T := F_2) (N := 6) hx hb hown hok his rfl (hts _ wd_172) d_H_road_31 ?_
        refine mr_gr (C := "PurseHouse$Link") (T := F_2) (N := 6) (ref := "PurseHouse$Link") hx hb hts hown hok hP ui_2 rfl (by decide) (hts _ wd_190) (fun _ h => h) d_H_road_34 (fun v10 hP => ?_)
        refine lv_iload_n hx hb d_H_road_37 rfl (lv_at hl 1 rfl) ?_
        refine mr_ar hx hb hok hP 4 rfl rfl d_H_road_38 (fun v11 hP => ?_)
        refine lv_iload_n hx hb d_H_road_39 rfl (lv_at hl 3 rfl) ?_
        refine mr_al hx hb hok hP 1 rfl d_H_road_40 (fun v12 hP => ?_)
        refine lv_goto (tgt := 45) hx hb d_H_road_41 (by decide) ?_
        exact mo_lret hx hb hr hlocks hok hP d_H_road_45

abbrev b_H_minted : ByteArray := prog_1_method_19_code
def y_H_minted : MethodName := ⟨"PurseHouse", "minted", "(II)J"⟩
def ws_H_minted : List Cond := .code y_H_minted b_H_minted 6 (Option.some Jvm.ClassFile.FieldType.long) :: lw_g
theorem d_H_minted_0 : decode b_H_minted 0 = .ok (.aload_n 0, 1) := by decide +kernel
theorem d_H_minted_1 : decode b_H_minted 1 = .ok (.iload_n 1, 1) := by decide +kernel
theorem d_H_minted_2 : decode b_H_minted 2 = .ok (.invokevirtual 164, 3) := by decide +kernel
theorem d_H_minted_5 : decode b_H_minted 5 = .ok (.ifCond .eq 10, 3) := by decide +kernel
theorem d_H_minted_8 : decode b_H_minted 8 = .ok (.iload_n 2, 1) := by decide +kernel
theorem d_H_minted_9 : decode b_H_minted 9 = .ok (.invokestatic 61, 3) := by decide +kernel
theorem d_H_minted_12 : decode b_H_minted 12 = .ok (.ifCond .ne 5, 3) := by decide +kernel
theorem d_H_minted_15 : decode b_H_minted 15 = .ok (.lconst 0, 1) := by decide +kernel
theorem d_H_minted_16 : decode b_H_minted 16 = .ok (.lreturn, 1) := by decide +kernel
theorem d_H_minted_17 : decode b_H_minted 17 = .ok (.lconst 0, 1) := by decide +kernel
theorem d_H_minted_18 : decode b_H_minted 18 = .ok (.lstore_n 3, 1) := by decide +kernel
theorem d_H_minted_19 : decode b_H_minted 19 = .ok (.iconst 0, 1) := by decide +kernel
theorem d_H_minted_20 : decode b_H_minted 20 = .ok (.istore 5, 2) := by decide +kernel
theorem d_H_minted_22 : decode b_H_minted 22 = .ok (.iload 5, 2) := by decide +kernel
theorem d_H_minted_24 : decode b_H_minted 24 = .ok (.aload_n 0, 1) := by decide +kernel
theorem d_H_minted_25 : decode b_H_minted 25 = .ok (.getfield 39, 3) := by decide +kernel
theorem d_H_minted_28 : decode b_H_minted 28 = .ok (.arraylength, 1) := by decide +kernel
theorem d_H_minted_29 : decode b_H_minted 29 = .ok (.if_icmp .ge 40, 3) := by decide +kernel
theorem d_H_minted_32 : decode b_H_minted 32 = .ok (.aload_n 0, 1) := by decide +kernel
theorem d_H_minted_33 : decode b_H_minted 33 = .ok (.getfield 39, 3) := by decide +kernel
theorem d_H_minted_36 : decode b_H_minted 36 = .ok (.iload 5, 2) := by decide +kernel
theorem d_H_minted_38 : decode b_H_minted 38 = .ok (.aaload, 1) := by decide +kernel
theorem d_H_minted_39 : decode b_H_minted 39 = .ok (.iload_n 1, 1) := by decide +kernel
theorem d_H_minted_40 : decode b_H_minted 40 = .ok (.invokevirtual 167, 3) := by decide +kernel
theorem d_H_minted_43 : decode b_H_minted 43 = .ok (.ifCond .eq 20, 3) := by decide +kernel
theorem d_H_minted_46 : decode b_H_minted 46 = .ok (.lload_n 3, 1) := by decide +kernel
theorem d_H_minted_47 : decode b_H_minted 47 = .ok (.aload_n 0, 1) := by decide +kernel
theorem d_H_minted_48 : decode b_H_minted 48 = .ok (.getfield 39, 3) := by decide +kernel
theorem d_H_minted_51 : decode b_H_minted 51 = .ok (.iload 5, 2) := by decide +kernel
theorem d_H_minted_53 : decode b_H_minted 53 = .ok (.aaload, 1) := by decide +kernel
theorem d_H_minted_54 : decode b_H_minted 54 = .ok (.getfield 195, 3) := by decide +kernel
theorem d_H_minted_57 : decode b_H_minted 57 = .ok (.iload_n 1, 1) := by decide +kernel
theorem d_H_minted_58 : decode b_H_minted 58 = .ok (.aaload, 1) := by decide +kernel
theorem d_H_minted_59 : decode b_H_minted 59 = .ok (.iload_n 2, 1) := by decide +kernel
theorem d_H_minted_60 : decode b_H_minted 60 = .ok (.laload, 1) := by decide +kernel
theorem d_H_minted_61 : decode b_H_minted 61 = .ok (.ladd, 1) := by decide +kernel
theorem d_H_minted_62 : decode b_H_minted 62 = .ok (.lstore_n 3, 1) := by decide +kernel
theorem d_H_minted_63 : decode b_H_minted 63 = .ok (.iinc 5 1, 3) := by decide +kernel
theorem d_H_minted_66 : decode b_H_minted 66 = .ok (.goto (-44), 3) := by decide +kernel
theorem d_H_minted_69 : decode b_H_minted 69 = .ok (.lload_n 3, 1) := by decide +kernel
theorem d_H_minted_70 : decode b_H_minted 70 = .ok (.lreturn, 1) := by decide +kernel
def pp_H_minted_b63 (g : Nat → ClassId) (e0 : Nat → Nat) (K : Int64 → mo_M → Prop) (B_22 : mo_M → Nat → Int32 → Int32 → Int64 → Int32 → Prop) (M : mo_M) (x0 : Nat) (x1 : Int32) (x2 : Int32) (x3 : Int64) (x5 : Int32) : Prop := B_22 M x0 x1 x2 x3 (x5 + 1)
def pp_H_minted_b22 (g : Nat → ClassId) (e0 : Nat → Nat) (K : Int64 → mo_M → Prop) : Nat → mo_M → Nat → Int32 → Int32 → Int64 → Int32 → Prop
  | 0, _, _, _, _, _, _ => False
  | n + 1, M, x0, x1, x2, x3, x5 => mp_gr M x0 0 0 (fun v6 => mp_ln (g 3) M v6 (fun v7 => ((v7 ≤ x5 → K x3 M) ∧ (¬ (v7 ≤ x5) → mp_gr M x0 0 0 (fun v8 => mp_ar (g 3) M v8 x5 (fun v9 => (mp_is M v9 1 ∧ pp_K_hasMark g e0 (fun r11 M10 => ((r11 = 0 → pp_H_minted_b63 g e0 K (fun M x0 x1 x2 x3 x5 => pp_H_minted_b22 g e0 K n M x0 x1 x2 x3 x5) M10 x0 x1 x2 x3 x5) ∧ (¬ (r11 = 0) → mp_gr M10 x0 0 0 (fun v12 => mp_ar (g 3) M10 v12 x5 (fun v13 => mp_gr M10 v13 1 7 (fun v14 => mp_ar (g 4) M10 v14 x1 (fun v15 => mp_al (g 1) M10 v15 x2 (fun v16 => pp_H_minted_b63 g e0 K (fun M x0 x1 x2 x3 x5 => pp_H_minted_b22 g e0 K n M x0 x1 x2 x3 x5) M10 x0 x1 x2 ((x3 + v16)) x5)))))))) M v9 x1)))))))
def pp_H_minted (g : Nat → ClassId) (e0 : Nat → Nat) (K : Int64 → mo_M → Prop) (M : mo_M) (x0 : Nat) (x1 : Int32) (x2 : Int32) : Prop := (mp_is M x0 0 ∧ pp_H_hasNumber g e0 (fun r2 M1 => ((r2 = 0 → K ((0 : Int64)) M1) ∧ (¬ (r2 = 0) → pp_H_hasCurrency g e0 (fun r4 M3 => ((r4 = 0 → K ((0 : Int64)) M3) ∧ (¬ (r4 = 0) → ∃ n5 : Nat, pp_H_minted_b22 g e0 K n5 M3 x0 x1 x2 ((0 : Int64)) ((0 : Int32))))) M1 x2))) M x0 x1)
set_option maxHeartbeats 4000000 in
set_option maxRecDepth 100000 in
theorem cc_H_minted (l : Launch) (L0 : Nat) (D : va_G) {g : Nat → ClassId} {e0 : Nat → Nat} {K : Int64 → mo_M → Prop} {M : mo_M} {x0 : Nat} {x1 : Int32} {x2 : Int32} (hP : pp_H_minted g e0 K M x0 x1 x2) : Met l y_H_minted ws_H_minted (mo_R 2 0 0 43) (va_Pc [.ref x0, .int x1, .int x2] (fun U => mo_B L0 e0 D vwCl (mo_T g) M U)) (mo_Ql L0 e0 D vwCl (mo_T g) K) 0 0 (fun q => L0 ≤ q) := by
  refine Met.ofW (cc := b_H_minted) (maxL := 6) (ret := (Option.some Jvm.ClassFile.FieldType.long)) (by decide +kernel) rfl ?_
  intro p e s m args below meth c s₁ B hml hv
  obtain ⟨hv1, hB0⟩ := hv
  have hx := B.exec
  have hb := B.bytes
  have hr := B.returns
  have hts : ∀ w ∈ lw_g, w.before args s = true := fun w hw => atoms_spec (ws := ws_H_minted) B.pre w (List.mem_cons_of_mem _ hw)
  have hown : s.vm.findClass "PurseHouse" = some m.cls := findClass_of_methodNamed B.named
  have hlocks := B.notSynchronized
  have w_63 : ∀ (B_22 : mo_M → Nat → Int32 → Int32 → Int64 → Int32 → Prop) (hB_22 : ∀ (M : mo_M) (x0 : Nat) (x1 : Int32) (x2 : Int32) (x3 : Int64) (x5 : Int32) (H : Heap) (locs : List Loc) (ls : Array Slot), B_22 M x0 x1 x2 x3 x5 → mo_ok L0 e0 D vwCl (mo_T g) s M H locs → lv_has ls 6 [(0, .ref x0), (1, .int x1), (2, .int x2), (3, .long x3), (5, .int x5)] → W p l e (headSpec ws_H_minted (mo_R 2 0 0 43)).room s m args below meth c H locs 0 0 (mo_Z below (mo_Ql L0 e0 D vwCl (mo_T g) K) args s 0 0 L0) (F0 m 22 ls [])) (M : mo_M) (x0 : Nat) (x1 : Int32) (x2 : Int32) (x3 : Int64) (x5 : Int32) (H : Heap) (locs : List Loc) (ls : Array Slot), pp_H_minted_b63 g e0 K B_22 M x0 x1 x2 x3 x5 → mo_ok L0 e0 D vwCl (mo_T g) s M H locs → lv_has ls 6 [(0, .ref x0), (1, .int x1), (2, .int x2), (3, .long x3), (5, .int x5)] → W p l e (headSpec ws_H_minted (mo_R 2 0 0 43)).room s m args below meth c H locs 0 0 (mo_Z below (mo_Ql L0 e0 D vwCl (mo_T g) K) args s 0 0 L0) (F0 m 63 ls []) := by
    intro B_22 hB_22 M x0 x1 x2 x3 x5 H locs ls hP hok hl
    unfold pp_H_minted_b63 at hP
    refine lv_iinc (k := 4) (v := x5 + 1) (lv' := [(5, .int (x5 + 1)), (0, .ref x0), (1, .int x1), (2, .int x2), (3, .long x3)]) hx hb d_H_minted_63 hl rfl rfl (by decide) rfl (fun ls hl => ?_)
    refine lv_goto (tgt := 22) hx hb d_H_minted_66 (by decide) ?_
    exact hB_22 _ _ _ _ _ _ _ _ _ hP hok (lv_sub hl [1, 2, 3, 4, 0] rfl)
  have w_22 : ∀ (n : Nat) (M : mo_M) (x0 : Nat) (x1 : Int32) (x2 : Int32) (x3 : Int64) (x5 : Int32) (H : Heap) (locs : List Loc) (ls : Array Slot), pp_H_minted_b22 g e0 K n M x0 x1 x2 x3 x5 → mo_ok L0 e0 D vwCl (mo_T g) s M H locs → lv_has ls 6 [(0, .ref x0), (1, .int x1), (2, .int x2), (3, .long x3), (5, .int x5)] → W p l e (headSpec ws_H_minted (mo_R 2 0 0 43)).room s m args below meth c H locs 0 0 (mo_Z below (mo_Ql L0 e0 D vwCl (mo_T g) K) args s 0 0 L0) (F0 m 22 ls []) := by
    intro n
    induction n with
    | zero => intro M x0 x1 x2 x3 x5 H locs ls hP; exact hP.elim
    | succ n ih =>
      intro M x0 x1 x2 x3 x5 H locs ls hP hok hl
      unfold pp_H_minted_b22 at hP
      refine lv_iload hx hb d_H_minted_22 (lv_at hl 4 rfl) ?_
      refine lv_aload_n hx hb d_H_minted_24 rfl (lv_at hl 0 rfl) ?_
      refine mr_gr (C := "PurseHouse") (T := F_0) (N := 5) (ref := "PurseHouse") hx hb hts hown hok hP ui_0 rfl (by decide) (hts _ wd_141) (fun _ h => h) d_H_minted_25 (fun v6 hP => ?_)
      refine mr_ln hx hb hok hP 3 rfl d_H_minted_28 (fun v7 hP => ?_)
      refine lv_icmp_ge (tgt := 69) hx hb d_H_minted_29 (by decide) (fun hc => ?_) (fun hc => ?_)
      · replace hP := hP.1 hc
        refine lv_lload_n hx hb d_H_minted_69 rfl (lv_at hl 3 rfl) ?_
        exact mo_lret hx hb hr hlocks hok hP d_H_minted_70
      · replace hP := hP.2 hc
        refine lv_aload_n hx hb d_H_minted_32 rfl (lv_at hl 0 rfl) ?_
        refine mr_gr (C := "PurseHouse") (T := F_0) (N := 5) (ref := "PurseHouse") hx hb hts hown hok hP ui_0 rfl (by decide) (hts _ wd_141) (fun _ h => h) d_H_minted_33 (fun v8 hP => ?_)
        refine lv_iload hx hb d_H_minted_36 (lv_at hl 4 rfl) ?_
        refine mr_ar hx hb hok hP 3 rfl rfl d_H_minted_38 (fun v9 hP => ?_)
        refine lv_iload_n hx hb d_H_minted_39 rfl (lv_at hl 1 rfl) ?_
        obtain ⟨⟨fs9, he9⟩, hP⟩ := hP
        refine mo_calli hok (va_runV (As := [.int x1]) (rest := []) ⟨hx, hb, hml, hown, hts⟩ (cc_K_hasMark l L0 D hP) ⟨(callB_of 1 hts (lw_gi wd_395) rfl rfl rfl (hts _ wd_38) (hts _ wd_392) (by decide +kernel) ⟨Nat.le_of_ble_eq_true rfl, Nat.le_of_ble_eq_true rfl⟩), hts _ wd_393, hts _ wd_394⟩ (mo_preV hok he9 rfl [.int x1]) rfl rfl hl.1 rfl (lv_room (Nat.le_of_ble_eq_true rfl)) d_H_minted_40 ⟨Nat.zero_le _, Nat.zero_le _⟩) (fun r11 M10 H locs hP hok => ?_)
        refine lv_if_eq (tgt := 63) hx hb d_H_minted_43 (by decide) (fun hc => ?_) (fun hc => ?_)
        · replace hP := hP.1 hc
          exact w_63 _ ih _ _ _ _ _ _ _ _ _ hP hok (lv_sub hl [0, 1, 2, 3, 4] rfl)
        · replace hP := hP.2 hc
          refine lv_lload_n hx hb d_H_minted_46 rfl (lv_at hl 3 rfl) ?_
          refine lv_aload_n hx hb d_H_minted_47 rfl (lv_at hl 0 rfl) ?_
          refine mr_gr (C := "PurseHouse") (T := F_0) (N := 5) (ref := "PurseHouse") hx hb hts hown hok hP ui_0 rfl (by decide) (hts _ wd_141) (fun _ h => h) d_H_minted_48 (fun v12 hP => ?_)
          refine lv_iload hx hb d_H_minted_51 (lv_at hl 4 rfl) ?_
          refine mr_ar hx hb hok hP 3 rfl rfl d_H_minted_53 (fun v13 hP => ?_)
          refine mr_gr (C := "PurseHouse$Kiosk") (T := F_1) (N := 9) (ref := "PurseHouse$Kiosk") hx hb hts hown hok hP ui_1 rfl (by decide) (hts _ wd_117) (fun _ h => h) d_H_minted_54 (fun v14 hP => ?_)
          refine lv_iload_n hx hb d_H_minted_57 rfl (lv_at hl 1 rfl) ?_
          refine mr_ar hx hb hok hP 4 rfl rfl d_H_minted_58 (fun v15 hP => ?_)
          refine lv_iload_n hx hb d_H_minted_59 rfl (lv_at hl 2 rfl) ?_
          refine mr_al hx hb hok hP 1 rfl d_H_minted_60 (fun v16 hP => ?_)
          refine lv_ladd hx hb d_H_minted_61 ?_
          refine lv_lstore_n (lv' := [(3, .long ((x3 + v16))), (0, .ref x0), (1, .int x1), (2, .int x2), (5, .int x5)]) hx hb d_H_minted_62 rfl hl (by decide) rfl (fun ls hl => ?_)
          exact w_63 _ ih _ _ _ _ _ _ _ _ _ hP hok (lv_sub hl [1, 2, 3, 0, 4] rfl)
  have hok : mo_ok L0 e0 D vwCl (mo_T g) s M s.heap [] := ⟨hB0.1, hB0.2.1, hB0.2.2, va_S.rf⟩
  have hl := lv_entry ([.ref x0, .int x1, .int x2]) (n := 6) (Nat.le_of_ble_eq_true rfl)
  rw [hv1, lg_entry_eq]
  rw [← hv1]
  generalize (lg_sl [.ref x0, .int x1, .int x2] ++ List.replicate (6 - (lg_sl [.ref x0, .int x1, .int x2]).length) Slot.unset).toArray = ls at hl ⊢
  have hl : lv_has ls 6 [(0, .ref x0), (1, .int x1), (2, .int x2)] := hl
  unfold pp_H_minted at hP
  refine lv_aload_n hx hb d_H_minted_0 rfl (lv_at hl 0 rfl) ?_
  refine lv_iload_n hx hb d_H_minted_1 rfl (lv_at hl 1 rfl) ?_
  obtain ⟨⟨fs9, he9⟩, hP⟩ := hP
  refine mo_calli hok (va_runV (As := [.int x1]) (rest := []) ⟨hx, hb, hml, hown, hts⟩ (cc_H_hasNumber l L0 D hP) ⟨(callB_of 1 hts (lw_gi wd_446) rfl rfl rfl (hts _ wd_33) (hts _ wd_443) (by decide +kernel) ⟨Nat.le_of_ble_eq_true rfl, Nat.le_of_ble_eq_true rfl⟩), hts _ wd_445, hts _ wd_11⟩ (mo_preV hok he9 rfl [.int x1]) rfl rfl hl.1 rfl (lv_room (Nat.le_of_ble_eq_true rfl)) d_H_minted_2 ⟨Nat.zero_le _, Nat.zero_le _⟩) (fun r2 M1 H locs hP hok => ?_)
  refine lv_if_eq (tgt := 15) hx hb d_H_minted_5 (by decide) (fun hc => ?_) (fun hc => ?_)
  · replace hP := hP.1 hc
    refine lv_lconst (v := 0) hx hb d_H_minted_15 (by decide) ?_
    exact mo_lret hx hb hr hlocks hok hP d_H_minted_16
  · replace hP := hP.2 hc
    refine lv_iload_n hx hb d_H_minted_8 rfl (lv_at hl 2 rfl) ?_
    refine mo_calli hok (va_runS (As := [.int x2]) (rest := []) ⟨hx, hb, hml, hown, hts⟩ (cc_H_hasCurrency l L0 D hP) ⟨(callB_of 1 hts (lw_gi wd_263) rfl rfl rfl (hts _ wd_33) (hts _ wd_261) (by decide +kernel) ⟨Nat.le_of_ble_eq_true rfl, Nat.le_of_ble_eq_true rfl⟩), hts _ wd_262⟩ (mo_preS hok [.int x2]) rfl rfl hl.1 rfl (lv_room (Nat.le_of_ble_eq_true rfl)) d_H_minted_9 ⟨Nat.zero_le _, Nat.zero_le _⟩) (fun r4 M3 H locs hP hok => ?_)
    refine lv_if_ne (tgt := 17) hx hb d_H_minted_12 (by decide) (fun hc => ?_) (fun hc => ?_)
    · replace hP := hP.2 hc
      refine lv_lconst (v := 0) hx hb d_H_minted_17 (by decide) ?_
      refine lv_lstore_n (lv' := [(3, .long ((0 : Int64))), (0, .ref x0), (1, .int x1), (2, .int x2)]) hx hb d_H_minted_18 rfl hl (by decide) rfl (fun ls hl => ?_)
      refine lv_iconst (v := 0) hx hb d_H_minted_19 (by decide) ?_
      refine lv_istore (lv' := [(5, .int ((0 : Int32))), (3, .long ((0 : Int64))), (0, .ref x0), (1, .int x1), (2, .int x2)]) hx hb d_H_minted_20 hl (by decide) rfl (fun ls hl => ?_)
      obtain ⟨n5, hP⟩ := hP
      exact w_22  n5 _ _ _ _ _ _ _ _ _ hP hok (lv_sub hl [2, 3, 4, 1, 0] rfl)
    · replace hP := hP.1 hc
      refine lv_lconst (v := 0) hx hb d_H_minted_15 (by decide) ?_
      exact mo_lret hx hb hr hlocks hok hP d_H_minted_16

abbrev b_H_trueTotal : ByteArray := prog_1_method_20_code
def y_H_trueTotal : MethodName := ⟨"PurseHouse", "trueTotal", "(I)J"⟩
def ws_H_trueTotal : List Cond := .code y_H_trueTotal b_H_trueTotal 5 (Option.some Jvm.ClassFile.FieldType.long) :: lw_g
theorem d_H_trueTotal_0 : decode b_H_trueTotal 0 = .ok (.iload_n 1, 1) := by decide +kernel
theorem d_H_trueTotal_1 : decode b_H_trueTotal 1 = .ok (.invokestatic 61, 3) := by decide +kernel
theorem d_H_trueTotal_4 : decode b_H_trueTotal 4 = .ok (.ifCond .ne 5, 3) := by decide +kernel
theorem d_H_trueTotal_7 : decode b_H_trueTotal 7 = .ok (.lconst 0, 1) := by decide +kernel
theorem d_H_trueTotal_8 : decode b_H_trueTotal 8 = .ok (.lreturn, 1) := by decide +kernel
theorem d_H_trueTotal_9 : decode b_H_trueTotal 9 = .ok (.lconst 0, 1) := by decide +kernel
theorem d_H_trueTotal_10 : decode b_H_trueTotal 10 = .ok (.lstore_n 2, 1) := by decide +kernel
theorem d_H_trueTotal_11 : decode b_H_trueTotal 11 = .ok (.iconst 0, 1) := by decide +kernel
theorem d_H_trueTotal_12 : decode b_H_trueTotal 12 = .ok (.istore 4, 2) := by decide +kernel
theorem d_H_trueTotal_14 : decode b_H_trueTotal 14 = .ok (.iload 4, 2) := by decide +kernel
theorem d_H_trueTotal_16 : decode b_H_trueTotal 16 = .ok (.aload_n 0, 1) := by decide +kernel
theorem d_H_trueTotal_17 : decode b_H_trueTotal 17 = .ok (.getfield 39, 3) := by decide +kernel
theorem d_H_trueTotal_20 : decode b_H_trueTotal 20 = .ok (.arraylength, 1) := by decide +kernel
theorem d_H_trueTotal_21 : decode b_H_trueTotal 21 = .ok (.if_icmp .ge 37, 3) := by decide +kernel
theorem d_H_trueTotal_24 : decode b_H_trueTotal 24 = .ok (.lload_n 2, 1) := by decide +kernel
theorem d_H_trueTotal_25 : decode b_H_trueTotal 25 = .ok (.aload_n 0, 1) := by decide +kernel
theorem d_H_trueTotal_26 : decode b_H_trueTotal 26 = .ok (.getfield 39, 3) := by decide +kernel
theorem d_H_trueTotal_29 : decode b_H_trueTotal 29 = .ok (.iload 4, 2) := by decide +kernel
theorem d_H_trueTotal_31 : decode b_H_trueTotal 31 = .ok (.aaload, 1) := by decide +kernel
theorem d_H_trueTotal_32 : decode b_H_trueTotal 32 = .ok (.getfield 139, 3) := by decide +kernel
theorem d_H_trueTotal_35 : decode b_H_trueTotal 35 = .ok (.iload_n 1, 1) := by decide +kernel
theorem d_H_trueTotal_36 : decode b_H_trueTotal 36 = .ok (.laload, 1) := by decide +kernel
theorem d_H_trueTotal_37 : decode b_H_trueTotal 37 = .ok (.aload_n 0, 1) := by decide +kernel
theorem d_H_trueTotal_38 : decode b_H_trueTotal 38 = .ok (.getfield 39, 3) := by decide +kernel
theorem d_H_trueTotal_41 : decode b_H_trueTotal 41 = .ok (.iload 4, 2) := by decide +kernel
theorem d_H_trueTotal_43 : decode b_H_trueTotal 43 = .ok (.aaload, 1) := by decide +kernel
theorem d_H_trueTotal_44 : decode b_H_trueTotal 44 = .ok (.getfield 143, 3) := by decide +kernel
theorem d_H_trueTotal_47 : decode b_H_trueTotal 47 = .ok (.iload_n 1, 1) := by decide +kernel
theorem d_H_trueTotal_48 : decode b_H_trueTotal 48 = .ok (.laload, 1) := by decide +kernel
theorem d_H_trueTotal_49 : decode b_H_trueTotal 49 = .ok (.ladd, 1) := by decide +kernel
theorem d_H_trueTotal_50 : decode b_H_trueTotal 50 = .ok (.ladd, 1) := by decide +kernel
theorem d_H_trueTotal_51 : decode b_H_trueTotal 51 = .ok (.lstore_n 2, 1) := by decide +kernel
theorem d_H_trueTotal_52 : decode b_H_trueTotal 52 = .ok (.iinc 4 1, 3) := by decide +kernel
theorem d_H_trueTotal_55 : decode b_H_trueTotal 55 = .ok (.goto (-41), 3) := by decide +kernel
theorem d_H_trueTotal_58 : decode b_H_trueTotal 58 = .ok (.iconst 0, 1) := by decide +kernel
theorem d_H_trueTotal_59 : decode b_H_trueTotal 59 = .ok (.istore 4, 2) := by decide +kernel
theorem d_H_trueTotal_61 : decode b_H_trueTotal 61 = .ok (.iload 4, 2) := by decide +kernel
theorem d_H_trueTotal_63 : decode b_H_trueTotal 63 = .ok (.aload_n 0, 1) := by decide +kernel
theorem d_H_trueTotal_64 : decode b_H_trueTotal 64 = .ok (.getfield 10, 3) := by decide +kernel
theorem d_H_trueTotal_67 : decode b_H_trueTotal 67 = .ok (.invokevirtual 48, 3) := by decide +kernel
theorem d_H_trueTotal_70 : decode b_H_trueTotal 70 = .ok (.if_icmp .ge 28, 3) := by decide +kernel
theorem d_H_trueTotal_73 : decode b_H_trueTotal 73 = .ok (.lload_n 2, 1) := by decide +kernel
theorem d_H_trueTotal_74 : decode b_H_trueTotal 74 = .ok (.aload_n 0, 1) := by decide +kernel
theorem d_H_trueTotal_75 : decode b_H_trueTotal 75 = .ok (.getfield 10, 3) := by decide +kernel
theorem d_H_trueTotal_78 : decode b_H_trueTotal 78 = .ok (.iload 4, 2) := by decide +kernel
theorem d_H_trueTotal_80 : decode b_H_trueTotal 80 = .ok (.invokevirtual 88, 3) := by decide +kernel
theorem d_H_trueTotal_83 : decode b_H_trueTotal 83 = .ok (.checkcast 52, 3) := by decide +kernel
theorem d_H_trueTotal_86 : decode b_H_trueTotal 86 = .ok (.iload_n 1, 1) := by decide +kernel
theorem d_H_trueTotal_87 : decode b_H_trueTotal 87 = .ok (.invokevirtual 198, 3) := by decide +kernel
theorem d_H_trueTotal_90 : decode b_H_trueTotal 90 = .ok (.ladd, 1) := by decide +kernel
theorem d_H_trueTotal_91 : decode b_H_trueTotal 91 = .ok (.lstore_n 2, 1) := by decide +kernel
theorem d_H_trueTotal_92 : decode b_H_trueTotal 92 = .ok (.iinc 4 1, 3) := by decide +kernel
theorem d_H_trueTotal_95 : decode b_H_trueTotal 95 = .ok (.goto (-34), 3) := by decide +kernel
theorem d_H_trueTotal_98 : decode b_H_trueTotal 98 = .ok (.lload_n 2, 1) := by decide +kernel
theorem d_H_trueTotal_99 : decode b_H_trueTotal 99 = .ok (.lreturn, 1) := by decide +kernel
def pp_H_trueTotal_b61 (g : Nat → ClassId) (e0 : Nat → Nat) (K : Int64 → mo_M → Prop) : Nat → mo_M → Nat → Int32 → Int64 → Int32 → Prop
  | 0, _, _, _, _, _ => False
  | n + 1, M, x0, x1, x2, x4 => mp_gr M x0 0 1 (fun v15 => (mp_is M v15 5 ∧ pp_A_size g e0 (fun r17 M16 => ((r17 ≤ x4 → K x2 M16) ∧ (¬ (r17 ≤ x4) → mp_gr M16 x0 0 1 (fun v18 => (mp_is M16 v18 5 ∧ pp_A_get g e0 (fun r20 M19 => (mp_is M19 r20 2 ∧ (mp_is M19 r20 2 ∧ pp_L_sumOfBags g e0 (fun r22 M21 => pp_H_trueTotal_b61 g e0 K n M21 x0 x1 ((x2 + r22)) (x4 + 1)) M19 r20 x1))) M16 v18 x4))))) M v15))
def pp_H_trueTotal_b14 (g : Nat → ClassId) (e0 : Nat → Nat) (K : Int64 → mo_M → Prop) : Nat → mo_M → Nat → Int32 → Int64 → Int32 → Prop
  | 0, _, _, _, _, _ => False
  | n + 1, M, x0, x1, x2, x4 => mp_gr M x0 0 0 (fun v4 => mp_ln (g 3) M v4 (fun v5 => ((v5 ≤ x4 → ∃ n6 : Nat, pp_H_trueTotal_b61 g e0 K n6 M x0 x1 x2 ((0 : Int32))) ∧ (¬ (v5 ≤ x4) → mp_gr M x0 0 0 (fun v7 => mp_ar (g 3) M v7 x4 (fun v8 => mp_gr M v8 1 0 (fun v9 => mp_al (g 1) M v9 x1 (fun v10 => mp_gr M x0 0 0 (fun v11 => mp_ar (g 3) M v11 x4 (fun v12 => mp_gr M v12 1 1 (fun v13 => mp_al (g 1) M v13 x1 (fun v14 => pp_H_trueTotal_b14 g e0 K n M x0 x1 ((x2 + ((v10 + v14)))) (x4 + 1)))))))))))))
def pp_H_trueTotal (g : Nat → ClassId) (e0 : Nat → Nat) (K : Int64 → mo_M → Prop) (M : mo_M) (x0 : Nat) (x1 : Int32) : Prop := pp_H_hasCurrency g e0 (fun r2 M1 => ((r2 = 0 → K ((0 : Int64)) M1) ∧ (¬ (r2 = 0) → ∃ n3 : Nat, pp_H_trueTotal_b14 g e0 K n3 M1 x0 x1 ((0 : Int64)) ((0 : Int32))))) M x1
set_option maxHeartbeats 4000000 in
set_option maxRecDepth 100000 in
theorem cc_H_trueTotal (l : Launch) (L0 : Nat) (D : va_G) {g : Nat → ClassId} {e0 : Nat → Nat} {K : Int64 → mo_M → Prop} {M : mo_M} {x0 : Nat} {x1 : Int32} (hP : pp_H_trueTotal g e0 K M x0 x1) : Met l y_H_trueTotal ws_H_trueTotal (mo_R 4 0 0 89) (va_Pc [.ref x0, .int x1] (fun U => mo_B L0 e0 D vwCl (mo_T g) M U)) (mo_Ql L0 e0 D vwCl (mo_T g) K) 0 0 (fun q => L0 ≤ q) := by
  refine Met.ofW (cc := b_H_trueTotal) (maxL := 5) (ret := (Option.some Jvm.ClassFile.FieldType.long)) (by decide +kernel) rfl ?_
  intro p e s m args below meth c s₁ B hml hv
  obtain ⟨hv1, hB0⟩ := hv
  have hx := B.exec
  have hb := B.bytes
  have hr := B.returns
  have hts : ∀ w ∈ lw_g, w.before args s = true := fun w hw => atoms_spec (ws := ws_H_trueTotal) B.pre w (List.mem_cons_of_mem _ hw)
  have hown : s.vm.findClass "PurseHouse" = some m.cls := findClass_of_methodNamed B.named
  have hlocks := B.notSynchronized
  have w_61 : ∀ (n : Nat) (M : mo_M) (x0 : Nat) (x1 : Int32) (x2 : Int64) (x4 : Int32) (H : Heap) (locs : List Loc) (ls : Array Slot), pp_H_trueTotal_b61 g e0 K n M x0 x1 x2 x4 → mo_ok L0 e0 D vwCl (mo_T g) s M H locs → lv_has ls 5 [(0, .ref x0), (1, .int x1), (2, .long x2), (4, .int x4)] → W p l e (headSpec ws_H_trueTotal (mo_R 4 0 0 89)).room s m args below meth c H locs 0 0 (mo_Z below (mo_Ql L0 e0 D vwCl (mo_T g) K) args s 0 0 L0) (F0 m 61 ls []) := by
    intro n
    induction n with
    | zero => intro M x0 x1 x2 x4 H locs ls hP; exact hP.elim
    | succ n ih =>
      intro M x0 x1 x2 x4 H locs ls hP hok hl
      unfold pp_H_trueTotal_b61 at hP
      refine lv_iload hx hb d_H_trueTotal_61 (lv_at hl 3 rfl) ?_
      refine lv_aload_n hx hb d_H_trueTotal_63 rfl (lv_at hl 0 rfl) ?_
      refine mr_gr (C := "PurseHouse") (T := F_0) (N := 5) (ref := "PurseHouse") hx hb hts hown hok hP ui_0 rfl (by decide) (hts _ wd_142) (fun _ h => h) d_H_trueTotal_64 (fun v15 hP => ?_)
      obtain ⟨⟨fs9, he9⟩, hP⟩ := hP
      refine mo_calli hok (va_runV (As := []) (rest := [.int x4]) ⟨hx, hb, hml, hown, hts⟩ (cc_A_size l L0 D hP) ⟨(callB_of 0 hts (lw_gi wd_171) rfl rfl rfl (hts _ wd_36) (hts _ wd_168) (by decide +kernel) ⟨Nat.le_of_ble_eq_true rfl, Nat.le_of_ble_eq_true rfl⟩), hts _ wd_169, hts _ wd_170⟩ (mo_preV hok he9 rfl []) rfl rfl hl.1 rfl (lv_room (Nat.le_of_ble_eq_true rfl)) d_H_trueTotal_67 ⟨Nat.zero_le _, Nat.zero_le _⟩) (fun r17 M16 H locs hP hok => ?_)
      refine lv_icmp_ge (tgt := 98) hx hb d_H_trueTotal_70 (by decide) (fun hc => ?_) (fun hc => ?_)
      · replace hP := hP.1 hc
        refine lv_lload_n hx hb d_H_trueTotal_98 rfl (lv_at hl 2 rfl) ?_
        exact mo_lret hx hb hr hlocks hok hP d_H_trueTotal_99
      · replace hP := hP.2 hc
        refine lv_lload_n hx hb d_H_trueTotal_73 rfl (lv_at hl 2 rfl) ?_
        refine lv_aload_n hx hb d_H_trueTotal_74 rfl (lv_at hl 0 rfl) ?_
        refine mr_gr (C := "PurseHouse") (T := F_0) (N := 5) (ref := "PurseHouse") hx hb hts hown hok hP ui_0 rfl (by decide) (hts _ wd_142) (fun _ h => h) d_H_trueTotal_75 (fun v18 hP => ?_)
        refine lv_iload hx hb d_H_trueTotal_78 (lv_at hl 3 rfl) ?_
        obtain ⟨⟨fs9, he9⟩, hP⟩ := hP
        refine mo_callr hok (va_runV (As := [.int x4]) (rest := [.long x2]) ⟨hx, hb, hml, hown, hts⟩ (cc_A_get l L0 D hP) ⟨(callB_of 1 hts (lw_gi wd_313) rfl rfl rfl (hts _ wd_36) (hts _ wd_310) (by decide +kernel) ⟨Nat.le_of_ble_eq_true rfl, Nat.le_of_ble_eq_true rfl⟩), hts _ wd_311, hts _ wd_312⟩ (mo_preV hok he9 rfl [.int x4]) rfl rfl hl.1 rfl (lv_room (Nat.le_of_ble_eq_true rfl)) d_H_trueTotal_80 ⟨Nat.zero_le _, Nat.zero_le _⟩) (fun r20 M19 H locs hP hok => ?_)
        obtain ⟨his, hP⟩ := hP
        refine mr_cast (C := "PurseHouse$Link") (T := F_2) (N := 6) hx hb hown hok his rfl (hts _ wd_172) d_H_trueTotal_83 ?_
        refine lv_iload_n hx hb d_H_trueTotal_86 rfl (lv_at hl 1 rfl) ?_
        obtain ⟨⟨fs9, he9⟩, hP⟩ := hP
        refine mo_calll hok (va_runV (As := [.int x1]) (rest := [.long x2]) ⟨hx, hb, hml, hown, hts⟩ (cc_L_sumOfBags l L0 D hP) ⟨(callB_of 1 hts (lw_gi wd_482) rfl rfl rfl (hts _ wd_40) (hts _ wd_479) (by decide +kernel) ⟨Nat.le_of_ble_eq_true rfl, Nat.le_of_ble_eq_true rfl⟩), hts _ wd_480, hts _ wd_481⟩ (mo_preV hok he9 rfl [.int x1]) rfl rfl hl.1 rfl (lv_room (Nat.le_of_ble_eq_true rfl)) d_H_trueTotal_87 ⟨Nat.zero_le _, Nat.zero_le _⟩) (fun r22 M21 H locs hP hok => ?_)
        refine lv_ladd hx hb d_H_trueTotal_90 ?_
        refine lv_lstore_n (lv' := [(2, .long ((x2 + r22))), (0, .ref x0), (1, .int x1), (4, .int x4)]) hx hb d_H_trueTotal_91 rfl hl (by decide) rfl (fun ls hl => ?_)
        refine lv_iinc (k := 3) (v := x4 + 1) (lv' := [(4, .int (x4 + 1)), (2, .long ((x2 + r22))), (0, .ref x0), (1, .int x1)]) hx hb d_H_trueTotal_92 hl rfl rfl (by decide) rfl (fun ls hl => ?_)
        refine lv_goto (tgt := 61) hx hb d_H_trueTotal_95 (by decide) ?_
        exact ih _ _ _ _ _ _ _ _ hP hok (lv_sub hl [2, 3, 1, 0] rfl)
  have w_14 : ∀ (n : Nat) (M : mo_M) (x0 : Nat) (x1 : Int32) (x2 : Int64) (x4 : Int32) (H : Heap) (locs : List Loc) (ls : Array Slot), pp_H_trueTotal_b14 g e0 K n M x0 x1 x2 x4 → mo_ok L0 e0 D vwCl (mo_T g) s M H locs → lv_has ls 5 [(0, .ref x0), (1, .int x1), (2, .long x2), (4, .int x4)] → W p l e (headSpec ws_H_trueTotal (mo_R 4 0 0 89)).room s m args below meth c H locs 0 0 (mo_Z below (mo_Ql L0 e0 D vwCl (mo_T g) K) args s 0 0 L0) (F0 m 14 ls []) := by
    intro n
    induction n with
    | zero => intro M x0 x1 x2 x4 H locs ls hP; exact hP.elim
    | succ n ih =>
      intro M x0 x1 x2 x4 H locs ls hP hok hl
      unfold pp_H_trueTotal_b14 at hP
      refine lv_iload hx hb d_H_trueTotal_14 (lv_at hl 3 rfl) ?_
      refine lv_aload_n hx hb d_H_trueTotal_16 rfl (lv_at hl 0 rfl) ?_
      refine mr_gr (C := "PurseHouse") (T := F_0) (N := 5) (ref := "PurseHouse") hx hb hts hown hok hP ui_0 rfl (by decide) (hts _ wd_141) (fun _ h => h) d_H_trueTotal_17 (fun v4 hP => ?_)
      refine mr_ln hx hb hok hP 3 rfl d_H_trueTotal_20 (fun v5 hP => ?_)
      refine lv_icmp_ge (tgt := 58) hx hb d_H_trueTotal_21 (by decide) (fun hc => ?_) (fun hc => ?_)
      · replace hP := hP.1 hc
        refine lv_iconst (v := 0) hx hb d_H_trueTotal_58 (by decide) ?_
        refine lv_istore (lv' := [(4, .int ((0 : Int32))), (0, .ref x0), (1, .int x1), (2, .long x2)]) hx hb d_H_trueTotal_59 hl (by decide) rfl (fun ls hl => ?_)
        obtain ⟨n6, hP⟩ := hP
        exact w_61  n6 _ _ _ _ _ _ _ _ hP hok (lv_sub hl [1, 2, 3, 0] rfl)
      · replace hP := hP.2 hc
        refine lv_lload_n hx hb d_H_trueTotal_24 rfl (lv_at hl 2 rfl) ?_
        refine lv_aload_n hx hb d_H_trueTotal_25 rfl (lv_at hl 0 rfl) ?_
        refine mr_gr (C := "PurseHouse") (T := F_0) (N := 5) (ref := "PurseHouse") hx hb hts hown hok hP ui_0 rfl (by decide) (hts _ wd_141) (fun _ h => h) d_H_trueTotal_26 (fun v7 hP => ?_)
        refine lv_iload hx hb d_H_trueTotal_29 (lv_at hl 3 rfl) ?_
        refine mr_ar hx hb hok hP 3 rfl rfl d_H_trueTotal_31 (fun v8 hP => ?_)
        refine mr_gr (C := "PurseHouse$Kiosk") (T := F_1) (N := 9) (ref := "PurseHouse$Kiosk") hx hb hts hown hok hP ui_1 rfl (by decide) (hts _ wd_104) (fun _ h => h) d_H_trueTotal_32 (fun v9 hP => ?_)
        refine lv_iload_n hx hb d_H_trueTotal_35 rfl (lv_at hl 1 rfl) ?_
        refine mr_al hx hb hok hP 1 rfl d_H_trueTotal_36 (fun v10 hP => ?_)
        refine lv_aload_n hx hb d_H_trueTotal_37 rfl (lv_at hl 0 rfl) ?_
        refine mr_gr (C := "PurseHouse") (T := F_0) (N := 5) (ref := "PurseHouse") hx hb hts hown hok hP ui_0 rfl (by decide) (hts _ wd_141) (fun _ h => h) d_H_trueTotal_38 (fun v11 hP => ?_)
        refine lv_iload hx hb d_H_trueTotal_41 (lv_at hl 3 rfl) ?_
        refine mr_ar hx hb hok hP 3 rfl rfl d_H_trueTotal_43 (fun v12 hP => ?_)
        refine mr_gr (C := "PurseHouse$Kiosk") (T := F_1) (N := 9) (ref := "PurseHouse$Kiosk") hx hb hts hown hok hP ui_1 rfl (by decide) (hts _ wd_106) (fun _ h => h) d_H_trueTotal_44 (fun v13 hP => ?_)
        refine lv_iload_n hx hb d_H_trueTotal_47 rfl (lv_at hl 1 rfl) ?_
        refine mr_al hx hb hok hP 1 rfl d_H_trueTotal_48 (fun v14 hP => ?_)
        refine lv_ladd hx hb d_H_trueTotal_49 ?_
        refine lv_ladd hx hb d_H_trueTotal_50 ?_
        refine lv_lstore_n (lv' := [(2, .long ((x2 + ((v10 + v14))))), (0, .ref x0), (1, .int x1), (4, .int x4)]) hx hb d_H_trueTotal_51 rfl hl (by decide) rfl (fun ls hl => ?_)
        refine lv_iinc (k := 3) (v := x4 + 1) (lv' := [(4, .int (x4 + 1)), (2, .long ((x2 + ((v10 + v14))))), (0, .ref x0), (1, .int x1)]) hx hb d_H_trueTotal_52 hl rfl rfl (by decide) rfl (fun ls hl => ?_)
        refine lv_goto (tgt := 14) hx hb d_H_trueTotal_55 (by decide) ?_
        exact ih _ _ _ _ _ _ _ _ hP hok (lv_sub hl [2, 3, 1, 0] rfl)
  have hok : mo_ok L0 e0 D vwCl (mo_T g) s M s.heap [] := ⟨hB0.1, hB0.2.1, hB0.2.2, va_S.rf⟩
  have hl := lv_entry ([.ref x0, .int x1]) (n := 5) (Nat.le_of_ble_eq_true rfl)
  rw [hv1, lg_entry_eq]
  rw [← hv1]
  generalize (lg_sl [.ref x0, .int x1] ++ List.replicate (5 - (lg_sl [.ref x0, .int x1]).length) Slot.unset).toArray = ls at hl ⊢
  have hl : lv_has ls 5 [(0, .ref x0), (1, .int x1)] := hl
  unfold pp_H_trueTotal at hP
  refine lv_iload_n hx hb d_H_trueTotal_0 rfl (lv_at hl 1 rfl) ?_
  refine mo_calli hok (va_runS (As := [.int x1]) (rest := []) ⟨hx, hb, hml, hown, hts⟩ (cc_H_hasCurrency l L0 D hP) ⟨(callB_of 1 hts (lw_gi wd_263) rfl rfl rfl (hts _ wd_33) (hts _ wd_261) (by decide +kernel) ⟨Nat.le_of_ble_eq_true rfl, Nat.le_of_ble_eq_true rfl⟩), hts _ wd_262⟩ (mo_preS hok [.int x1]) rfl rfl hl.1 rfl (lv_room (Nat.le_of_ble_eq_true rfl)) d_H_trueTotal_1 ⟨Nat.zero_le _, Nat.zero_le _⟩) (fun r2 M1 H locs hP hok => ?_)
  refine lv_if_ne (tgt := 9) hx hb d_H_trueTotal_4 (by decide) (fun hc => ?_) (fun hc => ?_)
  · replace hP := hP.2 hc
    refine lv_lconst (v := 0) hx hb d_H_trueTotal_9 (by decide) ?_
    refine lv_lstore_n (lv' := [(2, .long ((0 : Int64))), (0, .ref x0), (1, .int x1)]) hx hb d_H_trueTotal_10 rfl hl (by decide) rfl (fun ls hl => ?_)
    refine lv_iconst (v := 0) hx hb d_H_trueTotal_11 (by decide) ?_
    refine lv_istore (lv' := [(4, .int ((0 : Int32))), (2, .long ((0 : Int64))), (0, .ref x0), (1, .int x1)]) hx hb d_H_trueTotal_12 hl (by decide) rfl (fun ls hl => ?_)
    obtain ⟨n3, hP⟩ := hP
    exact w_14  n3 _ _ _ _ _ _ _ _ hP hok (lv_sub hl [2, 3, 1, 0] rfl)
  · replace hP := hP.1 hc
    refine lv_lconst (v := 0) hx hb d_H_trueTotal_7 (by decide) ?_
    exact mo_lret hx hb hr hlocks hok hP d_H_trueTotal_8

abbrev b_H_below : ByteArray := prog_1_method_21_code
def y_H_below : MethodName := ⟨"PurseHouse", "below", "(IIJ)I"⟩
def ws_H_below : List Cond := .code y_H_below b_H_below 6 (Option.some Jvm.ClassFile.FieldType.int) :: lw_g
theorem d_H_below_0 : decode b_H_below 0 = .ok (.aload_n 0, 1) := by decide +kernel
theorem d_H_below_1 : decode b_H_below 1 = .ok (.iload_n 1, 1) := by decide +kernel
theorem d_H_below_2 : decode b_H_below 2 = .ok (.invokevirtual 164, 3) := by decide +kernel
theorem d_H_below_5 : decode b_H_below 5 = .ok (.ifCond .eq 10, 3) := by decide +kernel
theorem d_H_below_8 : decode b_H_below 8 = .ok (.iload_n 2, 1) := by decide +kernel
theorem d_H_below_9 : decode b_H_below 9 = .ok (.invokestatic 61, 3) := by decide +kernel
theorem d_H_below_12 : decode b_H_below 12 = .ok (.ifCond .ne 5, 3) := by decide +kernel
theorem d_H_below_15 : decode b_H_below 15 = .ok (.iconst (-1), 1) := by decide +kernel
theorem d_H_below_16 : decode b_H_below 16 = .ok (.ireturn, 1) := by decide +kernel
theorem d_H_below_17 : decode b_H_below 17 = .ok (.iconst 0, 1) := by decide +kernel
theorem d_H_below_18 : decode b_H_below 18 = .ok (.istore 5, 2) := by decide +kernel
theorem d_H_below_20 : decode b_H_below 20 = .ok (.iload 5, 2) := by decide +kernel
theorem d_H_below_22 : decode b_H_below 22 = .ok (.aload_n 0, 1) := by decide +kernel
theorem d_H_below_23 : decode b_H_below 23 = .ok (.getfield 39, 3) := by decide +kernel
theorem d_H_below_26 : decode b_H_below 26 = .ok (.arraylength, 1) := by decide +kernel
theorem d_H_below_27 : decode b_H_below 27 = .ok (.if_icmp .ge 45, 3) := by decide +kernel
theorem d_H_below_30 : decode b_H_below 30 = .ok (.aload_n 0, 1) := by decide +kernel
theorem d_H_below_31 : decode b_H_below 31 = .ok (.getfield 39, 3) := by decide +kernel
theorem d_H_below_34 : decode b_H_below 34 = .ok (.iload 5, 2) := by decide +kernel
theorem d_H_below_36 : decode b_H_below 36 = .ok (.aaload, 1) := by decide +kernel
theorem d_H_below_37 : decode b_H_below 37 = .ok (.iload_n 1, 1) := by decide +kernel
theorem d_H_below_38 : decode b_H_below 38 = .ok (.invokevirtual 167, 3) := by decide +kernel
theorem d_H_below_41 : decode b_H_below 41 = .ok (.ifCond .eq 25, 3) := by decide +kernel
theorem d_H_below_44 : decode b_H_below 44 = .ok (.aload_n 0, 1) := by decide +kernel
theorem d_H_below_45 : decode b_H_below 45 = .ok (.getfield 39, 3) := by decide +kernel
theorem d_H_below_48 : decode b_H_below 48 = .ok (.iload 5, 2) := by decide +kernel
theorem d_H_below_50 : decode b_H_below 50 = .ok (.aaload, 1) := by decide +kernel
theorem d_H_below_51 : decode b_H_below 51 = .ok (.getfield 178, 3) := by decide +kernel
theorem d_H_below_54 : decode b_H_below 54 = .ok (.iload_n 1, 1) := by decide +kernel
theorem d_H_below_55 : decode b_H_below 55 = .ok (.aaload, 1) := by decide +kernel
theorem d_H_below_56 : decode b_H_below 56 = .ok (.iload_n 2, 1) := by decide +kernel
theorem d_H_below_57 : decode b_H_below 57 = .ok (.laload, 1) := by decide +kernel
theorem d_H_below_58 : decode b_H_below 58 = .ok (.lload_n 3, 1) := by decide +kernel
theorem d_H_below_59 : decode b_H_below 59 = .ok (.lcmp, 1) := by decide +kernel
theorem d_H_below_60 : decode b_H_below 60 = .ok (.ifCond .ge 6, 3) := by decide +kernel
theorem d_H_below_63 : decode b_H_below 63 = .ok (.iload 5, 2) := by decide +kernel
theorem d_H_below_65 : decode b_H_below 65 = .ok (.ireturn, 1) := by decide +kernel
theorem d_H_below_66 : decode b_H_below 66 = .ok (.iinc 5 1, 3) := by decide +kernel
theorem d_H_below_69 : decode b_H_below 69 = .ok (.goto (-49), 3) := by decide +kernel
theorem d_H_below_72 : decode b_H_below 72 = .ok (.iconst (-1), 1) := by decide +kernel
theorem d_H_below_73 : decode b_H_below 73 = .ok (.ireturn, 1) := by decide +kernel
def pp_H_below_b66 (g : Nat → ClassId) (e0 : Nat → Nat) (K : Int32 → mo_M → Prop) (B_20 : mo_M → Nat → Int32 → Int32 → Int64 → Int32 → Prop) (M : mo_M) (x0 : Nat) (x1 : Int32) (x2 : Int32) (x3 : Int64) (x5 : Int32) : Prop := B_20 M x0 x1 x2 x3 (x5 + 1)
def pp_H_below_b20 (g : Nat → ClassId) (e0 : Nat → Nat) (K : Int32 → mo_M → Prop) : Nat → mo_M → Nat → Int32 → Int32 → Int64 → Int32 → Prop
  | 0, _, _, _, _, _, _ => False
  | n + 1, M, x0, x1, x2, x3, x5 => mp_gr M x0 0 0 (fun v6 => mp_ln (g 3) M v6 (fun v7 => ((v7 ≤ x5 → K ((-1 : Int32)) M) ∧ (¬ (v7 ≤ x5) → mp_gr M x0 0 0 (fun v8 => mp_ar (g 3) M v8 x5 (fun v9 => (mp_is M v9 1 ∧ pp_K_hasMark g e0 (fun r11 M10 => ((r11 = 0 → pp_H_below_b66 g e0 K (fun M x0 x1 x2 x3 x5 => pp_H_below_b20 g e0 K n M x0 x1 x2 x3 x5) M10 x0 x1 x2 x3 x5) ∧ (¬ (r11 = 0) → mp_gr M10 x0 0 0 (fun v12 => mp_ar (g 3) M10 v12 x5 (fun v13 => mp_gr M10 v13 1 5 (fun v14 => mp_ar (g 4) M10 v14 x1 (fun v15 => mp_al (g 1) M10 v15 x2 (fun v16 => ((0 ≤ (lg_cmp v16 x3) → pp_H_below_b66 g e0 K (fun M x0 x1 x2 x3 x5 => pp_H_below_b20 g e0 K n M x0 x1 x2 x3 x5) M10 x0 x1 x2 x3 x5) ∧ (¬ (0 ≤ (lg_cmp v16 x3)) → K x5 M10)))))))))) M v9 x1)))))))
def pp_H_below (g : Nat → ClassId) (e0 : Nat → Nat) (K : Int32 → mo_M → Prop) (M : mo_M) (x0 : Nat) (x1 : Int32) (x2 : Int32) (x3 : Int64) : Prop := (mp_is M x0 0 ∧ pp_H_hasNumber g e0 (fun r2 M1 => ((r2 = 0 → K ((-1 : Int32)) M1) ∧ (¬ (r2 = 0) → pp_H_hasCurrency g e0 (fun r4 M3 => ((r4 = 0 → K ((-1 : Int32)) M3) ∧ (¬ (r4 = 0) → ∃ n5 : Nat, pp_H_below_b20 g e0 K n5 M3 x0 x1 x2 x3 ((0 : Int32))))) M1 x2))) M x0 x1)
set_option maxHeartbeats 4000000 in
set_option maxRecDepth 100000 in
theorem cc_H_below (l : Launch) (L0 : Nat) (D : va_G) {g : Nat → ClassId} {e0 : Nat → Nat} {K : Int32 → mo_M → Prop} {M : mo_M} {x0 : Nat} {x1 : Int32} {x2 : Int32} {x3 : Int64} (hP : pp_H_below g e0 K M x0 x1 x2 x3) : Met l y_H_below ws_H_below (mo_R 2 0 0 43) (va_Pc [.ref x0, .int x1, .int x2, .long x3] (fun U => mo_B L0 e0 D vwCl (mo_T g) M U)) (mo_Qi L0 e0 D vwCl (mo_T g) K) 0 0 (fun q => L0 ≤ q) := by
  refine Met.ofW (cc := b_H_below) (maxL := 6) (ret := (Option.some Jvm.ClassFile.FieldType.int)) (by decide +kernel) rfl ?_
  intro p e s m args below meth c s₁ B hml hv
  obtain ⟨hv1, hB0⟩ := hv
  have hx := B.exec
  have hb := B.bytes
  have hr := B.returns
  have hts : ∀ w ∈ lw_g, w.before args s = true := fun w hw => atoms_spec (ws := ws_H_below) B.pre w (List.mem_cons_of_mem _ hw)
  have hown : s.vm.findClass "PurseHouse" = some m.cls := findClass_of_methodNamed B.named
  have hlocks := B.notSynchronized
  have w_66 : ∀ (B_20 : mo_M → Nat → Int32 → Int32 → Int64 → Int32 → Prop) (hB_20 : ∀ (M : mo_M) (x0 : Nat) (x1 : Int32) (x2 : Int32) (x3 : Int64) (x5 : Int32) (H : Heap) (locs : List Loc) (ls : Array Slot), B_20 M x0 x1 x2 x3 x5 → mo_ok L0 e0 D vwCl (mo_T g) s M H locs → lv_has ls 6 [(0, .ref x0), (1, .int x1), (2, .int x2), (3, .long x3), (5, .int x5)] → W p l e (headSpec ws_H_below (mo_R 2 0 0 43)).room s m args below meth c H locs 0 0 (mo_Z below (mo_Qi L0 e0 D vwCl (mo_T g) K) args s 0 0 L0) (F0 m 20 ls [])) (M : mo_M) (x0 : Nat) (x1 : Int32) (x2 : Int32) (x3 : Int64) (x5 : Int32) (H : Heap) (locs : List Loc) (ls : Array Slot), pp_H_below_b66 g e0 K B_20 M x0 x1 x2 x3 x5 → mo_ok L0 e0 D vwCl (mo_T g) s M H locs → lv_has ls 6 [(0, .ref x0), (1, .int x1), (2, .int x2), (3, .long x3), (5, .int x5)] → W p l e (headSpec ws_H_below (mo_R 2 0 0 43)).room s m args below meth c H locs 0 0 (mo_Z below (mo_Qi L0 e0 D vwCl (mo_T g) K) args s 0 0 L0) (F0 m 66 ls []) := by
    intro B_20 hB_20 M x0 x1 x2 x3 x5 H locs ls hP hok hl
    unfold pp_H_below_b66 at hP
    refine lv_iinc (k := 4) (v := x5 + 1) (lv' := [(5, .int (x5 + 1)), (0, .ref x0), (1, .int x1), (2, .int x2), (3, .long x3)]) hx hb d_H_below_66 hl rfl rfl (by decide) rfl (fun ls hl => ?_)
    refine lv_goto (tgt := 20) hx hb d_H_below_69 (by decide) ?_
    exact hB_20 _ _ _ _ _ _ _ _ _ hP hok (lv_sub hl [1, 2, 3, 4, 0] rfl)
  have w_20 : ∀ (n : Nat) (M : mo_M) (x0 : Nat) (x1 : Int32) (x2 : Int32) (x3 : Int64) (x5 : Int32) (H : Heap) (locs : List Loc) (ls : Array Slot), pp_H_below_b20 g e0 K n M x0 x1 x2 x3 x5 → mo_ok L0 e0 D vwCl (mo_T g) s M H locs → lv_has ls 6 [(0, .ref x0), (1, .int x1), (2, .int x2), (3, .long x3), (5, .int x5)] → W p l e (headSpec ws_H_below (mo_R 2 0 0 43)).room s m args below meth c H locs 0 0 (mo_Z below (mo_Qi L0 e0 D vwCl (mo_T g) K) args s 0 0 L0) (F0 m 20 ls []) := by
    intro n
    induction n with
    | zero => intro M x0 x1 x2 x3 x5 H locs ls hP; exact hP.elim
    | succ n ih =>
      intro M x0 x1 x2 x3 x5 H locs ls hP hok hl
      unfold pp_H_below_b20 at hP
      refine lv_iload hx hb d_H_below_20 (lv_at hl 4 rfl) ?_
      refine lv_aload_n hx hb d_H_below_22 rfl (lv_at hl 0 rfl) ?_
      refine mr_gr (C := "PurseHouse") (T := F_0) (N := 5) (ref := "PurseHouse") hx hb hts hown hok hP ui_0 rfl (by decide) (hts _ wd_141) (fun _ h => h) d_H_below_23 (fun v6 hP => ?_)
      refine mr_ln hx hb hok hP 3 rfl d_H_below_26 (fun v7 hP => ?_)
      refine lv_icmp_ge (tgt := 72) hx hb d_H_below_27 (by decide) (fun hc => ?_) (fun hc => ?_)
      · replace hP := hP.1 hc
        refine lv_iconst (v := (-1)) hx hb d_H_below_72 (by decide) ?_
        exact mo_iret hx hb hr hlocks hok hP d_H_below_73
      · replace hP := hP.2 hc
        refine lv_aload_n hx hb d_H_below_30 rfl (lv_at hl 0 rfl) ?_
        refine mr_gr (C := "PurseHouse") (T := F_0) (N := 5) (ref := "PurseHouse") hx hb hts hown hok hP ui_0 rfl (by decide) (hts _ wd_141) (fun _ h => h) d_H_below_31 (fun v8 hP => ?_)
        refine lv_iload hx hb d_H_below_34 (lv_at hl 4 rfl) ?_
        refine mr_ar hx hb hok hP 3 rfl rfl d_H_below_36 (fun v9 hP => ?_)
        refine lv_iload_n hx hb d_H_below_37 rfl (lv_at hl 1 rfl) ?_
        obtain ⟨⟨fs9, he9⟩, hP⟩ := hP
        refine mo_calli hok (va_runV (As := [.int x1]) (rest := []) ⟨hx, hb, hml, hown, hts⟩ (cc_K_hasMark l L0 D hP) ⟨(callB_of 1 hts (lw_gi wd_395) rfl rfl rfl (hts _ wd_38) (hts _ wd_392) (by decide +kernel) ⟨Nat.le_of_ble_eq_true rfl, Nat.le_of_ble_eq_true rfl⟩), hts _ wd_393, hts _ wd_394⟩ (mo_preV hok he9 rfl [.int x1]) rfl rfl hl.1 rfl (lv_room (Nat.le_of_ble_eq_true rfl)) d_H_below_38 ⟨Nat.zero_le _, Nat.zero_le _⟩) (fun r11 M10 H locs hP hok => ?_)
        refine lv_if_eq (tgt := 66) hx hb d_H_below_41 (by decide) (fun hc => ?_) (fun hc => ?_)
        · replace hP := hP.1 hc
          exact w_66 _ ih _ _ _ _ _ _ _ _ _ hP hok (lv_sub hl [0, 1, 2, 3, 4] rfl)
        · replace hP := hP.2 hc
          refine lv_aload_n hx hb d_H_below_44 rfl (lv_at hl 0 rfl) ?_
          refine mr_gr (C := "PurseHouse") (T := F_0) (N := 5) (ref := "PurseHouse") hx hb hts hown hok hP ui_0 rfl (by decide) (hts _ wd_141) (fun _ h => h) d_H_below_45 (fun v12 hP => ?_)
          refine lv_iload hx hb d_H_below_48 (lv_at hl 4 rfl) ?_
          refine mr_ar hx hb hok hP 3 rfl rfl d_H_below_50 (fun v13 hP => ?_)
          refine mr_gr (C := "PurseHouse$Kiosk") (T := F_1) (N := 9) (ref := "PurseHouse$Kiosk") hx hb hts hown hok hP ui_1 rfl (by decide) (hts _ wd_113) (fun _ h => h) d_H_below_51 (fun v14 hP => ?_)
          refine lv_iload_n hx hb d_H_below_54 rfl (lv_at hl 1 rfl) ?_
          refine mr_ar hx hb hok hP 4 rfl rfl d_H_below_55 (fun v15 hP => ?_)
          refine lv_iload_n hx hb d_H_below_56 rfl (lv_at hl 2 rfl) ?_
          refine mr_al hx hb hok hP 1 rfl d_H_below_57 (fun v16 hP => ?_)
          refine lv_lload_n hx hb d_H_below_58 rfl (lv_at hl 3 rfl) ?_
          refine W.lcmp hx hb d_H_below_59 ?_
          refine lv_if_ge (tgt := 66) hx hb d_H_below_60 (by decide) (fun hc => ?_) (fun hc => ?_)
          · replace hP := hP.1 hc
            exact w_66 _ ih _ _ _ _ _ _ _ _ _ hP hok (lv_sub hl [0, 1, 2, 3, 4] rfl)
          · replace hP := hP.2 hc
            refine lv_iload hx hb d_H_below_63 (lv_at hl 4 rfl) ?_
            exact mo_iret hx hb hr hlocks hok hP d_H_below_65
  have hok : mo_ok L0 e0 D vwCl (mo_T g) s M s.heap [] := ⟨hB0.1, hB0.2.1, hB0.2.2, va_S.rf⟩
  have hl := lv_entry ([.ref x0, .int x1, .int x2, .long x3]) (n := 6) (Nat.le_of_ble_eq_true rfl)
  rw [hv1, lg_entry_eq]
  rw [← hv1]
  generalize (lg_sl [.ref x0, .int x1, .int x2, .long x3] ++ List.replicate (6 - (lg_sl [.ref x0, .int x1, .int x2, .long x3]).length) Slot.unset).toArray = ls at hl ⊢
  have hl : lv_has ls 6 [(0, .ref x0), (1, .int x1), (2, .int x2), (3, .long x3)] := hl
  unfold pp_H_below at hP
  refine lv_aload_n hx hb d_H_below_0 rfl (lv_at hl 0 rfl) ?_
  refine lv_iload_n hx hb d_H_below_1 rfl (lv_at hl 1 rfl) ?_
  obtain ⟨⟨fs9, he9⟩, hP⟩ := hP
  refine mo_calli hok (va_runV (As := [.int x1]) (rest := []) ⟨hx, hb, hml, hown, hts⟩ (cc_H_hasNumber l L0 D hP) ⟨(callB_of 1 hts (lw_gi wd_446) rfl rfl rfl (hts _ wd_33) (hts _ wd_443) (by decide +kernel) ⟨Nat.le_of_ble_eq_true rfl, Nat.le_of_ble_eq_true rfl⟩), hts _ wd_445, hts _ wd_11⟩ (mo_preV hok he9 rfl [.int x1]) rfl rfl hl.1 rfl (lv_room (Nat.le_of_ble_eq_true rfl)) d_H_below_2 ⟨Nat.zero_le _, Nat.zero_le _⟩) (fun r2 M1 H locs hP hok => ?_)
  refine lv_if_eq (tgt := 15) hx hb d_H_below_5 (by decide) (fun hc => ?_) (fun hc => ?_)
  · replace hP := hP.1 hc
    refine lv_iconst (v := (-1)) hx hb d_H_below_15 (by decide) ?_
    exact mo_iret hx hb hr hlocks hok hP d_H_below_16
  · replace hP := hP.2 hc
    refine lv_iload_n hx hb d_H_below_8 rfl (lv_at hl 2 rfl) ?_
    refine mo_calli hok (va_runS (As := [.int x2]) (rest := []) ⟨hx, hb, hml, hown, hts⟩ (cc_H_hasCurrency l L0 D hP) ⟨(callB_of 1 hts (lw_gi wd_263) rfl rfl rfl (hts _ wd_33) (hts _ wd_261) (by decide +kernel) ⟨Nat.le_of_ble_eq_true rfl, Nat.le_of_ble_eq_true rfl⟩), hts _ wd_262⟩ (mo_preS hok [.int x2]) rfl rfl hl.1 rfl (lv_room (Nat.le_of_ble_eq_true rfl)) d_H_below_9 ⟨Nat.zero_le _, Nat.zero_le _⟩) (fun r4 M3 H locs hP hok => ?_)
    refine lv_if_ne (tgt := 17) hx hb d_H_below_12 (by decide) (fun hc => ?_) (fun hc => ?_)
    · replace hP := hP.2 hc
      refine lv_iconst (v := 0) hx hb d_H_below_17 (by decide) ?_
      refine lv_istore (lv' := [(5, .int ((0 : Int32))), (0, .ref x0), (1, .int x1), (2, .int x2), (3, .long x3)]) hx hb d_H_below_18 hl (by decide) rfl (fun ls hl => ?_)
      obtain ⟨n5, hP⟩ := hP
      exact w_20  n5 _ _ _ _ _ _ _ _ _ hP hok (lv_sub hl [1, 2, 3, 4, 0] rfl)
    · replace hP := hP.1 hc
      refine lv_iconst (v := (-1)) hx hb d_H_below_15 (by decide) ?_
      exact mo_iret hx hb hr hlocks hok hP d_H_below_16

abbrev b_H_events : ByteArray := prog_1_method_22_code
def y_H_events : MethodName := ⟨"PurseHouse", "events", "(II)I"⟩
def ws_H_events : List Cond := .code y_H_events b_H_events 3 (Option.some Jvm.ClassFile.FieldType.int) :: lw_g
theorem d_H_events_0 : decode b_H_events 0 = .ok (.aload_n 0, 1) := by decide +kernel
theorem d_H_events_1 : decode b_H_events 1 = .ok (.iload_n 2, 1) := by decide +kernel
theorem d_H_events_2 : decode b_H_events 2 = .ok (.invokevirtual 44, 3) := by decide +kernel
theorem d_H_events_5 : decode b_H_events 5 = .ok (.ifCond .ne 5, 3) := by decide +kernel
theorem d_H_events_8 : decode b_H_events 8 = .ok (.iconst (-1), 1) := by decide +kernel
theorem d_H_events_9 : decode b_H_events 9 = .ok (.ireturn, 1) := by decide +kernel
theorem d_H_events_10 : decode b_H_events 10 = .ok (.iload_n 1, 1) := by decide +kernel
theorem d_H_events_11 : decode b_H_events 11 = .ok (.ifCond .ge 13, 3) := by decide +kernel
theorem d_H_events_14 : decode b_H_events 14 = .ok (.aload_n 0, 1) := by decide +kernel
theorem d_H_events_15 : decode b_H_events 15 = .ok (.getfield 39, 3) := by decide +kernel
theorem d_H_events_18 : decode b_H_events 18 = .ok (.iload_n 2, 1) := by decide +kernel
theorem d_H_events_19 : decode b_H_events 19 = .ok (.aaload, 1) := by decide +kernel
theorem d_H_events_20 : decode b_H_events 20 = .ok (.getfield 202, 3) := by decide +kernel
theorem d_H_events_23 : decode b_H_events 23 = .ok (.ireturn, 1) := by decide +kernel
theorem d_H_events_24 : decode b_H_events 24 = .ok (.aload_n 0, 1) := by decide +kernel
theorem d_H_events_25 : decode b_H_events 25 = .ok (.iload_n 1, 1) := by decide +kernel
theorem d_H_events_26 : decode b_H_events 26 = .ok (.invokevirtual 164, 3) := by decide +kernel
theorem d_H_events_29 : decode b_H_events 29 = .ok (.ifCond .eq 30, 3) := by decide +kernel
theorem d_H_events_32 : decode b_H_events 32 = .ok (.aload_n 0, 1) := by decide +kernel
theorem d_H_events_33 : decode b_H_events 33 = .ok (.getfield 39, 3) := by decide +kernel
theorem d_H_events_36 : decode b_H_events 36 = .ok (.iload_n 2, 1) := by decide +kernel
theorem d_H_events_37 : decode b_H_events 37 = .ok (.aaload, 1) := by decide +kernel
theorem d_H_events_38 : decode b_H_events 38 = .ok (.iload_n 1, 1) := by decide +kernel
theorem d_H_events_39 : decode b_H_events 39 = .ok (.invokevirtual 167, 3) := by decide +kernel
theorem d_H_events_42 : decode b_H_events 42 = .ok (.ifCond .eq 17, 3) := by decide +kernel
theorem d_H_events_45 : decode b_H_events 45 = .ok (.aload_n 0, 1) := by decide +kernel
theorem d_H_events_46 : decode b_H_events 46 = .ok (.getfield 39, 3) := by decide +kernel
theorem d_H_events_49 : decode b_H_events 49 = .ok (.iload_n 2, 1) := by decide +kernel
theorem d_H_events_50 : decode b_H_events 50 = .ok (.aaload, 1) := by decide +kernel
theorem d_H_events_51 : decode b_H_events 51 = .ok (.getfield 205, 3) := by decide +kernel
theorem d_H_events_54 : decode b_H_events 54 = .ok (.iload_n 1, 1) := by decide +kernel
theorem d_H_events_55 : decode b_H_events 55 = .ok (.iaload, 1) := by decide +kernel
theorem d_H_events_56 : decode b_H_events 56 = .ok (.goto 4, 3) := by decide +kernel
theorem d_H_events_59 : decode b_H_events 59 = .ok (.iconst (-1), 1) := by decide +kernel
theorem d_H_events_60 : decode b_H_events 60 = .ok (.ireturn, 1) := by decide +kernel
def pp_H_events (g : Nat → ClassId) (e0 : Nat → Nat) (K : Int32 → mo_M → Prop) (M : mo_M) (x0 : Nat) (x1 : Int32) (x2 : Int32) : Prop := (mp_is M x0 0 ∧ pp_H_hasKiosk g e0 (fun r2 M1 => ((r2 = 0 → K ((-1 : Int32)) M1) ∧ (¬ (r2 = 0) → ((0 ≤ x1 → (mp_is M1 x0 0 ∧ pp_H_hasNumber g e0 (fun r4 M3 => ((r4 = 0 → K ((-1 : Int32)) M3) ∧ (¬ (r4 = 0) → mp_gr M3 x0 0 0 (fun v5 => mp_ar (g 3) M3 v5 x2 (fun v6 => (mp_is M3 v6 1 ∧ pp_K_hasMark g e0 (fun r8 M7 => ((r8 = 0 → K ((-1 : Int32)) M7) ∧ (¬ (r8 = 0) → mp_gr M7 x0 0 0 (fun v9 => mp_ar (g 3) M7 v9 x2 (fun v10 => mp_gr M7 v10 1 8 (fun v11 => mp_ai (g 0) M7 v11 x1 (fun v12 => K v12 M7))))))) M3 v6 x1)))))) M1 x0 x1)) ∧ (¬ (0 ≤ x1) → mp_gr M1 x0 0 0 (fun v13 => mp_ar (g 3) M1 v13 x2 (fun v14 => mp_gi M1 v14 1 3 (fun v15 => K v15 M1)))))))) M x0 x2)
set_option maxHeartbeats 4000000 in
set_option maxRecDepth 100000 in
theorem cc_H_events (l : Launch) (L0 : Nat) (D : va_G) {g : Nat → ClassId} {e0 : Nat → Nat} {K : Int32 → mo_M → Prop} {M : mo_M} {x0 : Nat} {x1 : Int32} {x2 : Int32} (hP : pp_H_events g e0 K M x0 x1 x2) : Met l y_H_events ws_H_events (mo_R 2 0 0 43) (va_Pc [.ref x0, .int x1, .int x2] (fun U => mo_B L0 e0 D vwCl (mo_T g) M U)) (mo_Qi L0 e0 D vwCl (mo_T g) K) 0 0 (fun q => L0 ≤ q) := by
  refine Met.ofW (cc := b_H_events) (maxL := 3) (ret := (Option.some Jvm.ClassFile.FieldType.int)) (by decide +kernel) rfl ?_
  intro p e s m args below meth c s₁ B hml hv
  obtain ⟨hv1, hB0⟩ := hv
  have hx := B.exec
  have hb := B.bytes
  have hr := B.returns
  have hts : ∀ w ∈ lw_g, w.before args s = true := fun w hw => atoms_spec (ws := ws_H_events) B.pre w (List.mem_cons_of_mem _ hw)
  have hown : s.vm.findClass "PurseHouse" = some m.cls := findClass_of_methodNamed B.named
  have hlocks := B.notSynchronized
  have hok : mo_ok L0 e0 D vwCl (mo_T g) s M s.heap [] := ⟨hB0.1, hB0.2.1, hB0.2.2, va_S.rf⟩
  have hl := lv_entry ([.ref x0, .int x1, .int x2]) (n := 3) (Nat.le_of_ble_eq_true rfl)
  rw [hv1, lg_entry_eq]
  rw [← hv1]
  generalize (lg_sl [.ref x0, .int x1, .int x2] ++ List.replicate (3 - (lg_sl [.ref x0, .int x1, .int x2]).length) Slot.unset).toArray = ls at hl ⊢
  have hl : lv_has ls 3 [(0, .ref x0), (1, .int x1), (2, .int x2)] := hl
  unfold pp_H_events at hP
  refine lv_aload_n hx hb d_H_events_0 rfl (lv_at hl 0 rfl) ?_
  refine lv_iload_n hx hb d_H_events_1 rfl (lv_at hl 2 rfl) ?_
  obtain ⟨⟨fs9, he9⟩, hP⟩ := hP
  refine mo_calli hok (va_runV (As := [.int x2]) (rest := []) ⟨hx, hb, hml, hown, hts⟩ (cc_H_hasKiosk l L0 D hP) ⟨(callB_of 1 hts (lw_gi wd_164) rfl rfl rfl (hts _ wd_33) (hts _ wd_161) (by decide +kernel) ⟨Nat.le_of_ble_eq_true rfl, Nat.le_of_ble_eq_true rfl⟩), hts _ wd_163, hts _ wd_0⟩ (mo_preV hok he9 rfl [.int x2]) rfl rfl hl.1 rfl (lv_room (Nat.le_of_ble_eq_true rfl)) d_H_events_2 ⟨Nat.zero_le _, Nat.zero_le _⟩) (fun r2 M1 H locs hP hok => ?_)
  refine lv_if_ne (tgt := 10) hx hb d_H_events_5 (by decide) (fun hc => ?_) (fun hc => ?_)
  · replace hP := hP.2 hc
    refine lv_iload_n hx hb d_H_events_10 rfl (lv_at hl 1 rfl) ?_
    refine lv_if_ge (tgt := 24) hx hb d_H_events_11 (by decide) (fun hc => ?_) (fun hc => ?_)
    · replace hP := hP.1 hc
      refine lv_aload_n hx hb d_H_events_24 rfl (lv_at hl 0 rfl) ?_
      refine lv_iload_n hx hb d_H_events_25 rfl (lv_at hl 1 rfl) ?_
      obtain ⟨⟨fs9, he9⟩, hP⟩ := hP
      refine mo_calli hok (va_runV (As := [.int x1]) (rest := []) ⟨hx, hb, hml, hown, hts⟩ (cc_H_hasNumber l L0 D hP) ⟨(callB_of 1 hts (lw_gi wd_446) rfl rfl rfl (hts _ wd_33) (hts _ wd_443) (by decide +kernel) ⟨Nat.le_of_ble_eq_true rfl, Nat.le_of_ble_eq_true rfl⟩), hts _ wd_445, hts _ wd_11⟩ (mo_preV hok he9 rfl [.int x1]) rfl rfl hl.1 rfl (lv_room (Nat.le_of_ble_eq_true rfl)) d_H_events_26 ⟨Nat.zero_le _, Nat.zero_le _⟩) (fun r4 M3 H locs hP hok => ?_)
      refine lv_if_eq (tgt := 59) hx hb d_H_events_29 (by decide) (fun hc => ?_) (fun hc => ?_)
      · replace hP := hP.1 hc
        refine lv_iconst (v := (-1)) hx hb d_H_events_59 (by decide) ?_
        exact mo_iret hx hb hr hlocks hok hP d_H_events_60
      · replace hP := hP.2 hc
        refine lv_aload_n hx hb d_H_events_32 rfl (lv_at hl 0 rfl) ?_
        refine mr_gr (C := "PurseHouse") (T := F_0) (N := 5) (ref := "PurseHouse") hx hb hts hown hok hP ui_0 rfl (by decide) (hts _ wd_141) (fun _ h => h) d_H_events_33 (fun v5 hP => ?_)
        refine lv_iload_n hx hb d_H_events_36 rfl (lv_at hl 2 rfl) ?_
        refine mr_ar hx hb hok hP 3 rfl rfl d_H_events_37 (fun v6 hP => ?_)
        refine lv_iload_n hx hb d_H_events_38 rfl (lv_at hl 1 rfl) ?_
        obtain ⟨⟨fs9, he9⟩, hP⟩ := hP
        refine mo_calli hok (va_runV (As := [.int x1]) (rest := []) ⟨hx, hb, hml, hown, hts⟩ (cc_K_hasMark l L0 D hP) ⟨(callB_of 1 hts (lw_gi wd_395) rfl rfl rfl (hts _ wd_38) (hts _ wd_392) (by decide +kernel) ⟨Nat.le_of_ble_eq_true rfl, Nat.le_of_ble_eq_true rfl⟩), hts _ wd_393, hts _ wd_394⟩ (mo_preV hok he9 rfl [.int x1]) rfl rfl hl.1 rfl (lv_room (Nat.le_of_ble_eq_true rfl)) d_H_events_39 ⟨Nat.zero_le _, Nat.zero_le _⟩) (fun r8 M7 H locs hP hok => ?_)
        refine lv_if_eq (tgt := 59) hx hb d_H_events_42 (by decide) (fun hc => ?_) (fun hc => ?_)
        · replace hP := hP.1 hc
          refine lv_iconst (v := (-1)) hx hb d_H_events_59 (by decide) ?_
          exact mo_iret hx hb hr hlocks hok hP d_H_events_60
        · replace hP := hP.2 hc
          refine lv_aload_n hx hb d_H_events_45 rfl (lv_at hl 0 rfl) ?_
          refine mr_gr (C := "PurseHouse") (T := F_0) (N := 5) (ref := "PurseHouse") hx hb hts hown hok hP ui_0 rfl (by decide) (hts _ wd_141) (fun _ h => h) d_H_events_46 (fun v9 hP => ?_)
          refine lv_iload_n hx hb d_H_events_49 rfl (lv_at hl 2 rfl) ?_
          refine mr_ar hx hb hok hP 3 rfl rfl d_H_events_50 (fun v10 hP => ?_)
          refine mr_gr (C := "PurseHouse$Kiosk") (T := F_1) (N := 9) (ref := "PurseHouse$Kiosk") hx hb hts hown hok hP ui_1 rfl (by decide) (hts _ wd_119) (fun _ h => h) d_H_events_51 (fun v11 hP => ?_)
          refine lv_iload_n hx hb d_H_events_54 rfl (lv_at hl 1 rfl) ?_
          refine mr_ai hx hb hok hP 0 rfl d_H_events_55 (fun v12 hP => ?_)
          refine lv_goto (tgt := 60) hx hb d_H_events_56 (by decide) ?_
          exact mo_iret hx hb hr hlocks hok hP d_H_events_60
    · replace hP := hP.2 hc
      refine lv_aload_n hx hb d_H_events_14 rfl (lv_at hl 0 rfl) ?_
      refine mr_gr (C := "PurseHouse") (T := F_0) (N := 5) (ref := "PurseHouse") hx hb hts hown hok hP ui_0 rfl (by decide) (hts _ wd_141) (fun _ h => h) d_H_events_15 (fun v13 hP => ?_)
      refine lv_iload_n hx hb d_H_events_18 rfl (lv_at hl 2 rfl) ?_
      refine mr_ar hx hb hok hP 3 rfl rfl d_H_events_19 (fun v14 hP => ?_)
      refine mr_gi (C := "PurseHouse$Kiosk") (T := F_1) (N := 9) (ref := "PurseHouse$Kiosk") hx hb hts hown hok hP ui_1 rfl (by decide) (hts _ wd_109) (fun _ h => h) d_H_events_20 (fun v15 hP => ?_)
      exact mo_iret hx hb hr hlocks hok hP d_H_events_23
  · replace hP := hP.1 hc
    refine lv_iconst (v := (-1)) hx hb d_H_events_8 (by decide) ?_
    exact mo_iret hx hb hr hlocks hok hP d_H_events_9

