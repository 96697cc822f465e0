abbrev b_M_piece : ByteArray := prog_6_method_35_code
def y_M_piece : MethodName := ⟨"PurseHouseModel", "piece", "(IIII)J"⟩
def ws_M_piece : List Cond := .code y_M_piece b_M_piece 6 (Option.some Jvm.ClassFile.FieldType.long) :: lw_g
theorem d_M_piece_0 : decode b_M_piece 0 = .ok (.aload_n 0, 1) := by decide +kernel
theorem d_M_piece_1 : decode b_M_piece 1 = .ok (.iload_n 1, 1) := by decide +kernel
theorem d_M_piece_2 : decode b_M_piece 2 = .ok (.invokevirtual 146, 3) := by decide +kernel
theorem d_M_piece_5 : decode b_M_piece 5 = .ok (.ifCond .eq 31, 3) := by decide +kernel
theorem d_M_piece_8 : decode b_M_piece 8 = .ok (.aload_n 0, 1) := by decide +kernel
theorem d_M_piece_9 : decode b_M_piece 9 = .ok (.iload_n 2, 1) := by decide +kernel
theorem d_M_piece_10 : decode b_M_piece 10 = .ok (.invokevirtual 86, 3) := by decide +kernel
theorem d_M_piece_13 : decode b_M_piece 13 = .ok (.ifCond .eq 23, 3) := by decide +kernel
theorem d_M_piece_16 : decode b_M_piece 16 = .ok (.iload_n 3, 1) := by decide +kernel
theorem d_M_piece_17 : decode b_M_piece 17 = .ok (.invokestatic 90, 3) := by decide +kernel
theorem d_M_piece_20 : decode b_M_piece 20 = .ok (.ifCond .eq 16, 3) := by decide +kernel
theorem d_M_piece_23 : decode b_M_piece 23 = .ok (.aload_n 0, 1) := by decide +kernel
theorem d_M_piece_24 : decode b_M_piece 24 = .ok (.iload_n 1, 1) := by decide +kernel
theorem d_M_piece_25 : decode b_M_piece 25 = .ok (.iload_n 2, 1) := by decide +kernel
theorem d_M_piece_26 : decode b_M_piece 26 = .ok (.invokevirtual 122, 3) := by decide +kernel
theorem d_M_piece_29 : decode b_M_piece 29 = .ok (.ifCond .le 7, 3) := by decide +kernel
theorem d_M_piece_32 : decode b_M_piece 32 = .ok (.iconst 1, 1) := by decide +kernel
theorem d_M_piece_33 : decode b_M_piece 33 = .ok (.goto 4, 3) := by decide +kernel
theorem d_M_piece_36 : decode b_M_piece 36 = .ok (.iconst 0, 1) := by decide +kernel
theorem d_M_piece_37 : decode b_M_piece 37 = .ok (.istore 5, 2) := by decide +kernel
theorem d_M_piece_39 : decode b_M_piece 39 = .ok (.aload_n 0, 1) := by decide +kernel
theorem d_M_piece_40 : decode b_M_piece 40 = .ok (.iload 5, 2) := by decide +kernel
theorem d_M_piece_42 : decode b_M_piece 42 = .ok (.ifCond .ne 7, 3) := by decide +kernel
theorem d_M_piece_45 : decode b_M_piece 45 = .ok (.iconst 1, 1) := by decide +kernel
theorem d_M_piece_46 : decode b_M_piece 46 = .ok (.goto 19, 3) := by decide +kernel
theorem d_M_piece_49 : decode b_M_piece 49 = .ok (.iload 4, 2) := by decide +kernel
theorem d_M_piece_51 : decode b_M_piece 51 = .ok (.ifCond .lt 9, 3) := by decide +kernel
theorem d_M_piece_54 : decode b_M_piece 54 = .ok (.iload 4, 2) := by decide +kernel
theorem d_M_piece_56 : decode b_M_piece 56 = .ok (.iconst 1, 1) := by decide +kernel
theorem d_M_piece_57 : decode b_M_piece 57 = .ok (.if_icmp .le 7, 3) := by decide +kernel
theorem d_M_piece_60 : decode b_M_piece 60 = .ok (.iconst 2, 1) := by decide +kernel
theorem d_M_piece_61 : decode b_M_piece 61 = .ok (.goto 4, 3) := by decide +kernel
theorem d_M_piece_64 : decode b_M_piece 64 = .ok (.iconst 0, 1) := by decide +kernel
theorem d_M_piece_65 : decode b_M_piece 65 = .ok (.putfield 76, 3) := by decide +kernel
theorem d_M_piece_68 : decode b_M_piece 68 = .ok (.aload_n 0, 1) := by decide +kernel
theorem d_M_piece_69 : decode b_M_piece 69 = .ok (.getfield 76, 3) := by decide +kernel
theorem d_M_piece_72 : decode b_M_piece 72 = .ok (.ifCond .le 5, 3) := by decide +kernel
theorem d_M_piece_75 : decode b_M_piece 75 = .ok (.lconst 0, 1) := by decide +kernel
theorem d_M_piece_76 : decode b_M_piece 76 = .ok (.lreturn, 1) := by decide +kernel
theorem d_M_piece_77 : decode b_M_piece 77 = .ok (.iload 4, 2) := by decide +kernel
theorem d_M_piece_79 : decode b_M_piece 79 = .ok (.ifCond .ne 18, 3) := by decide +kernel
theorem d_M_piece_82 : decode b_M_piece 82 = .ok (.aload_n 0, 1) := by decide +kernel
theorem d_M_piece_83 : decode b_M_piece 83 = .ok (.iload_n 2, 1) := by decide +kernel
theorem d_M_piece_84 : decode b_M_piece 84 = .ok (.iload_n 3, 1) := by decide +kernel
theorem d_M_piece_85 : decode b_M_piece 85 = .ok (.aload_n 0, 1) := by decide +kernel
theorem d_M_piece_86 : decode b_M_piece 86 = .ok (.iload_n 1, 1) := by decide +kernel
theorem d_M_piece_87 : decode b_M_piece 87 = .ok (.iload_n 2, 1) := by decide +kernel
theorem d_M_piece_88 : decode b_M_piece 88 = .ok (.invokevirtual 122, 3) := by decide +kernel
theorem d_M_piece_91 : decode b_M_piece 91 = .ok (.invokevirtual 107, 3) := by decide +kernel
theorem d_M_piece_94 : decode b_M_piece 94 = .ok (.goto 15, 3) := by decide +kernel
theorem d_M_piece_97 : decode b_M_piece 97 = .ok (.aload_n 0, 1) := by decide +kernel
theorem d_M_piece_98 : decode b_M_piece 98 = .ok (.iload_n 2, 1) := by decide +kernel
theorem d_M_piece_99 : decode b_M_piece 99 = .ok (.iload_n 3, 1) := by decide +kernel
theorem d_M_piece_100 : decode b_M_piece 100 = .ok (.aload_n 0, 1) := by decide +kernel
theorem d_M_piece_101 : decode b_M_piece 101 = .ok (.iload_n 1, 1) := by decide +kernel
theorem d_M_piece_102 : decode b_M_piece 102 = .ok (.iload_n 2, 1) := by decide +kernel
theorem d_M_piece_103 : decode b_M_piece 103 = .ok (.invokevirtual 122, 3) := by decide +kernel
theorem d_M_piece_106 : decode b_M_piece 106 = .ok (.invokevirtual 143, 3) := by decide +kernel
theorem d_M_piece_109 : decode b_M_piece 109 = .ok (.lreturn, 1) := by decide +kernel
def pp_M_piece_b65 (g : Nat → ClassId) (e0 : Nat → Nat) (K : Int64 → mo_M → Prop) (M : mo_M) (x0 : Nat) (x1 : Int32) (x2 : Int32) (x3 : Int32) (x4 : Int32) (s0 : Int32) (s1 : Nat) : Prop := mp_pt M s1 4 0 (.int s0) (fun M9 => mp_gi M9 x0 4 0 (fun v10 => ((v10 ≤ 0 → ((x4 = 0 → (mp_is M9 x0 4 ∧ pp_M_recording g e0 (fun r16 M15 => (mp_is M15 x0 4 ∧ pp_M_stockAt g e0 (fun r18 M17 => K r18 M17) M15 x0 x2 x3 r16)) M9 x0 x1 x2)) ∧ (¬ (x4 = 0) → (mp_is M9 x0 4 ∧ pp_M_recording g e0 (fun r12 M11 => (mp_is M11 x0 4 ∧ pp_M_tillAt g e0 (fun r14 M13 => K r14 M13) M11 x0 x2 x3 r12)) M9 x0 x1 x2)))) ∧ (¬ (v10 ≤ 0) → K ((0 : Int64)) M9))))
def pp_M_piece_b60 (g : Nat → ClassId) (e0 : Nat → Nat) (K : Int64 → mo_M → Prop) (M : mo_M) (x0 : Nat) (x1 : Int32) (x2 : Int32) (x3 : Int32) (x4 : Int32) (s0 : Nat) : Prop := pp_M_piece_b65 g e0 K M x0 x1 x2 x3 x4 ((2 : Int32)) s0
def pp_M_piece_b37 (g : Nat → ClassId) (e0 : Nat → Nat) (K : Int64 → mo_M → Prop) (M : mo_M) (x0 : Nat) (x1 : Int32) (x2 : Int32) (x3 : Int32) (x4 : Int32) (s0 : Int32) : Prop := ((s0 = 0 → pp_M_piece_b65 g e0 K M x0 x1 x2 x3 x4 ((1 : Int32)) x0) ∧ (¬ (s0 = 0) → ((x4 < 0 → pp_M_piece_b60 g e0 K M x0 x1 x2 x3 x4 x0) ∧ (¬ (x4 < 0) → ((x4 ≤ ((1 : Int32)) → pp_M_piece_b65 g e0 K M x0 x1 x2 x3 x4 ((0 : Int32)) x0) ∧ (¬ (x4 ≤ ((1 : Int32))) → pp_M_piece_b60 g e0 K M x0 x1 x2 x3 x4 x0))))))
def pp_M_piece_b36 (g : Nat → ClassId) (e0 : Nat → Nat) (K : Int64 → mo_M → Prop) (M : mo_M) (x0 : Nat) (x1 : Int32) (x2 : Int32) (x3 : Int32) (x4 : Int32) : Prop := pp_M_piece_b37 g e0 K M x0 x1 x2 x3 x4 ((0 : Int32))
def pp_M_piece (g : Nat → ClassId) (e0 : Nat → Nat) (K : Int64 → mo_M → Prop) (M : mo_M) (x0 : Nat) (x1 : Int32) (x2 : Int32) (x3 : Int32) (x4 : Int32) : Prop := (mp_is M x0 4 ∧ pp_M_isNumber g e0 (fun r2 M1 => ((r2 = 0 → pp_M_piece_b36 g e0 K M1 x0 x1 x2 x3 x4) ∧ (¬ (r2 = 0) → (mp_is M1 x0 4 ∧ pp_M_isKiosk g e0 (fun r4 M3 => ((r4 = 0 → pp_M_piece_b36 g e0 K M3 x0 x1 x2 x3 x4) ∧ (¬ (r4 = 0) → pp_M_isCurrency g e0 (fun r6 M5 => ((r6 = 0 → pp_M_piece_b36 g e0 K M5 x0 x1 x2 x3 x4) ∧ (¬ (r6 = 0) → (mp_is M5 x0 4 ∧ pp_M_recording g e0 (fun r8 M7 => ((r8 ≤ 0 → pp_M_piece_b36 g e0 K M7 x0 x1 x2 x3 x4) ∧ (¬ (r8 ≤ 0) → pp_M_piece_b37 g e0 K M7 x0 x1 x2 x3 x4 ((1 : Int32))))) M5 x0 x1 x2)))) M3 x3))) M1 x0 x2)))) M x0 x1)
set_option maxHeartbeats 4000000 in
set_option maxRecDepth 100000 in
theorem cc_M_piece (l : Launch) (L0 : Nat) (D : va_G) {g : Nat → ClassId} {e0 : Nat → Nat} {K : Int64 → mo_M → Prop} {M : mo_M} {x0 : Nat} {x1 : Int32} {x2 : Int32} {x3 : Int32} {x4 : Int32} (hP : pp_M_piece g e0 K M x0 x1 x2 x3 x4) : Met l y_M_piece ws_M_piece (mo_R 1 0 0 26) (va_Pc [.ref x0, .int x1, .int x2, .int x3, .int x4] (fun U => mo_B L0 e0 D vwCl (mo_T g) M U)) (mo_Ql L0 e0 D vwCl (mo_T g) K) 0 0 (fun q => L0 ≤ q) := by
  refine Met.ofW (cc := b_M_piece) (maxL := 6) (ret := (Option.some Jvm.ClassFile.FieldType.long)) (by decide +kernel) rfl ?_
  intro p e s m args below meth c s₁ B hml hv
  obtain ⟨hv1, hB0⟩ := hv
  have hx := B.exec
  have hb := B.bytes
  have hr := B.returns
  have hts : ∀ w ∈ lw_g, w.before args s = true := fun w hw => atoms_spec (ws := ws_M_piece) B.pre w (List.mem_cons_of_mem _ hw)
  have hown : s.vm.findClass "PurseHouseModel" = some m.cls := findClass_of_methodNamed B.named
  have hlocks := B.notSynchronized
  have w_65 : ∀ (M : mo_M) (x0 : Nat) (x1 : Int32) (x2 : Int32) (x3 : Int32) (x4 : Int32) (s0 : Int32) (s1 : Nat) (H : Heap) (locs : List Loc) (ls : Array Slot), pp_M_piece_b65 g e0 K M x0 x1 x2 x3 x4 s0 s1 → mo_ok L0 e0 D vwCl (mo_T g) s M H locs → lv_has ls 6 [(0, .ref x0), (1, .int x1), (2, .int x2), (3, .int x3), (4, .int x4)] → W p l e (headSpec ws_M_piece (mo_R 1 0 0 26)).room s m args below meth c H locs 0 0 (mo_Z below (mo_Ql L0 e0 D vwCl (mo_T g) K) args s 0 0 L0) (F0 m 65 ls [.int s0, .ref s1]) := by
    intro M x0 x1 x2 x3 x4 s0 s1 H locs ls hP hok hl
    unfold pp_M_piece_b65 at hP
    refine mr_pt (C := "PurseHouseModel") (T := F_4) (N := 27) (ref := "PurseHouseModel") (ty := .int) hx hb hts hown hok hP ui_4 ty_4 th_4 tn_4 rfl (by decide) (hts _ wd_610) (fun _ h => h) rfl (by decide +kernel) rfl rfl d_M_piece_65 (fun M9 H locs hP hok => ?_)
    refine lv_aload_n hx hb d_M_piece_68 rfl (lv_at hl 0 rfl) ?_
    refine mr_gi (C := "PurseHouseModel") (T := F_4) (N := 27) (ref := "PurseHouseModel") hx hb hts hown hok hP ui_4 rfl (by decide) (hts _ wd_610) (fun _ h => h) d_M_piece_69 (fun v10 hP => ?_)
    refine lv_if_le (tgt := 77) hx hb d_M_piece_72 (by decide) (fun hc => ?_) (fun hc => ?_)
    · replace hP := hP.1 hc
      refine lv_iload hx hb d_M_piece_77 (lv_at hl 4 rfl) ?_
      refine lv_if_ne (tgt := 97) hx hb d_M_piece_79 (by decide) (fun hc => ?_) (fun hc => ?_)
      · replace hP := hP.2 hc
        refine lv_aload_n hx hb d_M_piece_97 rfl (lv_at hl 0 rfl) ?_
        refine lv_iload_n hx hb d_M_piece_98 rfl (lv_at hl 2 rfl) ?_
        refine lv_iload_n hx hb d_M_piece_99 rfl (lv_at hl 3 rfl) ?_
        refine lv_aload_n hx hb d_M_piece_100 rfl (lv_at hl 0 rfl) ?_
        refine lv_iload_n hx hb d_M_piece_101 rfl (lv_at hl 1 rfl) ?_
        refine lv_iload_n hx hb d_M_piece_102 rfl (lv_at hl 2 rfl) ?_
        obtain ⟨⟨fs9, he9⟩, hP⟩ := hP
        refine mo_calli hok (va_runV (As := [.int x1, .int x2]) (rest := [.int x3, .int x2, .ref x0]) ⟨hx, hb, hml, hown, hts⟩ (cc_M_recording l L0 D hP) ⟨(callB_of 2 hts (lw_gi wd_772) rfl rfl rfl (hts _ wd_39) (hts _ wd_769) (by decide +kernel) ⟨Nat.le_of_ble_eq_true rfl, Nat.le_of_ble_eq_true rfl⟩), hts _ wd_771, hts _ wd_24⟩ (mo_preV hok he9 rfl [.int x1, .int x2]) rfl rfl hl.1 rfl (lv_room (Nat.le_of_ble_eq_true rfl)) d_M_piece_103 ⟨Nat.zero_le _, Nat.zero_le _⟩) (fun r12 M11 H locs hP hok => ?_)
        obtain ⟨⟨fs9, he9⟩, hP⟩ := hP
        refine mo_calll hok (va_runV (As := [.int x2, .int x3, .int r12]) (rest := []) ⟨hx, hb, hml, hown, hts⟩ (cc_M_tillAt l L0 D hP) ⟨(callB_of 3 hts (lw_gi wd_792) rfl rfl rfl (hts _ wd_39) (hts _ wd_789) (by decide +kernel) ⟨Nat.le_of_ble_eq_true rfl, Nat.le_of_ble_eq_true rfl⟩), hts _ wd_791, hts _ wd_26⟩ (mo_preV hok he9 rfl [.int x2, .int x3, .int r12]) rfl rfl hl.1 rfl (lv_room (Nat.le_of_ble_eq_true rfl)) d_M_piece_106 ⟨Nat.zero_le _, Nat.zero_le _⟩) (fun r14 M13 H locs hP hok => ?_)
        exact mo_lret hx hb hr hlocks hok hP d_M_piece_109
      · replace hP := hP.1 hc
        refine lv_aload_n hx hb d_M_piece_82 rfl (lv_at hl 0 rfl) ?_
        refine lv_iload_n hx hb d_M_piece_83 rfl (lv_at hl 2 rfl) ?_
        refine lv_iload_n hx hb d_M_piece_84 rfl (lv_at hl 3 rfl) ?_
        refine lv_aload_n hx hb d_M_piece_85 rfl (lv_at hl 0 rfl) ?_
        refine lv_iload_n hx hb d_M_piece_86 rfl (lv_at hl 1 rfl) ?_
        refine lv_iload_n hx hb d_M_piece_87 rfl (lv_at hl 2 rfl) ?_
        obtain ⟨⟨fs9, he9⟩, hP⟩ := hP
        refine mo_calli hok (va_runV (As := [.int x1, .int x2]) (rest := [.int x3, .int x2, .ref x0]) ⟨hx, hb, hml, hown, hts⟩ (cc_M_recording l L0 D hP) ⟨(callB_of 2 hts (lw_gi wd_772) rfl rfl rfl (hts _ wd_39) (hts _ wd_769) (by decide +kernel) ⟨Nat.le_of_ble_eq_true rfl, Nat.le_of_ble_eq_true rfl⟩), hts _ wd_771, hts _ wd_24⟩ (mo_preV hok he9 rfl [.int x1, .int x2]) rfl rfl hl.1 rfl (lv_room (Nat.le_of_ble_eq_true rfl)) d_M_piece_88 ⟨Nat.zero_le _, Nat.zero_le _⟩) (fun r16 M15 H locs hP hok => ?_)
        obtain ⟨⟨fs9, he9⟩, hP⟩ := hP
        refine mo_calll hok (va_runV (As := [.int x2, .int x3, .int r16]) (rest := []) ⟨hx, hb, hml, hown, hts⟩ (cc_M_stockAt l L0 D hP) ⟨(callB_of 3 hts (lw_gi wd_736) rfl rfl rfl (hts _ wd_39) (hts _ wd_733) (by decide +kernel) ⟨Nat.le_of_ble_eq_true rfl, Nat.le_of_ble_eq_true rfl⟩), hts _ wd_735, hts _ wd_18⟩ (mo_preV hok he9 rfl [.int x2, .int x3, .int r16]) rfl rfl hl.1 rfl (lv_room (Nat.le_of_ble_eq_true rfl)) d_M_piece_91 ⟨Nat.zero_le _, Nat.zero_le _⟩) (fun r18 M17 H locs hP hok => ?_)
        refine lv_goto (tgt := 109) hx hb d_M_piece_94 (by decide) ?_
        exact mo_lret hx hb hr hlocks hok hP d_M_piece_109
    · replace hP := hP.2 hc
      refine lv_lconst (v := 0) hx hb d_M_piece_75 (by decide) ?_
      exact mo_lret hx hb hr hlocks hok hP d_M_piece_76
  have w_60 : ∀ (M : mo_M) (x0 : Nat) (x1 : Int32) (x2 : Int32) (x3 : Int32) (x4 : Int32) (s0 : Nat) (H : Heap) (locs : List Loc) (ls : Array Slot), pp_M_piece_b60 g e0 K M x0 x1 x2 x3 x4 s0 → mo_ok L0 e0 D vwCl (mo_T g) s M H locs → lv_has ls 6 [(0, .ref x0), (1, .int x1), (2, .int x2), (3, .int x3), (4, .int x4)] → W p l e (headSpec ws_M_piece (mo_R 1 0 0 26)).room s m args below meth c H locs 0 0 (mo_Z below (mo_Ql L0 e0 D vwCl (mo_T g) K) args s 0 0 L0) (F0 m 60 ls [.ref s0]) := by
    intro M x0 x1 x2 x3 x4 s0 H locs ls hP hok hl
    unfold pp_M_piece_b60 at hP
    refine lv_iconst (v := 2) hx hb d_M_piece_60 (by decide) ?_
    refine lv_goto (tgt := 65) hx hb d_M_piece_61 (by decide) ?_
    exact w_65  _ _ _ _ _ _ _ _ _ _ _ hP hok (lv_sub hl [0, 1, 2, 3, 4] rfl)
  have w_37 : ∀ (M : mo_M) (x0 : Nat) (x1 : Int32) (x2 : Int32) (x3 : Int32) (x4 : Int32) (s0 : Int32) (H : Heap) (locs : List Loc) (ls : Array Slot), pp_M_piece_b37 g e0 K M x0 x1 x2 x3 x4 s0 → mo_ok L0 e0 D vwCl (mo_T g) s M H locs → lv_has ls 6 [(0, .ref x0), (1, .int x1), (2, .int x2), (3, .int x3), (4, .int x4)] → W p l e (headSpec ws_M_piece (mo_R 1 0 0 26)).room s m args below meth c H locs 0 0 (mo_Z below (mo_Ql L0 e0 D vwCl (mo_T g) K) args s 0 0 L0) (F0 m 37 ls [.int s0]) := by
    intro M x0 x1 x2 x3 x4 s0 H locs ls hP hok hl
    unfold pp_M_piece_b37 at hP
    refine lv_istore (lv' := [(5, .int s0), (0, .ref x0), (1, .int x1), (2, .int x2), (3, .int x3), (4, .int x4)]) hx hb d_M_piece_37 hl (by decide) rfl (fun ls hl => ?_)
    refine lv_aload_n hx hb d_M_piece_39 rfl (lv_at hl 1 rfl) ?_
    refine lv_iload hx hb d_M_piece_40 (lv_at hl 0 rfl) ?_
    refine lv_if_ne (tgt := 49) hx hb d_M_piece_42 (by decide) (fun hc => ?_) (fun hc => ?_)
    · replace hP := hP.2 hc
      refine lv_iload hx hb d_M_piece_49 (lv_at hl 5 rfl) ?_
      refine lv_if_lt (tgt := 60) hx hb d_M_piece_51 (by decide) (fun hc => ?_) (fun hc => ?_)
      · replace hP := hP.1 hc
        exact w_60  _ _ _ _ _ _ _ _ _ _ hP hok (lv_sub hl [1, 2, 3, 4, 5] rfl)
      · replace hP := hP.2 hc
        refine lv_iload hx hb d_M_piece_54 (lv_at hl 5 rfl) ?_
        refine lv_iconst (v := 1) hx hb d_M_piece_56 (by decide) ?_
        refine lv_icmp_le (tgt := 64) hx hb d_M_piece_57 (by decide) (fun hc => ?_) (fun hc => ?_)
        · replace hP := hP.1 hc
          refine lv_iconst (v := 0) hx hb d_M_piece_64 (by decide) ?_
          exact w_65  _ _ _ _ _ _ _ _ _ _ _ hP hok (lv_sub hl [1, 2, 3, 4, 5] rfl)
        · replace hP := hP.2 hc
          exact w_60  _ _ _ _ _ _ _ _ _ _ hP hok (lv_sub hl [1, 2, 3, 4, 5] rfl)
    · replace hP := hP.1 hc
      refine lv_iconst (v := 1) hx hb d_M_piece_45 (by decide) ?_
      refine lv_goto (tgt := 65) hx hb d_M_piece_46 (by decide) ?_
      exact w_65  _ _ _ _ _ _ _ _ _ _ _ hP hok (lv_sub hl [1, 2, 3, 4, 5] rfl)
  have w_36 : ∀ (M : mo_M) (x0 : Nat) (x1 : Int32) (x2 : Int32) (x3 : Int32) (x4 : Int32) (H : Heap) (locs : List Loc) (ls : Array Slot), pp_M_piece_b36 g e0 K M x0 x1 x2 x3 x4 → mo_ok L0 e0 D vwCl (mo_T g) s M H locs → lv_has ls 6 [(0, .ref x0), (1, .int x1), (2, .int x2), (3, .int x3), (4, .int x4)] → W p l e (headSpec ws_M_piece (mo_R 1 0 0 26)).room s m args below meth c H locs 0 0 (mo_Z below (mo_Ql L0 e0 D vwCl (mo_T g) K) args s 0 0 L0) (F0 m 36 ls []) := by
    intro M x0 x1 x2 x3 x4 H locs ls hP hok hl
    unfold pp_M_piece_b36 at hP
    refine lv_iconst (v := 0) hx hb d_M_piece_36 (by decide) ?_
    exact w_37  _ _ _ _ _ _ _ _ _ _ hP hok (lv_sub hl [0, 1, 2, 3, 4] rfl)
  have hok : mo_ok L0 e0 D vwCl (mo_T g) s M s.heap [] := ⟨hB0.1, hB0.2.1, hB0.2.2, va_S.rf⟩
  have hl := lv_entry ([.ref x0, .int x1, .int x2, .int x3, .int x4]) (n := 6) (Nat.le_of_ble_eq_true rfl)
  rw [hv1, lg_entry_eq]
  rw [← hv1]
  generalize (lg_sl [.ref x0, .int x1, .int x2, .int x3, .int x4] ++ List.replicate (6 - (lg_sl [.ref x0, .int x1, .int x2, .int x3, .int x4]).length) Slot.unset).toArray = ls at hl ⊢
  have hl : lv_has ls 6 [(0, .ref x0), (1, .int x1), (2, .int x2), (3, .int x3), (4, .int x4)] := hl
  unfold pp_M_piece at hP
  refine lv_aload_n hx hb d_M_piece_0 rfl (lv_at hl 0 rfl) ?_
  refine lv_iload_n hx hb d_M_piece_1 rfl (lv_at hl 1 rfl) ?_
  obtain ⟨⟨fs9, he9⟩, hP⟩ := hP
  refine mo_calli hok (va_runV (As := [.int x1]) (rest := []) ⟨hx, hb, hml, hown, hts⟩ (cc_M_isNumber l L0 D hP) ⟨(callB_of 1 hts (lw_gi wd_808) rfl rfl rfl (hts _ wd_39) (hts _ wd_805) (by decide +kernel) ⟨Nat.le_of_ble_eq_true rfl, Nat.le_of_ble_eq_true rfl⟩), hts _ wd_807, hts _ wd_27⟩ (mo_preV hok he9 rfl [.int x1]) rfl rfl hl.1 rfl (lv_room (Nat.le_of_ble_eq_true rfl)) d_M_piece_2 ⟨Nat.zero_le _, Nat.zero_le _⟩) (fun r2 M1 H locs hP hok => ?_)
  refine lv_if_eq (tgt := 36) hx hb d_M_piece_5 (by decide) (fun hc => ?_) (fun hc => ?_)
  · replace hP := hP.1 hc
    exact w_36  _ _ _ _ _ _ _ _ _ hP hok (lv_sub hl [0, 1, 2, 3, 4] rfl)
  · replace hP := hP.2 hc
    refine lv_aload_n hx hb d_M_piece_8 rfl (lv_at hl 0 rfl) ?_
    refine lv_iload_n hx hb d_M_piece_9 rfl (lv_at hl 2 rfl) ?_
    obtain ⟨⟨fs9, he9⟩, hP⟩ := hP
    refine mo_calli hok (va_runV (As := [.int x2]) (rest := []) ⟨hx, hb, hml, hown, hts⟩ (cc_M_isKiosk l L0 D hP) ⟨(callB_of 1 hts (lw_gi wd_704) rfl rfl rfl (hts _ wd_39) (hts _ wd_701) (by decide +kernel) ⟨Nat.le_of_ble_eq_true rfl, Nat.le_of_ble_eq_true rfl⟩), hts _ wd_703, hts _ wd_15⟩ (mo_preV hok he9 rfl [.int x2]) rfl rfl hl.1 rfl (lv_room (Nat.le_of_ble_eq_true rfl)) d_M_piece_10 ⟨Nat.zero_le _, Nat.zero_le _⟩) (fun r4 M3 H locs hP hok => ?_)
    refine lv_if_eq (tgt := 36) hx hb d_M_piece_13 (by decide) (fun hc => ?_) (fun hc => ?_)
    · replace hP := hP.1 hc
      exact w_36  _ _ _ _ _ _ _ _ _ hP hok (lv_sub hl [0, 1, 2, 3, 4] rfl)
    · replace hP := hP.2 hc
      refine lv_iload_n hx hb d_M_piece_16 rfl (lv_at hl 3 rfl) ?_
      refine mo_calli hok (va_runS (As := [.int x3]) (rest := []) ⟨hx, hb, hml, hown, hts⟩ (cc_M_isCurrency l L0 D hP) ⟨(callB_of 1 hts (lw_gi wd_711) rfl rfl rfl (hts _ wd_39) (hts _ wd_709) (by decide +kernel) ⟨Nat.le_of_ble_eq_true rfl, Nat.le_of_ble_eq_true rfl⟩), hts _ wd_710⟩ (mo_preS hok [.int x3]) rfl rfl hl.1 rfl (lv_room (Nat.le_of_ble_eq_true rfl)) d_M_piece_17 ⟨Nat.zero_le _, Nat.zero_le _⟩) (fun r6 M5 H locs hP hok => ?_)
      refine lv_if_eq (tgt := 36) hx hb d_M_piece_20 (by decide) (fun hc => ?_) (fun hc => ?_)
      · replace hP := hP.1 hc
        exact w_36  _ _ _ _ _ _ _ _ _ hP hok (lv_sub hl [0, 1, 2, 3, 4] rfl)
      · replace hP := hP.2 hc
        refine lv_aload_n hx hb d_M_piece_23 rfl (lv_at hl 0 rfl) ?_
        refine lv_iload_n hx hb d_M_piece_24 rfl (lv_at hl 1 rfl) ?_
        refine lv_iload_n hx hb d_M_piece_25 rfl (lv_at hl 2 rfl) ?_
        obtain ⟨⟨fs9, he9⟩, hP⟩ := hP
        refine mo_calli hok (va_runV (As := [.int x1, .int x2]) (rest := []) ⟨hx, hb, hml, hown, hts⟩ (cc_M_recording l L0 D hP) ⟨(callB_of 2 hts (lw_gi wd_772) rfl rfl rfl (hts _ wd_39) (hts _ wd_769) (by decide +kernel) ⟨Nat.le_of_ble_eq_true rfl, Nat.le_of_ble_eq_true rfl⟩), hts _ wd_771, hts _ wd_24⟩ (mo_preV hok he9 rfl [.int x1, .int x2]) rfl rfl hl.1 rfl (lv_room (Nat.le_of_ble_eq_true rfl)) d_M_piece_26 ⟨Nat.zero_le _, Nat.zero_le _⟩) (fun r8 M7 H locs hP hok => ?_)
        refine lv_if_le (tgt := 36) hx hb d_M_piece_29 (by decide) (fun hc => ?_) (fun hc => ?_)
        · replace hP := hP.1 hc
          exact w_36  _ _ _ _ _ _ _ _ _ hP hok (lv_sub hl [0, 1, 2, 3, 4] rfl)
        · replace hP := hP.2 hc
          refine lv_iconst (v := 1) hx hb d_M_piece_32 (by decide) ?_
          refine lv_goto (tgt := 37) hx hb d_M_piece_33 (by decide) ?_
          exact w_37  _ _ _ _ _ _ _ _ _ _ hP hok (lv_sub hl [0, 1, 2, 3, 4] rfl)

abbrev b_M_roadOf : ByteArray := prog_6_method_36_code
def y_M_roadOf : MethodName := ⟨"PurseHouseModel", "roadOf", "(III)J"⟩
def ws_M_roadOf : List Cond := .code y_M_roadOf b_M_roadOf 10 (Option.some Jvm.ClassFile.FieldType.long) :: lw_g
theorem d_M_roadOf_0 : decode b_M_roadOf 0 = .ok (.aload_n 0, 1) := by decide +kernel
theorem d_M_roadOf_1 : decode b_M_roadOf 1 = .ok (.iload_n 1, 1) := by decide +kernel
theorem d_M_roadOf_2 : decode b_M_roadOf 2 = .ok (.aload_n 0, 1) := by decide +kernel
theorem d_M_roadOf_3 : decode b_M_roadOf 3 = .ok (.getfield 13, 3) := by decide +kernel
theorem d_M_roadOf_6 : decode b_M_roadOf 6 = .ok (.iload_n 2, 1) := by decide +kernel
theorem d_M_roadOf_7 : decode b_M_roadOf 7 = .ok (.iaload, 1) := by decide +kernel
theorem d_M_roadOf_8 : decode b_M_roadOf 8 = .ok (.invokevirtual 122, 3) := by decide +kernel
theorem d_M_roadOf_11 : decode b_M_roadOf 11 = .ok (.istore 4, 2) := by decide +kernel
theorem d_M_roadOf_13 : decode b_M_roadOf 13 = .ok (.aload_n 0, 1) := by decide +kernel
theorem d_M_roadOf_14 : decode b_M_roadOf 14 = .ok (.getfield 16, 3) := by decide +kernel
theorem d_M_roadOf_17 : decode b_M_roadOf 17 = .ok (.iload_n 2, 1) := by decide +kernel
theorem d_M_roadOf_18 : decode b_M_roadOf 18 = .ok (.baload, 1) := by decide +kernel
theorem d_M_roadOf_19 : decode b_M_roadOf 19 = .ok (.ifCond .eq 12, 3) := by decide +kernel
theorem d_M_roadOf_22 : decode b_M_roadOf 22 = .ok (.aload_n 0, 1) := by decide +kernel
theorem d_M_roadOf_23 : decode b_M_roadOf 23 = .ok (.iload_n 1, 1) := by decide +kernel
theorem d_M_roadOf_24 : decode b_M_roadOf 24 = .ok (.iload_n 2, 1) := by decide +kernel
theorem d_M_roadOf_25 : decode b_M_roadOf 25 = .ok (.invokevirtual 149, 3) := by decide +kernel
theorem d_M_roadOf_28 : decode b_M_roadOf 28 = .ok (.goto 4, 3) := by decide +kernel
theorem d_M_roadOf_31 : decode b_M_roadOf 31 = .ok (.iconst 0, 1) := by decide +kernel
theorem d_M_roadOf_32 : decode b_M_roadOf 32 = .ok (.istore 5, 2) := by decide +kernel
theorem d_M_roadOf_34 : decode b_M_roadOf 34 = .ok (.lconst 0, 1) := by decide +kernel
theorem d_M_roadOf_35 : decode b_M_roadOf 35 = .ok (.lstore 6, 2) := by decide +kernel
theorem d_M_roadOf_37 : decode b_M_roadOf 37 = .ok (.iconst 0, 1) := by decide +kernel
theorem d_M_roadOf_38 : decode b_M_roadOf 38 = .ok (.istore 8, 2) := by decide +kernel
theorem d_M_roadOf_40 : decode b_M_roadOf 40 = .ok (.iload 8, 2) := by decide +kernel
theorem d_M_roadOf_42 : decode b_M_roadOf 42 = .ok (.aload_n 0, 1) := by decide +kernel
theorem d_M_roadOf_43 : decode b_M_roadOf 43 = .ok (.getfield 115, 3) := by decide +kernel
theorem d_M_roadOf_46 : decode b_M_roadOf 46 = .ok (.if_icmp .ge 135, 3) := by decide +kernel
theorem d_M_roadOf_49 : decode b_M_roadOf 49 = .ok (.iload 4, 2) := by decide +kernel
theorem d_M_roadOf_51 : decode b_M_roadOf 51 = .ok (.ifCond .le 130, 3) := by decide +kernel
theorem d_M_roadOf_54 : decode b_M_roadOf 54 = .ok (.aload_n 0, 1) := by decide +kernel
theorem d_M_roadOf_55 : decode b_M_roadOf 55 = .ok (.getfield 51, 3) := by decide +kernel
theorem d_M_roadOf_58 : decode b_M_roadOf 58 = .ok (.iload 8, 2) := by decide +kernel
theorem d_M_roadOf_60 : decode b_M_roadOf 60 = .ok (.iaload, 1) := by decide +kernel
theorem d_M_roadOf_61 : decode b_M_roadOf 61 = .ok (.iload_n 2, 1) := by decide +kernel
theorem d_M_roadOf_62 : decode b_M_roadOf 62 = .ok (.if_icmp .ne 113, 3) := by decide +kernel
theorem d_M_roadOf_65 : decode b_M_roadOf 65 = .ok (.aload_n 0, 1) := by decide +kernel
theorem d_M_roadOf_66 : decode b_M_roadOf 66 = .ok (.getfield 48, 3) := by decide +kernel
theorem d_M_roadOf_69 : decode b_M_roadOf 69 = .ok (.iload 8, 2) := by decide +kernel
theorem d_M_roadOf_71 : decode b_M_roadOf 71 = .ok (.iaload, 1) := by decide +kernel
theorem d_M_roadOf_72 : decode b_M_roadOf 72 = .ok (.iconst 1, 1) := by decide +kernel
theorem d_M_roadOf_73 : decode b_M_roadOf 73 = .ok (.if_icmp .ne 102, 3) := by decide +kernel
theorem d_M_roadOf_76 : decode b_M_roadOf 76 = .ok (.aload_n 0, 1) := by decide +kernel
theorem d_M_roadOf_77 : decode b_M_roadOf 77 = .ok (.getfield 54, 3) := by decide +kernel
theorem d_M_roadOf_80 : decode b_M_roadOf 80 = .ok (.iload 8, 2) := by decide +kernel
theorem d_M_roadOf_82 : decode b_M_roadOf 82 = .ok (.iaload, 1) := by decide +kernel
theorem d_M_roadOf_83 : decode b_M_roadOf 83 = .ok (.iload_n 3, 1) := by decide +kernel
theorem d_M_roadOf_84 : decode b_M_roadOf 84 = .ok (.if_icmp .ne 91, 3) := by decide +kernel
theorem d_M_roadOf_87 : decode b_M_roadOf 87 = .ok (.aload_n 0, 1) := by decide +kernel
theorem d_M_roadOf_88 : decode b_M_roadOf 88 = .ok (.getfield 66, 3) := by decide +kernel
theorem d_M_roadOf_91 : decode b_M_roadOf 91 = .ok (.iload 8, 2) := by decide +kernel
theorem d_M_roadOf_93 : decode b_M_roadOf 93 = .ok (.iaload, 1) := by decide +kernel
theorem d_M_roadOf_94 : decode b_M_roadOf 94 = .ok (.iload 4, 2) := by decide +kernel
theorem d_M_roadOf_96 : decode b_M_roadOf 96 = .ok (.if_icmp .ge 6, 3) := by decide +kernel
theorem d_M_roadOf_99 : decode b_M_roadOf 99 = .ok (.goto 76, 3) := by decide +kernel
theorem d_M_roadOf_102 : decode b_M_roadOf 102 = .ok (.aload_n 0, 1) := by decide +kernel
theorem d_M_roadOf_103 : decode b_M_roadOf 103 = .ok (.getfield 16, 3) := by decide +kernel
theorem d_M_roadOf_106 : decode b_M_roadOf 106 = .ok (.iload_n 2, 1) := by decide +kernel
theorem d_M_roadOf_107 : decode b_M_roadOf 107 = .ok (.baload, 1) := by decide +kernel
theorem d_M_roadOf_108 : decode b_M_roadOf 108 = .ok (.ifCond .eq 28, 3) := by decide +kernel
theorem d_M_roadOf_111 : decode b_M_roadOf 111 = .ok (.iload 5, 2) := by decide +kernel
theorem d_M_roadOf_113 : decode b_M_roadOf 113 = .ok (.ifCond .eq 15, 3) := by decide +kernel
theorem d_M_roadOf_116 : decode b_M_roadOf 116 = .ok (.aload_n 0, 1) := by decide +kernel
theorem d_M_roadOf_117 : decode b_M_roadOf 117 = .ok (.getfield 66, 3) := by decide +kernel
theorem d_M_roadOf_120 : decode b_M_roadOf 120 = .ok (.iload 8, 2) := by decide +kernel
theorem d_M_roadOf_122 : decode b_M_roadOf 122 = .ok (.iaload, 1) := by decide +kernel
theorem d_M_roadOf_123 : decode b_M_roadOf 123 = .ok (.iload 5, 2) := by decide +kernel
theorem d_M_roadOf_125 : decode b_M_roadOf 125 = .ok (.if_icmp .ge 7, 3) := by decide +kernel
theorem d_M_roadOf_128 : decode b_M_roadOf 128 = .ok (.iconst 1, 1) := by decide +kernel
theorem d_M_roadOf_129 : decode b_M_roadOf 129 = .ok (.goto 22, 3) := by decide +kernel
theorem d_M_roadOf_132 : decode b_M_roadOf 132 = .ok (.iconst 0, 1) := by decide +kernel
theorem d_M_roadOf_133 : decode b_M_roadOf 133 = .ok (.goto 18, 3) := by decide +kernel
theorem d_M_roadOf_136 : decode b_M_roadOf 136 = .ok (.aload_n 0, 1) := by decide +kernel
theorem d_M_roadOf_137 : decode b_M_roadOf 137 = .ok (.iload 8, 2) := by decide +kernel
theorem d_M_roadOf_139 : decode b_M_roadOf 139 = .ok (.iload_n 1, 1) := by decide +kernel
theorem d_M_roadOf_140 : decode b_M_roadOf 140 = .ok (.invokevirtual 140, 3) := by decide +kernel
theorem d_M_roadOf_143 : decode b_M_roadOf 143 = .ok (.ifCond .ne 7, 3) := by decide +kernel
theorem d_M_roadOf_146 : decode b_M_roadOf 146 = .ok (.iconst 1, 1) := by decide +kernel
theorem d_M_roadOf_147 : decode b_M_roadOf 147 = .ok (.goto 4, 3) := by decide +kernel
theorem d_M_roadOf_150 : decode b_M_roadOf 150 = .ok (.iconst 0, 1) := by decide +kernel
theorem d_M_roadOf_151 : decode b_M_roadOf 151 = .ok (.istore 9, 2) := by decide +kernel
theorem d_M_roadOf_153 : decode b_M_roadOf 153 = .ok (.lload 6, 2) := by decide +kernel
theorem d_M_roadOf_155 : decode b_M_roadOf 155 = .ok (.iload 9, 2) := by decide +kernel
theorem d_M_roadOf_157 : decode b_M_roadOf 157 = .ok (.ifCond .eq 14, 3) := by decide +kernel
theorem d_M_roadOf_160 : decode b_M_roadOf 160 = .ok (.aload_n 0, 1) := by decide +kernel
theorem d_M_roadOf_161 : decode b_M_roadOf 161 = .ok (.getfield 57, 3) := by decide +kernel
theorem d_M_roadOf_164 : decode b_M_roadOf 164 = .ok (.iload 8, 2) := by decide +kernel
theorem d_M_roadOf_166 : decode b_M_roadOf 166 = .ok (.iaload, 1) := by decide +kernel
theorem d_M_roadOf_167 : decode b_M_roadOf 167 = .ok (.i2l, 1) := by decide +kernel
theorem d_M_roadOf_168 : decode b_M_roadOf 168 = .ok (.goto 4, 3) := by decide +kernel
theorem d_M_roadOf_171 : decode b_M_roadOf 171 = .ok (.lconst 0, 1) := by decide +kernel
theorem d_M_roadOf_172 : decode b_M_roadOf 172 = .ok (.ladd, 1) := by decide +kernel
theorem d_M_roadOf_173 : decode b_M_roadOf 173 = .ok (.lstore 6, 2) := by decide +kernel
theorem d_M_roadOf_175 : decode b_M_roadOf 175 = .ok (.iinc 8 1, 3) := by decide +kernel
theorem d_M_roadOf_178 : decode b_M_roadOf 178 = .ok (.goto (-138), 3) := by decide +kernel
theorem d_M_roadOf_181 : decode b_M_roadOf 181 = .ok (.lload 6, 2) := by decide +kernel
theorem d_M_roadOf_183 : decode b_M_roadOf 183 = .ok (.lreturn, 1) := by decide +kernel
def pp_M_roadOf_b175 (g : Nat → ClassId) (e0 : Nat → Nat) (K : Int64 → mo_M → Prop) (B_40 : mo_M → Nat → Int32 → Int32 → Int32 → Int32 → Int32 → Int64 → Int32 → Prop) (M : mo_M) (x0 : Nat) (x1 : Int32) (x2 : Int32) (x3 : Int32) (x4 : Int32) (x5 : Int32) (x6 : Int64) (x8 : Int32) : Prop := B_40 M x0 x1 x2 x3 x4 x5 x6 (x8 + 1)
def pp_M_roadOf_b172 (g : Nat → ClassId) (e0 : Nat → Nat) (K : Int64 → mo_M → Prop) (B_40 : mo_M → Nat → Int32 → Int32 → Int32 → Int32 → Int32 → Int64 → Int32 → Prop) (M : mo_M) (x0 : Nat) (x1 : Int32) (x2 : Int32) (x3 : Int32) (x4 : Int32) (x5 : Int32) (x8 : Int32) (s0 : Int64) (s1 : Int64) : Prop := pp_M_roadOf_b175 g e0 K B_40 M x0 x1 x2 x3 x4 x5 ((s1 + s0)) x8
def pp_M_roadOf_b151 (g : Nat → ClassId) (e0 : Nat → Nat) (K : Int64 → mo_M → Prop) (B_40 : mo_M → Nat → Int32 → Int32 → Int32 → Int32 → Int32 → Int64 → Int32 → Prop) (M : mo_M) (x0 : Nat) (x1 : Int32) (x2 : Int32) (x3 : Int32) (x4 : Int32) (x5 : Int32) (x6 : Int64) (x8 : Int32) (s0 : Int32) : Prop := ((s0 = 0 → pp_M_roadOf_b172 g e0 K B_40 M x0 x1 x2 x3 x4 x5 x8 ((0 : Int64)) x6) ∧ (¬ (s0 = 0) → mp_gr M x0 4 21 (fun v25 => mp_ai (g 0) M v25 x8 (fun v26 => pp_M_roadOf_b172 g e0 K B_40 M x0 x1 x2 x3 x4 x5 x8 v26.toInt64 x6))))
def pp_M_roadOf_b128 (g : Nat → ClassId) (e0 : Nat → Nat) (K : Int64 → mo_M → Prop) (B_40 : mo_M → Nat → Int32 → Int32 → Int32 → Int32 → Int32 → Int64 → Int32 → Prop) (M : mo_M) (x0 : Nat) (x1 : Int32) (x2 : Int32) (x3 : Int32) (x4 : Int32) (x5 : Int32) (x6 : Int64) (x8 : Int32) : Prop := pp_M_roadOf_b151 g e0 K B_40 M x0 x1 x2 x3 x4 x5 x6 x8 ((1 : Int32))
def pp_M_roadOf_b40 (g : Nat → ClassId) (e0 : Nat → Nat) (K : Int64 → mo_M → Prop) : Nat → mo_M → Nat → Int32 → Int32 → Int32 → Int32 → Int32 → Int64 → Int32 → Prop
  | 0, _, _, _, _, _, _, _, _, _ => False
  | n + 1, M, x0, x1, x2, x3, x4, x5, x6, x8 => mp_gi M x0 4 17 (fun v10 => ((v10 ≤ x8 → K x6 M) ∧ (¬ (v10 ≤ x8) → ((x4 ≤ 0 → K x6 M) ∧ (¬ (x4 ≤ 0) → mp_gr M x0 4 19 (fun v11 => mp_ai (g 0) M v11 x8 (fun v12 => ((v12 = x2 → mp_gr M x0 4 18 (fun v13 => mp_ai (g 0) M v13 x8 (fun v14 => ((v14 = ((1 : Int32)) → mp_gr M x0 4 20 (fun v15 => mp_ai (g 0) M v15 x8 (fun v16 => ((v16 = x3 → mp_gr M x0 4 24 (fun v17 => mp_ai (g 0) M v17 x8 (fun v18 => ((x4 ≤ v18 → mp_gr M x0 4 6 (fun v19 => mp_ai (g 2) M v19 x2 (fun v20 => ((v20 = 0 → (mp_is M x0 4 ∧ pp_M_isMarked g e0 (fun r22 M21 => ((r22 = 0 → pp_M_roadOf_b151 g e0 K (fun M x0 x1 x2 x3 x4 x5 x6 x8 => pp_M_roadOf_b40 g e0 K n M x0 x1 x2 x3 x4 x5 x6 x8) M21 x0 x1 x2 x3 x4 x5 x6 x8 ((1 : Int32))) ∧ (¬ (r22 = 0) → pp_M_roadOf_b151 g e0 K (fun M x0 x1 x2 x3 x4 x5 x6 x8 => pp_M_roadOf_b40 g e0 K n M x0 x1 x2 x3 x4 x5 x6 x8) M21 x0 x1 x2 x3 x4 x5 x6 x8 ((0 : Int32))))) M x0 x8 x1)) ∧ (¬ (v20 = 0) → ((x5 = 0 → pp_M_roadOf_b128 g e0 K (fun M x0 x1 x2 x3 x4 x5 x6 x8 => pp_M_roadOf_b40 g e0 K n M x0 x1 x2 x3 x4 x5 x6 x8) M x0 x1 x2 x3 x4 x5 x6 x8) ∧ (¬ (x5 = 0) → mp_gr M x0 4 24 (fun v23 => mp_ai (g 0) M v23 x8 (fun v24 => ((x5 ≤ v24 → pp_M_roadOf_b151 g e0 K (fun M x0 x1 x2 x3 x4 x5 x6 x8 => pp_M_roadOf_b40 g e0 K n M x0 x1 x2 x3 x4 x5 x6 x8) M x0 x1 x2 x3 x4 x5 x6 x8 ((0 : Int32))) ∧ (¬ (x5 ≤ v24) → pp_M_roadOf_b128 g e0 K (fun M x0 x1 x2 x3 x4 x5 x6 x8 => pp_M_roadOf_b40 g e0 K n M x0 x1 x2 x3 x4 x5 x6 x8) M x0 x1 x2 x3 x4 x5 x6 x8))))))))))) ∧ (¬ (x4 ≤ v18) → pp_M_roadOf_b175 g e0 K (fun M x0 x1 x2 x3 x4 x5 x6 x8 => pp_M_roadOf_b40 g e0 K n M x0 x1 x2 x3 x4 x5 x6 x8) M x0 x1 x2 x3 x4 x5 x6 x8))))) ∧ (¬ (v16 = x3) → pp_M_roadOf_b175 g e0 K (fun M x0 x1 x2 x3 x4 x5 x6 x8 => pp_M_roadOf_b40 g e0 K n M x0 x1 x2 x3 x4 x5 x6 x8) M x0 x1 x2 x3 x4 x5 x6 x8))))) ∧ (¬ (v14 = ((1 : Int32))) → pp_M_roadOf_b175 g e0 K (fun M x0 x1 x2 x3 x4 x5 x6 x8 => pp_M_roadOf_b40 g e0 K n M x0 x1 x2 x3 x4 x5 x6 x8) M x0 x1 x2 x3 x4 x5 x6 x8))))) ∧ (¬ (v12 = x2) → pp_M_roadOf_b175 g e0 K (fun M x0 x1 x2 x3 x4 x5 x6 x8 => pp_M_roadOf_b40 g e0 K n M x0 x1 x2 x3 x4 x5 x6 x8) M x0 x1 x2 x3 x4 x5 x6 x8)))))))))
def pp_M_roadOf_b32 (g : Nat → ClassId) (e0 : Nat → Nat) (K : Int64 → mo_M → Prop) (M : mo_M) (x0 : Nat) (x1 : Int32) (x2 : Int32) (x3 : Int32) (x4 : Int32) (s0 : Int32) : Prop := ∃ n9 : Nat, pp_M_roadOf_b40 g e0 K n9 M x0 x1 x2 x3 x4 s0 ((0 : Int64)) ((0 : Int32))
def pp_M_roadOf (g : Nat → ClassId) (e0 : Nat → Nat) (K : Int64 → mo_M → Prop) (M : mo_M) (x0 : Nat) (x1 : Int32) (x2 : Int32) (x3 : Int32) : Prop := mp_gr M x0 4 5 (fun v1 => mp_ai (g 0) M v1 x2 (fun v2 => (mp_is M x0 4 ∧ pp_M_recording g e0 (fun r4 M3 => mp_gr M3 x0 4 6 (fun v5 => mp_ai (g 2) M3 v5 x2 (fun v6 => ((v6 = 0 → pp_M_roadOf_b32 g e0 K M3 x0 x1 x2 x3 r4 ((0 : Int32))) ∧ (¬ (v6 = 0) → (mp_is M3 x0 4 ∧ pp_M_markerAt g e0 (fun r8 M7 => pp_M_roadOf_b32 g e0 K M7 x0 x1 x2 x3 r4 r8) M3 x0 x1 x2)))))) M x0 x1 v2)))
set_option maxHeartbeats 4000000 in
set_option maxRecDepth 100000 in
theorem cc_M_roadOf (l : Launch) (L0 : Nat) (D : va_G) {g : Nat → ClassId} {e0 : Nat → Nat} {K : Int64 → mo_M → Prop} {M : mo_M} {x0 : Nat} {x1 : Int32} {x2 : Int32} {x3 : Int32} (hP : pp_M_roadOf g e0 K M x0 x1 x2 x3) : Met l y_M_roadOf ws_M_roadOf (mo_R 2 0 0 45) (va_Pc [.ref x0, .int x1, .int x2, .int x3] (fun U => mo_B L0 e0 D vwCl (mo_T g) M U)) (mo_Ql L0 e0 D vwCl (mo_T g) K) 0 0 (fun q => L0 ≤ q) := by
  refine Met.ofW (cc := b_M_roadOf) (maxL := 10) (ret := (Option.some Jvm.ClassFile.FieldType.long)) (by decide +kernel) rfl ?_
  intro p e s m args below meth c s₁ B hml hv
  obtain ⟨hv1, hB0⟩ := hv
  have hx := B.exec
  have hb := B.bytes
  have hr := B.returns
  have hts : ∀ w ∈ lw_g, w.before args s = true := fun w hw => atoms_spec (ws := ws_M_roadOf) B.pre w (List.mem_cons_of_mem _ hw)
  have hown : s.vm.findClass "PurseHouseModel" = some m.cls := findClass_of_methodNamed B.named
  have hlocks := B.notSynchronized
  have w_175 : ∀ (B_40 : mo_M → Nat → Int32 → Int32 → Int32 → Int32 → Int32 → Int64 → Int32 → Prop) (hB_40 : ∀ (M : mo_M) (x0 : Nat) (x1 : Int32) (x2 : Int32) (x3 : Int32) (x4 : Int32) (x5 : Int32) (x6 : Int64) (x8 : Int32) (H : Heap) (locs : List Loc) (ls : Array Slot), B_40 M x0 x1 x2 x3 x4 x5 x6 x8 → mo_ok L0 e0 D vwCl (mo_T g) s M H locs → lv_has ls 10 [(0, .ref x0), (1, .int x1), (2, .int x2), (3, .int x3), (4, .int x4), (5, .int x5), (6, .long x6), (8, .int x8)] → W p l e (headSpec ws_M_roadOf (mo_R 2 0 0 45)).room s m args below meth c H locs 0 0 (mo_Z below (mo_Ql L0 e0 D vwCl (mo_T g) K) args s 0 0 L0) (F0 m 40 ls [])) (M : mo_M) (x0 : Nat) (x1 : Int32) (x2 : Int32) (x3 : Int32) (x4 : Int32) (x5 : Int32) (x6 : Int64) (x8 : Int32) (H : Heap) (locs : List Loc) (ls : Array Slot), pp_M_roadOf_b175 g e0 K B_40 M x0 x1 x2 x3 x4 x5 x6 x8 → mo_ok L0 e0 D vwCl (mo_T g) s M H locs → lv_has ls 10 [(0, .ref x0), (1, .int x1), (2, .int x2), (3, .int x3), (4, .int x4), (5, .int x5), (6, .long x6), (8, .int x8)] → W p l e (headSpec ws_M_roadOf (mo_R 2 0 0 45)).room s m args below meth c H locs 0 0 (mo_Z below (mo_Ql L0 e0 D vwCl (mo_T g) K) args s 0 0 L0) (F0 m 175 ls []) := by
    intro B_40 hB_40 M x0 x1 x2 x3 x4 x5 x6 x8 H locs ls hP hok hl
    unfold pp_M_roadOf_b175 at hP
    refine lv_iinc (k := 7) (v := x8 + 1) (lv' := [(8, .int (x8 + 1)), (0, .ref x0), (1, .int x1), (2, .int x2), (3, .int x3), (4, .int x4), (5, .int x5), (6, .long x6)]) hx hb d_M_roadOf_175 hl rfl rfl (by decide) rfl (fun ls hl => ?_)
    refine lv_goto (tgt := 40) hx hb d_M_roadOf_178 (by decide) ?_
    exact hB_40 _ _ _ _ _ _ _ _ _ _ _ _ hP hok (lv_sub hl [1, 2, 3, 4, 5, 6, 7, 0] rfl)
  have w_172 : ∀ (B_40 : mo_M → Nat → Int32 → Int32 → Int32 → Int32 → Int32 → Int64 → Int32 → Prop) (hB_40 : ∀ (M : mo_M) (x0 : Nat) (x1 : Int32) (x2 : Int32) (x3 : Int32) (x4 : Int32) (x5 : Int32) (x6 : Int64) (x8 : Int32) (H : Heap) (locs : List Loc) (ls : Array Slot), B_40 M x0 x1 x2 x3 x4 x5 x6 x8 → mo_ok L0 e0 D vwCl (mo_T g) s M H locs → lv_has ls 10 [(0, .ref x0), (1, .int x1), (2, .int x2), (3, .int x3), (4, .int x4), (5, .int x5), (6, .long x6), (8, .int x8)] → W p l e (headSpec ws_M_roadOf (mo_R 2 0 0 45)).room s m args below meth c H locs 0 0 (mo_Z below (mo_Ql L0 e0 D vwCl (mo_T g) K) args s 0 0 L0) (F0 m 40 ls [])) (M : mo_M) (x0 : Nat) (x1 : Int32) (x2 : Int32) (x3 : Int32) (x4 : Int32) (x5 : Int32) (x8 : Int32) (s0 : Int64) (s1 : Int64) (H : Heap) (locs : List Loc) (ls : Array Slot), pp_M_roadOf_b172 g e0 K B_40 M x0 x1 x2 x3 x4 x5 x8 s0 s1 → mo_ok L0 e0 D vwCl (mo_T g) s M H locs → lv_has ls 10 [(0, .ref x0), (1, .int x1), (2, .int x2), (3, .int x3), (4, .int x4), (5, .int x5), (8, .int x8)] → W p l e (headSpec ws_M_roadOf (mo_R 2 0 0 45)).room s m args below meth c H locs 0 0 (mo_Z below (mo_Ql L0 e0 D vwCl (mo_T g) K) args s 0 0 L0) (F0 m 172 ls [.long s0, .long s1]) := by
    intro B_40 hB_40 M x0 x1 x2 x3 x4 x5 x8 s0 s1 H locs ls hP hok hl
    unfold pp_M_roadOf_b172 at hP
    refine lv_ladd hx hb d_M_roadOf_172 ?_
    refine lv_lstore (lv' := [(6, .long ((s1 + s0))), (0, .ref x0), (1, .int x1), (2, .int x2), (3, .int x3), (4, .int x4), (5, .int x5), (8, .int x8)]) hx hb d_M_roadOf_173 hl (by decide) rfl (fun ls hl => ?_)
    exact w_175 B_40 hB_40 _ _ _ _ _ _ _ _ _ _ _ _ hP hok (lv_sub hl [1, 2, 3, 4, 5, 6, 0, 7] rfl)
  have w_151 : ∀ (B_40 : mo_M → Nat → Int32 → Int32 → Int32 → Int32 → Int32 → Int64 → Int32 → Prop) (hB_40 : ∀ (M : mo_M) (x0 : Nat) (x1 : Int32) (x2 : Int32) (x3 : Int32) (x4 : Int32) (x5 : Int32) (x6 : Int64) (x8 : Int32) (H : Heap) (locs : List Loc) (ls : Array Slot), B_40 M x0 x1 x2 x3 x4 x5 x6 x8 → mo_ok L0 e0 D vwCl (mo_T g) s M H locs → lv_has ls 10 [(0, .ref x0), (1, .int x1), (2, .int x2), (3, .int x3), (4, .int x4), (5, .int x5), (6, .long x6), (8, .int x8)] → W p l e (headSpec ws_M_roadOf (mo_R 2 0 0 45)).room s m args below meth c H locs 0 0 (mo_Z below (mo_Ql L0 e0 D vwCl (mo_T g) K) args s 0 0 L0) (F0 m 40 ls [])) (M : mo_M) (x0 : Nat) (x1 : Int32) (x2 : Int32) (x3 : Int32) (x4 : Int32) (x5 : Int32) (x6 : Int64) (x8 : Int32) (s0 : Int32) (H : Heap) (locs : List Loc) (ls : Array Slot), pp_M_roadOf_b151 g e0 K B_40 M x0 x1 x2 x3 x4 x5 x6 x8 s0 → mo_ok L0 e0 D vwCl (mo_T g) s M H locs → lv_has ls 10 [(0, .ref x0), (1, .int x1), (2, .int x2), (3, .int x3), (4, .int x4), (5, .int x5), (6, .long x6), (8, .int x8)] → W p l e (headSpec ws_M_roadOf (mo_R 2 0 0 45)).room s m args below meth c H locs 0 0 (mo_Z below (mo_Ql L0 e0 D vwCl (mo_T g) K) args s 0 0 L0) (F0 m 151 ls [.int s0]) := by
    intro B_40 hB_40 M x0 x1 x2 x3 x4 x5 x6 x8 s0 H locs ls hP hok hl
    unfold pp_M_roadOf_b151 at hP
    refine lv_istore (lv' := [(9, .int s0), (0, .ref x0), (1, .int x1), (2, .int x2), (3, .int x3), (4, .int x4), (5, .int x5), (6, .long x6), (8, .int x8)]) hx hb d_M_roadOf_151 hl (by decide) rfl (fun ls hl => ?_)
    refine lv_lload hx hb d_M_roadOf_153 (lv_at hl 7 rfl) ?_
    refine lv_iload hx hb d_M_roadOf_155 (lv_at hl 0 rfl) ?_
    refine lv_if_eq (tgt := 171) hx hb d_M_roadOf_157 (by decide) (fun hc => ?_) (fun hc => ?_)
    · replace hP := hP.1 hc
      refine lv_lconst (v := 0) hx hb d_M_roadOf_171 (by decide) ?_
      exact w_172 B_40 hB_40 _ _ _ _ _ _ _ _ _ _ _ _ _ hP hok (lv_sub hl [1, 2, 3, 4, 5, 6, 8] rfl)
    · replace hP := hP.2 hc
      refine lv_aload_n hx hb d_M_roadOf_160 rfl (lv_at hl 1 rfl) ?_
      refine mr_gr (C := "PurseHouseModel") (T := F_4) (N := 27) (ref := "PurseHouseModel") hx hb hts hown hok hP ui_4 rfl (by decide) (hts _ wd_631) (fun _ h => h) d_M_roadOf_161 (fun v25 hP => ?_)
      refine lv_iload hx hb d_M_roadOf_164 (lv_at hl 8 rfl) ?_
      refine mr_ai hx hb hok hP 0 rfl d_M_roadOf_166 (fun v26 hP => ?_)
      refine lv_i2l hx hb d_M_roadOf_167 rfl ?_
      refine lv_goto (tgt := 172) hx hb d_M_roadOf_168 (by decide) ?_
      exact w_172 B_40 hB_40 _ _ _ _ _ _ _ _ _ _ _ _ _ hP hok (lv_sub hl [1, 2, 3, 4, 5, 6, 8] rfl)
  have w_128 : ∀ (B_40 : mo_M → Nat → Int32 → Int32 → Int32 → Int32 → Int32 → Int64 → Int32 → Prop) (hB_40 : ∀ (M : mo_M) (x0 : Nat) (x1 : Int32) (x2 : Int32) (x3 : Int32) (x4 : Int32) (x5 : Int32) (x6 : Int64) (x8 : Int32) (H : Heap) (locs : List Loc) (ls : Array Slot), B_40 M x0 x1 x2 x3 x4 x5 x6 x8 → mo_ok L0 e0 D vwCl (mo_T g) s M H locs → lv_has ls 10 [(0, .ref x0), (1, .int x1), (2, .int x2), (3, .int x3), (4, .int x4), (5, .int x5), (6, .long x6), (8, .int x8)] → W p l e (headSpec ws_M_roadOf (mo_R 2 0 0 45)).room s m args below meth c H locs 0 0 (mo_Z below (mo_Ql L0 e0 D vwCl (mo_T g) K) args s 0 0 L0) (F0 m 40 ls [])) (M : mo_M) (x0 : Nat) (x1 : Int32) (x2 : Int32) (x3 : Int32) (x4 : Int32) (x5 : Int32) (x6 : Int64) (x8 : Int32) (H : Heap) (locs : List Loc) (ls : Array Slot), pp_M_roadOf_b128 g e0 K B_40 M x0 x1 x2 x3 x4 x5 x6 x8 → mo_ok L0 e0 D vwCl (mo_T g) s M H locs → lv_has ls 10 [(0, .ref x0), (1, .int x1), (2, .int x2), (3, .int x3), (4, .int x4), (5, .int x5), (6, .long x6), (8, .int x8)] → W p l e (headSpec ws_M_roadOf (mo_R 2 0 0 45)).room s m args below meth c H locs 0 0 (mo_Z below (mo_Ql L0 e0 D vwCl (mo_T g) K) args s 0 0 L0) (F0 m 128 ls []) := by
    intro B_40 hB_40 M x0 x1 x2 x3 x4 x5 x6 x8 H locs ls hP hok hl
    unfold pp_M_roadOf_b128 at hP
    refine lv_iconst (v := 1) hx hb d_M_roadOf_128 (by decide) ?_
    refine lv_goto (tgt := 151) hx hb d_M_roadOf_129 (by decide) ?_
    exact w_151 B_40 hB_40 _ _ _ _ _ _ _ _ _ _ _ _ _ hP hok (lv_sub hl [0, 1, 2, 3, 4, 5, 6, 7] rfl)
  have w_40 : ∀ (n : Nat) (M : mo_M) (x0 : Nat) (x1 : Int32) (x2 : Int32) (x3 : Int32) (x4 : Int32) (x5 : Int32) (x6 : Int64) (x8 : Int32) (H : Heap) (locs : List Loc) (ls : Array Slot), pp_M_roadOf_b40 g e0 K n M x0 x1 x2 x3 x4 x5 x6 x8 → mo_ok L0 e0 D vwCl (mo_T g) s M H locs → lv_has ls 10 [(0, .ref x0), (1, .int x1), (2, .int x2), (3, .int x3), (4, .int x4), (5, .int x5), (6, .long x6), (8, .int x8)] → W p l e (headSpec ws_M_roadOf (mo_R 2 0 0 45)).room s m args below meth c H locs 0 0 (mo_Z below (mo_Ql L0 e0 D vwCl (mo_T g) K) args s 0 0 L0) (F0 m 40 ls []) := by
    intro n
    induction n with
    | zero => intro M x0 x1 x2 x3 x4 x5 x6 x8 H locs ls hP; exact hP.elim
    | succ n ih =>
      intro M x0 x1 x2 x3 x4 x5 x6 x8 H locs ls hP hok hl
      unfold pp_M_roadOf_b40 at hP
      refine lv_iload hx hb d_M_roadOf_40 (lv_at hl 7 rfl) ?_
      refine lv_aload_n hx hb d_M_roadOf_42 rfl (lv_at hl 0 rfl) ?_
      refine mr_gi (C := "PurseHouseModel") (T := F_4) (N := 27) (ref := "PurseHouseModel") hx hb hts hown hok hP ui_4 rfl (by decide) (hts _ wd_627) (fun _ h => h) d_M_roadOf_43 (fun v10 hP => ?_)
      refine lv_icmp_ge (tgt := 181) hx hb d_M_roadOf_46 (by decide) (fun hc => ?_) (fun hc => ?_)
      · replace hP := hP.1 hc
        refine lv_lload hx hb d_M_roadOf_181 (lv_at hl 6 rfl) ?_
        exact mo_lret hx hb hr hlocks hok hP d_M_roadOf_183
      · replace hP := hP.2 hc
        refine lv_iload hx hb d_M_roadOf_49 (lv_at hl 4 rfl) ?_
        refine lv_if_le (tgt := 181) hx hb d_M_roadOf_51 (by decide) (fun hc => ?_) (fun hc => ?_)
        · replace hP := hP.1 hc
          refine lv_lload hx hb d_M_roadOf_181 (lv_at hl 6 rfl) ?_
          exact mo_lret hx hb hr hlocks hok hP d_M_roadOf_183
        · replace hP := hP.2 hc
          refine lv_aload_n hx hb d_M_roadOf_54 rfl (lv_at hl 0 rfl) ?_
          refine mr_gr (C := "PurseHouseModel") (T := F_4) (N := 27) (ref := "PurseHouseModel") hx hb hts hown hok hP ui_4 rfl (by decide) (hts _ wd_629) (fun _ h => h) d_M_roadOf_55 (fun v11 hP => ?_)
          refine lv_iload hx hb d_M_roadOf_58 (lv_at hl 7 rfl) ?_
          refine mr_ai hx hb hok hP 0 rfl d_M_roadOf_60 (fun v12 hP => ?_)
          refine lv_iload_n hx hb d_M_roadOf_61 rfl (lv_at hl 2 rfl) ?_
          refine lv_icmp_ne (tgt := 175) hx hb d_M_roadOf_62 (by decide) (fun hc => ?_) (fun hc => ?_)
          · replace hP := hP.2 hc
            exact w_175 _ ih _ _ _ _ _ _ _ _ _ _ _ _ hP hok (lv_sub hl [0, 1, 2, 3, 4, 5, 6, 7] rfl)
          · replace hP := hP.1 hc
            refine lv_aload_n hx hb d_M_roadOf_65 rfl (lv_at hl 0 rfl) ?_
            refine mr_gr (C := "PurseHouseModel") (T := F_4) (N := 27) (ref := "PurseHouseModel") hx hb hts hown hok hP ui_4 rfl (by decide) (hts _ wd_628) (fun _ h => h) d_M_roadOf_66 (fun v13 hP => ?_)
            refine lv_iload hx hb d_M_roadOf_69 (lv_at hl 7 rfl) ?_
            refine mr_ai hx hb hok hP 0 rfl d_M_roadOf_71 (fun v14 hP => ?_)
            refine lv_iconst (v := 1) hx hb d_M_roadOf_72 (by decide) ?_
            refine lv_icmp_ne (tgt := 175) hx hb d_M_roadOf_73 (by decide) (fun hc => ?_) (fun hc => ?_)
            · replace hP := hP.2 hc
              exact w_175 _ ih _ _ _ _ _ _ _ _ _ _ _ _ hP hok (lv_sub hl [0, 1, 2, 3, 4, 5, 6, 7] rfl)
            · replace hP := hP.1 hc
              refine lv_aload_n hx hb d_M_roadOf_76 rfl (lv_at hl 0 rfl) ?_
              refine mr_gr (C := "PurseHouseModel") (T := F_4) (N := 27) (ref := "PurseHouseModel") hx hb hts hown hok hP ui_4 rfl (by decide) (hts _ wd_630) (fun _ h => h) d_M_roadOf_77 (fun v15 hP => ?_)
              refine lv_iload hx hb d_M_roadOf_80 (lv_at hl 7 rfl) ?_
              refine mr_ai hx hb hok hP 0 rfl d_M_roadOf_82 (fun v16 hP => ?_)
              refine lv_iload_n hx hb d_M_roadOf_83 rfl (lv_at hl 3 rfl) ?_
              refine lv_icmp_ne (tgt := 175) hx hb d_M_roadOf_84 (by decide) (fun hc => ?_) (fun hc => ?_)
              · replace hP := hP.2 hc
                exact w_175 _ ih _ _ _ _ _ _ _ _ _ _ _ _ hP hok (lv_sub hl [0, 1, 2, 3, 4, 5, 6, 7] rfl)
              · replace hP := hP.1 hc
                refine lv_aload_n hx hb d_M_roadOf_87 rfl (lv_at hl 0 rfl) ?_
                refine mr_gr (C := "PurseHouseModel") (T := F_4) (N := 27) (ref := "PurseHouseModel") hx hb hts hown hok hP ui_4 rfl (by decide) (hts _ wd_634) (fun _ h => h) d_M_roadOf_88 (fun v17 hP => ?_)
                refine lv_iload hx hb d_M_roadOf_91 (lv_at hl 7 rfl) ?_
                refine mr_ai hx hb hok hP 0 rfl d_M_roadOf_93 (fun v18 hP => ?_)
                refine lv_iload hx hb d_M_roadOf_94 (lv_at hl 4 rfl) ?_
                refine lv_icmp_ge (tgt := 102) hx hb d_M_roadOf_96 (by decide) (fun hc => ?_) (fun hc => ?_)
                · replace hP := hP.1 hc
                  refine lv_aload_n hx hb d_M_roadOf_102 rfl (lv_at hl 0 rfl) ?_
                  refine mr_gr (C := "PurseHouseModel") (T := F_4) (N := 27) (ref := "PurseHouseModel") hx hb hts hown hok hP ui_4 rfl (by decide) (hts _ wd_616) (fun _ h => h) d_M_roadOf_103 (fun v19 hP => ?_)
                  refine lv_iload_n hx hb d_M_roadOf_106 rfl (lv_at hl 2 rfl) ?_
                  refine mr_az hx hb hok hP 2 rfl d_M_roadOf_107 (fun v20 hP => ?_)
                  refine lv_if_eq (tgt := 136) hx hb d_M_roadOf_108 (by decide) (fun hc => ?_) (fun hc => ?_)
                  · replace hP := hP.1 hc
                    refine lv_aload_n hx hb d_M_roadOf_136 rfl (lv_at hl 0 rfl) ?_
                    refine lv_iload hx hb d_M_roadOf_137 (lv_at hl 7 rfl) ?_
                    refine lv_iload_n hx hb d_M_roadOf_139 rfl (lv_at hl 1 rfl) ?_
                    obtain ⟨⟨fs9, he9⟩, hP⟩ := hP
                    refine mo_calli hok (va_runV (As := [.int x8, .int x1]) (rest := []) ⟨hx, hb, hml, hown, hts⟩ (cc_M_isMarked l L0 D hP) ⟨(callB_of 2 hts (lw_gi wd_776) rfl rfl rfl (hts _ wd_39) (hts _ wd_773) (by decide +kernel) ⟨Nat.le_of_ble_eq_true rfl, Nat.le_of_ble_eq_true rfl⟩), hts _ wd_775, hts _ wd_25⟩ (mo_preV hok he9 rfl [.int x8, .int x1]) rfl rfl hl.1 rfl (lv_room (Nat.le_of_ble_eq_true rfl)) d_M_roadOf_140 ⟨Nat.zero_le _, Nat.zero_le _⟩) (fun r22 M21 H locs hP hok => ?_)
                    refine lv_if_ne (tgt := 150) hx hb d_M_roadOf_143 (by decide) (fun hc => ?_) (fun hc => ?_)
                    · replace hP := hP.2 hc
                      refine lv_iconst (v := 0) hx hb d_M_roadOf_150 (by decide) ?_
                      exact w_151 _ ih _ _ _ _ _ _ _ _ _ _ _ _ _ hP hok (lv_sub hl [0, 1, 2, 3, 4, 5, 6, 7] rfl)
                    · replace hP := hP.1 hc
                      refine lv_iconst (v := 1) hx hb d_M_roadOf_146 (by decide) ?_
                      refine lv_goto (tgt := 151) hx hb d_M_roadOf_147 (by decide) ?_
                      exact w_151 _ ih _ _ _ _ _ _ _ _ _ _ _ _ _ hP hok (lv_sub hl [0, 1, 2, 3, 4, 5, 6, 7] rfl)
                  · replace hP := hP.2 hc
                    refine lv_iload hx hb d_M_roadOf_111 (lv_at hl 5 rfl) ?_
                    refine lv_if_eq (tgt := 128) hx hb d_M_roadOf_113 (by decide) (fun hc => ?_) (fun hc => ?_)
                    · replace hP := hP.1 hc
                      exact w_128 _ ih _ _ _ _ _ _ _ _ _ _ _ _ hP hok (lv_sub hl [0, 1, 2, 3, 4, 5, 6, 7] rfl)
                    · replace hP := hP.2 hc
                      refine lv_aload_n hx hb d_M_roadOf_116 rfl (lv_at hl 0 rfl) ?_
                      refine mr_gr (C := "PurseHouseModel") (T := F_4) (N := 27) (ref := "PurseHouseModel") hx hb hts hown hok hP ui_4 rfl (by decide) (hts _ wd_634) (fun _ h => h) d_M_roadOf_117 (fun v23 hP => ?_)
                      refine lv_iload hx hb d_M_roadOf_120 (lv_at hl 7 rfl) ?_
                      refine mr_ai hx hb hok hP 0 rfl d_M_roadOf_122 (fun v24 hP => ?_)
                      refine lv_iload hx hb d_M_roadOf_123 (lv_at hl 5 rfl) ?_
                      refine lv_icmp_ge (tgt := 132) hx hb d_M_roadOf_125 (by decide) (fun hc => ?_) (fun hc => ?_)
                      · replace hP := hP.1 hc
                        refine lv_iconst (v := 0) hx hb d_M_roadOf_132 (by decide) ?_
                        refine lv_goto (tgt := 151) hx hb d_M_roadOf_133 (by decide) ?_
                        exact w_151 _ ih _ _ _ _ _ _ _ _ _ _ _ _ _ hP hok (lv_sub hl [0, 1, 2, 3, 4, 5, 6, 7] rfl)
                      · replace hP := hP.2 hc
                        exact w_128 _ ih _ _ _ _ _ _ _ _ _ _ _ _ hP hok (lv_sub hl [0, 1, 2, 3, 4, 5, 6, 7] rfl)
                · replace hP := hP.2 hc
                  refine lv_goto (tgt := 175) hx hb d_M_roadOf_99 (by decide) ?_
                  exact w_175 _ ih _ _ _ _ _ _ _ _ _ _ _ _ hP hok (lv_sub hl [0, 1, 2, 3, 4, 5, 6, 7] rfl)
  have w_32 : ∀ (M : mo_M) (x0 : Nat) (x1 : Int32) (x2 : Int32) (x3 : Int32) (x4 : Int32) (s0 : Int32) (H : Heap) (locs : List Loc) (ls : Array Slot), pp_M_roadOf_b32 g e0 K M x0 x1 x2 x3 x4 s0 → mo_ok L0 e0 D vwCl (mo_T g) s M H locs → lv_has ls 10 [(0, .ref x0), (1, .int x1), (2, .int x2), (3, .int x3), (4, .int x4)] → W p l e (headSpec ws_M_roadOf (mo_R 2 0 0 45)).room s m args below meth c H locs 0 0 (mo_Z below (mo_Ql L0 e0 D vwCl (mo_T g) K) args s 0 0 L0) (F0 m 32 ls [.int s0]) := by
    intro M x0 x1 x2 x3 x4 s0 H locs ls hP hok hl
    unfold pp_M_roadOf_b32 at hP
    refine lv_istore (lv' := [(5, .int s0), (0, .ref x0), (1, .int x1), (2, .int x2), (3, .int x3), (4, .int x4)]) hx hb d_M_roadOf_32 hl (by decide) rfl (fun ls hl => ?_)
    refine lv_lconst (v := 0) hx hb d_M_roadOf_34 (by decide) ?_
    refine lv_lstore (lv' := [(6, .long ((0 : Int64))), (5, .int s0), (0, .ref x0), (1, .int x1), (2, .int x2), (3, .int x3), (4, .int x4)]) hx hb d_M_roadOf_35 hl (by decide) rfl (fun ls hl => ?_)
    refine lv_iconst (v := 0) hx hb d_M_roadOf_37 (by decide) ?_
    refine lv_istore (lv' := [(8, .int ((0 : Int32))), (6, .long ((0 : Int64))), (5, .int s0), (0, .ref x0), (1, .int x1), (2, .int x2), (3, .int x3), (4, .int x4)]) hx hb d_M_roadOf_38 hl (by decide) rfl (fun ls hl => ?_)
    obtain ⟨n9, hP⟩ := hP
    exact w_40  n9 _ _ _ _ _ _ _ _ _ _ _ _ hP hok (lv_sub hl [3, 4, 5, 6, 7, 2, 1, 0] rfl)
  have hok : mo_ok L0 e0 D vwCl (mo_T g) s M s.heap [] := ⟨hB0.1, hB0.2.1, hB0.2.2, va_S.rf⟩
  have hl := lv_entry ([.ref x0, .int x1, .int x2, .int x3]) (n := 10) (Nat.le_of_ble_eq_true rfl)
  rw [hv1, lg_entry_eq]
  rw [← hv1]
  generalize (lg_sl [.ref x0, .int x1, .int x2, .int x3] ++ List.replicate (10 - (lg_sl [.ref x0, .int x1, .int x2, .int x3]).length) Slot.unset).toArray = ls at hl ⊢
  have hl : lv_has ls 10 [(0, .ref x0), (1, .int x1), (2, .int x2), (3, .int x3)] := hl
  unfold pp_M_roadOf at hP
  refine lv_aload_n hx hb d_M_roadOf_0 rfl (lv_at hl 0 rfl) ?_
  refine lv_iload_n hx hb d_M_roadOf_1 rfl (lv_at hl 1 rfl) ?_
  refine lv_aload_n hx hb d_M_roadOf_2 rfl (lv_at hl 0 rfl) ?_
  refine mr_gr (C := "PurseHouseModel") (T := F_4) (N := 27) (ref := "PurseHouseModel") hx hb hts hown hok hP ui_4 rfl (by decide) (hts _ wd_615) (fun _ h => h) d_M_roadOf_3 (fun v1 hP => ?_)
  refine lv_iload_n hx hb d_M_roadOf_6 rfl (lv_at hl 2 rfl) ?_
  refine mr_ai hx hb hok hP 0 rfl d_M_roadOf_7 (fun v2 hP => ?_)
  obtain ⟨⟨fs9, he9⟩, hP⟩ := hP
  refine mo_calli hok (va_runV (As := [.int x1, .int v2]) (rest := []) ⟨hx, hb, hml, hown, hts⟩ (cc_M_recording l L0 D hP) ⟨(callB_of 2 hts (lw_gi wd_772) rfl rfl rfl (hts _ wd_39) (hts _ wd_769) (by decide +kernel) ⟨Nat.le_of_ble_eq_true rfl, Nat.le_of_ble_eq_true rfl⟩), hts _ wd_771, hts _ wd_24⟩ (mo_preV hok he9 rfl [.int x1, .int v2]) rfl rfl hl.1 rfl (lv_room (Nat.le_of_ble_eq_true rfl)) d_M_roadOf_8 ⟨Nat.zero_le _, Nat.zero_le _⟩) (fun r4 M3 H locs hP hok => ?_)
  refine lv_istore (lv' := [(4, .int r4), (0, .ref x0), (1, .int x1), (2, .int x2), (3, .int x3)]) hx hb d_M_roadOf_11 hl (by decide) rfl (fun ls hl => ?_)
  refine lv_aload_n hx hb d_M_roadOf_13 rfl (lv_at hl 1 rfl) ?_
  refine mr_gr (C := "PurseHouseModel") (T := F_4) (N := 27) (ref := "PurseHouseModel") hx hb hts hown hok hP ui_4 rfl (by decide) (hts _ wd_616) (fun _ h => h) d_M_roadOf_14 (fun v5 hP => ?_)
  refine lv_iload_n hx hb d_M_roadOf_17 rfl (lv_at hl 3 rfl) ?_
  refine mr_az hx hb hok hP 2 rfl d_M_roadOf_18 (fun v6 hP => ?_)
  refine lv_if_eq (tgt := 31) hx hb d_M_roadOf_19 (by decide) (fun hc => ?_) (fun hc => ?_)
  · replace hP := hP.1 hc
    refine lv_iconst (v := 0) hx hb d_M_roadOf_31 (by decide) ?_
    exact w_32  _ _ _ _ _ _ _ _ _ _ hP hok (lv_sub hl [1, 2, 3, 4, 0] rfl)
  · replace hP := hP.2 hc
    refine lv_aload_n hx hb d_M_roadOf_22 rfl (lv_at hl 1 rfl) ?_
    refine lv_iload_n hx hb d_M_roadOf_23 rfl (lv_at hl 2 rfl) ?_
    refine lv_iload_n hx hb d_M_roadOf_24 rfl (lv_at hl 3 rfl) ?_
    obtain ⟨⟨fs9, he9⟩, hP⟩ := hP
    refine mo_calli hok (va_runV (As := [.int x1, .int x2]) (rest := []) ⟨hx, hb, hml, hown, hts⟩ (cc_M_markerAt l L0 D hP) ⟨(callB_of 2 hts (lw_gi wd_820) rfl rfl rfl (hts _ wd_39) (hts _ wd_817) (by decide +kernel) ⟨Nat.le_of_ble_eq_true rfl, Nat.le_of_ble_eq_true rfl⟩), hts _ wd_819, hts _ wd_29⟩ (mo_preV hok he9 rfl [.int x1, .int x2]) rfl rfl hl.1 rfl (lv_room (Nat.le_of_ble_eq_true rfl)) d_M_roadOf_25 ⟨Nat.zero_le _, Nat.zero_le _⟩) (fun r8 M7 H locs hP hok => ?_)
    refine lv_goto (tgt := 32) hx hb d_M_roadOf_28 (by decide) ?_
    exact w_32  _ _ _ _ _ _ _ _ _ _ hP hok (lv_sub hl [1, 2, 3, 4, 0] rfl)

abbrev b_M_road : ByteArray := prog_6_method_37_code
def y_M_road : MethodName := ⟨"PurseHouseModel", "road", "(III)J"⟩
def ws_M_road : List Cond := .code y_M_road b_M_road 4 (Option.some Jvm.ClassFile.FieldType.long) :: lw_g
theorem d_M_road_0 : decode b_M_road 0 = .ok (.aload_n 0, 1) := by decide +kernel
theorem d_M_road_1 : decode b_M_road 1 = .ok (.iconst 0, 1) := by decide +kernel
theorem d_M_road_2 : decode b_M_road 2 = .ok (.putfield 76, 3) := by decide +kernel
theorem d_M_road_5 : decode b_M_road 5 = .ok (.aload_n 0, 1) := by decide +kernel
theorem d_M_road_6 : decode b_M_road 6 = .ok (.iload_n 1, 1) := by decide +kernel
theorem d_M_road_7 : decode b_M_road 7 = .ok (.invokevirtual 146, 3) := by decide +kernel
theorem d_M_road_10 : decode b_M_road 10 = .ok (.ifCond .eq 28, 3) := by decide +kernel
theorem d_M_road_13 : decode b_M_road 13 = .ok (.aload_n 0, 1) := by decide +kernel
theorem d_M_road_14 : decode b_M_road 14 = .ok (.iload_n 2, 1) := by decide +kernel
theorem d_M_road_15 : decode b_M_road 15 = .ok (.invokevirtual 126, 3) := by decide +kernel
theorem d_M_road_18 : decode b_M_road 18 = .ok (.ifCond .eq 20, 3) := by decide +kernel
theorem d_M_road_21 : decode b_M_road 21 = .ok (.iload_n 3, 1) := by decide +kernel
theorem d_M_road_22 : decode b_M_road 22 = .ok (.invokestatic 90, 3) := by decide +kernel
theorem d_M_road_25 : decode b_M_road 25 = .ok (.ifCond .eq 13, 3) := by decide +kernel
theorem d_M_road_28 : decode b_M_road 28 = .ok (.aload_n 0, 1) := by decide +kernel
theorem d_M_road_29 : decode b_M_road 29 = .ok (.iload_n 1, 1) := by decide +kernel
theorem d_M_road_30 : decode b_M_road 30 = .ok (.iload_n 2, 1) := by decide +kernel
theorem d_M_road_31 : decode b_M_road 31 = .ok (.iload_n 3, 1) := by decide +kernel
theorem d_M_road_32 : decode b_M_road 32 = .ok (.invokevirtual 155, 3) := by decide +kernel
theorem d_M_road_35 : decode b_M_road 35 = .ok (.goto 4, 3) := by decide +kernel
theorem d_M_road_38 : decode b_M_road 38 = .ok (.lconst 0, 1) := by decide +kernel
theorem d_M_road_39 : decode b_M_road 39 = .ok (.lreturn, 1) := by decide +kernel
def pp_M_road (g : Nat → ClassId) (e0 : Nat → Nat) (K : Int64 → mo_M → Prop) (M : mo_M) (x0 : Nat) (x1 : Int32) (x2 : Int32) (x3 : Int32) : Prop := mp_pt M x0 4 0 (.int ((0 : Int32))) (fun M1 => (mp_is M1 x0 4 ∧ pp_M_isNumber g e0 (fun r3 M2 => ((r3 = 0 → K ((0 : Int64)) M2) ∧ (¬ (r3 = 0) → (mp_is M2 x0 4 ∧ pp_M_isLink g e0 (fun r5 M4 => ((r5 = 0 → K ((0 : Int64)) M4) ∧ (¬ (r5 = 0) → pp_M_isCurrency g e0 (fun r7 M6 => ((r7 = 0 → K ((0 : Int64)) M6) ∧ (¬ (r7 = 0) → (mp_is M6 x0 4 ∧ pp_M_roadOf g e0 (fun r9 M8 => K r9 M8) M6 x0 x1 x2 x3)))) M4 x3))) M2 x0 x2)))) M1 x0 x1))
set_option maxHeartbeats 4000000 in
set_option maxRecDepth 100000 in
theorem cc_M_road (l : Launch) (L0 : Nat) (D : va_G) {g : Nat → ClassId} {e0 : Nat → Nat} {K : Int64 → mo_M → Prop} {M : mo_M} {x0 : Nat} {x1 : Int32} {x2 : Int32} {x3 : Int32} (hP : pp_M_road g e0 K M x0 x1 x2 x3) : Met l y_M_road ws_M_road (mo_R 3 0 0 74) (va_Pc [.ref x0, .int x1, .int x2, .int x3] (fun U => mo_B L0 e0 D vwCl (mo_T g) M U)) (mo_Ql L0 e0 D vwCl (mo_T g) K) 0 0 (fun q => L0 ≤ q) := by
  refine Met.ofW (cc := b_M_road) (maxL := 4) (ret := (Option.some Jvm.ClassFile.FieldType.long)) (by decide +kernel) rfl ?_
  intro p e s m args below meth c s₁ B hml hv
  obtain ⟨hv1, hB0⟩ := hv
  have hx := B.exec
  have hb := B.bytes
  have hr := B.returns
  have hts : ∀ w ∈ lw_g, w.before args s = true := fun w hw => atoms_spec (ws := ws_M_road) B.pre w (List.mem_cons_of_mem _ hw)
  have hown : s.vm.findClass "PurseHouseModel" = some m.cls := findClass_of_methodNamed B.named
  have hlocks := B.notSynchronized
  have hok : mo_ok L0 e0 D vwCl (mo_T g) s M s.heap [] := ⟨hB0.1, hB0.2.1, hB0.2.2, va_S.rf⟩
  have hl := lv_entry ([.ref x0, .int x1, .int x2, .int x3]) (n := 4) (Nat.le_of_ble_eq_true rfl)
  rw [hv1, lg_entry_eq]
  rw [← hv1]
  generalize (lg_sl [.ref x0, .int x1, .int x2, .int x3] ++ List.replicate (4 - (lg_sl [.ref x0, .int x1, .int x2, .int x3]).length) Slot.unset).toArray = ls at hl ⊢
  have hl : lv_has ls 4 [(0, .ref x0), (1, .int x1), (2, .int x2), (3, .int x3)] := hl
  unfold pp_M_road at hP
  refine lv_aload_n hx hb d_M_road_0 rfl (lv_at hl 0 rfl) ?_
  refine lv_iconst (v := 0) hx hb d_M_road_1 (by decide) ?_
  refine mr_pt (C := "PurseHouseModel") (T := F_4) (N := 27) (ref := "PurseHouseModel") (ty := .int) hx hb hts hown hok hP ui_4 ty_4 th_4 tn_4 rfl (by decide) (hts _ wd_610) (fun _ h => h) rfl (by decide +kernel) rfl rfl d_M_road_2 (fun M1 H locs hP hok => ?_)
  refine lv_aload_n hx hb d_M_road_5 rfl (lv_at hl 0 rfl) ?_
  refine lv_iload_n hx hb d_M_road_6 rfl (lv_at hl 1 rfl) ?_
  obtain ⟨⟨fs9, he9⟩, hP⟩ := hP
  refine mo_calli hok (va_runV (As := [.int x1]) (rest := []) ⟨hx, hb, hml, hown, hts⟩ (cc_M_isNumber l L0 D hP) ⟨(callB_of 1 hts (lw_gi wd_808) rfl rfl rfl (hts _ wd_39) (hts _ wd_805) (by decide +kernel) ⟨Nat.le_of_ble_eq_true rfl, Nat.le_of_ble_eq_true rfl⟩), hts _ wd_807, hts _ wd_27⟩ (mo_preV hok he9 rfl [.int x1]) rfl rfl hl.1 rfl (lv_room (Nat.le_of_ble_eq_true rfl)) d_M_road_7 ⟨Nat.zero_le _, Nat.zero_le _⟩) (fun r3 M2 H locs hP hok => ?_)
  refine lv_if_eq (tgt := 38) hx hb d_M_road_10 (by decide) (fun hc => ?_) (fun hc => ?_)
  · replace hP := hP.1 hc
    refine lv_lconst (v := 0) hx hb d_M_road_38 (by decide) ?_
    exact mo_lret hx hb hr hlocks hok hP d_M_road_39
  · replace hP := hP.2 hc
    refine lv_aload_n hx hb d_M_road_13 rfl (lv_at hl 0 rfl) ?_
    refine lv_iload_n hx hb d_M_road_14 rfl (lv_at hl 2 rfl) ?_
    obtain ⟨⟨fs9, he9⟩, hP⟩ := hP
    refine mo_calli hok (va_runV (As := [.int x2]) (rest := []) ⟨hx, hb, hml, hown, hts⟩ (cc_M_isLink l L0 D hP) ⟨(callB_of 1 hts (lw_gi wd_748) rfl rfl rfl (hts _ wd_39) (hts _ wd_745) (by decide +kernel) ⟨Nat.le_of_ble_eq_true rfl, Nat.le_of_ble_eq_true rfl⟩), hts _ wd_747, hts _ wd_19⟩ (mo_preV hok he9 rfl [.int x2]) rfl rfl hl.1 rfl (lv_room (Nat.le_of_ble_eq_true rfl)) d_M_road_15 ⟨Nat.zero_le _, Nat.zero_le _⟩) (fun r5 M4 H locs hP hok => ?_)
    refine lv_if_eq (tgt := 38) hx hb d_M_road_18 (by decide) (fun hc => ?_) (fun hc => ?_)
    · replace hP := hP.1 hc
      refine lv_lconst (v := 0) hx hb d_M_road_38 (by decide) ?_
      exact mo_lret hx hb hr hlocks hok hP d_M_road_39
    · replace hP := hP.2 hc
      refine lv_iload_n hx hb d_M_road_21 rfl (lv_at hl 3 rfl) ?_
      refine mo_calli hok (va_runS (As := [.int x3]) (rest := []) ⟨hx, hb, hml, hown, hts⟩ (cc_M_isCurrency l L0 D hP) ⟨(callB_of 1 hts (lw_gi wd_711) rfl rfl rfl (hts _ wd_39) (hts _ wd_709) (by decide +kernel) ⟨Nat.le_of_ble_eq_true rfl, Nat.le_of_ble_eq_true rfl⟩), hts _ wd_710⟩ (mo_preS hok [.int x3]) rfl rfl hl.1 rfl (lv_room (Nat.le_of_ble_eq_true rfl)) d_M_road_22 ⟨Nat.zero_le _, Nat.zero_le _⟩) (fun r7 M6 H locs hP hok => ?_)
      refine lv_if_eq (tgt := 38) hx hb d_M_road_25 (by decide) (fun hc => ?_) (fun hc => ?_)
      · replace hP := hP.1 hc
        refine lv_lconst (v := 0) hx hb d_M_road_38 (by decide) ?_
        exact mo_lret hx hb hr hlocks hok hP d_M_road_39
      · replace hP := hP.2 hc
        refine lv_aload_n hx hb d_M_road_28 rfl (lv_at hl 0 rfl) ?_
        refine lv_iload_n hx hb d_M_road_29 rfl (lv_at hl 1 rfl) ?_
        refine lv_iload_n hx hb d_M_road_30 rfl (lv_at hl 2 rfl) ?_
        refine lv_iload_n hx hb d_M_road_31 rfl (lv_at hl 3 rfl) ?_
        obtain ⟨⟨fs9, he9⟩, hP⟩ := hP
        refine mo_calll hok (va_runV (As := [.int x1, .int x2, .int x3]) (rest := []) ⟨hx, hb, hml, hown, hts⟩ (cc_M_roadOf l L0 D hP) ⟨(callB_of 3 hts (lw_gi wd_832) rfl rfl rfl (hts _ wd_39) (hts _ wd_829) (by decide +kernel) ⟨Nat.le_of_ble_eq_true rfl, Nat.le_of_ble_eq_true rfl⟩), hts _ wd_831, hts _ wd_30⟩ (mo_preV hok he9 rfl [.int x1, .int x2, .int x3]) rfl rfl hl.1 rfl (lv_room (Nat.le_of_ble_eq_true rfl)) d_M_road_32 ⟨Nat.zero_le _, Nat.zero_le _⟩) (fun r9 M8 H locs hP hok => ?_)
        refine lv_goto (tgt := 39) hx hb d_M_road_35 (by decide) ?_
        exact mo_lret hx hb hr hlocks hok hP d_M_road_39

abbrev b_M_total : ByteArray := prog_6_method_38_code
def y_M_total : MethodName := ⟨"PurseHouseModel", "total", "(II)J"⟩
def ws_M_total : List Cond := .code y_M_total b_M_total 7 (Option.some Jvm.ClassFile.FieldType.long) :: lw_g
theorem d_M_total_0 : decode b_M_total 0 = .ok (.iload_n 2, 1) := by decide +kernel
theorem d_M_total_1 : decode b_M_total 1 = .ok (.invokestatic 90, 3) := by decide +kernel
theorem d_M_total_4 : decode b_M_total 4 = .ok (.ifCond .eq 15, 3) := by decide +kernel
theorem d_M_total_7 : decode b_M_total 7 = .ok (.aload_n 0, 1) := by decide +kernel
theorem d_M_total_8 : decode b_M_total 8 = .ok (.iload_n 1, 1) := by decide +kernel
theorem d_M_total_9 : decode b_M_total 9 = .ok (.invokevirtual 158, 3) := by decide +kernel
theorem d_M_total_12 : decode b_M_total 12 = .ok (.ifCond .eq 7, 3) := by decide +kernel
theorem d_M_total_15 : decode b_M_total 15 = .ok (.iconst 1, 1) := by decide +kernel
theorem d_M_total_16 : decode b_M_total 16 = .ok (.goto 4, 3) := by decide +kernel
theorem d_M_total_19 : decode b_M_total 19 = .ok (.iconst 0, 1) := by decide +kernel
theorem d_M_total_20 : decode b_M_total 20 = .ok (.istore_n 3, 1) := by decide +kernel
theorem d_M_total_21 : decode b_M_total 21 = .ok (.aload_n 0, 1) := by decide +kernel
theorem d_M_total_22 : decode b_M_total 22 = .ok (.iload_n 3, 1) := by decide +kernel
theorem d_M_total_23 : decode b_M_total 23 = .ok (.ifCond .eq 7, 3) := by decide +kernel
theorem d_M_total_26 : decode b_M_total 26 = .ok (.iconst 0, 1) := by decide +kernel
theorem d_M_total_27 : decode b_M_total 27 = .ok (.goto 4, 3) := by decide +kernel
theorem d_M_total_30 : decode b_M_total 30 = .ok (.iconst 1, 1) := by decide +kernel
theorem d_M_total_31 : decode b_M_total 31 = .ok (.putfield 76, 3) := by decide +kernel
theorem d_M_total_34 : decode b_M_total 34 = .ok (.lconst 0, 1) := by decide +kernel
theorem d_M_total_35 : decode b_M_total 35 = .ok (.lstore 4, 2) := by decide +kernel
theorem d_M_total_37 : decode b_M_total 37 = .ok (.iconst 0, 1) := by decide +kernel
theorem d_M_total_38 : decode b_M_total 38 = .ok (.istore 6, 2) := by decide +kernel
theorem d_M_total_40 : decode b_M_total 40 = .ok (.iload 6, 2) := by decide +kernel
theorem d_M_total_42 : decode b_M_total 42 = .ok (.aload_n 0, 1) := by decide +kernel
theorem d_M_total_43 : decode b_M_total 43 = .ok (.getfield 72, 3) := by decide +kernel
theorem d_M_total_46 : decode b_M_total 46 = .ok (.if_icmp .ge 47, 3) := by decide +kernel
theorem d_M_total_49 : decode b_M_total 49 = .ok (.iload_n 3, 1) := by decide +kernel
theorem d_M_total_50 : decode b_M_total 50 = .ok (.ifCond .eq 43, 3) := by decide +kernel
theorem d_M_total_53 : decode b_M_total 53 = .ok (.lload 4, 2) := by decide +kernel
theorem d_M_total_55 : decode b_M_total 55 = .ok (.aload_n 0, 1) := by decide +kernel
theorem d_M_total_56 : decode b_M_total 56 = .ok (.iload 6, 2) := by decide +kernel
theorem d_M_total_58 : decode b_M_total 58 = .ok (.iload_n 2, 1) := by decide +kernel
theorem d_M_total_59 : decode b_M_total 59 = .ok (.aload_n 0, 1) := by decide +kernel
theorem d_M_total_60 : decode b_M_total 60 = .ok (.iload_n 1, 1) := by decide +kernel
theorem d_M_total_61 : decode b_M_total 61 = .ok (.iload 6, 2) := by decide +kernel
theorem d_M_total_63 : decode b_M_total 63 = .ok (.invokevirtual 122, 3) := by decide +kernel
theorem d_M_total_66 : decode b_M_total 66 = .ok (.invokevirtual 107, 3) := by decide +kernel
theorem d_M_total_69 : decode b_M_total 69 = .ok (.aload_n 0, 1) := by decide +kernel
theorem d_M_total_70 : decode b_M_total 70 = .ok (.iload 6, 2) := by decide +kernel
theorem d_M_total_72 : decode b_M_total 72 = .ok (.iload_n 2, 1) := by decide +kernel
theorem d_M_total_73 : decode b_M_total 73 = .ok (.aload_n 0, 1) := by decide +kernel
theorem d_M_total_74 : decode b_M_total 74 = .ok (.iload_n 1, 1) := by decide +kernel
theorem d_M_total_75 : decode b_M_total 75 = .ok (.iload 6, 2) := by decide +kernel
theorem d_M_total_77 : decode b_M_total 77 = .ok (.invokevirtual 122, 3) := by decide +kernel
theorem d_M_total_80 : decode b_M_total 80 = .ok (.invokevirtual 143, 3) := by decide +kernel
theorem d_M_total_83 : decode b_M_total 83 = .ok (.ladd, 1) := by decide +kernel
theorem d_M_total_84 : decode b_M_total 84 = .ok (.ladd, 1) := by decide +kernel
theorem d_M_total_85 : decode b_M_total 85 = .ok (.lstore 4, 2) := by decide +kernel
theorem d_M_total_87 : decode b_M_total 87 = .ok (.iinc 6 1, 3) := by decide +kernel
theorem d_M_total_90 : decode b_M_total 90 = .ok (.goto (-50), 3) := by decide +kernel
theorem d_M_total_93 : decode b_M_total 93 = .ok (.iconst 0, 1) := by decide +kernel
theorem d_M_total_94 : decode b_M_total 94 = .ok (.istore 6, 2) := by decide +kernel
theorem d_M_total_96 : decode b_M_total 96 = .ok (.iload 6, 2) := by decide +kernel
theorem d_M_total_98 : decode b_M_total 98 = .ok (.aload_n 0, 1) := by decide +kernel
theorem d_M_total_99 : decode b_M_total 99 = .ok (.getfield 79, 3) := by decide +kernel
theorem d_M_total_102 : decode b_M_total 102 = .ok (.if_icmp .ge 26, 3) := by decide +kernel
theorem d_M_total_105 : decode b_M_total 105 = .ok (.iload_n 3, 1) := by decide +kernel
theorem d_M_total_106 : decode b_M_total 106 = .ok (.ifCond .eq 22, 3) := by decide +kernel
theorem d_M_total_109 : decode b_M_total 109 = .ok (.lload 4, 2) := by decide +kernel
theorem d_M_total_111 : decode b_M_total 111 = .ok (.aload_n 0, 1) := by decide +kernel
theorem d_M_total_112 : decode b_M_total 112 = .ok (.iload_n 1, 1) := by decide +kernel
theorem d_M_total_113 : decode b_M_total 113 = .ok (.iload 6, 2) := by decide +kernel
theorem d_M_total_115 : decode b_M_total 115 = .ok (.iload_n 2, 1) := by decide +kernel
theorem d_M_total_116 : decode b_M_total 116 = .ok (.invokevirtual 155, 3) := by decide +kernel
theorem d_M_total_119 : decode b_M_total 119 = .ok (.ladd, 1) := by decide +kernel
theorem d_M_total_120 : decode b_M_total 120 = .ok (.lstore 4, 2) := by decide +kernel
theorem d_M_total_122 : decode b_M_total 122 = .ok (.iinc 6 1, 3) := by decide +kernel
theorem d_M_total_125 : decode b_M_total 125 = .ok (.goto (-29), 3) := by decide +kernel
theorem d_M_total_128 : decode b_M_total 128 = .ok (.lload 4, 2) := by decide +kernel
theorem d_M_total_130 : decode b_M_total 130 = .ok (.lreturn, 1) := by decide +kernel
def pp_M_total_b96 (g : Nat → ClassId) (e0 : Nat → Nat) (K : Int64 → mo_M → Prop) : Nat → mo_M → Nat → Int32 → Int32 → Int32 → Int64 → Int32 → Prop
  | 0, _, _, _, _, _, _, _ => False
  | n + 1, M, x0, x1, x2, x3, x4, x6 => mp_gi M x0 4 3 (fun v17 => ((v17 ≤ x6 → K x4 M) ∧ (¬ (v17 ≤ x6) → ((x3 = 0 → K x4 M) ∧ (¬ (x3 = 0) → (mp_is M x0 4 ∧ pp_M_roadOf g e0 (fun r19 M18 => pp_M_total_b96 g e0 K n M18 x0 x1 x2 x3 ((x4 + r19)) (x6 + 1)) M x0 x1 x6 x2))))))
def pp_M_total_b93 (g : Nat → ClassId) (e0 : Nat → Nat) (K : Int64 → mo_M → Prop) (M : mo_M) (x0 : Nat) (x1 : Int32) (x2 : Int32) (x3 : Int32) (x4 : Int64) : Prop := ∃ n16 : Nat, pp_M_total_b96 g e0 K n16 M x0 x1 x2 x3 x4 ((0 : Int32))
def pp_M_total_b40 (g : Nat → ClassId) (e0 : Nat → Nat) (K : Int64 → mo_M → Prop) : Nat → mo_M → Nat → Int32 → Int32 → Int32 → Int64 → Int32 → Prop
  | 0, _, _, _, _, _, _, _ => False
  | n + 1, M, x0, x1, x2, x3, x4, x6 => mp_gi M x0 4 1 (fun v7 => ((v7 ≤ x6 → pp_M_total_b93 g e0 K M x0 x1 x2 x3 x4) ∧ (¬ (v7 ≤ x6) → ((x3 = 0 → pp_M_total_b93 g e0 K M x0 x1 x2 x3 x4) ∧ (¬ (x3 = 0) → (mp_is M x0 4 ∧ pp_M_recording g e0 (fun r9 M8 => (mp_is M8 x0 4 ∧ pp_M_stockAt g e0 (fun r11 M10 => (mp_is M10 x0 4 ∧ pp_M_recording g e0 (fun r13 M12 => (mp_is M12 x0 4 ∧ pp_M_tillAt g e0 (fun r15 M14 => pp_M_total_b40 g e0 K n M14 x0 x1 x2 x3 ((x4 + ((r11 + r15)))) (x6 + 1)) M12 x0 x6 x2 r13)) M10 x0 x1 x6)) M8 x0 x6 x2 r9)) M x0 x1 x6))))))
def pp_M_total_b31 (g : Nat → ClassId) (e0 : Nat → Nat) (K : Int64 → mo_M → Prop) (M : mo_M) (x0 : Nat) (x1 : Int32) (x2 : Int32) (x3 : Int32) (s0 : Int32) (s1 : Nat) : Prop := mp_pt M s1 4 0 (.int s0) (fun M5 => ∃ n6 : Nat, pp_M_total_b40 g e0 K n6 M5 x0 x1 x2 x3 ((0 : Int64)) ((0 : Int32)))
def pp_M_total_b20 (g : Nat → ClassId) (e0 : Nat → Nat) (K : Int64 → mo_M → Prop) (M : mo_M) (x0 : Nat) (x1 : Int32) (x2 : Int32) (s0 : Int32) : Prop := ((s0 = 0 → pp_M_total_b31 g e0 K M x0 x1 x2 s0 ((1 : Int32)) x0) ∧ (¬ (s0 = 0) → pp_M_total_b31 g e0 K M x0 x1 x2 s0 ((0 : Int32)) x0))
def pp_M_total_b19 (g : Nat → ClassId) (e0 : Nat → Nat) (K : Int64 → mo_M → Prop) (M : mo_M) (x0 : Nat) (x1 : Int32) (x2 : Int32) : Prop := pp_M_total_b20 g e0 K M x0 x1 x2 ((0 : Int32))
def pp_M_total (g : Nat → ClassId) (e0 : Nat → Nat) (K : Int64 → mo_M → Prop) (M : mo_M) (x0 : Nat) (x1 : Int32) (x2 : Int32) : Prop := pp_M_isCurrency g e0 (fun r2 M1 => ((r2 = 0 → pp_M_total_b19 g e0 K M1 x0 x1 x2) ∧ (¬ (r2 = 0) → (mp_is M1 x0 4 ∧ pp_M_finished g e0 (fun r4 M3 => ((r4 = 0 → pp_M_total_b19 g e0 K M3 x0 x1 x2) ∧ (¬ (r4 = 0) → pp_M_total_b20 g e0 K M3 x0 x1 x2 ((1 : Int32))))) M1 x0 x1)))) M x2
set_option maxHeartbeats 4000000 in
set_option maxRecDepth 100000 in
theorem cc_M_total (l : Launch) (L0 : Nat) (D : va_G) {g : Nat → ClassId} {e0 : Nat → Nat} {K : Int64 → mo_M → Prop} {M : mo_M} {x0 : Nat} {x1 : Int32} {x2 : Int32} (hP : pp_M_total g e0 K M x0 x1 x2) : Met l y_M_total ws_M_total (mo_R 4 0 0 92) (va_Pc [.ref x0, .int x1, .int x2] (fun U => mo_B L0 e0 D vwCl (mo_T g) M U)) (mo_Ql L0 e0 D vwCl (mo_T g) K) 0 0 (fun q => L0 ≤ q) := by
  refine Met.ofW (cc := b_M_total) (maxL := 7) (ret := (Option.some Jvm.ClassFile.FieldType.long)) (by decide +kernel) rfl ?_
  intro p e s m args below meth c s₁ B hml hv
  obtain ⟨hv1, hB0⟩ := hv
  have hx := B.exec
  have hb := B.bytes
  have hr := B.returns
  have hts : ∀ w ∈ lw_g, w.before args s = true := fun w hw => atoms_spec (ws := ws_M_total) B.pre w (List.mem_cons_of_mem _ hw)
  have hown : s.vm.findClass "PurseHouseModel" = some m.cls := findClass_of_methodNamed B.named
  have hlocks := B.notSynchronized
  have w_96 : ∀ (n : Nat) (M : mo_M) (x0 : Nat) (x1 : Int32) (x2 : Int32) (x3 : Int32) (x4 : Int64) (x6 : Int32) (H : Heap) (locs : List Loc) (ls : Array Slot), pp_M_total_b96 g e0 K n M x0 x1 x2 x3 x4 x6 → mo_ok L0 e0 D vwCl (mo_T g) s M H locs → lv_has ls 7 [(0, .ref x0), (1, .int x1), (2, .int x2), (3, .int x3), (4, .long x4), (6, .int x6)] → W p l e (headSpec ws_M_total (mo_R 4 0 0 92)).room s m args below meth c H locs 0 0 (mo_Z below (mo_Ql L0 e0 D vwCl (mo_T g) K) args s 0 0 L0) (F0 m 96 ls []) := by
    intro n
    induction n with
    | zero => intro M x0 x1 x2 x3 x4 x6 H locs ls hP; exact hP.elim
    | succ n ih =>
      intro M x0 x1 x2 x3 x4 x6 H locs ls hP hok hl
      unfold pp_M_total_b96 at hP
      refine lv_iload hx hb d_M_total_96 (lv_at hl 5 rfl) ?_
      refine lv_aload_n hx hb d_M_total_98 rfl (lv_at hl 0 rfl) ?_
      refine mr_gi (C := "PurseHouseModel") (T := F_4) (N := 27) (ref := "PurseHouseModel") hx hb hts hown hok hP ui_4 rfl (by decide) (hts _ wd_613) (fun _ h => h) d_M_total_99 (fun v17 hP => ?_)
      refine lv_icmp_ge (tgt := 128) hx hb d_M_total_102 (by decide) (fun hc => ?_) (fun hc => ?_)
      · replace hP := hP.1 hc
        refine lv_lload hx hb d_M_total_128 (lv_at hl 4 rfl) ?_
        exact mo_lret hx hb hr hlocks hok hP d_M_total_130
      · replace hP := hP.2 hc
        refine lv_iload_n hx hb d_M_total_105 rfl (lv_at hl 3 rfl) ?_
        refine lv_if_eq (tgt := 128) hx hb d_M_total_106 (by decide) (fun hc => ?_) (fun hc => ?_)
        · replace hP := hP.1 hc
          refine lv_lload hx hb d_M_total_128 (lv_at hl 4 rfl) ?_
          exact mo_lret hx hb hr hlocks hok hP d_M_total_130
        · replace hP := hP.2 hc
          refine lv_lload hx hb d_M_total_109 (lv_at hl 4 rfl) ?_
          refine lv_aload_n hx hb d_M_total_111 rfl (lv_at hl 0 rfl) ?_
          refine lv_iload_n hx hb d_M_total_112 rfl (lv_at hl 1 rfl) ?_
          refine lv_iload hx hb d_M_total_113 (lv_at hl 5 rfl) ?_
          refine lv_iload_n hx hb d_M_total_115 rfl (lv_at hl 2 rfl) ?_
          obtain ⟨⟨fs9, he9⟩, hP⟩ := hP
          refine mo_calll hok (va_runV (As := [.int x1, .int x6, .int x2]) (rest := [.long x4]) ⟨hx, hb, hml, hown, hts⟩ (cc_M_roadOf l L0 D hP) ⟨(callB_of 3 hts (lw_gi wd_832) rfl rfl rfl (hts _ wd_39) (hts _ wd_829) (by decide +kernel) ⟨Nat.le_of_ble_eq_true rfl, Nat.le_of_ble_eq_true rfl⟩), hts _ wd_831, hts _ wd_30⟩ (mo_preV hok he9 rfl [.int x1, .int x6, .int x2]) rfl rfl hl.1 rfl (lv_room (Nat.le_of_ble_eq_true rfl)) d_M_total_116 ⟨Nat.zero_le _, Nat.zero_le _⟩) (fun r19 M18 H locs hP hok => ?_)
          refine lv_ladd hx hb d_M_total_119 ?_
          refine lv_lstore (lv' := [(4, .long ((x4 + r19))), (0, .ref x0), (1, .int x1), (2, .int x2), (3, .int x3), (6, .int x6)]) hx hb d_M_total_120 hl (by decide) rfl (fun ls hl => ?_)
          refine lv_iinc (k := 5) (v := x6 + 1) (lv' := [(6, .int (x6 + 1)), (4, .long ((x4 + r19))), (0, .ref x0), (1, .int x1), (2, .int x2), (3, .int x3)]) hx hb d_M_total_122 hl rfl rfl (by decide) rfl (fun ls hl => ?_)
          refine lv_goto (tgt := 96) hx hb d_M_total_125 (by decide) ?_
          exact ih _ _ _ _ _ _ _ _ _ _ hP hok (lv_sub hl [2, 3, 4, 5, 1, 0] rfl)
  have w_93 : ∀ (M : mo_M) (x0 : Nat) (x1 : Int32) (x2 : Int32) (x3 : Int32) (x4 : Int64) (H : Heap) (locs : List Loc) (ls : Array Slot), pp_M_total_b93 g e0 K M x0 x1 x2 x3 x4 → mo_ok L0 e0 D vwCl (mo_T g) s M H locs → lv_has ls 7 [(0, .ref x0), (1, .int x1), (2, .int x2), (3, .int x3), (4, .long x4)] → W p l e (headSpec ws_M_total (mo_R 4 0 0 92)).room s m args below meth c H locs 0 0 (mo_Z below (mo_Ql L0 e0 D vwCl (mo_T g) K) args s 0 0 L0) (F0 m 93 ls []) := by
    intro M x0 x1 x2 x3 x4 H locs ls hP hok hl
    unfold pp_M_total_b93 at hP
    refine lv_iconst (v := 0) hx hb d_M_total_93 (by decide) ?_
    refine lv_istore (lv' := [(6, .int ((0 : Int32))), (0, .ref x0), (1, .int x1), (2, .int x2), (3, .int x3), (4, .long x4)]) hx hb d_M_total_94 hl (by decide) rfl (fun ls hl => ?_)
    obtain ⟨n16, hP⟩ := hP
    exact w_96  n16 _ _ _ _ _ _ _ _ _ _ hP hok (lv_sub hl [1, 2, 3, 4, 5, 0] rfl)
  have w_40 : ∀ (n : Nat) (M : mo_M) (x0 : Nat) (x1 : Int32) (x2 : Int32) (x3 : Int32) (x4 : Int64) (x6 : Int32) (H : Heap) (locs : List Loc) (ls : Array Slot), pp_M_total_b40 g e0 K n M x0 x1 x2 x3 x4 x6 → mo_ok L0 e0 D vwCl (mo_T g) s M H locs → lv_has ls 7 [(0, .ref x0), (1, .int x1), (2, .int x2), (3, .int x3), (4, .long x4), (6, .int x6)] → W p l e (headSpec ws_M_total (mo_R 4 0 0 92)).room s m args below meth c H locs 0 0 (mo_Z below (mo_Ql L0 e0 D vwCl (mo_T g) K) args s 0 0 L0) (F0 m 40 ls []) := by
    intro n
    induction n with
    | zero => intro M x0 x1 x2 x3 x4 x6 H locs ls hP; exact hP.elim
    | succ n ih =>
      intro M x0 x1 x2 x3 x4 x6 H locs ls hP hok hl
      unfold pp_M_total_b40 at hP
      refine lv_iload hx hb d_M_total_40 (lv_at hl 5 rfl) ?_
      refine lv_aload_n hx hb d_M_total_42 rfl (lv_at hl 0 rfl) ?_
      refine mr_gi (C := "PurseHouseModel") (T := F_4) (N := 27) (ref := "PurseHouseModel") hx hb hts hown hok hP ui_4 rfl (by decide) (hts _ wd_611) (fun _ h => h) d_M_total_43 (fun v7 hP => ?_)
      refine lv_icmp_ge (tgt := 93) hx hb d_M_total_46 (by decide) (fun hc => ?_) (fun hc => ?_)
      · replace hP := hP.1 hc
        exact w_93  _ _ _ _ _ _ _ _ _ hP hok (lv_sub hl [0, 1, 2, 3, 4] rfl)
      · replace hP := hP.2 hc
        refine lv_iload_n hx hb d_M_total_49 rfl (lv_at hl 3 rfl) ?_
        refine lv_if_eq (tgt := 93) hx hb d_M_total_50 (by decide) (fun hc => ?_) (fun hc => ?_)
        · replace hP := hP.1 hc
          exact w_93  _ _ _ _ _ _ _ _ _ hP hok (lv_sub hl [0, 1, 2, 3, 4] rfl)
        · replace hP := hP.2 hc
          refine lv_lload hx hb d_M_total_53 (lv_at hl 4 rfl) ?_
          refine lv_aload_n hx hb d_M_total_55 rfl (lv_at hl 0 rfl) ?_
          refine lv_iload hx hb d_M_total_56 (lv_at hl 5 rfl) ?_
          refine lv_iload_n hx hb d_M_total_58 rfl (lv_at hl 2 rfl) ?_
          refine lv_aload_n hx hb d_M_total_59 rfl (lv_at hl 0 rfl) ?_
          refine lv_iload_n hx hb d_M_total_60 rfl (lv_at hl 1 rfl) ?_
          refine lv_iload hx hb d_M_total_61 (lv_at hl 5 rfl) ?_
          obtain ⟨⟨fs9, he9⟩, hP⟩ := hP
          refine mo_calli hok (va_runV (As := [.int x1, .int x6]) (rest := [.int x2, .int x6, .ref x0, .long x4]) ⟨hx, hb, hml, hown, hts⟩ (cc_M_recording l L0 D hP) ⟨(callB_of 2 hts (lw_gi wd_772) rfl rfl rfl (hts _ wd_39) (hts _ wd_769) (by decide +kernel) ⟨Nat.le_of_ble_eq_true rfl, Nat.le_of_ble_eq_true rfl⟩), hts _ wd_771, hts _ wd_24⟩ (mo_preV hok he9 rfl [.int x1, .int x6]) rfl rfl hl.1 rfl (lv_room (Nat.le_of_ble_eq_true rfl)) d_M_total_63 ⟨Nat.zero_le _, Nat.zero_le _⟩) (fun r9 M8 H locs hP hok => ?_)
          obtain ⟨⟨fs9, he9⟩, hP⟩ := hP
          refine mo_calll hok (va_runV (As := [.int x6, .int x2, .int r9]) (rest := [.long x4]) ⟨hx, hb, hml, hown, hts⟩ (cc_M_stockAt l L0 D hP) ⟨(callB_of 3 hts (lw_gi wd_736) rfl rfl rfl (hts _ wd_39) (hts _ wd_733) (by decide +kernel) ⟨Nat.le_of_ble_eq_true rfl, Nat.le_of_ble_eq_true rfl⟩), hts _ wd_735, hts _ wd_18⟩ (mo_preV hok he9 rfl [.int x6, .int x2, .int r9]) rfl rfl hl.1 rfl (lv_room (Nat.le_of_ble_eq_true rfl)) d_M_total_66 ⟨Nat.zero_le _, Nat.zero_le _⟩) (fun r11 M10 H locs hP hok => ?_)
          refine lv_aload_n hx hb d_M_total_69 rfl (lv_at hl 0 rfl) ?_
          refine lv_iload hx hb d_M_total_70 (lv_at hl 5 rfl) ?_
          refine lv_iload_n hx hb d_M_total_72 rfl (lv_at hl 2 rfl) ?_
          refine lv_aload_n hx hb d_M_total_73 rfl (lv_at hl 0 rfl) ?_
          refine lv_iload_n hx hb d_M_total_74 rfl (lv_at hl 1 rfl) ?_
          refine lv_iload hx hb d_M_total_75 (lv_at hl 5 rfl) ?_
          obtain ⟨⟨fs9, he9⟩, hP⟩ := hP
          refine mo_calli hok (va_runV (As := [.int x1, .int x6]) (rest := [.int x2, .int x6, .ref x0, .long r11, .long x4]) ⟨hx, hb, hml, hown, hts⟩ (cc_M_recording l L0 D hP) ⟨(callB_of 2 hts (lw_gi wd_772) rfl rfl rfl (hts _ wd_39) (hts _ wd_769) (by decide +kernel) ⟨Nat.le_of_ble_eq_true rfl, Nat.le_of_ble_eq_true rfl⟩), hts _ wd_771, hts _ wd_24⟩ (mo_preV hok he9 rfl [.int x1, .int x6]) rfl rfl hl.1 rfl (lv_room (Nat.le_of_ble_eq_true rfl)) d_M_total_77 ⟨Nat.zero_le _, Nat.zero_le _⟩) (fun r13 M12 H locs hP hok => ?_)
          obtain ⟨⟨fs9, he9⟩, hP⟩ := hP
          refine mo_calll hok (va_runV (As := [.int x6, .int x2, .int r13]) (rest := [.long r11, .long x4]) ⟨hx, hb, hml, hown, hts⟩ (cc_M_tillAt l L0 D hP) ⟨(callB_of 3 hts (lw_gi wd_792) rfl rfl rfl (hts _ wd_39) (hts _ wd_789) (by decide +kernel) ⟨Nat.le_of_ble_eq_true rfl, Nat.le_of_ble_eq_true rfl⟩), hts _ wd_791, hts _ wd_26⟩ (mo_preV hok he9 rfl [.int x6, .int x2, .int r13]) rfl rfl hl.1 rfl (lv_room (Nat.le_of_ble_eq_true rfl)) d_M_total_80 ⟨Nat.zero_le _, Nat.zero_le _⟩) (fun r15 M14 H locs hP hok => ?_)
          refine lv_ladd hx hb d_M_total_83 ?_
          refine lv_ladd hx hb d_M_total_84 ?_
          refine lv_lstore (lv' := [(4, .long ((x4 + ((r11 + r15))))), (0, .ref x0), (1, .int x1), (2, .int x2), (3, .int x3), (6, .int x6)]) hx hb d_M_total_85 hl (by decide) rfl (fun ls hl => ?_)
          refine lv_iinc (k := 5) (v := x6 + 1) (lv' := [(6, .int (x6 + 1)), (4, .long ((x4 + ((r11 + r15))))), (0, .ref x0), (1, .int x1), (2, .int x2), (3, .int x3)]) hx hb d_M_total_87 hl rfl rfl (by decide) rfl (fun ls hl => ?_)
          refine lv_goto (tgt := 40) hx hb d_M_total_90 (by decide) ?_
          exact ih _ _ _ _ _ _ _ _ _ _ hP hok (lv_sub hl [2, 3, 4, 5, 1, 0] rfl)
  have w_31 : ∀ (M : mo_M) (x0 : Nat) (x1 : Int32) (x2 : Int32) (x3 : Int32) (s0 : Int32) (s1 : Nat) (H : Heap) (locs : List Loc) (ls : Array Slot), pp_M_total_b31 g e0 K M x0 x1 x2 x3 s0 s1 → mo_ok L0 e0 D vwCl (mo_T g) s M H locs → lv_has ls 7 [(0, .ref x0), (1, .int x1), (2, .int x2), (3, .int x3)] → W p l e (headSpec ws_M_total (mo_R 4 0 0 92)).room s m args below meth c H locs 0 0 (mo_Z below (mo_Ql L0 e0 D vwCl (mo_T g) K) args s 0 0 L0) (F0 m 31 ls [.int s0, .ref s1]) := by
    intro M x0 x1 x2 x3 s0 s1 H locs ls hP hok hl
    unfold pp_M_total_b31 at hP
    refine mr_pt (C := "PurseHouseModel") (T := F_4) (N := 27) (ref := "PurseHouseModel") (ty := .int) hx hb hts hown hok hP ui_4 ty_4 th_4 tn_4 rfl (by decide) (hts _ wd_610) (fun _ h => h) rfl (by decide +kernel) rfl rfl d_M_total_31 (fun M5 H locs hP hok => ?_)
    refine lv_lconst (v := 0) hx hb d_M_total_34 (by decide) ?_
    refine lv_lstore (lv' := [(4, .long ((0 : Int64))), (0, .ref x0), (1, .int x1), (2, .int x2), (3, .int x3)]) hx hb d_M_total_35 hl (by decide) rfl (fun ls hl => ?_)
    refine lv_iconst (v := 0) hx hb d_M_total_37 (by decide) ?_
    refine lv_istore (lv' := [(6, .int ((0 : Int32))), (4, .long ((0 : Int64))), (0, .ref x0), (1, .int x1), (2, .int x2), (3, .int x3)]) hx hb d_M_total_38 hl (by decide) rfl (fun ls hl => ?_)
    obtain ⟨n6, hP⟩ := hP
    exact w_40  n6 _ _ _ _ _ _ _ _ _ _ hP hok (lv_sub hl [2, 3, 4, 5, 1, 0] rfl)
  have w_20 : ∀ (M : mo_M) (x0 : Nat) (x1 : Int32) (x2 : Int32) (s0 : Int32) (H : Heap) (locs : List Loc) (ls : Array Slot), pp_M_total_b20 g e0 K M x0 x1 x2 s0 → mo_ok L0 e0 D vwCl (mo_T g) s M H locs → lv_has ls 7 [(0, .ref x0), (1, .int x1), (2, .int x2)] → W p l e (headSpec ws_M_total (mo_R 4 0 0 92)).room s m args below meth c H locs 0 0 (mo_Z below (mo_Ql L0 e0 D vwCl (mo_T g) K) args s 0 0 L0) (F0 m 20 ls [.int s0]) := by
    intro M x0 x1 x2 s0 H locs ls hP hok hl
    unfold pp_M_total_b20 at hP
    refine lv_istore_n (lv' := [(3, .int s0), (0, .ref x0), (1, .int x1), (2, .int x2)]) hx hb d_M_total_20 rfl hl (by decide) rfl (fun ls hl => ?_)
    refine lv_aload_n hx hb d_M_total_21 rfl (lv_at hl 1 rfl) ?_
    refine lv_iload_n hx hb d_M_total_22 rfl (lv_at hl 0 rfl) ?_
    refine lv_if_eq (tgt := 30) hx hb d_M_total_23 (by decide) (fun hc => ?_) (fun hc => ?_)
    · replace hP := hP.1 hc
      refine lv_iconst (v := 1) hx hb d_M_total_30 (by decide) ?_
      exact w_31  _ _ _ _ _ _ _ _ _ _ hP hok (lv_sub hl [1, 2, 3, 0] rfl)
    · replace hP := hP.2 hc
      refine lv_iconst (v := 0) hx hb d_M_total_26 (by decide) ?_
      refine lv_goto (tgt := 31) hx hb d_M_total_27 (by decide) ?_
      exact w_31  _ _ _ _ _ _ _ _ _ _ hP hok (lv_sub hl [1, 2, 3, 0] rfl)
  have w_19 : ∀ (M : mo_M) (x0 : Nat) (x1 : Int32) (x2 : Int32) (H : Heap) (locs : List Loc) (ls : Array Slot), pp_M_total_b19 g e0 K M x0 x1 x2 → mo_ok L0 e0 D vwCl (mo_T g) s M H locs → lv_has ls 7 [(0, .ref x0), (1, .int x1), (2, .int x2)] → W p l e (headSpec ws_M_total (mo_R 4 0 0 92)).room s m args below meth c H locs 0 0 (mo_Z below (mo_Ql L0 e0 D vwCl (mo_T g) K) args s 0 0 L0) (F0 m 19 ls []) := by
    intro M x0 x1 x2 H locs ls hP hok hl
    unfold pp_M_total_b19 at hP
    refine lv_iconst (v := 0) hx hb d_M_total_19 (by decide) ?_
    exact w_20  _ _ _ _ _ _ _ _ hP hok (lv_sub hl [0, 1, 2] rfl)
  have hok : mo_ok L0 e0 D vwCl (mo_T g) s M s.heap [] := ⟨hB0.1, hB0.2.1, hB0.2.2, va_S.rf⟩
  have hl := lv_entry ([.ref x0, .int x1, .int x2]) (n := 7) (Nat.le_of_ble_eq_true rfl)
  rw [hv1, lg_entry_eq]
  rw [← hv1]
  generalize (lg_sl [.ref x0, .int x1, .int x2] ++ List.replicate (7 - (lg_sl [.ref x0, .int x1, .int x2]).length) Slot.unset).toArray = ls at hl ⊢
  have hl : lv_has ls 7 [(0, .ref x0), (1, .int x1), (2, .int x2)] := hl
  unfold pp_M_total at hP
  refine lv_iload_n hx hb d_M_total_0 rfl (lv_at hl 2 rfl) ?_
  refine mo_calli hok (va_runS (As := [.int x2]) (rest := []) ⟨hx, hb, hml, hown, hts⟩ (cc_M_isCurrency l L0 D hP) ⟨(callB_of 1 hts (lw_gi wd_711) rfl rfl rfl (hts _ wd_39) (hts _ wd_709) (by decide +kernel) ⟨Nat.le_of_ble_eq_true rfl, Nat.le_of_ble_eq_true rfl⟩), hts _ wd_710⟩ (mo_preS hok [.int x2]) rfl rfl hl.1 rfl (lv_room (Nat.le_of_ble_eq_true rfl)) d_M_total_1 ⟨Nat.zero_le _, Nat.zero_le _⟩) (fun r2 M1 H locs hP hok => ?_)
  refine lv_if_eq (tgt := 19) hx hb d_M_total_4 (by decide) (fun hc => ?_) (fun hc => ?_)
  · replace hP := hP.1 hc
    exact w_19  _ _ _ _ _ _ _ hP hok (lv_sub hl [0, 1, 2] rfl)
  · replace hP := hP.2 hc
    refine lv_aload_n hx hb d_M_total_7 rfl (lv_at hl 0 rfl) ?_
    refine lv_iload_n hx hb d_M_total_8 rfl (lv_at hl 1 rfl) ?_
    obtain ⟨⟨fs9, he9⟩, hP⟩ := hP
    refine mo_calli hok (va_runV (As := [.int x1]) (rest := []) ⟨hx, hb, hml, hown, hts⟩ (cc_M_finished l L0 D hP) ⟨(callB_of 1 hts (lw_gi wd_812) rfl rfl rfl (hts _ wd_39) (hts _ wd_837) (by decide +kernel) ⟨Nat.le_of_ble_eq_true rfl, Nat.le_of_ble_eq_true rfl⟩), hts _ wd_810, hts _ wd_811⟩ (mo_preV hok he9 rfl [.int x1]) rfl rfl hl.1 rfl (lv_room (Nat.le_of_ble_eq_true rfl)) d_M_total_9 ⟨Nat.zero_le _, Nat.zero_le _⟩) (fun r4 M3 H locs hP hok => ?_)
    refine lv_if_eq (tgt := 19) hx hb d_M_total_12 (by decide) (fun hc => ?_) (fun hc => ?_)
    · replace hP := hP.1 hc
      exact w_19  _ _ _ _ _ _ _ hP hok (lv_sub hl [0, 1, 2] rfl)
    · replace hP := hP.2 hc
      refine lv_iconst (v := 1) hx hb d_M_total_15 (by decide) ?_
      refine lv_goto (tgt := 20) hx hb d_M_total_16 (by decide) ?_
      exact w_20  _ _ _ _ _ _ _ _ hP hok (lv_sub hl [0, 1, 2] rfl)

abbrev b_M_mintedAt : ByteArray := prog_6_method_13_code
def y_M_mintedAt : MethodName := ⟨"PurseHouseModel", "mintedAt", "(III)J"⟩
def ws_M_mintedAt : List Cond := .code y_M_mintedAt b_M_mintedAt 7 (Option.some Jvm.ClassFile.FieldType.long) :: lw_g
theorem d_M_mintedAt_0 : decode b_M_mintedAt 0 = .ok (.lconst 0, 1) := by decide +kernel
theorem d_M_mintedAt_1 : decode b_M_mintedAt 1 = .ok (.lstore 4, 2) := by decide +kernel
theorem d_M_mintedAt_3 : decode b_M_mintedAt 3 = .ok (.iconst 0, 1) := by decide +kernel
theorem d_M_mintedAt_4 : decode b_M_mintedAt 4 = .ok (.istore 6, 2) := by decide +kernel
theorem d_M_mintedAt_6 : decode b_M_mintedAt 6 = .ok (.iload 6, 2) := by decide +kernel
theorem d_M_mintedAt_8 : decode b_M_mintedAt 8 = .ok (.aload_n 0, 1) := by decide +kernel
theorem d_M_mintedAt_9 : decode b_M_mintedAt 9 = .ok (.getfield 97, 3) := by decide +kernel
theorem d_M_mintedAt_12 : decode b_M_mintedAt 12 = .ok (.if_icmp .ge 58, 3) := by decide +kernel
theorem d_M_mintedAt_15 : decode b_M_mintedAt 15 = .ok (.lload 4, 2) := by decide +kernel
theorem d_M_mintedAt_17 : decode b_M_mintedAt 17 = .ok (.aload_n 0, 1) := by decide +kernel
theorem d_M_mintedAt_18 : decode b_M_mintedAt 18 = .ok (.getfield 26, 3) := by decide +kernel
theorem d_M_mintedAt_21 : decode b_M_mintedAt 21 = .ok (.iload 6, 2) := by decide +kernel
theorem d_M_mintedAt_23 : decode b_M_mintedAt 23 = .ok (.iaload, 1) := by decide +kernel
theorem d_M_mintedAt_24 : decode b_M_mintedAt 24 = .ok (.iload_n 1, 1) := by decide +kernel
theorem d_M_mintedAt_25 : decode b_M_mintedAt 25 = .ok (.if_icmp .ne 35, 3) := by decide +kernel
theorem d_M_mintedAt_28 : decode b_M_mintedAt 28 = .ok (.aload_n 0, 1) := by decide +kernel
theorem d_M_mintedAt_29 : decode b_M_mintedAt 29 = .ok (.getfield 29, 3) := by decide +kernel
theorem d_M_mintedAt_32 : decode b_M_mintedAt 32 = .ok (.iload 6, 2) := by decide +kernel
theorem d_M_mintedAt_34 : decode b_M_mintedAt 34 = .ok (.iaload, 1) := by decide +kernel
theorem d_M_mintedAt_35 : decode b_M_mintedAt 35 = .ok (.iload_n 2, 1) := by decide +kernel
theorem d_M_mintedAt_36 : decode b_M_mintedAt 36 = .ok (.if_icmp .ne 24, 3) := by decide +kernel
theorem d_M_mintedAt_39 : decode b_M_mintedAt 39 = .ok (.aload_n 0, 1) := by decide +kernel
theorem d_M_mintedAt_40 : decode b_M_mintedAt 40 = .ok (.getfield 32, 3) := by decide +kernel
theorem d_M_mintedAt_43 : decode b_M_mintedAt 43 = .ok (.iload 6, 2) := by decide +kernel
theorem d_M_mintedAt_45 : decode b_M_mintedAt 45 = .ok (.iaload, 1) := by decide +kernel
theorem d_M_mintedAt_46 : decode b_M_mintedAt 46 = .ok (.iload_n 3, 1) := by decide +kernel
theorem d_M_mintedAt_47 : decode b_M_mintedAt 47 = .ok (.if_icmp .gt 13, 3) := by decide +kernel
theorem d_M_mintedAt_50 : decode b_M_mintedAt 50 = .ok (.aload_n 0, 1) := by decide +kernel
theorem d_M_mintedAt_51 : decode b_M_mintedAt 51 = .ok (.getfield 45, 3) := by decide +kernel
theorem d_M_mintedAt_54 : decode b_M_mintedAt 54 = .ok (.iload 6, 2) := by decide +kernel
theorem d_M_mintedAt_56 : decode b_M_mintedAt 56 = .ok (.laload, 1) := by decide +kernel
theorem d_M_mintedAt_57 : decode b_M_mintedAt 57 = .ok (.goto 4, 3) := by decide +kernel
theorem d_M_mintedAt_60 : decode b_M_mintedAt 60 = .ok (.lconst 0, 1) := by decide +kernel
theorem d_M_mintedAt_61 : decode b_M_mintedAt 61 = .ok (.ladd, 1) := by decide +kernel
theorem d_M_mintedAt_62 : decode b_M_mintedAt 62 = .ok (.lstore 4, 2) := by decide +kernel
theorem d_M_mintedAt_64 : decode b_M_mintedAt 64 = .ok (.iinc 6 1, 3) := by decide +kernel
theorem d_M_mintedAt_67 : decode b_M_mintedAt 67 = .ok (.goto (-61), 3) := by decide +kernel
theorem d_M_mintedAt_70 : decode b_M_mintedAt 70 = .ok (.lload 4, 2) := by decide +kernel
theorem d_M_mintedAt_72 : decode b_M_mintedAt 72 = .ok (.lreturn, 1) := by decide +kernel
def pp_M_mintedAt_b61 (g : Nat → ClassId) (e0 : Nat → Nat) (K : Int64 → mo_M → Prop) (B_6 : mo_M → Nat → Int32 → Int32 → Int32 → Int64 → Int32 → Prop) (M : mo_M) (x0 : Nat) (x1 : Int32) (x2 : Int32) (x3 : Int32) (x6 : Int32) (s0 : Int64) (s1 : Int64) : Prop := B_6 M x0 x1 x2 x3 ((s1 + s0)) (x6 + 1)
def pp_M_mintedAt_b60 (g : Nat → ClassId) (e0 : Nat → Nat) (K : Int64 → mo_M → Prop) (B_6 : mo_M → Nat → Int32 → Int32 → Int32 → Int64 → Int32 → Prop) (M : mo_M) (x0 : Nat) (x1 : Int32) (x2 : Int32) (x3 : Int32) (x6 : Int32) (s0 : Int64) : Prop := pp_M_mintedAt_b61 g e0 K B_6 M x0 x1 x2 x3 x6 ((0 : Int64)) s0
def pp_M_mintedAt_b6 (g : Nat → ClassId) (e0 : Nat → Nat) (K : Int64 → mo_M → Prop) : Nat → mo_M → Nat → Int32 → Int32 → Int32 → Int64 → Int32 → Prop
  | 0, _, _, _, _, _, _, _ => False
  | n + 1, M, x0, x1, x2, x3, x4, x6 => mp_gi M x0 4 9 (fun v2 => ((v2 ≤ x6 → K x4 M) ∧ (¬ (v2 ≤ x6) → mp_gr M x0 4 10 (fun v3 => mp_ai (g 0) M v3 x6 (fun v4 => ((v4 = x1 → mp_gr M x0 4 11 (fun v5 => mp_ai (g 0) M v5 x6 (fun v6 => ((v6 = x2 → mp_gr M x0 4 12 (fun v7 => mp_ai (g 0) M v7 x6 (fun v8 => ((x3 < v8 → pp_M_mintedAt_b60 g e0 K (fun M x0 x1 x2 x3 x4 x6 => pp_M_mintedAt_b6 g e0 K n M x0 x1 x2 x3 x4 x6) M x0 x1 x2 x3 x6 x4) ∧ (¬ (x3 < v8) → mp_gr M x0 4 16 (fun v9 => mp_al (g 1) M v9 x6 (fun v10 => pp_M_mintedAt_b61 g e0 K (fun M x0 x1 x2 x3 x4 x6 => pp_M_mintedAt_b6 g e0 K n M x0 x1 x2 x3 x4 x6) M x0 x1 x2 x3 x6 v10 x4))))))) ∧ (¬ (v6 = x2) → pp_M_mintedAt_b60 g e0 K (fun M x0 x1 x2 x3 x4 x6 => pp_M_mintedAt_b6 g e0 K n M x0 x1 x2 x3 x4 x6) M x0 x1 x2 x3 x6 x4))))) ∧ (¬ (v4 = x1) → pp_M_mintedAt_b60 g e0 K (fun M x0 x1 x2 x3 x4 x6 => pp_M_mintedAt_b6 g e0 K n M x0 x1 x2 x3 x4 x6) M x0 x1 x2 x3 x6 x4)))))))
def pp_M_mintedAt (g : Nat → ClassId) (e0 : Nat → Nat) (K : Int64 → mo_M → Prop) (M : mo_M) (x0 : Nat) (x1 : Int32) (x2 : Int32) (x3 : Int32) : Prop := ∃ n1 : Nat, pp_M_mintedAt_b6 g e0 K n1 M x0 x1 x2 x3 ((0 : Int64)) ((0 : Int32))
set_option maxHeartbeats 4000000 in
set_option maxRecDepth 100000 in
theorem cc_M_mintedAt (l : Launch) (L0 : Nat) (D : va_G) {g : Nat → ClassId} {e0 : Nat → Nat} {K : Int64 → mo_M → Prop} {M : mo_M} {x0 : Nat} {x1 : Int32} {x2 : Int32} {x3 : Int32} (hP : pp_M_mintedAt g e0 K M x0 x1 x2 x3) : Met l y_M_mintedAt ws_M_mintedAt (mo_R 0 0 0 0) (va_Pc [.ref x0, .int x1, .int x2, .int x3] (fun U => mo_B L0 e0 D vwCl (mo_T g) M U)) (mo_Ql L0 e0 D vwCl (mo_T g) K) 0 0 (fun q => L0 ≤ q) := by
  refine Met.ofW (cc := b_M_mintedAt) (maxL := 7) (ret := (Option.some Jvm.ClassFile.FieldType.long)) (by decide +kernel) rfl ?_
  intro p e s m args below meth c s₁ B hml hv
  obtain ⟨hv1, hB0⟩ := hv
  have hx := B.exec
  have hb := B.bytes
  have hr := B.returns
  have hts : ∀ w ∈ lw_g, w.before args s = true := fun w hw => atoms_spec (ws := ws_M_mintedAt) B.pre w (List.mem_cons_of_mem _ hw)
  have hown : s.vm.findClass "PurseHouseModel" = some m.cls := findClass_of_methodNamed B.named
  have hlocks := B.notSynchronized
  have w_61 : ∀ (B_6 : mo_M → Nat → Int32 → Int32 → Int32 → Int64 → Int32 → Prop) (hB_6 : ∀ (M : mo_M) (x0 : Nat) (x1 : Int32) (x2 : Int32) (x3 : Int32) (x4 : Int64) (x6 : Int32) (H : Heap) (locs : List Loc) (ls : Array Slot), B_6 M x0 x1 x2 x3 x4 x6 → mo_ok L0 e0 D vwCl (mo_T g) s M H locs → lv_has ls 7 [(0, .ref x0), (1, .int x1), (2, .int x2), (3, .int x3), (4, .long x4), (6, .int x6)] → W p l e (headSpec ws_M_mintedAt (mo_R 0 0 0 0)).room s m args below meth c H locs 0 0 (mo_Z below (mo_Ql L0 e0 D vwCl (mo_T g) K) args s 0 0 L0) (F0 m 6 ls [])) (M : mo_M) (x0 : Nat) (x1 : Int32) (x2 : Int32) (x3 : Int32) (x6 : Int32) (s0 : Int64) (s1 : Int64) (H : Heap) (locs : List Loc) (ls : Array Slot), pp_M_mintedAt_b61 g e0 K B_6 M x0 x1 x2 x3 x6 s0 s1 → mo_ok L0 e0 D vwCl (mo_T g) s M H locs → lv_has ls 7 [(0, .ref x0), (1, .int x1), (2, .int x2), (3, .int x3), (6, .int x6)] → W p l e (headSpec ws_M_mintedAt (mo_R 0 0 0 0)).room s m args below meth c H locs 0 0 (mo_Z below (mo_Ql L0 e0 D vwCl (mo_T g) K) args s 0 0 L0) (F0 m 61 ls [.long s0, .long s1]) := by
    intro B_6 hB_6 M x0 x1 x2 x3 x6 s0 s1 H locs ls hP hok hl
    unfold pp_M_mintedAt_b61 at hP
    refine lv_ladd hx hb d_M_mintedAt_61 ?_
    refine lv_lstore (lv' := [(4, .long ((s1 + s0))), (0, .ref x0), (1, .int x1), (2, .int x2), (3, .int x3), (6, .int x6)]) hx hb d_M_mintedAt_62 hl (by decide) rfl (fun ls hl => ?_)
    refine lv_iinc (k := 5) (v := x6 + 1) (lv' := [(6, .int (x6 + 1)), (4, .long ((s1 + s0))), (0, .ref x0), (1, .int x1), (2, .int x2), (3, .int x3)]) hx hb d_M_mintedAt_64 hl rfl rfl (by decide) rfl (fun ls hl => ?_)
    refine lv_goto (tgt := 6) hx hb d_M_mintedAt_67 (by decide) ?_
    exact hB_6 _ _ _ _ _ _ _ _ _ _ hP hok (lv_sub hl [2, 3, 4, 5, 1, 0] rfl)
  have w_60 : ∀ (B_6 : mo_M → Nat → Int32 → Int32 → Int32 → Int64 → Int32 → Prop) (hB_6 : ∀ (M : mo_M) (x0 : Nat) (x1 : Int32) (x2 : Int32) (x3 : Int32) (x4 : Int64) (x6 : Int32) (H : Heap) (locs : List Loc) (ls : Array Slot), B_6 M x0 x1 x2 x3 x4 x6 → mo_ok L0 e0 D vwCl (mo_T g) s M H locs → lv_has ls 7 [(0, .ref x0), (1, .int x1), (2, .int x2), (3, .int x3), (4, .long x4), (6, .int x6)] → W p l e (headSpec ws_M_mintedAt (mo_R 0 0 0 0)).room s m args below meth c H locs 0 0 (mo_Z below (mo_Ql L0 e0 D vwCl (mo_T g) K) args s 0 0 L0) (F0 m 6 ls [])) (M : mo_M) (x0 : Nat) (x1 : Int32) (x2 : Int32) (x3 : Int32) (x6 : Int32) (s0 : Int64) (H : Heap) (locs : List Loc) (ls : Array Slot), pp_M_mintedAt_b60 g e0 K B_6 M x0 x1 x2 x3 x6 s0 → mo_ok L0 e0 D vwCl (mo_T g) s M H locs → lv_has ls 7 [(0, .ref x0), (1, .int x1), (2, .int x2), (3, .int x3), (6, .int x6)] → W p l e (headSpec ws_M_mintedAt (mo_R 0 0 0 0)).room s m args below meth c H locs 0 0 (mo_Z below (mo_Ql L0 e0 D vwCl (mo_T g) K) args s 0 0 L0) (F0 m 60 ls [.long s0]) := by
    intro B_6 hB_6 M x0 x1 x2 x3 x6 s0 H locs ls hP hok hl
    unfold pp_M_mintedAt_b60 at hP
    refine lv_lconst (v := 0) hx hb d_M_mintedAt_60 (by decide) ?_
    exact w_61 B_6 hB_6 _ _ _ _ _ _ _ _ _ _ _ hP hok (lv_sub hl [0, 1, 2, 3, 4] rfl)
  have w_6 : ∀ (n : Nat) (M : mo_M) (x0 : Nat) (x1 : Int32) (x2 : Int32) (x3 : Int32) (x4 : Int64) (x6 : Int32) (H : Heap) (locs : List Loc) (ls : Array Slot), pp_M_mintedAt_b6 g e0 K n M x0 x1 x2 x3 x4 x6 → mo_ok L0 e0 D vwCl (mo_T g) s M H locs → lv_has ls 7 [(0, .ref x0), (1, .int x1), (2, .int x2), (3, .int x3), (4, .long x4), (6, .int x6)] → W p l e (headSpec ws_M_mintedAt (mo_R 0 0 0 0)).room s m args below meth c H locs 0 0 (mo_Z below (mo_Ql L0 e0 D vwCl (mo_T g) K) args s 0 0 L0) (F0 m 6 ls []) := by
    intro n
    induction n with
    | zero => intro M x0 x1 x2 x3 x4 x6 H locs ls hP; exact hP.elim
    | succ n ih =>
      intro M x0 x1 x2 x3 x4 x6 H locs ls hP hok hl
      unfold pp_M_mintedAt_b6 at hP
      refine lv_iload hx hb d_M_mintedAt_6 (lv_at hl 5 rfl) ?_
      refine lv_aload_n hx hb d_M_mintedAt_8 rfl (lv_at hl 0 rfl) ?_
      refine mr_gi (C := "PurseHouseModel") (T := F_4) (N := 27) (ref := "PurseHouseModel") hx hb hts hown hok hP ui_4 rfl (by decide) (hts _ wd_619) (fun _ h => h) d_M_mintedAt_9 (fun v2 hP => ?_)
      refine lv_icmp_ge (tgt := 70) hx hb d_M_mintedAt_12 (by decide) (fun hc => ?_) (fun hc => ?_)
      · replace hP := hP.1 hc
        refine lv_lload hx hb d_M_mintedAt_70 (lv_at hl 4 rfl) ?_
        exact mo_lret hx hb hr hlocks hok hP d_M_mintedAt_72
      · replace hP := hP.2 hc
        refine lv_lload hx hb d_M_mintedAt_15 (lv_at hl 4 rfl) ?_
        refine lv_aload_n hx hb d_M_mintedAt_17 rfl (lv_at hl 0 rfl) ?_
        refine mr_gr (C := "PurseHouseModel") (T := F_4) (N := 27) (ref := "PurseHouseModel") hx hb hts hown hok hP ui_4 rfl (by decide) (hts _ wd_620) (fun _ h => h) d_M_mintedAt_18 (fun v3 hP => ?_)
        refine lv_iload hx hb d_M_mintedAt_21 (lv_at hl 5 rfl) ?_
        refine mr_ai hx hb hok hP 0 rfl d_M_mintedAt_23 (fun v4 hP => ?_)
        refine lv_iload_n hx hb d_M_mintedAt_24 rfl (lv_at hl 1 rfl) ?_
        refine lv_icmp_ne (tgt := 60) hx hb d_M_mintedAt_25 (by decide) (fun hc => ?_) (fun hc => ?_)
        · replace hP := hP.2 hc
          exact w_60 _ ih _ _ _ _ _ _ _ _ _ _ hP hok (lv_sub hl [0, 1, 2, 3, 5] rfl)
        · replace hP := hP.1 hc
          refine lv_aload_n hx hb d_M_mintedAt_28 rfl (lv_at hl 0 rfl) ?_
          refine mr_gr (C := "PurseHouseModel") (T := F_4) (N := 27) (ref := "PurseHouseModel") hx hb hts hown hok hP ui_4 rfl (by decide) (hts _ wd_621) (fun _ h => h) d_M_mintedAt_29 (fun v5 hP => ?_)
          refine lv_iload hx hb d_M_mintedAt_32 (lv_at hl 5 rfl) ?_
          refine mr_ai hx hb hok hP 0 rfl d_M_mintedAt_34 (fun v6 hP => ?_)
          refine lv_iload_n hx hb d_M_mintedAt_35 rfl (lv_at hl 2 rfl) ?_
          refine lv_icmp_ne (tgt := 60) hx hb d_M_mintedAt_36 (by decide) (fun hc => ?_) (fun hc => ?_)
          · replace hP := hP.2 hc
            exact w_60 _ ih _ _ _ _ _ _ _ _ _ _ hP hok (lv_sub hl [0, 1, 2, 3, 5] rfl)
          · replace hP := hP.1 hc
            refine lv_aload_n hx hb d_M_mintedAt_39 rfl (lv_at hl 0 rfl) ?_
            refine mr_gr (C := "PurseHouseModel") (T := F_4) (N := 27) (ref := "PurseHouseModel") hx hb hts hown hok hP ui_4 rfl (by decide) (hts _ wd_622) (fun _ h => h) d_M_mintedAt_40 (fun v7 hP => ?_)
            refine lv_iload hx hb d_M_mintedAt_43 (lv_at hl 5 rfl) ?_
            refine mr_ai hx hb hok hP 0 rfl d_M_mintedAt_45 (fun v8 hP => ?_)
            refine lv_iload_n hx hb d_M_mintedAt_46 rfl (lv_at hl 3 rfl) ?_
            refine lv_icmp_gt (tgt := 60) hx hb d_M_mintedAt_47 (by decide) (fun hc => ?_) (fun hc => ?_)
            · replace hP := hP.1 hc
              exact w_60 _ ih _ _ _ _ _ _ _ _ _ _ hP hok (lv_sub hl [0, 1, 2, 3, 5] rfl)
            · replace hP := hP.2 hc
              refine lv_aload_n hx hb d_M_mintedAt_50 rfl (lv_at hl 0 rfl) ?_
              refine mr_gr (C := "PurseHouseModel") (T := F_4) (N := 27) (ref := "PurseHouseModel") hx hb hts hown hok hP ui_4 rfl (by decide) (hts _ wd_626) (fun _ h => h) d_M_mintedAt_51 (fun v9 hP => ?_)
              refine lv_iload hx hb d_M_mintedAt_54 (lv_at hl 5 rfl) ?_
              refine mr_al hx hb hok hP 1 rfl d_M_mintedAt_56 (fun v10 hP => ?_)
              refine lv_goto (tgt := 61) hx hb d_M_mintedAt_57 (by decide) ?_
              exact w_61 _ ih _ _ _ _ _ _ _ _ _ _ _ hP hok (lv_sub hl [0, 1, 2, 3, 5] rfl)
  have hok : mo_ok L0 e0 D vwCl (mo_T g) s M s.heap [] := ⟨hB0.1, hB0.2.1, hB0.2.2, va_S.rf⟩
  have hl := lv_entry ([.ref x0, .int x1, .int x2, .int x3]) (n := 7) (Nat.le_of_ble_eq_true rfl)
  rw [hv1, lg_entry_eq]
  rw [← hv1]
  generalize (lg_sl [.ref x0, .int x1, .int x2, .int x3] ++ List.replicate (7 - (lg_sl [.ref x0, .int x1, .int x2, .int x3]).length) Slot.unset).toArray = ls at hl ⊢
  have hl : lv_has ls 7 [(0, .ref x0), (1, .int x1), (2, .int x2), (3, .int x3)] := hl
  unfold pp_M_mintedAt at hP
  refine lv_lconst (v := 0) hx hb d_M_mintedAt_0 (by decide) ?_
  refine lv_lstore (lv' := [(4, .long ((0 : Int64))), (0, .ref x0), (1, .int x1), (2, .int x2), (3, .int x3)]) hx hb d_M_mintedAt_1 hl (by decide) rfl (fun ls hl => ?_)
  refine lv_iconst (v := 0) hx hb d_M_mintedAt_3 (by decide) ?_
  refine lv_istore (lv' := [(6, .int ((0 : Int32))), (4, .long ((0 : Int64))), (0, .ref x0), (1, .int x1), (2, .int x2), (3, .int x3)]) hx hb d_M_mintedAt_4 hl (by decide) rfl (fun ls hl => ?_)
  obtain ⟨n1, hP⟩ := hP
  exact w_6  n1 _ _ _ _ _ _ _ _ _ _ hP hok (lv_sub hl [2, 3, 4, 5, 1, 0] rfl)

abbrev b_M_minted : ByteArray := prog_6_method_39_code
def y_M_minted : MethodName := ⟨"PurseHouseModel", "minted", "(II)J"⟩
def ws_M_minted : List Cond := .code y_M_minted b_M_minted 6 (Option.some Jvm.ClassFile.FieldType.long) :: lw_g
theorem d_M_minted_0 : decode b_M_minted 0 = .ok (.aload_n 0, 1) := by decide +kernel
theorem d_M_minted_1 : decode b_M_minted 1 = .ok (.iconst 0, 1) := by decide +kernel
theorem d_M_minted_2 : decode b_M_minted 2 = .ok (.putfield 76, 3) := by decide +kernel
theorem d_M_minted_5 : decode b_M_minted 5 = .ok (.lconst 0, 1) := by decide +kernel
theorem d_M_minted_6 : decode b_M_minted 6 = .ok (.lstore_n 3, 1) := by decide +kernel
theorem d_M_minted_7 : decode b_M_minted 7 = .ok (.aload_n 0, 1) := by decide +kernel
theorem d_M_minted_8 : decode b_M_minted 8 = .ok (.iload_n 1, 1) := by decide +kernel
theorem d_M_minted_9 : decode b_M_minted 9 = .ok (.invokevirtual 146, 3) := by decide +kernel
theorem d_M_minted_12 : decode b_M_minted 12 = .ok (.ifCond .eq 10, 3) := by decide +kernel
theorem d_M_minted_15 : decode b_M_minted 15 = .ok (.iload_n 2, 1) := by decide +kernel
theorem d_M_minted_16 : decode b_M_minted 16 = .ok (.invokestatic 90, 3) := by decide +kernel
theorem d_M_minted_19 : decode b_M_minted 19 = .ok (.ifCond .ne 5, 3) := by decide +kernel
theorem d_M_minted_22 : decode b_M_minted 22 = .ok (.lload_n 3, 1) := by decide +kernel
theorem d_M_minted_23 : decode b_M_minted 23 = .ok (.lreturn, 1) := by decide +kernel
theorem d_M_minted_24 : decode b_M_minted 24 = .ok (.iconst 0, 1) := by decide +kernel
theorem d_M_minted_25 : decode b_M_minted 25 = .ok (.istore 5, 2) := by decide +kernel
theorem d_M_minted_27 : decode b_M_minted 27 = .ok (.iload 5, 2) := by decide +kernel
theorem d_M_minted_29 : decode b_M_minted 29 = .ok (.aload_n 0, 1) := by decide +kernel
theorem d_M_minted_30 : decode b_M_minted 30 = .ok (.getfield 72, 3) := by decide +kernel
theorem d_M_minted_33 : decode b_M_minted 33 = .ok (.if_icmp .ge 40, 3) := by decide +kernel
theorem d_M_minted_36 : decode b_M_minted 36 = .ok (.lload_n 3, 1) := by decide +kernel
theorem d_M_minted_37 : decode b_M_minted 37 = .ok (.aload_n 0, 1) := by decide +kernel
theorem d_M_minted_38 : decode b_M_minted 38 = .ok (.iload_n 1, 1) := by decide +kernel
theorem d_M_minted_39 : decode b_M_minted 39 = .ok (.iload 5, 2) := by decide +kernel
theorem d_M_minted_41 : decode b_M_minted 41 = .ok (.invokevirtual 122, 3) := by decide +kernel
theorem d_M_minted_44 : decode b_M_minted 44 = .ok (.ifCond .le 20, 3) := by decide +kernel
theorem d_M_minted_47 : decode b_M_minted 47 = .ok (.aload_n 0, 1) := by decide +kernel
theorem d_M_minted_48 : decode b_M_minted 48 = .ok (.iload 5, 2) := by decide +kernel
theorem d_M_minted_50 : decode b_M_minted 50 = .ok (.iload_n 2, 1) := by decide +kernel
theorem d_M_minted_51 : decode b_M_minted 51 = .ok (.aload_n 0, 1) := by decide +kernel
theorem d_M_minted_52 : decode b_M_minted 52 = .ok (.iload_n 1, 1) := by decide +kernel
theorem d_M_minted_53 : decode b_M_minted 53 = .ok (.iload 5, 2) := by decide +kernel
theorem d_M_minted_55 : decode b_M_minted 55 = .ok (.invokevirtual 122, 3) := by decide +kernel
theorem d_M_minted_58 : decode b_M_minted 58 = .ok (.invokevirtual 161, 3) := by decide +kernel
theorem d_M_minted_61 : decode b_M_minted 61 = .ok (.goto 4, 3) := by decide +kernel
theorem d_M_minted_64 : decode b_M_minted 64 = .ok (.lconst 0, 1) := by decide +kernel
theorem d_M_minted_65 : decode b_M_minted 65 = .ok (.ladd, 1) := by decide +kernel
theorem d_M_minted_66 : decode b_M_minted 66 = .ok (.lstore_n 3, 1) := by decide +kernel
theorem d_M_minted_67 : decode b_M_minted 67 = .ok (.iinc 5 1, 3) := by decide +kernel
theorem d_M_minted_70 : decode b_M_minted 70 = .ok (.goto (-43), 3) := by decide +kernel
theorem d_M_minted_73 : decode b_M_minted 73 = .ok (.lload_n 3, 1) := by decide +kernel
theorem d_M_minted_74 : decode b_M_minted 74 = .ok (.lreturn, 1) := by decide +kernel
def pp_M_minted_b65 (g : Nat → ClassId) (e0 : Nat → Nat) (K : Int64 → mo_M → Prop) (B_27 : mo_M → Nat → Int32 → Int32 → Int64 → Int32 → Prop) (M : mo_M) (x0 : Nat) (x1 : Int32) (x2 : Int32) (x5 : Int32) (s0 : Int64) (s1 : Int64) : Prop := B_27 M x0 x1 x2 ((s1 + s0)) (x5 + 1)
def pp_M_minted_b27 (g : Nat → ClassId) (e0 : Nat → Nat) (K : Int64 → mo_M → Prop) : Nat → mo_M → Nat → Int32 → Int32 → Int64 → Int32 → Prop
  | 0, _, _, _, _, _, _ => False
  | n + 1, M, x0, x1, x2, x3, x5 => mp_gi M x0 4 1 (fun v7 => ((v7 ≤ x5 → K x3 M) ∧ (¬ (v7 ≤ x5) → (mp_is M x0 4 ∧ pp_M_recording g e0 (fun r9 M8 => ((r9 ≤ 0 → pp_M_minted_b65 g e0 K (fun M x0 x1 x2 x3 x5 => pp_M_minted_b27 g e0 K n M x0 x1 x2 x3 x5) M8 x0 x1 x2 x5 ((0 : Int64)) x3) ∧ (¬ (r9 ≤ 0) → (mp_is M8 x0 4 ∧ pp_M_recording g e0 (fun r11 M10 => (mp_is M10 x0 4 ∧ pp_M_mintedAt g e0 (fun r13 M12 => pp_M_minted_b65 g e0 K (fun M x0 x1 x2 x3 x5 => pp_M_minted_b27 g e0 K n M x0 x1 x2 x3 x5) M12 x0 x1 x2 x5 r13 x3) M10 x0 x5 x2 r11)) M8 x0 x1 x5)))) M x0 x1 x5))))
def pp_M_minted (g : Nat → ClassId) (e0 : Nat → Nat) (K : Int64 → mo_M → Prop) (M : mo_M) (x0 : Nat) (x1 : Int32) (x2 : Int32) : Prop := mp_pt M x0 4 0 (.int ((0 : Int32))) (fun M1 => (mp_is M1 x0 4 ∧ pp_M_isNumber g e0 (fun r3 M2 => ((r3 = 0 → K ((0 : Int64)) M2) ∧ (¬ (r3 = 0) → pp_M_isCurrency g e0 (fun r5 M4 => ((r5 = 0 → K ((0 : Int64)) M4) ∧ (¬ (r5 = 0) → ∃ n6 : Nat, pp_M_minted_b27 g e0 K n6 M4 x0 x1 x2 ((0 : Int64)) ((0 : Int32))))) M2 x2))) M1 x0 x1))
set_option maxHeartbeats 4000000 in
set_option maxRecDepth 100000 in
theorem cc_M_minted (l : Launch) (L0 : Nat) (D : va_G) {g : Nat → ClassId} {e0 : Nat → Nat} {K : Int64 → mo_M → Prop} {M : mo_M} {x0 : Nat} {x1 : Int32} {x2 : Int32} (hP : pp_M_minted g e0 K M x0 x1 x2) : Met l y_M_minted ws_M_minted (mo_R 1 0 0 26) (va_Pc [.ref x0, .int x1, .int x2] (fun U => mo_B L0 e0 D vwCl (mo_T g) M U)) (mo_Ql L0 e0 D vwCl (mo_T g) K) 0 0 (fun q => L0 ≤ q) := by
  refine Met.ofW (cc := b_M_minted) (maxL := 6) (ret := (Option.some Jvm.ClassFile.FieldType.long)) (by decide +kernel) rfl ?_
  intro p e s m args below meth c s₁ B hml hv
  obtain ⟨hv1, hB0⟩ := hv
  have hx := B.exec
  have hb := B.bytes
  have hr := B.returns
  have hts : ∀ w ∈ lw_g, w.before args s = true := fun w hw => atoms_spec (ws := ws_M_minted) B.pre w (List.mem_cons_of_mem _ hw)
  have hown : s.vm.findClass "PurseHouseModel" = some m.cls := findClass_of_methodNamed B.named
  have hlocks := B.notSynchronized
  have w_65 : ∀ (B_27 : mo_M → Nat → Int32 → Int32 → Int64 → Int32 → Prop) (hB_27 : ∀ (M : mo_M) (x0 : Nat) (x1 : Int32) (x2 : Int32) (x3 : Int64) (x5 : Int32) (H : Heap) (locs : List Loc) (ls : Array Slot), B_27 M x0 x1 x2 x3 x5 → mo_ok L0 e0 D vwCl (mo_T g) s M H locs → lv_has ls 6 [(0, .ref x0), (1, .int x1), (2, .int x2), (3, .long x3), (5, .int x5)] → W p l e (headSpec ws_M_minted (mo_R 1 0 0 26)).room s m args below meth c H locs 0 0 (mo_Z below (mo_Ql L0 e0 D vwCl (mo_T g) K) args s 0 0 L0) (F0 m 27 ls [])) (M : mo_M) (x0 : Nat) (x1 : Int32) (x2 : Int32) (x5 : Int32) (s0 : Int64) (s1 : Int64) (H : Heap) (locs : List Loc) (ls : Array Slot), pp_M_minted_b65 g e0 K B_27 M x0 x1 x2 x5 s0 s1 → mo_ok L0 e0 D vwCl (mo_T g) s M H locs → lv_has ls 6 [(0, .ref x0), (1, .int x1), (2, .int x2), (5, .int x5)] → W p l e (headSpec ws_M_minted (mo_R 1 0 0 26)).room s m args below meth c H locs 0 0 (mo_Z below (mo_Ql L0 e0 D vwCl (mo_T g) K) args s 0 0 L0) (F0 m 65 ls [.long s0, .long s1]) := by
    intro B_27 hB_27 M x0 x1 x2 x5 s0 s1 H locs ls hP hok hl
    unfold pp_M_minted_b65 at hP
    refine lv_ladd hx hb d_M_minted_65 ?_
    refine lv_lstore_n (lv' := [(3, .long ((s1 + s0))), (0, .ref x0), (1, .int x1), (2, .int x2), (5, .int x5)]) hx hb d_M_minted_66 rfl hl (by decide) rfl (fun ls hl => ?_)
    refine lv_iinc (k := 4) (v := x5 + 1) (lv' := [(5, .int (x5 + 1)), (3, .long ((s1 + s0))), (0, .ref x0), (1, .int x1), (2, .int x2)]) hx hb d_M_minted_67 hl rfl rfl (by decide) rfl (fun ls hl => ?_)
    refine lv_goto (tgt := 27) hx hb d_M_minted_70 (by decide) ?_
    exact hB_27 _ _ _ _ _ _ _ _ _ hP hok (lv_sub hl [2, 3, 4, 1, 0] rfl)
  have w_27 : ∀ (n : Nat) (M : mo_M) (x0 : Nat) (x1 : Int32) (x2 : Int32) (x3 : Int64) (x5 : Int32) (H : Heap) (locs : List Loc) (ls : Array Slot), pp_M_minted_b27 g e0 K n M x0 x1 x2 x3 x5 → mo_ok L0 e0 D vwCl (mo_T g) s M H locs → lv_has ls 6 [(0, .ref x0), (1, .int x1), (2, .int x2), (3, .long x3), (5, .int x5)] → W p l e (headSpec ws_M_minted (mo_R 1 0 0 26)).room s m args below meth c H locs 0 0 (mo_Z below (mo_Ql L0 e0 D vwCl (mo_T g) K) args s 0 0 L0) (F0 m 27 ls []) := by
    intro n
    induction n with
    | zero => intro M x0 x1 x2 x3 x5 H locs ls hP; exact hP.elim
    | succ n ih =>
      intro M x0 x1 x2 x3 x5 H locs ls hP hok hl
      unfold pp_M_minted_b27 at hP
      refine lv_iload hx hb d_M_minted_27 (lv_at hl 4 rfl) ?_
      refine lv_aload_n hx hb d_M_minted_29 rfl (lv_at hl 0 rfl) ?_
      refine mr_gi (C := "PurseHouseModel") (T := F_4) (N := 27) (ref := "PurseHouseModel") hx hb hts hown hok hP ui_4 rfl (by decide) (hts _ wd_611) (fun _ h => h) d_M_minted_30 (fun v7 hP => ?_)
      refine lv_icmp_ge (tgt := 73) hx hb d_M_minted_33 (by decide) (fun hc => ?_) (fun hc => ?_)
      · replace hP := hP.1 hc
        refine lv_lload_n hx hb d_M_minted_73 rfl (lv_at hl 3 rfl) ?_
        exact mo_lret hx hb hr hlocks hok hP d_M_minted_74
      · replace hP := hP.2 hc
        refine lv_lload_n hx hb d_M_minted_36 rfl (lv_at hl 3 rfl) ?_
        refine lv_aload_n hx hb d_M_minted_37 rfl (lv_at hl 0 rfl) ?_
        refine lv_iload_n hx hb d_M_minted_38 rfl (lv_at hl 1 rfl) ?_
        refine lv_iload hx hb d_M_minted_39 (lv_at hl 4 rfl) ?_
        obtain ⟨⟨fs9, he9⟩, hP⟩ := hP
        refine mo_calli hok (va_runV (As := [.int x1, .int x5]) (rest := [.long x3]) ⟨hx, hb, hml, hown, hts⟩ (cc_M_recording l L0 D hP) ⟨(callB_of 2 hts (lw_gi wd_772) rfl rfl rfl (hts _ wd_39) (hts _ wd_769) (by decide +kernel) ⟨Nat.le_of_ble_eq_true rfl, Nat.le_of_ble_eq_true rfl⟩), hts _ wd_771, hts _ wd_24⟩ (mo_preV hok he9 rfl [.int x1, .int x5]) rfl rfl hl.1 rfl (lv_room (Nat.le_of_ble_eq_true rfl)) d_M_minted_41 ⟨Nat.zero_le _, Nat.zero_le _⟩) (fun r9 M8 H locs hP hok => ?_)
        refine lv_if_le (tgt := 64) hx hb d_M_minted_44 (by decide) (fun hc => ?_) (fun hc => ?_)
        · replace hP := hP.1 hc
          refine lv_lconst (v := 0) hx hb d_M_minted_64 (by decide) ?_
          exact w_65 _ ih _ _ _ _ _ _ _ _ _ _ hP hok (lv_sub hl [0, 1, 2, 4] rfl)
        · replace hP := hP.2 hc
          refine lv_aload_n hx hb d_M_minted_47 rfl (lv_at hl 0 rfl) ?_
          refine lv_iload hx hb d_M_minted_48 (lv_at hl 4 rfl) ?_
          refine lv_iload_n hx hb d_M_minted_50 rfl (lv_at hl 2 rfl) ?_
          refine lv_aload_n hx hb d_M_minted_51 rfl (lv_at hl 0 rfl) ?_
          refine lv_iload_n hx hb d_M_minted_52 rfl (lv_at hl 1 rfl) ?_
          refine lv_iload hx hb d_M_minted_53 (lv_at hl 4 rfl) ?_
          obtain ⟨⟨fs9, he9⟩, hP⟩ := hP
          refine mo_calli hok (va_runV (As := [.int x1, .int x5]) (rest := [.int x2, .int x5, .ref x0, .long x3]) ⟨hx, hb, hml, hown, hts⟩ (cc_M_recording l L0 D hP) ⟨(callB_of 2 hts (lw_gi wd_772) rfl rfl rfl (hts _ wd_39) (hts _ wd_769) (by decide +kernel) ⟨Nat.le_of_ble_eq_true rfl, Nat.le_of_ble_eq_true rfl⟩), hts _ wd_771, hts _ wd_24⟩ (mo_preV hok he9 rfl [.int x1, .int x5]) rfl rfl hl.1 rfl (lv_room (Nat.le_of_ble_eq_true rfl)) d_M_minted_55 ⟨Nat.zero_le _, Nat.zero_le _⟩) (fun r11 M10 H locs hP hok => ?_)
          obtain ⟨⟨fs9, he9⟩, hP⟩ := hP
          refine mo_calll hok (va_runV (As := [.int x5, .int x2, .int r11]) (rest := [.long x3]) ⟨hx, hb, hml, hown, hts⟩ (cc_M_mintedAt l L0 D hP) ⟨(callB_of 3 hts (lw_gi wd_845) rfl rfl rfl (hts _ wd_39) (hts _ wd_842) (by decide +kernel) ⟨Nat.le_of_ble_eq_true rfl, Nat.le_of_ble_eq_true rfl⟩), hts _ wd_844, hts _ wd_31⟩ (mo_preV hok he9 rfl [.int x5, .int x2, .int r11]) rfl rfl hl.1 rfl (lv_room (Nat.le_of_ble_eq_true rfl)) d_M_minted_58 ⟨Nat.zero_le _, Nat.zero_le _⟩) (fun r13 M12 H locs hP hok => ?_)
          refine lv_goto (tgt := 65) hx hb d_M_minted_61 (by decide) ?_
          exact w_65 _ ih _ _ _ _ _ _ _ _ _ _ hP hok (lv_sub hl [0, 1, 2, 4] rfl)
  have hok : mo_ok L0 e0 D vwCl (mo_T g) s M s.heap [] := ⟨hB0.1, hB0.2.1, hB0.2.2, va_S.rf⟩
  have hl := lv_entry ([.ref x0, .int x1, .int x2]) (n := 6) (Nat.le_of_ble_eq_true rfl)
  rw [hv1, lg_entry_eq]
  rw [← hv1]
  generalize (lg_sl [.ref x0, .int x1, .int x2] ++ List.replicate (6 - (lg_sl [.ref x0, .int x1, .int x2]).length) Slot.unset).toArray = ls at hl ⊢
  have hl : lv_has ls 6 [(0, .ref x0), (1, .int x1), (2, .int x2)] := hl
  unfold pp_M_minted at hP
  refine lv_aload_n hx hb d_M_minted_0 rfl (lv_at hl 0 rfl) ?_
  refine lv_iconst (v := 0) hx hb d_M_minted_1 (by decide) ?_
  refine mr_pt (C := "PurseHouseModel") (T := F_4) (N := 27) (ref := "PurseHouseModel") (ty := .int) hx hb hts hown hok hP ui_4 ty_4 th_4 tn_4 rfl (by decide) (hts _ wd_610) (fun _ h => h) rfl (by decide +kernel) rfl rfl d_M_minted_2 (fun M1 H locs hP hok => ?_)
  refine lv_lconst (v := 0) hx hb d_M_minted_5 (by decide) ?_
  refine lv_lstore_n (lv' := [(3, .long ((0 : Int64))), (0, .ref x0), (1, .int x1), (2, .int x2)]) hx hb d_M_minted_6 rfl hl (by decide) rfl (fun ls hl => ?_)
  refine lv_aload_n hx hb d_M_minted_7 rfl (lv_at hl 1 rfl) ?_
  refine lv_iload_n hx hb d_M_minted_8 rfl (lv_at hl 2 rfl) ?_
  obtain ⟨⟨fs9, he9⟩, hP⟩ := hP
  refine mo_calli hok (va_runV (As := [.int x1]) (rest := []) ⟨hx, hb, hml, hown, hts⟩ (cc_M_isNumber l L0 D hP) ⟨(callB_of 1 hts (lw_gi wd_808) rfl rfl rfl (hts _ wd_39) (hts _ wd_805) (by decide +kernel) ⟨Nat.le_of_ble_eq_true rfl, Nat.le_of_ble_eq_true rfl⟩), hts _ wd_807, hts _ wd_27⟩ (mo_preV hok he9 rfl [.int x1]) rfl rfl hl.1 rfl (lv_room (Nat.le_of_ble_eq_true rfl)) d_M_minted_9 ⟨Nat.zero_le _, Nat.zero_le _⟩) (fun r3 M2 H locs hP hok => ?_)
  refine lv_if_eq (tgt := 22) hx hb d_M_minted_12 (by decide) (fun hc => ?_) (fun hc => ?_)
  · replace hP := hP.1 hc
    refine lv_lload_n hx hb d_M_minted_22 rfl (lv_at hl 0 rfl) ?_
    exact mo_lret hx hb hr hlocks hok hP d_M_minted_23
  · replace hP := hP.2 hc
    refine lv_iload_n hx hb d_M_minted_15 rfl (lv_at hl 3 rfl) ?_
    refine mo_calli hok (va_runS (As := [.int x2]) (rest := []) ⟨hx, hb, hml, hown, hts⟩ (cc_M_isCurrency l L0 D hP) ⟨(callB_of 1 hts (lw_gi wd_711) rfl rfl rfl (hts _ wd_39) (hts _ wd_709) (by decide +kernel) ⟨Nat.le_of_ble_eq_true rfl, Nat.le_of_ble_eq_true rfl⟩), hts _ wd_710⟩ (mo_preS hok [.int x2]) rfl rfl hl.1 rfl (lv_room (Nat.le_of_ble_eq_true rfl)) d_M_minted_16 ⟨Nat.zero_le _, Nat.zero_le _⟩) (fun r5 M4 H locs hP hok => ?_)
    refine lv_if_ne (tgt := 24) hx hb d_M_minted_19 (by decide) (fun hc => ?_) (fun hc => ?_)
    · replace hP := hP.2 hc
      refine lv_iconst (v := 0) hx hb d_M_minted_24 (by decide) ?_
      refine lv_istore (lv' := [(5, .int ((0 : Int32))), (3, .long ((0 : Int64))), (0, .ref x0), (1, .int x1), (2, .int x2)]) hx hb d_M_minted_25 hl (by decide) rfl (fun ls hl => ?_)
      obtain ⟨n6, hP⟩ := hP
      exact w_27  n6 _ _ _ _ _ _ _ _ _ hP hok (lv_sub hl [2, 3, 4, 1, 0] rfl)
    · replace hP := hP.1 hc
      refine lv_lload_n hx hb d_M_minted_22 rfl (lv_at hl 0 rfl) ?_
      exact mo_lret hx hb hr hlocks hok hP d_M_minted_23

abbrev b_M_trueTotal : ByteArray := prog_6_method_40_code
def y_M_trueTotal : MethodName := ⟨"PurseHouseModel", "trueTotal", "(I)J"⟩
def ws_M_trueTotal : List Cond := .code y_M_trueTotal b_M_trueTotal 5 (Option.some Jvm.ClassFile.FieldType.long) :: lw_g
theorem d_M_trueTotal_0 : decode b_M_trueTotal 0 = .ok (.aload_n 0, 1) := by decide +kernel
theorem d_M_trueTotal_1 : decode b_M_trueTotal 1 = .ok (.iconst 0, 1) := by decide +kernel
theorem d_M_trueTotal_2 : decode b_M_trueTotal 2 = .ok (.putfield 76, 3) := by decide +kernel
theorem d_M_trueTotal_5 : decode b_M_trueTotal 5 = .ok (.lconst 0, 1) := by decide +kernel
theorem d_M_trueTotal_6 : decode b_M_trueTotal 6 = .ok (.lstore_n 2, 1) := by decide +kernel
theorem d_M_trueTotal_7 : decode b_M_trueTotal 7 = .ok (.iconst 0, 1) := by decide +kernel
theorem d_M_trueTotal_8 : decode b_M_trueTotal 8 = .ok (.istore 4, 2) := by decide +kernel
theorem d_M_trueTotal_10 : decode b_M_trueTotal 10 = .ok (.iload 4, 2) := by decide +kernel
theorem d_M_trueTotal_12 : decode b_M_trueTotal 12 = .ok (.aload_n 0, 1) := by decide +kernel
theorem d_M_trueTotal_13 : decode b_M_trueTotal 13 = .ok (.getfield 72, 3) := by decide +kernel
theorem d_M_trueTotal_16 : decode b_M_trueTotal 16 = .ok (.if_icmp .ge 42, 3) := by decide +kernel
theorem d_M_trueTotal_19 : decode b_M_trueTotal 19 = .ok (.iload_n 1, 1) := by decide +kernel
theorem d_M_trueTotal_20 : decode b_M_trueTotal 20 = .ok (.invokestatic 90, 3) := by decide +kernel
theorem d_M_trueTotal_23 : decode b_M_trueTotal 23 = .ok (.ifCond .eq 35, 3) := by decide +kernel
theorem d_M_trueTotal_26 : decode b_M_trueTotal 26 = .ok (.lload_n 2, 1) := by decide +kernel
theorem d_M_trueTotal_27 : decode b_M_trueTotal 27 = .ok (.aload_n 0, 1) := by decide +kernel
theorem d_M_trueTotal_28 : decode b_M_trueTotal 28 = .ok (.iload 4, 2) := by decide +kernel
theorem d_M_trueTotal_30 : decode b_M_trueTotal 30 = .ok (.iload_n 1, 1) := by decide +kernel
theorem d_M_trueTotal_31 : decode b_M_trueTotal 31 = .ok (.aload_n 0, 1) := by decide +kernel
theorem d_M_trueTotal_32 : decode b_M_trueTotal 32 = .ok (.getfield 94, 3) := by decide +kernel
theorem d_M_trueTotal_35 : decode b_M_trueTotal 35 = .ok (.invokevirtual 107, 3) := by decide +kernel
theorem d_M_trueTotal_38 : decode b_M_trueTotal 38 = .ok (.aload_n 0, 1) := by decide +kernel
theorem d_M_trueTotal_39 : decode b_M_trueTotal 39 = .ok (.iload 4, 2) := by decide +kernel
theorem d_M_trueTotal_41 : decode b_M_trueTotal 41 = .ok (.iload_n 1, 1) := by decide +kernel
theorem d_M_trueTotal_42 : decode b_M_trueTotal 42 = .ok (.aload_n 0, 1) := by decide +kernel
theorem d_M_trueTotal_43 : decode b_M_trueTotal 43 = .ok (.getfield 94, 3) := by decide +kernel
theorem d_M_trueTotal_46 : decode b_M_trueTotal 46 = .ok (.invokevirtual 143, 3) := by decide +kernel
theorem d_M_trueTotal_49 : decode b_M_trueTotal 49 = .ok (.ladd, 1) := by decide +kernel
theorem d_M_trueTotal_50 : decode b_M_trueTotal 50 = .ok (.ladd, 1) := by decide +kernel
theorem d_M_trueTotal_51 : decode b_M_trueTotal 51 = .ok (.lstore_n 2, 1) := by decide +kernel
theorem d_M_trueTotal_52 : decode b_M_trueTotal 52 = .ok (.iinc 4 1, 3) := by decide +kernel
theorem d_M_trueTotal_55 : decode b_M_trueTotal 55 = .ok (.goto (-45), 3) := by decide +kernel
theorem d_M_trueTotal_58 : decode b_M_trueTotal 58 = .ok (.iconst 0, 1) := by decide +kernel
theorem d_M_trueTotal_59 : decode b_M_trueTotal 59 = .ok (.istore 4, 2) := by decide +kernel
theorem d_M_trueTotal_61 : decode b_M_trueTotal 61 = .ok (.iload 4, 2) := by decide +kernel
theorem d_M_trueTotal_63 : decode b_M_trueTotal 63 = .ok (.aload_n 0, 1) := by decide +kernel
theorem d_M_trueTotal_64 : decode b_M_trueTotal 64 = .ok (.getfield 115, 3) := by decide +kernel
theorem d_M_trueTotal_67 : decode b_M_trueTotal 67 = .ok (.if_icmp .ge 56, 3) := by decide +kernel
theorem d_M_trueTotal_70 : decode b_M_trueTotal 70 = .ok (.lload_n 2, 1) := by decide +kernel
theorem d_M_trueTotal_71 : decode b_M_trueTotal 71 = .ok (.aload_n 0, 1) := by decide +kernel
theorem d_M_trueTotal_72 : decode b_M_trueTotal 72 = .ok (.getfield 66, 3) := by decide +kernel
theorem d_M_trueTotal_75 : decode b_M_trueTotal 75 = .ok (.iload 4, 2) := by decide +kernel
theorem d_M_trueTotal_77 : decode b_M_trueTotal 77 = .ok (.iaload, 1) := by decide +kernel
theorem d_M_trueTotal_78 : decode b_M_trueTotal 78 = .ok (.ifCond .ne 36, 3) := by decide +kernel
theorem d_M_trueTotal_81 : decode b_M_trueTotal 81 = .ok (.aload_n 0, 1) := by decide +kernel
theorem d_M_trueTotal_82 : decode b_M_trueTotal 82 = .ok (.getfield 48, 3) := by decide +kernel
theorem d_M_trueTotal_85 : decode b_M_trueTotal 85 = .ok (.iload 4, 2) := by decide +kernel
theorem d_M_trueTotal_87 : decode b_M_trueTotal 87 = .ok (.iaload, 1) := by decide +kernel
theorem d_M_trueTotal_88 : decode b_M_trueTotal 88 = .ok (.iconst 1, 1) := by decide +kernel
theorem d_M_trueTotal_89 : decode b_M_trueTotal 89 = .ok (.if_icmp .ne 25, 3) := by decide +kernel
theorem d_M_trueTotal_92 : decode b_M_trueTotal 92 = .ok (.aload_n 0, 1) := by decide +kernel
theorem d_M_trueTotal_93 : decode b_M_trueTotal 93 = .ok (.getfield 54, 3) := by decide +kernel
theorem d_M_trueTotal_96 : decode b_M_trueTotal 96 = .ok (.iload 4, 2) := by decide +kernel
theorem d_M_trueTotal_98 : decode b_M_trueTotal 98 = .ok (.iaload, 1) := by decide +kernel
theorem d_M_trueTotal_99 : decode b_M_trueTotal 99 = .ok (.iload_n 1, 1) := by decide +kernel
theorem d_M_trueTotal_100 : decode b_M_trueTotal 100 = .ok (.if_icmp .ne 14, 3) := by decide +kernel
theorem d_M_trueTotal_103 : decode b_M_trueTotal 103 = .ok (.aload_n 0, 1) := by decide +kernel
theorem d_M_trueTotal_104 : decode b_M_trueTotal 104 = .ok (.getfield 57, 3) := by decide +kernel
theorem d_M_trueTotal_107 : decode b_M_trueTotal 107 = .ok (.iload 4, 2) := by decide +kernel
theorem d_M_trueTotal_109 : decode b_M_trueTotal 109 = .ok (.iaload, 1) := by decide +kernel
theorem d_M_trueTotal_110 : decode b_M_trueTotal 110 = .ok (.i2l, 1) := by decide +kernel
theorem d_M_trueTotal_111 : decode b_M_trueTotal 111 = .ok (.goto 4, 3) := by decide +kernel
theorem d_M_trueTotal_114 : decode b_M_trueTotal 114 = .ok (.lconst 0, 1) := by decide +kernel
theorem d_M_trueTotal_115 : decode b_M_trueTotal 115 = .ok (.ladd, 1) := by decide +kernel
theorem d_M_trueTotal_116 : decode b_M_trueTotal 116 = .ok (.lstore_n 2, 1) := by decide +kernel
theorem d_M_trueTotal_117 : decode b_M_trueTotal 117 = .ok (.iinc 4 1, 3) := by decide +kernel
theorem d_M_trueTotal_120 : decode b_M_trueTotal 120 = .ok (.goto (-59), 3) := by decide +kernel
theorem d_M_trueTotal_123 : decode b_M_trueTotal 123 = .ok (.lload_n 2, 1) := by decide +kernel
theorem d_M_trueTotal_124 : decode b_M_trueTotal 124 = .ok (.lreturn, 1) := by decide +kernel
def pp_M_trueTotal_b115 (g : Nat → ClassId) (e0 : Nat → Nat) (K : Int64 → mo_M → Prop) (B_61 : mo_M → Nat → Int32 → Int64 → Int32 → Prop) (M : mo_M) (x0 : Nat) (x1 : Int32) (x4 : Int32) (s0 : Int64) (s1 : Int64) : Prop := B_61 M x0 x1 ((s1 + s0)) (x4 + 1)
def pp_M_trueTotal_b114 (g : Nat → ClassId) (e0 : Nat → Nat) (K : Int64 → mo_M → Prop) (B_61 : mo_M → Nat → Int32 → Int64 → Int32 → Prop) (M : mo_M) (x0 : Nat) (x1 : Int32) (x4 : Int32) (s0 : Int64) : Prop := pp_M_trueTotal_b115 g e0 K B_61 M x0 x1 x4 ((0 : Int64)) s0
def pp_M_trueTotal_b61 (g : Nat → ClassId) (e0 : Nat → Nat) (K : Int64 → mo_M → Prop) : Nat → mo_M → Nat → Int32 → Int64 → Int32 → Prop
  | 0, _, _, _, _, _ => False
  | n + 1, M, x0, x1, x2, x4 => mp_gi M x0 4 17 (fun v13 => ((v13 ≤ x4 → K x2 M) ∧ (¬ (v13 ≤ x4) → mp_gr M x0 4 24 (fun v14 => mp_ai (g 0) M v14 x4 (fun v15 => ((v15 = 0 → mp_gr M x0 4 18 (fun v16 => mp_ai (g 0) M v16 x4 (fun v17 => ((v17 = ((1 : Int32)) → mp_gr M x0 4 20 (fun v18 => mp_ai (g 0) M v18 x4 (fun v19 => ((v19 = x1 → mp_gr M x0 4 21 (fun v20 => mp_ai (g 0) M v20 x4 (fun v21 => pp_M_trueTotal_b115 g e0 K (fun M x0 x1 x2 x4 => pp_M_trueTotal_b61 g e0 K n M x0 x1 x2 x4) M x0 x1 x4 v21.toInt64 x2))) ∧ (¬ (v19 = x1) → pp_M_trueTotal_b114 g e0 K (fun M x0 x1 x2 x4 => pp_M_trueTotal_b61 g e0 K n M x0 x1 x2 x4) M x0 x1 x4 x2))))) ∧ (¬ (v17 = ((1 : Int32))) → pp_M_trueTotal_b114 g e0 K (fun M x0 x1 x2 x4 => pp_M_trueTotal_b61 g e0 K n M x0 x1 x2 x4) M x0 x1 x4 x2))))) ∧ (¬ (v15 = 0) → pp_M_trueTotal_b114 g e0 K (fun M x0 x1 x2 x4 => pp_M_trueTotal_b61 g e0 K n M x0 x1 x2 x4) M x0 x1 x4 x2)))))))
def pp_M_trueTotal_b58 (g : Nat → ClassId) (e0 : Nat → Nat) (K : Int64 → mo_M → Prop) (M : mo_M) (x0 : Nat) (x1 : Int32) (x2 : Int64) : Prop := ∃ n12 : Nat, pp_M_trueTotal_b61 g e0 K n12 M x0 x1 x2 ((0 : Int32))
def pp_M_trueTotal_b10 (g : Nat → ClassId) (e0 : Nat → Nat) (K : Int64 → mo_M → Prop) : Nat → mo_M → Nat → Int32 → Int64 → Int32 → Prop
  | 0, _, _, _, _, _ => False
  | n + 1, M, x0, x1, x2, x4 => mp_gi M x0 4 1 (fun v3 => ((v3 ≤ x4 → pp_M_trueTotal_b58 g e0 K M x0 x1 x2) ∧ (¬ (v3 ≤ x4) → pp_M_isCurrency g e0 (fun r5 M4 => ((r5 = 0 → pp_M_trueTotal_b58 g e0 K M4 x0 x1 x2) ∧ (¬ (r5 = 0) → mp_gi M4 x0 4 2 (fun v6 => (mp_is M4 x0 4 ∧ pp_M_stockAt g e0 (fun r8 M7 => mp_gi M7 x0 4 2 (fun v9 => (mp_is M7 x0 4 ∧ pp_M_tillAt g e0 (fun r11 M10 => pp_M_trueTotal_b10 g e0 K n M10 x0 x1 ((x2 + ((r8 + r11)))) (x4 + 1)) M7 x0 x4 x1 v9))) M4 x0 x4 x1 v6))))) M x1)))
def pp_M_trueTotal (g : Nat → ClassId) (e0 : Nat → Nat) (K : Int64 → mo_M → Prop) (M : mo_M) (x0 : Nat) (x1 : Int32) : Prop := mp_pt M x0 4 0 (.int ((0 : Int32))) (fun M1 => ∃ n2 : Nat, pp_M_trueTotal_b10 g e0 K n2 M1 x0 x1 ((0 : Int64)) ((0 : Int32)))
set_option maxHeartbeats 4000000 in
set_option maxRecDepth 100000 in
theorem cc_M_trueTotal (l : Launch) (L0 : Nat) (D : va_G) {g : Nat → ClassId} {e0 : Nat → Nat} {K : Int64 → mo_M → Prop} {M : mo_M} {x0 : Nat} {x1 : Int32} (hP : pp_M_trueTotal g e0 K M x0 x1) : Met l y_M_trueTotal ws_M_trueTotal (mo_R 1 0 0 26) (va_Pc [.ref x0, .int x1] (fun U => mo_B L0 e0 D vwCl (mo_T g) M U)) (mo_Ql L0 e0 D vwCl (mo_T g) K) 0 0 (fun q => L0 ≤ q) := by
  refine Met.ofW (cc := b_M_trueTotal) (maxL := 5) (ret := (Option.some Jvm.ClassFile.FieldType.long)) (by decide +kernel) rfl ?_
  intro p e s m args below meth c s₁ B hml hv
  obtain ⟨hv1, hB0⟩ := hv
  have hx := B.exec
  have hb := B.bytes
  have hr := B.returns
  have hts : ∀ w ∈ lw_g, w.before args s = true := fun w hw => atoms_spec (ws := ws_M_trueTotal) B.pre w (List.mem_cons_of_mem _ hw)
  have hown : s.vm.findClass "PurseHouseModel" = some m.cls := findClass_of_methodNamed B.named
  have hlocks := B.notSynchronized
  have w_115 : ∀ (B_61 : mo_M → Nat → Int32 → Int64 → Int32 → Prop) (hB_61 : ∀ (M : mo_M) (x0 : Nat) (x1 : Int32) (x2 : Int64) (x4 : Int32) (H : Heap) (locs : List Loc) (ls : Array Slot), B_61 M x0 x1 x2 x4 → mo_ok L0 e0 D vwCl (mo_T g) s M H locs → lv_has ls 5 [(0, .ref x0), (1, .int x1), (2, .long x2), (4, .int x4)] → W p l e (headSpec ws_M_trueTotal (mo_R 1 0 0 26)).room s m args below meth c H locs 0 0 (mo_Z below (mo_Ql L0 e0 D vwCl (mo_T g) K) args s 0 0 L0) (F0 m 61 ls [])) (M : mo_M) (x0 : Nat) (x1 : Int32) (x4 : Int32) (s0 : Int64) (s1 : Int64) (H : Heap) (locs : List Loc) (ls : Array Slot), pp_M_trueTotal_b115 g e0 K B_61 M x0 x1 x4 s0 s1 → mo_ok L0 e0 D vwCl (mo_T g) s M H locs → lv_has ls 5 [(0, .ref x0), (1, .int x1), (4, .int x4)] → W p l e (headSpec ws_M_trueTotal (mo_R 1 0 0 26)).room s m args below meth c H locs 0 0 (mo_Z below (mo_Ql L0 e0 D vwCl (mo_T g) K) args s 0 0 L0) (F0 m 115 ls [.long s0, .long s1]) := by
    intro B_61 hB_61 M x0 x1 x4 s0 s1 H locs ls hP hok hl
    unfold pp_M_trueTotal_b115 at hP
    refine lv_ladd hx hb d_M_trueTotal_115 ?_
    refine lv_lstore_n (lv' := [(2, .long ((s1 + s0))), (0, .ref x0), (1, .int x1), (4, .int x4)]) hx hb d_M_trueTotal_116 rfl hl (by decide) rfl (fun ls hl => ?_)
    refine lv_iinc (k := 3) (v := x4 + 1) (lv' := [(4, .int (x4 + 1)), (2, .long ((s1 + s0))), (0, .ref x0), (1, .int x1)]) hx hb d_M_trueTotal_117 hl rfl rfl (by decide) rfl (fun ls hl => ?_)
    refine lv_goto (tgt := 61) hx hb d_M_trueTotal_120 (by decide) ?_
    exact hB_61 _ _ _ _ _ _ _ _ hP hok (lv_sub hl [2, 3, 1, 0] rfl)
  have w_114 : ∀ (B_61 : mo_M → Nat → Int32 → Int64 → Int32 → Prop) (hB_61 : ∀ (M : mo_M) (x0 : Nat) (x1 : Int32) (x2 : Int64) (x4 : Int32) (H : Heap) (locs : List Loc) (ls : Array Slot), B_61 M x0 x1 x2 x4 → mo_ok L0 e0 D vwCl (mo_T g) s M H locs → lv_has ls 5 [(0, .ref x0), (1, .int x1), (2, .long x2), (4, .int x4)] → W p l e (headSpec ws_M_trueTotal (mo_R 1 0 0 26)).room s m args below meth c H locs 0 0 (mo_Z below (mo_Ql L0 e0 D vwCl (mo_T g) K) args s 0 0 L0) (F0 m 61 ls [])) (M : mo_M) (x0 : Nat) (x1 : Int32) (x4 : Int32) (s0 : Int64) (H : Heap) (locs : List Loc) (ls : Array Slot), pp_M_trueTotal_b114 g e0 K B_61 M x0 x1 x4 s0 → mo_ok L0 e0 D vwCl (mo_T g) s M H locs → lv_has ls 5 [(0, .ref x0), (1, .int x1), (4, .int x4)] → W p l e (headSpec ws_M_trueTotal (mo_R 1 0 0 26)).room s m args below meth c H locs 0 0 (mo_Z below (mo_Ql L0 e0 D vwCl (mo_T g) K) args s 0 0 L0) (F0 m 114 ls [.long s0]) := by
    intro B_61 hB_61 M x0 x1 x4 s0 H locs ls hP hok hl
    unfold pp_M_trueTotal_b114 at hP
    refine lv_lconst (v := 0) hx hb d_M_trueTotal_114 (by decide) ?_
    exact w_115 B_61 hB_61 _ _ _ _ _ _ _ _ _ hP hok (lv_sub hl [0, 1, 2] rfl)
  have w_61 : ∀ (n : Nat) (M : mo_M) (x0 : Nat) (x1 : Int32) (x2 : Int64) (x4 : Int32) (H : Heap) (locs : List Loc) (ls : Array Slot), pp_M_trueTotal_b61 g e0 K n M x0 x1 x2 x4 → mo_ok L0 e0 D vwCl (mo_T g) s M H locs → lv_has ls 5 [(0, .ref x0), (1, .int x1), (2, .long x2), (4, .int x4)] → W p l e (headSpec ws_M_trueTotal (mo_R 1 0 0 26)).room s m args below meth c H locs 0 0 (mo_Z below (mo_Ql L0 e0 D vwCl (mo_T g) K) args s 0 0 L0) (F0 m 61 ls []) := by
    intro n
    induction n with
    | zero => intro M x0 x1 x2 x4 H locs ls hP; exact hP.elim
    | succ n ih =>
      intro M x0 x1 x2 x4 H locs ls hP hok hl
      unfold pp_M_trueTotal_b61 at hP
      refine lv_iload hx hb d_M_trueTotal_61 (lv_at hl 3 rfl) ?_
      refine lv_aload_n hx hb d_M_trueTotal_63 rfl (lv_at hl 0 rfl) ?_
      refine mr_gi (C := "PurseHouseModel") (T := F_4) (N := 27) (ref := "PurseHouseModel") hx hb hts hown hok hP ui_4 rfl (by decide) (hts _ wd_627) (fun _ h => h) d_M_trueTotal_64 (fun v13 hP => ?_)
      refine lv_icmp_ge (tgt := 123) hx hb d_M_trueTotal_67 (by decide) (fun hc => ?_) (fun hc => ?_)
      · replace hP := hP.1 hc
        refine lv_lload_n hx hb d_M_trueTotal_123 rfl (lv_at hl 2 rfl) ?_
        exact mo_lret hx hb hr hlocks hok hP d_M_trueTotal_124
      · replace hP := hP.2 hc
        refine lv_lload_n hx hb d_M_trueTotal_70 rfl (lv_at hl 2 rfl) ?_
        refine lv_aload_n hx hb d_M_trueTotal_71 rfl (lv_at hl 0 rfl) ?_
        refine mr_gr (C := "PurseHouseModel") (T := F_4) (N := 27) (ref := "PurseHouseModel") hx hb hts hown hok hP ui_4 rfl (by decide) (hts _ wd_634) (fun _ h => h) d_M_trueTotal_72 (fun v14 hP => ?_)
        refine lv_iload hx hb d_M_trueTotal_75 (lv_at hl 3 rfl) ?_
        refine mr_ai hx hb hok hP 0 rfl d_M_trueTotal_77 (fun v15 hP => ?_)
        refine lv_if_ne (tgt := 114) hx hb d_M_trueTotal_78 (by decide) (fun hc => ?_) (fun hc => ?_)
        · replace hP := hP.2 hc
          exact w_114 _ ih _ _ _ _ _ _ _ _ hP hok (lv_sub hl [0, 1, 3] rfl)
        · replace hP := hP.1 hc
          refine lv_aload_n hx hb d_M_trueTotal_81 rfl (lv_at hl 0 rfl) ?_
          refine mr_gr (C := "PurseHouseModel") (T := F_4) (N := 27) (ref := "PurseHouseModel") hx hb hts hown hok hP ui_4 rfl (by decide) (hts _ wd_628) (fun _ h => h) d_M_trueTotal_82 (fun v16 hP => ?_)
          refine lv_iload hx hb d_M_trueTotal_85 (lv_at hl 3 rfl) ?_
          refine mr_ai hx hb hok hP 0 rfl d_M_trueTotal_87 (fun v17 hP => ?_)
          refine lv_iconst (v := 1) hx hb d_M_trueTotal_88 (by decide) ?_
          refine lv_icmp_ne (tgt := 114) hx hb d_M_trueTotal_89 (by decide) (fun hc => ?_) (fun hc => ?_)
          · replace hP := hP.2 hc
            exact w_114 _ ih _ _ _ _ _ _ _ _ hP hok (lv_sub hl [0, 1, 3] rfl)
          · replace hP := hP.1 hc
            refine lv_aload_n hx hb d_M_trueTotal_92 rfl (lv_at hl 0 rfl) ?_
            refine mr_gr (C := "PurseHouseModel") (T := F_4) (N := 27) (ref := "PurseHouseModel") hx hb hts hown hok hP ui_4 rfl (by decide) (hts _ wd_630) (fun _ h => h) d_M_trueTotal_93 (fun v18 hP => ?_)
            refine lv_iload hx hb d_M_trueTotal_96 (lv_at hl 3 rfl) ?_
            refine mr_ai hx hb hok hP 0 rfl d_M_trueTotal_98 (fun v19 hP => ?_)
            refine lv_iload_n hx hb d_M_trueTotal_99 rfl (lv_at hl 1 rfl) ?_
            refine lv_icmp_ne (tgt := 114) hx hb d_M_trueTotal_100 (by decide) (fun hc => ?_) (fun hc => ?_)
            · replace hP := hP.2 hc
              exact w_114 _ ih _ _ _ _ _ _ _ _ hP hok (lv_sub hl [0, 1, 3] rfl)
            · replace hP := hP.1 hc
              refine lv_aload_n hx hb d_M_trueTotal_103 rfl (lv_at hl 0 rfl) ?_
              refine mr_gr (C := "PurseHouseModel") (T := F_4) (N := 27) (ref := "PurseHouseModel") hx hb hts hown hok hP ui_4 rfl (by decide) (hts _ wd_631) (fun _ h => h) d_M_trueTotal_104 (fun v20 hP => ?_)
              refine lv_iload hx hb d_M_trueTotal_107 (lv_at hl 3 rfl) ?_
              refine mr_ai hx hb hok hP 0 rfl d_M_trueTotal_109 (fun v21 hP => ?_)
              refine lv_i2l hx hb d_M_trueTotal_110 rfl ?_
              refine lv_goto (tgt := 115) hx hb d_M_trueTotal_111 (by decide) ?_
              exact w_115 _ ih _ _ _ _ _ _ _ _ _ hP hok (lv_sub hl [0, 1, 3] rfl)
  have w_58 : ∀ (M : mo_M) (x0 : Nat) (x1 : Int32) (x2 : Int64) (H : Heap) (locs : List Loc) (ls : Array Slot), pp_M_trueTotal_b58 g e0 K M x0 x1 x2 → mo_ok L0 e0 D vwCl (mo_T g) s M H locs → lv_has ls 5 [(0, .ref x0), (1, .int x1), (2, .long x2)] → W p l e (headSpec ws_M_trueTotal (mo_R 1 0 0 26)).room s m args below meth c H locs 0 0 (mo_Z below (mo_Ql L0 e0 D vwCl (mo_T g) K) args s 0 0 L0) (F0 m 58 ls []) := by
    intro M x0 x1 x2 H locs ls hP hok hl
    unfold pp_M_trueTotal_b58 at hP
    refine lv_iconst (v := 0) hx hb d_M_trueTotal_58 (by decide) ?_
    refine lv_istore (lv' := [(4, .int ((0 : Int32))), (0, .ref x0), (1, .int x1), (2, .long x2)]) hx hb d_M_trueTotal_59 hl (by decide) rfl (fun ls hl => ?_)
    obtain ⟨n12, hP⟩ := hP
    exact w_61  n12 _ _ _ _ _ _ _ _ hP hok (lv_sub hl [1, 2, 3, 0] rfl)
  have w_10 : ∀ (n : Nat) (M : mo_M) (x0 : Nat) (x1 : Int32) (x2 : Int64) (x4 : Int32) (H : Heap) (locs : List Loc) (ls : Array Slot), pp_M_trueTotal_b10 g e0 K n M x0 x1 x2 x4 → mo_ok L0 e0 D vwCl (mo_T g) s M H locs → lv_has ls 5 [(0, .ref x0), (1, .int x1), (2, .long x2), (4, .int x4)] → W p l e (headSpec ws_M_trueTotal (mo_R 1 0 0 26)).room s m args below meth c H locs 0 0 (mo_Z below (mo_Ql L0 e0 D vwCl (mo_T g) K) args s 0 0 L0) (F0 m 10 ls []) := by
    intro n
    induction n with
    | zero => intro M x0 x1 x2 x4 H locs ls hP; exact hP.elim
    | succ n ih =>
      intro M x0 x1 x2 x4 H locs ls hP hok hl
      unfold pp_M_trueTotal_b10 at hP
      refine lv_iload hx hb d_M_trueTotal_10 (lv_at hl 3 rfl) ?_
      refine lv_aload_n hx hb d_M_trueTotal_12 rfl (lv_at hl 0 rfl) ?_
      refine mr_gi (C := "PurseHouseModel") (T := F_4) (N := 27) (ref := "PurseHouseModel") hx hb hts hown hok hP ui_4 rfl (by decide) (hts _ wd_611) (fun _ h => h) d_M_trueTotal_13 (fun v3 hP => ?_)
      refine lv_icmp_ge (tgt := 58) hx hb d_M_trueTotal_16 (by decide) (fun hc => ?_) (fun hc => ?_)
      · replace hP := hP.1 hc
        exact w_58  _ _ _ _ _ _ _ hP hok (lv_sub hl [0, 1, 2] rfl)
      · replace hP := hP.2 hc
        refine lv_iload_n hx hb d_M_trueTotal_19 rfl (lv_at hl 1 rfl) ?_
        refine mo_calli hok (va_runS (As := [.int x1]) (rest := []) ⟨hx, hb, hml, hown, hts⟩ (cc_M_isCurrency l L0 D hP) ⟨(callB_of 1 hts (lw_gi wd_711) rfl rfl rfl (hts _ wd_39) (hts _ wd_709) (by decide +kernel) ⟨Nat.le_of_ble_eq_true rfl, Nat.le_of_ble_eq_true rfl⟩), hts _ wd_710⟩ (mo_preS hok [.int x1]) rfl rfl hl.1 rfl (lv_room (Nat.le_of_ble_eq_true rfl)) d_M_trueTotal_20 ⟨Nat.zero_le _, Nat.zero_le _⟩) (fun r5 M4 H locs hP hok => ?_)
        refine lv_if_eq (tgt := 58) hx hb d_M_trueTotal_23 (by decide) (fun hc => ?_) (fun hc => ?_)
        · replace hP := hP.1 hc
          exact w_58  _ _ _ _ _ _ _ hP hok (lv_sub hl [0, 1, 2] rfl)
        · replace hP := hP.2 hc
          refine lv_lload_n hx hb d_M_trueTotal_26 rfl (lv_at hl 2 rfl) ?_
          refine lv_aload_n hx hb d_M_trueTotal_27 rfl (lv_at hl 0 rfl) ?_
          refine lv_iload hx hb d_M_trueTotal_28 (lv_at hl 3 rfl) ?_
          refine lv_iload_n hx hb d_M_trueTotal_30 rfl (lv_at hl 1 rfl) ?_
          refine lv_aload_n hx hb d_M_trueTotal_31 rfl (lv_at hl 0 rfl) ?_
          refine mr_gi (C := "PurseHouseModel") (T := F_4) (N := 27) (ref := "PurseHouseModel") hx hb hts hown hok hP ui_4 rfl (by decide) (hts _ wd_612) (fun _ h => h) d_M_trueTotal_32 (fun v6 hP => ?_)
          obtain ⟨⟨fs9, he9⟩, hP⟩ := hP
          refine mo_calll hok (va_runV (As := [.int x4, .int x1, .int v6]) (rest := [.long x2]) ⟨hx, hb, hml, hown, hts⟩ (cc_M_stockAt l L0 D hP) ⟨(callB_of 3 hts (lw_gi wd_736) rfl rfl rfl (hts _ wd_39) (hts _ wd_733) (by decide +kernel) ⟨Nat.le_of_ble_eq_true rfl, Nat.le_of_ble_eq_true rfl⟩), hts _ wd_735, hts _ wd_18⟩ (mo_preV hok he9 rfl [.int x4, .int x1, .int v6]) rfl rfl hl.1 rfl (lv_room (Nat.le_of_ble_eq_true rfl)) d_M_trueTotal_35 ⟨Nat.zero_le _, Nat.zero_le _⟩) (fun r8 M7 H locs hP hok => ?_)
          refine lv_aload_n hx hb d_M_trueTotal_38 rfl (lv_at hl 0 rfl) ?_
          refine lv_iload hx hb d_M_trueTotal_39 (lv_at hl 3 rfl) ?_
          refine lv_iload_n hx hb d_M_trueTotal_41 rfl (lv_at hl 1 rfl) ?_
          refine lv_aload_n hx hb d_M_trueTotal_42 rfl (lv_at hl 0 rfl) ?_
          refine mr_gi (C := "PurseHouseModel") (T := F_4) (N := 27) (ref := "PurseHouseModel") hx hb hts hown hok hP ui_4 rfl (by decide) (hts _ wd_612) (fun _ h => h) d_M_trueTotal_43 (fun v9 hP => ?_)
          obtain ⟨⟨fs9, he9⟩, hP⟩ := hP
          refine mo_calll hok (va_runV (As := [.int x4, .int x1, .int v9]) (rest := [.long r8, .long x2]) ⟨hx, hb, hml, hown, hts⟩ (cc_M_tillAt l L0 D hP) ⟨(callB_of 3 hts (lw_gi wd_792) rfl rfl rfl (hts _ wd_39) (hts _ wd_789) (by decide +kernel) ⟨Nat.le_of_ble_eq_true rfl, Nat.le_of_ble_eq_true rfl⟩), hts _ wd_791, hts _ wd_26⟩ (mo_preV hok he9 rfl [.int x4, .int x1, .int v9]) rfl rfl hl.1 rfl (lv_room (Nat.le_of_ble_eq_true rfl)) d_M_trueTotal_46 ⟨Nat.zero_le _, Nat.zero_le _⟩) (fun r11 M10 H locs hP hok => ?_)
          refine lv_ladd hx hb d_M_trueTotal_49 ?_
          refine lv_ladd hx hb d_M_trueTotal_50 ?_
          refine lv_lstore_n (lv' := [(2, .long ((x2 + ((r8 + r11))))), (0, .ref x0), (1, .int x1), (4, .int x4)]) hx hb d_M_trueTotal_51 rfl hl (by decide) rfl (fun ls hl => ?_)
          refine lv_iinc (k := 3) (v := x4 + 1) (lv' := [(4, .int (x4 + 1)), (2, .long ((x2 + ((r8 + r11))))), (0, .ref x0), (1, .int x1)]) hx hb d_M_trueTotal_52 hl rfl rfl (by decide) rfl (fun ls hl => ?_)
          refine lv_goto (tgt := 10) hx hb d_M_trueTotal_55 (by decide) ?_
          exact ih _ _ _ _ _ _ _ _ hP hok (lv_sub hl [2, 3, 1, 0] rfl)
  have hok : mo_ok L0 e0 D vwCl (mo_T g) s M s.heap [] := ⟨hB0.1, hB0.2.1, hB0.2.2, va_S.rf⟩
  have hl := lv_entry ([.ref x0, .int x1]) (n := 5) (Nat.le_of_ble_eq_true rfl)
  rw [hv1, lg_entry_eq]
  rw [← hv1]
  generalize (lg_sl [.ref x0, .int x1] ++ List.replicate (5 - (lg_sl [.ref x0, .int x1]).length) Slot.unset).toArray = ls at hl ⊢
  have hl : lv_has ls 5 [(0, .ref x0), (1, .int x1)] := hl
  unfold pp_M_trueTotal at hP
  refine lv_aload_n hx hb d_M_trueTotal_0 rfl (lv_at hl 0 rfl) ?_
  refine lv_iconst (v := 0) hx hb d_M_trueTotal_1 (by decide) ?_
  refine mr_pt (C := "PurseHouseModel") (T := F_4) (N := 27) (ref := "PurseHouseModel") (ty := .int) hx hb hts hown hok hP ui_4 ty_4 th_4 tn_4 rfl (by decide) (hts _ wd_610) (fun _ h => h) rfl (by decide +kernel) rfl rfl d_M_trueTotal_2 (fun M1 H locs hP hok => ?_)
  refine lv_lconst (v := 0) hx hb d_M_trueTotal_5 (by decide) ?_
  refine lv_lstore_n (lv' := [(2, .long ((0 : Int64))), (0, .ref x0), (1, .int x1)]) hx hb d_M_trueTotal_6 rfl hl (by decide) rfl (fun ls hl => ?_)
  refine lv_iconst (v := 0) hx hb d_M_trueTotal_7 (by decide) ?_
  refine lv_istore (lv' := [(4, .int ((0 : Int32))), (2, .long ((0 : Int64))), (0, .ref x0), (1, .int x1)]) hx hb d_M_trueTotal_8 hl (by decide) rfl (fun ls hl => ?_)
  obtain ⟨n2, hP⟩ := hP
  exact w_10  n2 _ _ _ _ _ _ _ _ hP hok (lv_sub hl [2, 3, 1, 0] rfl)

abbrev b_M_below : ByteArray := prog_6_method_41_code
def y_M_below : MethodName := ⟨"PurseHouseModel", "below", "(IIJ)I"⟩
def ws_M_below : List Cond := .code y_M_below b_M_below 6 (Option.some Jvm.ClassFile.FieldType.int) :: lw_g
theorem d_M_below_0 : decode b_M_below 0 = .ok (.aload_n 0, 1) := by decide +kernel
theorem d_M_below_1 : decode b_M_below 1 = .ok (.iconst 0, 1) := by decide +kernel
theorem d_M_below_2 : decode b_M_below 2 = .ok (.putfield 76, 3) := by decide +kernel
theorem d_M_below_5 : decode b_M_below 5 = .ok (.aload_n 0, 1) := by decide +kernel
theorem d_M_below_6 : decode b_M_below 6 = .ok (.iload_n 1, 1) := by decide +kernel
theorem d_M_below_7 : decode b_M_below 7 = .ok (.invokevirtual 146, 3) := by decide +kernel
theorem d_M_below_10 : decode b_M_below 10 = .ok (.ifCond .eq 10, 3) := by decide +kernel
theorem d_M_below_13 : decode b_M_below 13 = .ok (.iload_n 2, 1) := by decide +kernel
theorem d_M_below_14 : decode b_M_below 14 = .ok (.invokestatic 90, 3) := by decide +kernel
theorem d_M_below_17 : decode b_M_below 17 = .ok (.ifCond .ne 5, 3) := by decide +kernel
theorem d_M_below_20 : decode b_M_below 20 = .ok (.iconst (-1), 1) := by decide +kernel
theorem d_M_below_21 : decode b_M_below 21 = .ok (.ireturn, 1) := by decide +kernel
theorem d_M_below_22 : decode b_M_below 22 = .ok (.iconst 0, 1) := by decide +kernel
theorem d_M_below_23 : decode b_M_below 23 = .ok (.istore 5, 2) := by decide +kernel
theorem d_M_below_25 : decode b_M_below 25 = .ok (.iload 5, 2) := by decide +kernel
theorem d_M_below_27 : decode b_M_below 27 = .ok (.aload_n 0, 1) := by decide +kernel
theorem d_M_below_28 : decode b_M_below 28 = .ok (.getfield 72, 3) := by decide +kernel
theorem d_M_below_31 : decode b_M_below 31 = .ok (.if_icmp .ge 41, 3) := by decide +kernel
theorem d_M_below_34 : decode b_M_below 34 = .ok (.aload_n 0, 1) := by decide +kernel
theorem d_M_below_35 : decode b_M_below 35 = .ok (.iload_n 1, 1) := by decide +kernel
theorem d_M_below_36 : decode b_M_below 36 = .ok (.iload 5, 2) := by decide +kernel
theorem d_M_below_38 : decode b_M_below 38 = .ok (.invokevirtual 122, 3) := by decide +kernel
theorem d_M_below_41 : decode b_M_below 41 = .ok (.ifCond .le 25, 3) := by decide +kernel
theorem d_M_below_44 : decode b_M_below 44 = .ok (.aload_n 0, 1) := by decide +kernel
theorem d_M_below_45 : decode b_M_below 45 = .ok (.iload 5, 2) := by decide +kernel
theorem d_M_below_47 : decode b_M_below 47 = .ok (.iload_n 2, 1) := by decide +kernel
theorem d_M_below_48 : decode b_M_below 48 = .ok (.aload_n 0, 1) := by decide +kernel
theorem d_M_below_49 : decode b_M_below 49 = .ok (.iload_n 1, 1) := by decide +kernel
theorem d_M_below_50 : decode b_M_below 50 = .ok (.iload 5, 2) := by decide +kernel
theorem d_M_below_52 : decode b_M_below 52 = .ok (.invokevirtual 122, 3) := by decide +kernel
theorem d_M_below_55 : decode b_M_below 55 = .ok (.invokevirtual 107, 3) := by decide +kernel
theorem d_M_below_58 : decode b_M_below 58 = .ok (.lload_n 3, 1) := by decide +kernel
theorem d_M_below_59 : decode b_M_below 59 = .ok (.lcmp, 1) := by decide +kernel
theorem d_M_below_60 : decode b_M_below 60 = .ok (.ifCond .ge 6, 3) := by decide +kernel
theorem d_M_below_63 : decode b_M_below 63 = .ok (.iload 5, 2) := by decide +kernel
theorem d_M_below_65 : decode b_M_below 65 = .ok (.ireturn, 1) := by decide +kernel
theorem d_M_below_66 : decode b_M_below 66 = .ok (.iinc 5 1, 3) := by decide +kernel
theorem d_M_below_69 : decode b_M_below 69 = .ok (.goto (-44), 3) := by decide +kernel
theorem d_M_below_72 : decode b_M_below 72 = .ok (.iconst (-1), 1) := by decide +kernel
theorem d_M_below_73 : decode b_M_below 73 = .ok (.ireturn, 1) := by decide +kernel
def pp_M_below_b66 (g : Nat → ClassId) (e0 : Nat → Nat) (K : Int32 → mo_M → Prop) (B_25 : mo_M → Nat → Int32 → Int32 → Int64 → Int32 → Prop) (M : mo_M) (x0 : Nat) (x1 : Int32) (x2 : Int32) (x3 : Int64) (x5 : Int32) : Prop := B_25 M x0 x1 x2 x3 (x5 + 1)
def pp_M_below_b25 (g : Nat → ClassId) (e0 : Nat → Nat) (K : Int32 → mo_M → Prop) : Nat → mo_M → Nat → Int32 → Int32 → Int64 → Int32 → Prop
  | 0, _, _, _, _, _, _ => False
  | n + 1, M, x0, x1, x2, x3, x5 => mp_gi M x0 4 1 (fun v7 => ((v7 ≤ x5 → K ((-1 : Int32)) M) ∧ (¬ (v7 ≤ x5) → (mp_is M x0 4 ∧ pp_M_recording g e0 (fun r9 M8 => ((r9 ≤ 0 → pp_M_below_b66 g e0 K (fun M x0 x1 x2 x3 x5 => pp_M_below_b25 g e0 K n M x0 x1 x2 x3 x5) M8 x0 x1 x2 x3 x5) ∧ (¬ (r9 ≤ 0) → (mp_is M8 x0 4 ∧ pp_M_recording g e0 (fun r11 M10 => (mp_is M10 x0 4 ∧ pp_M_stockAt g e0 (fun r13 M12 => ((0 ≤ (lg_cmp r13 x3) → pp_M_below_b66 g e0 K (fun M x0 x1 x2 x3 x5 => pp_M_below_b25 g e0 K n M x0 x1 x2 x3 x5) M12 x0 x1 x2 x3 x5) ∧ (¬ (0 ≤ (lg_cmp r13 x3)) → K x5 M12))) M10 x0 x5 x2 r11)) M8 x0 x1 x5)))) M x0 x1 x5))))
def pp_M_below (g : Nat → ClassId) (e0 : Nat → Nat) (K : Int32 → mo_M → Prop) (M : mo_M) (x0 : Nat) (x1 : Int32) (x2 : Int32) (x3 : Int64) : Prop := mp_pt M x0 4 0 (.int ((0 : Int32))) (fun M1 => (mp_is M1 x0 4 ∧ pp_M_isNumber g e0 (fun r3 M2 => ((r3 = 0 → K ((-1 : Int32)) M2) ∧ (¬ (r3 = 0) → pp_M_isCurrency g e0 (fun r5 M4 => ((r5 = 0 → K ((-1 : Int32)) M4) ∧ (¬ (r5 = 0) → ∃ n6 : Nat, pp_M_below_b25 g e0 K n6 M4 x0 x1 x2 x3 ((0 : Int32))))) M2 x2))) M1 x0 x1))
set_option maxHeartbeats 4000000 in
set_option maxRecDepth 100000 in
theorem cc_M_below (l : Launch) (L0 : Nat) (D : va_G) {g : Nat → ClassId} {e0 : Nat → Nat} {K : Int32 → mo_M → Prop} {M : mo_M} {x0 : Nat} {x1 : Int32} {x2 : Int32} {x3 : Int64} (hP : pp_M_below g e0 K M x0 x1 x2 x3) : Met l y_M_below ws_M_below (mo_R 1 0 0 26) (va_Pc [.ref x0, .int x1, .int x2, .long x3] (fun U => mo_B L0 e0 D vwCl (mo_T g) M U)) (mo_Qi L0 e0 D vwCl (mo_T g) K) 0 0 (fun q => L0 ≤ q) := by
  refine Met.ofW (cc := b_M_below) (maxL := 6) (ret := (Option.some Jvm.ClassFile.FieldType.int)) (by decide +kernel) rfl ?_
  intro p e s m args below meth c s₁ B hml hv
  obtain ⟨hv1, hB0⟩ := hv
  have hx := B.exec
  have hb := B.bytes
  have hr := B.returns
  have hts : ∀ w ∈ lw_g, w.before args s = true := fun w hw => atoms_spec (ws := ws_M_below) B.pre w (List.mem_cons_of_mem _ hw)
  have hown : s.vm.findClass "PurseHouseModel" = some m.cls := findClass_of_methodNamed B.named
  have hlocks := B.notSynchronized
  have w_66 : ∀ (B_25 : mo_M → Nat → Int32 → Int32 → Int64 → Int32 → Prop) (hB_25 : ∀ (M : mo_M) (x0 : Nat) (x1 : Int32) (x2 : Int32) (x3 : Int64) (x5 : Int32) (H : Heap) (locs : List Loc) (ls : Array Slot), B_25 M x0 x1 x2 x3 x5 → mo_ok L0 e0 D vwCl (mo_T g) s M H locs → lv_has ls 6 [(0, .ref x0), (1, .int x1), (2, .int x2), (3, .long x3), (5, .int x5)] → W p l e (headSpec ws_M_below (mo_R 1 0 0 26)).room s m args below meth c H locs 0 0 (mo_Z below (mo_Qi L0 e0 D vwCl (mo_T g) K) args s 0 0 L0) (F0 m 25 ls [])) (M : mo_M) (x0 : Nat) (x1 : Int32) (x2 : Int32) (x3 : Int64) (x5 : Int32) (H : Heap) (locs : List Loc) (ls : Array Slot), pp_M_below_b66 g e0 K B_25 M x0 x1 x2 x3 x5 → mo_ok L0 e0 D vwCl (mo_T g) s M H locs → lv_has ls 6 [(0, .ref x0), (1, .int x1), (2, .int x2), (3, .long x3), (5, .int x5)] → W p l e (headSpec ws_M_below (mo_R 1 0 0 26)).room s m args below meth c H locs 0 0 (mo_Z below (mo_Qi L0 e0 D vwCl (mo_T g) K) args s 0 0 L0) (F0 m 66 ls []) := by
    intro B_25 hB_25 M x0 x1 x2 x3 x5 H locs ls hP hok hl
    unfold pp_M_below_b66 at hP
    refine lv_iinc (k := 4) (v := x5 + 1) (lv' := [(5, .int (x5 + 1)), (0, .ref x0), (1, .int x1), (2, .int x2), (3, .long x3)]) hx hb d_M_below_66 hl rfl rfl (by decide) rfl (fun ls hl => ?_)
    refine lv_goto (tgt := 25) hx hb d_M_below_69 (by decide) ?_
    exact hB_25 _ _ _ _ _ _ _ _ _ hP hok (lv_sub hl [1, 2, 3, 4, 0] rfl)
  have w_25 : ∀ (n : Nat) (M : mo_M) (x0 : Nat) (x1 : Int32) (x2 : Int32) (x3 : Int64) (x5 : Int32) (H : Heap) (locs : List Loc) (ls : Array Slot), pp_M_below_b25 g e0 K n M x0 x1 x2 x3 x5 → mo_ok L0 e0 D vwCl (mo_T g) s M H locs → lv_has ls 6 [(0, .ref x0), (1, .int x1), (2, .int x2), (3, .long x3), (5, .int x5)] → W p l e (headSpec ws_M_below (mo_R 1 0 0 26)).room s m args below meth c H locs 0 0 (mo_Z below (mo_Qi L0 e0 D vwCl (mo_T g) K) args s 0 0 L0) (F0 m 25 ls []) := by
    intro n
    induction n with
    | zero => intro M x0 x1 x2 x3 x5 H locs ls hP; exact hP.elim
    | succ n ih =>
      intro M x0 x1 x2 x3 x5 H locs ls hP hok hl
      unfold pp_M_below_b25 at hP
      refine lv_iload hx hb d_M_below_25 (lv_at hl 4 rfl) ?_
      refine lv_aload_n hx hb d_M_below_27 rfl (lv_at hl 0 rfl) ?_
      refine mr_gi (C := "PurseHouseModel") (T := F_4) (N := 27) (ref := "PurseHouseModel") hx hb hts hown hok hP ui_4 rfl (by decide) (hts _ wd_611) (fun _ h => h) d_M_below_28 (fun v7 hP => ?_)
      refine lv_icmp_ge (tgt := 72) hx hb d_M_below_31 (by decide) (fun hc => ?_) (fun hc => ?_)
      · replace hP := hP.1 hc
        refine lv_iconst (v := (-1)) hx hb d_M_below_72 (by decide) ?_
        exact mo_iret hx hb hr hlocks hok hP d_M_below_73
      · replace hP := hP.2 hc
        refine lv_aload_n hx hb d_M_below_34 rfl (lv_at hl 0 rfl) ?_
        refine lv_iload_n hx hb d_M_below_35 rfl (lv_at hl 1 rfl) ?_
        refine lv_iload hx hb d_M_below_36 (lv_at hl 4 rfl) ?_
        obtain ⟨⟨fs9, he9⟩, hP⟩ := hP
        refine mo_calli hok (va_runV (As := [.int x1, .int x5]) (rest := []) ⟨hx, hb, hml, hown, hts⟩ (cc_M_recording l L0 D hP) ⟨(callB_of 2 hts (lw_gi wd_772) rfl rfl rfl (hts _ wd_39) (hts _ wd_769) (by decide +kernel) ⟨Nat.le_of_ble_eq_true rfl, Nat.le_of_ble_eq_true rfl⟩), hts _ wd_771, hts _ wd_24⟩ (mo_preV hok he9 rfl [.int x1, .int x5]) rfl rfl hl.1 rfl (lv_room (Nat.le_of_ble_eq_true rfl)) d_M_below_38 ⟨Nat.zero_le _, Nat.zero_le _⟩) (fun r9 M8 H locs hP hok => ?_)
        refine lv_if_le (tgt := 66) hx hb d_M_below_41 (by decide) (fun hc => ?_) (fun hc => ?_)
        · replace hP := hP.1 hc
          exact w_66 _ ih _ _ _ _ _ _ _ _ _ hP hok (lv_sub hl [0, 1, 2, 3, 4] rfl)
        · replace hP := hP.2 hc
          refine lv_aload_n hx hb d_M_below_44 rfl (lv_at hl 0 rfl) ?_
          refine lv_iload hx hb d_M_below_45 (lv_at hl 4 rfl) ?_
          refine lv_iload_n hx hb d_M_below_47 rfl (lv_at hl 2 rfl) ?_
          refine lv_aload_n hx hb d_M_below_48 rfl (lv_at hl 0 rfl) ?_
          refine lv_iload_n hx hb d_M_below_49 rfl (lv_at hl 1 rfl) ?_
          refine lv_iload hx hb d_M_below_50 (lv_at hl 4 rfl) ?_
          obtain ⟨⟨fs9, he9⟩, hP⟩ := hP
          refine mo_calli hok (va_runV (As := [.int x1, .int x5]) (rest := [.int x2, .int x5, .ref x0]) ⟨hx, hb, hml, hown, hts⟩ (cc_M_recording l L0 D hP) ⟨(callB_of 2 hts (lw_gi wd_772) rfl rfl rfl (hts _ wd_39) (hts _ wd_769) (by decide +kernel) ⟨Nat.le_of_ble_eq_true rfl, Nat.le_of_ble_eq_true rfl⟩), hts _ wd_771, hts _ wd_24⟩ (mo_preV hok he9 rfl [.int x1, .int x5]) rfl rfl hl.1 rfl (lv_room (Nat.le_of_ble_eq_true rfl)) d_M_below_52 ⟨Nat.zero_le _, Nat.zero_le _⟩) (fun r11 M10 H locs hP hok => ?_)
          obtain ⟨⟨fs9, he9⟩, hP⟩ := hP
          refine mo_calll hok (va_runV (As := [.int x5, .int x2, .int r11]) (rest := []) ⟨hx, hb, hml, hown, hts⟩ (cc_M_stockAt l L0 D hP) ⟨(callB_of 3 hts (lw_gi wd_736) rfl rfl rfl (hts _ wd_39) (hts _ wd_733) (by decide +kernel) ⟨Nat.le_of_ble_eq_true rfl, Nat.le_of_ble_eq_true rfl⟩), hts _ wd_735, hts _ wd_18⟩ (mo_preV hok he9 rfl [.int x5, .int x2, .int r11]) rfl rfl hl.1 rfl (lv_room (Nat.le_of_ble_eq_true rfl)) d_M_below_55 ⟨Nat.zero_le _, Nat.zero_le _⟩) (fun r13 M12 H locs hP hok => ?_)
          refine lv_lload_n hx hb d_M_below_58 rfl (lv_at hl 3 rfl) ?_
          refine W.lcmp hx hb d_M_below_59 ?_
          refine lv_if_ge (tgt := 66) hx hb d_M_below_60 (by decide) (fun hc => ?_) (fun hc => ?_)
          · replace hP := hP.1 hc
            exact w_66 _ ih _ _ _ _ _ _ _ _ _ hP hok (lv_sub hl [0, 1, 2, 3, 4] rfl)
          · replace hP := hP.2 hc
            refine lv_iload hx hb d_M_below_63 (lv_at hl 4 rfl) ?_
            exact mo_iret hx hb hr hlocks hok hP d_M_below_65
  have hok : mo_ok L0 e0 D vwCl (mo_T g) s M s.heap [] := ⟨hB0.1, hB0.2.1, hB0.2.2, va_S.rf⟩
  have hl := lv_entry ([.ref x0, .int x1, .int x2, .long x3]) (n := 6) (Nat.le_of_ble_eq_true rfl)
  rw [hv1, lg_entry_eq]
  rw [← hv1]
  generalize (lg_sl [.ref x0, .int x1, .int x2, .long x3] ++ List.replicate (6 - (lg_sl [.ref x0, .int x1, .int x2, .long x3]).length) Slot.unset).toArray = ls at hl ⊢
  have hl : lv_has ls 6 [(0, .ref x0), (1, .int x1), (2, .int x2), (3, .long x3)] := hl
  unfold pp_M_below at hP
  refine lv_aload_n hx hb d_M_below_0 rfl (lv_at hl 0 rfl) ?_
  refine lv_iconst (v := 0) hx hb d_M_below_1 (by decide) ?_
  refine mr_pt (C := "PurseHouseModel") (T := F_4) (N := 27) (ref := "PurseHouseModel") (ty := .int) hx hb hts hown hok hP ui_4 ty_4 th_4 tn_4 rfl (by decide) (hts _ wd_610) (fun _ h => h) rfl (by decide +kernel) rfl rfl d_M_below_2 (fun M1 H locs hP hok => ?_)
  refine lv_aload_n hx hb d_M_below_5 rfl (lv_at hl 0 rfl) ?_
  refine lv_iload_n hx hb d_M_below_6 rfl (lv_at hl 1 rfl) ?_
  obtain ⟨⟨fs9, he9⟩, hP⟩ := hP
  refine mo_calli hok (va_runV (As := [.int x1]) (rest := []) ⟨hx, hb, hml, hown, hts⟩ (cc_M_isNumber l L0 D hP) ⟨(callB_of 1 hts (lw_gi wd_808) rfl rfl rfl (hts _ wd_39) (hts _ wd_805) (by decide +kernel) ⟨Nat.le_of_ble_eq_true rfl, Nat.le_of_ble_eq_true rfl⟩), hts _ wd_807, hts _ wd_27⟩ (mo_preV hok he9 rfl [.int x1]) rfl rfl hl.1 rfl (lv_room (Nat.le_of_ble_eq_true rfl)) d_M_below_7 ⟨Nat.zero_le _, Nat.zero_le _⟩) (fun r3 M2 H locs hP hok => ?_)
  refine lv_if_eq (tgt := 20) hx hb d_M_below_10 (by decide) (fun hc => ?_) (fun hc => ?_)
  · replace hP := hP.1 hc
    refine lv_iconst (v := (-1)) hx hb d_M_below_20 (by decide) ?_
    exact mo_iret hx hb hr hlocks hok hP d_M_below_21
  · replace hP := hP.2 hc
    refine lv_iload_n hx hb d_M_below_13 rfl (lv_at hl 2 rfl) ?_
    refine mo_calli hok (va_runS (As := [.int x2]) (rest := []) ⟨hx, hb, hml, hown, hts⟩ (cc_M_isCurrency l L0 D hP) ⟨(callB_of 1 hts (lw_gi wd_711) rfl rfl rfl (hts _ wd_39) (hts _ wd_709) (by decide +kernel) ⟨Nat.le_of_ble_eq_true rfl, Nat.le_of_ble_eq_true rfl⟩), hts _ wd_710⟩ (mo_preS hok [.int x2]) rfl rfl hl.1 rfl (lv_room (Nat.le_of_ble_eq_true rfl)) d_M_below_14 ⟨Nat.zero_le _, Nat.zero_le _⟩) (fun r5 M4 H locs hP hok => ?_)
    refine lv_if_ne (tgt := 22) hx hb d_M_below_17 (by decide) (fun hc => ?_) (fun hc => ?_)
    · replace hP := hP.2 hc
      refine lv_iconst (v := 0) hx hb d_M_below_22 (by decide) ?_
      refine lv_istore (lv' := [(5, .int ((0 : Int32))), (0, .ref x0), (1, .int x1), (2, .int x2), (3, .long x3)]) hx hb d_M_below_23 hl (by decide) rfl (fun ls hl => ?_)
      obtain ⟨n6, hP⟩ := hP
      exact w_25  n6 _ _ _ _ _ _ _ _ _ hP hok (lv_sub hl [1, 2, 3, 4, 0] rfl)
    · replace hP := hP.1 hc
      refine lv_iconst (v := (-1)) hx hb d_M_below_20 (by decide) ?_
      exact mo_iret hx hb hr hlocks hok hP d_M_below_21

abbrev b_M_events : ByteArray := prog_6_method_42_code
def y_M_events : MethodName := ⟨"PurseHouseModel", "events", "(II)I"⟩
def ws_M_events : List Cond := .code y_M_events b_M_events 6 (Option.some Jvm.ClassFile.FieldType.int) :: lw_g
theorem d_M_events_0 : decode b_M_events 0 = .ok (.aload_n 0, 1) := by decide +kernel
theorem d_M_events_1 : decode b_M_events 1 = .ok (.iconst 0, 1) := by decide +kernel
theorem d_M_events_2 : decode b_M_events 2 = .ok (.putfield 76, 3) := by decide +kernel
theorem d_M_events_5 : decode b_M_events 5 = .ok (.aload_n 0, 1) := by decide +kernel
theorem d_M_events_6 : decode b_M_events 6 = .ok (.iload_n 2, 1) := by decide +kernel
theorem d_M_events_7 : decode b_M_events 7 = .ok (.invokevirtual 86, 3) := by decide +kernel
theorem d_M_events_10 : decode b_M_events 10 = .ok (.ifCond .eq 24, 3) := by decide +kernel
theorem d_M_events_13 : decode b_M_events 13 = .ok (.iload_n 1, 1) := by decide +kernel
theorem d_M_events_14 : decode b_M_events 14 = .ok (.aload_n 0, 1) := by decide +kernel
theorem d_M_events_15 : decode b_M_events 15 = .ok (.getfield 82, 3) := by decide +kernel
theorem d_M_events_18 : decode b_M_events 18 = .ok (.if_icmp .ge 16, 3) := by decide +kernel
theorem d_M_events_21 : decode b_M_events 21 = .ok (.iload_n 1, 1) := by decide +kernel
theorem d_M_events_22 : decode b_M_events 22 = .ok (.ifCond .lt 14, 3) := by decide +kernel
theorem d_M_events_25 : decode b_M_events 25 = .ok (.aload_n 0, 1) := by decide +kernel
theorem d_M_events_26 : decode b_M_events 26 = .ok (.iload_n 1, 1) := by decide +kernel
theorem d_M_events_27 : decode b_M_events 27 = .ok (.iload_n 2, 1) := by decide +kernel
theorem d_M_events_28 : decode b_M_events 28 = .ok (.invokevirtual 122, 3) := by decide +kernel
theorem d_M_events_31 : decode b_M_events 31 = .ok (.ifCond .ne 5, 3) := by decide +kernel
theorem d_M_events_34 : decode b_M_events 34 = .ok (.iconst (-1), 1) := by decide +kernel
theorem d_M_events_35 : decode b_M_events 35 = .ok (.ireturn, 1) := by decide +kernel
theorem d_M_events_36 : decode b_M_events 36 = .ok (.iload_n 1, 1) := by decide +kernel
theorem d_M_events_37 : decode b_M_events 37 = .ok (.ifCond .ge 10, 3) := by decide +kernel
theorem d_M_events_40 : decode b_M_events 40 = .ok (.aload_n 0, 1) := by decide +kernel
theorem d_M_events_41 : decode b_M_events 41 = .ok (.getfield 94, 3) := by decide +kernel
theorem d_M_events_44 : decode b_M_events 44 = .ok (.goto 9, 3) := by decide +kernel
theorem d_M_events_47 : decode b_M_events 47 = .ok (.aload_n 0, 1) := by decide +kernel
theorem d_M_events_48 : decode b_M_events 48 = .ok (.iload_n 1, 1) := by decide +kernel
theorem d_M_events_49 : decode b_M_events 49 = .ok (.iload_n 2, 1) := by decide +kernel
theorem d_M_events_50 : decode b_M_events 50 = .ok (.invokevirtual 122, 3) := by decide +kernel
theorem d_M_events_53 : decode b_M_events 53 = .ok (.istore_n 3, 1) := by decide +kernel
theorem d_M_events_54 : decode b_M_events 54 = .ok (.iconst 0, 1) := by decide +kernel
theorem d_M_events_55 : decode b_M_events 55 = .ok (.istore 4, 2) := by decide +kernel
theorem d_M_events_57 : decode b_M_events 57 = .ok (.iconst 0, 1) := by decide +kernel
theorem d_M_events_58 : decode b_M_events 58 = .ok (.istore 5, 2) := by decide +kernel
theorem d_M_events_60 : decode b_M_events 60 = .ok (.iload 5, 2) := by decide +kernel
theorem d_M_events_62 : decode b_M_events 62 = .ok (.aload_n 0, 1) := by decide +kernel
theorem d_M_events_63 : decode b_M_events 63 = .ok (.getfield 97, 3) := by decide +kernel
theorem d_M_events_66 : decode b_M_events 66 = .ok (.if_icmp .ge 47, 3) := by decide +kernel
theorem d_M_events_69 : decode b_M_events 69 = .ok (.iload 4, 2) := by decide +kernel
theorem d_M_events_71 : decode b_M_events 71 = .ok (.aload_n 0, 1) := by decide +kernel
theorem d_M_events_72 : decode b_M_events 72 = .ok (.getfield 26, 3) := by decide +kernel
theorem d_M_events_75 : decode b_M_events 75 = .ok (.iload 5, 2) := by decide +kernel
theorem d_M_events_77 : decode b_M_events 77 = .ok (.iaload, 1) := by decide +kernel
theorem d_M_events_78 : decode b_M_events 78 = .ok (.iload_n 2, 1) := by decide +kernel
theorem d_M_events_79 : decode b_M_events 79 = .ok (.if_icmp .ne 24, 3) := by decide +kernel
theorem d_M_events_82 : decode b_M_events 82 = .ok (.aload_n 0, 1) := by decide +kernel
theorem d_M_events_83 : decode b_M_events 83 = .ok (.getfield 32, 3) := by decide +kernel
theorem d_M_events_86 : decode b_M_events 86 = .ok (.iload 5, 2) := by decide +kernel
theorem d_M_events_88 : decode b_M_events 88 = .ok (.iaload, 1) := by decide +kernel
theorem d_M_events_89 : decode b_M_events 89 = .ok (.iload_n 3, 1) := by decide +kernel
theorem d_M_events_90 : decode b_M_events 90 = .ok (.if_icmp .gt 13, 3) := by decide +kernel
theorem d_M_events_93 : decode b_M_events 93 = .ok (.aload_n 0, 1) := by decide +kernel
theorem d_M_events_94 : decode b_M_events 94 = .ok (.getfield 35, 3) := by decide +kernel
theorem d_M_events_97 : decode b_M_events 97 = .ok (.iload 5, 2) := by decide +kernel
theorem d_M_events_99 : decode b_M_events 99 = .ok (.iaload, 1) := by decide +kernel
theorem d_M_events_100 : decode b_M_events 100 = .ok (.goto 4, 3) := by decide +kernel
theorem d_M_events_103 : decode b_M_events 103 = .ok (.iconst 0, 1) := by decide +kernel
theorem d_M_events_104 : decode b_M_events 104 = .ok (.iadd, 1) := by decide +kernel
theorem d_M_events_105 : decode b_M_events 105 = .ok (.istore 4, 2) := by decide +kernel
theorem d_M_events_107 : decode b_M_events 107 = .ok (.iinc 5 1, 3) := by decide +kernel
theorem d_M_events_110 : decode b_M_events 110 = .ok (.goto (-50), 3) := by decide +kernel
theorem d_M_events_113 : decode b_M_events 113 = .ok (.iload 4, 2) := by decide +kernel
theorem d_M_events_115 : decode b_M_events 115 = .ok (.ireturn, 1) := by decide +kernel
def pp_M_events_b104 (g : Nat → ClassId) (e0 : Nat → Nat) (K : Int32 → mo_M → Prop) (B_60 : mo_M → Nat → Int32 → Int32 → Int32 → Int32 → Prop) (M : mo_M) (x0 : Nat) (x2 : Int32) (x3 : Int32) (x5 : Int32) (s0 : Int32) (s1 : Int32) : Prop := B_60 M x0 x2 x3 ((s1 + s0)) (x5 + 1)
def pp_M_events_b103 (g : Nat → ClassId) (e0 : Nat → Nat) (K : Int32 → mo_M → Prop) (B_60 : mo_M → Nat → Int32 → Int32 → Int32 → Int32 → Prop) (M : mo_M) (x0 : Nat) (x2 : Int32) (x3 : Int32) (x5 : Int32) (s0 : Int32) : Prop := pp_M_events_b104 g e0 K B_60 M x0 x2 x3 x5 ((0 : Int32)) s0
def pp_M_events_b60 (g : Nat → ClassId) (e0 : Nat → Nat) (K : Int32 → mo_M → Prop) : Nat → mo_M → Nat → Int32 → Int32 → Int32 → Int32 → Prop
  | 0, _, _, _, _, _, _ => False
  | n + 1, M, x0, x2, x3, x4, x5 => mp_gi M x0 4 9 (fun v11 => ((v11 ≤ x5 → K x4 M) ∧ (¬ (v11 ≤ x5) → mp_gr M x0 4 10 (fun v12 => mp_ai (g 0) M v12 x5 (fun v13 => ((v13 = x2 → mp_gr M x0 4 12 (fun v14 => mp_ai (g 0) M v14 x5 (fun v15 => ((x3 < v15 → pp_M_events_b103 g e0 K (fun M x0 x2 x3 x4 x5 => pp_M_events_b60 g e0 K n M x0 x2 x3 x4 x5) M x0 x2 x3 x5 x4) ∧ (¬ (x3 < v15) → mp_gr M x0 4 13 (fun v16 => mp_ai (g 0) M v16 x5 (fun v17 => pp_M_events_b104 g e0 K (fun M x0 x2 x3 x4 x5 => pp_M_events_b60 g e0 K n M x0 x2 x3 x4 x5) M x0 x2 x3 x5 v17 x4))))))) ∧ (¬ (v13 = x2) → pp_M_events_b103 g e0 K (fun M x0 x2 x3 x4 x5 => pp_M_events_b60 g e0 K n M x0 x2 x3 x4 x5) M x0 x2 x3 x5 x4)))))))
def pp_M_events_b53 (g : Nat → ClassId) (e0 : Nat → Nat) (K : Int32 → mo_M → Prop) (M : mo_M) (x0 : Nat) (x2 : Int32) (s0 : Int32) : Prop := ∃ n10 : Nat, pp_M_events_b60 g e0 K n10 M x0 x2 s0 ((0 : Int32)) ((0 : Int32))
def pp_M_events_b36 (g : Nat → ClassId) (e0 : Nat → Nat) (K : Int32 → mo_M → Prop) (M : mo_M) (x0 : Nat) (x1 : Int32) (x2 : Int32) : Prop := ((0 ≤ x1 → (mp_is M x0 4 ∧ pp_M_recording g e0 (fun r8 M7 => pp_M_events_b53 g e0 K M7 x0 x2 r8) M x0 x1 x2)) ∧ (¬ (0 ≤ x1) → mp_gi M x0 4 2 (fun v9 => pp_M_events_b53 g e0 K M x0 x2 v9)))
def pp_M_events (g : Nat → ClassId) (e0 : Nat → Nat) (K : Int32 → mo_M → Prop) (M : mo_M) (x0 : Nat) (x1 : Int32) (x2 : Int32) : Prop := mp_pt M x0 4 0 (.int ((0 : Int32))) (fun M1 => (mp_is M1 x0 4 ∧ pp_M_isKiosk g e0 (fun r3 M2 => ((r3 = 0 → K ((-1 : Int32)) M2) ∧ (¬ (r3 = 0) → mp_gi M2 x0 4 25 (fun v4 => ((v4 ≤ x1 → K ((-1 : Int32)) M2) ∧ (¬ (v4 ≤ x1) → ((x1 < 0 → pp_M_events_b36 g e0 K M2 x0 x1 x2) ∧ (¬ (x1 < 0) → (mp_is M2 x0 4 ∧ pp_M_recording g e0 (fun r6 M5 => ((r6 = 0 → K ((-1 : Int32)) M5) ∧ (¬ (r6 = 0) → pp_M_events_b36 g e0 K M5 x0 x1 x2))) M2 x0 x1 x2))))))))) M1 x0 x2))
set_option maxHeartbeats 4000000 in
set_option maxRecDepth 100000 in
theorem cc_M_events (l : Launch) (L0 : Nat) (D : va_G) {g : Nat → ClassId} {e0 : Nat → Nat} {K : Int32 → mo_M → Prop} {M : mo_M} {x0 : Nat} {x1 : Int32} {x2 : Int32} (hP : pp_M_events g e0 K M x0 x1 x2) : Met l y_M_events ws_M_events (mo_R 1 0 0 22) (va_Pc [.ref x0, .int x1, .int x2] (fun U => mo_B L0 e0 D vwCl (mo_T g) M U)) (mo_Qi L0 e0 D vwCl (mo_T g) K) 0 0 (fun q => L0 ≤ q) := by
  refine Met.ofW (cc := b_M_events) (maxL := 6) (ret := (Option.some Jvm.ClassFile.FieldType.int)) (by decide +kernel) rfl ?_
  intro p e s m args below meth c s₁ B hml hv
  obtain ⟨hv1, hB0⟩ := hv
  have hx := B.exec
  have hb := B.bytes
  have hr := B.returns
  have hts : ∀ w ∈ lw_g, w.before args s = true := fun w hw => atoms_spec (ws := ws_M_events) B.pre w (List.mem_cons_of_mem _ hw)
  have hown : s.vm.findClass "PurseHouseModel" = some m.cls := findClass_of_methodNamed B.named
  have hlocks := B.notSynchronized
  have w_104 : ∀ (B_60 : mo_M → Nat → Int32 → Int32 → Int32 → Int32 → Prop) (hB_60 : ∀ (M : mo_M) (x0 : Nat) (x2 : Int32) (x3 : Int32) (x4 : Int32) (x5 : Int32) (H : Heap) (locs : List Loc) (ls : Array Slot), B_60 M x0 x2 x3 x4 x5 → mo_ok L0 e0 D vwCl (mo_T g) s M H locs → lv_has ls 6 [(0, .ref x0), (2, .int x2), (3, .int x3), (4, .int x4), (5, .int x5)] → W p l e (headSpec ws_M_events (mo_R 1 0 0 22)).room s m args below meth c H locs 0 0 (mo_Z below (mo_Qi L0 e0 D vwCl (mo_T g) K) args s 0 0 L0) (F0 m 60 ls [])) (M : mo_M) (x0 : Nat) (x2 : Int32) (x3 : Int32) (x5 : Int32) (s0 : Int32) (s1 : Int32) (H : Heap) (locs : List Loc) (ls : Array Slot), pp_M_events_b104 g e0 K B_60 M x0 x2 x3 x5 s0 s1 → mo_ok L0 e0 D vwCl (mo_T g) s M H locs → lv_has ls 6 [(0, .ref x0), (2, .int x2), (3, .int x3), (5, .int x5)] → W p l e (headSpec ws_M_events (mo_R 1 0 0 22)).room s m args below meth c H locs 0 0 (mo_Z below (mo_Qi L0 e0 D vwCl (mo_T g) K) args s 0 0 L0) (F0 m 104 ls [.int s0, .int s1]) := by
    intro B_60 hB_60 M x0 x2 x3 x5 s0 s1 H locs ls hP hok hl
    unfold pp_M_events_b104 at hP
    refine lv_iadd hx hb d_M_events_104 ?_
    refine lv_istore (lv' := [(4, .int ((s1 + s0))), (0, .ref x0), (2, .int x2), (3, .int x3), (5, .int x5)]) hx hb d_M_events_105 hl (by decide) rfl (fun ls hl => ?_)
    refine lv_iinc (k := 4) (v := x5 + 1) (lv' := [(5, .int (x5 + 1)), (4, .int ((s1 + s0))), (0, .ref x0), (2, .int x2), (3, .int x3)]) hx hb d_M_events_107 hl rfl rfl (by decide) rfl (fun ls hl => ?_)
    refine lv_goto (tgt := 60) hx hb d_M_events_110 (by decide) ?_
    exact hB_60 _ _ _ _ _ _ _ _ _ hP hok (lv_sub hl [2, 3, 4, 1, 0] rfl)
  have w_103 : ∀ (B_60 : mo_M → Nat → Int32 → Int32 → Int32 → Int32 → Prop) (hB_60 : ∀ (M : mo_M) (x0 : Nat) (x2 : Int32) (x3 : Int32) (x4 : Int32) (x5 : Int32) (H : Heap) (locs : List Loc) (ls : Array Slot), B_60 M x0 x2 x3 x4 x5 → mo_ok L0 e0 D vwCl (mo_T g) s M H locs → lv_has ls 6 [(0, .ref x0), (2, .int x2), (3, .int x3), (4, .int x4), (5, .int x5)] → W p l e (headSpec ws_M_events (mo_R 1 0 0 22)).room s m args below meth c H locs 0 0 (mo_Z below (mo_Qi L0 e0 D vwCl (mo_T g) K) args s 0 0 L0) (F0 m 60 ls [])) (M : mo_M) (x0 : Nat) (x2 : Int32) (x3 : Int32) (x5 : Int32) (s0 : Int32) (H : Heap) (locs : List Loc) (ls : Array Slot), pp_M_events_b103 g e0 K B_60 M x0 x2 x3 x5 s0 → mo_ok L0 e0 D vwCl (mo_T g) s M H locs → lv_has ls 6 [(0, .ref x0), (2, .int x2), (3, .int x3), (5, .int x5)] → W p l e (headSpec ws_M_events (mo_R 1 0 0 22)).room s m args below meth c H locs 0 0 (mo_Z below (mo_Qi L0 e0 D vwCl (mo_T g) K) args s 0 0 L0) (F0 m 103 ls [.int s0]) := by
    intro B_60 hB_60 M x0 x2 x3 x5 s0 H locs ls hP hok hl
    unfold pp_M_events_b103 at hP
    refine lv_iconst (v := 0) hx hb d_M_events_103 (by decide) ?_
    exact w_104 B_60 hB_60 _ _ _ _ _ _ _ _ _ _ hP hok (lv_sub hl [0, 1, 2, 3] rfl)
  have w_60 : ∀ (n : Nat) (M : mo_M) (x0 : Nat) (x2 : Int32) (x3 : Int32) (x4 : Int32) (x5 : Int32) (H : Heap) (locs : List Loc) (ls : Array Slot), pp_M_events_b60 g e0 K n M x0 x2 x3 x4 x5 → mo_ok L0 e0 D vwCl (mo_T g) s M H locs → lv_has ls 6 [(0, .ref x0), (2, .int x2), (3, .int x3), (4, .int x4), (5, .int x5)] → W p l e (headSpec ws_M_events (mo_R 1 0 0 22)).room s m args below meth c H locs 0 0 (mo_Z below (mo_Qi L0 e0 D vwCl (mo_T g) K) args s 0 0 L0) (F0 m 60 ls []) := by
    intro n
    induction n with
    | zero => intro M x0 x2 x3 x4 x5 H locs ls hP; exact hP.elim
    | succ n ih =>
      intro M x0 x2 x3 x4 x5 H locs ls hP hok hl
      unfold pp_M_events_b60 at hP
      refine lv_iload hx hb d_M_events_60 (lv_at hl 4 rfl) ?_
      refine lv_aload_n hx hb d_M_events_62 rfl (lv_at hl 0 rfl) ?_
      refine mr_gi (C := "PurseHouseModel") (T := F_4) (N := 27) (ref := "PurseHouseModel") hx hb hts hown hok hP ui_4 rfl (by decide) (hts _ wd_619) (fun _ h => h) d_M_events_63 (fun v11 hP => ?_)
      refine lv_icmp_ge (tgt := 113) hx hb d_M_events_66 (by decide) (fun hc => ?_) (fun hc => ?_)
      · replace hP := hP.1 hc
        refine lv_iload hx hb d_M_events_113 (lv_at hl 3 rfl) ?_
        exact mo_iret hx hb hr hlocks hok hP d_M_events_115
      · replace hP := hP.2 hc
        refine lv_iload hx hb d_M_events_69 (lv_at hl 3 rfl) ?_
        refine lv_aload_n hx hb d_M_events_71 rfl (lv_at hl 0 rfl) ?_
        refine mr_gr (C := "PurseHouseModel") (T := F_4) (N := 27) (ref := "PurseHouseModel") hx hb hts hown hok hP ui_4 rfl (by decide) (hts _ wd_620) (fun _ h => h) d_M_events_72 (fun v12 hP => ?_)
        refine lv_iload hx hb d_M_events_75 (lv_at hl 4 rfl) ?_
        refine mr_ai hx hb hok hP 0 rfl d_M_events_77 (fun v13 hP => ?_)
        refine lv_iload_n hx hb d_M_events_78 rfl (lv_at hl 1 rfl) ?_
        refine lv_icmp_ne (tgt := 103) hx hb d_M_events_79 (by decide) (fun hc => ?_) (fun hc => ?_)
        · replace hP := hP.2 hc
          exact w_103 _ ih _ _ _ _ _ _ _ _ _ hP hok (lv_sub hl [0, 1, 2, 4] rfl)
        · replace hP := hP.1 hc
          refine lv_aload_n hx hb d_M_events_82 rfl (lv_at hl 0 rfl) ?_
          refine mr_gr (C := "PurseHouseModel") (T := F_4) (N := 27) (ref := "PurseHouseModel") hx hb hts hown hok hP ui_4 rfl (by decide) (hts _ wd_622) (fun _ h => h) d_M_events_83 (fun v14 hP => ?_)
          refine lv_iload hx hb d_M_events_86 (lv_at hl 4 rfl) ?_
          refine mr_ai hx hb hok hP 0 rfl d_M_events_88 (fun v15 hP => ?_)
          refine lv_iload_n hx hb d_M_events_89 rfl (lv_at hl 2 rfl) ?_
          refine lv_icmp_gt (tgt := 103) hx hb d_M_events_90 (by decide) (fun hc => ?_) (fun hc => ?_)
          · replace hP := hP.1 hc
            exact w_103 _ ih _ _ _ _ _ _ _ _ _ hP hok (lv_sub hl [0, 1, 2, 4] rfl)
          · replace hP := hP.2 hc
            refine lv_aload_n hx hb d_M_events_93 rfl (lv_at hl 0 rfl) ?_
            refine mr_gr (C := "PurseHouseModel") (T := F_4) (N := 27) (ref := "PurseHouseModel") hx hb hts hown hok hP ui_4 rfl (by decide) (hts _ wd_623) (fun _ h => h) d_M_events_94 (fun v16 hP => ?_)
            refine lv_iload hx hb d_M_events_97 (lv_at hl 4 rfl) ?_
            refine mr_ai hx hb hok hP 0 rfl d_M_events_99 (fun v17 hP => ?_)
            refine lv_goto (tgt := 104) hx hb d_M_events_100 (by decide) ?_
            exact w_104 _ ih _ _ _ _ _ _ _ _ _ _ hP hok (lv_sub hl [0, 1, 2, 4] rfl)
  have w_53 : ∀ (M : mo_M) (x0 : Nat) (x2 : Int32) (s0 : Int32) (H : Heap) (locs : List Loc) (ls : Array Slot), pp_M_events_b53 g e0 K M x0 x2 s0 → mo_ok L0 e0 D vwCl (mo_T g) s M H locs → lv_has ls 6 [(0, .ref x0), (2, .int x2)] → W p l e (headSpec ws_M_events (mo_R 1 0 0 22)).room s m args below meth c H locs 0 0 (mo_Z below (mo_Qi L0 e0 D vwCl (mo_T g) K) args s 0 0 L0) (F0 m 53 ls [.int s0]) := by
    intro M x0 x2 s0 H locs ls hP hok hl
    unfold pp_M_events_b53 at hP
    refine lv_istore_n (lv' := [(3, .int s0), (0, .ref x0), (2, .int x2)]) hx hb d_M_events_53 rfl hl (by decide) rfl (fun ls hl => ?_)
    refine lv_iconst (v := 0) hx hb d_M_events_54 (by decide) ?_
    refine lv_istore (lv' := [(4, .int ((0 : Int32))), (3, .int s0), (0, .ref x0), (2, .int x2)]) hx hb d_M_events_55 hl (by decide) rfl (fun ls hl => ?_)
    refine lv_iconst (v := 0) hx hb d_M_events_57 (by decide) ?_
    refine lv_istore (lv' := [(5, .int ((0 : Int32))), (4, .int ((0 : Int32))), (3, .int s0), (0, .ref x0), (2, .int x2)]) hx hb d_M_events_58 hl (by decide) rfl (fun ls hl => ?_)
    obtain ⟨n10, hP⟩ := hP
    exact w_60  n10 _ _ _ _ _ _ _ _ _ hP hok (lv_sub hl [3, 4, 2, 1, 0] rfl)
  have w_36 : ∀ (M : mo_M) (x0 : Nat) (x1 : Int32) (x2 : Int32) (H : Heap) (locs : List Loc) (ls : Array Slot), pp_M_events_b36 g e0 K M x0 x1 x2 → mo_ok L0 e0 D vwCl (mo_T g) s M H locs → lv_has ls 6 [(0, .ref x0), (1, .int x1), (2, .int x2)] → W p l e (headSpec ws_M_events (mo_R 1 0 0 22)).room s m args below meth c H locs 0 0 (mo_Z below (mo_Qi L0 e0 D vwCl (mo_T g) K) args s 0 0 L0) (F0 m 36 ls []) := by
    intro M x0 x1 x2 H locs ls hP hok hl
    unfold pp_M_events_b36 at hP
    refine lv_iload_n hx hb d_M_events_36 rfl (lv_at hl 1 rfl) ?_
    refine lv_if_ge (tgt := 47) hx hb d_M_events_37 (by decide) (fun hc => ?_) (fun hc => ?_)
    · replace hP := hP.1 hc
      refine lv_aload_n hx hb d_M_events_47 rfl (lv_at hl 0 rfl) ?_
      refine lv_iload_n hx hb d_M_events_48 rfl (lv_at hl 1 rfl) ?_
      refine lv_iload_n hx hb d_M_events_49 rfl (lv_at hl 2 rfl) ?_
      obtain ⟨⟨fs9, he9⟩, hP⟩ := hP
      refine mo_calli hok (va_runV (As := [.int x1, .int x2]) (rest := []) ⟨hx, hb, hml, hown, hts⟩ (cc_M_recording l L0 D hP) ⟨(callB_of 2 hts (lw_gi wd_772) rfl rfl rfl (hts _ wd_39) (hts _ wd_769) (by decide +kernel) ⟨Nat.le_of_ble_eq_true rfl, Nat.le_of_ble_eq_true rfl⟩), hts _ wd_771, hts _ wd_24⟩ (mo_preV hok he9 rfl [.int x1, .int x2]) rfl rfl hl.1 rfl (lv_room (Nat.le_of_ble_eq_true rfl)) d_M_events_50 ⟨Nat.zero_le _, Nat.zero_le _⟩) (fun r8 M7 H locs hP hok => ?_)
      exact w_53  _ _ _ _ _ _ _ hP hok (lv_sub hl [0, 2] rfl)
    · replace hP := hP.2 hc
      refine lv_aload_n hx hb d_M_events_40 rfl (lv_at hl 0 rfl) ?_
      refine mr_gi (C := "PurseHouseModel") (T := F_4) (N := 27) (ref := "PurseHouseModel") hx hb hts hown hok hP ui_4 rfl (by decide) (hts _ wd_612) (fun _ h => h) d_M_events_41 (fun v9 hP => ?_)
      refine lv_goto (tgt := 53) hx hb d_M_events_44 (by decide) ?_
      exact w_53  _ _ _ _ _ _ _ hP hok (lv_sub hl [0, 2] rfl)
  have hok : mo_ok L0 e0 D vwCl (mo_T g) s M s.heap [] := ⟨hB0.1, hB0.2.1, hB0.2.2, va_S.rf⟩
  have hl := lv_entry ([.ref x0, .int x1, .int x2]) (n := 6) (Nat.le_of_ble_eq_true rfl)
  rw [hv1, lg_entry_eq]
  rw [← hv1]
  generalize (lg_sl [.ref x0, .int x1, .int x2] ++ List.replicate (6 - (lg_sl [.ref x0, .int x1, .int x2]).length) Slot.unset).toArray = ls at hl ⊢
  have hl : lv_has ls 6 [(0, .ref x0), (1, .int x1), (2, .int x2)] := hl
  unfold pp_M_events at hP
  refine lv_aload_n hx hb d_M_events_0 rfl (lv_at hl 0 rfl) ?_
  refine lv_iconst (v := 0) hx hb d_M_events_1 (by decide) ?_
  refine mr_pt (C := "PurseHouseModel") (T := F_4) (N := 27) (ref := "PurseHouseModel") (ty := .int) hx hb hts hown hok hP ui_4 ty_4 th_4 tn_4 rfl (by decide) (hts _ wd_610) (fun _ h => h) rfl (by decide +kernel) rfl rfl d_M_events_2 (fun M1 H locs hP hok => ?_)
  refine lv_aload_n hx hb d_M_events_5 rfl (lv_at hl 0 rfl) ?_
  refine lv_iload_n hx hb d_M_events_6 rfl (lv_at hl 2 rfl) ?_
  obtain ⟨⟨fs9, he9⟩, hP⟩ := hP
  refine mo_calli hok (va_runV (As := [.int x2]) (rest := []) ⟨hx, hb, hml, hown, hts⟩ (cc_M_isKiosk l L0 D hP) ⟨(callB_of 1 hts (lw_gi wd_704) rfl rfl rfl (hts _ wd_39) (hts _ wd_701) (by decide +kernel) ⟨Nat.le_of_ble_eq_true rfl, Nat.le_of_ble_eq_true rfl⟩), hts _ wd_703, hts _ wd_15⟩ (mo_preV hok he9 rfl [.int x2]) rfl rfl hl.1 rfl (lv_room (Nat.le_of_ble_eq_true rfl)) d_M_events_7 ⟨Nat.zero_le _, Nat.zero_le _⟩) (fun r3 M2 H locs hP hok => ?_)
  refine lv_if_eq (tgt := 34) hx hb d_M_events_10 (by decide) (fun hc => ?_) (fun hc => ?_)
  · replace hP := hP.1 hc
    refine lv_iconst (v := (-1)) hx hb d_M_events_34 (by decide) ?_
    exact mo_iret hx hb hr hlocks hok hP d_M_events_35
  · replace hP := hP.2 hc
    refine lv_iload_n hx hb d_M_events_13 rfl (lv_at hl 1 rfl) ?_
    refine lv_aload_n hx hb d_M_events_14 rfl (lv_at hl 0 rfl) ?_
    refine mr_gi (C := "PurseHouseModel") (T := F_4) (N := 27) (ref := "PurseHouseModel") hx hb hts hown hok hP ui_4 rfl (by decide) (hts _ wd_635) (fun _ h => h) d_M_events_15 (fun v4 hP => ?_)
    refine lv_icmp_ge (tgt := 34) hx hb d_M_events_18 (by decide) (fun hc => ?_) (fun hc => ?_)
    · replace hP := hP.1 hc
      refine lv_iconst (v := (-1)) hx hb d_M_events_34 (by decide) ?_
      exact mo_iret hx hb hr hlocks hok hP d_M_events_35
    · replace hP := hP.2 hc
      refine lv_iload_n hx hb d_M_events_21 rfl (lv_at hl 1 rfl) ?_
      refine lv_if_lt (tgt := 36) hx hb d_M_events_22 (by decide) (fun hc => ?_) (fun hc => ?_)
      · replace hP := hP.1 hc
        exact w_36  _ _ _ _ _ _ _ hP hok (lv_sub hl [0, 1, 2] rfl)
      · replace hP := hP.2 hc
        refine lv_aload_n hx hb d_M_events_25 rfl (lv_at hl 0 rfl) ?_
        refine lv_iload_n hx hb d_M_events_26 rfl (lv_at hl 1 rfl) ?_
        refine lv_iload_n hx hb d_M_events_27 rfl (lv_at hl 2 rfl) ?_
        obtain ⟨⟨fs9, he9⟩, hP⟩ := hP
        refine mo_calli hok (va_runV (As := [.int x1, .int x2]) (rest := []) ⟨hx, hb, hml, hown, hts⟩ (cc_M_recording l L0 D hP) ⟨(callB_of 2 hts (lw_gi wd_772) rfl rfl rfl (hts _ wd_39) (hts _ wd_769) (by decide +kernel) ⟨Nat.le_of_ble_eq_true rfl, Nat.le_of_ble_eq_true rfl⟩), hts _ wd_771, hts _ wd_24⟩ (mo_preV hok he9 rfl [.int x1, .int x2]) rfl rfl hl.1 rfl (lv_room (Nat.le_of_ble_eq_true rfl)) d_M_events_28 ⟨Nat.zero_le _, Nat.zero_le _⟩) (fun r6 M5 H locs hP hok => ?_)
        refine lv_if_ne (tgt := 36) hx hb d_M_events_31 (by decide) (fun hc => ?_) (fun hc => ?_)
        · replace hP := hP.2 hc
          exact w_36  _ _ _ _ _ _ _ hP hok (lv_sub hl [0, 1, 2] rfl)
        · replace hP := hP.1 hc
          refine lv_iconst (v := (-1)) hx hb d_M_events_34 (by decide) ?_
          exact mo_iret hx hb hr hlocks hok hP d_M_events_35

