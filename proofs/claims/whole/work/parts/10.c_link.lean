abbrev b_L_init : ByteArray := prog_3_method_1_code
def y_L_init : MethodName := ⟨"PurseHouse$Link", "<init>", "(LPurseHouse$Kiosk;LPurseHouse$Kiosk;Z)V"⟩
def ws_L_init : List Cond := .code y_L_init b_L_init 4 (Option.none : Option Jvm.ClassFile.FieldType) :: lw_g
theorem d_L_init_0 : decode b_L_init 0 = .ok (.aload_n 0, 1) := by decide +kernel
theorem d_L_init_1 : decode b_L_init 1 = .ok (.invokespecial 3, 3) := by decide +kernel
theorem d_L_init_4 : decode b_L_init 4 = .ok (.aload_n 0, 1) := by decide +kernel
theorem d_L_init_5 : decode b_L_init 5 = .ok (.new 9, 3) := by decide +kernel
theorem d_L_init_8 : decode b_L_init 8 = .ok (.dup, 1) := by decide +kernel
theorem d_L_init_9 : decode b_L_init 9 = .ok (.invokespecial 11, 3) := by decide +kernel
theorem d_L_init_12 : decode b_L_init 12 = .ok (.putfield 12, 3) := by decide +kernel
theorem d_L_init_15 : decode b_L_init 15 = .ok (.aload_n 0, 1) := by decide +kernel
theorem d_L_init_16 : decode b_L_init 16 = .ok (.bipush 16, 2) := by decide +kernel
theorem d_L_init_18 : decode b_L_init 18 = .ok (.iconst 3, 1) := by decide +kernel
theorem d_L_init_19 : decode b_L_init 19 = .ok (.multianewarray 18 2, 4) := by decide +kernel
theorem d_L_init_23 : decode b_L_init 23 = .ok (.putfield 20, 3) := by decide +kernel
theorem d_L_init_26 : decode b_L_init 26 = .ok (.aload_n 0, 1) := by decide +kernel
theorem d_L_init_27 : decode b_L_init 27 = .ok (.iconst 0, 1) := by decide +kernel
theorem d_L_init_28 : decode b_L_init 28 = .ok (.putfield 23, 3) := by decide +kernel
theorem d_L_init_31 : decode b_L_init 31 = .ok (.aload_n 0, 1) := by decide +kernel
theorem d_L_init_32 : decode b_L_init 32 = .ok (.aload_n 1, 1) := by decide +kernel
theorem d_L_init_33 : decode b_L_init 33 = .ok (.putfield 27, 3) := by decide +kernel
theorem d_L_init_36 : decode b_L_init 36 = .ok (.aload_n 0, 1) := by decide +kernel
theorem d_L_init_37 : decode b_L_init 37 = .ok (.aload_n 2, 1) := by decide +kernel
theorem d_L_init_38 : decode b_L_init 38 = .ok (.putfield 31, 3) := by decide +kernel
theorem d_L_init_41 : decode b_L_init 41 = .ok (.aload_n 0, 1) := by decide +kernel
theorem d_L_init_42 : decode b_L_init 42 = .ok (.iload_n 3, 1) := by decide +kernel
theorem d_L_init_43 : decode b_L_init 43 = .ok (.putfield 34, 3) := by decide +kernel
theorem d_L_init_46 : decode b_L_init 46 = .ok (.return_, 1) := by decide +kernel
def pp_L_init (g : Nat → ClassId) (e0 : Nat → Nat) (mc ms : Nat) (K : mo_M → Prop) (M : mo_M) (x0 : Nat) (x1 : Nat) (x2 : Nat) (x3 : Int32) : Prop := (0 + 1 ≤ mc ∧ 0 + 3 ≤ ms ∧ mp_nw M 5 [.int 0, .null, .int 0] (fun q1 M2 => (((0 + 1)) ≤ mc ∧ ((0 + 3)) ≤ ms ∧ pp_A_init g e0 (fun M3 => mp_pt M3 x0 2 3 (.ref q1) (fun M4 => (((0 + 1)) + (1 + ((16 : Int32)).toNatClampNeg) ≤ mc ∧ ((0 + 3)) + (((16 : Int32)).toNatClampNeg + ((16 : Int32)).toNatClampNeg * ((3 : Int32)).toNatClampNeg) ≤ ms ∧ mp_mn (g 4) (g 1) M4 ((16 : Int32)) ((3 : Int32)) (.inr (.inl (fun _ => 0))) (fun q5 M6 => mp_pt M6 x0 2 4 (.ref q5) (fun M7 => mp_pt M7 x0 2 5 (.int ((0 : Int32))) (fun M8 => mp_pt M8 x0 2 0 (.ref x1) (fun M9 => mp_pt M9 x0 2 1 (.ref x2) (fun M10 => ((narrow .boolean (.int x3) = .int x3 ∧ fits .boolean (.int x3) = true) ∧ mp_pt M10 x0 2 2 (.int x3) (fun M11 => ((((0 + 1) + 1 + ((16 : Int32)).toNatClampNeg)) ≤ mc ∧ (((0 + 3) + ((16 : Int32)).toNatClampNeg + ((16 : Int32)).toNatClampNeg * ((3 : Int32)).toNatClampNeg)) ≤ ms ∧ K M11))))))))))) M2 q1)))
set_option maxHeartbeats 4000000 in
set_option maxRecDepth 100000 in
theorem cc_L_init (l : Launch) (L0 : Nat) (D : va_G) {g : Nat → ClassId} {e0 : Nat → Nat} {mc ms : Nat} {K : mo_M → Prop} {M : mo_M} {x0 : Nat} {x1 : Nat} {x2 : Nat} {x3 : Int32} (hP : pp_L_init g e0 mc ms K M x0 x1 x2 x3) : Met l y_L_init ws_L_init (mo_R 4 mc ms 72) (va_Pc [.ref x0, .ref x1, .ref x2, .int x3] (fun U => mo_B L0 e0 D vwCl (mo_T g) M U)) (mo_Qv L0 e0 D vwCl (mo_T g) K) mc ms (fun q => L0 ≤ q) := by
  refine Met.ofW (cc := b_L_init) (maxL := 4) (ret := (Option.none : Option Jvm.ClassFile.FieldType)) (by decide +kernel) rfl ?_
  intro p e s m args below meth c s₁ B hml hv
  obtain ⟨hv1, hB0⟩ := hv
  have hx := B.exec
  have hb := B.bytes
  have hr := B.returns
  have hts : ∀ w ∈ lw_g, w.before args s = true := fun w hw => atoms_spec (ws := ws_L_init) B.pre w (List.mem_cons_of_mem _ hw)
  have hown : s.vm.findClass "PurseHouse$Link" = some m.cls := findClass_of_methodNamed B.named
  have hlocks := B.notSynchronized
  have hin : meth.name = "<init>" := (name_of_methodNamed B.named B.method).1
  have hok : mo_ok L0 e0 D vwCl (mo_T g) s M s.heap [] := ⟨hB0.1, hB0.2.1, hB0.2.2, va_S.rf⟩
  have hl := lv_entry ([.ref x0, .ref x1, .ref x2, .int x3]) (n := 4) (Nat.le_of_ble_eq_true rfl)
  rw [hv1, lg_entry_eq]
  rw [← hv1]
  generalize (lg_sl [.ref x0, .ref x1, .ref x2, .int x3] ++ List.replicate (4 - (lg_sl [.ref x0, .ref x1, .ref x2, .int x3]).length) Slot.unset).toArray = ls at hl ⊢
  have hl : lv_has ls 4 [(0, .ref x0), (1, .ref x1), (2, .ref x2), (3, .int x3)] := hl
  unfold pp_L_init at hP
  refine lv_aload_n hx hb d_L_init_0 rfl (lv_at hl 0 rfl) ?_
  refine W.objInit hx hb hown (hts _ wd_177) (hts _ wd_58) (hts _ wd_59) rfl (by rw [hml]; exact hl.1) rfl d_L_init_1 (Nat.le_of_ble_eq_true rfl) (Nat.le_of_ble_eq_true rfl) ?_
  refine W.eq (g2 := F0 m 4 ls []) rfl ?_
  refine lv_aload_n hx hb d_L_init_4 rfl (lv_at hl 0 rfl) ?_
  obtain ⟨hcc, hss, hP⟩ := hP
  refine mr_nw (C := "java/util/ArrayList") (T := F_5) (N := 3) hx hb hts hown hok hP ui_5 ty_5 th_5 rfl tf_5 (hts _ wd_178) (hts _ wd_61) (hts _ wd_36) hcc hss d_L_init_5 (fun q1 M2 H hP hok => ?_)
  refine lv_dup hx hb d_L_init_8 rfl ?_
  obtain ⟨hcc, hss, hP⟩ := hP
  refine mo_callv hok (va_runI (As := []) (rest := [.ref q1, .ref x0]) ⟨hx, hb, hml, hown, hts⟩ (cc_A_init l L0 D hP) ⟨(callB_of 0 hts (lw_gi wd_64) rfl rfl rfl (hts _ wd_36) (hts _ wd_179) (by decide +kernel) ⟨Nat.le_of_ble_eq_true rfl, Nat.le_of_ble_eq_true rfl⟩), rfl, hts _ wd_63⟩ (mo_preS hok [.ref q1]) rfl rfl hl.1 rfl (lv_room (Nat.le_of_ble_eq_true rfl)) d_L_init_9 ⟨hcc, hss⟩) (fun M3 H locs hP hok => ?_)
  refine mr_ptF (C := "PurseHouse$Link") (T := F_2) (N := 6) (ref := "PurseHouse$Link") (ty := (.object "java/util/ArrayList")) hx hb hts hown hok hP ui_2 ty_2 th_2 tn_2 rfl (by decide) (hts _ wd_187) (fun _ h => h) rfl hin rfl (by decide +kernel) rfl rfl d_L_init_12 (fun M4 H locs hP hok => ?_)
  refine lv_aload_n hx hb d_L_init_15 rfl (lv_at hl 0 rfl) ?_
  refine lv_bipush (v := 16) hx hb d_L_init_16 (by decide) ?_
  refine lv_iconst (v := 3) hx hb d_L_init_18 (by decide) ?_
  obtain ⟨hcc, hss, hP⟩ := hP
  refine mr_mn (ty := .long) hx hb hown hok hP (by decide) (hts _ wd_180) hok.2.1.2.1.2.2.2.2.2 (hts _ wd_140) 4 1 rfl rfl (fun h => h) (by decide) rfl rfl (fun _ => rfl) hcc hss d_L_init_19 (fun q5 M6 H hP hok => ?_)
  refine mr_ptF (C := "PurseHouse$Link") (T := F_2) (N := 6) (ref := "PurseHouse$Link") (ty := (.array (.array .long))) hx hb hts hown hok hP ui_2 ty_2 th_2 tn_2 rfl (by decide) (hts _ wd_189) (fun _ h => h) rfl hin rfl (by decide +kernel) rfl rfl d_L_init_23 (fun M7 H locs hP hok => ?_)
  refine lv_aload_n hx hb d_L_init_26 rfl (lv_at hl 0 rfl) ?_
  refine lv_iconst (v := 0) hx hb d_L_init_27 (by decide) ?_
  refine mr_pt (C := "PurseHouse$Link") (T := F_2) (N := 6) (ref := "PurseHouse$Link") (ty := .int) hx hb hts hown hok hP ui_2 ty_2 th_2 tn_2 rfl (by decide) (hts _ wd_191) (fun _ h => h) rfl (by decide +kernel) rfl rfl d_L_init_28 (fun M8 H locs hP hok => ?_)
  refine lv_aload_n hx hb d_L_init_31 rfl (lv_at hl 0 rfl) ?_
  refine lv_aload_n hx hb d_L_init_32 rfl (lv_at hl 1 rfl) ?_
  refine mr_ptF (C := "PurseHouse$Link") (T := F_2) (N := 6) (ref := "PurseHouse$Link") (ty := (.object "PurseHouse$Kiosk")) hx hb hts hown hok hP ui_2 ty_2 th_2 tn_2 rfl (by decide) (hts _ wd_181) (fun _ h => h) rfl hin rfl (by decide +kernel) rfl rfl d_L_init_33 (fun M9 H locs hP hok => ?_)
  refine lv_aload_n hx hb d_L_init_36 rfl (lv_at hl 0 rfl) ?_
  refine lv_aload_n hx hb d_L_init_37 rfl (lv_at hl 2 rfl) ?_
  refine mr_ptF (C := "PurseHouse$Link") (T := F_2) (N := 6) (ref := "PurseHouse$Link") (ty := (.object "PurseHouse$Kiosk")) hx hb hts hown hok hP ui_2 ty_2 th_2 tn_2 rfl (by decide) (hts _ wd_183) (fun _ h => h) rfl hin rfl (by decide +kernel) rfl rfl d_L_init_38 (fun M10 H locs hP hok => ?_)
  refine lv_aload_n hx hb d_L_init_41 rfl (lv_at hl 0 rfl) ?_
  refine lv_iload_n hx hb d_L_init_42 rfl (lv_at hl 3 rfl) ?_
  obtain ⟨⟨hn, hf⟩, hP⟩ := hP
  refine mr_ptF (C := "PurseHouse$Link") (T := F_2) (N := 6) (ref := "PurseHouse$Link") (ty := .boolean) hx hb hts hown hok hP ui_2 ty_2 th_2 tn_2 rfl (by decide) (hts _ wd_185) (fun _ h => h) rfl hin rfl (by decide +kernel) hn hf d_L_init_43 (fun M11 H locs hP hok => ?_)
  obtain ⟨hcu, hsu, hP⟩ := hP
  refine W.widen (k := mc) (n := ms) hcu hsu ?_
  exact mo_vret hx hb hr hlocks hok hP d_L_init_46

abbrev b_L_countBags : ByteArray := prog_3_method_2_code
def y_L_countBags : MethodName := ⟨"PurseHouse$Link", "countBags", "()I"⟩
def ws_L_countBags : List Cond := .code y_L_countBags b_L_countBags 3 (Option.some Jvm.ClassFile.FieldType.int) :: lw_g
theorem d_L_countBags_0 : decode b_L_countBags 0 = .ok (.iconst 0, 1) := by decide +kernel
theorem d_L_countBags_1 : decode b_L_countBags 1 = .ok (.istore_n 1, 1) := by decide +kernel
theorem d_L_countBags_2 : decode b_L_countBags 2 = .ok (.iconst 0, 1) := by decide +kernel
theorem d_L_countBags_3 : decode b_L_countBags 3 = .ok (.istore_n 2, 1) := by decide +kernel
theorem d_L_countBags_4 : decode b_L_countBags 4 = .ok (.iload_n 2, 1) := by decide +kernel
theorem d_L_countBags_5 : decode b_L_countBags 5 = .ok (.aload_n 0, 1) := by decide +kernel
theorem d_L_countBags_6 : decode b_L_countBags 6 = .ok (.getfield 12, 3) := by decide +kernel
theorem d_L_countBags_9 : decode b_L_countBags 9 = .ok (.invokevirtual 38, 3) := by decide +kernel
theorem d_L_countBags_12 : decode b_L_countBags 12 = .ok (.if_icmp .ge 30, 3) := by decide +kernel
theorem d_L_countBags_15 : decode b_L_countBags 15 = .ok (.aload_n 0, 1) := by decide +kernel
theorem d_L_countBags_16 : decode b_L_countBags 16 = .ok (.getfield 12, 3) := by decide +kernel
theorem d_L_countBags_19 : decode b_L_countBags 19 = .ok (.iload_n 2, 1) := by decide +kernel
theorem d_L_countBags_20 : decode b_L_countBags 20 = .ok (.invokevirtual 42, 3) := by decide +kernel
theorem d_L_countBags_23 : decode b_L_countBags 23 = .ok (.checkcast 46, 3) := by decide +kernel
theorem d_L_countBags_26 : decode b_L_countBags 26 = .ok (.getfield 48, 3) := by decide +kernel
theorem d_L_countBags_29 : decode b_L_countBags 29 = .ok (.iconst 1, 1) := by decide +kernel
theorem d_L_countBags_30 : decode b_L_countBags 30 = .ok (.if_icmp .ne 6, 3) := by decide +kernel
theorem d_L_countBags_33 : decode b_L_countBags 33 = .ok (.iinc 1 1, 3) := by decide +kernel
theorem d_L_countBags_36 : decode b_L_countBags 36 = .ok (.iinc 2 1, 3) := by decide +kernel
theorem d_L_countBags_39 : decode b_L_countBags 39 = .ok (.goto (-35), 3) := by decide +kernel
theorem d_L_countBags_42 : decode b_L_countBags 42 = .ok (.iload_n 1, 1) := by decide +kernel
theorem d_L_countBags_43 : decode b_L_countBags 43 = .ok (.ireturn, 1) := by decide +kernel
def pp_L_countBags_b36 (g : Nat → ClassId) (e0 : Nat → Nat) (K : Int32 → mo_M → Prop) (B_4 : mo_M → Nat → Int32 → Int32 → Prop) (M : mo_M) (x0 : Nat) (x1 : Int32) (x2 : Int32) : Prop := B_4 M x0 x1 (x2 + 1)
def pp_L_countBags_b4 (g : Nat → ClassId) (e0 : Nat → Nat) (K : Int32 → mo_M → Prop) : Nat → mo_M → Nat → Int32 → Int32 → Prop
  | 0, _, _, _, _ => False
  | n + 1, M, x0, x1, x2 => mp_gr M x0 2 3 (fun v2 => (mp_is M v2 5 ∧ pp_A_size g e0 (fun r4 M3 => ((r4 ≤ x2 → K x1 M3) ∧ (¬ (r4 ≤ x2) → mp_gr M3 x0 2 3 (fun v5 => (mp_is M3 v5 5 ∧ pp_A_get g e0 (fun r7 M6 => (mp_is M6 r7 3 ∧ mp_gi M6 r7 3 0 (fun v8 => ((v8 = ((1 : Int32)) → pp_L_countBags_b36 g e0 K (fun M x0 x1 x2 => pp_L_countBags_b4 g e0 K n M x0 x1 x2) M6 x0 (x1 + 1) x2) ∧ (¬ (v8 = ((1 : Int32))) → pp_L_countBags_b36 g e0 K (fun M x0 x1 x2 => pp_L_countBags_b4 g e0 K n M x0 x1 x2) M6 x0 x1 x2))))) M3 v5 x2))))) M v2))
def pp_L_countBags (g : Nat → ClassId) (e0 : Nat → Nat) (K : Int32 → mo_M → Prop) (M : mo_M) (x0 : Nat) : Prop := ∃ n1 : Nat, pp_L_countBags_b4 g e0 K n1 M x0 ((0 : Int32)) ((0 : Int32))
set_option maxHeartbeats 4000000 in
set_option maxRecDepth 100000 in
theorem cc_L_countBags (l : Launch) (L0 : Nat) (D : va_G) {g : Nat → ClassId} {e0 : Nat → Nat} {K : Int32 → mo_M → Prop} {M : mo_M} {x0 : Nat} (hP : pp_L_countBags g e0 K M x0) : Met l y_L_countBags ws_L_countBags (mo_R 3 0 0 64) (va_Pc [.ref x0] (fun U => mo_B L0 e0 D vwCl (mo_T g) M U)) (mo_Qi L0 e0 D vwCl (mo_T g) K) 0 0 (fun q => L0 ≤ q) := by
  refine Met.ofW (cc := b_L_countBags) (maxL := 3) (ret := (Option.some Jvm.ClassFile.FieldType.int)) (by decide +kernel) rfl ?_
  intro p e s m args below meth c s₁ B hml hv
  obtain ⟨hv1, hB0⟩ := hv
  have hx := B.exec
  have hb := B.bytes
  have hr := B.returns
  have hts : ∀ w ∈ lw_g, w.before args s = true := fun w hw => atoms_spec (ws := ws_L_countBags) B.pre w (List.mem_cons_of_mem _ hw)
  have hown : s.vm.findClass "PurseHouse$Link" = some m.cls := findClass_of_methodNamed B.named
  have hlocks := B.notSynchronized
  have w_36 : ∀ (B_4 : mo_M → Nat → Int32 → Int32 → Prop) (hB_4 : ∀ (M : mo_M) (x0 : Nat) (x1 : Int32) (x2 : Int32) (H : Heap) (locs : List Loc) (ls : Array Slot), B_4 M x0 x1 x2 → mo_ok L0 e0 D vwCl (mo_T g) s M H locs → lv_has ls 3 [(0, .ref x0), (1, .int x1), (2, .int x2)] → W p l e (headSpec ws_L_countBags (mo_R 3 0 0 64)).room s m args below meth c H locs 0 0 (mo_Z below (mo_Qi L0 e0 D vwCl (mo_T g) K) args s 0 0 L0) (F0 m 4 ls [])) (M : mo_M) (x0 : Nat) (x1 : Int32) (x2 : Int32) (H : Heap) (locs : List Loc) (ls : Array Slot), pp_L_countBags_b36 g e0 K B_4 M x0 x1 x2 → mo_ok L0 e0 D vwCl (mo_T g) s M H locs → lv_has ls 3 [(0, .ref x0), (1, .int x1), (2, .int x2)] → W p l e (headSpec ws_L_countBags (mo_R 3 0 0 64)).room s m args below meth c H locs 0 0 (mo_Z below (mo_Qi L0 e0 D vwCl (mo_T g) K) args s 0 0 L0) (F0 m 36 ls []) := by
    intro B_4 hB_4 M x0 x1 x2 H locs ls hP hok hl
    unfold pp_L_countBags_b36 at hP
    refine lv_iinc (k := 2) (v := x2 + 1) (lv' := [(2, .int (x2 + 1)), (0, .ref x0), (1, .int x1)]) hx hb d_L_countBags_36 hl rfl rfl (by decide) rfl (fun ls hl => ?_)
    refine lv_goto (tgt := 4) hx hb d_L_countBags_39 (by decide) ?_
    exact hB_4 _ _ _ _ _ _ _ hP hok (lv_sub hl [1, 2, 0] rfl)
  have w_4 : ∀ (n : Nat) (M : mo_M) (x0 : Nat) (x1 : Int32) (x2 : Int32) (H : Heap) (locs : List Loc) (ls : Array Slot), pp_L_countBags_b4 g e0 K n M x0 x1 x2 → mo_ok L0 e0 D vwCl (mo_T g) s M H locs → lv_has ls 3 [(0, .ref x0), (1, .int x1), (2, .int x2)] → W p l e (headSpec ws_L_countBags (mo_R 3 0 0 64)).room s m args below meth c H locs 0 0 (mo_Z below (mo_Qi L0 e0 D vwCl (mo_T g) K) args s 0 0 L0) (F0 m 4 ls []) := by
    intro n
    induction n with
    | zero => intro M x0 x1 x2 H locs ls hP; exact hP.elim
    | succ n ih =>
      intro M x0 x1 x2 H locs ls hP hok hl
      unfold pp_L_countBags_b4 at hP
      refine lv_iload_n hx hb d_L_countBags_4 rfl (lv_at hl 2 rfl) ?_
      refine lv_aload_n hx hb d_L_countBags_5 rfl (lv_at hl 0 rfl) ?_
      refine mr_gr (C := "PurseHouse$Link") (T := F_2) (N := 6) (ref := "PurseHouse$Link") hx hb hts hown hok hP ui_2 rfl (by decide) (hts _ wd_187) (fun _ h => h) d_L_countBags_6 (fun v2 hP => ?_)
      obtain ⟨⟨fs9, he9⟩, hP⟩ := hP
      refine mo_calli hok (va_runV (As := []) (rest := [.int x2]) ⟨hx, hb, hml, hown, hts⟩ (cc_A_size l L0 D hP) ⟨(callB_of 0 hts (lw_gi wd_171) rfl rfl rfl (hts _ wd_36) (hts _ wd_328) (by decide +kernel) ⟨Nat.le_of_ble_eq_true rfl, Nat.le_of_ble_eq_true rfl⟩), hts _ wd_169, hts _ wd_170⟩ (mo_preV hok he9 rfl []) rfl rfl hl.1 rfl (lv_room (Nat.le_of_ble_eq_true rfl)) d_L_countBags_9 ⟨Nat.zero_le _, Nat.zero_le _⟩) (fun r4 M3 H locs hP hok => ?_)
      refine lv_icmp_ge (tgt := 42) hx hb d_L_countBags_12 (by decide) (fun hc => ?_) (fun hc => ?_)
      · replace hP := hP.1 hc
        refine lv_iload_n hx hb d_L_countBags_42 rfl (lv_at hl 1 rfl) ?_
        exact mo_iret hx hb hr hlocks hok hP d_L_countBags_43
      · replace hP := hP.2 hc
        refine lv_aload_n hx hb d_L_countBags_15 rfl (lv_at hl 0 rfl) ?_
        refine mr_gr (C := "PurseHouse$Link") (T := F_2) (N := 6) (ref := "PurseHouse$Link") hx hb hts hown hok hP ui_2 rfl (by decide) (hts _ wd_187) (fun _ h => h) d_L_countBags_16 (fun v5 hP => ?_)
        refine lv_iload_n hx hb d_L_countBags_19 rfl (lv_at hl 2 rfl) ?_
        obtain ⟨⟨fs9, he9⟩, hP⟩ := hP
        refine mo_callr hok (va_runV (As := [.int x2]) (rest := []) ⟨hx, hb, hml, hown, hts⟩ (cc_A_get l L0 D hP) ⟨(callB_of 1 hts (lw_gi wd_313) rfl rfl rfl (hts _ wd_36) (hts _ wd_329) (by decide +kernel) ⟨Nat.le_of_ble_eq_true rfl, Nat.le_of_ble_eq_true rfl⟩), hts _ wd_311, hts _ wd_312⟩ (mo_preV hok he9 rfl [.int x2]) rfl rfl hl.1 rfl (lv_room (Nat.le_of_ble_eq_true rfl)) d_L_countBags_20 ⟨Nat.zero_le _, Nat.zero_le _⟩) (fun r7 M6 H locs hP hok => ?_)
        obtain ⟨his, hP⟩ := hP
        refine mr_cast (C := "PurseHouse$Thing") (T := F_3) (N := 4) hx hb hown hok his rfl (hts _ wd_330) d_L_countBags_23 ?_
        refine mr_gi (C := "PurseHouse$Thing") (T := F_3) (N := 4) (ref := "PurseHouse$Thing") hx hb hts hown hok hP ui_3 rfl (by decide) (hts _ wd_345) (fun _ h => h) d_L_countBags_26 (fun v8 hP => ?_)
        refine lv_iconst (v := 1) hx hb d_L_countBags_29 (by decide) ?_
        refine lv_icmp_ne (tgt := 36) hx hb d_L_countBags_30 (by decide) (fun hc => ?_) (fun hc => ?_)
        · replace hP := hP.2 hc
          exact w_36 _ ih _ _ _ _ _ _ _ hP hok (lv_sub hl [0, 1, 2] rfl)
        · replace hP := hP.1 hc
          refine lv_iinc (k := 1) (v := x1 + 1) (lv' := [(1, .int (x1 + 1)), (0, .ref x0), (2, .int x2)]) hx hb d_L_countBags_33 hl rfl rfl (by decide) rfl (fun ls hl => ?_)
          exact w_36 _ ih _ _ _ _ _ _ _ hP hok (lv_sub hl [1, 0, 2] rfl)
  have hok : mo_ok L0 e0 D vwCl (mo_T g) s M s.heap [] := ⟨hB0.1, hB0.2.1, hB0.2.2, va_S.rf⟩
  have hl := lv_entry ([.ref x0]) (n := 3) (Nat.le_of_ble_eq_true rfl)
  rw [hv1, lg_entry_eq]
  rw [← hv1]
  generalize (lg_sl [.ref x0] ++ List.replicate (3 - (lg_sl [.ref x0]).length) Slot.unset).toArray = ls at hl ⊢
  have hl : lv_has ls 3 [(0, .ref x0)] := hl
  unfold pp_L_countBags at hP
  refine lv_iconst (v := 0) hx hb d_L_countBags_0 (by decide) ?_
  refine lv_istore_n (lv' := [(1, .int ((0 : Int32))), (0, .ref x0)]) hx hb d_L_countBags_1 rfl hl (by decide) rfl (fun ls hl => ?_)
  refine lv_iconst (v := 0) hx hb d_L_countBags_2 (by decide) ?_
  refine lv_istore_n (lv' := [(2, .int ((0 : Int32))), (1, .int ((0 : Int32))), (0, .ref x0)]) hx hb d_L_countBags_3 rfl hl (by decide) rfl (fun ls hl => ?_)
  obtain ⟨n1, hP⟩ := hP
  exact w_4  n1 _ _ _ _ _ _ _ hP hok (lv_sub hl [2, 1, 0] rfl)

abbrev b_L_sendBag : ByteArray := prog_3_method_4_code
def y_L_sendBag : MethodName := ⟨"PurseHouse$Link", "sendBag", "(II)V"⟩
def ws_L_sendBag : List Cond := .code y_L_sendBag b_L_sendBag 3 (Option.none : Option Jvm.ClassFile.FieldType) :: lw_g
theorem d_L_sendBag_0 : decode b_L_sendBag 0 = .ok (.aload_n 0, 1) := by decide +kernel
theorem d_L_sendBag_1 : decode b_L_sendBag 1 = .ok (.getfield 27, 3) := by decide +kernel
theorem d_L_sendBag_4 : decode b_L_sendBag 4 = .ok (.iload_n 1, 1) := by decide +kernel
theorem d_L_sendBag_5 : decode b_L_sendBag 5 = .ok (.iload_n 2, 1) := by decide +kernel
theorem d_L_sendBag_6 : decode b_L_sendBag 6 = .ok (.invokevirtual 57, 3) := by decide +kernel
theorem d_L_sendBag_9 : decode b_L_sendBag 9 = .ok (.aload_n 0, 1) := by decide +kernel
theorem d_L_sendBag_10 : decode b_L_sendBag 10 = .ok (.getfield 12, 3) := by decide +kernel
theorem d_L_sendBag_13 : decode b_L_sendBag 13 = .ok (.new 46, 3) := by decide +kernel
theorem d_L_sendBag_16 : decode b_L_sendBag 16 = .ok (.dup, 1) := by decide +kernel
theorem d_L_sendBag_17 : decode b_L_sendBag 17 = .ok (.iconst 1, 1) := by decide +kernel
theorem d_L_sendBag_18 : decode b_L_sendBag 18 = .ok (.iload_n 1, 1) := by decide +kernel
theorem d_L_sendBag_19 : decode b_L_sendBag 19 = .ok (.iload_n 2, 1) := by decide +kernel
theorem d_L_sendBag_20 : decode b_L_sendBag 20 = .ok (.aload_n 0, 1) := by decide +kernel
theorem d_L_sendBag_21 : decode b_L_sendBag 21 = .ok (.getfield 27, 3) := by decide +kernel
theorem d_L_sendBag_24 : decode b_L_sendBag 24 = .ok (.getfield 63, 3) := by decide +kernel
theorem d_L_sendBag_27 : decode b_L_sendBag 27 = .ok (.invokespecial 66, 3) := by decide +kernel
theorem d_L_sendBag_30 : decode b_L_sendBag 30 = .ok (.invokevirtual 69, 3) := by decide +kernel
theorem d_L_sendBag_33 : decode b_L_sendBag 33 = .ok (.pop, 1) := by decide +kernel
theorem d_L_sendBag_34 : decode b_L_sendBag 34 = .ok (.return_, 1) := by decide +kernel
def pp_L_sendBag (g : Nat → ClassId) (e0 : Nat → Nat) (mc ms : Nat) (K : mo_M → Prop) (M : mo_M) (x0 : Nat) (x1 : Int32) (x2 : Int32) : Prop := mp_gr M x0 2 0 (fun v1 => (0 ≤ mc ∧ 0 ≤ ms ∧ (mp_is M v1 1 ∧ pp_K_giveCoins g e0 (fun M2 => mp_gr M2 x0 2 3 (fun v3 => (0 + 1 ≤ mc ∧ 0 + 4 ≤ ms ∧ mp_nw M2 3 [.int 0, .int 0, .int 0, .int 0] (fun q4 M5 => mp_gr M5 x0 2 0 (fun v6 => mp_gi M5 v6 1 4 (fun v7 => (((0 + 1)) ≤ mc ∧ ((0 + 4)) ≤ ms ∧ pp_T_init g e0 (fun M8 => (∃ c9 t10 : Nat, ((0 + 1)) + c9 ≤ mc ∧ ((0 + 4)) + t10 ≤ ms ∧ (mp_is M8 v3 5 ∧ pp_A_add0 g e0 c9 t10 (fun r12 M11 => ((((0 + 1) + c9)) ≤ mc ∧ (((0 + 4) + t10)) ≤ ms ∧ K M11)) M8 v3 q4))) M5 q4 ((1 : Int32)) x1 x2 v7))))))) M v1 x1 x2)))
set_option maxHeartbeats 4000000 in
set_option maxRecDepth 100000 in
theorem cc_L_sendBag (l : Launch) (L0 : Nat) (D : va_G) {g : Nat → ClassId} {e0 : Nat → Nat} {mc ms : Nat} {K : mo_M → Prop} {M : mo_M} {x0 : Nat} {x1 : Int32} {x2 : Int32} (hP : pp_L_sendBag g e0 mc ms K M x0 x1 x2) : Met l y_L_sendBag ws_L_sendBag (mo_R 7 mc ms 191) (va_Pc [.ref x0, .int x1, .int x2] (fun U => mo_B L0 e0 D vwCl (mo_T g) M U)) (mo_Qv L0 e0 D vwCl (mo_T g) K) mc ms (fun q => L0 ≤ q) := by
  refine Met.ofW (cc := b_L_sendBag) (maxL := 3) (ret := (Option.none : Option Jvm.ClassFile.FieldType)) (by decide +kernel) rfl ?_
  intro p e s m args below meth c s₁ B hml hv
  obtain ⟨hv1, hB0⟩ := hv
  have hx := B.exec
  have hb := B.bytes
  have hr := B.returns
  have hts : ∀ w ∈ lw_g, w.before args s = true := fun w hw => atoms_spec (ws := ws_L_sendBag) B.pre w (List.mem_cons_of_mem _ hw)
  have hown : s.vm.findClass "PurseHouse$Link" = some m.cls := findClass_of_methodNamed B.named
  have hlocks := B.notSynchronized
  have hok : mo_ok L0 e0 D vwCl (mo_T g) s M s.heap [] := ⟨hB0.1, hB0.2.1, hB0.2.2, va_S.rf⟩
  have hl := lv_entry ([.ref x0, .int x1, .int x2]) (n := 3) (Nat.le_of_ble_eq_true rfl)
  rw [hv1, lg_entry_eq]
  rw [← hv1]
  generalize (lg_sl [.ref x0, .int x1, .int x2] ++ List.replicate (3 - (lg_sl [.ref x0, .int x1, .int x2]).length) Slot.unset).toArray = ls at hl ⊢
  have hl : lv_has ls 3 [(0, .ref x0), (1, .int x1), (2, .int x2)] := hl
  unfold pp_L_sendBag at hP
  refine lv_aload_n hx hb d_L_sendBag_0 rfl (lv_at hl 0 rfl) ?_
  refine mr_gr (C := "PurseHouse$Link") (T := F_2) (N := 6) (ref := "PurseHouse$Link") hx hb hts hown hok hP ui_2 rfl (by decide) (hts _ wd_181) (fun _ h => h) d_L_sendBag_1 (fun v1 hP => ?_)
  refine lv_iload_n hx hb d_L_sendBag_4 rfl (lv_at hl 1 rfl) ?_
  refine lv_iload_n hx hb d_L_sendBag_5 rfl (lv_at hl 2 rfl) ?_
  obtain ⟨hcc, hss, hP⟩ := hP
  obtain ⟨⟨fs9, he9⟩, hP⟩ := hP
  refine mo_callv hok (va_runV (As := [.int x1, .int x2]) (rest := []) ⟨hx, hb, hml, hown, hts⟩ (cc_K_giveCoins l L0 D hP) ⟨(callB_of 2 hts (lw_gi wd_338) rfl rfl rfl (hts _ wd_38) (hts _ wd_335) (by decide +kernel) ⟨Nat.le_of_ble_eq_true rfl, Nat.le_of_ble_eq_true rfl⟩), hts _ wd_336, hts _ wd_337⟩ (mo_preV hok he9 rfl [.int x1, .int x2]) rfl rfl hl.1 rfl (lv_room (Nat.le_of_ble_eq_true rfl)) d_L_sendBag_6 ⟨hcc, hss⟩) (fun M2 H locs hP hok => ?_)
  refine lv_aload_n hx hb d_L_sendBag_9 rfl (lv_at hl 0 rfl) ?_
  refine mr_gr (C := "PurseHouse$Link") (T := F_2) (N := 6) (ref := "PurseHouse$Link") hx hb hts hown hok hP ui_2 rfl (by decide) (hts _ wd_187) (fun _ h => h) d_L_sendBag_10 (fun v3 hP => ?_)
  obtain ⟨hcc, hss, hP⟩ := hP
  refine mr_nw (C := "PurseHouse$Thing") (T := F_3) (N := 4) hx hb hts hown hok hP ui_3 ty_3 th_3 rfl tf_3 (hts _ wd_330) (hts _ wd_339) (hts _ wd_46) hcc hss d_L_sendBag_13 (fun q4 M5 H hP hok => ?_)
  refine lv_dup hx hb d_L_sendBag_16 rfl ?_
  refine lv_iconst (v := 1) hx hb d_L_sendBag_17 (by decide) ?_
  refine lv_iload_n hx hb d_L_sendBag_18 rfl (lv_at hl 1 rfl) ?_
  refine lv_iload_n hx hb d_L_sendBag_19 rfl (lv_at hl 2 rfl) ?_
  refine lv_aload_n hx hb d_L_sendBag_20 rfl (lv_at hl 0 rfl) ?_
  refine mr_gr (C := "PurseHouse$Link") (T := F_2) (N := 6) (ref := "PurseHouse$Link") hx hb hts hown hok hP ui_2 rfl (by decide) (hts _ wd_181) (fun _ h => h) d_L_sendBag_21 (fun v6 hP => ?_)
  refine mr_gi (C := "PurseHouse$Kiosk") (T := F_1) (N := 9) (ref := "PurseHouse$Kiosk") hx hb hts hown hok hP ui_1 rfl (by decide) (hts _ wd_111) (fun _ h => h) d_L_sendBag_24 (fun v7 hP => ?_)
  obtain ⟨hcc, hss, hP⟩ := hP
  refine mo_callv hok (va_runI (As := [.int ((1 : Int32)), .int x1, .int x2, .int v7]) (rest := [.ref q4, .ref v3]) ⟨hx, hb, hml, hown, hts⟩ (cc_T_init l L0 D hP) ⟨(callB_of 4 hts (lw_gi wd_342) rfl rfl rfl (hts _ wd_46) (hts _ wd_340) (by decide +kernel) ⟨Nat.le_of_ble_eq_true rfl, Nat.le_of_ble_eq_true rfl⟩), rfl, hts _ wd_341⟩ (mo_preS hok [.ref q4, .int ((1 : Int32)), .int x1, .int x2, .int v7]) rfl rfl hl.1 rfl (lv_room (Nat.le_of_ble_eq_true rfl)) d_L_sendBag_27 ⟨hcc, hss⟩) (fun M8 H locs hP hok => ?_)
  obtain ⟨c9, t10, hcc, hss, hP⟩ := hP
  obtain ⟨⟨fs9, he9⟩, hP⟩ := hP
  refine mo_calli hok (va_runV (As := [.ref q4]) (rest := []) ⟨hx, hb, hml, hown, hts⟩ (cc_A_add0 l L0 D hP) ⟨(callB_of 1 hts (lw_gi wd_209) rfl rfl rfl (hts _ wd_36) (hts _ wd_365) (by decide +kernel) ⟨Nat.le_of_ble_eq_true rfl, Nat.le_of_ble_eq_true rfl⟩), hts _ wd_207, hts _ wd_208⟩ (mo_preV hok he9 rfl [.ref q4]) rfl rfl hl.1 rfl (lv_room (Nat.le_of_ble_eq_true rfl)) d_L_sendBag_30 ⟨hcc, hss⟩) (fun r12 M11 H locs hP hok => ?_)
  refine lv_pop hx hb d_L_sendBag_33 rfl ?_
  obtain ⟨hcu, hsu, hP⟩ := hP
  refine W.widen (k := mc) (n := ms) hcu hsu ?_
  exact mo_vret hx hb hr hlocks hok hP d_L_sendBag_34

abbrev b_L_announce : ByteArray := prog_3_method_5_code
def y_L_announce : MethodName := ⟨"PurseHouse$Link", "announce", "(I)V"⟩
def ws_L_announce : List Cond := .code y_L_announce b_L_announce 2 (Option.none : Option Jvm.ClassFile.FieldType) :: lw_g
theorem d_L_announce_0 : decode b_L_announce 0 = .ok (.aload_n 0, 1) := by decide +kernel
theorem d_L_announce_1 : decode b_L_announce 1 = .ok (.getfield 34, 3) := by decide +kernel
theorem d_L_announce_4 : decode b_L_announce 4 = .ok (.ifCond .eq 25, 3) := by decide +kernel
theorem d_L_announce_7 : decode b_L_announce 7 = .ok (.aload_n 0, 1) := by decide +kernel
theorem d_L_announce_8 : decode b_L_announce 8 = .ok (.getfield 12, 3) := by decide +kernel
theorem d_L_announce_11 : decode b_L_announce 11 = .ok (.new 46, 3) := by decide +kernel
theorem d_L_announce_14 : decode b_L_announce 14 = .ok (.dup, 1) := by decide +kernel
theorem d_L_announce_15 : decode b_L_announce 15 = .ok (.iconst 3, 1) := by decide +kernel
theorem d_L_announce_16 : decode b_L_announce 16 = .ok (.iconst (-1), 1) := by decide +kernel
theorem d_L_announce_17 : decode b_L_announce 17 = .ok (.iload_n 1, 1) := by decide +kernel
theorem d_L_announce_18 : decode b_L_announce 18 = .ok (.iconst 0, 1) := by decide +kernel
theorem d_L_announce_19 : decode b_L_announce 19 = .ok (.invokespecial 66, 3) := by decide +kernel
theorem d_L_announce_22 : decode b_L_announce 22 = .ok (.invokevirtual 69, 3) := by decide +kernel
theorem d_L_announce_25 : decode b_L_announce 25 = .ok (.pop, 1) := by decide +kernel
theorem d_L_announce_26 : decode b_L_announce 26 = .ok (.goto 28, 3) := by decide +kernel
theorem d_L_announce_29 : decode b_L_announce 29 = .ok (.aload_n 0, 1) := by decide +kernel
theorem d_L_announce_30 : decode b_L_announce 30 = .ok (.getfield 12, 3) := by decide +kernel
theorem d_L_announce_33 : decode b_L_announce 33 = .ok (.new 46, 3) := by decide +kernel
theorem d_L_announce_36 : decode b_L_announce 36 = .ok (.dup, 1) := by decide +kernel
theorem d_L_announce_37 : decode b_L_announce 37 = .ok (.iconst 2, 1) := by decide +kernel
theorem d_L_announce_38 : decode b_L_announce 38 = .ok (.iconst (-1), 1) := by decide +kernel
theorem d_L_announce_39 : decode b_L_announce 39 = .ok (.iconst 0, 1) := by decide +kernel
theorem d_L_announce_40 : decode b_L_announce 40 = .ok (.aload_n 0, 1) := by decide +kernel
theorem d_L_announce_41 : decode b_L_announce 41 = .ok (.getfield 27, 3) := by decide +kernel
theorem d_L_announce_44 : decode b_L_announce 44 = .ok (.getfield 63, 3) := by decide +kernel
theorem d_L_announce_47 : decode b_L_announce 47 = .ok (.invokespecial 66, 3) := by decide +kernel
theorem d_L_announce_50 : decode b_L_announce 50 = .ok (.invokevirtual 69, 3) := by decide +kernel
theorem d_L_announce_53 : decode b_L_announce 53 = .ok (.pop, 1) := by decide +kernel
theorem d_L_announce_54 : decode b_L_announce 54 = .ok (.return_, 1) := by decide +kernel
def pp_L_announce (g : Nat → ClassId) (e0 : Nat → Nat) (mc ms : Nat) (K : mo_M → Prop) (M : mo_M) (x0 : Nat) (x1 : Int32) : Prop := mp_gi M x0 2 2 (fun v1 => ((v1 = 0 → mp_gr M x0 2 3 (fun v2 => (0 + 1 ≤ mc ∧ 0 + 4 ≤ ms ∧ mp_nw M 3 [.int 0, .int 0, .int 0, .int 0] (fun q3 M4 => mp_gr M4 x0 2 0 (fun v5 => mp_gi M4 v5 1 4 (fun v6 => (((0 + 1)) ≤ mc ∧ ((0 + 4)) ≤ ms ∧ pp_T_init g e0 (fun M7 => (∃ c8 t9 : Nat, ((0 + 1)) + c8 ≤ mc ∧ ((0 + 4)) + t9 ≤ ms ∧ (mp_is M7 v2 5 ∧ pp_A_add0 g e0 c8 t9 (fun r11 M10 => ((((0 + 1) + c8)) ≤ mc ∧ (((0 + 4) + t9)) ≤ ms ∧ K M10)) M7 v2 q3))) M4 q3 ((2 : Int32)) ((-1 : Int32)) ((0 : Int32)) v6))))))) ∧ (¬ (v1 = 0) → mp_gr M x0 2 3 (fun v12 => (0 + 1 ≤ mc ∧ 0 + 4 ≤ ms ∧ mp_nw M 3 [.int 0, .int 0, .int 0, .int 0] (fun q13 M14 => (((0 + 1)) ≤ mc ∧ ((0 + 4)) ≤ ms ∧ pp_T_init g e0 (fun M15 => (∃ c16 t17 : Nat, ((0 + 1)) + c16 ≤ mc ∧ ((0 + 4)) + t17 ≤ ms ∧ (mp_is M15 v12 5 ∧ pp_A_add0 g e0 c16 t17 (fun r19 M18 => ((((0 + 1) + c16)) ≤ mc ∧ (((0 + 4) + t17)) ≤ ms ∧ K M18)) M15 v12 q13))) M14 q13 ((3 : Int32)) ((-1 : Int32)) x1 ((0 : Int32)))))))))
set_option maxHeartbeats 4000000 in
set_option maxRecDepth 100000 in
theorem cc_L_announce (l : Launch) (L0 : Nat) (D : va_G) {g : Nat → ClassId} {e0 : Nat → Nat} {mc ms : Nat} {K : mo_M → Prop} {M : mo_M} {x0 : Nat} {x1 : Int32} (hP : pp_L_announce g e0 mc ms K M x0 x1) : Met l y_L_announce ws_L_announce (mo_R 7 mc ms 191) (va_Pc [.ref x0, .int x1] (fun U => mo_B L0 e0 D vwCl (mo_T g) M U)) (mo_Qv L0 e0 D vwCl (mo_T g) K) mc ms (fun q => L0 ≤ q) := by
  refine Met.ofW (cc := b_L_announce) (maxL := 2) (ret := (Option.none : Option Jvm.ClassFile.FieldType)) (by decide +kernel) rfl ?_
  intro p e s m args below meth c s₁ B hml hv
  obtain ⟨hv1, hB0⟩ := hv
  have hx := B.exec
  have hb := B.bytes
  have hr := B.returns
  have hts : ∀ w ∈ lw_g, w.before args s = true := fun w hw => atoms_spec (ws := ws_L_announce) B.pre w (List.mem_cons_of_mem _ hw)
  have hown : s.vm.findClass "PurseHouse$Link" = some m.cls := findClass_of_methodNamed B.named
  have hlocks := B.notSynchronized
  have hok : mo_ok L0 e0 D vwCl (mo_T g) s M s.heap [] := ⟨hB0.1, hB0.2.1, hB0.2.2, va_S.rf⟩
  have hl := lv_entry ([.ref x0, .int x1]) (n := 2) (Nat.le_of_ble_eq_true rfl)
  rw [hv1, lg_entry_eq]
  rw [← hv1]
  generalize (lg_sl [.ref x0, .int x1] ++ List.replicate (2 - (lg_sl [.ref x0, .int x1]).length) Slot.unset).toArray = ls at hl ⊢
  have hl : lv_has ls 2 [(0, .ref x0), (1, .int x1)] := hl
  unfold pp_L_announce at hP
  refine lv_aload_n hx hb d_L_announce_0 rfl (lv_at hl 0 rfl) ?_
  refine mr_gi (C := "PurseHouse$Link") (T := F_2) (N := 6) (ref := "PurseHouse$Link") hx hb hts hown hok hP ui_2 rfl (by decide) (hts _ wd_185) (fun _ h => h) d_L_announce_1 (fun v1 hP => ?_)
  refine lv_if_eq (tgt := 29) hx hb d_L_announce_4 (by decide) (fun hc => ?_) (fun hc => ?_)
  · replace hP := hP.1 hc
    refine lv_aload_n hx hb d_L_announce_29 rfl (lv_at hl 0 rfl) ?_
    refine mr_gr (C := "PurseHouse$Link") (T := F_2) (N := 6) (ref := "PurseHouse$Link") hx hb hts hown hok hP ui_2 rfl (by decide) (hts _ wd_187) (fun _ h => h) d_L_announce_30 (fun v2 hP => ?_)
    obtain ⟨hcc, hss, hP⟩ := hP
    refine mr_nw (C := "PurseHouse$Thing") (T := F_3) (N := 4) hx hb hts hown hok hP ui_3 ty_3 th_3 rfl tf_3 (hts _ wd_330) (hts _ wd_339) (hts _ wd_46) hcc hss d_L_announce_33 (fun q3 M4 H hP hok => ?_)
    refine lv_dup hx hb d_L_announce_36 rfl ?_
    refine lv_iconst (v := 2) hx hb d_L_announce_37 (by decide) ?_
    refine lv_iconst (v := (-1)) hx hb d_L_announce_38 (by decide) ?_
    refine lv_iconst (v := 0) hx hb d_L_announce_39 (by decide) ?_
    refine lv_aload_n hx hb d_L_announce_40 rfl (lv_at hl 0 rfl) ?_
    refine mr_gr (C := "PurseHouse$Link") (T := F_2) (N := 6) (ref := "PurseHouse$Link") hx hb hts hown hok hP ui_2 rfl (by decide) (hts _ wd_181) (fun _ h => h) d_L_announce_41 (fun v5 hP => ?_)
    refine mr_gi (C := "PurseHouse$Kiosk") (T := F_1) (N := 9) (ref := "PurseHouse$Kiosk") hx hb hts hown hok hP ui_1 rfl (by decide) (hts _ wd_111) (fun _ h => h) d_L_announce_44 (fun v6 hP => ?_)
    obtain ⟨hcc, hss, hP⟩ := hP
    refine mo_callv hok (va_runI (As := [.int ((2 : Int32)), .int ((-1 : Int32)), .int ((0 : Int32)), .int v6]) (rest := [.ref q3, .ref v2]) ⟨hx, hb, hml, hown, hts⟩ (cc_T_init l L0 D hP) ⟨(callB_of 4 hts (lw_gi wd_342) rfl rfl rfl (hts _ wd_46) (hts _ wd_340) (by decide +kernel) ⟨Nat.le_of_ble_eq_true rfl, Nat.le_of_ble_eq_true rfl⟩), rfl, hts _ wd_341⟩ (mo_preS hok [.ref q3, .int ((2 : Int32)), .int ((-1 : Int32)), .int ((0 : Int32)), .int v6]) rfl rfl hl.1 rfl (lv_room (Nat.le_of_ble_eq_true rfl)) d_L_announce_47 ⟨hcc, hss⟩) (fun M7 H locs hP hok => ?_)
    obtain ⟨c8, t9, hcc, hss, hP⟩ := hP
    obtain ⟨⟨fs9, he9⟩, hP⟩ := hP
    refine mo_calli hok (va_runV (As := [.ref q3]) (rest := []) ⟨hx, hb, hml, hown, hts⟩ (cc_A_add0 l L0 D hP) ⟨(callB_of 1 hts (lw_gi wd_209) rfl rfl rfl (hts _ wd_36) (hts _ wd_365) (by decide +kernel) ⟨Nat.le_of_ble_eq_true rfl, Nat.le_of_ble_eq_true rfl⟩), hts _ wd_207, hts _ wd_208⟩ (mo_preV hok he9 rfl [.ref q3]) rfl rfl hl.1 rfl (lv_room (Nat.le_of_ble_eq_true rfl)) d_L_announce_50 ⟨hcc, hss⟩) (fun r11 M10 H locs hP hok => ?_)
    refine lv_pop hx hb d_L_announce_53 rfl ?_
    obtain ⟨hcu, hsu, hP⟩ := hP
    refine W.widen (k := mc) (n := ms) hcu hsu ?_
    exact mo_vret hx hb hr hlocks hok hP d_L_announce_54
  · replace hP := hP.2 hc
    refine lv_aload_n hx hb d_L_announce_7 rfl (lv_at hl 0 rfl) ?_
    refine mr_gr (C := "PurseHouse$Link") (T := F_2) (N := 6) (ref := "PurseHouse$Link") hx hb hts hown hok hP ui_2 rfl (by decide) (hts _ wd_187) (fun _ h => h) d_L_announce_8 (fun v12 hP => ?_)
    obtain ⟨hcc, hss, hP⟩ := hP
    refine mr_nw (C := "PurseHouse$Thing") (T := F_3) (N := 4) hx hb hts hown hok hP ui_3 ty_3 th_3 rfl tf_3 (hts _ wd_330) (hts _ wd_339) (hts _ wd_46) hcc hss d_L_announce_11 (fun q13 M14 H hP hok => ?_)
    refine lv_dup hx hb d_L_announce_14 rfl ?_
    refine lv_iconst (v := 3) hx hb d_L_announce_15 (by decide) ?_
    refine lv_iconst (v := (-1)) hx hb d_L_announce_16 (by decide) ?_
    refine lv_iload_n hx hb d_L_announce_17 rfl (lv_at hl 1 rfl) ?_
    refine lv_iconst (v := 0) hx hb d_L_announce_18 (by decide) ?_
    obtain ⟨hcc, hss, hP⟩ := hP
    refine mo_callv hok (va_runI (As := [.int ((3 : Int32)), .int ((-1 : Int32)), .int x1, .int ((0 : Int32))]) (rest := [.ref q13, .ref v12]) ⟨hx, hb, hml, hown, hts⟩ (cc_T_init l L0 D hP) ⟨(callB_of 4 hts (lw_gi wd_342) rfl rfl rfl (hts _ wd_46) (hts _ wd_340) (by decide +kernel) ⟨Nat.le_of_ble_eq_true rfl, Nat.le_of_ble_eq_true rfl⟩), rfl, hts _ wd_341⟩ (mo_preS hok [.ref q13, .int ((3 : Int32)), .int ((-1 : Int32)), .int x1, .int ((0 : Int32))]) rfl rfl hl.1 rfl (lv_room (Nat.le_of_ble_eq_true rfl)) d_L_announce_19 ⟨hcc, hss⟩) (fun M15 H locs hP hok => ?_)
    obtain ⟨c16, t17, hcc, hss, hP⟩ := hP
    obtain ⟨⟨fs9, he9⟩, hP⟩ := hP
    refine mo_calli hok (va_runV (As := [.ref q13]) (rest := []) ⟨hx, hb, hml, hown, hts⟩ (cc_A_add0 l L0 D hP) ⟨(callB_of 1 hts (lw_gi wd_209) rfl rfl rfl (hts _ wd_36) (hts _ wd_365) (by decide +kernel) ⟨Nat.le_of_ble_eq_true rfl, Nat.le_of_ble_eq_true rfl⟩), hts _ wd_207, hts _ wd_208⟩ (mo_preV hok he9 rfl [.ref q13]) rfl rfl hl.1 rfl (lv_room (Nat.le_of_ble_eq_true rfl)) d_L_announce_22 ⟨hcc, hss⟩) (fun r19 M18 H locs hP hok => ?_)
    refine lv_pop hx hb d_L_announce_25 rfl ?_
    refine lv_goto (tgt := 54) hx hb d_L_announce_26 (by decide) ?_
    obtain ⟨hcu, hsu, hP⟩ := hP
    refine W.widen (k := mc) (n := ms) hcu hsu ?_
    exact mo_vret hx hb hr hlocks hok hP d_L_announce_54

abbrev b_L_addToRoads : ByteArray := prog_3_method_8_code
def y_L_addToRoads : MethodName := ⟨"PurseHouse$Link", "addToRoads", "(LPurseHouse$Thing;)V"⟩
def ws_L_addToRoads : List Cond := .code y_L_addToRoads b_L_addToRoads 4 (Option.none : Option Jvm.ClassFile.FieldType) :: lw_g
theorem d_L_addToRoads_0 : decode b_L_addToRoads 0 = .ok (.iconst 0, 1) := by decide +kernel
theorem d_L_addToRoads_1 : decode b_L_addToRoads 1 = .ok (.istore_n 2, 1) := by decide +kernel
theorem d_L_addToRoads_2 : decode b_L_addToRoads 2 = .ok (.iload_n 2, 1) := by decide +kernel
theorem d_L_addToRoads_3 : decode b_L_addToRoads 3 = .ok (.bipush 16, 2) := by decide +kernel
theorem d_L_addToRoads_5 : decode b_L_addToRoads 5 = .ok (.if_icmp .ge 70, 3) := by decide +kernel
theorem d_L_addToRoads_8 : decode b_L_addToRoads 8 = .ok (.aload_n 0, 1) := by decide +kernel
theorem d_L_addToRoads_9 : decode b_L_addToRoads 9 = .ok (.getfield 34, 3) := by decide +kernel
theorem d_L_addToRoads_12 : decode b_L_addToRoads 12 = .ok (.ifCond .eq 14, 3) := by decide +kernel
theorem d_L_addToRoads_15 : decode b_L_addToRoads 15 = .ok (.aload_n 0, 1) := by decide +kernel
theorem d_L_addToRoads_16 : decode b_L_addToRoads 16 = .ok (.getfield 23, 3) := by decide +kernel
theorem d_L_addToRoads_19 : decode b_L_addToRoads 19 = .ok (.iload_n 2, 1) := by decide +kernel
theorem d_L_addToRoads_20 : decode b_L_addToRoads 20 = .ok (.invokestatic 73, 3) := by decide +kernel
theorem d_L_addToRoads_23 : decode b_L_addToRoads 23 = .ok (.goto 11, 3) := by decide +kernel
theorem d_L_addToRoads_26 : decode b_L_addToRoads 26 = .ok (.aload_n 1, 1) := by decide +kernel
theorem d_L_addToRoads_27 : decode b_L_addToRoads 27 = .ok (.getfield 84, 3) := by decide +kernel
theorem d_L_addToRoads_30 : decode b_L_addToRoads 30 = .ok (.iload_n 2, 1) := by decide +kernel
theorem d_L_addToRoads_31 : decode b_L_addToRoads 31 = .ok (.invokestatic 73, 3) := by decide +kernel
theorem d_L_addToRoads_34 : decode b_L_addToRoads 34 = .ok (.istore_n 3, 1) := by decide +kernel
theorem d_L_addToRoads_35 : decode b_L_addToRoads 35 = .ok (.aload_n 0, 1) := by decide +kernel
theorem d_L_addToRoads_36 : decode b_L_addToRoads 36 = .ok (.getfield 31, 3) := by decide +kernel
theorem d_L_addToRoads_39 : decode b_L_addToRoads 39 = .ok (.iload_n 2, 1) := by decide +kernel
theorem d_L_addToRoads_40 : decode b_L_addToRoads 40 = .ok (.invokevirtual 77, 3) := by decide +kernel
theorem d_L_addToRoads_43 : decode b_L_addToRoads 43 = .ok (.ifCond .eq 26, 3) := by decide +kernel
theorem d_L_addToRoads_46 : decode b_L_addToRoads 46 = .ok (.iload_n 3, 1) := by decide +kernel
theorem d_L_addToRoads_47 : decode b_L_addToRoads 47 = .ok (.ifCond .ne 22, 3) := by decide +kernel
theorem d_L_addToRoads_50 : decode b_L_addToRoads 50 = .ok (.aload_n 0, 1) := by decide +kernel
theorem d_L_addToRoads_51 : decode b_L_addToRoads 51 = .ok (.getfield 20, 3) := by decide +kernel
theorem d_L_addToRoads_54 : decode b_L_addToRoads 54 = .ok (.iload_n 2, 1) := by decide +kernel
theorem d_L_addToRoads_55 : decode b_L_addToRoads 55 = .ok (.aaload, 1) := by decide +kernel
theorem d_L_addToRoads_56 : decode b_L_addToRoads 56 = .ok (.aload_n 1, 1) := by decide +kernel
theorem d_L_addToRoads_57 : decode b_L_addToRoads 57 = .ok (.getfield 51, 3) := by decide +kernel
theorem d_L_addToRoads_60 : decode b_L_addToRoads 60 = .ok (.dup2, 1) := by decide +kernel
theorem d_L_addToRoads_61 : decode b_L_addToRoads 61 = .ok (.laload, 1) := by decide +kernel
theorem d_L_addToRoads_62 : decode b_L_addToRoads 62 = .ok (.aload_n 1, 1) := by decide +kernel
theorem d_L_addToRoads_63 : decode b_L_addToRoads 63 = .ok (.getfield 54, 3) := by decide +kernel
theorem d_L_addToRoads_66 : decode b_L_addToRoads 66 = .ok (.i2l, 1) := by decide +kernel
theorem d_L_addToRoads_67 : decode b_L_addToRoads 67 = .ok (.ladd, 1) := by decide +kernel
theorem d_L_addToRoads_68 : decode b_L_addToRoads 68 = .ok (.lastore, 1) := by decide +kernel
theorem d_L_addToRoads_69 : decode b_L_addToRoads 69 = .ok (.iinc 2 1, 3) := by decide +kernel
theorem d_L_addToRoads_72 : decode b_L_addToRoads 72 = .ok (.goto (-70), 3) := by decide +kernel
theorem d_L_addToRoads_75 : decode b_L_addToRoads 75 = .ok (.return_, 1) := by decide +kernel
def pp_L_addToRoads_b69 (g : Nat → ClassId) (e0 : Nat → Nat) (K : mo_M → Prop) (B_2 : mo_M → Nat → Nat → Int32 → Prop) (M : mo_M) (x0 : Nat) (x1 : Nat) (x2 : Int32) : Prop := B_2 M x0 x1 (x2 + 1)
def pp_L_addToRoads_b34 (g : Nat → ClassId) (e0 : Nat → Nat) (K : mo_M → Prop) (B_2 : mo_M → Nat → Nat → Int32 → Prop) (M : mo_M) (x0 : Nat) (x1 : Nat) (x2 : Int32) (s0 : Int32) : Prop := mp_gr M x0 2 1 (fun v9 => (mp_is M v9 1 ∧ pp_K_hasMark g e0 (fun r11 M10 => ((r11 = 0 → pp_L_addToRoads_b69 g e0 K B_2 M10 x0 x1 x2) ∧ (¬ (r11 = 0) → ((s0 = 0 → mp_gr M10 x0 2 4 (fun v12 => mp_ar (g 4) M10 v12 x2 (fun v13 => mp_gi M10 x1 3 1 (fun v14 => mp_al (g 1) M10 v13 v14 (fun v15 => mp_gi M10 x1 3 2 (fun v16 => mp_sl (g 1) M10 v13 v14 ((v15 + v16.toInt64)) (fun M17 => pp_L_addToRoads_b69 g e0 K B_2 M17 x0 x1 x2))))))) ∧ (¬ (s0 = 0) → pp_L_addToRoads_b69 g e0 K B_2 M10 x0 x1 x2))))) M v9 x2))
def pp_L_addToRoads_b2 (g : Nat → ClassId) (e0 : Nat → Nat) (K : mo_M → Prop) : Nat → mo_M → Nat → Nat → Int32 → Prop
  | 0, _, _, _, _ => False
  | n + 1, M, x0, x1, x2 => ((((16 : Int32)) ≤ x2 → K M) ∧ (¬ (((16 : Int32)) ≤ x2) → mp_gi M x0 2 2 (fun v2 => ((v2 = 0 → mp_gi M x1 3 3 (fun v3 => pp_H_hasBit g e0 (fun r5 M4 => pp_L_addToRoads_b34 g e0 K (fun M x0 x1 x2 => pp_L_addToRoads_b2 g e0 K n M x0 x1 x2) M4 x0 x1 x2 r5) M v3 x2)) ∧ (¬ (v2 = 0) → mp_gi M x0 2 5 (fun v6 => pp_H_hasBit g e0 (fun r8 M7 => pp_L_addToRoads_b34 g e0 K (fun M x0 x1 x2 => pp_L_addToRoads_b2 g e0 K n M x0 x1 x2) M7 x0 x1 x2 r8) M v6 x2))))))
def pp_L_addToRoads (g : Nat → ClassId) (e0 : Nat → Nat) (K : mo_M → Prop) (M : mo_M) (x0 : Nat) (x1 : Nat) : Prop := ∃ n1 : Nat, pp_L_addToRoads_b2 g e0 K n1 M x0 x1 ((0 : Int32))
set_option maxHeartbeats 4000000 in
set_option maxRecDepth 100000 in
theorem cc_L_addToRoads (l : Launch) (L0 : Nat) (D : va_G) {g : Nat → ClassId} {e0 : Nat → Nat} {K : mo_M → Prop} {M : mo_M} {x0 : Nat} {x1 : Nat} (hP : pp_L_addToRoads g e0 K M x0 x1) : Met l y_L_addToRoads ws_L_addToRoads (mo_R 2 0 0 42) (va_Pc [.ref x0, .ref x1] (fun U => mo_B L0 e0 D vwCl (mo_T g) M U)) (mo_Qv L0 e0 D vwCl (mo_T g) K) 0 0 (fun q => L0 ≤ q) := by
  refine Met.ofW (cc := b_L_addToRoads) (maxL := 4) (ret := (Option.none : Option Jvm.ClassFile.FieldType)) (by decide +kernel) rfl ?_
  intro p e s m args below meth c s₁ B hml hv
  obtain ⟨hv1, hB0⟩ := hv
  have hx := B.exec
  have hb := B.bytes
  have hr := B.returns
  have hts : ∀ w ∈ lw_g, w.before args s = true := fun w hw => atoms_spec (ws := ws_L_addToRoads) B.pre w (List.mem_cons_of_mem _ hw)
  have hown : s.vm.findClass "PurseHouse$Link" = some m.cls := findClass_of_methodNamed B.named
  have hlocks := B.notSynchronized
  have w_69 : ∀ (B_2 : mo_M → Nat → Nat → Int32 → Prop) (hB_2 : ∀ (M : mo_M) (x0 : Nat) (x1 : Nat) (x2 : Int32) (H : Heap) (locs : List Loc) (ls : Array Slot), B_2 M x0 x1 x2 → mo_ok L0 e0 D vwCl (mo_T g) s M H locs → lv_has ls 4 [(0, .ref x0), (1, .ref x1), (2, .int x2)] → W p l e (headSpec ws_L_addToRoads (mo_R 2 0 0 42)).room s m args below meth c H locs 0 0 (mo_Z below (mo_Qv L0 e0 D vwCl (mo_T g) K) args s 0 0 L0) (F0 m 2 ls [])) (M : mo_M) (x0 : Nat) (x1 : Nat) (x2 : Int32) (H : Heap) (locs : List Loc) (ls : Array Slot), pp_L_addToRoads_b69 g e0 K B_2 M x0 x1 x2 → mo_ok L0 e0 D vwCl (mo_T g) s M H locs → lv_has ls 4 [(0, .ref x0), (1, .ref x1), (2, .int x2)] → W p l e (headSpec ws_L_addToRoads (mo_R 2 0 0 42)).room s m args below meth c H locs 0 0 (mo_Z below (mo_Qv L0 e0 D vwCl (mo_T g) K) args s 0 0 L0) (F0 m 69 ls []) := by
    intro B_2 hB_2 M x0 x1 x2 H locs ls hP hok hl
    unfold pp_L_addToRoads_b69 at hP
    refine lv_iinc (k := 2) (v := x2 + 1) (lv' := [(2, .int (x2 + 1)), (0, .ref x0), (1, .ref x1)]) hx hb d_L_addToRoads_69 hl rfl rfl (by decide) rfl (fun ls hl => ?_)
    refine lv_goto (tgt := 2) hx hb d_L_addToRoads_72 (by decide) ?_
    exact hB_2 _ _ _ _ _ _ _ hP hok (lv_sub hl [1, 2, 0] rfl)
  have w_34 : ∀ (B_2 : mo_M → Nat → Nat → Int32 → Prop) (hB_2 : ∀ (M : mo_M) (x0 : Nat) (x1 : Nat) (x2 : Int32) (H : Heap) (locs : List Loc) (ls : Array Slot), B_2 M x0 x1 x2 → mo_ok L0 e0 D vwCl (mo_T g) s M H locs → lv_has ls 4 [(0, .ref x0), (1, .ref x1), (2, .int x2)] → W p l e (headSpec ws_L_addToRoads (mo_R 2 0 0 42)).room s m args below meth c H locs 0 0 (mo_Z below (mo_Qv L0 e0 D vwCl (mo_T g) K) args s 0 0 L0) (F0 m 2 ls [])) (M : mo_M) (x0 : Nat) (x1 : Nat) (x2 : Int32) (s0 : Int32) (H : Heap) (locs : List Loc) (ls : Array Slot), pp_L_addToRoads_b34 g e0 K B_2 M x0 x1 x2 s0 → mo_ok L0 e0 D vwCl (mo_T g) s M H locs → lv_has ls 4 [(0, .ref x0), (1, .ref x1), (2, .int x2)] → W p l e (headSpec ws_L_addToRoads (mo_R 2 0 0 42)).room s m args below meth c H locs 0 0 (mo_Z below (mo_Qv L0 e0 D vwCl (mo_T g) K) args s 0 0 L0) (F0 m 34 ls [.int s0]) := by
    intro B_2 hB_2 M x0 x1 x2 s0 H locs ls hP hok hl
    unfold pp_L_addToRoads_b34 at hP
    refine lv_istore_n (lv' := [(3, .int s0), (0, .ref x0), (1, .ref x1), (2, .int x2)]) hx hb d_L_addToRoads_34 rfl hl (by decide) rfl (fun ls hl => ?_)
    refine lv_aload_n hx hb d_L_addToRoads_35 rfl (lv_at hl 1 rfl) ?_
    refine mr_gr (C := "PurseHouse$Link") (T := F_2) (N := 6) (ref := "PurseHouse$Link") hx hb hts hown hok hP ui_2 rfl (by decide) (hts _ wd_183) (fun _ h => h) d_L_addToRoads_36 (fun v9 hP => ?_)
    refine lv_iload_n hx hb d_L_addToRoads_39 rfl (lv_at hl 3 rfl) ?_
    obtain ⟨⟨fs9, he9⟩, hP⟩ := hP
    refine mo_calli hok (va_runV (As := [.int x2]) (rest := []) ⟨hx, hb, hml, hown, hts⟩ (cc_K_hasMark l L0 D hP) ⟨(callB_of 1 hts (lw_gi wd_395) rfl rfl rfl (hts _ wd_38) (hts _ wd_422) (by decide +kernel) ⟨Nat.le_of_ble_eq_true rfl, Nat.le_of_ble_eq_true rfl⟩), hts _ wd_393, hts _ wd_394⟩ (mo_preV hok he9 rfl [.int x2]) rfl rfl hl.1 rfl (lv_room (Nat.le_of_ble_eq_true rfl)) d_L_addToRoads_40 ⟨Nat.zero_le _, Nat.zero_le _⟩) (fun r11 M10 H locs hP hok => ?_)
    refine lv_if_eq (tgt := 69) hx hb d_L_addToRoads_43 (by decide) (fun hc => ?_) (fun hc => ?_)
    · replace hP := hP.1 hc
      exact w_69 B_2 hB_2 _ _ _ _ _ _ _ hP hok (lv_sub hl [1, 2, 3] rfl)
    · replace hP := hP.2 hc
      refine lv_iload_n hx hb d_L_addToRoads_46 rfl (lv_at hl 0 rfl) ?_
      refine lv_if_ne (tgt := 69) hx hb d_L_addToRoads_47 (by decide) (fun hc => ?_) (fun hc => ?_)
      · replace hP := hP.2 hc
        exact w_69 B_2 hB_2 _ _ _ _ _ _ _ hP hok (lv_sub hl [1, 2, 3] rfl)
      · replace hP := hP.1 hc
        refine lv_aload_n hx hb d_L_addToRoads_50 rfl (lv_at hl 1 rfl) ?_
        refine mr_gr (C := "PurseHouse$Link") (T := F_2) (N := 6) (ref := "PurseHouse$Link") hx hb hts hown hok hP ui_2 rfl (by decide) (hts _ wd_189) (fun _ h => h) d_L_addToRoads_51 (fun v12 hP => ?_)
        refine lv_iload_n hx hb d_L_addToRoads_54 rfl (lv_at hl 3 rfl) ?_
        refine mr_ar hx hb hok hP 4 rfl rfl d_L_addToRoads_55 (fun v13 hP => ?_)
        refine lv_aload_n hx hb d_L_addToRoads_56 rfl (lv_at hl 2 rfl) ?_
        refine mr_gi (C := "PurseHouse$Thing") (T := F_3) (N := 4) (ref := "PurseHouse$Thing") hx hb hts hown hok hP ui_3 rfl (by decide) (hts _ wd_348) (fun _ h => h) d_L_addToRoads_57 (fun v14 hP => ?_)
        refine lv_dup2_11 hx hb d_L_addToRoads_60 rfl rfl ?_
        refine mr_al hx hb hok hP 1 rfl d_L_addToRoads_61 (fun v15 hP => ?_)
        refine lv_aload_n hx hb d_L_addToRoads_62 rfl (lv_at hl 2 rfl) ?_
        refine mr_gi (C := "PurseHouse$Thing") (T := F_3) (N := 4) (ref := "PurseHouse$Thing") hx hb hts hown hok hP ui_3 rfl (by decide) (hts _ wd_351) (fun _ h => h) d_L_addToRoads_63 (fun v16 hP => ?_)
        refine lv_i2l hx hb d_L_addToRoads_66 rfl ?_
        refine lv_ladd hx hb d_L_addToRoads_67 ?_
        refine mr_sl hx hb hok hP 1 rfl d_L_addToRoads_68 (fun M17 H locs hP hok => ?_)
        exact w_69 B_2 hB_2 _ _ _ _ _ _ _ hP hok (lv_sub hl [1, 2, 3] rfl)
  have w_2 : ∀ (n : Nat) (M : mo_M) (x0 : Nat) (x1 : Nat) (x2 : Int32) (H : Heap) (locs : List Loc) (ls : Array Slot), pp_L_addToRoads_b2 g e0 K n M x0 x1 x2 → mo_ok L0 e0 D vwCl (mo_T g) s M H locs → lv_has ls 4 [(0, .ref x0), (1, .ref x1), (2, .int x2)] → W p l e (headSpec ws_L_addToRoads (mo_R 2 0 0 42)).room s m args below meth c H locs 0 0 (mo_Z below (mo_Qv L0 e0 D vwCl (mo_T g) K) args s 0 0 L0) (F0 m 2 ls []) := by
    intro n
    induction n with
    | zero => intro M x0 x1 x2 H locs ls hP; exact hP.elim
    | succ n ih =>
      intro M x0 x1 x2 H locs ls hP hok hl
      unfold pp_L_addToRoads_b2 at hP
      refine lv_iload_n hx hb d_L_addToRoads_2 rfl (lv_at hl 2 rfl) ?_
      refine lv_bipush (v := 16) hx hb d_L_addToRoads_3 (by decide) ?_
      refine lv_icmp_ge (tgt := 75) hx hb d_L_addToRoads_5 (by decide) (fun hc => ?_) (fun hc => ?_)
      · replace hP := hP.1 hc
        exact mo_vret hx hb hr hlocks hok hP d_L_addToRoads_75
      · replace hP := hP.2 hc
        refine lv_aload_n hx hb d_L_addToRoads_8 rfl (lv_at hl 0 rfl) ?_
        refine mr_gi (C := "PurseHouse$Link") (T := F_2) (N := 6) (ref := "PurseHouse$Link") hx hb hts hown hok hP ui_2 rfl (by decide) (hts _ wd_185) (fun _ h => h) d_L_addToRoads_9 (fun v2 hP => ?_)
        refine lv_if_eq (tgt := 26) hx hb d_L_addToRoads_12 (by decide) (fun hc => ?_) (fun hc => ?_)
        · replace hP := hP.1 hc
          refine lv_aload_n hx hb d_L_addToRoads_26 rfl (lv_at hl 1 rfl) ?_
          refine mr_gi (C := "PurseHouse$Thing") (T := F_3) (N := 4) (ref := "PurseHouse$Thing") hx hb hts hown hok hP ui_3 rfl (by decide) (hts _ wd_354) (fun _ h => h) d_L_addToRoads_27 (fun v3 hP => ?_)
          refine lv_iload_n hx hb d_L_addToRoads_30 rfl (lv_at hl 2 rfl) ?_
          refine mo_calli hok (va_runSN (As := [.int v3, .int x2]) (rest := []) ⟨hx, hb, hml, hown, hts⟩ (cc_H_hasBit l L0 D hP) ⟨(va_cnB 2 hts (lw_gi wd_398) rfl rfl rfl (mo_nw_of hok wn_421 rfl) (hts _ wd_33) (by decide +kernel) ⟨Nat.le_of_ble_eq_true rfl, Nat.le_of_ble_eq_true rfl⟩), hts _ wd_397, trivial⟩ (mo_preS hok [.int v3, .int x2]) rfl rfl hl.1 rfl (lv_room (Nat.le_of_ble_eq_true rfl)) d_L_addToRoads_31 ⟨Nat.zero_le _, Nat.zero_le _⟩) (fun r5 M4 H locs hP hok => ?_)
          exact w_34 _ ih _ _ _ _ _ _ _ _ hP hok (lv_sub hl [0, 1, 2] rfl)
        · replace hP := hP.2 hc
          refine lv_aload_n hx hb d_L_addToRoads_15 rfl (lv_at hl 0 rfl) ?_
          refine mr_gi (C := "PurseHouse$Link") (T := F_2) (N := 6) (ref := "PurseHouse$Link") hx hb hts hown hok hP ui_2 rfl (by decide) (hts _ wd_191) (fun _ h => h) d_L_addToRoads_16 (fun v6 hP => ?_)
          refine lv_iload_n hx hb d_L_addToRoads_19 rfl (lv_at hl 2 rfl) ?_
          refine mo_calli hok (va_runSN (As := [.int v6, .int x2]) (rest := []) ⟨hx, hb, hml, hown, hts⟩ (cc_H_hasBit l L0 D hP) ⟨(va_cnB 2 hts (lw_gi wd_398) rfl rfl rfl (mo_nw_of hok wn_421 rfl) (hts _ wd_33) (by decide +kernel) ⟨Nat.le_of_ble_eq_true rfl, Nat.le_of_ble_eq_true rfl⟩), hts _ wd_397, trivial⟩ (mo_preS hok [.int v6, .int x2]) rfl rfl hl.1 rfl (lv_room (Nat.le_of_ble_eq_true rfl)) d_L_addToRoads_20 ⟨Nat.zero_le _, Nat.zero_le _⟩) (fun r8 M7 H locs hP hok => ?_)
          refine lv_goto (tgt := 34) hx hb d_L_addToRoads_23 (by decide) ?_
          exact w_34 _ ih _ _ _ _ _ _ _ _ hP hok (lv_sub hl [0, 1, 2] rfl)
  have hok : mo_ok L0 e0 D vwCl (mo_T g) s M s.heap [] := ⟨hB0.1, hB0.2.1, hB0.2.2, va_S.rf⟩
  have hl := lv_entry ([.ref x0, .ref x1]) (n := 4) (Nat.le_of_ble_eq_true rfl)
  rw [hv1, lg_entry_eq]
  rw [← hv1]
  generalize (lg_sl [.ref x0, .ref x1] ++ List.replicate (4 - (lg_sl [.ref x0, .ref x1]).length) Slot.unset).toArray = ls at hl ⊢
  have hl : lv_has ls 4 [(0, .ref x0), (1, .ref x1)] := hl
  unfold pp_L_addToRoads at hP
  refine lv_iconst (v := 0) hx hb d_L_addToRoads_0 (by decide) ?_
  refine lv_istore_n (lv' := [(2, .int ((0 : Int32))), (0, .ref x0), (1, .ref x1)]) hx hb d_L_addToRoads_1 rfl hl (by decide) rfl (fun ls hl => ?_)
  obtain ⟨n1, hP⟩ := hP
  exact w_2  n1 _ _ _ _ _ _ _ hP hok (lv_sub hl [1, 2, 0] rfl)

abbrev b_L_hasBagFromBefore : ByteArray := prog_3_method_7_code
def y_L_hasBagFromBefore : MethodName := ⟨"PurseHouse$Link", "hasBagFromBefore", "(I)Z"⟩
def ws_L_hasBagFromBefore : List Cond := .code y_L_hasBagFromBefore b_L_hasBagFromBefore 4 (Option.some Jvm.ClassFile.FieldType.boolean) :: lw_g
theorem d_L_hasBagFromBefore_0 : decode b_L_hasBagFromBefore 0 = .ok (.iconst 0, 1) := by decide +kernel
theorem d_L_hasBagFromBefore_1 : decode b_L_hasBagFromBefore 1 = .ok (.istore_n 2, 1) := by decide +kernel
theorem d_L_hasBagFromBefore_2 : decode b_L_hasBagFromBefore 2 = .ok (.iload_n 2, 1) := by decide +kernel
theorem d_L_hasBagFromBefore_3 : decode b_L_hasBagFromBefore 3 = .ok (.aload_n 0, 1) := by decide +kernel
theorem d_L_hasBagFromBefore_4 : decode b_L_hasBagFromBefore 4 = .ok (.getfield 12, 3) := by decide +kernel
theorem d_L_hasBagFromBefore_7 : decode b_L_hasBagFromBefore 7 = .ok (.invokevirtual 38, 3) := by decide +kernel
theorem d_L_hasBagFromBefore_10 : decode b_L_hasBagFromBefore 10 = .ok (.if_icmp .ge 42, 3) := by decide +kernel
theorem d_L_hasBagFromBefore_13 : decode b_L_hasBagFromBefore 13 = .ok (.aload_n 0, 1) := by decide +kernel
theorem d_L_hasBagFromBefore_14 : decode b_L_hasBagFromBefore 14 = .ok (.getfield 12, 3) := by decide +kernel
theorem d_L_hasBagFromBefore_17 : decode b_L_hasBagFromBefore 17 = .ok (.iload_n 2, 1) := by decide +kernel
theorem d_L_hasBagFromBefore_18 : decode b_L_hasBagFromBefore 18 = .ok (.invokevirtual 42, 3) := by decide +kernel
theorem d_L_hasBagFromBefore_21 : decode b_L_hasBagFromBefore 21 = .ok (.checkcast 46, 3) := by decide +kernel
theorem d_L_hasBagFromBefore_24 : decode b_L_hasBagFromBefore 24 = .ok (.astore_n 3, 1) := by decide +kernel
theorem d_L_hasBagFromBefore_25 : decode b_L_hasBagFromBefore 25 = .ok (.aload_n 3, 1) := by decide +kernel
theorem d_L_hasBagFromBefore_26 : decode b_L_hasBagFromBefore 26 = .ok (.getfield 48, 3) := by decide +kernel
theorem d_L_hasBagFromBefore_29 : decode b_L_hasBagFromBefore 29 = .ok (.iconst 1, 1) := by decide +kernel
theorem d_L_hasBagFromBefore_30 : decode b_L_hasBagFromBefore 30 = .ok (.if_icmp .ne 16, 3) := by decide +kernel
theorem d_L_hasBagFromBefore_33 : decode b_L_hasBagFromBefore 33 = .ok (.aload_n 3, 1) := by decide +kernel
theorem d_L_hasBagFromBefore_34 : decode b_L_hasBagFromBefore 34 = .ok (.getfield 84, 3) := by decide +kernel
theorem d_L_hasBagFromBefore_37 : decode b_L_hasBagFromBefore 37 = .ok (.iload_n 1, 1) := by decide +kernel
theorem d_L_hasBagFromBefore_38 : decode b_L_hasBagFromBefore 38 = .ok (.invokestatic 73, 3) := by decide +kernel
theorem d_L_hasBagFromBefore_41 : decode b_L_hasBagFromBefore 41 = .ok (.ifCond .ne 5, 3) := by decide +kernel
theorem d_L_hasBagFromBefore_44 : decode b_L_hasBagFromBefore 44 = .ok (.iconst 1, 1) := by decide +kernel
theorem d_L_hasBagFromBefore_45 : decode b_L_hasBagFromBefore 45 = .ok (.ireturn, 1) := by decide +kernel
theorem d_L_hasBagFromBefore_46 : decode b_L_hasBagFromBefore 46 = .ok (.iinc 2 1, 3) := by decide +kernel
theorem d_L_hasBagFromBefore_49 : decode b_L_hasBagFromBefore 49 = .ok (.goto (-47), 3) := by decide +kernel
theorem d_L_hasBagFromBefore_52 : decode b_L_hasBagFromBefore 52 = .ok (.iconst 0, 1) := by decide +kernel
theorem d_L_hasBagFromBefore_53 : decode b_L_hasBagFromBefore 53 = .ok (.ireturn, 1) := by decide +kernel
def pp_L_hasBagFromBefore_b46 (g : Nat → ClassId) (e0 : Nat → Nat) (K : Int32 → mo_M → Prop) (B_2 : mo_M → Nat → Int32 → Int32 → Prop) (M : mo_M) (x0 : Nat) (x1 : Int32) (x2 : Int32) : Prop := B_2 M x0 x1 (x2 + 1)
def pp_L_hasBagFromBefore_b2 (g : Nat → ClassId) (e0 : Nat → Nat) (K : Int32 → mo_M → Prop) : Nat → mo_M → Nat → Int32 → Int32 → Prop
  | 0, _, _, _, _ => False
  | n + 1, M, x0, x1, x2 => mp_gr M x0 2 3 (fun v2 => (mp_is M v2 5 ∧ pp_A_size g e0 (fun r4 M3 => ((r4 ≤ x2 → (narrow .boolean (.int ((0 : Int32))) = .int ((0 : Int32)) ∧ K ((0 : Int32)) M3)) ∧ (¬ (r4 ≤ x2) → mp_gr M3 x0 2 3 (fun v5 => (mp_is M3 v5 5 ∧ pp_A_get g e0 (fun r7 M6 => (mp_is M6 r7 3 ∧ mp_gi M6 r7 3 0 (fun v8 => ((v8 = ((1 : Int32)) → mp_gi M6 r7 3 3 (fun v9 => pp_H_hasBit g e0 (fun r11 M10 => ((r11 = 0 → (narrow .boolean (.int ((1 : Int32))) = .int ((1 : Int32)) ∧ K ((1 : Int32)) M10)) ∧ (¬ (r11 = 0) → pp_L_hasBagFromBefore_b46 g e0 K (fun M x0 x1 x2 => pp_L_hasBagFromBefore_b2 g e0 K n M x0 x1 x2) M10 x0 x1 x2))) M6 v9 x1)) ∧ (¬ (v8 = ((1 : Int32))) → pp_L_hasBagFromBefore_b46 g e0 K (fun M x0 x1 x2 => pp_L_hasBagFromBefore_b2 g e0 K n M x0 x1 x2) M6 x0 x1 x2))))) M3 v5 x2))))) M v2))
def pp_L_hasBagFromBefore (g : Nat → ClassId) (e0 : Nat → Nat) (K : Int32 → mo_M → Prop) (M : mo_M) (x0 : Nat) (x1 : Int32) : Prop := ∃ n1 : Nat, pp_L_hasBagFromBefore_b2 g e0 K n1 M x0 x1 ((0 : Int32))
set_option maxHeartbeats 4000000 in
set_option maxRecDepth 100000 in
theorem cc_L_hasBagFromBefore (l : Launch) (L0 : Nat) (D : va_G) {g : Nat → ClassId} {e0 : Nat → Nat} {K : Int32 → mo_M → Prop} {M : mo_M} {x0 : Nat} {x1 : Int32} (hP : pp_L_hasBagFromBefore g e0 K M x0 x1) : Met l y_L_hasBagFromBefore ws_L_hasBagFromBefore (mo_R 3 0 0 64) (va_Pc [.ref x0, .int x1] (fun U => mo_B L0 e0 D vwCl (mo_T g) M U)) (mo_Qi L0 e0 D vwCl (mo_T g) K) 0 0 (fun q => L0 ≤ q) := by
  refine Met.ofW (cc := b_L_hasBagFromBefore) (maxL := 4) (ret := (Option.some Jvm.ClassFile.FieldType.boolean)) (by decide +kernel) rfl ?_
  intro p e s m args below meth c s₁ B hml hv
  obtain ⟨hv1, hB0⟩ := hv
  have hx := B.exec
  have hb := B.bytes
  have hr := B.returns
  have hts : ∀ w ∈ lw_g, w.before args s = true := fun w hw => atoms_spec (ws := ws_L_hasBagFromBefore) B.pre w (List.mem_cons_of_mem _ hw)
  have hown : s.vm.findClass "PurseHouse$Link" = some m.cls := findClass_of_methodNamed B.named
  have hlocks := B.notSynchronized
  have w_46 : ∀ (B_2 : mo_M → Nat → Int32 → Int32 → Prop) (hB_2 : ∀ (M : mo_M) (x0 : Nat) (x1 : Int32) (x2 : Int32) (H : Heap) (locs : List Loc) (ls : Array Slot), B_2 M x0 x1 x2 → mo_ok L0 e0 D vwCl (mo_T g) s M H locs → lv_has ls 4 [(0, .ref x0), (1, .int x1), (2, .int x2)] → W p l e (headSpec ws_L_hasBagFromBefore (mo_R 3 0 0 64)).room s m args below meth c H locs 0 0 (mo_Z below (mo_Qi L0 e0 D vwCl (mo_T g) K) args s 0 0 L0) (F0 m 2 ls [])) (M : mo_M) (x0 : Nat) (x1 : Int32) (x2 : Int32) (H : Heap) (locs : List Loc) (ls : Array Slot), pp_L_hasBagFromBefore_b46 g e0 K B_2 M x0 x1 x2 → mo_ok L0 e0 D vwCl (mo_T g) s M H locs → lv_has ls 4 [(0, .ref x0), (1, .int x1), (2, .int x2)] → W p l e (headSpec ws_L_hasBagFromBefore (mo_R 3 0 0 64)).room s m args below meth c H locs 0 0 (mo_Z below (mo_Qi L0 e0 D vwCl (mo_T g) K) args s 0 0 L0) (F0 m 46 ls []) := by
    intro B_2 hB_2 M x0 x1 x2 H locs ls hP hok hl
    unfold pp_L_hasBagFromBefore_b46 at hP
    refine lv_iinc (k := 2) (v := x2 + 1) (lv' := [(2, .int (x2 + 1)), (0, .ref x0), (1, .int x1)]) hx hb d_L_hasBagFromBefore_46 hl rfl rfl (by decide) rfl (fun ls hl => ?_)
    refine lv_goto (tgt := 2) hx hb d_L_hasBagFromBefore_49 (by decide) ?_
    exact hB_2 _ _ _ _ _ _ _ hP hok (lv_sub hl [1, 2, 0] rfl)
  have w_2 : ∀ (n : Nat) (M : mo_M) (x0 : Nat) (x1 : Int32) (x2 : Int32) (H : Heap) (locs : List Loc) (ls : Array Slot), pp_L_hasBagFromBefore_b2 g e0 K n M x0 x1 x2 → mo_ok L0 e0 D vwCl (mo_T g) s M H locs → lv_has ls 4 [(0, .ref x0), (1, .int x1), (2, .int x2)] → W p l e (headSpec ws_L_hasBagFromBefore (mo_R 3 0 0 64)).room s m args below meth c H locs 0 0 (mo_Z below (mo_Qi L0 e0 D vwCl (mo_T g) K) args s 0 0 L0) (F0 m 2 ls []) := by
    intro n
    induction n with
    | zero => intro M x0 x1 x2 H locs ls hP; exact hP.elim
    | succ n ih =>
      intro M x0 x1 x2 H locs ls hP hok hl
      unfold pp_L_hasBagFromBefore_b2 at hP
      refine lv_iload_n hx hb d_L_hasBagFromBefore_2 rfl (lv_at hl 2 rfl) ?_
      refine lv_aload_n hx hb d_L_hasBagFromBefore_3 rfl (lv_at hl 0 rfl) ?_
      refine mr_gr (C := "PurseHouse$Link") (T := F_2) (N := 6) (ref := "PurseHouse$Link") hx hb hts hown hok hP ui_2 rfl (by decide) (hts _ wd_187) (fun _ h => h) d_L_hasBagFromBefore_4 (fun v2 hP => ?_)
      obtain ⟨⟨fs9, he9⟩, hP⟩ := hP
      refine mo_calli hok (va_runV (As := []) (rest := [.int x2]) ⟨hx, hb, hml, hown, hts⟩ (cc_A_size l L0 D hP) ⟨(callB_of 0 hts (lw_gi wd_171) rfl rfl rfl (hts _ wd_36) (hts _ wd_328) (by decide +kernel) ⟨Nat.le_of_ble_eq_true rfl, Nat.le_of_ble_eq_true rfl⟩), hts _ wd_169, hts _ wd_170⟩ (mo_preV hok he9 rfl []) rfl rfl hl.1 rfl (lv_room (Nat.le_of_ble_eq_true rfl)) d_L_hasBagFromBefore_7 ⟨Nat.zero_le _, Nat.zero_le _⟩) (fun r4 M3 H locs hP hok => ?_)
      refine lv_icmp_ge (tgt := 52) hx hb d_L_hasBagFromBefore_10 (by decide) (fun hc => ?_) (fun hc => ?_)
      · replace hP := hP.1 hc
        refine lv_iconst (v := 0) hx hb d_L_hasBagFromBefore_52 (by decide) ?_
        exact mo_zret hx hb hr hlocks hok hP d_L_hasBagFromBefore_53
      · replace hP := hP.2 hc
        refine lv_aload_n hx hb d_L_hasBagFromBefore_13 rfl (lv_at hl 0 rfl) ?_
        refine mr_gr (C := "PurseHouse$Link") (T := F_2) (N := 6) (ref := "PurseHouse$Link") hx hb hts hown hok hP ui_2 rfl (by decide) (hts _ wd_187) (fun _ h => h) d_L_hasBagFromBefore_14 (fun v5 hP => ?_)
        refine lv_iload_n hx hb d_L_hasBagFromBefore_17 rfl (lv_at hl 2 rfl) ?_
        obtain ⟨⟨fs9, he9⟩, hP⟩ := hP
        refine mo_callr hok (va_runV (As := [.int x2]) (rest := []) ⟨hx, hb, hml, hown, hts⟩ (cc_A_get l L0 D hP) ⟨(callB_of 1 hts (lw_gi wd_313) rfl rfl rfl (hts _ wd_36) (hts _ wd_329) (by decide +kernel) ⟨Nat.le_of_ble_eq_true rfl, Nat.le_of_ble_eq_true rfl⟩), hts _ wd_311, hts _ wd_312⟩ (mo_preV hok he9 rfl [.int x2]) rfl rfl hl.1 rfl (lv_room (Nat.le_of_ble_eq_true rfl)) d_L_hasBagFromBefore_18 ⟨Nat.zero_le _, Nat.zero_le _⟩) (fun r7 M6 H locs hP hok => ?_)
        obtain ⟨his, hP⟩ := hP
        refine mr_cast (C := "PurseHouse$Thing") (T := F_3) (N := 4) hx hb hown hok his rfl (hts _ wd_330) d_L_hasBagFromBefore_21 ?_
        refine lv_astore_n (lv' := [(3, .ref r7), (0, .ref x0), (1, .int x1), (2, .int x2)]) hx hb d_L_hasBagFromBefore_24 rfl hl (by decide) rfl (fun ls hl => ?_)
        refine lv_aload_n hx hb d_L_hasBagFromBefore_25 rfl (lv_at hl 0 rfl) ?_
        refine mr_gi (C := "PurseHouse$Thing") (T := F_3) (N := 4) (ref := "PurseHouse$Thing") hx hb hts hown hok hP ui_3 rfl (by decide) (hts _ wd_345) (fun _ h => h) d_L_hasBagFromBefore_26 (fun v8 hP => ?_)
        refine lv_iconst (v := 1) hx hb d_L_hasBagFromBefore_29 (by decide) ?_
        refine lv_icmp_ne (tgt := 46) hx hb d_L_hasBagFromBefore_30 (by decide) (fun hc => ?_) (fun hc => ?_)
        · replace hP := hP.2 hc
          exact w_46 _ ih _ _ _ _ _ _ _ hP hok (lv_sub hl [1, 2, 3] rfl)
        · replace hP := hP.1 hc
          refine lv_aload_n hx hb d_L_hasBagFromBefore_33 rfl (lv_at hl 0 rfl) ?_
          refine mr_gi (C := "PurseHouse$Thing") (T := F_3) (N := 4) (ref := "PurseHouse$Thing") hx hb hts hown hok hP ui_3 rfl (by decide) (hts _ wd_354) (fun _ h => h) d_L_hasBagFromBefore_34 (fun v9 hP => ?_)
          refine lv_iload_n hx hb d_L_hasBagFromBefore_37 rfl (lv_at hl 2 rfl) ?_
          refine mo_calli hok (va_runSN (As := [.int v9, .int x1]) (rest := []) ⟨hx, hb, hml, hown, hts⟩ (cc_H_hasBit l L0 D hP) ⟨(va_cnB 2 hts (lw_gi wd_398) rfl rfl rfl (mo_nw_of hok wn_421 rfl) (hts _ wd_33) (by decide +kernel) ⟨Nat.le_of_ble_eq_true rfl, Nat.le_of_ble_eq_true rfl⟩), hts _ wd_397, trivial⟩ (mo_preS hok [.int v9, .int x1]) rfl rfl hl.1 rfl (lv_room (Nat.le_of_ble_eq_true rfl)) d_L_hasBagFromBefore_38 ⟨Nat.zero_le _, Nat.zero_le _⟩) (fun r11 M10 H locs hP hok => ?_)
          refine lv_if_ne (tgt := 46) hx hb d_L_hasBagFromBefore_41 (by decide) (fun hc => ?_) (fun hc => ?_)
          · replace hP := hP.2 hc
            exact w_46 _ ih _ _ _ _ _ _ _ hP hok (lv_sub hl [1, 2, 3] rfl)
          · replace hP := hP.1 hc
            refine lv_iconst (v := 1) hx hb d_L_hasBagFromBefore_44 (by decide) ?_
            exact mo_zret hx hb hr hlocks hok hP d_L_hasBagFromBefore_45
  have hok : mo_ok L0 e0 D vwCl (mo_T g) s M s.heap [] := ⟨hB0.1, hB0.2.1, hB0.2.2, va_S.rf⟩
  have hl := lv_entry ([.ref x0, .int x1]) (n := 4) (Nat.le_of_ble_eq_true rfl)
  rw [hv1, lg_entry_eq]
  rw [← hv1]
  generalize (lg_sl [.ref x0, .int x1] ++ List.replicate (4 - (lg_sl [.ref x0, .int x1]).length) Slot.unset).toArray = ls at hl ⊢
  have hl : lv_has ls 4 [(0, .ref x0), (1, .int x1)] := hl
  unfold pp_L_hasBagFromBefore at hP
  refine lv_iconst (v := 0) hx hb d_L_hasBagFromBefore_0 (by decide) ?_
  refine lv_istore_n (lv' := [(2, .int ((0 : Int32))), (0, .ref x0), (1, .int x1)]) hx hb d_L_hasBagFromBefore_1 rfl hl (by decide) rfl (fun ls hl => ?_)
  obtain ⟨n1, hP⟩ := hP
  exact w_2  n1 _ _ _ _ _ _ _ hP hok (lv_sub hl [1, 2, 0] rfl)

abbrev b_L_isDone : ByteArray := prog_3_method_6_code
def y_L_isDone : MethodName := ⟨"PurseHouse$Link", "isDone", "(I)Z"⟩
def ws_L_isDone : List Cond := .code y_L_isDone b_L_isDone 2 (Option.some Jvm.ClassFile.FieldType.boolean) :: lw_g
theorem d_L_isDone_0 : decode b_L_isDone 0 = .ok (.aload_n 0, 1) := by decide +kernel
theorem d_L_isDone_1 : decode b_L_isDone 1 = .ok (.getfield 34, 3) := by decide +kernel
theorem d_L_isDone_4 : decode b_L_isDone 4 = .ok (.ifCond .eq 12, 3) := by decide +kernel
theorem d_L_isDone_7 : decode b_L_isDone 7 = .ok (.aload_n 0, 1) := by decide +kernel
theorem d_L_isDone_8 : decode b_L_isDone 8 = .ok (.getfield 23, 3) := by decide +kernel
theorem d_L_isDone_11 : decode b_L_isDone 11 = .ok (.iload_n 1, 1) := by decide +kernel
theorem d_L_isDone_12 : decode b_L_isDone 12 = .ok (.invokestatic 73, 3) := by decide +kernel
theorem d_L_isDone_15 : decode b_L_isDone 15 = .ok (.ireturn, 1) := by decide +kernel
theorem d_L_isDone_16 : decode b_L_isDone 16 = .ok (.aload_n 0, 1) := by decide +kernel
theorem d_L_isDone_17 : decode b_L_isDone 17 = .ok (.getfield 27, 3) := by decide +kernel
theorem d_L_isDone_20 : decode b_L_isDone 20 = .ok (.iload_n 1, 1) := by decide +kernel
theorem d_L_isDone_21 : decode b_L_isDone 21 = .ok (.invokevirtual 77, 3) := by decide +kernel
theorem d_L_isDone_24 : decode b_L_isDone 24 = .ok (.ifCond .eq 26, 3) := by decide +kernel
theorem d_L_isDone_27 : decode b_L_isDone 27 = .ok (.aload_n 0, 1) := by decide +kernel
theorem d_L_isDone_28 : decode b_L_isDone 28 = .ok (.getfield 31, 3) := by decide +kernel
theorem d_L_isDone_31 : decode b_L_isDone 31 = .ok (.iload_n 1, 1) := by decide +kernel
theorem d_L_isDone_32 : decode b_L_isDone 32 = .ok (.invokevirtual 77, 3) := by decide +kernel
theorem d_L_isDone_35 : decode b_L_isDone 35 = .ok (.ifCond .eq 15, 3) := by decide +kernel
theorem d_L_isDone_38 : decode b_L_isDone 38 = .ok (.aload_n 0, 1) := by decide +kernel
theorem d_L_isDone_39 : decode b_L_isDone 39 = .ok (.iload_n 1, 1) := by decide +kernel
theorem d_L_isDone_40 : decode b_L_isDone 40 = .ok (.invokevirtual 81, 3) := by decide +kernel
theorem d_L_isDone_43 : decode b_L_isDone 43 = .ok (.ifCond .ne 7, 3) := by decide +kernel
theorem d_L_isDone_46 : decode b_L_isDone 46 = .ok (.iconst 1, 1) := by decide +kernel
theorem d_L_isDone_47 : decode b_L_isDone 47 = .ok (.goto 4, 3) := by decide +kernel
theorem d_L_isDone_50 : decode b_L_isDone 50 = .ok (.iconst 0, 1) := by decide +kernel
theorem d_L_isDone_51 : decode b_L_isDone 51 = .ok (.ireturn, 1) := by decide +kernel
def pp_L_isDone (g : Nat → ClassId) (e0 : Nat → Nat) (K : Int32 → mo_M → Prop) (M : mo_M) (x0 : Nat) (x1 : Int32) : Prop := mp_gi M x0 2 2 (fun v1 => ((v1 = 0 → mp_gr M x0 2 0 (fun v2 => (mp_is M v2 1 ∧ pp_K_hasMark g e0 (fun r4 M3 => ((r4 = 0 → (narrow .boolean (.int ((0 : Int32))) = .int ((0 : Int32)) ∧ K ((0 : Int32)) M3)) ∧ (¬ (r4 = 0) → mp_gr M3 x0 2 1 (fun v5 => (mp_is M3 v5 1 ∧ pp_K_hasMark g e0 (fun r7 M6 => ((r7 = 0 → (narrow .boolean (.int ((0 : Int32))) = .int ((0 : Int32)) ∧ K ((0 : Int32)) M6)) ∧ (¬ (r7 = 0) → (mp_is M6 x0 2 ∧ pp_L_hasBagFromBefore g e0 (fun r9 M8 => ((r9 = 0 → (narrow .boolean (.int ((1 : Int32))) = .int ((1 : Int32)) ∧ K ((1 : Int32)) M8)) ∧ (¬ (r9 = 0) → (narrow .boolean (.int ((0 : Int32))) = .int ((0 : Int32)) ∧ K ((0 : Int32)) M8)))) M6 x0 x1)))) M3 v5 x1))))) M v2 x1))) ∧ (¬ (v1 = 0) → mp_gi M x0 2 5 (fun v10 => pp_H_hasBit g e0 (fun r12 M11 => (narrow .boolean (.int r12) = .int r12 ∧ K r12 M11)) M v10 x1))))
set_option maxHeartbeats 4000000 in
set_option maxRecDepth 100000 in
theorem cc_L_isDone (l : Launch) (L0 : Nat) (D : va_G) {g : Nat → ClassId} {e0 : Nat → Nat} {K : Int32 → mo_M → Prop} {M : mo_M} {x0 : Nat} {x1 : Int32} (hP : pp_L_isDone g e0 K M x0 x1) : Met l y_L_isDone ws_L_isDone (mo_R 4 0 0 87) (va_Pc [.ref x0, .int x1] (fun U => mo_B L0 e0 D vwCl (mo_T g) M U)) (mo_Qi L0 e0 D vwCl (mo_T g) K) 0 0 (fun q => L0 ≤ q) := by
  refine Met.ofW (cc := b_L_isDone) (maxL := 2) (ret := (Option.some Jvm.ClassFile.FieldType.boolean)) (by decide +kernel) rfl ?_
  intro p e s m args below meth c s₁ B hml hv
  obtain ⟨hv1, hB0⟩ := hv
  have hx := B.exec
  have hb := B.bytes
  have hr := B.returns
  have hts : ∀ w ∈ lw_g, w.before args s = true := fun w hw => atoms_spec (ws := ws_L_isDone) B.pre w (List.mem_cons_of_mem _ hw)
  have hown : s.vm.findClass "PurseHouse$Link" = some m.cls := findClass_of_methodNamed B.named
  have hlocks := B.notSynchronized
  have hok : mo_ok L0 e0 D vwCl (mo_T g) s M s.heap [] := ⟨hB0.1, hB0.2.1, hB0.2.2, va_S.rf⟩
  have hl := lv_entry ([.ref x0, .int x1]) (n := 2) (Nat.le_of_ble_eq_true rfl)
  rw [hv1, lg_entry_eq]
  rw [← hv1]
  generalize (lg_sl [.ref x0, .int x1] ++ List.replicate (2 - (lg_sl [.ref x0, .int x1]).length) Slot.unset).toArray = ls at hl ⊢
  have hl : lv_has ls 2 [(0, .ref x0), (1, .int x1)] := hl
  unfold pp_L_isDone at hP
  refine lv_aload_n hx hb d_L_isDone_0 rfl (lv_at hl 0 rfl) ?_
  refine mr_gi (C := "PurseHouse$Link") (T := F_2) (N := 6) (ref := "PurseHouse$Link") hx hb hts hown hok hP ui_2 rfl (by decide) (hts _ wd_185) (fun _ h => h) d_L_isDone_1 (fun v1 hP => ?_)
  refine lv_if_eq (tgt := 16) hx hb d_L_isDone_4 (by decide) (fun hc => ?_) (fun hc => ?_)
  · replace hP := hP.1 hc
    refine lv_aload_n hx hb d_L_isDone_16 rfl (lv_at hl 0 rfl) ?_
    refine mr_gr (C := "PurseHouse$Link") (T := F_2) (N := 6) (ref := "PurseHouse$Link") hx hb hts hown hok hP ui_2 rfl (by decide) (hts _ wd_181) (fun _ h => h) d_L_isDone_17 (fun v2 hP => ?_)
    refine lv_iload_n hx hb d_L_isDone_20 rfl (lv_at hl 1 rfl) ?_
    obtain ⟨⟨fs9, he9⟩, hP⟩ := hP
    refine mo_calli hok (va_runV (As := [.int x1]) (rest := []) ⟨hx, hb, hml, hown, hts⟩ (cc_K_hasMark l L0 D hP) ⟨(callB_of 1 hts (lw_gi wd_395) rfl rfl rfl (hts _ wd_38) (hts _ wd_422) (by decide +kernel) ⟨Nat.le_of_ble_eq_true rfl, Nat.le_of_ble_eq_true rfl⟩), hts _ wd_393, hts _ wd_394⟩ (mo_preV hok he9 rfl [.int x1]) rfl rfl hl.1 rfl (lv_room (Nat.le_of_ble_eq_true rfl)) d_L_isDone_21 ⟨Nat.zero_le _, Nat.zero_le _⟩) (fun r4 M3 H locs hP hok => ?_)
    refine lv_if_eq (tgt := 50) hx hb d_L_isDone_24 (by decide) (fun hc => ?_) (fun hc => ?_)
    · replace hP := hP.1 hc
      refine lv_iconst (v := 0) hx hb d_L_isDone_50 (by decide) ?_
      exact mo_zret hx hb hr hlocks hok hP d_L_isDone_51
    · replace hP := hP.2 hc
      refine lv_aload_n hx hb d_L_isDone_27 rfl (lv_at hl 0 rfl) ?_
      refine mr_gr (C := "PurseHouse$Link") (T := F_2) (N := 6) (ref := "PurseHouse$Link") hx hb hts hown hok hP ui_2 rfl (by decide) (hts _ wd_183) (fun _ h => h) d_L_isDone_28 (fun v5 hP => ?_)
      refine lv_iload_n hx hb d_L_isDone_31 rfl (lv_at hl 1 rfl) ?_
      obtain ⟨⟨fs9, he9⟩, hP⟩ := hP
      refine mo_calli hok (va_runV (As := [.int x1]) (rest := []) ⟨hx, hb, hml, hown, hts⟩ (cc_K_hasMark l L0 D hP) ⟨(callB_of 1 hts (lw_gi wd_395) rfl rfl rfl (hts _ wd_38) (hts _ wd_422) (by decide +kernel) ⟨Nat.le_of_ble_eq_true rfl, Nat.le_of_ble_eq_true rfl⟩), hts _ wd_393, hts _ wd_394⟩ (mo_preV hok he9 rfl [.int x1]) rfl rfl hl.1 rfl (lv_room (Nat.le_of_ble_eq_true rfl)) d_L_isDone_32 ⟨Nat.zero_le _, Nat.zero_le _⟩) (fun r7 M6 H locs hP hok => ?_)
      refine lv_if_eq (tgt := 50) hx hb d_L_isDone_35 (by decide) (fun hc => ?_) (fun hc => ?_)
      · replace hP := hP.1 hc
        refine lv_iconst (v := 0) hx hb d_L_isDone_50 (by decide) ?_
        exact mo_zret hx hb hr hlocks hok hP d_L_isDone_51
      · replace hP := hP.2 hc
        refine lv_aload_n hx hb d_L_isDone_38 rfl (lv_at hl 0 rfl) ?_
        refine lv_iload_n hx hb d_L_isDone_39 rfl (lv_at hl 1 rfl) ?_
        obtain ⟨⟨fs9, he9⟩, hP⟩ := hP
        refine mo_calli hok (va_runV (As := [.int x1]) (rest := []) ⟨hx, hb, hml, hown, hts⟩ (cc_L_hasBagFromBefore l L0 D hP) ⟨(callB_of 1 hts (lw_gi wd_466) rfl rfl rfl (hts _ wd_40) (hts _ wd_463) (by decide +kernel) ⟨Nat.le_of_ble_eq_true rfl, Nat.le_of_ble_eq_true rfl⟩), hts _ wd_464, hts _ wd_465⟩ (mo_preV hok he9 rfl [.int x1]) rfl rfl hl.1 rfl (lv_room (Nat.le_of_ble_eq_true rfl)) d_L_isDone_40 ⟨Nat.zero_le _, Nat.zero_le _⟩) (fun r9 M8 H locs hP hok => ?_)
        refine lv_if_ne (tgt := 50) hx hb d_L_isDone_43 (by decide) (fun hc => ?_) (fun hc => ?_)
        · replace hP := hP.2 hc
          refine lv_iconst (v := 0) hx hb d_L_isDone_50 (by decide) ?_
          exact mo_zret hx hb hr hlocks hok hP d_L_isDone_51
        · replace hP := hP.1 hc
          refine lv_iconst (v := 1) hx hb d_L_isDone_46 (by decide) ?_
          refine lv_goto (tgt := 51) hx hb d_L_isDone_47 (by decide) ?_
          exact mo_zret hx hb hr hlocks hok hP d_L_isDone_51
  · replace hP := hP.2 hc
    refine lv_aload_n hx hb d_L_isDone_7 rfl (lv_at hl 0 rfl) ?_
    refine mr_gi (C := "PurseHouse$Link") (T := F_2) (N := 6) (ref := "PurseHouse$Link") hx hb hts hown hok hP ui_2 rfl (by decide) (hts _ wd_191) (fun _ h => h) d_L_isDone_8 (fun v10 hP => ?_)
    refine lv_iload_n hx hb d_L_isDone_11 rfl (lv_at hl 1 rfl) ?_
    refine mo_calli hok (va_runSN (As := [.int v10, .int x1]) (rest := []) ⟨hx, hb, hml, hown, hts⟩ (cc_H_hasBit l L0 D hP) ⟨(va_cnB 2 hts (lw_gi wd_398) rfl rfl rfl (mo_nw_of hok wn_421 rfl) (hts _ wd_33) (by decide +kernel) ⟨Nat.le_of_ble_eq_true rfl, Nat.le_of_ble_eq_true rfl⟩), hts _ wd_397, trivial⟩ (mo_preS hok [.int v10, .int x1]) rfl rfl hl.1 rfl (lv_room (Nat.le_of_ble_eq_true rfl)) d_L_isDone_12 ⟨Nat.zero_le _, Nat.zero_le _⟩) (fun r12 M11 H locs hP hok => ?_)
    exact mo_zret hx hb hr hlocks hok hP d_L_isDone_15

abbrev b_L_sumOfBags : ByteArray := prog_3_method_3_code
def y_L_sumOfBags : MethodName := ⟨"PurseHouse$Link", "sumOfBags", "(I)J"⟩
def ws_L_sumOfBags : List Cond := .code y_L_sumOfBags b_L_sumOfBags 6 (Option.some Jvm.ClassFile.FieldType.long) :: lw_g
theorem d_L_sumOfBags_0 : decode b_L_sumOfBags 0 = .ok (.lconst 0, 1) := by decide +kernel
theorem d_L_sumOfBags_1 : decode b_L_sumOfBags 1 = .ok (.lstore_n 2, 1) := by decide +kernel
theorem d_L_sumOfBags_2 : decode b_L_sumOfBags 2 = .ok (.iconst 0, 1) := by decide +kernel
theorem d_L_sumOfBags_3 : decode b_L_sumOfBags 3 = .ok (.istore 4, 2) := by decide +kernel
theorem d_L_sumOfBags_5 : decode b_L_sumOfBags 5 = .ok (.iload 4, 2) := by decide +kernel
theorem d_L_sumOfBags_7 : decode b_L_sumOfBags 7 = .ok (.aload_n 0, 1) := by decide +kernel
theorem d_L_sumOfBags_8 : decode b_L_sumOfBags 8 = .ok (.getfield 12, 3) := by decide +kernel
theorem d_L_sumOfBags_11 : decode b_L_sumOfBags 11 = .ok (.invokevirtual 38, 3) := by decide +kernel
theorem d_L_sumOfBags_14 : decode b_L_sumOfBags 14 = .ok (.if_icmp .ge 50, 3) := by decide +kernel
theorem d_L_sumOfBags_17 : decode b_L_sumOfBags 17 = .ok (.aload_n 0, 1) := by decide +kernel
theorem d_L_sumOfBags_18 : decode b_L_sumOfBags 18 = .ok (.getfield 12, 3) := by decide +kernel
theorem d_L_sumOfBags_21 : decode b_L_sumOfBags 21 = .ok (.iload 4, 2) := by decide +kernel
theorem d_L_sumOfBags_23 : decode b_L_sumOfBags 23 = .ok (.invokevirtual 42, 3) := by decide +kernel
theorem d_L_sumOfBags_26 : decode b_L_sumOfBags 26 = .ok (.checkcast 46, 3) := by decide +kernel
theorem d_L_sumOfBags_29 : decode b_L_sumOfBags 29 = .ok (.astore 5, 2) := by decide +kernel
theorem d_L_sumOfBags_31 : decode b_L_sumOfBags 31 = .ok (.aload 5, 2) := by decide +kernel
theorem d_L_sumOfBags_33 : decode b_L_sumOfBags 33 = .ok (.getfield 48, 3) := by decide +kernel
theorem d_L_sumOfBags_36 : decode b_L_sumOfBags 36 = .ok (.iconst 1, 1) := by decide +kernel
theorem d_L_sumOfBags_37 : decode b_L_sumOfBags 37 = .ok (.if_icmp .ne 21, 3) := by decide +kernel
theorem d_L_sumOfBags_40 : decode b_L_sumOfBags 40 = .ok (.aload 5, 2) := by decide +kernel
theorem d_L_sumOfBags_42 : decode b_L_sumOfBags 42 = .ok (.getfield 51, 3) := by decide +kernel
theorem d_L_sumOfBags_45 : decode b_L_sumOfBags 45 = .ok (.iload_n 1, 1) := by decide +kernel
theorem d_L_sumOfBags_46 : decode b_L_sumOfBags 46 = .ok (.if_icmp .ne 12, 3) := by decide +kernel
theorem d_L_sumOfBags_49 : decode b_L_sumOfBags 49 = .ok (.lload_n 2, 1) := by decide +kernel
theorem d_L_sumOfBags_50 : decode b_L_sumOfBags 50 = .ok (.aload 5, 2) := by decide +kernel
theorem d_L_sumOfBags_52 : decode b_L_sumOfBags 52 = .ok (.getfield 54, 3) := by decide +kernel
theorem d_L_sumOfBags_55 : decode b_L_sumOfBags 55 = .ok (.i2l, 1) := by decide +kernel
theorem d_L_sumOfBags_56 : decode b_L_sumOfBags 56 = .ok (.ladd, 1) := by decide +kernel
theorem d_L_sumOfBags_57 : decode b_L_sumOfBags 57 = .ok (.lstore_n 2, 1) := by decide +kernel
theorem d_L_sumOfBags_58 : decode b_L_sumOfBags 58 = .ok (.iinc 4 1, 3) := by decide +kernel
theorem d_L_sumOfBags_61 : decode b_L_sumOfBags 61 = .ok (.goto (-56), 3) := by decide +kernel
theorem d_L_sumOfBags_64 : decode b_L_sumOfBags 64 = .ok (.lload_n 2, 1) := by decide +kernel
theorem d_L_sumOfBags_65 : decode b_L_sumOfBags 65 = .ok (.lreturn, 1) := by decide +kernel
def pp_L_sumOfBags_b58 (g : Nat → ClassId) (e0 : Nat → Nat) (K : Int64 → mo_M → Prop) (B_5 : mo_M → Nat → Int32 → Int64 → Int32 → Prop) (M : mo_M) (x0 : Nat) (x1 : Int32) (x2 : Int64) (x4 : Int32) : Prop := B_5 M x0 x1 x2 (x4 + 1)
def pp_L_sumOfBags_b5 (g : Nat → ClassId) (e0 : Nat → Nat) (K : Int64 → mo_M → Prop) : Nat → mo_M → Nat → Int32 → Int64 → Int32 → Prop
  | 0, _, _, _, _, _ => False
  | n + 1, M, x0, x1, x2, x4 => mp_gr M x0 2 3 (fun v2 => (mp_is M v2 5 ∧ pp_A_size g e0 (fun r4 M3 => ((r4 ≤ x4 → K x2 M3) ∧ (¬ (r4 ≤ x4) → mp_gr M3 x0 2 3 (fun v5 => (mp_is M3 v5 5 ∧ pp_A_get g e0 (fun r7 M6 => (mp_is M6 r7 3 ∧ mp_gi M6 r7 3 0 (fun v8 => ((v8 = ((1 : Int32)) → mp_gi M6 r7 3 1 (fun v9 => ((v9 = x1 → mp_gi M6 r7 3 2 (fun v10 => pp_L_sumOfBags_b58 g e0 K (fun M x0 x1 x2 x4 => pp_L_sumOfBags_b5 g e0 K n M x0 x1 x2 x4) M6 x0 x1 ((x2 + v10.toInt64)) x4)) ∧ (¬ (v9 = x1) → pp_L_sumOfBags_b58 g e0 K (fun M x0 x1 x2 x4 => pp_L_sumOfBags_b5 g e0 K n M x0 x1 x2 x4) M6 x0 x1 x2 x4)))) ∧ (¬ (v8 = ((1 : Int32))) → pp_L_sumOfBags_b58 g e0 K (fun M x0 x1 x2 x4 => pp_L_sumOfBags_b5 g e0 K n M x0 x1 x2 x4) M6 x0 x1 x2 x4))))) M3 v5 x4))))) M v2))
def pp_L_sumOfBags (g : Nat → ClassId) (e0 : Nat → Nat) (K : Int64 → mo_M → Prop) (M : mo_M) (x0 : Nat) (x1 : Int32) : Prop := ∃ n1 : Nat, pp_L_sumOfBags_b5 g e0 K n1 M x0 x1 ((0 : Int64)) ((0 : Int32))
set_option maxHeartbeats 4000000 in
set_option maxRecDepth 100000 in
theorem cc_L_sumOfBags (l : Launch) (L0 : Nat) (D : va_G) {g : Nat → ClassId} {e0 : Nat → Nat} {K : Int64 → mo_M → Prop} {M : mo_M} {x0 : Nat} {x1 : Int32} (hP : pp_L_sumOfBags g e0 K M x0 x1) : Met l y_L_sumOfBags ws_L_sumOfBags (mo_R 3 0 0 64) (va_Pc [.ref x0, .int x1] (fun U => mo_B L0 e0 D vwCl (mo_T g) M U)) (mo_Ql L0 e0 D vwCl (mo_T g) K) 0 0 (fun q => L0 ≤ q) := by
  refine Met.ofW (cc := b_L_sumOfBags) (maxL := 6) (ret := (Option.some Jvm.ClassFile.FieldType.long)) (by decide +kernel) rfl ?_
  intro p e s m args below meth c s₁ B hml hv
  obtain ⟨hv1, hB0⟩ := hv
  have hx := B.exec
  have hb := B.bytes
  have hr := B.returns
  have hts : ∀ w ∈ lw_g, w.before args s = true := fun w hw => atoms_spec (ws := ws_L_sumOfBags) B.pre w (List.mem_cons_of_mem _ hw)
  have hown : s.vm.findClass "PurseHouse$Link" = some m.cls := findClass_of_methodNamed B.named
  have hlocks := B.notSynchronized
  have w_58 : ∀ (B_5 : mo_M → Nat → Int32 → Int64 → Int32 → Prop) (hB_5 : ∀ (M : mo_M) (x0 : Nat) (x1 : Int32) (x2 : Int64) (x4 : Int32) (H : Heap) (locs : List Loc) (ls : Array Slot), B_5 M x0 x1 x2 x4 → mo_ok L0 e0 D vwCl (mo_T g) s M H locs → lv_has ls 6 [(0, .ref x0), (1, .int x1), (2, .long x2), (4, .int x4)] → W p l e (headSpec ws_L_sumOfBags (mo_R 3 0 0 64)).room s m args below meth c H locs 0 0 (mo_Z below (mo_Ql L0 e0 D vwCl (mo_T g) K) args s 0 0 L0) (F0 m 5 ls [])) (M : mo_M) (x0 : Nat) (x1 : Int32) (x2 : Int64) (x4 : Int32) (H : Heap) (locs : List Loc) (ls : Array Slot), pp_L_sumOfBags_b58 g e0 K B_5 M x0 x1 x2 x4 → mo_ok L0 e0 D vwCl (mo_T g) s M H locs → lv_has ls 6 [(0, .ref x0), (1, .int x1), (2, .long x2), (4, .int x4)] → W p l e (headSpec ws_L_sumOfBags (mo_R 3 0 0 64)).room s m args below meth c H locs 0 0 (mo_Z below (mo_Ql L0 e0 D vwCl (mo_T g) K) args s 0 0 L0) (F0 m 58 ls []) := by
    intro B_5 hB_5 M x0 x1 x2 x4 H locs ls hP hok hl
    unfold pp_L_sumOfBags_b58 at hP
    refine lv_iinc (k := 3) (v := x4 + 1) (lv' := [(4, .int (x4 + 1)), (0, .ref x0), (1, .int x1), (2, .long x2)]) hx hb d_L_sumOfBags_58 hl rfl rfl (by decide) rfl (fun ls hl => ?_)
    refine lv_goto (tgt := 5) hx hb d_L_sumOfBags_61 (by decide) ?_
    exact hB_5 _ _ _ _ _ _ _ _ hP hok (lv_sub hl [1, 2, 3, 0] rfl)
  have w_5 : ∀ (n : Nat) (M : mo_M) (x0 : Nat) (x1 : Int32) (x2 : Int64) (x4 : Int32) (H : Heap) (locs : List Loc) (ls : Array Slot), pp_L_sumOfBags_b5 g e0 K n M x0 x1 x2 x4 → mo_ok L0 e0 D vwCl (mo_T g) s M H locs → lv_has ls 6 [(0, .ref x0), (1, .int x1), (2, .long x2), (4, .int x4)] → W p l e (headSpec ws_L_sumOfBags (mo_R 3 0 0 64)).room s m args below meth c H locs 0 0 (mo_Z below (mo_Ql L0 e0 D vwCl (mo_T g) K) args s 0 0 L0) (F0 m 5 ls []) := by
    intro n
    induction n with
    | zero => intro M x0 x1 x2 x4 H locs ls hP; exact hP.elim
    | succ n ih =>
      intro M x0 x1 x2 x4 H locs ls hP hok hl
      unfold pp_L_sumOfBags_b5 at hP
      refine lv_iload hx hb d_L_sumOfBags_5 (lv_at hl 3 rfl) ?_
      refine lv_aload_n hx hb d_L_sumOfBags_7 rfl (lv_at hl 0 rfl) ?_
      refine mr_gr (C := "PurseHouse$Link") (T := F_2) (N := 6) (ref := "PurseHouse$Link") hx hb hts hown hok hP ui_2 rfl (by decide) (hts _ wd_187) (fun _ h => h) d_L_sumOfBags_8 (fun v2 hP => ?_)
      obtain ⟨⟨fs9, he9⟩, hP⟩ := hP
      refine mo_calli hok (va_runV (As := []) (rest := [.int x4]) ⟨hx, hb, hml, hown, hts⟩ (cc_A_size l L0 D hP) ⟨(callB_of 0 hts (lw_gi wd_171) rfl rfl rfl (hts _ wd_36) (hts _ wd_328) (by decide +kernel) ⟨Nat.le_of_ble_eq_true rfl, Nat.le_of_ble_eq_true rfl⟩), hts _ wd_169, hts _ wd_170⟩ (mo_preV hok he9 rfl []) rfl rfl hl.1 rfl (lv_room (Nat.le_of_ble_eq_true rfl)) d_L_sumOfBags_11 ⟨Nat.zero_le _, Nat.zero_le _⟩) (fun r4 M3 H locs hP hok => ?_)
      refine lv_icmp_ge (tgt := 64) hx hb d_L_sumOfBags_14 (by decide) (fun hc => ?_) (fun hc => ?_)
      · replace hP := hP.1 hc
        refine lv_lload_n hx hb d_L_sumOfBags_64 rfl (lv_at hl 2 rfl) ?_
        exact mo_lret hx hb hr hlocks hok hP d_L_sumOfBags_65
      · replace hP := hP.2 hc
        refine lv_aload_n hx hb d_L_sumOfBags_17 rfl (lv_at hl 0 rfl) ?_
        refine mr_gr (C := "PurseHouse$Link") (T := F_2) (N := 6) (ref := "PurseHouse$Link") hx hb hts hown hok hP ui_2 rfl (by decide) (hts _ wd_187) (fun _ h => h) d_L_sumOfBags_18 (fun v5 hP => ?_)
        refine lv_iload hx hb d_L_sumOfBags_21 (lv_at hl 3 rfl) ?_
        obtain ⟨⟨fs9, he9⟩, hP⟩ := hP
        refine mo_callr hok (va_runV (As := [.int x4]) (rest := []) ⟨hx, hb, hml, hown, hts⟩ (cc_A_get l L0 D hP) ⟨(callB_of 1 hts (lw_gi wd_313) rfl rfl rfl (hts _ wd_36) (hts _ wd_329) (by decide +kernel) ⟨Nat.le_of_ble_eq_true rfl, Nat.le_of_ble_eq_true rfl⟩), hts _ wd_311, hts _ wd_312⟩ (mo_preV hok he9 rfl [.int x4]) rfl rfl hl.1 rfl (lv_room (Nat.le_of_ble_eq_true rfl)) d_L_sumOfBags_23 ⟨Nat.zero_le _, Nat.zero_le _⟩) (fun r7 M6 H locs hP hok => ?_)
        obtain ⟨his, hP⟩ := hP
        refine mr_cast (C := "PurseHouse$Thing") (T := F_3) (N := 4) hx hb hown hok his rfl (hts _ wd_330) d_L_sumOfBags_26 ?_
        refine lv_astore (lv' := [(5, .ref r7), (0, .ref x0), (1, .int x1), (2, .long x2), (4, .int x4)]) hx hb d_L_sumOfBags_29 hl (by decide) rfl (fun ls hl => ?_)
        refine lv_aload hx hb d_L_sumOfBags_31 (lv_at hl 0 rfl) ?_
        refine mr_gi (C := "PurseHouse$Thing") (T := F_3) (N := 4) (ref := "PurseHouse$Thing") hx hb hts hown hok hP ui_3 rfl (by decide) (hts _ wd_345) (fun _ h => h) d_L_sumOfBags_33 (fun v8 hP => ?_)
        refine lv_iconst (v := 1) hx hb d_L_sumOfBags_36 (by decide) ?_
        refine lv_icmp_ne (tgt := 58) hx hb d_L_sumOfBags_37 (by decide) (fun hc => ?_) (fun hc => ?_)
        · replace hP := hP.2 hc
          exact w_58 _ ih _ _ _ _ _ _ _ _ hP hok (lv_sub hl [1, 2, 3, 4] rfl)
        · replace hP := hP.1 hc
          refine lv_aload hx hb d_L_sumOfBags_40 (lv_at hl 0 rfl) ?_
          refine mr_gi (C := "PurseHouse$Thing") (T := F_3) (N := 4) (ref := "PurseHouse$Thing") hx hb hts hown hok hP ui_3 rfl (by decide) (hts _ wd_348) (fun _ h => h) d_L_sumOfBags_42 (fun v9 hP => ?_)
          refine lv_iload_n hx hb d_L_sumOfBags_45 rfl (lv_at hl 2 rfl) ?_
          refine lv_icmp_ne (tgt := 58) hx hb d_L_sumOfBags_46 (by decide) (fun hc => ?_) (fun hc => ?_)
          · replace hP := hP.2 hc
            exact w_58 _ ih _ _ _ _ _ _ _ _ hP hok (lv_sub hl [1, 2, 3, 4] rfl)
          · replace hP := hP.1 hc
            refine lv_lload_n hx hb d_L_sumOfBags_49 rfl (lv_at hl 3 rfl) ?_
            refine lv_aload hx hb d_L_sumOfBags_50 (lv_at hl 0 rfl) ?_
            refine mr_gi (C := "PurseHouse$Thing") (T := F_3) (N := 4) (ref := "PurseHouse$Thing") hx hb hts hown hok hP ui_3 rfl (by decide) (hts _ wd_351) (fun _ h => h) d_L_sumOfBags_52 (fun v10 hP => ?_)
            refine lv_i2l hx hb d_L_sumOfBags_55 rfl ?_
            refine lv_ladd hx hb d_L_sumOfBags_56 ?_
            refine lv_lstore_n (lv' := [(2, .long ((x2 + v10.toInt64))), (5, .ref r7), (0, .ref x0), (1, .int x1), (4, .int x4)]) hx hb d_L_sumOfBags_57 rfl hl (by decide) rfl (fun ls hl => ?_)
            exact w_58 _ ih _ _ _ _ _ _ _ _ hP hok (lv_sub hl [2, 3, 0, 4] rfl)
  have hok : mo_ok L0 e0 D vwCl (mo_T g) s M s.heap [] := ⟨hB0.1, hB0.2.1, hB0.2.2, va_S.rf⟩
  have hl := lv_entry ([.ref x0, .int x1]) (n := 6) (Nat.le_of_ble_eq_true rfl)
  rw [hv1, lg_entry_eq]
  rw [← hv1]
  generalize (lg_sl [.ref x0, .int x1] ++ List.replicate (6 - (lg_sl [.ref x0, .int x1]).length) Slot.unset).toArray = ls at hl ⊢
  have hl : lv_has ls 6 [(0, .ref x0), (1, .int x1)] := hl
  unfold pp_L_sumOfBags at hP
  refine lv_lconst (v := 0) hx hb d_L_sumOfBags_0 (by decide) ?_
  refine lv_lstore_n (lv' := [(2, .long ((0 : Int64))), (0, .ref x0), (1, .int x1)]) hx hb d_L_sumOfBags_1 rfl hl (by decide) rfl (fun ls hl => ?_)
  refine lv_iconst (v := 0) hx hb d_L_sumOfBags_2 (by decide) ?_
  refine lv_istore (lv' := [(4, .int ((0 : Int32))), (2, .long ((0 : Int64))), (0, .ref x0), (1, .int x1)]) hx hb d_L_sumOfBags_3 hl (by decide) rfl (fun ls hl => ?_)
  obtain ⟨n1, hP⟩ := hP
  exact w_5  n1 _ _ _ _ _ _ _ _ hP hok (lv_sub hl [2, 3, 1, 0] rfl)

