theorem mo_swE {X : Int32} {hi : Nat} (h1 : ¬ X.toInt < 0) (h2 : ¬ (hi : Int) < X.toInt) : ∃ k : Nat, k ≤ hi ∧ X = nI k := by
  obtain ⟨j, hj, e⟩ := nI_of (x := X) (fun h => h1 (by have := Int32.lt_iff_toInt_lt.mp h; exact this))
  refine ⟨j, ?_, e⟩
  rw [e, nI_toInt hj] at h2
  omega
abbrev b_H_thing : ByteArray := prog_1_method_13_code
def y_H_thing : MethodName := ⟨"PurseHouse", "thing", "(III)I"⟩
def ws_H_thing : List Cond := .code y_H_thing b_H_thing 5 (Option.some Jvm.ClassFile.FieldType.int) :: lw_g
theorem d_H_thing_0 : decode b_H_thing 0 = .ok (.aload_n 0, 1) := by decide +kernel
theorem d_H_thing_1 : decode b_H_thing 1 = .ok (.iload_n 1, 1) := by decide +kernel
theorem d_H_thing_2 : decode b_H_thing 2 = .ok (.iload_n 2, 1) := by decide +kernel
theorem d_H_thing_3 : decode b_H_thing 3 = .ok (.invokevirtual 106, 3) := by decide +kernel
theorem d_H_thing_6 : decode b_H_thing 6 = .ok (.ifCond .ne 13, 3) := by decide +kernel
theorem d_H_thing_9 : decode b_H_thing 9 = .ok (.new 146, 3) := by decide +kernel
theorem d_H_thing_12 : decode b_H_thing 12 = .ok (.dup, 1) := by decide +kernel
theorem d_H_thing_13 : decode b_H_thing 13 = .ok (.ldc 148, 2) := by decide +kernel
theorem d_H_thing_15 : decode b_H_thing 15 = .ok (.invokespecial 150, 3) := by decide +kernel
theorem d_H_thing_18 : decode b_H_thing 18 = .ok (.athrow, 1) := by decide +kernel
theorem d_H_thing_19 : decode b_H_thing 19 = .ok (.aload_n 0, 1) := by decide +kernel
theorem d_H_thing_20 : decode b_H_thing 20 = .ok (.getfield 10, 3) := by decide +kernel
theorem d_H_thing_23 : decode b_H_thing 23 = .ok (.iload_n 1, 1) := by decide +kernel
theorem d_H_thing_24 : decode b_H_thing 24 = .ok (.invokevirtual 88, 3) := by decide +kernel
theorem d_H_thing_27 : decode b_H_thing 27 = .ok (.checkcast 52, 3) := by decide +kernel
theorem d_H_thing_30 : decode b_H_thing 30 = .ok (.getfield 113, 3) := by decide +kernel
theorem d_H_thing_33 : decode b_H_thing 33 = .ok (.iload_n 2, 1) := by decide +kernel
theorem d_H_thing_34 : decode b_H_thing 34 = .ok (.invokevirtual 88, 3) := by decide +kernel
theorem d_H_thing_37 : decode b_H_thing 37 = .ok (.checkcast 119, 3) := by decide +kernel
theorem d_H_thing_40 : decode b_H_thing 40 = .ok (.astore 4, 2) := by decide +kernel
theorem d_H_thing_42 : decode b_H_thing 42 = .ok (.iload_n 3, 1) := by decide +kernel
theorem d_H_thing_43 : decode b_H_thing 43 = .ok (.tableswitch 53 0 3 #[29, 35, 41, 47], 29) := by decide +kernel
theorem d_H_thing_72 : decode b_H_thing 72 = .ok (.aload 4, 2) := by decide +kernel
theorem d_H_thing_74 : decode b_H_thing 74 = .ok (.getfield 121, 3) := by decide +kernel
theorem d_H_thing_77 : decode b_H_thing 77 = .ok (.ireturn, 1) := by decide +kernel
theorem d_H_thing_78 : decode b_H_thing 78 = .ok (.aload 4, 2) := by decide +kernel
theorem d_H_thing_80 : decode b_H_thing 80 = .ok (.getfield 153, 3) := by decide +kernel
theorem d_H_thing_83 : decode b_H_thing 83 = .ok (.ireturn, 1) := by decide +kernel
theorem d_H_thing_84 : decode b_H_thing 84 = .ok (.aload 4, 2) := by decide +kernel
theorem d_H_thing_86 : decode b_H_thing 86 = .ok (.getfield 124, 3) := by decide +kernel
theorem d_H_thing_89 : decode b_H_thing 89 = .ok (.ireturn, 1) := by decide +kernel
theorem d_H_thing_90 : decode b_H_thing 90 = .ok (.aload 4, 2) := by decide +kernel
theorem d_H_thing_92 : decode b_H_thing 92 = .ok (.getfield 156, 3) := by decide +kernel
theorem d_H_thing_95 : decode b_H_thing 95 = .ok (.ireturn, 1) := by decide +kernel
theorem d_H_thing_96 : decode b_H_thing 96 = .ok (.new 159, 3) := by decide +kernel
theorem d_H_thing_99 : decode b_H_thing 99 = .ok (.dup, 1) := by decide +kernel
theorem d_H_thing_100 : decode b_H_thing 100 = .ok (.ldc 161, 2) := by decide +kernel
theorem d_H_thing_102 : decode b_H_thing 102 = .ok (.invokespecial 163, 3) := by decide +kernel
theorem d_H_thing_105 : decode b_H_thing 105 = .ok (.athrow, 1) := by decide +kernel
def pp_H_thing (g : Nat → ClassId) (e0 : Nat → Nat) (K : Int32 → mo_M → Prop) (M : mo_M) (x0 : Nat) (x1 : Int32) (x2 : Int32) (x3 : Int32) : Prop := (mp_is M x0 0 ∧ pp_H_hasThing g e0 (fun r2 M1 => ((r2 = 0 → False) ∧ (¬ (r2 = 0) → mp_gr M1 x0 0 1 (fun v3 => (mp_is M1 v3 5 ∧ pp_A_get g e0 (fun r5 M4 => (mp_is M4 r5 2 ∧ mp_gr M4 r5 2 3 (fun v6 => (mp_is M4 v6 5 ∧ pp_A_get g e0 (fun r8 M7 => (mp_is M7 r8 3 ∧ (((x3.toInt < 0 ∨ 3 < x3.toInt) → False) ∧ (x3 = 0 → mp_gi M7 r8 3 0 (fun v9 => K v9 M7)) ∧ (x3 = 1 → mp_gi M7 r8 3 1 (fun v10 => K v10 M7)) ∧ (x3 = 2 → mp_gi M7 r8 3 2 (fun v11 => K v11 M7)) ∧ (x3 = 3 → mp_gi M7 r8 3 3 (fun v12 => K v12 M7))))) M4 v6 x2)))) M1 v3 x1))))) M x0 x1 x2)
set_option maxHeartbeats 4000000 in
set_option maxRecDepth 100000 in
theorem cc_H_thing (l : Launch) (L0 : Nat) (D : va_G) {g : Nat → ClassId} {e0 : Nat → Nat} {K : Int32 → mo_M → Prop} {M : mo_M} {x0 : Nat} {x1 : Int32} {x2 : Int32} {x3 : Int32} (hP : pp_H_thing g e0 K M x0 x1 x2 x3) : Met l y_H_thing ws_H_thing (mo_R 4 0 0 86) (va_Pc [.ref x0, .int x1, .int x2, .int x3] (fun U => mo_B L0 e0 D vwCl (mo_T g) M U)) (mo_Qi L0 e0 D vwCl (mo_T g) K) 0 0 (fun q => L0 ≤ q) := by
  refine Met.ofW (cc := b_H_thing) (maxL := 5) (ret := (Option.some Jvm.ClassFile.FieldType.int)) (by decide +kernel) rfl ?_
  intro p e s m args below meth c s₁ B hml hv
  obtain ⟨hv1, hB0⟩ := hv
  have hx := B.exec
  have hb := B.bytes
  have hr := B.returns
  have hts : ∀ w ∈ lw_g, w.before args s = true := fun w hw => atoms_spec (ws := ws_H_thing) B.pre w (List.mem_cons_of_mem _ hw)
  have hown : s.vm.findClass "PurseHouse" = some m.cls := findClass_of_methodNamed B.named
  have hlocks := B.notSynchronized
  have hok : mo_ok L0 e0 D vwCl (mo_T g) s M s.heap [] := ⟨hB0.1, hB0.2.1, hB0.2.2, va_S.rf⟩
  have hl := lv_entry ([.ref x0, .int x1, .int x2, .int x3]) (n := 5) (Nat.le_of_ble_eq_true rfl)
  rw [hv1, lg_entry_eq]
  rw [← hv1]
  generalize (lg_sl [.ref x0, .int x1, .int x2, .int x3] ++ List.replicate (5 - (lg_sl [.ref x0, .int x1, .int x2, .int x3]).length) Slot.unset).toArray = ls at hl ⊢
  have hl : lv_has ls 5 [(0, .ref x0), (1, .int x1), (2, .int x2), (3, .int x3)] := hl
  unfold pp_H_thing at hP
  refine lv_aload_n hx hb d_H_thing_0 rfl (lv_at hl 0 rfl) ?_
  refine lv_iload_n hx hb d_H_thing_1 rfl (lv_at hl 1 rfl) ?_
  refine lv_iload_n hx hb d_H_thing_2 rfl (lv_at hl 2 rfl) ?_
  obtain ⟨⟨fs9, he9⟩, hP⟩ := hP
  refine mo_calli hok (va_runV (As := [.int x1, .int x2]) (rest := []) ⟨hx, hb, hml, hown, hts⟩ (cc_H_hasThing l L0 D hP) ⟨(callB_of 2 hts (lw_gi wd_373) rfl rfl rfl (hts _ wd_33) (hts _ wd_370) (by decide +kernel) ⟨Nat.le_of_ble_eq_true rfl, Nat.le_of_ble_eq_true rfl⟩), hts _ wd_372, hts _ wd_6⟩ (mo_preV hok he9 rfl [.int x1, .int x2]) rfl rfl hl.1 rfl (lv_room (Nat.le_of_ble_eq_true rfl)) d_H_thing_3 ⟨Nat.zero_le _, Nat.zero_le _⟩) (fun r2 M1 H locs hP hok => ?_)
  refine lv_if_ne (tgt := 19) hx hb d_H_thing_6 (by decide) (fun hc => ?_) (fun hc => ?_)
  · replace hP := hP.2 hc
    refine lv_aload_n hx hb d_H_thing_19 rfl (lv_at hl 0 rfl) ?_
    refine mr_gr (C := "PurseHouse") (T := F_0) (N := 5) (ref := "PurseHouse") hx hb hts hown hok hP ui_0 rfl (by decide) (hts _ wd_142) (fun _ h => h) d_H_thing_20 (fun v3 hP => ?_)
    refine lv_iload_n hx hb d_H_thing_23 rfl (lv_at hl 1 rfl) ?_
    obtain ⟨⟨fs9, he9⟩, hP⟩ := hP
    refine mo_callr hok (va_runV (As := [.int x1]) (rest := []) ⟨hx, hb, hml, hown, hts⟩ (cc_A_get l L0 D hP) ⟨(callB_of 1 hts (lw_gi wd_313) rfl rfl rfl (hts _ wd_36) (hts _ wd_310) (by decide +kernel) ⟨Nat.le_of_ble_eq_true rfl, Nat.le_of_ble_eq_true rfl⟩), hts _ wd_311, hts _ wd_312⟩ (mo_preV hok he9 rfl [.int x1]) rfl rfl hl.1 rfl (lv_room (Nat.le_of_ble_eq_true rfl)) d_H_thing_24 ⟨Nat.zero_le _, Nat.zero_le _⟩) (fun r5 M4 H locs hP hok => ?_)
    obtain ⟨his, hP⟩ := hP
    refine mr_cast (C := "PurseHouse$Link") (T := F_2) (N := 6) hx hb hown hok his rfl (hts _ wd_172) d_H_thing_27 ?_
    refine mr_gr (C := "PurseHouse$Link") (T := F_2) (N := 6) (ref := "PurseHouse$Link") hx hb hts hown hok hP ui_2 rfl (by decide) (hts _ wd_188) (fun _ h => h) d_H_thing_30 (fun v6 hP => ?_)
    refine lv_iload_n hx hb d_H_thing_33 rfl (lv_at hl 2 rfl) ?_
    obtain ⟨⟨fs9, he9⟩, hP⟩ := hP
    refine mo_callr hok (va_runV (As := [.int x2]) (rest := []) ⟨hx, hb, hml, hown, hts⟩ (cc_A_get l L0 D hP) ⟨(callB_of 1 hts (lw_gi wd_313) rfl rfl rfl (hts _ wd_36) (hts _ wd_310) (by decide +kernel) ⟨Nat.le_of_ble_eq_true rfl, Nat.le_of_ble_eq_true rfl⟩), hts _ wd_311, hts _ wd_312⟩ (mo_preV hok he9 rfl [.int x2]) rfl rfl hl.1 rfl (lv_room (Nat.le_of_ble_eq_true rfl)) d_H_thing_34 ⟨Nat.zero_le _, Nat.zero_le _⟩) (fun r8 M7 H locs hP hok => ?_)
    obtain ⟨his, hP⟩ := hP
    refine mr_cast (C := "PurseHouse$Thing") (T := F_3) (N := 4) hx hb hown hok his rfl (hts _ wd_383) d_H_thing_37 ?_
    refine lv_astore (lv' := [(4, .ref r8), (0, .ref x0), (1, .int x1), (2, .int x2), (3, .int x3)]) hx hb d_H_thing_40 hl (by decide) rfl (fun ls hl => ?_)
    refine lv_iload_n hx hb d_H_thing_42 rfl (lv_at hl 4 rfl) ?_
    by_cases hsw : x3.toInt < 0 ∨ 3 < x3.toInt
    · replace hP := hP.1 hsw
      refine lv_tableOut (tgt := 96) hx hb d_H_thing_43 hsw (by decide) ?_
      exact hP.elim
    · replace hP := hP.2
      have hsw1 : ¬ x3.toInt < 0 := fun h => hsw (Or.inl h)
      have hsw2 : ¬ 3 < x3.toInt := fun h => hsw (Or.inr h)
      obtain ⟨ksw, hks, hke⟩ := mo_swE (hi := 3) hsw1 hsw2
      have hks : ksw = 0 ∨ ksw = 1 ∨ ksw = 2 ∨ ksw = 3 := by omega
      rcases hks with rfl | rfl | rfl | rfl
      · have hP := hP.1 hke
        refine lv_tableIn (tgt := 72) hx hb d_H_thing_43 hsw1 hsw2 (by rw [hke]; rfl) (by decide) ?_
        refine lv_aload hx hb d_H_thing_72 (lv_at hl 0 rfl) ?_
        refine mr_gi (C := "PurseHouse$Thing") (T := F_3) (N := 4) (ref := "PurseHouse$Thing") hx hb hts hown hok hP ui_3 rfl (by decide) (hts _ wd_346) (fun _ h => h) d_H_thing_74 (fun v9 hP => ?_)
        exact mo_iret hx hb hr hlocks hok hP d_H_thing_77
      · have hP := hP.2.1 hke
        refine lv_tableIn (tgt := 78) hx hb d_H_thing_43 hsw1 hsw2 (by rw [hke]; rfl) (by decide) ?_
        refine lv_aload hx hb d_H_thing_78 (lv_at hl 0 rfl) ?_
        refine mr_gi (C := "PurseHouse$Thing") (T := F_3) (N := 4) (ref := "PurseHouse$Thing") hx hb hts hown hok hP ui_3 rfl (by decide) (hts _ wd_349) (fun _ h => h) d_H_thing_80 (fun v10 hP => ?_)
        exact mo_iret hx hb hr hlocks hok hP d_H_thing_83
      · have hP := hP.2.2.1 hke
        refine lv_tableIn (tgt := 84) hx hb d_H_thing_43 hsw1 hsw2 (by rw [hke]; rfl) (by decide) ?_
        refine lv_aload hx hb d_H_thing_84 (lv_at hl 0 rfl) ?_
        refine mr_gi (C := "PurseHouse$Thing") (T := F_3) (N := 4) (ref := "PurseHouse$Thing") hx hb hts hown hok hP ui_3 rfl (by decide) (hts _ wd_352) (fun _ h => h) d_H_thing_86 (fun v11 hP => ?_)
        exact mo_iret hx hb hr hlocks hok hP d_H_thing_89
      · have hP := hP.2.2.2 hke
        refine lv_tableIn (tgt := 90) hx hb d_H_thing_43 hsw1 hsw2 (by rw [hke]; rfl) (by decide) ?_
        refine lv_aload hx hb d_H_thing_90 (lv_at hl 0 rfl) ?_
        refine mr_gi (C := "PurseHouse$Thing") (T := F_3) (N := 4) (ref := "PurseHouse$Thing") hx hb hts hown hok hP ui_3 rfl (by decide) (hts _ wd_355) (fun _ h => h) d_H_thing_92 (fun v12 hP => ?_)
        exact mo_iret hx hb hr hlocks hok hP d_H_thing_95
  · replace hP := hP.1 hc
    exact hP.elim

def pq_H_thing (g : Nat → ClassId) (e0 : Nat → Nat) (K : Nat → mo_M → Prop) (M : mo_M) (x0 : Nat) (x1 : Int32) (x2 : Int32) (x3 : Int32) : Prop := (mp_is M x0 0 ∧ pp_H_hasThing g e0 (fun r2 M1 => ((r2 = 0 → K 1 M1) ∧ (¬ (r2 = 0) → mp_gr M1 x0 0 1 (fun v3 => (mp_is M1 v3 5 ∧ pp_A_get g e0 (fun r5 M4 => (mp_is M4 r5 2 ∧ mp_gr M4 r5 2 3 (fun v6 => (mp_is M4 v6 5 ∧ pp_A_get g e0 (fun r8 M7 => (mp_is M7 r8 3 ∧ (((x3.toInt < 0 ∨ 3 < x3.toInt) → K 2 M7) ∧ (x3 = 0 → False) ∧ (x3 = 1 → False) ∧ (x3 = 2 → False) ∧ (x3 = 3 → False)))) M4 v6 x2)))) M1 v3 x1))))) M x0 x1 x2)
set_option maxHeartbeats 4000000 in
set_option maxRecDepth 100000 in
theorem ct_H_thing (l : Launch) (hfl : l.flags = pinnedFlags ++ [noTraceFlag]) (L0 : Nat) (D : va_G) {g : Nat → ClassId} {e0 : Nat → Nat} {K : Nat → mo_M → Prop} {M : mo_M} {x0 : Nat} {x1 : Int32} {x2 : Int32} {x3 : Int32} (hP : pq_H_thing g e0 K M x0 x1 x2 x3) : MetT l y_H_thing ws_H_thing (mo_R 6 1 6 100) (va_Pc [.ref x0, .int x1, .int x2, .int x3] (fun U => mo_B L0 e0 D vwCl (mo_T g) M U ∧ tq L0 U)) (tx_Q L0 e0 D vwCl (mo_T g) K) 1 6 (fun q => L0 ≤ q) := by
  refine tx_ofW (cc := b_H_thing) (maxL := 5) (ret := (Option.some Jvm.ClassFile.FieldType.int)) (by decide +kernel) rfl ?_
  intro p e s m args below meth c s₁ B hml hv
  obtain ⟨hv1, hB0, hq⟩ := hv
  obtain ⟨-, -, ⟨a148, hv148⟩, ⟨a161, hv161⟩, ⟨a176, hv176⟩, ⟨a185, hv185⟩, ⟨a193, hv193⟩, -⟩ := id hq
  have hxt := BodyLoose.noHandlers B (atoms_spec (ws := ws_H_thing) B.pre _ List.mem_cons_self)
  have htr := Launch.traces_off hfl B.admits
  have hx := B.exec
  have hb := B.bytes
  have hr := B.returns
  have hts : ∀ w ∈ lw_g, w.before args s = true := fun w hw => atoms_spec (ws := ws_H_thing) B.pre w (List.mem_cons_of_mem _ hw)
  have hown : s.vm.findClass "PurseHouse" = some m.cls := findClass_of_methodNamed B.named
  have hlocks := B.notSynchronized
  have hok : mo_ok L0 e0 D vwCl (mo_T g) s M s.heap [] := ⟨hB0.1, hB0.2.1, hB0.2.2, va_S.rf⟩
  have hl := lv_entry ([.ref x0, .int x1, .int x2, .int x3]) (n := 5) (Nat.le_of_ble_eq_true rfl)
  rw [hv1, lg_entry_eq]
  rw [← hv1]
  generalize (lg_sl [.ref x0, .int x1, .int x2, .int x3] ++ List.replicate (5 - (lg_sl [.ref x0, .int x1, .int x2, .int x3]).length) Slot.unset).toArray = ls at hl ⊢
  have hl : lv_has ls 5 [(0, .ref x0), (1, .int x1), (2, .int x2), (3, .int x3)] := hl
  unfold pq_H_thing at hP
  refine lv_aload_n hx hb d_H_thing_0 rfl (lv_at hl 0 rfl) ?_
  refine lv_iload_n hx hb d_H_thing_1 rfl (lv_at hl 1 rfl) ?_
  refine lv_iload_n hx hb d_H_thing_2 rfl (lv_at hl 2 rfl) ?_
  obtain ⟨⟨fs9, he9⟩, hP⟩ := hP
  refine mo_calli hok (va_runV (As := [.int x1, .int x2]) (rest := []) ⟨hx, hb, hml, hown, hts⟩ (cc_H_hasThing l L0 D hP) ⟨(callB_of 2 hts (lw_gi wd_373) rfl rfl rfl (hts _ wd_33) (hts _ wd_370) (by decide +kernel) ⟨Nat.le_of_ble_eq_true rfl, Nat.le_of_ble_eq_true rfl⟩), hts _ wd_372, hts _ wd_6⟩ (mo_preV hok he9 rfl [.int x1, .int x2]) rfl rfl hl.1 rfl (lv_room (Nat.le_of_ble_eq_true rfl)) d_H_thing_3 ⟨Nat.zero_le _, Nat.zero_le _⟩) (fun r2 M1 H locs hP hok => ?_)
  refine lv_if_ne (tgt := 19) hx hb d_H_thing_6 (by decide) (fun hc => ?_) (fun hc => ?_)
  · replace hP := hP.2 hc
    refine lv_aload_n hx hb d_H_thing_19 rfl (lv_at hl 0 rfl) ?_
    refine mr_gr (C := "PurseHouse") (T := F_0) (N := 5) (ref := "PurseHouse") hx hb hts hown hok hP ui_0 rfl (by decide) (hts _ wd_142) (fun _ h => h) d_H_thing_20 (fun v3 hP => ?_)
    refine lv_iload_n hx hb d_H_thing_23 rfl (lv_at hl 1 rfl) ?_
    obtain ⟨⟨fs9, he9⟩, hP⟩ := hP
    refine mo_callr hok (va_runV (As := [.int x1]) (rest := []) ⟨hx, hb, hml, hown, hts⟩ (cc_A_get l L0 D hP) ⟨(callB_of 1 hts (lw_gi wd_313) rfl rfl rfl (hts _ wd_36) (hts _ wd_310) (by decide +kernel) ⟨Nat.le_of_ble_eq_true rfl, Nat.le_of_ble_eq_true rfl⟩), hts _ wd_311, hts _ wd_312⟩ (mo_preV hok he9 rfl [.int x1]) rfl rfl hl.1 rfl (lv_room (Nat.le_of_ble_eq_true rfl)) d_H_thing_24 ⟨Nat.zero_le _, Nat.zero_le _⟩) (fun r5 M4 H locs hP hok => ?_)
    obtain ⟨his, hP⟩ := hP
    refine mr_cast (C := "PurseHouse$Link") (T := F_2) (N := 6) hx hb hown hok his rfl (hts _ wd_172) d_H_thing_27 ?_
    refine mr_gr (C := "PurseHouse$Link") (T := F_2) (N := 6) (ref := "PurseHouse$Link") hx hb hts hown hok hP ui_2 rfl (by decide) (hts _ wd_188) (fun _ h => h) d_H_thing_30 (fun v6 hP => ?_)
    refine lv_iload_n hx hb d_H_thing_33 rfl (lv_at hl 2 rfl) ?_
    obtain ⟨⟨fs9, he9⟩, hP⟩ := hP
    refine mo_callr hok (va_runV (As := [.int x2]) (rest := []) ⟨hx, hb, hml, hown, hts⟩ (cc_A_get l L0 D hP) ⟨(callB_of 1 hts (lw_gi wd_313) rfl rfl rfl (hts _ wd_36) (hts _ wd_310) (by decide +kernel) ⟨Nat.le_of_ble_eq_true rfl, Nat.le_of_ble_eq_true rfl⟩), hts _ wd_311, hts _ wd_312⟩ (mo_preV hok he9 rfl [.int x2]) rfl rfl hl.1 rfl (lv_room (Nat.le_of_ble_eq_true rfl)) d_H_thing_34 ⟨Nat.zero_le _, Nat.zero_le _⟩) (fun r8 M7 H locs hP hok => ?_)
    obtain ⟨his, hP⟩ := hP
    refine mr_cast (C := "PurseHouse$Thing") (T := F_3) (N := 4) hx hb hown hok his rfl (hts _ wd_383) d_H_thing_37 ?_
    refine lv_astore (lv' := [(4, .ref r8), (0, .ref x0), (1, .int x1), (2, .int x2), (3, .int x3)]) hx hb d_H_thing_40 hl (by decide) rfl (fun ls hl => ?_)
    refine lv_iload_n hx hb d_H_thing_42 rfl (lv_at hl 4 rfl) ?_
    by_cases hsw : x3.toInt < 0 ∨ 3 < x3.toInt
    · replace hP := hP.1 hsw
      refine lv_tableOut (tgt := 96) hx hb d_H_thing_43 hsw (by decide) ?_
      exact tx_iae hx hb hml hts hown hlocks hxt htr hok hq hP hl.1 hv161 ⟨Nat.le_of_ble_eq_true rfl, Nat.le_of_ble_eq_true rfl, Nat.le_of_ble_eq_true rfl, Nat.le_of_ble_eq_true rfl⟩ d_H_thing_96 d_H_thing_99 d_H_thing_100 d_H_thing_102 d_H_thing_105
    · replace hP := hP.2
      have hsw1 : ¬ x3.toInt < 0 := fun h => hsw (Or.inl h)
      have hsw2 : ¬ 3 < x3.toInt := fun h => hsw (Or.inr h)
      obtain ⟨ksw, hks, hke⟩ := mo_swE (hi := 3) hsw1 hsw2
      have hks : ksw = 0 ∨ ksw = 1 ∨ ksw = 2 ∨ ksw = 3 := by omega
      rcases hks with rfl | rfl | rfl | rfl
      · have hP := hP.1 hke
        refine lv_tableIn (tgt := 72) hx hb d_H_thing_43 hsw1 hsw2 (by rw [hke]; rfl) (by decide) ?_
        exact hP.elim
      · have hP := hP.2.1 hke
        refine lv_tableIn (tgt := 78) hx hb d_H_thing_43 hsw1 hsw2 (by rw [hke]; rfl) (by decide) ?_
        exact hP.elim
      · have hP := hP.2.2.1 hke
        refine lv_tableIn (tgt := 84) hx hb d_H_thing_43 hsw1 hsw2 (by rw [hke]; rfl) (by decide) ?_
        exact hP.elim
      · have hP := hP.2.2.2 hke
        refine lv_tableIn (tgt := 90) hx hb d_H_thing_43 hsw1 hsw2 (by rw [hke]; rfl) (by decide) ?_
        exact hP.elim
  · replace hP := hP.1 hc
    exact tx_nse hx hb hml hts hown hlocks hxt htr hok hq hP hl.1 hv148 ⟨Nat.le_of_ble_eq_true rfl, Nat.le_of_ble_eq_true rfl, Nat.le_of_ble_eq_true rfl, Nat.le_of_ble_eq_true rfl⟩ d_H_thing_9 d_H_thing_12 d_H_thing_13 d_H_thing_15 d_H_thing_18

abbrev b_H_piece : ByteArray := prog_1_method_16_code
def y_H_piece : MethodName := ⟨"PurseHouse", "piece", "(IIII)J"⟩
def ws_H_piece : List Cond := .code y_H_piece b_H_piece 5 (Option.some Jvm.ClassFile.FieldType.long) :: lw_g
theorem d_H_piece_0 : decode b_H_piece 0 = .ok (.aload_n 0, 1) := by decide +kernel
theorem d_H_piece_1 : decode b_H_piece 1 = .ok (.iload_n 1, 1) := by decide +kernel
theorem d_H_piece_2 : decode b_H_piece 2 = .ok (.invokevirtual 164, 3) := by decide +kernel
theorem d_H_piece_5 : decode b_H_piece 5 = .ok (.ifCond .eq 31, 3) := by decide +kernel
theorem d_H_piece_8 : decode b_H_piece 8 = .ok (.aload_n 0, 1) := by decide +kernel
theorem d_H_piece_9 : decode b_H_piece 9 = .ok (.iload_n 2, 1) := by decide +kernel
theorem d_H_piece_10 : decode b_H_piece 10 = .ok (.invokevirtual 44, 3) := by decide +kernel
theorem d_H_piece_13 : decode b_H_piece 13 = .ok (.ifCond .eq 23, 3) := by decide +kernel
theorem d_H_piece_16 : decode b_H_piece 16 = .ok (.iload_n 3, 1) := by decide +kernel
theorem d_H_piece_17 : decode b_H_piece 17 = .ok (.invokestatic 61, 3) := by decide +kernel
theorem d_H_piece_20 : decode b_H_piece 20 = .ok (.ifCond .eq 16, 3) := by decide +kernel
theorem d_H_piece_23 : decode b_H_piece 23 = .ok (.aload_n 0, 1) := by decide +kernel
theorem d_H_piece_24 : decode b_H_piece 24 = .ok (.getfield 39, 3) := by decide +kernel
theorem d_H_piece_27 : decode b_H_piece 27 = .ok (.iload_n 2, 1) := by decide +kernel
theorem d_H_piece_28 : decode b_H_piece 28 = .ok (.aaload, 1) := by decide +kernel
theorem d_H_piece_29 : decode b_H_piece 29 = .ok (.iload_n 1, 1) := by decide +kernel
theorem d_H_piece_30 : decode b_H_piece 30 = .ok (.invokevirtual 167, 3) := by decide +kernel
theorem d_H_piece_33 : decode b_H_piece 33 = .ok (.ifCond .ne 13, 3) := by decide +kernel
theorem d_H_piece_36 : decode b_H_piece 36 = .ok (.new 146, 3) := by decide +kernel
theorem d_H_piece_39 : decode b_H_piece 39 = .ok (.dup, 1) := by decide +kernel
theorem d_H_piece_40 : decode b_H_piece 40 = .ok (.ldc 176, 2) := by decide +kernel
theorem d_H_piece_42 : decode b_H_piece 42 = .ok (.invokespecial 150, 3) := by decide +kernel
theorem d_H_piece_45 : decode b_H_piece 45 = .ok (.athrow, 1) := by decide +kernel
theorem d_H_piece_46 : decode b_H_piece 46 = .ok (.iload 4, 2) := by decide +kernel
theorem d_H_piece_48 : decode b_H_piece 48 = .ok (.lookupswitch 56 #[(0, 28), (1, 42)], 28) := by decide +kernel
theorem d_H_piece_76 : decode b_H_piece 76 = .ok (.aload_n 0, 1) := by decide +kernel
theorem d_H_piece_77 : decode b_H_piece 77 = .ok (.getfield 39, 3) := by decide +kernel
theorem d_H_piece_80 : decode b_H_piece 80 = .ok (.iload_n 2, 1) := by decide +kernel
theorem d_H_piece_81 : decode b_H_piece 81 = .ok (.aaload, 1) := by decide +kernel
theorem d_H_piece_82 : decode b_H_piece 82 = .ok (.getfield 178, 3) := by decide +kernel
theorem d_H_piece_85 : decode b_H_piece 85 = .ok (.iload_n 1, 1) := by decide +kernel
theorem d_H_piece_86 : decode b_H_piece 86 = .ok (.aaload, 1) := by decide +kernel
theorem d_H_piece_87 : decode b_H_piece 87 = .ok (.iload_n 3, 1) := by decide +kernel
theorem d_H_piece_88 : decode b_H_piece 88 = .ok (.laload, 1) := by decide +kernel
theorem d_H_piece_89 : decode b_H_piece 89 = .ok (.lreturn, 1) := by decide +kernel
theorem d_H_piece_90 : decode b_H_piece 90 = .ok (.aload_n 0, 1) := by decide +kernel
theorem d_H_piece_91 : decode b_H_piece 91 = .ok (.getfield 39, 3) := by decide +kernel
theorem d_H_piece_94 : decode b_H_piece 94 = .ok (.iload_n 2, 1) := by decide +kernel
theorem d_H_piece_95 : decode b_H_piece 95 = .ok (.aaload, 1) := by decide +kernel
theorem d_H_piece_96 : decode b_H_piece 96 = .ok (.getfield 182, 3) := by decide +kernel
theorem d_H_piece_99 : decode b_H_piece 99 = .ok (.iload_n 1, 1) := by decide +kernel
theorem d_H_piece_100 : decode b_H_piece 100 = .ok (.aaload, 1) := by decide +kernel
theorem d_H_piece_101 : decode b_H_piece 101 = .ok (.iload_n 3, 1) := by decide +kernel
theorem d_H_piece_102 : decode b_H_piece 102 = .ok (.laload, 1) := by decide +kernel
theorem d_H_piece_103 : decode b_H_piece 103 = .ok (.lreturn, 1) := by decide +kernel
theorem d_H_piece_104 : decode b_H_piece 104 = .ok (.new 159, 3) := by decide +kernel
theorem d_H_piece_107 : decode b_H_piece 107 = .ok (.dup, 1) := by decide +kernel
theorem d_H_piece_108 : decode b_H_piece 108 = .ok (.ldc 185, 2) := by decide +kernel
theorem d_H_piece_110 : decode b_H_piece 110 = .ok (.invokespecial 163, 3) := by decide +kernel
theorem d_H_piece_113 : decode b_H_piece 113 = .ok (.athrow, 1) := by decide +kernel
def pp_H_piece_b36 (g : Nat → ClassId) (e0 : Nat → Nat) (K : Int64 → mo_M → Prop) (M : mo_M) : Prop := False
def pp_H_piece (g : Nat → ClassId) (e0 : Nat → Nat) (K : Int64 → mo_M → Prop) (M : mo_M) (x0 : Nat) (x1 : Int32) (x2 : Int32) (x3 : Int32) (x4 : Int32) : Prop := (mp_is M x0 0 ∧ pp_H_hasNumber g e0 (fun r2 M1 => ((r2 = 0 → pp_H_piece_b36 g e0 K M1) ∧ (¬ (r2 = 0) → (mp_is M1 x0 0 ∧ pp_H_hasKiosk g e0 (fun r4 M3 => ((r4 = 0 → pp_H_piece_b36 g e0 K M3) ∧ (¬ (r4 = 0) → pp_H_hasCurrency g e0 (fun r6 M5 => ((r6 = 0 → pp_H_piece_b36 g e0 K M5) ∧ (¬ (r6 = 0) → mp_gr M5 x0 0 0 (fun v7 => mp_ar (g 3) M5 v7 x2 (fun v8 => (mp_is M5 v8 1 ∧ pp_K_hasMark g e0 (fun r10 M9 => ((r10 = 0 → pp_H_piece_b36 g e0 K M9) ∧ (¬ (r10 = 0) → ((x4 = 0 → mp_gr M9 x0 0 0 (fun v11 => mp_ar (g 3) M9 v11 x2 (fun v12 => mp_gr M9 v12 1 5 (fun v13 => mp_ar (g 4) M9 v13 x1 (fun v14 => mp_al (g 1) M9 v14 x3 (fun v15 => K v15 M9)))))) ∧ (x4 = 1 → mp_gr M9 x0 0 0 (fun v16 => mp_ar (g 3) M9 v16 x2 (fun v17 => mp_gr M9 v17 1 6 (fun v18 => mp_ar (g 4) M9 v18 x1 (fun v19 => mp_al (g 1) M9 v19 x3 (fun v20 => K v20 M9)))))) ∧ (¬ x4 = 0 → ¬ x4 = 1 → False))))) M5 v8 x1)))))) M3 x3))) M1 x0 x2)))) M x0 x1)
set_option maxHeartbeats 4000000 in
set_option maxRecDepth 100000 in
theorem cc_H_piece (l : Launch) (L0 : Nat) (D : va_G) {g : Nat → ClassId} {e0 : Nat → Nat} {K : Int64 → mo_M → Prop} {M : mo_M} {x0 : Nat} {x1 : Int32} {x2 : Int32} {x3 : Int32} {x4 : Int32} (hP : pp_H_piece g e0 K M x0 x1 x2 x3 x4) : Met l y_H_piece ws_H_piece (mo_R 2 0 0 43) (va_Pc [.ref x0, .int x1, .int x2, .int x3, .int x4] (fun U => mo_B L0 e0 D vwCl (mo_T g) M U)) (mo_Ql L0 e0 D vwCl (mo_T g) K) 0 0 (fun q => L0 ≤ q) := by
  refine Met.ofW (cc := b_H_piece) (maxL := 5) (ret := (Option.some Jvm.ClassFile.FieldType.long)) (by decide +kernel) rfl ?_
  intro p e s m args below meth c s₁ B hml hv
  obtain ⟨hv1, hB0⟩ := hv
  have hx := B.exec
  have hb := B.bytes
  have hr := B.returns
  have hts : ∀ w ∈ lw_g, w.before args s = true := fun w hw => atoms_spec (ws := ws_H_piece) B.pre w (List.mem_cons_of_mem _ hw)
  have hown : s.vm.findClass "PurseHouse" = some m.cls := findClass_of_methodNamed B.named
  have hlocks := B.notSynchronized
  have w_36 : ∀ (M : mo_M) (H : Heap) (locs : List Loc) (ls : Array Slot), pp_H_piece_b36 g e0 K M → mo_ok L0 e0 D vwCl (mo_T g) s M H locs → lv_has ls 5 [] → W p l e (headSpec ws_H_piece (mo_R 2 0 0 43)).room s m args below meth c H locs 0 0 (mo_Z below (mo_Ql L0 e0 D vwCl (mo_T g) K) args s 0 0 L0) (F0 m 36 ls []) := by
    intro M H locs ls hP hok hl
    unfold pp_H_piece_b36 at hP
    exact hP.elim
  have hok : mo_ok L0 e0 D vwCl (mo_T g) s M s.heap [] := ⟨hB0.1, hB0.2.1, hB0.2.2, va_S.rf⟩
  have hl := lv_entry ([.ref x0, .int x1, .int x2, .int x3, .int x4]) (n := 5) (Nat.le_of_ble_eq_true rfl)
  rw [hv1, lg_entry_eq]
  rw [← hv1]
  generalize (lg_sl [.ref x0, .int x1, .int x2, .int x3, .int x4] ++ List.replicate (5 - (lg_sl [.ref x0, .int x1, .int x2, .int x3, .int x4]).length) Slot.unset).toArray = ls at hl ⊢
  have hl : lv_has ls 5 [(0, .ref x0), (1, .int x1), (2, .int x2), (3, .int x3), (4, .int x4)] := hl
  unfold pp_H_piece at hP
  refine lv_aload_n hx hb d_H_piece_0 rfl (lv_at hl 0 rfl) ?_
  refine lv_iload_n hx hb d_H_piece_1 rfl (lv_at hl 1 rfl) ?_
  obtain ⟨⟨fs9, he9⟩, hP⟩ := hP
  refine mo_calli hok (va_runV (As := [.int x1]) (rest := []) ⟨hx, hb, hml, hown, hts⟩ (cc_H_hasNumber l L0 D hP) ⟨(callB_of 1 hts (lw_gi wd_446) rfl rfl rfl (hts _ wd_33) (hts _ wd_443) (by decide +kernel) ⟨Nat.le_of_ble_eq_true rfl, Nat.le_of_ble_eq_true rfl⟩), hts _ wd_445, hts _ wd_11⟩ (mo_preV hok he9 rfl [.int x1]) rfl rfl hl.1 rfl (lv_room (Nat.le_of_ble_eq_true rfl)) d_H_piece_2 ⟨Nat.zero_le _, Nat.zero_le _⟩) (fun r2 M1 H locs hP hok => ?_)
  refine lv_if_eq (tgt := 36) hx hb d_H_piece_5 (by decide) (fun hc => ?_) (fun hc => ?_)
  · replace hP := hP.1 hc
    exact w_36  _ _ _ _ hP hok (lv_sub hl [] rfl)
  · replace hP := hP.2 hc
    refine lv_aload_n hx hb d_H_piece_8 rfl (lv_at hl 0 rfl) ?_
    refine lv_iload_n hx hb d_H_piece_9 rfl (lv_at hl 2 rfl) ?_
    obtain ⟨⟨fs9, he9⟩, hP⟩ := hP
    refine mo_calli hok (va_runV (As := [.int x2]) (rest := []) ⟨hx, hb, hml, hown, hts⟩ (cc_H_hasKiosk l L0 D hP) ⟨(callB_of 1 hts (lw_gi wd_164) rfl rfl rfl (hts _ wd_33) (hts _ wd_161) (by decide +kernel) ⟨Nat.le_of_ble_eq_true rfl, Nat.le_of_ble_eq_true rfl⟩), hts _ wd_163, hts _ wd_0⟩ (mo_preV hok he9 rfl [.int x2]) rfl rfl hl.1 rfl (lv_room (Nat.le_of_ble_eq_true rfl)) d_H_piece_10 ⟨Nat.zero_le _, Nat.zero_le _⟩) (fun r4 M3 H locs hP hok => ?_)
    refine lv_if_eq (tgt := 36) hx hb d_H_piece_13 (by decide) (fun hc => ?_) (fun hc => ?_)
    · replace hP := hP.1 hc
      exact w_36  _ _ _ _ hP hok (lv_sub hl [] rfl)
    · replace hP := hP.2 hc
      refine lv_iload_n hx hb d_H_piece_16 rfl (lv_at hl 3 rfl) ?_
      refine mo_calli hok (va_runS (As := [.int x3]) (rest := []) ⟨hx, hb, hml, hown, hts⟩ (cc_H_hasCurrency l L0 D hP) ⟨(callB_of 1 hts (lw_gi wd_263) rfl rfl rfl (hts _ wd_33) (hts _ wd_261) (by decide +kernel) ⟨Nat.le_of_ble_eq_true rfl, Nat.le_of_ble_eq_true rfl⟩), hts _ wd_262⟩ (mo_preS hok [.int x3]) rfl rfl hl.1 rfl (lv_room (Nat.le_of_ble_eq_true rfl)) d_H_piece_17 ⟨Nat.zero_le _, Nat.zero_le _⟩) (fun r6 M5 H locs hP hok => ?_)
      refine lv_if_eq (tgt := 36) hx hb d_H_piece_20 (by decide) (fun hc => ?_) (fun hc => ?_)
      · replace hP := hP.1 hc
        exact w_36  _ _ _ _ hP hok (lv_sub hl [] rfl)
      · replace hP := hP.2 hc
        refine lv_aload_n hx hb d_H_piece_23 rfl (lv_at hl 0 rfl) ?_
        refine mr_gr (C := "PurseHouse") (T := F_0) (N := 5) (ref := "PurseHouse") hx hb hts hown hok hP ui_0 rfl (by decide) (hts _ wd_141) (fun _ h => h) d_H_piece_24 (fun v7 hP => ?_)
        refine lv_iload_n hx hb d_H_piece_27 rfl (lv_at hl 2 rfl) ?_
        refine mr_ar hx hb hok hP 3 rfl rfl d_H_piece_28 (fun v8 hP => ?_)
        refine lv_iload_n hx hb d_H_piece_29 rfl (lv_at hl 1 rfl) ?_
        obtain ⟨⟨fs9, he9⟩, hP⟩ := hP
        refine mo_calli hok (va_runV (As := [.int x1]) (rest := []) ⟨hx, hb, hml, hown, hts⟩ (cc_K_hasMark l L0 D hP) ⟨(callB_of 1 hts (lw_gi wd_395) rfl rfl rfl (hts _ wd_38) (hts _ wd_392) (by decide +kernel) ⟨Nat.le_of_ble_eq_true rfl, Nat.le_of_ble_eq_true rfl⟩), hts _ wd_393, hts _ wd_394⟩ (mo_preV hok he9 rfl [.int x1]) rfl rfl hl.1 rfl (lv_room (Nat.le_of_ble_eq_true rfl)) d_H_piece_30 ⟨Nat.zero_le _, Nat.zero_le _⟩) (fun r10 M9 H locs hP hok => ?_)
        refine lv_if_ne (tgt := 46) hx hb d_H_piece_33 (by decide) (fun hc => ?_) (fun hc => ?_)
        · replace hP := hP.2 hc
          refine lv_iload hx hb d_H_piece_46 (lv_at hl 4 rfl) ?_
          by_cases hk0 : x4 = 0
          · replace hP := hP.1 hk0
            refine lv_lookup (tgt := 76) (off := 28) hx hb d_H_piece_48 rfl (by rw [hk0] <;> rfl) (by decide) ?_
            refine lv_aload_n hx hb d_H_piece_76 rfl (lv_at hl 0 rfl) ?_
            refine mr_gr (C := "PurseHouse") (T := F_0) (N := 5) (ref := "PurseHouse") hx hb hts hown hok hP ui_0 rfl (by decide) (hts _ wd_141) (fun _ h => h) d_H_piece_77 (fun v11 hP => ?_)
            refine lv_iload_n hx hb d_H_piece_80 rfl (lv_at hl 2 rfl) ?_
            refine mr_ar hx hb hok hP 3 rfl rfl d_H_piece_81 (fun v12 hP => ?_)
            refine mr_gr (C := "PurseHouse$Kiosk") (T := F_1) (N := 9) (ref := "PurseHouse$Kiosk") hx hb hts hown hok hP ui_1 rfl (by decide) (hts _ wd_113) (fun _ h => h) d_H_piece_82 (fun v13 hP => ?_)
            refine lv_iload_n hx hb d_H_piece_85 rfl (lv_at hl 1 rfl) ?_
            refine mr_ar hx hb hok hP 4 rfl rfl d_H_piece_86 (fun v14 hP => ?_)
            refine lv_iload_n hx hb d_H_piece_87 rfl (lv_at hl 3 rfl) ?_
            refine mr_al hx hb hok hP 1 rfl d_H_piece_88 (fun v15 hP => ?_)
            exact mo_lret hx hb hr hlocks hok hP d_H_piece_89
          by_cases hk1 : x4 = 1
          · replace hP := hP.2.1 hk1
            refine lv_lookup (tgt := 90) (off := 42) hx hb d_H_piece_48 rfl (by rw [hk1] <;> rfl) (by decide) ?_
            refine lv_aload_n hx hb d_H_piece_90 rfl (lv_at hl 0 rfl) ?_
            refine mr_gr (C := "PurseHouse") (T := F_0) (N := 5) (ref := "PurseHouse") hx hb hts hown hok hP ui_0 rfl (by decide) (hts _ wd_141) (fun _ h => h) d_H_piece_91 (fun v16 hP => ?_)
            refine lv_iload_n hx hb d_H_piece_94 rfl (lv_at hl 2 rfl) ?_
            refine mr_ar hx hb hok hP 3 rfl rfl d_H_piece_95 (fun v17 hP => ?_)
            refine mr_gr (C := "PurseHouse$Kiosk") (T := F_1) (N := 9) (ref := "PurseHouse$Kiosk") hx hb hts hown hok hP ui_1 rfl (by decide) (hts _ wd_115) (fun _ h => h) d_H_piece_96 (fun v18 hP => ?_)
            refine lv_iload_n hx hb d_H_piece_99 rfl (lv_at hl 1 rfl) ?_
            refine mr_ar hx hb hok hP 4 rfl rfl d_H_piece_100 (fun v19 hP => ?_)
            refine lv_iload_n hx hb d_H_piece_101 rfl (lv_at hl 3 rfl) ?_
            refine mr_al hx hb hok hP 1 rfl d_H_piece_102 (fun v20 hP => ?_)
            exact mo_lret hx hb hr hlocks hok hP d_H_piece_103
          replace hP := hP.2.2 hk0 hk1
          refine lv_lookup (tgt := 104) (off := 56) hx hb d_H_piece_48 rfl ((lv_osw hk0 rfl).trans ((lv_osw hk1 rfl).trans (rfl))) (by decide) ?_
          exact hP.elim
        · replace hP := hP.1 hc
          exact w_36  _ _ _ _ hP hok (lv_sub hl [] rfl)

def pq_H_piece (g : Nat → ClassId) (e0 : Nat → Nat) (K : Nat → mo_M → Prop) (M : mo_M) (x0 : Nat) (x1 : Int32) (x2 : Int32) (x3 : Int32) (x4 : Int32) : Prop := (mp_is M x0 0 ∧ pp_H_hasNumber g e0 (fun r2 M1 => ((r2 = 0 → K 1 M1) ∧ (¬ (r2 = 0) → (mp_is M1 x0 0 ∧ pp_H_hasKiosk g e0 (fun r4 M3 => ((r4 = 0 → K 1 M3) ∧ (¬ (r4 = 0) → pp_H_hasCurrency g e0 (fun r6 M5 => ((r6 = 0 → K 1 M5) ∧ (¬ (r6 = 0) → mp_gr M5 x0 0 0 (fun v7 => mp_ar (g 3) M5 v7 x2 (fun v8 => (mp_is M5 v8 1 ∧ pp_K_hasMark g e0 (fun r10 M9 => ((r10 = 0 → K 1 M9) ∧ (¬ (r10 = 0) → ((x4 = 0 → False) ∧ (x4 = 1 → False) ∧ (¬ x4 = 0 → ¬ x4 = 1 → K 2 M9))))) M5 v8 x1)))))) M3 x3))) M1 x0 x2)))) M x0 x1)
set_option maxHeartbeats 4000000 in
set_option maxRecDepth 100000 in
theorem ct_H_piece (l : Launch) (hfl : l.flags = pinnedFlags ++ [noTraceFlag]) (L0 : Nat) (D : va_G) {g : Nat → ClassId} {e0 : Nat → Nat} {K : Nat → mo_M → Prop} {M : mo_M} {x0 : Nat} {x1 : Int32} {x2 : Int32} {x3 : Int32} {x4 : Int32} (hP : pq_H_piece g e0 K M x0 x1 x2 x3 x4) : MetT l y_H_piece ws_H_piece (mo_R 6 1 6 100) (va_Pc [.ref x0, .int x1, .int x2, .int x3, .int x4] (fun U => mo_B L0 e0 D vwCl (mo_T g) M U ∧ tq L0 U)) (tx_Q L0 e0 D vwCl (mo_T g) K) 1 6 (fun q => L0 ≤ q) := by
  refine tx_ofW (cc := b_H_piece) (maxL := 5) (ret := (Option.some Jvm.ClassFile.FieldType.long)) (by decide +kernel) rfl ?_
  intro p e s m args below meth c s₁ B hml hv
  obtain ⟨hv1, hB0, hq⟩ := hv
  obtain ⟨-, -, ⟨a148, hv148⟩, ⟨a161, hv161⟩, ⟨a176, hv176⟩, ⟨a185, hv185⟩, ⟨a193, hv193⟩, -⟩ := id hq
  have hxt := BodyLoose.noHandlers B (atoms_spec (ws := ws_H_piece) B.pre _ List.mem_cons_self)
  have htr := Launch.traces_off hfl B.admits
  have hx := B.exec
  have hb := B.bytes
  have hr := B.returns
  have hts : ∀ w ∈ lw_g, w.before args s = true := fun w hw => atoms_spec (ws := ws_H_piece) B.pre w (List.mem_cons_of_mem _ hw)
  have hown : s.vm.findClass "PurseHouse" = some m.cls := findClass_of_methodNamed B.named
  have hlocks := B.notSynchronized
  have hok : mo_ok L0 e0 D vwCl (mo_T g) s M s.heap [] := ⟨hB0.1, hB0.2.1, hB0.2.2, va_S.rf⟩
  have hl := lv_entry ([.ref x0, .int x1, .int x2, .int x3, .int x4]) (n := 5) (Nat.le_of_ble_eq_true rfl)
  rw [hv1, lg_entry_eq]
  rw [← hv1]
  generalize (lg_sl [.ref x0, .int x1, .int x2, .int x3, .int x4] ++ List.replicate (5 - (lg_sl [.ref x0, .int x1, .int x2, .int x3, .int x4]).length) Slot.unset).toArray = ls at hl ⊢
  have hl : lv_has ls 5 [(0, .ref x0), (1, .int x1), (2, .int x2), (3, .int x3), (4, .int x4)] := hl
  unfold pq_H_piece at hP
  refine lv_aload_n hx hb d_H_piece_0 rfl (lv_at hl 0 rfl) ?_
  refine lv_iload_n hx hb d_H_piece_1 rfl (lv_at hl 1 rfl) ?_
  obtain ⟨⟨fs9, he9⟩, hP⟩ := hP
  refine mo_calli hok (va_runV (As := [.int x1]) (rest := []) ⟨hx, hb, hml, hown, hts⟩ (cc_H_hasNumber l L0 D hP) ⟨(callB_of 1 hts (lw_gi wd_446) rfl rfl rfl (hts _ wd_33) (hts _ wd_443) (by decide +kernel) ⟨Nat.le_of_ble_eq_true rfl, Nat.le_of_ble_eq_true rfl⟩), hts _ wd_445, hts _ wd_11⟩ (mo_preV hok he9 rfl [.int x1]) rfl rfl hl.1 rfl (lv_room (Nat.le_of_ble_eq_true rfl)) d_H_piece_2 ⟨Nat.zero_le _, Nat.zero_le _⟩) (fun r2 M1 H locs hP hok => ?_)
  refine lv_if_eq (tgt := 36) hx hb d_H_piece_5 (by decide) (fun hc => ?_) (fun hc => ?_)
  · replace hP := hP.1 hc
    exact tx_nse hx hb hml hts hown hlocks hxt htr hok hq hP hl.1 hv176 ⟨Nat.le_of_ble_eq_true rfl, Nat.le_of_ble_eq_true rfl, Nat.le_of_ble_eq_true rfl, Nat.le_of_ble_eq_true rfl⟩ d_H_piece_36 d_H_piece_39 d_H_piece_40 d_H_piece_42 d_H_piece_45
  · replace hP := hP.2 hc
    refine lv_aload_n hx hb d_H_piece_8 rfl (lv_at hl 0 rfl) ?_
    refine lv_iload_n hx hb d_H_piece_9 rfl (lv_at hl 2 rfl) ?_
    obtain ⟨⟨fs9, he9⟩, hP⟩ := hP
    refine mo_calli hok (va_runV (As := [.int x2]) (rest := []) ⟨hx, hb, hml, hown, hts⟩ (cc_H_hasKiosk l L0 D hP) ⟨(callB_of 1 hts (lw_gi wd_164) rfl rfl rfl (hts _ wd_33) (hts _ wd_161) (by decide +kernel) ⟨Nat.le_of_ble_eq_true rfl, Nat.le_of_ble_eq_true rfl⟩), hts _ wd_163, hts _ wd_0⟩ (mo_preV hok he9 rfl [.int x2]) rfl rfl hl.1 rfl (lv_room (Nat.le_of_ble_eq_true rfl)) d_H_piece_10 ⟨Nat.zero_le _, Nat.zero_le _⟩) (fun r4 M3 H locs hP hok => ?_)
    refine lv_if_eq (tgt := 36) hx hb d_H_piece_13 (by decide) (fun hc => ?_) (fun hc => ?_)
    · replace hP := hP.1 hc
      exact tx_nse hx hb hml hts hown hlocks hxt htr hok hq hP hl.1 hv176 ⟨Nat.le_of_ble_eq_true rfl, Nat.le_of_ble_eq_true rfl, Nat.le_of_ble_eq_true rfl, Nat.le_of_ble_eq_true rfl⟩ d_H_piece_36 d_H_piece_39 d_H_piece_40 d_H_piece_42 d_H_piece_45
    · replace hP := hP.2 hc
      refine lv_iload_n hx hb d_H_piece_16 rfl (lv_at hl 3 rfl) ?_
      refine mo_calli hok (va_runS (As := [.int x3]) (rest := []) ⟨hx, hb, hml, hown, hts⟩ (cc_H_hasCurrency l L0 D hP) ⟨(callB_of 1 hts (lw_gi wd_263) rfl rfl rfl (hts _ wd_33) (hts _ wd_261) (by decide +kernel) ⟨Nat.le_of_ble_eq_true rfl, Nat.le_of_ble_eq_true rfl⟩), hts _ wd_262⟩ (mo_preS hok [.int x3]) rfl rfl hl.1 rfl (lv_room (Nat.le_of_ble_eq_true rfl)) d_H_piece_17 ⟨Nat.zero_le _, Nat.zero_le _⟩) (fun r6 M5 H locs hP hok => ?_)
      refine lv_if_eq (tgt := 36) hx hb d_H_piece_20 (by decide) (fun hc => ?_) (fun hc => ?_)
      · replace hP := hP.1 hc
        exact tx_nse hx hb hml hts hown hlocks hxt htr hok hq hP hl.1 hv176 ⟨Nat.le_of_ble_eq_true rfl, Nat.le_of_ble_eq_true rfl, Nat.le_of_ble_eq_true rfl, Nat.le_of_ble_eq_true rfl⟩ d_H_piece_36 d_H_piece_39 d_H_piece_40 d_H_piece_42 d_H_piece_45
      · replace hP := hP.2 hc
        refine lv_aload_n hx hb d_H_piece_23 rfl (lv_at hl 0 rfl) ?_
        refine mr_gr (C := "PurseHouse") (T := F_0) (N := 5) (ref := "PurseHouse") hx hb hts hown hok hP ui_0 rfl (by decide) (hts _ wd_141) (fun _ h => h) d_H_piece_24 (fun v7 hP => ?_)
        refine lv_iload_n hx hb d_H_piece_27 rfl (lv_at hl 2 rfl) ?_
        refine mr_ar hx hb hok hP 3 rfl rfl d_H_piece_28 (fun v8 hP => ?_)
        refine lv_iload_n hx hb d_H_piece_29 rfl (lv_at hl 1 rfl) ?_
        obtain ⟨⟨fs9, he9⟩, hP⟩ := hP
        refine mo_calli hok (va_runV (As := [.int x1]) (rest := []) ⟨hx, hb, hml, hown, hts⟩ (cc_K_hasMark l L0 D hP) ⟨(callB_of 1 hts (lw_gi wd_395) rfl rfl rfl (hts _ wd_38) (hts _ wd_392) (by decide +kernel) ⟨Nat.le_of_ble_eq_true rfl, Nat.le_of_ble_eq_true rfl⟩), hts _ wd_393, hts _ wd_394⟩ (mo_preV hok he9 rfl [.int x1]) rfl rfl hl.1 rfl (lv_room (Nat.le_of_ble_eq_true rfl)) d_H_piece_30 ⟨Nat.zero_le _, Nat.zero_le _⟩) (fun r10 M9 H locs hP hok => ?_)
        refine lv_if_ne (tgt := 46) hx hb d_H_piece_33 (by decide) (fun hc => ?_) (fun hc => ?_)
        · replace hP := hP.2 hc
          refine lv_iload hx hb d_H_piece_46 (lv_at hl 4 rfl) ?_
          by_cases hk0 : x4 = 0
          · replace hP := hP.1 hk0
            refine lv_lookup (tgt := 76) (off := 28) hx hb d_H_piece_48 rfl (by rw [hk0] <;> rfl) (by decide) ?_
            exact hP.elim
          by_cases hk1 : x4 = 1
          · replace hP := hP.2.1 hk1
            refine lv_lookup (tgt := 90) (off := 42) hx hb d_H_piece_48 rfl (by rw [hk1] <;> rfl) (by decide) ?_
            exact hP.elim
          replace hP := hP.2.2 hk0 hk1
          refine lv_lookup (tgt := 104) (off := 56) hx hb d_H_piece_48 rfl ((lv_osw hk0 rfl).trans ((lv_osw hk1 rfl).trans (rfl))) (by decide) ?_
          exact tx_iae hx hb hml hts hown hlocks hxt htr hok hq hP hl.1 hv185 ⟨Nat.le_of_ble_eq_true rfl, Nat.le_of_ble_eq_true rfl, Nat.le_of_ble_eq_true rfl, Nat.le_of_ble_eq_true rfl⟩ d_H_piece_104 d_H_piece_107 d_H_piece_108 d_H_piece_110 d_H_piece_113
        · replace hP := hP.1 hc
          exact tx_nse hx hb hml hts hown hlocks hxt htr hok hq hP hl.1 hv176 ⟨Nat.le_of_ble_eq_true rfl, Nat.le_of_ble_eq_true rfl, Nat.le_of_ble_eq_true rfl, Nat.le_of_ble_eq_true rfl⟩ d_H_piece_36 d_H_piece_39 d_H_piece_40 d_H_piece_42 d_H_piece_45

abbrev b_H_total : ByteArray := prog_1_method_18_code
def y_H_total : MethodName := ⟨"PurseHouse", "total", "(II)J"⟩
def ws_H_total : List Cond := .code y_H_total b_H_total 6 (Option.some Jvm.ClassFile.FieldType.long) :: lw_g
theorem d_H_total_0 : decode b_H_total 0 = .ok (.iload_n 2, 1) := by decide +kernel
theorem d_H_total_1 : decode b_H_total 1 = .ok (.invokestatic 61, 3) := by decide +kernel
theorem d_H_total_4 : decode b_H_total 4 = .ok (.ifCond .eq 11, 3) := by decide +kernel
theorem d_H_total_7 : decode b_H_total 7 = .ok (.aload_n 0, 1) := by decide +kernel
theorem d_H_total_8 : decode b_H_total 8 = .ok (.iload_n 1, 1) := by decide +kernel
theorem d_H_total_9 : decode b_H_total 9 = .ok (.invokevirtual 190, 3) := by decide +kernel
theorem d_H_total_12 : decode b_H_total 12 = .ok (.ifCond .ne 13, 3) := by decide +kernel
theorem d_H_total_15 : decode b_H_total 15 = .ok (.new 146, 3) := by decide +kernel
theorem d_H_total_18 : decode b_H_total 18 = .ok (.dup, 1) := by decide +kernel
theorem d_H_total_19 : decode b_H_total 19 = .ok (.ldc 193, 2) := by decide +kernel
theorem d_H_total_21 : decode b_H_total 21 = .ok (.invokespecial 150, 3) := by decide +kernel
theorem d_H_total_24 : decode b_H_total 24 = .ok (.athrow, 1) := by decide +kernel
theorem d_H_total_25 : decode b_H_total 25 = .ok (.lconst 0, 1) := by decide +kernel
theorem d_H_total_26 : decode b_H_total 26 = .ok (.lstore_n 3, 1) := by decide +kernel
theorem d_H_total_27 : decode b_H_total 27 = .ok (.iconst 0, 1) := by decide +kernel
theorem d_H_total_28 : decode b_H_total 28 = .ok (.istore 5, 2) := by decide +kernel
theorem d_H_total_30 : decode b_H_total 30 = .ok (.iload 5, 2) := by decide +kernel
theorem d_H_total_32 : decode b_H_total 32 = .ok (.aload_n 0, 1) := by decide +kernel
theorem d_H_total_33 : decode b_H_total 33 = .ok (.getfield 39, 3) := by decide +kernel
theorem d_H_total_36 : decode b_H_total 36 = .ok (.arraylength, 1) := by decide +kernel
theorem d_H_total_37 : decode b_H_total 37 = .ok (.if_icmp .ge 41, 3) := by decide +kernel
theorem d_H_total_40 : decode b_H_total 40 = .ok (.lload_n 3, 1) := by decide +kernel
theorem d_H_total_41 : decode b_H_total 41 = .ok (.aload_n 0, 1) := by decide +kernel
theorem d_H_total_42 : decode b_H_total 42 = .ok (.getfield 39, 3) := by decide +kernel
theorem d_H_total_45 : decode b_H_total 45 = .ok (.iload 5, 2) := by decide +kernel
theorem d_H_total_47 : decode b_H_total 47 = .ok (.aaload, 1) := by decide +kernel
theorem d_H_total_48 : decode b_H_total 48 = .ok (.getfield 178, 3) := by decide +kernel
theorem d_H_total_51 : decode b_H_total 51 = .ok (.iload_n 1, 1) := by decide +kernel
theorem d_H_total_52 : decode b_H_total 52 = .ok (.aaload, 1) := by decide +kernel
theorem d_H_total_53 : decode b_H_total 53 = .ok (.iload_n 2, 1) := by decide +kernel
theorem d_H_total_54 : decode b_H_total 54 = .ok (.laload, 1) := by decide +kernel
theorem d_H_total_55 : decode b_H_total 55 = .ok (.aload_n 0, 1) := by decide +kernel
theorem d_H_total_56 : decode b_H_total 56 = .ok (.getfield 39, 3) := by decide +kernel
theorem d_H_total_59 : decode b_H_total 59 = .ok (.iload 5, 2) := by decide +kernel
theorem d_H_total_61 : decode b_H_total 61 = .ok (.aaload, 1) := by decide +kernel
theorem d_H_total_62 : decode b_H_total 62 = .ok (.getfield 182, 3) := by decide +kernel
theorem d_H_total_65 : decode b_H_total 65 = .ok (.iload_n 1, 1) := by decide +kernel
theorem d_H_total_66 : decode b_H_total 66 = .ok (.aaload, 1) := by decide +kernel
theorem d_H_total_67 : decode b_H_total 67 = .ok (.iload_n 2, 1) := by decide +kernel
theorem d_H_total_68 : decode b_H_total 68 = .ok (.laload, 1) := by decide +kernel
theorem d_H_total_69 : decode b_H_total 69 = .ok (.ladd, 1) := by decide +kernel
theorem d_H_total_70 : decode b_H_total 70 = .ok (.ladd, 1) := by decide +kernel
theorem d_H_total_71 : decode b_H_total 71 = .ok (.lstore_n 3, 1) := by decide +kernel
theorem d_H_total_72 : decode b_H_total 72 = .ok (.iinc 5 1, 3) := by decide +kernel
theorem d_H_total_75 : decode b_H_total 75 = .ok (.goto (-45), 3) := by decide +kernel
theorem d_H_total_78 : decode b_H_total 78 = .ok (.iconst 0, 1) := by decide +kernel
theorem d_H_total_79 : decode b_H_total 79 = .ok (.istore 5, 2) := by decide +kernel
theorem d_H_total_81 : decode b_H_total 81 = .ok (.iload 5, 2) := by decide +kernel
theorem d_H_total_83 : decode b_H_total 83 = .ok (.aload_n 0, 1) := by decide +kernel
theorem d_H_total_84 : decode b_H_total 84 = .ok (.getfield 10, 3) := by decide +kernel
theorem d_H_total_87 : decode b_H_total 87 = .ok (.invokevirtual 48, 3) := by decide +kernel
theorem d_H_total_90 : decode b_H_total 90 = .ok (.if_icmp .ge 31, 3) := by decide +kernel
theorem d_H_total_93 : decode b_H_total 93 = .ok (.lload_n 3, 1) := by decide +kernel
theorem d_H_total_94 : decode b_H_total 94 = .ok (.aload_n 0, 1) := by decide +kernel
theorem d_H_total_95 : decode b_H_total 95 = .ok (.getfield 10, 3) := by decide +kernel
theorem d_H_total_98 : decode b_H_total 98 = .ok (.iload 5, 2) := by decide +kernel
theorem d_H_total_100 : decode b_H_total 100 = .ok (.invokevirtual 88, 3) := by decide +kernel
theorem d_H_total_103 : decode b_H_total 103 = .ok (.checkcast 52, 3) := by decide +kernel
theorem d_H_total_106 : decode b_H_total 106 = .ok (.getfield 187, 3) := by decide +kernel
theorem d_H_total_109 : decode b_H_total 109 = .ok (.iload_n 1, 1) := by decide +kernel
theorem d_H_total_110 : decode b_H_total 110 = .ok (.aaload, 1) := by decide +kernel
theorem d_H_total_111 : decode b_H_total 111 = .ok (.iload_n 2, 1) := by decide +kernel
theorem d_H_total_112 : decode b_H_total 112 = .ok (.laload, 1) := by decide +kernel
theorem d_H_total_113 : decode b_H_total 113 = .ok (.ladd, 1) := by decide +kernel
theorem d_H_total_114 : decode b_H_total 114 = .ok (.lstore_n 3, 1) := by decide +kernel
theorem d_H_total_115 : decode b_H_total 115 = .ok (.iinc 5 1, 3) := by decide +kernel
theorem d_H_total_118 : decode b_H_total 118 = .ok (.goto (-37), 3) := by decide +kernel
theorem d_H_total_121 : decode b_H_total 121 = .ok (.lload_n 3, 1) := by decide +kernel
theorem d_H_total_122 : decode b_H_total 122 = .ok (.lreturn, 1) := by decide +kernel
def pp_H_total_b81 (g : Nat → ClassId) (e0 : Nat → Nat) (K : Int64 → mo_M → Prop) : Nat → mo_M → Nat → Int32 → Int32 → Int64 → Int32 → Prop
  | 0, _, _, _, _, _, _ => False
  | n + 1, M, x0, x1, x2, x3, x5 => mp_gr M x0 0 1 (fun v19 => (mp_is M v19 5 ∧ pp_A_size g e0 (fun r21 M20 => ((r21 ≤ x5 → K x3 M20) ∧ (¬ (r21 ≤ x5) → mp_gr M20 x0 0 1 (fun v22 => (mp_is M20 v22 5 ∧ pp_A_get g e0 (fun r24 M23 => (mp_is M23 r24 2 ∧ mp_gr M23 r24 2 4 (fun v25 => mp_ar (g 4) M23 v25 x1 (fun v26 => mp_al (g 1) M23 v26 x2 (fun v27 => pp_H_total_b81 g e0 K n M23 x0 x1 x2 ((x3 + v27)) (x5 + 1)))))) M20 v22 x5))))) M v19))
def pp_H_total_b30 (g : Nat → ClassId) (e0 : Nat → Nat) (K : Int64 → mo_M → Prop) : Nat → mo_M → Nat → Int32 → Int32 → Int64 → Int32 → Prop
  | 0, _, _, _, _, _, _ => False
  | n + 1, M, x0, x1, x2, x3, x5 => mp_gr M x0 0 0 (fun v6 => mp_ln (g 3) M v6 (fun v7 => ((v7 ≤ x5 → ∃ n8 : Nat, pp_H_total_b81 g e0 K n8 M x0 x1 x2 x3 ((0 : Int32))) ∧ (¬ (v7 ≤ x5) → mp_gr M x0 0 0 (fun v9 => mp_ar (g 3) M v9 x5 (fun v10 => mp_gr M v10 1 5 (fun v11 => mp_ar (g 4) M v11 x1 (fun v12 => mp_al (g 1) M v12 x2 (fun v13 => mp_gr M x0 0 0 (fun v14 => mp_ar (g 3) M v14 x5 (fun v15 => mp_gr M v15 1 6 (fun v16 => mp_ar (g 4) M v16 x1 (fun v17 => mp_al (g 1) M v17 x2 (fun v18 => pp_H_total_b30 g e0 K n M x0 x1 x2 ((x3 + ((v13 + v18)))) (x5 + 1)))))))))))))))
def pp_H_total_b15 (g : Nat → ClassId) (e0 : Nat → Nat) (K : Int64 → mo_M → Prop) (M : mo_M) : Prop := False
def pp_H_total (g : Nat → ClassId) (e0 : Nat → Nat) (K : Int64 → mo_M → Prop) (M : mo_M) (x0 : Nat) (x1 : Int32) (x2 : Int32) : Prop := pp_H_hasCurrency g e0 (fun r2 M1 => ((r2 = 0 → pp_H_total_b15 g e0 K M1) ∧ (¬ (r2 = 0) → (mp_is M1 x0 0 ∧ pp_H_finished g e0 (fun r4 M3 => ((r4 = 0 → pp_H_total_b15 g e0 K M3) ∧ (¬ (r4 = 0) → ∃ n5 : Nat, pp_H_total_b30 g e0 K n5 M3 x0 x1 x2 ((0 : Int64)) ((0 : Int32))))) M1 x0 x1)))) M x2
set_option maxHeartbeats 4000000 in
set_option maxRecDepth 100000 in
theorem cc_H_total (l : Launch) (L0 : Nat) (D : va_G) {g : Nat → ClassId} {e0 : Nat → Nat} {K : Int64 → mo_M → Prop} {M : mo_M} {x0 : Nat} {x1 : Int32} {x2 : Int32} (hP : pp_H_total g e0 K M x0 x1 x2) : Met l y_H_total ws_H_total (mo_R 7 0 0 151) (va_Pc [.ref x0, .int x1, .int x2] (fun U => mo_B L0 e0 D vwCl (mo_T g) M U)) (mo_Ql L0 e0 D vwCl (mo_T g) K) 0 0 (fun q => L0 ≤ q) := by
  refine Met.ofW (cc := b_H_total) (maxL := 6) (ret := (Option.some Jvm.ClassFile.FieldType.long)) (by decide +kernel) rfl ?_
  intro p e s m args below meth c s₁ B hml hv
  obtain ⟨hv1, hB0⟩ := hv
  have hx := B.exec
  have hb := B.bytes
  have hr := B.returns
  have hts : ∀ w ∈ lw_g, w.before args s = true := fun w hw => atoms_spec (ws := ws_H_total) B.pre w (List.mem_cons_of_mem _ hw)
  have hown : s.vm.findClass "PurseHouse" = some m.cls := findClass_of_methodNamed B.named
  have hlocks := B.notSynchronized
  have w_81 : ∀ (n : Nat) (M : mo_M) (x0 : Nat) (x1 : Int32) (x2 : Int32) (x3 : Int64) (x5 : Int32) (H : Heap) (locs : List Loc) (ls : Array Slot), pp_H_total_b81 g e0 K n M x0 x1 x2 x3 x5 → mo_ok L0 e0 D vwCl (mo_T g) s M H locs → lv_has ls 6 [(0, .ref x0), (1, .int x1), (2, .int x2), (3, .long x3), (5, .int x5)] → W p l e (headSpec ws_H_total (mo_R 7 0 0 151)).room s m args below meth c H locs 0 0 (mo_Z below (mo_Ql L0 e0 D vwCl (mo_T g) K) args s 0 0 L0) (F0 m 81 ls []) := by
    intro n
    induction n with
    | zero => intro M x0 x1 x2 x3 x5 H locs ls hP; exact hP.elim
    | succ n ih =>
      intro M x0 x1 x2 x3 x5 H locs ls hP hok hl
      unfold pp_H_total_b81 at hP
      refine lv_iload hx hb d_H_total_81 (lv_at hl 4 rfl) ?_
      refine lv_aload_n hx hb d_H_total_83 rfl (lv_at hl 0 rfl) ?_
      refine mr_gr (C := "PurseHouse") (T := F_0) (N := 5) (ref := "PurseHouse") hx hb hts hown hok hP ui_0 rfl (by decide) (hts _ wd_142) (fun _ h => h) d_H_total_84 (fun v19 hP => ?_)
      obtain ⟨⟨fs9, he9⟩, hP⟩ := hP
      refine mo_calli hok (va_runV (As := []) (rest := [.int x5]) ⟨hx, hb, hml, hown, hts⟩ (cc_A_size l L0 D hP) ⟨(callB_of 0 hts (lw_gi wd_171) rfl rfl rfl (hts _ wd_36) (hts _ wd_168) (by decide +kernel) ⟨Nat.le_of_ble_eq_true rfl, Nat.le_of_ble_eq_true rfl⟩), hts _ wd_169, hts _ wd_170⟩ (mo_preV hok he9 rfl []) rfl rfl hl.1 rfl (lv_room (Nat.le_of_ble_eq_true rfl)) d_H_total_87 ⟨Nat.zero_le _, Nat.zero_le _⟩) (fun r21 M20 H locs hP hok => ?_)
      refine lv_icmp_ge (tgt := 121) hx hb d_H_total_90 (by decide) (fun hc => ?_) (fun hc => ?_)
      · replace hP := hP.1 hc
        refine lv_lload_n hx hb d_H_total_121 rfl (lv_at hl 3 rfl) ?_
        exact mo_lret hx hb hr hlocks hok hP d_H_total_122
      · replace hP := hP.2 hc
        refine lv_lload_n hx hb d_H_total_93 rfl (lv_at hl 3 rfl) ?_
        refine lv_aload_n hx hb d_H_total_94 rfl (lv_at hl 0 rfl) ?_
        refine mr_gr (C := "PurseHouse") (T := F_0) (N := 5) (ref := "PurseHouse") hx hb hts hown hok hP ui_0 rfl (by decide) (hts _ wd_142) (fun _ h => h) d_H_total_95 (fun v22 hP => ?_)
        refine lv_iload hx hb d_H_total_98 (lv_at hl 4 rfl) ?_
        obtain ⟨⟨fs9, he9⟩, hP⟩ := hP
        refine mo_callr hok (va_runV (As := [.int x5]) (rest := [.long x3]) ⟨hx, hb, hml, hown, hts⟩ (cc_A_get l L0 D hP) ⟨(callB_of 1 hts (lw_gi wd_313) rfl rfl rfl (hts _ wd_36) (hts _ wd_310) (by decide +kernel) ⟨Nat.le_of_ble_eq_true rfl, Nat.le_of_ble_eq_true rfl⟩), hts _ wd_311, hts _ wd_312⟩ (mo_preV hok he9 rfl [.int x5]) rfl rfl hl.1 rfl (lv_room (Nat.le_of_ble_eq_true rfl)) d_H_total_100 ⟨Nat.zero_le _, Nat.zero_le _⟩) (fun r24 M23 H locs hP hok => ?_)
        obtain ⟨his, hP⟩ := hP
        refine mr_cast (C := "PurseHouse$Link") (T := F_2) (N := 6) hx hb hown hok his rfl (hts _ wd_172) d_H_total_103 ?_
        refine mr_gr (C := "PurseHouse$Link") (T := F_2) (N := 6) (ref := "PurseHouse$Link") hx hb hts hown hok hP ui_2 rfl (by decide) (hts _ wd_190) (fun _ h => h) d_H_total_106 (fun v25 hP => ?_)
        refine lv_iload_n hx hb d_H_total_109 rfl (lv_at hl 1 rfl) ?_
        refine mr_ar hx hb hok hP 4 rfl rfl d_H_total_110 (fun v26 hP => ?_)
        refine lv_iload_n hx hb d_H_total_111 rfl (lv_at hl 2 rfl) ?_
        refine mr_al hx hb hok hP 1 rfl d_H_total_112 (fun v27 hP => ?_)
        refine lv_ladd hx hb d_H_total_113 ?_
        refine lv_lstore_n (lv' := [(3, .long ((x3 + v27))), (0, .ref x0), (1, .int x1), (2, .int x2), (5, .int x5)]) hx hb d_H_total_114 rfl hl (by decide) rfl (fun ls hl => ?_)
        refine lv_iinc (k := 4) (v := x5 + 1) (lv' := [(5, .int (x5 + 1)), (3, .long ((x3 + v27))), (0, .ref x0), (1, .int x1), (2, .int x2)]) hx hb d_H_total_115 hl rfl rfl (by decide) rfl (fun ls hl => ?_)
        refine lv_goto (tgt := 81) hx hb d_H_total_118 (by decide) ?_
        exact ih _ _ _ _ _ _ _ _ _ hP hok (lv_sub hl [2, 3, 4, 1, 0] rfl)
  have w_30 : ∀ (n : Nat) (M : mo_M) (x0 : Nat) (x1 : Int32) (x2 : Int32) (x3 : Int64) (x5 : Int32) (H : Heap) (locs : List Loc) (ls : Array Slot), pp_H_total_b30 g e0 K n M x0 x1 x2 x3 x5 → mo_ok L0 e0 D vwCl (mo_T g) s M H locs → lv_has ls 6 [(0, .ref x0), (1, .int x1), (2, .int x2), (3, .long x3), (5, .int x5)] → W p l e (headSpec ws_H_total (mo_R 7 0 0 151)).room s m args below meth c H locs 0 0 (mo_Z below (mo_Ql L0 e0 D vwCl (mo_T g) K) args s 0 0 L0) (F0 m 30 ls []) := by
    intro n
    induction n with
    | zero => intro M x0 x1 x2 x3 x5 H locs ls hP; exact hP.elim
    | succ n ih =>
      intro M x0 x1 x2 x3 x5 H locs ls hP hok hl
      unfold pp_H_total_b30 at hP
      refine lv_iload hx hb d_H_total_30 (lv_at hl 4 rfl) ?_
      refine lv_aload_n hx hb d_H_total_32 rfl (lv_at hl 0 rfl) ?_
      refine mr_gr (C := "PurseHouse") (T := F_0) (N := 5) (ref := "PurseHouse") hx hb hts hown hok hP ui_0 rfl (by decide) (hts _ wd_141) (fun _ h => h) d_H_total_33 (fun v6 hP => ?_)
      refine mr_ln hx hb hok hP 3 rfl d_H_total_36 (fun v7 hP => ?_)
      refine lv_icmp_ge (tgt := 78) hx hb d_H_total_37 (by decide) (fun hc => ?_) (fun hc => ?_)
      · replace hP := hP.1 hc
        refine lv_iconst (v := 0) hx hb d_H_total_78 (by decide) ?_
        refine lv_istore (lv' := [(5, .int ((0 : Int32))), (0, .ref x0), (1, .int x1), (2, .int x2), (3, .long x3)]) hx hb d_H_total_79 hl (by decide) rfl (fun ls hl => ?_)
        obtain ⟨n8, hP⟩ := hP
        exact w_81  n8 _ _ _ _ _ _ _ _ _ hP hok (lv_sub hl [1, 2, 3, 4, 0] rfl)
      · replace hP := hP.2 hc
        refine lv_lload_n hx hb d_H_total_40 rfl (lv_at hl 3 rfl) ?_
        refine lv_aload_n hx hb d_H_total_41 rfl (lv_at hl 0 rfl) ?_
        refine mr_gr (C := "PurseHouse") (T := F_0) (N := 5) (ref := "PurseHouse") hx hb hts hown hok hP ui_0 rfl (by decide) (hts _ wd_141) (fun _ h => h) d_H_total_42 (fun v9 hP => ?_)
        refine lv_iload hx hb d_H_total_45 (lv_at hl 4 rfl) ?_
        refine mr_ar hx hb hok hP 3 rfl rfl d_H_total_47 (fun v10 hP => ?_)
        refine mr_gr (C := "PurseHouse$Kiosk") (T := F_1) (N := 9) (ref := "PurseHouse$Kiosk") hx hb hts hown hok hP ui_1 rfl (by decide) (hts _ wd_113) (fun _ h => h) d_H_total_48 (fun v11 hP => ?_)
        refine lv_iload_n hx hb d_H_total_51 rfl (lv_at hl 1 rfl) ?_
        refine mr_ar hx hb hok hP 4 rfl rfl d_H_total_52 (fun v12 hP => ?_)
        refine lv_iload_n hx hb d_H_total_53 rfl (lv_at hl 2 rfl) ?_
        refine mr_al hx hb hok hP 1 rfl d_H_total_54 (fun v13 hP => ?_)
        refine lv_aload_n hx hb d_H_total_55 rfl (lv_at hl 0 rfl) ?_
        refine mr_gr (C := "PurseHouse") (T := F_0) (N := 5) (ref := "PurseHouse") hx hb hts hown hok hP ui_0 rfl (by decide) (hts _ wd_141) (fun _ h => h) d_H_total_56 (fun v14 hP => ?_)
        refine lv_iload hx hb d_H_total_59 (lv_at hl 4 rfl) ?_
        refine mr_ar hx hb hok hP 3 rfl rfl d_H_total_61 (fun v15 hP => ?_)
        refine mr_gr (C := "PurseHouse$Kiosk") (T := F_1) (N := 9) (ref := "PurseHouse$Kiosk") hx hb hts hown hok hP ui_1 rfl (by decide) (hts _ wd_115) (fun _ h => h) d_H_total_62 (fun v16 hP => ?_)
        refine lv_iload_n hx hb d_H_total_65 rfl (lv_at hl 1 rfl) ?_
        refine mr_ar hx hb hok hP 4 rfl rfl d_H_total_66 (fun v17 hP => ?_)
        refine lv_iload_n hx hb d_H_total_67 rfl (lv_at hl 2 rfl) ?_
        refine mr_al hx hb hok hP 1 rfl d_H_total_68 (fun v18 hP => ?_)
        refine lv_ladd hx hb d_H_total_69 ?_
        refine lv_ladd hx hb d_H_total_70 ?_
        refine lv_lstore_n (lv' := [(3, .long ((x3 + ((v13 + v18))))), (0, .ref x0), (1, .int x1), (2, .int x2), (5, .int x5)]) hx hb d_H_total_71 rfl hl (by decide) rfl (fun ls hl => ?_)
        refine lv_iinc (k := 4) (v := x5 + 1) (lv' := [(5, .int (x5 + 1)), (3, .long ((x3 + ((v13 + v18))))), (0, .ref x0), (1, .int x1), (2, .int x2)]) hx hb d_H_total_72 hl rfl rfl (by decide) rfl (fun ls hl => ?_)
        refine lv_goto (tgt := 30) hx hb d_H_total_75 (by decide) ?_
        exact ih _ _ _ _ _ _ _ _ _ hP hok (lv_sub hl [2, 3, 4, 1, 0] rfl)
  have w_15 : ∀ (M : mo_M) (H : Heap) (locs : List Loc) (ls : Array Slot), pp_H_total_b15 g e0 K M → mo_ok L0 e0 D vwCl (mo_T g) s M H locs → lv_has ls 6 [] → W p l e (headSpec ws_H_total (mo_R 7 0 0 151)).room s m args below meth c H locs 0 0 (mo_Z below (mo_Ql L0 e0 D vwCl (mo_T g) K) args s 0 0 L0) (F0 m 15 ls []) := by
    intro M H locs ls hP hok hl
    unfold pp_H_total_b15 at hP
    exact hP.elim
  have hok : mo_ok L0 e0 D vwCl (mo_T g) s M s.heap [] := ⟨hB0.1, hB0.2.1, hB0.2.2, va_S.rf⟩
  have hl := lv_entry ([.ref x0, .int x1, .int x2]) (n := 6) (Nat.le_of_ble_eq_true rfl)
  rw [hv1, lg_entry_eq]
  rw [← hv1]
  generalize (lg_sl [.ref x0, .int x1, .int x2] ++ List.replicate (6 - (lg_sl [.ref x0, .int x1, .int x2]).length) Slot.unset).toArray = ls at hl ⊢
  have hl : lv_has ls 6 [(0, .ref x0), (1, .int x1), (2, .int x2)] := hl
  unfold pp_H_total at hP
  refine lv_iload_n hx hb d_H_total_0 rfl (lv_at hl 2 rfl) ?_
  refine mo_calli hok (va_runS (As := [.int x2]) (rest := []) ⟨hx, hb, hml, hown, hts⟩ (cc_H_hasCurrency l L0 D hP) ⟨(callB_of 1 hts (lw_gi wd_263) rfl rfl rfl (hts _ wd_33) (hts _ wd_261) (by decide +kernel) ⟨Nat.le_of_ble_eq_true rfl, Nat.le_of_ble_eq_true rfl⟩), hts _ wd_262⟩ (mo_preS hok [.int x2]) rfl rfl hl.1 rfl (lv_room (Nat.le_of_ble_eq_true rfl)) d_H_total_1 ⟨Nat.zero_le _, Nat.zero_le _⟩) (fun r2 M1 H locs hP hok => ?_)
  refine lv_if_eq (tgt := 15) hx hb d_H_total_4 (by decide) (fun hc => ?_) (fun hc => ?_)
  · replace hP := hP.1 hc
    exact w_15  _ _ _ _ hP hok (lv_sub hl [] rfl)
  · replace hP := hP.2 hc
    refine lv_aload_n hx hb d_H_total_7 rfl (lv_at hl 0 rfl) ?_
    refine lv_iload_n hx hb d_H_total_8 rfl (lv_at hl 1 rfl) ?_
    obtain ⟨⟨fs9, he9⟩, hP⟩ := hP
    refine mo_calli hok (va_runV (As := [.int x1]) (rest := []) ⟨hx, hb, hml, hown, hts⟩ (cc_H_finished l L0 D hP) ⟨(callB_of 1 hts (lw_gi wd_450) rfl rfl rfl (hts _ wd_33) (hts _ wd_602) (by decide +kernel) ⟨Nat.le_of_ble_eq_true rfl, Nat.le_of_ble_eq_true rfl⟩), hts _ wd_448, hts _ wd_449⟩ (mo_preV hok he9 rfl [.int x1]) rfl rfl hl.1 rfl (lv_room (Nat.le_of_ble_eq_true rfl)) d_H_total_9 ⟨Nat.zero_le _, Nat.zero_le _⟩) (fun r4 M3 H locs hP hok => ?_)
    refine lv_if_ne (tgt := 25) hx hb d_H_total_12 (by decide) (fun hc => ?_) (fun hc => ?_)
    · replace hP := hP.2 hc
      refine lv_lconst (v := 0) hx hb d_H_total_25 (by decide) ?_
      refine lv_lstore_n (lv' := [(3, .long ((0 : Int64))), (0, .ref x0), (1, .int x1), (2, .int x2)]) hx hb d_H_total_26 rfl hl (by decide) rfl (fun ls hl => ?_)
      refine lv_iconst (v := 0) hx hb d_H_total_27 (by decide) ?_
      refine lv_istore (lv' := [(5, .int ((0 : Int32))), (3, .long ((0 : Int64))), (0, .ref x0), (1, .int x1), (2, .int x2)]) hx hb d_H_total_28 hl (by decide) rfl (fun ls hl => ?_)
      obtain ⟨n5, hP⟩ := hP
      exact w_30  n5 _ _ _ _ _ _ _ _ _ hP hok (lv_sub hl [2, 3, 4, 1, 0] rfl)
    · replace hP := hP.1 hc
      exact w_15  _ _ _ _ hP hok (lv_sub hl [] rfl)

def pq_H_total (g : Nat → ClassId) (e0 : Nat → Nat) (K : Nat → mo_M → Prop) (M : mo_M) (x0 : Nat) (x1 : Int32) (x2 : Int32) : Prop := pp_H_hasCurrency g e0 (fun r2 M1 => ((r2 = 0 → K 1 M1) ∧ (¬ (r2 = 0) → (mp_is M1 x0 0 ∧ pp_H_finished g e0 (fun r4 M3 => ((r4 = 0 → K 1 M3) ∧ (¬ (r4 = 0) → False))) M1 x0 x1)))) M x2
set_option maxHeartbeats 4000000 in
set_option maxRecDepth 100000 in
theorem ct_H_total (l : Launch) (hfl : l.flags = pinnedFlags ++ [noTraceFlag]) (L0 : Nat) (D : va_G) {g : Nat → ClassId} {e0 : Nat → Nat} {K : Nat → mo_M → Prop} {M : mo_M} {x0 : Nat} {x1 : Int32} {x2 : Int32} (hP : pq_H_total g e0 K M x0 x1 x2) : MetT l y_H_total ws_H_total (mo_R 7 1 6 151) (va_Pc [.ref x0, .int x1, .int x2] (fun U => mo_B L0 e0 D vwCl (mo_T g) M U ∧ tq L0 U)) (tx_Q L0 e0 D vwCl (mo_T g) K) 1 6 (fun q => L0 ≤ q) := by
  refine tx_ofW (cc := b_H_total) (maxL := 6) (ret := (Option.some Jvm.ClassFile.FieldType.long)) (by decide +kernel) rfl ?_
  intro p e s m args below meth c s₁ B hml hv
  obtain ⟨hv1, hB0, hq⟩ := hv
  obtain ⟨-, -, ⟨a148, hv148⟩, ⟨a161, hv161⟩, ⟨a176, hv176⟩, ⟨a185, hv185⟩, ⟨a193, hv193⟩, -⟩ := id hq
  have hxt := BodyLoose.noHandlers B (atoms_spec (ws := ws_H_total) B.pre _ List.mem_cons_self)
  have htr := Launch.traces_off hfl B.admits
  have hx := B.exec
  have hb := B.bytes
  have hr := B.returns
  have hts : ∀ w ∈ lw_g, w.before args s = true := fun w hw => atoms_spec (ws := ws_H_total) B.pre w (List.mem_cons_of_mem _ hw)
  have hown : s.vm.findClass "PurseHouse" = some m.cls := findClass_of_methodNamed B.named
  have hlocks := B.notSynchronized
  have hok : mo_ok L0 e0 D vwCl (mo_T g) s M s.heap [] := ⟨hB0.1, hB0.2.1, hB0.2.2, va_S.rf⟩
  have hl := lv_entry ([.ref x0, .int x1, .int x2]) (n := 6) (Nat.le_of_ble_eq_true rfl)
  rw [hv1, lg_entry_eq]
  rw [← hv1]
  generalize (lg_sl [.ref x0, .int x1, .int x2] ++ List.replicate (6 - (lg_sl [.ref x0, .int x1, .int x2]).length) Slot.unset).toArray = ls at hl ⊢
  have hl : lv_has ls 6 [(0, .ref x0), (1, .int x1), (2, .int x2)] := hl
  unfold pq_H_total at hP
  refine lv_iload_n hx hb d_H_total_0 rfl (lv_at hl 2 rfl) ?_
  refine mo_calli hok (va_runS (As := [.int x2]) (rest := []) ⟨hx, hb, hml, hown, hts⟩ (cc_H_hasCurrency l L0 D hP) ⟨(callB_of 1 hts (lw_gi wd_263) rfl rfl rfl (hts _ wd_33) (hts _ wd_261) (by decide +kernel) ⟨Nat.le_of_ble_eq_true rfl, Nat.le_of_ble_eq_true rfl⟩), hts _ wd_262⟩ (mo_preS hok [.int x2]) rfl rfl hl.1 rfl (lv_room (Nat.le_of_ble_eq_true rfl)) d_H_total_1 ⟨Nat.zero_le _, Nat.zero_le _⟩) (fun r2 M1 H locs hP hok => ?_)
  refine lv_if_eq (tgt := 15) hx hb d_H_total_4 (by decide) (fun hc => ?_) (fun hc => ?_)
  · replace hP := hP.1 hc
    exact tx_nse hx hb hml hts hown hlocks hxt htr hok hq hP hl.1 hv193 ⟨Nat.le_of_ble_eq_true rfl, Nat.le_of_ble_eq_true rfl, Nat.le_of_ble_eq_true rfl, Nat.le_of_ble_eq_true rfl⟩ d_H_total_15 d_H_total_18 d_H_total_19 d_H_total_21 d_H_total_24
  · replace hP := hP.2 hc
    refine lv_aload_n hx hb d_H_total_7 rfl (lv_at hl 0 rfl) ?_
    refine lv_iload_n hx hb d_H_total_8 rfl (lv_at hl 1 rfl) ?_
    obtain ⟨⟨fs9, he9⟩, hP⟩ := hP
    refine mo_calli hok (va_runV (As := [.int x1]) (rest := []) ⟨hx, hb, hml, hown, hts⟩ (cc_H_finished l L0 D hP) ⟨(callB_of 1 hts (lw_gi wd_450) rfl rfl rfl (hts _ wd_33) (hts _ wd_602) (by decide +kernel) ⟨Nat.le_of_ble_eq_true rfl, Nat.le_of_ble_eq_true rfl⟩), hts _ wd_448, hts _ wd_449⟩ (mo_preV hok he9 rfl [.int x1]) rfl rfl hl.1 rfl (lv_room (Nat.le_of_ble_eq_true rfl)) d_H_total_9 ⟨Nat.zero_le _, Nat.zero_le _⟩) (fun r4 M3 H locs hP hok => ?_)
    refine lv_if_ne (tgt := 25) hx hb d_H_total_12 (by decide) (fun hc => ?_) (fun hc => ?_)
    · replace hP := hP.2 hc
      exact hP.elim
    · replace hP := hP.1 hc
      exact tx_nse hx hb hml hts hown hlocks hxt htr hok hq hP hl.1 hv193 ⟨Nat.le_of_ble_eq_true rfl, Nat.le_of_ble_eq_true rfl, Nat.le_of_ble_eq_true rfl, Nat.le_of_ble_eq_true rfl⟩ d_H_total_15 d_H_total_18 d_H_total_19 d_H_total_21 d_H_total_24

