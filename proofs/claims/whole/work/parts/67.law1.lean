abbrev b_W_thing : ByteArray := method_3_code
def y_W_thing : MethodName := ⟨"PurseHouseLaw", "thing", "(LPurseHouse;III[J)I"⟩
def ws_W_thing : List Cond := .codeWith y_W_thing b_W_thing 6 (Option.some Jvm.ClassFile.FieldType.int) [((0 : Nat), (12 : Nat), (15 : Nat), (13 : Nat)), ((0 : Nat), (12 : Nat), (19 : Nat), (15 : Nat))] :: lw_g
theorem d_W_thing_0 : decode b_W_thing 0 = .ok (.aload 4, 2) := by decide +kernel
theorem d_W_thing_2 : decode b_W_thing 2 = .ok (.iconst 0, 1) := by decide +kernel
theorem d_W_thing_3 : decode b_W_thing 3 = .ok (.aload_n 0, 1) := by decide +kernel
theorem d_W_thing_4 : decode b_W_thing 4 = .ok (.iload_n 1, 1) := by decide +kernel
theorem d_W_thing_5 : decode b_W_thing 5 = .ok (.iload_n 2, 1) := by decide +kernel
theorem d_W_thing_6 : decode b_W_thing 6 = .ok (.iload_n 3, 1) := by decide +kernel
theorem d_W_thing_7 : decode b_W_thing 7 = .ok (.invokevirtual 7, 3) := by decide +kernel
theorem d_W_thing_10 : decode b_W_thing 10 = .ok (.i2l, 1) := by decide +kernel
theorem d_W_thing_11 : decode b_W_thing 11 = .ok (.lastore, 1) := by decide +kernel
theorem d_W_thing_12 : decode b_W_thing 12 = .ok (.goto 11, 3) := by decide +kernel
theorem d_W_thing_15 : decode b_W_thing 15 = .ok (.astore 5, 2) := by decide +kernel
theorem d_W_thing_17 : decode b_W_thing 17 = .ok (.iconst 1, 1) := by decide +kernel
theorem d_W_thing_18 : decode b_W_thing 18 = .ok (.ireturn, 1) := by decide +kernel
theorem d_W_thing_19 : decode b_W_thing 19 = .ok (.astore 5, 2) := by decide +kernel
theorem d_W_thing_21 : decode b_W_thing 21 = .ok (.iconst 2, 1) := by decide +kernel
theorem d_W_thing_22 : decode b_W_thing 22 = .ok (.ireturn, 1) := by decide +kernel
theorem d_W_thing_23 : decode b_W_thing 23 = .ok (.iconst 0, 1) := by decide +kernel
theorem d_W_thing_24 : decode b_W_thing 24 = .ok (.ireturn, 1) := by decide +kernel
def pr_W_thing (g : Nat → ClassId) (e0 : Nat → Nat) (K : Int32 → mo_M → Prop) (M : mo_M) (x0 : Nat) (x1 : Int32) (x2 : Int32) (x3 : Int32) (x4 : Nat) : Prop := (mp_is M x0 0 ∧ pp_H_thing g e0 (fun r2 M1 => mp_sl (g 1) M1 x4 ((0 : Int32)) r2.toInt64 (fun M3 => K ((0 : Int32)) M3)) M x0 x1 x2 x3)
def pp_W_thing (g : Nat → ClassId) (e0 : Nat → Nat) (K : Int32 → mo_M → Prop) (M : mo_M) (x0 : Nat) (x1 : Int32) (x2 : Int32) (x3 : Int32) (x4 : Nat) : Prop := mp_is M x0 0 ∧ (pr_W_thing g e0 K M x0 x1 x2 x3 x4 ∨ pq_H_thing g e0 (fun k M1 => (k = 1 ∨ k = 2) ∧ K (nI k) M1) M x0 x1 x2 x3)
set_option maxHeartbeats 4000000 in
set_option maxRecDepth 100000 in
theorem cc_W_thing (l : Launch) (hfl : l.flags = pinnedFlags ++ [noTraceFlag]) (L0 : Nat) (D : va_G) {g : Nat → ClassId} {e0 : Nat → Nat} {K : Int32 → mo_M → Prop} {M : mo_M} {x0 : Nat} {x1 : Int32} {x2 : Int32} {x3 : Int32} {x4 : Nat} (hP : pp_W_thing g e0 K M x0 x1 x2 x3 x4) : Met l y_W_thing ws_W_thing (mo_R 7 1 6 124) (va_Pc [.ref x0, .int x1, .int x2, .int x3, .ref x4] (fun U => mo_B L0 e0 D vwCl (mo_T g) M U ∧ tq L0 U)) (mo_Qi L0 e0 D vwCl (mo_T g) K) 1 6 (fun q => L0 ≤ q) := by
  refine va_MetW (cc := b_W_thing) (maxL := 6) (ret := (Option.some Jvm.ClassFile.FieldType.int)) (by decide +kernel) rfl ?_
  intro p e s m args below meth c s₁ B hml hv
  obtain ⟨hv1, hB0, hq⟩ := hv
  have hx := B.exec
  have hb := B.bytes
  have hr := B.returns
  have hts : ∀ w ∈ lw_g, w.before args s = true := fun w hw => atoms_spec (ws := ws_W_thing) B.pre w (List.mem_cons_of_mem _ hw)
  have hown : s.vm.findClass "PurseHouseLaw" = some m.cls := findClass_of_methodNamed B.named
  have hlocks := B.notSynchronized
  have htab : c.exceptionTable.toList = [⟨0, 12, 15, 13⟩, ⟨0, 12, 19, 15⟩] := by
    obtain ⟨m9, meth9, c9, hn9, h1, h2, -, -, h3, -⟩ := Cond.codeWith_spec (atoms_spec (ws := ws_W_thing) B.pre _ List.mem_cons_self)
    cases B.named.symm.trans hn9
    cases B.method.symm.trans h1
    cases (Stand.of_body B).code.symm.trans h2
    rw [← table_eq c.exceptionTable.toList, h3]
    rfl
  have hok : mo_ok L0 e0 D vwCl (mo_T g) s M s.heap [] := ⟨hB0.1, hB0.2.1, hB0.2.2, va_S.rf⟩
  have hl := lv_entry ([.ref x0, .int x1, .int x2, .int x3, .ref x4]) (n := 6) (Nat.le_of_ble_eq_true rfl)
  rw [hv1, lg_entry_eq]
  rw [← hv1]
  generalize (lg_sl [.ref x0, .int x1, .int x2, .int x3, .ref x4] ++ List.replicate (6 - (lg_sl [.ref x0, .int x1, .int x2, .int x3, .ref x4]).length) Slot.unset).toArray = ls at hl ⊢
  have hl : lv_has ls 6 [(0, .ref x0), (1, .int x1), (2, .int x2), (3, .int x3), (4, .ref x4)] := hl
  obtain ⟨⟨fs8, he8⟩, hP⟩ := hP
  rcases hP with hP | hP
  · unfold pr_W_thing at hP
    refine lv_aload hx hb d_W_thing_0 (lv_at hl 4 rfl) ?_
    refine lv_iconst (v := 0) hx hb d_W_thing_2 (by decide) ?_
    refine lv_aload_n hx hb d_W_thing_3 rfl (lv_at hl 0 rfl) ?_
    refine lv_iload_n hx hb d_W_thing_4 rfl (lv_at hl 1 rfl) ?_
    refine lv_iload_n hx hb d_W_thing_5 rfl (lv_at hl 2 rfl) ?_
    refine lv_iload_n hx hb d_W_thing_6 rfl (lv_at hl 3 rfl) ?_
    obtain ⟨⟨fs9, he9⟩, hP⟩ := hP
    refine mo_calli hok (va_runV (As := [.int x1, .int x2, .int x3]) (rest := [.int ((0 : Int32)), .ref x4]) ⟨hx, hb, hml, hown, hts⟩ (cc_H_thing l L0 D hP) ⟨(callB_of 3 hts (lw_gi wd_502) rfl rfl rfl (hts _ wd_33) (hts _ wd_499) (by decide +kernel) ⟨Nat.le_of_ble_eq_true rfl, Nat.le_of_ble_eq_true rfl⟩), hts _ wd_500, hts _ wd_501⟩ (mo_preV hok he9 rfl [.int x1, .int x2, .int x3]) rfl rfl hl.1 rfl (lv_room (Nat.le_of_ble_eq_true rfl)) d_W_thing_7 ⟨Nat.zero_le _, Nat.zero_le _⟩) (fun r2 M1 H locs hP hok => ?_)
    refine lv_i2l hx hb d_W_thing_10 rfl ?_
    refine mr_sl hx hb hok hP 1 rfl d_W_thing_11 (fun M3 H locs hP hok => ?_)
    refine lv_goto (tgt := 23) hx hb d_W_thing_12 (by decide) ?_
    refine lv_iconst (v := 0) hx hb d_W_thing_23 (by decide) ?_
    refine W.widen (k := 1) (n := 6) (Nat.zero_le _) (Nat.zero_le _) ?_
    exact mo_iret hx hb hr hlocks hok hP d_W_thing_24
  · refine lv_aload hx hb d_W_thing_0 (lv_at hl 4 rfl) ?_
    refine lv_iconst (v := 0) hx hb d_W_thing_2 (by decide) ?_
    refine lv_aload_n hx hb d_W_thing_3 rfl (lv_at hl 0 rfl) ?_
    refine lv_iload_n hx hb d_W_thing_4 rfl (lv_at hl 1 rfl) ?_
    refine lv_iload_n hx hb d_W_thing_5 rfl (lv_at hl 2 rfl) ?_
    refine lv_iload_n hx hb d_W_thing_6 rfl (lv_at hl 3 rfl) ?_
    refine tx_W (h1 := 15) (h2 := 19) (rest := [.int 0, .ref x4]) (As := [.int x1, .int x2, .int x3]) ⟨hx, hb, hml, hown, hts⟩ (ct_H_thing l hfl L0 D hP) ⟨(callB_of 3 hts (lw_gi wd_502) rfl rfl rfl (hts _ wd_33) (hts _ wd_499) (by decide +kernel) ⟨Nat.le_of_ble_eq_true rfl, Nat.le_of_ble_eq_true rfl⟩), hts _ wd_500, hts _ wd_501⟩ hok hq he8 rfl hl.1 rfl (Nat.le_of_ble_eq_true rfl) d_W_thing_7 ⟨Nat.le_of_ble_eq_true rfl, Nat.le_of_ble_eq_true rfl⟩ htab (fun k M1 hk => hk.1.elim Or.inl (fun z => Or.inr ⟨z, rfl⟩)) ⟨by decide, by decide⟩ (fun k M1 H1 locs1 a hP hok => ?_)
    obtain ⟨hk, hP⟩ := hP
    rcases hk with rfl | rfl
    · refine W.eq (g2 := F0 m 15 ls [.ref a]) rfl ?_
      refine lv_astore (lv' := [(5, .ref a), (0, .ref x0), (1, .int x1), (2, .int x2), (3, .int x3), (4, .ref x4)]) hx hb d_W_thing_15 hl (by decide) rfl (fun ls hl => ?_)
      refine lv_iconst (v := 1) hx hb d_W_thing_17 (by decide) ?_
      exact mo_iret hx hb hr hlocks hok hP d_W_thing_18
    · refine W.eq (g2 := F0 m 19 ls [.ref a]) rfl ?_
      refine lv_astore (lv' := [(5, .ref a), (0, .ref x0), (1, .int x1), (2, .int x2), (3, .int x3), (4, .ref x4)]) hx hb d_W_thing_19 hl (by decide) rfl (fun ls hl => ?_)
      refine lv_iconst (v := 2) hx hb d_W_thing_21 (by decide) ?_
      exact mo_iret hx hb hr hlocks hok hP d_W_thing_22

abbrev b_W_piece : ByteArray := method_4_code
def y_W_piece : MethodName := ⟨"PurseHouseLaw", "piece", "(LPurseHouse;IIII[J)I"⟩
def ws_W_piece : List Cond := .codeWith y_W_piece b_W_piece 7 (Option.some Jvm.ClassFile.FieldType.int) [((0 : Nat), (13 : Nat), (16 : Nat), (13 : Nat)), ((0 : Nat), (13 : Nat), (20 : Nat), (15 : Nat))] :: lw_g
theorem d_W_piece_0 : decode b_W_piece 0 = .ok (.aload 5, 2) := by decide +kernel
theorem d_W_piece_2 : decode b_W_piece 2 = .ok (.iconst 0, 1) := by decide +kernel
theorem d_W_piece_3 : decode b_W_piece 3 = .ok (.aload_n 0, 1) := by decide +kernel
theorem d_W_piece_4 : decode b_W_piece 4 = .ok (.iload_n 1, 1) := by decide +kernel
theorem d_W_piece_5 : decode b_W_piece 5 = .ok (.iload_n 2, 1) := by decide +kernel
theorem d_W_piece_6 : decode b_W_piece 6 = .ok (.iload_n 3, 1) := by decide +kernel
theorem d_W_piece_7 : decode b_W_piece 7 = .ok (.iload 4, 2) := by decide +kernel
theorem d_W_piece_9 : decode b_W_piece 9 = .ok (.invokevirtual 17, 3) := by decide +kernel
theorem d_W_piece_12 : decode b_W_piece 12 = .ok (.lastore, 1) := by decide +kernel
theorem d_W_piece_13 : decode b_W_piece 13 = .ok (.goto 11, 3) := by decide +kernel
theorem d_W_piece_16 : decode b_W_piece 16 = .ok (.astore 6, 2) := by decide +kernel
theorem d_W_piece_18 : decode b_W_piece 18 = .ok (.iconst 1, 1) := by decide +kernel
theorem d_W_piece_19 : decode b_W_piece 19 = .ok (.ireturn, 1) := by decide +kernel
theorem d_W_piece_20 : decode b_W_piece 20 = .ok (.astore 6, 2) := by decide +kernel
theorem d_W_piece_22 : decode b_W_piece 22 = .ok (.iconst 2, 1) := by decide +kernel
theorem d_W_piece_23 : decode b_W_piece 23 = .ok (.ireturn, 1) := by decide +kernel
theorem d_W_piece_24 : decode b_W_piece 24 = .ok (.iconst 0, 1) := by decide +kernel
theorem d_W_piece_25 : decode b_W_piece 25 = .ok (.ireturn, 1) := by decide +kernel
def pr_W_piece (g : Nat → ClassId) (e0 : Nat → Nat) (K : Int32 → mo_M → Prop) (M : mo_M) (x0 : Nat) (x1 : Int32) (x2 : Int32) (x3 : Int32) (x4 : Int32) (x5 : Nat) : Prop := (mp_is M x0 0 ∧ pp_H_piece g e0 (fun r2 M1 => mp_sl (g 1) M1 x5 ((0 : Int32)) r2 (fun M3 => K ((0 : Int32)) M3)) M x0 x1 x2 x3 x4)
def pp_W_piece (g : Nat → ClassId) (e0 : Nat → Nat) (K : Int32 → mo_M → Prop) (M : mo_M) (x0 : Nat) (x1 : Int32) (x2 : Int32) (x3 : Int32) (x4 : Int32) (x5 : Nat) : Prop := mp_is M x0 0 ∧ (pr_W_piece g e0 K M x0 x1 x2 x3 x4 x5 ∨ pq_H_piece g e0 (fun k M1 => (k = 1 ∨ k = 2) ∧ K (nI k) M1) M x0 x1 x2 x3 x4)
set_option maxHeartbeats 4000000 in
set_option maxRecDepth 100000 in
theorem cc_W_piece (l : Launch) (hfl : l.flags = pinnedFlags ++ [noTraceFlag]) (L0 : Nat) (D : va_G) {g : Nat → ClassId} {e0 : Nat → Nat} {K : Int32 → mo_M → Prop} {M : mo_M} {x0 : Nat} {x1 : Int32} {x2 : Int32} {x3 : Int32} {x4 : Int32} {x5 : Nat} (hP : pp_W_piece g e0 K M x0 x1 x2 x3 x4 x5) : Met l y_W_piece ws_W_piece (mo_R 7 1 6 124) (va_Pc [.ref x0, .int x1, .int x2, .int x3, .int x4, .ref x5] (fun U => mo_B L0 e0 D vwCl (mo_T g) M U ∧ tq L0 U)) (mo_Qi L0 e0 D vwCl (mo_T g) K) 1 6 (fun q => L0 ≤ q) := by
  refine va_MetW (cc := b_W_piece) (maxL := 7) (ret := (Option.some Jvm.ClassFile.FieldType.int)) (by decide +kernel) rfl ?_
  intro p e s m args below meth c s₁ B hml hv
  obtain ⟨hv1, hB0, hq⟩ := hv
  have hx := B.exec
  have hb := B.bytes
  have hr := B.returns
  have hts : ∀ w ∈ lw_g, w.before args s = true := fun w hw => atoms_spec (ws := ws_W_piece) B.pre w (List.mem_cons_of_mem _ hw)
  have hown : s.vm.findClass "PurseHouseLaw" = some m.cls := findClass_of_methodNamed B.named
  have hlocks := B.notSynchronized
  have htab : c.exceptionTable.toList = [⟨0, 13, 16, 13⟩, ⟨0, 13, 20, 15⟩] := by
    obtain ⟨m9, meth9, c9, hn9, h1, h2, -, -, h3, -⟩ := Cond.codeWith_spec (atoms_spec (ws := ws_W_piece) B.pre _ List.mem_cons_self)
    cases B.named.symm.trans hn9
    cases B.method.symm.trans h1
    cases (Stand.of_body B).code.symm.trans h2
    rw [← table_eq c.exceptionTable.toList, h3]
    rfl
  have hok : mo_ok L0 e0 D vwCl (mo_T g) s M s.heap [] := ⟨hB0.1, hB0.2.1, hB0.2.2, va_S.rf⟩
  have hl := lv_entry ([.ref x0, .int x1, .int x2, .int x3, .int x4, .ref x5]) (n := 7) (Nat.le_of_ble_eq_true rfl)
  rw [hv1, lg_entry_eq]
  rw [← hv1]
  generalize (lg_sl [.ref x0, .int x1, .int x2, .int x3, .int x4, .ref x5] ++ List.replicate (7 - (lg_sl [.ref x0, .int x1, .int x2, .int x3, .int x4, .ref x5]).length) Slot.unset).toArray = ls at hl ⊢
  have hl : lv_has ls 7 [(0, .ref x0), (1, .int x1), (2, .int x2), (3, .int x3), (4, .int x4), (5, .ref x5)] := hl
  obtain ⟨⟨fs8, he8⟩, hP⟩ := hP
  rcases hP with hP | hP
  · unfold pr_W_piece at hP
    refine lv_aload hx hb d_W_piece_0 (lv_at hl 5 rfl) ?_
    refine lv_iconst (v := 0) hx hb d_W_piece_2 (by decide) ?_
    refine lv_aload_n hx hb d_W_piece_3 rfl (lv_at hl 0 rfl) ?_
    refine lv_iload_n hx hb d_W_piece_4 rfl (lv_at hl 1 rfl) ?_
    refine lv_iload_n hx hb d_W_piece_5 rfl (lv_at hl 2 rfl) ?_
    refine lv_iload_n hx hb d_W_piece_6 rfl (lv_at hl 3 rfl) ?_
    refine lv_iload hx hb d_W_piece_7 (lv_at hl 4 rfl) ?_
    obtain ⟨⟨fs9, he9⟩, hP⟩ := hP
    refine mo_calll hok (va_runV (As := [.int x1, .int x2, .int x3, .int x4]) (rest := [.int ((0 : Int32)), .ref x5]) ⟨hx, hb, hml, hown, hts⟩ (cc_H_piece l L0 D hP) ⟨(callB_of 4 hts (lw_gi wd_592) rfl rfl rfl (hts _ wd_33) (hts _ wd_589) (by decide +kernel) ⟨Nat.le_of_ble_eq_true rfl, Nat.le_of_ble_eq_true rfl⟩), hts _ wd_590, hts _ wd_591⟩ (mo_preV hok he9 rfl [.int x1, .int x2, .int x3, .int x4]) rfl rfl hl.1 rfl (lv_room (Nat.le_of_ble_eq_true rfl)) d_W_piece_9 ⟨Nat.zero_le _, Nat.zero_le _⟩) (fun r2 M1 H locs hP hok => ?_)
    refine mr_sl hx hb hok hP 1 rfl d_W_piece_12 (fun M3 H locs hP hok => ?_)
    refine lv_goto (tgt := 24) hx hb d_W_piece_13 (by decide) ?_
    refine lv_iconst (v := 0) hx hb d_W_piece_24 (by decide) ?_
    refine W.widen (k := 1) (n := 6) (Nat.zero_le _) (Nat.zero_le _) ?_
    exact mo_iret hx hb hr hlocks hok hP d_W_piece_25
  · refine lv_aload hx hb d_W_piece_0 (lv_at hl 5 rfl) ?_
    refine lv_iconst (v := 0) hx hb d_W_piece_2 (by decide) ?_
    refine lv_aload_n hx hb d_W_piece_3 rfl (lv_at hl 0 rfl) ?_
    refine lv_iload_n hx hb d_W_piece_4 rfl (lv_at hl 1 rfl) ?_
    refine lv_iload_n hx hb d_W_piece_5 rfl (lv_at hl 2 rfl) ?_
    refine lv_iload_n hx hb d_W_piece_6 rfl (lv_at hl 3 rfl) ?_
    refine lv_iload hx hb d_W_piece_7 (lv_at hl 4 rfl) ?_
    refine tx_W (h1 := 16) (h2 := 20) (rest := [.int 0, .ref x5]) (As := [.int x1, .int x2, .int x3, .int x4]) ⟨hx, hb, hml, hown, hts⟩ (ct_H_piece l hfl L0 D hP) ⟨(callB_of 4 hts (lw_gi wd_592) rfl rfl rfl (hts _ wd_33) (hts _ wd_589) (by decide +kernel) ⟨Nat.le_of_ble_eq_true rfl, Nat.le_of_ble_eq_true rfl⟩), hts _ wd_590, hts _ wd_591⟩ hok hq he8 rfl hl.1 rfl (Nat.le_of_ble_eq_true rfl) d_W_piece_9 ⟨Nat.le_of_ble_eq_true rfl, Nat.le_of_ble_eq_true rfl⟩ htab (fun k M1 hk => hk.1.elim Or.inl (fun z => Or.inr ⟨z, rfl⟩)) ⟨by decide, by decide⟩ (fun k M1 H1 locs1 a hP hok => ?_)
    obtain ⟨hk, hP⟩ := hP
    rcases hk with rfl | rfl
    · refine W.eq (g2 := F0 m 16 ls [.ref a]) rfl ?_
      refine lv_astore (lv' := [(6, .ref a), (0, .ref x0), (1, .int x1), (2, .int x2), (3, .int x3), (4, .int x4), (5, .ref x5)]) hx hb d_W_piece_16 hl (by decide) rfl (fun ls hl => ?_)
      refine lv_iconst (v := 1) hx hb d_W_piece_18 (by decide) ?_
      exact mo_iret hx hb hr hlocks hok hP d_W_piece_19
    · refine W.eq (g2 := F0 m 20 ls [.ref a]) rfl ?_
      refine lv_astore (lv' := [(6, .ref a), (0, .ref x0), (1, .int x1), (2, .int x2), (3, .int x3), (4, .int x4), (5, .ref x5)]) hx hb d_W_piece_20 hl (by decide) rfl (fun ls hl => ?_)
      refine lv_iconst (v := 2) hx hb d_W_piece_22 (by decide) ?_
      exact mo_iret hx hb hr hlocks hok hP d_W_piece_23

abbrev b_W_total : ByteArray := method_5_code
def y_W_total : MethodName := ⟨"PurseHouseLaw", "total", "(LPurseHouse;II[J)I"⟩
def ws_W_total : List Cond := .codeWith y_W_total b_W_total 5 (Option.some Jvm.ClassFile.FieldType.int) [((0 : Nat), (9 : Nat), (12 : Nat), (13 : Nat))] :: lw_g
theorem d_W_total_0 : decode b_W_total 0 = .ok (.aload_n 3, 1) := by decide +kernel
theorem d_W_total_1 : decode b_W_total 1 = .ok (.iconst 0, 1) := by decide +kernel
theorem d_W_total_2 : decode b_W_total 2 = .ok (.aload_n 0, 1) := by decide +kernel
theorem d_W_total_3 : decode b_W_total 3 = .ok (.iload_n 1, 1) := by decide +kernel
theorem d_W_total_4 : decode b_W_total 4 = .ok (.iload_n 2, 1) := by decide +kernel
theorem d_W_total_5 : decode b_W_total 5 = .ok (.invokevirtual 21, 3) := by decide +kernel
theorem d_W_total_8 : decode b_W_total 8 = .ok (.lastore, 1) := by decide +kernel
theorem d_W_total_9 : decode b_W_total 9 = .ok (.goto 7, 3) := by decide +kernel
theorem d_W_total_12 : decode b_W_total 12 = .ok (.astore 4, 2) := by decide +kernel
theorem d_W_total_14 : decode b_W_total 14 = .ok (.iconst 1, 1) := by decide +kernel
theorem d_W_total_15 : decode b_W_total 15 = .ok (.ireturn, 1) := by decide +kernel
theorem d_W_total_16 : decode b_W_total 16 = .ok (.iconst 0, 1) := by decide +kernel
theorem d_W_total_17 : decode b_W_total 17 = .ok (.ireturn, 1) := by decide +kernel
def pr_W_total (g : Nat → ClassId) (e0 : Nat → Nat) (K : Int32 → mo_M → Prop) (M : mo_M) (x0 : Nat) (x1 : Int32) (x2 : Int32) (x3 : Nat) : Prop := (mp_is M x0 0 ∧ pp_H_total g e0 (fun r2 M1 => mp_sl (g 1) M1 x3 ((0 : Int32)) r2 (fun M3 => K ((0 : Int32)) M3)) M x0 x1 x2)
def pp_W_total (g : Nat → ClassId) (e0 : Nat → Nat) (K : Int32 → mo_M → Prop) (M : mo_M) (x0 : Nat) (x1 : Int32) (x2 : Int32) (x3 : Nat) : Prop := mp_is M x0 0 ∧ (pr_W_total g e0 K M x0 x1 x2 x3 ∨ pq_H_total g e0 (fun k M1 => (k = 1) ∧ K (nI k) M1) M x0 x1 x2)
set_option maxHeartbeats 4000000 in
set_option maxRecDepth 100000 in
theorem cc_W_total (l : Launch) (hfl : l.flags = pinnedFlags ++ [noTraceFlag]) (L0 : Nat) (D : va_G) {g : Nat → ClassId} {e0 : Nat → Nat} {K : Int32 → mo_M → Prop} {M : mo_M} {x0 : Nat} {x1 : Int32} {x2 : Int32} {x3 : Nat} (hP : pp_W_total g e0 K M x0 x1 x2 x3) : Met l y_W_total ws_W_total (mo_R 8 1 6 176) (va_Pc [.ref x0, .int x1, .int x2, .ref x3] (fun U => mo_B L0 e0 D vwCl (mo_T g) M U ∧ tq L0 U)) (mo_Qi L0 e0 D vwCl (mo_T g) K) 1 6 (fun q => L0 ≤ q) := by
  refine va_MetW (cc := b_W_total) (maxL := 5) (ret := (Option.some Jvm.ClassFile.FieldType.int)) (by decide +kernel) rfl ?_
  intro p e s m args below meth c s₁ B hml hv
  obtain ⟨hv1, hB0, hq⟩ := hv
  have hx := B.exec
  have hb := B.bytes
  have hr := B.returns
  have hts : ∀ w ∈ lw_g, w.before args s = true := fun w hw => atoms_spec (ws := ws_W_total) B.pre w (List.mem_cons_of_mem _ hw)
  have hown : s.vm.findClass "PurseHouseLaw" = some m.cls := findClass_of_methodNamed B.named
  have hlocks := B.notSynchronized
  have htab : c.exceptionTable.toList = [⟨0, 9, 12, 13⟩] := by
    obtain ⟨m9, meth9, c9, hn9, h1, h2, -, -, h3, -⟩ := Cond.codeWith_spec (atoms_spec (ws := ws_W_total) B.pre _ List.mem_cons_self)
    cases B.named.symm.trans hn9
    cases B.method.symm.trans h1
    cases (Stand.of_body B).code.symm.trans h2
    rw [← table_eq c.exceptionTable.toList, h3]
    rfl
  have hok : mo_ok L0 e0 D vwCl (mo_T g) s M s.heap [] := ⟨hB0.1, hB0.2.1, hB0.2.2, va_S.rf⟩
  have hl := lv_entry ([.ref x0, .int x1, .int x2, .ref x3]) (n := 5) (Nat.le_of_ble_eq_true rfl)
  rw [hv1, lg_entry_eq]
  rw [← hv1]
  generalize (lg_sl [.ref x0, .int x1, .int x2, .ref x3] ++ List.replicate (5 - (lg_sl [.ref x0, .int x1, .int x2, .ref x3]).length) Slot.unset).toArray = ls at hl ⊢
  have hl : lv_has ls 5 [(0, .ref x0), (1, .int x1), (2, .int x2), (3, .ref x3)] := hl
  obtain ⟨⟨fs8, he8⟩, hP⟩ := hP
  rcases hP with hP | hP
  · unfold pr_W_total at hP
    refine lv_aload_n hx hb d_W_total_0 rfl (lv_at hl 3 rfl) ?_
    refine lv_iconst (v := 0) hx hb d_W_total_1 (by decide) ?_
    refine lv_aload_n hx hb d_W_total_2 rfl (lv_at hl 0 rfl) ?_
    refine lv_iload_n hx hb d_W_total_3 rfl (lv_at hl 1 rfl) ?_
    refine lv_iload_n hx hb d_W_total_4 rfl (lv_at hl 2 rfl) ?_
    obtain ⟨⟨fs9, he9⟩, hP⟩ := hP
    refine mo_calll hok (va_runV (As := [.int x1, .int x2]) (rest := [.int ((0 : Int32)), .ref x3]) ⟨hx, hb, hml, hown, hts⟩ (cc_H_total l L0 D hP) ⟨(callB_of 2 hts (lw_gi wd_601) rfl rfl rfl (hts _ wd_33) (hts _ wd_598) (by decide +kernel) ⟨Nat.le_of_ble_eq_true rfl, Nat.le_of_ble_eq_true rfl⟩), hts _ wd_599, hts _ wd_600⟩ (mo_preV hok he9 rfl [.int x1, .int x2]) rfl rfl hl.1 rfl (lv_room (Nat.le_of_ble_eq_true rfl)) d_W_total_5 ⟨Nat.zero_le _, Nat.zero_le _⟩) (fun r2 M1 H locs hP hok => ?_)
    refine mr_sl hx hb hok hP 1 rfl d_W_total_8 (fun M3 H locs hP hok => ?_)
    refine lv_goto (tgt := 16) hx hb d_W_total_9 (by decide) ?_
    refine lv_iconst (v := 0) hx hb d_W_total_16 (by decide) ?_
    refine W.widen (k := 1) (n := 6) (Nat.zero_le _) (Nat.zero_le _) ?_
    exact mo_iret hx hb hr hlocks hok hP d_W_total_17
  · refine lv_aload_n hx hb d_W_total_0 rfl (lv_at hl 3 rfl) ?_
    refine lv_iconst (v := 0) hx hb d_W_total_1 (by decide) ?_
    refine lv_aload_n hx hb d_W_total_2 rfl (lv_at hl 0 rfl) ?_
    refine lv_iload_n hx hb d_W_total_3 rfl (lv_at hl 1 rfl) ?_
    refine lv_iload_n hx hb d_W_total_4 rfl (lv_at hl 2 rfl) ?_
    refine tx_W (h1 := 12) (h2 := 12) (rest := [.int 0, .ref x3]) (As := [.int x1, .int x2]) ⟨hx, hb, hml, hown, hts⟩ (ct_H_total l hfl L0 D hP) ⟨(callB_of 2 hts (lw_gi wd_601) rfl rfl rfl (hts _ wd_33) (hts _ wd_598) (by decide +kernel) ⟨Nat.le_of_ble_eq_true rfl, Nat.le_of_ble_eq_true rfl⟩), hts _ wd_599, hts _ wd_600⟩ hok hq he8 rfl hl.1 rfl (Nat.le_of_ble_eq_true rfl) d_W_total_5 ⟨Nat.le_of_ble_eq_true rfl, Nat.le_of_ble_eq_true rfl⟩ htab (fun k M1 hk => Or.inl hk.1) ⟨by decide, by decide⟩ (fun k M1 H1 locs1 a hP hok => ?_)
    obtain ⟨hk, hP⟩ := hP
    subst hk
    refine W.eq (g2 := F0 m 12 ls [.ref a]) rfl ?_
    refine lv_astore (lv' := [(4, .ref a), (0, .ref x0), (1, .int x1), (2, .int x2), (3, .ref x3)]) hx hb d_W_total_12 hl (by decide) rfl (fun ls hl => ?_)
    refine lv_iconst (v := 1) hx hb d_W_total_14 (by decide) ?_
    exact mo_iret hx hb hr hlocks hok hP d_W_total_15

