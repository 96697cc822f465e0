abbrev b_M_tillAt : ByteArray := prog_6_method_12_code
def y_M_tillAt : MethodName := ⟨"PurseHouseModel", "tillAt", "(III)J"⟩
def ws_M_tillAt : List Cond := .code y_M_tillAt b_M_tillAt 7 (Option.some Jvm.ClassFile.FieldType.long) :: lw_g
theorem d_M_tillAt_0 : decode b_M_tillAt 0 = .ok (.lconst 0, 1) := by decide +kernel
theorem d_M_tillAt_1 : decode b_M_tillAt 1 = .ok (.lstore 4, 2) := by decide +kernel
theorem d_M_tillAt_3 : decode b_M_tillAt 3 = .ok (.iconst 0, 1) := by decide +kernel
theorem d_M_tillAt_4 : decode b_M_tillAt 4 = .ok (.istore 6, 2) := by decide +kernel
theorem d_M_tillAt_6 : decode b_M_tillAt 6 = .ok (.iload 6, 2) := by decide +kernel
theorem d_M_tillAt_8 : decode b_M_tillAt 8 = .ok (.aload_n 0, 1) := by decide +kernel
theorem d_M_tillAt_9 : decode b_M_tillAt 9 = .ok (.getfield 97, 3) := by decide +kernel
theorem d_M_tillAt_12 : decode b_M_tillAt 12 = .ok (.if_icmp .ge 58, 3) := by decide +kernel
theorem d_M_tillAt_15 : decode b_M_tillAt 15 = .ok (.lload 4, 2) := by decide +kernel
theorem d_M_tillAt_17 : decode b_M_tillAt 17 = .ok (.aload_n 0, 1) := by decide +kernel
theorem d_M_tillAt_18 : decode b_M_tillAt 18 = .ok (.getfield 26, 3) := by decide +kernel
theorem d_M_tillAt_21 : decode b_M_tillAt 21 = .ok (.iload 6, 2) := by decide +kernel
theorem d_M_tillAt_23 : decode b_M_tillAt 23 = .ok (.iaload, 1) := by decide +kernel
theorem d_M_tillAt_24 : decode b_M_tillAt 24 = .ok (.iload_n 1, 1) := by decide +kernel
theorem d_M_tillAt_25 : decode b_M_tillAt 25 = .ok (.if_icmp .ne 35, 3) := by decide +kernel
theorem d_M_tillAt_28 : decode b_M_tillAt 28 = .ok (.aload_n 0, 1) := by decide +kernel
theorem d_M_tillAt_29 : decode b_M_tillAt 29 = .ok (.getfield 29, 3) := by decide +kernel
theorem d_M_tillAt_32 : decode b_M_tillAt 32 = .ok (.iload 6, 2) := by decide +kernel
theorem d_M_tillAt_34 : decode b_M_tillAt 34 = .ok (.iaload, 1) := by decide +kernel
theorem d_M_tillAt_35 : decode b_M_tillAt 35 = .ok (.iload_n 2, 1) := by decide +kernel
theorem d_M_tillAt_36 : decode b_M_tillAt 36 = .ok (.if_icmp .ne 24, 3) := by decide +kernel
theorem d_M_tillAt_39 : decode b_M_tillAt 39 = .ok (.aload_n 0, 1) := by decide +kernel
theorem d_M_tillAt_40 : decode b_M_tillAt 40 = .ok (.getfield 32, 3) := by decide +kernel
theorem d_M_tillAt_43 : decode b_M_tillAt 43 = .ok (.iload 6, 2) := by decide +kernel
theorem d_M_tillAt_45 : decode b_M_tillAt 45 = .ok (.iaload, 1) := by decide +kernel
theorem d_M_tillAt_46 : decode b_M_tillAt 46 = .ok (.iload_n 3, 1) := by decide +kernel
theorem d_M_tillAt_47 : decode b_M_tillAt 47 = .ok (.if_icmp .gt 13, 3) := by decide +kernel
theorem d_M_tillAt_50 : decode b_M_tillAt 50 = .ok (.aload_n 0, 1) := by decide +kernel
theorem d_M_tillAt_51 : decode b_M_tillAt 51 = .ok (.getfield 42, 3) := by decide +kernel
theorem d_M_tillAt_54 : decode b_M_tillAt 54 = .ok (.iload 6, 2) := by decide +kernel
theorem d_M_tillAt_56 : decode b_M_tillAt 56 = .ok (.laload, 1) := by decide +kernel
theorem d_M_tillAt_57 : decode b_M_tillAt 57 = .ok (.goto 4, 3) := by decide +kernel
theorem d_M_tillAt_60 : decode b_M_tillAt 60 = .ok (.lconst 0, 1) := by decide +kernel
theorem d_M_tillAt_61 : decode b_M_tillAt 61 = .ok (.ladd, 1) := by decide +kernel
theorem d_M_tillAt_62 : decode b_M_tillAt 62 = .ok (.lstore 4, 2) := by decide +kernel
theorem d_M_tillAt_64 : decode b_M_tillAt 64 = .ok (.iinc 6 1, 3) := by decide +kernel
theorem d_M_tillAt_67 : decode b_M_tillAt 67 = .ok (.goto (-61), 3) := by decide +kernel
theorem d_M_tillAt_70 : decode b_M_tillAt 70 = .ok (.lload 4, 2) := by decide +kernel
theorem d_M_tillAt_72 : decode b_M_tillAt 72 = .ok (.lreturn, 1) := by decide +kernel
def pp_M_tillAt_b61 (g : Nat → ClassId) (e0 : Nat → Nat) (K : Int64 → mo_M → Prop) (B_6 : mo_M → Nat → Int32 → Int32 → Int32 → Int64 → Int32 → Prop) (M : mo_M) (x0 : Nat) (x1 : Int32) (x2 : Int32) (x3 : Int32) (x6 : Int32) (s0 : Int64) (s1 : Int64) : Prop := B_6 M x0 x1 x2 x3 ((s1 + s0)) (x6 + 1)
def pp_M_tillAt_b60 (g : Nat → ClassId) (e0 : Nat → Nat) (K : Int64 → mo_M → Prop) (B_6 : mo_M → Nat → Int32 → Int32 → Int32 → Int64 → Int32 → Prop) (M : mo_M) (x0 : Nat) (x1 : Int32) (x2 : Int32) (x3 : Int32) (x6 : Int32) (s0 : Int64) : Prop := pp_M_tillAt_b61 g e0 K B_6 M x0 x1 x2 x3 x6 ((0 : Int64)) s0
def pp_M_tillAt_b6 (g : Nat → ClassId) (e0 : Nat → Nat) (K : Int64 → mo_M → Prop) : Nat → mo_M → Nat → Int32 → Int32 → Int32 → Int64 → Int32 → Prop
  | 0, _, _, _, _, _, _, _ => False
  | n + 1, M, x0, x1, x2, x3, x4, x6 => mp_gi M x0 4 9 (fun v2 => ((v2 ≤ x6 → K x4 M) ∧ (¬ (v2 ≤ x6) → mp_gr M x0 4 10 (fun v3 => mp_ai (g 0) M v3 x6 (fun v4 => ((v4 = x1 → mp_gr M x0 4 11 (fun v5 => mp_ai (g 0) M v5 x6 (fun v6 => ((v6 = x2 → mp_gr M x0 4 12 (fun v7 => mp_ai (g 0) M v7 x6 (fun v8 => ((x3 < v8 → pp_M_tillAt_b60 g e0 K (fun M x0 x1 x2 x3 x4 x6 => pp_M_tillAt_b6 g e0 K n M x0 x1 x2 x3 x4 x6) M x0 x1 x2 x3 x6 x4) ∧ (¬ (x3 < v8) → mp_gr M x0 4 15 (fun v9 => mp_al (g 1) M v9 x6 (fun v10 => pp_M_tillAt_b61 g e0 K (fun M x0 x1 x2 x3 x4 x6 => pp_M_tillAt_b6 g e0 K n M x0 x1 x2 x3 x4 x6) M x0 x1 x2 x3 x6 v10 x4))))))) ∧ (¬ (v6 = x2) → pp_M_tillAt_b60 g e0 K (fun M x0 x1 x2 x3 x4 x6 => pp_M_tillAt_b6 g e0 K n M x0 x1 x2 x3 x4 x6) M x0 x1 x2 x3 x6 x4))))) ∧ (¬ (v4 = x1) → pp_M_tillAt_b60 g e0 K (fun M x0 x1 x2 x3 x4 x6 => pp_M_tillAt_b6 g e0 K n M x0 x1 x2 x3 x4 x6) M x0 x1 x2 x3 x6 x4)))))))
def pp_M_tillAt (g : Nat → ClassId) (e0 : Nat → Nat) (K : Int64 → mo_M → Prop) (M : mo_M) (x0 : Nat) (x1 : Int32) (x2 : Int32) (x3 : Int32) : Prop := ∃ n1 : Nat, pp_M_tillAt_b6 g e0 K n1 M x0 x1 x2 x3 ((0 : Int64)) ((0 : Int32))
set_option maxHeartbeats 4000000 in
set_option maxRecDepth 100000 in
theorem cc_M_tillAt (l : Launch) (L0 : Nat) (D : va_G) {g : Nat → ClassId} {e0 : Nat → Nat} {K : Int64 → mo_M → Prop} {M : mo_M} {x0 : Nat} {x1 : Int32} {x2 : Int32} {x3 : Int32} (hP : pp_M_tillAt g e0 K M x0 x1 x2 x3) : Met l y_M_tillAt ws_M_tillAt (mo_R 0 0 0 0) (va_Pc [.ref x0, .int x1, .int x2, .int x3] (fun U => mo_B L0 e0 D vwCl (mo_T g) M U)) (mo_Ql L0 e0 D vwCl (mo_T g) K) 0 0 (fun q => L0 ≤ q) := by
  refine Met.ofW (cc := b_M_tillAt) (maxL := 7) (ret := (Option.some Jvm.ClassFile.FieldType.long)) (by decide +kernel) rfl ?_
  intro p e s m args below meth c s₁ B hml hv
  obtain ⟨hv1, hB0⟩ := hv
  have hx := B.exec
  have hb := B.bytes
  have hr := B.returns
  have hts : ∀ w ∈ lw_g, w.before args s = true := fun w hw => atoms_spec (ws := ws_M_tillAt) B.pre w (List.mem_cons_of_mem _ hw)
  have hown : s.vm.findClass "PurseHouseModel" = some m.cls := findClass_of_methodNamed B.named
  have hlocks := B.notSynchronized
  have w_61 : ∀ (B_6 : mo_M → Nat → Int32 → Int32 → Int32 → Int64 → Int32 → Prop) (hB_6 : ∀ (M : mo_M) (x0 : Nat) (x1 : Int32) (x2 : Int32) (x3 : Int32) (x4 : Int64) (x6 : Int32) (H : Heap) (locs : List Loc) (ls : Array Slot), B_6 M x0 x1 x2 x3 x4 x6 → mo_ok L0 e0 D vwCl (mo_T g) s M H locs → lv_has ls 7 [(0, .ref x0), (1, .int x1), (2, .int x2), (3, .int x3), (4, .long x4), (6, .int x6)] → W p l e (headSpec ws_M_tillAt (mo_R 0 0 0 0)).room s m args below meth c H locs 0 0 (mo_Z below (mo_Ql L0 e0 D vwCl (mo_T g) K) args s 0 0 L0) (F0 m 6 ls [])) (M : mo_M) (x0 : Nat) (x1 : Int32) (x2 : Int32) (x3 : Int32) (x6 : Int32) (s0 : Int64) (s1 : Int64) (H : Heap) (locs : List Loc) (ls : Array Slot), pp_M_tillAt_b61 g e0 K B_6 M x0 x1 x2 x3 x6 s0 s1 → mo_ok L0 e0 D vwCl (mo_T g) s M H locs → lv_has ls 7 [(0, .ref x0), (1, .int x1), (2, .int x2), (3, .int x3), (6, .int x6)] → W p l e (headSpec ws_M_tillAt (mo_R 0 0 0 0)).room s m args below meth c H locs 0 0 (mo_Z below (mo_Ql L0 e0 D vwCl (mo_T g) K) args s 0 0 L0) (F0 m 61 ls [.long s0, .long s1]) := by
    intro B_6 hB_6 M x0 x1 x2 x3 x6 s0 s1 H locs ls hP hok hl
    unfold pp_M_tillAt_b61 at hP
    refine lv_ladd hx hb d_M_tillAt_61 ?_
    refine lv_lstore (lv' := [(4, .long ((s1 + s0))), (0, .ref x0), (1, .int x1), (2, .int x2), (3, .int x3), (6, .int x6)]) hx hb d_M_tillAt_62 hl (by decide) rfl (fun ls hl => ?_)
    refine lv_iinc (k := 5) (v := x6 + 1) (lv' := [(6, .int (x6 + 1)), (4, .long ((s1 + s0))), (0, .ref x0), (1, .int x1), (2, .int x2), (3, .int x3)]) hx hb d_M_tillAt_64 hl rfl rfl (by decide) rfl (fun ls hl => ?_)
    refine lv_goto (tgt := 6) hx hb d_M_tillAt_67 (by decide) ?_
    exact hB_6 _ _ _ _ _ _ _ _ _ _ hP hok (lv_sub hl [2, 3, 4, 5, 1, 0] rfl)
  have w_60 : ∀ (B_6 : mo_M → Nat → Int32 → Int32 → Int32 → Int64 → Int32 → Prop) (hB_6 : ∀ (M : mo_M) (x0 : Nat) (x1 : Int32) (x2 : Int32) (x3 : Int32) (x4 : Int64) (x6 : Int32) (H : Heap) (locs : List Loc) (ls : Array Slot), B_6 M x0 x1 x2 x3 x4 x6 → mo_ok L0 e0 D vwCl (mo_T g) s M H locs → lv_has ls 7 [(0, .ref x0), (1, .int x1), (2, .int x2), (3, .int x3), (4, .long x4), (6, .int x6)] → W p l e (headSpec ws_M_tillAt (mo_R 0 0 0 0)).room s m args below meth c H locs 0 0 (mo_Z below (mo_Ql L0 e0 D vwCl (mo_T g) K) args s 0 0 L0) (F0 m 6 ls [])) (M : mo_M) (x0 : Nat) (x1 : Int32) (x2 : Int32) (x3 : Int32) (x6 : Int32) (s0 : Int64) (H : Heap) (locs : List Loc) (ls : Array Slot), pp_M_tillAt_b60 g e0 K B_6 M x0 x1 x2 x3 x6 s0 → mo_ok L0 e0 D vwCl (mo_T g) s M H locs → lv_has ls 7 [(0, .ref x0), (1, .int x1), (2, .int x2), (3, .int x3), (6, .int x6)] → W p l e (headSpec ws_M_tillAt (mo_R 0 0 0 0)).room s m args below meth c H locs 0 0 (mo_Z below (mo_Ql L0 e0 D vwCl (mo_T g) K) args s 0 0 L0) (F0 m 60 ls [.long s0]) := by
    intro B_6 hB_6 M x0 x1 x2 x3 x6 s0 H locs ls hP hok hl
    unfold pp_M_tillAt_b60 at hP
    refine lv_lconst (v := 0) hx hb d_M_tillAt_60 (by decide) ?_
    exact w_61 B_6 hB_6 _ _ _ _ _ _ _ _ _ _ _ hP hok (lv_sub hl [0, 1, 2, 3, 4] rfl)
  have w_6 : ∀ (n : Nat) (M : mo_M) (x0 : Nat) (x1 : Int32) (x2 : Int32) (x3 : Int32) (x4 : Int64) (x6 : Int32) (H : Heap) (locs : List Loc) (ls : Array Slot), pp_M_tillAt_b6 g e0 K n M x0 x1 x2 x3 x4 x6 → mo_ok L0 e0 D vwCl (mo_T g) s M H locs → lv_has ls 7 [(0, .ref x0), (1, .int x1), (2, .int x2), (3, .int x3), (4, .long x4), (6, .int x6)] → W p l e (headSpec ws_M_tillAt (mo_R 0 0 0 0)).room s m args below meth c H locs 0 0 (mo_Z below (mo_Ql L0 e0 D vwCl (mo_T g) K) args s 0 0 L0) (F0 m 6 ls []) := by
    intro n
    induction n with
    | zero => intro M x0 x1 x2 x3 x4 x6 H locs ls hP; exact hP.elim
    | succ n ih =>
      intro M x0 x1 x2 x3 x4 x6 H locs ls hP hok hl
      unfold pp_M_tillAt_b6 at hP
      refine lv_iload hx hb d_M_tillAt_6 (lv_at hl 5 rfl) ?_
      refine lv_aload_n hx hb d_M_tillAt_8 rfl (lv_at hl 0 rfl) ?_
      refine mr_gi (C := "PurseHouseModel") (T := F_4) (N := 27) (ref := "PurseHouseModel") hx hb hts hown hok hP ui_4 rfl (by decide) (hts _ wd_619) (fun _ h => h) d_M_tillAt_9 (fun v2 hP => ?_)
      refine lv_icmp_ge (tgt := 70) hx hb d_M_tillAt_12 (by decide) (fun hc => ?_) (fun hc => ?_)
      · replace hP := hP.1 hc
        refine lv_lload hx hb d_M_tillAt_70 (lv_at hl 4 rfl) ?_
        exact mo_lret hx hb hr hlocks hok hP d_M_tillAt_72
      · replace hP := hP.2 hc
        refine lv_lload hx hb d_M_tillAt_15 (lv_at hl 4 rfl) ?_
        refine lv_aload_n hx hb d_M_tillAt_17 rfl (lv_at hl 0 rfl) ?_
        refine mr_gr (C := "PurseHouseModel") (T := F_4) (N := 27) (ref := "PurseHouseModel") hx hb hts hown hok hP ui_4 rfl (by decide) (hts _ wd_620) (fun _ h => h) d_M_tillAt_18 (fun v3 hP => ?_)
        refine lv_iload hx hb d_M_tillAt_21 (lv_at hl 5 rfl) ?_
        refine mr_ai hx hb hok hP 0 rfl d_M_tillAt_23 (fun v4 hP => ?_)
        refine lv_iload_n hx hb d_M_tillAt_24 rfl (lv_at hl 1 rfl) ?_
        refine lv_icmp_ne (tgt := 60) hx hb d_M_tillAt_25 (by decide) (fun hc => ?_) (fun hc => ?_)
        · replace hP := hP.2 hc
          exact w_60 _ ih _ _ _ _ _ _ _ _ _ _ hP hok (lv_sub hl [0, 1, 2, 3, 5] rfl)
        · replace hP := hP.1 hc
          refine lv_aload_n hx hb d_M_tillAt_28 rfl (lv_at hl 0 rfl) ?_
          refine mr_gr (C := "PurseHouseModel") (T := F_4) (N := 27) (ref := "PurseHouseModel") hx hb hts hown hok hP ui_4 rfl (by decide) (hts _ wd_621) (fun _ h => h) d_M_tillAt_29 (fun v5 hP => ?_)
          refine lv_iload hx hb d_M_tillAt_32 (lv_at hl 5 rfl) ?_
          refine mr_ai hx hb hok hP 0 rfl d_M_tillAt_34 (fun v6 hP => ?_)
          refine lv_iload_n hx hb d_M_tillAt_35 rfl (lv_at hl 2 rfl) ?_
          refine lv_icmp_ne (tgt := 60) hx hb d_M_tillAt_36 (by decide) (fun hc => ?_) (fun hc => ?_)
          · replace hP := hP.2 hc
            exact w_60 _ ih _ _ _ _ _ _ _ _ _ _ hP hok (lv_sub hl [0, 1, 2, 3, 5] rfl)
          · replace hP := hP.1 hc
            refine lv_aload_n hx hb d_M_tillAt_39 rfl (lv_at hl 0 rfl) ?_
            refine mr_gr (C := "PurseHouseModel") (T := F_4) (N := 27) (ref := "PurseHouseModel") hx hb hts hown hok hP ui_4 rfl (by decide) (hts _ wd_622) (fun _ h => h) d_M_tillAt_40 (fun v7 hP => ?_)
            refine lv_iload hx hb d_M_tillAt_43 (lv_at hl 5 rfl) ?_
            refine mr_ai hx hb hok hP 0 rfl d_M_tillAt_45 (fun v8 hP => ?_)
            refine lv_iload_n hx hb d_M_tillAt_46 rfl (lv_at hl 3 rfl) ?_
            refine lv_icmp_gt (tgt := 60) hx hb d_M_tillAt_47 (by decide) (fun hc => ?_) (fun hc => ?_)
            · replace hP := hP.1 hc
              exact w_60 _ ih _ _ _ _ _ _ _ _ _ _ hP hok (lv_sub hl [0, 1, 2, 3, 5] rfl)
            · replace hP := hP.2 hc
              refine lv_aload_n hx hb d_M_tillAt_50 rfl (lv_at hl 0 rfl) ?_
              refine mr_gr (C := "PurseHouseModel") (T := F_4) (N := 27) (ref := "PurseHouseModel") hx hb hts hown hok hP ui_4 rfl (by decide) (hts _ wd_625) (fun _ h => h) d_M_tillAt_51 (fun v9 hP => ?_)
              refine lv_iload hx hb d_M_tillAt_54 (lv_at hl 5 rfl) ?_
              refine mr_al hx hb hok hP 1 rfl d_M_tillAt_56 (fun v10 hP => ?_)
              refine lv_goto (tgt := 61) hx hb d_M_tillAt_57 (by decide) ?_
              exact w_61 _ ih _ _ _ _ _ _ _ _ _ _ _ hP hok (lv_sub hl [0, 1, 2, 3, 5] rfl)
  have hok : mo_ok L0 e0 D vwCl (mo_T g) s M s.heap [] := ⟨hB0.1, hB0.2.1, hB0.2.2, va_S.rf⟩
  have hl := lv_entry ([.ref x0, .int x1, .int x2, .int x3]) (n := 7) (Nat.le_of_ble_eq_true rfl)
  rw [hv1, lg_entry_eq]
  rw [← hv1]
  generalize (lg_sl [.ref x0, .int x1, .int x2, .int x3] ++ List.replicate (7 - (lg_sl [.ref x0, .int x1, .int x2, .int x3]).length) Slot.unset).toArray = ls at hl ⊢
  have hl : lv_has ls 7 [(0, .ref x0), (1, .int x1), (2, .int x2), (3, .int x3)] := hl
  unfold pp_M_tillAt at hP
  refine lv_lconst (v := 0) hx hb d_M_tillAt_0 (by decide) ?_
  refine lv_lstore (lv' := [(4, .long ((0 : Int64))), (0, .ref x0), (1, .int x1), (2, .int x2), (3, .int x3)]) hx hb d_M_tillAt_1 hl (by decide) rfl (fun ls hl => ?_)
  refine lv_iconst (v := 0) hx hb d_M_tillAt_3 (by decide) ?_
  refine lv_istore (lv' := [(6, .int ((0 : Int32))), (4, .long ((0 : Int64))), (0, .ref x0), (1, .int x1), (2, .int x2), (3, .int x3)]) hx hb d_M_tillAt_4 hl (by decide) rfl (fun ls hl => ?_)
  obtain ⟨n1, hP⟩ := hP
  exact w_6  n1 _ _ _ _ _ _ _ _ _ _ hP hok (lv_sub hl [2, 3, 4, 5, 1, 0] rfl)

abbrev b_M_till : ByteArray := prog_6_method_28_code
def y_M_till : MethodName := ⟨"PurseHouseModel", "till", "(II)J"⟩
def ws_M_till : List Cond := .code y_M_till b_M_till 3 (Option.some Jvm.ClassFile.FieldType.long) :: lw_g
theorem d_M_till_0 : decode b_M_till 0 = .ok (.aload_n 0, 1) := by decide +kernel
theorem d_M_till_1 : decode b_M_till 1 = .ok (.iconst 0, 1) := by decide +kernel
theorem d_M_till_2 : decode b_M_till 2 = .ok (.putfield 76, 3) := by decide +kernel
theorem d_M_till_5 : decode b_M_till 5 = .ok (.aload_n 0, 1) := by decide +kernel
theorem d_M_till_6 : decode b_M_till 6 = .ok (.iload_n 1, 1) := by decide +kernel
theorem d_M_till_7 : decode b_M_till 7 = .ok (.invokevirtual 86, 3) := by decide +kernel
theorem d_M_till_10 : decode b_M_till 10 = .ok (.ifCond .eq 23, 3) := by decide +kernel
theorem d_M_till_13 : decode b_M_till 13 = .ok (.iload_n 2, 1) := by decide +kernel
theorem d_M_till_14 : decode b_M_till 14 = .ok (.invokestatic 90, 3) := by decide +kernel
theorem d_M_till_17 : decode b_M_till 17 = .ok (.ifCond .eq 16, 3) := by decide +kernel
theorem d_M_till_20 : decode b_M_till 20 = .ok (.aload_n 0, 1) := by decide +kernel
theorem d_M_till_21 : decode b_M_till 21 = .ok (.iload_n 1, 1) := by decide +kernel
theorem d_M_till_22 : decode b_M_till 22 = .ok (.iload_n 2, 1) := by decide +kernel
theorem d_M_till_23 : decode b_M_till 23 = .ok (.aload_n 0, 1) := by decide +kernel
theorem d_M_till_24 : decode b_M_till 24 = .ok (.getfield 94, 3) := by decide +kernel
theorem d_M_till_27 : decode b_M_till 27 = .ok (.invokevirtual 143, 3) := by decide +kernel
theorem d_M_till_30 : decode b_M_till 30 = .ok (.goto 4, 3) := by decide +kernel
theorem d_M_till_33 : decode b_M_till 33 = .ok (.lconst 0, 1) := by decide +kernel
theorem d_M_till_34 : decode b_M_till 34 = .ok (.lreturn, 1) := by decide +kernel
def pp_M_till (g : Nat → ClassId) (e0 : Nat → Nat) (K : Int64 → mo_M → Prop) (M : mo_M) (x0 : Nat) (x1 : Int32) (x2 : Int32) : Prop := mp_pt M x0 4 0 (.int ((0 : Int32))) (fun M1 => (mp_is M1 x0 4 ∧ pp_M_isKiosk g e0 (fun r3 M2 => ((r3 = 0 → K ((0 : Int64)) M2) ∧ (¬ (r3 = 0) → pp_M_isCurrency g e0 (fun r5 M4 => ((r5 = 0 → K ((0 : Int64)) M4) ∧ (¬ (r5 = 0) → mp_gi M4 x0 4 2 (fun v6 => (mp_is M4 x0 4 ∧ pp_M_tillAt g e0 (fun r8 M7 => K r8 M7) M4 x0 x1 x2 v6))))) M2 x2))) M1 x0 x1))
set_option maxHeartbeats 4000000 in
set_option maxRecDepth 100000 in
theorem cc_M_till (l : Launch) (L0 : Nat) (D : va_G) {g : Nat → ClassId} {e0 : Nat → Nat} {K : Int64 → mo_M → Prop} {M : mo_M} {x0 : Nat} {x1 : Int32} {x2 : Int32} (hP : pp_M_till g e0 K M x0 x1 x2) : Met l y_M_till ws_M_till (mo_R 1 0 0 26) (va_Pc [.ref x0, .int x1, .int x2] (fun U => mo_B L0 e0 D vwCl (mo_T g) M U)) (mo_Ql L0 e0 D vwCl (mo_T g) K) 0 0 (fun q => L0 ≤ q) := by
  refine Met.ofW (cc := b_M_till) (maxL := 3) (ret := (Option.some Jvm.ClassFile.FieldType.long)) (by decide +kernel) rfl ?_
  intro p e s m args below meth c s₁ B hml hv
  obtain ⟨hv1, hB0⟩ := hv
  have hx := B.exec
  have hb := B.bytes
  have hr := B.returns
  have hts : ∀ w ∈ lw_g, w.before args s = true := fun w hw => atoms_spec (ws := ws_M_till) B.pre w (List.mem_cons_of_mem _ hw)
  have hown : s.vm.findClass "PurseHouseModel" = some m.cls := findClass_of_methodNamed B.named
  have hlocks := B.notSynchronized
  have hok : mo_ok L0 e0 D vwCl (mo_T g) s M s.heap [] := ⟨hB0.1, hB0.2.1, hB0.2.2, va_S.rf⟩
  have hl := lv_entry ([.ref x0, .int x1, .int x2]) (n := 3) (Nat.le_of_ble_eq_true rfl)
  rw [hv1, lg_entry_eq]
  rw [← hv1]
  generalize (lg_sl [.ref x0, .int x1, .int x2] ++ List.replicate (3 - (lg_sl [.ref x0, .int x1, .int x2]).length) Slot.unset).toArray = ls at hl ⊢
  have hl : lv_has ls 3 [(0, .ref x0), (1, .int x1), (2, .int x2)] := hl
  unfold pp_M_till at hP
  refine lv_aload_n hx hb d_M_till_0 rfl (lv_at hl 0 rfl) ?_
  refine lv_iconst (v := 0) hx hb d_M_till_1 (by decide) ?_
  refine mr_pt (C := "PurseHouseModel") (T := F_4) (N := 27) (ref := "PurseHouseModel") (ty := .int) hx hb hts hown hok hP ui_4 ty_4 th_4 tn_4 rfl (by decide) (hts _ wd_610) (fun _ h => h) rfl (by decide +kernel) rfl rfl d_M_till_2 (fun M1 H locs hP hok => ?_)
  refine lv_aload_n hx hb d_M_till_5 rfl (lv_at hl 0 rfl) ?_
  refine lv_iload_n hx hb d_M_till_6 rfl (lv_at hl 1 rfl) ?_
  obtain ⟨⟨fs9, he9⟩, hP⟩ := hP
  refine mo_calli hok (va_runV (As := [.int x1]) (rest := []) ⟨hx, hb, hml, hown, hts⟩ (cc_M_isKiosk l L0 D hP) ⟨(callB_of 1 hts (lw_gi wd_704) rfl rfl rfl (hts _ wd_39) (hts _ wd_701) (by decide +kernel) ⟨Nat.le_of_ble_eq_true rfl, Nat.le_of_ble_eq_true rfl⟩), hts _ wd_703, hts _ wd_15⟩ (mo_preV hok he9 rfl [.int x1]) rfl rfl hl.1 rfl (lv_room (Nat.le_of_ble_eq_true rfl)) d_M_till_7 ⟨Nat.zero_le _, Nat.zero_le _⟩) (fun r3 M2 H locs hP hok => ?_)
  refine lv_if_eq (tgt := 33) hx hb d_M_till_10 (by decide) (fun hc => ?_) (fun hc => ?_)
  · replace hP := hP.1 hc
    refine lv_lconst (v := 0) hx hb d_M_till_33 (by decide) ?_
    exact mo_lret hx hb hr hlocks hok hP d_M_till_34
  · replace hP := hP.2 hc
    refine lv_iload_n hx hb d_M_till_13 rfl (lv_at hl 2 rfl) ?_
    refine mo_calli hok (va_runS (As := [.int x2]) (rest := []) ⟨hx, hb, hml, hown, hts⟩ (cc_M_isCurrency l L0 D hP) ⟨(callB_of 1 hts (lw_gi wd_711) rfl rfl rfl (hts _ wd_39) (hts _ wd_709) (by decide +kernel) ⟨Nat.le_of_ble_eq_true rfl, Nat.le_of_ble_eq_true rfl⟩), hts _ wd_710⟩ (mo_preS hok [.int x2]) rfl rfl hl.1 rfl (lv_room (Nat.le_of_ble_eq_true rfl)) d_M_till_14 ⟨Nat.zero_le _, Nat.zero_le _⟩) (fun r5 M4 H locs hP hok => ?_)
    refine lv_if_eq (tgt := 33) hx hb d_M_till_17 (by decide) (fun hc => ?_) (fun hc => ?_)
    · replace hP := hP.1 hc
      refine lv_lconst (v := 0) hx hb d_M_till_33 (by decide) ?_
      exact mo_lret hx hb hr hlocks hok hP d_M_till_34
    · replace hP := hP.2 hc
      refine lv_aload_n hx hb d_M_till_20 rfl (lv_at hl 0 rfl) ?_
      refine lv_iload_n hx hb d_M_till_21 rfl (lv_at hl 1 rfl) ?_
      refine lv_iload_n hx hb d_M_till_22 rfl (lv_at hl 2 rfl) ?_
      refine lv_aload_n hx hb d_M_till_23 rfl (lv_at hl 0 rfl) ?_
      refine mr_gi (C := "PurseHouseModel") (T := F_4) (N := 27) (ref := "PurseHouseModel") hx hb hts hown hok hP ui_4 rfl (by decide) (hts _ wd_612) (fun _ h => h) d_M_till_24 (fun v6 hP => ?_)
      obtain ⟨⟨fs9, he9⟩, hP⟩ := hP
      refine mo_calll hok (va_runV (As := [.int x1, .int x2, .int v6]) (rest := []) ⟨hx, hb, hml, hown, hts⟩ (cc_M_tillAt l L0 D hP) ⟨(callB_of 3 hts (lw_gi wd_792) rfl rfl rfl (hts _ wd_39) (hts _ wd_789) (by decide +kernel) ⟨Nat.le_of_ble_eq_true rfl, Nat.le_of_ble_eq_true rfl⟩), hts _ wd_791, hts _ wd_26⟩ (mo_preV hok he9 rfl [.int x1, .int x2, .int v6]) rfl rfl hl.1 rfl (lv_room (Nat.le_of_ble_eq_true rfl)) d_M_till_27 ⟨Nat.zero_le _, Nat.zero_le _⟩) (fun r8 M7 H locs hP hok => ?_)
      refine lv_goto (tgt := 34) hx hb d_M_till_30 (by decide) ?_
      exact mo_lret hx hb hr hlocks hok hP d_M_till_34

abbrev b_M_onLink : ByteArray := prog_6_method_29_code
def y_M_onLink : MethodName := ⟨"PurseHouseModel", "onLink", "(I)I"⟩
def ws_M_onLink : List Cond := .code y_M_onLink b_M_onLink 4 (Option.some Jvm.ClassFile.FieldType.int) :: lw_g
theorem d_M_onLink_0 : decode b_M_onLink 0 = .ok (.aload_n 0, 1) := by decide +kernel
theorem d_M_onLink_1 : decode b_M_onLink 1 = .ok (.iconst 0, 1) := by decide +kernel
theorem d_M_onLink_2 : decode b_M_onLink 2 = .ok (.putfield 76, 3) := by decide +kernel
theorem d_M_onLink_5 : decode b_M_onLink 5 = .ok (.aload_n 0, 1) := by decide +kernel
theorem d_M_onLink_6 : decode b_M_onLink 6 = .ok (.iload_n 1, 1) := by decide +kernel
theorem d_M_onLink_7 : decode b_M_onLink 7 = .ok (.invokevirtual 126, 3) := by decide +kernel
theorem d_M_onLink_10 : decode b_M_onLink 10 = .ok (.ifCond .ne 5, 3) := by decide +kernel
theorem d_M_onLink_13 : decode b_M_onLink 13 = .ok (.iconst (-1), 1) := by decide +kernel
theorem d_M_onLink_14 : decode b_M_onLink 14 = .ok (.ireturn, 1) := by decide +kernel
theorem d_M_onLink_15 : decode b_M_onLink 15 = .ok (.iconst 0, 1) := by decide +kernel
theorem d_M_onLink_16 : decode b_M_onLink 16 = .ok (.istore_n 2, 1) := by decide +kernel
theorem d_M_onLink_17 : decode b_M_onLink 17 = .ok (.iconst 0, 1) := by decide +kernel
theorem d_M_onLink_18 : decode b_M_onLink 18 = .ok (.istore_n 3, 1) := by decide +kernel
theorem d_M_onLink_19 : decode b_M_onLink 19 = .ok (.iload_n 3, 1) := by decide +kernel
theorem d_M_onLink_20 : decode b_M_onLink 20 = .ok (.aload_n 0, 1) := by decide +kernel
theorem d_M_onLink_21 : decode b_M_onLink 21 = .ok (.getfield 115, 3) := by decide +kernel
theorem d_M_onLink_24 : decode b_M_onLink 24 = .ok (.if_icmp .ge 26, 3) := by decide +kernel
theorem d_M_onLink_27 : decode b_M_onLink 27 = .ok (.iload_n 2, 1) := by decide +kernel
theorem d_M_onLink_28 : decode b_M_onLink 28 = .ok (.aload_n 0, 1) := by decide +kernel
theorem d_M_onLink_29 : decode b_M_onLink 29 = .ok (.iload_n 3, 1) := by decide +kernel
theorem d_M_onLink_30 : decode b_M_onLink 30 = .ok (.iload_n 1, 1) := by decide +kernel
theorem d_M_onLink_31 : decode b_M_onLink 31 = .ok (.invokevirtual 118, 3) := by decide +kernel
theorem d_M_onLink_34 : decode b_M_onLink 34 = .ok (.ifCond .eq 7, 3) := by decide +kernel
theorem d_M_onLink_37 : decode b_M_onLink 37 = .ok (.iconst 1, 1) := by decide +kernel
theorem d_M_onLink_38 : decode b_M_onLink 38 = .ok (.goto 4, 3) := by decide +kernel
theorem d_M_onLink_41 : decode b_M_onLink 41 = .ok (.iconst 0, 1) := by decide +kernel
theorem d_M_onLink_42 : decode b_M_onLink 42 = .ok (.iadd, 1) := by decide +kernel
theorem d_M_onLink_43 : decode b_M_onLink 43 = .ok (.istore_n 2, 1) := by decide +kernel
theorem d_M_onLink_44 : decode b_M_onLink 44 = .ok (.iinc 3 1, 3) := by decide +kernel
theorem d_M_onLink_47 : decode b_M_onLink 47 = .ok (.goto (-28), 3) := by decide +kernel
theorem d_M_onLink_50 : decode b_M_onLink 50 = .ok (.iload_n 2, 1) := by decide +kernel
theorem d_M_onLink_51 : decode b_M_onLink 51 = .ok (.ireturn, 1) := by decide +kernel
def pp_M_onLink_b42 (g : Nat → ClassId) (e0 : Nat → Nat) (K : Int32 → mo_M → Prop) (B_19 : mo_M → Nat → Int32 → Int32 → Int32 → Prop) (M : mo_M) (x0 : Nat) (x1 : Int32) (x3 : Int32) (s0 : Int32) (s1 : Int32) : Prop := B_19 M x0 x1 ((s1 + s0)) (x3 + 1)
def pp_M_onLink_b19 (g : Nat → ClassId) (e0 : Nat → Nat) (K : Int32 → mo_M → Prop) : Nat → mo_M → Nat → Int32 → Int32 → Int32 → Prop
  | 0, _, _, _, _, _ => False
  | n + 1, M, x0, x1, x2, x3 => mp_gi M x0 4 17 (fun v5 => ((v5 ≤ x3 → K x2 M) ∧ (¬ (v5 ≤ x3) → (mp_is M x0 4 ∧ pp_M_isThere g e0 (fun r7 M6 => ((r7 = 0 → pp_M_onLink_b42 g e0 K (fun M x0 x1 x2 x3 => pp_M_onLink_b19 g e0 K n M x0 x1 x2 x3) M6 x0 x1 x3 ((0 : Int32)) x2) ∧ (¬ (r7 = 0) → pp_M_onLink_b42 g e0 K (fun M x0 x1 x2 x3 => pp_M_onLink_b19 g e0 K n M x0 x1 x2 x3) M6 x0 x1 x3 ((1 : Int32)) x2))) M x0 x3 x1))))
def pp_M_onLink (g : Nat → ClassId) (e0 : Nat → Nat) (K : Int32 → mo_M → Prop) (M : mo_M) (x0 : Nat) (x1 : Int32) : Prop := mp_pt M x0 4 0 (.int ((0 : Int32))) (fun M1 => (mp_is M1 x0 4 ∧ pp_M_isLink g e0 (fun r3 M2 => ((r3 = 0 → K ((-1 : Int32)) M2) ∧ (¬ (r3 = 0) → ∃ n4 : Nat, pp_M_onLink_b19 g e0 K n4 M2 x0 x1 ((0 : Int32)) ((0 : Int32))))) M1 x0 x1))
set_option maxHeartbeats 4000000 in
set_option maxRecDepth 100000 in
theorem cc_M_onLink (l : Launch) (L0 : Nat) (D : va_G) {g : Nat → ClassId} {e0 : Nat → Nat} {K : Int32 → mo_M → Prop} {M : mo_M} {x0 : Nat} {x1 : Int32} (hP : pp_M_onLink g e0 K M x0 x1) : Met l y_M_onLink ws_M_onLink (mo_R 1 0 0 22) (va_Pc [.ref x0, .int x1] (fun U => mo_B L0 e0 D vwCl (mo_T g) M U)) (mo_Qi L0 e0 D vwCl (mo_T g) K) 0 0 (fun q => L0 ≤ q) := by
  refine Met.ofW (cc := b_M_onLink) (maxL := 4) (ret := (Option.some Jvm.ClassFile.FieldType.int)) (by decide +kernel) rfl ?_
  intro p e s m args below meth c s₁ B hml hv
  obtain ⟨hv1, hB0⟩ := hv
  have hx := B.exec
  have hb := B.bytes
  have hr := B.returns
  have hts : ∀ w ∈ lw_g, w.before args s = true := fun w hw => atoms_spec (ws := ws_M_onLink) B.pre w (List.mem_cons_of_mem _ hw)
  have hown : s.vm.findClass "PurseHouseModel" = some m.cls := findClass_of_methodNamed B.named
  have hlocks := B.notSynchronized
  have w_42 : ∀ (B_19 : mo_M → Nat → Int32 → Int32 → Int32 → Prop) (hB_19 : ∀ (M : mo_M) (x0 : Nat) (x1 : Int32) (x2 : Int32) (x3 : Int32) (H : Heap) (locs : List Loc) (ls : Array Slot), B_19 M x0 x1 x2 x3 → mo_ok L0 e0 D vwCl (mo_T g) s M H locs → lv_has ls 4 [(0, .ref x0), (1, .int x1), (2, .int x2), (3, .int x3)] → W p l e (headSpec ws_M_onLink (mo_R 1 0 0 22)).room s m args below meth c H locs 0 0 (mo_Z below (mo_Qi L0 e0 D vwCl (mo_T g) K) args s 0 0 L0) (F0 m 19 ls [])) (M : mo_M) (x0 : Nat) (x1 : Int32) (x3 : Int32) (s0 : Int32) (s1 : Int32) (H : Heap) (locs : List Loc) (ls : Array Slot), pp_M_onLink_b42 g e0 K B_19 M x0 x1 x3 s0 s1 → mo_ok L0 e0 D vwCl (mo_T g) s M H locs → lv_has ls 4 [(0, .ref x0), (1, .int x1), (3, .int x3)] → W p l e (headSpec ws_M_onLink (mo_R 1 0 0 22)).room s m args below meth c H locs 0 0 (mo_Z below (mo_Qi L0 e0 D vwCl (mo_T g) K) args s 0 0 L0) (F0 m 42 ls [.int s0, .int s1]) := by
    intro B_19 hB_19 M x0 x1 x3 s0 s1 H locs ls hP hok hl
    unfold pp_M_onLink_b42 at hP
    refine lv_iadd hx hb d_M_onLink_42 ?_
    refine lv_istore_n (lv' := [(2, .int ((s1 + s0))), (0, .ref x0), (1, .int x1), (3, .int x3)]) hx hb d_M_onLink_43 rfl hl (by decide) rfl (fun ls hl => ?_)
    refine lv_iinc (k := 3) (v := x3 + 1) (lv' := [(3, .int (x3 + 1)), (2, .int ((s1 + s0))), (0, .ref x0), (1, .int x1)]) hx hb d_M_onLink_44 hl rfl rfl (by decide) rfl (fun ls hl => ?_)
    refine lv_goto (tgt := 19) hx hb d_M_onLink_47 (by decide) ?_
    exact hB_19 _ _ _ _ _ _ _ _ hP hok (lv_sub hl [2, 3, 1, 0] rfl)
  have w_19 : ∀ (n : Nat) (M : mo_M) (x0 : Nat) (x1 : Int32) (x2 : Int32) (x3 : Int32) (H : Heap) (locs : List Loc) (ls : Array Slot), pp_M_onLink_b19 g e0 K n M x0 x1 x2 x3 → mo_ok L0 e0 D vwCl (mo_T g) s M H locs → lv_has ls 4 [(0, .ref x0), (1, .int x1), (2, .int x2), (3, .int x3)] → W p l e (headSpec ws_M_onLink (mo_R 1 0 0 22)).room s m args below meth c H locs 0 0 (mo_Z below (mo_Qi L0 e0 D vwCl (mo_T g) K) args s 0 0 L0) (F0 m 19 ls []) := by
    intro n
    induction n with
    | zero => intro M x0 x1 x2 x3 H locs ls hP; exact hP.elim
    | succ n ih =>
      intro M x0 x1 x2 x3 H locs ls hP hok hl
      unfold pp_M_onLink_b19 at hP
      refine lv_iload_n hx hb d_M_onLink_19 rfl (lv_at hl 3 rfl) ?_
      refine lv_aload_n hx hb d_M_onLink_20 rfl (lv_at hl 0 rfl) ?_
      refine mr_gi (C := "PurseHouseModel") (T := F_4) (N := 27) (ref := "PurseHouseModel") hx hb hts hown hok hP ui_4 rfl (by decide) (hts _ wd_627) (fun _ h => h) d_M_onLink_21 (fun v5 hP => ?_)
      refine lv_icmp_ge (tgt := 50) hx hb d_M_onLink_24 (by decide) (fun hc => ?_) (fun hc => ?_)
      · replace hP := hP.1 hc
        refine lv_iload_n hx hb d_M_onLink_50 rfl (lv_at hl 2 rfl) ?_
        exact mo_iret hx hb hr hlocks hok hP d_M_onLink_51
      · replace hP := hP.2 hc
        refine lv_iload_n hx hb d_M_onLink_27 rfl (lv_at hl 2 rfl) ?_
        refine lv_aload_n hx hb d_M_onLink_28 rfl (lv_at hl 0 rfl) ?_
        refine lv_iload_n hx hb d_M_onLink_29 rfl (lv_at hl 3 rfl) ?_
        refine lv_iload_n hx hb d_M_onLink_30 rfl (lv_at hl 1 rfl) ?_
        obtain ⟨⟨fs9, he9⟩, hP⟩ := hP
        refine mo_calli hok (va_runV (As := [.int x3, .int x1]) (rest := [.int x2]) ⟨hx, hb, hml, hown, hts⟩ (cc_M_isThere l L0 D hP) ⟨(callB_of 2 hts (lw_gi wd_752) rfl rfl rfl (hts _ wd_39) (hts _ wd_749) (by decide +kernel) ⟨Nat.le_of_ble_eq_true rfl, Nat.le_of_ble_eq_true rfl⟩), hts _ wd_751, hts _ wd_20⟩ (mo_preV hok he9 rfl [.int x3, .int x1]) rfl rfl hl.1 rfl (lv_room (Nat.le_of_ble_eq_true rfl)) d_M_onLink_31 ⟨Nat.zero_le _, Nat.zero_le _⟩) (fun r7 M6 H locs hP hok => ?_)
        refine lv_if_eq (tgt := 41) hx hb d_M_onLink_34 (by decide) (fun hc => ?_) (fun hc => ?_)
        · replace hP := hP.1 hc
          refine lv_iconst (v := 0) hx hb d_M_onLink_41 (by decide) ?_
          exact w_42 _ ih _ _ _ _ _ _ _ _ _ hP hok (lv_sub hl [0, 1, 3] rfl)
        · replace hP := hP.2 hc
          refine lv_iconst (v := 1) hx hb d_M_onLink_37 (by decide) ?_
          refine lv_goto (tgt := 42) hx hb d_M_onLink_38 (by decide) ?_
          exact w_42 _ ih _ _ _ _ _ _ _ _ _ hP hok (lv_sub hl [0, 1, 3] rfl)
  have hok : mo_ok L0 e0 D vwCl (mo_T g) s M s.heap [] := ⟨hB0.1, hB0.2.1, hB0.2.2, va_S.rf⟩
  have hl := lv_entry ([.ref x0, .int x1]) (n := 4) (Nat.le_of_ble_eq_true rfl)
  rw [hv1, lg_entry_eq]
  rw [← hv1]
  generalize (lg_sl [.ref x0, .int x1] ++ List.replicate (4 - (lg_sl [.ref x0, .int x1]).length) Slot.unset).toArray = ls at hl ⊢
  have hl : lv_has ls 4 [(0, .ref x0), (1, .int x1)] := hl
  unfold pp_M_onLink at hP
  refine lv_aload_n hx hb d_M_onLink_0 rfl (lv_at hl 0 rfl) ?_
  refine lv_iconst (v := 0) hx hb d_M_onLink_1 (by decide) ?_
  refine mr_pt (C := "PurseHouseModel") (T := F_4) (N := 27) (ref := "PurseHouseModel") (ty := .int) hx hb hts hown hok hP ui_4 ty_4 th_4 tn_4 rfl (by decide) (hts _ wd_610) (fun _ h => h) rfl (by decide +kernel) rfl rfl d_M_onLink_2 (fun M1 H locs hP hok => ?_)
  refine lv_aload_n hx hb d_M_onLink_5 rfl (lv_at hl 0 rfl) ?_
  refine lv_iload_n hx hb d_M_onLink_6 rfl (lv_at hl 1 rfl) ?_
  obtain ⟨⟨fs9, he9⟩, hP⟩ := hP
  refine mo_calli hok (va_runV (As := [.int x1]) (rest := []) ⟨hx, hb, hml, hown, hts⟩ (cc_M_isLink l L0 D hP) ⟨(callB_of 1 hts (lw_gi wd_748) rfl rfl rfl (hts _ wd_39) (hts _ wd_745) (by decide +kernel) ⟨Nat.le_of_ble_eq_true rfl, Nat.le_of_ble_eq_true rfl⟩), hts _ wd_747, hts _ wd_19⟩ (mo_preV hok he9 rfl [.int x1]) rfl rfl hl.1 rfl (lv_room (Nat.le_of_ble_eq_true rfl)) d_M_onLink_7 ⟨Nat.zero_le _, Nat.zero_le _⟩) (fun r3 M2 H locs hP hok => ?_)
  refine lv_if_ne (tgt := 15) hx hb d_M_onLink_10 (by decide) (fun hc => ?_) (fun hc => ?_)
  · replace hP := hP.2 hc
    refine lv_iconst (v := 0) hx hb d_M_onLink_15 (by decide) ?_
    refine lv_istore_n (lv' := [(2, .int ((0 : Int32))), (0, .ref x0), (1, .int x1)]) hx hb d_M_onLink_16 rfl hl (by decide) rfl (fun ls hl => ?_)
    refine lv_iconst (v := 0) hx hb d_M_onLink_17 (by decide) ?_
    refine lv_istore_n (lv' := [(3, .int ((0 : Int32))), (2, .int ((0 : Int32))), (0, .ref x0), (1, .int x1)]) hx hb d_M_onLink_18 rfl hl (by decide) rfl (fun ls hl => ?_)
    obtain ⟨n4, hP⟩ := hP
    exact w_19  n4 _ _ _ _ _ _ _ _ hP hok (lv_sub hl [2, 3, 1, 0] rfl)
  · replace hP := hP.1 hc
    refine lv_iconst (v := (-1)) hx hb d_M_onLink_13 (by decide) ?_
    exact mo_iret hx hb hr hlocks hok hP d_M_onLink_14

abbrev b_M_thing : ByteArray := prog_6_method_30_code
def y_M_thing : MethodName := ⟨"PurseHouseModel", "thing", "(III)I"⟩
def ws_M_thing : List Cond := .code y_M_thing b_M_thing 7 (Option.some Jvm.ClassFile.FieldType.int) :: lw_g
theorem d_M_thing_0 : decode b_M_thing 0 = .ok (.aload_n 0, 1) := by decide +kernel
theorem d_M_thing_1 : decode b_M_thing 1 = .ok (.iload_n 1, 1) := by decide +kernel
theorem d_M_thing_2 : decode b_M_thing 2 = .ok (.invokevirtual 126, 3) := by decide +kernel
theorem d_M_thing_5 : decode b_M_thing 5 = .ok (.ifCond .eq 16, 3) := by decide +kernel
theorem d_M_thing_8 : decode b_M_thing 8 = .ok (.iload_n 2, 1) := by decide +kernel
theorem d_M_thing_9 : decode b_M_thing 9 = .ok (.ifCond .lt 12, 3) := by decide +kernel
theorem d_M_thing_12 : decode b_M_thing 12 = .ok (.aload_n 0, 1) := by decide +kernel
theorem d_M_thing_13 : decode b_M_thing 13 = .ok (.iload_n 1, 1) := by decide +kernel
theorem d_M_thing_14 : decode b_M_thing 14 = .ok (.iload_n 2, 1) := by decide +kernel
theorem d_M_thing_15 : decode b_M_thing 15 = .ok (.invokevirtual 133, 3) := by decide +kernel
theorem d_M_thing_18 : decode b_M_thing 18 = .ok (.goto 4, 3) := by decide +kernel
theorem d_M_thing_21 : decode b_M_thing 21 = .ok (.iconst (-1), 1) := by decide +kernel
theorem d_M_thing_22 : decode b_M_thing 22 = .ok (.istore 4, 2) := by decide +kernel
theorem d_M_thing_24 : decode b_M_thing 24 = .ok (.aload_n 0, 1) := by decide +kernel
theorem d_M_thing_25 : decode b_M_thing 25 = .ok (.iload 4, 2) := by decide +kernel
theorem d_M_thing_27 : decode b_M_thing 27 = .ok (.ifCond .ge 7, 3) := by decide +kernel
theorem d_M_thing_30 : decode b_M_thing 30 = .ok (.iconst 1, 1) := by decide +kernel
theorem d_M_thing_31 : decode b_M_thing 31 = .ok (.goto 17, 3) := by decide +kernel
theorem d_M_thing_34 : decode b_M_thing 34 = .ok (.iload_n 3, 1) := by decide +kernel
theorem d_M_thing_35 : decode b_M_thing 35 = .ok (.ifCond .lt 8, 3) := by decide +kernel
theorem d_M_thing_38 : decode b_M_thing 38 = .ok (.iload_n 3, 1) := by decide +kernel
theorem d_M_thing_39 : decode b_M_thing 39 = .ok (.iconst 3, 1) := by decide +kernel
theorem d_M_thing_40 : decode b_M_thing 40 = .ok (.if_icmp .le 7, 3) := by decide +kernel
theorem d_M_thing_43 : decode b_M_thing 43 = .ok (.iconst 2, 1) := by decide +kernel
theorem d_M_thing_44 : decode b_M_thing 44 = .ok (.goto 4, 3) := by decide +kernel
theorem d_M_thing_47 : decode b_M_thing 47 = .ok (.iconst 0, 1) := by decide +kernel
theorem d_M_thing_48 : decode b_M_thing 48 = .ok (.putfield 76, 3) := by decide +kernel
theorem d_M_thing_51 : decode b_M_thing 51 = .ok (.aload_n 0, 1) := by decide +kernel
theorem d_M_thing_52 : decode b_M_thing 52 = .ok (.getfield 76, 3) := by decide +kernel
theorem d_M_thing_55 : decode b_M_thing 55 = .ok (.ifCond .le 5, 3) := by decide +kernel
theorem d_M_thing_58 : decode b_M_thing 58 = .ok (.iconst 0, 1) := by decide +kernel
theorem d_M_thing_59 : decode b_M_thing 59 = .ok (.ireturn, 1) := by decide +kernel
theorem d_M_thing_60 : decode b_M_thing 60 = .ok (.iload_n 3, 1) := by decide +kernel
theorem d_M_thing_61 : decode b_M_thing 61 = .ok (.ifCond .ne 11, 3) := by decide +kernel
theorem d_M_thing_64 : decode b_M_thing 64 = .ok (.aload_n 0, 1) := by decide +kernel
theorem d_M_thing_65 : decode b_M_thing 65 = .ok (.getfield 48, 3) := by decide +kernel
theorem d_M_thing_68 : decode b_M_thing 68 = .ok (.iload 4, 2) := by decide +kernel
theorem d_M_thing_70 : decode b_M_thing 70 = .ok (.iaload, 1) := by decide +kernel
theorem d_M_thing_71 : decode b_M_thing 71 = .ok (.ireturn, 1) := by decide +kernel
theorem d_M_thing_72 : decode b_M_thing 72 = .ok (.iload_n 3, 1) := by decide +kernel
theorem d_M_thing_73 : decode b_M_thing 73 = .ok (.iconst 1, 1) := by decide +kernel
theorem d_M_thing_74 : decode b_M_thing 74 = .ok (.if_icmp .ne 11, 3) := by decide +kernel
theorem d_M_thing_77 : decode b_M_thing 77 = .ok (.aload_n 0, 1) := by decide +kernel
theorem d_M_thing_78 : decode b_M_thing 78 = .ok (.getfield 54, 3) := by decide +kernel
theorem d_M_thing_81 : decode b_M_thing 81 = .ok (.iload 4, 2) := by decide +kernel
theorem d_M_thing_83 : decode b_M_thing 83 = .ok (.iaload, 1) := by decide +kernel
theorem d_M_thing_84 : decode b_M_thing 84 = .ok (.ireturn, 1) := by decide +kernel
theorem d_M_thing_85 : decode b_M_thing 85 = .ok (.iload_n 3, 1) := by decide +kernel
theorem d_M_thing_86 : decode b_M_thing 86 = .ok (.iconst 2, 1) := by decide +kernel
theorem d_M_thing_87 : decode b_M_thing 87 = .ok (.if_icmp .ne 32, 3) := by decide +kernel
theorem d_M_thing_90 : decode b_M_thing 90 = .ok (.aload_n 0, 1) := by decide +kernel
theorem d_M_thing_91 : decode b_M_thing 91 = .ok (.getfield 48, 3) := by decide +kernel
theorem d_M_thing_94 : decode b_M_thing 94 = .ok (.iload 4, 2) := by decide +kernel
theorem d_M_thing_96 : decode b_M_thing 96 = .ok (.iaload, 1) := by decide +kernel
theorem d_M_thing_97 : decode b_M_thing 97 = .ok (.iconst 3, 1) := by decide +kernel
theorem d_M_thing_98 : decode b_M_thing 98 = .ok (.if_icmp .ne 13, 3) := by decide +kernel
theorem d_M_thing_101 : decode b_M_thing 101 = .ok (.aload_n 0, 1) := by decide +kernel
theorem d_M_thing_102 : decode b_M_thing 102 = .ok (.getfield 60, 3) := by decide +kernel
theorem d_M_thing_105 : decode b_M_thing 105 = .ok (.iload 4, 2) := by decide +kernel
theorem d_M_thing_107 : decode b_M_thing 107 = .ok (.iaload, 1) := by decide +kernel
theorem d_M_thing_108 : decode b_M_thing 108 = .ok (.goto 10, 3) := by decide +kernel
theorem d_M_thing_111 : decode b_M_thing 111 = .ok (.aload_n 0, 1) := by decide +kernel
theorem d_M_thing_112 : decode b_M_thing 112 = .ok (.getfield 57, 3) := by decide +kernel
theorem d_M_thing_115 : decode b_M_thing 115 = .ok (.iload 4, 2) := by decide +kernel
theorem d_M_thing_117 : decode b_M_thing 117 = .ok (.iaload, 1) := by decide +kernel
theorem d_M_thing_118 : decode b_M_thing 118 = .ok (.ireturn, 1) := by decide +kernel
theorem d_M_thing_119 : decode b_M_thing 119 = .ok (.iconst 0, 1) := by decide +kernel
theorem d_M_thing_120 : decode b_M_thing 120 = .ok (.istore 5, 2) := by decide +kernel
theorem d_M_thing_122 : decode b_M_thing 122 = .ok (.iconst 0, 1) := by decide +kernel
theorem d_M_thing_123 : decode b_M_thing 123 = .ok (.istore 6, 2) := by decide +kernel
theorem d_M_thing_125 : decode b_M_thing 125 = .ok (.iload 6, 2) := by decide +kernel
theorem d_M_thing_127 : decode b_M_thing 127 = .ok (.aload_n 0, 1) := by decide +kernel
theorem d_M_thing_128 : decode b_M_thing 128 = .ok (.getfield 82, 3) := by decide +kernel
theorem d_M_thing_131 : decode b_M_thing 131 = .ok (.if_icmp .ge 44, 3) := by decide +kernel
theorem d_M_thing_134 : decode b_M_thing 134 = .ok (.aload_n 0, 1) := by decide +kernel
theorem d_M_thing_135 : decode b_M_thing 135 = .ok (.getfield 48, 3) := by decide +kernel
theorem d_M_thing_138 : decode b_M_thing 138 = .ok (.iload 4, 2) := by decide +kernel
theorem d_M_thing_140 : decode b_M_thing 140 = .ok (.iaload, 1) := by decide +kernel
theorem d_M_thing_141 : decode b_M_thing 141 = .ok (.iconst 3, 1) := by decide +kernel
theorem d_M_thing_142 : decode b_M_thing 142 = .ok (.if_icmp .eq 33, 3) := by decide +kernel
theorem d_M_thing_145 : decode b_M_thing 145 = .ok (.iload 5, 2) := by decide +kernel
theorem d_M_thing_147 : decode b_M_thing 147 = .ok (.aload_n 0, 1) := by decide +kernel
theorem d_M_thing_148 : decode b_M_thing 148 = .ok (.iload 4, 2) := by decide +kernel
theorem d_M_thing_150 : decode b_M_thing 150 = .ok (.iload 6, 2) := by decide +kernel
theorem d_M_thing_152 : decode b_M_thing 152 = .ok (.invokevirtual 140, 3) := by decide +kernel
theorem d_M_thing_155 : decode b_M_thing 155 = .ok (.ifCond .eq 10, 3) := by decide +kernel
theorem d_M_thing_158 : decode b_M_thing 158 = .ok (.iconst 1, 1) := by decide +kernel
theorem d_M_thing_159 : decode b_M_thing 159 = .ok (.iload 6, 2) := by decide +kernel
theorem d_M_thing_161 : decode b_M_thing 161 = .ok (.ishl, 1) := by decide +kernel
theorem d_M_thing_162 : decode b_M_thing 162 = .ok (.goto 4, 3) := by decide +kernel
theorem d_M_thing_165 : decode b_M_thing 165 = .ok (.iconst 0, 1) := by decide +kernel
theorem d_M_thing_166 : decode b_M_thing 166 = .ok (.iadd, 1) := by decide +kernel
theorem d_M_thing_167 : decode b_M_thing 167 = .ok (.istore 5, 2) := by decide +kernel
theorem d_M_thing_169 : decode b_M_thing 169 = .ok (.iinc 6 1, 3) := by decide +kernel
theorem d_M_thing_172 : decode b_M_thing 172 = .ok (.goto (-47), 3) := by decide +kernel
theorem d_M_thing_175 : decode b_M_thing 175 = .ok (.iload 5, 2) := by decide +kernel
theorem d_M_thing_177 : decode b_M_thing 177 = .ok (.ireturn, 1) := by decide +kernel
def pp_M_thing_b166 (g : Nat → ClassId) (e0 : Nat → Nat) (K : Int32 → mo_M → Prop) (B_125 : mo_M → Nat → Int32 → Int32 → Int32 → Prop) (M : mo_M) (x0 : Nat) (x4 : Int32) (x6 : Int32) (s0 : Int32) (s1 : Int32) : Prop := B_125 M x0 x4 ((s1 + s0)) (x6 + 1)
def pp_M_thing_b125 (g : Nat → ClassId) (e0 : Nat → Nat) (K : Int32 → mo_M → Prop) : Nat → mo_M → Nat → Int32 → Int32 → Int32 → Prop
  | 0, _, _, _, _, _ => False
  | n + 1, M, x0, x4, x5, x6 => mp_gi M x0 4 25 (fun v18 => ((v18 ≤ x6 → K x5 M) ∧ (¬ (v18 ≤ x6) → mp_gr M x0 4 18 (fun v19 => mp_ai (g 0) M v19 x4 (fun v20 => ((v20 = ((3 : Int32)) → K x5 M) ∧ (¬ (v20 = ((3 : Int32))) → (mp_is M x0 4 ∧ pp_M_isMarked g e0 (fun r22 M21 => ((r22 = 0 → pp_M_thing_b166 g e0 K (fun M x0 x4 x5 x6 => pp_M_thing_b125 g e0 K n M x0 x4 x5 x6) M21 x0 x4 x6 ((0 : Int32)) x5) ∧ (¬ (r22 = 0) → pp_M_thing_b166 g e0 K (fun M x0 x4 x5 x6 => pp_M_thing_b125 g e0 K n M x0 x4 x5 x6) M21 x0 x4 x6 ((((1 : Int32)) <<< (x6 &&& 31))) x5))) M x0 x4 x6))))))))
def pp_M_thing_b48 (g : Nat → ClassId) (e0 : Nat → Nat) (K : Int32 → mo_M → Prop) (M : mo_M) (x0 : Nat) (x3 : Int32) (x4 : Int32) (s0 : Int32) (s1 : Nat) : Prop := mp_pt M s1 4 0 (.int s0) (fun M5 => mp_gi M5 x0 4 0 (fun v6 => ((v6 ≤ 0 → ((x3 = 0 → mp_gr M5 x0 4 18 (fun v16 => mp_ai (g 0) M5 v16 x4 (fun v17 => K v17 M5))) ∧ (¬ (x3 = 0) → ((x3 = ((1 : Int32)) → mp_gr M5 x0 4 20 (fun v14 => mp_ai (g 0) M5 v14 x4 (fun v15 => K v15 M5))) ∧ (¬ (x3 = ((1 : Int32))) → ((x3 = ((2 : Int32)) → mp_gr M5 x0 4 18 (fun v8 => mp_ai (g 0) M5 v8 x4 (fun v9 => ((v9 = ((3 : Int32)) → mp_gr M5 x0 4 22 (fun v12 => mp_ai (g 0) M5 v12 x4 (fun v13 => K v13 M5))) ∧ (¬ (v9 = ((3 : Int32))) → mp_gr M5 x0 4 21 (fun v10 => mp_ai (g 0) M5 v10 x4 (fun v11 => K v11 M5))))))) ∧ (¬ (x3 = ((2 : Int32))) → ∃ n7 : Nat, pp_M_thing_b125 g e0 K n7 M5 x0 x4 ((0 : Int32)) ((0 : Int32))))))))) ∧ (¬ (v6 ≤ 0) → K ((0 : Int32)) M5))))
def pp_M_thing_b43 (g : Nat → ClassId) (e0 : Nat → Nat) (K : Int32 → mo_M → Prop) (M : mo_M) (x0 : Nat) (x3 : Int32) (x4 : Int32) (s0 : Nat) : Prop := pp_M_thing_b48 g e0 K M x0 x3 x4 ((2 : Int32)) s0
def pp_M_thing_b22 (g : Nat → ClassId) (e0 : Nat → Nat) (K : Int32 → mo_M → Prop) (M : mo_M) (x0 : Nat) (x3 : Int32) (s0 : Int32) : Prop := ((0 ≤ s0 → ((x3 < 0 → pp_M_thing_b43 g e0 K M x0 x3 s0 x0) ∧ (¬ (x3 < 0) → ((x3 ≤ ((3 : Int32)) → pp_M_thing_b48 g e0 K M x0 x3 s0 ((0 : Int32)) x0) ∧ (¬ (x3 ≤ ((3 : Int32))) → pp_M_thing_b43 g e0 K M x0 x3 s0 x0))))) ∧ (¬ (0 ≤ s0) → pp_M_thing_b48 g e0 K M x0 x3 s0 ((1 : Int32)) x0))
def pp_M_thing_b21 (g : Nat → ClassId) (e0 : Nat → Nat) (K : Int32 → mo_M → Prop) (M : mo_M) (x0 : Nat) (x3 : Int32) : Prop := pp_M_thing_b22 g e0 K M x0 x3 ((-1 : Int32))
def pp_M_thing (g : Nat → ClassId) (e0 : Nat → Nat) (K : Int32 → mo_M → Prop) (M : mo_M) (x0 : Nat) (x1 : Int32) (x2 : Int32) (x3 : Int32) : Prop := (mp_is M x0 4 ∧ pp_M_isLink g e0 (fun r2 M1 => ((r2 = 0 → pp_M_thing_b21 g e0 K M1 x0 x3) ∧ (¬ (r2 = 0) → ((x2 < 0 → pp_M_thing_b21 g e0 K M1 x0 x3) ∧ (¬ (x2 < 0) → (mp_is M1 x0 4 ∧ pp_M_thingAt g e0 (fun r4 M3 => pp_M_thing_b22 g e0 K M3 x0 x3 r4) M1 x0 x1 x2)))))) M x0 x1)
set_option maxHeartbeats 4000000 in
set_option maxRecDepth 100000 in
theorem cc_M_thing (l : Launch) (L0 : Nat) (D : va_G) {g : Nat → ClassId} {e0 : Nat → Nat} {K : Int32 → mo_M → Prop} {M : mo_M} {x0 : Nat} {x1 : Int32} {x2 : Int32} {x3 : Int32} (hP : pp_M_thing g e0 K M x0 x1 x2 x3) : Met l y_M_thing ws_M_thing (mo_R 2 0 0 46) (va_Pc [.ref x0, .int x1, .int x2, .int x3] (fun U => mo_B L0 e0 D vwCl (mo_T g) M U)) (mo_Qi L0 e0 D vwCl (mo_T g) K) 0 0 (fun q => L0 ≤ q) := by
  refine Met.ofW (cc := b_M_thing) (maxL := 7) (ret := (Option.some Jvm.ClassFile.FieldType.int)) (by decide +kernel) rfl ?_
  intro p e s m args below meth c s₁ B hml hv
  obtain ⟨hv1, hB0⟩ := hv
  have hx := B.exec
  have hb := B.bytes
  have hr := B.returns
  have hts : ∀ w ∈ lw_g, w.before args s = true := fun w hw => atoms_spec (ws := ws_M_thing) B.pre w (List.mem_cons_of_mem _ hw)
  have hown : s.vm.findClass "PurseHouseModel" = some m.cls := findClass_of_methodNamed B.named
  have hlocks := B.notSynchronized
  have w_166 : ∀ (B_125 : mo_M → Nat → Int32 → Int32 → Int32 → Prop) (hB_125 : ∀ (M : mo_M) (x0 : Nat) (x4 : Int32) (x5 : Int32) (x6 : Int32) (H : Heap) (locs : List Loc) (ls : Array Slot), B_125 M x0 x4 x5 x6 → mo_ok L0 e0 D vwCl (mo_T g) s M H locs → lv_has ls 7 [(0, .ref x0), (4, .int x4), (5, .int x5), (6, .int x6)] → W p l e (headSpec ws_M_thing (mo_R 2 0 0 46)).room s m args below meth c H locs 0 0 (mo_Z below (mo_Qi L0 e0 D vwCl (mo_T g) K) args s 0 0 L0) (F0 m 125 ls [])) (M : mo_M) (x0 : Nat) (x4 : Int32) (x6 : Int32) (s0 : Int32) (s1 : Int32) (H : Heap) (locs : List Loc) (ls : Array Slot), pp_M_thing_b166 g e0 K B_125 M x0 x4 x6 s0 s1 → mo_ok L0 e0 D vwCl (mo_T g) s M H locs → lv_has ls 7 [(0, .ref x0), (4, .int x4), (6, .int x6)] → W p l e (headSpec ws_M_thing (mo_R 2 0 0 46)).room s m args below meth c H locs 0 0 (mo_Z below (mo_Qi L0 e0 D vwCl (mo_T g) K) args s 0 0 L0) (F0 m 166 ls [.int s0, .int s1]) := by
    intro B_125 hB_125 M x0 x4 x6 s0 s1 H locs ls hP hok hl
    unfold pp_M_thing_b166 at hP
    refine lv_iadd hx hb d_M_thing_166 ?_
    refine lv_istore (lv' := [(5, .int ((s1 + s0))), (0, .ref x0), (4, .int x4), (6, .int x6)]) hx hb d_M_thing_167 hl (by decide) rfl (fun ls hl => ?_)
    refine lv_iinc (k := 3) (v := x6 + 1) (lv' := [(6, .int (x6 + 1)), (5, .int ((s1 + s0))), (0, .ref x0), (4, .int x4)]) hx hb d_M_thing_169 hl rfl rfl (by decide) rfl (fun ls hl => ?_)
    refine lv_goto (tgt := 125) hx hb d_M_thing_172 (by decide) ?_
    exact hB_125 _ _ _ _ _ _ _ _ hP hok (lv_sub hl [2, 3, 1, 0] rfl)
  have w_125 : ∀ (n : Nat) (M : mo_M) (x0 : Nat) (x4 : Int32) (x5 : Int32) (x6 : Int32) (H : Heap) (locs : List Loc) (ls : Array Slot), pp_M_thing_b125 g e0 K n M x0 x4 x5 x6 → mo_ok L0 e0 D vwCl (mo_T g) s M H locs → lv_has ls 7 [(0, .ref x0), (4, .int x4), (5, .int x5), (6, .int x6)] → W p l e (headSpec ws_M_thing (mo_R 2 0 0 46)).room s m args below meth c H locs 0 0 (mo_Z below (mo_Qi L0 e0 D vwCl (mo_T g) K) args s 0 0 L0) (F0 m 125 ls []) := by
    intro n
    induction n with
    | zero => intro M x0 x4 x5 x6 H locs ls hP; exact hP.elim
    | succ n ih =>
      intro M x0 x4 x5 x6 H locs ls hP hok hl
      unfold pp_M_thing_b125 at hP
      refine lv_iload hx hb d_M_thing_125 (lv_at hl 3 rfl) ?_
      refine lv_aload_n hx hb d_M_thing_127 rfl (lv_at hl 0 rfl) ?_
      refine mr_gi (C := "PurseHouseModel") (T := F_4) (N := 27) (ref := "PurseHouseModel") hx hb hts hown hok hP ui_4 rfl (by decide) (hts _ wd_635) (fun _ h => h) d_M_thing_128 (fun v18 hP => ?_)
      refine lv_icmp_ge (tgt := 175) hx hb d_M_thing_131 (by decide) (fun hc => ?_) (fun hc => ?_)
      · replace hP := hP.1 hc
        refine lv_iload hx hb d_M_thing_175 (lv_at hl 2 rfl) ?_
        exact mo_iret hx hb hr hlocks hok hP d_M_thing_177
      · replace hP := hP.2 hc
        refine lv_aload_n hx hb d_M_thing_134 rfl (lv_at hl 0 rfl) ?_
        refine mr_gr (C := "PurseHouseModel") (T := F_4) (N := 27) (ref := "PurseHouseModel") hx hb hts hown hok hP ui_4 rfl (by decide) (hts _ wd_628) (fun _ h => h) d_M_thing_135 (fun v19 hP => ?_)
        refine lv_iload hx hb d_M_thing_138 (lv_at hl 1 rfl) ?_
        refine mr_ai hx hb hok hP 0 rfl d_M_thing_140 (fun v20 hP => ?_)
        refine lv_iconst (v := 3) hx hb d_M_thing_141 (by decide) ?_
        refine lv_icmp_eq (tgt := 175) hx hb d_M_thing_142 (by decide) (fun hc => ?_) (fun hc => ?_)
        · replace hP := hP.1 hc
          refine lv_iload hx hb d_M_thing_175 (lv_at hl 2 rfl) ?_
          exact mo_iret hx hb hr hlocks hok hP d_M_thing_177
        · replace hP := hP.2 hc
          refine lv_iload hx hb d_M_thing_145 (lv_at hl 2 rfl) ?_
          refine lv_aload_n hx hb d_M_thing_147 rfl (lv_at hl 0 rfl) ?_
          refine lv_iload hx hb d_M_thing_148 (lv_at hl 1 rfl) ?_
          refine lv_iload hx hb d_M_thing_150 (lv_at hl 3 rfl) ?_
          obtain ⟨⟨fs9, he9⟩, hP⟩ := hP
          refine mo_calli hok (va_runV (As := [.int x4, .int x6]) (rest := [.int x5]) ⟨hx, hb, hml, hown, hts⟩ (cc_M_isMarked l L0 D hP) ⟨(callB_of 2 hts (lw_gi wd_776) rfl rfl rfl (hts _ wd_39) (hts _ wd_773) (by decide +kernel) ⟨Nat.le_of_ble_eq_true rfl, Nat.le_of_ble_eq_true rfl⟩), hts _ wd_775, hts _ wd_25⟩ (mo_preV hok he9 rfl [.int x4, .int x6]) rfl rfl hl.1 rfl (lv_room (Nat.le_of_ble_eq_true rfl)) d_M_thing_152 ⟨Nat.zero_le _, Nat.zero_le _⟩) (fun r22 M21 H locs hP hok => ?_)
          refine lv_if_eq (tgt := 165) hx hb d_M_thing_155 (by decide) (fun hc => ?_) (fun hc => ?_)
          · replace hP := hP.1 hc
            refine lv_iconst (v := 0) hx hb d_M_thing_165 (by decide) ?_
            exact w_166 _ ih _ _ _ _ _ _ _ _ _ hP hok (lv_sub hl [0, 1, 3] rfl)
          · replace hP := hP.2 hc
            refine lv_iconst (v := 1) hx hb d_M_thing_158 (by decide) ?_
            refine lv_iload hx hb d_M_thing_159 (lv_at hl 3 rfl) ?_
            refine lv_ishl hx hb d_M_thing_161 ?_
            refine lv_goto (tgt := 166) hx hb d_M_thing_162 (by decide) ?_
            exact w_166 _ ih _ _ _ _ _ _ _ _ _ hP hok (lv_sub hl [0, 1, 3] rfl)
  have w_48 : ∀ (M : mo_M) (x0 : Nat) (x3 : Int32) (x4 : Int32) (s0 : Int32) (s1 : Nat) (H : Heap) (locs : List Loc) (ls : Array Slot), pp_M_thing_b48 g e0 K M x0 x3 x4 s0 s1 → mo_ok L0 e0 D vwCl (mo_T g) s M H locs → lv_has ls 7 [(0, .ref x0), (3, .int x3), (4, .int x4)] → W p l e (headSpec ws_M_thing (mo_R 2 0 0 46)).room s m args below meth c H locs 0 0 (mo_Z below (mo_Qi L0 e0 D vwCl (mo_T g) K) args s 0 0 L0) (F0 m 48 ls [.int s0, .ref s1]) := by
    intro M x0 x3 x4 s0 s1 H locs ls hP hok hl
    unfold pp_M_thing_b48 at hP
    refine mr_pt (C := "PurseHouseModel") (T := F_4) (N := 27) (ref := "PurseHouseModel") (ty := .int) hx hb hts hown hok hP ui_4 ty_4 th_4 tn_4 rfl (by decide) (hts _ wd_610) (fun _ h => h) rfl (by decide +kernel) rfl rfl d_M_thing_48 (fun M5 H locs hP hok => ?_)
    refine lv_aload_n hx hb d_M_thing_51 rfl (lv_at hl 0 rfl) ?_
    refine mr_gi (C := "PurseHouseModel") (T := F_4) (N := 27) (ref := "PurseHouseModel") hx hb hts hown hok hP ui_4 rfl (by decide) (hts _ wd_610) (fun _ h => h) d_M_thing_52 (fun v6 hP => ?_)
    refine lv_if_le (tgt := 60) hx hb d_M_thing_55 (by decide) (fun hc => ?_) (fun hc => ?_)
    · replace hP := hP.1 hc
      refine lv_iload_n hx hb d_M_thing_60 rfl (lv_at hl 1 rfl) ?_
      refine lv_if_ne (tgt := 72) hx hb d_M_thing_61 (by decide) (fun hc => ?_) (fun hc => ?_)
      · replace hP := hP.2 hc
        refine lv_iload_n hx hb d_M_thing_72 rfl (lv_at hl 1 rfl) ?_
        refine lv_iconst (v := 1) hx hb d_M_thing_73 (by decide) ?_
        refine lv_icmp_ne (tgt := 85) hx hb d_M_thing_74 (by decide) (fun hc => ?_) (fun hc => ?_)
        · replace hP := hP.2 hc
          refine lv_iload_n hx hb d_M_thing_85 rfl (lv_at hl 1 rfl) ?_
          refine lv_iconst (v := 2) hx hb d_M_thing_86 (by decide) ?_
          refine lv_icmp_ne (tgt := 119) hx hb d_M_thing_87 (by decide) (fun hc => ?_) (fun hc => ?_)
          · replace hP := hP.2 hc
            refine lv_iconst (v := 0) hx hb d_M_thing_119 (by decide) ?_
            refine lv_istore (lv' := [(5, .int ((0 : Int32))), (0, .ref x0), (3, .int x3), (4, .int x4)]) hx hb d_M_thing_120 hl (by decide) rfl (fun ls hl => ?_)
            refine lv_iconst (v := 0) hx hb d_M_thing_122 (by decide) ?_
            refine lv_istore (lv' := [(6, .int ((0 : Int32))), (5, .int ((0 : Int32))), (0, .ref x0), (3, .int x3), (4, .int x4)]) hx hb d_M_thing_123 hl (by decide) rfl (fun ls hl => ?_)
            obtain ⟨n7, hP⟩ := hP
            exact w_125  n7 _ _ _ _ _ _ _ _ hP hok (lv_sub hl [2, 4, 1, 0] rfl)
          · replace hP := hP.1 hc
            refine lv_aload_n hx hb d_M_thing_90 rfl (lv_at hl 0 rfl) ?_
            refine mr_gr (C := "PurseHouseModel") (T := F_4) (N := 27) (ref := "PurseHouseModel") hx hb hts hown hok hP ui_4 rfl (by decide) (hts _ wd_628) (fun _ h => h) d_M_thing_91 (fun v8 hP => ?_)
            refine lv_iload hx hb d_M_thing_94 (lv_at hl 2 rfl) ?_
            refine mr_ai hx hb hok hP 0 rfl d_M_thing_96 (fun v9 hP => ?_)
            refine lv_iconst (v := 3) hx hb d_M_thing_97 (by decide) ?_
            refine lv_icmp_ne (tgt := 111) hx hb d_M_thing_98 (by decide) (fun hc => ?_) (fun hc => ?_)
            · replace hP := hP.2 hc
              refine lv_aload_n hx hb d_M_thing_111 rfl (lv_at hl 0 rfl) ?_
              refine mr_gr (C := "PurseHouseModel") (T := F_4) (N := 27) (ref := "PurseHouseModel") hx hb hts hown hok hP ui_4 rfl (by decide) (hts _ wd_631) (fun _ h => h) d_M_thing_112 (fun v10 hP => ?_)
              refine lv_iload hx hb d_M_thing_115 (lv_at hl 2 rfl) ?_
              refine mr_ai hx hb hok hP 0 rfl d_M_thing_117 (fun v11 hP => ?_)
              exact mo_iret hx hb hr hlocks hok hP d_M_thing_118
            · replace hP := hP.1 hc
              refine lv_aload_n hx hb d_M_thing_101 rfl (lv_at hl 0 rfl) ?_
              refine mr_gr (C := "PurseHouseModel") (T := F_4) (N := 27) (ref := "PurseHouseModel") hx hb hts hown hok hP ui_4 rfl (by decide) (hts _ wd_632) (fun _ h => h) d_M_thing_102 (fun v12 hP => ?_)
              refine lv_iload hx hb d_M_thing_105 (lv_at hl 2 rfl) ?_
              refine mr_ai hx hb hok hP 0 rfl d_M_thing_107 (fun v13 hP => ?_)
              refine lv_goto (tgt := 118) hx hb d_M_thing_108 (by decide) ?_
              exact mo_iret hx hb hr hlocks hok hP d_M_thing_118
        · replace hP := hP.1 hc
          refine lv_aload_n hx hb d_M_thing_77 rfl (lv_at hl 0 rfl) ?_
          refine mr_gr (C := "PurseHouseModel") (T := F_4) (N := 27) (ref := "PurseHouseModel") hx hb hts hown hok hP ui_4 rfl (by decide) (hts _ wd_630) (fun _ h => h) d_M_thing_78 (fun v14 hP => ?_)
          refine lv_iload hx hb d_M_thing_81 (lv_at hl 2 rfl) ?_
          refine mr_ai hx hb hok hP 0 rfl d_M_thing_83 (fun v15 hP => ?_)
          exact mo_iret hx hb hr hlocks hok hP d_M_thing_84
      · replace hP := hP.1 hc
        refine lv_aload_n hx hb d_M_thing_64 rfl (lv_at hl 0 rfl) ?_
        refine mr_gr (C := "PurseHouseModel") (T := F_4) (N := 27) (ref := "PurseHouseModel") hx hb hts hown hok hP ui_4 rfl (by decide) (hts _ wd_628) (fun _ h => h) d_M_thing_65 (fun v16 hP => ?_)
        refine lv_iload hx hb d_M_thing_68 (lv_at hl 2 rfl) ?_
        refine mr_ai hx hb hok hP 0 rfl d_M_thing_70 (fun v17 hP => ?_)
        exact mo_iret hx hb hr hlocks hok hP d_M_thing_71
    · replace hP := hP.2 hc
      refine lv_iconst (v := 0) hx hb d_M_thing_58 (by decide) ?_
      exact mo_iret hx hb hr hlocks hok hP d_M_thing_59
  have w_43 : ∀ (M : mo_M) (x0 : Nat) (x3 : Int32) (x4 : Int32) (s0 : Nat) (H : Heap) (locs : List Loc) (ls : Array Slot), pp_M_thing_b43 g e0 K M x0 x3 x4 s0 → mo_ok L0 e0 D vwCl (mo_T g) s M H locs → lv_has ls 7 [(0, .ref x0), (3, .int x3), (4, .int x4)] → W p l e (headSpec ws_M_thing (mo_R 2 0 0 46)).room s m args below meth c H locs 0 0 (mo_Z below (mo_Qi L0 e0 D vwCl (mo_T g) K) args s 0 0 L0) (F0 m 43 ls [.ref s0]) := by
    intro M x0 x3 x4 s0 H locs ls hP hok hl
    unfold pp_M_thing_b43 at hP
    refine lv_iconst (v := 2) hx hb d_M_thing_43 (by decide) ?_
    refine lv_goto (tgt := 48) hx hb d_M_thing_44 (by decide) ?_
    exact w_48  _ _ _ _ _ _ _ _ _ hP hok (lv_sub hl [0, 1, 2] rfl)
  have w_22 : ∀ (M : mo_M) (x0 : Nat) (x3 : Int32) (s0 : Int32) (H : Heap) (locs : List Loc) (ls : Array Slot), pp_M_thing_b22 g e0 K M x0 x3 s0 → mo_ok L0 e0 D vwCl (mo_T g) s M H locs → lv_has ls 7 [(0, .ref x0), (3, .int x3)] → W p l e (headSpec ws_M_thing (mo_R 2 0 0 46)).room s m args below meth c H locs 0 0 (mo_Z below (mo_Qi L0 e0 D vwCl (mo_T g) K) args s 0 0 L0) (F0 m 22 ls [.int s0]) := by
    intro M x0 x3 s0 H locs ls hP hok hl
    unfold pp_M_thing_b22 at hP
    refine lv_istore (lv' := [(4, .int s0), (0, .ref x0), (3, .int x3)]) hx hb d_M_thing_22 hl (by decide) rfl (fun ls hl => ?_)
    refine lv_aload_n hx hb d_M_thing_24 rfl (lv_at hl 1 rfl) ?_
    refine lv_iload hx hb d_M_thing_25 (lv_at hl 0 rfl) ?_
    refine lv_if_ge (tgt := 34) hx hb d_M_thing_27 (by decide) (fun hc => ?_) (fun hc => ?_)
    · replace hP := hP.1 hc
      refine lv_iload_n hx hb d_M_thing_34 rfl (lv_at hl 2 rfl) ?_
      refine lv_if_lt (tgt := 43) hx hb d_M_thing_35 (by decide) (fun hc => ?_) (fun hc => ?_)
      · replace hP := hP.1 hc
        exact w_43  _ _ _ _ _ _ _ _ hP hok (lv_sub hl [1, 2, 0] rfl)
      · replace hP := hP.2 hc
        refine lv_iload_n hx hb d_M_thing_38 rfl (lv_at hl 2 rfl) ?_
        refine lv_iconst (v := 3) hx hb d_M_thing_39 (by decide) ?_
        refine lv_icmp_le (tgt := 47) hx hb d_M_thing_40 (by decide) (fun hc => ?_) (fun hc => ?_)
        · replace hP := hP.1 hc
          refine lv_iconst (v := 0) hx hb d_M_thing_47 (by decide) ?_
          exact w_48  _ _ _ _ _ _ _ _ _ hP hok (lv_sub hl [1, 2, 0] rfl)
        · replace hP := hP.2 hc
          exact w_43  _ _ _ _ _ _ _ _ hP hok (lv_sub hl [1, 2, 0] rfl)
    · replace hP := hP.2 hc
      refine lv_iconst (v := 1) hx hb d_M_thing_30 (by decide) ?_
      refine lv_goto (tgt := 48) hx hb d_M_thing_31 (by decide) ?_
      exact w_48  _ _ _ _ _ _ _ _ _ hP hok (lv_sub hl [1, 2, 0] rfl)
  have w_21 : ∀ (M : mo_M) (x0 : Nat) (x3 : Int32) (H : Heap) (locs : List Loc) (ls : Array Slot), pp_M_thing_b21 g e0 K M x0 x3 → mo_ok L0 e0 D vwCl (mo_T g) s M H locs → lv_has ls 7 [(0, .ref x0), (3, .int x3)] → W p l e (headSpec ws_M_thing (mo_R 2 0 0 46)).room s m args below meth c H locs 0 0 (mo_Z below (mo_Qi L0 e0 D vwCl (mo_T g) K) args s 0 0 L0) (F0 m 21 ls []) := by
    intro M x0 x3 H locs ls hP hok hl
    unfold pp_M_thing_b21 at hP
    refine lv_iconst (v := (-1)) hx hb d_M_thing_21 (by decide) ?_
    exact w_22  _ _ _ _ _ _ _ hP hok (lv_sub hl [0, 1] rfl)
  have hok : mo_ok L0 e0 D vwCl (mo_T g) s M s.heap [] := ⟨hB0.1, hB0.2.1, hB0.2.2, va_S.rf⟩
  have hl := lv_entry ([.ref x0, .int x1, .int x2, .int x3]) (n := 7) (Nat.le_of_ble_eq_true rfl)
  rw [hv1, lg_entry_eq]
  rw [← hv1]
  generalize (lg_sl [.ref x0, .int x1, .int x2, .int x3] ++ List.replicate (7 - (lg_sl [.ref x0, .int x1, .int x2, .int x3]).length) Slot.unset).toArray = ls at hl ⊢
  have hl : lv_has ls 7 [(0, .ref x0), (1, .int x1), (2, .int x2), (3, .int x3)] := hl
  unfold pp_M_thing at hP
  refine lv_aload_n hx hb d_M_thing_0 rfl (lv_at hl 0 rfl) ?_
  refine lv_iload_n hx hb d_M_thing_1 rfl (lv_at hl 1 rfl) ?_
  obtain ⟨⟨fs9, he9⟩, hP⟩ := hP
  refine mo_calli hok (va_runV (As := [.int x1]) (rest := []) ⟨hx, hb, hml, hown, hts⟩ (cc_M_isLink l L0 D hP) ⟨(callB_of 1 hts (lw_gi wd_748) rfl rfl rfl (hts _ wd_39) (hts _ wd_745) (by decide +kernel) ⟨Nat.le_of_ble_eq_true rfl, Nat.le_of_ble_eq_true rfl⟩), hts _ wd_747, hts _ wd_19⟩ (mo_preV hok he9 rfl [.int x1]) rfl rfl hl.1 rfl (lv_room (Nat.le_of_ble_eq_true rfl)) d_M_thing_2 ⟨Nat.zero_le _, Nat.zero_le _⟩) (fun r2 M1 H locs hP hok => ?_)
  refine lv_if_eq (tgt := 21) hx hb d_M_thing_5 (by decide) (fun hc => ?_) (fun hc => ?_)
  · replace hP := hP.1 hc
    exact w_21  _ _ _ _ _ _ hP hok (lv_sub hl [0, 3] rfl)
  · replace hP := hP.2 hc
    refine lv_iload_n hx hb d_M_thing_8 rfl (lv_at hl 2 rfl) ?_
    refine lv_if_lt (tgt := 21) hx hb d_M_thing_9 (by decide) (fun hc => ?_) (fun hc => ?_)
    · replace hP := hP.1 hc
      exact w_21  _ _ _ _ _ _ hP hok (lv_sub hl [0, 3] rfl)
    · replace hP := hP.2 hc
      refine lv_aload_n hx hb d_M_thing_12 rfl (lv_at hl 0 rfl) ?_
      refine lv_iload_n hx hb d_M_thing_13 rfl (lv_at hl 1 rfl) ?_
      refine lv_iload_n hx hb d_M_thing_14 rfl (lv_at hl 2 rfl) ?_
      obtain ⟨⟨fs9, he9⟩, hP⟩ := hP
      refine mo_calli hok (va_runV (As := [.int x1, .int x2]) (rest := []) ⟨hx, hb, hml, hown, hts⟩ (cc_M_thingAt l L0 D hP) ⟨(callB_of 2 hts (lw_gi wd_764) rfl rfl rfl (hts _ wd_39) (hts _ wd_761) (by decide +kernel) ⟨Nat.le_of_ble_eq_true rfl, Nat.le_of_ble_eq_true rfl⟩), hts _ wd_763, hts _ wd_22⟩ (mo_preV hok he9 rfl [.int x1, .int x2]) rfl rfl hl.1 rfl (lv_room (Nat.le_of_ble_eq_true rfl)) d_M_thing_15 ⟨Nat.zero_le _, Nat.zero_le _⟩) (fun r4 M3 H locs hP hok => ?_)
      refine lv_goto (tgt := 22) hx hb d_M_thing_18 (by decide) ?_
      exact w_22  _ _ _ _ _ _ _ hP hok (lv_sub hl [0, 3] rfl)

abbrev b_M_isNumber : ByteArray := prog_6_method_6_code
def y_M_isNumber : MethodName := ⟨"PurseHouseModel", "isNumber", "(I)Z"⟩
def ws_M_isNumber : List Cond := .code y_M_isNumber b_M_isNumber 2 (Option.some Jvm.ClassFile.FieldType.boolean) :: lw_g
theorem d_M_isNumber_0 : decode b_M_isNumber 0 = .ok (.iload_n 1, 1) := by decide +kernel
theorem d_M_isNumber_1 : decode b_M_isNumber 1 = .ok (.ifCond .lt 15, 3) := by decide +kernel
theorem d_M_isNumber_4 : decode b_M_isNumber 4 = .ok (.iload_n 1, 1) := by decide +kernel
theorem d_M_isNumber_5 : decode b_M_isNumber 5 = .ok (.aload_n 0, 1) := by decide +kernel
theorem d_M_isNumber_6 : decode b_M_isNumber 6 = .ok (.getfield 82, 3) := by decide +kernel
theorem d_M_isNumber_9 : decode b_M_isNumber 9 = .ok (.if_icmp .ge 7, 3) := by decide +kernel
theorem d_M_isNumber_12 : decode b_M_isNumber 12 = .ok (.iconst 1, 1) := by decide +kernel
theorem d_M_isNumber_13 : decode b_M_isNumber 13 = .ok (.goto 4, 3) := by decide +kernel
theorem d_M_isNumber_16 : decode b_M_isNumber 16 = .ok (.iconst 0, 1) := by decide +kernel
theorem d_M_isNumber_17 : decode b_M_isNumber 17 = .ok (.ireturn, 1) := by decide +kernel
def pp_M_isNumber (g : Nat → ClassId) (e0 : Nat → Nat) (K : Int32 → mo_M → Prop) (M : mo_M) (x0 : Nat) (x1 : Int32) : Prop := ((x1 < 0 → (narrow .boolean (.int ((0 : Int32))) = .int ((0 : Int32)) ∧ K ((0 : Int32)) M)) ∧ (¬ (x1 < 0) → mp_gi M x0 4 25 (fun v1 => ((v1 ≤ x1 → (narrow .boolean (.int ((0 : Int32))) = .int ((0 : Int32)) ∧ K ((0 : Int32)) M)) ∧ (¬ (v1 ≤ x1) → (narrow .boolean (.int ((1 : Int32))) = .int ((1 : Int32)) ∧ K ((1 : Int32)) M))))))
set_option maxHeartbeats 4000000 in
set_option maxRecDepth 100000 in
theorem cc_M_isNumber (l : Launch) (L0 : Nat) (D : va_G) {g : Nat → ClassId} {e0 : Nat → Nat} {K : Int32 → mo_M → Prop} {M : mo_M} {x0 : Nat} {x1 : Int32} (hP : pp_M_isNumber g e0 K M x0 x1) : Met l y_M_isNumber ws_M_isNumber (mo_R 0 0 0 0) (va_Pc [.ref x0, .int x1] (fun U => mo_B L0 e0 D vwCl (mo_T g) M U)) (mo_Qi L0 e0 D vwCl (mo_T g) K) 0 0 (fun q => L0 ≤ q) := by
  refine Met.ofW (cc := b_M_isNumber) (maxL := 2) (ret := (Option.some Jvm.ClassFile.FieldType.boolean)) (by decide +kernel) rfl ?_
  intro p e s m args below meth c s₁ B hml hv
  obtain ⟨hv1, hB0⟩ := hv
  have hx := B.exec
  have hb := B.bytes
  have hr := B.returns
  have hts : ∀ w ∈ lw_g, w.before args s = true := fun w hw => atoms_spec (ws := ws_M_isNumber) B.pre w (List.mem_cons_of_mem _ hw)
  have hown : s.vm.findClass "PurseHouseModel" = some m.cls := findClass_of_methodNamed B.named
  have hlocks := B.notSynchronized
  have hok : mo_ok L0 e0 D vwCl (mo_T g) s M s.heap [] := ⟨hB0.1, hB0.2.1, hB0.2.2, va_S.rf⟩
  have hl := lv_entry ([.ref x0, .int x1]) (n := 2) (Nat.le_of_ble_eq_true rfl)
  rw [hv1, lg_entry_eq]
  rw [← hv1]
  generalize (lg_sl [.ref x0, .int x1] ++ List.replicate (2 - (lg_sl [.ref x0, .int x1]).length) Slot.unset).toArray = ls at hl ⊢
  have hl : lv_has ls 2 [(0, .ref x0), (1, .int x1)] := hl
  unfold pp_M_isNumber at hP
  refine lv_iload_n hx hb d_M_isNumber_0 rfl (lv_at hl 1 rfl) ?_
  refine lv_if_lt (tgt := 16) hx hb d_M_isNumber_1 (by decide) (fun hc => ?_) (fun hc => ?_)
  · replace hP := hP.1 hc
    refine lv_iconst (v := 0) hx hb d_M_isNumber_16 (by decide) ?_
    exact mo_zret hx hb hr hlocks hok hP d_M_isNumber_17
  · replace hP := hP.2 hc
    refine lv_iload_n hx hb d_M_isNumber_4 rfl (lv_at hl 1 rfl) ?_
    refine lv_aload_n hx hb d_M_isNumber_5 rfl (lv_at hl 0 rfl) ?_
    refine mr_gi (C := "PurseHouseModel") (T := F_4) (N := 27) (ref := "PurseHouseModel") hx hb hts hown hok hP ui_4 rfl (by decide) (hts _ wd_635) (fun _ h => h) d_M_isNumber_6 (fun v1 hP => ?_)
    refine lv_icmp_ge (tgt := 16) hx hb d_M_isNumber_9 (by decide) (fun hc => ?_) (fun hc => ?_)
    · replace hP := hP.1 hc
      refine lv_iconst (v := 0) hx hb d_M_isNumber_16 (by decide) ?_
      exact mo_zret hx hb hr hlocks hok hP d_M_isNumber_17
    · replace hP := hP.2 hc
      refine lv_iconst (v := 1) hx hb d_M_isNumber_12 (by decide) ?_
      refine lv_goto (tgt := 17) hx hb d_M_isNumber_13 (by decide) ?_
      exact mo_zret hx hb hr hlocks hok hP d_M_isNumber_17

abbrev b_M_recorded : ByteArray := prog_6_method_31_code
def y_M_recorded : MethodName := ⟨"PurseHouseModel", "recorded", "(II)Z"⟩
def ws_M_recorded : List Cond := .code y_M_recorded b_M_recorded 3 (Option.some Jvm.ClassFile.FieldType.boolean) :: lw_g
theorem d_M_recorded_0 : decode b_M_recorded 0 = .ok (.aload_n 0, 1) := by decide +kernel
theorem d_M_recorded_1 : decode b_M_recorded 1 = .ok (.iconst 0, 1) := by decide +kernel
theorem d_M_recorded_2 : decode b_M_recorded 2 = .ok (.putfield 76, 3) := by decide +kernel
theorem d_M_recorded_5 : decode b_M_recorded 5 = .ok (.aload_n 0, 1) := by decide +kernel
theorem d_M_recorded_6 : decode b_M_recorded 6 = .ok (.iload_n 1, 1) := by decide +kernel
theorem d_M_recorded_7 : decode b_M_recorded 7 = .ok (.invokevirtual 146, 3) := by decide +kernel
theorem d_M_recorded_10 : decode b_M_recorded 10 = .ok (.ifCond .eq 24, 3) := by decide +kernel
theorem d_M_recorded_13 : decode b_M_recorded 13 = .ok (.aload_n 0, 1) := by decide +kernel
theorem d_M_recorded_14 : decode b_M_recorded 14 = .ok (.iload_n 2, 1) := by decide +kernel
theorem d_M_recorded_15 : decode b_M_recorded 15 = .ok (.invokevirtual 86, 3) := by decide +kernel
theorem d_M_recorded_18 : decode b_M_recorded 18 = .ok (.ifCond .eq 16, 3) := by decide +kernel
theorem d_M_recorded_21 : decode b_M_recorded 21 = .ok (.aload_n 0, 1) := by decide +kernel
theorem d_M_recorded_22 : decode b_M_recorded 22 = .ok (.iload_n 1, 1) := by decide +kernel
theorem d_M_recorded_23 : decode b_M_recorded 23 = .ok (.iload_n 2, 1) := by decide +kernel
theorem d_M_recorded_24 : decode b_M_recorded 24 = .ok (.invokevirtual 122, 3) := by decide +kernel
theorem d_M_recorded_27 : decode b_M_recorded 27 = .ok (.ifCond .le 7, 3) := by decide +kernel
theorem d_M_recorded_30 : decode b_M_recorded 30 = .ok (.iconst 1, 1) := by decide +kernel
theorem d_M_recorded_31 : decode b_M_recorded 31 = .ok (.goto 4, 3) := by decide +kernel
theorem d_M_recorded_34 : decode b_M_recorded 34 = .ok (.iconst 0, 1) := by decide +kernel
theorem d_M_recorded_35 : decode b_M_recorded 35 = .ok (.ireturn, 1) := by decide +kernel
def pp_M_recorded (g : Nat → ClassId) (e0 : Nat → Nat) (K : Int32 → mo_M → Prop) (M : mo_M) (x0 : Nat) (x1 : Int32) (x2 : Int32) : Prop := mp_pt M x0 4 0 (.int ((0 : Int32))) (fun M1 => (mp_is M1 x0 4 ∧ pp_M_isNumber g e0 (fun r3 M2 => ((r3 = 0 → (narrow .boolean (.int ((0 : Int32))) = .int ((0 : Int32)) ∧ K ((0 : Int32)) M2)) ∧ (¬ (r3 = 0) → (mp_is M2 x0 4 ∧ pp_M_isKiosk g e0 (fun r5 M4 => ((r5 = 0 → (narrow .boolean (.int ((0 : Int32))) = .int ((0 : Int32)) ∧ K ((0 : Int32)) M4)) ∧ (¬ (r5 = 0) → (mp_is M4 x0 4 ∧ pp_M_recording g e0 (fun r7 M6 => ((r7 ≤ 0 → (narrow .boolean (.int ((0 : Int32))) = .int ((0 : Int32)) ∧ K ((0 : Int32)) M6)) ∧ (¬ (r7 ≤ 0) → (narrow .boolean (.int ((1 : Int32))) = .int ((1 : Int32)) ∧ K ((1 : Int32)) M6)))) M4 x0 x1 x2)))) M2 x0 x2)))) M1 x0 x1))
set_option maxHeartbeats 4000000 in
set_option maxRecDepth 100000 in
theorem cc_M_recorded (l : Launch) (L0 : Nat) (D : va_G) {g : Nat → ClassId} {e0 : Nat → Nat} {K : Int32 → mo_M → Prop} {M : mo_M} {x0 : Nat} {x1 : Int32} {x2 : Int32} (hP : pp_M_recorded g e0 K M x0 x1 x2) : Met l y_M_recorded ws_M_recorded (mo_R 1 0 0 22) (va_Pc [.ref x0, .int x1, .int x2] (fun U => mo_B L0 e0 D vwCl (mo_T g) M U)) (mo_Qi L0 e0 D vwCl (mo_T g) K) 0 0 (fun q => L0 ≤ q) := by
  refine Met.ofW (cc := b_M_recorded) (maxL := 3) (ret := (Option.some Jvm.ClassFile.FieldType.boolean)) (by decide +kernel) rfl ?_
  intro p e s m args below meth c s₁ B hml hv
  obtain ⟨hv1, hB0⟩ := hv
  have hx := B.exec
  have hb := B.bytes
  have hr := B.returns
  have hts : ∀ w ∈ lw_g, w.before args s = true := fun w hw => atoms_spec (ws := ws_M_recorded) B.pre w (List.mem_cons_of_mem _ hw)
  have hown : s.vm.findClass "PurseHouseModel" = some m.cls := findClass_of_methodNamed B.named
  have hlocks := B.notSynchronized
  have hok : mo_ok L0 e0 D vwCl (mo_T g) s M s.heap [] := ⟨hB0.1, hB0.2.1, hB0.2.2, va_S.rf⟩
  have hl := lv_entry ([.ref x0, .int x1, .int x2]) (n := 3) (Nat.le_of_ble_eq_true rfl)
  rw [hv1, lg_entry_eq]
  rw [← hv1]
  generalize (lg_sl [.ref x0, .int x1, .int x2] ++ List.replicate (3 - (lg_sl [.ref x0, .int x1, .int x2]).length) Slot.unset).toArray = ls at hl ⊢
  have hl : lv_has ls 3 [(0, .ref x0), (1, .int x1), (2, .int x2)] := hl
  unfold pp_M_recorded at hP
  refine lv_aload_n hx hb d_M_recorded_0 rfl (lv_at hl 0 rfl) ?_
  refine lv_iconst (v := 0) hx hb d_M_recorded_1 (by decide) ?_
  refine mr_pt (C := "PurseHouseModel") (T := F_4) (N := 27) (ref := "PurseHouseModel") (ty := .int) hx hb hts hown hok hP ui_4 ty_4 th_4 tn_4 rfl (by decide) (hts _ wd_610) (fun _ h => h) rfl (by decide +kernel) rfl rfl d_M_recorded_2 (fun M1 H locs hP hok => ?_)
  refine lv_aload_n hx hb d_M_recorded_5 rfl (lv_at hl 0 rfl) ?_
  refine lv_iload_n hx hb d_M_recorded_6 rfl (lv_at hl 1 rfl) ?_
  obtain ⟨⟨fs9, he9⟩, hP⟩ := hP
  refine mo_calli hok (va_runV (As := [.int x1]) (rest := []) ⟨hx, hb, hml, hown, hts⟩ (cc_M_isNumber l L0 D hP) ⟨(callB_of 1 hts (lw_gi wd_808) rfl rfl rfl (hts _ wd_39) (hts _ wd_805) (by decide +kernel) ⟨Nat.le_of_ble_eq_true rfl, Nat.le_of_ble_eq_true rfl⟩), hts _ wd_807, hts _ wd_27⟩ (mo_preV hok he9 rfl [.int x1]) rfl rfl hl.1 rfl (lv_room (Nat.le_of_ble_eq_true rfl)) d_M_recorded_7 ⟨Nat.zero_le _, Nat.zero_le _⟩) (fun r3 M2 H locs hP hok => ?_)
  refine lv_if_eq (tgt := 34) hx hb d_M_recorded_10 (by decide) (fun hc => ?_) (fun hc => ?_)
  · replace hP := hP.1 hc
    refine lv_iconst (v := 0) hx hb d_M_recorded_34 (by decide) ?_
    exact mo_zret hx hb hr hlocks hok hP d_M_recorded_35
  · replace hP := hP.2 hc
    refine lv_aload_n hx hb d_M_recorded_13 rfl (lv_at hl 0 rfl) ?_
    refine lv_iload_n hx hb d_M_recorded_14 rfl (lv_at hl 2 rfl) ?_
    obtain ⟨⟨fs9, he9⟩, hP⟩ := hP
    refine mo_calli hok (va_runV (As := [.int x2]) (rest := []) ⟨hx, hb, hml, hown, hts⟩ (cc_M_isKiosk l L0 D hP) ⟨(callB_of 1 hts (lw_gi wd_704) rfl rfl rfl (hts _ wd_39) (hts _ wd_701) (by decide +kernel) ⟨Nat.le_of_ble_eq_true rfl, Nat.le_of_ble_eq_true rfl⟩), hts _ wd_703, hts _ wd_15⟩ (mo_preV hok he9 rfl [.int x2]) rfl rfl hl.1 rfl (lv_room (Nat.le_of_ble_eq_true rfl)) d_M_recorded_15 ⟨Nat.zero_le _, Nat.zero_le _⟩) (fun r5 M4 H locs hP hok => ?_)
    refine lv_if_eq (tgt := 34) hx hb d_M_recorded_18 (by decide) (fun hc => ?_) (fun hc => ?_)
    · replace hP := hP.1 hc
      refine lv_iconst (v := 0) hx hb d_M_recorded_34 (by decide) ?_
      exact mo_zret hx hb hr hlocks hok hP d_M_recorded_35
    · replace hP := hP.2 hc
      refine lv_aload_n hx hb d_M_recorded_21 rfl (lv_at hl 0 rfl) ?_
      refine lv_iload_n hx hb d_M_recorded_22 rfl (lv_at hl 1 rfl) ?_
      refine lv_iload_n hx hb d_M_recorded_23 rfl (lv_at hl 2 rfl) ?_
      obtain ⟨⟨fs9, he9⟩, hP⟩ := hP
      refine mo_calli hok (va_runV (As := [.int x1, .int x2]) (rest := []) ⟨hx, hb, hml, hown, hts⟩ (cc_M_recording l L0 D hP) ⟨(callB_of 2 hts (lw_gi wd_772) rfl rfl rfl (hts _ wd_39) (hts _ wd_769) (by decide +kernel) ⟨Nat.le_of_ble_eq_true rfl, Nat.le_of_ble_eq_true rfl⟩), hts _ wd_771, hts _ wd_24⟩ (mo_preV hok he9 rfl [.int x1, .int x2]) rfl rfl hl.1 rfl (lv_room (Nat.le_of_ble_eq_true rfl)) d_M_recorded_24 ⟨Nat.zero_le _, Nat.zero_le _⟩) (fun r7 M6 H locs hP hok => ?_)
      refine lv_if_le (tgt := 34) hx hb d_M_recorded_27 (by decide) (fun hc => ?_) (fun hc => ?_)
      · replace hP := hP.1 hc
        refine lv_iconst (v := 0) hx hb d_M_recorded_34 (by decide) ?_
        exact mo_zret hx hb hr hlocks hok hP d_M_recorded_35
      · replace hP := hP.2 hc
        refine lv_iconst (v := 1) hx hb d_M_recorded_30 (by decide) ?_
        refine lv_goto (tgt := 35) hx hb d_M_recorded_31 (by decide) ?_
        exact mo_zret hx hb hr hlocks hok hP d_M_recorded_35

abbrev b_M_markerAt : ByteArray := prog_6_method_32_code
def y_M_markerAt : MethodName := ⟨"PurseHouseModel", "markerAt", "(II)I"⟩
def ws_M_markerAt : List Cond := .code y_M_markerAt b_M_markerAt 4 (Option.some Jvm.ClassFile.FieldType.int) :: lw_g
theorem d_M_markerAt_0 : decode b_M_markerAt 0 = .ok (.iconst 0, 1) := by decide +kernel
theorem d_M_markerAt_1 : decode b_M_markerAt 1 = .ok (.istore_n 3, 1) := by decide +kernel
theorem d_M_markerAt_2 : decode b_M_markerAt 2 = .ok (.iload_n 3, 1) := by decide +kernel
theorem d_M_markerAt_3 : decode b_M_markerAt 3 = .ok (.aload_n 0, 1) := by decide +kernel
theorem d_M_markerAt_4 : decode b_M_markerAt 4 = .ok (.getfield 115, 3) := by decide +kernel
theorem d_M_markerAt_7 : decode b_M_markerAt 7 = .ok (.if_icmp .ge 46, 3) := by decide +kernel
theorem d_M_markerAt_10 : decode b_M_markerAt 10 = .ok (.aload_n 0, 1) := by decide +kernel
theorem d_M_markerAt_11 : decode b_M_markerAt 11 = .ok (.getfield 51, 3) := by decide +kernel
theorem d_M_markerAt_14 : decode b_M_markerAt 14 = .ok (.iload_n 3, 1) := by decide +kernel
theorem d_M_markerAt_15 : decode b_M_markerAt 15 = .ok (.iaload, 1) := by decide +kernel
theorem d_M_markerAt_16 : decode b_M_markerAt 16 = .ok (.iload_n 2, 1) := by decide +kernel
theorem d_M_markerAt_17 : decode b_M_markerAt 17 = .ok (.if_icmp .ne 30, 3) := by decide +kernel
theorem d_M_markerAt_20 : decode b_M_markerAt 20 = .ok (.aload_n 0, 1) := by decide +kernel
theorem d_M_markerAt_21 : decode b_M_markerAt 21 = .ok (.getfield 48, 3) := by decide +kernel
theorem d_M_markerAt_24 : decode b_M_markerAt 24 = .ok (.iload_n 3, 1) := by decide +kernel
theorem d_M_markerAt_25 : decode b_M_markerAt 25 = .ok (.iaload, 1) := by decide +kernel
theorem d_M_markerAt_26 : decode b_M_markerAt 26 = .ok (.iconst 3, 1) := by decide +kernel
theorem d_M_markerAt_27 : decode b_M_markerAt 27 = .ok (.if_icmp .ne 20, 3) := by decide +kernel
theorem d_M_markerAt_30 : decode b_M_markerAt 30 = .ok (.aload_n 0, 1) := by decide +kernel
theorem d_M_markerAt_31 : decode b_M_markerAt 31 = .ok (.getfield 60, 3) := by decide +kernel
theorem d_M_markerAt_34 : decode b_M_markerAt 34 = .ok (.iload_n 3, 1) := by decide +kernel
theorem d_M_markerAt_35 : decode b_M_markerAt 35 = .ok (.iaload, 1) := by decide +kernel
theorem d_M_markerAt_36 : decode b_M_markerAt 36 = .ok (.iload_n 1, 1) := by decide +kernel
theorem d_M_markerAt_37 : decode b_M_markerAt 37 = .ok (.if_icmp .ne 10, 3) := by decide +kernel
theorem d_M_markerAt_40 : decode b_M_markerAt 40 = .ok (.aload_n 0, 1) := by decide +kernel
theorem d_M_markerAt_41 : decode b_M_markerAt 41 = .ok (.getfield 66, 3) := by decide +kernel
theorem d_M_markerAt_44 : decode b_M_markerAt 44 = .ok (.iload_n 3, 1) := by decide +kernel
theorem d_M_markerAt_45 : decode b_M_markerAt 45 = .ok (.iaload, 1) := by decide +kernel
theorem d_M_markerAt_46 : decode b_M_markerAt 46 = .ok (.ireturn, 1) := by decide +kernel
theorem d_M_markerAt_47 : decode b_M_markerAt 47 = .ok (.iinc 3 1, 3) := by decide +kernel
theorem d_M_markerAt_50 : decode b_M_markerAt 50 = .ok (.goto (-48), 3) := by decide +kernel
theorem d_M_markerAt_53 : decode b_M_markerAt 53 = .ok (.iconst 0, 1) := by decide +kernel
theorem d_M_markerAt_54 : decode b_M_markerAt 54 = .ok (.ireturn, 1) := by decide +kernel
def pp_M_markerAt_b47 (g : Nat → ClassId) (e0 : Nat → Nat) (K : Int32 → mo_M → Prop) (B_2 : mo_M → Nat → Int32 → Int32 → Int32 → Prop) (M : mo_M) (x0 : Nat) (x1 : Int32) (x2 : Int32) (x3 : Int32) : Prop := B_2 M x0 x1 x2 (x3 + 1)
def pp_M_markerAt_b2 (g : Nat → ClassId) (e0 : Nat → Nat) (K : Int32 → mo_M → Prop) : Nat → mo_M → Nat → Int32 → Int32 → Int32 → Prop
  | 0, _, _, _, _, _ => False
  | n + 1, M, x0, x1, x2, x3 => mp_gi M x0 4 17 (fun v2 => ((v2 ≤ x3 → K ((0 : Int32)) M) ∧ (¬ (v2 ≤ x3) → mp_gr M x0 4 19 (fun v3 => mp_ai (g 0) M v3 x3 (fun v4 => ((v4 = x2 → mp_gr M x0 4 18 (fun v5 => mp_ai (g 0) M v5 x3 (fun v6 => ((v6 = ((3 : Int32)) → mp_gr M x0 4 22 (fun v7 => mp_ai (g 0) M v7 x3 (fun v8 => ((v8 = x1 → mp_gr M x0 4 24 (fun v9 => mp_ai (g 0) M v9 x3 (fun v10 => K v10 M))) ∧ (¬ (v8 = x1) → pp_M_markerAt_b47 g e0 K (fun M x0 x1 x2 x3 => pp_M_markerAt_b2 g e0 K n M x0 x1 x2 x3) M x0 x1 x2 x3))))) ∧ (¬ (v6 = ((3 : Int32))) → pp_M_markerAt_b47 g e0 K (fun M x0 x1 x2 x3 => pp_M_markerAt_b2 g e0 K n M x0 x1 x2 x3) M x0 x1 x2 x3))))) ∧ (¬ (v4 = x2) → pp_M_markerAt_b47 g e0 K (fun M x0 x1 x2 x3 => pp_M_markerAt_b2 g e0 K n M x0 x1 x2 x3) M x0 x1 x2 x3)))))))
def pp_M_markerAt (g : Nat → ClassId) (e0 : Nat → Nat) (K : Int32 → mo_M → Prop) (M : mo_M) (x0 : Nat) (x1 : Int32) (x2 : Int32) : Prop := ∃ n1 : Nat, pp_M_markerAt_b2 g e0 K n1 M x0 x1 x2 ((0 : Int32))
set_option maxHeartbeats 4000000 in
set_option maxRecDepth 100000 in
theorem cc_M_markerAt (l : Launch) (L0 : Nat) (D : va_G) {g : Nat → ClassId} {e0 : Nat → Nat} {K : Int32 → mo_M → Prop} {M : mo_M} {x0 : Nat} {x1 : Int32} {x2 : Int32} (hP : pp_M_markerAt g e0 K M x0 x1 x2) : Met l y_M_markerAt ws_M_markerAt (mo_R 0 0 0 0) (va_Pc [.ref x0, .int x1, .int x2] (fun U => mo_B L0 e0 D vwCl (mo_T g) M U)) (mo_Qi L0 e0 D vwCl (mo_T g) K) 0 0 (fun q => L0 ≤ q) := by
  refine Met.ofW (cc := b_M_markerAt) (maxL := 4) (ret := (Option.some Jvm.ClassFile.FieldType.int)) (by decide +kernel) rfl ?_
  intro p e s m args below meth c s₁ B hml hv
  obtain ⟨hv1, hB0⟩ := hv
  have hx := B.exec
  have hb := B.bytes
  have hr := B.returns
  have hts : ∀ w ∈ lw_g, w.before args s = true := fun w hw => atoms_spec (ws := ws_M_markerAt) B.pre w (List.mem_cons_of_mem _ hw)
  have hown : s.vm.findClass "PurseHouseModel" = some m.cls := findClass_of_methodNamed B.named
  have hlocks := B.notSynchronized
  have w_47 : ∀ (B_2 : mo_M → Nat → Int32 → Int32 → Int32 → Prop) (hB_2 : ∀ (M : mo_M) (x0 : Nat) (x1 : Int32) (x2 : Int32) (x3 : Int32) (H : Heap) (locs : List Loc) (ls : Array Slot), B_2 M x0 x1 x2 x3 → mo_ok L0 e0 D vwCl (mo_T g) s M H locs → lv_has ls 4 [(0, .ref x0), (1, .int x1), (2, .int x2), (3, .int x3)] → W p l e (headSpec ws_M_markerAt (mo_R 0 0 0 0)).room s m args below meth c H locs 0 0 (mo_Z below (mo_Qi L0 e0 D vwCl (mo_T g) K) args s 0 0 L0) (F0 m 2 ls [])) (M : mo_M) (x0 : Nat) (x1 : Int32) (x2 : Int32) (x3 : Int32) (H : Heap) (locs : List Loc) (ls : Array Slot), pp_M_markerAt_b47 g e0 K B_2 M x0 x1 x2 x3 → mo_ok L0 e0 D vwCl (mo_T g) s M H locs → lv_has ls 4 [(0, .ref x0), (1, .int x1), (2, .int x2), (3, .int x3)] → W p l e (headSpec ws_M_markerAt (mo_R 0 0 0 0)).room s m args below meth c H locs 0 0 (mo_Z below (mo_Qi L0 e0 D vwCl (mo_T g) K) args s 0 0 L0) (F0 m 47 ls []) := by
    intro B_2 hB_2 M x0 x1 x2 x3 H locs ls hP hok hl
    unfold pp_M_markerAt_b47 at hP
    refine lv_iinc (k := 3) (v := x3 + 1) (lv' := [(3, .int (x3 + 1)), (0, .ref x0), (1, .int x1), (2, .int x2)]) hx hb d_M_markerAt_47 hl rfl rfl (by decide) rfl (fun ls hl => ?_)
    refine lv_goto (tgt := 2) hx hb d_M_markerAt_50 (by decide) ?_
    exact hB_2 _ _ _ _ _ _ _ _ hP hok (lv_sub hl [1, 2, 3, 0] rfl)
  have w_2 : ∀ (n : Nat) (M : mo_M) (x0 : Nat) (x1 : Int32) (x2 : Int32) (x3 : Int32) (H : Heap) (locs : List Loc) (ls : Array Slot), pp_M_markerAt_b2 g e0 K n M x0 x1 x2 x3 → mo_ok L0 e0 D vwCl (mo_T g) s M H locs → lv_has ls 4 [(0, .ref x0), (1, .int x1), (2, .int x2), (3, .int x3)] → W p l e (headSpec ws_M_markerAt (mo_R 0 0 0 0)).room s m args below meth c H locs 0 0 (mo_Z below (mo_Qi L0 e0 D vwCl (mo_T g) K) args s 0 0 L0) (F0 m 2 ls []) := by
    intro n
    induction n with
    | zero => intro M x0 x1 x2 x3 H locs ls hP; exact hP.elim
    | succ n ih =>
      intro M x0 x1 x2 x3 H locs ls hP hok hl
      unfold pp_M_markerAt_b2 at hP
      refine lv_iload_n hx hb d_M_markerAt_2 rfl (lv_at hl 3 rfl) ?_
      refine lv_aload_n hx hb d_M_markerAt_3 rfl (lv_at hl 0 rfl) ?_
      refine mr_gi (C := "PurseHouseModel") (T := F_4) (N := 27) (ref := "PurseHouseModel") hx hb hts hown hok hP ui_4 rfl (by decide) (hts _ wd_627) (fun _ h => h) d_M_markerAt_4 (fun v2 hP => ?_)
      refine lv_icmp_ge (tgt := 53) hx hb d_M_markerAt_7 (by decide) (fun hc => ?_) (fun hc => ?_)
      · replace hP := hP.1 hc
        refine lv_iconst (v := 0) hx hb d_M_markerAt_53 (by decide) ?_
        exact mo_iret hx hb hr hlocks hok hP d_M_markerAt_54
      · replace hP := hP.2 hc
        refine lv_aload_n hx hb d_M_markerAt_10 rfl (lv_at hl 0 rfl) ?_
        refine mr_gr (C := "PurseHouseModel") (T := F_4) (N := 27) (ref := "PurseHouseModel") hx hb hts hown hok hP ui_4 rfl (by decide) (hts _ wd_629) (fun _ h => h) d_M_markerAt_11 (fun v3 hP => ?_)
        refine lv_iload_n hx hb d_M_markerAt_14 rfl (lv_at hl 3 rfl) ?_
        refine mr_ai hx hb hok hP 0 rfl d_M_markerAt_15 (fun v4 hP => ?_)
        refine lv_iload_n hx hb d_M_markerAt_16 rfl (lv_at hl 2 rfl) ?_
        refine lv_icmp_ne (tgt := 47) hx hb d_M_markerAt_17 (by decide) (fun hc => ?_) (fun hc => ?_)
        · replace hP := hP.2 hc
          exact w_47 _ ih _ _ _ _ _ _ _ _ hP hok (lv_sub hl [0, 1, 2, 3] rfl)
        · replace hP := hP.1 hc
          refine lv_aload_n hx hb d_M_markerAt_20 rfl (lv_at hl 0 rfl) ?_
          refine mr_gr (C := "PurseHouseModel") (T := F_4) (N := 27) (ref := "PurseHouseModel") hx hb hts hown hok hP ui_4 rfl (by decide) (hts _ wd_628) (fun _ h => h) d_M_markerAt_21 (fun v5 hP => ?_)
          refine lv_iload_n hx hb d_M_markerAt_24 rfl (lv_at hl 3 rfl) ?_
          refine mr_ai hx hb hok hP 0 rfl d_M_markerAt_25 (fun v6 hP => ?_)
          refine lv_iconst (v := 3) hx hb d_M_markerAt_26 (by decide) ?_
          refine lv_icmp_ne (tgt := 47) hx hb d_M_markerAt_27 (by decide) (fun hc => ?_) (fun hc => ?_)
          · replace hP := hP.2 hc
            exact w_47 _ ih _ _ _ _ _ _ _ _ hP hok (lv_sub hl [0, 1, 2, 3] rfl)
          · replace hP := hP.1 hc
            refine lv_aload_n hx hb d_M_markerAt_30 rfl (lv_at hl 0 rfl) ?_
            refine mr_gr (C := "PurseHouseModel") (T := F_4) (N := 27) (ref := "PurseHouseModel") hx hb hts hown hok hP ui_4 rfl (by decide) (hts _ wd_632) (fun _ h => h) d_M_markerAt_31 (fun v7 hP => ?_)
            refine lv_iload_n hx hb d_M_markerAt_34 rfl (lv_at hl 3 rfl) ?_
            refine mr_ai hx hb hok hP 0 rfl d_M_markerAt_35 (fun v8 hP => ?_)
            refine lv_iload_n hx hb d_M_markerAt_36 rfl (lv_at hl 1 rfl) ?_
            refine lv_icmp_ne (tgt := 47) hx hb d_M_markerAt_37 (by decide) (fun hc => ?_) (fun hc => ?_)
            · replace hP := hP.2 hc
              exact w_47 _ ih _ _ _ _ _ _ _ _ hP hok (lv_sub hl [0, 1, 2, 3] rfl)
            · replace hP := hP.1 hc
              refine lv_aload_n hx hb d_M_markerAt_40 rfl (lv_at hl 0 rfl) ?_
              refine mr_gr (C := "PurseHouseModel") (T := F_4) (N := 27) (ref := "PurseHouseModel") hx hb hts hown hok hP ui_4 rfl (by decide) (hts _ wd_634) (fun _ h => h) d_M_markerAt_41 (fun v9 hP => ?_)
              refine lv_iload_n hx hb d_M_markerAt_44 rfl (lv_at hl 3 rfl) ?_
              refine mr_ai hx hb hok hP 0 rfl d_M_markerAt_45 (fun v10 hP => ?_)
              exact mo_iret hx hb hr hlocks hok hP d_M_markerAt_46
  have hok : mo_ok L0 e0 D vwCl (mo_T g) s M s.heap [] := ⟨hB0.1, hB0.2.1, hB0.2.2, va_S.rf⟩
  have hl := lv_entry ([.ref x0, .int x1, .int x2]) (n := 4) (Nat.le_of_ble_eq_true rfl)
  rw [hv1, lg_entry_eq]
  rw [← hv1]
  generalize (lg_sl [.ref x0, .int x1, .int x2] ++ List.replicate (4 - (lg_sl [.ref x0, .int x1, .int x2]).length) Slot.unset).toArray = ls at hl ⊢
  have hl : lv_has ls 4 [(0, .ref x0), (1, .int x1), (2, .int x2)] := hl
  unfold pp_M_markerAt at hP
  refine lv_iconst (v := 0) hx hb d_M_markerAt_0 (by decide) ?_
  refine lv_istore_n (lv' := [(3, .int ((0 : Int32))), (0, .ref x0), (1, .int x1), (2, .int x2)]) hx hb d_M_markerAt_1 rfl hl (by decide) rfl (fun ls hl => ?_)
  obtain ⟨n1, hP⟩ := hP
  exact w_2  n1 _ _ _ _ _ _ _ _ hP hok (lv_sub hl [1, 2, 3, 0] rfl)

abbrev b_M_isDone : ByteArray := prog_6_method_33_code
def y_M_isDone : MethodName := ⟨"PurseHouseModel", "isDone", "(II)Z"⟩
def ws_M_isDone : List Cond := .code y_M_isDone b_M_isDone 5 (Option.some Jvm.ClassFile.FieldType.boolean) :: lw_g
theorem d_M_isDone_0 : decode b_M_isDone 0 = .ok (.aload_n 0, 1) := by decide +kernel
theorem d_M_isDone_1 : decode b_M_isDone 1 = .ok (.getfield 16, 3) := by decide +kernel
theorem d_M_isDone_4 : decode b_M_isDone 4 = .ok (.iload_n 2, 1) := by decide +kernel
theorem d_M_isDone_5 : decode b_M_isDone 5 = .ok (.baload, 1) := by decide +kernel
theorem d_M_isDone_6 : decode b_M_isDone 6 = .ok (.ifCond .eq 18, 3) := by decide +kernel
theorem d_M_isDone_9 : decode b_M_isDone 9 = .ok (.aload_n 0, 1) := by decide +kernel
theorem d_M_isDone_10 : decode b_M_isDone 10 = .ok (.iload_n 1, 1) := by decide +kernel
theorem d_M_isDone_11 : decode b_M_isDone 11 = .ok (.iload_n 2, 1) := by decide +kernel
theorem d_M_isDone_12 : decode b_M_isDone 12 = .ok (.invokevirtual 149, 3) := by decide +kernel
theorem d_M_isDone_15 : decode b_M_isDone 15 = .ok (.ifCond .le 7, 3) := by decide +kernel
theorem d_M_isDone_18 : decode b_M_isDone 18 = .ok (.iconst 1, 1) := by decide +kernel
theorem d_M_isDone_19 : decode b_M_isDone 19 = .ok (.goto 4, 3) := by decide +kernel
theorem d_M_isDone_22 : decode b_M_isDone 22 = .ok (.iconst 0, 1) := by decide +kernel
theorem d_M_isDone_23 : decode b_M_isDone 23 = .ok (.ireturn, 1) := by decide +kernel
theorem d_M_isDone_24 : decode b_M_isDone 24 = .ok (.aload_n 0, 1) := by decide +kernel
theorem d_M_isDone_25 : decode b_M_isDone 25 = .ok (.iload_n 1, 1) := by decide +kernel
theorem d_M_isDone_26 : decode b_M_isDone 26 = .ok (.aload_n 0, 1) := by decide +kernel
theorem d_M_isDone_27 : decode b_M_isDone 27 = .ok (.getfield 7, 3) := by decide +kernel
theorem d_M_isDone_30 : decode b_M_isDone 30 = .ok (.iload_n 2, 1) := by decide +kernel
theorem d_M_isDone_31 : decode b_M_isDone 31 = .ok (.iaload, 1) := by decide +kernel
theorem d_M_isDone_32 : decode b_M_isDone 32 = .ok (.invokevirtual 122, 3) := by decide +kernel
theorem d_M_isDone_35 : decode b_M_isDone 35 = .ok (.ifCond .le 21, 3) := by decide +kernel
theorem d_M_isDone_38 : decode b_M_isDone 38 = .ok (.aload_n 0, 1) := by decide +kernel
theorem d_M_isDone_39 : decode b_M_isDone 39 = .ok (.iload_n 1, 1) := by decide +kernel
theorem d_M_isDone_40 : decode b_M_isDone 40 = .ok (.aload_n 0, 1) := by decide +kernel
theorem d_M_isDone_41 : decode b_M_isDone 41 = .ok (.getfield 13, 3) := by decide +kernel
theorem d_M_isDone_44 : decode b_M_isDone 44 = .ok (.iload_n 2, 1) := by decide +kernel
theorem d_M_isDone_45 : decode b_M_isDone 45 = .ok (.iaload, 1) := by decide +kernel
theorem d_M_isDone_46 : decode b_M_isDone 46 = .ok (.invokevirtual 122, 3) := by decide +kernel
theorem d_M_isDone_49 : decode b_M_isDone 49 = .ok (.ifCond .le 7, 3) := by decide +kernel
theorem d_M_isDone_52 : decode b_M_isDone 52 = .ok (.iconst 1, 1) := by decide +kernel
theorem d_M_isDone_53 : decode b_M_isDone 53 = .ok (.goto 4, 3) := by decide +kernel
theorem d_M_isDone_56 : decode b_M_isDone 56 = .ok (.iconst 0, 1) := by decide +kernel
theorem d_M_isDone_57 : decode b_M_isDone 57 = .ok (.istore_n 3, 1) := by decide +kernel
theorem d_M_isDone_58 : decode b_M_isDone 58 = .ok (.iconst 0, 1) := by decide +kernel
theorem d_M_isDone_59 : decode b_M_isDone 59 = .ok (.istore 4, 2) := by decide +kernel
theorem d_M_isDone_61 : decode b_M_isDone 61 = .ok (.iload 4, 2) := by decide +kernel
theorem d_M_isDone_63 : decode b_M_isDone 63 = .ok (.aload_n 0, 1) := by decide +kernel
theorem d_M_isDone_64 : decode b_M_isDone 64 = .ok (.getfield 115, 3) := by decide +kernel
theorem d_M_isDone_67 : decode b_M_isDone 67 = .ok (.if_icmp .ge 50, 3) := by decide +kernel
theorem d_M_isDone_70 : decode b_M_isDone 70 = .ok (.iload_n 3, 1) := by decide +kernel
theorem d_M_isDone_71 : decode b_M_isDone 71 = .ok (.ifCond .eq 46, 3) := by decide +kernel
theorem d_M_isDone_74 : decode b_M_isDone 74 = .ok (.aload_n 0, 1) := by decide +kernel
theorem d_M_isDone_75 : decode b_M_isDone 75 = .ok (.iload 4, 2) := by decide +kernel
theorem d_M_isDone_77 : decode b_M_isDone 77 = .ok (.iload_n 2, 1) := by decide +kernel
theorem d_M_isDone_78 : decode b_M_isDone 78 = .ok (.invokevirtual 118, 3) := by decide +kernel
theorem d_M_isDone_81 : decode b_M_isDone 81 = .ok (.ifCond .eq 24, 3) := by decide +kernel
theorem d_M_isDone_84 : decode b_M_isDone 84 = .ok (.aload_n 0, 1) := by decide +kernel
theorem d_M_isDone_85 : decode b_M_isDone 85 = .ok (.getfield 48, 3) := by decide +kernel
theorem d_M_isDone_88 : decode b_M_isDone 88 = .ok (.iload 4, 2) := by decide +kernel
theorem d_M_isDone_90 : decode b_M_isDone 90 = .ok (.iaload, 1) := by decide +kernel
theorem d_M_isDone_91 : decode b_M_isDone 91 = .ok (.iconst 1, 1) := by decide +kernel
theorem d_M_isDone_92 : decode b_M_isDone 92 = .ok (.if_icmp .ne 13, 3) := by decide +kernel
theorem d_M_isDone_95 : decode b_M_isDone 95 = .ok (.aload_n 0, 1) := by decide +kernel
theorem d_M_isDone_96 : decode b_M_isDone 96 = .ok (.iload 4, 2) := by decide +kernel
theorem d_M_isDone_98 : decode b_M_isDone 98 = .ok (.iload_n 1, 1) := by decide +kernel
theorem d_M_isDone_99 : decode b_M_isDone 99 = .ok (.invokevirtual 140, 3) := by decide +kernel
theorem d_M_isDone_102 : decode b_M_isDone 102 = .ok (.ifCond .eq 7, 3) := by decide +kernel
theorem d_M_isDone_105 : decode b_M_isDone 105 = .ok (.iconst 1, 1) := by decide +kernel
theorem d_M_isDone_106 : decode b_M_isDone 106 = .ok (.goto 4, 3) := by decide +kernel
theorem d_M_isDone_109 : decode b_M_isDone 109 = .ok (.iconst 0, 1) := by decide +kernel
theorem d_M_isDone_110 : decode b_M_isDone 110 = .ok (.istore_n 3, 1) := by decide +kernel
theorem d_M_isDone_111 : decode b_M_isDone 111 = .ok (.iinc 4 1, 3) := by decide +kernel
theorem d_M_isDone_114 : decode b_M_isDone 114 = .ok (.goto (-53), 3) := by decide +kernel
theorem d_M_isDone_117 : decode b_M_isDone 117 = .ok (.iload_n 3, 1) := by decide +kernel
theorem d_M_isDone_118 : decode b_M_isDone 118 = .ok (.ireturn, 1) := by decide +kernel
def pp_M_isDone_b110 (g : Nat → ClassId) (e0 : Nat → Nat) (K : Int32 → mo_M → Prop) (B_61 : mo_M → Nat → Int32 → Int32 → Int32 → Int32 → Prop) (M : mo_M) (x0 : Nat) (x1 : Int32) (x2 : Int32) (x4 : Int32) (s0 : Int32) : Prop := B_61 M x0 x1 x2 s0 (x4 + 1)
def pp_M_isDone_b105 (g : Nat → ClassId) (e0 : Nat → Nat) (K : Int32 → mo_M → Prop) (B_61 : mo_M → Nat → Int32 → Int32 → Int32 → Int32 → Prop) (M : mo_M) (x0 : Nat) (x1 : Int32) (x2 : Int32) (x4 : Int32) : Prop := pp_M_isDone_b110 g e0 K B_61 M x0 x1 x2 x4 ((1 : Int32))
def pp_M_isDone_b61 (g : Nat → ClassId) (e0 : Nat → Nat) (K : Int32 → mo_M → Prop) : Nat → mo_M → Nat → Int32 → Int32 → Int32 → Int32 → Prop
  | 0, _, _, _, _, _, _ => False
  | n + 1, M, x0, x1, x2, x3, x4 => mp_gi M x0 4 17 (fun v14 => ((v14 ≤ x4 → (narrow .boolean (.int x3) = .int x3 ∧ K x3 M)) ∧ (¬ (v14 ≤ x4) → ((x3 = 0 → (narrow .boolean (.int x3) = .int x3 ∧ K x3 M)) ∧ (¬ (x3 = 0) → (mp_is M x0 4 ∧ pp_M_isThere g e0 (fun r16 M15 => ((r16 = 0 → pp_M_isDone_b105 g e0 K (fun M x0 x1 x2 x3 x4 => pp_M_isDone_b61 g e0 K n M x0 x1 x2 x3 x4) M15 x0 x1 x2 x4) ∧ (¬ (r16 = 0) → mp_gr M15 x0 4 18 (fun v17 => mp_ai (g 0) M15 v17 x4 (fun v18 => ((v18 = ((1 : Int32)) → (mp_is M15 x0 4 ∧ pp_M_isMarked g e0 (fun r20 M19 => ((r20 = 0 → pp_M_isDone_b110 g e0 K (fun M x0 x1 x2 x3 x4 => pp_M_isDone_b61 g e0 K n M x0 x1 x2 x3 x4) M19 x0 x1 x2 x4 ((0 : Int32))) ∧ (¬ (r20 = 0) → pp_M_isDone_b105 g e0 K (fun M x0 x1 x2 x3 x4 => pp_M_isDone_b61 g e0 K n M x0 x1 x2 x3 x4) M19 x0 x1 x2 x4))) M15 x0 x4 x1)) ∧ (¬ (v18 = ((1 : Int32))) → pp_M_isDone_b105 g e0 K (fun M x0 x1 x2 x3 x4 => pp_M_isDone_b61 g e0 K n M x0 x1 x2 x3 x4) M15 x0 x1 x2 x4))))))) M x0 x4 x2))))))
def pp_M_isDone_b57 (g : Nat → ClassId) (e0 : Nat → Nat) (K : Int32 → mo_M → Prop) (M : mo_M) (x0 : Nat) (x1 : Int32) (x2 : Int32) (s0 : Int32) : Prop := ∃ n13 : Nat, pp_M_isDone_b61 g e0 K n13 M x0 x1 x2 s0 ((0 : Int32))
def pp_M_isDone_b56 (g : Nat → ClassId) (e0 : Nat → Nat) (K : Int32 → mo_M → Prop) (M : mo_M) (x0 : Nat) (x1 : Int32) (x2 : Int32) : Prop := pp_M_isDone_b57 g e0 K M x0 x1 x2 ((0 : Int32))
def pp_M_isDone (g : Nat → ClassId) (e0 : Nat → Nat) (K : Int32 → mo_M → Prop) (M : mo_M) (x0 : Nat) (x1 : Int32) (x2 : Int32) : Prop := mp_gr M x0 4 6 (fun v1 => mp_ai (g 2) M v1 x2 (fun v2 => ((v2 = 0 → mp_gr M x0 4 4 (fun v3 => mp_ai (g 0) M v3 x2 (fun v4 => (mp_is M x0 4 ∧ pp_M_recording g e0 (fun r6 M5 => ((r6 ≤ 0 → pp_M_isDone_b56 g e0 K M5 x0 x1 x2) ∧ (¬ (r6 ≤ 0) → mp_gr M5 x0 4 5 (fun v7 => mp_ai (g 0) M5 v7 x2 (fun v8 => (mp_is M5 x0 4 ∧ pp_M_recording g e0 (fun r10 M9 => ((r10 ≤ 0 → pp_M_isDone_b56 g e0 K M9 x0 x1 x2) ∧ (¬ (r10 ≤ 0) → pp_M_isDone_b57 g e0 K M9 x0 x1 x2 ((1 : Int32))))) M5 x0 x1 v8)))))) M x0 x1 v4)))) ∧ (¬ (v2 = 0) → (mp_is M x0 4 ∧ pp_M_markerAt g e0 (fun r12 M11 => ((r12 ≤ 0 → (narrow .boolean (.int ((0 : Int32))) = .int ((0 : Int32)) ∧ K ((0 : Int32)) M11)) ∧ (¬ (r12 ≤ 0) → (narrow .boolean (.int ((1 : Int32))) = .int ((1 : Int32)) ∧ K ((1 : Int32)) M11)))) M x0 x1 x2)))))
set_option maxHeartbeats 4000000 in
set_option maxRecDepth 100000 in
theorem cc_M_isDone (l : Launch) (L0 : Nat) (D : va_G) {g : Nat → ClassId} {e0 : Nat → Nat} {K : Int32 → mo_M → Prop} {M : mo_M} {x0 : Nat} {x1 : Int32} {x2 : Int32} (hP : pp_M_isDone g e0 K M x0 x1 x2) : Met l y_M_isDone ws_M_isDone (mo_R 2 0 0 45) (va_Pc [.ref x0, .int x1, .int x2] (fun U => mo_B L0 e0 D vwCl (mo_T g) M U)) (mo_Qi L0 e0 D vwCl (mo_T g) K) 0 0 (fun q => L0 ≤ q) := by
  refine Met.ofW (cc := b_M_isDone) (maxL := 5) (ret := (Option.some Jvm.ClassFile.FieldType.boolean)) (by decide +kernel) rfl ?_
  intro p e s m args below meth c s₁ B hml hv
  obtain ⟨hv1, hB0⟩ := hv
  have hx := B.exec
  have hb := B.bytes
  have hr := B.returns
  have hts : ∀ w ∈ lw_g, w.before args s = true := fun w hw => atoms_spec (ws := ws_M_isDone) B.pre w (List.mem_cons_of_mem _ hw)
  have hown : s.vm.findClass "PurseHouseModel" = some m.cls := findClass_of_methodNamed B.named
  have hlocks := B.notSynchronized
  have w_110 : ∀ (B_61 : mo_M → Nat → Int32 → Int32 → Int32 → Int32 → Prop) (hB_61 : ∀ (M : mo_M) (x0 : Nat) (x1 : Int32) (x2 : Int32) (x3 : Int32) (x4 : Int32) (H : Heap) (locs : List Loc) (ls : Array Slot), B_61 M x0 x1 x2 x3 x4 → mo_ok L0 e0 D vwCl (mo_T g) s M H locs → lv_has ls 5 [(0, .ref x0), (1, .int x1), (2, .int x2), (3, .int x3), (4, .int x4)] → W p l e (headSpec ws_M_isDone (mo_R 2 0 0 45)).room s m args below meth c H locs 0 0 (mo_Z below (mo_Qi L0 e0 D vwCl (mo_T g) K) args s 0 0 L0) (F0 m 61 ls [])) (M : mo_M) (x0 : Nat) (x1 : Int32) (x2 : Int32) (x4 : Int32) (s0 : Int32) (H : Heap) (locs : List Loc) (ls : Array Slot), pp_M_isDone_b110 g e0 K B_61 M x0 x1 x2 x4 s0 → mo_ok L0 e0 D vwCl (mo_T g) s M H locs → lv_has ls 5 [(0, .ref x0), (1, .int x1), (2, .int x2), (4, .int x4)] → W p l e (headSpec ws_M_isDone (mo_R 2 0 0 45)).room s m args below meth c H locs 0 0 (mo_Z below (mo_Qi L0 e0 D vwCl (mo_T g) K) args s 0 0 L0) (F0 m 110 ls [.int s0]) := by
    intro B_61 hB_61 M x0 x1 x2 x4 s0 H locs ls hP hok hl
    unfold pp_M_isDone_b110 at hP
    refine lv_istore_n (lv' := [(3, .int s0), (0, .ref x0), (1, .int x1), (2, .int x2), (4, .int x4)]) hx hb d_M_isDone_110 rfl hl (by decide) rfl (fun ls hl => ?_)
    refine lv_iinc (k := 4) (v := x4 + 1) (lv' := [(4, .int (x4 + 1)), (3, .int s0), (0, .ref x0), (1, .int x1), (2, .int x2)]) hx hb d_M_isDone_111 hl rfl rfl (by decide) rfl (fun ls hl => ?_)
    refine lv_goto (tgt := 61) hx hb d_M_isDone_114 (by decide) ?_
    exact hB_61 _ _ _ _ _ _ _ _ _ hP hok (lv_sub hl [2, 3, 4, 1, 0] rfl)
  have w_105 : ∀ (B_61 : mo_M → Nat → Int32 → Int32 → Int32 → Int32 → Prop) (hB_61 : ∀ (M : mo_M) (x0 : Nat) (x1 : Int32) (x2 : Int32) (x3 : Int32) (x4 : Int32) (H : Heap) (locs : List Loc) (ls : Array Slot), B_61 M x0 x1 x2 x3 x4 → mo_ok L0 e0 D vwCl (mo_T g) s M H locs → lv_has ls 5 [(0, .ref x0), (1, .int x1), (2, .int x2), (3, .int x3), (4, .int x4)] → W p l e (headSpec ws_M_isDone (mo_R 2 0 0 45)).room s m args below meth c H locs 0 0 (mo_Z below (mo_Qi L0 e0 D vwCl (mo_T g) K) args s 0 0 L0) (F0 m 61 ls [])) (M : mo_M) (x0 : Nat) (x1 : Int32) (x2 : Int32) (x4 : Int32) (H : Heap) (locs : List Loc) (ls : Array Slot), pp_M_isDone_b105 g e0 K B_61 M x0 x1 x2 x4 → mo_ok L0 e0 D vwCl (mo_T g) s M H locs → lv_has ls 5 [(0, .ref x0), (1, .int x1), (2, .int x2), (4, .int x4)] → W p l e (headSpec ws_M_isDone (mo_R 2 0 0 45)).room s m args below meth c H locs 0 0 (mo_Z below (mo_Qi L0 e0 D vwCl (mo_T g) K) args s 0 0 L0) (F0 m 105 ls []) := by
    intro B_61 hB_61 M x0 x1 x2 x4 H locs ls hP hok hl
    unfold pp_M_isDone_b105 at hP
    refine lv_iconst (v := 1) hx hb d_M_isDone_105 (by decide) ?_
    refine lv_goto (tgt := 110) hx hb d_M_isDone_106 (by decide) ?_
    exact w_110 B_61 hB_61 _ _ _ _ _ _ _ _ _ hP hok (lv_sub hl [0, 1, 2, 3] rfl)
  have w_61 : ∀ (n : Nat) (M : mo_M) (x0 : Nat) (x1 : Int32) (x2 : Int32) (x3 : Int32) (x4 : Int32) (H : Heap) (locs : List Loc) (ls : Array Slot), pp_M_isDone_b61 g e0 K n M x0 x1 x2 x3 x4 → mo_ok L0 e0 D vwCl (mo_T g) s M H locs → lv_has ls 5 [(0, .ref x0), (1, .int x1), (2, .int x2), (3, .int x3), (4, .int x4)] → W p l e (headSpec ws_M_isDone (mo_R 2 0 0 45)).room s m args below meth c H locs 0 0 (mo_Z below (mo_Qi L0 e0 D vwCl (mo_T g) K) args s 0 0 L0) (F0 m 61 ls []) := by
    intro n
    induction n with
    | zero => intro M x0 x1 x2 x3 x4 H locs ls hP; exact hP.elim
    | succ n ih =>
      intro M x0 x1 x2 x3 x4 H locs ls hP hok hl
      unfold pp_M_isDone_b61 at hP
      refine lv_iload hx hb d_M_isDone_61 (lv_at hl 4 rfl) ?_
      refine lv_aload_n hx hb d_M_isDone_63 rfl (lv_at hl 0 rfl) ?_
      refine mr_gi (C := "PurseHouseModel") (T := F_4) (N := 27) (ref := "PurseHouseModel") hx hb hts hown hok hP ui_4 rfl (by decide) (hts _ wd_627) (fun _ h => h) d_M_isDone_64 (fun v14 hP => ?_)
      refine lv_icmp_ge (tgt := 117) hx hb d_M_isDone_67 (by decide) (fun hc => ?_) (fun hc => ?_)
      · replace hP := hP.1 hc
        refine lv_iload_n hx hb d_M_isDone_117 rfl (lv_at hl 3 rfl) ?_
        exact mo_zret hx hb hr hlocks hok hP d_M_isDone_118
      · replace hP := hP.2 hc
        refine lv_iload_n hx hb d_M_isDone_70 rfl (lv_at hl 3 rfl) ?_
        refine lv_if_eq (tgt := 117) hx hb d_M_isDone_71 (by decide) (fun hc => ?_) (fun hc => ?_)
        · replace hP := hP.1 hc
          refine lv_iload_n hx hb d_M_isDone_117 rfl (lv_at hl 3 rfl) ?_
          exact mo_zret hx hb hr hlocks hok hP d_M_isDone_118
        · replace hP := hP.2 hc
          refine lv_aload_n hx hb d_M_isDone_74 rfl (lv_at hl 0 rfl) ?_
          refine lv_iload hx hb d_M_isDone_75 (lv_at hl 4 rfl) ?_
          refine lv_iload_n hx hb d_M_isDone_77 rfl (lv_at hl 2 rfl) ?_
          obtain ⟨⟨fs9, he9⟩, hP⟩ := hP
          refine mo_calli hok (va_runV (As := [.int x4, .int x2]) (rest := []) ⟨hx, hb, hml, hown, hts⟩ (cc_M_isThere l L0 D hP) ⟨(callB_of 2 hts (lw_gi wd_752) rfl rfl rfl (hts _ wd_39) (hts _ wd_749) (by decide +kernel) ⟨Nat.le_of_ble_eq_true rfl, Nat.le_of_ble_eq_true rfl⟩), hts _ wd_751, hts _ wd_20⟩ (mo_preV hok he9 rfl [.int x4, .int x2]) rfl rfl hl.1 rfl (lv_room (Nat.le_of_ble_eq_true rfl)) d_M_isDone_78 ⟨Nat.zero_le _, Nat.zero_le _⟩) (fun r16 M15 H locs hP hok => ?_)
          refine lv_if_eq (tgt := 105) hx hb d_M_isDone_81 (by decide) (fun hc => ?_) (fun hc => ?_)
          · replace hP := hP.1 hc
            exact w_105 _ ih _ _ _ _ _ _ _ _ hP hok (lv_sub hl [0, 1, 2, 4] rfl)
          · replace hP := hP.2 hc
            refine lv_aload_n hx hb d_M_isDone_84 rfl (lv_at hl 0 rfl) ?_
            refine mr_gr (C := "PurseHouseModel") (T := F_4) (N := 27) (ref := "PurseHouseModel") hx hb hts hown hok hP ui_4 rfl (by decide) (hts _ wd_628) (fun _ h => h) d_M_isDone_85 (fun v17 hP => ?_)
            refine lv_iload hx hb d_M_isDone_88 (lv_at hl 4 rfl) ?_
            refine mr_ai hx hb hok hP 0 rfl d_M_isDone_90 (fun v18 hP => ?_)
            refine lv_iconst (v := 1) hx hb d_M_isDone_91 (by decide) ?_
            refine lv_icmp_ne (tgt := 105) hx hb d_M_isDone_92 (by decide) (fun hc => ?_) (fun hc => ?_)
            · replace hP := hP.2 hc
              exact w_105 _ ih _ _ _ _ _ _ _ _ hP hok (lv_sub hl [0, 1, 2, 4] rfl)
            · replace hP := hP.1 hc
              refine lv_aload_n hx hb d_M_isDone_95 rfl (lv_at hl 0 rfl) ?_
              refine lv_iload hx hb d_M_isDone_96 (lv_at hl 4 rfl) ?_
              refine lv_iload_n hx hb d_M_isDone_98 rfl (lv_at hl 1 rfl) ?_
              obtain ⟨⟨fs9, he9⟩, hP⟩ := hP
              refine mo_calli hok (va_runV (As := [.int x4, .int x1]) (rest := []) ⟨hx, hb, hml, hown, hts⟩ (cc_M_isMarked l L0 D hP) ⟨(callB_of 2 hts (lw_gi wd_776) rfl rfl rfl (hts _ wd_39) (hts _ wd_773) (by decide +kernel) ⟨Nat.le_of_ble_eq_true rfl, Nat.le_of_ble_eq_true rfl⟩), hts _ wd_775, hts _ wd_25⟩ (mo_preV hok he9 rfl [.int x4, .int x1]) rfl rfl hl.1 rfl (lv_room (Nat.le_of_ble_eq_true rfl)) d_M_isDone_99 ⟨Nat.zero_le _, Nat.zero_le _⟩) (fun r20 M19 H locs hP hok => ?_)
              refine lv_if_eq (tgt := 109) hx hb d_M_isDone_102 (by decide) (fun hc => ?_) (fun hc => ?_)
              · replace hP := hP.1 hc
                refine lv_iconst (v := 0) hx hb d_M_isDone_109 (by decide) ?_
                exact w_110 _ ih _ _ _ _ _ _ _ _ _ hP hok (lv_sub hl [0, 1, 2, 4] rfl)
              · replace hP := hP.2 hc
                exact w_105 _ ih _ _ _ _ _ _ _ _ hP hok (lv_sub hl [0, 1, 2, 4] rfl)
  have w_57 : ∀ (M : mo_M) (x0 : Nat) (x1 : Int32) (x2 : Int32) (s0 : Int32) (H : Heap) (locs : List Loc) (ls : Array Slot), pp_M_isDone_b57 g e0 K M x0 x1 x2 s0 → mo_ok L0 e0 D vwCl (mo_T g) s M H locs → lv_has ls 5 [(0, .ref x0), (1, .int x1), (2, .int x2)] → W p l e (headSpec ws_M_isDone (mo_R 2 0 0 45)).room s m args below meth c H locs 0 0 (mo_Z below (mo_Qi L0 e0 D vwCl (mo_T g) K) args s 0 0 L0) (F0 m 57 ls [.int s0]) := by
    intro M x0 x1 x2 s0 H locs ls hP hok hl
    unfold pp_M_isDone_b57 at hP
    refine lv_istore_n (lv' := [(3, .int s0), (0, .ref x0), (1, .int x1), (2, .int x2)]) hx hb d_M_isDone_57 rfl hl (by decide) rfl (fun ls hl => ?_)
    refine lv_iconst (v := 0) hx hb d_M_isDone_58 (by decide) ?_
    refine lv_istore (lv' := [(4, .int ((0 : Int32))), (3, .int s0), (0, .ref x0), (1, .int x1), (2, .int x2)]) hx hb d_M_isDone_59 hl (by decide) rfl (fun ls hl => ?_)
    obtain ⟨n13, hP⟩ := hP
    exact w_61  n13 _ _ _ _ _ _ _ _ _ hP hok (lv_sub hl [2, 3, 4, 1, 0] rfl)
  have w_56 : ∀ (M : mo_M) (x0 : Nat) (x1 : Int32) (x2 : Int32) (H : Heap) (locs : List Loc) (ls : Array Slot), pp_M_isDone_b56 g e0 K M x0 x1 x2 → mo_ok L0 e0 D vwCl (mo_T g) s M H locs → lv_has ls 5 [(0, .ref x0), (1, .int x1), (2, .int x2)] → W p l e (headSpec ws_M_isDone (mo_R 2 0 0 45)).room s m args below meth c H locs 0 0 (mo_Z below (mo_Qi L0 e0 D vwCl (mo_T g) K) args s 0 0 L0) (F0 m 56 ls []) := by
    intro M x0 x1 x2 H locs ls hP hok hl
    unfold pp_M_isDone_b56 at hP
    refine lv_iconst (v := 0) hx hb d_M_isDone_56 (by decide) ?_
    exact w_57  _ _ _ _ _ _ _ _ hP hok (lv_sub hl [0, 1, 2] rfl)
  have hok : mo_ok L0 e0 D vwCl (mo_T g) s M s.heap [] := ⟨hB0.1, hB0.2.1, hB0.2.2, va_S.rf⟩
  have hl := lv_entry ([.ref x0, .int x1, .int x2]) (n := 5) (Nat.le_of_ble_eq_true rfl)
  rw [hv1, lg_entry_eq]
  rw [← hv1]
  generalize (lg_sl [.ref x0, .int x1, .int x2] ++ List.replicate (5 - (lg_sl [.ref x0, .int x1, .int x2]).length) Slot.unset).toArray = ls at hl ⊢
  have hl : lv_has ls 5 [(0, .ref x0), (1, .int x1), (2, .int x2)] := hl
  unfold pp_M_isDone at hP
  refine lv_aload_n hx hb d_M_isDone_0 rfl (lv_at hl 0 rfl) ?_
  refine mr_gr (C := "PurseHouseModel") (T := F_4) (N := 27) (ref := "PurseHouseModel") hx hb hts hown hok hP ui_4 rfl (by decide) (hts _ wd_616) (fun _ h => h) d_M_isDone_1 (fun v1 hP => ?_)
  refine lv_iload_n hx hb d_M_isDone_4 rfl (lv_at hl 2 rfl) ?_
  refine mr_az hx hb hok hP 2 rfl d_M_isDone_5 (fun v2 hP => ?_)
  refine lv_if_eq (tgt := 24) hx hb d_M_isDone_6 (by decide) (fun hc => ?_) (fun hc => ?_)
  · replace hP := hP.1 hc
    refine lv_aload_n hx hb d_M_isDone_24 rfl (lv_at hl 0 rfl) ?_
    refine lv_iload_n hx hb d_M_isDone_25 rfl (lv_at hl 1 rfl) ?_
    refine lv_aload_n hx hb d_M_isDone_26 rfl (lv_at hl 0 rfl) ?_
    refine mr_gr (C := "PurseHouseModel") (T := F_4) (N := 27) (ref := "PurseHouseModel") hx hb hts hown hok hP ui_4 rfl (by decide) (hts _ wd_614) (fun _ h => h) d_M_isDone_27 (fun v3 hP => ?_)
    refine lv_iload_n hx hb d_M_isDone_30 rfl (lv_at hl 2 rfl) ?_
    refine mr_ai hx hb hok hP 0 rfl d_M_isDone_31 (fun v4 hP => ?_)
    obtain ⟨⟨fs9, he9⟩, hP⟩ := hP
    refine mo_calli hok (va_runV (As := [.int x1, .int v4]) (rest := []) ⟨hx, hb, hml, hown, hts⟩ (cc_M_recording l L0 D hP) ⟨(callB_of 2 hts (lw_gi wd_772) rfl rfl rfl (hts _ wd_39) (hts _ wd_769) (by decide +kernel) ⟨Nat.le_of_ble_eq_true rfl, Nat.le_of_ble_eq_true rfl⟩), hts _ wd_771, hts _ wd_24⟩ (mo_preV hok he9 rfl [.int x1, .int v4]) rfl rfl hl.1 rfl (lv_room (Nat.le_of_ble_eq_true rfl)) d_M_isDone_32 ⟨Nat.zero_le _, Nat.zero_le _⟩) (fun r6 M5 H locs hP hok => ?_)
    refine lv_if_le (tgt := 56) hx hb d_M_isDone_35 (by decide) (fun hc => ?_) (fun hc => ?_)
    · replace hP := hP.1 hc
      exact w_56  _ _ _ _ _ _ _ hP hok (lv_sub hl [0, 1, 2] rfl)
    · replace hP := hP.2 hc
      refine lv_aload_n hx hb d_M_isDone_38 rfl (lv_at hl 0 rfl) ?_
      refine lv_iload_n hx hb d_M_isDone_39 rfl (lv_at hl 1 rfl) ?_
      refine lv_aload_n hx hb d_M_isDone_40 rfl (lv_at hl 0 rfl) ?_
      refine mr_gr (C := "PurseHouseModel") (T := F_4) (N := 27) (ref := "PurseHouseModel") hx hb hts hown hok hP ui_4 rfl (by decide) (hts _ wd_615) (fun _ h => h) d_M_isDone_41 (fun v7 hP => ?_)
      refine lv_iload_n hx hb d_M_isDone_44 rfl (lv_at hl 2 rfl) ?_
      refine mr_ai hx hb hok hP 0 rfl d_M_isDone_45 (fun v8 hP => ?_)
      obtain ⟨⟨fs9, he9⟩, hP⟩ := hP
      refine mo_calli hok (va_runV (As := [.int x1, .int v8]) (rest := []) ⟨hx, hb, hml, hown, hts⟩ (cc_M_recording l L0 D hP) ⟨(callB_of 2 hts (lw_gi wd_772) rfl rfl rfl (hts _ wd_39) (hts _ wd_769) (by decide +kernel) ⟨Nat.le_of_ble_eq_true rfl, Nat.le_of_ble_eq_true rfl⟩), hts _ wd_771, hts _ wd_24⟩ (mo_preV hok he9 rfl [.int x1, .int v8]) rfl rfl hl.1 rfl (lv_room (Nat.le_of_ble_eq_true rfl)) d_M_isDone_46 ⟨Nat.zero_le _, Nat.zero_le _⟩) (fun r10 M9 H locs hP hok => ?_)
      refine lv_if_le (tgt := 56) hx hb d_M_isDone_49 (by decide) (fun hc => ?_) (fun hc => ?_)
      · replace hP := hP.1 hc
        exact w_56  _ _ _ _ _ _ _ hP hok (lv_sub hl [0, 1, 2] rfl)
      · replace hP := hP.2 hc
        refine lv_iconst (v := 1) hx hb d_M_isDone_52 (by decide) ?_
        refine lv_goto (tgt := 57) hx hb d_M_isDone_53 (by decide) ?_
        exact w_57  _ _ _ _ _ _ _ _ hP hok (lv_sub hl [0, 1, 2] rfl)
  · replace hP := hP.2 hc
    refine lv_aload_n hx hb d_M_isDone_9 rfl (lv_at hl 0 rfl) ?_
    refine lv_iload_n hx hb d_M_isDone_10 rfl (lv_at hl 1 rfl) ?_
    refine lv_iload_n hx hb d_M_isDone_11 rfl (lv_at hl 2 rfl) ?_
    obtain ⟨⟨fs9, he9⟩, hP⟩ := hP
    refine mo_calli hok (va_runV (As := [.int x1, .int x2]) (rest := []) ⟨hx, hb, hml, hown, hts⟩ (cc_M_markerAt l L0 D hP) ⟨(callB_of 2 hts (lw_gi wd_820) rfl rfl rfl (hts _ wd_39) (hts _ wd_817) (by decide +kernel) ⟨Nat.le_of_ble_eq_true rfl, Nat.le_of_ble_eq_true rfl⟩), hts _ wd_819, hts _ wd_29⟩ (mo_preV hok he9 rfl [.int x1, .int x2]) rfl rfl hl.1 rfl (lv_room (Nat.le_of_ble_eq_true rfl)) d_M_isDone_12 ⟨Nat.zero_le _, Nat.zero_le _⟩) (fun r12 M11 H locs hP hok => ?_)
    refine lv_if_le (tgt := 22) hx hb d_M_isDone_15 (by decide) (fun hc => ?_) (fun hc => ?_)
    · replace hP := hP.1 hc
      refine lv_iconst (v := 0) hx hb d_M_isDone_22 (by decide) ?_
      exact mo_zret hx hb hr hlocks hok hP d_M_isDone_23
    · replace hP := hP.2 hc
      refine lv_iconst (v := 1) hx hb d_M_isDone_18 (by decide) ?_
      refine lv_goto (tgt := 23) hx hb d_M_isDone_19 (by decide) ?_
      exact mo_zret hx hb hr hlocks hok hP d_M_isDone_23

abbrev b_M_finished : ByteArray := prog_6_method_34_code
def y_M_finished : MethodName := ⟨"PurseHouseModel", "finished", "(I)Z"⟩
def ws_M_finished : List Cond := .code y_M_finished b_M_finished 4 (Option.some Jvm.ClassFile.FieldType.boolean) :: lw_g
theorem d_M_finished_0 : decode b_M_finished 0 = .ok (.aload_n 0, 1) := by decide +kernel
theorem d_M_finished_1 : decode b_M_finished 1 = .ok (.iconst 0, 1) := by decide +kernel
theorem d_M_finished_2 : decode b_M_finished 2 = .ok (.putfield 76, 3) := by decide +kernel
theorem d_M_finished_5 : decode b_M_finished 5 = .ok (.aload_n 0, 1) := by decide +kernel
theorem d_M_finished_6 : decode b_M_finished 6 = .ok (.iload_n 1, 1) := by decide +kernel
theorem d_M_finished_7 : decode b_M_finished 7 = .ok (.invokevirtual 146, 3) := by decide +kernel
theorem d_M_finished_10 : decode b_M_finished 10 = .ok (.istore_n 2, 1) := by decide +kernel
theorem d_M_finished_11 : decode b_M_finished 11 = .ok (.iconst 0, 1) := by decide +kernel
theorem d_M_finished_12 : decode b_M_finished 12 = .ok (.istore_n 3, 1) := by decide +kernel
theorem d_M_finished_13 : decode b_M_finished 13 = .ok (.iload_n 3, 1) := by decide +kernel
theorem d_M_finished_14 : decode b_M_finished 14 = .ok (.aload_n 0, 1) := by decide +kernel
theorem d_M_finished_15 : decode b_M_finished 15 = .ok (.getfield 72, 3) := by decide +kernel
theorem d_M_finished_18 : decode b_M_finished 18 = .ok (.if_icmp .ge 28, 3) := by decide +kernel
theorem d_M_finished_21 : decode b_M_finished 21 = .ok (.iload_n 2, 1) := by decide +kernel
theorem d_M_finished_22 : decode b_M_finished 22 = .ok (.ifCond .eq 24, 3) := by decide +kernel
theorem d_M_finished_25 : decode b_M_finished 25 = .ok (.aload_n 0, 1) := by decide +kernel
theorem d_M_finished_26 : decode b_M_finished 26 = .ok (.iload_n 1, 1) := by decide +kernel
theorem d_M_finished_27 : decode b_M_finished 27 = .ok (.iload_n 3, 1) := by decide +kernel
theorem d_M_finished_28 : decode b_M_finished 28 = .ok (.invokevirtual 122, 3) := by decide +kernel
theorem d_M_finished_31 : decode b_M_finished 31 = .ok (.ifCond .le 7, 3) := by decide +kernel
theorem d_M_finished_34 : decode b_M_finished 34 = .ok (.iconst 1, 1) := by decide +kernel
theorem d_M_finished_35 : decode b_M_finished 35 = .ok (.goto 4, 3) := by decide +kernel
theorem d_M_finished_38 : decode b_M_finished 38 = .ok (.iconst 0, 1) := by decide +kernel
theorem d_M_finished_39 : decode b_M_finished 39 = .ok (.istore_n 2, 1) := by decide +kernel
theorem d_M_finished_40 : decode b_M_finished 40 = .ok (.iinc 3 1, 3) := by decide +kernel
theorem d_M_finished_43 : decode b_M_finished 43 = .ok (.goto (-30), 3) := by decide +kernel
theorem d_M_finished_46 : decode b_M_finished 46 = .ok (.iconst 0, 1) := by decide +kernel
theorem d_M_finished_47 : decode b_M_finished 47 = .ok (.istore_n 3, 1) := by decide +kernel
theorem d_M_finished_48 : decode b_M_finished 48 = .ok (.iload_n 3, 1) := by decide +kernel
theorem d_M_finished_49 : decode b_M_finished 49 = .ok (.aload_n 0, 1) := by decide +kernel
theorem d_M_finished_50 : decode b_M_finished 50 = .ok (.getfield 79, 3) := by decide +kernel
theorem d_M_finished_53 : decode b_M_finished 53 = .ok (.if_icmp .ge 20, 3) := by decide +kernel
theorem d_M_finished_56 : decode b_M_finished 56 = .ok (.iload_n 2, 1) := by decide +kernel
theorem d_M_finished_57 : decode b_M_finished 57 = .ok (.ifCond .eq 16, 3) := by decide +kernel
theorem d_M_finished_60 : decode b_M_finished 60 = .ok (.aload_n 0, 1) := by decide +kernel
theorem d_M_finished_61 : decode b_M_finished 61 = .ok (.iload_n 1, 1) := by decide +kernel
theorem d_M_finished_62 : decode b_M_finished 62 = .ok (.iload_n 3, 1) := by decide +kernel
theorem d_M_finished_63 : decode b_M_finished 63 = .ok (.invokevirtual 152, 3) := by decide +kernel
theorem d_M_finished_66 : decode b_M_finished 66 = .ok (.istore_n 2, 1) := by decide +kernel
theorem d_M_finished_67 : decode b_M_finished 67 = .ok (.iinc 3 1, 3) := by decide +kernel
theorem d_M_finished_70 : decode b_M_finished 70 = .ok (.goto (-22), 3) := by decide +kernel
theorem d_M_finished_73 : decode b_M_finished 73 = .ok (.iload_n 2, 1) := by decide +kernel
theorem d_M_finished_74 : decode b_M_finished 74 = .ok (.ireturn, 1) := by decide +kernel
def pp_M_finished_b48 (g : Nat → ClassId) (e0 : Nat → Nat) (K : Int32 → mo_M → Prop) : Nat → mo_M → Nat → Int32 → Int32 → Int32 → Prop
  | 0, _, _, _, _, _ => False
  | n + 1, M, x0, x1, x2, x3 => mp_gi M x0 4 3 (fun v9 => ((v9 ≤ x3 → (narrow .boolean (.int x2) = .int x2 ∧ K x2 M)) ∧ (¬ (v9 ≤ x3) → ((x2 = 0 → (narrow .boolean (.int x2) = .int x2 ∧ K x2 M)) ∧ (¬ (x2 = 0) → (mp_is M x0 4 ∧ pp_M_isDone g e0 (fun r11 M10 => pp_M_finished_b48 g e0 K n M10 x0 x1 r11 (x3 + 1)) M x0 x1 x3))))))
def pp_M_finished_b46 (g : Nat → ClassId) (e0 : Nat → Nat) (K : Int32 → mo_M → Prop) (M : mo_M) (x0 : Nat) (x1 : Int32) (x2 : Int32) : Prop := ∃ n8 : Nat, pp_M_finished_b48 g e0 K n8 M x0 x1 x2 ((0 : Int32))
def pp_M_finished_b39 (g : Nat → ClassId) (e0 : Nat → Nat) (K : Int32 → mo_M → Prop) (B_13 : mo_M → Nat → Int32 → Int32 → Int32 → Prop) (M : mo_M) (x0 : Nat) (x1 : Int32) (x3 : Int32) (s0 : Int32) : Prop := B_13 M x0 x1 s0 (x3 + 1)
def pp_M_finished_b13 (g : Nat → ClassId) (e0 : Nat → Nat) (K : Int32 → mo_M → Prop) : Nat → mo_M → Nat → Int32 → Int32 → Int32 → Prop
  | 0, _, _, _, _, _ => False
  | n + 1, M, x0, x1, x2, x3 => mp_gi M x0 4 1 (fun v5 => ((v5 ≤ x3 → pp_M_finished_b46 g e0 K M x0 x1 x2) ∧ (¬ (v5 ≤ x3) → ((x2 = 0 → pp_M_finished_b46 g e0 K M x0 x1 x2) ∧ (¬ (x2 = 0) → (mp_is M x0 4 ∧ pp_M_recording g e0 (fun r7 M6 => ((r7 ≤ 0 → pp_M_finished_b39 g e0 K (fun M x0 x1 x2 x3 => pp_M_finished_b13 g e0 K n M x0 x1 x2 x3) M6 x0 x1 x3 ((0 : Int32))) ∧ (¬ (r7 ≤ 0) → pp_M_finished_b39 g e0 K (fun M x0 x1 x2 x3 => pp_M_finished_b13 g e0 K n M x0 x1 x2 x3) M6 x0 x1 x3 ((1 : Int32))))) M x0 x1 x3))))))
def pp_M_finished (g : Nat → ClassId) (e0 : Nat → Nat) (K : Int32 → mo_M → Prop) (M : mo_M) (x0 : Nat) (x1 : Int32) : Prop := mp_pt M x0 4 0 (.int ((0 : Int32))) (fun M1 => (mp_is M1 x0 4 ∧ pp_M_isNumber g e0 (fun r3 M2 => ∃ n4 : Nat, pp_M_finished_b13 g e0 K n4 M2 x0 x1 r3 ((0 : Int32))) M1 x0 x1))
set_option maxHeartbeats 4000000 in
set_option maxRecDepth 100000 in
theorem cc_M_finished (l : Launch) (L0 : Nat) (D : va_G) {g : Nat → ClassId} {e0 : Nat → Nat} {K : Int32 → mo_M → Prop} {M : mo_M} {x0 : Nat} {x1 : Int32} (hP : pp_M_finished g e0 K M x0 x1) : Met l y_M_finished ws_M_finished (mo_R 3 0 0 69) (va_Pc [.ref x0, .int x1] (fun U => mo_B L0 e0 D vwCl (mo_T g) M U)) (mo_Qi L0 e0 D vwCl (mo_T g) K) 0 0 (fun q => L0 ≤ q) := by
  refine Met.ofW (cc := b_M_finished) (maxL := 4) (ret := (Option.some Jvm.ClassFile.FieldType.boolean)) (by decide +kernel) rfl ?_
  intro p e s m args below meth c s₁ B hml hv
  obtain ⟨hv1, hB0⟩ := hv
  have hx := B.exec
  have hb := B.bytes
  have hr := B.returns
  have hts : ∀ w ∈ lw_g, w.before args s = true := fun w hw => atoms_spec (ws := ws_M_finished) B.pre w (List.mem_cons_of_mem _ hw)
  have hown : s.vm.findClass "PurseHouseModel" = some m.cls := findClass_of_methodNamed B.named
  have hlocks := B.notSynchronized
  have w_48 : ∀ (n : Nat) (M : mo_M) (x0 : Nat) (x1 : Int32) (x2 : Int32) (x3 : Int32) (H : Heap) (locs : List Loc) (ls : Array Slot), pp_M_finished_b48 g e0 K n M x0 x1 x2 x3 → mo_ok L0 e0 D vwCl (mo_T g) s M H locs → lv_has ls 4 [(0, .ref x0), (1, .int x1), (2, .int x2), (3, .int x3)] → W p l e (headSpec ws_M_finished (mo_R 3 0 0 69)).room s m args below meth c H locs 0 0 (mo_Z below (mo_Qi L0 e0 D vwCl (mo_T g) K) args s 0 0 L0) (F0 m 48 ls []) := by
    intro n
    induction n with
    | zero => intro M x0 x1 x2 x3 H locs ls hP; exact hP.elim
    | succ n ih =>
      intro M x0 x1 x2 x3 H locs ls hP hok hl
      unfold pp_M_finished_b48 at hP
      refine lv_iload_n hx hb d_M_finished_48 rfl (lv_at hl 3 rfl) ?_
      refine lv_aload_n hx hb d_M_finished_49 rfl (lv_at hl 0 rfl) ?_
      refine mr_gi (C := "PurseHouseModel") (T := F_4) (N := 27) (ref := "PurseHouseModel") hx hb hts hown hok hP ui_4 rfl (by decide) (hts _ wd_613) (fun _ h => h) d_M_finished_50 (fun v9 hP => ?_)
      refine lv_icmp_ge (tgt := 73) hx hb d_M_finished_53 (by decide) (fun hc => ?_) (fun hc => ?_)
      · replace hP := hP.1 hc
        refine lv_iload_n hx hb d_M_finished_73 rfl (lv_at hl 2 rfl) ?_
        exact mo_zret hx hb hr hlocks hok hP d_M_finished_74
      · replace hP := hP.2 hc
        refine lv_iload_n hx hb d_M_finished_56 rfl (lv_at hl 2 rfl) ?_
        refine lv_if_eq (tgt := 73) hx hb d_M_finished_57 (by decide) (fun hc => ?_) (fun hc => ?_)
        · replace hP := hP.1 hc
          refine lv_iload_n hx hb d_M_finished_73 rfl (lv_at hl 2 rfl) ?_
          exact mo_zret hx hb hr hlocks hok hP d_M_finished_74
        · replace hP := hP.2 hc
          refine lv_aload_n hx hb d_M_finished_60 rfl (lv_at hl 0 rfl) ?_
          refine lv_iload_n hx hb d_M_finished_61 rfl (lv_at hl 1 rfl) ?_
          refine lv_iload_n hx hb d_M_finished_62 rfl (lv_at hl 3 rfl) ?_
          obtain ⟨⟨fs9, he9⟩, hP⟩ := hP
          refine mo_calli hok (va_runV (As := [.int x1, .int x3]) (rest := []) ⟨hx, hb, hml, hown, hts⟩ (cc_M_isDone l L0 D hP) ⟨(callB_of 2 hts (lw_gi wd_816) rfl rfl rfl (hts _ wd_39) (hts _ wd_813) (by decide +kernel) ⟨Nat.le_of_ble_eq_true rfl, Nat.le_of_ble_eq_true rfl⟩), hts _ wd_815, hts _ wd_28⟩ (mo_preV hok he9 rfl [.int x1, .int x3]) rfl rfl hl.1 rfl (lv_room (Nat.le_of_ble_eq_true rfl)) d_M_finished_63 ⟨Nat.zero_le _, Nat.zero_le _⟩) (fun r11 M10 H locs hP hok => ?_)
          refine lv_istore_n (lv' := [(2, .int r11), (0, .ref x0), (1, .int x1), (3, .int x3)]) hx hb d_M_finished_66 rfl hl (by decide) rfl (fun ls hl => ?_)
          refine lv_iinc (k := 3) (v := x3 + 1) (lv' := [(3, .int (x3 + 1)), (2, .int r11), (0, .ref x0), (1, .int x1)]) hx hb d_M_finished_67 hl rfl rfl (by decide) rfl (fun ls hl => ?_)
          refine lv_goto (tgt := 48) hx hb d_M_finished_70 (by decide) ?_
          exact ih _ _ _ _ _ _ _ _ hP hok (lv_sub hl [2, 3, 1, 0] rfl)
  have w_46 : ∀ (M : mo_M) (x0 : Nat) (x1 : Int32) (x2 : Int32) (H : Heap) (locs : List Loc) (ls : Array Slot), pp_M_finished_b46 g e0 K M x0 x1 x2 → mo_ok L0 e0 D vwCl (mo_T g) s M H locs → lv_has ls 4 [(0, .ref x0), (1, .int x1), (2, .int x2)] → W p l e (headSpec ws_M_finished (mo_R 3 0 0 69)).room s m args below meth c H locs 0 0 (mo_Z below (mo_Qi L0 e0 D vwCl (mo_T g) K) args s 0 0 L0) (F0 m 46 ls []) := by
    intro M x0 x1 x2 H locs ls hP hok hl
    unfold pp_M_finished_b46 at hP
    refine lv_iconst (v := 0) hx hb d_M_finished_46 (by decide) ?_
    refine lv_istore_n (lv' := [(3, .int ((0 : Int32))), (0, .ref x0), (1, .int x1), (2, .int x2)]) hx hb d_M_finished_47 rfl hl (by decide) rfl (fun ls hl => ?_)
    obtain ⟨n8, hP⟩ := hP
    exact w_48  n8 _ _ _ _ _ _ _ _ hP hok (lv_sub hl [1, 2, 3, 0] rfl)
  have w_39 : ∀ (B_13 : mo_M → Nat → Int32 → Int32 → Int32 → Prop) (hB_13 : ∀ (M : mo_M) (x0 : Nat) (x1 : Int32) (x2 : Int32) (x3 : Int32) (H : Heap) (locs : List Loc) (ls : Array Slot), B_13 M x0 x1 x2 x3 → mo_ok L0 e0 D vwCl (mo_T g) s M H locs → lv_has ls 4 [(0, .ref x0), (1, .int x1), (2, .int x2), (3, .int x3)] → W p l e (headSpec ws_M_finished (mo_R 3 0 0 69)).room s m args below meth c H locs 0 0 (mo_Z below (mo_Qi L0 e0 D vwCl (mo_T g) K) args s 0 0 L0) (F0 m 13 ls [])) (M : mo_M) (x0 : Nat) (x1 : Int32) (x3 : Int32) (s0 : Int32) (H : Heap) (locs : List Loc) (ls : Array Slot), pp_M_finished_b39 g e0 K B_13 M x0 x1 x3 s0 → mo_ok L0 e0 D vwCl (mo_T g) s M H locs → lv_has ls 4 [(0, .ref x0), (1, .int x1), (3, .int x3)] → W p l e (headSpec ws_M_finished (mo_R 3 0 0 69)).room s m args below meth c H locs 0 0 (mo_Z below (mo_Qi L0 e0 D vwCl (mo_T g) K) args s 0 0 L0) (F0 m 39 ls [.int s0]) := by
    intro B_13 hB_13 M x0 x1 x3 s0 H locs ls hP hok hl
    unfold pp_M_finished_b39 at hP
    refine lv_istore_n (lv' := [(2, .int s0), (0, .ref x0), (1, .int x1), (3, .int x3)]) hx hb d_M_finished_39 rfl hl (by decide) rfl (fun ls hl => ?_)
    refine lv_iinc (k := 3) (v := x3 + 1) (lv' := [(3, .int (x3 + 1)), (2, .int s0), (0, .ref x0), (1, .int x1)]) hx hb d_M_finished_40 hl rfl rfl (by decide) rfl (fun ls hl => ?_)
    refine lv_goto (tgt := 13) hx hb d_M_finished_43 (by decide) ?_
    exact hB_13 _ _ _ _ _ _ _ _ hP hok (lv_sub hl [2, 3, 1, 0] rfl)
  have w_13 : ∀ (n : Nat) (M : mo_M) (x0 : Nat) (x1 : Int32) (x2 : Int32) (x3 : Int32) (H : Heap) (locs : List Loc) (ls : Array Slot), pp_M_finished_b13 g e0 K n M x0 x1 x2 x3 → mo_ok L0 e0 D vwCl (mo_T g) s M H locs → lv_has ls 4 [(0, .ref x0), (1, .int x1), (2, .int x2), (3, .int x3)] → W p l e (headSpec ws_M_finished (mo_R 3 0 0 69)).room s m args below meth c H locs 0 0 (mo_Z below (mo_Qi L0 e0 D vwCl (mo_T g) K) args s 0 0 L0) (F0 m 13 ls []) := by
    intro n
    induction n with
    | zero => intro M x0 x1 x2 x3 H locs ls hP; exact hP.elim
    | succ n ih =>
      intro M x0 x1 x2 x3 H locs ls hP hok hl
      unfold pp_M_finished_b13 at hP
      refine lv_iload_n hx hb d_M_finished_13 rfl (lv_at hl 3 rfl) ?_
      refine lv_aload_n hx hb d_M_finished_14 rfl (lv_at hl 0 rfl) ?_
      refine mr_gi (C := "PurseHouseModel") (T := F_4) (N := 27) (ref := "PurseHouseModel") hx hb hts hown hok hP ui_4 rfl (by decide) (hts _ wd_611) (fun _ h => h) d_M_finished_15 (fun v5 hP => ?_)
      refine lv_icmp_ge (tgt := 46) hx hb d_M_finished_18 (by decide) (fun hc => ?_) (fun hc => ?_)
      · replace hP := hP.1 hc
        exact w_46  _ _ _ _ _ _ _ hP hok (lv_sub hl [0, 1, 2] rfl)
      · replace hP := hP.2 hc
        refine lv_iload_n hx hb d_M_finished_21 rfl (lv_at hl 2 rfl) ?_
        refine lv_if_eq (tgt := 46) hx hb d_M_finished_22 (by decide) (fun hc => ?_) (fun hc => ?_)
        · replace hP := hP.1 hc
          exact w_46  _ _ _ _ _ _ _ hP hok (lv_sub hl [0, 1, 2] rfl)
        · replace hP := hP.2 hc
          refine lv_aload_n hx hb d_M_finished_25 rfl (lv_at hl 0 rfl) ?_
          refine lv_iload_n hx hb d_M_finished_26 rfl (lv_at hl 1 rfl) ?_
          refine lv_iload_n hx hb d_M_finished_27 rfl (lv_at hl 3 rfl) ?_
          obtain ⟨⟨fs9, he9⟩, hP⟩ := hP
          refine mo_calli hok (va_runV (As := [.int x1, .int x3]) (rest := []) ⟨hx, hb, hml, hown, hts⟩ (cc_M_recording l L0 D hP) ⟨(callB_of 2 hts (lw_gi wd_772) rfl rfl rfl (hts _ wd_39) (hts _ wd_769) (by decide +kernel) ⟨Nat.le_of_ble_eq_true rfl, Nat.le_of_ble_eq_true rfl⟩), hts _ wd_771, hts _ wd_24⟩ (mo_preV hok he9 rfl [.int x1, .int x3]) rfl rfl hl.1 rfl (lv_room (Nat.le_of_ble_eq_true rfl)) d_M_finished_28 ⟨Nat.zero_le _, Nat.zero_le _⟩) (fun r7 M6 H locs hP hok => ?_)
          refine lv_if_le (tgt := 38) hx hb d_M_finished_31 (by decide) (fun hc => ?_) (fun hc => ?_)
          · replace hP := hP.1 hc
            refine lv_iconst (v := 0) hx hb d_M_finished_38 (by decide) ?_
            exact w_39 _ ih _ _ _ _ _ _ _ _ hP hok (lv_sub hl [0, 1, 3] rfl)
          · replace hP := hP.2 hc
            refine lv_iconst (v := 1) hx hb d_M_finished_34 (by decide) ?_
            refine lv_goto (tgt := 39) hx hb d_M_finished_35 (by decide) ?_
            exact w_39 _ ih _ _ _ _ _ _ _ _ hP hok (lv_sub hl [0, 1, 3] rfl)
  have hok : mo_ok L0 e0 D vwCl (mo_T g) s M s.heap [] := ⟨hB0.1, hB0.2.1, hB0.2.2, va_S.rf⟩
  have hl := lv_entry ([.ref x0, .int x1]) (n := 4) (Nat.le_of_ble_eq_true rfl)
  rw [hv1, lg_entry_eq]
  rw [← hv1]
  generalize (lg_sl [.ref x0, .int x1] ++ List.replicate (4 - (lg_sl [.ref x0, .int x1]).length) Slot.unset).toArray = ls at hl ⊢
  have hl : lv_has ls 4 [(0, .ref x0), (1, .int x1)] := hl
  unfold pp_M_finished at hP
  refine lv_aload_n hx hb d_M_finished_0 rfl (lv_at hl 0 rfl) ?_
  refine lv_iconst (v := 0) hx hb d_M_finished_1 (by decide) ?_
  refine mr_pt (C := "PurseHouseModel") (T := F_4) (N := 27) (ref := "PurseHouseModel") (ty := .int) hx hb hts hown hok hP ui_4 ty_4 th_4 tn_4 rfl (by decide) (hts _ wd_610) (fun _ h => h) rfl (by decide +kernel) rfl rfl d_M_finished_2 (fun M1 H locs hP hok => ?_)
  refine lv_aload_n hx hb d_M_finished_5 rfl (lv_at hl 0 rfl) ?_
  refine lv_iload_n hx hb d_M_finished_6 rfl (lv_at hl 1 rfl) ?_
  obtain ⟨⟨fs9, he9⟩, hP⟩ := hP
  refine mo_calli hok (va_runV (As := [.int x1]) (rest := []) ⟨hx, hb, hml, hown, hts⟩ (cc_M_isNumber l L0 D hP) ⟨(callB_of 1 hts (lw_gi wd_808) rfl rfl rfl (hts _ wd_39) (hts _ wd_805) (by decide +kernel) ⟨Nat.le_of_ble_eq_true rfl, Nat.le_of_ble_eq_true rfl⟩), hts _ wd_807, hts _ wd_27⟩ (mo_preV hok he9 rfl [.int x1]) rfl rfl hl.1 rfl (lv_room (Nat.le_of_ble_eq_true rfl)) d_M_finished_7 ⟨Nat.zero_le _, Nat.zero_le _⟩) (fun r3 M2 H locs hP hok => ?_)
  refine lv_istore_n (lv' := [(2, .int r3), (0, .ref x0), (1, .int x1)]) hx hb d_M_finished_10 rfl hl (by decide) rfl (fun ls hl => ?_)
  refine lv_iconst (v := 0) hx hb d_M_finished_11 (by decide) ?_
  refine lv_istore_n (lv' := [(3, .int ((0 : Int32))), (2, .int r3), (0, .ref x0), (1, .int x1)]) hx hb d_M_finished_12 rfl hl (by decide) rfl (fun ls hl => ?_)
  obtain ⟨n4, hP⟩ := hP
  exact w_13  n4 _ _ _ _ _ _ _ _ hP hok (lv_sub hl [2, 3, 1, 0] rfl)

