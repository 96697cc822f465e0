abbrev b_H_init : ByteArray := prog_1_method_1_code
def y_H_init : MethodName := ⟨"PurseHouse", "<init>", "(I)V"⟩
def ws_H_init : List Cond := .code y_H_init b_H_init 4 (Option.none : Option Jvm.ClassFile.FieldType) :: lw_g
theorem d_H_init_0 : decode b_H_init 0 = .ok (.aload_n 0, 1) := by decide +kernel
theorem d_H_init_1 : decode b_H_init 1 = .ok (.invokespecial 1, 3) := by decide +kernel
theorem d_H_init_4 : decode b_H_init 4 = .ok (.aload_n 0, 1) := by decide +kernel
theorem d_H_init_5 : decode b_H_init 5 = .ok (.new 7, 3) := by decide +kernel
theorem d_H_init_8 : decode b_H_init 8 = .ok (.dup, 1) := by decide +kernel
theorem d_H_init_9 : decode b_H_init 9 = .ok (.invokespecial 9, 3) := by decide +kernel
theorem d_H_init_12 : decode b_H_init 12 = .ok (.putfield 10, 3) := by decide +kernel
theorem d_H_init_15 : decode b_H_init 15 = .ok (.aload_n 0, 1) := by decide +kernel
theorem d_H_init_16 : decode b_H_init 16 = .ok (.iconst 3, 1) := by decide +kernel
theorem d_H_init_17 : decode b_H_init 17 = .ok (.iconst 3, 1) := by decide +kernel
theorem d_H_init_18 : decode b_H_init 18 = .ok (.multianewarray 16 2, 4) := by decide +kernel
theorem d_H_init_22 : decode b_H_init 22 = .ok (.putfield 18, 3) := by decide +kernel
theorem d_H_init_25 : decode b_H_init 25 = .ok (.aload_n 0, 1) := by decide +kernel
theorem d_H_init_26 : decode b_H_init 26 = .ok (.iconst 3, 1) := by decide +kernel
theorem d_H_init_27 : decode b_H_init 27 = .ok (.iconst 3, 1) := by decide +kernel
theorem d_H_init_28 : decode b_H_init 28 = .ok (.multianewarray 16 2, 4) := by decide +kernel
theorem d_H_init_32 : decode b_H_init 32 = .ok (.putfield 21, 3) := by decide +kernel
theorem d_H_init_35 : decode b_H_init 35 = .ok (.aload_n 0, 1) := by decide +kernel
theorem d_H_init_36 : decode b_H_init 36 = .ok (.iconst 0, 1) := by decide +kernel
theorem d_H_init_37 : decode b_H_init 37 = .ok (.putfield 24, 3) := by decide +kernel
theorem d_H_init_40 : decode b_H_init 40 = .ok (.aload_n 0, 1) := by decide +kernel
theorem d_H_init_41 : decode b_H_init 41 = .ok (.iconst 1, 1) := by decide +kernel
theorem d_H_init_42 : decode b_H_init 42 = .ok (.bipush 6, 2) := by decide +kernel
theorem d_H_init_44 : decode b_H_init 44 = .ok (.iload_n 1, 1) := by decide +kernel
theorem d_H_init_45 : decode b_H_init 45 = .ok (.invokestatic 28, 3) := by decide +kernel
theorem d_H_init_48 : decode b_H_init 48 = .ok (.invokestatic 34, 3) := by decide +kernel
theorem d_H_init_51 : decode b_H_init 51 = .ok (.anewarray 37, 3) := by decide +kernel
theorem d_H_init_54 : decode b_H_init 54 = .ok (.putfield 39, 3) := by decide +kernel
theorem d_H_init_57 : decode b_H_init 57 = .ok (.iconst 0, 1) := by decide +kernel
theorem d_H_init_58 : decode b_H_init 58 = .ok (.istore_n 2, 1) := by decide +kernel
theorem d_H_init_59 : decode b_H_init 59 = .ok (.iload_n 2, 1) := by decide +kernel
theorem d_H_init_60 : decode b_H_init 60 = .ok (.aload_n 0, 1) := by decide +kernel
theorem d_H_init_61 : decode b_H_init 61 = .ok (.getfield 39, 3) := by decide +kernel
theorem d_H_init_64 : decode b_H_init 64 = .ok (.arraylength, 1) := by decide +kernel
theorem d_H_init_65 : decode b_H_init 65 = .ok (.if_icmp .ge 22, 3) := by decide +kernel
theorem d_H_init_68 : decode b_H_init 68 = .ok (.aload_n 0, 1) := by decide +kernel
theorem d_H_init_69 : decode b_H_init 69 = .ok (.getfield 39, 3) := by decide +kernel
theorem d_H_init_72 : decode b_H_init 72 = .ok (.iload_n 2, 1) := by decide +kernel
theorem d_H_init_73 : decode b_H_init 73 = .ok (.new 37, 3) := by decide +kernel
theorem d_H_init_76 : decode b_H_init 76 = .ok (.dup, 1) := by decide +kernel
theorem d_H_init_77 : decode b_H_init 77 = .ok (.invokespecial 43, 3) := by decide +kernel
theorem d_H_init_80 : decode b_H_init 80 = .ok (.aastore, 1) := by decide +kernel
theorem d_H_init_81 : decode b_H_init 81 = .ok (.iinc 2 1, 3) := by decide +kernel
theorem d_H_init_84 : decode b_H_init 84 = .ok (.goto (-25), 3) := by decide +kernel
theorem d_H_init_87 : decode b_H_init 87 = .ok (.iconst 0, 1) := by decide +kernel
theorem d_H_init_88 : decode b_H_init 88 = .ok (.istore_n 2, 1) := by decide +kernel
theorem d_H_init_89 : decode b_H_init 89 = .ok (.iload_n 2, 1) := by decide +kernel
theorem d_H_init_90 : decode b_H_init 90 = .ok (.iconst 3, 1) := by decide +kernel
theorem d_H_init_91 : decode b_H_init 91 = .ok (.if_icmp .ge 40, 3) := by decide +kernel
theorem d_H_init_94 : decode b_H_init 94 = .ok (.iconst 0, 1) := by decide +kernel
theorem d_H_init_95 : decode b_H_init 95 = .ok (.istore_n 3, 1) := by decide +kernel
theorem d_H_init_96 : decode b_H_init 96 = .ok (.iload_n 3, 1) := by decide +kernel
theorem d_H_init_97 : decode b_H_init 97 = .ok (.iconst 3, 1) := by decide +kernel
theorem d_H_init_98 : decode b_H_init 98 = .ok (.if_icmp .ge 27, 3) := by decide +kernel
theorem d_H_init_101 : decode b_H_init 101 = .ok (.aload_n 0, 1) := by decide +kernel
theorem d_H_init_102 : decode b_H_init 102 = .ok (.getfield 18, 3) := by decide +kernel
theorem d_H_init_105 : decode b_H_init 105 = .ok (.iload_n 2, 1) := by decide +kernel
theorem d_H_init_106 : decode b_H_init 106 = .ok (.aaload, 1) := by decide +kernel
theorem d_H_init_107 : decode b_H_init 107 = .ok (.iload_n 3, 1) := by decide +kernel
theorem d_H_init_108 : decode b_H_init 108 = .ok (.iconst 1, 1) := by decide +kernel
theorem d_H_init_109 : decode b_H_init 109 = .ok (.iastore, 1) := by decide +kernel
theorem d_H_init_110 : decode b_H_init 110 = .ok (.aload_n 0, 1) := by decide +kernel
theorem d_H_init_111 : decode b_H_init 111 = .ok (.getfield 21, 3) := by decide +kernel
theorem d_H_init_114 : decode b_H_init 114 = .ok (.iload_n 2, 1) := by decide +kernel
theorem d_H_init_115 : decode b_H_init 115 = .ok (.aaload, 1) := by decide +kernel
theorem d_H_init_116 : decode b_H_init 116 = .ok (.iload_n 3, 1) := by decide +kernel
theorem d_H_init_117 : decode b_H_init 117 = .ok (.iconst 1, 1) := by decide +kernel
theorem d_H_init_118 : decode b_H_init 118 = .ok (.iastore, 1) := by decide +kernel
theorem d_H_init_119 : decode b_H_init 119 = .ok (.iinc 3 1, 3) := by decide +kernel
theorem d_H_init_122 : decode b_H_init 122 = .ok (.goto (-26), 3) := by decide +kernel
theorem d_H_init_125 : decode b_H_init 125 = .ok (.iinc 2 1, 3) := by decide +kernel
theorem d_H_init_128 : decode b_H_init 128 = .ok (.goto (-39), 3) := by decide +kernel
theorem d_H_init_131 : decode b_H_init 131 = .ok (.return_, 1) := by decide +kernel
def pp_H_init_b96 (g : Nat → ClassId) (e0 : Nat → Nat) (mc ms : Nat) (K : mo_M → Prop) (B_89 : mo_M → Nat → Nat → Nat → Int32 → Prop) : Nat → mo_M → Nat → Nat → Nat → Int32 → Int32 → Prop
  | 0, _, _, _, _, _, _ => False
  | n + 1, M, cu, su, x0, x2, x3 => ((((3 : Int32)) ≤ x3 → B_89 M cu su x0 (x2 + 1)) ∧ (¬ (((3 : Int32)) ≤ x3) → mp_gr M x0 0 2 (fun v27 => mp_ar (g 5) M v27 x2 (fun v28 => mp_si (g 0) M v28 x3 ((1 : Int32)) (fun M29 => mp_gr M29 x0 0 3 (fun v30 => mp_ar (g 5) M29 v30 x2 (fun v31 => mp_si (g 0) M29 v31 x3 ((1 : Int32)) (fun M32 => pp_H_init_b96 g e0 mc ms K B_89 n M32 cu su x0 x2 (x3 + 1)))))))))
def pp_H_init_b89 (g : Nat → ClassId) (e0 : Nat → Nat) (mc ms : Nat) (K : mo_M → Prop) : Nat → mo_M → Nat → Nat → Nat → Int32 → Prop
  | 0, _, _, _, _, _ => False
  | n + 1, M, cu, su, x0, x2 => ((((3 : Int32)) ≤ x2 → (cu ≤ mc ∧ su ≤ ms ∧ K M)) ∧ (¬ (((3 : Int32)) ≤ x2) → ∃ n26 : Nat, pp_H_init_b96 g e0 mc ms K (fun M cu su x0 x2 => pp_H_init_b89 g e0 mc ms K n M cu su x0 x2) n26 M cu su x0 x2 ((0 : Int32))))
def pp_H_init_b59 (g : Nat → ClassId) (e0 : Nat → Nat) (mc ms : Nat) (K : mo_M → Prop) : Nat → mo_M → Nat → Nat → Nat → Int32 → Prop
  | 0, _, _, _, _, _ => False
  | n + 1, M, cu, su, x0, x2 => mp_gr M x0 0 0 (fun v16 => mp_ln (g 3) M v16 (fun v17 => ((v17 ≤ x2 → ∃ n18 : Nat, pp_H_init_b89 g e0 mc ms K n18 M cu su x0 ((0 : Int32))) ∧ (¬ (v17 ≤ x2) → mp_gr M x0 0 0 (fun v19 => (cu + 1 ≤ mc ∧ su + 9 ≤ ms ∧ mp_nw M 1 [.null, .null, .null, .int 0, .int 0, .null, .null, .null, .null] (fun q20 M21 => (∃ c22 t23 : Nat, ((cu + 1)) + c22 ≤ mc ∧ ((su + 9)) + t23 ≤ ms ∧ pp_K_init g e0 c22 t23 (fun M24 => mp_sk (g 3) M24 v19 x2 q20 (fun M25 => pp_H_init_b59 g e0 mc ms K n M25 (((cu + 1) + c22)) (((su + 9) + t23)) x0 (x2 + 1))) M21 q20))))))))
def pp_H_init (g : Nat → ClassId) (e0 : Nat → Nat) (mc ms : Nat) (K : mo_M → Prop) (M : mo_M) (x0 : Nat) (x1 : Int32) : Prop := (0 + 1 ≤ mc ∧ 0 + 3 ≤ ms ∧ mp_nw M 5 [.int 0, .null, .int 0] (fun q1 M2 => (((0 + 1)) ≤ mc ∧ ((0 + 3)) ≤ ms ∧ pp_A_init g e0 (fun M3 => mp_pt M3 x0 0 1 (.ref q1) (fun M4 => (((0 + 1)) + (1 + ((3 : Int32)).toNatClampNeg) ≤ mc ∧ ((0 + 3)) + (((3 : Int32)).toNatClampNeg + ((3 : Int32)).toNatClampNeg * ((3 : Int32)).toNatClampNeg) ≤ ms ∧ mp_mn (g 5) (g 0) M4 ((3 : Int32)) ((3 : Int32)) (.inl (fun _ => 0)) (fun q5 M6 => mp_pt M6 x0 0 2 (.ref q5) (fun M7 => ((((0 + 1) + 1 + ((3 : Int32)).toNatClampNeg)) + (1 + ((3 : Int32)).toNatClampNeg) ≤ mc ∧ (((0 + 3) + ((3 : Int32)).toNatClampNeg + ((3 : Int32)).toNatClampNeg * ((3 : Int32)).toNatClampNeg)) + (((3 : Int32)).toNatClampNeg + ((3 : Int32)).toNatClampNeg * ((3 : Int32)).toNatClampNeg) ≤ ms ∧ mp_mn (g 5) (g 0) M7 ((3 : Int32)) ((3 : Int32)) (.inl (fun _ => 0)) (fun q8 M9 => mp_pt M9 x0 0 3 (.ref q8) (fun M10 => mp_pt M10 x0 0 4 (.int ((0 : Int32))) (fun M11 => (((((0 + 1) + 1 + ((3 : Int32)).toNatClampNeg) + 1 + ((3 : Int32)).toNatClampNeg)) ≤ mc ∧ ((((0 + 3) + ((3 : Int32)).toNatClampNeg + ((3 : Int32)).toNatClampNeg * ((3 : Int32)).toNatClampNeg) + ((3 : Int32)).toNatClampNeg + ((3 : Int32)).toNatClampNeg * ((3 : Int32)).toNatClampNeg)) ≤ ms ∧ (((((0 + 1) + 1 + ((3 : Int32)).toNatClampNeg) + 1 + ((3 : Int32)).toNatClampNeg)) ≤ mc ∧ ((((0 + 3) + ((3 : Int32)).toNatClampNeg + ((3 : Int32)).toNatClampNeg * ((3 : Int32)).toNatClampNeg) + ((3 : Int32)).toNatClampNeg + ((3 : Int32)).toNatClampNeg * ((3 : Int32)).toNatClampNeg)) ≤ ms ∧ (((((0 + 1) + 1 + ((3 : Int32)).toNatClampNeg) + 1 + ((3 : Int32)).toNatClampNeg)) + 1 ≤ mc ∧ ((((0 + 3) + ((3 : Int32)).toNatClampNeg + ((3 : Int32)).toNatClampNeg * ((3 : Int32)).toNatClampNeg) + ((3 : Int32)).toNatClampNeg + ((3 : Int32)).toNatClampNeg * ((3 : Int32)).toNatClampNeg)) + ((if ((1 : Int32)) < ((if x1 < ((6 : Int32)) then x1 else ((6 : Int32)))) then ((if x1 < ((6 : Int32)) then x1 else ((6 : Int32)))) else ((1 : Int32)))).toNatClampNeg ≤ ms ∧ mp_na (g 3) M11 ((if ((1 : Int32)) < ((if x1 < ((6 : Int32)) then x1 else ((6 : Int32)))) then ((if x1 < ((6 : Int32)) then x1 else ((6 : Int32)))) else ((1 : Int32)))) (.inr (.inr (.inr (.inr (fun _ => none))))) (fun q12 M13 => mp_pt M13 x0 0 0 (.ref q12) (fun M14 => ∃ n15 : Nat, pp_H_init_b59 g e0 mc ms K n15 M14 (((((0 + 1) + 1 + ((3 : Int32)).toNatClampNeg) + 1 + ((3 : Int32)).toNatClampNeg) + 1)) (((((0 + 3) + ((3 : Int32)).toNatClampNeg + ((3 : Int32)).toNatClampNeg * ((3 : Int32)).toNatClampNeg) + ((3 : Int32)).toNatClampNeg + ((3 : Int32)).toNatClampNeg * ((3 : Int32)).toNatClampNeg) + ((if ((1 : Int32)) < ((if x1 < ((6 : Int32)) then x1 else ((6 : Int32)))) then ((if x1 < ((6 : Int32)) then x1 else ((6 : Int32)))) else ((1 : Int32)))).toNatClampNeg)) x0 ((0 : Int32)))))))))))))))) M2 q1)))
set_option maxHeartbeats 4000000 in
set_option maxRecDepth 100000 in
theorem cc_H_init (l : Launch) (L0 : Nat) (D : va_G) {g : Nat → ClassId} {e0 : Nat → Nat} {mc ms : Nat} {K : mo_M → Prop} {M : mo_M} {x0 : Nat} {x1 : Int32} (hP : pp_H_init g e0 mc ms K M x0 x1) : Met l y_H_init ws_H_init (mo_R 4 mc ms 72) (va_Pc [.ref x0, .int x1] (fun U => mo_B L0 e0 D vwCl (mo_T g) M U)) (mo_Qv L0 e0 D vwCl (mo_T g) K) mc ms (fun q => L0 ≤ q) := by
  refine Met.ofW (cc := b_H_init) (maxL := 4) (ret := (Option.none : Option Jvm.ClassFile.FieldType)) (by decide +kernel) rfl ?_
  intro p e s m args below meth c s₁ B hml hv
  obtain ⟨hv1, hB0⟩ := hv
  have hx := B.exec
  have hb := B.bytes
  have hr := B.returns
  have hts : ∀ w ∈ lw_g, w.before args s = true := fun w hw => atoms_spec (ws := ws_H_init) B.pre w (List.mem_cons_of_mem _ hw)
  have hown : s.vm.findClass "PurseHouse" = some m.cls := findClass_of_methodNamed B.named
  have hlocks := B.notSynchronized
  have hin : meth.name = "<init>" := (name_of_methodNamed B.named B.method).1
  have w_96 : ∀ (B_89 : mo_M → Nat → Nat → Nat → Int32 → Prop) (hB_89 : ∀ (M : mo_M) (cu su : Nat) (x0 : Nat) (x2 : Int32) (H : Heap) (locs : List Loc) (ls : Array Slot), B_89 M cu su x0 x2 → mo_ok L0 e0 D vwCl (mo_T g) s M H locs → lv_has ls 4 [(0, .ref x0), (2, .int x2)] → W p l e (headSpec ws_H_init (mo_R 4 mc ms 72)).room s m args below meth c H locs cu su (mo_Z below (mo_Qv L0 e0 D vwCl (mo_T g) K) args s mc ms L0) (F0 m 89 ls [])) (n : Nat) (M : mo_M) (cu su : Nat) (x0 : Nat) (x2 : Int32) (x3 : Int32) (H : Heap) (locs : List Loc) (ls : Array Slot), pp_H_init_b96 g e0 mc ms K B_89 n M cu su x0 x2 x3 → mo_ok L0 e0 D vwCl (mo_T g) s M H locs → lv_has ls 4 [(0, .ref x0), (2, .int x2), (3, .int x3)] → W p l e (headSpec ws_H_init (mo_R 4 mc ms 72)).room s m args below meth c H locs cu su (mo_Z below (mo_Qv L0 e0 D vwCl (mo_T g) K) args s mc ms L0) (F0 m 96 ls []) := by
    intro B_89 hB_89 n
    induction n with
    | zero => intro M cu su x0 x2 x3 H locs ls hP; exact hP.elim
    | succ n ih =>
      intro M cu su x0 x2 x3 H locs ls hP hok hl
      unfold pp_H_init_b96 at hP
      refine lv_iload_n hx hb d_H_init_96 rfl (lv_at hl 2 rfl) ?_
      refine lv_iconst (v := 3) hx hb d_H_init_97 (by decide) ?_
      refine lv_icmp_ge (tgt := 125) hx hb d_H_init_98 (by decide) (fun hc => ?_) (fun hc => ?_)
      · replace hP := hP.1 hc
        refine lv_iinc (k := 1) (v := x2 + 1) (lv' := [(2, .int (x2 + 1)), (0, .ref x0), (3, .int x3)]) hx hb d_H_init_125 hl rfl rfl (by decide) rfl (fun ls hl => ?_)
        refine lv_goto (tgt := 89) hx hb d_H_init_128 (by decide) ?_
        exact hB_89 _ _ _ _ _ _ _ _ hP hok (lv_sub hl [1, 0] rfl)
      · replace hP := hP.2 hc
        refine lv_aload_n hx hb d_H_init_101 rfl (lv_at hl 0 rfl) ?_
        refine mr_gr (C := "PurseHouse") (T := F_0) (N := 5) (ref := "PurseHouse") hx hb hts hown hok hP ui_0 rfl (by decide) (hts _ wd_143) (fun _ h => h) d_H_init_102 (fun v27 hP => ?_)
        refine lv_iload_n hx hb d_H_init_105 rfl (lv_at hl 1 rfl) ?_
        refine mr_ar hx hb hok hP 5 rfl rfl d_H_init_106 (fun v28 hP => ?_)
        refine lv_iload_n hx hb d_H_init_107 rfl (lv_at hl 2 rfl) ?_
        refine lv_iconst (v := 1) hx hb d_H_init_108 (by decide) ?_
        refine mr_si hx hb hok hP 0 rfl d_H_init_109 (fun M29 H locs hP hok => ?_)
        refine lv_aload_n hx hb d_H_init_110 rfl (lv_at hl 0 rfl) ?_
        refine mr_gr (C := "PurseHouse") (T := F_0) (N := 5) (ref := "PurseHouse") hx hb hts hown hok hP ui_0 rfl (by decide) (hts _ wd_144) (fun _ h => h) d_H_init_111 (fun v30 hP => ?_)
        refine lv_iload_n hx hb d_H_init_114 rfl (lv_at hl 1 rfl) ?_
        refine mr_ar hx hb hok hP 5 rfl rfl d_H_init_115 (fun v31 hP => ?_)
        refine lv_iload_n hx hb d_H_init_116 rfl (lv_at hl 2 rfl) ?_
        refine lv_iconst (v := 1) hx hb d_H_init_117 (by decide) ?_
        refine mr_si hx hb hok hP 0 rfl d_H_init_118 (fun M32 H locs hP hok => ?_)
        refine lv_iinc (k := 2) (v := x3 + 1) (lv' := [(3, .int (x3 + 1)), (0, .ref x0), (2, .int x2)]) hx hb d_H_init_119 hl rfl rfl (by decide) rfl (fun ls hl => ?_)
        refine lv_goto (tgt := 96) hx hb d_H_init_122 (by decide) ?_
        exact ih _ _ _ _ _ _ _ _ _ hP hok (lv_sub hl [1, 2, 0] rfl)
  have w_89 : ∀ (n : Nat) (M : mo_M) (cu su : Nat) (x0 : Nat) (x2 : Int32) (H : Heap) (locs : List Loc) (ls : Array Slot), pp_H_init_b89 g e0 mc ms K n M cu su x0 x2 → mo_ok L0 e0 D vwCl (mo_T g) s M H locs → lv_has ls 4 [(0, .ref x0), (2, .int x2)] → W p l e (headSpec ws_H_init (mo_R 4 mc ms 72)).room s m args below meth c H locs cu su (mo_Z below (mo_Qv L0 e0 D vwCl (mo_T g) K) args s mc ms L0) (F0 m 89 ls []) := by
    intro n
    induction n with
    | zero => intro M cu su x0 x2 H locs ls hP; exact hP.elim
    | succ n ih =>
      intro M cu su x0 x2 H locs ls hP hok hl
      unfold pp_H_init_b89 at hP
      refine lv_iload_n hx hb d_H_init_89 rfl (lv_at hl 1 rfl) ?_
      refine lv_iconst (v := 3) hx hb d_H_init_90 (by decide) ?_
      refine lv_icmp_ge (tgt := 131) hx hb d_H_init_91 (by decide) (fun hc => ?_) (fun hc => ?_)
      · replace hP := hP.1 hc
        obtain ⟨hcu, hsu, hP⟩ := hP
        refine W.widen (k := mc) (n := ms) hcu hsu ?_
        exact mo_vret hx hb hr hlocks hok hP d_H_init_131
      · replace hP := hP.2 hc
        refine lv_iconst (v := 0) hx hb d_H_init_94 (by decide) ?_
        refine lv_istore_n (lv' := [(3, .int ((0 : Int32))), (0, .ref x0), (2, .int x2)]) hx hb d_H_init_95 rfl hl (by decide) rfl (fun ls hl => ?_)
        obtain ⟨n26, hP⟩ := hP
        exact w_96 _ ih n26 _ _ _ _ _ _ _ _ _ hP hok (lv_sub hl [1, 2, 0] rfl)
  have w_59 : ∀ (n : Nat) (M : mo_M) (cu su : Nat) (x0 : Nat) (x2 : Int32) (H : Heap) (locs : List Loc) (ls : Array Slot), pp_H_init_b59 g e0 mc ms K n M cu su x0 x2 → mo_ok L0 e0 D vwCl (mo_T g) s M H locs → lv_has ls 4 [(0, .ref x0), (2, .int x2)] → W p l e (headSpec ws_H_init (mo_R 4 mc ms 72)).room s m args below meth c H locs cu su (mo_Z below (mo_Qv L0 e0 D vwCl (mo_T g) K) args s mc ms L0) (F0 m 59 ls []) := by
    intro n
    induction n with
    | zero => intro M cu su x0 x2 H locs ls hP; exact hP.elim
    | succ n ih =>
      intro M cu su x0 x2 H locs ls hP hok hl
      unfold pp_H_init_b59 at hP
      refine lv_iload_n hx hb d_H_init_59 rfl (lv_at hl 1 rfl) ?_
      refine lv_aload_n hx hb d_H_init_60 rfl (lv_at hl 0 rfl) ?_
      refine mr_gr (C := "PurseHouse") (T := F_0) (N := 5) (ref := "PurseHouse") hx hb hts hown hok hP ui_0 rfl (by decide) (hts _ wd_141) (fun _ h => h) d_H_init_61 (fun v16 hP => ?_)
      refine mr_ln hx hb hok hP 3 rfl d_H_init_64 (fun v17 hP => ?_)
      refine lv_icmp_ge (tgt := 87) hx hb d_H_init_65 (by decide) (fun hc => ?_) (fun hc => ?_)
      · replace hP := hP.1 hc
        refine lv_iconst (v := 0) hx hb d_H_init_87 (by decide) ?_
        refine lv_istore_n (lv' := [(2, .int ((0 : Int32))), (0, .ref x0)]) hx hb d_H_init_88 rfl hl (by decide) rfl (fun ls hl => ?_)
        obtain ⟨n18, hP⟩ := hP
        exact w_89  n18 _ _ _ _ _ _ _ _ hP hok (lv_sub hl [1, 0] rfl)
      · replace hP := hP.2 hc
        refine lv_aload_n hx hb d_H_init_68 rfl (lv_at hl 0 rfl) ?_
        refine mr_gr (C := "PurseHouse") (T := F_0) (N := 5) (ref := "PurseHouse") hx hb hts hown hok hP ui_0 rfl (by decide) (hts _ wd_141) (fun _ h => h) d_H_init_69 (fun v19 hP => ?_)
        refine lv_iload_n hx hb d_H_init_72 rfl (lv_at hl 1 rfl) ?_
        obtain ⟨hcc, hss, hP⟩ := hP
        refine mr_nw (C := "PurseHouse$Kiosk") (T := F_1) (N := 9) hx hb hts hown hok hP ui_1 ty_1 th_1 rfl tf_1 (hts _ wd_94) (hts _ wd_96) (hts _ wd_38) hcc hss d_H_init_73 (fun q20 M21 H hP hok => ?_)
        refine lv_dup hx hb d_H_init_76 rfl ?_
        obtain ⟨c22, t23, hcc, hss, hP⟩ := hP
        refine mo_callv hok (va_runIN (As := []) (rest := [.ref q20, .int x2, .ref v19]) ⟨hx, hb, hml, hown, hts⟩ (cc_K_init l L0 D hP) ⟨(va_cnB 0 hts (lw_gi wd_99) rfl rfl rfl (mo_nw_of hok wn_97 rfl) (hts _ wd_38) (by decide +kernel) ⟨Nat.le_of_ble_eq_true rfl, Nat.le_of_ble_eq_true rfl⟩), rfl, hts _ wd_98⟩ (mo_preS hok [.ref q20]) rfl rfl hl.1 rfl (lv_room (Nat.le_of_ble_eq_true rfl)) d_H_init_77 ⟨hcc, hss⟩) (fun M24 H locs hP hok => ?_)
        refine mr_sk hx hb hok hP 3 rfl d_H_init_80 (fun M25 H locs hP hok => ?_)
        refine lv_iinc (k := 1) (v := x2 + 1) (lv' := [(2, .int (x2 + 1)), (0, .ref x0)]) hx hb d_H_init_81 hl rfl rfl (by decide) rfl (fun ls hl => ?_)
        refine lv_goto (tgt := 59) hx hb d_H_init_84 (by decide) ?_
        exact ih _ _ _ _ _ _ _ _ hP hok (lv_sub hl [1, 0] rfl)
  have hok : mo_ok L0 e0 D vwCl (mo_T g) s M s.heap [] := ⟨hB0.1, hB0.2.1, hB0.2.2, va_S.rf⟩
  have hl := lv_entry ([.ref x0, .int x1]) (n := 4) (Nat.le_of_ble_eq_true rfl)
  rw [hv1, lg_entry_eq]
  rw [← hv1]
  generalize (lg_sl [.ref x0, .int x1] ++ List.replicate (4 - (lg_sl [.ref x0, .int x1]).length) Slot.unset).toArray = ls at hl ⊢
  have hl : lv_has ls 4 [(0, .ref x0), (1, .int x1)] := hl
  unfold pp_H_init at hP
  refine lv_aload_n hx hb d_H_init_0 rfl (lv_at hl 0 rfl) ?_
  refine W.objInit hx hb hown (hts _ wd_57) (hts _ wd_58) (hts _ wd_59) rfl (by rw [hml]; exact hl.1) rfl d_H_init_1 (Nat.le_of_ble_eq_true rfl) (Nat.le_of_ble_eq_true rfl) ?_
  refine W.eq (g2 := F0 m 4 ls []) rfl ?_
  refine lv_aload_n hx hb d_H_init_4 rfl (lv_at hl 0 rfl) ?_
  obtain ⟨hcc, hss, hP⟩ := hP
  refine mr_nw (C := "java/util/ArrayList") (T := F_5) (N := 3) hx hb hts hown hok hP ui_5 ty_5 th_5 rfl tf_5 (hts _ wd_60) (hts _ wd_61) (hts _ wd_36) hcc hss d_H_init_5 (fun q1 M2 H hP hok => ?_)
  refine lv_dup hx hb d_H_init_8 rfl ?_
  obtain ⟨hcc, hss, hP⟩ := hP
  refine mo_callv hok (va_runI (As := []) (rest := [.ref q1, .ref x0]) ⟨hx, hb, hml, hown, hts⟩ (cc_A_init l L0 D hP) ⟨(callB_of 0 hts (lw_gi wd_64) rfl rfl rfl (hts _ wd_36) (hts _ wd_62) (by decide +kernel) ⟨Nat.le_of_ble_eq_true rfl, Nat.le_of_ble_eq_true rfl⟩), rfl, hts _ wd_63⟩ (mo_preS hok [.ref q1]) rfl rfl hl.1 rfl (lv_room (Nat.le_of_ble_eq_true rfl)) d_H_init_9 ⟨hcc, hss⟩) (fun M3 H locs hP hok => ?_)
  refine mr_ptF (C := "PurseHouse") (T := F_0) (N := 5) (ref := "PurseHouse") (ty := (.object "java/util/ArrayList")) hx hb hts hown hok hP ui_0 ty_0 th_0 tn_0 rfl (by decide) (hts _ wd_142) (fun _ h => h) rfl hin rfl (by decide +kernel) rfl rfl d_H_init_12 (fun M4 H locs hP hok => ?_)
  refine lv_aload_n hx hb d_H_init_15 rfl (lv_at hl 0 rfl) ?_
  refine lv_iconst (v := 3) hx hb d_H_init_16 (by decide) ?_
  refine lv_iconst (v := 3) hx hb d_H_init_17 (by decide) ?_
  obtain ⟨hcc, hss, hP⟩ := hP
  refine mr_mn (ty := .int) hx hb hown hok hP (by decide) (hts _ wd_86) hok.2.1.2.1.2.2.2.2.1 (hts _ wd_139) 5 0 rfl rfl (fun h => h) (by decide) rfl rfl (fun _ => rfl) hcc hss d_H_init_18 (fun q5 M6 H hP hok => ?_)
  refine mr_ptF (C := "PurseHouse") (T := F_0) (N := 5) (ref := "PurseHouse") (ty := (.array (.array .int))) hx hb hts hown hok hP ui_0 ty_0 th_0 tn_0 rfl (by decide) (hts _ wd_143) (fun _ h => h) rfl hin rfl (by decide +kernel) rfl rfl d_H_init_22 (fun M7 H locs hP hok => ?_)
  refine lv_aload_n hx hb d_H_init_25 rfl (lv_at hl 0 rfl) ?_
  refine lv_iconst (v := 3) hx hb d_H_init_26 (by decide) ?_
  refine lv_iconst (v := 3) hx hb d_H_init_27 (by decide) ?_
  obtain ⟨hcc, hss, hP⟩ := hP
  refine mr_mn (ty := .int) hx hb hown hok hP (by decide) (hts _ wd_86) hok.2.1.2.1.2.2.2.2.1 (hts _ wd_139) 5 0 rfl rfl (fun h => h) (by decide) rfl rfl (fun _ => rfl) hcc hss d_H_init_28 (fun q8 M9 H hP hok => ?_)
  refine mr_ptF (C := "PurseHouse") (T := F_0) (N := 5) (ref := "PurseHouse") (ty := (.array (.array .int))) hx hb hts hown hok hP ui_0 ty_0 th_0 tn_0 rfl (by decide) (hts _ wd_144) (fun _ h => h) rfl hin rfl (by decide +kernel) rfl rfl d_H_init_32 (fun M10 H locs hP hok => ?_)
  refine lv_aload_n hx hb d_H_init_35 rfl (lv_at hl 0 rfl) ?_
  refine lv_iconst (v := 0) hx hb d_H_init_36 (by decide) ?_
  refine mr_pt (C := "PurseHouse") (T := F_0) (N := 5) (ref := "PurseHouse") (ty := .int) hx hb hts hown hok hP ui_0 ty_0 th_0 tn_0 rfl (by decide) (hts _ wd_145) (fun _ h => h) rfl (by decide +kernel) rfl rfl d_H_init_37 (fun M11 H locs hP hok => ?_)
  refine lv_aload_n hx hb d_H_init_40 rfl (lv_at hl 0 rfl) ?_
  refine lv_iconst (v := 1) hx hb d_H_init_41 (by decide) ?_
  refine lv_bipush (v := 6) hx hb d_H_init_42 (by decide) ?_
  refine lv_iload_n hx hb d_H_init_44 rfl (lv_at hl 1 rfl) ?_
  obtain ⟨hcc, hss, hP⟩ := hP
  refine va_mmin hx hb (by rw [hml]; exact hl.1.symm) hown (hts _ wd_88) (hts _ wd_89) (hts _ wd_37) (hts _ wd_90) (Nat.le_of_ble_eq_true rfl) (Nat.le_of_ble_eq_true rfl) hcc hss d_H_init_45 ?_
  obtain ⟨hcc, hss, hP⟩ := hP
  refine va_mmax hx hb (by rw [hml]; exact hl.1.symm) hown (hts _ wd_91) (hts _ wd_92) (hts _ wd_37) (hts _ wd_93) (Nat.le_of_ble_eq_true rfl) (Nat.le_of_ble_eq_true rfl) hcc hss d_H_init_48 ?_
  obtain ⟨hcc, hss, hP⟩ := hP
  refine mr_nq hx hb hown hok hP (hts _ wd_94) hok.2.1.2.1.2.1 3 rfl hcc hss d_H_init_51 (fun q12 M13 H hP hok => ?_)
  refine mr_ptF (C := "PurseHouse") (T := F_0) (N := 5) (ref := "PurseHouse") (ty := (.array (.object "PurseHouse$Kiosk"))) hx hb hts hown hok hP ui_0 ty_0 th_0 tn_0 rfl (by decide) (hts _ wd_141) (fun _ h => h) rfl hin rfl (by decide +kernel) rfl rfl d_H_init_54 (fun M14 H locs hP hok => ?_)
  refine lv_iconst (v := 0) hx hb d_H_init_57 (by decide) ?_
  refine lv_istore_n (lv' := [(2, .int ((0 : Int32))), (0, .ref x0), (1, .int x1)]) hx hb d_H_init_58 rfl hl (by decide) rfl (fun ls hl => ?_)
  obtain ⟨n15, hP⟩ := hP
  exact w_59  n15 _ _ _ _ _ _ _ _ hP hok (lv_sub hl [1, 0] rfl)

abbrev b_H_link : ByteArray := prog_1_method_2_code
def y_H_link : MethodName := ⟨"PurseHouse", "link", "(IIZ)I"⟩
def ws_H_link : List Cond := .code y_H_link b_H_link 4 (Option.some Jvm.ClassFile.FieldType.int) :: lw_g
theorem d_H_link_0 : decode b_H_link 0 = .ok (.aload_n 0, 1) := by decide +kernel
theorem d_H_link_1 : decode b_H_link 1 = .ok (.iload_n 1, 1) := by decide +kernel
theorem d_H_link_2 : decode b_H_link 2 = .ok (.invokevirtual 44, 3) := by decide +kernel
theorem d_H_link_5 : decode b_H_link 5 = .ok (.ifCond .eq 16, 3) := by decide +kernel
theorem d_H_link_8 : decode b_H_link 8 = .ok (.aload_n 0, 1) := by decide +kernel
theorem d_H_link_9 : decode b_H_link 9 = .ok (.iload_n 2, 1) := by decide +kernel
theorem d_H_link_10 : decode b_H_link 10 = .ok (.invokevirtual 44, 3) := by decide +kernel
theorem d_H_link_13 : decode b_H_link 13 = .ok (.ifCond .eq 8, 3) := by decide +kernel
theorem d_H_link_16 : decode b_H_link 16 = .ok (.iload_n 1, 1) := by decide +kernel
theorem d_H_link_17 : decode b_H_link 17 = .ok (.iload_n 2, 1) := by decide +kernel
theorem d_H_link_18 : decode b_H_link 18 = .ok (.if_icmp .ne 5, 3) := by decide +kernel
theorem d_H_link_21 : decode b_H_link 21 = .ok (.iconst (-1), 1) := by decide +kernel
theorem d_H_link_22 : decode b_H_link 22 = .ok (.ireturn, 1) := by decide +kernel
theorem d_H_link_23 : decode b_H_link 23 = .ok (.aload_n 0, 1) := by decide +kernel
theorem d_H_link_24 : decode b_H_link 24 = .ok (.getfield 10, 3) := by decide +kernel
theorem d_H_link_27 : decode b_H_link 27 = .ok (.invokevirtual 48, 3) := by decide +kernel
theorem d_H_link_30 : decode b_H_link 30 = .ok (.bipush 12, 2) := by decide +kernel
theorem d_H_link_32 : decode b_H_link 32 = .ok (.if_icmp .ge 10, 3) := by decide +kernel
theorem d_H_link_35 : decode b_H_link 35 = .ok (.aload_n 0, 1) := by decide +kernel
theorem d_H_link_36 : decode b_H_link 36 = .ok (.getfield 24, 3) := by decide +kernel
theorem d_H_link_39 : decode b_H_link 39 = .ok (.ifCond .le 5, 3) := by decide +kernel
theorem d_H_link_42 : decode b_H_link 42 = .ok (.iconst (-1), 1) := by decide +kernel
theorem d_H_link_43 : decode b_H_link 43 = .ok (.ireturn, 1) := by decide +kernel
theorem d_H_link_44 : decode b_H_link 44 = .ok (.aload_n 0, 1) := by decide +kernel
theorem d_H_link_45 : decode b_H_link 45 = .ok (.getfield 10, 3) := by decide +kernel
theorem d_H_link_48 : decode b_H_link 48 = .ok (.new 52, 3) := by decide +kernel
theorem d_H_link_51 : decode b_H_link 51 = .ok (.dup, 1) := by decide +kernel
theorem d_H_link_52 : decode b_H_link 52 = .ok (.aload_n 0, 1) := by decide +kernel
theorem d_H_link_53 : decode b_H_link 53 = .ok (.getfield 39, 3) := by decide +kernel
theorem d_H_link_56 : decode b_H_link 56 = .ok (.iload_n 1, 1) := by decide +kernel
theorem d_H_link_57 : decode b_H_link 57 = .ok (.aaload, 1) := by decide +kernel
theorem d_H_link_58 : decode b_H_link 58 = .ok (.aload_n 0, 1) := by decide +kernel
theorem d_H_link_59 : decode b_H_link 59 = .ok (.getfield 39, 3) := by decide +kernel
theorem d_H_link_62 : decode b_H_link 62 = .ok (.iload_n 2, 1) := by decide +kernel
theorem d_H_link_63 : decode b_H_link 63 = .ok (.aaload, 1) := by decide +kernel
theorem d_H_link_64 : decode b_H_link 64 = .ok (.iload_n 3, 1) := by decide +kernel
theorem d_H_link_65 : decode b_H_link 65 = .ok (.invokespecial 54, 3) := by decide +kernel
theorem d_H_link_68 : decode b_H_link 68 = .ok (.invokevirtual 57, 3) := by decide +kernel
theorem d_H_link_71 : decode b_H_link 71 = .ok (.pop, 1) := by decide +kernel
theorem d_H_link_72 : decode b_H_link 72 = .ok (.aload_n 0, 1) := by decide +kernel
theorem d_H_link_73 : decode b_H_link 73 = .ok (.getfield 10, 3) := by decide +kernel
theorem d_H_link_76 : decode b_H_link 76 = .ok (.invokevirtual 48, 3) := by decide +kernel
theorem d_H_link_79 : decode b_H_link 79 = .ok (.iconst 1, 1) := by decide +kernel
theorem d_H_link_80 : decode b_H_link 80 = .ok (.isub, 1) := by decide +kernel
theorem d_H_link_81 : decode b_H_link 81 = .ok (.ireturn, 1) := by decide +kernel
def pp_H_link (g : Nat → ClassId) (e0 : Nat → Nat) (mc ms : Nat) (K : Int32 → mo_M → Prop) (M : mo_M) (x0 : Nat) (x1 : Int32) (x2 : Int32) (x3 : Int32) : Prop := (0 ≤ mc ∧ 0 ≤ ms ∧ (mp_is M x0 0 ∧ pp_H_hasKiosk g e0 (fun r2 M1 => ((r2 = 0 → (0 ≤ mc ∧ 0 ≤ ms ∧ K ((-1 : Int32)) M1)) ∧ (¬ (r2 = 0) → (0 ≤ mc ∧ 0 ≤ ms ∧ (mp_is M1 x0 0 ∧ pp_H_hasKiosk g e0 (fun r4 M3 => ((r4 = 0 → (0 ≤ mc ∧ 0 ≤ ms ∧ K ((-1 : Int32)) M3)) ∧ (¬ (r4 = 0) → ((x1 = x2 → (0 ≤ mc ∧ 0 ≤ ms ∧ K ((-1 : Int32)) M3)) ∧ (¬ (x1 = x2) → mp_gr M3 x0 0 1 (fun v5 => (0 ≤ mc ∧ 0 ≤ ms ∧ (mp_is M3 v5 5 ∧ pp_A_size g e0 (fun r7 M6 => ((((12 : Int32)) ≤ r7 → (0 ≤ mc ∧ 0 ≤ ms ∧ K ((-1 : Int32)) M6)) ∧ (¬ (((12 : Int32)) ≤ r7) → mp_gi M6 x0 0 4 (fun v8 => ((v8 ≤ 0 → mp_gr M6 x0 0 1 (fun v9 => (0 + 1 ≤ mc ∧ 0 + 6 ≤ ms ∧ mp_nw M6 2 [.null, .null, .int 0, .null, .null, .int 0] (fun q10 M11 => mp_gr M11 x0 0 0 (fun v12 => mp_ar (g 3) M11 v12 x1 (fun v13 => mp_gr M11 x0 0 0 (fun v14 => mp_ar (g 3) M11 v14 x2 (fun v15 => (∃ c16 t17 : Nat, ((0 + 1)) + c16 ≤ mc ∧ ((0 + 6)) + t17 ≤ ms ∧ pp_L_init g e0 c16 t17 (fun M18 => (∃ c19 t20 : Nat, (((0 + 1) + c16)) + c19 ≤ mc ∧ (((0 + 6) + t17)) + t20 ≤ ms ∧ (mp_is M18 v9 5 ∧ pp_A_add0 g e0 c19 t20 (fun r22 M21 => mp_gr M21 x0 0 1 (fun v23 => (((((0 + 1) + c16) + c19)) ≤ mc ∧ ((((0 + 6) + t17) + t20)) ≤ ms ∧ (mp_is M21 v23 5 ∧ pp_A_size g e0 (fun r25 M24 => (((((0 + 1) + c16) + c19)) ≤ mc ∧ ((((0 + 6) + t17) + t20)) ≤ ms ∧ K ((r25 - ((1 : Int32)))) M24)) M21 v23)))) M18 v9 q10))) M11 q10 v13 v15 x3))))))))) ∧ (¬ (v8 ≤ 0) → (0 ≤ mc ∧ 0 ≤ ms ∧ K ((-1 : Int32)) M6))))))) M3 v5)))))))) M1 x0 x2))))) M x0 x1))
set_option maxHeartbeats 4000000 in
set_option maxRecDepth 100000 in
theorem cc_H_link (l : Launch) (L0 : Nat) (D : va_G) {g : Nat → ClassId} {e0 : Nat → Nat} {mc ms : Nat} {K : Int32 → mo_M → Prop} {M : mo_M} {x0 : Nat} {x1 : Int32} {x2 : Int32} {x3 : Int32} (hP : pp_H_link g e0 mc ms K M x0 x1 x2 x3) : Met l y_H_link ws_H_link (mo_R 7 mc ms 191) (va_Pc [.ref x0, .int x1, .int x2, .int x3] (fun U => mo_B L0 e0 D vwCl (mo_T g) M U)) (mo_Qi L0 e0 D vwCl (mo_T g) K) mc ms (fun q => L0 ≤ q) := by
  refine Met.ofW (cc := b_H_link) (maxL := 4) (ret := (Option.some Jvm.ClassFile.FieldType.int)) (by decide +kernel) rfl ?_
  intro p e s m args below meth c s₁ B hml hv
  obtain ⟨hv1, hB0⟩ := hv
  have hx := B.exec
  have hb := B.bytes
  have hr := B.returns
  have hts : ∀ w ∈ lw_g, w.before args s = true := fun w hw => atoms_spec (ws := ws_H_link) B.pre w (List.mem_cons_of_mem _ hw)
  have hown : s.vm.findClass "PurseHouse" = some m.cls := findClass_of_methodNamed B.named
  have hlocks := B.notSynchronized
  have hok : mo_ok L0 e0 D vwCl (mo_T g) s M s.heap [] := ⟨hB0.1, hB0.2.1, hB0.2.2, va_S.rf⟩
  have hl := lv_entry ([.ref x0, .int x1, .int x2, .int x3]) (n := 4) (Nat.le_of_ble_eq_true rfl)
  rw [hv1, lg_entry_eq]
  rw [← hv1]
  generalize (lg_sl [.ref x0, .int x1, .int x2, .int x3] ++ List.replicate (4 - (lg_sl [.ref x0, .int x1, .int x2, .int x3]).length) Slot.unset).toArray = ls at hl ⊢
  have hl : lv_has ls 4 [(0, .ref x0), (1, .int x1), (2, .int x2), (3, .int x3)] := hl
  unfold pp_H_link at hP
  refine lv_aload_n hx hb d_H_link_0 rfl (lv_at hl 0 rfl) ?_
  refine lv_iload_n hx hb d_H_link_1 rfl (lv_at hl 1 rfl) ?_
  obtain ⟨hcc, hss, hP⟩ := hP
  obtain ⟨⟨fs9, he9⟩, hP⟩ := hP
  refine mo_calli hok (va_runV (As := [.int x1]) (rest := []) ⟨hx, hb, hml, hown, hts⟩ (cc_H_hasKiosk l L0 D hP) ⟨(callB_of 1 hts (lw_gi wd_164) rfl rfl rfl (hts _ wd_33) (hts _ wd_161) (by decide +kernel) ⟨Nat.le_of_ble_eq_true rfl, Nat.le_of_ble_eq_true rfl⟩), hts _ wd_163, hts _ wd_0⟩ (mo_preV hok he9 rfl [.int x1]) rfl rfl hl.1 rfl (lv_room (Nat.le_of_ble_eq_true rfl)) d_H_link_2 ⟨hcc, hss⟩) (fun r2 M1 H locs hP hok => ?_)
  refine lv_if_eq (tgt := 21) hx hb d_H_link_5 (by decide) (fun hc => ?_) (fun hc => ?_)
  · replace hP := hP.1 hc
    refine lv_iconst (v := (-1)) hx hb d_H_link_21 (by decide) ?_
    obtain ⟨hcu, hsu, hP⟩ := hP
    refine W.widen (k := mc) (n := ms) hcu hsu ?_
    exact mo_iret hx hb hr hlocks hok hP d_H_link_22
  · replace hP := hP.2 hc
    refine lv_aload_n hx hb d_H_link_8 rfl (lv_at hl 0 rfl) ?_
    refine lv_iload_n hx hb d_H_link_9 rfl (lv_at hl 2 rfl) ?_
    obtain ⟨hcc, hss, hP⟩ := hP
    obtain ⟨⟨fs9, he9⟩, hP⟩ := hP
    refine mo_calli hok (va_runV (As := [.int x2]) (rest := []) ⟨hx, hb, hml, hown, hts⟩ (cc_H_hasKiosk l L0 D hP) ⟨(callB_of 1 hts (lw_gi wd_164) rfl rfl rfl (hts _ wd_33) (hts _ wd_161) (by decide +kernel) ⟨Nat.le_of_ble_eq_true rfl, Nat.le_of_ble_eq_true rfl⟩), hts _ wd_163, hts _ wd_0⟩ (mo_preV hok he9 rfl [.int x2]) rfl rfl hl.1 rfl (lv_room (Nat.le_of_ble_eq_true rfl)) d_H_link_10 ⟨hcc, hss⟩) (fun r4 M3 H locs hP hok => ?_)
    refine lv_if_eq (tgt := 21) hx hb d_H_link_13 (by decide) (fun hc => ?_) (fun hc => ?_)
    · replace hP := hP.1 hc
      refine lv_iconst (v := (-1)) hx hb d_H_link_21 (by decide) ?_
      obtain ⟨hcu, hsu, hP⟩ := hP
      refine W.widen (k := mc) (n := ms) hcu hsu ?_
      exact mo_iret hx hb hr hlocks hok hP d_H_link_22
    · replace hP := hP.2 hc
      refine lv_iload_n hx hb d_H_link_16 rfl (lv_at hl 1 rfl) ?_
      refine lv_iload_n hx hb d_H_link_17 rfl (lv_at hl 2 rfl) ?_
      refine lv_icmp_ne (tgt := 23) hx hb d_H_link_18 (by decide) (fun hc => ?_) (fun hc => ?_)
      · replace hP := hP.2 hc
        refine lv_aload_n hx hb d_H_link_23 rfl (lv_at hl 0 rfl) ?_
        refine mr_gr (C := "PurseHouse") (T := F_0) (N := 5) (ref := "PurseHouse") hx hb hts hown hok hP ui_0 rfl (by decide) (hts _ wd_142) (fun _ h => h) d_H_link_24 (fun v5 hP => ?_)
        obtain ⟨hcc, hss, hP⟩ := hP
        obtain ⟨⟨fs9, he9⟩, hP⟩ := hP
        refine mo_calli hok (va_runV (As := []) (rest := []) ⟨hx, hb, hml, hown, hts⟩ (cc_A_size l L0 D hP) ⟨(callB_of 0 hts (lw_gi wd_171) rfl rfl rfl (hts _ wd_36) (hts _ wd_168) (by decide +kernel) ⟨Nat.le_of_ble_eq_true rfl, Nat.le_of_ble_eq_true rfl⟩), hts _ wd_169, hts _ wd_170⟩ (mo_preV hok he9 rfl []) rfl rfl hl.1 rfl (lv_room (Nat.le_of_ble_eq_true rfl)) d_H_link_27 ⟨hcc, hss⟩) (fun r7 M6 H locs hP hok => ?_)
        refine lv_bipush (v := 12) hx hb d_H_link_30 (by decide) ?_
        refine lv_icmp_ge (tgt := 42) hx hb d_H_link_32 (by decide) (fun hc => ?_) (fun hc => ?_)
        · replace hP := hP.1 hc
          refine lv_iconst (v := (-1)) hx hb d_H_link_42 (by decide) ?_
          obtain ⟨hcu, hsu, hP⟩ := hP
          refine W.widen (k := mc) (n := ms) hcu hsu ?_
          exact mo_iret hx hb hr hlocks hok hP d_H_link_43
        · replace hP := hP.2 hc
          refine lv_aload_n hx hb d_H_link_35 rfl (lv_at hl 0 rfl) ?_
          refine mr_gi (C := "PurseHouse") (T := F_0) (N := 5) (ref := "PurseHouse") hx hb hts hown hok hP ui_0 rfl (by decide) (hts _ wd_145) (fun _ h => h) d_H_link_36 (fun v8 hP => ?_)
          refine lv_if_le (tgt := 44) hx hb d_H_link_39 (by decide) (fun hc => ?_) (fun hc => ?_)
          · replace hP := hP.1 hc
            refine lv_aload_n hx hb d_H_link_44 rfl (lv_at hl 0 rfl) ?_
            refine mr_gr (C := "PurseHouse") (T := F_0) (N := 5) (ref := "PurseHouse") hx hb hts hown hok hP ui_0 rfl (by decide) (hts _ wd_142) (fun _ h => h) d_H_link_45 (fun v9 hP => ?_)
            obtain ⟨hcc, hss, hP⟩ := hP
            refine mr_nw (C := "PurseHouse$Link") (T := F_2) (N := 6) hx hb hts hown hok hP ui_2 ty_2 th_2 rfl tf_2 (hts _ wd_172) (hts _ wd_173) (hts _ wd_40) hcc hss d_H_link_48 (fun q10 M11 H hP hok => ?_)
            refine lv_dup hx hb d_H_link_51 rfl ?_
            refine lv_aload_n hx hb d_H_link_52 rfl (lv_at hl 0 rfl) ?_
            refine mr_gr (C := "PurseHouse") (T := F_0) (N := 5) (ref := "PurseHouse") hx hb hts hown hok hP ui_0 rfl (by decide) (hts _ wd_141) (fun _ h => h) d_H_link_53 (fun v12 hP => ?_)
            refine lv_iload_n hx hb d_H_link_56 rfl (lv_at hl 1 rfl) ?_
            refine mr_ar hx hb hok hP 3 rfl rfl d_H_link_57 (fun v13 hP => ?_)
            refine lv_aload_n hx hb d_H_link_58 rfl (lv_at hl 0 rfl) ?_
            refine mr_gr (C := "PurseHouse") (T := F_0) (N := 5) (ref := "PurseHouse") hx hb hts hown hok hP ui_0 rfl (by decide) (hts _ wd_141) (fun _ h => h) d_H_link_59 (fun v14 hP => ?_)
            refine lv_iload_n hx hb d_H_link_62 rfl (lv_at hl 2 rfl) ?_
            refine mr_ar hx hb hok hP 3 rfl rfl d_H_link_63 (fun v15 hP => ?_)
            refine lv_iload_n hx hb d_H_link_64 rfl (lv_at hl 3 rfl) ?_
            obtain ⟨c16, t17, hcc, hss, hP⟩ := hP
            refine mo_callv hok (va_runI (As := [.ref v13, .ref v15, .int x3]) (rest := [.ref q10, .ref v9]) ⟨hx, hb, hml, hown, hts⟩ (cc_L_init l L0 D hP) ⟨(callB_of 3 hts (lw_gi wd_176) rfl rfl rfl (hts _ wd_40) (hts _ wd_174) (by decide +kernel) ⟨Nat.le_of_ble_eq_true rfl, Nat.le_of_ble_eq_true rfl⟩), rfl, hts _ wd_175⟩ (mo_preS hok [.ref q10, .ref v13, .ref v15, .int x3]) rfl rfl hl.1 rfl (lv_room (Nat.le_of_ble_eq_true rfl)) d_H_link_65 ⟨hcc, hss⟩) (fun M18 H locs hP hok => ?_)
            obtain ⟨c19, t20, hcc, hss, hP⟩ := hP
            obtain ⟨⟨fs9, he9⟩, hP⟩ := hP
            refine mo_calli hok (va_runV (As := [.ref q10]) (rest := []) ⟨hx, hb, hml, hown, hts⟩ (cc_A_add0 l L0 D hP) ⟨(callB_of 1 hts (lw_gi wd_209) rfl rfl rfl (hts _ wd_36) (hts _ wd_206) (by decide +kernel) ⟨Nat.le_of_ble_eq_true rfl, Nat.le_of_ble_eq_true rfl⟩), hts _ wd_207, hts _ wd_208⟩ (mo_preV hok he9 rfl [.ref q10]) rfl rfl hl.1 rfl (lv_room (Nat.le_of_ble_eq_true rfl)) d_H_link_68 ⟨hcc, hss⟩) (fun r22 M21 H locs hP hok => ?_)
            refine lv_pop hx hb d_H_link_71 rfl ?_
            refine lv_aload_n hx hb d_H_link_72 rfl (lv_at hl 0 rfl) ?_
            refine mr_gr (C := "PurseHouse") (T := F_0) (N := 5) (ref := "PurseHouse") hx hb hts hown hok hP ui_0 rfl (by decide) (hts _ wd_142) (fun _ h => h) d_H_link_73 (fun v23 hP => ?_)
            obtain ⟨hcc, hss, hP⟩ := hP
            obtain ⟨⟨fs9, he9⟩, hP⟩ := hP
            refine mo_calli hok (va_runV (As := []) (rest := []) ⟨hx, hb, hml, hown, hts⟩ (cc_A_size l L0 D hP) ⟨(callB_of 0 hts (lw_gi wd_171) rfl rfl rfl (hts _ wd_36) (hts _ wd_168) (by decide +kernel) ⟨Nat.le_of_ble_eq_true rfl, Nat.le_of_ble_eq_true rfl⟩), hts _ wd_169, hts _ wd_170⟩ (mo_preV hok he9 rfl []) rfl rfl hl.1 rfl (lv_room (Nat.le_of_ble_eq_true rfl)) d_H_link_76 ⟨hcc, hss⟩) (fun r25 M24 H locs hP hok => ?_)
            refine lv_iconst (v := 1) hx hb d_H_link_79 (by decide) ?_
            refine lv_isub hx hb d_H_link_80 ?_
            obtain ⟨hcu, hsu, hP⟩ := hP
            refine W.widen (k := mc) (n := ms) hcu hsu ?_
            exact mo_iret hx hb hr hlocks hok hP d_H_link_81
          · replace hP := hP.2 hc
            refine lv_iconst (v := (-1)) hx hb d_H_link_42 (by decide) ?_
            obtain ⟨hcu, hsu, hP⟩ := hP
            refine W.widen (k := mc) (n := ms) hcu hsu ?_
            exact mo_iret hx hb hr hlocks hok hP d_H_link_43
      · replace hP := hP.1 hc
        refine lv_iconst (v := (-1)) hx hb d_H_link_21 (by decide) ?_
        obtain ⟨hcu, hsu, hP⟩ := hP
        refine W.widen (k := mc) (n := ms) hcu hsu ?_
        exact mo_iret hx hb hr hlocks hok hP d_H_link_22

abbrev b_H_rate : ByteArray := prog_1_method_3_code
def y_H_rate : MethodName := ⟨"PurseHouse", "rate", "(IIII)Z"⟩
def ws_H_rate : List Cond := .code y_H_rate b_H_rate 5 (Option.some Jvm.ClassFile.FieldType.boolean) :: lw_g
theorem d_H_rate_0 : decode b_H_rate 0 = .ok (.iload_n 1, 1) := by decide +kernel
theorem d_H_rate_1 : decode b_H_rate 1 = .ok (.invokestatic 61, 3) := by decide +kernel
theorem d_H_rate_4 : decode b_H_rate 4 = .ok (.ifCond .eq 15, 3) := by decide +kernel
theorem d_H_rate_7 : decode b_H_rate 7 = .ok (.iload_n 2, 1) := by decide +kernel
theorem d_H_rate_8 : decode b_H_rate 8 = .ok (.invokestatic 61, 3) := by decide +kernel
theorem d_H_rate_11 : decode b_H_rate 11 = .ok (.ifCond .eq 8, 3) := by decide +kernel
theorem d_H_rate_14 : decode b_H_rate 14 = .ok (.iload_n 1, 1) := by decide +kernel
theorem d_H_rate_15 : decode b_H_rate 15 = .ok (.iload_n 2, 1) := by decide +kernel
theorem d_H_rate_16 : decode b_H_rate 16 = .ok (.if_icmp .ne 5, 3) := by decide +kernel
theorem d_H_rate_19 : decode b_H_rate 19 = .ok (.iconst 0, 1) := by decide +kernel
theorem d_H_rate_20 : decode b_H_rate 20 = .ok (.ireturn, 1) := by decide +kernel
theorem d_H_rate_21 : decode b_H_rate 21 = .ok (.iload_n 3, 1) := by decide +kernel
theorem d_H_rate_22 : decode b_H_rate 22 = .ok (.iconst 1, 1) := by decide +kernel
theorem d_H_rate_23 : decode b_H_rate 23 = .ok (.ldc 64, 2) := by decide +kernel
theorem d_H_rate_25 : decode b_H_rate 25 = .ok (.invokestatic 65, 3) := by decide +kernel
theorem d_H_rate_28 : decode b_H_rate 28 = .ok (.ifCond .eq 14, 3) := by decide +kernel
theorem d_H_rate_31 : decode b_H_rate 31 = .ok (.iload 4, 2) := by decide +kernel
theorem d_H_rate_33 : decode b_H_rate 33 = .ok (.iconst 1, 1) := by decide +kernel
theorem d_H_rate_34 : decode b_H_rate 34 = .ok (.ldc 64, 2) := by decide +kernel
theorem d_H_rate_36 : decode b_H_rate 36 = .ok (.invokestatic 65, 3) := by decide +kernel
theorem d_H_rate_39 : decode b_H_rate 39 = .ok (.ifCond .ne 5, 3) := by decide +kernel
theorem d_H_rate_42 : decode b_H_rate 42 = .ok (.iconst 0, 1) := by decide +kernel
theorem d_H_rate_43 : decode b_H_rate 43 = .ok (.ireturn, 1) := by decide +kernel
theorem d_H_rate_44 : decode b_H_rate 44 = .ok (.aload_n 0, 1) := by decide +kernel
theorem d_H_rate_45 : decode b_H_rate 45 = .ok (.getfield 18, 3) := by decide +kernel
theorem d_H_rate_48 : decode b_H_rate 48 = .ok (.iload_n 1, 1) := by decide +kernel
theorem d_H_rate_49 : decode b_H_rate 49 = .ok (.aaload, 1) := by decide +kernel
theorem d_H_rate_50 : decode b_H_rate 50 = .ok (.iload_n 2, 1) := by decide +kernel
theorem d_H_rate_51 : decode b_H_rate 51 = .ok (.iload_n 3, 1) := by decide +kernel
theorem d_H_rate_52 : decode b_H_rate 52 = .ok (.iastore, 1) := by decide +kernel
theorem d_H_rate_53 : decode b_H_rate 53 = .ok (.aload_n 0, 1) := by decide +kernel
theorem d_H_rate_54 : decode b_H_rate 54 = .ok (.getfield 21, 3) := by decide +kernel
theorem d_H_rate_57 : decode b_H_rate 57 = .ok (.iload_n 1, 1) := by decide +kernel
theorem d_H_rate_58 : decode b_H_rate 58 = .ok (.aaload, 1) := by decide +kernel
theorem d_H_rate_59 : decode b_H_rate 59 = .ok (.iload_n 2, 1) := by decide +kernel
theorem d_H_rate_60 : decode b_H_rate 60 = .ok (.iload 4, 2) := by decide +kernel
theorem d_H_rate_62 : decode b_H_rate 62 = .ok (.iastore, 1) := by decide +kernel
theorem d_H_rate_63 : decode b_H_rate 63 = .ok (.iconst 1, 1) := by decide +kernel
theorem d_H_rate_64 : decode b_H_rate 64 = .ok (.ireturn, 1) := by decide +kernel
def pp_H_rate (g : Nat → ClassId) (e0 : Nat → Nat) (K : Int32 → mo_M → Prop) (M : mo_M) (x0 : Nat) (x1 : Int32) (x2 : Int32) (x3 : Int32) (x4 : Int32) : Prop := pp_H_hasCurrency g e0 (fun r2 M1 => ((r2 = 0 → (narrow .boolean (.int ((0 : Int32))) = .int ((0 : Int32)) ∧ K ((0 : Int32)) M1)) ∧ (¬ (r2 = 0) → pp_H_hasCurrency g e0 (fun r4 M3 => ((r4 = 0 → (narrow .boolean (.int ((0 : Int32))) = .int ((0 : Int32)) ∧ K ((0 : Int32)) M3)) ∧ (¬ (r4 = 0) → ((x1 = x2 → (narrow .boolean (.int ((0 : Int32))) = .int ((0 : Int32)) ∧ K ((0 : Int32)) M3)) ∧ (¬ (x1 = x2) → pp_H_isBetween g e0 (fun r6 M5 => ((r6 = 0 → (narrow .boolean (.int ((0 : Int32))) = .int ((0 : Int32)) ∧ K ((0 : Int32)) M5)) ∧ (¬ (r6 = 0) → pp_H_isBetween g e0 (fun r8 M7 => ((r8 = 0 → (narrow .boolean (.int ((0 : Int32))) = .int ((0 : Int32)) ∧ K ((0 : Int32)) M7)) ∧ (¬ (r8 = 0) → mp_gr M7 x0 0 2 (fun v9 => mp_ar (g 5) M7 v9 x1 (fun v10 => mp_si (g 0) M7 v10 x2 x3 (fun M11 => mp_gr M11 x0 0 3 (fun v12 => mp_ar (g 5) M11 v12 x1 (fun v13 => mp_si (g 0) M11 v13 x2 x4 (fun M14 => (narrow .boolean (.int ((1 : Int32))) = .int ((1 : Int32)) ∧ K ((1 : Int32)) M14)))))))))) M5 x4 ((1 : Int32)) ((1000000 : Int32))))) M3 x3 ((1 : Int32)) ((1000000 : Int32))))))) M1 x2))) M x1
set_option maxHeartbeats 4000000 in
set_option maxRecDepth 100000 in
theorem cc_H_rate (l : Launch) (L0 : Nat) (D : va_G) {g : Nat → ClassId} {e0 : Nat → Nat} {K : Int32 → mo_M → Prop} {M : mo_M} {x0 : Nat} {x1 : Int32} {x2 : Int32} {x3 : Int32} {x4 : Int32} (hP : pp_H_rate g e0 K M x0 x1 x2 x3 x4) : Met l y_H_rate ws_H_rate (mo_R 2 0 0 42) (va_Pc [.ref x0, .int x1, .int x2, .int x3, .int x4] (fun U => mo_B L0 e0 D vwCl (mo_T g) M U)) (mo_Qi L0 e0 D vwCl (mo_T g) K) 0 0 (fun q => L0 ≤ q) := by
  refine Met.ofW (cc := b_H_rate) (maxL := 5) (ret := (Option.some Jvm.ClassFile.FieldType.boolean)) (by decide +kernel) rfl ?_
  intro p e s m args below meth c s₁ B hml hv
  obtain ⟨hv1, hB0⟩ := hv
  have hx := B.exec
  have hb := B.bytes
  have hr := B.returns
  have hts : ∀ w ∈ lw_g, w.before args s = true := fun w hw => atoms_spec (ws := ws_H_rate) B.pre w (List.mem_cons_of_mem _ hw)
  have hown : s.vm.findClass "PurseHouse" = some m.cls := findClass_of_methodNamed B.named
  have hlocks := B.notSynchronized
  have hok : mo_ok L0 e0 D vwCl (mo_T g) s M s.heap [] := ⟨hB0.1, hB0.2.1, hB0.2.2, va_S.rf⟩
  have hl := lv_entry ([.ref x0, .int x1, .int x2, .int x3, .int x4]) (n := 5) (Nat.le_of_ble_eq_true rfl)
  rw [hv1, lg_entry_eq]
  rw [← hv1]
  generalize (lg_sl [.ref x0, .int x1, .int x2, .int x3, .int x4] ++ List.replicate (5 - (lg_sl [.ref x0, .int x1, .int x2, .int x3, .int x4]).length) Slot.unset).toArray = ls at hl ⊢
  have hl : lv_has ls 5 [(0, .ref x0), (1, .int x1), (2, .int x2), (3, .int x3), (4, .int x4)] := hl
  unfold pp_H_rate at hP
  refine lv_iload_n hx hb d_H_rate_0 rfl (lv_at hl 1 rfl) ?_
  refine mo_calli hok (va_runS (As := [.int x1]) (rest := []) ⟨hx, hb, hml, hown, hts⟩ (cc_H_hasCurrency l L0 D hP) ⟨(callB_of 1 hts (lw_gi wd_263) rfl rfl rfl (hts _ wd_33) (hts _ wd_261) (by decide +kernel) ⟨Nat.le_of_ble_eq_true rfl, Nat.le_of_ble_eq_true rfl⟩), hts _ wd_262⟩ (mo_preS hok [.int x1]) rfl rfl hl.1 rfl (lv_room (Nat.le_of_ble_eq_true rfl)) d_H_rate_1 ⟨Nat.zero_le _, Nat.zero_le _⟩) (fun r2 M1 H locs hP hok => ?_)
  refine lv_if_eq (tgt := 19) hx hb d_H_rate_4 (by decide) (fun hc => ?_) (fun hc => ?_)
  · replace hP := hP.1 hc
    refine lv_iconst (v := 0) hx hb d_H_rate_19 (by decide) ?_
    exact mo_zret hx hb hr hlocks hok hP d_H_rate_20
  · replace hP := hP.2 hc
    refine lv_iload_n hx hb d_H_rate_7 rfl (lv_at hl 2 rfl) ?_
    refine mo_calli hok (va_runS (As := [.int x2]) (rest := []) ⟨hx, hb, hml, hown, hts⟩ (cc_H_hasCurrency l L0 D hP) ⟨(callB_of 1 hts (lw_gi wd_263) rfl rfl rfl (hts _ wd_33) (hts _ wd_261) (by decide +kernel) ⟨Nat.le_of_ble_eq_true rfl, Nat.le_of_ble_eq_true rfl⟩), hts _ wd_262⟩ (mo_preS hok [.int x2]) rfl rfl hl.1 rfl (lv_room (Nat.le_of_ble_eq_true rfl)) d_H_rate_8 ⟨Nat.zero_le _, Nat.zero_le _⟩) (fun r4 M3 H locs hP hok => ?_)
    refine lv_if_eq (tgt := 19) hx hb d_H_rate_11 (by decide) (fun hc => ?_) (fun hc => ?_)
    · replace hP := hP.1 hc
      refine lv_iconst (v := 0) hx hb d_H_rate_19 (by decide) ?_
      exact mo_zret hx hb hr hlocks hok hP d_H_rate_20
    · replace hP := hP.2 hc
      refine lv_iload_n hx hb d_H_rate_14 rfl (lv_at hl 1 rfl) ?_
      refine lv_iload_n hx hb d_H_rate_15 rfl (lv_at hl 2 rfl) ?_
      refine lv_icmp_ne (tgt := 21) hx hb d_H_rate_16 (by decide) (fun hc => ?_) (fun hc => ?_)
      · replace hP := hP.2 hc
        refine lv_iload_n hx hb d_H_rate_21 rfl (lv_at hl 3 rfl) ?_
        refine lv_iconst (v := 1) hx hb d_H_rate_22 (by decide) ?_
        refine lv_ldc hx hb hown (hts _ wd_264) d_H_rate_23 ?_
        refine mo_calli hok (va_runS (As := [.int x3, .int ((1 : Int32)), .int ((1000000 : Int32))]) (rest := []) ⟨hx, hb, hml, hown, hts⟩ (cc_H_isBetween l L0 D hP) ⟨(callB_of 3 hts (lw_gi wd_167) rfl rfl rfl (hts _ wd_33) (hts _ wd_165) (by decide +kernel) ⟨Nat.le_of_ble_eq_true rfl, Nat.le_of_ble_eq_true rfl⟩), hts _ wd_166⟩ (mo_preS hok [.int x3, .int ((1 : Int32)), .int ((1000000 : Int32))]) rfl rfl hl.1 rfl (lv_room (Nat.le_of_ble_eq_true rfl)) d_H_rate_25 ⟨Nat.zero_le _, Nat.zero_le _⟩) (fun r6 M5 H locs hP hok => ?_)
        refine lv_if_eq (tgt := 42) hx hb d_H_rate_28 (by decide) (fun hc => ?_) (fun hc => ?_)
        · replace hP := hP.1 hc
          refine lv_iconst (v := 0) hx hb d_H_rate_42 (by decide) ?_
          exact mo_zret hx hb hr hlocks hok hP d_H_rate_43
        · replace hP := hP.2 hc
          refine lv_iload hx hb d_H_rate_31 (lv_at hl 4 rfl) ?_
          refine lv_iconst (v := 1) hx hb d_H_rate_33 (by decide) ?_
          refine lv_ldc hx hb hown (hts _ wd_264) d_H_rate_34 ?_
          refine mo_calli hok (va_runS (As := [.int x4, .int ((1 : Int32)), .int ((1000000 : Int32))]) (rest := []) ⟨hx, hb, hml, hown, hts⟩ (cc_H_isBetween l L0 D hP) ⟨(callB_of 3 hts (lw_gi wd_167) rfl rfl rfl (hts _ wd_33) (hts _ wd_165) (by decide +kernel) ⟨Nat.le_of_ble_eq_true rfl, Nat.le_of_ble_eq_true rfl⟩), hts _ wd_166⟩ (mo_preS hok [.int x4, .int ((1 : Int32)), .int ((1000000 : Int32))]) rfl rfl hl.1 rfl (lv_room (Nat.le_of_ble_eq_true rfl)) d_H_rate_36 ⟨Nat.zero_le _, Nat.zero_le _⟩) (fun r8 M7 H locs hP hok => ?_)
          refine lv_if_ne (tgt := 44) hx hb d_H_rate_39 (by decide) (fun hc => ?_) (fun hc => ?_)
          · replace hP := hP.2 hc
            refine lv_aload_n hx hb d_H_rate_44 rfl (lv_at hl 0 rfl) ?_
            refine mr_gr (C := "PurseHouse") (T := F_0) (N := 5) (ref := "PurseHouse") hx hb hts hown hok hP ui_0 rfl (by decide) (hts _ wd_143) (fun _ h => h) d_H_rate_45 (fun v9 hP => ?_)
            refine lv_iload_n hx hb d_H_rate_48 rfl (lv_at hl 1 rfl) ?_
            refine mr_ar hx hb hok hP 5 rfl rfl d_H_rate_49 (fun v10 hP => ?_)
            refine lv_iload_n hx hb d_H_rate_50 rfl (lv_at hl 2 rfl) ?_
            refine lv_iload_n hx hb d_H_rate_51 rfl (lv_at hl 3 rfl) ?_
            refine mr_si hx hb hok hP 0 rfl d_H_rate_52 (fun M11 H locs hP hok => ?_)
            refine lv_aload_n hx hb d_H_rate_53 rfl (lv_at hl 0 rfl) ?_
            refine mr_gr (C := "PurseHouse") (T := F_0) (N := 5) (ref := "PurseHouse") hx hb hts hown hok hP ui_0 rfl (by decide) (hts _ wd_144) (fun _ h => h) d_H_rate_54 (fun v12 hP => ?_)
            refine lv_iload_n hx hb d_H_rate_57 rfl (lv_at hl 1 rfl) ?_
            refine mr_ar hx hb hok hP 5 rfl rfl d_H_rate_58 (fun v13 hP => ?_)
            refine lv_iload_n hx hb d_H_rate_59 rfl (lv_at hl 2 rfl) ?_
            refine lv_iload hx hb d_H_rate_60 (lv_at hl 4 rfl) ?_
            refine mr_si hx hb hok hP 0 rfl d_H_rate_62 (fun M14 H locs hP hok => ?_)
            refine lv_iconst (v := 1) hx hb d_H_rate_63 (by decide) ?_
            exact mo_zret hx hb hr hlocks hok hP d_H_rate_64
          · replace hP := hP.1 hc
            refine lv_iconst (v := 0) hx hb d_H_rate_42 (by decide) ?_
            exact mo_zret hx hb hr hlocks hok hP d_H_rate_43
      · replace hP := hP.1 hc
        refine lv_iconst (v := 0) hx hb d_H_rate_19 (by decide) ?_
        exact mo_zret hx hb hr hlocks hok hP d_H_rate_20

abbrev b_H_mint : ByteArray := prog_1_method_4_code
def y_H_mint : MethodName := ⟨"PurseHouse", "mint", "(III)Z"⟩
def ws_H_mint : List Cond := .code y_H_mint b_H_mint 4 (Option.some Jvm.ClassFile.FieldType.boolean) :: lw_g
theorem d_H_mint_0 : decode b_H_mint 0 = .ok (.aload_n 0, 1) := by decide +kernel
theorem d_H_mint_1 : decode b_H_mint 1 = .ok (.iload_n 1, 1) := by decide +kernel
theorem d_H_mint_2 : decode b_H_mint 2 = .ok (.invokevirtual 44, 3) := by decide +kernel
theorem d_H_mint_5 : decode b_H_mint 5 = .ok (.ifCond .eq 20, 3) := by decide +kernel
theorem d_H_mint_8 : decode b_H_mint 8 = .ok (.iload_n 2, 1) := by decide +kernel
theorem d_H_mint_9 : decode b_H_mint 9 = .ok (.invokestatic 61, 3) := by decide +kernel
theorem d_H_mint_12 : decode b_H_mint 12 = .ok (.ifCond .eq 13, 3) := by decide +kernel
theorem d_H_mint_15 : decode b_H_mint 15 = .ok (.iload_n 3, 1) := by decide +kernel
theorem d_H_mint_16 : decode b_H_mint 16 = .ok (.iconst 1, 1) := by decide +kernel
theorem d_H_mint_17 : decode b_H_mint 17 = .ok (.ldc 69, 2) := by decide +kernel
theorem d_H_mint_19 : decode b_H_mint 19 = .ok (.invokestatic 65, 3) := by decide +kernel
theorem d_H_mint_22 : decode b_H_mint 22 = .ok (.ifCond .ne 5, 3) := by decide +kernel
theorem d_H_mint_25 : decode b_H_mint 25 = .ok (.iconst 0, 1) := by decide +kernel
theorem d_H_mint_26 : decode b_H_mint 26 = .ok (.ireturn, 1) := by decide +kernel
theorem d_H_mint_27 : decode b_H_mint 27 = .ok (.aload_n 0, 1) := by decide +kernel
theorem d_H_mint_28 : decode b_H_mint 28 = .ok (.getfield 39, 3) := by decide +kernel
theorem d_H_mint_31 : decode b_H_mint 31 = .ok (.iload_n 1, 1) := by decide +kernel
theorem d_H_mint_32 : decode b_H_mint 32 = .ok (.aaload, 1) := by decide +kernel
theorem d_H_mint_33 : decode b_H_mint 33 = .ok (.iload_n 2, 1) := by decide +kernel
theorem d_H_mint_34 : decode b_H_mint 34 = .ok (.iload_n 3, 1) := by decide +kernel
theorem d_H_mint_35 : decode b_H_mint 35 = .ok (.invokevirtual 70, 3) := by decide +kernel
theorem d_H_mint_38 : decode b_H_mint 38 = .ok (.iconst 1, 1) := by decide +kernel
theorem d_H_mint_39 : decode b_H_mint 39 = .ok (.ireturn, 1) := by decide +kernel
def pp_H_mint (g : Nat → ClassId) (e0 : Nat → Nat) (K : Int32 → mo_M → Prop) (M : mo_M) (x0 : Nat) (x1 : Int32) (x2 : Int32) (x3 : Int32) : Prop := (mp_is M x0 0 ∧ pp_H_hasKiosk g e0 (fun r2 M1 => ((r2 = 0 → (narrow .boolean (.int ((0 : Int32))) = .int ((0 : Int32)) ∧ K ((0 : Int32)) M1)) ∧ (¬ (r2 = 0) → pp_H_hasCurrency g e0 (fun r4 M3 => ((r4 = 0 → (narrow .boolean (.int ((0 : Int32))) = .int ((0 : Int32)) ∧ K ((0 : Int32)) M3)) ∧ (¬ (r4 = 0) → pp_H_isBetween g e0 (fun r6 M5 => ((r6 = 0 → (narrow .boolean (.int ((0 : Int32))) = .int ((0 : Int32)) ∧ K ((0 : Int32)) M5)) ∧ (¬ (r6 = 0) → mp_gr M5 x0 0 0 (fun v7 => mp_ar (g 3) M5 v7 x1 (fun v8 => (mp_is M5 v8 1 ∧ pp_K_addCoins g e0 (fun M9 => (narrow .boolean (.int ((1 : Int32))) = .int ((1 : Int32)) ∧ K ((1 : Int32)) M9)) M5 v8 x2 x3)))))) M3 x3 ((1 : Int32)) ((1000000000 : Int32))))) M1 x2))) M x0 x1)
set_option maxHeartbeats 4000000 in
set_option maxRecDepth 100000 in
theorem cc_H_mint (l : Launch) (L0 : Nat) (D : va_G) {g : Nat → ClassId} {e0 : Nat → Nat} {K : Int32 → mo_M → Prop} {M : mo_M} {x0 : Nat} {x1 : Int32} {x2 : Int32} {x3 : Int32} (hP : pp_H_mint g e0 K M x0 x1 x2 x3) : Met l y_H_mint ws_H_mint (mo_R 2 0 0 43) (va_Pc [.ref x0, .int x1, .int x2, .int x3] (fun U => mo_B L0 e0 D vwCl (mo_T g) M U)) (mo_Qi L0 e0 D vwCl (mo_T g) K) 0 0 (fun q => L0 ≤ q) := by
  refine Met.ofW (cc := b_H_mint) (maxL := 4) (ret := (Option.some Jvm.ClassFile.FieldType.boolean)) (by decide +kernel) rfl ?_
  intro p e s m args below meth c s₁ B hml hv
  obtain ⟨hv1, hB0⟩ := hv
  have hx := B.exec
  have hb := B.bytes
  have hr := B.returns
  have hts : ∀ w ∈ lw_g, w.before args s = true := fun w hw => atoms_spec (ws := ws_H_mint) B.pre w (List.mem_cons_of_mem _ hw)
  have hown : s.vm.findClass "PurseHouse" = some m.cls := findClass_of_methodNamed B.named
  have hlocks := B.notSynchronized
  have hok : mo_ok L0 e0 D vwCl (mo_T g) s M s.heap [] := ⟨hB0.1, hB0.2.1, hB0.2.2, va_S.rf⟩
  have hl := lv_entry ([.ref x0, .int x1, .int x2, .int x3]) (n := 4) (Nat.le_of_ble_eq_true rfl)
  rw [hv1, lg_entry_eq]
  rw [← hv1]
  generalize (lg_sl [.ref x0, .int x1, .int x2, .int x3] ++ List.replicate (4 - (lg_sl [.ref x0, .int x1, .int x2, .int x3]).length) Slot.unset).toArray = ls at hl ⊢
  have hl : lv_has ls 4 [(0, .ref x0), (1, .int x1), (2, .int x2), (3, .int x3)] := hl
  unfold pp_H_mint at hP
  refine lv_aload_n hx hb d_H_mint_0 rfl (lv_at hl 0 rfl) ?_
  refine lv_iload_n hx hb d_H_mint_1 rfl (lv_at hl 1 rfl) ?_
  obtain ⟨⟨fs9, he9⟩, hP⟩ := hP
  refine mo_calli hok (va_runV (As := [.int x1]) (rest := []) ⟨hx, hb, hml, hown, hts⟩ (cc_H_hasKiosk l L0 D hP) ⟨(callB_of 1 hts (lw_gi wd_164) rfl rfl rfl (hts _ wd_33) (hts _ wd_161) (by decide +kernel) ⟨Nat.le_of_ble_eq_true rfl, Nat.le_of_ble_eq_true rfl⟩), hts _ wd_163, hts _ wd_0⟩ (mo_preV hok he9 rfl [.int x1]) rfl rfl hl.1 rfl (lv_room (Nat.le_of_ble_eq_true rfl)) d_H_mint_2 ⟨Nat.zero_le _, Nat.zero_le _⟩) (fun r2 M1 H locs hP hok => ?_)
  refine lv_if_eq (tgt := 25) hx hb d_H_mint_5 (by decide) (fun hc => ?_) (fun hc => ?_)
  · replace hP := hP.1 hc
    refine lv_iconst (v := 0) hx hb d_H_mint_25 (by decide) ?_
    exact mo_zret hx hb hr hlocks hok hP d_H_mint_26
  · replace hP := hP.2 hc
    refine lv_iload_n hx hb d_H_mint_8 rfl (lv_at hl 2 rfl) ?_
    refine mo_calli hok (va_runS (As := [.int x2]) (rest := []) ⟨hx, hb, hml, hown, hts⟩ (cc_H_hasCurrency l L0 D hP) ⟨(callB_of 1 hts (lw_gi wd_263) rfl rfl rfl (hts _ wd_33) (hts _ wd_261) (by decide +kernel) ⟨Nat.le_of_ble_eq_true rfl, Nat.le_of_ble_eq_true rfl⟩), hts _ wd_262⟩ (mo_preS hok [.int x2]) rfl rfl hl.1 rfl (lv_room (Nat.le_of_ble_eq_true rfl)) d_H_mint_9 ⟨Nat.zero_le _, Nat.zero_le _⟩) (fun r4 M3 H locs hP hok => ?_)
    refine lv_if_eq (tgt := 25) hx hb d_H_mint_12 (by decide) (fun hc => ?_) (fun hc => ?_)
    · replace hP := hP.1 hc
      refine lv_iconst (v := 0) hx hb d_H_mint_25 (by decide) ?_
      exact mo_zret hx hb hr hlocks hok hP d_H_mint_26
    · replace hP := hP.2 hc
      refine lv_iload_n hx hb d_H_mint_15 rfl (lv_at hl 3 rfl) ?_
      refine lv_iconst (v := 1) hx hb d_H_mint_16 (by decide) ?_
      refine lv_ldc hx hb hown (hts _ wd_269) d_H_mint_17 ?_
      refine mo_calli hok (va_runS (As := [.int x3, .int ((1 : Int32)), .int ((1000000000 : Int32))]) (rest := []) ⟨hx, hb, hml, hown, hts⟩ (cc_H_isBetween l L0 D hP) ⟨(callB_of 3 hts (lw_gi wd_167) rfl rfl rfl (hts _ wd_33) (hts _ wd_165) (by decide +kernel) ⟨Nat.le_of_ble_eq_true rfl, Nat.le_of_ble_eq_true rfl⟩), hts _ wd_166⟩ (mo_preS hok [.int x3, .int ((1 : Int32)), .int ((1000000000 : Int32))]) rfl rfl hl.1 rfl (lv_room (Nat.le_of_ble_eq_true rfl)) d_H_mint_19 ⟨Nat.zero_le _, Nat.zero_le _⟩) (fun r6 M5 H locs hP hok => ?_)
      refine lv_if_ne (tgt := 27) hx hb d_H_mint_22 (by decide) (fun hc => ?_) (fun hc => ?_)
      · replace hP := hP.2 hc
        refine lv_aload_n hx hb d_H_mint_27 rfl (lv_at hl 0 rfl) ?_
        refine mr_gr (C := "PurseHouse") (T := F_0) (N := 5) (ref := "PurseHouse") hx hb hts hown hok hP ui_0 rfl (by decide) (hts _ wd_141) (fun _ h => h) d_H_mint_28 (fun v7 hP => ?_)
        refine lv_iload_n hx hb d_H_mint_31 rfl (lv_at hl 1 rfl) ?_
        refine mr_ar hx hb hok hP 3 rfl rfl d_H_mint_32 (fun v8 hP => ?_)
        refine lv_iload_n hx hb d_H_mint_33 rfl (lv_at hl 2 rfl) ?_
        refine lv_iload_n hx hb d_H_mint_34 rfl (lv_at hl 3 rfl) ?_
        obtain ⟨⟨fs9, he9⟩, hP⟩ := hP
        refine mo_callv hok (va_runV (As := [.int x2, .int x3]) (rest := []) ⟨hx, hb, hml, hown, hts⟩ (cc_K_addCoins l L0 D hP) ⟨(callB_of 2 hts (lw_gi wd_273) rfl rfl rfl (hts _ wd_38) (hts _ wd_270) (by decide +kernel) ⟨Nat.le_of_ble_eq_true rfl, Nat.le_of_ble_eq_true rfl⟩), hts _ wd_271, hts _ wd_272⟩ (mo_preV hok he9 rfl [.int x2, .int x3]) rfl rfl hl.1 rfl (lv_room (Nat.le_of_ble_eq_true rfl)) d_H_mint_35 ⟨Nat.zero_le _, Nat.zero_le _⟩) (fun M9 H locs hP hok => ?_)
        refine lv_iconst (v := 1) hx hb d_H_mint_38 (by decide) ?_
        exact mo_zret hx hb hr hlocks hok hP d_H_mint_39
      · replace hP := hP.1 hc
        refine lv_iconst (v := 0) hx hb d_H_mint_25 (by decide) ?_
        exact mo_zret hx hb hr hlocks hok hP d_H_mint_26

abbrev b_H_canPay : ByteArray := prog_1_method_31_code
def y_H_canPay : MethodName := ⟨"PurseHouse", "canPay", "(III)Z"⟩
def ws_H_canPay : List Cond := .code y_H_canPay b_H_canPay 4 (Option.some Jvm.ClassFile.FieldType.boolean) :: lw_g
theorem d_H_canPay_0 : decode b_H_canPay 0 = .ok (.aload_n 0, 1) := by decide +kernel
theorem d_H_canPay_1 : decode b_H_canPay 1 = .ok (.iload_n 1, 1) := by decide +kernel
theorem d_H_canPay_2 : decode b_H_canPay 2 = .ok (.invokevirtual 44, 3) := by decide +kernel
theorem d_H_canPay_5 : decode b_H_canPay 5 = .ok (.ifCond .eq 28, 3) := by decide +kernel
theorem d_H_canPay_8 : decode b_H_canPay 8 = .ok (.iload_n 2, 1) := by decide +kernel
theorem d_H_canPay_9 : decode b_H_canPay 9 = .ok (.invokestatic 61, 3) := by decide +kernel
theorem d_H_canPay_12 : decode b_H_canPay 12 = .ok (.ifCond .eq 21, 3) := by decide +kernel
theorem d_H_canPay_15 : decode b_H_canPay 15 = .ok (.aload_n 0, 1) := by decide +kernel
theorem d_H_canPay_16 : decode b_H_canPay 16 = .ok (.getfield 39, 3) := by decide +kernel
theorem d_H_canPay_19 : decode b_H_canPay 19 = .ok (.iload_n 1, 1) := by decide +kernel
theorem d_H_canPay_20 : decode b_H_canPay 20 = .ok (.aaload, 1) := by decide +kernel
theorem d_H_canPay_21 : decode b_H_canPay 21 = .ok (.iload_n 2, 1) := by decide +kernel
theorem d_H_canPay_22 : decode b_H_canPay 22 = .ok (.iload_n 3, 1) := by decide +kernel
theorem d_H_canPay_23 : decode b_H_canPay 23 = .ok (.invokevirtual 96, 3) := by decide +kernel
theorem d_H_canPay_26 : decode b_H_canPay 26 = .ok (.ifCond .eq 7, 3) := by decide +kernel
theorem d_H_canPay_29 : decode b_H_canPay 29 = .ok (.iconst 1, 1) := by decide +kernel
theorem d_H_canPay_30 : decode b_H_canPay 30 = .ok (.goto 4, 3) := by decide +kernel
theorem d_H_canPay_33 : decode b_H_canPay 33 = .ok (.iconst 0, 1) := by decide +kernel
theorem d_H_canPay_34 : decode b_H_canPay 34 = .ok (.ireturn, 1) := by decide +kernel
def pp_H_canPay (g : Nat → ClassId) (e0 : Nat → Nat) (K : Int32 → mo_M → Prop) (M : mo_M) (x0 : Nat) (x1 : Int32) (x2 : Int32) (x3 : Int32) : Prop := (mp_is M x0 0 ∧ pp_H_hasKiosk g e0 (fun r2 M1 => ((r2 = 0 → (narrow .boolean (.int ((0 : Int32))) = .int ((0 : Int32)) ∧ K ((0 : Int32)) M1)) ∧ (¬ (r2 = 0) → pp_H_hasCurrency g e0 (fun r4 M3 => ((r4 = 0 → (narrow .boolean (.int ((0 : Int32))) = .int ((0 : Int32)) ∧ K ((0 : Int32)) M3)) ∧ (¬ (r4 = 0) → mp_gr M3 x0 0 0 (fun v5 => mp_ar (g 3) M3 v5 x1 (fun v6 => (mp_is M3 v6 1 ∧ pp_K_hasCoins g e0 (fun r8 M7 => ((r8 = 0 → (narrow .boolean (.int ((0 : Int32))) = .int ((0 : Int32)) ∧ K ((0 : Int32)) M7)) ∧ (¬ (r8 = 0) → (narrow .boolean (.int ((1 : Int32))) = .int ((1 : Int32)) ∧ K ((1 : Int32)) M7)))) M3 v6 x2 x3)))))) M1 x2))) M x0 x1)
set_option maxHeartbeats 4000000 in
set_option maxRecDepth 100000 in
theorem cc_H_canPay (l : Launch) (L0 : Nat) (D : va_G) {g : Nat → ClassId} {e0 : Nat → Nat} {K : Int32 → mo_M → Prop} {M : mo_M} {x0 : Nat} {x1 : Int32} {x2 : Int32} {x3 : Int32} (hP : pp_H_canPay g e0 K M x0 x1 x2 x3) : Met l y_H_canPay ws_H_canPay (mo_R 2 0 0 44) (va_Pc [.ref x0, .int x1, .int x2, .int x3] (fun U => mo_B L0 e0 D vwCl (mo_T g) M U)) (mo_Qi L0 e0 D vwCl (mo_T g) K) 0 0 (fun q => L0 ≤ q) := by
  refine Met.ofW (cc := b_H_canPay) (maxL := 4) (ret := (Option.some Jvm.ClassFile.FieldType.boolean)) (by decide +kernel) rfl ?_
  intro p e s m args below meth c s₁ B hml hv
  obtain ⟨hv1, hB0⟩ := hv
  have hx := B.exec
  have hb := B.bytes
  have hr := B.returns
  have hts : ∀ w ∈ lw_g, w.before args s = true := fun w hw => atoms_spec (ws := ws_H_canPay) B.pre w (List.mem_cons_of_mem _ hw)
  have hown : s.vm.findClass "PurseHouse" = some m.cls := findClass_of_methodNamed B.named
  have hlocks := B.notSynchronized
  have hok : mo_ok L0 e0 D vwCl (mo_T g) s M s.heap [] := ⟨hB0.1, hB0.2.1, hB0.2.2, va_S.rf⟩
  have hl := lv_entry ([.ref x0, .int x1, .int x2, .int x3]) (n := 4) (Nat.le_of_ble_eq_true rfl)
  rw [hv1, lg_entry_eq]
  rw [← hv1]
  generalize (lg_sl [.ref x0, .int x1, .int x2, .int x3] ++ List.replicate (4 - (lg_sl [.ref x0, .int x1, .int x2, .int x3]).length) Slot.unset).toArray = ls at hl ⊢
  have hl : lv_has ls 4 [(0, .ref x0), (1, .int x1), (2, .int x2), (3, .int x3)] := hl
  unfold pp_H_canPay at hP
  refine lv_aload_n hx hb d_H_canPay_0 rfl (lv_at hl 0 rfl) ?_
  refine lv_iload_n hx hb d_H_canPay_1 rfl (lv_at hl 1 rfl) ?_
  obtain ⟨⟨fs9, he9⟩, hP⟩ := hP
  refine mo_calli hok (va_runV (As := [.int x1]) (rest := []) ⟨hx, hb, hml, hown, hts⟩ (cc_H_hasKiosk l L0 D hP) ⟨(callB_of 1 hts (lw_gi wd_164) rfl rfl rfl (hts _ wd_33) (hts _ wd_161) (by decide +kernel) ⟨Nat.le_of_ble_eq_true rfl, Nat.le_of_ble_eq_true rfl⟩), hts _ wd_163, hts _ wd_0⟩ (mo_preV hok he9 rfl [.int x1]) rfl rfl hl.1 rfl (lv_room (Nat.le_of_ble_eq_true rfl)) d_H_canPay_2 ⟨Nat.zero_le _, Nat.zero_le _⟩) (fun r2 M1 H locs hP hok => ?_)
  refine lv_if_eq (tgt := 33) hx hb d_H_canPay_5 (by decide) (fun hc => ?_) (fun hc => ?_)
  · replace hP := hP.1 hc
    refine lv_iconst (v := 0) hx hb d_H_canPay_33 (by decide) ?_
    exact mo_zret hx hb hr hlocks hok hP d_H_canPay_34
  · replace hP := hP.2 hc
    refine lv_iload_n hx hb d_H_canPay_8 rfl (lv_at hl 2 rfl) ?_
    refine mo_calli hok (va_runS (As := [.int x2]) (rest := []) ⟨hx, hb, hml, hown, hts⟩ (cc_H_hasCurrency l L0 D hP) ⟨(callB_of 1 hts (lw_gi wd_263) rfl rfl rfl (hts _ wd_33) (hts _ wd_261) (by decide +kernel) ⟨Nat.le_of_ble_eq_true rfl, Nat.le_of_ble_eq_true rfl⟩), hts _ wd_262⟩ (mo_preS hok [.int x2]) rfl rfl hl.1 rfl (lv_room (Nat.le_of_ble_eq_true rfl)) d_H_canPay_9 ⟨Nat.zero_le _, Nat.zero_le _⟩) (fun r4 M3 H locs hP hok => ?_)
    refine lv_if_eq (tgt := 33) hx hb d_H_canPay_12 (by decide) (fun hc => ?_) (fun hc => ?_)
    · replace hP := hP.1 hc
      refine lv_iconst (v := 0) hx hb d_H_canPay_33 (by decide) ?_
      exact mo_zret hx hb hr hlocks hok hP d_H_canPay_34
    · replace hP := hP.2 hc
      refine lv_aload_n hx hb d_H_canPay_15 rfl (lv_at hl 0 rfl) ?_
      refine mr_gr (C := "PurseHouse") (T := F_0) (N := 5) (ref := "PurseHouse") hx hb hts hown hok hP ui_0 rfl (by decide) (hts _ wd_141) (fun _ h => h) d_H_canPay_16 (fun v5 hP => ?_)
      refine lv_iload_n hx hb d_H_canPay_19 rfl (lv_at hl 1 rfl) ?_
      refine mr_ar hx hb hok hP 3 rfl rfl d_H_canPay_20 (fun v6 hP => ?_)
      refine lv_iload_n hx hb d_H_canPay_21 rfl (lv_at hl 2 rfl) ?_
      refine lv_iload_n hx hb d_H_canPay_22 rfl (lv_at hl 3 rfl) ?_
      obtain ⟨⟨fs9, he9⟩, hP⟩ := hP
      refine mo_calli hok (va_runV (As := [.int x2, .int x3]) (rest := []) ⟨hx, hb, hml, hown, hts⟩ (cc_K_hasCoins l L0 D hP) ⟨(callB_of 2 hts (lw_gi wd_285) rfl rfl rfl (hts _ wd_38) (hts _ wd_282) (by decide +kernel) ⟨Nat.le_of_ble_eq_true rfl, Nat.le_of_ble_eq_true rfl⟩), hts _ wd_283, hts _ wd_284⟩ (mo_preV hok he9 rfl [.int x2, .int x3]) rfl rfl hl.1 rfl (lv_room (Nat.le_of_ble_eq_true rfl)) d_H_canPay_23 ⟨Nat.zero_le _, Nat.zero_le _⟩) (fun r8 M7 H locs hP hok => ?_)
      refine lv_if_eq (tgt := 33) hx hb d_H_canPay_26 (by decide) (fun hc => ?_) (fun hc => ?_)
      · replace hP := hP.1 hc
        refine lv_iconst (v := 0) hx hb d_H_canPay_33 (by decide) ?_
        exact mo_zret hx hb hr hlocks hok hP d_H_canPay_34
      · replace hP := hP.2 hc
        refine lv_iconst (v := 1) hx hb d_H_canPay_29 (by decide) ?_
        refine lv_goto (tgt := 34) hx hb d_H_canPay_30 (by decide) ?_
        exact mo_zret hx hb hr hlocks hok hP d_H_canPay_34

abbrev b_H_melt : ByteArray := prog_1_method_5_code
def y_H_melt : MethodName := ⟨"PurseHouse", "melt", "(III)Z"⟩
def ws_H_melt : List Cond := .code y_H_melt b_H_melt 4 (Option.some Jvm.ClassFile.FieldType.boolean) :: lw_g
theorem d_H_melt_0 : decode b_H_melt 0 = .ok (.aload_n 0, 1) := by decide +kernel
theorem d_H_melt_1 : decode b_H_melt 1 = .ok (.iload_n 1, 1) := by decide +kernel
theorem d_H_melt_2 : decode b_H_melt 2 = .ok (.iload_n 2, 1) := by decide +kernel
theorem d_H_melt_3 : decode b_H_melt 3 = .ok (.iload_n 3, 1) := by decide +kernel
theorem d_H_melt_4 : decode b_H_melt 4 = .ok (.invokevirtual 74, 3) := by decide +kernel
theorem d_H_melt_7 : decode b_H_melt 7 = .ok (.ifCond .ne 5, 3) := by decide +kernel
theorem d_H_melt_10 : decode b_H_melt 10 = .ok (.iconst 0, 1) := by decide +kernel
theorem d_H_melt_11 : decode b_H_melt 11 = .ok (.ireturn, 1) := by decide +kernel
theorem d_H_melt_12 : decode b_H_melt 12 = .ok (.aload_n 0, 1) := by decide +kernel
theorem d_H_melt_13 : decode b_H_melt 13 = .ok (.getfield 39, 3) := by decide +kernel
theorem d_H_melt_16 : decode b_H_melt 16 = .ok (.iload_n 1, 1) := by decide +kernel
theorem d_H_melt_17 : decode b_H_melt 17 = .ok (.aaload, 1) := by decide +kernel
theorem d_H_melt_18 : decode b_H_melt 18 = .ok (.iload_n 2, 1) := by decide +kernel
theorem d_H_melt_19 : decode b_H_melt 19 = .ok (.iload_n 3, 1) := by decide +kernel
theorem d_H_melt_20 : decode b_H_melt 20 = .ok (.ineg, 1) := by decide +kernel
theorem d_H_melt_21 : decode b_H_melt 21 = .ok (.invokevirtual 70, 3) := by decide +kernel
theorem d_H_melt_24 : decode b_H_melt 24 = .ok (.iconst 1, 1) := by decide +kernel
theorem d_H_melt_25 : decode b_H_melt 25 = .ok (.ireturn, 1) := by decide +kernel
def pp_H_melt (g : Nat → ClassId) (e0 : Nat → Nat) (K : Int32 → mo_M → Prop) (M : mo_M) (x0 : Nat) (x1 : Int32) (x2 : Int32) (x3 : Int32) : Prop := (mp_is M x0 0 ∧ pp_H_canPay g e0 (fun r2 M1 => ((r2 = 0 → (narrow .boolean (.int ((0 : Int32))) = .int ((0 : Int32)) ∧ K ((0 : Int32)) M1)) ∧ (¬ (r2 = 0) → mp_gr M1 x0 0 0 (fun v3 => mp_ar (g 3) M1 v3 x1 (fun v4 => (mp_is M1 v4 1 ∧ pp_K_addCoins g e0 (fun M5 => (narrow .boolean (.int ((1 : Int32))) = .int ((1 : Int32)) ∧ K ((1 : Int32)) M5)) M1 v4 x2 ((-x3)))))))) M x0 x1 x2 x3)
set_option maxHeartbeats 4000000 in
set_option maxRecDepth 100000 in
theorem cc_H_melt (l : Launch) (L0 : Nat) (D : va_G) {g : Nat → ClassId} {e0 : Nat → Nat} {K : Int32 → mo_M → Prop} {M : mo_M} {x0 : Nat} {x1 : Int32} {x2 : Int32} {x3 : Int32} (hP : pp_H_melt g e0 K M x0 x1 x2 x3) : Met l y_H_melt ws_H_melt (mo_R 3 0 0 67) (va_Pc [.ref x0, .int x1, .int x2, .int x3] (fun U => mo_B L0 e0 D vwCl (mo_T g) M U)) (mo_Qi L0 e0 D vwCl (mo_T g) K) 0 0 (fun q => L0 ≤ q) := by
  refine Met.ofW (cc := b_H_melt) (maxL := 4) (ret := (Option.some Jvm.ClassFile.FieldType.boolean)) (by decide +kernel) rfl ?_
  intro p e s m args below meth c s₁ B hml hv
  obtain ⟨hv1, hB0⟩ := hv
  have hx := B.exec
  have hb := B.bytes
  have hr := B.returns
  have hts : ∀ w ∈ lw_g, w.before args s = true := fun w hw => atoms_spec (ws := ws_H_melt) B.pre w (List.mem_cons_of_mem _ hw)
  have hown : s.vm.findClass "PurseHouse" = some m.cls := findClass_of_methodNamed B.named
  have hlocks := B.notSynchronized
  have hok : mo_ok L0 e0 D vwCl (mo_T g) s M s.heap [] := ⟨hB0.1, hB0.2.1, hB0.2.2, va_S.rf⟩
  have hl := lv_entry ([.ref x0, .int x1, .int x2, .int x3]) (n := 4) (Nat.le_of_ble_eq_true rfl)
  rw [hv1, lg_entry_eq]
  rw [← hv1]
  generalize (lg_sl [.ref x0, .int x1, .int x2, .int x3] ++ List.replicate (4 - (lg_sl [.ref x0, .int x1, .int x2, .int x3]).length) Slot.unset).toArray = ls at hl ⊢
  have hl : lv_has ls 4 [(0, .ref x0), (1, .int x1), (2, .int x2), (3, .int x3)] := hl
  unfold pp_H_melt at hP
  refine lv_aload_n hx hb d_H_melt_0 rfl (lv_at hl 0 rfl) ?_
  refine lv_iload_n hx hb d_H_melt_1 rfl (lv_at hl 1 rfl) ?_
  refine lv_iload_n hx hb d_H_melt_2 rfl (lv_at hl 2 rfl) ?_
  refine lv_iload_n hx hb d_H_melt_3 rfl (lv_at hl 3 rfl) ?_
  obtain ⟨⟨fs9, he9⟩, hP⟩ := hP
  refine mo_calli hok (va_runV (As := [.int x1, .int x2, .int x3]) (rest := []) ⟨hx, hb, hml, hown, hts⟩ (cc_H_canPay l L0 D hP) ⟨(callB_of 3 hts (lw_gi wd_281) rfl rfl rfl (hts _ wd_33) (hts _ wd_278) (by decide +kernel) ⟨Nat.le_of_ble_eq_true rfl, Nat.le_of_ble_eq_true rfl⟩), hts _ wd_280, hts _ wd_4⟩ (mo_preV hok he9 rfl [.int x1, .int x2, .int x3]) rfl rfl hl.1 rfl (lv_room (Nat.le_of_ble_eq_true rfl)) d_H_melt_4 ⟨Nat.zero_le _, Nat.zero_le _⟩) (fun r2 M1 H locs hP hok => ?_)
  refine lv_if_ne (tgt := 12) hx hb d_H_melt_7 (by decide) (fun hc => ?_) (fun hc => ?_)
  · replace hP := hP.2 hc
    refine lv_aload_n hx hb d_H_melt_12 rfl (lv_at hl 0 rfl) ?_
    refine mr_gr (C := "PurseHouse") (T := F_0) (N := 5) (ref := "PurseHouse") hx hb hts hown hok hP ui_0 rfl (by decide) (hts _ wd_141) (fun _ h => h) d_H_melt_13 (fun v3 hP => ?_)
    refine lv_iload_n hx hb d_H_melt_16 rfl (lv_at hl 1 rfl) ?_
    refine mr_ar hx hb hok hP 3 rfl rfl d_H_melt_17 (fun v4 hP => ?_)
    refine lv_iload_n hx hb d_H_melt_18 rfl (lv_at hl 2 rfl) ?_
    refine lv_iload_n hx hb d_H_melt_19 rfl (lv_at hl 3 rfl) ?_
    refine lv_ineg hx hb d_H_melt_20 ?_
    obtain ⟨⟨fs9, he9⟩, hP⟩ := hP
    refine mo_callv hok (va_runV (As := [.int x2, .int ((-x3))]) (rest := []) ⟨hx, hb, hml, hown, hts⟩ (cc_K_addCoins l L0 D hP) ⟨(callB_of 2 hts (lw_gi wd_273) rfl rfl rfl (hts _ wd_38) (hts _ wd_270) (by decide +kernel) ⟨Nat.le_of_ble_eq_true rfl, Nat.le_of_ble_eq_true rfl⟩), hts _ wd_271, hts _ wd_272⟩ (mo_preV hok he9 rfl [.int x2, .int ((-x3))]) rfl rfl hl.1 rfl (lv_room (Nat.le_of_ble_eq_true rfl)) d_H_melt_21 ⟨Nat.zero_le _, Nat.zero_le _⟩) (fun M5 H locs hP hok => ?_)
    refine lv_iconst (v := 1) hx hb d_H_melt_24 (by decide) ?_
    exact mo_zret hx hb hr hlocks hok hP d_H_melt_25
  · replace hP := hP.1 hc
    refine lv_iconst (v := 0) hx hb d_H_melt_10 (by decide) ?_
    exact mo_zret hx hb hr hlocks hok hP d_H_melt_11

abbrev b_H_exchange : ByteArray := prog_1_method_6_code
def y_H_exchange : MethodName := ⟨"PurseHouse", "exchange", "(IIII)Z"⟩
def ws_H_exchange : List Cond := .code y_H_exchange b_H_exchange 7 (Option.some Jvm.ClassFile.FieldType.boolean) :: lw_g
theorem d_H_exchange_0 : decode b_H_exchange 0 = .ok (.aload_n 0, 1) := by decide +kernel
theorem d_H_exchange_1 : decode b_H_exchange 1 = .ok (.iload_n 1, 1) := by decide +kernel
theorem d_H_exchange_2 : decode b_H_exchange 2 = .ok (.iload_n 2, 1) := by decide +kernel
theorem d_H_exchange_3 : decode b_H_exchange 3 = .ok (.iload 4, 2) := by decide +kernel
theorem d_H_exchange_5 : decode b_H_exchange 5 = .ok (.invokevirtual 74, 3) := by decide +kernel
theorem d_H_exchange_8 : decode b_H_exchange 8 = .ok (.ifCond .eq 15, 3) := by decide +kernel
theorem d_H_exchange_11 : decode b_H_exchange 11 = .ok (.iload_n 3, 1) := by decide +kernel
theorem d_H_exchange_12 : decode b_H_exchange 12 = .ok (.invokestatic 61, 3) := by decide +kernel
theorem d_H_exchange_15 : decode b_H_exchange 15 = .ok (.ifCond .eq 8, 3) := by decide +kernel
theorem d_H_exchange_18 : decode b_H_exchange 18 = .ok (.iload_n 2, 1) := by decide +kernel
theorem d_H_exchange_19 : decode b_H_exchange 19 = .ok (.iload_n 3, 1) := by decide +kernel
theorem d_H_exchange_20 : decode b_H_exchange 20 = .ok (.if_icmp .ne 5, 3) := by decide +kernel
theorem d_H_exchange_23 : decode b_H_exchange 23 = .ok (.iconst 0, 1) := by decide +kernel
theorem d_H_exchange_24 : decode b_H_exchange 24 = .ok (.ireturn, 1) := by decide +kernel
theorem d_H_exchange_25 : decode b_H_exchange 25 = .ok (.iload 4, 2) := by decide +kernel
theorem d_H_exchange_27 : decode b_H_exchange 27 = .ok (.i2l, 1) := by decide +kernel
theorem d_H_exchange_28 : decode b_H_exchange 28 = .ok (.aload_n 0, 1) := by decide +kernel
theorem d_H_exchange_29 : decode b_H_exchange 29 = .ok (.getfield 18, 3) := by decide +kernel
theorem d_H_exchange_32 : decode b_H_exchange 32 = .ok (.iload_n 2, 1) := by decide +kernel
theorem d_H_exchange_33 : decode b_H_exchange 33 = .ok (.aaload, 1) := by decide +kernel
theorem d_H_exchange_34 : decode b_H_exchange 34 = .ok (.iload_n 3, 1) := by decide +kernel
theorem d_H_exchange_35 : decode b_H_exchange 35 = .ok (.iaload, 1) := by decide +kernel
theorem d_H_exchange_36 : decode b_H_exchange 36 = .ok (.i2l, 1) := by decide +kernel
theorem d_H_exchange_37 : decode b_H_exchange 37 = .ok (.lmul, 1) := by decide +kernel
theorem d_H_exchange_38 : decode b_H_exchange 38 = .ok (.aload_n 0, 1) := by decide +kernel
theorem d_H_exchange_39 : decode b_H_exchange 39 = .ok (.getfield 21, 3) := by decide +kernel
theorem d_H_exchange_42 : decode b_H_exchange 42 = .ok (.iload_n 2, 1) := by decide +kernel
theorem d_H_exchange_43 : decode b_H_exchange 43 = .ok (.aaload, 1) := by decide +kernel
theorem d_H_exchange_44 : decode b_H_exchange 44 = .ok (.iload_n 3, 1) := by decide +kernel
theorem d_H_exchange_45 : decode b_H_exchange 45 = .ok (.iaload, 1) := by decide +kernel
theorem d_H_exchange_46 : decode b_H_exchange 46 = .ok (.i2l, 1) := by decide +kernel
theorem d_H_exchange_47 : decode b_H_exchange 47 = .ok (.invokestatic 77, 3) := by decide +kernel
theorem d_H_exchange_50 : decode b_H_exchange 50 = .ok (.lstore 5, 2) := by decide +kernel
theorem d_H_exchange_52 : decode b_H_exchange 52 = .ok (.aload_n 0, 1) := by decide +kernel
theorem d_H_exchange_53 : decode b_H_exchange 53 = .ok (.getfield 39, 3) := by decide +kernel
theorem d_H_exchange_56 : decode b_H_exchange 56 = .ok (.iload_n 1, 1) := by decide +kernel
theorem d_H_exchange_57 : decode b_H_exchange 57 = .ok (.aaload, 1) := by decide +kernel
theorem d_H_exchange_58 : decode b_H_exchange 58 = .ok (.iload_n 2, 1) := by decide +kernel
theorem d_H_exchange_59 : decode b_H_exchange 59 = .ok (.iload 4, 2) := by decide +kernel
theorem d_H_exchange_61 : decode b_H_exchange 61 = .ok (.i2l, 1) := by decide +kernel
theorem d_H_exchange_62 : decode b_H_exchange 62 = .ok (.iload_n 3, 1) := by decide +kernel
theorem d_H_exchange_63 : decode b_H_exchange 63 = .ok (.lload 5, 2) := by decide +kernel
theorem d_H_exchange_65 : decode b_H_exchange 65 = .ok (.invokevirtual 81, 3) := by decide +kernel
theorem d_H_exchange_68 : decode b_H_exchange 68 = .ok (.iconst 1, 1) := by decide +kernel
theorem d_H_exchange_69 : decode b_H_exchange 69 = .ok (.ireturn, 1) := by decide +kernel
def pp_H_exchange (g : Nat → ClassId) (e0 : Nat → Nat) (K : Int32 → mo_M → Prop) (M : mo_M) (x0 : Nat) (x1 : Int32) (x2 : Int32) (x3 : Int32) (x4 : Int32) : Prop := (mp_is M x0 0 ∧ pp_H_canPay g e0 (fun r2 M1 => ((r2 = 0 → (narrow .boolean (.int ((0 : Int32))) = .int ((0 : Int32)) ∧ K ((0 : Int32)) M1)) ∧ (¬ (r2 = 0) → pp_H_hasCurrency g e0 (fun r4 M3 => ((r4 = 0 → (narrow .boolean (.int ((0 : Int32))) = .int ((0 : Int32)) ∧ K ((0 : Int32)) M3)) ∧ (¬ (r4 = 0) → ((x2 = x3 → (narrow .boolean (.int ((0 : Int32))) = .int ((0 : Int32)) ∧ K ((0 : Int32)) M3)) ∧ (¬ (x2 = x3) → mp_gr M3 x0 0 2 (fun v5 => mp_ar (g 5) M3 v5 x2 (fun v6 => mp_ai (g 0) M3 v6 x3 (fun v7 => mp_gr M3 x0 0 3 (fun v8 => mp_ar (g 5) M3 v8 x2 (fun v9 => mp_ai (g 0) M3 v9 x3 (fun v10 => pp_H_floorOf g e0 (fun r12 M11 => mp_gr M11 x0 0 0 (fun v13 => mp_ar (g 3) M11 v13 x1 (fun v14 => (mp_is M11 v14 1 ∧ pp_K_swapCoins g e0 (fun M15 => (narrow .boolean (.int ((1 : Int32))) = .int ((1 : Int32)) ∧ K ((1 : Int32)) M15)) M11 v14 x2 x4.toInt64 x3 r12)))) M3 ((x4.toInt64 * v7.toInt64)) v10.toInt64))))))))))) M1 x3))) M x0 x1 x2 x4)
set_option maxHeartbeats 4000000 in
set_option maxRecDepth 100000 in
theorem cc_H_exchange (l : Launch) (L0 : Nat) (D : va_G) {g : Nat → ClassId} {e0 : Nat → Nat} {K : Int32 → mo_M → Prop} {M : mo_M} {x0 : Nat} {x1 : Int32} {x2 : Int32} {x3 : Int32} {x4 : Int32} (hP : pp_H_exchange g e0 K M x0 x1 x2 x3 x4) : Met l y_H_exchange ws_H_exchange (mo_R 3 0 0 67) (va_Pc [.ref x0, .int x1, .int x2, .int x3, .int x4] (fun U => mo_B L0 e0 D vwCl (mo_T g) M U)) (mo_Qi L0 e0 D vwCl (mo_T g) K) 0 0 (fun q => L0 ≤ q) := by
  refine Met.ofW (cc := b_H_exchange) (maxL := 7) (ret := (Option.some Jvm.ClassFile.FieldType.boolean)) (by decide +kernel) rfl ?_
  intro p e s m args below meth c s₁ B hml hv
  obtain ⟨hv1, hB0⟩ := hv
  have hx := B.exec
  have hb := B.bytes
  have hr := B.returns
  have hts : ∀ w ∈ lw_g, w.before args s = true := fun w hw => atoms_spec (ws := ws_H_exchange) B.pre w (List.mem_cons_of_mem _ hw)
  have hown : s.vm.findClass "PurseHouse" = some m.cls := findClass_of_methodNamed B.named
  have hlocks := B.notSynchronized
  have hok : mo_ok L0 e0 D vwCl (mo_T g) s M s.heap [] := ⟨hB0.1, hB0.2.1, hB0.2.2, va_S.rf⟩
  have hl := lv_entry ([.ref x0, .int x1, .int x2, .int x3, .int x4]) (n := 7) (Nat.le_of_ble_eq_true rfl)
  rw [hv1, lg_entry_eq]
  rw [← hv1]
  generalize (lg_sl [.ref x0, .int x1, .int x2, .int x3, .int x4] ++ List.replicate (7 - (lg_sl [.ref x0, .int x1, .int x2, .int x3, .int x4]).length) Slot.unset).toArray = ls at hl ⊢
  have hl : lv_has ls 7 [(0, .ref x0), (1, .int x1), (2, .int x2), (3, .int x3), (4, .int x4)] := hl
  unfold pp_H_exchange at hP
  refine lv_aload_n hx hb d_H_exchange_0 rfl (lv_at hl 0 rfl) ?_
  refine lv_iload_n hx hb d_H_exchange_1 rfl (lv_at hl 1 rfl) ?_
  refine lv_iload_n hx hb d_H_exchange_2 rfl (lv_at hl 2 rfl) ?_
  refine lv_iload hx hb d_H_exchange_3 (lv_at hl 4 rfl) ?_
  obtain ⟨⟨fs9, he9⟩, hP⟩ := hP
  refine mo_calli hok (va_runV (As := [.int x1, .int x2, .int x4]) (rest := []) ⟨hx, hb, hml, hown, hts⟩ (cc_H_canPay l L0 D hP) ⟨(callB_of 3 hts (lw_gi wd_281) rfl rfl rfl (hts _ wd_33) (hts _ wd_278) (by decide +kernel) ⟨Nat.le_of_ble_eq_true rfl, Nat.le_of_ble_eq_true rfl⟩), hts _ wd_280, hts _ wd_4⟩ (mo_preV hok he9 rfl [.int x1, .int x2, .int x4]) rfl rfl hl.1 rfl (lv_room (Nat.le_of_ble_eq_true rfl)) d_H_exchange_5 ⟨Nat.zero_le _, Nat.zero_le _⟩) (fun r2 M1 H locs hP hok => ?_)
  refine lv_if_eq (tgt := 23) hx hb d_H_exchange_8 (by decide) (fun hc => ?_) (fun hc => ?_)
  · replace hP := hP.1 hc
    refine lv_iconst (v := 0) hx hb d_H_exchange_23 (by decide) ?_
    exact mo_zret hx hb hr hlocks hok hP d_H_exchange_24
  · replace hP := hP.2 hc
    refine lv_iload_n hx hb d_H_exchange_11 rfl (lv_at hl 3 rfl) ?_
    refine mo_calli hok (va_runS (As := [.int x3]) (rest := []) ⟨hx, hb, hml, hown, hts⟩ (cc_H_hasCurrency l L0 D hP) ⟨(callB_of 1 hts (lw_gi wd_263) rfl rfl rfl (hts _ wd_33) (hts _ wd_261) (by decide +kernel) ⟨Nat.le_of_ble_eq_true rfl, Nat.le_of_ble_eq_true rfl⟩), hts _ wd_262⟩ (mo_preS hok [.int x3]) rfl rfl hl.1 rfl (lv_room (Nat.le_of_ble_eq_true rfl)) d_H_exchange_12 ⟨Nat.zero_le _, Nat.zero_le _⟩) (fun r4 M3 H locs hP hok => ?_)
    refine lv_if_eq (tgt := 23) hx hb d_H_exchange_15 (by decide) (fun hc => ?_) (fun hc => ?_)
    · replace hP := hP.1 hc
      refine lv_iconst (v := 0) hx hb d_H_exchange_23 (by decide) ?_
      exact mo_zret hx hb hr hlocks hok hP d_H_exchange_24
    · replace hP := hP.2 hc
      refine lv_iload_n hx hb d_H_exchange_18 rfl (lv_at hl 2 rfl) ?_
      refine lv_iload_n hx hb d_H_exchange_19 rfl (lv_at hl 3 rfl) ?_
      refine lv_icmp_ne (tgt := 25) hx hb d_H_exchange_20 (by decide) (fun hc => ?_) (fun hc => ?_)
      · replace hP := hP.2 hc
        refine lv_iload hx hb d_H_exchange_25 (lv_at hl 4 rfl) ?_
        refine lv_i2l hx hb d_H_exchange_27 rfl ?_
        refine lv_aload_n hx hb d_H_exchange_28 rfl (lv_at hl 0 rfl) ?_
        refine mr_gr (C := "PurseHouse") (T := F_0) (N := 5) (ref := "PurseHouse") hx hb hts hown hok hP ui_0 rfl (by decide) (hts _ wd_143) (fun _ h => h) d_H_exchange_29 (fun v5 hP => ?_)
        refine lv_iload_n hx hb d_H_exchange_32 rfl (lv_at hl 2 rfl) ?_
        refine mr_ar hx hb hok hP 5 rfl rfl d_H_exchange_33 (fun v6 hP => ?_)
        refine lv_iload_n hx hb d_H_exchange_34 rfl (lv_at hl 3 rfl) ?_
        refine mr_ai hx hb hok hP 0 rfl d_H_exchange_35 (fun v7 hP => ?_)
        refine lv_i2l hx hb d_H_exchange_36 rfl ?_
        refine lv_lmul hx hb d_H_exchange_37 ?_
        refine lv_aload_n hx hb d_H_exchange_38 rfl (lv_at hl 0 rfl) ?_
        refine mr_gr (C := "PurseHouse") (T := F_0) (N := 5) (ref := "PurseHouse") hx hb hts hown hok hP ui_0 rfl (by decide) (hts _ wd_144) (fun _ h => h) d_H_exchange_39 (fun v8 hP => ?_)
        refine lv_iload_n hx hb d_H_exchange_42 rfl (lv_at hl 2 rfl) ?_
        refine mr_ar hx hb hok hP 5 rfl rfl d_H_exchange_43 (fun v9 hP => ?_)
        refine lv_iload_n hx hb d_H_exchange_44 rfl (lv_at hl 3 rfl) ?_
        refine mr_ai hx hb hok hP 0 rfl d_H_exchange_45 (fun v10 hP => ?_)
        refine lv_i2l hx hb d_H_exchange_46 rfl ?_
        refine mo_calll hok (va_runS (As := [.long ((x4.toInt64 * v7.toInt64)), .long v10.toInt64]) (rest := []) ⟨hx, hb, hml, hown, hts⟩ (cc_H_floorOf l L0 D hP) ⟨(callB_of 2 hts (lw_gi wd_294) rfl rfl rfl (hts _ wd_33) (hts _ wd_292) (by decide +kernel) ⟨Nat.le_of_ble_eq_true rfl, Nat.le_of_ble_eq_true rfl⟩), hts _ wd_293⟩ (mo_preS hok [.long ((x4.toInt64 * v7.toInt64)), .long v10.toInt64]) rfl rfl hl.1 rfl (lv_room (Nat.le_of_ble_eq_true rfl)) d_H_exchange_47 ⟨Nat.zero_le _, Nat.zero_le _⟩) (fun r12 M11 H locs hP hok => ?_)
        refine lv_lstore (lv' := [(5, .long r12), (0, .ref x0), (1, .int x1), (2, .int x2), (3, .int x3), (4, .int x4)]) hx hb d_H_exchange_50 hl (by decide) rfl (fun ls hl => ?_)
        refine lv_aload_n hx hb d_H_exchange_52 rfl (lv_at hl 1 rfl) ?_
        refine mr_gr (C := "PurseHouse") (T := F_0) (N := 5) (ref := "PurseHouse") hx hb hts hown hok hP ui_0 rfl (by decide) (hts _ wd_141) (fun _ h => h) d_H_exchange_53 (fun v13 hP => ?_)
        refine lv_iload_n hx hb d_H_exchange_56 rfl (lv_at hl 2 rfl) ?_
        refine mr_ar hx hb hok hP 3 rfl rfl d_H_exchange_57 (fun v14 hP => ?_)
        refine lv_iload_n hx hb d_H_exchange_58 rfl (lv_at hl 3 rfl) ?_
        refine lv_iload hx hb d_H_exchange_59 (lv_at hl 5 rfl) ?_
        refine lv_i2l hx hb d_H_exchange_61 rfl ?_
        refine lv_iload_n hx hb d_H_exchange_62 rfl (lv_at hl 4 rfl) ?_
        refine lv_lload hx hb d_H_exchange_63 (lv_at hl 0 rfl) ?_
        obtain ⟨⟨fs9, he9⟩, hP⟩ := hP
        refine mo_callv hok (va_runV (As := [.int x2, .long x4.toInt64, .int x3, .long r12]) (rest := []) ⟨hx, hb, hml, hown, hts⟩ (cc_K_swapCoins l L0 D hP) ⟨(callB_of 4 hts (lw_gi wd_301) rfl rfl rfl (hts _ wd_38) (hts _ wd_298) (by decide +kernel) ⟨Nat.le_of_ble_eq_true rfl, Nat.le_of_ble_eq_true rfl⟩), hts _ wd_299, hts _ wd_300⟩ (mo_preV hok he9 rfl [.int x2, .long x4.toInt64, .int x3, .long r12]) rfl rfl hl.1 rfl (lv_room (Nat.le_of_ble_eq_true rfl)) d_H_exchange_65 ⟨Nat.zero_le _, Nat.zero_le _⟩) (fun M15 H locs hP hok => ?_)
        refine lv_iconst (v := 1) hx hb d_H_exchange_68 (by decide) ?_
        exact mo_zret hx hb hr hlocks hok hP d_H_exchange_69
      · replace hP := hP.1 hc
        refine lv_iconst (v := 0) hx hb d_H_exchange_23 (by decide) ?_
        exact mo_zret hx hb hr hlocks hok hP d_H_exchange_24

abbrev b_H_hasLink : ByteArray := prog_1_method_28_code
def y_H_hasLink : MethodName := ⟨"PurseHouse", "hasLink", "(I)Z"⟩
def ws_H_hasLink : List Cond := .code y_H_hasLink b_H_hasLink 2 (Option.some Jvm.ClassFile.FieldType.boolean) :: lw_g
theorem d_H_hasLink_0 : decode b_H_hasLink 0 = .ok (.iload_n 1, 1) := by decide +kernel
theorem d_H_hasLink_1 : decode b_H_hasLink 1 = .ok (.iconst 0, 1) := by decide +kernel
theorem d_H_hasLink_2 : decode b_H_hasLink 2 = .ok (.aload_n 0, 1) := by decide +kernel
theorem d_H_hasLink_3 : decode b_H_hasLink 3 = .ok (.getfield 10, 3) := by decide +kernel
theorem d_H_hasLink_6 : decode b_H_hasLink 6 = .ok (.invokevirtual 48, 3) := by decide +kernel
theorem d_H_hasLink_9 : decode b_H_hasLink 9 = .ok (.iconst 1, 1) := by decide +kernel
theorem d_H_hasLink_10 : decode b_H_hasLink 10 = .ok (.isub, 1) := by decide +kernel
theorem d_H_hasLink_11 : decode b_H_hasLink 11 = .ok (.invokestatic 65, 3) := by decide +kernel
theorem d_H_hasLink_14 : decode b_H_hasLink 14 = .ok (.ireturn, 1) := by decide +kernel
def pp_H_hasLink (g : Nat → ClassId) (e0 : Nat → Nat) (K : Int32 → mo_M → Prop) (M : mo_M) (x0 : Nat) (x1 : Int32) : Prop := mp_gr M x0 0 1 (fun v1 => (mp_is M v1 5 ∧ pp_A_size g e0 (fun r3 M2 => pp_H_isBetween g e0 (fun r5 M4 => (narrow .boolean (.int r5) = .int r5 ∧ K r5 M4)) M2 x1 ((0 : Int32)) ((r3 - ((1 : Int32))))) M v1))
set_option maxHeartbeats 4000000 in
set_option maxRecDepth 100000 in
theorem cc_H_hasLink (l : Launch) (L0 : Nat) (D : va_G) {g : Nat → ClassId} {e0 : Nat → Nat} {K : Int32 → mo_M → Prop} {M : mo_M} {x0 : Nat} {x1 : Int32} (hP : pp_H_hasLink g e0 K M x0 x1) : Met l y_H_hasLink ws_H_hasLink (mo_R 1 0 0 22) (va_Pc [.ref x0, .int x1] (fun U => mo_B L0 e0 D vwCl (mo_T g) M U)) (mo_Qi L0 e0 D vwCl (mo_T g) K) 0 0 (fun q => L0 ≤ q) := by
  refine Met.ofW (cc := b_H_hasLink) (maxL := 2) (ret := (Option.some Jvm.ClassFile.FieldType.boolean)) (by decide +kernel) rfl ?_
  intro p e s m args below meth c s₁ B hml hv
  obtain ⟨hv1, hB0⟩ := hv
  have hx := B.exec
  have hb := B.bytes
  have hr := B.returns
  have hts : ∀ w ∈ lw_g, w.before args s = true := fun w hw => atoms_spec (ws := ws_H_hasLink) B.pre w (List.mem_cons_of_mem _ hw)
  have hown : s.vm.findClass "PurseHouse" = some m.cls := findClass_of_methodNamed B.named
  have hlocks := B.notSynchronized
  have hok : mo_ok L0 e0 D vwCl (mo_T g) s M s.heap [] := ⟨hB0.1, hB0.2.1, hB0.2.2, va_S.rf⟩
  have hl := lv_entry ([.ref x0, .int x1]) (n := 2) (Nat.le_of_ble_eq_true rfl)
  rw [hv1, lg_entry_eq]
  rw [← hv1]
  generalize (lg_sl [.ref x0, .int x1] ++ List.replicate (2 - (lg_sl [.ref x0, .int x1]).length) Slot.unset).toArray = ls at hl ⊢
  have hl : lv_has ls 2 [(0, .ref x0), (1, .int x1)] := hl
  unfold pp_H_hasLink at hP
  refine lv_iload_n hx hb d_H_hasLink_0 rfl (lv_at hl 1 rfl) ?_
  refine lv_iconst (v := 0) hx hb d_H_hasLink_1 (by decide) ?_
  refine lv_aload_n hx hb d_H_hasLink_2 rfl (lv_at hl 0 rfl) ?_
  refine mr_gr (C := "PurseHouse") (T := F_0) (N := 5) (ref := "PurseHouse") hx hb hts hown hok hP ui_0 rfl (by decide) (hts _ wd_142) (fun _ h => h) d_H_hasLink_3 (fun v1 hP => ?_)
  obtain ⟨⟨fs9, he9⟩, hP⟩ := hP
  refine mo_calli hok (va_runV (As := []) (rest := [.int ((0 : Int32)), .int x1]) ⟨hx, hb, hml, hown, hts⟩ (cc_A_size l L0 D hP) ⟨(callB_of 0 hts (lw_gi wd_171) rfl rfl rfl (hts _ wd_36) (hts _ wd_168) (by decide +kernel) ⟨Nat.le_of_ble_eq_true rfl, Nat.le_of_ble_eq_true rfl⟩), hts _ wd_169, hts _ wd_170⟩ (mo_preV hok he9 rfl []) rfl rfl hl.1 rfl (lv_room (Nat.le_of_ble_eq_true rfl)) d_H_hasLink_6 ⟨Nat.zero_le _, Nat.zero_le _⟩) (fun r3 M2 H locs hP hok => ?_)
  refine lv_iconst (v := 1) hx hb d_H_hasLink_9 (by decide) ?_
  refine lv_isub hx hb d_H_hasLink_10 ?_
  refine mo_calli hok (va_runS (As := [.int x1, .int ((0 : Int32)), .int ((r3 - ((1 : Int32))))]) (rest := []) ⟨hx, hb, hml, hown, hts⟩ (cc_H_isBetween l L0 D hP) ⟨(callB_of 3 hts (lw_gi wd_167) rfl rfl rfl (hts _ wd_33) (hts _ wd_165) (by decide +kernel) ⟨Nat.le_of_ble_eq_true rfl, Nat.le_of_ble_eq_true rfl⟩), hts _ wd_166⟩ (mo_preS hok [.int x1, .int ((0 : Int32)), .int ((r3 - ((1 : Int32))))]) rfl rfl hl.1 rfl (lv_room (Nat.le_of_ble_eq_true rfl)) d_H_hasLink_11 ⟨Nat.zero_le _, Nat.zero_le _⟩) (fun r5 M4 H locs hP hok => ?_)
  exact mo_zret hx hb hr hlocks hok hP d_H_hasLink_14

abbrev b_H_bag : ByteArray := prog_1_method_7_code
def y_H_bag : MethodName := ⟨"PurseHouse", "bag", "(III)Z"⟩
def ws_H_bag : List Cond := .code y_H_bag b_H_bag 5 (Option.some Jvm.ClassFile.FieldType.boolean) :: lw_g
theorem d_H_bag_0 : decode b_H_bag 0 = .ok (.aload_n 0, 1) := by decide +kernel
theorem d_H_bag_1 : decode b_H_bag 1 = .ok (.iload_n 1, 1) := by decide +kernel
theorem d_H_bag_2 : decode b_H_bag 2 = .ok (.invokevirtual 85, 3) := by decide +kernel
theorem d_H_bag_5 : decode b_H_bag 5 = .ok (.ifCond .ne 5, 3) := by decide +kernel
theorem d_H_bag_8 : decode b_H_bag 8 = .ok (.iconst 0, 1) := by decide +kernel
theorem d_H_bag_9 : decode b_H_bag 9 = .ok (.ireturn, 1) := by decide +kernel
theorem d_H_bag_10 : decode b_H_bag 10 = .ok (.aload_n 0, 1) := by decide +kernel
theorem d_H_bag_11 : decode b_H_bag 11 = .ok (.getfield 10, 3) := by decide +kernel
theorem d_H_bag_14 : decode b_H_bag 14 = .ok (.iload_n 1, 1) := by decide +kernel
theorem d_H_bag_15 : decode b_H_bag 15 = .ok (.invokevirtual 88, 3) := by decide +kernel
theorem d_H_bag_18 : decode b_H_bag 18 = .ok (.checkcast 52, 3) := by decide +kernel
theorem d_H_bag_21 : decode b_H_bag 21 = .ok (.astore 4, 2) := by decide +kernel
theorem d_H_bag_23 : decode b_H_bag 23 = .ok (.iload_n 2, 1) := by decide +kernel
theorem d_H_bag_24 : decode b_H_bag 24 = .ok (.invokestatic 61, 3) := by decide +kernel
theorem d_H_bag_27 : decode b_H_bag 27 = .ok (.ifCond .eq 26, 3) := by decide +kernel
theorem d_H_bag_30 : decode b_H_bag 30 = .ok (.aload 4, 2) := by decide +kernel
theorem d_H_bag_32 : decode b_H_bag 32 = .ok (.getfield 92, 3) := by decide +kernel
theorem d_H_bag_35 : decode b_H_bag 35 = .ok (.iload_n 2, 1) := by decide +kernel
theorem d_H_bag_36 : decode b_H_bag 36 = .ok (.iload_n 3, 1) := by decide +kernel
theorem d_H_bag_37 : decode b_H_bag 37 = .ok (.invokevirtual 96, 3) := by decide +kernel
theorem d_H_bag_40 : decode b_H_bag 40 = .ok (.ifCond .eq 13, 3) := by decide +kernel
theorem d_H_bag_43 : decode b_H_bag 43 = .ok (.aload 4, 2) := by decide +kernel
theorem d_H_bag_45 : decode b_H_bag 45 = .ok (.invokevirtual 100, 3) := by decide +kernel
theorem d_H_bag_48 : decode b_H_bag 48 = .ok (.bipush 16, 2) := by decide +kernel
theorem d_H_bag_50 : decode b_H_bag 50 = .ok (.if_icmp .lt 5, 3) := by decide +kernel
theorem d_H_bag_53 : decode b_H_bag 53 = .ok (.iconst 0, 1) := by decide +kernel
theorem d_H_bag_54 : decode b_H_bag 54 = .ok (.ireturn, 1) := by decide +kernel
theorem d_H_bag_55 : decode b_H_bag 55 = .ok (.aload 4, 2) := by decide +kernel
theorem d_H_bag_57 : decode b_H_bag 57 = .ok (.iload_n 2, 1) := by decide +kernel
theorem d_H_bag_58 : decode b_H_bag 58 = .ok (.iload_n 3, 1) := by decide +kernel
theorem d_H_bag_59 : decode b_H_bag 59 = .ok (.invokevirtual 103, 3) := by decide +kernel
theorem d_H_bag_62 : decode b_H_bag 62 = .ok (.iconst 1, 1) := by decide +kernel
theorem d_H_bag_63 : decode b_H_bag 63 = .ok (.ireturn, 1) := by decide +kernel
def pp_H_bag (g : Nat → ClassId) (e0 : Nat → Nat) (mc ms : Nat) (K : Int32 → mo_M → Prop) (M : mo_M) (x0 : Nat) (x1 : Int32) (x2 : Int32) (x3 : Int32) : Prop := (0 ≤ mc ∧ 0 ≤ ms ∧ (mp_is M x0 0 ∧ pp_H_hasLink g e0 (fun r2 M1 => ((r2 = 0 → (0 ≤ mc ∧ 0 ≤ ms ∧ (narrow .boolean (.int ((0 : Int32))) = .int ((0 : Int32)) ∧ K ((0 : Int32)) M1))) ∧ (¬ (r2 = 0) → mp_gr M1 x0 0 1 (fun v3 => (0 ≤ mc ∧ 0 ≤ ms ∧ (mp_is M1 v3 5 ∧ pp_A_get g e0 (fun r5 M4 => (mp_is M4 r5 2 ∧ (0 ≤ mc ∧ 0 ≤ ms ∧ pp_H_hasCurrency g e0 (fun r7 M6 => ((r7 = 0 → (0 ≤ mc ∧ 0 ≤ ms ∧ (narrow .boolean (.int ((0 : Int32))) = .int ((0 : Int32)) ∧ K ((0 : Int32)) M6))) ∧ (¬ (r7 = 0) → mp_gr M6 r5 2 0 (fun v8 => (0 ≤ mc ∧ 0 ≤ ms ∧ (mp_is M6 v8 1 ∧ pp_K_hasCoins g e0 (fun r10 M9 => ((r10 = 0 → (0 ≤ mc ∧ 0 ≤ ms ∧ (narrow .boolean (.int ((0 : Int32))) = .int ((0 : Int32)) ∧ K ((0 : Int32)) M9))) ∧ (¬ (r10 = 0) → (0 ≤ mc ∧ 0 ≤ ms ∧ (mp_is M9 r5 2 ∧ pp_L_countBags g e0 (fun r12 M11 => ((r12 < ((16 : Int32)) → (∃ c13 t14 : Nat, 0 + c13 ≤ mc ∧ 0 + t14 ≤ ms ∧ (mp_is M11 r5 2 ∧ pp_L_sendBag g e0 c13 t14 (fun M15 => (((0 + c13)) ≤ mc ∧ ((0 + t14)) ≤ ms ∧ (narrow .boolean (.int ((1 : Int32))) = .int ((1 : Int32)) ∧ K ((1 : Int32)) M15))) M11 r5 x2 x3))) ∧ (¬ (r12 < ((16 : Int32))) → (0 ≤ mc ∧ 0 ≤ ms ∧ (narrow .boolean (.int ((0 : Int32))) = .int ((0 : Int32)) ∧ K ((0 : Int32)) M11))))) M9 r5))))) M6 v8 x2 x3)))))) M4 x2))) M1 v3 x1)))))) M x0 x1))
set_option maxHeartbeats 4000000 in
set_option maxRecDepth 100000 in
theorem cc_H_bag (l : Launch) (L0 : Nat) (D : va_G) {g : Nat → ClassId} {e0 : Nat → Nat} {mc ms : Nat} {K : Int32 → mo_M → Prop} {M : mo_M} {x0 : Nat} {x1 : Int32} {x2 : Int32} {x3 : Int32} (hP : pp_H_bag g e0 mc ms K M x0 x1 x2 x3) : Met l y_H_bag ws_H_bag (mo_R 8 mc ms 213) (va_Pc [.ref x0, .int x1, .int x2, .int x3] (fun U => mo_B L0 e0 D vwCl (mo_T g) M U)) (mo_Qi L0 e0 D vwCl (mo_T g) K) mc ms (fun q => L0 ≤ q) := by
  refine Met.ofW (cc := b_H_bag) (maxL := 5) (ret := (Option.some Jvm.ClassFile.FieldType.boolean)) (by decide +kernel) rfl ?_
  intro p e s m args below meth c s₁ B hml hv
  obtain ⟨hv1, hB0⟩ := hv
  have hx := B.exec
  have hb := B.bytes
  have hr := B.returns
  have hts : ∀ w ∈ lw_g, w.before args s = true := fun w hw => atoms_spec (ws := ws_H_bag) B.pre w (List.mem_cons_of_mem _ hw)
  have hown : s.vm.findClass "PurseHouse" = some m.cls := findClass_of_methodNamed B.named
  have hlocks := B.notSynchronized
  have hok : mo_ok L0 e0 D vwCl (mo_T g) s M s.heap [] := ⟨hB0.1, hB0.2.1, hB0.2.2, va_S.rf⟩
  have hl := lv_entry ([.ref x0, .int x1, .int x2, .int x3]) (n := 5) (Nat.le_of_ble_eq_true rfl)
  rw [hv1, lg_entry_eq]
  rw [← hv1]
  generalize (lg_sl [.ref x0, .int x1, .int x2, .int x3] ++ List.replicate (5 - (lg_sl [.ref x0, .int x1, .int x2, .int x3]).length) Slot.unset).toArray = ls at hl ⊢
  have hl : lv_has ls 5 [(0, .ref x0), (1, .int x1), (2, .int x2), (3, .int x3)] := hl
  unfold pp_H_bag at hP
  refine lv_aload_n hx hb d_H_bag_0 rfl (lv_at hl 0 rfl) ?_
  refine lv_iload_n hx hb d_H_bag_1 rfl (lv_at hl 1 rfl) ?_
  obtain ⟨hcc, hss, hP⟩ := hP
  obtain ⟨⟨fs9, he9⟩, hP⟩ := hP
  refine mo_calli hok (va_runV (As := [.int x1]) (rest := []) ⟨hx, hb, hml, hown, hts⟩ (cc_H_hasLink l L0 D hP) ⟨(callB_of 1 hts (lw_gi wd_309) rfl rfl rfl (hts _ wd_33) (hts _ wd_306) (by decide +kernel) ⟨Nat.le_of_ble_eq_true rfl, Nat.le_of_ble_eq_true rfl⟩), hts _ wd_308, hts _ wd_5⟩ (mo_preV hok he9 rfl [.int x1]) rfl rfl hl.1 rfl (lv_room (Nat.le_of_ble_eq_true rfl)) d_H_bag_2 ⟨hcc, hss⟩) (fun r2 M1 H locs hP hok => ?_)
  refine lv_if_ne (tgt := 10) hx hb d_H_bag_5 (by decide) (fun hc => ?_) (fun hc => ?_)
  · replace hP := hP.2 hc
    refine lv_aload_n hx hb d_H_bag_10 rfl (lv_at hl 0 rfl) ?_
    refine mr_gr (C := "PurseHouse") (T := F_0) (N := 5) (ref := "PurseHouse") hx hb hts hown hok hP ui_0 rfl (by decide) (hts _ wd_142) (fun _ h => h) d_H_bag_11 (fun v3 hP => ?_)
    refine lv_iload_n hx hb d_H_bag_14 rfl (lv_at hl 1 rfl) ?_
    obtain ⟨hcc, hss, hP⟩ := hP
    obtain ⟨⟨fs9, he9⟩, hP⟩ := hP
    refine mo_callr hok (va_runV (As := [.int x1]) (rest := []) ⟨hx, hb, hml, hown, hts⟩ (cc_A_get l L0 D hP) ⟨(callB_of 1 hts (lw_gi wd_313) rfl rfl rfl (hts _ wd_36) (hts _ wd_310) (by decide +kernel) ⟨Nat.le_of_ble_eq_true rfl, Nat.le_of_ble_eq_true rfl⟩), hts _ wd_311, hts _ wd_312⟩ (mo_preV hok he9 rfl [.int x1]) rfl rfl hl.1 rfl (lv_room (Nat.le_of_ble_eq_true rfl)) d_H_bag_15 ⟨hcc, hss⟩) (fun r5 M4 H locs hP hok => ?_)
    obtain ⟨his, hP⟩ := hP
    refine mr_cast (C := "PurseHouse$Link") (T := F_2) (N := 6) hx hb hown hok his rfl (hts _ wd_172) d_H_bag_18 ?_
    refine lv_astore (lv' := [(4, .ref r5), (0, .ref x0), (1, .int x1), (2, .int x2), (3, .int x3)]) hx hb d_H_bag_21 hl (by decide) rfl (fun ls hl => ?_)
    refine lv_iload_n hx hb d_H_bag_23 rfl (lv_at hl 3 rfl) ?_
    obtain ⟨hcc, hss, hP⟩ := hP
    refine mo_calli hok (va_runS (As := [.int x2]) (rest := []) ⟨hx, hb, hml, hown, hts⟩ (cc_H_hasCurrency l L0 D hP) ⟨(callB_of 1 hts (lw_gi wd_263) rfl rfl rfl (hts _ wd_33) (hts _ wd_261) (by decide +kernel) ⟨Nat.le_of_ble_eq_true rfl, Nat.le_of_ble_eq_true rfl⟩), hts _ wd_262⟩ (mo_preS hok [.int x2]) rfl rfl hl.1 rfl (lv_room (Nat.le_of_ble_eq_true rfl)) d_H_bag_24 ⟨hcc, hss⟩) (fun r7 M6 H locs hP hok => ?_)
    refine lv_if_eq (tgt := 53) hx hb d_H_bag_27 (by decide) (fun hc => ?_) (fun hc => ?_)
    · replace hP := hP.1 hc
      refine lv_iconst (v := 0) hx hb d_H_bag_53 (by decide) ?_
      obtain ⟨hcu, hsu, hP⟩ := hP
      refine W.widen (k := mc) (n := ms) hcu hsu ?_
      exact mo_zret hx hb hr hlocks hok hP d_H_bag_54
    · replace hP := hP.2 hc
      refine lv_aload hx hb d_H_bag_30 (lv_at hl 0 rfl) ?_
      refine mr_gr (C := "PurseHouse$Link") (T := F_2) (N := 6) (ref := "PurseHouse$Link") hx hb hts hown hok hP ui_2 rfl (by decide) (hts _ wd_182) (fun _ h => h) d_H_bag_32 (fun v8 hP => ?_)
      refine lv_iload_n hx hb d_H_bag_35 rfl (lv_at hl 3 rfl) ?_
      refine lv_iload_n hx hb d_H_bag_36 rfl (lv_at hl 4 rfl) ?_
      obtain ⟨hcc, hss, hP⟩ := hP
      obtain ⟨⟨fs9, he9⟩, hP⟩ := hP
      refine mo_calli hok (va_runV (As := [.int x2, .int x3]) (rest := []) ⟨hx, hb, hml, hown, hts⟩ (cc_K_hasCoins l L0 D hP) ⟨(callB_of 2 hts (lw_gi wd_285) rfl rfl rfl (hts _ wd_38) (hts _ wd_282) (by decide +kernel) ⟨Nat.le_of_ble_eq_true rfl, Nat.le_of_ble_eq_true rfl⟩), hts _ wd_283, hts _ wd_284⟩ (mo_preV hok he9 rfl [.int x2, .int x3]) rfl rfl hl.1 rfl (lv_room (Nat.le_of_ble_eq_true rfl)) d_H_bag_37 ⟨hcc, hss⟩) (fun r10 M9 H locs hP hok => ?_)
      refine lv_if_eq (tgt := 53) hx hb d_H_bag_40 (by decide) (fun hc => ?_) (fun hc => ?_)
      · replace hP := hP.1 hc
        refine lv_iconst (v := 0) hx hb d_H_bag_53 (by decide) ?_
        obtain ⟨hcu, hsu, hP⟩ := hP
        refine W.widen (k := mc) (n := ms) hcu hsu ?_
        exact mo_zret hx hb hr hlocks hok hP d_H_bag_54
      · replace hP := hP.2 hc
        refine lv_aload hx hb d_H_bag_43 (lv_at hl 0 rfl) ?_
        obtain ⟨hcc, hss, hP⟩ := hP
        obtain ⟨⟨fs9, he9⟩, hP⟩ := hP
        refine mo_calli hok (va_runV (As := []) (rest := []) ⟨hx, hb, hml, hown, hts⟩ (cc_L_countBags l L0 D hP) ⟨(callB_of 0 hts (lw_gi wd_327) rfl rfl rfl (hts _ wd_40) (hts _ wd_324) (by decide +kernel) ⟨Nat.le_of_ble_eq_true rfl, Nat.le_of_ble_eq_true rfl⟩), hts _ wd_325, hts _ wd_326⟩ (mo_preV hok he9 rfl []) rfl rfl hl.1 rfl (lv_room (Nat.le_of_ble_eq_true rfl)) d_H_bag_45 ⟨hcc, hss⟩) (fun r12 M11 H locs hP hok => ?_)
        refine lv_bipush (v := 16) hx hb d_H_bag_48 (by decide) ?_
        refine lv_icmp_lt (tgt := 55) hx hb d_H_bag_50 (by decide) (fun hc => ?_) (fun hc => ?_)
        · replace hP := hP.1 hc
          refine lv_aload hx hb d_H_bag_55 (lv_at hl 0 rfl) ?_
          refine lv_iload_n hx hb d_H_bag_57 rfl (lv_at hl 3 rfl) ?_
          refine lv_iload_n hx hb d_H_bag_58 rfl (lv_at hl 4 rfl) ?_
          obtain ⟨c13, t14, hcc, hss, hP⟩ := hP
          obtain ⟨⟨fs9, he9⟩, hP⟩ := hP
          refine mo_callv hok (va_runV (As := [.int x2, .int x3]) (rest := []) ⟨hx, hb, hml, hown, hts⟩ (cc_L_sendBag l L0 D hP) ⟨(callB_of 2 hts (lw_gi wd_334) rfl rfl rfl (hts _ wd_40) (hts _ wd_331) (by decide +kernel) ⟨Nat.le_of_ble_eq_true rfl, Nat.le_of_ble_eq_true rfl⟩), hts _ wd_332, hts _ wd_333⟩ (mo_preV hok he9 rfl [.int x2, .int x3]) rfl rfl hl.1 rfl (lv_room (Nat.le_of_ble_eq_true rfl)) d_H_bag_59 ⟨hcc, hss⟩) (fun M15 H locs hP hok => ?_)
          refine lv_iconst (v := 1) hx hb d_H_bag_62 (by decide) ?_
          obtain ⟨hcu, hsu, hP⟩ := hP
          refine W.widen (k := mc) (n := ms) hcu hsu ?_
          exact mo_zret hx hb hr hlocks hok hP d_H_bag_63
        · replace hP := hP.2 hc
          refine lv_iconst (v := 0) hx hb d_H_bag_53 (by decide) ?_
          obtain ⟨hcu, hsu, hP⟩ := hP
          refine W.widen (k := mc) (n := ms) hcu hsu ?_
          exact mo_zret hx hb hr hlocks hok hP d_H_bag_54
  · replace hP := hP.1 hc
    refine lv_iconst (v := 0) hx hb d_H_bag_8 (by decide) ?_
    obtain ⟨hcu, hsu, hP⟩ := hP
    refine W.widen (k := mc) (n := ms) hcu hsu ?_
    exact mo_zret hx hb hr hlocks hok hP d_H_bag_9

abbrev b_H_hasThing : ByteArray := prog_1_method_29_code
def y_H_hasThing : MethodName := ⟨"PurseHouse", "hasThing", "(II)Z"⟩
def ws_H_hasThing : List Cond := .code y_H_hasThing b_H_hasThing 3 (Option.some Jvm.ClassFile.FieldType.boolean) :: lw_g
theorem d_H_hasThing_0 : decode b_H_hasThing 0 = .ok (.aload_n 0, 1) := by decide +kernel
theorem d_H_hasThing_1 : decode b_H_hasThing 1 = .ok (.iload_n 1, 1) := by decide +kernel
theorem d_H_hasThing_2 : decode b_H_hasThing 2 = .ok (.invokevirtual 85, 3) := by decide +kernel
theorem d_H_hasThing_5 : decode b_H_hasThing 5 = .ok (.ifCond .eq 34, 3) := by decide +kernel
theorem d_H_hasThing_8 : decode b_H_hasThing 8 = .ok (.iload_n 2, 1) := by decide +kernel
theorem d_H_hasThing_9 : decode b_H_hasThing 9 = .ok (.iconst 0, 1) := by decide +kernel
theorem d_H_hasThing_10 : decode b_H_hasThing 10 = .ok (.aload_n 0, 1) := by decide +kernel
theorem d_H_hasThing_11 : decode b_H_hasThing 11 = .ok (.getfield 10, 3) := by decide +kernel
theorem d_H_hasThing_14 : decode b_H_hasThing 14 = .ok (.iload_n 1, 1) := by decide +kernel
theorem d_H_hasThing_15 : decode b_H_hasThing 15 = .ok (.invokevirtual 88, 3) := by decide +kernel
theorem d_H_hasThing_18 : decode b_H_hasThing 18 = .ok (.checkcast 52, 3) := by decide +kernel
theorem d_H_hasThing_21 : decode b_H_hasThing 21 = .ok (.getfield 113, 3) := by decide +kernel
theorem d_H_hasThing_24 : decode b_H_hasThing 24 = .ok (.invokevirtual 48, 3) := by decide +kernel
theorem d_H_hasThing_27 : decode b_H_hasThing 27 = .ok (.iconst 1, 1) := by decide +kernel
theorem d_H_hasThing_28 : decode b_H_hasThing 28 = .ok (.isub, 1) := by decide +kernel
theorem d_H_hasThing_29 : decode b_H_hasThing 29 = .ok (.invokestatic 65, 3) := by decide +kernel
theorem d_H_hasThing_32 : decode b_H_hasThing 32 = .ok (.ifCond .eq 7, 3) := by decide +kernel
theorem d_H_hasThing_35 : decode b_H_hasThing 35 = .ok (.iconst 1, 1) := by decide +kernel
theorem d_H_hasThing_36 : decode b_H_hasThing 36 = .ok (.goto 4, 3) := by decide +kernel
theorem d_H_hasThing_39 : decode b_H_hasThing 39 = .ok (.iconst 0, 1) := by decide +kernel
theorem d_H_hasThing_40 : decode b_H_hasThing 40 = .ok (.ireturn, 1) := by decide +kernel
def pp_H_hasThing (g : Nat → ClassId) (e0 : Nat → Nat) (K : Int32 → mo_M → Prop) (M : mo_M) (x0 : Nat) (x1 : Int32) (x2 : Int32) : Prop := (mp_is M x0 0 ∧ pp_H_hasLink g e0 (fun r2 M1 => ((r2 = 0 → (narrow .boolean (.int ((0 : Int32))) = .int ((0 : Int32)) ∧ K ((0 : Int32)) M1)) ∧ (¬ (r2 = 0) → mp_gr M1 x0 0 1 (fun v3 => (mp_is M1 v3 5 ∧ pp_A_get g e0 (fun r5 M4 => (mp_is M4 r5 2 ∧ mp_gr M4 r5 2 3 (fun v6 => (mp_is M4 v6 5 ∧ pp_A_size g e0 (fun r8 M7 => pp_H_isBetween g e0 (fun r10 M9 => ((r10 = 0 → (narrow .boolean (.int ((0 : Int32))) = .int ((0 : Int32)) ∧ K ((0 : Int32)) M9)) ∧ (¬ (r10 = 0) → (narrow .boolean (.int ((1 : Int32))) = .int ((1 : Int32)) ∧ K ((1 : Int32)) M9)))) M7 x2 ((0 : Int32)) ((r8 - ((1 : Int32))))) M4 v6)))) M1 v3 x1))))) M x0 x1)
set_option maxHeartbeats 4000000 in
set_option maxRecDepth 100000 in
theorem cc_H_hasThing (l : Launch) (L0 : Nat) (D : va_G) {g : Nat → ClassId} {e0 : Nat → Nat} {K : Int32 → mo_M → Prop} {M : mo_M} {x0 : Nat} {x1 : Int32} {x2 : Int32} (hP : pp_H_hasThing g e0 K M x0 x1 x2) : Met l y_H_hasThing ws_H_hasThing (mo_R 3 0 0 64) (va_Pc [.ref x0, .int x1, .int x2] (fun U => mo_B L0 e0 D vwCl (mo_T g) M U)) (mo_Qi L0 e0 D vwCl (mo_T g) K) 0 0 (fun q => L0 ≤ q) := by
  refine Met.ofW (cc := b_H_hasThing) (maxL := 3) (ret := (Option.some Jvm.ClassFile.FieldType.boolean)) (by decide +kernel) rfl ?_
  intro p e s m args below meth c s₁ B hml hv
  obtain ⟨hv1, hB0⟩ := hv
  have hx := B.exec
  have hb := B.bytes
  have hr := B.returns
  have hts : ∀ w ∈ lw_g, w.before args s = true := fun w hw => atoms_spec (ws := ws_H_hasThing) B.pre w (List.mem_cons_of_mem _ hw)
  have hown : s.vm.findClass "PurseHouse" = some m.cls := findClass_of_methodNamed B.named
  have hlocks := B.notSynchronized
  have hok : mo_ok L0 e0 D vwCl (mo_T g) s M s.heap [] := ⟨hB0.1, hB0.2.1, hB0.2.2, va_S.rf⟩
  have hl := lv_entry ([.ref x0, .int x1, .int x2]) (n := 3) (Nat.le_of_ble_eq_true rfl)
  rw [hv1, lg_entry_eq]
  rw [← hv1]
  generalize (lg_sl [.ref x0, .int x1, .int x2] ++ List.replicate (3 - (lg_sl [.ref x0, .int x1, .int x2]).length) Slot.unset).toArray = ls at hl ⊢
  have hl : lv_has ls 3 [(0, .ref x0), (1, .int x1), (2, .int x2)] := hl
  unfold pp_H_hasThing at hP
  refine lv_aload_n hx hb d_H_hasThing_0 rfl (lv_at hl 0 rfl) ?_
  refine lv_iload_n hx hb d_H_hasThing_1 rfl (lv_at hl 1 rfl) ?_
  obtain ⟨⟨fs9, he9⟩, hP⟩ := hP
  refine mo_calli hok (va_runV (As := [.int x1]) (rest := []) ⟨hx, hb, hml, hown, hts⟩ (cc_H_hasLink l L0 D hP) ⟨(callB_of 1 hts (lw_gi wd_309) rfl rfl rfl (hts _ wd_33) (hts _ wd_306) (by decide +kernel) ⟨Nat.le_of_ble_eq_true rfl, Nat.le_of_ble_eq_true rfl⟩), hts _ wd_308, hts _ wd_5⟩ (mo_preV hok he9 rfl [.int x1]) rfl rfl hl.1 rfl (lv_room (Nat.le_of_ble_eq_true rfl)) d_H_hasThing_2 ⟨Nat.zero_le _, Nat.zero_le _⟩) (fun r2 M1 H locs hP hok => ?_)
  refine lv_if_eq (tgt := 39) hx hb d_H_hasThing_5 (by decide) (fun hc => ?_) (fun hc => ?_)
  · replace hP := hP.1 hc
    refine lv_iconst (v := 0) hx hb d_H_hasThing_39 (by decide) ?_
    exact mo_zret hx hb hr hlocks hok hP d_H_hasThing_40
  · replace hP := hP.2 hc
    refine lv_iload_n hx hb d_H_hasThing_8 rfl (lv_at hl 2 rfl) ?_
    refine lv_iconst (v := 0) hx hb d_H_hasThing_9 (by decide) ?_
    refine lv_aload_n hx hb d_H_hasThing_10 rfl (lv_at hl 0 rfl) ?_
    refine mr_gr (C := "PurseHouse") (T := F_0) (N := 5) (ref := "PurseHouse") hx hb hts hown hok hP ui_0 rfl (by decide) (hts _ wd_142) (fun _ h => h) d_H_hasThing_11 (fun v3 hP => ?_)
    refine lv_iload_n hx hb d_H_hasThing_14 rfl (lv_at hl 1 rfl) ?_
    obtain ⟨⟨fs9, he9⟩, hP⟩ := hP
    refine mo_callr hok (va_runV (As := [.int x1]) (rest := [.int ((0 : Int32)), .int x2]) ⟨hx, hb, hml, hown, hts⟩ (cc_A_get l L0 D hP) ⟨(callB_of 1 hts (lw_gi wd_313) rfl rfl rfl (hts _ wd_36) (hts _ wd_310) (by decide +kernel) ⟨Nat.le_of_ble_eq_true rfl, Nat.le_of_ble_eq_true rfl⟩), hts _ wd_311, hts _ wd_312⟩ (mo_preV hok he9 rfl [.int x1]) rfl rfl hl.1 rfl (lv_room (Nat.le_of_ble_eq_true rfl)) d_H_hasThing_15 ⟨Nat.zero_le _, Nat.zero_le _⟩) (fun r5 M4 H locs hP hok => ?_)
    obtain ⟨his, hP⟩ := hP
    refine mr_cast (C := "PurseHouse$Link") (T := F_2) (N := 6) hx hb hown hok his rfl (hts _ wd_172) d_H_hasThing_18 ?_
    refine mr_gr (C := "PurseHouse$Link") (T := F_2) (N := 6) (ref := "PurseHouse$Link") hx hb hts hown hok hP ui_2 rfl (by decide) (hts _ wd_188) (fun _ h => h) d_H_hasThing_21 (fun v6 hP => ?_)
    obtain ⟨⟨fs9, he9⟩, hP⟩ := hP
    refine mo_calli hok (va_runV (As := []) (rest := [.int ((0 : Int32)), .int x2]) ⟨hx, hb, hml, hown, hts⟩ (cc_A_size l L0 D hP) ⟨(callB_of 0 hts (lw_gi wd_171) rfl rfl rfl (hts _ wd_36) (hts _ wd_168) (by decide +kernel) ⟨Nat.le_of_ble_eq_true rfl, Nat.le_of_ble_eq_true rfl⟩), hts _ wd_169, hts _ wd_170⟩ (mo_preV hok he9 rfl []) rfl rfl hl.1 rfl (lv_room (Nat.le_of_ble_eq_true rfl)) d_H_hasThing_24 ⟨Nat.zero_le _, Nat.zero_le _⟩) (fun r8 M7 H locs hP hok => ?_)
    refine lv_iconst (v := 1) hx hb d_H_hasThing_27 (by decide) ?_
    refine lv_isub hx hb d_H_hasThing_28 ?_
    refine mo_calli hok (va_runS (As := [.int x2, .int ((0 : Int32)), .int ((r8 - ((1 : Int32))))]) (rest := []) ⟨hx, hb, hml, hown, hts⟩ (cc_H_isBetween l L0 D hP) ⟨(callB_of 3 hts (lw_gi wd_167) rfl rfl rfl (hts _ wd_33) (hts _ wd_165) (by decide +kernel) ⟨Nat.le_of_ble_eq_true rfl, Nat.le_of_ble_eq_true rfl⟩), hts _ wd_166⟩ (mo_preS hok [.int x2, .int ((0 : Int32)), .int ((r8 - ((1 : Int32))))]) rfl rfl hl.1 rfl (lv_room (Nat.le_of_ble_eq_true rfl)) d_H_hasThing_29 ⟨Nat.zero_le _, Nat.zero_le _⟩) (fun r10 M9 H locs hP hok => ?_)
    refine lv_if_eq (tgt := 39) hx hb d_H_hasThing_32 (by decide) (fun hc => ?_) (fun hc => ?_)
    · replace hP := hP.1 hc
      refine lv_iconst (v := 0) hx hb d_H_hasThing_39 (by decide) ?_
      exact mo_zret hx hb hr hlocks hok hP d_H_hasThing_40
    · replace hP := hP.2 hc
      refine lv_iconst (v := 1) hx hb d_H_hasThing_35 (by decide) ?_
      refine lv_goto (tgt := 40) hx hb d_H_hasThing_36 (by decide) ?_
      exact mo_zret hx hb hr hlocks hok hP d_H_hasThing_40

abbrev b_H_recordAt : ByteArray := prog_1_method_34_code
def y_H_recordAt : MethodName := ⟨"PurseHouse", "recordAt", "(LPurseHouse$Kiosk;I)V"⟩
def ws_H_recordAt : List Cond := .code y_H_recordAt b_H_recordAt 4 (Option.none : Option Jvm.ClassFile.FieldType) :: lw_g
theorem d_H_recordAt_0 : decode b_H_recordAt 0 = .ok (.aload_n 1, 1) := by decide +kernel
theorem d_H_recordAt_1 : decode b_H_recordAt 1 = .ok (.iload_n 2, 1) := by decide +kernel
theorem d_H_recordAt_2 : decode b_H_recordAt 2 = .ok (.invokevirtual 167, 3) := by decide +kernel
theorem d_H_recordAt_5 : decode b_H_recordAt 5 = .ok (.ifCond .eq 4, 3) := by decide +kernel
theorem d_H_recordAt_8 : decode b_H_recordAt 8 = .ok (.return_, 1) := by decide +kernel
theorem d_H_recordAt_9 : decode b_H_recordAt 9 = .ok (.aload_n 1, 1) := by decide +kernel
theorem d_H_recordAt_10 : decode b_H_recordAt 10 = .ok (.iload_n 2, 1) := by decide +kernel
theorem d_H_recordAt_11 : decode b_H_recordAt 11 = .ok (.invokevirtual 215, 3) := by decide +kernel
theorem d_H_recordAt_14 : decode b_H_recordAt 14 = .ok (.iconst 0, 1) := by decide +kernel
theorem d_H_recordAt_15 : decode b_H_recordAt 15 = .ok (.istore_n 3, 1) := by decide +kernel
theorem d_H_recordAt_16 : decode b_H_recordAt 16 = .ok (.iload_n 3, 1) := by decide +kernel
theorem d_H_recordAt_17 : decode b_H_recordAt 17 = .ok (.aload_n 0, 1) := by decide +kernel
theorem d_H_recordAt_18 : decode b_H_recordAt 18 = .ok (.getfield 10, 3) := by decide +kernel
theorem d_H_recordAt_21 : decode b_H_recordAt 21 = .ok (.invokevirtual 48, 3) := by decide +kernel
theorem d_H_recordAt_24 : decode b_H_recordAt 24 = .ok (.if_icmp .ge 42, 3) := by decide +kernel
theorem d_H_recordAt_27 : decode b_H_recordAt 27 = .ok (.aload_n 0, 1) := by decide +kernel
theorem d_H_recordAt_28 : decode b_H_recordAt 28 = .ok (.getfield 10, 3) := by decide +kernel
theorem d_H_recordAt_31 : decode b_H_recordAt 31 = .ok (.iload_n 3, 1) := by decide +kernel
theorem d_H_recordAt_32 : decode b_H_recordAt 32 = .ok (.invokevirtual 88, 3) := by decide +kernel
theorem d_H_recordAt_35 : decode b_H_recordAt 35 = .ok (.checkcast 52, 3) := by decide +kernel
theorem d_H_recordAt_38 : decode b_H_recordAt 38 = .ok (.getfield 92, 3) := by decide +kernel
theorem d_H_recordAt_41 : decode b_H_recordAt 41 = .ok (.aload_n 1, 1) := by decide +kernel
theorem d_H_recordAt_42 : decode b_H_recordAt 42 = .ok (.if_acmp .ne 18, 3) := by decide +kernel
theorem d_H_recordAt_45 : decode b_H_recordAt 45 = .ok (.aload_n 0, 1) := by decide +kernel
theorem d_H_recordAt_46 : decode b_H_recordAt 46 = .ok (.getfield 10, 3) := by decide +kernel
theorem d_H_recordAt_49 : decode b_H_recordAt 49 = .ok (.iload_n 3, 1) := by decide +kernel
theorem d_H_recordAt_50 : decode b_H_recordAt 50 = .ok (.invokevirtual 88, 3) := by decide +kernel
theorem d_H_recordAt_53 : decode b_H_recordAt 53 = .ok (.checkcast 52, 3) := by decide +kernel
theorem d_H_recordAt_56 : decode b_H_recordAt 56 = .ok (.iload_n 2, 1) := by decide +kernel
theorem d_H_recordAt_57 : decode b_H_recordAt 57 = .ok (.invokevirtual 219, 3) := by decide +kernel
theorem d_H_recordAt_60 : decode b_H_recordAt 60 = .ok (.iinc 3 1, 3) := by decide +kernel
theorem d_H_recordAt_63 : decode b_H_recordAt 63 = .ok (.goto (-47), 3) := by decide +kernel
theorem d_H_recordAt_66 : decode b_H_recordAt 66 = .ok (.return_, 1) := by decide +kernel
def pp_H_recordAt_b60 (g : Nat → ClassId) (e0 : Nat → Nat) (mc ms : Nat) (K : mo_M → Prop) (B_16 : mo_M → Nat → Nat → Nat → Nat → Int32 → Int32 → Prop) (M : mo_M) (cu su : Nat) (x0 : Nat) (x1 : Nat) (x2 : Int32) (x3 : Int32) : Prop := B_16 M cu su x0 x1 x2 (x3 + 1)
def pp_H_recordAt_b16 (g : Nat → ClassId) (e0 : Nat → Nat) (mc ms : Nat) (K : mo_M → Prop) : Nat → mo_M → Nat → Nat → Nat → Nat → Int32 → Int32 → Prop
  | 0, _, _, _, _, _, _, _ => False
  | n + 1, M, cu, su, x0, x1, x2, x3 => mp_gr M x0 0 1 (fun v5 => (cu ≤ mc ∧ su ≤ ms ∧ (mp_is M v5 5 ∧ pp_A_size g e0 (fun r7 M6 => ((r7 ≤ x3 → (cu ≤ mc ∧ su ≤ ms ∧ K M6)) ∧ (¬ (r7 ≤ x3) → mp_gr M6 x0 0 1 (fun v8 => (cu ≤ mc ∧ su ≤ ms ∧ (mp_is M6 v8 5 ∧ pp_A_get g e0 (fun r10 M9 => (mp_is M9 r10 2 ∧ mp_gr M9 r10 2 0 (fun v11 => ((v11 = x1 → mp_gr M9 x0 0 1 (fun v12 => (cu ≤ mc ∧ su ≤ ms ∧ (mp_is M9 v12 5 ∧ pp_A_get g e0 (fun r14 M13 => (mp_is M13 r14 2 ∧ (∃ c15 t16 : Nat, cu + c15 ≤ mc ∧ su + t16 ≤ ms ∧ (mp_is M13 r14 2 ∧ pp_L_announce g e0 c15 t16 (fun M17 => pp_H_recordAt_b60 g e0 mc ms K (fun M cu su x0 x1 x2 x3 => pp_H_recordAt_b16 g e0 mc ms K n M cu su x0 x1 x2 x3) M17 ((cu + c15)) ((su + t16)) x0 x1 x2 x3) M13 r14 x2)))) M9 v12 x3)))) ∧ (¬ (v11 = x1) → pp_H_recordAt_b60 g e0 mc ms K (fun M cu su x0 x1 x2 x3 => pp_H_recordAt_b16 g e0 mc ms K n M cu su x0 x1 x2 x3) M9 cu su x0 x1 x2 x3))))) M6 v8 x3)))))) M v5)))
def pp_H_recordAt (g : Nat → ClassId) (e0 : Nat → Nat) (mc ms : Nat) (K : mo_M → Prop) (M : mo_M) (x0 : Nat) (x1 : Nat) (x2 : Int32) : Prop := (0 ≤ mc ∧ 0 ≤ ms ∧ (mp_is M x1 1 ∧ pp_K_hasMark g e0 (fun r2 M1 => ((r2 = 0 → (0 ≤ mc ∧ 0 ≤ ms ∧ (mp_is M1 x1 1 ∧ pp_K_keepPage g e0 (fun M3 => ∃ n4 : Nat, pp_H_recordAt_b16 g e0 mc ms K n4 M3 0 0 x0 x1 x2 ((0 : Int32))) M1 x1 x2))) ∧ (¬ (r2 = 0) → (0 ≤ mc ∧ 0 ≤ ms ∧ K M1)))) M x1 x2))
set_option maxHeartbeats 4000000 in
set_option maxRecDepth 100000 in
theorem cc_H_recordAt (l : Launch) (L0 : Nat) (D : va_G) {g : Nat → ClassId} {e0 : Nat → Nat} {mc ms : Nat} {K : mo_M → Prop} {M : mo_M} {x0 : Nat} {x1 : Nat} {x2 : Int32} (hP : pp_H_recordAt g e0 mc ms K M x0 x1 x2) : Met l y_H_recordAt ws_H_recordAt (mo_R 8 mc ms 212) (va_Pc [.ref x0, .ref x1, .int x2] (fun U => mo_B L0 e0 D vwCl (mo_T g) M U)) (mo_Qv L0 e0 D vwCl (mo_T g) K) mc ms (fun q => L0 ≤ q) := by
  refine Met.ofW (cc := b_H_recordAt) (maxL := 4) (ret := (Option.none : Option Jvm.ClassFile.FieldType)) (by decide +kernel) rfl ?_
  intro p e s m args below meth c s₁ B hml hv
  obtain ⟨hv1, hB0⟩ := hv
  have hx := B.exec
  have hb := B.bytes
  have hr := B.returns
  have hts : ∀ w ∈ lw_g, w.before args s = true := fun w hw => atoms_spec (ws := ws_H_recordAt) B.pre w (List.mem_cons_of_mem _ hw)
  have hown : s.vm.findClass "PurseHouse" = some m.cls := findClass_of_methodNamed B.named
  have hlocks := B.notSynchronized
  have w_60 : ∀ (B_16 : mo_M → Nat → Nat → Nat → Nat → Int32 → Int32 → Prop) (hB_16 : ∀ (M : mo_M) (cu su : Nat) (x0 : Nat) (x1 : Nat) (x2 : Int32) (x3 : Int32) (H : Heap) (locs : List Loc) (ls : Array Slot), B_16 M cu su x0 x1 x2 x3 → mo_ok L0 e0 D vwCl (mo_T g) s M H locs → lv_has ls 4 [(0, .ref x0), (1, .ref x1), (2, .int x2), (3, .int x3)] → W p l e (headSpec ws_H_recordAt (mo_R 8 mc ms 212)).room s m args below meth c H locs cu su (mo_Z below (mo_Qv L0 e0 D vwCl (mo_T g) K) args s mc ms L0) (F0 m 16 ls [])) (M : mo_M) (cu su : Nat) (x0 : Nat) (x1 : Nat) (x2 : Int32) (x3 : Int32) (H : Heap) (locs : List Loc) (ls : Array Slot), pp_H_recordAt_b60 g e0 mc ms K B_16 M cu su x0 x1 x2 x3 → mo_ok L0 e0 D vwCl (mo_T g) s M H locs → lv_has ls 4 [(0, .ref x0), (1, .ref x1), (2, .int x2), (3, .int x3)] → W p l e (headSpec ws_H_recordAt (mo_R 8 mc ms 212)).room s m args below meth c H locs cu su (mo_Z below (mo_Qv L0 e0 D vwCl (mo_T g) K) args s mc ms L0) (F0 m 60 ls []) := by
    intro B_16 hB_16 M cu su x0 x1 x2 x3 H locs ls hP hok hl
    unfold pp_H_recordAt_b60 at hP
    refine lv_iinc (k := 3) (v := x3 + 1) (lv' := [(3, .int (x3 + 1)), (0, .ref x0), (1, .ref x1), (2, .int x2)]) hx hb d_H_recordAt_60 hl rfl rfl (by decide) rfl (fun ls hl => ?_)
    refine lv_goto (tgt := 16) hx hb d_H_recordAt_63 (by decide) ?_
    exact hB_16 _ _ _ _ _ _ _ _ _ _ hP hok (lv_sub hl [1, 2, 3, 0] rfl)
  have w_16 : ∀ (n : Nat) (M : mo_M) (cu su : Nat) (x0 : Nat) (x1 : Nat) (x2 : Int32) (x3 : Int32) (H : Heap) (locs : List Loc) (ls : Array Slot), pp_H_recordAt_b16 g e0 mc ms K n M cu su x0 x1 x2 x3 → mo_ok L0 e0 D vwCl (mo_T g) s M H locs → lv_has ls 4 [(0, .ref x0), (1, .ref x1), (2, .int x2), (3, .int x3)] → W p l e (headSpec ws_H_recordAt (mo_R 8 mc ms 212)).room s m args below meth c H locs cu su (mo_Z below (mo_Qv L0 e0 D vwCl (mo_T g) K) args s mc ms L0) (F0 m 16 ls []) := by
    intro n
    induction n with
    | zero => intro M cu su x0 x1 x2 x3 H locs ls hP; exact hP.elim
    | succ n ih =>
      intro M cu su x0 x1 x2 x3 H locs ls hP hok hl
      unfold pp_H_recordAt_b16 at hP
      refine lv_iload_n hx hb d_H_recordAt_16 rfl (lv_at hl 3 rfl) ?_
      refine lv_aload_n hx hb d_H_recordAt_17 rfl (lv_at hl 0 rfl) ?_
      refine mr_gr (C := "PurseHouse") (T := F_0) (N := 5) (ref := "PurseHouse") hx hb hts hown hok hP ui_0 rfl (by decide) (hts _ wd_142) (fun _ h => h) d_H_recordAt_18 (fun v5 hP => ?_)
      obtain ⟨hcc, hss, hP⟩ := hP
      obtain ⟨⟨fs9, he9⟩, hP⟩ := hP
      refine mo_calli hok (va_runV (As := []) (rest := [.int x3]) ⟨hx, hb, hml, hown, hts⟩ (cc_A_size l L0 D hP) ⟨(callB_of 0 hts (lw_gi wd_171) rfl rfl rfl (hts _ wd_36) (hts _ wd_168) (by decide +kernel) ⟨Nat.le_of_ble_eq_true rfl, Nat.le_of_ble_eq_true rfl⟩), hts _ wd_169, hts _ wd_170⟩ (mo_preV hok he9 rfl []) rfl rfl hl.1 rfl (lv_room (Nat.le_of_ble_eq_true rfl)) d_H_recordAt_21 ⟨hcc, hss⟩) (fun r7 M6 H locs hP hok => ?_)
      refine lv_icmp_ge (tgt := 66) hx hb d_H_recordAt_24 (by decide) (fun hc => ?_) (fun hc => ?_)
      · replace hP := hP.1 hc
        obtain ⟨hcu, hsu, hP⟩ := hP
        refine W.widen (k := mc) (n := ms) hcu hsu ?_
        exact mo_vret hx hb hr hlocks hok hP d_H_recordAt_66
      · replace hP := hP.2 hc
        refine lv_aload_n hx hb d_H_recordAt_27 rfl (lv_at hl 0 rfl) ?_
        refine mr_gr (C := "PurseHouse") (T := F_0) (N := 5) (ref := "PurseHouse") hx hb hts hown hok hP ui_0 rfl (by decide) (hts _ wd_142) (fun _ h => h) d_H_recordAt_28 (fun v8 hP => ?_)
        refine lv_iload_n hx hb d_H_recordAt_31 rfl (lv_at hl 3 rfl) ?_
        obtain ⟨hcc, hss, hP⟩ := hP
        obtain ⟨⟨fs9, he9⟩, hP⟩ := hP
        refine mo_callr hok (va_runV (As := [.int x3]) (rest := []) ⟨hx, hb, hml, hown, hts⟩ (cc_A_get l L0 D hP) ⟨(callB_of 1 hts (lw_gi wd_313) rfl rfl rfl (hts _ wd_36) (hts _ wd_310) (by decide +kernel) ⟨Nat.le_of_ble_eq_true rfl, Nat.le_of_ble_eq_true rfl⟩), hts _ wd_311, hts _ wd_312⟩ (mo_preV hok he9 rfl [.int x3]) rfl rfl hl.1 rfl (lv_room (Nat.le_of_ble_eq_true rfl)) d_H_recordAt_32 ⟨hcc, hss⟩) (fun r10 M9 H locs hP hok => ?_)
        obtain ⟨his, hP⟩ := hP
        refine mr_cast (C := "PurseHouse$Link") (T := F_2) (N := 6) hx hb hown hok his rfl (hts _ wd_172) d_H_recordAt_35 ?_
        refine mr_gr (C := "PurseHouse$Link") (T := F_2) (N := 6) (ref := "PurseHouse$Link") hx hb hts hown hok hP ui_2 rfl (by decide) (hts _ wd_182) (fun _ h => h) d_H_recordAt_38 (fun v11 hP => ?_)
        refine lv_aload_n hx hb d_H_recordAt_41 rfl (lv_at hl 1 rfl) ?_
        refine mr_acmp_ne (rx := v11) (ry := x1) (tgt := 60) hx hb d_H_recordAt_42 (by decide) (fun hc => ?_) (fun hc => ?_)
        · replace hP := hP.2 hc
          exact w_60 _ ih _ _ _ _ _ _ _ _ _ _ hP hok (lv_sub hl [0, 1, 2, 3] rfl)
        · replace hP := hP.1 hc
          refine lv_aload_n hx hb d_H_recordAt_45 rfl (lv_at hl 0 rfl) ?_
          refine mr_gr (C := "PurseHouse") (T := F_0) (N := 5) (ref := "PurseHouse") hx hb hts hown hok hP ui_0 rfl (by decide) (hts _ wd_142) (fun _ h => h) d_H_recordAt_46 (fun v12 hP => ?_)
          refine lv_iload_n hx hb d_H_recordAt_49 rfl (lv_at hl 3 rfl) ?_
          obtain ⟨hcc, hss, hP⟩ := hP
          obtain ⟨⟨fs9, he9⟩, hP⟩ := hP
          refine mo_callr hok (va_runV (As := [.int x3]) (rest := []) ⟨hx, hb, hml, hown, hts⟩ (cc_A_get l L0 D hP) ⟨(callB_of 1 hts (lw_gi wd_313) rfl rfl rfl (hts _ wd_36) (hts _ wd_310) (by decide +kernel) ⟨Nat.le_of_ble_eq_true rfl, Nat.le_of_ble_eq_true rfl⟩), hts _ wd_311, hts _ wd_312⟩ (mo_preV hok he9 rfl [.int x3]) rfl rfl hl.1 rfl (lv_room (Nat.le_of_ble_eq_true rfl)) d_H_recordAt_50 ⟨hcc, hss⟩) (fun r14 M13 H locs hP hok => ?_)
          obtain ⟨his, hP⟩ := hP
          refine mr_cast (C := "PurseHouse$Link") (T := F_2) (N := 6) hx hb hown hok his rfl (hts _ wd_172) d_H_recordAt_53 ?_
          refine lv_iload_n hx hb d_H_recordAt_56 rfl (lv_at hl 2 rfl) ?_
          obtain ⟨c15, t16, hcc, hss, hP⟩ := hP
          obtain ⟨⟨fs9, he9⟩, hP⟩ := hP
          refine mo_callv hok (va_runV (As := [.int x2]) (rest := []) ⟨hx, hb, hml, hown, hts⟩ (cc_L_announce l L0 D hP) ⟨(callB_of 1 hts (lw_gi wd_407) rfl rfl rfl (hts _ wd_40) (hts _ wd_404) (by decide +kernel) ⟨Nat.le_of_ble_eq_true rfl, Nat.le_of_ble_eq_true rfl⟩), hts _ wd_405, hts _ wd_406⟩ (mo_preV hok he9 rfl [.int x2]) rfl rfl hl.1 rfl (lv_room (Nat.le_of_ble_eq_true rfl)) d_H_recordAt_57 ⟨hcc, hss⟩) (fun M17 H locs hP hok => ?_)
          exact w_60 _ ih _ _ _ _ _ _ _ _ _ _ hP hok (lv_sub hl [0, 1, 2, 3] rfl)
  have hok : mo_ok L0 e0 D vwCl (mo_T g) s M s.heap [] := ⟨hB0.1, hB0.2.1, hB0.2.2, va_S.rf⟩
  have hl := lv_entry ([.ref x0, .ref x1, .int x2]) (n := 4) (Nat.le_of_ble_eq_true rfl)
  rw [hv1, lg_entry_eq]
  rw [← hv1]
  generalize (lg_sl [.ref x0, .ref x1, .int x2] ++ List.replicate (4 - (lg_sl [.ref x0, .ref x1, .int x2]).length) Slot.unset).toArray = ls at hl ⊢
  have hl : lv_has ls 4 [(0, .ref x0), (1, .ref x1), (2, .int x2)] := hl
  unfold pp_H_recordAt at hP
  refine lv_aload_n hx hb d_H_recordAt_0 rfl (lv_at hl 1 rfl) ?_
  refine lv_iload_n hx hb d_H_recordAt_1 rfl (lv_at hl 2 rfl) ?_
  obtain ⟨hcc, hss, hP⟩ := hP
  obtain ⟨⟨fs9, he9⟩, hP⟩ := hP
  refine mo_calli hok (va_runV (As := [.int x2]) (rest := []) ⟨hx, hb, hml, hown, hts⟩ (cc_K_hasMark l L0 D hP) ⟨(callB_of 1 hts (lw_gi wd_395) rfl rfl rfl (hts _ wd_38) (hts _ wd_392) (by decide +kernel) ⟨Nat.le_of_ble_eq_true rfl, Nat.le_of_ble_eq_true rfl⟩), hts _ wd_393, hts _ wd_394⟩ (mo_preV hok he9 rfl [.int x2]) rfl rfl hl.1 rfl (lv_room (Nat.le_of_ble_eq_true rfl)) d_H_recordAt_2 ⟨hcc, hss⟩) (fun r2 M1 H locs hP hok => ?_)
  refine lv_if_eq (tgt := 9) hx hb d_H_recordAt_5 (by decide) (fun hc => ?_) (fun hc => ?_)
  · replace hP := hP.1 hc
    refine lv_aload_n hx hb d_H_recordAt_9 rfl (lv_at hl 1 rfl) ?_
    refine lv_iload_n hx hb d_H_recordAt_10 rfl (lv_at hl 2 rfl) ?_
    obtain ⟨hcc, hss, hP⟩ := hP
    obtain ⟨⟨fs9, he9⟩, hP⟩ := hP
    refine mo_callv hok (va_runV (As := [.int x2]) (rest := []) ⟨hx, hb, hml, hown, hts⟩ (cc_K_keepPage l L0 D hP) ⟨(callB_of 1 hts (lw_gi wd_402) rfl rfl rfl (hts _ wd_38) (hts _ wd_399) (by decide +kernel) ⟨Nat.le_of_ble_eq_true rfl, Nat.le_of_ble_eq_true rfl⟩), hts _ wd_400, hts _ wd_401⟩ (mo_preV hok he9 rfl [.int x2]) rfl rfl hl.1 rfl (lv_room (Nat.le_of_ble_eq_true rfl)) d_H_recordAt_11 ⟨hcc, hss⟩) (fun M3 H locs hP hok => ?_)
    refine lv_iconst (v := 0) hx hb d_H_recordAt_14 (by decide) ?_
    refine lv_istore_n (lv' := [(3, .int ((0 : Int32))), (0, .ref x0), (1, .ref x1), (2, .int x2)]) hx hb d_H_recordAt_15 rfl hl (by decide) rfl (fun ls hl => ?_)
    obtain ⟨n4, hP⟩ := hP
    exact w_16  n4 _ _ _ _ _ _ _ _ _ _ hP hok (lv_sub hl [1, 2, 3, 0] rfl)
  · replace hP := hP.2 hc
    obtain ⟨hcu, hsu, hP⟩ := hP
    refine W.widen (k := mc) (n := ms) hcu hsu ?_
    exact mo_vret hx hb hr hlocks hok hP d_H_recordAt_8

abbrev b_H_takeMarker : ByteArray := prog_1_method_35_code
def y_H_takeMarker : MethodName := ⟨"PurseHouse", "takeMarker", "(LPurseHouse$Link;I)V"⟩
def ws_H_takeMarker : List Cond := .code y_H_takeMarker b_H_takeMarker 3 (Option.none : Option Jvm.ClassFile.FieldType) :: lw_g
theorem d_H_takeMarker_0 : decode b_H_takeMarker 0 = .ok (.aload_n 0, 1) := by decide +kernel
theorem d_H_takeMarker_1 : decode b_H_takeMarker 1 = .ok (.aload_n 1, 1) := by decide +kernel
theorem d_H_takeMarker_2 : decode b_H_takeMarker 2 = .ok (.getfield 222, 3) := by decide +kernel
theorem d_H_takeMarker_5 : decode b_H_takeMarker 5 = .ok (.iload_n 2, 1) := by decide +kernel
theorem d_H_takeMarker_6 : decode b_H_takeMarker 6 = .ok (.invokevirtual 135, 3) := by decide +kernel
theorem d_H_takeMarker_9 : decode b_H_takeMarker 9 = .ok (.aload_n 1, 1) := by decide +kernel
theorem d_H_takeMarker_10 : decode b_H_takeMarker 10 = .ok (.dup, 1) := by decide +kernel
theorem d_H_takeMarker_11 : decode b_H_takeMarker 11 = .ok (.getfield 225, 3) := by decide +kernel
theorem d_H_takeMarker_14 : decode b_H_takeMarker 14 = .ok (.iconst 1, 1) := by decide +kernel
theorem d_H_takeMarker_15 : decode b_H_takeMarker 15 = .ok (.iload_n 2, 1) := by decide +kernel
theorem d_H_takeMarker_16 : decode b_H_takeMarker 16 = .ok (.ishl, 1) := by decide +kernel
theorem d_H_takeMarker_17 : decode b_H_takeMarker 17 = .ok (.ior, 1) := by decide +kernel
theorem d_H_takeMarker_18 : decode b_H_takeMarker 18 = .ok (.putfield 225, 3) := by decide +kernel
theorem d_H_takeMarker_21 : decode b_H_takeMarker 21 = .ok (.return_, 1) := by decide +kernel
def pp_H_takeMarker (g : Nat → ClassId) (e0 : Nat → Nat) (mc ms : Nat) (K : mo_M → Prop) (M : mo_M) (x0 : Nat) (x1 : Nat) (x2 : Int32) : Prop := mp_gr M x1 2 1 (fun v1 => (∃ c2 t3 : Nat, 0 + c2 ≤ mc ∧ 0 + t3 ≤ ms ∧ (mp_is M x0 0 ∧ pp_H_recordAt g e0 c2 t3 (fun M4 => mp_gi M4 x1 2 5 (fun v5 => mp_pt M4 x1 2 5 (.int ((v5 ||| ((((1 : Int32)) <<< (x2 &&& 31)))))) (fun M6 => (((0 + c2)) ≤ mc ∧ ((0 + t3)) ≤ ms ∧ K M6)))) M x0 v1 x2)))
set_option maxHeartbeats 4000000 in
set_option maxRecDepth 100000 in
theorem cc_H_takeMarker (l : Launch) (L0 : Nat) (D : va_G) {g : Nat → ClassId} {e0 : Nat → Nat} {mc ms : Nat} {K : mo_M → Prop} {M : mo_M} {x0 : Nat} {x1 : Nat} {x2 : Int32} (hP : pp_H_takeMarker g e0 mc ms K M x0 x1 x2) : Met l y_H_takeMarker ws_H_takeMarker (mo_R 9 mc ms 235) (va_Pc [.ref x0, .ref x1, .int x2] (fun U => mo_B L0 e0 D vwCl (mo_T g) M U)) (mo_Qv L0 e0 D vwCl (mo_T g) K) mc ms (fun q => L0 ≤ q) := by
  refine Met.ofW (cc := b_H_takeMarker) (maxL := 3) (ret := (Option.none : Option Jvm.ClassFile.FieldType)) (by decide +kernel) rfl ?_
  intro p e s m args below meth c s₁ B hml hv
  obtain ⟨hv1, hB0⟩ := hv
  have hx := B.exec
  have hb := B.bytes
  have hr := B.returns
  have hts : ∀ w ∈ lw_g, w.before args s = true := fun w hw => atoms_spec (ws := ws_H_takeMarker) B.pre w (List.mem_cons_of_mem _ hw)
  have hown : s.vm.findClass "PurseHouse" = some m.cls := findClass_of_methodNamed B.named
  have hlocks := B.notSynchronized
  have hok : mo_ok L0 e0 D vwCl (mo_T g) s M s.heap [] := ⟨hB0.1, hB0.2.1, hB0.2.2, va_S.rf⟩
  have hl := lv_entry ([.ref x0, .ref x1, .int x2]) (n := 3) (Nat.le_of_ble_eq_true rfl)
  rw [hv1, lg_entry_eq]
  rw [← hv1]
  generalize (lg_sl [.ref x0, .ref x1, .int x2] ++ List.replicate (3 - (lg_sl [.ref x0, .ref x1, .int x2]).length) Slot.unset).toArray = ls at hl ⊢
  have hl : lv_has ls 3 [(0, .ref x0), (1, .ref x1), (2, .int x2)] := hl
  unfold pp_H_takeMarker at hP
  refine lv_aload_n hx hb d_H_takeMarker_0 rfl (lv_at hl 0 rfl) ?_
  refine lv_aload_n hx hb d_H_takeMarker_1 rfl (lv_at hl 1 rfl) ?_
  refine mr_gr (C := "PurseHouse$Link") (T := F_2) (N := 6) (ref := "PurseHouse$Link") hx hb hts hown hok hP ui_2 rfl (by decide) (hts _ wd_184) (fun _ h => h) d_H_takeMarker_2 (fun v1 hP => ?_)
  refine lv_iload_n hx hb d_H_takeMarker_5 rfl (lv_at hl 2 rfl) ?_
  obtain ⟨c2, t3, hcc, hss, hP⟩ := hP
  obtain ⟨⟨fs9, he9⟩, hP⟩ := hP
  refine mo_callv hok (va_runV (As := [.ref v1, .int x2]) (rest := []) ⟨hx, hb, hml, hown, hts⟩ (cc_H_recordAt l L0 D hP) ⟨(callB_of 2 hts (lw_gi wd_391) rfl rfl rfl (hts _ wd_33) (hts _ wd_388) (by decide +kernel) ⟨Nat.le_of_ble_eq_true rfl, Nat.le_of_ble_eq_true rfl⟩), hts _ wd_390, hts _ wd_9⟩ (mo_preV hok he9 rfl [.ref v1, .int x2]) rfl rfl hl.1 rfl (lv_room (Nat.le_of_ble_eq_true rfl)) d_H_takeMarker_6 ⟨hcc, hss⟩) (fun M4 H locs hP hok => ?_)
  refine lv_aload_n hx hb d_H_takeMarker_9 rfl (lv_at hl 1 rfl) ?_
  refine lv_dup hx hb d_H_takeMarker_10 rfl ?_
  refine mr_gi (C := "PurseHouse$Link") (T := F_2) (N := 6) (ref := "PurseHouse$Link") hx hb hts hown hok hP ui_2 rfl (by decide) (hts _ wd_192) (fun _ h => h) d_H_takeMarker_11 (fun v5 hP => ?_)
  refine lv_iconst (v := 1) hx hb d_H_takeMarker_14 (by decide) ?_
  refine lv_iload_n hx hb d_H_takeMarker_15 rfl (lv_at hl 2 rfl) ?_
  refine lv_ishl hx hb d_H_takeMarker_16 ?_
  refine lv_ior hx hb d_H_takeMarker_17 ?_
  refine mr_pt (C := "PurseHouse$Link") (T := F_2) (N := 6) (ref := "PurseHouse$Link") (ty := .int) hx hb hts hown hok hP ui_2 ty_2 th_2 tn_2 rfl (by decide) (hts _ wd_192) (fun _ h => h) rfl (by decide +kernel) rfl rfl d_H_takeMarker_18 (fun M6 H locs hP hok => ?_)
  obtain ⟨hcu, hsu, hP⟩ := hP
  refine W.widen (k := mc) (n := ms) hcu hsu ?_
  exact mo_vret hx hb hr hlocks hok hP d_H_takeMarker_21

abbrev b_H_takeBag : ByteArray := prog_1_method_36_code
def y_H_takeBag : MethodName := ⟨"PurseHouse", "takeBag", "(LPurseHouse$Link;LPurseHouse$Thing;)V"⟩
def ws_H_takeBag : List Cond := .code y_H_takeBag b_H_takeBag 4 (Option.none : Option Jvm.ClassFile.FieldType) :: lw_g
theorem d_H_takeBag_0 : decode b_H_takeBag 0 = .ok (.iconst 0, 1) := by decide +kernel
theorem d_H_takeBag_1 : decode b_H_takeBag 1 = .ok (.istore_n 3, 1) := by decide +kernel
theorem d_H_takeBag_2 : decode b_H_takeBag 2 = .ok (.iload_n 3, 1) := by decide +kernel
theorem d_H_takeBag_3 : decode b_H_takeBag 3 = .ok (.bipush 16, 2) := by decide +kernel
theorem d_H_takeBag_5 : decode b_H_takeBag 5 = .ok (.if_icmp .ge 29, 3) := by decide +kernel
theorem d_H_takeBag_8 : decode b_H_takeBag 8 = .ok (.aload_n 2, 1) := by decide +kernel
theorem d_H_takeBag_9 : decode b_H_takeBag 9 = .ok (.getfield 156, 3) := by decide +kernel
theorem d_H_takeBag_12 : decode b_H_takeBag 12 = .ok (.iload_n 3, 1) := by decide +kernel
theorem d_H_takeBag_13 : decode b_H_takeBag 13 = .ok (.invokestatic 228, 3) := by decide +kernel
theorem d_H_takeBag_16 : decode b_H_takeBag 16 = .ok (.ifCond .eq 12, 3) := by decide +kernel
theorem d_H_takeBag_19 : decode b_H_takeBag 19 = .ok (.aload_n 0, 1) := by decide +kernel
theorem d_H_takeBag_20 : decode b_H_takeBag 20 = .ok (.aload_n 1, 1) := by decide +kernel
theorem d_H_takeBag_21 : decode b_H_takeBag 21 = .ok (.getfield 222, 3) := by decide +kernel
theorem d_H_takeBag_24 : decode b_H_takeBag 24 = .ok (.iload_n 3, 1) := by decide +kernel
theorem d_H_takeBag_25 : decode b_H_takeBag 25 = .ok (.invokevirtual 135, 3) := by decide +kernel
theorem d_H_takeBag_28 : decode b_H_takeBag 28 = .ok (.iinc 3 1, 3) := by decide +kernel
theorem d_H_takeBag_31 : decode b_H_takeBag 31 = .ok (.goto (-29), 3) := by decide +kernel
theorem d_H_takeBag_34 : decode b_H_takeBag 34 = .ok (.aload_n 2, 1) := by decide +kernel
theorem d_H_takeBag_35 : decode b_H_takeBag 35 = .ok (.getfield 121, 3) := by decide +kernel
theorem d_H_takeBag_38 : decode b_H_takeBag 38 = .ok (.iconst 1, 1) := by decide +kernel
theorem d_H_takeBag_39 : decode b_H_takeBag 39 = .ok (.if_icmp .ne 23, 3) := by decide +kernel
theorem d_H_takeBag_42 : decode b_H_takeBag 42 = .ok (.aload_n 1, 1) := by decide +kernel
theorem d_H_takeBag_43 : decode b_H_takeBag 43 = .ok (.getfield 222, 3) := by decide +kernel
theorem d_H_takeBag_46 : decode b_H_takeBag 46 = .ok (.aload_n 2, 1) := by decide +kernel
theorem d_H_takeBag_47 : decode b_H_takeBag 47 = .ok (.getfield 153, 3) := by decide +kernel
theorem d_H_takeBag_50 : decode b_H_takeBag 50 = .ok (.aload_n 2, 1) := by decide +kernel
theorem d_H_takeBag_51 : decode b_H_takeBag 51 = .ok (.getfield 124, 3) := by decide +kernel
theorem d_H_takeBag_54 : decode b_H_takeBag 54 = .ok (.invokevirtual 231, 3) := by decide +kernel
theorem d_H_takeBag_57 : decode b_H_takeBag 57 = .ok (.aload_n 1, 1) := by decide +kernel
theorem d_H_takeBag_58 : decode b_H_takeBag 58 = .ok (.aload_n 2, 1) := by decide +kernel
theorem d_H_takeBag_59 : decode b_H_takeBag 59 = .ok (.invokevirtual 234, 3) := by decide +kernel
theorem d_H_takeBag_62 : decode b_H_takeBag 62 = .ok (.return_, 1) := by decide +kernel
def pp_H_takeBag_b28 (g : Nat → ClassId) (e0 : Nat → Nat) (mc ms : Nat) (K : mo_M → Prop) (B_2 : mo_M → Nat → Nat → Nat → Nat → Nat → Int32 → Prop) (M : mo_M) (cu su : Nat) (x0 : Nat) (x1 : Nat) (x2 : Nat) (x3 : Int32) : Prop := B_2 M cu su x0 x1 x2 (x3 + 1)
def pp_H_takeBag_b2 (g : Nat → ClassId) (e0 : Nat → Nat) (mc ms : Nat) (K : mo_M → Prop) : Nat → mo_M → Nat → Nat → Nat → Nat → Nat → Int32 → Prop
  | 0, _, _, _, _, _, _, _ => False
  | n + 1, M, cu, su, x0, x1, x2, x3 => ((((16 : Int32)) ≤ x3 → mp_gi M x2 3 0 (fun v2 => ((v2 = ((1 : Int32)) → mp_gr M x1 2 1 (fun v3 => mp_gi M x2 3 1 (fun v4 => mp_gi M x2 3 2 (fun v5 => (cu ≤ mc ∧ su ≤ ms ∧ (mp_is M v3 1 ∧ pp_K_receiveCoins g e0 (fun M6 => (cu ≤ mc ∧ su ≤ ms ∧ (mp_is M6 x1 2 ∧ pp_L_addToRoads g e0 (fun M7 => (cu ≤ mc ∧ su ≤ ms ∧ K M7)) M6 x1 x2))) M v3 v4 v5)))))) ∧ (¬ (v2 = ((1 : Int32))) → (cu ≤ mc ∧ su ≤ ms ∧ K M))))) ∧ (¬ (((16 : Int32)) ≤ x3) → mp_gi M x2 3 3 (fun v8 => (cu ≤ mc ∧ su ≤ ms ∧ pp_H_hasBit g e0 (fun r10 M9 => ((r10 = 0 → pp_H_takeBag_b28 g e0 mc ms K (fun M cu su x0 x1 x2 x3 => pp_H_takeBag_b2 g e0 mc ms K n M cu su x0 x1 x2 x3) M9 cu su x0 x1 x2 x3) ∧ (¬ (r10 = 0) → mp_gr M9 x1 2 1 (fun v11 => (∃ c12 t13 : Nat, cu + c12 ≤ mc ∧ su + t13 ≤ ms ∧ (mp_is M9 x0 0 ∧ pp_H_recordAt g e0 c12 t13 (fun M14 => pp_H_takeBag_b28 g e0 mc ms K (fun M cu su x0 x1 x2 x3 => pp_H_takeBag_b2 g e0 mc ms K n M cu su x0 x1 x2 x3) M14 ((cu + c12)) ((su + t13)) x0 x1 x2 x3) M9 x0 v11 x3)))))) M v8 x3))))
def pp_H_takeBag (g : Nat → ClassId) (e0 : Nat → Nat) (mc ms : Nat) (K : mo_M → Prop) (M : mo_M) (x0 : Nat) (x1 : Nat) (x2 : Nat) : Prop := ∃ n1 : Nat, pp_H_takeBag_b2 g e0 mc ms K n1 M 0 0 x0 x1 x2 ((0 : Int32))
set_option maxHeartbeats 4000000 in
set_option maxRecDepth 100000 in
theorem cc_H_takeBag (l : Launch) (L0 : Nat) (D : va_G) {g : Nat → ClassId} {e0 : Nat → Nat} {mc ms : Nat} {K : mo_M → Prop} {M : mo_M} {x0 : Nat} {x1 : Nat} {x2 : Nat} (hP : pp_H_takeBag g e0 mc ms K M x0 x1 x2) : Met l y_H_takeBag ws_H_takeBag (mo_R 9 mc ms 235) (va_Pc [.ref x0, .ref x1, .ref x2] (fun U => mo_B L0 e0 D vwCl (mo_T g) M U)) (mo_Qv L0 e0 D vwCl (mo_T g) K) mc ms (fun q => L0 ≤ q) := by
  refine Met.ofW (cc := b_H_takeBag) (maxL := 4) (ret := (Option.none : Option Jvm.ClassFile.FieldType)) (by decide +kernel) rfl ?_
  intro p e s m args below meth c s₁ B hml hv
  obtain ⟨hv1, hB0⟩ := hv
  have hx := B.exec
  have hb := B.bytes
  have hr := B.returns
  have hts : ∀ w ∈ lw_g, w.before args s = true := fun w hw => atoms_spec (ws := ws_H_takeBag) B.pre w (List.mem_cons_of_mem _ hw)
  have hown : s.vm.findClass "PurseHouse" = some m.cls := findClass_of_methodNamed B.named
  have hlocks := B.notSynchronized
  have w_28 : ∀ (B_2 : mo_M → Nat → Nat → Nat → Nat → Nat → Int32 → Prop) (hB_2 : ∀ (M : mo_M) (cu su : Nat) (x0 : Nat) (x1 : Nat) (x2 : Nat) (x3 : Int32) (H : Heap) (locs : List Loc) (ls : Array Slot), B_2 M cu su x0 x1 x2 x3 → mo_ok L0 e0 D vwCl (mo_T g) s M H locs → lv_has ls 4 [(0, .ref x0), (1, .ref x1), (2, .ref x2), (3, .int x3)] → W p l e (headSpec ws_H_takeBag (mo_R 9 mc ms 235)).room s m args below meth c H locs cu su (mo_Z below (mo_Qv L0 e0 D vwCl (mo_T g) K) args s mc ms L0) (F0 m 2 ls [])) (M : mo_M) (cu su : Nat) (x0 : Nat) (x1 : Nat) (x2 : Nat) (x3 : Int32) (H : Heap) (locs : List Loc) (ls : Array Slot), pp_H_takeBag_b28 g e0 mc ms K B_2 M cu su x0 x1 x2 x3 → mo_ok L0 e0 D vwCl (mo_T g) s M H locs → lv_has ls 4 [(0, .ref x0), (1, .ref x1), (2, .ref x2), (3, .int x3)] → W p l e (headSpec ws_H_takeBag (mo_R 9 mc ms 235)).room s m args below meth c H locs cu su (mo_Z below (mo_Qv L0 e0 D vwCl (mo_T g) K) args s mc ms L0) (F0 m 28 ls []) := by
    intro B_2 hB_2 M cu su x0 x1 x2 x3 H locs ls hP hok hl
    unfold pp_H_takeBag_b28 at hP
    refine lv_iinc (k := 3) (v := x3 + 1) (lv' := [(3, .int (x3 + 1)), (0, .ref x0), (1, .ref x1), (2, .ref x2)]) hx hb d_H_takeBag_28 hl rfl rfl (by decide) rfl (fun ls hl => ?_)
    refine lv_goto (tgt := 2) hx hb d_H_takeBag_31 (by decide) ?_
    exact hB_2 _ _ _ _ _ _ _ _ _ _ hP hok (lv_sub hl [1, 2, 3, 0] rfl)
  have w_2 : ∀ (n : Nat) (M : mo_M) (cu su : Nat) (x0 : Nat) (x1 : Nat) (x2 : Nat) (x3 : Int32) (H : Heap) (locs : List Loc) (ls : Array Slot), pp_H_takeBag_b2 g e0 mc ms K n M cu su x0 x1 x2 x3 → mo_ok L0 e0 D vwCl (mo_T g) s M H locs → lv_has ls 4 [(0, .ref x0), (1, .ref x1), (2, .ref x2), (3, .int x3)] → W p l e (headSpec ws_H_takeBag (mo_R 9 mc ms 235)).room s m args below meth c H locs cu su (mo_Z below (mo_Qv L0 e0 D vwCl (mo_T g) K) args s mc ms L0) (F0 m 2 ls []) := by
    intro n
    induction n with
    | zero => intro M cu su x0 x1 x2 x3 H locs ls hP; exact hP.elim
    | succ n ih =>
      intro M cu su x0 x1 x2 x3 H locs ls hP hok hl
      unfold pp_H_takeBag_b2 at hP
      refine lv_iload_n hx hb d_H_takeBag_2 rfl (lv_at hl 3 rfl) ?_
      refine lv_bipush (v := 16) hx hb d_H_takeBag_3 (by decide) ?_
      refine lv_icmp_ge (tgt := 34) hx hb d_H_takeBag_5 (by decide) (fun hc => ?_) (fun hc => ?_)
      · replace hP := hP.1 hc
        refine lv_aload_n hx hb d_H_takeBag_34 rfl (lv_at hl 2 rfl) ?_
        refine mr_gi (C := "PurseHouse$Thing") (T := F_3) (N := 4) (ref := "PurseHouse$Thing") hx hb hts hown hok hP ui_3 rfl (by decide) (hts _ wd_346) (fun _ h => h) d_H_takeBag_35 (fun v2 hP => ?_)
        refine lv_iconst (v := 1) hx hb d_H_takeBag_38 (by decide) ?_
        refine lv_icmp_ne (tgt := 62) hx hb d_H_takeBag_39 (by decide) (fun hc => ?_) (fun hc => ?_)
        · replace hP := hP.2 hc
          obtain ⟨hcu, hsu, hP⟩ := hP
          refine W.widen (k := mc) (n := ms) hcu hsu ?_
          exact mo_vret hx hb hr hlocks hok hP d_H_takeBag_62
        · replace hP := hP.1 hc
          refine lv_aload_n hx hb d_H_takeBag_42 rfl (lv_at hl 1 rfl) ?_
          refine mr_gr (C := "PurseHouse$Link") (T := F_2) (N := 6) (ref := "PurseHouse$Link") hx hb hts hown hok hP ui_2 rfl (by decide) (hts _ wd_184) (fun _ h => h) d_H_takeBag_43 (fun v3 hP => ?_)
          refine lv_aload_n hx hb d_H_takeBag_46 rfl (lv_at hl 2 rfl) ?_
          refine mr_gi (C := "PurseHouse$Thing") (T := F_3) (N := 4) (ref := "PurseHouse$Thing") hx hb hts hown hok hP ui_3 rfl (by decide) (hts _ wd_349) (fun _ h => h) d_H_takeBag_47 (fun v4 hP => ?_)
          refine lv_aload_n hx hb d_H_takeBag_50 rfl (lv_at hl 2 rfl) ?_
          refine mr_gi (C := "PurseHouse$Thing") (T := F_3) (N := 4) (ref := "PurseHouse$Thing") hx hb hts hown hok hP ui_3 rfl (by decide) (hts _ wd_352) (fun _ h => h) d_H_takeBag_51 (fun v5 hP => ?_)
          obtain ⟨hcc, hss, hP⟩ := hP
          obtain ⟨⟨fs9, he9⟩, hP⟩ := hP
          refine mo_callv hok (va_runV (As := [.int v4, .int v5]) (rest := []) ⟨hx, hb, hml, hown, hts⟩ (cc_K_receiveCoins l L0 D hP) ⟨(callB_of 2 hts (lw_gi wd_416) rfl rfl rfl (hts _ wd_38) (hts _ wd_413) (by decide +kernel) ⟨Nat.le_of_ble_eq_true rfl, Nat.le_of_ble_eq_true rfl⟩), hts _ wd_414, hts _ wd_415⟩ (mo_preV hok he9 rfl [.int v4, .int v5]) rfl rfl hl.1 rfl (lv_room (Nat.le_of_ble_eq_true rfl)) d_H_takeBag_54 ⟨hcc, hss⟩) (fun M6 H locs hP hok => ?_)
          refine lv_aload_n hx hb d_H_takeBag_57 rfl (lv_at hl 1 rfl) ?_
          refine lv_aload_n hx hb d_H_takeBag_58 rfl (lv_at hl 2 rfl) ?_
          obtain ⟨hcc, hss, hP⟩ := hP
          obtain ⟨⟨fs9, he9⟩, hP⟩ := hP
          refine mo_callv hok (va_runV (As := [.ref x2]) (rest := []) ⟨hx, hb, hml, hown, hts⟩ (cc_L_addToRoads l L0 D hP) ⟨(callB_of 1 hts (lw_gi wd_420) rfl rfl rfl (hts _ wd_40) (hts _ wd_417) (by decide +kernel) ⟨Nat.le_of_ble_eq_true rfl, Nat.le_of_ble_eq_true rfl⟩), hts _ wd_418, hts _ wd_419⟩ (mo_preV hok he9 rfl [.ref x2]) rfl rfl hl.1 rfl (lv_room (Nat.le_of_ble_eq_true rfl)) d_H_takeBag_59 ⟨hcc, hss⟩) (fun M7 H locs hP hok => ?_)
          obtain ⟨hcu, hsu, hP⟩ := hP
          refine W.widen (k := mc) (n := ms) hcu hsu ?_
          exact mo_vret hx hb hr hlocks hok hP d_H_takeBag_62
      · replace hP := hP.2 hc
        refine lv_aload_n hx hb d_H_takeBag_8 rfl (lv_at hl 2 rfl) ?_
        refine mr_gi (C := "PurseHouse$Thing") (T := F_3) (N := 4) (ref := "PurseHouse$Thing") hx hb hts hown hok hP ui_3 rfl (by decide) (hts _ wd_355) (fun _ h => h) d_H_takeBag_9 (fun v8 hP => ?_)
        refine lv_iload_n hx hb d_H_takeBag_12 rfl (lv_at hl 3 rfl) ?_
        obtain ⟨hcc, hss, hP⟩ := hP
        refine mo_calli hok (va_runS (As := [.int v8, .int x3]) (rest := []) ⟨hx, hb, hml, hown, hts⟩ (cc_H_hasBit l L0 D hP) ⟨(callB_of 2 hts (lw_gi wd_398) rfl rfl rfl (hts _ wd_33) (hts _ wd_412) (by decide +kernel) ⟨Nat.le_of_ble_eq_true rfl, Nat.le_of_ble_eq_true rfl⟩), hts _ wd_397⟩ (mo_preS hok [.int v8, .int x3]) rfl rfl hl.1 rfl (lv_room (Nat.le_of_ble_eq_true rfl)) d_H_takeBag_13 ⟨hcc, hss⟩) (fun r10 M9 H locs hP hok => ?_)
        refine lv_if_eq (tgt := 28) hx hb d_H_takeBag_16 (by decide) (fun hc => ?_) (fun hc => ?_)
        · replace hP := hP.1 hc
          exact w_28 _ ih _ _ _ _ _ _ _ _ _ _ hP hok (lv_sub hl [0, 1, 2, 3] rfl)
        · replace hP := hP.2 hc
          refine lv_aload_n hx hb d_H_takeBag_19 rfl (lv_at hl 0 rfl) ?_
          refine lv_aload_n hx hb d_H_takeBag_20 rfl (lv_at hl 1 rfl) ?_
          refine mr_gr (C := "PurseHouse$Link") (T := F_2) (N := 6) (ref := "PurseHouse$Link") hx hb hts hown hok hP ui_2 rfl (by decide) (hts _ wd_184) (fun _ h => h) d_H_takeBag_21 (fun v11 hP => ?_)
          refine lv_iload_n hx hb d_H_takeBag_24 rfl (lv_at hl 3 rfl) ?_
          obtain ⟨c12, t13, hcc, hss, hP⟩ := hP
          obtain ⟨⟨fs9, he9⟩, hP⟩ := hP
          refine mo_callv hok (va_runV (As := [.ref v11, .int x3]) (rest := []) ⟨hx, hb, hml, hown, hts⟩ (cc_H_recordAt l L0 D hP) ⟨(callB_of 2 hts (lw_gi wd_391) rfl rfl rfl (hts _ wd_33) (hts _ wd_388) (by decide +kernel) ⟨Nat.le_of_ble_eq_true rfl, Nat.le_of_ble_eq_true rfl⟩), hts _ wd_390, hts _ wd_9⟩ (mo_preV hok he9 rfl [.ref v11, .int x3]) rfl rfl hl.1 rfl (lv_room (Nat.le_of_ble_eq_true rfl)) d_H_takeBag_25 ⟨hcc, hss⟩) (fun M14 H locs hP hok => ?_)
          exact w_28 _ ih _ _ _ _ _ _ _ _ _ _ hP hok (lv_sub hl [0, 1, 2, 3] rfl)
  have hok : mo_ok L0 e0 D vwCl (mo_T g) s M s.heap [] := ⟨hB0.1, hB0.2.1, hB0.2.2, va_S.rf⟩
  have hl := lv_entry ([.ref x0, .ref x1, .ref x2]) (n := 4) (Nat.le_of_ble_eq_true rfl)
  rw [hv1, lg_entry_eq]
  rw [← hv1]
  generalize (lg_sl [.ref x0, .ref x1, .ref x2] ++ List.replicate (4 - (lg_sl [.ref x0, .ref x1, .ref x2]).length) Slot.unset).toArray = ls at hl ⊢
  have hl : lv_has ls 4 [(0, .ref x0), (1, .ref x1), (2, .ref x2)] := hl
  unfold pp_H_takeBag at hP
  refine lv_iconst (v := 0) hx hb d_H_takeBag_0 (by decide) ?_
  refine lv_istore_n (lv' := [(3, .int ((0 : Int32))), (0, .ref x0), (1, .ref x1), (2, .ref x2)]) hx hb d_H_takeBag_1 rfl hl (by decide) rfl (fun ls hl => ?_)
  obtain ⟨n1, hP⟩ := hP
  exact w_2  n1 _ _ _ _ _ _ _ _ _ _ hP hok (lv_sub hl [1, 2, 3, 0] rfl)

