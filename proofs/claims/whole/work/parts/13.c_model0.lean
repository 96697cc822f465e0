abbrev b_M_init : ByteArray := prog_6_method_1_code
def y_M_init : MethodName := ⟨"PurseHouseModel", "<init>", "(I)V"⟩
def ws_M_init : List Cond := .code y_M_init b_M_init 2 (Option.none : Option Jvm.ClassFile.FieldType) :: lw_g
theorem d_M_init_0 : decode b_M_init 0 = .ok (.aload_n 0, 1) := by decide +kernel
theorem d_M_init_1 : decode b_M_init 1 = .ok (.invokespecial 1, 3) := by decide +kernel
theorem d_M_init_4 : decode b_M_init 4 = .ok (.aload_n 0, 1) := by decide +kernel
theorem d_M_init_5 : decode b_M_init 5 = .ok (.bipush 12, 2) := by decide +kernel
theorem d_M_init_7 : decode b_M_init 7 = .ok (.newarray .int, 2) := by decide +kernel
theorem d_M_init_9 : decode b_M_init 9 = .ok (.putfield 7, 3) := by decide +kernel
theorem d_M_init_12 : decode b_M_init 12 = .ok (.aload_n 0, 1) := by decide +kernel
theorem d_M_init_13 : decode b_M_init 13 = .ok (.bipush 12, 2) := by decide +kernel
theorem d_M_init_15 : decode b_M_init 15 = .ok (.newarray .int, 2) := by decide +kernel
theorem d_M_init_17 : decode b_M_init 17 = .ok (.putfield 13, 3) := by decide +kernel
theorem d_M_init_20 : decode b_M_init 20 = .ok (.aload_n 0, 1) := by decide +kernel
theorem d_M_init_21 : decode b_M_init 21 = .ok (.bipush 12, 2) := by decide +kernel
theorem d_M_init_23 : decode b_M_init 23 = .ok (.newarray .boolean, 2) := by decide +kernel
theorem d_M_init_25 : decode b_M_init 25 = .ok (.putfield 16, 3) := by decide +kernel
theorem d_M_init_28 : decode b_M_init 28 = .ok (.aload_n 0, 1) := by decide +kernel
theorem d_M_init_29 : decode b_M_init 29 = .ok (.bipush 9, 2) := by decide +kernel
theorem d_M_init_31 : decode b_M_init 31 = .ok (.newarray .int, 2) := by decide +kernel
theorem d_M_init_33 : decode b_M_init 33 = .ok (.dup, 1) := by decide +kernel
theorem d_M_init_34 : decode b_M_init 34 = .ok (.iconst 0, 1) := by decide +kernel
theorem d_M_init_35 : decode b_M_init 35 = .ok (.iconst 1, 1) := by decide +kernel
theorem d_M_init_36 : decode b_M_init 36 = .ok (.iastore, 1) := by decide +kernel
theorem d_M_init_37 : decode b_M_init 37 = .ok (.dup, 1) := by decide +kernel
theorem d_M_init_38 : decode b_M_init 38 = .ok (.iconst 1, 1) := by decide +kernel
theorem d_M_init_39 : decode b_M_init 39 = .ok (.iconst 1, 1) := by decide +kernel
theorem d_M_init_40 : decode b_M_init 40 = .ok (.iastore, 1) := by decide +kernel
theorem d_M_init_41 : decode b_M_init 41 = .ok (.dup, 1) := by decide +kernel
theorem d_M_init_42 : decode b_M_init 42 = .ok (.iconst 2, 1) := by decide +kernel
theorem d_M_init_43 : decode b_M_init 43 = .ok (.iconst 1, 1) := by decide +kernel
theorem d_M_init_44 : decode b_M_init 44 = .ok (.iastore, 1) := by decide +kernel
theorem d_M_init_45 : decode b_M_init 45 = .ok (.dup, 1) := by decide +kernel
theorem d_M_init_46 : decode b_M_init 46 = .ok (.iconst 3, 1) := by decide +kernel
theorem d_M_init_47 : decode b_M_init 47 = .ok (.iconst 1, 1) := by decide +kernel
theorem d_M_init_48 : decode b_M_init 48 = .ok (.iastore, 1) := by decide +kernel
theorem d_M_init_49 : decode b_M_init 49 = .ok (.dup, 1) := by decide +kernel
theorem d_M_init_50 : decode b_M_init 50 = .ok (.iconst 4, 1) := by decide +kernel
theorem d_M_init_51 : decode b_M_init 51 = .ok (.iconst 1, 1) := by decide +kernel
theorem d_M_init_52 : decode b_M_init 52 = .ok (.iastore, 1) := by decide +kernel
theorem d_M_init_53 : decode b_M_init 53 = .ok (.dup, 1) := by decide +kernel
theorem d_M_init_54 : decode b_M_init 54 = .ok (.iconst 5, 1) := by decide +kernel
theorem d_M_init_55 : decode b_M_init 55 = .ok (.iconst 1, 1) := by decide +kernel
theorem d_M_init_56 : decode b_M_init 56 = .ok (.iastore, 1) := by decide +kernel
theorem d_M_init_57 : decode b_M_init 57 = .ok (.dup, 1) := by decide +kernel
theorem d_M_init_58 : decode b_M_init 58 = .ok (.bipush 6, 2) := by decide +kernel
theorem d_M_init_60 : decode b_M_init 60 = .ok (.iconst 1, 1) := by decide +kernel
theorem d_M_init_61 : decode b_M_init 61 = .ok (.iastore, 1) := by decide +kernel
theorem d_M_init_62 : decode b_M_init 62 = .ok (.dup, 1) := by decide +kernel
theorem d_M_init_63 : decode b_M_init 63 = .ok (.bipush 7, 2) := by decide +kernel
theorem d_M_init_65 : decode b_M_init 65 = .ok (.iconst 1, 1) := by decide +kernel
theorem d_M_init_66 : decode b_M_init 66 = .ok (.iastore, 1) := by decide +kernel
theorem d_M_init_67 : decode b_M_init 67 = .ok (.dup, 1) := by decide +kernel
theorem d_M_init_68 : decode b_M_init 68 = .ok (.bipush 8, 2) := by decide +kernel
theorem d_M_init_70 : decode b_M_init 70 = .ok (.iconst 1, 1) := by decide +kernel
theorem d_M_init_71 : decode b_M_init 71 = .ok (.iastore, 1) := by decide +kernel
theorem d_M_init_72 : decode b_M_init 72 = .ok (.putfield 20, 3) := by decide +kernel
theorem d_M_init_75 : decode b_M_init 75 = .ok (.aload_n 0, 1) := by decide +kernel
theorem d_M_init_76 : decode b_M_init 76 = .ok (.bipush 9, 2) := by decide +kernel
theorem d_M_init_78 : decode b_M_init 78 = .ok (.newarray .int, 2) := by decide +kernel
theorem d_M_init_80 : decode b_M_init 80 = .ok (.dup, 1) := by decide +kernel
theorem d_M_init_81 : decode b_M_init 81 = .ok (.iconst 0, 1) := by decide +kernel
theorem d_M_init_82 : decode b_M_init 82 = .ok (.iconst 1, 1) := by decide +kernel
theorem d_M_init_83 : decode b_M_init 83 = .ok (.iastore, 1) := by decide +kernel
theorem d_M_init_84 : decode b_M_init 84 = .ok (.dup, 1) := by decide +kernel
theorem d_M_init_85 : decode b_M_init 85 = .ok (.iconst 1, 1) := by decide +kernel
theorem d_M_init_86 : decode b_M_init 86 = .ok (.iconst 1, 1) := by decide +kernel
theorem d_M_init_87 : decode b_M_init 87 = .ok (.iastore, 1) := by decide +kernel
theorem d_M_init_88 : decode b_M_init 88 = .ok (.dup, 1) := by decide +kernel
theorem d_M_init_89 : decode b_M_init 89 = .ok (.iconst 2, 1) := by decide +kernel
theorem d_M_init_90 : decode b_M_init 90 = .ok (.iconst 1, 1) := by decide +kernel
theorem d_M_init_91 : decode b_M_init 91 = .ok (.iastore, 1) := by decide +kernel
theorem d_M_init_92 : decode b_M_init 92 = .ok (.dup, 1) := by decide +kernel
theorem d_M_init_93 : decode b_M_init 93 = .ok (.iconst 3, 1) := by decide +kernel
theorem d_M_init_94 : decode b_M_init 94 = .ok (.iconst 1, 1) := by decide +kernel
theorem d_M_init_95 : decode b_M_init 95 = .ok (.iastore, 1) := by decide +kernel
theorem d_M_init_96 : decode b_M_init 96 = .ok (.dup, 1) := by decide +kernel
theorem d_M_init_97 : decode b_M_init 97 = .ok (.iconst 4, 1) := by decide +kernel
theorem d_M_init_98 : decode b_M_init 98 = .ok (.iconst 1, 1) := by decide +kernel
theorem d_M_init_99 : decode b_M_init 99 = .ok (.iastore, 1) := by decide +kernel
theorem d_M_init_100 : decode b_M_init 100 = .ok (.dup, 1) := by decide +kernel
theorem d_M_init_101 : decode b_M_init 101 = .ok (.iconst 5, 1) := by decide +kernel
theorem d_M_init_102 : decode b_M_init 102 = .ok (.iconst 1, 1) := by decide +kernel
theorem d_M_init_103 : decode b_M_init 103 = .ok (.iastore, 1) := by decide +kernel
theorem d_M_init_104 : decode b_M_init 104 = .ok (.dup, 1) := by decide +kernel
theorem d_M_init_105 : decode b_M_init 105 = .ok (.bipush 6, 2) := by decide +kernel
theorem d_M_init_107 : decode b_M_init 107 = .ok (.iconst 1, 1) := by decide +kernel
theorem d_M_init_108 : decode b_M_init 108 = .ok (.iastore, 1) := by decide +kernel
theorem d_M_init_109 : decode b_M_init 109 = .ok (.dup, 1) := by decide +kernel
theorem d_M_init_110 : decode b_M_init 110 = .ok (.bipush 7, 2) := by decide +kernel
theorem d_M_init_112 : decode b_M_init 112 = .ok (.iconst 1, 1) := by decide +kernel
theorem d_M_init_113 : decode b_M_init 113 = .ok (.iastore, 1) := by decide +kernel
theorem d_M_init_114 : decode b_M_init 114 = .ok (.dup, 1) := by decide +kernel
theorem d_M_init_115 : decode b_M_init 115 = .ok (.bipush 8, 2) := by decide +kernel
theorem d_M_init_117 : decode b_M_init 117 = .ok (.iconst 1, 1) := by decide +kernel
theorem d_M_init_118 : decode b_M_init 118 = .ok (.iastore, 1) := by decide +kernel
theorem d_M_init_119 : decode b_M_init 119 = .ok (.putfield 23, 3) := by decide +kernel
theorem d_M_init_122 : decode b_M_init 122 = .ok (.aload_n 0, 1) := by decide +kernel
theorem d_M_init_123 : decode b_M_init 123 = .ok (.sipush 1100, 3) := by decide +kernel
theorem d_M_init_126 : decode b_M_init 126 = .ok (.newarray .int, 2) := by decide +kernel
theorem d_M_init_128 : decode b_M_init 128 = .ok (.putfield 26, 3) := by decide +kernel
theorem d_M_init_131 : decode b_M_init 131 = .ok (.aload_n 0, 1) := by decide +kernel
theorem d_M_init_132 : decode b_M_init 132 = .ok (.sipush 1100, 3) := by decide +kernel
theorem d_M_init_135 : decode b_M_init 135 = .ok (.newarray .int, 2) := by decide +kernel
theorem d_M_init_137 : decode b_M_init 137 = .ok (.putfield 29, 3) := by decide +kernel
theorem d_M_init_140 : decode b_M_init 140 = .ok (.aload_n 0, 1) := by decide +kernel
theorem d_M_init_141 : decode b_M_init 141 = .ok (.sipush 1100, 3) := by decide +kernel
theorem d_M_init_144 : decode b_M_init 144 = .ok (.newarray .int, 2) := by decide +kernel
theorem d_M_init_146 : decode b_M_init 146 = .ok (.putfield 32, 3) := by decide +kernel
theorem d_M_init_149 : decode b_M_init 149 = .ok (.aload_n 0, 1) := by decide +kernel
theorem d_M_init_150 : decode b_M_init 150 = .ok (.sipush 1100, 3) := by decide +kernel
theorem d_M_init_153 : decode b_M_init 153 = .ok (.newarray .int, 2) := by decide +kernel
theorem d_M_init_155 : decode b_M_init 155 = .ok (.putfield 35, 3) := by decide +kernel
theorem d_M_init_158 : decode b_M_init 158 = .ok (.aload_n 0, 1) := by decide +kernel
theorem d_M_init_159 : decode b_M_init 159 = .ok (.sipush 1100, 3) := by decide +kernel
theorem d_M_init_162 : decode b_M_init 162 = .ok (.newarray .long, 2) := by decide +kernel
theorem d_M_init_164 : decode b_M_init 164 = .ok (.putfield 38, 3) := by decide +kernel
theorem d_M_init_167 : decode b_M_init 167 = .ok (.aload_n 0, 1) := by decide +kernel
theorem d_M_init_168 : decode b_M_init 168 = .ok (.sipush 1100, 3) := by decide +kernel
theorem d_M_init_171 : decode b_M_init 171 = .ok (.newarray .long, 2) := by decide +kernel
theorem d_M_init_173 : decode b_M_init 173 = .ok (.putfield 42, 3) := by decide +kernel
theorem d_M_init_176 : decode b_M_init 176 = .ok (.aload_n 0, 1) := by decide +kernel
theorem d_M_init_177 : decode b_M_init 177 = .ok (.sipush 1100, 3) := by decide +kernel
theorem d_M_init_180 : decode b_M_init 180 = .ok (.newarray .long, 2) := by decide +kernel
theorem d_M_init_182 : decode b_M_init 182 = .ok (.putfield 45, 3) := by decide +kernel
theorem d_M_init_185 : decode b_M_init 185 = .ok (.aload_n 0, 1) := by decide +kernel
theorem d_M_init_186 : decode b_M_init 186 = .ok (.sipush 800, 3) := by decide +kernel
theorem d_M_init_189 : decode b_M_init 189 = .ok (.newarray .int, 2) := by decide +kernel
theorem d_M_init_191 : decode b_M_init 191 = .ok (.putfield 48, 3) := by decide +kernel
theorem d_M_init_194 : decode b_M_init 194 = .ok (.aload_n 0, 1) := by decide +kernel
theorem d_M_init_195 : decode b_M_init 195 = .ok (.sipush 800, 3) := by decide +kernel
theorem d_M_init_198 : decode b_M_init 198 = .ok (.newarray .int, 2) := by decide +kernel
theorem d_M_init_200 : decode b_M_init 200 = .ok (.putfield 51, 3) := by decide +kernel
theorem d_M_init_203 : decode b_M_init 203 = .ok (.aload_n 0, 1) := by decide +kernel
theorem d_M_init_204 : decode b_M_init 204 = .ok (.sipush 800, 3) := by decide +kernel
theorem d_M_init_207 : decode b_M_init 207 = .ok (.newarray .int, 2) := by decide +kernel
theorem d_M_init_209 : decode b_M_init 209 = .ok (.putfield 54, 3) := by decide +kernel
theorem d_M_init_212 : decode b_M_init 212 = .ok (.aload_n 0, 1) := by decide +kernel
theorem d_M_init_213 : decode b_M_init 213 = .ok (.sipush 800, 3) := by decide +kernel
theorem d_M_init_216 : decode b_M_init 216 = .ok (.newarray .int, 2) := by decide +kernel
theorem d_M_init_218 : decode b_M_init 218 = .ok (.putfield 57, 3) := by decide +kernel
theorem d_M_init_221 : decode b_M_init 221 = .ok (.aload_n 0, 1) := by decide +kernel
theorem d_M_init_222 : decode b_M_init 222 = .ok (.sipush 800, 3) := by decide +kernel
theorem d_M_init_225 : decode b_M_init 225 = .ok (.newarray .int, 2) := by decide +kernel
theorem d_M_init_227 : decode b_M_init 227 = .ok (.putfield 60, 3) := by decide +kernel
theorem d_M_init_230 : decode b_M_init 230 = .ok (.aload_n 0, 1) := by decide +kernel
theorem d_M_init_231 : decode b_M_init 231 = .ok (.sipush 800, 3) := by decide +kernel
theorem d_M_init_234 : decode b_M_init 234 = .ok (.newarray .int, 2) := by decide +kernel
theorem d_M_init_236 : decode b_M_init 236 = .ok (.putfield 63, 3) := by decide +kernel
theorem d_M_init_239 : decode b_M_init 239 = .ok (.aload_n 0, 1) := by decide +kernel
theorem d_M_init_240 : decode b_M_init 240 = .ok (.sipush 800, 3) := by decide +kernel
theorem d_M_init_243 : decode b_M_init 243 = .ok (.newarray .int, 2) := by decide +kernel
theorem d_M_init_245 : decode b_M_init 245 = .ok (.putfield 66, 3) := by decide +kernel
theorem d_M_init_248 : decode b_M_init 248 = .ok (.aload_n 0, 1) := by decide +kernel
theorem d_M_init_249 : decode b_M_init 249 = .ok (.bipush 96, 2) := by decide +kernel
theorem d_M_init_251 : decode b_M_init 251 = .ok (.newarray .int, 2) := by decide +kernel
theorem d_M_init_253 : decode b_M_init 253 = .ok (.putfield 69, 3) := by decide +kernel
theorem d_M_init_256 : decode b_M_init 256 = .ok (.aload_n 0, 1) := by decide +kernel
theorem d_M_init_257 : decode b_M_init 257 = .ok (.iload_n 1, 1) := by decide +kernel
theorem d_M_init_258 : decode b_M_init 258 = .ok (.iconst 1, 1) := by decide +kernel
theorem d_M_init_259 : decode b_M_init 259 = .ok (.if_icmp .ge 7, 3) := by decide +kernel
theorem d_M_init_262 : decode b_M_init 262 = .ok (.iconst 1, 1) := by decide +kernel
theorem d_M_init_263 : decode b_M_init 263 = .ok (.goto 15, 3) := by decide +kernel
theorem d_M_init_266 : decode b_M_init 266 = .ok (.iload_n 1, 1) := by decide +kernel
theorem d_M_init_267 : decode b_M_init 267 = .ok (.bipush 6, 2) := by decide +kernel
theorem d_M_init_269 : decode b_M_init 269 = .ok (.if_icmp .le 8, 3) := by decide +kernel
theorem d_M_init_272 : decode b_M_init 272 = .ok (.bipush 6, 2) := by decide +kernel
theorem d_M_init_274 : decode b_M_init 274 = .ok (.goto 4, 3) := by decide +kernel
theorem d_M_init_277 : decode b_M_init 277 = .ok (.iload_n 1, 1) := by decide +kernel
theorem d_M_init_278 : decode b_M_init 278 = .ok (.putfield 72, 3) := by decide +kernel
theorem d_M_init_281 : decode b_M_init 281 = .ok (.return_, 1) := by decide +kernel
def pp_M_init (g : Nat → ClassId) (e0 : Nat → Nat) (mc ms : Nat) (K : mo_M → Prop) (M : mo_M) (x0 : Nat) (x1 : Int32) : Prop := (0 + 1 ≤ mc ∧ 0 + ((12 : Int32)).toNatClampNeg ≤ ms ∧ mp_na (g 0) M ((12 : Int32)) (.inl (fun _ => 0)) (fun q1 M2 => mp_pt M2 x0 4 4 (.ref q1) (fun M3 => (((0 + 1)) + 1 ≤ mc ∧ ((0 + ((12 : Int32)).toNatClampNeg)) + ((12 : Int32)).toNatClampNeg ≤ ms ∧ mp_na (g 0) M3 ((12 : Int32)) (.inl (fun _ => 0)) (fun q4 M5 => mp_pt M5 x0 4 5 (.ref q4) (fun M6 => ((((0 + 1) + 1)) + 1 ≤ mc ∧ (((0 + ((12 : Int32)).toNatClampNeg) + ((12 : Int32)).toNatClampNeg)) + ((12 : Int32)).toNatClampNeg ≤ ms ∧ mp_na (g 2) M6 ((12 : Int32)) (.inl (fun _ => 0)) (fun q7 M8 => mp_pt M8 x0 4 6 (.ref q7) (fun M9 => (((((0 + 1) + 1) + 1)) + 1 ≤ mc ∧ ((((0 + ((12 : Int32)).toNatClampNeg) + ((12 : Int32)).toNatClampNeg) + ((12 : Int32)).toNatClampNeg)) + ((9 : Int32)).toNatClampNeg ≤ ms ∧ mp_na (g 0) M9 ((9 : Int32)) (.inl (fun _ => 0)) (fun q10 M11 => mp_si (g 0) M11 q10 ((0 : Int32)) ((1 : Int32)) (fun M12 => mp_si (g 0) M12 q10 ((1 : Int32)) ((1 : Int32)) (fun M13 => mp_si (g 0) M13 q10 ((2 : Int32)) ((1 : Int32)) (fun M14 => mp_si (g 0) M14 q10 ((3 : Int32)) ((1 : Int32)) (fun M15 => mp_si (g 0) M15 q10 ((4 : Int32)) ((1 : Int32)) (fun M16 => mp_si (g 0) M16 q10 ((5 : Int32)) ((1 : Int32)) (fun M17 => mp_si (g 0) M17 q10 ((6 : Int32)) ((1 : Int32)) (fun M18 => mp_si (g 0) M18 q10 ((7 : Int32)) ((1 : Int32)) (fun M19 => mp_si (g 0) M19 q10 ((8 : Int32)) ((1 : Int32)) (fun M20 => mp_pt M20 x0 4 7 (.ref q10) (fun M21 => ((((((0 + 1) + 1) + 1) + 1)) + 1 ≤ mc ∧ (((((0 + ((12 : Int32)).toNatClampNeg) + ((12 : Int32)).toNatClampNeg) + ((12 : Int32)).toNatClampNeg) + ((9 : Int32)).toNatClampNeg)) + ((9 : Int32)).toNatClampNeg ≤ ms ∧ mp_na (g 0) M21 ((9 : Int32)) (.inl (fun _ => 0)) (fun q22 M23 => mp_si (g 0) M23 q22 ((0 : Int32)) ((1 : Int32)) (fun M24 => mp_si (g 0) M24 q22 ((1 : Int32)) ((1 : Int32)) (fun M25 => mp_si (g 0) M25 q22 ((2 : Int32)) ((1 : Int32)) (fun M26 => mp_si (g 0) M26 q22 ((3 : Int32)) ((1 : Int32)) (fun M27 => mp_si (g 0) M27 q22 ((4 : Int32)) ((1 : Int32)) (fun M28 => mp_si (g 0) M28 q22 ((5 : Int32)) ((1 : Int32)) (fun M29 => mp_si (g 0) M29 q22 ((6 : Int32)) ((1 : Int32)) (fun M30 => mp_si (g 0) M30 q22 ((7 : Int32)) ((1 : Int32)) (fun M31 => mp_si (g 0) M31 q22 ((8 : Int32)) ((1 : Int32)) (fun M32 => mp_pt M32 x0 4 8 (.ref q22) (fun M33 => (((((((0 + 1) + 1) + 1) + 1) + 1)) + 1 ≤ mc ∧ ((((((0 + ((12 : Int32)).toNatClampNeg) + ((12 : Int32)).toNatClampNeg) + ((12 : Int32)).toNatClampNeg) + ((9 : Int32)).toNatClampNeg) + ((9 : Int32)).toNatClampNeg)) + ((1100 : Int32)).toNatClampNeg ≤ ms ∧ mp_na (g 0) M33 ((1100 : Int32)) (.inl (fun _ => 0)) (fun q34 M35 => mp_pt M35 x0 4 10 (.ref q34) (fun M36 => ((((((((0 + 1) + 1) + 1) + 1) + 1) + 1)) + 1 ≤ mc ∧ (((((((0 + ((12 : Int32)).toNatClampNeg) + ((12 : Int32)).toNatClampNeg) + ((12 : Int32)).toNatClampNeg) + ((9 : Int32)).toNatClampNeg) + ((9 : Int32)).toNatClampNeg) + ((1100 : Int32)).toNatClampNeg)) + ((1100 : Int32)).toNatClampNeg ≤ ms ∧ mp_na (g 0) M36 ((1100 : Int32)) (.inl (fun _ => 0)) (fun q37 M38 => mp_pt M38 x0 4 11 (.ref q37) (fun M39 => (((((((((0 + 1) + 1) + 1) + 1) + 1) + 1) + 1)) + 1 ≤ mc ∧ ((((((((0 + ((12 : Int32)).toNatClampNeg) + ((12 : Int32)).toNatClampNeg) + ((12 : Int32)).toNatClampNeg) + ((9 : Int32)).toNatClampNeg) + ((9 : Int32)).toNatClampNeg) + ((1100 : Int32)).toNatClampNeg) + ((1100 : Int32)).toNatClampNeg)) + ((1100 : Int32)).toNatClampNeg ≤ ms ∧ mp_na (g 0) M39 ((1100 : Int32)) (.inl (fun _ => 0)) (fun q40 M41 => mp_pt M41 x0 4 12 (.ref q40) (fun M42 => ((((((((((0 + 1) + 1) + 1) + 1) + 1) + 1) + 1) + 1)) + 1 ≤ mc ∧ (((((((((0 + ((12 : Int32)).toNatClampNeg) + ((12 : Int32)).toNatClampNeg) + ((12 : Int32)).toNatClampNeg) + ((9 : Int32)).toNatClampNeg) + ((9 : Int32)).toNatClampNeg) + ((1100 : Int32)).toNatClampNeg) + ((1100 : Int32)).toNatClampNeg) + ((1100 : Int32)).toNatClampNeg)) + ((1100 : Int32)).toNatClampNeg ≤ ms ∧ mp_na (g 0) M42 ((1100 : Int32)) (.inl (fun _ => 0)) (fun q43 M44 => mp_pt M44 x0 4 13 (.ref q43) (fun M45 => (((((((((((0 + 1) + 1) + 1) + 1) + 1) + 1) + 1) + 1) + 1)) + 1 ≤ mc ∧ ((((((((((0 + ((12 : Int32)).toNatClampNeg) + ((12 : Int32)).toNatClampNeg) + ((12 : Int32)).toNatClampNeg) + ((9 : Int32)).toNatClampNeg) + ((9 : Int32)).toNatClampNeg) + ((1100 : Int32)).toNatClampNeg) + ((1100 : Int32)).toNatClampNeg) + ((1100 : Int32)).toNatClampNeg) + ((1100 : Int32)).toNatClampNeg)) + ((1100 : Int32)).toNatClampNeg ≤ ms ∧ mp_na (g 1) M45 ((1100 : Int32)) (.inr (.inl (fun _ => 0))) (fun q46 M47 => mp_pt M47 x0 4 14 (.ref q46) (fun M48 => ((((((((((((0 + 1) + 1) + 1) + 1) + 1) + 1) + 1) + 1) + 1) + 1)) + 1 ≤ mc ∧ (((((((((((0 + ((12 : Int32)).toNatClampNeg) + ((12 : Int32)).toNatClampNeg) + ((12 : Int32)).toNatClampNeg) + ((9 : Int32)).toNatClampNeg) + ((9 : Int32)).toNatClampNeg) + ((1100 : Int32)).toNatClampNeg) + ((1100 : Int32)).toNatClampNeg) + ((1100 : Int32)).toNatClampNeg) + ((1100 : Int32)).toNatClampNeg) + ((1100 : Int32)).toNatClampNeg)) + ((1100 : Int32)).toNatClampNeg ≤ ms ∧ mp_na (g 1) M48 ((1100 : Int32)) (.inr (.inl (fun _ => 0))) (fun q49 M50 => mp_pt M50 x0 4 15 (.ref q49) (fun M51 => (((((((((((((0 + 1) + 1) + 1) + 1) + 1) + 1) + 1) + 1) + 1) + 1) + 1)) + 1 ≤ mc ∧ ((((((((((((0 + ((12 : Int32)).toNatClampNeg) + ((12 : Int32)).toNatClampNeg) + ((12 : Int32)).toNatClampNeg) + ((9 : Int32)).toNatClampNeg) + ((9 : Int32)).toNatClampNeg) + ((1100 : Int32)).toNatClampNeg) + ((1100 : Int32)).toNatClampNeg) + ((1100 : Int32)).toNatClampNeg) + ((1100 : Int32)).toNatClampNeg) + ((1100 : Int32)).toNatClampNeg) + ((1100 : Int32)).toNatClampNeg)) + ((1100 : Int32)).toNatClampNeg ≤ ms ∧ mp_na (g 1) M51 ((1100 : Int32)) (.inr (.inl (fun _ => 0))) (fun q52 M53 => mp_pt M53 x0 4 16 (.ref q52) (fun M54 => ((((((((((((((0 + 1) + 1) + 1) + 1) + 1) + 1) + 1) + 1) + 1) + 1) + 1) + 1)) + 1 ≤ mc ∧ (((((((((((((0 + ((12 : Int32)).toNatClampNeg) + ((12 : Int32)).toNatClampNeg) + ((12 : Int32)).toNatClampNeg) + ((9 : Int32)).toNatClampNeg) + ((9 : Int32)).toNatClampNeg) + ((1100 : Int32)).toNatClampNeg) + ((1100 : Int32)).toNatClampNeg) + ((1100 : Int32)).toNatClampNeg) + ((1100 : Int32)).toNatClampNeg) + ((1100 : Int32)).toNatClampNeg) + ((1100 : Int32)).toNatClampNeg) + ((1100 : Int32)).toNatClampNeg)) + ((800 : Int32)).toNatClampNeg ≤ ms ∧ mp_na (g 0) M54 ((800 : Int32)) (.inl (fun _ => 0)) (fun q55 M56 => mp_pt M56 x0 4 18 (.ref q55) (fun M57 => (((((((((((((((0 + 1) + 1) + 1) + 1) + 1) + 1) + 1) + 1) + 1) + 1) + 1) + 1) + 1)) + 1 ≤ mc ∧ ((((((((((((((0 + ((12 : Int32)).toNatClampNeg) + ((12 : Int32)).toNatClampNeg) + ((12 : Int32)).toNatClampNeg) + ((9 : Int32)).toNatClampNeg) + ((9 : Int32)).toNatClampNeg) + ((1100 : Int32)).toNatClampNeg) + ((1100 : Int32)).toNatClampNeg) + ((1100 : Int32)).toNatClampNeg) + ((1100 : Int32)).toNatClampNeg) + ((1100 : Int32)).toNatClampNeg) + ((1100 : Int32)).toNatClampNeg) + ((1100 : Int32)).toNatClampNeg) + ((800 : Int32)).toNatClampNeg)) + ((800 : Int32)).toNatClampNeg ≤ ms ∧ mp_na (g 0) M57 ((800 : Int32)) (.inl (fun _ => 0)) (fun q58 M59 => mp_pt M59 x0 4 19 (.ref q58) (fun M60 => ((((((((((((((((0 + 1) + 1) + 1) + 1) + 1) + 1) + 1) + 1) + 1) + 1) + 1) + 1) + 1) + 1)) + 1 ≤ mc ∧ (((((((((((((((0 + ((12 : Int32)).toNatClampNeg) + ((12 : Int32)).toNatClampNeg) + ((12 : Int32)).toNatClampNeg) + ((9 : Int32)).toNatClampNeg) + ((9 : Int32)).toNatClampNeg) + ((1100 : Int32)).toNatClampNeg) + ((1100 : Int32)).toNatClampNeg) + ((1100 : Int32)).toNatClampNeg) + ((1100 : Int32)).toNatClampNeg) + ((1100 : Int32)).toNatClampNeg) + ((1100 : Int32)).toNatClampNeg) + ((1100 : Int32)).toNatClampNeg) + ((800 : Int32)).toNatClampNeg) + ((800 : Int32)).toNatClampNeg)) + ((800 : Int32)).toNatClampNeg ≤ ms ∧ mp_na (g 0) M60 ((800 : Int32)) (.inl (fun _ => 0)) (fun q61 M62 => mp_pt M62 x0 4 20 (.ref q61) (fun M63 => (((((((((((((((((0 + 1) + 1) + 1) + 1) + 1) + 1) + 1) + 1) + 1) + 1) + 1) + 1) + 1) + 1) + 1)) + 1 ≤ mc ∧ ((((((((((((((((0 + ((12 : Int32)).toNatClampNeg) + ((12 : Int32)).toNatClampNeg) + ((12 : Int32)).toNatClampNeg) + ((9 : Int32)).toNatClampNeg) + ((9 : Int32)).toNatClampNeg) + ((1100 : Int32)).toNatClampNeg) + ((1100 : Int32)).toNatClampNeg) + ((1100 : Int32)).toNatClampNeg) + ((1100 : Int32)).toNatClampNeg) + ((1100 : Int32)).toNatClampNeg) + ((1100 : Int32)).toNatClampNeg) + ((1100 : Int32)).toNatClampNeg) + ((800 : Int32)).toNatClampNeg) + ((800 : Int32)).toNatClampNeg) + ((800 : Int32)).toNatClampNeg)) + ((800 : Int32)).toNatClampNeg ≤ ms ∧ mp_na (g 0) M63 ((800 : Int32)) (.inl (fun _ => 0)) (fun q64 M65 => mp_pt M65 x0 4 21 (.ref q64) (fun M66 => ((((((((((((((((((0 + 1) + 1) + 1) + 1) + 1) + 1) + 1) + 1) + 1) + 1) + 1) + 1) + 1) + 1) + 1) + 1)) + 1 ≤ mc ∧ (((((((((((((((((0 + ((12 : Int32)).toNatClampNeg) + ((12 : Int32)).toNatClampNeg) + ((12 : Int32)).toNatClampNeg) + ((9 : Int32)).toNatClampNeg) + ((9 : Int32)).toNatClampNeg) + ((1100 : Int32)).toNatClampNeg) + ((1100 : Int32)).toNatClampNeg) + ((1100 : Int32)).toNatClampNeg) + ((1100 : Int32)).toNatClampNeg) + ((1100 : Int32)).toNatClampNeg) + ((1100 : Int32)).toNatClampNeg) + ((1100 : Int32)).toNatClampNeg) + ((800 : Int32)).toNatClampNeg) + ((800 : Int32)).toNatClampNeg) + ((800 : Int32)).toNatClampNeg) + ((800 : Int32)).toNatClampNeg)) + ((800 : Int32)).toNatClampNeg ≤ ms ∧ mp_na (g 0) M66 ((800 : Int32)) (.inl (fun _ => 0)) (fun q67 M68 => mp_pt M68 x0 4 22 (.ref q67) (fun M69 => (((((((((((((((((((0 + 1) + 1) + 1) + 1) + 1) + 1) + 1) + 1) + 1) + 1) + 1) + 1) + 1) + 1) + 1) + 1) + 1)) + 1 ≤ mc ∧ ((((((((((((((((((0 + ((12 : Int32)).toNatClampNeg) + ((12 : Int32)).toNatClampNeg) + ((12 : Int32)).toNatClampNeg) + ((9 : Int32)).toNatClampNeg) + ((9 : Int32)).toNatClampNeg) + ((1100 : Int32)).toNatClampNeg) + ((1100 : Int32)).toNatClampNeg) + ((1100 : Int32)).toNatClampNeg) + ((1100 : Int32)).toNatClampNeg) + ((1100 : Int32)).toNatClampNeg) + ((1100 : Int32)).toNatClampNeg) + ((1100 : Int32)).toNatClampNeg) + ((800 : Int32)).toNatClampNeg) + ((800 : Int32)).toNatClampNeg) + ((800 : Int32)).toNatClampNeg) + ((800 : Int32)).toNatClampNeg) + ((800 : Int32)).toNatClampNeg)) + ((800 : Int32)).toNatClampNeg ≤ ms ∧ mp_na (g 0) M69 ((800 : Int32)) (.inl (fun _ => 0)) (fun q70 M71 => mp_pt M71 x0 4 23 (.ref q70) (fun M72 => ((((((((((((((((((((0 + 1) + 1) + 1) + 1) + 1) + 1) + 1) + 1) + 1) + 1) + 1) + 1) + 1) + 1) + 1) + 1) + 1) + 1)) + 1 ≤ mc ∧ (((((((((((((((((((0 + ((12 : Int32)).toNatClampNeg) + ((12 : Int32)).toNatClampNeg) + ((12 : Int32)).toNatClampNeg) + ((9 : Int32)).toNatClampNeg) + ((9 : Int32)).toNatClampNeg) + ((1100 : Int32)).toNatClampNeg) + ((1100 : Int32)).toNatClampNeg) + ((1100 : Int32)).toNatClampNeg) + ((1100 : Int32)).toNatClampNeg) + ((1100 : Int32)).toNatClampNeg) + ((1100 : Int32)).toNatClampNeg) + ((1100 : Int32)).toNatClampNeg) + ((800 : Int32)).toNatClampNeg) + ((800 : Int32)).toNatClampNeg) + ((800 : Int32)).toNatClampNeg) + ((800 : Int32)).toNatClampNeg) + ((800 : Int32)).toNatClampNeg) + ((800 : Int32)).toNatClampNeg)) + ((800 : Int32)).toNatClampNeg ≤ ms ∧ mp_na (g 0) M72 ((800 : Int32)) (.inl (fun _ => 0)) (fun q73 M74 => mp_pt M74 x0 4 24 (.ref q73) (fun M75 => (((((((((((((((((((((0 + 1) + 1) + 1) + 1) + 1) + 1) + 1) + 1) + 1) + 1) + 1) + 1) + 1) + 1) + 1) + 1) + 1) + 1) + 1)) + 1 ≤ mc ∧ ((((((((((((((((((((0 + ((12 : Int32)).toNatClampNeg) + ((12 : Int32)).toNatClampNeg) + ((12 : Int32)).toNatClampNeg) + ((9 : Int32)).toNatClampNeg) + ((9 : Int32)).toNatClampNeg) + ((1100 : Int32)).toNatClampNeg) + ((1100 : Int32)).toNatClampNeg) + ((1100 : Int32)).toNatClampNeg) + ((1100 : Int32)).toNatClampNeg) + ((1100 : Int32)).toNatClampNeg) + ((1100 : Int32)).toNatClampNeg) + ((1100 : Int32)).toNatClampNeg) + ((800 : Int32)).toNatClampNeg) + ((800 : Int32)).toNatClampNeg) + ((800 : Int32)).toNatClampNeg) + ((800 : Int32)).toNatClampNeg) + ((800 : Int32)).toNatClampNeg) + ((800 : Int32)).toNatClampNeg) + ((800 : Int32)).toNatClampNeg)) + ((96 : Int32)).toNatClampNeg ≤ ms ∧ mp_na (g 0) M75 ((96 : Int32)) (.inl (fun _ => 0)) (fun q76 M77 => mp_pt M77 x0 4 26 (.ref q76) (fun M78 => ((((1 : Int32)) ≤ x1 → ((x1 ≤ ((6 : Int32)) → mp_pt M78 x0 4 1 (.int x1) (fun M79 => ((((((((((((((((((((((0 + 1) + 1) + 1) + 1) + 1) + 1) + 1) + 1) + 1) + 1) + 1) + 1) + 1) + 1) + 1) + 1) + 1) + 1) + 1) + 1)) ≤ mc ∧ (((((((((((((((((((((0 + ((12 : Int32)).toNatClampNeg) + ((12 : Int32)).toNatClampNeg) + ((12 : Int32)).toNatClampNeg) + ((9 : Int32)).toNatClampNeg) + ((9 : Int32)).toNatClampNeg) + ((1100 : Int32)).toNatClampNeg) + ((1100 : Int32)).toNatClampNeg) + ((1100 : Int32)).toNatClampNeg) + ((1100 : Int32)).toNatClampNeg) + ((1100 : Int32)).toNatClampNeg) + ((1100 : Int32)).toNatClampNeg) + ((1100 : Int32)).toNatClampNeg) + ((800 : Int32)).toNatClampNeg) + ((800 : Int32)).toNatClampNeg) + ((800 : Int32)).toNatClampNeg) + ((800 : Int32)).toNatClampNeg) + ((800 : Int32)).toNatClampNeg) + ((800 : Int32)).toNatClampNeg) + ((800 : Int32)).toNatClampNeg) + ((96 : Int32)).toNatClampNeg)) ≤ ms ∧ K M79))) ∧ (¬ (x1 ≤ ((6 : Int32))) → mp_pt M78 x0 4 1 (.int ((6 : Int32))) (fun M80 => ((((((((((((((((((((((0 + 1) + 1) + 1) + 1) + 1) + 1) + 1) + 1) + 1) + 1) + 1) + 1) + 1) + 1) + 1) + 1) + 1) + 1) + 1) + 1)) ≤ mc ∧ (((((((((((((((((((((0 + ((12 : Int32)).toNatClampNeg) + ((12 : Int32)).toNatClampNeg) + ((12 : Int32)).toNatClampNeg) + ((9 : Int32)).toNatClampNeg) + ((9 : Int32)).toNatClampNeg) + ((1100 : Int32)).toNatClampNeg) + ((1100 : Int32)).toNatClampNeg) + ((1100 : Int32)).toNatClampNeg) + ((1100 : Int32)).toNatClampNeg) + ((1100 : Int32)).toNatClampNeg) + ((1100 : Int32)).toNatClampNeg) + ((1100 : Int32)).toNatClampNeg) + ((800 : Int32)).toNatClampNeg) + ((800 : Int32)).toNatClampNeg) + ((800 : Int32)).toNatClampNeg) + ((800 : Int32)).toNatClampNeg) + ((800 : Int32)).toNatClampNeg) + ((800 : Int32)).toNatClampNeg) + ((800 : Int32)).toNatClampNeg) + ((96 : Int32)).toNatClampNeg)) ≤ ms ∧ K M80))))) ∧ (¬ (((1 : Int32)) ≤ x1) → mp_pt M78 x0 4 1 (.int ((1 : Int32))) (fun M81 => ((((((((((((((((((((((0 + 1) + 1) + 1) + 1) + 1) + 1) + 1) + 1) + 1) + 1) + 1) + 1) + 1) + 1) + 1) + 1) + 1) + 1) + 1) + 1)) ≤ mc ∧ (((((((((((((((((((((0 + ((12 : Int32)).toNatClampNeg) + ((12 : Int32)).toNatClampNeg) + ((12 : Int32)).toNatClampNeg) + ((9 : Int32)).toNatClampNeg) + ((9 : Int32)).toNatClampNeg) + ((1100 : Int32)).toNatClampNeg) + ((1100 : Int32)).toNatClampNeg) + ((1100 : Int32)).toNatClampNeg) + ((1100 : Int32)).toNatClampNeg) + ((1100 : Int32)).toNatClampNeg) + ((1100 : Int32)).toNatClampNeg) + ((1100 : Int32)).toNatClampNeg) + ((800 : Int32)).toNatClampNeg) + ((800 : Int32)).toNatClampNeg) + ((800 : Int32)).toNatClampNeg) + ((800 : Int32)).toNatClampNeg) + ((800 : Int32)).toNatClampNeg) + ((800 : Int32)).toNatClampNeg) + ((800 : Int32)).toNatClampNeg) + ((96 : Int32)).toNatClampNeg)) ≤ ms ∧ K M81))))))))))))))))))))))))))))))))))))))))))))))))))))))))))))))))))))))))))))))))))
set_option maxHeartbeats 4000000 in
set_option maxRecDepth 100000 in
theorem cc_M_init (l : Launch) (L0 : Nat) (D : va_G) {g : Nat → ClassId} {e0 : Nat → Nat} {mc ms : Nat} {K : mo_M → Prop} {M : mo_M} {x0 : Nat} {x1 : Int32} (hP : pp_M_init g e0 mc ms K M x0 x1) : Met l y_M_init ws_M_init (mo_R 1 mc ms 12) (va_Pc [.ref x0, .int x1] (fun U => mo_B L0 e0 D vwCl (mo_T g) M U)) (mo_Qv L0 e0 D vwCl (mo_T g) K) mc ms (fun q => L0 ≤ q) := by
  refine Met.ofW (cc := b_M_init) (maxL := 2) (ret := (Option.none : Option Jvm.ClassFile.FieldType)) (by decide +kernel) rfl ?_
  intro p e s m args below meth c s₁ B hml hv
  obtain ⟨hv1, hB0⟩ := hv
  have hx := B.exec
  have hb := B.bytes
  have hr := B.returns
  have hts : ∀ w ∈ lw_g, w.before args s = true := fun w hw => atoms_spec (ws := ws_M_init) B.pre w (List.mem_cons_of_mem _ hw)
  have hown : s.vm.findClass "PurseHouseModel" = some m.cls := findClass_of_methodNamed B.named
  have hlocks := B.notSynchronized
  have hin : meth.name = "<init>" := (name_of_methodNamed B.named B.method).1
  have hok : mo_ok L0 e0 D vwCl (mo_T g) s M s.heap [] := ⟨hB0.1, hB0.2.1, hB0.2.2, va_S.rf⟩
  have hl := lv_entry ([.ref x0, .int x1]) (n := 2) (Nat.le_of_ble_eq_true rfl)
  rw [hv1, lg_entry_eq]
  rw [← hv1]
  generalize (lg_sl [.ref x0, .int x1] ++ List.replicate (2 - (lg_sl [.ref x0, .int x1]).length) Slot.unset).toArray = ls at hl ⊢
  have hl : lv_has ls 2 [(0, .ref x0), (1, .int x1)] := hl
  unfold pp_M_init at hP
  refine lv_aload_n hx hb d_M_init_0 rfl (lv_at hl 0 rfl) ?_
  refine W.objInit hx hb hown (hts _ wd_609) (hts _ wd_58) (hts _ wd_59) rfl (by rw [hml]; exact hl.1) rfl d_M_init_1 (Nat.le_of_ble_eq_true rfl) (Nat.le_of_ble_eq_true rfl) ?_
  refine W.eq (g2 := F0 m 4 ls []) rfl ?_
  refine lv_aload_n hx hb d_M_init_4 rfl (lv_at hl 0 rfl) ?_
  refine lv_bipush (v := 12) hx hb d_M_init_5 (by decide) ?_
  obtain ⟨hcc, hss, hP⟩ := hP
  refine mr_na (atype := .int) (ty := .int) hx hb hok hP (hts _ wd_139) rfl 0 rfl (fun h => h) (fun _ => rfl) (by decide) hcc hss d_M_init_7 (fun q1 M2 H hP hok => ?_)
  refine mr_ptF (C := "PurseHouseModel") (T := F_4) (N := 27) (ref := "PurseHouseModel") (ty := (.array .int)) hx hb hts hown hok hP ui_4 ty_4 th_4 tn_4 rfl (by decide) (hts _ wd_614) (fun _ h => h) rfl hin rfl (by decide +kernel) rfl rfl d_M_init_9 (fun M3 H locs hP hok => ?_)
  refine lv_aload_n hx hb d_M_init_12 rfl (lv_at hl 0 rfl) ?_
  refine lv_bipush (v := 12) hx hb d_M_init_13 (by decide) ?_
  obtain ⟨hcc, hss, hP⟩ := hP
  refine mr_na (atype := .int) (ty := .int) hx hb hok hP (hts _ wd_139) rfl 0 rfl (fun h => h) (fun _ => rfl) (by decide) hcc hss d_M_init_15 (fun q4 M5 H hP hok => ?_)
  refine mr_ptF (C := "PurseHouseModel") (T := F_4) (N := 27) (ref := "PurseHouseModel") (ty := (.array .int)) hx hb hts hown hok hP ui_4 ty_4 th_4 tn_4 rfl (by decide) (hts _ wd_615) (fun _ h => h) rfl hin rfl (by decide +kernel) rfl rfl d_M_init_17 (fun M6 H locs hP hok => ?_)
  refine lv_aload_n hx hb d_M_init_20 rfl (lv_at hl 0 rfl) ?_
  refine lv_bipush (v := 12) hx hb d_M_init_21 (by decide) ?_
  obtain ⟨hcc, hss, hP⟩ := hP
  refine mr_na (atype := .boolean) (ty := .boolean) hx hb hok hP (hts _ wd_692) rfl 2 rfl (fun h => h) (fun _ => rfl) (by decide) hcc hss d_M_init_23 (fun q7 M8 H hP hok => ?_)
  refine mr_ptF (C := "PurseHouseModel") (T := F_4) (N := 27) (ref := "PurseHouseModel") (ty := (.array .boolean)) hx hb hts hown hok hP ui_4 ty_4 th_4 tn_4 rfl (by decide) (hts _ wd_616) (fun _ h => h) rfl hin rfl (by decide +kernel) rfl rfl d_M_init_25 (fun M9 H locs hP hok => ?_)
  refine lv_aload_n hx hb d_M_init_28 rfl (lv_at hl 0 rfl) ?_
  refine lv_bipush (v := 9) hx hb d_M_init_29 (by decide) ?_
  obtain ⟨hcc, hss, hP⟩ := hP
  refine mr_na (atype := .int) (ty := .int) hx hb hok hP (hts _ wd_139) rfl 0 rfl (fun h => h) (fun _ => rfl) (by decide) hcc hss d_M_init_31 (fun q10 M11 H hP hok => ?_)
  refine lv_dup hx hb d_M_init_33 rfl ?_
  refine lv_iconst (v := 0) hx hb d_M_init_34 (by decide) ?_
  refine lv_iconst (v := 1) hx hb d_M_init_35 (by decide) ?_
  refine mr_si hx hb hok hP 0 rfl d_M_init_36 (fun M12 H locs hP hok => ?_)
  refine lv_dup hx hb d_M_init_37 rfl ?_
  refine lv_iconst (v := 1) hx hb d_M_init_38 (by decide) ?_
  refine lv_iconst (v := 1) hx hb d_M_init_39 (by decide) ?_
  refine mr_si hx hb hok hP 0 rfl d_M_init_40 (fun M13 H locs hP hok => ?_)
  refine lv_dup hx hb d_M_init_41 rfl ?_
  refine lv_iconst (v := 2) hx hb d_M_init_42 (by decide) ?_
  refine lv_iconst (v := 1) hx hb d_M_init_43 (by decide) ?_
  refine mr_si hx hb hok hP 0 rfl d_M_init_44 (fun M14 H locs hP hok => ?_)
  refine lv_dup hx hb d_M_init_45 rfl ?_
  refine lv_iconst (v := 3) hx hb d_M_init_46 (by decide) ?_
  refine lv_iconst (v := 1) hx hb d_M_init_47 (by decide) ?_
  refine mr_si hx hb hok hP 0 rfl d_M_init_48 (fun M15 H locs hP hok => ?_)
  refine lv_dup hx hb d_M_init_49 rfl ?_
  refine lv_iconst (v := 4) hx hb d_M_init_50 (by decide) ?_
  refine lv_iconst (v := 1) hx hb d_M_init_51 (by decide) ?_
  refine mr_si hx hb hok hP 0 rfl d_M_init_52 (fun M16 H locs hP hok => ?_)
  refine lv_dup hx hb d_M_init_53 rfl ?_
  refine lv_iconst (v := 5) hx hb d_M_init_54 (by decide) ?_
  refine lv_iconst (v := 1) hx hb d_M_init_55 (by decide) ?_
  refine mr_si hx hb hok hP 0 rfl d_M_init_56 (fun M17 H locs hP hok => ?_)
  refine lv_dup hx hb d_M_init_57 rfl ?_
  refine lv_bipush (v := 6) hx hb d_M_init_58 (by decide) ?_
  refine lv_iconst (v := 1) hx hb d_M_init_60 (by decide) ?_
  refine mr_si hx hb hok hP 0 rfl d_M_init_61 (fun M18 H locs hP hok => ?_)
  refine lv_dup hx hb d_M_init_62 rfl ?_
  refine lv_bipush (v := 7) hx hb d_M_init_63 (by decide) ?_
  refine lv_iconst (v := 1) hx hb d_M_init_65 (by decide) ?_
  refine mr_si hx hb hok hP 0 rfl d_M_init_66 (fun M19 H locs hP hok => ?_)
  refine lv_dup hx hb d_M_init_67 rfl ?_
  refine lv_bipush (v := 8) hx hb d_M_init_68 (by decide) ?_
  refine lv_iconst (v := 1) hx hb d_M_init_70 (by decide) ?_
  refine mr_si hx hb hok hP 0 rfl d_M_init_71 (fun M20 H locs hP hok => ?_)
  refine mr_ptF (C := "PurseHouseModel") (T := F_4) (N := 27) (ref := "PurseHouseModel") (ty := (.array .int)) hx hb hts hown hok hP ui_4 ty_4 th_4 tn_4 rfl (by decide) (hts _ wd_617) (fun _ h => h) rfl hin rfl (by decide +kernel) rfl rfl d_M_init_72 (fun M21 H locs hP hok => ?_)
  refine lv_aload_n hx hb d_M_init_75 rfl (lv_at hl 0 rfl) ?_
  refine lv_bipush (v := 9) hx hb d_M_init_76 (by decide) ?_
  obtain ⟨hcc, hss, hP⟩ := hP
  refine mr_na (atype := .int) (ty := .int) hx hb hok hP (hts _ wd_139) rfl 0 rfl (fun h => h) (fun _ => rfl) (by decide) hcc hss d_M_init_78 (fun q22 M23 H hP hok => ?_)
  refine lv_dup hx hb d_M_init_80 rfl ?_
  refine lv_iconst (v := 0) hx hb d_M_init_81 (by decide) ?_
  refine lv_iconst (v := 1) hx hb d_M_init_82 (by decide) ?_
  refine mr_si hx hb hok hP 0 rfl d_M_init_83 (fun M24 H locs hP hok => ?_)
  refine lv_dup hx hb d_M_init_84 rfl ?_
  refine lv_iconst (v := 1) hx hb d_M_init_85 (by decide) ?_
  refine lv_iconst (v := 1) hx hb d_M_init_86 (by decide) ?_
  refine mr_si hx hb hok hP 0 rfl d_M_init_87 (fun M25 H locs hP hok => ?_)
  refine lv_dup hx hb d_M_init_88 rfl ?_
  refine lv_iconst (v := 2) hx hb d_M_init_89 (by decide) ?_
  refine lv_iconst (v := 1) hx hb d_M_init_90 (by decide) ?_
  refine mr_si hx hb hok hP 0 rfl d_M_init_91 (fun M26 H locs hP hok => ?_)
  refine lv_dup hx hb d_M_init_92 rfl ?_
  refine lv_iconst (v := 3) hx hb d_M_init_93 (by decide) ?_
  refine lv_iconst (v := 1) hx hb d_M_init_94 (by decide) ?_
  refine mr_si hx hb hok hP 0 rfl d_M_init_95 (fun M27 H locs hP hok => ?_)
  refine lv_dup hx hb d_M_init_96 rfl ?_
  refine lv_iconst (v := 4) hx hb d_M_init_97 (by decide) ?_
  refine lv_iconst (v := 1) hx hb d_M_init_98 (by decide) ?_
  refine mr_si hx hb hok hP 0 rfl d_M_init_99 (fun M28 H locs hP hok => ?_)
  refine lv_dup hx hb d_M_init_100 rfl ?_
  refine lv_iconst (v := 5) hx hb d_M_init_101 (by decide) ?_
  refine lv_iconst (v := 1) hx hb d_M_init_102 (by decide) ?_
  refine mr_si hx hb hok hP 0 rfl d_M_init_103 (fun M29 H locs hP hok => ?_)
  refine lv_dup hx hb d_M_init_104 rfl ?_
  refine lv_bipush (v := 6) hx hb d_M_init_105 (by decide) ?_
  refine lv_iconst (v := 1) hx hb d_M_init_107 (by decide) ?_
  refine mr_si hx hb hok hP 0 rfl d_M_init_108 (fun M30 H locs hP hok => ?_)
  refine lv_dup hx hb d_M_init_109 rfl ?_
  refine lv_bipush (v := 7) hx hb d_M_init_110 (by decide) ?_
  refine lv_iconst (v := 1) hx hb d_M_init_112 (by decide) ?_
  refine mr_si hx hb hok hP 0 rfl d_M_init_113 (fun M31 H locs hP hok => ?_)
  refine lv_dup hx hb d_M_init_114 rfl ?_
  refine lv_bipush (v := 8) hx hb d_M_init_115 (by decide) ?_
  refine lv_iconst (v := 1) hx hb d_M_init_117 (by decide) ?_
  refine mr_si hx hb hok hP 0 rfl d_M_init_118 (fun M32 H locs hP hok => ?_)
  refine mr_ptF (C := "PurseHouseModel") (T := F_4) (N := 27) (ref := "PurseHouseModel") (ty := (.array .int)) hx hb hts hown hok hP ui_4 ty_4 th_4 tn_4 rfl (by decide) (hts _ wd_618) (fun _ h => h) rfl hin rfl (by decide +kernel) rfl rfl d_M_init_119 (fun M33 H locs hP hok => ?_)
  refine lv_aload_n hx hb d_M_init_122 rfl (lv_at hl 0 rfl) ?_
  refine lv_sipush (v := 1100) hx hb d_M_init_123 (by decide) ?_
  obtain ⟨hcc, hss, hP⟩ := hP
  refine mr_na (atype := .int) (ty := .int) hx hb hok hP (hts _ wd_139) rfl 0 rfl (fun h => h) (fun _ => rfl) (by decide) hcc hss d_M_init_126 (fun q34 M35 H hP hok => ?_)
  refine mr_ptF (C := "PurseHouseModel") (T := F_4) (N := 27) (ref := "PurseHouseModel") (ty := (.array .int)) hx hb hts hown hok hP ui_4 ty_4 th_4 tn_4 rfl (by decide) (hts _ wd_620) (fun _ h => h) rfl hin rfl (by decide +kernel) rfl rfl d_M_init_128 (fun M36 H locs hP hok => ?_)
  refine lv_aload_n hx hb d_M_init_131 rfl (lv_at hl 0 rfl) ?_
  refine lv_sipush (v := 1100) hx hb d_M_init_132 (by decide) ?_
  obtain ⟨hcc, hss, hP⟩ := hP
  refine mr_na (atype := .int) (ty := .int) hx hb hok hP (hts _ wd_139) rfl 0 rfl (fun h => h) (fun _ => rfl) (by decide) hcc hss d_M_init_135 (fun q37 M38 H hP hok => ?_)
  refine mr_ptF (C := "PurseHouseModel") (T := F_4) (N := 27) (ref := "PurseHouseModel") (ty := (.array .int)) hx hb hts hown hok hP ui_4 ty_4 th_4 tn_4 rfl (by decide) (hts _ wd_621) (fun _ h => h) rfl hin rfl (by decide +kernel) rfl rfl d_M_init_137 (fun M39 H locs hP hok => ?_)
  refine lv_aload_n hx hb d_M_init_140 rfl (lv_at hl 0 rfl) ?_
  refine lv_sipush (v := 1100) hx hb d_M_init_141 (by decide) ?_
  obtain ⟨hcc, hss, hP⟩ := hP
  refine mr_na (atype := .int) (ty := .int) hx hb hok hP (hts _ wd_139) rfl 0 rfl (fun h => h) (fun _ => rfl) (by decide) hcc hss d_M_init_144 (fun q40 M41 H hP hok => ?_)
  refine mr_ptF (C := "PurseHouseModel") (T := F_4) (N := 27) (ref := "PurseHouseModel") (ty := (.array .int)) hx hb hts hown hok hP ui_4 ty_4 th_4 tn_4 rfl (by decide) (hts _ wd_622) (fun _ h => h) rfl hin rfl (by decide +kernel) rfl rfl d_M_init_146 (fun M42 H locs hP hok => ?_)
  refine lv_aload_n hx hb d_M_init_149 rfl (lv_at hl 0 rfl) ?_
  refine lv_sipush (v := 1100) hx hb d_M_init_150 (by decide) ?_
  obtain ⟨hcc, hss, hP⟩ := hP
  refine mr_na (atype := .int) (ty := .int) hx hb hok hP (hts _ wd_139) rfl 0 rfl (fun h => h) (fun _ => rfl) (by decide) hcc hss d_M_init_153 (fun q43 M44 H hP hok => ?_)
  refine mr_ptF (C := "PurseHouseModel") (T := F_4) (N := 27) (ref := "PurseHouseModel") (ty := (.array .int)) hx hb hts hown hok hP ui_4 ty_4 th_4 tn_4 rfl (by decide) (hts _ wd_623) (fun _ h => h) rfl hin rfl (by decide +kernel) rfl rfl d_M_init_155 (fun M45 H locs hP hok => ?_)
  refine lv_aload_n hx hb d_M_init_158 rfl (lv_at hl 0 rfl) ?_
  refine lv_sipush (v := 1100) hx hb d_M_init_159 (by decide) ?_
  obtain ⟨hcc, hss, hP⟩ := hP
  refine mr_na (atype := .long) (ty := .long) hx hb hok hP (hts _ wd_140) rfl 1 rfl (fun h => h) (fun _ => rfl) (by decide) hcc hss d_M_init_162 (fun q46 M47 H hP hok => ?_)
  refine mr_ptF (C := "PurseHouseModel") (T := F_4) (N := 27) (ref := "PurseHouseModel") (ty := (.array .long)) hx hb hts hown hok hP ui_4 ty_4 th_4 tn_4 rfl (by decide) (hts _ wd_624) (fun _ h => h) rfl hin rfl (by decide +kernel) rfl rfl d_M_init_164 (fun M48 H locs hP hok => ?_)
  refine lv_aload_n hx hb d_M_init_167 rfl (lv_at hl 0 rfl) ?_
  refine lv_sipush (v := 1100) hx hb d_M_init_168 (by decide) ?_
  obtain ⟨hcc, hss, hP⟩ := hP
  refine mr_na (atype := .long) (ty := .long) hx hb hok hP (hts _ wd_140) rfl 1 rfl (fun h => h) (fun _ => rfl) (by decide) hcc hss d_M_init_171 (fun q49 M50 H hP hok => ?_)
  refine mr_ptF (C := "PurseHouseModel") (T := F_4) (N := 27) (ref := "PurseHouseModel") (ty := (.array .long)) hx hb hts hown hok hP ui_4 ty_4 th_4 tn_4 rfl (by decide) (hts _ wd_625) (fun _ h => h) rfl hin rfl (by decide +kernel) rfl rfl d_M_init_173 (fun M51 H locs hP hok => ?_)
  refine lv_aload_n hx hb d_M_init_176 rfl (lv_at hl 0 rfl) ?_
  refine lv_sipush (v := 1100) hx hb d_M_init_177 (by decide) ?_
  obtain ⟨hcc, hss, hP⟩ := hP
  refine mr_na (atype := .long) (ty := .long) hx hb hok hP (hts _ wd_140) rfl 1 rfl (fun h => h) (fun _ => rfl) (by decide) hcc hss d_M_init_180 (fun q52 M53 H hP hok => ?_)
  refine mr_ptF (C := "PurseHouseModel") (T := F_4) (N := 27) (ref := "PurseHouseModel") (ty := (.array .long)) hx hb hts hown hok hP ui_4 ty_4 th_4 tn_4 rfl (by decide) (hts _ wd_626) (fun _ h => h) rfl hin rfl (by decide +kernel) rfl rfl d_M_init_182 (fun M54 H locs hP hok => ?_)
  refine lv_aload_n hx hb d_M_init_185 rfl (lv_at hl 0 rfl) ?_
  refine lv_sipush (v := 800) hx hb d_M_init_186 (by decide) ?_
  obtain ⟨hcc, hss, hP⟩ := hP
  refine mr_na (atype := .int) (ty := .int) hx hb hok hP (hts _ wd_139) rfl 0 rfl (fun h => h) (fun _ => rfl) (by decide) hcc hss d_M_init_189 (fun q55 M56 H hP hok => ?_)
  refine mr_ptF (C := "PurseHouseModel") (T := F_4) (N := 27) (ref := "PurseHouseModel") (ty := (.array .int)) hx hb hts hown hok hP ui_4 ty_4 th_4 tn_4 rfl (by decide) (hts _ wd_628) (fun _ h => h) rfl hin rfl (by decide +kernel) rfl rfl d_M_init_191 (fun M57 H locs hP hok => ?_)
  refine lv_aload_n hx hb d_M_init_194 rfl (lv_at hl 0 rfl) ?_
  refine lv_sipush (v := 800) hx hb d_M_init_195 (by decide) ?_
  obtain ⟨hcc, hss, hP⟩ := hP
  refine mr_na (atype := .int) (ty := .int) hx hb hok hP (hts _ wd_139) rfl 0 rfl (fun h => h) (fun _ => rfl) (by decide) hcc hss d_M_init_198 (fun q58 M59 H hP hok => ?_)
  refine mr_ptF (C := "PurseHouseModel") (T := F_4) (N := 27) (ref := "PurseHouseModel") (ty := (.array .int)) hx hb hts hown hok hP ui_4 ty_4 th_4 tn_4 rfl (by decide) (hts _ wd_629) (fun _ h => h) rfl hin rfl (by decide +kernel) rfl rfl d_M_init_200 (fun M60 H locs hP hok => ?_)
  refine lv_aload_n hx hb d_M_init_203 rfl (lv_at hl 0 rfl) ?_
  refine lv_sipush (v := 800) hx hb d_M_init_204 (by decide) ?_
  obtain ⟨hcc, hss, hP⟩ := hP
  refine mr_na (atype := .int) (ty := .int) hx hb hok hP (hts _ wd_139) rfl 0 rfl (fun h => h) (fun _ => rfl) (by decide) hcc hss d_M_init_207 (fun q61 M62 H hP hok => ?_)
  refine mr_ptF (C := "PurseHouseModel") (T := F_4) (N := 27) (ref := "PurseHouseModel") (ty := (.array .int)) hx hb hts hown hok hP ui_4 ty_4 th_4 tn_4 rfl (by decide) (hts _ wd_630) (fun _ h => h) rfl hin rfl (by decide +kernel) rfl rfl d_M_init_209 (fun M63 H locs hP hok => ?_)
  refine lv_aload_n hx hb d_M_init_212 rfl (lv_at hl 0 rfl) ?_
  refine lv_sipush (v := 800) hx hb d_M_init_213 (by decide) ?_
  obtain ⟨hcc, hss, hP⟩ := hP
  refine mr_na (atype := .int) (ty := .int) hx hb hok hP (hts _ wd_139) rfl 0 rfl (fun h => h) (fun _ => rfl) (by decide) hcc hss d_M_init_216 (fun q64 M65 H hP hok => ?_)
  refine mr_ptF (C := "PurseHouseModel") (T := F_4) (N := 27) (ref := "PurseHouseModel") (ty := (.array .int)) hx hb hts hown hok hP ui_4 ty_4 th_4 tn_4 rfl (by decide) (hts _ wd_631) (fun _ h => h) rfl hin rfl (by decide +kernel) rfl rfl d_M_init_218 (fun M66 H locs hP hok => ?_)
  refine lv_aload_n hx hb d_M_init_221 rfl (lv_at hl 0 rfl) ?_
  refine lv_sipush (v := 800) hx hb d_M_init_222 (by decide) ?_
  obtain ⟨hcc, hss, hP⟩ := hP
  refine mr_na (atype := .int) (ty := .int) hx hb hok hP (hts _ wd_139) rfl 0 rfl (fun h => h) (fun _ => rfl) (by decide) hcc hss d_M_init_225 (fun q67 M68 H hP hok => ?_)
  refine mr_ptF (C := "PurseHouseModel") (T := F_4) (N := 27) (ref := "PurseHouseModel") (ty := (.array .int)) hx hb hts hown hok hP ui_4 ty_4 th_4 tn_4 rfl (by decide) (hts _ wd_632) (fun _ h => h) rfl hin rfl (by decide +kernel) rfl rfl d_M_init_227 (fun M69 H locs hP hok => ?_)
  refine lv_aload_n hx hb d_M_init_230 rfl (lv_at hl 0 rfl) ?_
  refine lv_sipush (v := 800) hx hb d_M_init_231 (by decide) ?_
  obtain ⟨hcc, hss, hP⟩ := hP
  refine mr_na (atype := .int) (ty := .int) hx hb hok hP (hts _ wd_139) rfl 0 rfl (fun h => h) (fun _ => rfl) (by decide) hcc hss d_M_init_234 (fun q70 M71 H hP hok => ?_)
  refine mr_ptF (C := "PurseHouseModel") (T := F_4) (N := 27) (ref := "PurseHouseModel") (ty := (.array .int)) hx hb hts hown hok hP ui_4 ty_4 th_4 tn_4 rfl (by decide) (hts _ wd_633) (fun _ h => h) rfl hin rfl (by decide +kernel) rfl rfl d_M_init_236 (fun M72 H locs hP hok => ?_)
  refine lv_aload_n hx hb d_M_init_239 rfl (lv_at hl 0 rfl) ?_
  refine lv_sipush (v := 800) hx hb d_M_init_240 (by decide) ?_
  obtain ⟨hcc, hss, hP⟩ := hP
  refine mr_na (atype := .int) (ty := .int) hx hb hok hP (hts _ wd_139) rfl 0 rfl (fun h => h) (fun _ => rfl) (by decide) hcc hss d_M_init_243 (fun q73 M74 H hP hok => ?_)
  refine mr_ptF (C := "PurseHouseModel") (T := F_4) (N := 27) (ref := "PurseHouseModel") (ty := (.array .int)) hx hb hts hown hok hP ui_4 ty_4 th_4 tn_4 rfl (by decide) (hts _ wd_634) (fun _ h => h) rfl hin rfl (by decide +kernel) rfl rfl d_M_init_245 (fun M75 H locs hP hok => ?_)
  refine lv_aload_n hx hb d_M_init_248 rfl (lv_at hl 0 rfl) ?_
  refine lv_bipush (v := 96) hx hb d_M_init_249 (by decide) ?_
  obtain ⟨hcc, hss, hP⟩ := hP
  refine mr_na (atype := .int) (ty := .int) hx hb hok hP (hts _ wd_139) rfl 0 rfl (fun h => h) (fun _ => rfl) (by decide) hcc hss d_M_init_251 (fun q76 M77 H hP hok => ?_)
  refine mr_ptF (C := "PurseHouseModel") (T := F_4) (N := 27) (ref := "PurseHouseModel") (ty := (.array .int)) hx hb hts hown hok hP ui_4 ty_4 th_4 tn_4 rfl (by decide) (hts _ wd_636) (fun _ h => h) rfl hin rfl (by decide +kernel) rfl rfl d_M_init_253 (fun M78 H locs hP hok => ?_)
  refine lv_aload_n hx hb d_M_init_256 rfl (lv_at hl 0 rfl) ?_
  refine lv_iload_n hx hb d_M_init_257 rfl (lv_at hl 1 rfl) ?_
  refine lv_iconst (v := 1) hx hb d_M_init_258 (by decide) ?_
  refine lv_icmp_ge (tgt := 266) hx hb d_M_init_259 (by decide) (fun hc => ?_) (fun hc => ?_)
  · replace hP := hP.1 hc
    refine lv_iload_n hx hb d_M_init_266 rfl (lv_at hl 1 rfl) ?_
    refine lv_bipush (v := 6) hx hb d_M_init_267 (by decide) ?_
    refine lv_icmp_le (tgt := 277) hx hb d_M_init_269 (by decide) (fun hc => ?_) (fun hc => ?_)
    · replace hP := hP.1 hc
      refine lv_iload_n hx hb d_M_init_277 rfl (lv_at hl 1 rfl) ?_
      refine mr_ptF (C := "PurseHouseModel") (T := F_4) (N := 27) (ref := "PurseHouseModel") (ty := .int) hx hb hts hown hok hP ui_4 ty_4 th_4 tn_4 rfl (by decide) (hts _ wd_611) (fun _ h => h) rfl hin rfl (by decide +kernel) rfl rfl d_M_init_278 (fun M79 H locs hP hok => ?_)
      obtain ⟨hcu, hsu, hP⟩ := hP
      refine W.widen (k := mc) (n := ms) hcu hsu ?_
      exact mo_vret hx hb hr hlocks hok hP d_M_init_281
    · replace hP := hP.2 hc
      refine lv_bipush (v := 6) hx hb d_M_init_272 (by decide) ?_
      refine lv_goto (tgt := 278) hx hb d_M_init_274 (by decide) ?_
      refine mr_ptF (C := "PurseHouseModel") (T := F_4) (N := 27) (ref := "PurseHouseModel") (ty := .int) hx hb hts hown hok hP ui_4 ty_4 th_4 tn_4 rfl (by decide) (hts _ wd_611) (fun _ h => h) rfl hin rfl (by decide +kernel) rfl rfl d_M_init_278 (fun M80 H locs hP hok => ?_)
      obtain ⟨hcu, hsu, hP⟩ := hP
      refine W.widen (k := mc) (n := ms) hcu hsu ?_
      exact mo_vret hx hb hr hlocks hok hP d_M_init_281
  · replace hP := hP.2 hc
    refine lv_iconst (v := 1) hx hb d_M_init_262 (by decide) ?_
    refine lv_goto (tgt := 278) hx hb d_M_init_263 (by decide) ?_
    refine mr_ptF (C := "PurseHouseModel") (T := F_4) (N := 27) (ref := "PurseHouseModel") (ty := .int) hx hb hts hown hok hP ui_4 ty_4 th_4 tn_4 rfl (by decide) (hts _ wd_611) (fun _ h => h) rfl hin rfl (by decide +kernel) rfl rfl d_M_init_278 (fun M81 H locs hP hok => ?_)
    obtain ⟨hcu, hsu, hP⟩ := hP
    refine W.widen (k := mc) (n := ms) hcu hsu ?_
    exact mo_vret hx hb hr hlocks hok hP d_M_init_281

