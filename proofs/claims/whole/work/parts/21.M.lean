theorem dM_send_0 : decode kM_send 0 = .ok (.aload_n 0, 1) := by decide +kernel
theorem dM_send_1 : decode kM_send 1 = .ok (.iload_n 1, 1) := by decide +kernel
theorem dM_send_2 : decode kM_send 2 = .ok (.invokevirtual 155, 3) := by decide +kernel
theorem dM_send_5 : decode kM_send 5 = .ok (.ifCond .ne 13, 3) := by decide +kernel
theorem dM_send_8 : decode kM_send 8 = .ok (.iload_n 2, 1) := by decide +kernel
theorem dM_send_9 : decode kM_send 9 = .ok (.ifCond .lt 9, 3) := by decide +kernel
theorem dM_send_12 : decode kM_send 12 = .ok (.iload_n 2, 1) := by decide +kernel
theorem dM_send_13 : decode kM_send 13 = .ok (.ldc 159, 2) := by decide +kernel
theorem dM_send_15 : decode kM_send 15 = .ok (.if_icmp .le 5, 3) := by decide +kernel
theorem dM_send_18 : decode kM_send 18 = .ok (.iconst (-1), 1) := by decide +kernel
theorem dM_send_19 : decode kM_send 19 = .ok (.ireturn, 1) := by decide +kernel
theorem dM_send_20 : decode kM_send 20 = .ok (.aload_n 0, 1) := by decide +kernel
theorem dM_send_21 : decode kM_send 21 = .ok (.getfield 152, 3) := by decide +kernel
theorem dM_send_24 : decode kM_send 24 = .ok (.bipush 15, 2) := by decide +kernel
theorem dM_send_26 : decode kM_send 26 = .ok (.idiv, 1) := by decide +kernel
theorem dM_send_27 : decode kM_send 27 = .ok (.iconst 1, 1) := by decide +kernel
theorem dM_send_28 : decode kM_send 28 = .ok (.iadd, 1) := by decide +kernel
theorem dM_send_29 : decode kM_send 29 = .ok (.istore_n 3, 1) := by decide +kernel
theorem dM_send_30 : decode kM_send 30 = .ok (.aload_n 0, 1) := by decide +kernel
theorem dM_send_31 : decode kM_send 31 = .ok (.getfield 28, 3) := by decide +kernel
theorem dM_send_34 : decode kM_send 34 = .ok (.iload_n 1, 1) := by decide +kernel
theorem dM_send_35 : decode kM_send 35 = .ok (.iaload, 1) := by decide +kernel
theorem dM_send_36 : decode kM_send 36 = .ok (.iload_n 3, 1) := by decide +kernel
theorem dM_send_37 : decode kM_send 37 = .ok (.iadd, 1) := by decide +kernel
theorem dM_send_38 : decode kM_send 38 = .ok (.istore 4, 2) := by decide +kernel
theorem dM_send_40 : decode kM_send 40 = .ok (.iconst 0, 1) := by decide +kernel
theorem dM_send_41 : decode kM_send 41 = .ok (.istore 5, 2) := by decide +kernel
theorem dM_send_43 : decode kM_send 43 = .ok (.iload 5, 2) := by decide +kernel
theorem dM_send_45 : decode kM_send 45 = .ok (.iload_n 3, 1) := by decide +kernel
theorem dM_send_46 : decode kM_send 46 = .ok (.if_icmp .ge 136, 3) := by decide +kernel
theorem dM_send_49 : decode kM_send 49 = .ok (.bipush 16, 2) := by decide +kernel
theorem dM_send_51 : decode kM_send 51 = .ok (.iload_n 1, 1) := by decide +kernel
theorem dM_send_52 : decode kM_send 52 = .ok (.imul, 1) := by decide +kernel
theorem dM_send_53 : decode kM_send 53 = .ok (.aload_n 0, 1) := by decide +kernel
theorem dM_send_54 : decode kM_send 54 = .ok (.getfield 28, 3) := by decide +kernel
theorem dM_send_57 : decode kM_send 57 = .ok (.iload_n 1, 1) := by decide +kernel
theorem dM_send_58 : decode kM_send 58 = .ok (.iaload, 1) := by decide +kernel
theorem dM_send_59 : decode kM_send 59 = .ok (.iadd, 1) := by decide +kernel
theorem dM_send_60 : decode kM_send 60 = .ok (.iload 5, 2) := by decide +kernel
theorem dM_send_62 : decode kM_send 62 = .ok (.iadd, 1) := by decide +kernel
theorem dM_send_63 : decode kM_send 63 = .ok (.istore 6, 2) := by decide +kernel
theorem dM_send_65 : decode kM_send 65 = .ok (.aload_n 0, 1) := by decide +kernel
theorem dM_send_66 : decode kM_send 66 = .ok (.getfield 16, 3) := by decide +kernel
theorem dM_send_69 : decode kM_send 69 = .ok (.iload 6, 2) := by decide +kernel
theorem dM_send_71 : decode kM_send 71 = .ok (.iload 5, 2) := by decide +kernel
theorem dM_send_73 : decode kM_send 73 = .ok (.iload_n 3, 1) := by decide +kernel
theorem dM_send_74 : decode kM_send 74 = .ok (.iconst 1, 1) := by decide +kernel
theorem dM_send_75 : decode kM_send 75 = .ok (.isub, 1) := by decide +kernel
theorem dM_send_76 : decode kM_send 76 = .ok (.if_icmp .ge 8, 3) := by decide +kernel
theorem dM_send_79 : decode kM_send 79 = .ok (.bipush 15, 2) := by decide +kernel
theorem dM_send_81 : decode kM_send 81 = .ok (.goto 10, 3) := by decide +kernel
theorem dM_send_84 : decode kM_send 84 = .ok (.aload_n 0, 1) := by decide +kernel
theorem dM_send_85 : decode kM_send 85 = .ok (.getfield 152, 3) := by decide +kernel
theorem dM_send_88 : decode kM_send 88 = .ok (.bipush 15, 2) := by decide +kernel
theorem dM_send_90 : decode kM_send 90 = .ok (.irem, 1) := by decide +kernel
theorem dM_send_91 : decode kM_send 91 = .ok (.iastore, 1) := by decide +kernel
theorem dM_send_92 : decode kM_send 92 = .ok (.aload_n 0, 1) := by decide +kernel
theorem dM_send_93 : decode kM_send 93 = .ok (.getfield 19, 3) := by decide +kernel
theorem dM_send_96 : decode kM_send 96 = .ok (.iload 6, 2) := by decide +kernel
theorem dM_send_98 : decode kM_send 98 = .ok (.iload 5, 2) := by decide +kernel
theorem dM_send_100 : decode kM_send 100 = .ok (.ifCond .ne 7, 3) := by decide +kernel
theorem dM_send_103 : decode kM_send 103 = .ok (.iconst 1, 1) := by decide +kernel
theorem dM_send_104 : decode kM_send 104 = .ok (.goto 4, 3) := by decide +kernel
theorem dM_send_107 : decode kM_send 107 = .ok (.iconst 0, 1) := by decide +kernel
theorem dM_send_108 : decode kM_send 108 = .ok (.iastore, 1) := by decide +kernel
theorem dM_send_109 : decode kM_send 109 = .ok (.aload_n 0, 1) := by decide +kernel
theorem dM_send_110 : decode kM_send 110 = .ok (.getfield 22, 3) := by decide +kernel
theorem dM_send_113 : decode kM_send 113 = .ok (.iload 6, 2) := by decide +kernel
theorem dM_send_115 : decode kM_send 115 = .ok (.iload 5, 2) := by decide +kernel
theorem dM_send_117 : decode kM_send 117 = .ok (.iload_n 3, 1) := by decide +kernel
theorem dM_send_118 : decode kM_send 118 = .ok (.iconst 1, 1) := by decide +kernel
theorem dM_send_119 : decode kM_send 119 = .ok (.isub, 1) := by decide +kernel
theorem dM_send_120 : decode kM_send 120 = .ok (.if_icmp .ne 7, 3) := by decide +kernel
theorem dM_send_123 : decode kM_send 123 = .ok (.iload_n 2, 1) := by decide +kernel
theorem dM_send_124 : decode kM_send 124 = .ok (.goto 4, 3) := by decide +kernel
theorem dM_send_127 : decode kM_send 127 = .ok (.iconst (-1), 1) := by decide +kernel
theorem dM_send_128 : decode kM_send 128 = .ok (.iastore, 1) := by decide +kernel
theorem dM_send_129 : decode kM_send 129 = .ok (.iconst 0, 1) := by decide +kernel
theorem dM_send_130 : decode kM_send 130 = .ok (.istore 7, 2) := by decide +kernel
theorem dM_send_132 : decode kM_send 132 = .ok (.iload 7, 2) := by decide +kernel
theorem dM_send_134 : decode kM_send 134 = .ok (.aload_n 0, 1) := by decide +kernel
theorem dM_send_135 : decode kM_send 135 = .ok (.getfield 16, 3) := by decide +kernel
theorem dM_send_138 : decode kM_send 138 = .ok (.iload 6, 2) := by decide +kernel
theorem dM_send_140 : decode kM_send 140 = .ok (.iaload, 1) := by decide +kernel
theorem dM_send_141 : decode kM_send 141 = .ok (.if_icmp .ge 35, 3) := by decide +kernel
theorem dM_send_144 : decode kM_send 144 = .ok (.aload_n 0, 1) := by decide +kernel
theorem dM_send_145 : decode kM_send 145 = .ok (.getfield 25, 3) := by decide +kernel
theorem dM_send_148 : decode kM_send 148 = .ok (.bipush 15, 2) := by decide +kernel
theorem dM_send_150 : decode kM_send 150 = .ok (.iload 6, 2) := by decide +kernel
theorem dM_send_152 : decode kM_send 152 = .ok (.imul, 1) := by decide +kernel
theorem dM_send_153 : decode kM_send 153 = .ok (.iload 7, 2) := by decide +kernel
theorem dM_send_155 : decode kM_send 155 = .ok (.iadd, 1) := by decide +kernel
theorem dM_send_156 : decode kM_send 156 = .ok (.aload_n 0, 1) := by decide +kernel
theorem dM_send_157 : decode kM_send 157 = .ok (.getfield 13, 3) := by decide +kernel
theorem dM_send_160 : decode kM_send 160 = .ok (.bipush 15, 2) := by decide +kernel
theorem dM_send_162 : decode kM_send 162 = .ok (.iload 5, 2) := by decide +kernel
theorem dM_send_164 : decode kM_send 164 = .ok (.imul, 1) := by decide +kernel
theorem dM_send_165 : decode kM_send 165 = .ok (.iload 7, 2) := by decide +kernel
theorem dM_send_167 : decode kM_send 167 = .ok (.iadd, 1) := by decide +kernel
theorem dM_send_168 : decode kM_send 168 = .ok (.iaload, 1) := by decide +kernel
theorem dM_send_169 : decode kM_send 169 = .ok (.iastore, 1) := by decide +kernel
theorem dM_send_170 : decode kM_send 170 = .ok (.iinc 7 1, 3) := by decide +kernel
theorem dM_send_173 : decode kM_send 173 = .ok (.goto (-41), 3) := by decide +kernel
theorem dM_send_176 : decode kM_send 176 = .ok (.iinc 5 1, 3) := by decide +kernel
theorem dM_send_179 : decode kM_send 179 = .ok (.goto (-136), 3) := by decide +kernel
theorem dM_send_182 : decode kM_send 182 = .ok (.iload 4, 2) := by decide +kernel
theorem dM_send_184 : decode kM_send 184 = .ok (.bipush 6, 2) := by decide +kernel
theorem dM_send_186 : decode kM_send 186 = .ok (.idiv, 1) := by decide +kernel
theorem dM_send_187 : decode kM_send 187 = .ok (.istore 5, 2) := by decide +kernel
theorem dM_send_189 : decode kM_send 189 = .ok (.bipush 20, 2) := by decide +kernel
theorem dM_send_191 : decode kM_send 191 = .ok (.iload 5, 2) := by decide +kernel
theorem dM_send_193 : decode kM_send 193 = .ok (.imul, 1) := by decide +kernel
theorem dM_send_194 : decode kM_send 194 = .ok (.istore 6, 2) := by decide +kernel
theorem dM_send_196 : decode kM_send 196 = .ok (.iconst 0, 1) := by decide +kernel
theorem dM_send_197 : decode kM_send 197 = .ok (.istore 7, 2) := by decide +kernel
theorem dM_send_199 : decode kM_send 199 = .ok (.iload 7, 2) := by decide +kernel
theorem dM_send_201 : decode kM_send 201 = .ok (.bipush 6, 2) := by decide +kernel
theorem dM_send_203 : decode kM_send 203 = .ok (.iload 5, 2) := by decide +kernel
theorem dM_send_205 : decode kM_send 205 = .ok (.imul, 1) := by decide +kernel
theorem dM_send_206 : decode kM_send 206 = .ok (.if_icmp .ge 26, 3) := by decide +kernel
theorem dM_send_209 : decode kM_send 209 = .ok (.iload 6, 2) := by decide +kernel
theorem dM_send_211 : decode kM_send 211 = .ok (.aload_n 0, 1) := by decide +kernel
theorem dM_send_212 : decode kM_send 212 = .ok (.getfield 16, 3) := by decide +kernel
theorem dM_send_215 : decode kM_send 215 = .ok (.bipush 16, 2) := by decide +kernel
theorem dM_send_217 : decode kM_send 217 = .ok (.iload_n 1, 1) := by decide +kernel
theorem dM_send_218 : decode kM_send 218 = .ok (.imul, 1) := by decide +kernel
theorem dM_send_219 : decode kM_send 219 = .ok (.iload 7, 2) := by decide +kernel
theorem dM_send_221 : decode kM_send 221 = .ok (.iadd, 1) := by decide +kernel
theorem dM_send_222 : decode kM_send 222 = .ok (.iaload, 1) := by decide +kernel
theorem dM_send_223 : decode kM_send 223 = .ok (.iadd, 1) := by decide +kernel
theorem dM_send_224 : decode kM_send 224 = .ok (.istore 6, 2) := by decide +kernel
theorem dM_send_226 : decode kM_send 226 = .ok (.iinc 7 1, 3) := by decide +kernel
theorem dM_send_229 : decode kM_send 229 = .ok (.goto (-30), 3) := by decide +kernel
theorem dM_send_232 : decode kM_send 232 = .ok (.aload_n 0, 1) := by decide +kernel
theorem dM_send_233 : decode kM_send 233 = .ok (.getfield 132, 3) := by decide +kernel
theorem dM_send_236 : decode kM_send 236 = .ok (.iload 6, 2) := by decide +kernel
theorem dM_send_238 : decode kM_send 238 = .ok (.iadd, 1) := by decide +kernel
theorem dM_send_239 : decode kM_send 239 = .ok (.sipush 1000, 3) := by decide +kernel
theorem dM_send_242 : decode kM_send 242 = .ok (.if_icmp .le 5, 3) := by decide +kernel
theorem dM_send_245 : decode kM_send 245 = .ok (.iconst (-1), 1) := by decide +kernel
theorem dM_send_246 : decode kM_send 246 = .ok (.ireturn, 1) := by decide +kernel
theorem dM_send_247 : decode kM_send 247 = .ok (.aload_n 0, 1) := by decide +kernel
theorem dM_send_248 : decode kM_send 248 = .ok (.getfield 28, 3) := by decide +kernel
theorem dM_send_251 : decode kM_send 251 = .ok (.iload_n 1, 1) := by decide +kernel
theorem dM_send_252 : decode kM_send 252 = .ok (.iload 4, 2) := by decide +kernel
theorem dM_send_254 : decode kM_send 254 = .ok (.iastore, 1) := by decide +kernel
theorem dM_send_255 : decode kM_send 255 = .ok (.aload_n 0, 1) := by decide +kernel
theorem dM_send_256 : decode kM_send 256 = .ok (.iconst 0, 1) := by decide +kernel
theorem dM_send_257 : decode kM_send 257 = .ok (.putfield 152, 3) := by decide +kernel
theorem dM_send_260 : decode kM_send 260 = .ok (.iconst 0, 1) := by decide +kernel
theorem dM_send_261 : decode kM_send 261 = .ok (.istore 7, 2) := by decide +kernel
theorem dM_send_263 : decode kM_send 263 = .ok (.iload 7, 2) := by decide +kernel
theorem dM_send_265 : decode kM_send 265 = .ok (.iload 5, 2) := by decide +kernel
theorem dM_send_267 : decode kM_send 267 = .ok (.if_icmp .ge 17, 3) := by decide +kernel
theorem dM_send_270 : decode kM_send 270 = .ok (.aload_n 0, 1) := by decide +kernel
theorem dM_send_271 : decode kM_send 271 = .ok (.iload_n 1, 1) := by decide +kernel
theorem dM_send_272 : decode kM_send 272 = .ok (.bipush 6, 2) := by decide +kernel
theorem dM_send_274 : decode kM_send 274 = .ok (.iconst 0, 1) := by decide +kernel
theorem dM_send_275 : decode kM_send 275 = .ok (.invokevirtual 160, 3) := by decide +kernel
theorem dM_send_278 : decode kM_send 278 = .ok (.iinc 7 1, 3) := by decide +kernel
theorem dM_send_281 : decode kM_send 281 = .ok (.goto (-18), 3) := by decide +kernel
theorem dM_send_284 : decode kM_send 284 = .ok (.iload 5, 2) := by decide +kernel
theorem dM_send_286 : decode kM_send 286 = .ok (.ireturn, 1) := by decide +kernel
def bl_M_send_263 (θ : TH) (a0_263 : Nat) (x1_263 : Int32) (x5_263 : Int32) (K : Int32 → VT → UT → Prop) (kb263 : Int32 → VT → UT → Prop) (x7_263 : Int32) (V : VT) (U : UT) : Prop := ((x5_263 ≤ x7_263 → K x5_263 V U) ∧ (¬ x5_263 ≤ x7_263 → isO θ a0_263 12 ∧ wp_M_page θ a0_263 x1_263 (6 : Int32) (0 : Int32) V U (fun V_45 U_46 => ∀ y_48 : Int32, y_48 = x7_263 + (1 : Int32) → kb263 y_48 V_45 U_46)))
def wl_M_send_263 (θ : TH) (a0_263 : Nat) (x1_263 : Int32) (x5_263 : Int32) (K : Int32 → VT → UT → Prop) : Nat → Int32 → VT → UT → Prop
  | 0, _, _, _ => False
  | n + 1, x7_263, V, U => bl_M_send_263 θ a0_263 x1_263 x5_263 K (wl_M_send_263 θ a0_263 x1_263 x5_263 K n) x7_263 V U
def bl_M_send_199 (θ : TH) (a0_199 : Nat) (x1_199 : Int32) (x4_199 : Int32) (x5_199 : Int32) (K : Int32 → VT → UT → Prop) (kb199 : Int32 → Int32 → VT → UT → Prop) (x6_199 : Int32) (x7_199 : Int32) (V : VT) (U : UT) : Prop := ((((6 : Int32) * x5_199) ≤ x7_199 → isO θ a0_199 12 ∧ ((((V a0_199 1) + x6_199) ≤ (1000 : Int32) → (U a0_199 9) ≠ 0 ∧ ∃ n_32, isA θ (U a0_199 9) 0 n_32 ∧ vp_in x1_199 n_32 ∧ ∀ V_35 : VT, V_35 = up2 V (U a0_199 9) x1_199.toNatClampNeg x4_199 → ∀ V_36 : VT, V_36 = up2 V_35 a0_199 4 (0 : Int32) → ∃ n, wl_M_send_263 θ a0_199 x1_199 x5_199 K n (0 : Int32) V_36 U) ∧ (¬ ((V a0_199 1) + x6_199) ≤ (1000 : Int32) → K (-1 : Int32) V U))) ∧ (¬ ((6 : Int32) * x5_199) ≤ x7_199 → isO θ a0_199 12 ∧ (U a0_199 5) ≠ 0 ∧ ∃ n_39, isA θ (U a0_199 5) 0 n_39 ∧ vp_in (((16 : Int32) * x1_199) + x7_199) n_39 ∧ ∀ y_42 : Int32, y_42 = (x6_199 + (V (U a0_199 5) (((16 : Int32) * x1_199) + x7_199).toNatClampNeg)) → ∀ y_43 : Int32, y_43 = x7_199 + (1 : Int32) → kb199 y_42 y_43 V U))
def wl_M_send_199 (θ : TH) (a0_199 : Nat) (x1_199 : Int32) (x4_199 : Int32) (x5_199 : Int32) (K : Int32 → VT → UT → Prop) : Nat → Int32 → Int32 → VT → UT → Prop
  | 0, _, _, _, _ => False
  | n + 1, x6_199, x7_199, V, U => bl_M_send_199 θ a0_199 x1_199 x4_199 x5_199 K (wl_M_send_199 θ a0_199 x1_199 x4_199 x5_199 K n) x6_199 x7_199 V U
def bl_M_send_132 (θ : TH) (a0_43 : Nat) (x1_43 : Int32) (x2_43 : Int32) (x3_43 : Int32) (x4_43 : Int32) (x5_132 : Int32) (x6_132 : Int32) (kb43 : Int32 → VT → UT → Prop) (K : Int32 → VT → UT → Prop) (kb132 : Int32 → VT → UT → Prop) (x7_132 : Int32) (V : VT) (U : UT) : Prop := isO θ a0_43 12 ∧ (U a0_43 5) ≠ 0 ∧ ∃ n_73, isA θ (U a0_43 5) 0 n_73 ∧ vp_in x6_132 n_73 ∧ (((V (U a0_43 5) x6_132.toNatClampNeg) ≤ x7_132 → ∀ y_77 : Int32, y_77 = x5_132 + (1 : Int32) → kb43 y_77 V U) ∧ (¬ (V (U a0_43 5) x6_132.toNatClampNeg) ≤ x7_132 → (U a0_43 8) ≠ 0 ∧ (U a0_43 3) ≠ 0 ∧ ∃ n_80, isA θ (U a0_43 3) 0 n_80 ∧ vp_in (((15 : Int32) * x5_132) + x7_132) n_80 ∧ ∃ n_83, isA θ (U a0_43 8) 0 n_83 ∧ vp_in (((15 : Int32) * x6_132) + x7_132) n_83 ∧ ∀ V_86 : VT, V_86 = up2 V (U a0_43 8) (((15 : Int32) * x6_132) + x7_132).toNatClampNeg (V (U a0_43 3) (((15 : Int32) * x5_132) + x7_132).toNatClampNeg) → ∀ y_87 : Int32, y_87 = x7_132 + (1 : Int32) → kb132 y_87 V_86 U))
def wl_M_send_132 (θ : TH) (a0_43 : Nat) (x1_43 : Int32) (x2_43 : Int32) (x3_43 : Int32) (x4_43 : Int32) (x5_132 : Int32) (x6_132 : Int32) (kb43 : Int32 → VT → UT → Prop) (K : Int32 → VT → UT → Prop) : Nat → Int32 → VT → UT → Prop
  | 0, _, _, _ => False
  | n + 1, x7_132, V, U => bl_M_send_132 θ a0_43 x1_43 x2_43 x3_43 x4_43 x5_132 x6_132 kb43 K (wl_M_send_132 θ a0_43 x1_43 x2_43 x3_43 x4_43 x5_132 x6_132 kb43 K n) x7_132 V U
def wb_M_send_108 (θ : TH) (a0_43 : Nat) (x1_43 : Int32) (x2_43 : Int32) (x3_43 : Int32) (x4_43 : Int32) (x5_108 : Int32) (x6_108 : Int32) (z0_108 : Int32) (z1_108 : Int32) (z2_108 : Nat) (kb43 : Int32 → VT → UT → Prop) (K : Int32 → VT → UT → Prop) (V : VT) (U : UT) : Prop := ∃ n_56, isA θ z2_108 0 n_56 ∧ vp_in z1_108 n_56 ∧ ∀ V_59 : VT, V_59 = up2 V z2_108 z1_108.toNatClampNeg z0_108 → isO θ a0_43 12 ∧ (U a0_43 7) ≠ 0 ∧ ((¬ x5_108 = (x3_43 - (1 : Int32)) → ∃ n_63, isA θ (U a0_43 7) 0 n_63 ∧ vp_in x6_108 n_63 ∧ ∀ V_66 : VT, V_66 = up2 V_59 (U a0_43 7) x6_108.toNatClampNeg (-1 : Int32) → ∃ n, wl_M_send_132 θ a0_43 x1_43 x2_43 x3_43 x4_43 x5_108 x6_108 kb43 K n (0 : Int32) V_66 U) ∧ (x5_108 = (x3_43 - (1 : Int32)) → ∃ n_67, isA θ (U a0_43 7) 0 n_67 ∧ vp_in x6_108 n_67 ∧ ∀ V_70 : VT, V_70 = up2 V_59 (U a0_43 7) x6_108.toNatClampNeg x2_43 → ∃ n, wl_M_send_132 θ a0_43 x1_43 x2_43 x3_43 x4_43 x5_108 x6_108 kb43 K n (0 : Int32) V_70 U))
def wb_M_send_91 (θ : TH) (a0_43 : Nat) (x1_43 : Int32) (x2_43 : Int32) (x3_43 : Int32) (x4_43 : Int32) (x5_91 : Int32) (x6_91 : Int32) (z0_91 : Int32) (z1_91 : Int32) (z2_91 : Nat) (kb43 : Int32 → VT → UT → Prop) (K : Int32 → VT → UT → Prop) (V : VT) (U : UT) : Prop := ∃ n_49, isA θ z2_91 0 n_49 ∧ vp_in z1_91 n_49 ∧ ∀ V_52 : VT, V_52 = up2 V z2_91 z1_91.toNatClampNeg z0_91 → isO θ a0_43 12 ∧ (U a0_43 6) ≠ 0 ∧ ((¬ x5_91 = 0 → wb_M_send_108 θ a0_43 x1_43 x2_43 x3_43 x4_43 x5_91 x6_91 (0 : Int32) x6_91 (U a0_43 6) kb43 K V_52 U) ∧ (x5_91 = 0 → wb_M_send_108 θ a0_43 x1_43 x2_43 x3_43 x4_43 x5_91 x6_91 (1 : Int32) x6_91 (U a0_43 6) kb43 K V_52 U))
def bl_M_send_43 (θ : TH) (a0_43 : Nat) (x1_43 : Int32) (x2_43 : Int32) (x3_43 : Int32) (x4_43 : Int32) (K : Int32 → VT → UT → Prop) (kb43 : Int32 → VT → UT → Prop) (x5_43 : Int32) (V : VT) (U : UT) : Prop := ((x3_43 ≤ x5_43 → ¬ (6 : Int32) = 0 ∧ ∀ y_17 : Int32, y_17 = (x4_43 / (6 : Int32)) → ∀ y_18 : Int32, y_18 = ((20 : Int32) * y_17) → ∃ n, wl_M_send_199 θ a0_43 x1_43 x4_43 y_17 K n y_18 (0 : Int32) V U) ∧ (¬ x3_43 ≤ x5_43 → isO θ a0_43 12 ∧ (U a0_43 9) ≠ 0 ∧ ∃ n_21, isA θ (U a0_43 9) 0 n_21 ∧ vp_in x1_43 n_21 ∧ ∀ y_24 : Int32, y_24 = ((((16 : Int32) * x1_43) + (V (U a0_43 9) x1_43.toNatClampNeg)) + x5_43) → (U a0_43 5) ≠ 0 ∧ (((x3_43 - (1 : Int32)) ≤ x5_43 → ¬ (15 : Int32) = 0 ∧ wb_M_send_91 θ a0_43 x1_43 x2_43 x3_43 x4_43 x5_43 y_24 ((V a0_43 4) - (V a0_43 4) / (15 : Int32) * (15 : Int32)) y_24 (U a0_43 5) kb43 K V U) ∧ (¬ (x3_43 - (1 : Int32)) ≤ x5_43 → wb_M_send_91 θ a0_43 x1_43 x2_43 x3_43 x4_43 x5_43 y_24 (15 : Int32) y_24 (U a0_43 5) kb43 K V U))))
def wl_M_send_43 (θ : TH) (a0_43 : Nat) (x1_43 : Int32) (x2_43 : Int32) (x3_43 : Int32) (x4_43 : Int32) (K : Int32 → VT → UT → Prop) : Nat → Int32 → VT → UT → Prop
  | 0, _, _, _ => False
  | n + 1, x5_43, V, U => bl_M_send_43 θ a0_43 x1_43 x2_43 x3_43 x4_43 K (wl_M_send_43 θ a0_43 x1_43 x2_43 x3_43 x4_43 K n) x5_43 V U
def wp_M_send (θ : TH) (a0 : Nat) (x1 : Int32) (x2 : Int32) (V : VT) (U : UT) (K : Int32 → VT → UT → Prop) : Prop := isO θ a0 12 ∧ wp_M_noStream θ a0 x1 V U (fun r_4 V_1 U_2 => ((¬ r_4 = 0 → K (-1 : Int32) V_1 U_2) ∧ (r_4 = 0 → ((x2 < 0 → K (-1 : Int32) V_1 U_2) ∧ (¬ x2 < 0 → ((x2 ≤ (65534 : Int32) → ¬ (15 : Int32) = 0 ∧ ∀ y_9 : Int32, y_9 = (((V_1 a0 4) / (15 : Int32)) + (1 : Int32)) → (U_2 a0 9) ≠ 0 ∧ ∃ n_11, isA θ (U_2 a0 9) 0 n_11 ∧ vp_in x1 n_11 ∧ ∀ y_14 : Int32, y_14 = ((V_1 (U_2 a0 9) x1.toNatClampNeg) + y_9) → ∃ n, wl_M_send_43 θ a0 x1 x2 y_9 y_14 K n (0 : Int32) V_1 U_2) ∧ (¬ x2 ≤ (65534 : Int32) → K (-1 : Int32) V_1 U_2)))))))
set_option maxRecDepth 100000 in
set_option maxHeartbeats 4000000 in
theorem c_M_send (l : Launch) (θ : TH) (a0 : Nat) (x1 : Int32) (x2 : Int32) (V : VT) (U : UT) (K : Int32 → VT → UT → Prop) (hw : wp_M_send θ a0 x1 x2 V U K) : CMi l yM_send kM_send 8 (some .int) rmM_send θ [.ref a0, .int x1, .int x2] V U K := by
  refine g_met nRM (by decide +kernel) rfl (Nat.le_of_ble_eq_true rfl) (fun p e s m args below meth c ls hC hr hlk hwo hl => ?_)
  have hx := hC.1
  have hb := hC.2.1
  have hS : Sx θ s s.heap [] := va_S.rf
  have hl : lv_has ls 8 [(0, .ref a0), (1, .int x1), (2, .int x2)] := hl
  have L263 : ∀ (a0_263 : Nat) (x1_263 : Int32) (x5_263 : Int32) (n263 : Nat) (x7_263 : Int32) (V : VT) (U : UT) (H : Heap) (locs : List Loc) (ls : Array Slot), wl_M_send_263 θ a0_263 x1_263 x5_263 K n263 x7_263 V U → wo θ V U H → Sx θ s H locs → lv_has ls 8 [(0, .ref a0_263), (1, .int x1_263), (5, .int x5_263), (7, .int x7_263)] → W p l e rmM_send s m args below meth c H locs 0 0 (MQ below (QI θ K) args s 0 0 (aT θ)) (F0 m 263 ls []) := by
    intro a0_263 x1_263 x5_263 n263
    induction n263 with
    | zero => intro x7_263 V U H locs ls hw hwo hS hl; exact (show False from hw).elim
    | succ n263 ih263 =>
      intro x7_263 V U H locs ls hw hwo hS hl
      replace hw : bl_M_send_263 θ a0_263 x1_263 x5_263 K (wl_M_send_263 θ a0_263 x1_263 x5_263 K n263) x7_263 V U := hw
      unfold bl_M_send_263 at hw
      refine lv_iload hx hb dM_send_263 (lv_at hl 3 rfl) ?_
      refine lv_iload hx hb dM_send_265 (lv_at hl 2 rfl) ?_
      refine lv_icmp_ge (tgt := 284) hx hb dM_send_267 (by decide) (fun hc_44 => ?_) (fun hc_44 => ?_)
      · replace hw := hw.1 hc_44
        refine lv_iload hx hb dM_send_284 (lv_at hl 2 rfl) ?_
        exact g_iret hC hr hlk hw hwo hS dM_send_286
      · replace hw := hw.2 hc_44
        refine lv_aload_n hx hb dM_send_270 rfl (lv_at hl 0 rfl) ?_
        refine lv_iload_n hx hb dM_send_271 rfl (lv_at hl 1 rfl) ?_
        refine lv_bipush (v := 6) hx hb dM_send_272 (by decide) ?_
        refine lv_iconst (v := 0) hx hb dM_send_274 (by decide) ?_
        obtain ⟨ho_47, hw⟩ := hw
        refine g_Vv (rest := []) hC (c_M_page l θ _ _ _ _ _ _ _ hw) mi_M_page mlM_160 mv_M_page ci_12 ho_47 hwo hS ⟨rfl, rfl⟩ ⟨by decide, by decide⟩ rfl hl.1 rfl (Nat.le_of_ble_eq_true rfl) dM_send_275 (fun V_45 U_46 hw H locs hwo hS => ?_)
        obtain ⟨y_48, ey_48⟩ : ∃ z : Int32, z = x7_263 + (1 : Int32) := ⟨_, rfl⟩
        replace hw := hw y_48 ey_48
        refine lv_iinc (k := 3) (v := y_48) (lv' := [(7, .int y_48), (0, .ref a0_263), (1, .int x1_263), (5, .int x5_263)]) hx hb dM_send_278 hl rfl (by rw [ey_48]; rfl) (by decide) rfl (fun ls hl => ?_)
        refine lv_goto (tgt := 263) hx hb dM_send_281 (by decide) ?_
        exact ih263 _ _ _ _ _ _ hw hwo hS (lv_sub hl [1, 2, 3, 0] rfl)
  have L199 : ∀ (a0_199 : Nat) (x1_199 : Int32) (x4_199 : Int32) (x5_199 : Int32) (n199 : Nat) (x6_199 : Int32) (x7_199 : Int32) (V : VT) (U : UT) (H : Heap) (locs : List Loc) (ls : Array Slot), wl_M_send_199 θ a0_199 x1_199 x4_199 x5_199 K n199 x6_199 x7_199 V U → wo θ V U H → Sx θ s H locs → lv_has ls 8 [(0, .ref a0_199), (1, .int x1_199), (4, .int x4_199), (5, .int x5_199), (6, .int x6_199), (7, .int x7_199)] → W p l e rmM_send s m args below meth c H locs 0 0 (MQ below (QI θ K) args s 0 0 (aT θ)) (F0 m 199 ls []) := by
    intro a0_199 x1_199 x4_199 x5_199 n199
    induction n199 with
    | zero => intro x6_199 x7_199 V U H locs ls hw hwo hS hl; exact (show False from hw).elim
    | succ n199 ih199 =>
      intro x6_199 x7_199 V U H locs ls hw hwo hS hl
      replace hw : bl_M_send_199 θ a0_199 x1_199 x4_199 x5_199 K (wl_M_send_199 θ a0_199 x1_199 x4_199 x5_199 K n199) x6_199 x7_199 V U := hw
      unfold bl_M_send_199 at hw
      refine lv_iload hx hb dM_send_199 (lv_at hl 5 rfl) ?_
      refine lv_bipush (v := 6) hx hb dM_send_201 (by decide) ?_
      refine lv_iload hx hb dM_send_203 (lv_at hl 3 rfl) ?_
      refine lv_imul hx hb dM_send_205 ?_
      refine lv_icmp_ge (tgt := 232) hx hb dM_send_206 (by decide) (fun hc_28 => ?_) (fun hc_28 => ?_)
      · replace hw := hw.1 hc_28
        refine lv_aload_n hx hb dM_send_232 rfl (lv_at hl 0 rfl) ?_
        obtain ⟨ho_29, hw⟩ := hw
        refine g_getI hC fkM_132 rfl hwo ho_29 dM_send_233 ?_
        refine lv_iload hx hb dM_send_236 (lv_at hl 4 rfl) ?_
        refine lv_iadd hx hb dM_send_238 ?_
        refine lv_sipush (v := 1000) hx hb dM_send_239 (by decide) ?_
        refine lv_icmp_le (tgt := 247) hx hb dM_send_242 (by decide) (fun hc_30 => ?_) (fun hc_30 => ?_)
        · replace hw := hw.1 hc_30
          refine lv_aload_n hx hb dM_send_247 rfl (lv_at hl 0 rfl) ?_
          obtain ⟨hz_31, hw⟩ := hw
          refine g_getR hC fkM_28 rfl hwo ho_29 hz_31 dM_send_248 ?_
          refine lv_iload_n hx hb dM_send_251 rfl (lv_at hl 1 rfl) ?_
          refine lv_iload hx hb dM_send_252 (lv_at hl 2 rfl) ?_
          obtain ⟨n_32, ha_33, hw⟩ := hw
          obtain ⟨hi_34, hw⟩ := hw
          refine g_iast hC hwo hS ha_33 hi_34 dM_send_254 (fun V_35 eV_35 H locs hwo hS => ?_)
          replace hw := hw V_35 eV_35
          refine lv_aload_n hx hb dM_send_255 rfl (lv_at hl 0 rfl) ?_
          refine lv_iconst (v := 0) hx hb dM_send_256 (by decide) ?_
          refine g_putI hC fkM_152 rfl hwo hS ho_29 dM_send_257 (fun V_36 eV_36 H locs hwo hS => ?_)
          replace hw := hw V_36 eV_36
          refine lv_iconst (v := 0) hx hb dM_send_260 (by decide) ?_
          refine lv_istore (i := 7) (lv' := [(7, .int (0 : Int32)), (0, .ref a0_199), (1, .int x1_199), (4, .int x4_199), (5, .int x5_199), (6, .int x6_199)]) hx hb dM_send_261 hl (by decide) rfl (fun ls hl => ?_)
          obtain ⟨n, hw⟩ := hw
          exact L263 _ _ _ n _ _ _ _ _ _ hw hwo hS (lv_sub hl [1, 2, 4, 0] rfl)
        · replace hw := hw.2 hc_30
          refine lv_iconst (v := -1) hx hb dM_send_245 (by decide) ?_
          exact g_iret hC hr hlk hw hwo hS dM_send_246
      · replace hw := hw.2 hc_28
        refine lv_iload hx hb dM_send_209 (lv_at hl 4 rfl) ?_
        refine lv_aload_n hx hb dM_send_211 rfl (lv_at hl 0 rfl) ?_
        obtain ⟨ho_37, hw⟩ := hw
        obtain ⟨hz_38, hw⟩ := hw
        refine g_getR hC fkM_16 rfl hwo ho_37 hz_38 dM_send_212 ?_
        refine lv_bipush (v := 16) hx hb dM_send_215 (by decide) ?_
        refine lv_iload_n hx hb dM_send_217 rfl (lv_at hl 1 rfl) ?_
        refine lv_imul hx hb dM_send_218 ?_
        refine lv_iload hx hb dM_send_219 (lv_at hl 5 rfl) ?_
        refine lv_iadd hx hb dM_send_221 ?_
        obtain ⟨n_39, ha_40, hw⟩ := hw
        obtain ⟨hi_41, hw⟩ := hw
        refine g_iald hC hwo ha_40 hi_41 dM_send_222 ?_
        refine lv_iadd hx hb dM_send_223 ?_
        refine lv_topi (fun y_42 ey_42 => ?_)
        replace hw := hw y_42 ey_42
        refine lv_istore (i := 6) (lv' := [(6, .int y_42), (0, .ref a0_199), (1, .int x1_199), (4, .int x4_199), (5, .int x5_199), (7, .int x7_199)]) hx hb dM_send_224 hl (by decide) rfl (fun ls hl => ?_)
        obtain ⟨y_43, ey_43⟩ : ∃ z : Int32, z = x7_199 + (1 : Int32) := ⟨_, rfl⟩
        replace hw := hw y_43 ey_43
        refine lv_iinc (k := 5) (v := y_43) (lv' := [(7, .int y_43), (6, .int y_42), (0, .ref a0_199), (1, .int x1_199), (4, .int x4_199), (5, .int x5_199)]) hx hb dM_send_226 hl rfl (by rw [ey_43]; rfl) (by decide) rfl (fun ls hl => ?_)
        refine lv_goto (tgt := 199) hx hb dM_send_229 (by decide) ?_
        exact ih199 _ _ _ _ _ _ _ hw hwo hS (lv_sub hl [2, 3, 4, 5, 1, 0] rfl)
  have L43 : ∀ (a0_43 : Nat) (x1_43 : Int32) (x2_43 : Int32) (x3_43 : Int32) (x4_43 : Int32) (n43 : Nat) (x5_43 : Int32) (V : VT) (U : UT) (H : Heap) (locs : List Loc) (ls : Array Slot), wl_M_send_43 θ a0_43 x1_43 x2_43 x3_43 x4_43 K n43 x5_43 V U → wo θ V U H → Sx θ s H locs → lv_has ls 8 [(0, .ref a0_43), (1, .int x1_43), (2, .int x2_43), (3, .int x3_43), (4, .int x4_43), (5, .int x5_43)] → W p l e rmM_send s m args below meth c H locs 0 0 (MQ below (QI θ K) args s 0 0 (aT θ)) (F0 m 43 ls []) := by
    intro a0_43 x1_43 x2_43 x3_43 x4_43 n43
    induction n43 with
    | zero => intro x5_43 V U H locs ls hw hwo hS hl; exact (show False from hw).elim
    | succ n43 ih43 =>
      have L132 : ∀ (x5_132 : Int32) (x6_132 : Int32) (n132 : Nat) (x7_132 : Int32) (V : VT) (U : UT) (H : Heap) (locs : List Loc) (ls : Array Slot), wl_M_send_132 θ a0_43 x1_43 x2_43 x3_43 x4_43 x5_132 x6_132 (wl_M_send_43 θ a0_43 x1_43 x2_43 x3_43 x4_43 K n43) K n132 x7_132 V U → wo θ V U H → Sx θ s H locs → lv_has ls 8 [(0, .ref a0_43), (1, .int x1_43), (2, .int x2_43), (3, .int x3_43), (4, .int x4_43), (5, .int x5_132), (6, .int x6_132), (7, .int x7_132)] → W p l e rmM_send s m args below meth c H locs 0 0 (MQ below (QI θ K) args s 0 0 (aT θ)) (F0 m 132 ls []) := by
        intro x5_132 x6_132 n132
        induction n132 with
        | zero => intro x7_132 V U H locs ls hw hwo hS hl; exact (show False from hw).elim
        | succ n132 ih132 =>
          intro x7_132 V U H locs ls hw hwo hS hl
          replace hw : bl_M_send_132 θ a0_43 x1_43 x2_43 x3_43 x4_43 x5_132 x6_132 (wl_M_send_43 θ a0_43 x1_43 x2_43 x3_43 x4_43 K n43) K (wl_M_send_132 θ a0_43 x1_43 x2_43 x3_43 x4_43 x5_132 x6_132 (wl_M_send_43 θ a0_43 x1_43 x2_43 x3_43 x4_43 K n43) K n132) x7_132 V U := hw
          unfold bl_M_send_132 at hw
          refine lv_iload hx hb dM_send_132 (lv_at hl 7 rfl) ?_
          refine lv_aload_n hx hb dM_send_134 rfl (lv_at hl 0 rfl) ?_
          obtain ⟨ho_71, hw⟩ := hw
          obtain ⟨hz_72, hw⟩ := hw
          refine g_getR hC fkM_16 rfl hwo ho_71 hz_72 dM_send_135 ?_
          refine lv_iload hx hb dM_send_138 (lv_at hl 6 rfl) ?_
          obtain ⟨n_73, ha_74, hw⟩ := hw
          obtain ⟨hi_75, hw⟩ := hw
          refine g_iald hC hwo ha_74 hi_75 dM_send_140 ?_
          refine lv_icmp_ge (tgt := 176) hx hb dM_send_141 (by decide) (fun hc_76 => ?_) (fun hc_76 => ?_)
          · replace hw := hw.1 hc_76
            obtain ⟨y_77, ey_77⟩ : ∃ z : Int32, z = x5_132 + (1 : Int32) := ⟨_, rfl⟩
            replace hw := hw y_77 ey_77
            refine lv_iinc (k := 5) (v := y_77) (lv' := [(5, .int y_77), (0, .ref a0_43), (1, .int x1_43), (2, .int x2_43), (3, .int x3_43), (4, .int x4_43), (6, .int x6_132), (7, .int x7_132)]) hx hb dM_send_176 hl rfl (by rw [ey_77]; rfl) (by decide) rfl (fun ls hl => ?_)
            refine lv_goto (tgt := 43) hx hb dM_send_179 (by decide) ?_
            exact ih43 _ _ _ _ _ _ hw hwo hS (lv_sub hl [1, 2, 3, 4, 5, 0] rfl)
          · replace hw := hw.2 hc_76
            refine lv_aload_n hx hb dM_send_144 rfl (lv_at hl 0 rfl) ?_
            obtain ⟨hz_78, hw⟩ := hw
            refine g_getR hC fkM_25 rfl hwo ho_71 hz_78 dM_send_145 ?_
            refine lv_bipush (v := 15) hx hb dM_send_148 (by decide) ?_
            refine lv_iload hx hb dM_send_150 (lv_at hl 6 rfl) ?_
            refine lv_imul hx hb dM_send_152 ?_
            refine lv_iload hx hb dM_send_153 (lv_at hl 7 rfl) ?_
            refine lv_iadd hx hb dM_send_155 ?_
            refine lv_aload_n hx hb dM_send_156 rfl (lv_at hl 0 rfl) ?_
            obtain ⟨hz_79, hw⟩ := hw
            refine g_getR hC fkM_13 rfl hwo ho_71 hz_79 dM_send_157 ?_
            refine lv_bipush (v := 15) hx hb dM_send_160 (by decide) ?_
            refine lv_iload hx hb dM_send_162 (lv_at hl 5 rfl) ?_
            refine lv_imul hx hb dM_send_164 ?_
            refine lv_iload hx hb dM_send_165 (lv_at hl 7 rfl) ?_
            refine lv_iadd hx hb dM_send_167 ?_
            obtain ⟨n_80, ha_81, hw⟩ := hw
            obtain ⟨hi_82, hw⟩ := hw
            refine g_iald hC hwo ha_81 hi_82 dM_send_168 ?_
            obtain ⟨n_83, ha_84, hw⟩ := hw
            obtain ⟨hi_85, hw⟩ := hw
            refine g_iast hC hwo hS ha_84 hi_85 dM_send_169 (fun V_86 eV_86 H locs hwo hS => ?_)
            replace hw := hw V_86 eV_86
            obtain ⟨y_87, ey_87⟩ : ∃ z : Int32, z = x7_132 + (1 : Int32) := ⟨_, rfl⟩
            replace hw := hw y_87 ey_87
            refine lv_iinc (k := 7) (v := y_87) (lv' := [(7, .int y_87), (0, .ref a0_43), (1, .int x1_43), (2, .int x2_43), (3, .int x3_43), (4, .int x4_43), (5, .int x5_132), (6, .int x6_132)]) hx hb dM_send_170 hl rfl (by rw [ey_87]; rfl) (by decide) rfl (fun ls hl => ?_)
            refine lv_goto (tgt := 132) hx hb dM_send_173 (by decide) ?_
            exact ih132 _ _ _ _ _ _ hw hwo hS (lv_sub hl [1, 2, 3, 4, 5, 6, 7, 0] rfl)
      have J108 : ∀ (x5_108 : Int32) (x6_108 : Int32) (z0_108 : Int32) (z1_108 : Int32) (z2_108 : Nat) (V : VT) (U : UT) (H : Heap) (locs : List Loc) (ls : Array Slot), wb_M_send_108 θ a0_43 x1_43 x2_43 x3_43 x4_43 x5_108 x6_108 z0_108 z1_108 z2_108 (wl_M_send_43 θ a0_43 x1_43 x2_43 x3_43 x4_43 K n43) K V U → wo θ V U H → Sx θ s H locs → lv_has ls 8 [(0, .ref a0_43), (1, .int x1_43), (2, .int x2_43), (3, .int x3_43), (4, .int x4_43), (5, .int x5_108), (6, .int x6_108)] → W p l e rmM_send s m args below meth c H locs 0 0 (MQ below (QI θ K) args s 0 0 (aT θ)) (F0 m 108 ls [.int z0_108, .int z1_108, .ref z2_108]) := by
        intro x5_108 x6_108 z0_108 z1_108 z2_108 V U H locs ls hw hwo hS hl
        unfold wb_M_send_108 at hw
        obtain ⟨n_56, ha_57, hw⟩ := hw
        obtain ⟨hi_58, hw⟩ := hw
        refine g_iast hC hwo hS ha_57 hi_58 dM_send_108 (fun V_59 eV_59 H locs hwo hS => ?_)
        replace hw := hw V_59 eV_59
        refine lv_aload_n hx hb dM_send_109 rfl (lv_at hl 0 rfl) ?_
        obtain ⟨ho_60, hw⟩ := hw
        obtain ⟨hz_61, hw⟩ := hw
        refine g_getR hC fkM_22 rfl hwo ho_60 hz_61 dM_send_110 ?_
        refine lv_iload hx hb dM_send_113 (lv_at hl 6 rfl) ?_
        refine lv_iload hx hb dM_send_115 (lv_at hl 5 rfl) ?_
        refine lv_iload_n hx hb dM_send_117 rfl (lv_at hl 3 rfl) ?_
        refine lv_iconst (v := 1) hx hb dM_send_118 (by decide) ?_
        refine lv_isub hx hb dM_send_119 ?_
        refine lv_icmp_ne (tgt := 127) hx hb dM_send_120 (by decide) (fun hc_62 => ?_) (fun hc_62 => ?_)
        · replace hw := hw.1 hc_62
          refine lv_iconst (v := -1) hx hb dM_send_127 (by decide) ?_
          obtain ⟨n_63, ha_64, hw⟩ := hw
          obtain ⟨hi_65, hw⟩ := hw
          refine g_iast hC hwo hS ha_64 hi_65 dM_send_128 (fun V_66 eV_66 H locs hwo hS => ?_)
          replace hw := hw V_66 eV_66
          refine lv_iconst (v := 0) hx hb dM_send_129 (by decide) ?_
          refine lv_istore (i := 7) (lv' := [(7, .int (0 : Int32)), (0, .ref a0_43), (1, .int x1_43), (2, .int x2_43), (3, .int x3_43), (4, .int x4_43), (5, .int x5_108), (6, .int x6_108)]) hx hb dM_send_130 hl (by decide) rfl (fun ls hl => ?_)
          obtain ⟨n, hw⟩ := hw
          exact L132 _ _ n _ _ _ _ _ _ hw hwo hS (lv_sub hl [1, 2, 3, 4, 5, 6, 7, 0] rfl)
        · replace hw := hw.2 hc_62
          refine lv_iload_n hx hb dM_send_123 rfl (lv_at hl 2 rfl) ?_
          refine lv_goto (tgt := 128) hx hb dM_send_124 (by decide) ?_
          obtain ⟨n_67, ha_68, hw⟩ := hw
          obtain ⟨hi_69, hw⟩ := hw
          refine g_iast hC hwo hS ha_68 hi_69 dM_send_128 (fun V_70 eV_70 H locs hwo hS => ?_)
          replace hw := hw V_70 eV_70
          refine lv_iconst (v := 0) hx hb dM_send_129 (by decide) ?_
          refine lv_istore (i := 7) (lv' := [(7, .int (0 : Int32)), (0, .ref a0_43), (1, .int x1_43), (2, .int x2_43), (3, .int x3_43), (4, .int x4_43), (5, .int x5_108), (6, .int x6_108)]) hx hb dM_send_130 hl (by decide) rfl (fun ls hl => ?_)
          obtain ⟨n, hw⟩ := hw
          exact L132 _ _ n _ _ _ _ _ _ hw hwo hS (lv_sub hl [1, 2, 3, 4, 5, 6, 7, 0] rfl)
      have J91 : ∀ (x5_91 : Int32) (x6_91 : Int32) (z0_91 : Int32) (z1_91 : Int32) (z2_91 : Nat) (V : VT) (U : UT) (H : Heap) (locs : List Loc) (ls : Array Slot), wb_M_send_91 θ a0_43 x1_43 x2_43 x3_43 x4_43 x5_91 x6_91 z0_91 z1_91 z2_91 (wl_M_send_43 θ a0_43 x1_43 x2_43 x3_43 x4_43 K n43) K V U → wo θ V U H → Sx θ s H locs → lv_has ls 8 [(0, .ref a0_43), (1, .int x1_43), (2, .int x2_43), (3, .int x3_43), (4, .int x4_43), (5, .int x5_91), (6, .int x6_91)] → W p l e rmM_send s m args below meth c H locs 0 0 (MQ below (QI θ K) args s 0 0 (aT θ)) (F0 m 91 ls [.int z0_91, .int z1_91, .ref z2_91]) := by
        intro x5_91 x6_91 z0_91 z1_91 z2_91 V U H locs ls hw hwo hS hl
        unfold wb_M_send_91 at hw
        obtain ⟨n_49, ha_50, hw⟩ := hw
        obtain ⟨hi_51, hw⟩ := hw
        refine g_iast hC hwo hS ha_50 hi_51 dM_send_91 (fun V_52 eV_52 H locs hwo hS => ?_)
        replace hw := hw V_52 eV_52
        refine lv_aload_n hx hb dM_send_92 rfl (lv_at hl 0 rfl) ?_
        obtain ⟨ho_53, hw⟩ := hw
        obtain ⟨hz_54, hw⟩ := hw
        refine g_getR hC fkM_19 rfl hwo ho_53 hz_54 dM_send_93 ?_
        refine lv_iload hx hb dM_send_96 (lv_at hl 6 rfl) ?_
        refine lv_iload hx hb dM_send_98 (lv_at hl 5 rfl) ?_
        refine lv_if_ne (tgt := 107) hx hb dM_send_100 (by decide) (fun hc_55 => ?_) (fun hc_55 => ?_)
        · replace hw := hw.1 hc_55
          refine lv_iconst (v := 0) hx hb dM_send_107 (by decide) ?_
          exact J108 _ _ _ _ _ _ _ _ _ _ hw hwo hS (lv_sub hl [0, 1, 2, 3, 4, 5, 6] rfl)
        · replace hw := hw.2 hc_55
          refine lv_iconst (v := 1) hx hb dM_send_103 (by decide) ?_
          refine lv_goto (tgt := 108) hx hb dM_send_104 (by decide) ?_
          exact J108 _ _ _ _ _ _ _ _ _ _ hw hwo hS (lv_sub hl [0, 1, 2, 3, 4, 5, 6] rfl)
      intro x5_43 V U H locs ls hw hwo hS hl
      replace hw : bl_M_send_43 θ a0_43 x1_43 x2_43 x3_43 x4_43 K (wl_M_send_43 θ a0_43 x1_43 x2_43 x3_43 x4_43 K n43) x5_43 V U := hw
      unfold bl_M_send_43 at hw
      refine lv_iload hx hb dM_send_43 (lv_at hl 5 rfl) ?_
      refine lv_iload_n hx hb dM_send_45 rfl (lv_at hl 3 rfl) ?_
      refine lv_icmp_ge (tgt := 182) hx hb dM_send_46 (by decide) (fun hc_15 => ?_) (fun hc_15 => ?_)
      · replace hw := hw.1 hc_15
        refine lv_iload hx hb dM_send_182 (lv_at hl 4 rfl) ?_
        refine lv_bipush (v := 6) hx hb dM_send_184 (by decide) ?_
        obtain ⟨hd_16, hw⟩ := hw
        refine lv_idiv hx hb dM_send_186 hd_16 ?_
        refine lv_topi (fun y_17 ey_17 => ?_)
        replace hw := hw y_17 ey_17
        refine lv_istore (i := 5) (lv' := [(5, .int y_17), (0, .ref a0_43), (1, .int x1_43), (2, .int x2_43), (3, .int x3_43), (4, .int x4_43)]) hx hb dM_send_187 hl (by decide) rfl (fun ls hl => ?_)
        refine lv_bipush (v := 20) hx hb dM_send_189 (by decide) ?_
        refine lv_iload hx hb dM_send_191 (lv_at hl 0 rfl) ?_
        refine lv_imul hx hb dM_send_193 ?_
        refine lv_topi (fun y_18 ey_18 => ?_)
        replace hw := hw y_18 ey_18
        refine lv_istore (i := 6) (lv' := [(6, .int y_18), (5, .int y_17), (0, .ref a0_43), (1, .int x1_43), (2, .int x2_43), (3, .int x3_43), (4, .int x4_43)]) hx hb dM_send_194 hl (by decide) rfl (fun ls hl => ?_)
        refine lv_iconst (v := 0) hx hb dM_send_196 (by decide) ?_
        refine lv_istore (i := 7) (lv' := [(7, .int (0 : Int32)), (6, .int y_18), (5, .int y_17), (0, .ref a0_43), (1, .int x1_43), (2, .int x2_43), (3, .int x3_43), (4, .int x4_43)]) hx hb dM_send_197 hl (by decide) rfl (fun ls hl => ?_)
        obtain ⟨n, hw⟩ := hw
        exact L199 _ _ _ _ n _ _ _ _ _ _ _ hw hwo hS (lv_sub hl [3, 4, 7, 2, 1, 0] rfl)
      · replace hw := hw.2 hc_15
        refine lv_bipush (v := 16) hx hb dM_send_49 (by decide) ?_
        refine lv_iload_n hx hb dM_send_51 rfl (lv_at hl 1 rfl) ?_
        refine lv_imul hx hb dM_send_52 ?_
        refine lv_aload_n hx hb dM_send_53 rfl (lv_at hl 0 rfl) ?_
        obtain ⟨ho_19, hw⟩ := hw
        obtain ⟨hz_20, hw⟩ := hw
        refine g_getR hC fkM_28 rfl hwo ho_19 hz_20 dM_send_54 ?_
        refine lv_iload_n hx hb dM_send_57 rfl (lv_at hl 1 rfl) ?_
        obtain ⟨n_21, ha_22, hw⟩ := hw
        obtain ⟨hi_23, hw⟩ := hw
        refine g_iald hC hwo ha_22 hi_23 dM_send_58 ?_
        refine lv_iadd hx hb dM_send_59 ?_
        refine lv_iload hx hb dM_send_60 (lv_at hl 5 rfl) ?_
        refine lv_iadd hx hb dM_send_62 ?_
        refine lv_topi (fun y_24 ey_24 => ?_)
        replace hw := hw y_24 ey_24
        refine lv_istore (i := 6) (lv' := [(6, .int y_24), (0, .ref a0_43), (1, .int x1_43), (2, .int x2_43), (3, .int x3_43), (4, .int x4_43), (5, .int x5_43)]) hx hb dM_send_63 hl (by decide) rfl (fun ls hl => ?_)
        refine lv_aload_n hx hb dM_send_65 rfl (lv_at hl 1 rfl) ?_
        obtain ⟨hz_25, hw⟩ := hw
        refine g_getR hC fkM_16 rfl hwo ho_19 hz_25 dM_send_66 ?_
        refine lv_iload hx hb dM_send_69 (lv_at hl 0 rfl) ?_
        refine lv_iload hx hb dM_send_71 (lv_at hl 6 rfl) ?_
        refine lv_iload_n hx hb dM_send_73 rfl (lv_at hl 4 rfl) ?_
        refine lv_iconst (v := 1) hx hb dM_send_74 (by decide) ?_
        refine lv_isub hx hb dM_send_75 ?_
        refine lv_icmp_ge (tgt := 84) hx hb dM_send_76 (by decide) (fun hc_26 => ?_) (fun hc_26 => ?_)
        · replace hw := hw.1 hc_26
          refine lv_aload_n hx hb dM_send_84 rfl (lv_at hl 1 rfl) ?_
          refine g_getI hC fkM_152 rfl hwo ho_19 dM_send_85 ?_
          refine lv_bipush (v := 15) hx hb dM_send_88 (by decide) ?_
          obtain ⟨hd_27, hw⟩ := hw
          refine lv_irem hx hb dM_send_90 hd_27 ?_
          exact J91 _ _ _ _ _ _ _ _ _ _ hw hwo hS (lv_sub hl [1, 2, 3, 4, 5, 6, 0] rfl)
        · replace hw := hw.2 hc_26
          refine lv_bipush (v := 15) hx hb dM_send_79 (by decide) ?_
          refine lv_goto (tgt := 91) hx hb dM_send_81 (by decide) ?_
          exact J91 _ _ _ _ _ _ _ _ _ _ hw hwo hS (lv_sub hl [1, 2, 3, 4, 5, 6, 0] rfl)
  unfold wp_M_send at hw
  refine lv_aload_n hx hb dM_send_0 rfl (lv_at hl 0 rfl) ?_
  refine lv_iload_n hx hb dM_send_1 rfl (lv_at hl 1 rfl) ?_
  obtain ⟨ho_3, hw⟩ := hw
  refine g_Vi (rest := []) hC (c_M_noStream l θ _ _ _ _ _ hw) mi_M_noStream mlM_155 mv_M_noStream ci_12 ho_3 hwo hS ⟨rfl, rfl⟩ ⟨by decide, by decide⟩ rfl hl.1 rfl (Nat.le_of_ble_eq_true rfl) dM_send_2 (fun r_4 V_1 U_2 hw H locs hwo hS => ?_)
  refine lv_if_ne (tgt := 18) hx hb dM_send_5 (by decide) (fun hc_5 => ?_) (fun hc_5 => ?_)
  · replace hw := hw.1 hc_5
    refine lv_iconst (v := -1) hx hb dM_send_18 (by decide) ?_
    exact g_iret hC hr hlk hw hwo hS dM_send_19
  · replace hw := hw.2 hc_5
    refine lv_iload_n hx hb dM_send_8 rfl (lv_at hl 2 rfl) ?_
    refine lv_if_lt (tgt := 18) hx hb dM_send_9 (by decide) (fun hc_6 => ?_) (fun hc_6 => ?_)
    · replace hw := hw.1 hc_6
      refine lv_iconst (v := -1) hx hb dM_send_18 (by decide) ?_
      exact g_iret hC hr hlk hw hwo hS dM_send_19
    · replace hw := hw.2 hc_6
      refine lv_iload_n hx hb dM_send_12 rfl (lv_at hl 2 rfl) ?_
      refine lv_ldc hx hb hC.2.2.2.1 (hC.2.2.2.2.1 _ kcM_159) dM_send_13 ?_
      refine lv_icmp_le (tgt := 20) hx hb dM_send_15 (by decide) (fun hc_7 => ?_) (fun hc_7 => ?_)
      · replace hw := hw.1 hc_7
        refine lv_aload_n hx hb dM_send_20 rfl (lv_at hl 0 rfl) ?_
        refine g_getI hC fkM_152 rfl hwo ho_3 dM_send_21 ?_
        refine lv_bipush (v := 15) hx hb dM_send_24 (by decide) ?_
        obtain ⟨hd_8, hw⟩ := hw
        refine lv_idiv hx hb dM_send_26 hd_8 ?_
        refine lv_iconst (v := 1) hx hb dM_send_27 (by decide) ?_
        refine lv_iadd hx hb dM_send_28 ?_
        refine lv_topi (fun y_9 ey_9 => ?_)
        replace hw := hw y_9 ey_9
        refine lv_istore_n (i := 3) (lv' := [(3, .int y_9), (0, .ref a0), (1, .int x1), (2, .int x2)]) hx hb dM_send_29 rfl hl (by decide) rfl (fun ls hl => ?_)
        refine lv_aload_n hx hb dM_send_30 rfl (lv_at hl 1 rfl) ?_
        obtain ⟨hz_10, hw⟩ := hw
        refine g_getR hC fkM_28 rfl hwo ho_3 hz_10 dM_send_31 ?_
        refine lv_iload_n hx hb dM_send_34 rfl (lv_at hl 2 rfl) ?_
        obtain ⟨n_11, ha_12, hw⟩ := hw
        obtain ⟨hi_13, hw⟩ := hw
        refine g_iald hC hwo ha_12 hi_13 dM_send_35 ?_
        refine lv_iload_n hx hb dM_send_36 rfl (lv_at hl 0 rfl) ?_
        refine lv_iadd hx hb dM_send_37 ?_
        refine lv_topi (fun y_14 ey_14 => ?_)
        replace hw := hw y_14 ey_14
        refine lv_istore (i := 4) (lv' := [(4, .int y_14), (3, .int y_9), (0, .ref a0), (1, .int x1), (2, .int x2)]) hx hb dM_send_38 hl (by decide) rfl (fun ls hl => ?_)
        refine lv_iconst (v := 0) hx hb dM_send_40 (by decide) ?_
        refine lv_istore (i := 5) (lv' := [(5, .int (0 : Int32)), (4, .int y_14), (3, .int y_9), (0, .ref a0), (1, .int x1), (2, .int x2)]) hx hb dM_send_41 hl (by decide) rfl (fun ls hl => ?_)
        obtain ⟨n, hw⟩ := hw
        exact L43 _ _ _ _ _ n _ _ _ _ _ _ hw hwo hS (lv_sub hl [3, 4, 5, 2, 1, 0] rfl)
      · replace hw := hw.2 hc_7
        refine lv_iconst (v := -1) hx hb dM_send_18 (by decide) ?_
        exact g_iret hC hr hlk hw hwo hS dM_send_19
theorem dM_flush_0 : decode kM_flush 0 = .ok (.aload_n 0, 1) := by decide +kernel
theorem dM_flush_1 : decode kM_flush 1 = .ok (.iload_n 1, 1) := by decide +kernel
theorem dM_flush_2 : decode kM_flush 2 = .ok (.invokevirtual 155, 3) := by decide +kernel
theorem dM_flush_5 : decode kM_flush 5 = .ok (.ifCond .eq 5, 3) := by decide +kernel
theorem dM_flush_8 : decode kM_flush 8 = .ok (.iconst (-1), 1) := by decide +kernel
theorem dM_flush_9 : decode kM_flush 9 = .ok (.ireturn, 1) := by decide +kernel
theorem dM_flush_10 : decode kM_flush 10 = .ok (.aload_n 0, 1) := by decide +kernel
theorem dM_flush_11 : decode kM_flush 11 = .ok (.getfield 28, 3) := by decide +kernel
theorem dM_flush_14 : decode kM_flush 14 = .ok (.iload_n 1, 1) := by decide +kernel
theorem dM_flush_15 : decode kM_flush 15 = .ok (.iaload, 1) := by decide +kernel
theorem dM_flush_16 : decode kM_flush 16 = .ok (.istore_n 3, 1) := by decide +kernel
theorem dM_flush_17 : decode kM_flush 17 = .ok (.bipush 14, 2) := by decide +kernel
theorem dM_flush_19 : decode kM_flush 19 = .ok (.iload_n 3, 1) := by decide +kernel
theorem dM_flush_20 : decode kM_flush 20 = .ok (.iadd, 1) := by decide +kernel
theorem dM_flush_21 : decode kM_flush 21 = .ok (.istore 4, 2) := by decide +kernel
theorem dM_flush_23 : decode kM_flush 23 = .ok (.iconst 0, 1) := by decide +kernel
theorem dM_flush_24 : decode kM_flush 24 = .ok (.istore 5, 2) := by decide +kernel
theorem dM_flush_26 : decode kM_flush 26 = .ok (.iload 5, 2) := by decide +kernel
theorem dM_flush_28 : decode kM_flush 28 = .ok (.iload_n 3, 1) := by decide +kernel
theorem dM_flush_29 : decode kM_flush 29 = .ok (.if_icmp .ge 26, 3) := by decide +kernel
theorem dM_flush_32 : decode kM_flush 32 = .ok (.iload 4, 2) := by decide +kernel
theorem dM_flush_34 : decode kM_flush 34 = .ok (.aload_n 0, 1) := by decide +kernel
theorem dM_flush_35 : decode kM_flush 35 = .ok (.getfield 16, 3) := by decide +kernel
theorem dM_flush_38 : decode kM_flush 38 = .ok (.bipush 16, 2) := by decide +kernel
theorem dM_flush_40 : decode kM_flush 40 = .ok (.iload_n 1, 1) := by decide +kernel
theorem dM_flush_41 : decode kM_flush 41 = .ok (.imul, 1) := by decide +kernel
theorem dM_flush_42 : decode kM_flush 42 = .ok (.iload 5, 2) := by decide +kernel
theorem dM_flush_44 : decode kM_flush 44 = .ok (.iadd, 1) := by decide +kernel
theorem dM_flush_45 : decode kM_flush 45 = .ok (.iaload, 1) := by decide +kernel
theorem dM_flush_46 : decode kM_flush 46 = .ok (.iadd, 1) := by decide +kernel
theorem dM_flush_47 : decode kM_flush 47 = .ok (.istore 4, 2) := by decide +kernel
theorem dM_flush_49 : decode kM_flush 49 = .ok (.iinc 5 1, 3) := by decide +kernel
theorem dM_flush_52 : decode kM_flush 52 = .ok (.goto (-26), 3) := by decide +kernel
theorem dM_flush_55 : decode kM_flush 55 = .ok (.aload_n 0, 1) := by decide +kernel
theorem dM_flush_56 : decode kM_flush 56 = .ok (.getfield 132, 3) := by decide +kernel
theorem dM_flush_59 : decode kM_flush 59 = .ok (.iload 4, 2) := by decide +kernel
theorem dM_flush_61 : decode kM_flush 61 = .ok (.iadd, 1) := by decide +kernel
theorem dM_flush_62 : decode kM_flush 62 = .ok (.sipush 1000, 3) := by decide +kernel
theorem dM_flush_65 : decode kM_flush 65 = .ok (.if_icmp .le 5, 3) := by decide +kernel
theorem dM_flush_68 : decode kM_flush 68 = .ok (.iconst (-1), 1) := by decide +kernel
theorem dM_flush_69 : decode kM_flush 69 = .ok (.ireturn, 1) := by decide +kernel
theorem dM_flush_70 : decode kM_flush 70 = .ok (.aload_n 0, 1) := by decide +kernel
theorem dM_flush_71 : decode kM_flush 71 = .ok (.iload_n 1, 1) := by decide +kernel
theorem dM_flush_72 : decode kM_flush 72 = .ok (.iload_n 3, 1) := by decide +kernel
theorem dM_flush_73 : decode kM_flush 73 = .ok (.iload_n 2, 1) := by decide +kernel
theorem dM_flush_74 : decode kM_flush 74 = .ok (.invokevirtual 160, 3) := by decide +kernel
theorem dM_flush_77 : decode kM_flush 77 = .ok (.aload_n 0, 1) := by decide +kernel
theorem dM_flush_78 : decode kM_flush 78 = .ok (.getfield 34, 3) := by decide +kernel
theorem dM_flush_81 : decode kM_flush 81 = .ok (.iload_n 1, 1) := by decide +kernel
theorem dM_flush_82 : decode kM_flush 82 = .ok (.iload_n 2, 1) := by decide +kernel
theorem dM_flush_83 : decode kM_flush 83 = .ok (.bastore, 1) := by decide +kernel
theorem dM_flush_84 : decode kM_flush 84 = .ok (.iload_n 3, 1) := by decide +kernel
theorem dM_flush_85 : decode kM_flush 85 = .ok (.ireturn, 1) := by decide +kernel
def bl_M_flush_26 (θ : TH) (a0_26 : Nat) (x1_26 : Int32) (x2_26 : Int32) (x3_26 : Int32) (K : Int32 → VT → UT → Prop) (kb26 : Int32 → Int32 → VT → UT → Prop) (x4_26 : Int32) (x5_26 : Int32) (V : VT) (U : UT) : Prop := ((x3_26 ≤ x5_26 → isO θ a0_26 12 ∧ ((((V a0_26 1) + x4_26) ≤ (1000 : Int32) → wp_M_page θ a0_26 x1_26 x3_26 x2_26 V U (fun V_15 U_16 => (U_16 a0_26 11) ≠ 0 ∧ ∃ n_18, isA θ (U_16 a0_26 11) 1 n_18 ∧ vp_in x1_26 n_18 ∧ isZ x2_26 ∧ ∀ V_22 : VT, V_22 = up2 V_15 (U_16 a0_26 11) x1_26.toNatClampNeg x2_26 → K x3_26 V_22 U_16)) ∧ (¬ ((V a0_26 1) + x4_26) ≤ (1000 : Int32) → K (-1 : Int32) V U))) ∧ (¬ x3_26 ≤ x5_26 → isO θ a0_26 12 ∧ (U a0_26 5) ≠ 0 ∧ ∃ n_25, isA θ (U a0_26 5) 0 n_25 ∧ vp_in (((16 : Int32) * x1_26) + x5_26) n_25 ∧ ∀ y_28 : Int32, y_28 = (x4_26 + (V (U a0_26 5) (((16 : Int32) * x1_26) + x5_26).toNatClampNeg)) → ∀ y_29 : Int32, y_29 = x5_26 + (1 : Int32) → kb26 y_28 y_29 V U))
def wl_M_flush_26 (θ : TH) (a0_26 : Nat) (x1_26 : Int32) (x2_26 : Int32) (x3_26 : Int32) (K : Int32 → VT → UT → Prop) : Nat → Int32 → Int32 → VT → UT → Prop
  | 0, _, _, _, _ => False
  | n + 1, x4_26, x5_26, V, U => bl_M_flush_26 θ a0_26 x1_26 x2_26 x3_26 K (wl_M_flush_26 θ a0_26 x1_26 x2_26 x3_26 K n) x4_26 x5_26 V U
def wp_M_flush (θ : TH) (a0 : Nat) (x1 : Int32) (x2 : Int32) (V : VT) (U : UT) (K : Int32 → VT → UT → Prop) : Prop := isO θ a0 12 ∧ wp_M_noStream θ a0 x1 V U (fun r_4 V_1 U_2 => ((r_4 = 0 → (U_2 a0 9) ≠ 0 ∧ ∃ n_7, isA θ (U_2 a0 9) 0 n_7 ∧ vp_in x1 n_7 ∧ ∀ y_10 : Int32, y_10 = (V_1 (U_2 a0 9) x1.toNatClampNeg) → ∀ y_11 : Int32, y_11 = ((14 : Int32) + y_10) → ∃ n, wl_M_flush_26 θ a0 x1 x2 y_10 K n y_11 (0 : Int32) V_1 U_2) ∧ (¬ r_4 = 0 → K (-1 : Int32) V_1 U_2)))
set_option maxRecDepth 100000 in
set_option maxHeartbeats 4000000 in
theorem c_M_flush (l : Launch) (θ : TH) (a0 : Nat) (x1 : Int32) (x2 : Int32) (V : VT) (U : UT) (K : Int32 → VT → UT → Prop) (hw : wp_M_flush θ a0 x1 x2 V U K) : CMi l yM_flush kM_flush 6 (some .int) rmM_flush θ [.ref a0, .int x1, .int x2] V U K := by
  refine g_met nRM (by decide +kernel) rfl (Nat.le_of_ble_eq_true rfl) (fun p e s m args below meth c ls hC hr hlk hwo hl => ?_)
  have hx := hC.1
  have hb := hC.2.1
  have hS : Sx θ s s.heap [] := va_S.rf
  have hl : lv_has ls 6 [(0, .ref a0), (1, .int x1), (2, .int x2)] := hl
  have L26 : ∀ (a0_26 : Nat) (x1_26 : Int32) (x2_26 : Int32) (x3_26 : Int32) (n26 : Nat) (x4_26 : Int32) (x5_26 : Int32) (V : VT) (U : UT) (H : Heap) (locs : List Loc) (ls : Array Slot), wl_M_flush_26 θ a0_26 x1_26 x2_26 x3_26 K n26 x4_26 x5_26 V U → wo θ V U H → Sx θ s H locs → lv_has ls 6 [(0, .ref a0_26), (1, .int x1_26), (2, .int x2_26), (3, .int x3_26), (4, .int x4_26), (5, .int x5_26)] → W p l e rmM_flush s m args below meth c H locs 0 0 (MQ below (QI θ K) args s 0 0 (aT θ)) (F0 m 26 ls []) := by
    intro a0_26 x1_26 x2_26 x3_26 n26
    induction n26 with
    | zero => intro x4_26 x5_26 V U H locs ls hw hwo hS hl; exact (show False from hw).elim
    | succ n26 ih26 =>
      intro x4_26 x5_26 V U H locs ls hw hwo hS hl
      replace hw : bl_M_flush_26 θ a0_26 x1_26 x2_26 x3_26 K (wl_M_flush_26 θ a0_26 x1_26 x2_26 x3_26 K n26) x4_26 x5_26 V U := hw
      unfold bl_M_flush_26 at hw
      refine lv_iload hx hb dM_flush_26 (lv_at hl 5 rfl) ?_
      refine lv_iload_n hx hb dM_flush_28 rfl (lv_at hl 3 rfl) ?_
      refine lv_icmp_ge (tgt := 55) hx hb dM_flush_29 (by decide) (fun hc_12 => ?_) (fun hc_12 => ?_)
      · replace hw := hw.1 hc_12
        refine lv_aload_n hx hb dM_flush_55 rfl (lv_at hl 0 rfl) ?_
        obtain ⟨ho_13, hw⟩ := hw
        refine g_getI hC fkM_132 rfl hwo ho_13 dM_flush_56 ?_
        refine lv_iload hx hb dM_flush_59 (lv_at hl 4 rfl) ?_
        refine lv_iadd hx hb dM_flush_61 ?_
        refine lv_sipush (v := 1000) hx hb dM_flush_62 (by decide) ?_
        refine lv_icmp_le (tgt := 70) hx hb dM_flush_65 (by decide) (fun hc_14 => ?_) (fun hc_14 => ?_)
        · replace hw := hw.1 hc_14
          refine lv_aload_n hx hb dM_flush_70 rfl (lv_at hl 0 rfl) ?_
          refine lv_iload_n hx hb dM_flush_71 rfl (lv_at hl 1 rfl) ?_
          refine lv_iload_n hx hb dM_flush_72 rfl (lv_at hl 3 rfl) ?_
          refine lv_iload_n hx hb dM_flush_73 rfl (lv_at hl 2 rfl) ?_
          refine g_Vv (rest := []) hC (c_M_page l θ _ _ _ _ _ _ _ hw) mi_M_page mlM_160 mv_M_page ci_12 ho_13 hwo hS ⟨rfl, rfl⟩ ⟨by decide, by decide⟩ rfl hl.1 rfl (Nat.le_of_ble_eq_true rfl) dM_flush_74 (fun V_15 U_16 hw H locs hwo hS => ?_)
          refine lv_aload_n hx hb dM_flush_77 rfl (lv_at hl 0 rfl) ?_
          obtain ⟨hz_17, hw⟩ := hw
          refine g_getR hC fkM_34 rfl hwo ho_13 hz_17 dM_flush_78 ?_
          refine lv_iload_n hx hb dM_flush_81 rfl (lv_at hl 1 rfl) ?_
          refine lv_iload_n hx hb dM_flush_82 rfl (lv_at hl 2 rfl) ?_
          obtain ⟨n_18, ha_19, hw⟩ := hw
          obtain ⟨hi_20, hw⟩ := hw
          obtain ⟨hb_21, hw⟩ := hw
          refine g_zast hC hwo hS ha_19 hi_20 hb_21 dM_flush_83 (fun V_22 eV_22 H locs hwo hS => ?_)
          replace hw := hw V_22 eV_22
          refine lv_iload_n hx hb dM_flush_84 rfl (lv_at hl 3 rfl) ?_
          exact g_iret hC hr hlk hw hwo hS dM_flush_85
        · replace hw := hw.2 hc_14
          refine lv_iconst (v := -1) hx hb dM_flush_68 (by decide) ?_
          exact g_iret hC hr hlk hw hwo hS dM_flush_69
      · replace hw := hw.2 hc_12
        refine lv_iload hx hb dM_flush_32 (lv_at hl 4 rfl) ?_
        refine lv_aload_n hx hb dM_flush_34 rfl (lv_at hl 0 rfl) ?_
        obtain ⟨ho_23, hw⟩ := hw
        obtain ⟨hz_24, hw⟩ := hw
        refine g_getR hC fkM_16 rfl hwo ho_23 hz_24 dM_flush_35 ?_
        refine lv_bipush (v := 16) hx hb dM_flush_38 (by decide) ?_
        refine lv_iload_n hx hb dM_flush_40 rfl (lv_at hl 1 rfl) ?_
        refine lv_imul hx hb dM_flush_41 ?_
        refine lv_iload hx hb dM_flush_42 (lv_at hl 5 rfl) ?_
        refine lv_iadd hx hb dM_flush_44 ?_
        obtain ⟨n_25, ha_26, hw⟩ := hw
        obtain ⟨hi_27, hw⟩ := hw
        refine g_iald hC hwo ha_26 hi_27 dM_flush_45 ?_
        refine lv_iadd hx hb dM_flush_46 ?_
        refine lv_topi (fun y_28 ey_28 => ?_)
        replace hw := hw y_28 ey_28
        refine lv_istore (i := 4) (lv' := [(4, .int y_28), (0, .ref a0_26), (1, .int x1_26), (2, .int x2_26), (3, .int x3_26), (5, .int x5_26)]) hx hb dM_flush_47 hl (by decide) rfl (fun ls hl => ?_)
        obtain ⟨y_29, ey_29⟩ : ∃ z : Int32, z = x5_26 + (1 : Int32) := ⟨_, rfl⟩
        replace hw := hw y_29 ey_29
        refine lv_iinc (k := 5) (v := y_29) (lv' := [(5, .int y_29), (4, .int y_28), (0, .ref a0_26), (1, .int x1_26), (2, .int x2_26), (3, .int x3_26)]) hx hb dM_flush_49 hl rfl (by rw [ey_29]; rfl) (by decide) rfl (fun ls hl => ?_)
        refine lv_goto (tgt := 26) hx hb dM_flush_52 (by decide) ?_
        exact ih26 _ _ _ _ _ _ _ hw hwo hS (lv_sub hl [2, 3, 4, 5, 1, 0] rfl)
  unfold wp_M_flush at hw
  refine lv_aload_n hx hb dM_flush_0 rfl (lv_at hl 0 rfl) ?_
  refine lv_iload_n hx hb dM_flush_1 rfl (lv_at hl 1 rfl) ?_
  obtain ⟨ho_3, hw⟩ := hw
  refine g_Vi (rest := []) hC (c_M_noStream l θ _ _ _ _ _ hw) mi_M_noStream mlM_155 mv_M_noStream ci_12 ho_3 hwo hS ⟨rfl, rfl⟩ ⟨by decide, by decide⟩ rfl hl.1 rfl (Nat.le_of_ble_eq_true rfl) dM_flush_2 (fun r_4 V_1 U_2 hw H locs hwo hS => ?_)
  refine lv_if_eq (tgt := 10) hx hb dM_flush_5 (by decide) (fun hc_5 => ?_) (fun hc_5 => ?_)
  · replace hw := hw.1 hc_5
    refine lv_aload_n hx hb dM_flush_10 rfl (lv_at hl 0 rfl) ?_
    obtain ⟨hz_6, hw⟩ := hw
    refine g_getR hC fkM_28 rfl hwo ho_3 hz_6 dM_flush_11 ?_
    refine lv_iload_n hx hb dM_flush_14 rfl (lv_at hl 1 rfl) ?_
    obtain ⟨n_7, ha_8, hw⟩ := hw
    obtain ⟨hi_9, hw⟩ := hw
    refine g_iald hC hwo ha_8 hi_9 dM_flush_15 ?_
    refine lv_topi (fun y_10 ey_10 => ?_)
    replace hw := hw y_10 ey_10
    refine lv_istore_n (i := 3) (lv' := [(3, .int y_10), (0, .ref a0), (1, .int x1), (2, .int x2)]) hx hb dM_flush_16 rfl hl (by decide) rfl (fun ls hl => ?_)
    refine lv_bipush (v := 14) hx hb dM_flush_17 (by decide) ?_
    refine lv_iload_n hx hb dM_flush_19 rfl (lv_at hl 0 rfl) ?_
    refine lv_iadd hx hb dM_flush_20 ?_
    refine lv_topi (fun y_11 ey_11 => ?_)
    replace hw := hw y_11 ey_11
    refine lv_istore (i := 4) (lv' := [(4, .int y_11), (3, .int y_10), (0, .ref a0), (1, .int x1), (2, .int x2)]) hx hb dM_flush_21 hl (by decide) rfl (fun ls hl => ?_)
    refine lv_iconst (v := 0) hx hb dM_flush_23 (by decide) ?_
    refine lv_istore (i := 5) (lv' := [(5, .int (0 : Int32)), (4, .int y_11), (3, .int y_10), (0, .ref a0), (1, .int x1), (2, .int x2)]) hx hb dM_flush_24 hl (by decide) rfl (fun ls hl => ?_)
    obtain ⟨n, hw⟩ := hw
    exact L26 _ _ _ _ n _ _ _ _ _ _ _ hw hwo hS (lv_sub hl [3, 4, 5, 2, 1, 0] rfl)
  · replace hw := hw.2 hc_5
    refine lv_iconst (v := -1) hx hb dM_flush_8 (by decide) ?_
    exact g_iret hC hr hlk hw hwo hS dM_flush_9
theorem dM_event_0 : decode kM_event 0 = .ok (.aload_n 0, 1) := by decide +kernel
theorem dM_event_1 : decode kM_event 1 = .ok (.getfield 59, 3) := by decide +kernel
theorem dM_event_4 : decode kM_event 4 = .ok (.aload_n 0, 1) := by decide +kernel
theorem dM_event_5 : decode kM_event 5 = .ok (.getfield 173, 3) := by decide +kernel
theorem dM_event_8 : decode kM_event 8 = .ok (.iload_n 1, 1) := by decide +kernel
theorem dM_event_9 : decode kM_event 9 = .ok (.iastore, 1) := by decide +kernel
theorem dM_event_10 : decode kM_event 10 = .ok (.aload_n 0, 1) := by decide +kernel
theorem dM_event_11 : decode kM_event 11 = .ok (.getfield 62, 3) := by decide +kernel
theorem dM_event_14 : decode kM_event 14 = .ok (.aload_n 0, 1) := by decide +kernel
theorem dM_event_15 : decode kM_event 15 = .ok (.getfield 173, 3) := by decide +kernel
theorem dM_event_18 : decode kM_event 18 = .ok (.iload_n 2, 1) := by decide +kernel
theorem dM_event_19 : decode kM_event 19 = .ok (.iastore, 1) := by decide +kernel
theorem dM_event_20 : decode kM_event 20 = .ok (.aload_n 0, 1) := by decide +kernel
theorem dM_event_21 : decode kM_event 21 = .ok (.getfield 65, 3) := by decide +kernel
theorem dM_event_24 : decode kM_event 24 = .ok (.aload_n 0, 1) := by decide +kernel
theorem dM_event_25 : decode kM_event 25 = .ok (.getfield 173, 3) := by decide +kernel
theorem dM_event_28 : decode kM_event 28 = .ok (.iload_n 3, 1) := by decide +kernel
theorem dM_event_29 : decode kM_event 29 = .ok (.iastore, 1) := by decide +kernel
theorem dM_event_30 : decode kM_event 30 = .ok (.aload_n 0, 1) := by decide +kernel
theorem dM_event_31 : decode kM_event 31 = .ok (.getfield 68, 3) := by decide +kernel
theorem dM_event_34 : decode kM_event 34 = .ok (.aload_n 0, 1) := by decide +kernel
theorem dM_event_35 : decode kM_event 35 = .ok (.getfield 173, 3) := by decide +kernel
theorem dM_event_38 : decode kM_event 38 = .ok (.iload 4, 2) := by decide +kernel
theorem dM_event_40 : decode kM_event 40 = .ok (.bastore, 1) := by decide +kernel
theorem dM_event_41 : decode kM_event 41 = .ok (.aload_n 0, 1) := by decide +kernel
theorem dM_event_42 : decode kM_event 42 = .ok (.dup, 1) := by decide +kernel
theorem dM_event_43 : decode kM_event 43 = .ok (.getfield 173, 3) := by decide +kernel
theorem dM_event_46 : decode kM_event 46 = .ok (.iconst 1, 1) := by decide +kernel
theorem dM_event_47 : decode kM_event 47 = .ok (.iadd, 1) := by decide +kernel
theorem dM_event_48 : decode kM_event 48 = .ok (.putfield 173, 3) := by decide +kernel
theorem dM_event_51 : decode kM_event 51 = .ok (.return_, 1) := by decide +kernel
def wp_M_event (θ : TH) (a0 : Nat) (x1 : Int32) (x2 : Int32) (x3 : Int32) (x4 : Int32) (V : VT) (U : UT) (K : VT → UT → Prop) : Prop := isO θ a0 12 ∧ (U a0 23) ≠ 0 ∧ ∃ n_3, isA θ (U a0 23) 0 n_3 ∧ vp_in (V a0 22) n_3 ∧ ∀ V_6 : VT, V_6 = up2 V (U a0 23) (V a0 22).toNatClampNeg x1 → (U a0 24) ≠ 0 ∧ ∃ n_8, isA θ (U a0 24) 0 n_8 ∧ vp_in (V_6 a0 22) n_8 ∧ ∀ V_11 : VT, V_11 = up2 V_6 (U a0 24) (V_6 a0 22).toNatClampNeg x2 → (U a0 25) ≠ 0 ∧ ∃ n_13, isA θ (U a0 25) 0 n_13 ∧ vp_in (V_11 a0 22) n_13 ∧ ∀ V_16 : VT, V_16 = up2 V_11 (U a0 25) (V_11 a0 22).toNatClampNeg x3 → (U a0 26) ≠ 0 ∧ ∃ n_18, isA θ (U a0 26) 1 n_18 ∧ vp_in (V_16 a0 22) n_18 ∧ isZ x4 ∧ ∀ V_22 : VT, V_22 = up2 V_16 (U a0 26) (V_16 a0 22).toNatClampNeg x4 → ∀ V_23 : VT, V_23 = up2 V_22 a0 22 ((V_22 a0 22) + (1 : Int32)) → K V_23 U
set_option maxRecDepth 100000 in
set_option maxHeartbeats 4000000 in
theorem c_M_event (l : Launch) (θ : TH) (a0 : Nat) (x1 : Int32) (x2 : Int32) (x3 : Int32) (x4 : Int32) (V : VT) (U : UT) (K : VT → UT → Prop) (hw : wp_M_event θ a0 x1 x2 x3 x4 V U K) : CMv l yM_event kM_event 5 none rmM_event θ [.ref a0, .int x1, .int x2, .int x3, .int x4] V U K := by
  refine g_met nRM (by decide +kernel) rfl (Nat.le_of_ble_eq_true rfl) (fun p e s m args below meth c ls hC hr hlk hwo hl => ?_)
  have hx := hC.1
  have hb := hC.2.1
  have hS : Sx θ s s.heap [] := va_S.rf
  have hl : lv_has ls 5 [(0, .ref a0), (1, .int x1), (2, .int x2), (3, .int x3), (4, .int x4)] := hl
  unfold wp_M_event at hw
  refine lv_aload_n hx hb dM_event_0 rfl (lv_at hl 0 rfl) ?_
  obtain ⟨ho_1, hw⟩ := hw
  obtain ⟨hz_2, hw⟩ := hw
  refine g_getR hC fkM_59 rfl hwo ho_1 hz_2 dM_event_1 ?_
  refine lv_aload_n hx hb dM_event_4 rfl (lv_at hl 0 rfl) ?_
  refine g_getI hC fkM_173 rfl hwo ho_1 dM_event_5 ?_
  refine lv_iload_n hx hb dM_event_8 rfl (lv_at hl 1 rfl) ?_
  obtain ⟨n_3, ha_4, hw⟩ := hw
  obtain ⟨hi_5, hw⟩ := hw
  refine g_iast hC hwo hS ha_4 hi_5 dM_event_9 (fun V_6 eV_6 H locs hwo hS => ?_)
  replace hw := hw V_6 eV_6
  refine lv_aload_n hx hb dM_event_10 rfl (lv_at hl 0 rfl) ?_
  obtain ⟨hz_7, hw⟩ := hw
  refine g_getR hC fkM_62 rfl hwo ho_1 hz_7 dM_event_11 ?_
  refine lv_aload_n hx hb dM_event_14 rfl (lv_at hl 0 rfl) ?_
  refine g_getI hC fkM_173 rfl hwo ho_1 dM_event_15 ?_
  refine lv_iload_n hx hb dM_event_18 rfl (lv_at hl 2 rfl) ?_
  obtain ⟨n_8, ha_9, hw⟩ := hw
  obtain ⟨hi_10, hw⟩ := hw
  refine g_iast hC hwo hS ha_9 hi_10 dM_event_19 (fun V_11 eV_11 H locs hwo hS => ?_)
  replace hw := hw V_11 eV_11
  refine lv_aload_n hx hb dM_event_20 rfl (lv_at hl 0 rfl) ?_
  obtain ⟨hz_12, hw⟩ := hw
  refine g_getR hC fkM_65 rfl hwo ho_1 hz_12 dM_event_21 ?_
  refine lv_aload_n hx hb dM_event_24 rfl (lv_at hl 0 rfl) ?_
  refine g_getI hC fkM_173 rfl hwo ho_1 dM_event_25 ?_
  refine lv_iload_n hx hb dM_event_28 rfl (lv_at hl 3 rfl) ?_
  obtain ⟨n_13, ha_14, hw⟩ := hw
  obtain ⟨hi_15, hw⟩ := hw
  refine g_iast hC hwo hS ha_14 hi_15 dM_event_29 (fun V_16 eV_16 H locs hwo hS => ?_)
  replace hw := hw V_16 eV_16
  refine lv_aload_n hx hb dM_event_30 rfl (lv_at hl 0 rfl) ?_
  obtain ⟨hz_17, hw⟩ := hw
  refine g_getR hC fkM_68 rfl hwo ho_1 hz_17 dM_event_31 ?_
  refine lv_aload_n hx hb dM_event_34 rfl (lv_at hl 0 rfl) ?_
  refine g_getI hC fkM_173 rfl hwo ho_1 dM_event_35 ?_
  refine lv_iload hx hb dM_event_38 (lv_at hl 4 rfl) ?_
  obtain ⟨n_18, ha_19, hw⟩ := hw
  obtain ⟨hi_20, hw⟩ := hw
  obtain ⟨hb_21, hw⟩ := hw
  refine g_zast hC hwo hS ha_19 hi_20 hb_21 dM_event_40 (fun V_22 eV_22 H locs hwo hS => ?_)
  replace hw := hw V_22 eV_22
  refine lv_aload_n hx hb dM_event_41 rfl (lv_at hl 0 rfl) ?_
  refine lv_dup hx hb dM_event_42 rfl ?_
  refine g_getI hC fkM_173 rfl hwo ho_1 dM_event_43 ?_
  refine lv_iconst (v := 1) hx hb dM_event_46 (by decide) ?_
  refine lv_iadd hx hb dM_event_47 ?_
  refine g_putI hC fkM_173 rfl hwo hS ho_1 dM_event_48 (fun V_23 eV_23 H locs hwo hS => ?_)
  replace hw := hw V_23 eV_23
  exact g_vret hC hr hlk hw hwo hS dM_event_51
theorem dM_drop_0 : decode kM_drop 0 = .ok (.aload_n 0, 1) := by decide +kernel
theorem dM_drop_1 : decode kM_drop 1 = .ok (.dup, 1) := by decide +kernel
theorem dM_drop_2 : decode kM_drop 2 = .ok (.getfield 176, 3) := by decide +kernel
theorem dM_drop_5 : decode kM_drop 5 = .ok (.aload_n 0, 1) := by decide +kernel
theorem dM_drop_6 : decode kM_drop 6 = .ok (.getfield 50, 3) := by decide +kernel
theorem dM_drop_9 : decode kM_drop 9 = .ok (.iload_n 1, 1) := by decide +kernel
theorem dM_drop_10 : decode kM_drop 10 = .ok (.baload, 1) := by decide +kernel
theorem dM_drop_11 : decode kM_drop 11 = .ok (.ifCond .eq 7, 3) := by decide +kernel
theorem dM_drop_14 : decode kM_drop 14 = .ok (.iconst 1, 1) := by decide +kernel
theorem dM_drop_15 : decode kM_drop 15 = .ok (.goto 4, 3) := by decide +kernel
theorem dM_drop_18 : decode kM_drop 18 = .ok (.iconst 0, 1) := by decide +kernel
theorem dM_drop_19 : decode kM_drop 19 = .ok (.iadd, 1) := by decide +kernel
theorem dM_drop_20 : decode kM_drop 20 = .ok (.putfield 176, 3) := by decide +kernel
theorem dM_drop_23 : decode kM_drop 23 = .ok (.aload_n 0, 1) := by decide +kernel
theorem dM_drop_24 : decode kM_drop 24 = .ok (.getfield 50, 3) := by decide +kernel
theorem dM_drop_27 : decode kM_drop 27 = .ok (.iload_n 1, 1) := by decide +kernel
theorem dM_drop_28 : decode kM_drop 28 = .ok (.iconst 0, 1) := by decide +kernel
theorem dM_drop_29 : decode kM_drop 29 = .ok (.bastore, 1) := by decide +kernel
theorem dM_drop_30 : decode kM_drop 30 = .ok (.aload_n 0, 1) := by decide +kernel
theorem dM_drop_31 : decode kM_drop 31 = .ok (.getfield 53, 3) := by decide +kernel
theorem dM_drop_34 : decode kM_drop 34 = .ok (.iload_n 1, 1) := by decide +kernel
theorem dM_drop_35 : decode kM_drop 35 = .ok (.iconst 0, 1) := by decide +kernel
theorem dM_drop_36 : decode kM_drop 36 = .ok (.iastore, 1) := by decide +kernel
theorem dM_drop_37 : decode kM_drop 37 = .ok (.return_, 1) := by decide +kernel
def wb_M_drop_19 (θ : TH) (a0_19 : Nat) (x1_19 : Int32) (z0_19 : Int32) (z1_19 : Int32) (z2_19 : Nat) (K : VT → UT → Prop) (V : VT) (U : UT) : Prop := isO θ z2_19 12 ∧ ∀ V_8 : VT, V_8 = up2 V z2_19 21 (z1_19 + z0_19) → isO θ a0_19 12 ∧ (U a0_19 18) ≠ 0 ∧ ∃ n_11, isA θ (U a0_19 18) 1 n_11 ∧ vp_in x1_19 n_11 ∧ ∀ V_14 : VT, V_14 = up2 V_8 (U a0_19 18) x1_19.toNatClampNeg (0 : Int32) → (U a0_19 19) ≠ 0 ∧ ∃ n_16, isA θ (U a0_19 19) 0 n_16 ∧ vp_in x1_19 n_16 ∧ ∀ V_19 : VT, V_19 = up2 V_14 (U a0_19 19) x1_19.toNatClampNeg (0 : Int32) → K V_19 U
def wp_M_drop (θ : TH) (a0 : Nat) (x1 : Int32) (V : VT) (U : UT) (K : VT → UT → Prop) : Prop := isO θ a0 12 ∧ (U a0 18) ≠ 0 ∧ ∃ n_3, isA θ (U a0 18) 1 n_3 ∧ vp_in x1 n_3 ∧ (((V (U a0 18) x1.toNatClampNeg) = 0 → wb_M_drop_19 θ a0 x1 (0 : Int32) (V a0 21) a0 K V U) ∧ (¬ (V (U a0 18) x1.toNatClampNeg) = 0 → wb_M_drop_19 θ a0 x1 (1 : Int32) (V a0 21) a0 K V U))
set_option maxRecDepth 100000 in
set_option maxHeartbeats 4000000 in
theorem c_M_drop (l : Launch) (θ : TH) (a0 : Nat) (x1 : Int32) (V : VT) (U : UT) (K : VT → UT → Prop) (hw : wp_M_drop θ a0 x1 V U K) : CMv l yM_drop kM_drop 2 none rmM_drop θ [.ref a0, .int x1] V U K := by
  refine g_met nRM (by decide +kernel) rfl (Nat.le_of_ble_eq_true rfl) (fun p e s m args below meth c ls hC hr hlk hwo hl => ?_)
  have hx := hC.1
  have hb := hC.2.1
  have hS : Sx θ s s.heap [] := va_S.rf
  have hl : lv_has ls 2 [(0, .ref a0), (1, .int x1)] := hl
  have J19 : ∀ (a0_19 : Nat) (x1_19 : Int32) (z0_19 : Int32) (z1_19 : Int32) (z2_19 : Nat) (V : VT) (U : UT) (H : Heap) (locs : List Loc) (ls : Array Slot), wb_M_drop_19 θ a0_19 x1_19 z0_19 z1_19 z2_19 K V U → wo θ V U H → Sx θ s H locs → lv_has ls 2 [(0, .ref a0_19), (1, .int x1_19)] → W p l e rmM_drop s m args below meth c H locs 0 0 (MQ below (QV θ K) args s 0 0 (aT θ)) (F0 m 19 ls [.int z0_19, .int z1_19, .ref z2_19]) := by
    intro a0_19 x1_19 z0_19 z1_19 z2_19 V U H locs ls hw hwo hS hl
    unfold wb_M_drop_19 at hw
    refine lv_iadd hx hb dM_drop_19 ?_
    obtain ⟨ho_7, hw⟩ := hw
    refine g_putI hC fkM_176 rfl hwo hS ho_7 dM_drop_20 (fun V_8 eV_8 H locs hwo hS => ?_)
    replace hw := hw V_8 eV_8
    refine lv_aload_n hx hb dM_drop_23 rfl (lv_at hl 0 rfl) ?_
    obtain ⟨ho_9, hw⟩ := hw
    obtain ⟨hz_10, hw⟩ := hw
    refine g_getR hC fkM_50 rfl hwo ho_9 hz_10 dM_drop_24 ?_
    refine lv_iload_n hx hb dM_drop_27 rfl (lv_at hl 1 rfl) ?_
    refine lv_iconst (v := 0) hx hb dM_drop_28 (by decide) ?_
    obtain ⟨n_11, ha_12, hw⟩ := hw
    obtain ⟨hi_13, hw⟩ := hw
    refine g_zast hC hwo hS ha_12 hi_13 (Or.inl rfl) dM_drop_29 (fun V_14 eV_14 H locs hwo hS => ?_)
    replace hw := hw V_14 eV_14
    refine lv_aload_n hx hb dM_drop_30 rfl (lv_at hl 0 rfl) ?_
    obtain ⟨hz_15, hw⟩ := hw
    refine g_getR hC fkM_53 rfl hwo ho_9 hz_15 dM_drop_31 ?_
    refine lv_iload_n hx hb dM_drop_34 rfl (lv_at hl 1 rfl) ?_
    refine lv_iconst (v := 0) hx hb dM_drop_35 (by decide) ?_
    obtain ⟨n_16, ha_17, hw⟩ := hw
    obtain ⟨hi_18, hw⟩ := hw
    refine g_iast hC hwo hS ha_17 hi_18 dM_drop_36 (fun V_19 eV_19 H locs hwo hS => ?_)
    replace hw := hw V_19 eV_19
    exact g_vret hC hr hlk hw hwo hS dM_drop_37
  unfold wp_M_drop at hw
  refine lv_aload_n hx hb dM_drop_0 rfl (lv_at hl 0 rfl) ?_
  refine lv_dup hx hb dM_drop_1 rfl ?_
  obtain ⟨ho_1, hw⟩ := hw
  refine g_getI hC fkM_176 rfl hwo ho_1 dM_drop_2 ?_
  refine lv_aload_n hx hb dM_drop_5 rfl (lv_at hl 0 rfl) ?_
  obtain ⟨hz_2, hw⟩ := hw
  refine g_getR hC fkM_50 rfl hwo ho_1 hz_2 dM_drop_6 ?_
  refine lv_iload_n hx hb dM_drop_9 rfl (lv_at hl 1 rfl) ?_
  obtain ⟨n_3, ha_4, hw⟩ := hw
  obtain ⟨hi_5, hw⟩ := hw
  refine g_zald hC hwo ha_4 hi_5 dM_drop_10 ?_
  refine lv_if_eq (tgt := 18) hx hb dM_drop_11 (by decide) (fun hc_6 => ?_) (fun hc_6 => ?_)
  · replace hw := hw.1 hc_6
    refine lv_iconst (v := 0) hx hb dM_drop_18 (by decide) ?_
    exact J19 _ _ _ _ _ _ _ _ _ _ hw hwo hS (lv_sub hl [0, 1] rfl)
  · replace hw := hw.2 hc_6
    refine lv_iconst (v := 1) hx hb dM_drop_14 (by decide) ?_
    refine lv_goto (tgt := 19) hx hb dM_drop_15 (by decide) ?_
    exact J19 _ _ _ _ _ _ _ _ _ _ hw hwo hS (lv_sub hl [0, 1] rfl)
theorem dM_stream_0 : decode kM_stream 0 = .ok (.aload_n 0, 1) := by decide +kernel
theorem dM_stream_1 : decode kM_stream 1 = .ok (.getfield 7, 3) := by decide +kernel
theorem dM_stream_4 : decode kM_stream 4 = .ok (.iload_n 1, 1) := by decide +kernel
theorem dM_stream_5 : decode kM_stream 5 = .ok (.iconst 5, 1) := by decide +kernel
theorem dM_stream_6 : decode kM_stream 6 = .ok (.iadd, 1) := by decide +kernel
theorem dM_stream_7 : decode kM_stream 7 = .ok (.iaload, 1) := by decide +kernel
theorem dM_stream_8 : decode kM_stream 8 = .ok (.istore_n 2, 1) := by decide +kernel
theorem dM_stream_9 : decode kM_stream 9 = .ok (.iconst (-1), 1) := by decide +kernel
theorem dM_stream_10 : decode kM_stream 10 = .ok (.istore_n 3, 1) := by decide +kernel
theorem dM_stream_11 : decode kM_stream 11 = .ok (.iconst (-1), 1) := by decide +kernel
theorem dM_stream_12 : decode kM_stream 12 = .ok (.istore 4, 2) := by decide +kernel
theorem dM_stream_14 : decode kM_stream 14 = .ok (.iconst 0, 1) := by decide +kernel
theorem dM_stream_15 : decode kM_stream 15 = .ok (.istore 5, 2) := by decide +kernel
theorem dM_stream_17 : decode kM_stream 17 = .ok (.iload 5, 2) := by decide +kernel
theorem dM_stream_19 : decode kM_stream 19 = .ok (.iconst 3, 1) := by decide +kernel
theorem dM_stream_20 : decode kM_stream 20 = .ok (.if_icmp .ge 46, 3) := by decide +kernel
theorem dM_stream_23 : decode kM_stream 23 = .ok (.aload_n 0, 1) := by decide +kernel
theorem dM_stream_24 : decode kM_stream 24 = .ok (.getfield 41, 3) := by decide +kernel
theorem dM_stream_27 : decode kM_stream 27 = .ok (.iload 5, 2) := by decide +kernel
theorem dM_stream_29 : decode kM_stream 29 = .ok (.iaload, 1) := by decide +kernel
theorem dM_stream_30 : decode kM_stream 30 = .ok (.iload_n 2, 1) := by decide +kernel
theorem dM_stream_31 : decode kM_stream 31 = .ok (.if_icmp .ne 8, 3) := by decide +kernel
theorem dM_stream_34 : decode kM_stream 34 = .ok (.iload 5, 2) := by decide +kernel
theorem dM_stream_36 : decode kM_stream 36 = .ok (.goto 4, 3) := by decide +kernel
theorem dM_stream_39 : decode kM_stream 39 = .ok (.iload_n 3, 1) := by decide +kernel
theorem dM_stream_40 : decode kM_stream 40 = .ok (.istore_n 3, 1) := by decide +kernel
theorem dM_stream_41 : decode kM_stream 41 = .ok (.aload_n 0, 1) := by decide +kernel
theorem dM_stream_42 : decode kM_stream 42 = .ok (.getfield 41, 3) := by decide +kernel
theorem dM_stream_45 : decode kM_stream 45 = .ok (.iload 5, 2) := by decide +kernel
theorem dM_stream_47 : decode kM_stream 47 = .ok (.iaload, 1) := by decide +kernel
theorem dM_stream_48 : decode kM_stream 48 = .ok (.ifCond .ge 8, 3) := by decide +kernel
theorem dM_stream_51 : decode kM_stream 51 = .ok (.iload 5, 2) := by decide +kernel
theorem dM_stream_53 : decode kM_stream 53 = .ok (.goto 5, 3) := by decide +kernel
theorem dM_stream_56 : decode kM_stream 56 = .ok (.iload 4, 2) := by decide +kernel
theorem dM_stream_58 : decode kM_stream 58 = .ok (.istore 4, 2) := by decide +kernel
theorem dM_stream_60 : decode kM_stream 60 = .ok (.iinc 5 1, 3) := by decide +kernel
theorem dM_stream_63 : decode kM_stream 63 = .ok (.goto (-46), 3) := by decide +kernel
theorem dM_stream_66 : decode kM_stream 66 = .ok (.iload_n 3, 1) := by decide +kernel
theorem dM_stream_67 : decode kM_stream 67 = .ok (.ifCond .ge 23, 3) := by decide +kernel
theorem dM_stream_70 : decode kM_stream 70 = .ok (.iload 4, 2) := by decide +kernel
theorem dM_stream_72 : decode kM_stream 72 = .ok (.ifCond .ge 18, 3) := by decide +kernel
theorem dM_stream_75 : decode kM_stream 75 = .ok (.aload_n 0, 1) := by decide +kernel
theorem dM_stream_76 : decode kM_stream 76 = .ok (.iconst 5, 1) := by decide +kernel
theorem dM_stream_77 : decode kM_stream 77 = .ok (.aload_n 0, 1) := by decide +kernel
theorem dM_stream_78 : decode kM_stream 78 = .ok (.iload_n 1, 1) := by decide +kernel
theorem dM_stream_79 : decode kM_stream 79 = .ok (.invokevirtual 145, 3) := by decide +kernel
theorem dM_stream_82 : decode kM_stream 82 = .ok (.ldc 164, 2) := by decide +kernel
theorem dM_stream_84 : decode kM_stream 84 = .ok (.iconst 0, 1) := by decide +kernel
theorem dM_stream_85 : decode kM_stream 85 = .ok (.invokevirtual 192, 3) := by decide +kernel
theorem dM_stream_88 : decode kM_stream 88 = .ok (.iconst (-1), 1) := by decide +kernel
theorem dM_stream_89 : decode kM_stream 89 = .ok (.ireturn, 1) := by decide +kernel
theorem dM_stream_90 : decode kM_stream 90 = .ok (.aload_n 0, 1) := by decide +kernel
theorem dM_stream_91 : decode kM_stream 91 = .ok (.getfield 7, 3) := by decide +kernel
theorem dM_stream_94 : decode kM_stream 94 = .ok (.iload_n 1, 1) := by decide +kernel
theorem dM_stream_95 : decode kM_stream 95 = .ok (.bipush 6, 2) := by decide +kernel
theorem dM_stream_97 : decode kM_stream 97 = .ok (.iadd, 1) := by decide +kernel
theorem dM_stream_98 : decode kM_stream 98 = .ok (.iaload, 1) := by decide +kernel
theorem dM_stream_99 : decode kM_stream 99 = .ok (.istore 5, 2) := by decide +kernel
theorem dM_stream_101 : decode kM_stream 101 = .ok (.iload_n 3, 1) := by decide +kernel
theorem dM_stream_102 : decode kM_stream 102 = .ok (.ifCond .ge 37, 3) := by decide +kernel
theorem dM_stream_105 : decode kM_stream 105 = .ok (.iload 4, 2) := by decide +kernel
theorem dM_stream_107 : decode kM_stream 107 = .ok (.istore_n 3, 1) := by decide +kernel
theorem dM_stream_108 : decode kM_stream 108 = .ok (.aload_n 0, 1) := by decide +kernel
theorem dM_stream_109 : decode kM_stream 109 = .ok (.getfield 41, 3) := by decide +kernel
theorem dM_stream_112 : decode kM_stream 112 = .ok (.iload_n 3, 1) := by decide +kernel
theorem dM_stream_113 : decode kM_stream 113 = .ok (.iload_n 2, 1) := by decide +kernel
theorem dM_stream_114 : decode kM_stream 114 = .ok (.iastore, 1) := by decide +kernel
theorem dM_stream_115 : decode kM_stream 115 = .ok (.aload_n 0, 1) := by decide +kernel
theorem dM_stream_116 : decode kM_stream 116 = .ok (.getfield 47, 3) := by decide +kernel
theorem dM_stream_119 : decode kM_stream 119 = .ok (.iload_n 3, 1) := by decide +kernel
theorem dM_stream_120 : decode kM_stream 120 = .ok (.iconst 0, 1) := by decide +kernel
theorem dM_stream_121 : decode kM_stream 121 = .ok (.iastore, 1) := by decide +kernel
theorem dM_stream_122 : decode kM_stream 122 = .ok (.aload_n 0, 1) := by decide +kernel
theorem dM_stream_123 : decode kM_stream 123 = .ok (.getfield 50, 3) := by decide +kernel
theorem dM_stream_126 : decode kM_stream 126 = .ok (.iload_n 3, 1) := by decide +kernel
theorem dM_stream_127 : decode kM_stream 127 = .ok (.iconst 0, 1) := by decide +kernel
theorem dM_stream_128 : decode kM_stream 128 = .ok (.bastore, 1) := by decide +kernel
theorem dM_stream_129 : decode kM_stream 129 = .ok (.aload_n 0, 1) := by decide +kernel
theorem dM_stream_130 : decode kM_stream 130 = .ok (.getfield 53, 3) := by decide +kernel
theorem dM_stream_133 : decode kM_stream 133 = .ok (.iload_n 3, 1) := by decide +kernel
theorem dM_stream_134 : decode kM_stream 134 = .ok (.iconst 0, 1) := by decide +kernel
theorem dM_stream_135 : decode kM_stream 135 = .ok (.iastore, 1) := by decide +kernel
theorem dM_stream_136 : decode kM_stream 136 = .ok (.goto 76, 3) := by decide +kernel
theorem dM_stream_139 : decode kM_stream 139 = .ok (.aload_n 0, 1) := by decide +kernel
theorem dM_stream_140 : decode kM_stream 140 = .ok (.getfield 7, 3) := by decide +kernel
theorem dM_stream_143 : decode kM_stream 143 = .ok (.iload_n 1, 1) := by decide +kernel
theorem dM_stream_144 : decode kM_stream 144 = .ok (.iconst 4, 1) := by decide +kernel
theorem dM_stream_145 : decode kM_stream 145 = .ok (.iadd, 1) := by decide +kernel
theorem dM_stream_146 : decode kM_stream 146 = .ok (.iaload, 1) := by decide +kernel
theorem dM_stream_147 : decode kM_stream 147 = .ok (.iconst 2, 1) := by decide +kernel
theorem dM_stream_148 : decode kM_stream 148 = .ok (.iand, 1) := by decide +kernel
theorem dM_stream_149 : decode kM_stream 149 = .ok (.ifCond .eq 18, 3) := by decide +kernel
theorem dM_stream_152 : decode kM_stream 152 = .ok (.aload_n 0, 1) := by decide +kernel
theorem dM_stream_153 : decode kM_stream 153 = .ok (.iload_n 3, 1) := by decide +kernel
theorem dM_stream_154 : decode kM_stream 154 = .ok (.invokevirtual 196, 3) := by decide +kernel
theorem dM_stream_157 : decode kM_stream 157 = .ok (.aload_n 0, 1) := by decide +kernel
theorem dM_stream_158 : decode kM_stream 158 = .ok (.getfield 47, 3) := by decide +kernel
theorem dM_stream_161 : decode kM_stream 161 = .ok (.iload_n 3, 1) := by decide +kernel
theorem dM_stream_162 : decode kM_stream 162 = .ok (.iconst 0, 1) := by decide +kernel
theorem dM_stream_163 : decode kM_stream 163 = .ok (.iastore, 1) := by decide +kernel
theorem dM_stream_164 : decode kM_stream 164 = .ok (.goto 48, 3) := by decide +kernel
theorem dM_stream_167 : decode kM_stream 167 = .ok (.iload 5, 2) := by decide +kernel
theorem dM_stream_169 : decode kM_stream 169 = .ok (.aload_n 0, 1) := by decide +kernel
theorem dM_stream_170 : decode kM_stream 170 = .ok (.getfield 44, 3) := by decide +kernel
theorem dM_stream_173 : decode kM_stream 173 = .ok (.iload_n 3, 1) := by decide +kernel
theorem dM_stream_174 : decode kM_stream 174 = .ok (.iaload, 1) := by decide +kernel
theorem dM_stream_175 : decode kM_stream 175 = .ok (.iconst 1, 1) := by decide +kernel
theorem dM_stream_176 : decode kM_stream 176 = .ok (.iadd, 1) := by decide +kernel
theorem dM_stream_177 : decode kM_stream 177 = .ok (.sipush 255, 3) := by decide +kernel
theorem dM_stream_180 : decode kM_stream 180 = .ok (.iand, 1) := by decide +kernel
theorem dM_stream_181 : decode kM_stream 181 = .ok (.if_icmp .eq 31, 3) := by decide +kernel
theorem dM_stream_184 : decode kM_stream 184 = .ok (.aload_n 0, 1) := by decide +kernel
theorem dM_stream_185 : decode kM_stream 185 = .ok (.iconst 2, 1) := by decide +kernel
theorem dM_stream_186 : decode kM_stream 186 = .ok (.iload 5, 2) := by decide +kernel
theorem dM_stream_188 : decode kM_stream 188 = .ok (.aload_n 0, 1) := by decide +kernel
theorem dM_stream_189 : decode kM_stream 189 = .ok (.getfield 44, 3) := by decide +kernel
theorem dM_stream_192 : decode kM_stream 192 = .ok (.iload_n 3, 1) := by decide +kernel
theorem dM_stream_193 : decode kM_stream 193 = .ok (.iaload, 1) := by decide +kernel
theorem dM_stream_194 : decode kM_stream 194 = .ok (.isub, 1) := by decide +kernel
theorem dM_stream_195 : decode kM_stream 195 = .ok (.iconst 1, 1) := by decide +kernel
theorem dM_stream_196 : decode kM_stream 196 = .ok (.isub, 1) := by decide +kernel
theorem dM_stream_197 : decode kM_stream 197 = .ok (.sipush 255, 3) := by decide +kernel
theorem dM_stream_200 : decode kM_stream 200 = .ok (.iand, 1) := by decide +kernel
theorem dM_stream_201 : decode kM_stream 201 = .ok (.ldc 164, 2) := by decide +kernel
theorem dM_stream_203 : decode kM_stream 203 = .ok (.iconst 0, 1) := by decide +kernel
theorem dM_stream_204 : decode kM_stream 204 = .ok (.invokevirtual 192, 3) := by decide +kernel
theorem dM_stream_207 : decode kM_stream 207 = .ok (.aload_n 0, 1) := by decide +kernel
theorem dM_stream_208 : decode kM_stream 208 = .ok (.iload_n 3, 1) := by decide +kernel
theorem dM_stream_209 : decode kM_stream 209 = .ok (.invokevirtual 196, 3) := by decide +kernel
theorem dM_stream_212 : decode kM_stream 212 = .ok (.aload_n 0, 1) := by decide +kernel
theorem dM_stream_213 : decode kM_stream 213 = .ok (.getfield 44, 3) := by decide +kernel
theorem dM_stream_216 : decode kM_stream 216 = .ok (.iload_n 3, 1) := by decide +kernel
theorem dM_stream_217 : decode kM_stream 217 = .ok (.iload 5, 2) := by decide +kernel
theorem dM_stream_219 : decode kM_stream 219 = .ok (.iastore, 1) := by decide +kernel
theorem dM_stream_220 : decode kM_stream 220 = .ok (.iload_n 3, 1) := by decide +kernel
theorem dM_stream_221 : decode kM_stream 221 = .ok (.ireturn, 1) := by decide +kernel
def wb_M_stream_90 (θ : TH) (a0_90 : Nat) (x1_90 : Int32) (x2_90 : Int32) (x3_90 : Int32) (x4_90 : Int32) (K : Int32 → VT → UT → Prop) (V : VT) (U : UT) : Prop := isO θ a0_90 12 ∧ (U a0_90 0) ≠ 0 ∧ ∃ n_24, isA θ (U a0_90 0) 0 n_24 ∧ vp_in (x1_90 + (6 : Int32)) n_24 ∧ ∀ y_27 : Int32, y_27 = (V (U a0_90 0) (x1_90 + (6 : Int32)).toNatClampNeg) → ((0 ≤ x3_90 → vp_in (x1_90 + (4 : Int32)) n_24 ∧ ((((V (U a0_90 0) (x1_90 + (4 : Int32)).toNatClampNeg) &&& (2 : Int32)) = 0 → (U a0_90 16) ≠ 0 ∧ ∃ n_32, isA θ (U a0_90 16) 0 n_32 ∧ vp_in x3_90 n_32 ∧ ((y_27 = (((V (U a0_90 16) x3_90.toNatClampNeg) + (1 : Int32)) &&& (255 : Int32)) → ∀ V_36 : VT, V_36 = up2 V (U a0_90 16) x3_90.toNatClampNeg y_27 → K x3_90 V_36 U) ∧ (¬ y_27 = (((V (U a0_90 16) x3_90.toNatClampNeg) + (1 : Int32)) &&& (255 : Int32)) → wp_M_event θ a0_90 (2 : Int32) (((y_27 - (V (U a0_90 16) x3_90.toNatClampNeg)) - (1 : Int32)) &&& (255 : Int32)) (65535 : Int32) (0 : Int32) V U (fun V_37 U_38 => wp_M_drop θ a0_90 x3_90 V_37 U_38 (fun V_39 U_40 => (U_40 a0_90 16) ≠ 0 ∧ ∃ n_42, isA θ (U_40 a0_90 16) 0 n_42 ∧ vp_in x3_90 n_42 ∧ ∀ V_45 : VT, V_45 = up2 V_39 (U_40 a0_90 16) x3_90.toNatClampNeg y_27 → K x3_90 V_45 U_40))))) ∧ (¬ ((V (U a0_90 0) (x1_90 + (4 : Int32)).toNatClampNeg) &&& (2 : Int32)) = 0 → wp_M_drop θ a0_90 x3_90 V U (fun V_46 U_47 => (U_47 a0_90 17) ≠ 0 ∧ ∃ n_49, isA θ (U_47 a0_90 17) 0 n_49 ∧ vp_in x3_90 n_49 ∧ ∀ V_52 : VT, V_52 = up2 V_46 (U_47 a0_90 17) x3_90.toNatClampNeg (0 : Int32) → (U_47 a0_90 16) ≠ 0 ∧ ∃ n_54, isA θ (U_47 a0_90 16) 0 n_54 ∧ vp_in x3_90 n_54 ∧ ∀ V_57 : VT, V_57 = up2 V_52 (U_47 a0_90 16) x3_90.toNatClampNeg y_27 → K x3_90 V_57 U_47)))) ∧ (¬ 0 ≤ x3_90 → (U a0_90 15) ≠ 0 ∧ ∃ n_59, isA θ (U a0_90 15) 0 n_59 ∧ vp_in x4_90 n_59 ∧ ∀ V_62 : VT, V_62 = up2 V (U a0_90 15) x4_90.toNatClampNeg x2_90 → (U a0_90 17) ≠ 0 ∧ ∃ n_64, isA θ (U a0_90 17) 0 n_64 ∧ vp_in x4_90 n_64 ∧ ∀ V_67 : VT, V_67 = up2 V_62 (U a0_90 17) x4_90.toNatClampNeg (0 : Int32) → (U a0_90 18) ≠ 0 ∧ ∃ n_69, isA θ (U a0_90 18) 1 n_69 ∧ vp_in x4_90 n_69 ∧ ∀ V_72 : VT, V_72 = up2 V_67 (U a0_90 18) x4_90.toNatClampNeg (0 : Int32) → (U a0_90 19) ≠ 0 ∧ ∃ n_74, isA θ (U a0_90 19) 0 n_74 ∧ vp_in x4_90 n_74 ∧ ∀ V_77 : VT, V_77 = up2 V_72 (U a0_90 19) x4_90.toNatClampNeg (0 : Int32) → (U a0_90 16) ≠ 0 ∧ ∃ n_79, isA θ (U a0_90 16) 0 n_79 ∧ vp_in x4_90 n_79 ∧ ∀ V_82 : VT, V_82 = up2 V_77 (U a0_90 16) x4_90.toNatClampNeg y_27 → K x4_90 V_82 U))
def wb_M_stream_40 (θ : TH) (a0_17 : Nat) (x1_17 : Int32) (x2_17 : Int32) (x4_40 : Int32) (x5_40 : Int32) (z0_40 : Int32) (kb17 : Int32 → Int32 → Int32 → VT → UT → Prop) (K : Int32 → VT → UT → Prop) (V : VT) (U : UT) : Prop := isO θ a0_17 12 ∧ (U a0_17 15) ≠ 0 ∧ ∃ n_85, isA θ (U a0_17 15) 0 n_85 ∧ vp_in x5_40 n_85 ∧ ((0 ≤ (V (U a0_17 15) x5_40.toNatClampNeg) → ∀ y_89 : Int32, y_89 = x5_40 + (1 : Int32) → kb17 z0_40 x4_40 y_89 V U) ∧ (¬ 0 ≤ (V (U a0_17 15) x5_40.toNatClampNeg) → ∀ y_90 : Int32, y_90 = x5_40 + (1 : Int32) → kb17 z0_40 x5_40 y_90 V U))
def bl_M_stream_17 (θ : TH) (a0_17 : Nat) (x1_17 : Int32) (x2_17 : Int32) (K : Int32 → VT → UT → Prop) (kb17 : Int32 → Int32 → Int32 → VT → UT → Prop) (x3_17 : Int32) (x4_17 : Int32) (x5_17 : Int32) (V : VT) (U : UT) : Prop := (((3 : Int32) ≤ x5_17 → ((0 ≤ x3_17 → wb_M_stream_90 θ a0_17 x1_17 x2_17 x3_17 x4_17 K V U) ∧ (¬ 0 ≤ x3_17 → ((0 ≤ x4_17 → wb_M_stream_90 θ a0_17 x1_17 x2_17 x3_17 x4_17 K V U) ∧ (¬ 0 ≤ x4_17 → isO θ a0_17 12 ∧ wp_M_pageLength θ a0_17 x1_17 V U (fun r_13 V_10 U_11 => wp_M_event θ a0_17 (5 : Int32) r_13 (65535 : Int32) (0 : Int32) V_10 U_11 (fun V_14 U_15 => K (-1 : Int32) V_14 U_15))))))) ∧ (¬ (3 : Int32) ≤ x5_17 → isO θ a0_17 12 ∧ (U a0_17 15) ≠ 0 ∧ ∃ n_18, isA θ (U a0_17 15) 0 n_18 ∧ vp_in x5_17 n_18 ∧ ((¬ (V (U a0_17 15) x5_17.toNatClampNeg) = x2_17 → wb_M_stream_40 θ a0_17 x1_17 x2_17 x4_17 x5_17 x3_17 kb17 K V U) ∧ ((V (U a0_17 15) x5_17.toNatClampNeg) = x2_17 → wb_M_stream_40 θ a0_17 x1_17 x2_17 x4_17 x5_17 x5_17 kb17 K V U))))
def wl_M_stream_17 (θ : TH) (a0_17 : Nat) (x1_17 : Int32) (x2_17 : Int32) (K : Int32 → VT → UT → Prop) : Nat → Int32 → Int32 → Int32 → VT → UT → Prop
  | 0, _, _, _, _, _ => False
  | n + 1, x3_17, x4_17, x5_17, V, U => bl_M_stream_17 θ a0_17 x1_17 x2_17 K (wl_M_stream_17 θ a0_17 x1_17 x2_17 K n) x3_17 x4_17 x5_17 V U
def wp_M_stream (θ : TH) (a0 : Nat) (x1 : Int32) (V : VT) (U : UT) (K : Int32 → VT → UT → Prop) : Prop := isO θ a0 12 ∧ (U a0 0) ≠ 0 ∧ ∃ n_3, isA θ (U a0 0) 0 n_3 ∧ vp_in (x1 + (5 : Int32)) n_3 ∧ ∀ y_6 : Int32, y_6 = (V (U a0 0) (x1 + (5 : Int32)).toNatClampNeg) → ∃ n, wl_M_stream_17 θ a0 x1 y_6 K n (-1 : Int32) (-1 : Int32) (0 : Int32) V U
set_option maxRecDepth 100000 in
set_option maxHeartbeats 4000000 in
theorem c_M_stream (l : Launch) (θ : TH) (a0 : Nat) (x1 : Int32) (V : VT) (U : UT) (K : Int32 → VT → UT → Prop) (hw : wp_M_stream θ a0 x1 V U K) : CMi l yM_stream kM_stream 6 (some .int) rmM_stream θ [.ref a0, .int x1] V U K := by
  refine g_met nRM (by decide +kernel) rfl (Nat.le_of_ble_eq_true rfl) (fun p e s m args below meth c ls hC hr hlk hwo hl => ?_)
  have hx := hC.1
  have hb := hC.2.1
  have hS : Sx θ s s.heap [] := va_S.rf
  have hl : lv_has ls 6 [(0, .ref a0), (1, .int x1)] := hl
  have J90 : ∀ (a0_90 : Nat) (x1_90 : Int32) (x2_90 : Int32) (x3_90 : Int32) (x4_90 : Int32) (V : VT) (U : UT) (H : Heap) (locs : List Loc) (ls : Array Slot), wb_M_stream_90 θ a0_90 x1_90 x2_90 x3_90 x4_90 K V U → wo θ V U H → Sx θ s H locs → lv_has ls 6 [(0, .ref a0_90), (1, .int x1_90), (2, .int x2_90), (3, .int x3_90), (4, .int x4_90)] → W p l e rmM_stream s m args below meth c H locs 0 0 (MQ below (QI θ K) args s 0 0 (aT θ)) (F0 m 90 ls []) := by
    intro a0_90 x1_90 x2_90 x3_90 x4_90 V U H locs ls hw hwo hS hl
    unfold wb_M_stream_90 at hw
    refine lv_aload_n hx hb dM_stream_90 rfl (lv_at hl 0 rfl) ?_
    obtain ⟨ho_22, hw⟩ := hw
    obtain ⟨hz_23, hw⟩ := hw
    refine g_getR hC fkM_7 rfl hwo ho_22 hz_23 dM_stream_91 ?_
    refine lv_iload_n hx hb dM_stream_94 rfl (lv_at hl 1 rfl) ?_
    refine lv_bipush (v := 6) hx hb dM_stream_95 (by decide) ?_
    refine lv_iadd hx hb dM_stream_97 ?_
    obtain ⟨n_24, ha_25, hw⟩ := hw
    obtain ⟨hi_26, hw⟩ := hw
    refine g_iald hC hwo ha_25 hi_26 dM_stream_98 ?_
    refine lv_topi (fun y_27 ey_27 => ?_)
    replace hw := hw y_27 ey_27
    refine lv_istore (i := 5) (lv' := [(5, .int y_27), (0, .ref a0_90), (1, .int x1_90), (2, .int x2_90), (3, .int x3_90), (4, .int x4_90)]) hx hb dM_stream_99 hl (by decide) rfl (fun ls hl => ?_)
    refine lv_iload_n hx hb dM_stream_101 rfl (lv_at hl 4 rfl) ?_
    refine lv_if_ge (tgt := 139) hx hb dM_stream_102 (by decide) (fun hc_28 => ?_) (fun hc_28 => ?_)
    · replace hw := hw.1 hc_28
      refine lv_aload_n hx hb dM_stream_139 rfl (lv_at hl 1 rfl) ?_
      refine g_getR hC fkM_7 rfl hwo ho_22 hz_23 dM_stream_140 ?_
      refine lv_iload_n hx hb dM_stream_143 rfl (lv_at hl 2 rfl) ?_
      refine lv_iconst (v := 4) hx hb dM_stream_144 (by decide) ?_
      refine lv_iadd hx hb dM_stream_145 ?_
      obtain ⟨hi_29, hw⟩ := hw
      refine g_iald hC hwo ha_25 hi_29 dM_stream_146 ?_
      refine lv_iconst (v := 2) hx hb dM_stream_147 (by decide) ?_
      refine lv_iand hx hb dM_stream_148 ?_
      refine lv_if_eq (tgt := 167) hx hb dM_stream_149 (by decide) (fun hc_30 => ?_) (fun hc_30 => ?_)
      · replace hw := hw.1 hc_30
        refine lv_iload hx hb dM_stream_167 (lv_at hl 0 rfl) ?_
        refine lv_aload_n hx hb dM_stream_169 rfl (lv_at hl 1 rfl) ?_
        obtain ⟨hz_31, hw⟩ := hw
        refine g_getR hC fkM_44 rfl hwo ho_22 hz_31 dM_stream_170 ?_
        refine lv_iload_n hx hb dM_stream_173 rfl (lv_at hl 4 rfl) ?_
        obtain ⟨n_32, ha_33, hw⟩ := hw
        obtain ⟨hi_34, hw⟩ := hw
        refine g_iald hC hwo ha_33 hi_34 dM_stream_174 ?_
        refine lv_iconst (v := 1) hx hb dM_stream_175 (by decide) ?_
        refine lv_iadd hx hb dM_stream_176 ?_
        refine lv_sipush (v := 255) hx hb dM_stream_177 (by decide) ?_
        refine lv_iand hx hb dM_stream_180 ?_
        refine lv_icmp_eq (tgt := 212) hx hb dM_stream_181 (by decide) (fun hc_35 => ?_) (fun hc_35 => ?_)
        · replace hw := hw.1 hc_35
          refine lv_aload_n hx hb dM_stream_212 rfl (lv_at hl 1 rfl) ?_
          refine g_getR hC fkM_44 rfl hwo ho_22 hz_31 dM_stream_213 ?_
          refine lv_iload_n hx hb dM_stream_216 rfl (lv_at hl 4 rfl) ?_
          refine lv_iload hx hb dM_stream_217 (lv_at hl 0 rfl) ?_
          refine g_iast hC hwo hS ha_33 hi_34 dM_stream_219 (fun V_36 eV_36 H locs hwo hS => ?_)
          replace hw := hw V_36 eV_36
          refine lv_iload_n hx hb dM_stream_220 rfl (lv_at hl 4 rfl) ?_
          exact g_iret hC hr hlk hw hwo hS dM_stream_221
        · replace hw := hw.2 hc_35
          refine lv_aload_n hx hb dM_stream_184 rfl (lv_at hl 1 rfl) ?_
          refine lv_iconst (v := 2) hx hb dM_stream_185 (by decide) ?_
          refine lv_iload hx hb dM_stream_186 (lv_at hl 0 rfl) ?_
          refine lv_aload_n hx hb dM_stream_188 rfl (lv_at hl 1 rfl) ?_
          refine g_getR hC fkM_44 rfl hwo ho_22 hz_31 dM_stream_189 ?_
          refine lv_iload_n hx hb dM_stream_192 rfl (lv_at hl 4 rfl) ?_
          refine g_iald hC hwo ha_33 hi_34 dM_stream_193 ?_
          refine lv_isub hx hb dM_stream_194 ?_
          refine lv_iconst (v := 1) hx hb dM_stream_195 (by decide) ?_
          refine lv_isub hx hb dM_stream_196 ?_
          refine lv_sipush (v := 255) hx hb dM_stream_197 (by decide) ?_
          refine lv_iand hx hb dM_stream_200 ?_
          refine lv_ldc hx hb hC.2.2.2.1 (hC.2.2.2.2.1 _ kcM_164) dM_stream_201 ?_
          refine lv_iconst (v := 0) hx hb dM_stream_203 (by decide) ?_
          refine g_Vv (rest := []) hC (c_M_event l θ _ _ _ _ _ _ _ _ hw) mi_M_event mlM_192 mv_M_event ci_12 ho_22 hwo hS ⟨rfl, rfl⟩ ⟨by decide, by decide⟩ rfl hl.1 rfl (Nat.le_of_ble_eq_true rfl) dM_stream_204 (fun V_37 U_38 hw H locs hwo hS => ?_)
          refine lv_aload_n hx hb dM_stream_207 rfl (lv_at hl 1 rfl) ?_
          refine lv_iload_n hx hb dM_stream_208 rfl (lv_at hl 4 rfl) ?_
          refine g_Vv (rest := []) hC (c_M_drop l θ _ _ _ _ _ hw) mi_M_drop mlM_196 mv_M_drop ci_12 ho_22 hwo hS ⟨rfl, rfl⟩ ⟨by decide, by decide⟩ rfl hl.1 rfl (Nat.le_of_ble_eq_true rfl) dM_stream_209 (fun V_39 U_40 hw H locs hwo hS => ?_)
          refine lv_aload_n hx hb dM_stream_212 rfl (lv_at hl 1 rfl) ?_
          obtain ⟨hz_41, hw⟩ := hw
          refine g_getR hC fkM_44 rfl hwo ho_22 hz_41 dM_stream_213 ?_
          refine lv_iload_n hx hb dM_stream_216 rfl (lv_at hl 4 rfl) ?_
          refine lv_iload hx hb dM_stream_217 (lv_at hl 0 rfl) ?_
          obtain ⟨n_42, ha_43, hw⟩ := hw
          obtain ⟨hi_44, hw⟩ := hw
          refine g_iast hC hwo hS ha_43 hi_44 dM_stream_219 (fun V_45 eV_45 H locs hwo hS => ?_)
          replace hw := hw V_45 eV_45
          refine lv_iload_n hx hb dM_stream_220 rfl (lv_at hl 4 rfl) ?_
          exact g_iret hC hr hlk hw hwo hS dM_stream_221
      · replace hw := hw.2 hc_30
        refine lv_aload_n hx hb dM_stream_152 rfl (lv_at hl 1 rfl) ?_
        refine lv_iload_n hx hb dM_stream_153 rfl (lv_at hl 4 rfl) ?_
        refine g_Vv (rest := []) hC (c_M_drop l θ _ _ _ _ _ hw) mi_M_drop mlM_196 mv_M_drop ci_12 ho_22 hwo hS ⟨rfl, rfl⟩ ⟨by decide, by decide⟩ rfl hl.1 rfl (Nat.le_of_ble_eq_true rfl) dM_stream_154 (fun V_46 U_47 hw H locs hwo hS => ?_)
        refine lv_aload_n hx hb dM_stream_157 rfl (lv_at hl 1 rfl) ?_
        obtain ⟨hz_48, hw⟩ := hw
        refine g_getR hC fkM_47 rfl hwo ho_22 hz_48 dM_stream_158 ?_
        refine lv_iload_n hx hb dM_stream_161 rfl (lv_at hl 4 rfl) ?_
        refine lv_iconst (v := 0) hx hb dM_stream_162 (by decide) ?_
        obtain ⟨n_49, ha_50, hw⟩ := hw
        obtain ⟨hi_51, hw⟩ := hw
        refine g_iast hC hwo hS ha_50 hi_51 dM_stream_163 (fun V_52 eV_52 H locs hwo hS => ?_)
        replace hw := hw V_52 eV_52
        refine lv_goto (tgt := 212) hx hb dM_stream_164 (by decide) ?_
        refine lv_aload_n hx hb dM_stream_212 rfl (lv_at hl 1 rfl) ?_
        obtain ⟨hz_53, hw⟩ := hw
        refine g_getR hC fkM_44 rfl hwo ho_22 hz_53 dM_stream_213 ?_
        refine lv_iload_n hx hb dM_stream_216 rfl (lv_at hl 4 rfl) ?_
        refine lv_iload hx hb dM_stream_217 (lv_at hl 0 rfl) ?_
        obtain ⟨n_54, ha_55, hw⟩ := hw
        obtain ⟨hi_56, hw⟩ := hw
        refine g_iast hC hwo hS ha_55 hi_56 dM_stream_219 (fun V_57 eV_57 H locs hwo hS => ?_)
        replace hw := hw V_57 eV_57
        refine lv_iload_n hx hb dM_stream_220 rfl (lv_at hl 4 rfl) ?_
        exact g_iret hC hr hlk hw hwo hS dM_stream_221
    · replace hw := hw.2 hc_28
      refine lv_iload hx hb dM_stream_105 (lv_at hl 5 rfl) ?_
      refine lv_istore_n (i := 3) (lv' := [(3, .int x4_90), (5, .int y_27), (0, .ref a0_90), (1, .int x1_90), (2, .int x2_90), (4, .int x4_90)]) hx hb dM_stream_107 rfl hl (by decide) rfl (fun ls hl => ?_)
      refine lv_aload_n hx hb dM_stream_108 rfl (lv_at hl 2 rfl) ?_
      obtain ⟨hz_58, hw⟩ := hw
      refine g_getR hC fkM_41 rfl hwo ho_22 hz_58 dM_stream_109 ?_
      refine lv_iload_n hx hb dM_stream_112 rfl (lv_at hl 0 rfl) ?_
      refine lv_iload_n hx hb dM_stream_113 rfl (lv_at hl 4 rfl) ?_
      obtain ⟨n_59, ha_60, hw⟩ := hw
      obtain ⟨hi_61, hw⟩ := hw
      refine g_iast hC hwo hS ha_60 hi_61 dM_stream_114 (fun V_62 eV_62 H locs hwo hS => ?_)
      replace hw := hw V_62 eV_62
      refine lv_aload_n hx hb dM_stream_115 rfl (lv_at hl 2 rfl) ?_
      obtain ⟨hz_63, hw⟩ := hw
      refine g_getR hC fkM_47 rfl hwo ho_22 hz_63 dM_stream_116 ?_
      refine lv_iload_n hx hb dM_stream_119 rfl (lv_at hl 0 rfl) ?_
      refine lv_iconst (v := 0) hx hb dM_stream_120 (by decide) ?_
      obtain ⟨n_64, ha_65, hw⟩ := hw
      obtain ⟨hi_66, hw⟩ := hw
      refine g_iast hC hwo hS ha_65 hi_66 dM_stream_121 (fun V_67 eV_67 H locs hwo hS => ?_)
      replace hw := hw V_67 eV_67
      refine lv_aload_n hx hb dM_stream_122 rfl (lv_at hl 2 rfl) ?_
      obtain ⟨hz_68, hw⟩ := hw
      refine g_getR hC fkM_50 rfl hwo ho_22 hz_68 dM_stream_123 ?_
      refine lv_iload_n hx hb dM_stream_126 rfl (lv_at hl 0 rfl) ?_
      refine lv_iconst (v := 0) hx hb dM_stream_127 (by decide) ?_
      obtain ⟨n_69, ha_70, hw⟩ := hw
      obtain ⟨hi_71, hw⟩ := hw
      refine g_zast hC hwo hS ha_70 hi_71 (Or.inl rfl) dM_stream_128 (fun V_72 eV_72 H locs hwo hS => ?_)
      replace hw := hw V_72 eV_72
      refine lv_aload_n hx hb dM_stream_129 rfl (lv_at hl 2 rfl) ?_
      obtain ⟨hz_73, hw⟩ := hw
      refine g_getR hC fkM_53 rfl hwo ho_22 hz_73 dM_stream_130 ?_
      refine lv_iload_n hx hb dM_stream_133 rfl (lv_at hl 0 rfl) ?_
      refine lv_iconst (v := 0) hx hb dM_stream_134 (by decide) ?_
      obtain ⟨n_74, ha_75, hw⟩ := hw
      obtain ⟨hi_76, hw⟩ := hw
      refine g_iast hC hwo hS ha_75 hi_76 dM_stream_135 (fun V_77 eV_77 H locs hwo hS => ?_)
      replace hw := hw V_77 eV_77
      refine lv_goto (tgt := 212) hx hb dM_stream_136 (by decide) ?_
      refine lv_aload_n hx hb dM_stream_212 rfl (lv_at hl 2 rfl) ?_
      obtain ⟨hz_78, hw⟩ := hw
      refine g_getR hC fkM_44 rfl hwo ho_22 hz_78 dM_stream_213 ?_
      refine lv_iload_n hx hb dM_stream_216 rfl (lv_at hl 0 rfl) ?_
      refine lv_iload hx hb dM_stream_217 (lv_at hl 1 rfl) ?_
      obtain ⟨n_79, ha_80, hw⟩ := hw
      obtain ⟨hi_81, hw⟩ := hw
      refine g_iast hC hwo hS ha_80 hi_81 dM_stream_219 (fun V_82 eV_82 H locs hwo hS => ?_)
      replace hw := hw V_82 eV_82
      refine lv_iload_n hx hb dM_stream_220 rfl (lv_at hl 0 rfl) ?_
      exact g_iret hC hr hlk hw hwo hS dM_stream_221
  have L17 : ∀ (a0_17 : Nat) (x1_17 : Int32) (x2_17 : Int32) (n17 : Nat) (x3_17 : Int32) (x4_17 : Int32) (x5_17 : Int32) (V : VT) (U : UT) (H : Heap) (locs : List Loc) (ls : Array Slot), wl_M_stream_17 θ a0_17 x1_17 x2_17 K n17 x3_17 x4_17 x5_17 V U → wo θ V U H → Sx θ s H locs → lv_has ls 6 [(0, .ref a0_17), (1, .int x1_17), (2, .int x2_17), (3, .int x3_17), (4, .int x4_17), (5, .int x5_17)] → W p l e rmM_stream s m args below meth c H locs 0 0 (MQ below (QI θ K) args s 0 0 (aT θ)) (F0 m 17 ls []) := by
    intro a0_17 x1_17 x2_17 n17
    induction n17 with
    | zero => intro x3_17 x4_17 x5_17 V U H locs ls hw hwo hS hl; exact (show False from hw).elim
    | succ n17 ih17 =>
      have J40 : ∀ (x4_40 : Int32) (x5_40 : Int32) (z0_40 : Int32) (V : VT) (U : UT) (H : Heap) (locs : List Loc) (ls : Array Slot), wb_M_stream_40 θ a0_17 x1_17 x2_17 x4_40 x5_40 z0_40 (wl_M_stream_17 θ a0_17 x1_17 x2_17 K n17) K V U → wo θ V U H → Sx θ s H locs → lv_has ls 6 [(0, .ref a0_17), (1, .int x1_17), (2, .int x2_17), (4, .int x4_40), (5, .int x5_40)] → W p l e rmM_stream s m args below meth c H locs 0 0 (MQ below (QI θ K) args s 0 0 (aT θ)) (F0 m 40 ls [.int z0_40]) := by
        intro x4_40 x5_40 z0_40 V U H locs ls hw hwo hS hl
        unfold wb_M_stream_40 at hw
        refine lv_istore_n (i := 3) (lv' := [(3, .int z0_40), (0, .ref a0_17), (1, .int x1_17), (2, .int x2_17), (4, .int x4_40), (5, .int x5_40)]) hx hb dM_stream_40 rfl hl (by decide) rfl (fun ls hl => ?_)
        refine lv_aload_n hx hb dM_stream_41 rfl (lv_at hl 1 rfl) ?_
        obtain ⟨ho_83, hw⟩ := hw
        obtain ⟨hz_84, hw⟩ := hw
        refine g_getR hC fkM_41 rfl hwo ho_83 hz_84 dM_stream_42 ?_
        refine lv_iload hx hb dM_stream_45 (lv_at hl 5 rfl) ?_
        obtain ⟨n_85, ha_86, hw⟩ := hw
        obtain ⟨hi_87, hw⟩ := hw
        refine g_iald hC hwo ha_86 hi_87 dM_stream_47 ?_
        refine lv_if_ge (tgt := 56) hx hb dM_stream_48 (by decide) (fun hc_88 => ?_) (fun hc_88 => ?_)
        · replace hw := hw.1 hc_88
          refine lv_iload hx hb dM_stream_56 (lv_at hl 4 rfl) ?_
          refine lv_istore (i := 4) (lv' := [(4, .int x4_40), (3, .int z0_40), (0, .ref a0_17), (1, .int x1_17), (2, .int x2_17), (5, .int x5_40)]) hx hb dM_stream_58 hl (by decide) rfl (fun ls hl => ?_)
          obtain ⟨y_89, ey_89⟩ : ∃ z : Int32, z = x5_40 + (1 : Int32) := ⟨_, rfl⟩
          replace hw := hw y_89 ey_89
          refine lv_iinc (k := 5) (v := y_89) (lv' := [(5, .int y_89), (4, .int x4_40), (3, .int z0_40), (0, .ref a0_17), (1, .int x1_17), (2, .int x2_17)]) hx hb dM_stream_60 hl rfl (by rw [ey_89]; rfl) (by decide) rfl (fun ls hl => ?_)
          refine lv_goto (tgt := 17) hx hb dM_stream_63 (by decide) ?_
          exact ih17 _ _ _ _ _ _ _ _ hw hwo hS (lv_sub hl [3, 4, 5, 2, 1, 0] rfl)
        · replace hw := hw.2 hc_88
          refine lv_iload hx hb dM_stream_51 (lv_at hl 5 rfl) ?_
          refine lv_goto (tgt := 58) hx hb dM_stream_53 (by decide) ?_
          refine lv_istore (i := 4) (lv' := [(4, .int x5_40), (3, .int z0_40), (0, .ref a0_17), (1, .int x1_17), (2, .int x2_17), (5, .int x5_40)]) hx hb dM_stream_58 hl (by decide) rfl (fun ls hl => ?_)
          obtain ⟨y_90, ey_90⟩ : ∃ z : Int32, z = x5_40 + (1 : Int32) := ⟨_, rfl⟩
          replace hw := hw y_90 ey_90
          refine lv_iinc (k := 5) (v := y_90) (lv' := [(5, .int y_90), (4, .int x5_40), (3, .int z0_40), (0, .ref a0_17), (1, .int x1_17), (2, .int x2_17)]) hx hb dM_stream_60 hl rfl (by rw [ey_90]; rfl) (by decide) rfl (fun ls hl => ?_)
          refine lv_goto (tgt := 17) hx hb dM_stream_63 (by decide) ?_
          exact ih17 _ _ _ _ _ _ _ _ hw hwo hS (lv_sub hl [3, 4, 5, 2, 1, 0] rfl)
      intro x3_17 x4_17 x5_17 V U H locs ls hw hwo hS hl
      replace hw : bl_M_stream_17 θ a0_17 x1_17 x2_17 K (wl_M_stream_17 θ a0_17 x1_17 x2_17 K n17) x3_17 x4_17 x5_17 V U := hw
      unfold bl_M_stream_17 at hw
      refine lv_iload hx hb dM_stream_17 (lv_at hl 5 rfl) ?_
      refine lv_iconst (v := 3) hx hb dM_stream_19 (by decide) ?_
      refine lv_icmp_ge (tgt := 66) hx hb dM_stream_20 (by decide) (fun hc_7 => ?_) (fun hc_7 => ?_)
      · replace hw := hw.1 hc_7
        refine lv_iload_n hx hb dM_stream_66 rfl (lv_at hl 3 rfl) ?_
        refine lv_if_ge (tgt := 90) hx hb dM_stream_67 (by decide) (fun hc_8 => ?_) (fun hc_8 => ?_)
        · replace hw := hw.1 hc_8
          exact J90 _ _ _ _ _ _ _ _ _ _ hw hwo hS (lv_sub hl [0, 1, 2, 3, 4] rfl)
        · replace hw := hw.2 hc_8
          refine lv_iload hx hb dM_stream_70 (lv_at hl 4 rfl) ?_
          refine lv_if_ge (tgt := 90) hx hb dM_stream_72 (by decide) (fun hc_9 => ?_) (fun hc_9 => ?_)
          · replace hw := hw.1 hc_9
            exact J90 _ _ _ _ _ _ _ _ _ _ hw hwo hS (lv_sub hl [0, 1, 2, 3, 4] rfl)
          · replace hw := hw.2 hc_9
            refine lv_aload_n hx hb dM_stream_75 rfl (lv_at hl 0 rfl) ?_
            refine lv_iconst (v := 5) hx hb dM_stream_76 (by decide) ?_
            refine lv_aload_n hx hb dM_stream_77 rfl (lv_at hl 0 rfl) ?_
            refine lv_iload_n hx hb dM_stream_78 rfl (lv_at hl 1 rfl) ?_
            obtain ⟨ho_12, hw⟩ := hw
            refine g_Vi (rest := [.int (5 : Int32), .ref a0_17]) hC (c_M_pageLength l θ _ _ _ _ _ hw) mi_M_pageLength mlM_145 mv_M_pageLength ci_12 ho_12 hwo hS ⟨rfl, rfl⟩ ⟨by decide, by decide⟩ rfl hl.1 rfl (Nat.le_of_ble_eq_true rfl) dM_stream_79 (fun r_13 V_10 U_11 hw H locs hwo hS => ?_)
            refine lv_ldc hx hb hC.2.2.2.1 (hC.2.2.2.2.1 _ kcM_164) dM_stream_82 ?_
            refine lv_iconst (v := 0) hx hb dM_stream_84 (by decide) ?_
            refine g_Vv (rest := []) hC (c_M_event l θ _ _ _ _ _ _ _ _ hw) mi_M_event mlM_192 mv_M_event ci_12 ho_12 hwo hS ⟨rfl, rfl⟩ ⟨by decide, by decide⟩ rfl hl.1 rfl (Nat.le_of_ble_eq_true rfl) dM_stream_85 (fun V_14 U_15 hw H locs hwo hS => ?_)
            refine lv_iconst (v := -1) hx hb dM_stream_88 (by decide) ?_
            exact g_iret hC hr hlk hw hwo hS dM_stream_89
      · replace hw := hw.2 hc_7
        refine lv_aload_n hx hb dM_stream_23 rfl (lv_at hl 0 rfl) ?_
        obtain ⟨ho_16, hw⟩ := hw
        obtain ⟨hz_17, hw⟩ := hw
        refine g_getR hC fkM_41 rfl hwo ho_16 hz_17 dM_stream_24 ?_
        refine lv_iload hx hb dM_stream_27 (lv_at hl 5 rfl) ?_
        obtain ⟨n_18, ha_19, hw⟩ := hw
        obtain ⟨hi_20, hw⟩ := hw
        refine g_iald hC hwo ha_19 hi_20 dM_stream_29 ?_
        refine lv_iload_n hx hb dM_stream_30 rfl (lv_at hl 2 rfl) ?_
        refine lv_icmp_ne (tgt := 39) hx hb dM_stream_31 (by decide) (fun hc_21 => ?_) (fun hc_21 => ?_)
        · replace hw := hw.1 hc_21
          refine lv_iload_n hx hb dM_stream_39 rfl (lv_at hl 3 rfl) ?_
          exact J40 _ _ _ _ _ _ _ _ hw hwo hS (lv_sub hl [0, 1, 2, 4, 5] rfl)
        · replace hw := hw.2 hc_21
          refine lv_iload hx hb dM_stream_34 (lv_at hl 5 rfl) ?_
          refine lv_goto (tgt := 40) hx hb dM_stream_36 (by decide) ?_
          exact J40 _ _ _ _ _ _ _ _ hw hwo hS (lv_sub hl [0, 1, 2, 4, 5] rfl)
  unfold wp_M_stream at hw
  refine lv_aload_n hx hb dM_stream_0 rfl (lv_at hl 0 rfl) ?_
  obtain ⟨ho_1, hw⟩ := hw
  obtain ⟨hz_2, hw⟩ := hw
  refine g_getR hC fkM_7 rfl hwo ho_1 hz_2 dM_stream_1 ?_
  refine lv_iload_n hx hb dM_stream_4 rfl (lv_at hl 1 rfl) ?_
  refine lv_iconst (v := 5) hx hb dM_stream_5 (by decide) ?_
  refine lv_iadd hx hb dM_stream_6 ?_
  obtain ⟨n_3, ha_4, hw⟩ := hw
  obtain ⟨hi_5, hw⟩ := hw
  refine g_iald hC hwo ha_4 hi_5 dM_stream_7 ?_
  refine lv_topi (fun y_6 ey_6 => ?_)
  replace hw := hw y_6 ey_6
  refine lv_istore_n (i := 2) (lv' := [(2, .int y_6), (0, .ref a0), (1, .int x1)]) hx hb dM_stream_8 rfl hl (by decide) rfl (fun ls hl => ?_)
  refine lv_iconst (v := -1) hx hb dM_stream_9 (by decide) ?_
  refine lv_istore_n (i := 3) (lv' := [(3, .int (-1 : Int32)), (2, .int y_6), (0, .ref a0), (1, .int x1)]) hx hb dM_stream_10 rfl hl (by decide) rfl (fun ls hl => ?_)
  refine lv_iconst (v := -1) hx hb dM_stream_11 (by decide) ?_
  refine lv_istore (i := 4) (lv' := [(4, .int (-1 : Int32)), (3, .int (-1 : Int32)), (2, .int y_6), (0, .ref a0), (1, .int x1)]) hx hb dM_stream_12 hl (by decide) rfl (fun ls hl => ?_)
  refine lv_iconst (v := 0) hx hb dM_stream_14 (by decide) ?_
  refine lv_istore (i := 5) (lv' := [(5, .int (0 : Int32)), (4, .int (-1 : Int32)), (3, .int (-1 : Int32)), (2, .int y_6), (0, .ref a0), (1, .int x1)]) hx hb dM_stream_15 hl (by decide) rfl (fun ls hl => ?_)
  obtain ⟨n, hw⟩ := hw
  exact L17 _ _ _ n _ _ _ _ _ _ _ _ hw hwo hS (lv_sub hl [4, 5, 3, 2, 1, 0] rfl)
theorem dM_carry_0 : decode kM_carry 0 = .ok (.aload_n 0, 1) := by decide +kernel
theorem dM_carry_1 : decode kM_carry 1 = .ok (.getfield 50, 3) := by decide +kernel
theorem dM_carry_4 : decode kM_carry 4 = .ok (.iload_n 1, 1) := by decide +kernel
theorem dM_carry_5 : decode kM_carry 5 = .ok (.iconst 1, 1) := by decide +kernel
theorem dM_carry_6 : decode kM_carry 6 = .ok (.bastore, 1) := by decide +kernel
theorem dM_carry_7 : decode kM_carry 7 = .ok (.iconst 0, 1) := by decide +kernel
theorem dM_carry_8 : decode kM_carry 8 = .ok (.istore 4, 2) := by decide +kernel
theorem dM_carry_10 : decode kM_carry 10 = .ok (.iload 4, 2) := by decide +kernel
theorem dM_carry_12 : decode kM_carry 12 = .ok (.iload_n 3, 1) := by decide +kernel
theorem dM_carry_13 : decode kM_carry 13 = .ok (.if_icmp .ge 45, 3) := by decide +kernel
theorem dM_carry_16 : decode kM_carry 16 = .ok (.aload_n 0, 1) := by decide +kernel
theorem dM_carry_17 : decode kM_carry 17 = .ok (.getfield 56, 3) := by decide +kernel
theorem dM_carry_20 : decode kM_carry 20 = .ok (.sipush 1000, 3) := by decide +kernel
theorem dM_carry_23 : decode kM_carry 23 = .ok (.iload_n 1, 1) := by decide +kernel
theorem dM_carry_24 : decode kM_carry 24 = .ok (.imul, 1) := by decide +kernel
theorem dM_carry_25 : decode kM_carry 25 = .ok (.aload_n 0, 1) := by decide +kernel
theorem dM_carry_26 : decode kM_carry 26 = .ok (.getfield 53, 3) := by decide +kernel
theorem dM_carry_29 : decode kM_carry 29 = .ok (.iload_n 1, 1) := by decide +kernel
theorem dM_carry_30 : decode kM_carry 30 = .ok (.iaload, 1) := by decide +kernel
theorem dM_carry_31 : decode kM_carry 31 = .ok (.iadd, 1) := by decide +kernel
theorem dM_carry_32 : decode kM_carry 32 = .ok (.aload_n 0, 1) := by decide +kernel
theorem dM_carry_33 : decode kM_carry 33 = .ok (.getfield 7, 3) := by decide +kernel
theorem dM_carry_36 : decode kM_carry 36 = .ok (.iload_n 2, 1) := by decide +kernel
theorem dM_carry_37 : decode kM_carry 37 = .ok (.iload 4, 2) := by decide +kernel
theorem dM_carry_39 : decode kM_carry 39 = .ok (.iadd, 1) := by decide +kernel
theorem dM_carry_40 : decode kM_carry 40 = .ok (.iaload, 1) := by decide +kernel
theorem dM_carry_41 : decode kM_carry 41 = .ok (.iastore, 1) := by decide +kernel
theorem dM_carry_42 : decode kM_carry 42 = .ok (.aload_n 0, 1) := by decide +kernel
theorem dM_carry_43 : decode kM_carry 43 = .ok (.getfield 53, 3) := by decide +kernel
theorem dM_carry_46 : decode kM_carry 46 = .ok (.iload_n 1, 1) := by decide +kernel
theorem dM_carry_47 : decode kM_carry 47 = .ok (.dup2, 1) := by decide +kernel
theorem dM_carry_48 : decode kM_carry 48 = .ok (.iaload, 1) := by decide +kernel
theorem dM_carry_49 : decode kM_carry 49 = .ok (.iconst 1, 1) := by decide +kernel
theorem dM_carry_50 : decode kM_carry 50 = .ok (.iadd, 1) := by decide +kernel
theorem dM_carry_51 : decode kM_carry 51 = .ok (.iastore, 1) := by decide +kernel
theorem dM_carry_52 : decode kM_carry 52 = .ok (.iinc 4 1, 3) := by decide +kernel
theorem dM_carry_55 : decode kM_carry 55 = .ok (.goto (-45), 3) := by decide +kernel
theorem dM_carry_58 : decode kM_carry 58 = .ok (.return_, 1) := by decide +kernel
def bl_M_carry_10 (θ : TH) (a0_10 : Nat) (x1_10 : Int32) (x2_10 : Int32) (x3_10 : Int32) (K : VT → UT → Prop) (kb10 : Int32 → VT → UT → Prop) (x4_10 : Int32) (V : VT) (U : UT) : Prop := ((x3_10 ≤ x4_10 → K V U) ∧ (¬ x3_10 ≤ x4_10 → isO θ a0_10 12 ∧ (U a0_10 20) ≠ 0 ∧ (U a0_10 19) ≠ 0 ∧ ∃ n_11, isA θ (U a0_10 19) 0 n_11 ∧ vp_in x1_10 n_11 ∧ (U a0_10 0) ≠ 0 ∧ ∃ n_15, isA θ (U a0_10 0) 0 n_15 ∧ vp_in (x2_10 + x4_10) n_15 ∧ ∃ n_18, isA θ (U a0_10 20) 0 n_18 ∧ vp_in (((1000 : Int32) * x1_10) + (V (U a0_10 19) x1_10.toNatClampNeg)) n_18 ∧ ∀ V_21 : VT, V_21 = up2 V (U a0_10 20) (((1000 : Int32) * x1_10) + (V (U a0_10 19) x1_10.toNatClampNeg)).toNatClampNeg (V (U a0_10 0) (x2_10 + x4_10).toNatClampNeg) → ∀ V_22 : VT, V_22 = up2 V_21 (U a0_10 19) x1_10.toNatClampNeg ((V_21 (U a0_10 19) x1_10.toNatClampNeg) + (1 : Int32)) → ∀ y_23 : Int32, y_23 = x4_10 + (1 : Int32) → kb10 y_23 V_22 U))
def wl_M_carry_10 (θ : TH) (a0_10 : Nat) (x1_10 : Int32) (x2_10 : Int32) (x3_10 : Int32) (K : VT → UT → Prop) : Nat → Int32 → VT → UT → Prop
  | 0, _, _, _ => False
  | n + 1, x4_10, V, U => bl_M_carry_10 θ a0_10 x1_10 x2_10 x3_10 K (wl_M_carry_10 θ a0_10 x1_10 x2_10 x3_10 K n) x4_10 V U
def wp_M_carry (θ : TH) (a0 : Nat) (x1 : Int32) (x2 : Int32) (x3 : Int32) (V : VT) (U : UT) (K : VT → UT → Prop) : Prop := isO θ a0 12 ∧ (U a0 18) ≠ 0 ∧ ∃ n_3, isA θ (U a0 18) 1 n_3 ∧ vp_in x1 n_3 ∧ ∀ V_6 : VT, V_6 = up2 V (U a0 18) x1.toNatClampNeg (1 : Int32) → ∃ n, wl_M_carry_10 θ a0 x1 x2 x3 K n (0 : Int32) V_6 U
set_option maxRecDepth 100000 in
set_option maxHeartbeats 4000000 in
theorem c_M_carry (l : Launch) (θ : TH) (a0 : Nat) (x1 : Int32) (x2 : Int32) (x3 : Int32) (V : VT) (U : UT) (K : VT → UT → Prop) (hw : wp_M_carry θ a0 x1 x2 x3 V U K) : CMv l yM_carry kM_carry 5 none rmM_carry θ [.ref a0, .int x1, .int x2, .int x3] V U K := by
  refine g_met nRM (by decide +kernel) rfl (Nat.le_of_ble_eq_true rfl) (fun p e s m args below meth c ls hC hr hlk hwo hl => ?_)
  have hx := hC.1
  have hb := hC.2.1
  have hS : Sx θ s s.heap [] := va_S.rf
  have hl : lv_has ls 5 [(0, .ref a0), (1, .int x1), (2, .int x2), (3, .int x3)] := hl
  have L10 : ∀ (a0_10 : Nat) (x1_10 : Int32) (x2_10 : Int32) (x3_10 : Int32) (n10 : Nat) (x4_10 : Int32) (V : VT) (U : UT) (H : Heap) (locs : List Loc) (ls : Array Slot), wl_M_carry_10 θ a0_10 x1_10 x2_10 x3_10 K n10 x4_10 V U → wo θ V U H → Sx θ s H locs → lv_has ls 5 [(0, .ref a0_10), (1, .int x1_10), (2, .int x2_10), (3, .int x3_10), (4, .int x4_10)] → W p l e rmM_carry s m args below meth c H locs 0 0 (MQ below (QV θ K) args s 0 0 (aT θ)) (F0 m 10 ls []) := by
    intro a0_10 x1_10 x2_10 x3_10 n10
    induction n10 with
    | zero => intro x4_10 V U H locs ls hw hwo hS hl; exact (show False from hw).elim
    | succ n10 ih10 =>
      intro x4_10 V U H locs ls hw hwo hS hl
      replace hw : bl_M_carry_10 θ a0_10 x1_10 x2_10 x3_10 K (wl_M_carry_10 θ a0_10 x1_10 x2_10 x3_10 K n10) x4_10 V U := hw
      unfold bl_M_carry_10 at hw
      refine lv_iload hx hb dM_carry_10 (lv_at hl 4 rfl) ?_
      refine lv_iload_n hx hb dM_carry_12 rfl (lv_at hl 3 rfl) ?_
      refine lv_icmp_ge (tgt := 58) hx hb dM_carry_13 (by decide) (fun hc_7 => ?_) (fun hc_7 => ?_)
      · replace hw := hw.1 hc_7
        exact g_vret hC hr hlk hw hwo hS dM_carry_58
      · replace hw := hw.2 hc_7
        refine lv_aload_n hx hb dM_carry_16 rfl (lv_at hl 0 rfl) ?_
        obtain ⟨ho_8, hw⟩ := hw
        obtain ⟨hz_9, hw⟩ := hw
        refine g_getR hC fkM_56 rfl hwo ho_8 hz_9 dM_carry_17 ?_
        refine lv_sipush (v := 1000) hx hb dM_carry_20 (by decide) ?_
        refine lv_iload_n hx hb dM_carry_23 rfl (lv_at hl 1 rfl) ?_
        refine lv_imul hx hb dM_carry_24 ?_
        refine lv_aload_n hx hb dM_carry_25 rfl (lv_at hl 0 rfl) ?_
        obtain ⟨hz_10, hw⟩ := hw
        refine g_getR hC fkM_53 rfl hwo ho_8 hz_10 dM_carry_26 ?_
        refine lv_iload_n hx hb dM_carry_29 rfl (lv_at hl 1 rfl) ?_
        obtain ⟨n_11, ha_12, hw⟩ := hw
        obtain ⟨hi_13, hw⟩ := hw
        refine g_iald hC hwo ha_12 hi_13 dM_carry_30 ?_
        refine lv_iadd hx hb dM_carry_31 ?_
        refine lv_aload_n hx hb dM_carry_32 rfl (lv_at hl 0 rfl) ?_
        obtain ⟨hz_14, hw⟩ := hw
        refine g_getR hC fkM_7 rfl hwo ho_8 hz_14 dM_carry_33 ?_
        refine lv_iload_n hx hb dM_carry_36 rfl (lv_at hl 2 rfl) ?_
        refine lv_iload hx hb dM_carry_37 (lv_at hl 4 rfl) ?_
        refine lv_iadd hx hb dM_carry_39 ?_
        obtain ⟨n_15, ha_16, hw⟩ := hw
        obtain ⟨hi_17, hw⟩ := hw
        refine g_iald hC hwo ha_16 hi_17 dM_carry_40 ?_
        obtain ⟨n_18, ha_19, hw⟩ := hw
        obtain ⟨hi_20, hw⟩ := hw
        refine g_iast hC hwo hS ha_19 hi_20 dM_carry_41 (fun V_21 eV_21 H locs hwo hS => ?_)
        replace hw := hw V_21 eV_21
        refine lv_aload_n hx hb dM_carry_42 rfl (lv_at hl 0 rfl) ?_
        refine g_getR hC fkM_53 rfl hwo ho_8 hz_10 dM_carry_43 ?_
        refine lv_iload_n hx hb dM_carry_46 rfl (lv_at hl 1 rfl) ?_
        refine lv_dup2_11 hx hb dM_carry_47 rfl rfl ?_
        refine g_iald hC hwo ha_12 hi_13 dM_carry_48 ?_
        refine lv_iconst (v := 1) hx hb dM_carry_49 (by decide) ?_
        refine lv_iadd hx hb dM_carry_50 ?_
        refine g_iast hC hwo hS ha_12 hi_13 dM_carry_51 (fun V_22 eV_22 H locs hwo hS => ?_)
        replace hw := hw V_22 eV_22
        obtain ⟨y_23, ey_23⟩ : ∃ z : Int32, z = x4_10 + (1 : Int32) := ⟨_, rfl⟩
        replace hw := hw y_23 ey_23
        refine lv_iinc (k := 4) (v := y_23) (lv' := [(4, .int y_23), (0, .ref a0_10), (1, .int x1_10), (2, .int x2_10), (3, .int x3_10)]) hx hb dM_carry_52 hl rfl (by rw [ey_23]; rfl) (by decide) rfl (fun ls hl => ?_)
        refine lv_goto (tgt := 10) hx hb dM_carry_55 (by decide) ?_
        exact ih10 _ _ _ _ _ _ hw hwo hS (lv_sub hl [1, 2, 3, 4, 0] rfl)
  unfold wp_M_carry at hw
  refine lv_aload_n hx hb dM_carry_0 rfl (lv_at hl 0 rfl) ?_
  obtain ⟨ho_1, hw⟩ := hw
  obtain ⟨hz_2, hw⟩ := hw
  refine g_getR hC fkM_50 rfl hwo ho_1 hz_2 dM_carry_1 ?_
  refine lv_iload_n hx hb dM_carry_4 rfl (lv_at hl 1 rfl) ?_
  refine lv_iconst (v := 1) hx hb dM_carry_5 (by decide) ?_
  obtain ⟨n_3, ha_4, hw⟩ := hw
  obtain ⟨hi_5, hw⟩ := hw
  refine g_zast hC hwo hS ha_4 hi_5 (Or.inr rfl) dM_carry_6 (fun V_6 eV_6 H locs hwo hS => ?_)
  replace hw := hw V_6 eV_6
  refine lv_iconst (v := 0) hx hb dM_carry_7 (by decide) ?_
  refine lv_istore (i := 4) (lv' := [(4, .int (0 : Int32)), (0, .ref a0), (1, .int x1), (2, .int x2), (3, .int x3)]) hx hb dM_carry_8 hl (by decide) rfl (fun ls hl => ?_)
  obtain ⟨n, hw⟩ := hw
  exact L10 _ _ _ _ n _ _ _ _ _ _ hw hwo hS (lv_sub hl [1, 2, 3, 4, 0] rfl)
theorem dM_finish_0 : decode kM_finish 0 = .ok (.aload_n 0, 1) := by decide +kernel
theorem dM_finish_1 : decode kM_finish 1 = .ok (.getfield 71, 3) := by decide +kernel
theorem dM_finish_4 : decode kM_finish 4 = .ok (.aload_n 0, 1) := by decide +kernel
theorem dM_finish_5 : decode kM_finish 5 = .ok (.getfield 173, 3) := by decide +kernel
theorem dM_finish_8 : decode kM_finish 8 = .ok (.aload_n 0, 1) := by decide +kernel
theorem dM_finish_9 : decode kM_finish 9 = .ok (.getfield 182, 3) := by decide +kernel
theorem dM_finish_12 : decode kM_finish 12 = .ok (.iastore, 1) := by decide +kernel
theorem dM_finish_13 : decode kM_finish 13 = .ok (.iconst 0, 1) := by decide +kernel
theorem dM_finish_14 : decode kM_finish 14 = .ok (.istore 4, 2) := by decide +kernel
theorem dM_finish_16 : decode kM_finish 16 = .ok (.iload 4, 2) := by decide +kernel
theorem dM_finish_18 : decode kM_finish 18 = .ok (.aload_n 0, 1) := by decide +kernel
theorem dM_finish_19 : decode kM_finish 19 = .ok (.getfield 53, 3) := by decide +kernel
theorem dM_finish_22 : decode kM_finish 22 = .ok (.iload_n 1, 1) := by decide +kernel
theorem dM_finish_23 : decode kM_finish 23 = .ok (.iaload, 1) := by decide +kernel
theorem dM_finish_24 : decode kM_finish 24 = .ok (.if_icmp .ge 41, 3) := by decide +kernel
theorem dM_finish_27 : decode kM_finish 27 = .ok (.aload_n 0, 1) := by decide +kernel
theorem dM_finish_28 : decode kM_finish 28 = .ok (.getfield 74, 3) := by decide +kernel
theorem dM_finish_31 : decode kM_finish 31 = .ok (.aload_n 0, 1) := by decide +kernel
theorem dM_finish_32 : decode kM_finish 32 = .ok (.getfield 182, 3) := by decide +kernel
theorem dM_finish_35 : decode kM_finish 35 = .ok (.aload_n 0, 1) := by decide +kernel
theorem dM_finish_36 : decode kM_finish 36 = .ok (.getfield 56, 3) := by decide +kernel
theorem dM_finish_39 : decode kM_finish 39 = .ok (.sipush 1000, 3) := by decide +kernel
theorem dM_finish_42 : decode kM_finish 42 = .ok (.iload_n 1, 1) := by decide +kernel
theorem dM_finish_43 : decode kM_finish 43 = .ok (.imul, 1) := by decide +kernel
theorem dM_finish_44 : decode kM_finish 44 = .ok (.iload 4, 2) := by decide +kernel
theorem dM_finish_46 : decode kM_finish 46 = .ok (.iadd, 1) := by decide +kernel
theorem dM_finish_47 : decode kM_finish 47 = .ok (.iaload, 1) := by decide +kernel
theorem dM_finish_48 : decode kM_finish 48 = .ok (.iastore, 1) := by decide +kernel
theorem dM_finish_49 : decode kM_finish 49 = .ok (.aload_n 0, 1) := by decide +kernel
theorem dM_finish_50 : decode kM_finish 50 = .ok (.dup, 1) := by decide +kernel
theorem dM_finish_51 : decode kM_finish 51 = .ok (.getfield 182, 3) := by decide +kernel
theorem dM_finish_54 : decode kM_finish 54 = .ok (.iconst 1, 1) := by decide +kernel
theorem dM_finish_55 : decode kM_finish 55 = .ok (.iadd, 1) := by decide +kernel
theorem dM_finish_56 : decode kM_finish 56 = .ok (.putfield 182, 3) := by decide +kernel
theorem dM_finish_59 : decode kM_finish 59 = .ok (.iinc 4 1, 3) := by decide +kernel
theorem dM_finish_62 : decode kM_finish 62 = .ok (.goto (-46), 3) := by decide +kernel
theorem dM_finish_65 : decode kM_finish 65 = .ok (.aload_n 0, 1) := by decide +kernel
theorem dM_finish_66 : decode kM_finish 66 = .ok (.iconst 3, 1) := by decide +kernel
theorem dM_finish_67 : decode kM_finish 67 = .ok (.aload_n 0, 1) := by decide +kernel
theorem dM_finish_68 : decode kM_finish 68 = .ok (.getfield 53, 3) := by decide +kernel
theorem dM_finish_71 : decode kM_finish 71 = .ok (.iload_n 1, 1) := by decide +kernel
theorem dM_finish_72 : decode kM_finish 72 = .ok (.iaload, 1) := by decide +kernel
theorem dM_finish_73 : decode kM_finish 73 = .ok (.iload_n 2, 1) := by decide +kernel
theorem dM_finish_74 : decode kM_finish 74 = .ok (.iload_n 3, 1) := by decide +kernel
theorem dM_finish_75 : decode kM_finish 75 = .ok (.invokevirtual 192, 3) := by decide +kernel
theorem dM_finish_78 : decode kM_finish 78 = .ok (.aload_n 0, 1) := by decide +kernel
theorem dM_finish_79 : decode kM_finish 79 = .ok (.getfield 50, 3) := by decide +kernel
theorem dM_finish_82 : decode kM_finish 82 = .ok (.iload_n 1, 1) := by decide +kernel
theorem dM_finish_83 : decode kM_finish 83 = .ok (.iconst 0, 1) := by decide +kernel
theorem dM_finish_84 : decode kM_finish 84 = .ok (.bastore, 1) := by decide +kernel
theorem dM_finish_85 : decode kM_finish 85 = .ok (.aload_n 0, 1) := by decide +kernel
theorem dM_finish_86 : decode kM_finish 86 = .ok (.getfield 53, 3) := by decide +kernel
theorem dM_finish_89 : decode kM_finish 89 = .ok (.iload_n 1, 1) := by decide +kernel
theorem dM_finish_90 : decode kM_finish 90 = .ok (.iconst 0, 1) := by decide +kernel
theorem dM_finish_91 : decode kM_finish 91 = .ok (.iastore, 1) := by decide +kernel
theorem dM_finish_92 : decode kM_finish 92 = .ok (.aload_n 0, 1) := by decide +kernel
theorem dM_finish_93 : decode kM_finish 93 = .ok (.getfield 47, 3) := by decide +kernel
theorem dM_finish_96 : decode kM_finish 96 = .ok (.iload_n 1, 1) := by decide +kernel
theorem dM_finish_97 : decode kM_finish 97 = .ok (.dup2, 1) := by decide +kernel
theorem dM_finish_98 : decode kM_finish 98 = .ok (.iaload, 1) := by decide +kernel
theorem dM_finish_99 : decode kM_finish 99 = .ok (.iconst 1, 1) := by decide +kernel
theorem dM_finish_100 : decode kM_finish 100 = .ok (.iadd, 1) := by decide +kernel
theorem dM_finish_101 : decode kM_finish 101 = .ok (.iastore, 1) := by decide +kernel
theorem dM_finish_102 : decode kM_finish 102 = .ok (.return_, 1) := by decide +kernel
def bl_M_finish_16 (θ : TH) (a0_16 : Nat) (x1_16 : Int32) (x2_16 : Int32) (x3_16 : Int32) (K : VT → UT → Prop) (kb16 : Int32 → VT → UT → Prop) (x4_16 : Int32) (V : VT) (U : UT) : Prop := isO θ a0_16 12 ∧ (U a0_16 19) ≠ 0 ∧ ∃ n_9, isA θ (U a0_16 19) 0 n_9 ∧ vp_in x1_16 n_9 ∧ (((V (U a0_16 19) x1_16.toNatClampNeg) ≤ x4_16 → wp_M_event θ a0_16 (3 : Int32) (V (U a0_16 19) x1_16.toNatClampNeg) x2_16 x3_16 V U (fun V_13 U_14 => (U_14 a0_16 18) ≠ 0 ∧ ∃ n_16, isA θ (U_14 a0_16 18) 1 n_16 ∧ vp_in x1_16 n_16 ∧ ∀ V_19 : VT, V_19 = up2 V_13 (U_14 a0_16 18) x1_16.toNatClampNeg (0 : Int32) → (U_14 a0_16 19) ≠ 0 ∧ ∃ n_21, isA θ (U_14 a0_16 19) 0 n_21 ∧ vp_in x1_16 n_21 ∧ ∀ V_24 : VT, V_24 = up2 V_19 (U_14 a0_16 19) x1_16.toNatClampNeg (0 : Int32) → (U_14 a0_16 17) ≠ 0 ∧ ∃ n_26, isA θ (U_14 a0_16 17) 0 n_26 ∧ vp_in x1_16 n_26 ∧ ∀ V_29 : VT, V_29 = up2 V_24 (U_14 a0_16 17) x1_16.toNatClampNeg ((V_24 (U_14 a0_16 17) x1_16.toNatClampNeg) + (1 : Int32)) → K V_29 U_14)) ∧ (¬ (V (U a0_16 19) x1_16.toNatClampNeg) ≤ x4_16 → (U a0_16 28) ≠ 0 ∧ (U a0_16 20) ≠ 0 ∧ ∃ n_32, isA θ (U a0_16 20) 0 n_32 ∧ vp_in (((1000 : Int32) * x1_16) + x4_16) n_32 ∧ ∃ n_35, isA θ (U a0_16 28) 0 n_35 ∧ vp_in (V a0_16 29) n_35 ∧ ∀ V_38 : VT, V_38 = up2 V (U a0_16 28) (V a0_16 29).toNatClampNeg (V (U a0_16 20) (((1000 : Int32) * x1_16) + x4_16).toNatClampNeg) → ∀ V_39 : VT, V_39 = up2 V_38 a0_16 29 ((V_38 a0_16 29) + (1 : Int32)) → ∀ y_40 : Int32, y_40 = x4_16 + (1 : Int32) → kb16 y_40 V_39 U))
def wl_M_finish_16 (θ : TH) (a0_16 : Nat) (x1_16 : Int32) (x2_16 : Int32) (x3_16 : Int32) (K : VT → UT → Prop) : Nat → Int32 → VT → UT → Prop
  | 0, _, _, _ => False
  | n + 1, x4_16, V, U => bl_M_finish_16 θ a0_16 x1_16 x2_16 x3_16 K (wl_M_finish_16 θ a0_16 x1_16 x2_16 x3_16 K n) x4_16 V U
def wp_M_finish (θ : TH) (a0 : Nat) (x1 : Int32) (x2 : Int32) (x3 : Int32) (V : VT) (U : UT) (K : VT → UT → Prop) : Prop := isO θ a0 12 ∧ (U a0 27) ≠ 0 ∧ ∃ n_3, isA θ (U a0 27) 0 n_3 ∧ vp_in (V a0 22) n_3 ∧ ∀ V_6 : VT, V_6 = up2 V (U a0 27) (V a0 22).toNatClampNeg (V a0 29) → ∃ n, wl_M_finish_16 θ a0 x1 x2 x3 K n (0 : Int32) V_6 U
set_option maxRecDepth 100000 in
set_option maxHeartbeats 4000000 in
theorem c_M_finish (l : Launch) (θ : TH) (a0 : Nat) (x1 : Int32) (x2 : Int32) (x3 : Int32) (V : VT) (U : UT) (K : VT → UT → Prop) (hw : wp_M_finish θ a0 x1 x2 x3 V U K) : CMv l yM_finish kM_finish 5 none rmM_finish θ [.ref a0, .int x1, .int x2, .int x3] V U K := by
  refine g_met nRM (by decide +kernel) rfl (Nat.le_of_ble_eq_true rfl) (fun p e s m args below meth c ls hC hr hlk hwo hl => ?_)
  have hx := hC.1
  have hb := hC.2.1
  have hS : Sx θ s s.heap [] := va_S.rf
  have hl : lv_has ls 5 [(0, .ref a0), (1, .int x1), (2, .int x2), (3, .int x3)] := hl
  have L16 : ∀ (a0_16 : Nat) (x1_16 : Int32) (x2_16 : Int32) (x3_16 : Int32) (n16 : Nat) (x4_16 : Int32) (V : VT) (U : UT) (H : Heap) (locs : List Loc) (ls : Array Slot), wl_M_finish_16 θ a0_16 x1_16 x2_16 x3_16 K n16 x4_16 V U → wo θ V U H → Sx θ s H locs → lv_has ls 5 [(0, .ref a0_16), (1, .int x1_16), (2, .int x2_16), (3, .int x3_16), (4, .int x4_16)] → W p l e rmM_finish s m args below meth c H locs 0 0 (MQ below (QV θ K) args s 0 0 (aT θ)) (F0 m 16 ls []) := by
    intro a0_16 x1_16 x2_16 x3_16 n16
    induction n16 with
    | zero => intro x4_16 V U H locs ls hw hwo hS hl; exact (show False from hw).elim
    | succ n16 ih16 =>
      intro x4_16 V U H locs ls hw hwo hS hl
      replace hw : bl_M_finish_16 θ a0_16 x1_16 x2_16 x3_16 K (wl_M_finish_16 θ a0_16 x1_16 x2_16 x3_16 K n16) x4_16 V U := hw
      unfold bl_M_finish_16 at hw
      refine lv_iload hx hb dM_finish_16 (lv_at hl 4 rfl) ?_
      refine lv_aload_n hx hb dM_finish_18 rfl (lv_at hl 0 rfl) ?_
      obtain ⟨ho_7, hw⟩ := hw
      obtain ⟨hz_8, hw⟩ := hw
      refine g_getR hC fkM_53 rfl hwo ho_7 hz_8 dM_finish_19 ?_
      refine lv_iload_n hx hb dM_finish_22 rfl (lv_at hl 1 rfl) ?_
      obtain ⟨n_9, ha_10, hw⟩ := hw
      obtain ⟨hi_11, hw⟩ := hw
      refine g_iald hC hwo ha_10 hi_11 dM_finish_23 ?_
      refine lv_icmp_ge (tgt := 65) hx hb dM_finish_24 (by decide) (fun hc_12 => ?_) (fun hc_12 => ?_)
      · replace hw := hw.1 hc_12
        refine lv_aload_n hx hb dM_finish_65 rfl (lv_at hl 0 rfl) ?_
        refine lv_iconst (v := 3) hx hb dM_finish_66 (by decide) ?_
        refine lv_aload_n hx hb dM_finish_67 rfl (lv_at hl 0 rfl) ?_
        refine g_getR hC fkM_53 rfl hwo ho_7 hz_8 dM_finish_68 ?_
        refine lv_iload_n hx hb dM_finish_71 rfl (lv_at hl 1 rfl) ?_
        refine g_iald hC hwo ha_10 hi_11 dM_finish_72 ?_
        refine lv_iload_n hx hb dM_finish_73 rfl (lv_at hl 2 rfl) ?_
        refine lv_iload_n hx hb dM_finish_74 rfl (lv_at hl 3 rfl) ?_
        refine g_Vv (rest := []) hC (c_M_event l θ _ _ _ _ _ _ _ _ hw) mi_M_event mlM_192 mv_M_event ci_12 ho_7 hwo hS ⟨rfl, rfl⟩ ⟨by decide, by decide⟩ rfl hl.1 rfl (Nat.le_of_ble_eq_true rfl) dM_finish_75 (fun V_13 U_14 hw H locs hwo hS => ?_)
        refine lv_aload_n hx hb dM_finish_78 rfl (lv_at hl 0 rfl) ?_
        obtain ⟨hz_15, hw⟩ := hw
        refine g_getR hC fkM_50 rfl hwo ho_7 hz_15 dM_finish_79 ?_
        refine lv_iload_n hx hb dM_finish_82 rfl (lv_at hl 1 rfl) ?_
        refine lv_iconst (v := 0) hx hb dM_finish_83 (by decide) ?_
        obtain ⟨n_16, ha_17, hw⟩ := hw
        obtain ⟨hi_18, hw⟩ := hw
        refine g_zast hC hwo hS ha_17 hi_18 (Or.inl rfl) dM_finish_84 (fun V_19 eV_19 H locs hwo hS => ?_)
        replace hw := hw V_19 eV_19
        refine lv_aload_n hx hb dM_finish_85 rfl (lv_at hl 0 rfl) ?_
        obtain ⟨hz_20, hw⟩ := hw
        refine g_getR hC fkM_53 rfl hwo ho_7 hz_20 dM_finish_86 ?_
        refine lv_iload_n hx hb dM_finish_89 rfl (lv_at hl 1 rfl) ?_
        refine lv_iconst (v := 0) hx hb dM_finish_90 (by decide) ?_
        obtain ⟨n_21, ha_22, hw⟩ := hw
        obtain ⟨hi_23, hw⟩ := hw
        refine g_iast hC hwo hS ha_22 hi_23 dM_finish_91 (fun V_24 eV_24 H locs hwo hS => ?_)
        replace hw := hw V_24 eV_24
        refine lv_aload_n hx hb dM_finish_92 rfl (lv_at hl 0 rfl) ?_
        obtain ⟨hz_25, hw⟩ := hw
        refine g_getR hC fkM_47 rfl hwo ho_7 hz_25 dM_finish_93 ?_
        refine lv_iload_n hx hb dM_finish_96 rfl (lv_at hl 1 rfl) ?_
        refine lv_dup2_11 hx hb dM_finish_97 rfl rfl ?_
        obtain ⟨n_26, ha_27, hw⟩ := hw
        obtain ⟨hi_28, hw⟩ := hw
        refine g_iald hC hwo ha_27 hi_28 dM_finish_98 ?_
        refine lv_iconst (v := 1) hx hb dM_finish_99 (by decide) ?_
        refine lv_iadd hx hb dM_finish_100 ?_
        refine g_iast hC hwo hS ha_27 hi_28 dM_finish_101 (fun V_29 eV_29 H locs hwo hS => ?_)
        replace hw := hw V_29 eV_29
        exact g_vret hC hr hlk hw hwo hS dM_finish_102
      · replace hw := hw.2 hc_12
        refine lv_aload_n hx hb dM_finish_27 rfl (lv_at hl 0 rfl) ?_
        obtain ⟨hz_30, hw⟩ := hw
        refine g_getR hC fkM_74 rfl hwo ho_7 hz_30 dM_finish_28 ?_
        refine lv_aload_n hx hb dM_finish_31 rfl (lv_at hl 0 rfl) ?_
        refine g_getI hC fkM_182 rfl hwo ho_7 dM_finish_32 ?_
        refine lv_aload_n hx hb dM_finish_35 rfl (lv_at hl 0 rfl) ?_
        obtain ⟨hz_31, hw⟩ := hw
        refine g_getR hC fkM_56 rfl hwo ho_7 hz_31 dM_finish_36 ?_
        refine lv_sipush (v := 1000) hx hb dM_finish_39 (by decide) ?_
        refine lv_iload_n hx hb dM_finish_42 rfl (lv_at hl 1 rfl) ?_
        refine lv_imul hx hb dM_finish_43 ?_
        refine lv_iload hx hb dM_finish_44 (lv_at hl 4 rfl) ?_
        refine lv_iadd hx hb dM_finish_46 ?_
        obtain ⟨n_32, ha_33, hw⟩ := hw
        obtain ⟨hi_34, hw⟩ := hw
        refine g_iald hC hwo ha_33 hi_34 dM_finish_47 ?_
        obtain ⟨n_35, ha_36, hw⟩ := hw
        obtain ⟨hi_37, hw⟩ := hw
        refine g_iast hC hwo hS ha_36 hi_37 dM_finish_48 (fun V_38 eV_38 H locs hwo hS => ?_)
        replace hw := hw V_38 eV_38
        refine lv_aload_n hx hb dM_finish_49 rfl (lv_at hl 0 rfl) ?_
        refine lv_dup hx hb dM_finish_50 rfl ?_
        refine g_getI hC fkM_182 rfl hwo ho_7 dM_finish_51 ?_
        refine lv_iconst (v := 1) hx hb dM_finish_54 (by decide) ?_
        refine lv_iadd hx hb dM_finish_55 ?_
        refine g_putI hC fkM_182 rfl hwo hS ho_7 dM_finish_56 (fun V_39 eV_39 H locs hwo hS => ?_)
        replace hw := hw V_39 eV_39
        obtain ⟨y_40, ey_40⟩ : ∃ z : Int32, z = x4_16 + (1 : Int32) := ⟨_, rfl⟩
        replace hw := hw y_40 ey_40
        refine lv_iinc (k := 4) (v := y_40) (lv' := [(4, .int y_40), (0, .ref a0_16), (1, .int x1_16), (2, .int x2_16), (3, .int x3_16)]) hx hb dM_finish_59 hl rfl (by rw [ey_40]; rfl) (by decide) rfl (fun ls hl => ?_)
        refine lv_goto (tgt := 16) hx hb dM_finish_62 (by decide) ?_
        exact ih16 _ _ _ _ _ _ hw hwo hS (lv_sub hl [1, 2, 3, 4, 0] rfl)
  unfold wp_M_finish at hw
  refine lv_aload_n hx hb dM_finish_0 rfl (lv_at hl 0 rfl) ?_
  obtain ⟨ho_1, hw⟩ := hw
  obtain ⟨hz_2, hw⟩ := hw
  refine g_getR hC fkM_71 rfl hwo ho_1 hz_2 dM_finish_1 ?_
  refine lv_aload_n hx hb dM_finish_4 rfl (lv_at hl 0 rfl) ?_
  refine g_getI hC fkM_173 rfl hwo ho_1 dM_finish_5 ?_
  refine lv_aload_n hx hb dM_finish_8 rfl (lv_at hl 0 rfl) ?_
  refine g_getI hC fkM_182 rfl hwo ho_1 dM_finish_9 ?_
  obtain ⟨n_3, ha_4, hw⟩ := hw
  obtain ⟨hi_5, hw⟩ := hw
  refine g_iast hC hwo hS ha_4 hi_5 dM_finish_12 (fun V_6 eV_6 H locs hwo hS => ?_)
  replace hw := hw V_6 eV_6
  refine lv_iconst (v := 0) hx hb dM_finish_13 (by decide) ?_
  refine lv_istore (i := 4) (lv' := [(4, .int (0 : Int32)), (0, .ref a0), (1, .int x1), (2, .int x2), (3, .int x3)]) hx hb dM_finish_14 hl (by decide) rfl (fun ls hl => ?_)
  obtain ⟨n, hw⟩ := hw
  exact L16 _ _ _ _ n _ _ _ _ _ _ hw hwo hS (lv_sub hl [1, 2, 3, 4, 0] rfl)
theorem dM_segments_0 : decode kM_segments 0 = .ok (.aload_n 0, 1) := by decide +kernel
theorem dM_segments_1 : decode kM_segments 1 = .ok (.getfield 7, 3) := by decide +kernel
theorem dM_segments_4 : decode kM_segments 4 = .ok (.iload_n 1, 1) := by decide +kernel
theorem dM_segments_5 : decode kM_segments 5 = .ok (.iconst 4, 1) := by decide +kernel
theorem dM_segments_6 : decode kM_segments 6 = .ok (.iadd, 1) := by decide +kernel
theorem dM_segments_7 : decode kM_segments 7 = .ok (.iaload, 1) := by decide +kernel
theorem dM_segments_8 : decode kM_segments 8 = .ok (.istore_n 3, 1) := by decide +kernel
theorem dM_segments_9 : decode kM_segments 9 = .ok (.aload_n 0, 1) := by decide +kernel
theorem dM_segments_10 : decode kM_segments 10 = .ok (.getfield 7, 3) := by decide +kernel
theorem dM_segments_13 : decode kM_segments 13 = .ok (.iload_n 1, 1) := by decide +kernel
theorem dM_segments_14 : decode kM_segments 14 = .ok (.bipush 13, 2) := by decide +kernel
theorem dM_segments_16 : decode kM_segments 16 = .ok (.iadd, 1) := by decide +kernel
theorem dM_segments_17 : decode kM_segments 17 = .ok (.iaload, 1) := by decide +kernel
theorem dM_segments_18 : decode kM_segments 18 = .ok (.istore 4, 2) := by decide +kernel
theorem dM_segments_20 : decode kM_segments 20 = .ok (.iconst (-1), 1) := by decide +kernel
theorem dM_segments_21 : decode kM_segments 21 = .ok (.istore 5, 2) := by decide +kernel
theorem dM_segments_23 : decode kM_segments 23 = .ok (.iload 4, 2) := by decide +kernel
theorem dM_segments_25 : decode kM_segments 25 = .ok (.istore 6, 2) := by decide +kernel
theorem dM_segments_27 : decode kM_segments 27 = .ok (.iload 4, 2) := by decide +kernel
theorem dM_segments_29 : decode kM_segments 29 = .ok (.iconst 1, 1) := by decide +kernel
theorem dM_segments_30 : decode kM_segments 30 = .ok (.isub, 1) := by decide +kernel
theorem dM_segments_31 : decode kM_segments 31 = .ok (.istore 7, 2) := by decide +kernel
theorem dM_segments_33 : decode kM_segments 33 = .ok (.iload 7, 2) := by decide +kernel
theorem dM_segments_35 : decode kM_segments 35 = .ok (.ifCond .lt 66, 3) := by decide +kernel
theorem dM_segments_38 : decode kM_segments 38 = .ok (.aload_n 0, 1) := by decide +kernel
theorem dM_segments_39 : decode kM_segments 39 = .ok (.getfield 7, 3) := by decide +kernel
theorem dM_segments_42 : decode kM_segments 42 = .ok (.iload_n 1, 1) := by decide +kernel
theorem dM_segments_43 : decode kM_segments 43 = .ok (.bipush 14, 2) := by decide +kernel
theorem dM_segments_45 : decode kM_segments 45 = .ok (.iadd, 1) := by decide +kernel
theorem dM_segments_46 : decode kM_segments 46 = .ok (.iload 7, 2) := by decide +kernel
theorem dM_segments_48 : decode kM_segments 48 = .ok (.iadd, 1) := by decide +kernel
theorem dM_segments_49 : decode kM_segments 49 = .ok (.iaload, 1) := by decide +kernel
theorem dM_segments_50 : decode kM_segments 50 = .ok (.bipush 15, 2) := by decide +kernel
theorem dM_segments_52 : decode kM_segments 52 = .ok (.if_icmp .ge 7, 3) := by decide +kernel
theorem dM_segments_55 : decode kM_segments 55 = .ok (.iconst 1, 1) := by decide +kernel
theorem dM_segments_56 : decode kM_segments 56 = .ok (.goto 4, 3) := by decide +kernel
theorem dM_segments_59 : decode kM_segments 59 = .ok (.iconst 0, 1) := by decide +kernel
theorem dM_segments_60 : decode kM_segments 60 = .ok (.istore 8, 2) := by decide +kernel
theorem dM_segments_62 : decode kM_segments 62 = .ok (.iload 8, 2) := by decide +kernel
theorem dM_segments_64 : decode kM_segments 64 = .ok (.ifCond .eq 8, 3) := by decide +kernel
theorem dM_segments_67 : decode kM_segments 67 = .ok (.iload 7, 2) := by decide +kernel
theorem dM_segments_69 : decode kM_segments 69 = .ok (.goto 5, 3) := by decide +kernel
theorem dM_segments_72 : decode kM_segments 72 = .ok (.iload 6, 2) := by decide +kernel
theorem dM_segments_74 : decode kM_segments 74 = .ok (.istore 6, 2) := by decide +kernel
theorem dM_segments_76 : decode kM_segments 76 = .ok (.iload 8, 2) := by decide +kernel
theorem dM_segments_78 : decode kM_segments 78 = .ok (.ifCond .eq 13, 3) := by decide +kernel
theorem dM_segments_81 : decode kM_segments 81 = .ok (.iload 5, 2) := by decide +kernel
theorem dM_segments_83 : decode kM_segments 83 = .ok (.ifCond .ge 8, 3) := by decide +kernel
theorem dM_segments_86 : decode kM_segments 86 = .ok (.iload 7, 2) := by decide +kernel
theorem dM_segments_88 : decode kM_segments 88 = .ok (.goto 5, 3) := by decide +kernel
theorem dM_segments_91 : decode kM_segments 91 = .ok (.iload 5, 2) := by decide +kernel
theorem dM_segments_93 : decode kM_segments 93 = .ok (.istore 5, 2) := by decide +kernel
theorem dM_segments_95 : decode kM_segments 95 = .ok (.iinc 7 (-1), 3) := by decide +kernel
theorem dM_segments_98 : decode kM_segments 98 = .ok (.goto (-65), 3) := by decide +kernel
theorem dM_segments_101 : decode kM_segments 101 = .ok (.iconst 0, 1) := by decide +kernel
theorem dM_segments_102 : decode kM_segments 102 = .ok (.istore 7, 2) := by decide +kernel
theorem dM_segments_104 : decode kM_segments 104 = .ok (.iload_n 3, 1) := by decide +kernel
theorem dM_segments_105 : decode kM_segments 105 = .ok (.iconst 1, 1) := by decide +kernel
theorem dM_segments_106 : decode kM_segments 106 = .ok (.iand, 1) := by decide +kernel
theorem dM_segments_107 : decode kM_segments 107 = .ok (.ifCond .ne 11, 3) := by decide +kernel
theorem dM_segments_110 : decode kM_segments 110 = .ok (.aload_n 0, 1) := by decide +kernel
theorem dM_segments_111 : decode kM_segments 111 = .ok (.iload_n 2, 1) := by decide +kernel
theorem dM_segments_112 : decode kM_segments 112 = .ok (.invokevirtual 196, 3) := by decide +kernel
theorem dM_segments_115 : decode kM_segments 115 = .ok (.goto 33, 3) := by decide +kernel
theorem dM_segments_118 : decode kM_segments 118 = .ok (.aload_n 0, 1) := by decide +kernel
theorem dM_segments_119 : decode kM_segments 119 = .ok (.getfield 50, 3) := by decide +kernel
theorem dM_segments_122 : decode kM_segments 122 = .ok (.iload_n 2, 1) := by decide +kernel
theorem dM_segments_123 : decode kM_segments 123 = .ok (.baload, 1) := by decide +kernel
theorem dM_segments_124 : decode kM_segments 124 = .ok (.ifCond .ne 24, 3) := by decide +kernel
theorem dM_segments_127 : decode kM_segments 127 = .ok (.iload 4, 2) := by decide +kernel
theorem dM_segments_129 : decode kM_segments 129 = .ok (.ifCond .le 19, 3) := by decide +kernel
theorem dM_segments_132 : decode kM_segments 132 = .ok (.aload_n 0, 1) := by decide +kernel
theorem dM_segments_133 : decode kM_segments 133 = .ok (.dup, 1) := by decide +kernel
theorem dM_segments_134 : decode kM_segments 134 = .ok (.getfield 176, 3) := by decide +kernel
theorem dM_segments_137 : decode kM_segments 137 = .ok (.iconst 1, 1) := by decide +kernel
theorem dM_segments_138 : decode kM_segments 138 = .ok (.iadd, 1) := by decide +kernel
theorem dM_segments_139 : decode kM_segments 139 = .ok (.putfield 176, 3) := by decide +kernel
theorem dM_segments_142 : decode kM_segments 142 = .ok (.iload 6, 2) := by decide +kernel
theorem dM_segments_144 : decode kM_segments 144 = .ok (.iconst 1, 1) := by decide +kernel
theorem dM_segments_145 : decode kM_segments 145 = .ok (.iadd, 1) := by decide +kernel
theorem dM_segments_146 : decode kM_segments 146 = .ok (.istore 7, 2) := by decide +kernel
theorem dM_segments_148 : decode kM_segments 148 = .ok (.aload_n 0, 1) := by decide +kernel
theorem dM_segments_149 : decode kM_segments 149 = .ok (.getfield 7, 3) := by decide +kernel
theorem dM_segments_152 : decode kM_segments 152 = .ok (.iload_n 1, 1) := by decide +kernel
theorem dM_segments_153 : decode kM_segments 153 = .ok (.bipush 7, 2) := by decide +kernel
theorem dM_segments_155 : decode kM_segments 155 = .ok (.iadd, 1) := by decide +kernel
theorem dM_segments_156 : decode kM_segments 156 = .ok (.iaload, 1) := by decide +kernel
theorem dM_segments_157 : decode kM_segments 157 = .ok (.sipush 256, 3) := by decide +kernel
theorem dM_segments_160 : decode kM_segments 160 = .ok (.aload_n 0, 1) := by decide +kernel
theorem dM_segments_161 : decode kM_segments 161 = .ok (.getfield 7, 3) := by decide +kernel
theorem dM_segments_164 : decode kM_segments 164 = .ok (.iload_n 1, 1) := by decide +kernel
theorem dM_segments_165 : decode kM_segments 165 = .ok (.bipush 8, 2) := by decide +kernel
theorem dM_segments_167 : decode kM_segments 167 = .ok (.iadd, 1) := by decide +kernel
theorem dM_segments_168 : decode kM_segments 168 = .ok (.iaload, 1) := by decide +kernel
theorem dM_segments_169 : decode kM_segments 169 = .ok (.imul, 1) := by decide +kernel
theorem dM_segments_170 : decode kM_segments 170 = .ok (.iadd, 1) := by decide +kernel
theorem dM_segments_171 : decode kM_segments 171 = .ok (.istore 8, 2) := by decide +kernel
theorem dM_segments_173 : decode kM_segments 173 = .ok (.iload_n 1, 1) := by decide +kernel
theorem dM_segments_174 : decode kM_segments 174 = .ok (.bipush 14, 2) := by decide +kernel
theorem dM_segments_176 : decode kM_segments 176 = .ok (.iadd, 1) := by decide +kernel
theorem dM_segments_177 : decode kM_segments 177 = .ok (.iload 4, 2) := by decide +kernel
theorem dM_segments_179 : decode kM_segments 179 = .ok (.iadd, 1) := by decide +kernel
theorem dM_segments_180 : decode kM_segments 180 = .ok (.istore 9, 2) := by decide +kernel
theorem dM_segments_182 : decode kM_segments 182 = .ok (.iconst 0, 1) := by decide +kernel
theorem dM_segments_183 : decode kM_segments 183 = .ok (.istore 10, 2) := by decide +kernel
theorem dM_segments_185 : decode kM_segments 185 = .ok (.iload 10, 2) := by decide +kernel
theorem dM_segments_187 : decode kM_segments 187 = .ok (.iload 4, 2) := by decide +kernel
theorem dM_segments_189 : decode kM_segments 189 = .ok (.if_icmp .ge 90, 3) := by decide +kernel
theorem dM_segments_192 : decode kM_segments 192 = .ok (.aload_n 0, 1) := by decide +kernel
theorem dM_segments_193 : decode kM_segments 193 = .ok (.getfield 7, 3) := by decide +kernel
theorem dM_segments_196 : decode kM_segments 196 = .ok (.iload_n 1, 1) := by decide +kernel
theorem dM_segments_197 : decode kM_segments 197 = .ok (.bipush 14, 2) := by decide +kernel
theorem dM_segments_199 : decode kM_segments 199 = .ok (.iadd, 1) := by decide +kernel
theorem dM_segments_200 : decode kM_segments 200 = .ok (.iload 10, 2) := by decide +kernel
theorem dM_segments_202 : decode kM_segments 202 = .ok (.iadd, 1) := by decide +kernel
theorem dM_segments_203 : decode kM_segments 203 = .ok (.iaload, 1) := by decide +kernel
theorem dM_segments_204 : decode kM_segments 204 = .ok (.istore 11, 2) := by decide +kernel
theorem dM_segments_206 : decode kM_segments 206 = .ok (.iload 10, 2) := by decide +kernel
theorem dM_segments_208 : decode kM_segments 208 = .ok (.iload 7, 2) := by decide +kernel
theorem dM_segments_210 : decode kM_segments 210 = .ok (.if_icmp .lt 56, 3) := by decide +kernel
theorem dM_segments_213 : decode kM_segments 213 = .ok (.aload_n 0, 1) := by decide +kernel
theorem dM_segments_214 : decode kM_segments 214 = .ok (.iload_n 2, 1) := by decide +kernel
theorem dM_segments_215 : decode kM_segments 215 = .ok (.iload 9, 2) := by decide +kernel
theorem dM_segments_217 : decode kM_segments 217 = .ok (.iload 11, 2) := by decide +kernel
theorem dM_segments_219 : decode kM_segments 219 = .ok (.invokevirtual 199, 3) := by decide +kernel
theorem dM_segments_222 : decode kM_segments 222 = .ok (.iload 11, 2) := by decide +kernel
theorem dM_segments_224 : decode kM_segments 224 = .ok (.bipush 15, 2) := by decide +kernel
theorem dM_segments_226 : decode kM_segments 226 = .ok (.if_icmp .ge 40, 3) := by decide +kernel
theorem dM_segments_229 : decode kM_segments 229 = .ok (.aload_n 0, 1) := by decide +kernel
theorem dM_segments_230 : decode kM_segments 230 = .ok (.iload_n 2, 1) := by decide +kernel
theorem dM_segments_231 : decode kM_segments 231 = .ok (.iload 10, 2) := by decide +kernel
theorem dM_segments_233 : decode kM_segments 233 = .ok (.iload 5, 2) := by decide +kernel
theorem dM_segments_235 : decode kM_segments 235 = .ok (.if_icmp .ne 8, 3) := by decide +kernel
theorem dM_segments_238 : decode kM_segments 238 = .ok (.iload 8, 2) := by decide +kernel
theorem dM_segments_240 : decode kM_segments 240 = .ok (.goto 5, 3) := by decide +kernel
theorem dM_segments_243 : decode kM_segments 243 = .ok (.ldc 164, 2) := by decide +kernel
theorem dM_segments_245 : decode kM_segments 245 = .ok (.iload 10, 2) := by decide +kernel
theorem dM_segments_247 : decode kM_segments 247 = .ok (.iload 5, 2) := by decide +kernel
theorem dM_segments_249 : decode kM_segments 249 = .ok (.if_icmp .ne 13, 3) := by decide +kernel
theorem dM_segments_252 : decode kM_segments 252 = .ok (.iload_n 3, 1) := by decide +kernel
theorem dM_segments_253 : decode kM_segments 253 = .ok (.iconst 4, 1) := by decide +kernel
theorem dM_segments_254 : decode kM_segments 254 = .ok (.iand, 1) := by decide +kernel
theorem dM_segments_255 : decode kM_segments 255 = .ok (.ifCond .eq 7, 3) := by decide +kernel
theorem dM_segments_258 : decode kM_segments 258 = .ok (.iconst 1, 1) := by decide +kernel
theorem dM_segments_259 : decode kM_segments 259 = .ok (.goto 4, 3) := by decide +kernel
theorem dM_segments_262 : decode kM_segments 262 = .ok (.iconst 0, 1) := by decide +kernel
theorem dM_segments_263 : decode kM_segments 263 = .ok (.invokevirtual 202, 3) := by decide +kernel
theorem dM_segments_266 : decode kM_segments 266 = .ok (.iload 9, 2) := by decide +kernel
theorem dM_segments_268 : decode kM_segments 268 = .ok (.iload 11, 2) := by decide +kernel
theorem dM_segments_270 : decode kM_segments 270 = .ok (.iadd, 1) := by decide +kernel
theorem dM_segments_271 : decode kM_segments 271 = .ok (.istore 9, 2) := by decide +kernel
theorem dM_segments_273 : decode kM_segments 273 = .ok (.iinc 10 1, 3) := by decide +kernel
theorem dM_segments_276 : decode kM_segments 276 = .ok (.goto (-91), 3) := by decide +kernel
theorem dM_segments_279 : decode kM_segments 279 = .ok (.iload_n 3, 1) := by decide +kernel
theorem dM_segments_280 : decode kM_segments 280 = .ok (.iconst 4, 1) := by decide +kernel
theorem dM_segments_281 : decode kM_segments 281 = .ok (.iand, 1) := by decide +kernel
theorem dM_segments_282 : decode kM_segments 282 = .ok (.ifCond .eq 29, 3) := by decide +kernel
theorem dM_segments_285 : decode kM_segments 285 = .ok (.aload_n 0, 1) := by decide +kernel
theorem dM_segments_286 : decode kM_segments 286 = .ok (.iload_n 2, 1) := by decide +kernel
theorem dM_segments_287 : decode kM_segments 287 = .ok (.invokevirtual 196, 3) := by decide +kernel
theorem dM_segments_290 : decode kM_segments 290 = .ok (.aload_n 0, 1) := by decide +kernel
theorem dM_segments_291 : decode kM_segments 291 = .ok (.iconst 4, 1) := by decide +kernel
theorem dM_segments_292 : decode kM_segments 292 = .ok (.aload_n 0, 1) := by decide +kernel
theorem dM_segments_293 : decode kM_segments 293 = .ok (.getfield 47, 3) := by decide +kernel
theorem dM_segments_296 : decode kM_segments 296 = .ok (.iload_n 2, 1) := by decide +kernel
theorem dM_segments_297 : decode kM_segments 297 = .ok (.iaload, 1) := by decide +kernel
theorem dM_segments_298 : decode kM_segments 298 = .ok (.ldc 164, 2) := by decide +kernel
theorem dM_segments_300 : decode kM_segments 300 = .ok (.iconst 0, 1) := by decide +kernel
theorem dM_segments_301 : decode kM_segments 301 = .ok (.invokevirtual 192, 3) := by decide +kernel
theorem dM_segments_304 : decode kM_segments 304 = .ok (.aload_n 0, 1) := by decide +kernel
theorem dM_segments_305 : decode kM_segments 305 = .ok (.getfield 41, 3) := by decide +kernel
theorem dM_segments_308 : decode kM_segments 308 = .ok (.iload_n 2, 1) := by decide +kernel
theorem dM_segments_309 : decode kM_segments 309 = .ok (.iconst (-1), 1) := by decide +kernel
theorem dM_segments_310 : decode kM_segments 310 = .ok (.iastore, 1) := by decide +kernel
theorem dM_segments_311 : decode kM_segments 311 = .ok (.return_, 1) := by decide +kernel
def wb_M_segments_266 (θ : TH) (a0_185 : Nat) (x1_185 : Int32) (x2_185 : Int32) (x3_185 : Int32) (x4_185 : Int32) (x5_185 : Int32) (x7_185 : Int32) (x8_185 : Int32) (x9_266 : Int32) (x10_266 : Int32) (x11_266 : Int32) (kb185 : Int32 → Int32 → VT → UT → Prop) (K : VT → UT → Prop) (V : VT) (U : UT) : Prop := ∀ y_65 : Int32, y_65 = (x9_266 + x11_266) → ∀ y_66 : Int32, y_66 = x10_266 + (1 : Int32) → kb185 y_65 y_66 V U
def wb_M_segments_263 (θ : TH) (a0_185 : Nat) (x1_185 : Int32) (x2_185 : Int32) (x3_185 : Int32) (x4_185 : Int32) (x5_185 : Int32) (x7_185 : Int32) (x8_185 : Int32) (x9_263 : Int32) (x10_263 : Int32) (x11_263 : Int32) (z0_263 : Int32) (z1_263 : Int32) (z2_263 : Int32) (z3_263 : Nat) (kb185 : Int32 → Int32 → VT → UT → Prop) (K : VT → UT → Prop) (V : VT) (U : UT) : Prop := isO θ z3_263 12 ∧ wp_M_finish θ z3_263 z2_263 z1_263 z0_263 V U (fun V_69 U_70 => wb_M_segments_266 θ a0_185 x1_185 x2_185 x3_185 x4_185 x5_185 x7_185 x8_185 x9_263 x10_263 x11_263 kb185 K V_69 U_70)
def wb_M_segments_262 (θ : TH) (a0_185 : Nat) (x1_185 : Int32) (x2_185 : Int32) (x3_185 : Int32) (x4_185 : Int32) (x5_185 : Int32) (x7_185 : Int32) (x8_185 : Int32) (x9_262 : Int32) (x10_262 : Int32) (x11_262 : Int32) (z0_262 : Int32) (z1_262 : Int32) (z2_262 : Nat) (kb185 : Int32 → Int32 → VT → UT → Prop) (K : VT → UT → Prop) (V : VT) (U : UT) : Prop := wb_M_segments_263 θ a0_185 x1_185 x2_185 x3_185 x4_185 x5_185 x7_185 x8_185 x9_262 x10_262 x11_262 (0 : Int32) z0_262 z1_262 z2_262 kb185 K V U
def wb_M_segments_245 (θ : TH) (a0_185 : Nat) (x1_185 : Int32) (x2_185 : Int32) (x3_185 : Int32) (x4_185 : Int32) (x5_185 : Int32) (x7_185 : Int32) (x8_185 : Int32) (x9_245 : Int32) (x10_245 : Int32) (x11_245 : Int32) (z0_245 : Int32) (z1_245 : Int32) (z2_245 : Nat) (kb185 : Int32 → Int32 → VT → UT → Prop) (K : VT → UT → Prop) (V : VT) (U : UT) : Prop := ((¬ x10_245 = x5_185 → wb_M_segments_262 θ a0_185 x1_185 x2_185 x3_185 x4_185 x5_185 x7_185 x8_185 x9_245 x10_245 x11_245 z0_245 z1_245 z2_245 kb185 K V U) ∧ (x10_245 = x5_185 → (((x3_185 &&& (4 : Int32)) = 0 → wb_M_segments_262 θ a0_185 x1_185 x2_185 x3_185 x4_185 x5_185 x7_185 x8_185 x9_245 x10_245 x11_245 z0_245 z1_245 z2_245 kb185 K V U) ∧ (¬ (x3_185 &&& (4 : Int32)) = 0 → wb_M_segments_263 θ a0_185 x1_185 x2_185 x3_185 x4_185 x5_185 x7_185 x8_185 x9_245 x10_245 x11_245 (1 : Int32) z0_245 z1_245 z2_245 kb185 K V U))))
def bl_M_segments_185 (θ : TH) (a0_185 : Nat) (x1_185 : Int32) (x2_185 : Int32) (x3_185 : Int32) (x4_185 : Int32) (x5_185 : Int32) (x7_185 : Int32) (x8_185 : Int32) (K : VT → UT → Prop) (kb185 : Int32 → Int32 → VT → UT → Prop) (x9_185 : Int32) (x10_185 : Int32) (V : VT) (U : UT) : Prop := ((x4_185 ≤ x10_185 → (((x3_185 &&& (4 : Int32)) = 0 → K V U) ∧ (¬ (x3_185 &&& (4 : Int32)) = 0 → isO θ a0_185 12 ∧ wp_M_drop θ a0_185 x2_185 V U (fun V_40 U_41 => (U_41 a0_185 17) ≠ 0 ∧ ∃ n_44, isA θ (U_41 a0_185 17) 0 n_44 ∧ vp_in x2_185 n_44 ∧ wp_M_event θ a0_185 (4 : Int32) (V_40 (U_41 a0_185 17) x2_185.toNatClampNeg) (65535 : Int32) (0 : Int32) V_40 U_41 (fun V_47 U_48 => (U_48 a0_185 15) ≠ 0 ∧ ∃ n_50, isA θ (U_48 a0_185 15) 0 n_50 ∧ vp_in x2_185 n_50 ∧ ∀ V_53 : VT, V_53 = up2 V_47 (U_48 a0_185 15) x2_185.toNatClampNeg (-1 : Int32) → K V_53 U_48))))) ∧ (¬ x4_185 ≤ x10_185 → isO θ a0_185 12 ∧ (U a0_185 0) ≠ 0 ∧ ∃ n_56, isA θ (U a0_185 0) 0 n_56 ∧ vp_in ((x1_185 + (14 : Int32)) + x10_185) n_56 ∧ ∀ y_59 : Int32, y_59 = (V (U a0_185 0) ((x1_185 + (14 : Int32)) + x10_185).toNatClampNeg) → ((x10_185 < x7_185 → wb_M_segments_266 θ a0_185 x1_185 x2_185 x3_185 x4_185 x5_185 x7_185 x8_185 x9_185 x10_185 y_59 kb185 K V U) ∧ (¬ x10_185 < x7_185 → wp_M_carry θ a0_185 x2_185 x9_185 y_59 V U (fun V_61 U_62 => (((15 : Int32) ≤ y_59 → wb_M_segments_266 θ a0_185 x1_185 x2_185 x3_185 x4_185 x5_185 x7_185 x8_185 x9_185 x10_185 y_59 kb185 K V_61 U_62) ∧ (¬ (15 : Int32) ≤ y_59 → ((¬ x10_185 = x5_185 → wb_M_segments_245 θ a0_185 x1_185 x2_185 x3_185 x4_185 x5_185 x7_185 x8_185 x9_185 x10_185 y_59 (65535 : Int32) x2_185 a0_185 kb185 K V_61 U_62) ∧ (x10_185 = x5_185 → wb_M_segments_245 θ a0_185 x1_185 x2_185 x3_185 x4_185 x5_185 x7_185 x8_185 x9_185 x10_185 y_59 x8_185 x2_185 a0_185 kb185 K V_61 U_62)))))))))
def wl_M_segments_185 (θ : TH) (a0_185 : Nat) (x1_185 : Int32) (x2_185 : Int32) (x3_185 : Int32) (x4_185 : Int32) (x5_185 : Int32) (x7_185 : Int32) (x8_185 : Int32) (K : VT → UT → Prop) : Nat → Int32 → Int32 → VT → UT → Prop
  | 0, _, _, _, _ => False
  | n + 1, x9_185, x10_185, V, U => bl_M_segments_185 θ a0_185 x1_185 x2_185 x3_185 x4_185 x5_185 x7_185 x8_185 K (wl_M_segments_185 θ a0_185 x1_185 x2_185 x3_185 x4_185 x5_185 x7_185 x8_185 K n) x9_185 x10_185 V U
def wb_M_segments_148 (θ : TH) (a0_148 : Nat) (x1_148 : Int32) (x2_148 : Int32) (x3_148 : Int32) (x4_148 : Int32) (x5_148 : Int32) (x7_148 : Int32) (K : VT → UT → Prop) (V : VT) (U : UT) : Prop := isO θ a0_148 12 ∧ (U a0_148 0) ≠ 0 ∧ ∃ n_32, isA θ (U a0_148 0) 0 n_32 ∧ vp_in (x1_148 + (7 : Int32)) n_32 ∧ vp_in (x1_148 + (8 : Int32)) n_32 ∧ ∀ y_36 : Int32, y_36 = ((V (U a0_148 0) (x1_148 + (7 : Int32)).toNatClampNeg) + ((256 : Int32) * (V (U a0_148 0) (x1_148 + (8 : Int32)).toNatClampNeg))) → ∀ y_37 : Int32, y_37 = ((x1_148 + (14 : Int32)) + x4_148) → ∃ n, wl_M_segments_185 θ a0_148 x1_148 x2_148 x3_148 x4_148 x5_148 x7_148 y_36 K n y_37 (0 : Int32) V U
def wb_M_segments_91 (θ : TH) (a0_33 : Nat) (x1_33 : Int32) (x2_33 : Int32) (x3_33 : Int32) (x4_33 : Int32) (x5_91 : Int32) (x6_91 : Int32) (x7_91 : Int32) (kb33 : Int32 → Int32 → Int32 → VT → UT → Prop) (K : VT → UT → Prop) (V : VT) (U : UT) : Prop := ∀ y_76 : Int32, y_76 = x7_91 + (-1 : Int32) → kb33 x5_91 x6_91 y_76 V U
def wb_M_segments_74 (θ : TH) (a0_33 : Nat) (x1_33 : Int32) (x2_33 : Int32) (x3_33 : Int32) (x4_33 : Int32) (x5_74 : Int32) (x7_74 : Int32) (x8_74 : Int32) (z0_74 : Int32) (kb33 : Int32 → Int32 → Int32 → VT → UT → Prop) (K : VT → UT → Prop) (V : VT) (U : UT) : Prop := ((x8_74 = 0 → wb_M_segments_91 θ a0_33 x1_33 x2_33 x3_33 x4_33 x5_74 z0_74 x7_74 kb33 K V U) ∧ (¬ x8_74 = 0 → ((0 ≤ x5_74 → wb_M_segments_91 θ a0_33 x1_33 x2_33 x3_33 x4_33 x5_74 z0_74 x7_74 kb33 K V U) ∧ (¬ 0 ≤ x5_74 → ∀ y_75 : Int32, y_75 = x7_74 + (-1 : Int32) → kb33 x7_74 z0_74 y_75 V U))))
def wb_M_segments_60 (θ : TH) (a0_33 : Nat) (x1_33 : Int32) (x2_33 : Int32) (x3_33 : Int32) (x4_33 : Int32) (x5_60 : Int32) (x6_60 : Int32) (x7_60 : Int32) (z0_60 : Int32) (kb33 : Int32 → Int32 → Int32 → VT → UT → Prop) (K : VT → UT → Prop) (V : VT) (U : UT) : Prop := ((z0_60 = 0 → wb_M_segments_74 θ a0_33 x1_33 x2_33 x3_33 x4_33 x5_60 x7_60 z0_60 x6_60 kb33 K V U) ∧ (¬ z0_60 = 0 → wb_M_segments_74 θ a0_33 x1_33 x2_33 x3_33 x4_33 x5_60 x7_60 z0_60 x7_60 kb33 K V U))
def bl_M_segments_33 (θ : TH) (a0_33 : Nat) (x1_33 : Int32) (x2_33 : Int32) (x3_33 : Int32) (x4_33 : Int32) (K : VT → UT → Prop) (kb33 : Int32 → Int32 → Int32 → VT → UT → Prop) (x5_33 : Int32) (x6_33 : Int32) (x7_33 : Int32) (V : VT) (U : UT) : Prop := ((x7_33 < 0 → ((¬ (x3_33 &&& (1 : Int32)) = 0 → isO θ a0_33 12 ∧ (U a0_33 18) ≠ 0 ∧ ∃ n_14, isA θ (U a0_33 18) 1 n_14 ∧ vp_in x2_33 n_14 ∧ ((¬ (V (U a0_33 18) x2_33.toNatClampNeg) = 0 → wb_M_segments_148 θ a0_33 x1_33 x2_33 x3_33 x4_33 x5_33 (0 : Int32) K V U) ∧ ((V (U a0_33 18) x2_33.toNatClampNeg) = 0 → ((x4_33 ≤ 0 → wb_M_segments_148 θ a0_33 x1_33 x2_33 x3_33 x4_33 x5_33 (0 : Int32) K V U) ∧ (¬ x4_33 ≤ 0 → ∀ V_19 : VT, V_19 = up2 V a0_33 21 ((V a0_33 21) + (1 : Int32)) → ∀ y_20 : Int32, y_20 = (x6_33 + (1 : Int32)) → wb_M_segments_148 θ a0_33 x1_33 x2_33 x3_33 x4_33 x5_33 y_20 K V_19 U))))) ∧ ((x3_33 &&& (1 : Int32)) = 0 → isO θ a0_33 12 ∧ wp_M_drop θ a0_33 x2_33 V U (fun V_21 U_22 => wb_M_segments_148 θ a0_33 x1_33 x2_33 x3_33 x4_33 x5_33 (0 : Int32) K V_21 U_22)))) ∧ (¬ x7_33 < 0 → isO θ a0_33 12 ∧ (U a0_33 0) ≠ 0 ∧ ∃ n_26, isA θ (U a0_33 0) 0 n_26 ∧ vp_in ((x1_33 + (14 : Int32)) + x7_33) n_26 ∧ (((15 : Int32) ≤ (V (U a0_33 0) ((x1_33 + (14 : Int32)) + x7_33).toNatClampNeg) → wb_M_segments_60 θ a0_33 x1_33 x2_33 x3_33 x4_33 x5_33 x6_33 x7_33 (0 : Int32) kb33 K V U) ∧ (¬ (15 : Int32) ≤ (V (U a0_33 0) ((x1_33 + (14 : Int32)) + x7_33).toNatClampNeg) → wb_M_segments_60 θ a0_33 x1_33 x2_33 x3_33 x4_33 x5_33 x6_33 x7_33 (1 : Int32) kb33 K V U))))
def wl_M_segments_33 (θ : TH) (a0_33 : Nat) (x1_33 : Int32) (x2_33 : Int32) (x3_33 : Int32) (x4_33 : Int32) (K : VT → UT → Prop) : Nat → Int32 → Int32 → Int32 → VT → UT → Prop
  | 0, _, _, _, _, _ => False
  | n + 1, x5_33, x6_33, x7_33, V, U => bl_M_segments_33 θ a0_33 x1_33 x2_33 x3_33 x4_33 K (wl_M_segments_33 θ a0_33 x1_33 x2_33 x3_33 x4_33 K n) x5_33 x6_33 x7_33 V U
def wp_M_segments (θ : TH) (a0 : Nat) (x1 : Int32) (x2 : Int32) (V : VT) (U : UT) (K : VT → UT → Prop) : Prop := isO θ a0 12 ∧ (U a0 0) ≠ 0 ∧ ∃ n_3, isA θ (U a0 0) 0 n_3 ∧ vp_in (x1 + (4 : Int32)) n_3 ∧ ∀ y_6 : Int32, y_6 = (V (U a0 0) (x1 + (4 : Int32)).toNatClampNeg) → vp_in (x1 + (13 : Int32)) n_3 ∧ ∀ y_8 : Int32, y_8 = (V (U a0 0) (x1 + (13 : Int32)).toNatClampNeg) → ∀ y_9 : Int32, y_9 = (y_8 - (1 : Int32)) → ∃ n, wl_M_segments_33 θ a0 x1 x2 y_6 y_8 K n (-1 : Int32) y_8 y_9 V U
set_option maxRecDepth 100000 in
set_option maxHeartbeats 4000000 in
theorem c_M_segments (l : Launch) (θ : TH) (a0 : Nat) (x1 : Int32) (x2 : Int32) (V : VT) (U : UT) (K : VT → UT → Prop) (hw : wp_M_segments θ a0 x1 x2 V U K) : CMv l yM_segments kM_segments 12 none rmM_segments θ [.ref a0, .int x1, .int x2] V U K := by
  refine g_met nRM (by decide +kernel) rfl (Nat.le_of_ble_eq_true rfl) (fun p e s m args below meth c ls hC hr hlk hwo hl => ?_)
  have hx := hC.1
  have hb := hC.2.1
  have hS : Sx θ s s.heap [] := va_S.rf
  have hl : lv_has ls 12 [(0, .ref a0), (1, .int x1), (2, .int x2)] := hl
  have L185 : ∀ (a0_185 : Nat) (x1_185 : Int32) (x2_185 : Int32) (x3_185 : Int32) (x4_185 : Int32) (x5_185 : Int32) (x7_185 : Int32) (x8_185 : Int32) (n185 : Nat) (x9_185 : Int32) (x10_185 : Int32) (V : VT) (U : UT) (H : Heap) (locs : List Loc) (ls : Array Slot), wl_M_segments_185 θ a0_185 x1_185 x2_185 x3_185 x4_185 x5_185 x7_185 x8_185 K n185 x9_185 x10_185 V U → wo θ V U H → Sx θ s H locs → lv_has ls 12 [(0, .ref a0_185), (1, .int x1_185), (2, .int x2_185), (3, .int x3_185), (4, .int x4_185), (5, .int x5_185), (7, .int x7_185), (8, .int x8_185), (9, .int x9_185), (10, .int x10_185)] → W p l e rmM_segments s m args below meth c H locs 0 0 (MQ below (QV θ K) args s 0 0 (aT θ)) (F0 m 185 ls []) := by
    intro a0_185 x1_185 x2_185 x3_185 x4_185 x5_185 x7_185 x8_185 n185
    induction n185 with
    | zero => intro x9_185 x10_185 V U H locs ls hw hwo hS hl; exact (show False from hw).elim
    | succ n185 ih185 =>
      have J266 : ∀ (x9_266 : Int32) (x10_266 : Int32) (x11_266 : Int32) (V : VT) (U : UT) (H : Heap) (locs : List Loc) (ls : Array Slot), wb_M_segments_266 θ a0_185 x1_185 x2_185 x3_185 x4_185 x5_185 x7_185 x8_185 x9_266 x10_266 x11_266 (wl_M_segments_185 θ a0_185 x1_185 x2_185 x3_185 x4_185 x5_185 x7_185 x8_185 K n185) K V U → wo θ V U H → Sx θ s H locs → lv_has ls 12 [(0, .ref a0_185), (1, .int x1_185), (2, .int x2_185), (3, .int x3_185), (4, .int x4_185), (5, .int x5_185), (7, .int x7_185), (8, .int x8_185), (9, .int x9_266), (10, .int x10_266), (11, .int x11_266)] → W p l e rmM_segments s m args below meth c H locs 0 0 (MQ below (QV θ K) args s 0 0 (aT θ)) (F0 m 266 ls []) := by
        intro x9_266 x10_266 x11_266 V U H locs ls hw hwo hS hl
        unfold wb_M_segments_266 at hw
        refine lv_iload hx hb dM_segments_266 (lv_at hl 8 rfl) ?_
        refine lv_iload hx hb dM_segments_268 (lv_at hl 10 rfl) ?_
        refine lv_iadd hx hb dM_segments_270 ?_
        refine lv_topi (fun y_65 ey_65 => ?_)
        replace hw := hw y_65 ey_65
        refine lv_istore (i := 9) (lv' := [(9, .int y_65), (0, .ref a0_185), (1, .int x1_185), (2, .int x2_185), (3, .int x3_185), (4, .int x4_185), (5, .int x5_185), (7, .int x7_185), (8, .int x8_185), (10, .int x10_266), (11, .int x11_266)]) hx hb dM_segments_271 hl (by decide) rfl (fun ls hl => ?_)
        obtain ⟨y_66, ey_66⟩ : ∃ z : Int32, z = x10_266 + (1 : Int32) := ⟨_, rfl⟩
        replace hw := hw y_66 ey_66
        refine lv_iinc (k := 9) (v := y_66) (lv' := [(10, .int y_66), (9, .int y_65), (0, .ref a0_185), (1, .int x1_185), (2, .int x2_185), (3, .int x3_185), (4, .int x4_185), (5, .int x5_185), (7, .int x7_185), (8, .int x8_185), (11, .int x11_266)]) hx hb dM_segments_273 hl rfl (by rw [ey_66]; rfl) (by decide) rfl (fun ls hl => ?_)
        refine lv_goto (tgt := 185) hx hb dM_segments_276 (by decide) ?_
        exact ih185 _ _ _ _ _ _ _ hw hwo hS (lv_sub hl [2, 3, 4, 5, 6, 7, 8, 9, 1, 0] rfl)
      have J263 : ∀ (x9_263 : Int32) (x10_263 : Int32) (x11_263 : Int32) (z0_263 : Int32) (z1_263 : Int32) (z2_263 : Int32) (z3_263 : Nat) (V : VT) (U : UT) (H : Heap) (locs : List Loc) (ls : Array Slot), wb_M_segments_263 θ a0_185 x1_185 x2_185 x3_185 x4_185 x5_185 x7_185 x8_185 x9_263 x10_263 x11_263 z0_263 z1_263 z2_263 z3_263 (wl_M_segments_185 θ a0_185 x1_185 x2_185 x3_185 x4_185 x5_185 x7_185 x8_185 K n185) K V U → wo θ V U H → Sx θ s H locs → lv_has ls 12 [(0, .ref a0_185), (1, .int x1_185), (2, .int x2_185), (3, .int x3_185), (4, .int x4_185), (5, .int x5_185), (7, .int x7_185), (8, .int x8_185), (9, .int x9_263), (10, .int x10_263), (11, .int x11_263)] → W p l e rmM_segments s m args below meth c H locs 0 0 (MQ below (QV θ K) args s 0 0 (aT θ)) (F0 m 263 ls [.int z0_263, .int z1_263, .int z2_263, .ref z3_263]) := by
        intro x9_263 x10_263 x11_263 z0_263 z1_263 z2_263 z3_263 V U H locs ls hw hwo hS hl
        unfold wb_M_segments_263 at hw
        obtain ⟨ho_71, hw⟩ := hw
        refine g_Vv (rest := []) hC (c_M_finish l θ _ _ _ _ _ _ _ hw) mi_M_finish mlM_202 mv_M_finish ci_12 ho_71 hwo hS ⟨rfl, rfl⟩ ⟨by decide, by decide⟩ rfl hl.1 rfl (Nat.le_of_ble_eq_true rfl) dM_segments_263 (fun V_69 U_70 hw H locs hwo hS => ?_)
        exact J266 _ _ _ _ _ _ _ _ hw hwo hS (lv_sub hl [0, 1, 2, 3, 4, 5, 6, 7, 8, 9, 10] rfl)
      have J262 : ∀ (x9_262 : Int32) (x10_262 : Int32) (x11_262 : Int32) (z0_262 : Int32) (z1_262 : Int32) (z2_262 : Nat) (V : VT) (U : UT) (H : Heap) (locs : List Loc) (ls : Array Slot), wb_M_segments_262 θ a0_185 x1_185 x2_185 x3_185 x4_185 x5_185 x7_185 x8_185 x9_262 x10_262 x11_262 z0_262 z1_262 z2_262 (wl_M_segments_185 θ a0_185 x1_185 x2_185 x3_185 x4_185 x5_185 x7_185 x8_185 K n185) K V U → wo θ V U H → Sx θ s H locs → lv_has ls 12 [(0, .ref a0_185), (1, .int x1_185), (2, .int x2_185), (3, .int x3_185), (4, .int x4_185), (5, .int x5_185), (7, .int x7_185), (8, .int x8_185), (9, .int x9_262), (10, .int x10_262), (11, .int x11_262)] → W p l e rmM_segments s m args below meth c H locs 0 0 (MQ below (QV θ K) args s 0 0 (aT θ)) (F0 m 262 ls [.int z0_262, .int z1_262, .ref z2_262]) := by
        intro x9_262 x10_262 x11_262 z0_262 z1_262 z2_262 V U H locs ls hw hwo hS hl
        unfold wb_M_segments_262 at hw
        refine lv_iconst (v := 0) hx hb dM_segments_262 (by decide) ?_
        exact J263 _ _ _ _ _ _ _ _ _ _ _ _ hw hwo hS (lv_sub hl [0, 1, 2, 3, 4, 5, 6, 7, 8, 9, 10] rfl)
      have J245 : ∀ (x9_245 : Int32) (x10_245 : Int32) (x11_245 : Int32) (z0_245 : Int32) (z1_245 : Int32) (z2_245 : Nat) (V : VT) (U : UT) (H : Heap) (locs : List Loc) (ls : Array Slot), wb_M_segments_245 θ a0_185 x1_185 x2_185 x3_185 x4_185 x5_185 x7_185 x8_185 x9_245 x10_245 x11_245 z0_245 z1_245 z2_245 (wl_M_segments_185 θ a0_185 x1_185 x2_185 x3_185 x4_185 x5_185 x7_185 x8_185 K n185) K V U → wo θ V U H → Sx θ s H locs → lv_has ls 12 [(0, .ref a0_185), (1, .int x1_185), (2, .int x2_185), (3, .int x3_185), (4, .int x4_185), (5, .int x5_185), (7, .int x7_185), (8, .int x8_185), (9, .int x9_245), (10, .int x10_245), (11, .int x11_245)] → W p l e rmM_segments s m args below meth c H locs 0 0 (MQ below (QV θ K) args s 0 0 (aT θ)) (F0 m 245 ls [.int z0_245, .int z1_245, .ref z2_245]) := by
        intro x9_245 x10_245 x11_245 z0_245 z1_245 z2_245 V U H locs ls hw hwo hS hl
        unfold wb_M_segments_245 at hw
        refine lv_iload hx hb dM_segments_245 (lv_at hl 9 rfl) ?_
        refine lv_iload hx hb dM_segments_247 (lv_at hl 5 rfl) ?_
        refine lv_icmp_ne (tgt := 262) hx hb dM_segments_249 (by decide) (fun hc_67 => ?_) (fun hc_67 => ?_)
        · replace hw := hw.1 hc_67
          exact J262 _ _ _ _ _ _ _ _ _ _ _ hw hwo hS (lv_sub hl [0, 1, 2, 3, 4, 5, 6, 7, 8, 9, 10] rfl)
        · replace hw := hw.2 hc_67
          refine lv_iload_n hx hb dM_segments_252 rfl (lv_at hl 3 rfl) ?_
          refine lv_iconst (v := 4) hx hb dM_segments_253 (by decide) ?_
          refine lv_iand hx hb dM_segments_254 ?_
          refine lv_if_eq (tgt := 262) hx hb dM_segments_255 (by decide) (fun hc_68 => ?_) (fun hc_68 => ?_)
          · replace hw := hw.1 hc_68
            exact J262 _ _ _ _ _ _ _ _ _ _ _ hw hwo hS (lv_sub hl [0, 1, 2, 3, 4, 5, 6, 7, 8, 9, 10] rfl)
          · replace hw := hw.2 hc_68
            refine lv_iconst (v := 1) hx hb dM_segments_258 (by decide) ?_
            refine lv_goto (tgt := 263) hx hb dM_segments_259 (by decide) ?_
            exact J263 _ _ _ _ _ _ _ _ _ _ _ _ hw hwo hS (lv_sub hl [0, 1, 2, 3, 4, 5, 6, 7, 8, 9, 10] rfl)
      intro x9_185 x10_185 V U H locs ls hw hwo hS hl
      replace hw : bl_M_segments_185 θ a0_185 x1_185 x2_185 x3_185 x4_185 x5_185 x7_185 x8_185 K (wl_M_segments_185 θ a0_185 x1_185 x2_185 x3_185 x4_185 x5_185 x7_185 x8_185 K n185) x9_185 x10_185 V U := hw
      unfold bl_M_segments_185 at hw
      refine lv_iload hx hb dM_segments_185 (lv_at hl 9 rfl) ?_
      refine lv_iload hx hb dM_segments_187 (lv_at hl 4 rfl) ?_
      refine lv_icmp_ge (tgt := 279) hx hb dM_segments_189 (by decide) (fun hc_38 => ?_) (fun hc_38 => ?_)
      · replace hw := hw.1 hc_38
        refine lv_iload_n hx hb dM_segments_279 rfl (lv_at hl 3 rfl) ?_
        refine lv_iconst (v := 4) hx hb dM_segments_280 (by decide) ?_
        refine lv_iand hx hb dM_segments_281 ?_
        refine lv_if_eq (tgt := 311) hx hb dM_segments_282 (by decide) (fun hc_39 => ?_) (fun hc_39 => ?_)
        · replace hw := hw.1 hc_39
          exact g_vret hC hr hlk hw hwo hS dM_segments_311
        · replace hw := hw.2 hc_39
          refine lv_aload_n hx hb dM_segments_285 rfl (lv_at hl 0 rfl) ?_
          refine lv_iload_n hx hb dM_segments_286 rfl (lv_at hl 2 rfl) ?_
          obtain ⟨ho_42, hw⟩ := hw
          refine g_Vv (rest := []) hC (c_M_drop l θ _ _ _ _ _ hw) mi_M_drop mlM_196 mv_M_drop ci_12 ho_42 hwo hS ⟨rfl, rfl⟩ ⟨by decide, by decide⟩ rfl hl.1 rfl (Nat.le_of_ble_eq_true rfl) dM_segments_287 (fun V_40 U_41 hw H locs hwo hS => ?_)
          refine lv_aload_n hx hb dM_segments_290 rfl (lv_at hl 0 rfl) ?_
          refine lv_iconst (v := 4) hx hb dM_segments_291 (by decide) ?_
          refine lv_aload_n hx hb dM_segments_292 rfl (lv_at hl 0 rfl) ?_
          obtain ⟨hz_43, hw⟩ := hw
          refine g_getR hC fkM_47 rfl hwo ho_42 hz_43 dM_segments_293 ?_
          refine lv_iload_n hx hb dM_segments_296 rfl (lv_at hl 2 rfl) ?_
          obtain ⟨n_44, ha_45, hw⟩ := hw
          obtain ⟨hi_46, hw⟩ := hw
          refine g_iald hC hwo ha_45 hi_46 dM_segments_297 ?_
          refine lv_ldc hx hb hC.2.2.2.1 (hC.2.2.2.2.1 _ kcM_164) dM_segments_298 ?_
          refine lv_iconst (v := 0) hx hb dM_segments_300 (by decide) ?_
          refine g_Vv (rest := []) hC (c_M_event l θ _ _ _ _ _ _ _ _ hw) mi_M_event mlM_192 mv_M_event ci_12 ho_42 hwo hS ⟨rfl, rfl⟩ ⟨by decide, by decide⟩ rfl hl.1 rfl (Nat.le_of_ble_eq_true rfl) dM_segments_301 (fun V_47 U_48 hw H locs hwo hS => ?_)
          refine lv_aload_n hx hb dM_segments_304 rfl (lv_at hl 0 rfl) ?_
          obtain ⟨hz_49, hw⟩ := hw
          refine g_getR hC fkM_41 rfl hwo ho_42 hz_49 dM_segments_305 ?_
          refine lv_iload_n hx hb dM_segments_308 rfl (lv_at hl 2 rfl) ?_
          refine lv_iconst (v := -1) hx hb dM_segments_309 (by decide) ?_
          obtain ⟨n_50, ha_51, hw⟩ := hw
          obtain ⟨hi_52, hw⟩ := hw
          refine g_iast hC hwo hS ha_51 hi_52 dM_segments_310 (fun V_53 eV_53 H locs hwo hS => ?_)
          replace hw := hw V_53 eV_53
          exact g_vret hC hr hlk hw hwo hS dM_segments_311
      · replace hw := hw.2 hc_38
        refine lv_aload_n hx hb dM_segments_192 rfl (lv_at hl 0 rfl) ?_
        obtain ⟨ho_54, hw⟩ := hw
        obtain ⟨hz_55, hw⟩ := hw
        refine g_getR hC fkM_7 rfl hwo ho_54 hz_55 dM_segments_193 ?_
        refine lv_iload_n hx hb dM_segments_196 rfl (lv_at hl 1 rfl) ?_
        refine lv_bipush (v := 14) hx hb dM_segments_197 (by decide) ?_
        refine lv_iadd hx hb dM_segments_199 ?_
        refine lv_iload hx hb dM_segments_200 (lv_at hl 9 rfl) ?_
        refine lv_iadd hx hb dM_segments_202 ?_
        obtain ⟨n_56, ha_57, hw⟩ := hw
        obtain ⟨hi_58, hw⟩ := hw
        refine g_iald hC hwo ha_57 hi_58 dM_segments_203 ?_
        refine lv_topi (fun y_59 ey_59 => ?_)
        replace hw := hw y_59 ey_59
        refine lv_istore (i := 11) (lv' := [(11, .int y_59), (0, .ref a0_185), (1, .int x1_185), (2, .int x2_185), (3, .int x3_185), (4, .int x4_185), (5, .int x5_185), (7, .int x7_185), (8, .int x8_185), (9, .int x9_185), (10, .int x10_185)]) hx hb dM_segments_204 hl (by decide) rfl (fun ls hl => ?_)
        refine lv_iload hx hb dM_segments_206 (lv_at hl 10 rfl) ?_
        refine lv_iload hx hb dM_segments_208 (lv_at hl 7 rfl) ?_
        refine lv_icmp_lt (tgt := 266) hx hb dM_segments_210 (by decide) (fun hc_60 => ?_) (fun hc_60 => ?_)
        · replace hw := hw.1 hc_60
          exact J266 _ _ _ _ _ _ _ _ hw hwo hS (lv_sub hl [1, 2, 3, 4, 5, 6, 7, 8, 9, 10, 0] rfl)
        · replace hw := hw.2 hc_60
          refine lv_aload_n hx hb dM_segments_213 rfl (lv_at hl 1 rfl) ?_
          refine lv_iload_n hx hb dM_segments_214 rfl (lv_at hl 3 rfl) ?_
          refine lv_iload hx hb dM_segments_215 (lv_at hl 9 rfl) ?_
          refine lv_iload hx hb dM_segments_217 (lv_at hl 0 rfl) ?_
          refine g_Vv (rest := []) hC (c_M_carry l θ _ _ _ _ _ _ _ hw) mi_M_carry mlM_199 mv_M_carry ci_12 ho_54 hwo hS ⟨rfl, rfl⟩ ⟨by decide, by decide⟩ rfl hl.1 rfl (Nat.le_of_ble_eq_true rfl) dM_segments_219 (fun V_61 U_62 hw H locs hwo hS => ?_)
          refine lv_iload hx hb dM_segments_222 (lv_at hl 0 rfl) ?_
          refine lv_bipush (v := 15) hx hb dM_segments_224 (by decide) ?_
          refine lv_icmp_ge (tgt := 266) hx hb dM_segments_226 (by decide) (fun hc_63 => ?_) (fun hc_63 => ?_)
          · replace hw := hw.1 hc_63
            exact J266 _ _ _ _ _ _ _ _ hw hwo hS (lv_sub hl [1, 2, 3, 4, 5, 6, 7, 8, 9, 10, 0] rfl)
          · replace hw := hw.2 hc_63
            refine lv_aload_n hx hb dM_segments_229 rfl (lv_at hl 1 rfl) ?_
            refine lv_iload_n hx hb dM_segments_230 rfl (lv_at hl 3 rfl) ?_
            refine lv_iload hx hb dM_segments_231 (lv_at hl 10 rfl) ?_
            refine lv_iload hx hb dM_segments_233 (lv_at hl 6 rfl) ?_
            refine lv_icmp_ne (tgt := 243) hx hb dM_segments_235 (by decide) (fun hc_64 => ?_) (fun hc_64 => ?_)
            · replace hw := hw.1 hc_64
              refine lv_ldc hx hb hC.2.2.2.1 (hC.2.2.2.2.1 _ kcM_164) dM_segments_243 ?_
              exact J245 _ _ _ _ _ _ _ _ _ _ _ hw hwo hS (lv_sub hl [1, 2, 3, 4, 5, 6, 7, 8, 9, 10, 0] rfl)
            · replace hw := hw.2 hc_64
              refine lv_iload hx hb dM_segments_238 (lv_at hl 8 rfl) ?_
              refine lv_goto (tgt := 245) hx hb dM_segments_240 (by decide) ?_
              exact J245 _ _ _ _ _ _ _ _ _ _ _ hw hwo hS (lv_sub hl [1, 2, 3, 4, 5, 6, 7, 8, 9, 10, 0] rfl)
  have J148 : ∀ (a0_148 : Nat) (x1_148 : Int32) (x2_148 : Int32) (x3_148 : Int32) (x4_148 : Int32) (x5_148 : Int32) (x7_148 : Int32) (V : VT) (U : UT) (H : Heap) (locs : List Loc) (ls : Array Slot), wb_M_segments_148 θ a0_148 x1_148 x2_148 x3_148 x4_148 x5_148 x7_148 K V U → wo θ V U H → Sx θ s H locs → lv_has ls 12 [(0, .ref a0_148), (1, .int x1_148), (2, .int x2_148), (3, .int x3_148), (4, .int x4_148), (5, .int x5_148), (7, .int x7_148)] → W p l e rmM_segments s m args below meth c H locs 0 0 (MQ below (QV θ K) args s 0 0 (aT θ)) (F0 m 148 ls []) := by
    intro a0_148 x1_148 x2_148 x3_148 x4_148 x5_148 x7_148 V U H locs ls hw hwo hS hl
    unfold wb_M_segments_148 at hw
    refine lv_aload_n hx hb dM_segments_148 rfl (lv_at hl 0 rfl) ?_
    obtain ⟨ho_30, hw⟩ := hw
    obtain ⟨hz_31, hw⟩ := hw
    refine g_getR hC fkM_7 rfl hwo ho_30 hz_31 dM_segments_149 ?_
    refine lv_iload_n hx hb dM_segments_152 rfl (lv_at hl 1 rfl) ?_
    refine lv_bipush (v := 7) hx hb dM_segments_153 (by decide) ?_
    refine lv_iadd hx hb dM_segments_155 ?_
    obtain ⟨n_32, ha_33, hw⟩ := hw
    obtain ⟨hi_34, hw⟩ := hw
    refine g_iald hC hwo ha_33 hi_34 dM_segments_156 ?_
    refine lv_sipush (v := 256) hx hb dM_segments_157 (by decide) ?_
    refine lv_aload_n hx hb dM_segments_160 rfl (lv_at hl 0 rfl) ?_
    refine g_getR hC fkM_7 rfl hwo ho_30 hz_31 dM_segments_161 ?_
    refine lv_iload_n hx hb dM_segments_164 rfl (lv_at hl 1 rfl) ?_
    refine lv_bipush (v := 8) hx hb dM_segments_165 (by decide) ?_
    refine lv_iadd hx hb dM_segments_167 ?_
    obtain ⟨hi_35, hw⟩ := hw
    refine g_iald hC hwo ha_33 hi_35 dM_segments_168 ?_
    refine lv_imul hx hb dM_segments_169 ?_
    refine lv_iadd hx hb dM_segments_170 ?_
    refine lv_topi (fun y_36 ey_36 => ?_)
    replace hw := hw y_36 ey_36
    refine lv_istore (i := 8) (lv' := [(8, .int y_36), (0, .ref a0_148), (1, .int x1_148), (2, .int x2_148), (3, .int x3_148), (4, .int x4_148), (5, .int x5_148), (7, .int x7_148)]) hx hb dM_segments_171 hl (by decide) rfl (fun ls hl => ?_)
    refine lv_iload_n hx hb dM_segments_173 rfl (lv_at hl 2 rfl) ?_
    refine lv_bipush (v := 14) hx hb dM_segments_174 (by decide) ?_
    refine lv_iadd hx hb dM_segments_176 ?_
    refine lv_iload hx hb dM_segments_177 (lv_at hl 5 rfl) ?_
    refine lv_iadd hx hb dM_segments_179 ?_
    refine lv_topi (fun y_37 ey_37 => ?_)
    replace hw := hw y_37 ey_37
    refine lv_istore (i := 9) (lv' := [(9, .int y_37), (8, .int y_36), (0, .ref a0_148), (1, .int x1_148), (2, .int x2_148), (3, .int x3_148), (4, .int x4_148), (5, .int x5_148), (7, .int x7_148)]) hx hb dM_segments_180 hl (by decide) rfl (fun ls hl => ?_)
    refine lv_iconst (v := 0) hx hb dM_segments_182 (by decide) ?_
    refine lv_istore (i := 10) (lv' := [(10, .int (0 : Int32)), (9, .int y_37), (8, .int y_36), (0, .ref a0_148), (1, .int x1_148), (2, .int x2_148), (3, .int x3_148), (4, .int x4_148), (5, .int x5_148), (7, .int x7_148)]) hx hb dM_segments_183 hl (by decide) rfl (fun ls hl => ?_)
    obtain ⟨n, hw⟩ := hw
    exact L185 _ _ _ _ _ _ _ _ n _ _ _ _ _ _ _ hw hwo hS (lv_sub hl [3, 4, 5, 6, 7, 8, 9, 2, 1, 0] rfl)
  have L33 : ∀ (a0_33 : Nat) (x1_33 : Int32) (x2_33 : Int32) (x3_33 : Int32) (x4_33 : Int32) (n33 : Nat) (x5_33 : Int32) (x6_33 : Int32) (x7_33 : Int32) (V : VT) (U : UT) (H : Heap) (locs : List Loc) (ls : Array Slot), wl_M_segments_33 θ a0_33 x1_33 x2_33 x3_33 x4_33 K n33 x5_33 x6_33 x7_33 V U → wo θ V U H → Sx θ s H locs → lv_has ls 12 [(0, .ref a0_33), (1, .int x1_33), (2, .int x2_33), (3, .int x3_33), (4, .int x4_33), (5, .int x5_33), (6, .int x6_33), (7, .int x7_33)] → W p l e rmM_segments s m args below meth c H locs 0 0 (MQ below (QV θ K) args s 0 0 (aT θ)) (F0 m 33 ls []) := by
    intro a0_33 x1_33 x2_33 x3_33 x4_33 n33
    induction n33 with
    | zero => intro x5_33 x6_33 x7_33 V U H locs ls hw hwo hS hl; exact (show False from hw).elim
    | succ n33 ih33 =>
      have J91 : ∀ (x5_91 : Int32) (x6_91 : Int32) (x7_91 : Int32) (V : VT) (U : UT) (H : Heap) (locs : List Loc) (ls : Array Slot), wb_M_segments_91 θ a0_33 x1_33 x2_33 x3_33 x4_33 x5_91 x6_91 x7_91 (wl_M_segments_33 θ a0_33 x1_33 x2_33 x3_33 x4_33 K n33) K V U → wo θ V U H → Sx θ s H locs → lv_has ls 12 [(0, .ref a0_33), (1, .int x1_33), (2, .int x2_33), (3, .int x3_33), (4, .int x4_33), (5, .int x5_91), (6, .int x6_91), (7, .int x7_91)] → W p l e rmM_segments s m args below meth c H locs 0 0 (MQ below (QV θ K) args s 0 0 (aT θ)) (F0 m 91 ls []) := by
        intro x5_91 x6_91 x7_91 V U H locs ls hw hwo hS hl
        unfold wb_M_segments_91 at hw
        refine lv_iload hx hb dM_segments_91 (lv_at hl 5 rfl) ?_
        refine lv_istore (i := 5) (lv' := [(5, .int x5_91), (0, .ref a0_33), (1, .int x1_33), (2, .int x2_33), (3, .int x3_33), (4, .int x4_33), (6, .int x6_91), (7, .int x7_91)]) hx hb dM_segments_93 hl (by decide) rfl (fun ls hl => ?_)
        obtain ⟨y_76, ey_76⟩ : ∃ z : Int32, z = x7_91 + (-1 : Int32) := ⟨_, rfl⟩
        replace hw := hw y_76 ey_76
        refine lv_iinc (k := 7) (v := y_76) (lv' := [(7, .int y_76), (5, .int x5_91), (0, .ref a0_33), (1, .int x1_33), (2, .int x2_33), (3, .int x3_33), (4, .int x4_33), (6, .int x6_91)]) hx hb dM_segments_95 hl rfl (by rw [ey_76]; rfl) (by decide) rfl (fun ls hl => ?_)
        refine lv_goto (tgt := 33) hx hb dM_segments_98 (by decide) ?_
        exact ih33 _ _ _ _ _ _ _ _ hw hwo hS (lv_sub hl [2, 3, 4, 5, 6, 1, 7, 0] rfl)
      have J74 : ∀ (x5_74 : Int32) (x7_74 : Int32) (x8_74 : Int32) (z0_74 : Int32) (V : VT) (U : UT) (H : Heap) (locs : List Loc) (ls : Array Slot), wb_M_segments_74 θ a0_33 x1_33 x2_33 x3_33 x4_33 x5_74 x7_74 x8_74 z0_74 (wl_M_segments_33 θ a0_33 x1_33 x2_33 x3_33 x4_33 K n33) K V U → wo θ V U H → Sx θ s H locs → lv_has ls 12 [(0, .ref a0_33), (1, .int x1_33), (2, .int x2_33), (3, .int x3_33), (4, .int x4_33), (5, .int x5_74), (7, .int x7_74), (8, .int x8_74)] → W p l e rmM_segments s m args below meth c H locs 0 0 (MQ below (QV θ K) args s 0 0 (aT θ)) (F0 m 74 ls [.int z0_74]) := by
        intro x5_74 x7_74 x8_74 z0_74 V U H locs ls hw hwo hS hl
        unfold wb_M_segments_74 at hw
        refine lv_istore (i := 6) (lv' := [(6, .int z0_74), (0, .ref a0_33), (1, .int x1_33), (2, .int x2_33), (3, .int x3_33), (4, .int x4_33), (5, .int x5_74), (7, .int x7_74), (8, .int x8_74)]) hx hb dM_segments_74 hl (by decide) rfl (fun ls hl => ?_)
        refine lv_iload hx hb dM_segments_76 (lv_at hl 8 rfl) ?_
        refine lv_if_eq (tgt := 91) hx hb dM_segments_78 (by decide) (fun hc_73 => ?_) (fun hc_73 => ?_)
        · replace hw := hw.1 hc_73
          exact J91 _ _ _ _ _ _ _ _ hw hwo hS (lv_sub hl [1, 2, 3, 4, 5, 6, 0, 7] rfl)
        · replace hw := hw.2 hc_73
          refine lv_iload hx hb dM_segments_81 (lv_at hl 6 rfl) ?_
          refine lv_if_ge (tgt := 91) hx hb dM_segments_83 (by decide) (fun hc_74 => ?_) (fun hc_74 => ?_)
          · replace hw := hw.1 hc_74
            exact J91 _ _ _ _ _ _ _ _ hw hwo hS (lv_sub hl [1, 2, 3, 4, 5, 6, 0, 7] rfl)
          · replace hw := hw.2 hc_74
            refine lv_iload hx hb dM_segments_86 (lv_at hl 7 rfl) ?_
            refine lv_goto (tgt := 93) hx hb dM_segments_88 (by decide) ?_
            refine lv_istore (i := 5) (lv' := [(5, .int x7_74), (6, .int z0_74), (0, .ref a0_33), (1, .int x1_33), (2, .int x2_33), (3, .int x3_33), (4, .int x4_33), (7, .int x7_74), (8, .int x8_74)]) hx hb dM_segments_93 hl (by decide) rfl (fun ls hl => ?_)
            obtain ⟨y_75, ey_75⟩ : ∃ z : Int32, z = x7_74 + (-1 : Int32) := ⟨_, rfl⟩
            replace hw := hw y_75 ey_75
            refine lv_iinc (k := 7) (v := y_75) (lv' := [(7, .int y_75), (5, .int x7_74), (6, .int z0_74), (0, .ref a0_33), (1, .int x1_33), (2, .int x2_33), (3, .int x3_33), (4, .int x4_33), (8, .int x8_74)]) hx hb dM_segments_95 hl rfl (by rw [ey_75]; rfl) (by decide) rfl (fun ls hl => ?_)
            refine lv_goto (tgt := 33) hx hb dM_segments_98 (by decide) ?_
            exact ih33 _ _ _ _ _ _ _ _ hw hwo hS (lv_sub hl [3, 4, 5, 6, 7, 1, 2, 0] rfl)
      have J60 : ∀ (x5_60 : Int32) (x6_60 : Int32) (x7_60 : Int32) (z0_60 : Int32) (V : VT) (U : UT) (H : Heap) (locs : List Loc) (ls : Array Slot), wb_M_segments_60 θ a0_33 x1_33 x2_33 x3_33 x4_33 x5_60 x6_60 x7_60 z0_60 (wl_M_segments_33 θ a0_33 x1_33 x2_33 x3_33 x4_33 K n33) K V U → wo θ V U H → Sx θ s H locs → lv_has ls 12 [(0, .ref a0_33), (1, .int x1_33), (2, .int x2_33), (3, .int x3_33), (4, .int x4_33), (5, .int x5_60), (6, .int x6_60), (7, .int x7_60)] → W p l e rmM_segments s m args below meth c H locs 0 0 (MQ below (QV θ K) args s 0 0 (aT θ)) (F0 m 60 ls [.int z0_60]) := by
        intro x5_60 x6_60 x7_60 z0_60 V U H locs ls hw hwo hS hl
        unfold wb_M_segments_60 at hw
        refine lv_istore (i := 8) (lv' := [(8, .int z0_60), (0, .ref a0_33), (1, .int x1_33), (2, .int x2_33), (3, .int x3_33), (4, .int x4_33), (5, .int x5_60), (6, .int x6_60), (7, .int x7_60)]) hx hb dM_segments_60 hl (by decide) rfl (fun ls hl => ?_)
        refine lv_iload hx hb dM_segments_62 (lv_at hl 0 rfl) ?_
        refine lv_if_eq (tgt := 72) hx hb dM_segments_64 (by decide) (fun hc_72 => ?_) (fun hc_72 => ?_)
        · replace hw := hw.1 hc_72
          refine lv_iload hx hb dM_segments_72 (lv_at hl 7 rfl) ?_
          exact J74 _ _ _ _ _ _ _ _ _ hw hwo hS (lv_sub hl [1, 2, 3, 4, 5, 6, 8, 0] rfl)
        · replace hw := hw.2 hc_72
          refine lv_iload hx hb dM_segments_67 (lv_at hl 8 rfl) ?_
          refine lv_goto (tgt := 74) hx hb dM_segments_69 (by decide) ?_
          exact J74 _ _ _ _ _ _ _ _ _ hw hwo hS (lv_sub hl [1, 2, 3, 4, 5, 6, 8, 0] rfl)
      intro x5_33 x6_33 x7_33 V U H locs ls hw hwo hS hl
      replace hw : bl_M_segments_33 θ a0_33 x1_33 x2_33 x3_33 x4_33 K (wl_M_segments_33 θ a0_33 x1_33 x2_33 x3_33 x4_33 K n33) x5_33 x6_33 x7_33 V U := hw
      unfold bl_M_segments_33 at hw
      refine lv_iload hx hb dM_segments_33 (lv_at hl 7 rfl) ?_
      refine lv_if_lt (tgt := 101) hx hb dM_segments_35 (by decide) (fun hc_10 => ?_) (fun hc_10 => ?_)
      · replace hw := hw.1 hc_10
        refine lv_iconst (v := 0) hx hb dM_segments_101 (by decide) ?_
        refine lv_istore (i := 7) (lv' := [(7, .int (0 : Int32)), (0, .ref a0_33), (1, .int x1_33), (2, .int x2_33), (3, .int x3_33), (4, .int x4_33), (5, .int x5_33), (6, .int x6_33)]) hx hb dM_segments_102 hl (by decide) rfl (fun ls hl => ?_)
        refine lv_iload_n hx hb dM_segments_104 rfl (lv_at hl 4 rfl) ?_
        refine lv_iconst (v := 1) hx hb dM_segments_105 (by decide) ?_
        refine lv_iand hx hb dM_segments_106 ?_
        refine lv_if_ne (tgt := 118) hx hb dM_segments_107 (by decide) (fun hc_11 => ?_) (fun hc_11 => ?_)
        · replace hw := hw.1 hc_11
          refine lv_aload_n hx hb dM_segments_118 rfl (lv_at hl 1 rfl) ?_
          obtain ⟨ho_12, hw⟩ := hw
          obtain ⟨hz_13, hw⟩ := hw
          refine g_getR hC fkM_50 rfl hwo ho_12 hz_13 dM_segments_119 ?_
          refine lv_iload_n hx hb dM_segments_122 rfl (lv_at hl 3 rfl) ?_
          obtain ⟨n_14, ha_15, hw⟩ := hw
          obtain ⟨hi_16, hw⟩ := hw
          refine g_zald hC hwo ha_15 hi_16 dM_segments_123 ?_
          refine lv_if_ne (tgt := 148) hx hb dM_segments_124 (by decide) (fun hc_17 => ?_) (fun hc_17 => ?_)
          · replace hw := hw.1 hc_17
            exact J148 _ _ _ _ _ _ _ _ _ _ _ _ hw hwo hS (lv_sub hl [1, 2, 3, 4, 5, 6, 0] rfl)
          · replace hw := hw.2 hc_17
            refine lv_iload hx hb dM_segments_127 (lv_at hl 5 rfl) ?_
            refine lv_if_le (tgt := 148) hx hb dM_segments_129 (by decide) (fun hc_18 => ?_) (fun hc_18 => ?_)
            · replace hw := hw.1 hc_18
              exact J148 _ _ _ _ _ _ _ _ _ _ _ _ hw hwo hS (lv_sub hl [1, 2, 3, 4, 5, 6, 0] rfl)
            · replace hw := hw.2 hc_18
              refine lv_aload_n hx hb dM_segments_132 rfl (lv_at hl 1 rfl) ?_
              refine lv_dup hx hb dM_segments_133 rfl ?_
              refine g_getI hC fkM_176 rfl hwo ho_12 dM_segments_134 ?_
              refine lv_iconst (v := 1) hx hb dM_segments_137 (by decide) ?_
              refine lv_iadd hx hb dM_segments_138 ?_
              refine g_putI hC fkM_176 rfl hwo hS ho_12 dM_segments_139 (fun V_19 eV_19 H locs hwo hS => ?_)
              replace hw := hw V_19 eV_19
              refine lv_iload hx hb dM_segments_142 (lv_at hl 7 rfl) ?_
              refine lv_iconst (v := 1) hx hb dM_segments_144 (by decide) ?_
              refine lv_iadd hx hb dM_segments_145 ?_
              refine lv_topi (fun y_20 ey_20 => ?_)
              replace hw := hw y_20 ey_20
              refine lv_istore (i := 7) (lv' := [(7, .int y_20), (0, .ref a0_33), (1, .int x1_33), (2, .int x2_33), (3, .int x3_33), (4, .int x4_33), (5, .int x5_33), (6, .int x6_33)]) hx hb dM_segments_146 hl (by decide) rfl (fun ls hl => ?_)
              exact J148 _ _ _ _ _ _ _ _ _ _ _ _ hw hwo hS (lv_sub hl [1, 2, 3, 4, 5, 6, 0] rfl)
        · replace hw := hw.2 hc_11
          refine lv_aload_n hx hb dM_segments_110 rfl (lv_at hl 1 rfl) ?_
          refine lv_iload_n hx hb dM_segments_111 rfl (lv_at hl 3 rfl) ?_
          obtain ⟨ho_23, hw⟩ := hw
          refine g_Vv (rest := []) hC (c_M_drop l θ _ _ _ _ _ hw) mi_M_drop mlM_196 mv_M_drop ci_12 ho_23 hwo hS ⟨rfl, rfl⟩ ⟨by decide, by decide⟩ rfl hl.1 rfl (Nat.le_of_ble_eq_true rfl) dM_segments_112 (fun V_21 U_22 hw H locs hwo hS => ?_)
          refine lv_goto (tgt := 148) hx hb dM_segments_115 (by decide) ?_
          exact J148 _ _ _ _ _ _ _ _ _ _ _ _ hw hwo hS (lv_sub hl [1, 2, 3, 4, 5, 6, 0] rfl)
      · replace hw := hw.2 hc_10
        refine lv_aload_n hx hb dM_segments_38 rfl (lv_at hl 0 rfl) ?_
        obtain ⟨ho_24, hw⟩ := hw
        obtain ⟨hz_25, hw⟩ := hw
        refine g_getR hC fkM_7 rfl hwo ho_24 hz_25 dM_segments_39 ?_
        refine lv_iload_n hx hb dM_segments_42 rfl (lv_at hl 1 rfl) ?_
        refine lv_bipush (v := 14) hx hb dM_segments_43 (by decide) ?_
        refine lv_iadd hx hb dM_segments_45 ?_
        refine lv_iload hx hb dM_segments_46 (lv_at hl 7 rfl) ?_
        refine lv_iadd hx hb dM_segments_48 ?_
        obtain ⟨n_26, ha_27, hw⟩ := hw
        obtain ⟨hi_28, hw⟩ := hw
        refine g_iald hC hwo ha_27 hi_28 dM_segments_49 ?_
        refine lv_bipush (v := 15) hx hb dM_segments_50 (by decide) ?_
        refine lv_icmp_ge (tgt := 59) hx hb dM_segments_52 (by decide) (fun hc_29 => ?_) (fun hc_29 => ?_)
        · replace hw := hw.1 hc_29
          refine lv_iconst (v := 0) hx hb dM_segments_59 (by decide) ?_
          exact J60 _ _ _ _ _ _ _ _ _ hw hwo hS (lv_sub hl [0, 1, 2, 3, 4, 5, 6, 7] rfl)
        · replace hw := hw.2 hc_29
          refine lv_iconst (v := 1) hx hb dM_segments_55 (by decide) ?_
          refine lv_goto (tgt := 60) hx hb dM_segments_56 (by decide) ?_
          exact J60 _ _ _ _ _ _ _ _ _ hw hwo hS (lv_sub hl [0, 1, 2, 3, 4, 5, 6, 7] rfl)
  unfold wp_M_segments at hw
  refine lv_aload_n hx hb dM_segments_0 rfl (lv_at hl 0 rfl) ?_
  obtain ⟨ho_1, hw⟩ := hw
  obtain ⟨hz_2, hw⟩ := hw
  refine g_getR hC fkM_7 rfl hwo ho_1 hz_2 dM_segments_1 ?_
  refine lv_iload_n hx hb dM_segments_4 rfl (lv_at hl 1 rfl) ?_
  refine lv_iconst (v := 4) hx hb dM_segments_5 (by decide) ?_
  refine lv_iadd hx hb dM_segments_6 ?_
  obtain ⟨n_3, ha_4, hw⟩ := hw
  obtain ⟨hi_5, hw⟩ := hw
  refine g_iald hC hwo ha_4 hi_5 dM_segments_7 ?_
  refine lv_topi (fun y_6 ey_6 => ?_)
  replace hw := hw y_6 ey_6
  refine lv_istore_n (i := 3) (lv' := [(3, .int y_6), (0, .ref a0), (1, .int x1), (2, .int x2)]) hx hb dM_segments_8 rfl hl (by decide) rfl (fun ls hl => ?_)
  refine lv_aload_n hx hb dM_segments_9 rfl (lv_at hl 1 rfl) ?_
  refine g_getR hC fkM_7 rfl hwo ho_1 hz_2 dM_segments_10 ?_
  refine lv_iload_n hx hb dM_segments_13 rfl (lv_at hl 2 rfl) ?_
  refine lv_bipush (v := 13) hx hb dM_segments_14 (by decide) ?_
  refine lv_iadd hx hb dM_segments_16 ?_
  obtain ⟨hi_7, hw⟩ := hw
  refine g_iald hC hwo ha_4 hi_7 dM_segments_17 ?_
  refine lv_topi (fun y_8 ey_8 => ?_)
  replace hw := hw y_8 ey_8
  refine lv_istore (i := 4) (lv' := [(4, .int y_8), (3, .int y_6), (0, .ref a0), (1, .int x1), (2, .int x2)]) hx hb dM_segments_18 hl (by decide) rfl (fun ls hl => ?_)
  refine lv_iconst (v := -1) hx hb dM_segments_20 (by decide) ?_
  refine lv_istore (i := 5) (lv' := [(5, .int (-1 : Int32)), (4, .int y_8), (3, .int y_6), (0, .ref a0), (1, .int x1), (2, .int x2)]) hx hb dM_segments_21 hl (by decide) rfl (fun ls hl => ?_)
  refine lv_iload hx hb dM_segments_23 (lv_at hl 1 rfl) ?_
  refine lv_istore (i := 6) (lv' := [(6, .int y_8), (5, .int (-1 : Int32)), (4, .int y_8), (3, .int y_6), (0, .ref a0), (1, .int x1), (2, .int x2)]) hx hb dM_segments_25 hl (by decide) rfl (fun ls hl => ?_)
  refine lv_iload hx hb dM_segments_27 (lv_at hl 2 rfl) ?_
  refine lv_iconst (v := 1) hx hb dM_segments_29 (by decide) ?_
  refine lv_isub hx hb dM_segments_30 ?_
  refine lv_topi (fun y_9 ey_9 => ?_)
  replace hw := hw y_9 ey_9
  refine lv_istore (i := 7) (lv' := [(7, .int y_9), (6, .int y_8), (5, .int (-1 : Int32)), (4, .int y_8), (3, .int y_6), (0, .ref a0), (1, .int x1), (2, .int x2)]) hx hb dM_segments_31 hl (by decide) rfl (fun ls hl => ?_)
  obtain ⟨n, hw⟩ := hw
  exact L33 _ _ _ _ _ n _ _ _ _ _ _ _ _ hw hwo hS (lv_sub hl [5, 6, 7, 4, 3, 2, 1, 0] rfl)
theorem dM_replay_0 : decode kM_replay 0 = .ok (.aload_n 0, 1) := by decide +kernel
theorem dM_replay_1 : decode kM_replay 1 = .ok (.iconst 0, 1) := by decide +kernel
theorem dM_replay_2 : decode kM_replay 2 = .ok (.putfield 176, 3) := by decide +kernel
theorem dM_replay_5 : decode kM_replay 5 = .ok (.iconst 0, 1) := by decide +kernel
theorem dM_replay_6 : decode kM_replay 6 = .ok (.istore_n 1, 1) := by decide +kernel
theorem dM_replay_7 : decode kM_replay 7 = .ok (.iload_n 1, 1) := by decide +kernel
theorem dM_replay_8 : decode kM_replay 8 = .ok (.iconst 3, 1) := by decide +kernel
theorem dM_replay_9 : decode kM_replay 9 = .ok (.if_icmp .ge 30, 3) := by decide +kernel
theorem dM_replay_12 : decode kM_replay 12 = .ok (.aload_n 0, 1) := by decide +kernel
theorem dM_replay_13 : decode kM_replay 13 = .ok (.getfield 41, 3) := by decide +kernel
theorem dM_replay_16 : decode kM_replay 16 = .ok (.iload_n 1, 1) := by decide +kernel
theorem dM_replay_17 : decode kM_replay 17 = .ok (.iconst (-1), 1) := by decide +kernel
theorem dM_replay_18 : decode kM_replay 18 = .ok (.iastore, 1) := by decide +kernel
theorem dM_replay_19 : decode kM_replay 19 = .ok (.aload_n 0, 1) := by decide +kernel
theorem dM_replay_20 : decode kM_replay 20 = .ok (.getfield 50, 3) := by decide +kernel
theorem dM_replay_23 : decode kM_replay 23 = .ok (.iload_n 1, 1) := by decide +kernel
theorem dM_replay_24 : decode kM_replay 24 = .ok (.iconst 0, 1) := by decide +kernel
theorem dM_replay_25 : decode kM_replay 25 = .ok (.bastore, 1) := by decide +kernel
theorem dM_replay_26 : decode kM_replay 26 = .ok (.aload_n 0, 1) := by decide +kernel
theorem dM_replay_27 : decode kM_replay 27 = .ok (.getfield 53, 3) := by decide +kernel
theorem dM_replay_30 : decode kM_replay 30 = .ok (.iload_n 1, 1) := by decide +kernel
theorem dM_replay_31 : decode kM_replay 31 = .ok (.iconst 0, 1) := by decide +kernel
theorem dM_replay_32 : decode kM_replay 32 = .ok (.iastore, 1) := by decide +kernel
theorem dM_replay_33 : decode kM_replay 33 = .ok (.iinc 1 1, 3) := by decide +kernel
theorem dM_replay_36 : decode kM_replay 36 = .ok (.goto (-29), 3) := by decide +kernel
theorem dM_replay_39 : decode kM_replay 39 = .ok (.iconst 0, 1) := by decide +kernel
theorem dM_replay_40 : decode kM_replay 40 = .ok (.istore_n 1, 1) := by decide +kernel
theorem dM_replay_41 : decode kM_replay 41 = .ok (.iload_n 1, 1) := by decide +kernel
theorem dM_replay_42 : decode kM_replay 42 = .ok (.aload_n 0, 1) := by decide +kernel
theorem dM_replay_43 : decode kM_replay 43 = .ok (.getfield 179, 3) := by decide +kernel
theorem dM_replay_46 : decode kM_replay 46 = .ok (.if_icmp .ge 45, 3) := by decide +kernel
theorem dM_replay_49 : decode kM_replay 49 = .ok (.aload_n 0, 1) := by decide +kernel
theorem dM_replay_50 : decode kM_replay 50 = .ok (.iconst 0, 1) := by decide +kernel
theorem dM_replay_51 : decode kM_replay 51 = .ok (.putfield 173, 3) := by decide +kernel
theorem dM_replay_54 : decode kM_replay 54 = .ok (.aload_n 0, 1) := by decide +kernel
theorem dM_replay_55 : decode kM_replay 55 = .ok (.iconst 0, 1) := by decide +kernel
theorem dM_replay_56 : decode kM_replay 56 = .ok (.putfield 182, 3) := by decide +kernel
theorem dM_replay_59 : decode kM_replay 59 = .ok (.aload_n 0, 1) := by decide +kernel
theorem dM_replay_60 : decode kM_replay 60 = .ok (.aload_n 0, 1) := by decide +kernel
theorem dM_replay_61 : decode kM_replay 61 = .ok (.getfield 38, 3) := by decide +kernel
theorem dM_replay_64 : decode kM_replay 64 = .ok (.iload_n 1, 1) := by decide +kernel
theorem dM_replay_65 : decode kM_replay 65 = .ok (.iaload, 1) := by decide +kernel
theorem dM_replay_66 : decode kM_replay 66 = .ok (.invokevirtual 185, 3) := by decide +kernel
theorem dM_replay_69 : decode kM_replay 69 = .ok (.istore_n 2, 1) := by decide +kernel
theorem dM_replay_70 : decode kM_replay 70 = .ok (.iload_n 2, 1) := by decide +kernel
theorem dM_replay_71 : decode kM_replay 71 = .ok (.ifCond .lt 14, 3) := by decide +kernel
theorem dM_replay_74 : decode kM_replay 74 = .ok (.aload_n 0, 1) := by decide +kernel
theorem dM_replay_75 : decode kM_replay 75 = .ok (.aload_n 0, 1) := by decide +kernel
theorem dM_replay_76 : decode kM_replay 76 = .ok (.getfield 38, 3) := by decide +kernel
theorem dM_replay_79 : decode kM_replay 79 = .ok (.iload_n 1, 1) := by decide +kernel
theorem dM_replay_80 : decode kM_replay 80 = .ok (.iaload, 1) := by decide +kernel
theorem dM_replay_81 : decode kM_replay 81 = .ok (.iload_n 2, 1) := by decide +kernel
theorem dM_replay_82 : decode kM_replay 82 = .ok (.invokevirtual 188, 3) := by decide +kernel
theorem dM_replay_85 : decode kM_replay 85 = .ok (.iinc 1 1, 3) := by decide +kernel
theorem dM_replay_88 : decode kM_replay 88 = .ok (.goto (-47), 3) := by decide +kernel
theorem dM_replay_91 : decode kM_replay 91 = .ok (.return_, 1) := by decide +kernel
def bl_M_replay_41 (θ : TH) (a0_41 : Nat) (K : VT → UT → Prop) (kb41 : Int32 → VT → UT → Prop) (x1_41 : Int32) (V : VT) (U : UT) : Prop := isO θ a0_41 12 ∧ (((V a0_41 13) ≤ x1_41 → K V U) ∧ (¬ (V a0_41 13) ≤ x1_41 → ∀ V_23 : VT, V_23 = up2 V a0_41 22 (0 : Int32) → ∀ V_24 : VT, V_24 = up2 V_23 a0_41 29 (0 : Int32) → (U a0_41 12) ≠ 0 ∧ ∃ n_26, isA θ (U a0_41 12) 0 n_26 ∧ vp_in x1_41 n_26 ∧ wp_M_stream θ a0_41 (V_24 (U a0_41 12) x1_41.toNatClampNeg) V_24 U (fun r_31 V_29 U_30 => ((r_31 < 0 → ∀ y_33 : Int32, y_33 = x1_41 + (1 : Int32) → kb41 y_33 V_29 U_30) ∧ (¬ r_31 < 0 → (U_30 a0_41 12) ≠ 0 ∧ ∃ n_35, isA θ (U_30 a0_41 12) 0 n_35 ∧ vp_in x1_41 n_35 ∧ wp_M_segments θ a0_41 (V_29 (U_30 a0_41 12) x1_41.toNatClampNeg) r_31 V_29 U_30 (fun V_38 U_39 => ∀ y_40 : Int32, y_40 = x1_41 + (1 : Int32) → kb41 y_40 V_38 U_39))))))
def wl_M_replay_41 (θ : TH) (a0_41 : Nat) (K : VT → UT → Prop) : Nat → Int32 → VT → UT → Prop
  | 0, _, _, _ => False
  | n + 1, x1_41, V, U => bl_M_replay_41 θ a0_41 K (wl_M_replay_41 θ a0_41 K n) x1_41 V U
def bl_M_replay_7 (θ : TH) (a0_7 : Nat) (K : VT → UT → Prop) (kb7 : Int32 → VT → UT → Prop) (x1_7 : Int32) (V : VT) (U : UT) : Prop := (((3 : Int32) ≤ x1_7 → ∃ n, wl_M_replay_41 θ a0_7 K n (0 : Int32) V U) ∧ (¬ (3 : Int32) ≤ x1_7 → isO θ a0_7 12 ∧ (U a0_7 15) ≠ 0 ∧ ∃ n_6, isA θ (U a0_7 15) 0 n_6 ∧ vp_in x1_7 n_6 ∧ ∀ V_9 : VT, V_9 = up2 V (U a0_7 15) x1_7.toNatClampNeg (-1 : Int32) → (U a0_7 18) ≠ 0 ∧ ∃ n_11, isA θ (U a0_7 18) 1 n_11 ∧ vp_in x1_7 n_11 ∧ ∀ V_14 : VT, V_14 = up2 V_9 (U a0_7 18) x1_7.toNatClampNeg (0 : Int32) → (U a0_7 19) ≠ 0 ∧ ∃ n_16, isA θ (U a0_7 19) 0 n_16 ∧ vp_in x1_7 n_16 ∧ ∀ V_19 : VT, V_19 = up2 V_14 (U a0_7 19) x1_7.toNatClampNeg (0 : Int32) → ∀ y_20 : Int32, y_20 = x1_7 + (1 : Int32) → kb7 y_20 V_19 U))
def wl_M_replay_7 (θ : TH) (a0_7 : Nat) (K : VT → UT → Prop) : Nat → Int32 → VT → UT → Prop
  | 0, _, _, _ => False
  | n + 1, x1_7, V, U => bl_M_replay_7 θ a0_7 K (wl_M_replay_7 θ a0_7 K n) x1_7 V U
def wp_M_replay (θ : TH) (a0 : Nat) (V : VT) (U : UT) (K : VT → UT → Prop) : Prop := isO θ a0 12 ∧ ∀ V_2 : VT, V_2 = up2 V a0 21 (0 : Int32) → ∃ n, wl_M_replay_7 θ a0 K n (0 : Int32) V_2 U
set_option maxRecDepth 100000 in
set_option maxHeartbeats 4000000 in
theorem c_M_replay (l : Launch) (θ : TH) (a0 : Nat) (V : VT) (U : UT) (K : VT → UT → Prop) (hw : wp_M_replay θ a0 V U K) : CMv l yM_replay kM_replay 3 none rmM_replay θ [.ref a0] V U K := by
  refine g_met nRM (by decide +kernel) rfl (Nat.le_of_ble_eq_true rfl) (fun p e s m args below meth c ls hC hr hlk hwo hl => ?_)
  have hx := hC.1
  have hb := hC.2.1
  have hS : Sx θ s s.heap [] := va_S.rf
  have hl : lv_has ls 3 [(0, .ref a0)] := hl
  have L41 : ∀ (a0_41 : Nat) (n41 : Nat) (x1_41 : Int32) (V : VT) (U : UT) (H : Heap) (locs : List Loc) (ls : Array Slot), wl_M_replay_41 θ a0_41 K n41 x1_41 V U → wo θ V U H → Sx θ s H locs → lv_has ls 3 [(0, .ref a0_41), (1, .int x1_41)] → W p l e rmM_replay s m args below meth c H locs 0 0 (MQ below (QV θ K) args s 0 0 (aT θ)) (F0 m 41 ls []) := by
    intro a0_41 n41
    induction n41 with
    | zero => intro x1_41 V U H locs ls hw hwo hS hl; exact (show False from hw).elim
    | succ n41 ih41 =>
      intro x1_41 V U H locs ls hw hwo hS hl
      replace hw : bl_M_replay_41 θ a0_41 K (wl_M_replay_41 θ a0_41 K n41) x1_41 V U := hw
      unfold bl_M_replay_41 at hw
      refine lv_iload_n hx hb dM_replay_41 rfl (lv_at hl 1 rfl) ?_
      refine lv_aload_n hx hb dM_replay_42 rfl (lv_at hl 0 rfl) ?_
      obtain ⟨ho_21, hw⟩ := hw
      refine g_getI hC fkM_179 rfl hwo ho_21 dM_replay_43 ?_
      refine lv_icmp_ge (tgt := 91) hx hb dM_replay_46 (by decide) (fun hc_22 => ?_) (fun hc_22 => ?_)
      · replace hw := hw.1 hc_22
        exact g_vret hC hr hlk hw hwo hS dM_replay_91
      · replace hw := hw.2 hc_22
        refine lv_aload_n hx hb dM_replay_49 rfl (lv_at hl 0 rfl) ?_
        refine lv_iconst (v := 0) hx hb dM_replay_50 (by decide) ?_
        refine g_putI hC fkM_173 rfl hwo hS ho_21 dM_replay_51 (fun V_23 eV_23 H locs hwo hS => ?_)
        replace hw := hw V_23 eV_23
        refine lv_aload_n hx hb dM_replay_54 rfl (lv_at hl 0 rfl) ?_
        refine lv_iconst (v := 0) hx hb dM_replay_55 (by decide) ?_
        refine g_putI hC fkM_182 rfl hwo hS ho_21 dM_replay_56 (fun V_24 eV_24 H locs hwo hS => ?_)
        replace hw := hw V_24 eV_24
        refine lv_aload_n hx hb dM_replay_59 rfl (lv_at hl 0 rfl) ?_
        refine lv_aload_n hx hb dM_replay_60 rfl (lv_at hl 0 rfl) ?_
        obtain ⟨hz_25, hw⟩ := hw
        refine g_getR hC fkM_38 rfl hwo ho_21 hz_25 dM_replay_61 ?_
        refine lv_iload_n hx hb dM_replay_64 rfl (lv_at hl 1 rfl) ?_
        obtain ⟨n_26, ha_27, hw⟩ := hw
        obtain ⟨hi_28, hw⟩ := hw
        refine g_iald hC hwo ha_27 hi_28 dM_replay_65 ?_
        refine g_Vi (rest := []) hC (c_M_stream l θ _ _ _ _ _ hw) mi_M_stream mlM_185 mv_M_stream ci_12 ho_21 hwo hS ⟨rfl, rfl⟩ ⟨by decide, by decide⟩ rfl hl.1 rfl (Nat.le_of_ble_eq_true rfl) dM_replay_66 (fun r_31 V_29 U_30 hw H locs hwo hS => ?_)
        refine lv_istore_n (i := 2) (lv' := [(2, .int r_31), (0, .ref a0_41), (1, .int x1_41)]) hx hb dM_replay_69 rfl hl (by decide) rfl (fun ls hl => ?_)
        refine lv_iload_n hx hb dM_replay_70 rfl (lv_at hl 0 rfl) ?_
        refine lv_if_lt (tgt := 85) hx hb dM_replay_71 (by decide) (fun hc_32 => ?_) (fun hc_32 => ?_)
        · replace hw := hw.1 hc_32
          obtain ⟨y_33, ey_33⟩ : ∃ z : Int32, z = x1_41 + (1 : Int32) := ⟨_, rfl⟩
          replace hw := hw y_33 ey_33
          refine lv_iinc (k := 2) (v := y_33) (lv' := [(1, .int y_33), (2, .int r_31), (0, .ref a0_41)]) hx hb dM_replay_85 hl rfl (by rw [ey_33]; rfl) (by decide) rfl (fun ls hl => ?_)
          refine lv_goto (tgt := 41) hx hb dM_replay_88 (by decide) ?_
          exact ih41 _ _ _ _ _ _ hw hwo hS (lv_sub hl [2, 0] rfl)
        · replace hw := hw.2 hc_32
          refine lv_aload_n hx hb dM_replay_74 rfl (lv_at hl 1 rfl) ?_
          refine lv_aload_n hx hb dM_replay_75 rfl (lv_at hl 1 rfl) ?_
          obtain ⟨hz_34, hw⟩ := hw
          refine g_getR hC fkM_38 rfl hwo ho_21 hz_34 dM_replay_76 ?_
          refine lv_iload_n hx hb dM_replay_79 rfl (lv_at hl 2 rfl) ?_
          obtain ⟨n_35, ha_36, hw⟩ := hw
          obtain ⟨hi_37, hw⟩ := hw
          refine g_iald hC hwo ha_36 hi_37 dM_replay_80 ?_
          refine lv_iload_n hx hb dM_replay_81 rfl (lv_at hl 0 rfl) ?_
          refine g_Vv (rest := []) hC (c_M_segments l θ _ _ _ _ _ _ hw) mi_M_segments mlM_188 mv_M_segments ci_12 ho_21 hwo hS ⟨rfl, rfl⟩ ⟨by decide, by decide⟩ rfl hl.1 rfl (Nat.le_of_ble_eq_true rfl) dM_replay_82 (fun V_38 U_39 hw H locs hwo hS => ?_)
          obtain ⟨y_40, ey_40⟩ : ∃ z : Int32, z = x1_41 + (1 : Int32) := ⟨_, rfl⟩
          replace hw := hw y_40 ey_40
          refine lv_iinc (k := 2) (v := y_40) (lv' := [(1, .int y_40), (2, .int r_31), (0, .ref a0_41)]) hx hb dM_replay_85 hl rfl (by rw [ey_40]; rfl) (by decide) rfl (fun ls hl => ?_)
          refine lv_goto (tgt := 41) hx hb dM_replay_88 (by decide) ?_
          exact ih41 _ _ _ _ _ _ hw hwo hS (lv_sub hl [2, 0] rfl)
  have L7 : ∀ (a0_7 : Nat) (n7 : Nat) (x1_7 : Int32) (V : VT) (U : UT) (H : Heap) (locs : List Loc) (ls : Array Slot), wl_M_replay_7 θ a0_7 K n7 x1_7 V U → wo θ V U H → Sx θ s H locs → lv_has ls 3 [(0, .ref a0_7), (1, .int x1_7)] → W p l e rmM_replay s m args below meth c H locs 0 0 (MQ below (QV θ K) args s 0 0 (aT θ)) (F0 m 7 ls []) := by
    intro a0_7 n7
    induction n7 with
    | zero => intro x1_7 V U H locs ls hw hwo hS hl; exact (show False from hw).elim
    | succ n7 ih7 =>
      intro x1_7 V U H locs ls hw hwo hS hl
      replace hw : bl_M_replay_7 θ a0_7 K (wl_M_replay_7 θ a0_7 K n7) x1_7 V U := hw
      unfold bl_M_replay_7 at hw
      refine lv_iload_n hx hb dM_replay_7 rfl (lv_at hl 1 rfl) ?_
      refine lv_iconst (v := 3) hx hb dM_replay_8 (by decide) ?_
      refine lv_icmp_ge (tgt := 39) hx hb dM_replay_9 (by decide) (fun hc_3 => ?_) (fun hc_3 => ?_)
      · replace hw := hw.1 hc_3
        refine lv_iconst (v := 0) hx hb dM_replay_39 (by decide) ?_
        refine lv_istore_n (i := 1) (lv' := [(1, .int (0 : Int32)), (0, .ref a0_7)]) hx hb dM_replay_40 rfl hl (by decide) rfl (fun ls hl => ?_)
        obtain ⟨n, hw⟩ := hw
        exact L41 _ n _ _ _ _ _ _ hw hwo hS (lv_sub hl [1, 0] rfl)
      · replace hw := hw.2 hc_3
        refine lv_aload_n hx hb dM_replay_12 rfl (lv_at hl 0 rfl) ?_
        obtain ⟨ho_4, hw⟩ := hw
        obtain ⟨hz_5, hw⟩ := hw
        refine g_getR hC fkM_41 rfl hwo ho_4 hz_5 dM_replay_13 ?_
        refine lv_iload_n hx hb dM_replay_16 rfl (lv_at hl 1 rfl) ?_
        refine lv_iconst (v := -1) hx hb dM_replay_17 (by decide) ?_
        obtain ⟨n_6, ha_7, hw⟩ := hw
        obtain ⟨hi_8, hw⟩ := hw
        refine g_iast hC hwo hS ha_7 hi_8 dM_replay_18 (fun V_9 eV_9 H locs hwo hS => ?_)
        replace hw := hw V_9 eV_9
        refine lv_aload_n hx hb dM_replay_19 rfl (lv_at hl 0 rfl) ?_
        obtain ⟨hz_10, hw⟩ := hw
        refine g_getR hC fkM_50 rfl hwo ho_4 hz_10 dM_replay_20 ?_
        refine lv_iload_n hx hb dM_replay_23 rfl (lv_at hl 1 rfl) ?_
        refine lv_iconst (v := 0) hx hb dM_replay_24 (by decide) ?_
        obtain ⟨n_11, ha_12, hw⟩ := hw
        obtain ⟨hi_13, hw⟩ := hw
        refine g_zast hC hwo hS ha_12 hi_13 (Or.inl rfl) dM_replay_25 (fun V_14 eV_14 H locs hwo hS => ?_)
        replace hw := hw V_14 eV_14
        refine lv_aload_n hx hb dM_replay_26 rfl (lv_at hl 0 rfl) ?_
        obtain ⟨hz_15, hw⟩ := hw
        refine g_getR hC fkM_53 rfl hwo ho_4 hz_15 dM_replay_27 ?_
        refine lv_iload_n hx hb dM_replay_30 rfl (lv_at hl 1 rfl) ?_
        refine lv_iconst (v := 0) hx hb dM_replay_31 (by decide) ?_
        obtain ⟨n_16, ha_17, hw⟩ := hw
        obtain ⟨hi_18, hw⟩ := hw
        refine g_iast hC hwo hS ha_17 hi_18 dM_replay_32 (fun V_19 eV_19 H locs hwo hS => ?_)
        replace hw := hw V_19 eV_19
        obtain ⟨y_20, ey_20⟩ : ∃ z : Int32, z = x1_7 + (1 : Int32) := ⟨_, rfl⟩
        replace hw := hw y_20 ey_20
        refine lv_iinc (k := 1) (v := y_20) (lv' := [(1, .int y_20), (0, .ref a0_7)]) hx hb dM_replay_33 hl rfl (by rw [ey_20]; rfl) (by decide) rfl (fun ls hl => ?_)
        refine lv_goto (tgt := 7) hx hb dM_replay_36 (by decide) ?_
        exact ih7 _ _ _ _ _ _ hw hwo hS (lv_sub hl [1, 0] rfl)
  unfold wp_M_replay at hw
  refine lv_aload_n hx hb dM_replay_0 rfl (lv_at hl 0 rfl) ?_
  refine lv_iconst (v := 0) hx hb dM_replay_1 (by decide) ?_
  obtain ⟨ho_1, hw⟩ := hw
  refine g_putI hC fkM_176 rfl hwo hS ho_1 dM_replay_2 (fun V_2 eV_2 H locs hwo hS => ?_)
  replace hw := hw V_2 eV_2
  refine lv_iconst (v := 0) hx hb dM_replay_5 (by decide) ?_
  refine lv_istore_n (i := 1) (lv' := [(1, .int (0 : Int32)), (0, .ref a0)]) hx hb dM_replay_6 rfl hl (by decide) rfl (fun ls hl => ?_)
  obtain ⟨n, hw⟩ := hw
  exact L7 _ n _ _ _ _ _ _ hw hwo hS (lv_sub hl [1, 0] rfl)
