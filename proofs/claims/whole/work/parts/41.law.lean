def wb_L_law_265 (θ : TH) (a1_18 : Nat) (a2_18 : Nat) (x3_265 : Int32) (z0_265 : Int32) (z1_265 : Int32) (z2_265 : Nat) (z3_265 : Int32) (kb18 : Int32 → VT → UT → Prop) (K : Nat × (Nat → Int32)) (V : VT) (U : UT) : Prop := isO θ z2_265 12 ∧ wp_M_flush θ z2_265 z1_265 z0_265 V U (fun r_228 V_225 U_226 => ((z3_265 = r_228 → ∀ y_230 : Int32, y_230 = x3_265 + (4 : Int32) → kb18 y_230 V_225 U_226) ∧ (¬ z3_265 = r_228 → False)))
def wb_L_law_243 (θ : TH) (a1_18 : Nat) (a2_18 : Nat) (x3_243 : Int32) (z0_243 : Int32) (z1_243 : Int32) (z2_243 : Nat) (kb18 : Int32 → VT → UT → Prop) (K : Nat × (Nat → Int32)) (V : VT) (U : UT) : Prop := isO θ z2_243 0 ∧ wp_S_flush θ z2_243 z1_243 z0_243 V U (fun r_221 V_218 U_219 => vp_in (x3_243 + (1 : Int32)) K.1 ∧ vp_in (x3_243 + (2 : Int32)) K.1 ∧ (((K.2 (x3_243 + (2 : Int32)).toNatClampNeg) = 0 → wb_L_law_265 θ a1_18 a2_18 x3_243 (0 : Int32) (K.2 (x3_243 + (1 : Int32)).toNatClampNeg) a2_18 r_221 kb18 K V_218 U_219) ∧ (¬ (K.2 (x3_243 + (2 : Int32)).toNatClampNeg) = 0 → wb_L_law_265 θ a1_18 a2_18 x3_243 (1 : Int32) (K.2 (x3_243 + (1 : Int32)).toNatClampNeg) a2_18 r_221 kb18 K V_218 U_219)))
def bl_L_law_18 (θ : TH) (a1_18 : Nat) (a2_18 : Nat) (K : Nat × (Nat → Int32)) (kb18 : Int32 → VT → UT → Prop) (x3_18 : Int32) (V : VT) (U : UT) : Prop := ((((Int32.ofNat K.1) - (4 : Int32)) < x3_18 → True) ∧ (¬ ((Int32.ofNat K.1) - (4 : Int32)) < x3_18 → vp_in x3_18 K.1 ∧ ∀ y_3 : Int32, y_3 = ((K.2 x3_18.toNatClampNeg) &&& (31 : Int32)) → ((y_3 = (0 : Int32) → vp_in (x3_18 + (1 : Int32)) K.1 ∧ vp_in (x3_18 + (2 : Int32)) K.1 ∧ vp_in (x3_18 + (3 : Int32)) K.1 ∧ isO θ a1_18 0 ∧ wp_S_add θ a1_18 (((K.2 (x3_18 + (1 : Int32)).toNatClampNeg).toInt64 <<< ((32 : Int32).toInt64 &&& 63)) ||| ((K.2 (x3_18 + (2 : Int32)).toNatClampNeg).toInt64 &&& (4294967295 : Int64))) (K.2 (x3_18 + (3 : Int32)).toNatClampNeg) V U (fun r_11 V_8 U_9 => isO θ a2_18 12 ∧ wp_M_add θ a2_18 (((K.2 (x3_18 + (1 : Int32)).toNatClampNeg).toInt64 <<< ((32 : Int32).toInt64 &&& 63)) ||| ((K.2 (x3_18 + (2 : Int32)).toNatClampNeg).toInt64 &&& (4294967295 : Int64))) (K.2 (x3_18 + (3 : Int32)).toNatClampNeg) V_8 U_9 (fun r_15 V_12 U_13 => ((r_11 = r_15 → ∀ y_17 : Int32, y_17 = x3_18 + (4 : Int32) → kb18 y_17 V_12 U_13) ∧ (¬ r_11 = r_15 → False))))) ∧ (y_3 = (1 : Int32) → vp_in (x3_18 + (1 : Int32)) K.1 ∧ vp_in (x3_18 + (2 : Int32)) K.1 ∧ isO θ a1_18 0 ∧ wp_S_send θ a1_18 (K.2 (x3_18 + (1 : Int32)).toNatClampNeg) (K.2 (x3_18 + (2 : Int32)).toNatClampNeg) V U (fun r_23 V_20 U_21 => isO θ a2_18 12 ∧ wp_M_send θ a2_18 (K.2 (x3_18 + (1 : Int32)).toNatClampNeg) (K.2 (x3_18 + (2 : Int32)).toNatClampNeg) V_20 U_21 (fun r_27 V_24 U_25 => ((r_23 = r_27 → ∀ y_29 : Int32, y_29 = x3_18 + (4 : Int32) → kb18 y_29 V_24 U_25) ∧ (¬ r_23 = r_27 → False))))) ∧ (y_3 = (2 : Int32) → vp_in (x3_18 + (1 : Int32)) K.1 ∧ vp_in (x3_18 + (2 : Int32)) K.1 ∧ (((K.2 (x3_18 + (2 : Int32)).toNatClampNeg) = 0 → wb_L_law_243 θ a1_18 a2_18 x3_18 (0 : Int32) (K.2 (x3_18 + (1 : Int32)).toNatClampNeg) a1_18 kb18 K V U) ∧ (¬ (K.2 (x3_18 + (2 : Int32)).toNatClampNeg) = 0 → wb_L_law_243 θ a1_18 a2_18 x3_18 (1 : Int32) (K.2 (x3_18 + (1 : Int32)).toNatClampNeg) a1_18 kb18 K V U))) ∧ (y_3 = (3 : Int32) → vp_in (x3_18 + (1 : Int32)) K.1 ∧ vp_in (x3_18 + (2 : Int32)) K.1 ∧ vp_in (x3_18 + (3 : Int32)) K.1 ∧ isO θ a1_18 0 ∧ wp_S_raw θ a1_18 (((K.2 (x3_18 + (1 : Int32)).toNatClampNeg).toInt64 <<< ((32 : Int32).toInt64 &&& 63)) ||| ((K.2 (x3_18 + (2 : Int32)).toNatClampNeg).toInt64 &&& (4294967295 : Int64))) (K.2 (x3_18 + (3 : Int32)).toNatClampNeg) V U (fun r_39 V_36 U_37 => isO θ a2_18 12 ∧ wp_M_raw θ a2_18 (((K.2 (x3_18 + (1 : Int32)).toNatClampNeg).toInt64 <<< ((32 : Int32).toInt64 &&& 63)) ||| ((K.2 (x3_18 + (2 : Int32)).toNatClampNeg).toInt64 &&& (4294967295 : Int64))) (K.2 (x3_18 + (3 : Int32)).toNatClampNeg) V_36 U_37 (fun r_43 V_40 U_41 => ((r_39 = r_43 → ∀ y_45 : Int32, y_45 = x3_18 + (4 : Int32) → kb18 y_45 V_40 U_41) ∧ (¬ r_39 = r_43 → False))))) ∧ (y_3 = (4 : Int32) → vp_in (x3_18 + (1 : Int32)) K.1 ∧ vp_in (x3_18 + (2 : Int32)) K.1 ∧ isO θ a1_18 0 ∧ wp_S_alter θ a1_18 (K.2 (x3_18 + (1 : Int32)).toNatClampNeg) (K.2 (x3_18 + (2 : Int32)).toNatClampNeg) V U (fun r_51 V_48 U_49 => isO θ a2_18 12 ∧ wp_M_alter θ a2_18 (K.2 (x3_18 + (1 : Int32)).toNatClampNeg) (K.2 (x3_18 + (2 : Int32)).toNatClampNeg) V_48 U_49 (fun r_55 V_52 U_53 => ((r_51 = r_55 → ∀ y_57 : Int32, y_57 = x3_18 + (4 : Int32) → kb18 y_57 V_52 U_53) ∧ (¬ r_51 = r_55 → False))))) ∧ (y_3 = (5 : Int32) → vp_in (x3_18 + (1 : Int32)) K.1 ∧ vp_in (x3_18 + (2 : Int32)) K.1 ∧ isO θ a1_18 0 ∧ wp_S_cut θ a1_18 (K.2 (x3_18 + (1 : Int32)).toNatClampNeg) (K.2 (x3_18 + (2 : Int32)).toNatClampNeg) V U (fun r_63 V_60 U_61 => isO θ a2_18 12 ∧ wp_M_cut θ a2_18 (K.2 (x3_18 + (1 : Int32)).toNatClampNeg) (K.2 (x3_18 + (2 : Int32)).toNatClampNeg) V_60 U_61 (fun r_67 V_64 U_65 => ((r_63 = r_67 → ∀ y_69 : Int32, y_69 = x3_18 + (4 : Int32) → kb18 y_69 V_64 U_65) ∧ (¬ r_63 = r_67 → False))))) ∧ (y_3 = (6 : Int32) → vp_in (x3_18 + (1 : Int32)) K.1 ∧ isO θ a1_18 0 ∧ wp_S_wire θ a1_18 (K.2 (x3_18 + (1 : Int32)).toNatClampNeg) V U (fun r_74 V_71 U_72 => isO θ a2_18 12 ∧ wp_M_wire θ a2_18 (K.2 (x3_18 + (1 : Int32)).toNatClampNeg) V_71 U_72 (fun r_78 V_75 U_76 => ((r_74 = r_78 → ∀ y_80 : Int32, y_80 = x3_18 + (4 : Int32) → kb18 y_80 V_75 U_76) ∧ (¬ r_74 = r_78 → False))))) ∧ (y_3 = (7 : Int32) → isO θ a1_18 0 ∧ wp_S_length θ a1_18 V U (fun r_84 V_81 U_82 => isO θ a2_18 12 ∧ wp_M_length θ a2_18 V_81 U_82 (fun r_88 V_85 U_86 => ((r_84 = r_88 → ∀ y_90 : Int32, y_90 = x3_18 + (4 : Int32) → kb18 y_90 V_85 U_86) ∧ (¬ r_84 = r_88 → False))))) ∧ (y_3 = (8 : Int32) → isO θ a1_18 0 ∧ wp_S_next θ a1_18 V U (fun r_94 V_91 U_92 => isO θ a2_18 12 ∧ wp_M_next θ a2_18 V_91 U_92 (fun r_98 V_95 U_96 => ((r_94 = r_98 → ∀ y_100 : Int32, y_100 = x3_18 + (4 : Int32) → kb18 y_100 V_95 U_96) ∧ (¬ r_94 = r_98 → False))))) ∧ (y_3 = (9 : Int32) → isO θ a1_18 0 ∧ wp_S_amount θ a1_18 V U (fun r_104 V_101 U_102 => isO θ a2_18 12 ∧ wp_M_amount θ a2_18 V_101 U_102 (fun r_108 V_105 U_106 => ((r_104 = r_108 → ∀ y_110 : Int32, y_110 = x3_18 + (4 : Int32) → kb18 y_110 V_105 U_106) ∧ (¬ r_104 = r_108 → False))))) ∧ (y_3 = (10 : Int32) → isO θ a1_18 0 ∧ wp_S_serial θ a1_18 V U (fun r_114 V_111 U_112 => isO θ a2_18 12 ∧ wp_M_serial θ a2_18 V_111 U_112 (fun r_118 V_115 U_116 => ((r_114 = r_118 → ∀ y_120 : Int32, y_120 = x3_18 + (4 : Int32) → kb18 y_120 V_115 U_116) ∧ (¬ r_114 = r_118 → False))))) ∧ (y_3 = (11 : Int32) → isO θ a1_18 0 ∧ wp_S_time θ a1_18 V U (fun r_124 V_121 U_122 => isO θ a2_18 12 ∧ wp_M_time θ a2_18 V_121 U_122 (fun r_128 V_125 U_126 => ((r_124 = r_128 → ∀ y_130 : Int32, y_130 = x3_18 + (4 : Int32) → kb18 y_130 V_125 U_126) ∧ (¬ r_124 = r_128 → False))))) ∧ (y_3 = (12 : Int32) → vp_in (x3_18 + (1 : Int32)) K.1 ∧ isO θ a1_18 0 ∧ wp_S_octet θ a1_18 (K.2 (x3_18 + (1 : Int32)).toNatClampNeg) V U (fun r_135 V_132 U_133 => isO θ a2_18 12 ∧ wp_M_octet θ a2_18 (K.2 (x3_18 + (1 : Int32)).toNatClampNeg) V_132 U_133 (fun r_139 V_136 U_137 => ((r_135 = r_139 → ∀ y_141 : Int32, y_141 = x3_18 + (4 : Int32) → kb18 y_141 V_136 U_137) ∧ (¬ r_135 = r_139 → False))))) ∧ (y_3 = (13 : Int32) → isO θ a1_18 0 ∧ wp_S_pieces θ a1_18 V U (fun r_145 V_142 U_143 => isO θ a2_18 12 ∧ wp_M_pieces θ a2_18 V_142 U_143 (fun r_149 V_146 U_147 => ((r_145 = r_149 → ∀ y_151 : Int32, y_151 = x3_18 + (4 : Int32) → kb18 y_151 V_146 U_147) ∧ (¬ r_145 = r_149 → False))))) ∧ (y_3 = (14 : Int32) → isO θ a1_18 0 ∧ wp_S_take θ a1_18 V U (fun r_155 V_152 U_153 => isO θ a2_18 12 ∧ wp_M_take θ a2_18 V_152 U_153 (fun r_159 V_156 U_157 => ((r_155 = r_159 → ∀ y_161 : Int32, y_161 = x3_18 + (4 : Int32) → kb18 y_161 V_156 U_157) ∧ (¬ r_155 = r_159 → False))))) ∧ (y_3 = (15 : Int32) → vp_in (x3_18 + (1 : Int32)) K.1 ∧ vp_in (x3_18 + (2 : Int32)) K.1 ∧ isO θ a1_18 0 ∧ wp_S_entry θ a1_18 (K.2 (x3_18 + (1 : Int32)).toNatClampNeg) (K.2 (x3_18 + (2 : Int32)).toNatClampNeg) V U (fun r_167 V_164 U_165 => isO θ a2_18 12 ∧ wp_M_entry θ a2_18 (K.2 (x3_18 + (1 : Int32)).toNatClampNeg) (K.2 (x3_18 + (2 : Int32)).toNatClampNeg) V_164 U_165 (fun r_171 V_168 U_169 => ((r_167 = r_171 → ∀ y_173 : Int32, y_173 = x3_18 + (4 : Int32) → kb18 y_173 V_168 U_169) ∧ (¬ r_167 = r_171 → False))))) ∧ (y_3 = (16 : Int32) → isO θ a1_18 0 ∧ wp_S_block θ a1_18 V U (fun r_177 V_174 U_175 => isO θ a2_18 12 ∧ wp_M_block θ a2_18 V_174 U_175 (fun r_181 V_178 U_179 => ((r_177 = r_181 → ∀ y_183 : Int32, y_183 = x3_18 + (4 : Int32) → kb18 y_183 V_178 U_179) ∧ (¬ r_177 = r_181 → False))))) ∧ (y_3 = (17 : Int32) → vp_in (x3_18 + (1 : Int32)) K.1 ∧ vp_in (x3_18 + (2 : Int32)) K.1 ∧ isO θ a1_18 0 ∧ wp_S_curve θ a1_18 (K.2 (x3_18 + (1 : Int32)).toNatClampNeg) (K.2 (x3_18 + (2 : Int32)).toNatClampNeg) V U (fun r_189 V_186 U_187 => isO θ a2_18 12 ∧ wp_M_curve θ a2_18 (K.2 (x3_18 + (1 : Int32)).toNatClampNeg) (K.2 (x3_18 + (2 : Int32)).toNatClampNeg) V_186 U_187 (fun r_193 V_190 U_191 => ((r_189 = r_193 → ∀ y_195 : Int32, y_195 = x3_18 + (4 : Int32) → kb18 y_195 V_190 U_191) ∧ (¬ r_189 = r_193 → False))))) ∧ (y_3 = (18 : Int32) → vp_in (x3_18 + (1 : Int32)) K.1 ∧ vp_in (x3_18 + (2 : Int32)) K.1 ∧ isO θ a1_18 0 ∧ wp_S_value θ a1_18 (K.2 (x3_18 + (1 : Int32)).toNatClampNeg) (K.2 (x3_18 + (2 : Int32)).toNatClampNeg) V U (fun r_201 V_198 U_199 => isO θ a2_18 12 ∧ wp_M_value θ a2_18 (K.2 (x3_18 + (1 : Int32)).toNatClampNeg) (K.2 (x3_18 + (2 : Int32)).toNatClampNeg) V_198 U_199 (fun r_205 V_202 U_203 => ((r_201 = r_205 → ∀ y_207 : Int32, y_207 = x3_18 + (4 : Int32) → kb18 y_207 V_202 U_203) ∧ (¬ r_201 = r_205 → False))))) ∧ (y_3 = (19 : Int32) → isO θ a1_18 0 ∧ wp_S_samples θ a1_18 V U (fun r_211 V_208 U_209 => isO θ a2_18 12 ∧ wp_M_samples θ a2_18 V_208 U_209 (fun r_215 V_212 U_213 => ((r_211 = r_215 → ∀ y_217 : Int32, y_217 = x3_18 + (4 : Int32) → kb18 y_217 V_212 U_213) ∧ (¬ r_211 = r_215 → False))))) ∧ (¬ y_3 = (0 : Int32) → ¬ y_3 = (1 : Int32) → ¬ y_3 = (2 : Int32) → ¬ y_3 = (3 : Int32) → ¬ y_3 = (4 : Int32) → ¬ y_3 = (5 : Int32) → ¬ y_3 = (6 : Int32) → ¬ y_3 = (7 : Int32) → ¬ y_3 = (8 : Int32) → ¬ y_3 = (9 : Int32) → ¬ y_3 = (10 : Int32) → ¬ y_3 = (11 : Int32) → ¬ y_3 = (12 : Int32) → ¬ y_3 = (13 : Int32) → ¬ y_3 = (14 : Int32) → ¬ y_3 = (15 : Int32) → ¬ y_3 = (16 : Int32) → ¬ y_3 = (17 : Int32) → ¬ y_3 = (18 : Int32) → ¬ y_3 = (19 : Int32) → ∀ y_4 : Int32, y_4 = x3_18 + (4 : Int32) → kb18 y_4 V U))))
def wl_L_law_18 (θ : TH) (a1_18 : Nat) (a2_18 : Nat) (K : Nat × (Nat → Int32)) : Nat → Int32 → VT → UT → Prop
  | 0, _, _, _ => False
  | n + 1, x3_18, V, U => bl_L_law_18 θ a1_18 a2_18 K (wl_L_law_18 θ a1_18 a2_18 K n) x3_18 V U
set_option maxRecDepth 100000 in
set_option maxHeartbeats 8000000 in
theorem law_loop {p : Program} {e : Env} {s : State} {m : MethodId} {below : List Frame} {meth : Method} {c : Code} (l : Launch) (θ : TH) (b : Nat) (K : Nat × (Nat → Int32)) (hC : Cx p s m #[Value.ref b] c kL_law 4 nRL θ) (hX : va_X b K.1 K.2 s s.heap) (hbl : b < s.heap.size) (hbs : tb θ = s.heap.size) (hr : meth.sig.returnType = ret) (hlk : meth.locks = false) : ∀ (a1 a2 n : Nat) (x3 : Int32) (V : VT) (U : UT) (H : Heap) (locs : List Loc) (ls : Array Slot), wl_L_law_18 θ a1 a2 K n x3 V U → wo θ V U H → Sx θ s H locs → lv_has ls 4 [(0, .ref b), (1, .ref a1), (2, .ref a2), (3, .int x3)] → W p l e room_1 s m #[Value.ref b] below meth c H locs 166 12749 (lw_Z below #[Value.ref b] s) (F0 m 18 ls []) := by
  have hx := hC.1
  have hb := hC.2.1
  have hbA : ¬ aT θ b := by show ¬ tb θ ≤ b; omega
  have L18 : ∀ (a1_18 : Nat) (a2_18 : Nat) (n18 : Nat) (x3_18 : Int32) (V : VT) (U : UT) (H : Heap) (locs : List Loc) (ls : Array Slot), wl_L_law_18 θ a1_18 a2_18 K n18 x3_18 V U → wo θ V U H → Sx θ s H locs → lv_has ls 4 [(0, .ref b), (1, .ref a1_18), (2, .ref a2_18), (3, .int x3_18)] → W p l e room_1 s m #[Value.ref b] below meth c H locs 166 12749 (lw_Z below #[Value.ref b] s) (F0 m 18 ls []) := by
    intro a1_18 a2_18 n18
    induction n18 with
    | zero => intro x3_18 V U H locs ls hw hwo hS hl; exact (show False from hw).elim
    | succ n18 ih18 =>
      have J265 : ∀ (x3_265 : Int32) (z0_265 : Int32) (z1_265 : Int32) (z2_265 : Nat) (z3_265 : Int32) (V : VT) (U : UT) (H : Heap) (locs : List Loc) (ls : Array Slot), wb_L_law_265 θ a1_18 a2_18 x3_265 z0_265 z1_265 z2_265 z3_265 (wl_L_law_18 θ a1_18 a2_18 K n18) K V U → wo θ V U H → Sx θ s H locs → lv_has ls 4 [(0, .ref b), (1, .ref a1_18), (2, .ref a2_18), (3, .int x3_265)] → W p l e room_1 s m #[Value.ref b] below meth c H locs 166 12749 (lw_Z below #[Value.ref b] s) (F0 m 265 ls [.int z0_265, .int z1_265, .ref z2_265, .int z3_265]) := by
        intro x3_265 z0_265 z1_265 z2_265 z3_265 V U H locs ls hw hwo hS hl
        unfold wb_L_law_265 at hw
        obtain ⟨ho_227, hw⟩ := hw
        refine gl_Vi (rest := [.int z3_265]) hC (c_M_flush l θ _ _ _ _ _ _ hw) mi_M_flush mlL_29 mv_M_flush ci_12 ho_227 hwo hS ⟨rfl, rfl⟩ ⟨by decide, by decide⟩ rfl hl.1 rfl (Nat.le_of_ble_eq_true rfl) ⟨by decide, by decide⟩ dL_law_265 (fun r_228 V_225 U_226 hw H locs hwo hS => ?_)
        refine lv_icmp_eq (tgt := 664) hx hb dL_law_268 (by decide) (fun hc_229 => ?_) (fun hc_229 => ?_)
        · replace hw := hw.1 hc_229
          obtain ⟨y_230, ey_230⟩ : ∃ z : Int32, z = x3_265 + (4 : Int32) := ⟨_, rfl⟩
          replace hw := hw y_230 ey_230
          refine lv_iinc (k := 3) (v := y_230) (lv' := [(3, .int y_230), (0, .ref b), (1, .ref a1_18), (2, .ref a2_18)]) hx hb dL_law_664 hl rfl (by rw [ey_230]; rfl) (by decide) rfl (fun ls hl => ?_)
          refine lv_goto (tgt := 18) hx hb dL_law_667 (by decide) ?_
          exact ih18 _ _ _ _ _ _ hw hwo hS (lv_sub hl [1, 2, 3, 0] rfl)
        · replace hw := hw.2 hc_229
          refine lv_iconst (v := 0) hx hb dL_law_271 (by decide) ?_
          exact hw.elim
      have J243 : ∀ (x3_243 : Int32) (z0_243 : Int32) (z1_243 : Int32) (z2_243 : Nat) (V : VT) (U : UT) (H : Heap) (locs : List Loc) (ls : Array Slot), wb_L_law_243 θ a1_18 a2_18 x3_243 z0_243 z1_243 z2_243 (wl_L_law_18 θ a1_18 a2_18 K n18) K V U → wo θ V U H → Sx θ s H locs → lv_has ls 4 [(0, .ref b), (1, .ref a1_18), (2, .ref a2_18), (3, .int x3_243)] → W p l e room_1 s m #[Value.ref b] below meth c H locs 166 12749 (lw_Z below #[Value.ref b] s) (F0 m 243 ls [.int z0_243, .int z1_243, .ref z2_243]) := by
        intro x3_243 z0_243 z1_243 z2_243 V U H locs ls hw hwo hS hl
        unfold wb_L_law_243 at hw
        obtain ⟨ho_220, hw⟩ := hw
        refine gl_Vi (rest := []) hC (c_S_flush l θ _ _ _ _ _ _ hw) mi_S_flush mlL_25 mv_S_flush ci_0 ho_220 hwo hS ⟨rfl, rfl⟩ ⟨by decide, by decide⟩ rfl hl.1 rfl (Nat.le_of_ble_eq_true rfl) ⟨by decide, by decide⟩ dL_law_243 (fun r_221 V_218 U_219 hw H locs hwo hS => ?_)
        refine lv_aload_n hx hb dL_law_246 rfl (lv_at hl 2 rfl) ?_
        refine lv_aload_n hx hb dL_law_247 rfl (lv_at hl 0 rfl) ?_
        refine lv_iload_n hx hb dL_law_248 rfl (lv_at hl 3 rfl) ?_
        refine lv_iconst (v := 1) hx hb dL_law_249 (by decide) ?_
        refine lv_iadd hx hb dL_law_250 ?_
        obtain ⟨hi_222, hw⟩ := hw
        refine va_sld hx hb hX hbl hbA hS hi_222 dL_law_251 ?_
        refine lv_aload_n hx hb dL_law_252 rfl (lv_at hl 0 rfl) ?_
        refine lv_iload_n hx hb dL_law_253 rfl (lv_at hl 3 rfl) ?_
        refine lv_iconst (v := 2) hx hb dL_law_254 (by decide) ?_
        refine lv_iadd hx hb dL_law_255 ?_
        obtain ⟨hi_223, hw⟩ := hw
        refine va_sld hx hb hX hbl hbA hS hi_223 dL_law_256 ?_
        refine lv_if_eq (tgt := 264) hx hb dL_law_257 (by decide) (fun hc_224 => ?_) (fun hc_224 => ?_)
        · replace hw := hw.1 hc_224
          refine lv_iconst (v := 0) hx hb dL_law_264 (by decide) ?_
          exact J265 _ _ _ _ _ _ _ _ _ _ hw hwo hS (lv_sub hl [0, 1, 2, 3] rfl)
        · replace hw := hw.2 hc_224
          refine lv_iconst (v := 1) hx hb dL_law_260 (by decide) ?_
          refine lv_goto (tgt := 265) hx hb dL_law_261 (by decide) ?_
          exact J265 _ _ _ _ _ _ _ _ _ _ hw hwo hS (lv_sub hl [0, 1, 2, 3] rfl)
      intro x3_18 V U H locs ls hw hwo hS hl
      replace hw : bl_L_law_18 θ a1_18 a2_18 K (wl_L_law_18 θ a1_18 a2_18 K n18) x3_18 V U := hw
      unfold bl_L_law_18 at hw
      refine lv_iload_n hx hb dL_law_18 rfl (lv_at hl 3 rfl) ?_
      refine lv_aload_n hx hb dL_law_19 rfl (lv_at hl 0 rfl) ?_
      refine va_slen hx hb hX hbl hbA hS dL_law_20 ?_
      refine lv_iconst (v := 4) hx hb dL_law_21 (by decide) ?_
      refine lv_isub hx hb dL_law_22 ?_
      refine lv_icmp_gt (tgt := 670) hx hb dL_law_23 (by decide) (fun hc_1 => ?_) (fun hc_1 => ?_)
      · replace hw := hw.1 hc_1
        refine lv_iconst (v := 1) hx hb dL_law_670 (by decide) ?_
        exact law_end hC hbs hr hlk hS dL_law_671
      · replace hw := hw.2 hc_1
        refine lv_aload_n hx hb dL_law_26 rfl (lv_at hl 0 rfl) ?_
        refine lv_iload_n hx hb dL_law_27 rfl (lv_at hl 3 rfl) ?_
        obtain ⟨hi_2, hw⟩ := hw
        refine va_sld hx hb hX hbl hbA hS hi_2 dL_law_28 ?_
        refine lv_bipush (v := 31) hx hb dL_law_29 (by decide) ?_
        refine lv_iand hx hb dL_law_31 ?_
        refine lv_topi (fun y_3 ey_3 => ?_)
        replace hw := hw y_3 ey_3
        refine g_sw hC dL_law_32 rfl 664 (by decide) (fun ho => ?_) (fun j off hj hq tgt ht _ => ?_) (fun j off hj => ?_)
        · replace hw := hw.2.2.2.2.2.2.2.2.2.2.2.2.2.2.2.2.2.2.2.2 (sw_ne ho (k := 0) (by decide) (by decide)) (sw_ne ho (k := 1) (by decide) (by decide)) (sw_ne ho (k := 2) (by decide) (by decide)) (sw_ne ho (k := 3) (by decide) (by decide)) (sw_ne ho (k := 4) (by decide) (by decide)) (sw_ne ho (k := 5) (by decide) (by decide)) (sw_ne ho (k := 6) (by decide) (by decide)) (sw_ne ho (k := 7) (by decide) (by decide)) (sw_ne ho (k := 8) (by decide) (by decide)) (sw_ne ho (k := 9) (by decide) (by decide)) (sw_ne ho (k := 10) (by decide) (by decide)) (sw_ne ho (k := 11) (by decide) (by decide)) (sw_ne ho (k := 12) (by decide) (by decide)) (sw_ne ho (k := 13) (by decide) (by decide)) (sw_ne ho (k := 14) (by decide) (by decide)) (sw_ne ho (k := 15) (by decide) (by decide)) (sw_ne ho (k := 16) (by decide) (by decide)) (sw_ne ho (k := 17) (by decide) (by decide)) (sw_ne ho (k := 18) (by decide) (by decide)) (sw_ne ho (k := 19) (by decide) (by decide))
          obtain ⟨y_4, ey_4⟩ : ∃ z : Int32, z = x3_18 + (4 : Int32) := ⟨_, rfl⟩
          replace hw := hw y_4 ey_4
          refine lv_iinc (k := 3) (v := y_4) (lv' := [(3, .int y_4), (0, .ref b), (1, .ref a1_18), (2, .ref a2_18)]) hx hb dL_law_664 hl rfl (by rw [ey_4]; rfl) (by decide) rfl (fun ls hl => ?_)
          refine lv_goto (tgt := 18) hx hb dL_law_667 (by decide) ?_
          exact ih18 _ _ _ _ _ _ hw hwo hS (lv_sub hl [1, 2, 3, 0] rfl)
        · rcases j with _ | _ | _ | _ | _ | _ | _ | _ | _ | _ | _ | _ | _ | _ | _ | _ | _ | _ | _ | _ | j
          · have h9 : (96 : Int) = off := Option.some.inj hj
            subst h9
            have h9 : tgt = 128 := Int.ofNat.inj (ht.symm.trans (by decide))
            subst h9
            have hq : y_3 = (0 : Int32) := sw_eq hq (by decide)
            replace hw := hw.1 hq
            refine lv_aload_n hx hb dL_law_128 rfl (lv_at hl 1 rfl) ?_
            refine lv_aload_n hx hb dL_law_129 rfl (lv_at hl 0 rfl) ?_
            refine lv_iload_n hx hb dL_law_130 rfl (lv_at hl 3 rfl) ?_
            refine lv_iconst (v := 1) hx hb dL_law_131 (by decide) ?_
            refine lv_iadd hx hb dL_law_132 ?_
            obtain ⟨hi_5, hw⟩ := hw
            refine va_sld hx hb hX hbl hbA hS hi_5 dL_law_133 ?_
            refine lv_i2l hx hb dL_law_134 rfl ?_
            refine lv_bipush (v := 32) hx hb dL_law_135 (by decide) ?_
            refine lv_lshl hx hb dL_law_137 rfl ?_
            refine lv_aload_n hx hb dL_law_138 rfl (lv_at hl 0 rfl) ?_
            refine lv_iload_n hx hb dL_law_139 rfl (lv_at hl 3 rfl) ?_
            refine lv_iconst (v := 2) hx hb dL_law_140 (by decide) ?_
            refine lv_iadd hx hb dL_law_141 ?_
            obtain ⟨hi_6, hw⟩ := hw
            refine va_sld hx hb hX hbl hbA hS hi_6 dL_law_142 ?_
            refine lv_i2l hx hb dL_law_143 rfl ?_
            refine lv_ldc2 hx hb hC.2.2.2.1 (hC.2.2.2.2.1 _ kcL_13) dL_law_144 ?_
            refine lv_land hx hb dL_law_147 ?_
            refine lv_lor hx hb dL_law_148 ?_
            refine lv_aload_n hx hb dL_law_149 rfl (lv_at hl 0 rfl) ?_
            refine lv_iload_n hx hb dL_law_150 rfl (lv_at hl 3 rfl) ?_
            refine lv_iconst (v := 3) hx hb dL_law_151 (by decide) ?_
            refine lv_iadd hx hb dL_law_152 ?_
            obtain ⟨hi_7, hw⟩ := hw
            refine va_sld hx hb hX hbl hbA hS hi_7 dL_law_153 ?_
            obtain ⟨ho_10, hw⟩ := hw
            refine gl_Vi (rest := []) hC (c_S_add l θ _ _ _ _ _ _ hw) mi_S_add mlL_15 mv_S_add ci_0 ho_10 hwo hS ⟨rfl, rfl⟩ ⟨by decide, by decide⟩ rfl hl.1 rfl (Nat.le_of_ble_eq_true rfl) ⟨by decide, by decide⟩ dL_law_154 (fun r_11 V_8 U_9 hw H locs hwo hS => ?_)
            refine lv_aload_n hx hb dL_law_157 rfl (lv_at hl 2 rfl) ?_
            refine lv_aload_n hx hb dL_law_158 rfl (lv_at hl 0 rfl) ?_
            refine lv_iload_n hx hb dL_law_159 rfl (lv_at hl 3 rfl) ?_
            refine lv_iconst (v := 1) hx hb dL_law_160 (by decide) ?_
            refine lv_iadd hx hb dL_law_161 ?_
            refine va_sld hx hb hX hbl hbA hS hi_5 dL_law_162 ?_
            refine lv_i2l hx hb dL_law_163 rfl ?_
            refine lv_bipush (v := 32) hx hb dL_law_164 (by decide) ?_
            refine lv_lshl hx hb dL_law_166 rfl ?_
            refine lv_aload_n hx hb dL_law_167 rfl (lv_at hl 0 rfl) ?_
            refine lv_iload_n hx hb dL_law_168 rfl (lv_at hl 3 rfl) ?_
            refine lv_iconst (v := 2) hx hb dL_law_169 (by decide) ?_
            refine lv_iadd hx hb dL_law_170 ?_
            refine va_sld hx hb hX hbl hbA hS hi_6 dL_law_171 ?_
            refine lv_i2l hx hb dL_law_172 rfl ?_
            refine lv_ldc2 hx hb hC.2.2.2.1 (hC.2.2.2.2.1 _ kcL_13) dL_law_173 ?_
            refine lv_land hx hb dL_law_176 ?_
            refine lv_lor hx hb dL_law_177 ?_
            refine lv_aload_n hx hb dL_law_178 rfl (lv_at hl 0 rfl) ?_
            refine lv_iload_n hx hb dL_law_179 rfl (lv_at hl 3 rfl) ?_
            refine lv_iconst (v := 3) hx hb dL_law_180 (by decide) ?_
            refine lv_iadd hx hb dL_law_181 ?_
            refine va_sld hx hb hX hbl hbA hS hi_7 dL_law_182 ?_
            obtain ⟨ho_14, hw⟩ := hw
            refine gl_Vi (rest := [.int r_11]) hC (c_M_add l θ _ _ _ _ _ _ hw) mi_M_add mlL_19 mv_M_add ci_12 ho_14 hwo hS ⟨rfl, rfl⟩ ⟨by decide, by decide⟩ rfl hl.1 rfl (Nat.le_of_ble_eq_true rfl) ⟨by decide, by decide⟩ dL_law_183 (fun r_15 V_12 U_13 hw H locs hwo hS => ?_)
            refine lv_icmp_eq (tgt := 664) hx hb dL_law_186 (by decide) (fun hc_16 => ?_) (fun hc_16 => ?_)
            · replace hw := hw.1 hc_16
              obtain ⟨y_17, ey_17⟩ : ∃ z : Int32, z = x3_18 + (4 : Int32) := ⟨_, rfl⟩
              replace hw := hw y_17 ey_17
              refine lv_iinc (k := 3) (v := y_17) (lv' := [(3, .int y_17), (0, .ref b), (1, .ref a1_18), (2, .ref a2_18)]) hx hb dL_law_664 hl rfl (by rw [ey_17]; rfl) (by decide) rfl (fun ls hl => ?_)
              refine lv_goto (tgt := 18) hx hb dL_law_667 (by decide) ?_
              exact ih18 _ _ _ _ _ _ hw hwo hS (lv_sub hl [1, 2, 3, 0] rfl)
            · replace hw := hw.2 hc_16
              refine lv_iconst (v := 0) hx hb dL_law_189 (by decide) ?_
              exact hw.elim
          · have h9 : (159 : Int) = off := Option.some.inj hj
            subst h9
            have h9 : tgt = 191 := Int.ofNat.inj (ht.symm.trans (by decide))
            subst h9
            have hq : y_3 = (1 : Int32) := sw_eq hq (by decide)
            replace hw := hw.2.1 hq
            refine lv_aload_n hx hb dL_law_191 rfl (lv_at hl 1 rfl) ?_
            refine lv_aload_n hx hb dL_law_192 rfl (lv_at hl 0 rfl) ?_
            refine lv_iload_n hx hb dL_law_193 rfl (lv_at hl 3 rfl) ?_
            refine lv_iconst (v := 1) hx hb dL_law_194 (by decide) ?_
            refine lv_iadd hx hb dL_law_195 ?_
            obtain ⟨hi_18, hw⟩ := hw
            refine va_sld hx hb hX hbl hbA hS hi_18 dL_law_196 ?_
            refine lv_aload_n hx hb dL_law_197 rfl (lv_at hl 0 rfl) ?_
            refine lv_iload_n hx hb dL_law_198 rfl (lv_at hl 3 rfl) ?_
            refine lv_iconst (v := 2) hx hb dL_law_199 (by decide) ?_
            refine lv_iadd hx hb dL_law_200 ?_
            obtain ⟨hi_19, hw⟩ := hw
            refine va_sld hx hb hX hbl hbA hS hi_19 dL_law_201 ?_
            obtain ⟨ho_22, hw⟩ := hw
            refine gl_Vi (rest := []) hC (c_S_send l θ _ _ _ _ _ _ hw) mi_S_send mlL_20 mv_S_send ci_0 ho_22 hwo hS ⟨rfl, rfl⟩ ⟨by decide, by decide⟩ rfl hl.1 rfl (Nat.le_of_ble_eq_true rfl) ⟨by decide, by decide⟩ dL_law_202 (fun r_23 V_20 U_21 hw H locs hwo hS => ?_)
            refine lv_aload_n hx hb dL_law_205 rfl (lv_at hl 2 rfl) ?_
            refine lv_aload_n hx hb dL_law_206 rfl (lv_at hl 0 rfl) ?_
            refine lv_iload_n hx hb dL_law_207 rfl (lv_at hl 3 rfl) ?_
            refine lv_iconst (v := 1) hx hb dL_law_208 (by decide) ?_
            refine lv_iadd hx hb dL_law_209 ?_
            refine va_sld hx hb hX hbl hbA hS hi_18 dL_law_210 ?_
            refine lv_aload_n hx hb dL_law_211 rfl (lv_at hl 0 rfl) ?_
            refine lv_iload_n hx hb dL_law_212 rfl (lv_at hl 3 rfl) ?_
            refine lv_iconst (v := 2) hx hb dL_law_213 (by decide) ?_
            refine lv_iadd hx hb dL_law_214 ?_
            refine va_sld hx hb hX hbl hbA hS hi_19 dL_law_215 ?_
            obtain ⟨ho_26, hw⟩ := hw
            refine gl_Vi (rest := [.int r_23]) hC (c_M_send l θ _ _ _ _ _ _ hw) mi_M_send mlL_24 mv_M_send ci_12 ho_26 hwo hS ⟨rfl, rfl⟩ ⟨by decide, by decide⟩ rfl hl.1 rfl (Nat.le_of_ble_eq_true rfl) ⟨by decide, by decide⟩ dL_law_216 (fun r_27 V_24 U_25 hw H locs hwo hS => ?_)
            refine lv_icmp_eq (tgt := 664) hx hb dL_law_219 (by decide) (fun hc_28 => ?_) (fun hc_28 => ?_)
            · replace hw := hw.1 hc_28
              obtain ⟨y_29, ey_29⟩ : ∃ z : Int32, z = x3_18 + (4 : Int32) := ⟨_, rfl⟩
              replace hw := hw y_29 ey_29
              refine lv_iinc (k := 3) (v := y_29) (lv' := [(3, .int y_29), (0, .ref b), (1, .ref a1_18), (2, .ref a2_18)]) hx hb dL_law_664 hl rfl (by rw [ey_29]; rfl) (by decide) rfl (fun ls hl => ?_)
              refine lv_goto (tgt := 18) hx hb dL_law_667 (by decide) ?_
              exact ih18 _ _ _ _ _ _ hw hwo hS (lv_sub hl [1, 2, 3, 0] rfl)
            · replace hw := hw.2 hc_28
              refine lv_iconst (v := 0) hx hb dL_law_222 (by decide) ?_
              exact hw.elim
          · have h9 : (192 : Int) = off := Option.some.inj hj
            subst h9
            have h9 : tgt = 224 := Int.ofNat.inj (ht.symm.trans (by decide))
            subst h9
            have hq : y_3 = (2 : Int32) := sw_eq hq (by decide)
            replace hw := hw.2.2.1 hq
            refine lv_aload_n hx hb dL_law_224 rfl (lv_at hl 1 rfl) ?_
            refine lv_aload_n hx hb dL_law_225 rfl (lv_at hl 0 rfl) ?_
            refine lv_iload_n hx hb dL_law_226 rfl (lv_at hl 3 rfl) ?_
            refine lv_iconst (v := 1) hx hb dL_law_227 (by decide) ?_
            refine lv_iadd hx hb dL_law_228 ?_
            obtain ⟨hi_30, hw⟩ := hw
            refine va_sld hx hb hX hbl hbA hS hi_30 dL_law_229 ?_
            refine lv_aload_n hx hb dL_law_230 rfl (lv_at hl 0 rfl) ?_
            refine lv_iload_n hx hb dL_law_231 rfl (lv_at hl 3 rfl) ?_
            refine lv_iconst (v := 2) hx hb dL_law_232 (by decide) ?_
            refine lv_iadd hx hb dL_law_233 ?_
            obtain ⟨hi_31, hw⟩ := hw
            refine va_sld hx hb hX hbl hbA hS hi_31 dL_law_234 ?_
            refine lv_if_eq (tgt := 242) hx hb dL_law_235 (by decide) (fun hc_32 => ?_) (fun hc_32 => ?_)
            · replace hw := hw.1 hc_32
              refine lv_iconst (v := 0) hx hb dL_law_242 (by decide) ?_
              exact J243 _ _ _ _ _ _ _ _ _ hw hwo hS (lv_sub hl [0, 1, 2, 3] rfl)
            · replace hw := hw.2 hc_32
              refine lv_iconst (v := 1) hx hb dL_law_238 (by decide) ?_
              refine lv_goto (tgt := 243) hx hb dL_law_239 (by decide) ?_
              exact J243 _ _ _ _ _ _ _ _ _ hw hwo hS (lv_sub hl [0, 1, 2, 3] rfl)
          · have h9 : (241 : Int) = off := Option.some.inj hj
            subst h9
            have h9 : tgt = 273 := Int.ofNat.inj (ht.symm.trans (by decide))
            subst h9
            have hq : y_3 = (3 : Int32) := sw_eq hq (by decide)
            replace hw := hw.2.2.2.1 hq
            refine lv_aload_n hx hb dL_law_273 rfl (lv_at hl 1 rfl) ?_
            refine lv_aload_n hx hb dL_law_274 rfl (lv_at hl 0 rfl) ?_
            refine lv_iload_n hx hb dL_law_275 rfl (lv_at hl 3 rfl) ?_
            refine lv_iconst (v := 1) hx hb dL_law_276 (by decide) ?_
            refine lv_iadd hx hb dL_law_277 ?_
            obtain ⟨hi_33, hw⟩ := hw
            refine va_sld hx hb hX hbl hbA hS hi_33 dL_law_278 ?_
            refine lv_i2l hx hb dL_law_279 rfl ?_
            refine lv_bipush (v := 32) hx hb dL_law_280 (by decide) ?_
            refine lv_lshl hx hb dL_law_282 rfl ?_
            refine lv_aload_n hx hb dL_law_283 rfl (lv_at hl 0 rfl) ?_
            refine lv_iload_n hx hb dL_law_284 rfl (lv_at hl 3 rfl) ?_
            refine lv_iconst (v := 2) hx hb dL_law_285 (by decide) ?_
            refine lv_iadd hx hb dL_law_286 ?_
            obtain ⟨hi_34, hw⟩ := hw
            refine va_sld hx hb hX hbl hbA hS hi_34 dL_law_287 ?_
            refine lv_i2l hx hb dL_law_288 rfl ?_
            refine lv_ldc2 hx hb hC.2.2.2.1 (hC.2.2.2.2.1 _ kcL_13) dL_law_289 ?_
            refine lv_land hx hb dL_law_292 ?_
            refine lv_lor hx hb dL_law_293 ?_
            refine lv_aload_n hx hb dL_law_294 rfl (lv_at hl 0 rfl) ?_
            refine lv_iload_n hx hb dL_law_295 rfl (lv_at hl 3 rfl) ?_
            refine lv_iconst (v := 3) hx hb dL_law_296 (by decide) ?_
            refine lv_iadd hx hb dL_law_297 ?_
            obtain ⟨hi_35, hw⟩ := hw
            refine va_sld hx hb hX hbl hbA hS hi_35 dL_law_298 ?_
            obtain ⟨ho_38, hw⟩ := hw
            refine gl_Vi (rest := []) hC (c_S_raw l θ _ _ _ _ _ _ hw) mi_S_raw mlL_30 mv_S_raw ci_0 ho_38 hwo hS ⟨rfl, rfl⟩ ⟨by decide, by decide⟩ rfl hl.1 rfl (Nat.le_of_ble_eq_true rfl) ⟨by decide, by decide⟩ dL_law_299 (fun r_39 V_36 U_37 hw H locs hwo hS => ?_)
            refine lv_aload_n hx hb dL_law_302 rfl (lv_at hl 2 rfl) ?_
            refine lv_aload_n hx hb dL_law_303 rfl (lv_at hl 0 rfl) ?_
            refine lv_iload_n hx hb dL_law_304 rfl (lv_at hl 3 rfl) ?_
            refine lv_iconst (v := 1) hx hb dL_law_305 (by decide) ?_
            refine lv_iadd hx hb dL_law_306 ?_
            refine va_sld hx hb hX hbl hbA hS hi_33 dL_law_307 ?_
            refine lv_i2l hx hb dL_law_308 rfl ?_
            refine lv_bipush (v := 32) hx hb dL_law_309 (by decide) ?_
            refine lv_lshl hx hb dL_law_311 rfl ?_
            refine lv_aload_n hx hb dL_law_312 rfl (lv_at hl 0 rfl) ?_
            refine lv_iload_n hx hb dL_law_313 rfl (lv_at hl 3 rfl) ?_
            refine lv_iconst (v := 2) hx hb dL_law_314 (by decide) ?_
            refine lv_iadd hx hb dL_law_315 ?_
            refine va_sld hx hb hX hbl hbA hS hi_34 dL_law_316 ?_
            refine lv_i2l hx hb dL_law_317 rfl ?_
            refine lv_ldc2 hx hb hC.2.2.2.1 (hC.2.2.2.2.1 _ kcL_13) dL_law_318 ?_
            refine lv_land hx hb dL_law_321 ?_
            refine lv_lor hx hb dL_law_322 ?_
            refine lv_aload_n hx hb dL_law_323 rfl (lv_at hl 0 rfl) ?_
            refine lv_iload_n hx hb dL_law_324 rfl (lv_at hl 3 rfl) ?_
            refine lv_iconst (v := 3) hx hb dL_law_325 (by decide) ?_
            refine lv_iadd hx hb dL_law_326 ?_
            refine va_sld hx hb hX hbl hbA hS hi_35 dL_law_327 ?_
            obtain ⟨ho_42, hw⟩ := hw
            refine gl_Vi (rest := [.int r_39]) hC (c_M_raw l θ _ _ _ _ _ _ hw) mi_M_raw mlL_33 mv_M_raw ci_12 ho_42 hwo hS ⟨rfl, rfl⟩ ⟨by decide, by decide⟩ rfl hl.1 rfl (Nat.le_of_ble_eq_true rfl) ⟨by decide, by decide⟩ dL_law_328 (fun r_43 V_40 U_41 hw H locs hwo hS => ?_)
            refine lv_icmp_eq (tgt := 664) hx hb dL_law_331 (by decide) (fun hc_44 => ?_) (fun hc_44 => ?_)
            · replace hw := hw.1 hc_44
              obtain ⟨y_45, ey_45⟩ : ∃ z : Int32, z = x3_18 + (4 : Int32) := ⟨_, rfl⟩
              replace hw := hw y_45 ey_45
              refine lv_iinc (k := 3) (v := y_45) (lv' := [(3, .int y_45), (0, .ref b), (1, .ref a1_18), (2, .ref a2_18)]) hx hb dL_law_664 hl rfl (by rw [ey_45]; rfl) (by decide) rfl (fun ls hl => ?_)
              refine lv_goto (tgt := 18) hx hb dL_law_667 (by decide) ?_
              exact ih18 _ _ _ _ _ _ hw hwo hS (lv_sub hl [1, 2, 3, 0] rfl)
            · replace hw := hw.2 hc_44
              refine lv_iconst (v := 0) hx hb dL_law_334 (by decide) ?_
              exact hw.elim
          · have h9 : (304 : Int) = off := Option.some.inj hj
            subst h9
            have h9 : tgt = 336 := Int.ofNat.inj (ht.symm.trans (by decide))
            subst h9
            have hq : y_3 = (4 : Int32) := sw_eq hq (by decide)
            replace hw := hw.2.2.2.2.1 hq
            refine lv_aload_n hx hb dL_law_336 rfl (lv_at hl 1 rfl) ?_
            refine lv_aload_n hx hb dL_law_337 rfl (lv_at hl 0 rfl) ?_
            refine lv_iload_n hx hb dL_law_338 rfl (lv_at hl 3 rfl) ?_
            refine lv_iconst (v := 1) hx hb dL_law_339 (by decide) ?_
            refine lv_iadd hx hb dL_law_340 ?_
            obtain ⟨hi_46, hw⟩ := hw
            refine va_sld hx hb hX hbl hbA hS hi_46 dL_law_341 ?_
            refine lv_aload_n hx hb dL_law_342 rfl (lv_at hl 0 rfl) ?_
            refine lv_iload_n hx hb dL_law_343 rfl (lv_at hl 3 rfl) ?_
            refine lv_iconst (v := 2) hx hb dL_law_344 (by decide) ?_
            refine lv_iadd hx hb dL_law_345 ?_
            obtain ⟨hi_47, hw⟩ := hw
            refine va_sld hx hb hX hbl hbA hS hi_47 dL_law_346 ?_
            obtain ⟨ho_50, hw⟩ := hw
            refine gl_Vi (rest := []) hC (c_S_alter l θ _ _ _ _ _ _ hw) mi_S_alter mlL_34 mv_S_alter ci_0 ho_50 hwo hS ⟨rfl, rfl⟩ ⟨by decide, by decide⟩ rfl hl.1 rfl (Nat.le_of_ble_eq_true rfl) ⟨by decide, by decide⟩ dL_law_347 (fun r_51 V_48 U_49 hw H locs hwo hS => ?_)
            refine lv_aload_n hx hb dL_law_350 rfl (lv_at hl 2 rfl) ?_
            refine lv_aload_n hx hb dL_law_351 rfl (lv_at hl 0 rfl) ?_
            refine lv_iload_n hx hb dL_law_352 rfl (lv_at hl 3 rfl) ?_
            refine lv_iconst (v := 1) hx hb dL_law_353 (by decide) ?_
            refine lv_iadd hx hb dL_law_354 ?_
            refine va_sld hx hb hX hbl hbA hS hi_46 dL_law_355 ?_
            refine lv_aload_n hx hb dL_law_356 rfl (lv_at hl 0 rfl) ?_
            refine lv_iload_n hx hb dL_law_357 rfl (lv_at hl 3 rfl) ?_
            refine lv_iconst (v := 2) hx hb dL_law_358 (by decide) ?_
            refine lv_iadd hx hb dL_law_359 ?_
            refine va_sld hx hb hX hbl hbA hS hi_47 dL_law_360 ?_
            obtain ⟨ho_54, hw⟩ := hw
            refine gl_Vi (rest := [.int r_51]) hC (c_M_alter l θ _ _ _ _ _ _ hw) mi_M_alter mlL_38 mv_M_alter ci_12 ho_54 hwo hS ⟨rfl, rfl⟩ ⟨by decide, by decide⟩ rfl hl.1 rfl (Nat.le_of_ble_eq_true rfl) ⟨by decide, by decide⟩ dL_law_361 (fun r_55 V_52 U_53 hw H locs hwo hS => ?_)
            refine lv_icmp_eq (tgt := 664) hx hb dL_law_364 (by decide) (fun hc_56 => ?_) (fun hc_56 => ?_)
            · replace hw := hw.1 hc_56
              obtain ⟨y_57, ey_57⟩ : ∃ z : Int32, z = x3_18 + (4 : Int32) := ⟨_, rfl⟩
              replace hw := hw y_57 ey_57
              refine lv_iinc (k := 3) (v := y_57) (lv' := [(3, .int y_57), (0, .ref b), (1, .ref a1_18), (2, .ref a2_18)]) hx hb dL_law_664 hl rfl (by rw [ey_57]; rfl) (by decide) rfl (fun ls hl => ?_)
              refine lv_goto (tgt := 18) hx hb dL_law_667 (by decide) ?_
              exact ih18 _ _ _ _ _ _ hw hwo hS (lv_sub hl [1, 2, 3, 0] rfl)
            · replace hw := hw.2 hc_56
              refine lv_iconst (v := 0) hx hb dL_law_367 (by decide) ?_
              exact hw.elim
          · have h9 : (337 : Int) = off := Option.some.inj hj
            subst h9
            have h9 : tgt = 369 := Int.ofNat.inj (ht.symm.trans (by decide))
            subst h9
            have hq : y_3 = (5 : Int32) := sw_eq hq (by decide)
            replace hw := hw.2.2.2.2.2.1 hq
            refine lv_aload_n hx hb dL_law_369 rfl (lv_at hl 1 rfl) ?_
            refine lv_aload_n hx hb dL_law_370 rfl (lv_at hl 0 rfl) ?_
            refine lv_iload_n hx hb dL_law_371 rfl (lv_at hl 3 rfl) ?_
            refine lv_iconst (v := 1) hx hb dL_law_372 (by decide) ?_
            refine lv_iadd hx hb dL_law_373 ?_
            obtain ⟨hi_58, hw⟩ := hw
            refine va_sld hx hb hX hbl hbA hS hi_58 dL_law_374 ?_
            refine lv_aload_n hx hb dL_law_375 rfl (lv_at hl 0 rfl) ?_
            refine lv_iload_n hx hb dL_law_376 rfl (lv_at hl 3 rfl) ?_
            refine lv_iconst (v := 2) hx hb dL_law_377 (by decide) ?_
            refine lv_iadd hx hb dL_law_378 ?_
            obtain ⟨hi_59, hw⟩ := hw
            refine va_sld hx hb hX hbl hbA hS hi_59 dL_law_379 ?_
            obtain ⟨ho_62, hw⟩ := hw
            refine gl_Vi (rest := []) hC (c_S_cut l θ _ _ _ _ _ _ hw) mi_S_cut mlL_39 mv_S_cut ci_0 ho_62 hwo hS ⟨rfl, rfl⟩ ⟨by decide, by decide⟩ rfl hl.1 rfl (Nat.le_of_ble_eq_true rfl) ⟨by decide, by decide⟩ dL_law_380 (fun r_63 V_60 U_61 hw H locs hwo hS => ?_)
            refine lv_aload_n hx hb dL_law_383 rfl (lv_at hl 2 rfl) ?_
            refine lv_aload_n hx hb dL_law_384 rfl (lv_at hl 0 rfl) ?_
            refine lv_iload_n hx hb dL_law_385 rfl (lv_at hl 3 rfl) ?_
            refine lv_iconst (v := 1) hx hb dL_law_386 (by decide) ?_
            refine lv_iadd hx hb dL_law_387 ?_
            refine va_sld hx hb hX hbl hbA hS hi_58 dL_law_388 ?_
            refine lv_aload_n hx hb dL_law_389 rfl (lv_at hl 0 rfl) ?_
            refine lv_iload_n hx hb dL_law_390 rfl (lv_at hl 3 rfl) ?_
            refine lv_iconst (v := 2) hx hb dL_law_391 (by decide) ?_
            refine lv_iadd hx hb dL_law_392 ?_
            refine va_sld hx hb hX hbl hbA hS hi_59 dL_law_393 ?_
            obtain ⟨ho_66, hw⟩ := hw
            refine gl_Vi (rest := [.int r_63]) hC (c_M_cut l θ _ _ _ _ _ _ hw) mi_M_cut mlL_42 mv_M_cut ci_12 ho_66 hwo hS ⟨rfl, rfl⟩ ⟨by decide, by decide⟩ rfl hl.1 rfl (Nat.le_of_ble_eq_true rfl) ⟨by decide, by decide⟩ dL_law_394 (fun r_67 V_64 U_65 hw H locs hwo hS => ?_)
            refine lv_icmp_eq (tgt := 664) hx hb dL_law_397 (by decide) (fun hc_68 => ?_) (fun hc_68 => ?_)
            · replace hw := hw.1 hc_68
              obtain ⟨y_69, ey_69⟩ : ∃ z : Int32, z = x3_18 + (4 : Int32) := ⟨_, rfl⟩
              replace hw := hw y_69 ey_69
              refine lv_iinc (k := 3) (v := y_69) (lv' := [(3, .int y_69), (0, .ref b), (1, .ref a1_18), (2, .ref a2_18)]) hx hb dL_law_664 hl rfl (by rw [ey_69]; rfl) (by decide) rfl (fun ls hl => ?_)
              refine lv_goto (tgt := 18) hx hb dL_law_667 (by decide) ?_
              exact ih18 _ _ _ _ _ _ hw hwo hS (lv_sub hl [1, 2, 3, 0] rfl)
            · replace hw := hw.2 hc_68
              refine lv_iconst (v := 0) hx hb dL_law_400 (by decide) ?_
              exact hw.elim
          · have h9 : (370 : Int) = off := Option.some.inj hj
            subst h9
            have h9 : tgt = 402 := Int.ofNat.inj (ht.symm.trans (by decide))
            subst h9
            have hq : y_3 = (6 : Int32) := sw_eq hq (by decide)
            replace hw := hw.2.2.2.2.2.2.1 hq
            refine lv_aload_n hx hb dL_law_402 rfl (lv_at hl 1 rfl) ?_
            refine lv_aload_n hx hb dL_law_403 rfl (lv_at hl 0 rfl) ?_
            refine lv_iload_n hx hb dL_law_404 rfl (lv_at hl 3 rfl) ?_
            refine lv_iconst (v := 1) hx hb dL_law_405 (by decide) ?_
            refine lv_iadd hx hb dL_law_406 ?_
            obtain ⟨hi_70, hw⟩ := hw
            refine va_sld hx hb hX hbl hbA hS hi_70 dL_law_407 ?_
            obtain ⟨ho_73, hw⟩ := hw
            refine gl_Vi (rest := []) hC (c_S_wire l θ _ _ _ _ _ hw) mi_S_wire mlL_43 mv_S_wire ci_0 ho_73 hwo hS ⟨rfl, rfl⟩ ⟨by decide, by decide⟩ rfl hl.1 rfl (Nat.le_of_ble_eq_true rfl) ⟨by decide, by decide⟩ dL_law_408 (fun r_74 V_71 U_72 hw H locs hwo hS => ?_)
            refine lv_aload_n hx hb dL_law_411 rfl (lv_at hl 2 rfl) ?_
            refine lv_aload_n hx hb dL_law_412 rfl (lv_at hl 0 rfl) ?_
            refine lv_iload_n hx hb dL_law_413 rfl (lv_at hl 3 rfl) ?_
            refine lv_iconst (v := 1) hx hb dL_law_414 (by decide) ?_
            refine lv_iadd hx hb dL_law_415 ?_
            refine va_sld hx hb hX hbl hbA hS hi_70 dL_law_416 ?_
            obtain ⟨ho_77, hw⟩ := hw
            refine gl_Vi (rest := [.int r_74]) hC (c_M_wire l θ _ _ _ _ _ hw) mi_M_wire mlL_47 mv_M_wire ci_12 ho_77 hwo hS ⟨rfl, rfl⟩ ⟨by decide, by decide⟩ rfl hl.1 rfl (Nat.le_of_ble_eq_true rfl) ⟨by decide, by decide⟩ dL_law_417 (fun r_78 V_75 U_76 hw H locs hwo hS => ?_)
            refine lv_icmp_eq (tgt := 664) hx hb dL_law_420 (by decide) (fun hc_79 => ?_) (fun hc_79 => ?_)
            · replace hw := hw.1 hc_79
              obtain ⟨y_80, ey_80⟩ : ∃ z : Int32, z = x3_18 + (4 : Int32) := ⟨_, rfl⟩
              replace hw := hw y_80 ey_80
              refine lv_iinc (k := 3) (v := y_80) (lv' := [(3, .int y_80), (0, .ref b), (1, .ref a1_18), (2, .ref a2_18)]) hx hb dL_law_664 hl rfl (by rw [ey_80]; rfl) (by decide) rfl (fun ls hl => ?_)
              refine lv_goto (tgt := 18) hx hb dL_law_667 (by decide) ?_
              exact ih18 _ _ _ _ _ _ hw hwo hS (lv_sub hl [1, 2, 3, 0] rfl)
            · replace hw := hw.2 hc_79
              refine lv_iconst (v := 0) hx hb dL_law_423 (by decide) ?_
              exact hw.elim
          · have h9 : (393 : Int) = off := Option.some.inj hj
            subst h9
            have h9 : tgt = 425 := Int.ofNat.inj (ht.symm.trans (by decide))
            subst h9
            have hq : y_3 = (7 : Int32) := sw_eq hq (by decide)
            replace hw := hw.2.2.2.2.2.2.2.1 hq
            refine lv_aload_n hx hb dL_law_425 rfl (lv_at hl 1 rfl) ?_
            obtain ⟨ho_83, hw⟩ := hw
            refine gl_Vi (rest := []) hC (c_S_length l θ _ _ _ _ hw) mi_S_length mlL_48 mv_S_length ci_0 ho_83 hwo hS ⟨rfl, rfl⟩ ⟨by decide, by decide⟩ rfl hl.1 rfl (Nat.le_of_ble_eq_true rfl) ⟨by decide, by decide⟩ dL_law_426 (fun r_84 V_81 U_82 hw H locs hwo hS => ?_)
            refine lv_aload_n hx hb dL_law_429 rfl (lv_at hl 2 rfl) ?_
            obtain ⟨ho_87, hw⟩ := hw
            refine gl_Vi (rest := [.int r_84]) hC (c_M_length l θ _ _ _ _ hw) mi_M_length mlL_52 mv_M_length ci_12 ho_87 hwo hS ⟨rfl, rfl⟩ ⟨by decide, by decide⟩ rfl hl.1 rfl (Nat.le_of_ble_eq_true rfl) ⟨by decide, by decide⟩ dL_law_430 (fun r_88 V_85 U_86 hw H locs hwo hS => ?_)
            refine lv_icmp_eq (tgt := 664) hx hb dL_law_433 (by decide) (fun hc_89 => ?_) (fun hc_89 => ?_)
            · replace hw := hw.1 hc_89
              obtain ⟨y_90, ey_90⟩ : ∃ z : Int32, z = x3_18 + (4 : Int32) := ⟨_, rfl⟩
              replace hw := hw y_90 ey_90
              refine lv_iinc (k := 3) (v := y_90) (lv' := [(3, .int y_90), (0, .ref b), (1, .ref a1_18), (2, .ref a2_18)]) hx hb dL_law_664 hl rfl (by rw [ey_90]; rfl) (by decide) rfl (fun ls hl => ?_)
              refine lv_goto (tgt := 18) hx hb dL_law_667 (by decide) ?_
              exact ih18 _ _ _ _ _ _ hw hwo hS (lv_sub hl [1, 2, 3, 0] rfl)
            · replace hw := hw.2 hc_89
              refine lv_iconst (v := 0) hx hb dL_law_436 (by decide) ?_
              exact hw.elim
          · have h9 : (406 : Int) = off := Option.some.inj hj
            subst h9
            have h9 : tgt = 438 := Int.ofNat.inj (ht.symm.trans (by decide))
            subst h9
            have hq : y_3 = (8 : Int32) := sw_eq hq (by decide)
            replace hw := hw.2.2.2.2.2.2.2.2.1 hq
            refine lv_aload_n hx hb dL_law_438 rfl (lv_at hl 1 rfl) ?_
            obtain ⟨ho_93, hw⟩ := hw
            refine gl_Vi (rest := []) hC (c_S_next l θ _ _ _ _ hw) mi_S_next mlL_53 mv_S_next ci_0 ho_93 hwo hS ⟨rfl, rfl⟩ ⟨by decide, by decide⟩ rfl hl.1 rfl (Nat.le_of_ble_eq_true rfl) ⟨by decide, by decide⟩ dL_law_439 (fun r_94 V_91 U_92 hw H locs hwo hS => ?_)
            refine lv_aload_n hx hb dL_law_442 rfl (lv_at hl 2 rfl) ?_
            obtain ⟨ho_97, hw⟩ := hw
            refine gl_Vi (rest := [.int r_94]) hC (c_M_next l θ _ _ _ _ hw) mi_M_next mlL_56 mv_M_next ci_12 ho_97 hwo hS ⟨rfl, rfl⟩ ⟨by decide, by decide⟩ rfl hl.1 rfl (Nat.le_of_ble_eq_true rfl) ⟨by decide, by decide⟩ dL_law_443 (fun r_98 V_95 U_96 hw H locs hwo hS => ?_)
            refine lv_icmp_eq (tgt := 664) hx hb dL_law_446 (by decide) (fun hc_99 => ?_) (fun hc_99 => ?_)
            · replace hw := hw.1 hc_99
              obtain ⟨y_100, ey_100⟩ : ∃ z : Int32, z = x3_18 + (4 : Int32) := ⟨_, rfl⟩
              replace hw := hw y_100 ey_100
              refine lv_iinc (k := 3) (v := y_100) (lv' := [(3, .int y_100), (0, .ref b), (1, .ref a1_18), (2, .ref a2_18)]) hx hb dL_law_664 hl rfl (by rw [ey_100]; rfl) (by decide) rfl (fun ls hl => ?_)
              refine lv_goto (tgt := 18) hx hb dL_law_667 (by decide) ?_
              exact ih18 _ _ _ _ _ _ hw hwo hS (lv_sub hl [1, 2, 3, 0] rfl)
            · replace hw := hw.2 hc_99
              refine lv_iconst (v := 0) hx hb dL_law_449 (by decide) ?_
              exact hw.elim
          · have h9 : (419 : Int) = off := Option.some.inj hj
            subst h9
            have h9 : tgt = 451 := Int.ofNat.inj (ht.symm.trans (by decide))
            subst h9
            have hq : y_3 = (9 : Int32) := sw_eq hq (by decide)
            replace hw := hw.2.2.2.2.2.2.2.2.2.1 hq
            refine lv_aload_n hx hb dL_law_451 rfl (lv_at hl 1 rfl) ?_
            obtain ⟨ho_103, hw⟩ := hw
            refine gl_Vi (rest := []) hC (c_S_amount l θ _ _ _ _ hw) mi_S_amount mlL_57 mv_S_amount ci_0 ho_103 hwo hS ⟨rfl, rfl⟩ ⟨by decide, by decide⟩ rfl hl.1 rfl (Nat.le_of_ble_eq_true rfl) ⟨by decide, by decide⟩ dL_law_452 (fun r_104 V_101 U_102 hw H locs hwo hS => ?_)
            refine lv_aload_n hx hb dL_law_455 rfl (lv_at hl 2 rfl) ?_
            obtain ⟨ho_107, hw⟩ := hw
            refine gl_Vi (rest := [.int r_104]) hC (c_M_amount l θ _ _ _ _ hw) mi_M_amount mlL_60 mv_M_amount ci_12 ho_107 hwo hS ⟨rfl, rfl⟩ ⟨by decide, by decide⟩ rfl hl.1 rfl (Nat.le_of_ble_eq_true rfl) ⟨by decide, by decide⟩ dL_law_456 (fun r_108 V_105 U_106 hw H locs hwo hS => ?_)
            refine lv_icmp_eq (tgt := 664) hx hb dL_law_459 (by decide) (fun hc_109 => ?_) (fun hc_109 => ?_)
            · replace hw := hw.1 hc_109
              obtain ⟨y_110, ey_110⟩ : ∃ z : Int32, z = x3_18 + (4 : Int32) := ⟨_, rfl⟩
              replace hw := hw y_110 ey_110
              refine lv_iinc (k := 3) (v := y_110) (lv' := [(3, .int y_110), (0, .ref b), (1, .ref a1_18), (2, .ref a2_18)]) hx hb dL_law_664 hl rfl (by rw [ey_110]; rfl) (by decide) rfl (fun ls hl => ?_)
              refine lv_goto (tgt := 18) hx hb dL_law_667 (by decide) ?_
              exact ih18 _ _ _ _ _ _ hw hwo hS (lv_sub hl [1, 2, 3, 0] rfl)
            · replace hw := hw.2 hc_109
              refine lv_iconst (v := 0) hx hb dL_law_462 (by decide) ?_
              exact hw.elim
          · have h9 : (432 : Int) = off := Option.some.inj hj
            subst h9
            have h9 : tgt = 464 := Int.ofNat.inj (ht.symm.trans (by decide))
            subst h9
            have hq : y_3 = (10 : Int32) := sw_eq hq (by decide)
            replace hw := hw.2.2.2.2.2.2.2.2.2.2.1 hq
            refine lv_aload_n hx hb dL_law_464 rfl (lv_at hl 1 rfl) ?_
            obtain ⟨ho_113, hw⟩ := hw
            refine gl_Vi (rest := []) hC (c_S_serial l θ _ _ _ _ hw) mi_S_serial mlL_61 mv_S_serial ci_0 ho_113 hwo hS ⟨rfl, rfl⟩ ⟨by decide, by decide⟩ rfl hl.1 rfl (Nat.le_of_ble_eq_true rfl) ⟨by decide, by decide⟩ dL_law_465 (fun r_114 V_111 U_112 hw H locs hwo hS => ?_)
            refine lv_aload_n hx hb dL_law_468 rfl (lv_at hl 2 rfl) ?_
            obtain ⟨ho_117, hw⟩ := hw
            refine gl_Vi (rest := [.int r_114]) hC (c_M_serial l θ _ _ _ _ hw) mi_M_serial mlL_64 mv_M_serial ci_12 ho_117 hwo hS ⟨rfl, rfl⟩ ⟨by decide, by decide⟩ rfl hl.1 rfl (Nat.le_of_ble_eq_true rfl) ⟨by decide, by decide⟩ dL_law_469 (fun r_118 V_115 U_116 hw H locs hwo hS => ?_)
            refine lv_icmp_eq (tgt := 664) hx hb dL_law_472 (by decide) (fun hc_119 => ?_) (fun hc_119 => ?_)
            · replace hw := hw.1 hc_119
              obtain ⟨y_120, ey_120⟩ : ∃ z : Int32, z = x3_18 + (4 : Int32) := ⟨_, rfl⟩
              replace hw := hw y_120 ey_120
              refine lv_iinc (k := 3) (v := y_120) (lv' := [(3, .int y_120), (0, .ref b), (1, .ref a1_18), (2, .ref a2_18)]) hx hb dL_law_664 hl rfl (by rw [ey_120]; rfl) (by decide) rfl (fun ls hl => ?_)
              refine lv_goto (tgt := 18) hx hb dL_law_667 (by decide) ?_
              exact ih18 _ _ _ _ _ _ hw hwo hS (lv_sub hl [1, 2, 3, 0] rfl)
            · replace hw := hw.2 hc_119
              refine lv_iconst (v := 0) hx hb dL_law_475 (by decide) ?_
              exact hw.elim
          · have h9 : (445 : Int) = off := Option.some.inj hj
            subst h9
            have h9 : tgt = 477 := Int.ofNat.inj (ht.symm.trans (by decide))
            subst h9
            have hq : y_3 = (11 : Int32) := sw_eq hq (by decide)
            replace hw := hw.2.2.2.2.2.2.2.2.2.2.2.1 hq
            refine lv_aload_n hx hb dL_law_477 rfl (lv_at hl 1 rfl) ?_
            obtain ⟨ho_123, hw⟩ := hw
            refine gl_Vi (rest := []) hC (c_S_time l θ _ _ _ _ hw) mi_S_time mlL_65 mv_S_time ci_0 ho_123 hwo hS ⟨rfl, rfl⟩ ⟨by decide, by decide⟩ rfl hl.1 rfl (Nat.le_of_ble_eq_true rfl) ⟨by decide, by decide⟩ dL_law_478 (fun r_124 V_121 U_122 hw H locs hwo hS => ?_)
            refine lv_aload_n hx hb dL_law_481 rfl (lv_at hl 2 rfl) ?_
            obtain ⟨ho_127, hw⟩ := hw
            refine gl_Vi (rest := [.int r_124]) hC (c_M_time l θ _ _ _ _ hw) mi_M_time mlL_68 mv_M_time ci_12 ho_127 hwo hS ⟨rfl, rfl⟩ ⟨by decide, by decide⟩ rfl hl.1 rfl (Nat.le_of_ble_eq_true rfl) ⟨by decide, by decide⟩ dL_law_482 (fun r_128 V_125 U_126 hw H locs hwo hS => ?_)
            refine lv_icmp_eq (tgt := 664) hx hb dL_law_485 (by decide) (fun hc_129 => ?_) (fun hc_129 => ?_)
            · replace hw := hw.1 hc_129
              obtain ⟨y_130, ey_130⟩ : ∃ z : Int32, z = x3_18 + (4 : Int32) := ⟨_, rfl⟩
              replace hw := hw y_130 ey_130
              refine lv_iinc (k := 3) (v := y_130) (lv' := [(3, .int y_130), (0, .ref b), (1, .ref a1_18), (2, .ref a2_18)]) hx hb dL_law_664 hl rfl (by rw [ey_130]; rfl) (by decide) rfl (fun ls hl => ?_)
              refine lv_goto (tgt := 18) hx hb dL_law_667 (by decide) ?_
              exact ih18 _ _ _ _ _ _ hw hwo hS (lv_sub hl [1, 2, 3, 0] rfl)
            · replace hw := hw.2 hc_129
              refine lv_iconst (v := 0) hx hb dL_law_488 (by decide) ?_
              exact hw.elim
          · have h9 : (458 : Int) = off := Option.some.inj hj
            subst h9
            have h9 : tgt = 490 := Int.ofNat.inj (ht.symm.trans (by decide))
            subst h9
            have hq : y_3 = (12 : Int32) := sw_eq hq (by decide)
            replace hw := hw.2.2.2.2.2.2.2.2.2.2.2.2.1 hq
            refine lv_aload_n hx hb dL_law_490 rfl (lv_at hl 1 rfl) ?_
            refine lv_aload_n hx hb dL_law_491 rfl (lv_at hl 0 rfl) ?_
            refine lv_iload_n hx hb dL_law_492 rfl (lv_at hl 3 rfl) ?_
            refine lv_iconst (v := 1) hx hb dL_law_493 (by decide) ?_
            refine lv_iadd hx hb dL_law_494 ?_
            obtain ⟨hi_131, hw⟩ := hw
            refine va_sld hx hb hX hbl hbA hS hi_131 dL_law_495 ?_
            obtain ⟨ho_134, hw⟩ := hw
            refine gl_Vi (rest := []) hC (c_S_octet l θ _ _ _ _ _ hw) mi_S_octet mlL_69 mv_S_octet ci_0 ho_134 hwo hS ⟨rfl, rfl⟩ ⟨by decide, by decide⟩ rfl hl.1 rfl (Nat.le_of_ble_eq_true rfl) ⟨by decide, by decide⟩ dL_law_496 (fun r_135 V_132 U_133 hw H locs hwo hS => ?_)
            refine lv_aload_n hx hb dL_law_499 rfl (lv_at hl 2 rfl) ?_
            refine lv_aload_n hx hb dL_law_500 rfl (lv_at hl 0 rfl) ?_
            refine lv_iload_n hx hb dL_law_501 rfl (lv_at hl 3 rfl) ?_
            refine lv_iconst (v := 1) hx hb dL_law_502 (by decide) ?_
            refine lv_iadd hx hb dL_law_503 ?_
            refine va_sld hx hb hX hbl hbA hS hi_131 dL_law_504 ?_
            obtain ⟨ho_138, hw⟩ := hw
            refine gl_Vi (rest := [.int r_135]) hC (c_M_octet l θ _ _ _ _ _ hw) mi_M_octet mlL_72 mv_M_octet ci_12 ho_138 hwo hS ⟨rfl, rfl⟩ ⟨by decide, by decide⟩ rfl hl.1 rfl (Nat.le_of_ble_eq_true rfl) ⟨by decide, by decide⟩ dL_law_505 (fun r_139 V_136 U_137 hw H locs hwo hS => ?_)
            refine lv_icmp_eq (tgt := 664) hx hb dL_law_508 (by decide) (fun hc_140 => ?_) (fun hc_140 => ?_)
            · replace hw := hw.1 hc_140
              obtain ⟨y_141, ey_141⟩ : ∃ z : Int32, z = x3_18 + (4 : Int32) := ⟨_, rfl⟩
              replace hw := hw y_141 ey_141
              refine lv_iinc (k := 3) (v := y_141) (lv' := [(3, .int y_141), (0, .ref b), (1, .ref a1_18), (2, .ref a2_18)]) hx hb dL_law_664 hl rfl (by rw [ey_141]; rfl) (by decide) rfl (fun ls hl => ?_)
              refine lv_goto (tgt := 18) hx hb dL_law_667 (by decide) ?_
              exact ih18 _ _ _ _ _ _ hw hwo hS (lv_sub hl [1, 2, 3, 0] rfl)
            · replace hw := hw.2 hc_140
              refine lv_iconst (v := 0) hx hb dL_law_511 (by decide) ?_
              exact hw.elim
          · have h9 : (481 : Int) = off := Option.some.inj hj
            subst h9
            have h9 : tgt = 513 := Int.ofNat.inj (ht.symm.trans (by decide))
            subst h9
            have hq : y_3 = (13 : Int32) := sw_eq hq (by decide)
            replace hw := hw.2.2.2.2.2.2.2.2.2.2.2.2.2.1 hq
            refine lv_aload_n hx hb dL_law_513 rfl (lv_at hl 1 rfl) ?_
            obtain ⟨ho_144, hw⟩ := hw
            refine gl_Vi (rest := []) hC (c_S_pieces l θ _ _ _ _ hw) mi_S_pieces mlL_73 mv_S_pieces ci_0 ho_144 hwo hS ⟨rfl, rfl⟩ ⟨by decide, by decide⟩ rfl hl.1 rfl (Nat.le_of_ble_eq_true rfl) ⟨by decide, by decide⟩ dL_law_514 (fun r_145 V_142 U_143 hw H locs hwo hS => ?_)
            refine lv_aload_n hx hb dL_law_517 rfl (lv_at hl 2 rfl) ?_
            obtain ⟨ho_148, hw⟩ := hw
            refine gl_Vi (rest := [.int r_145]) hC (c_M_pieces l θ _ _ _ _ hw) mi_M_pieces mlL_76 mv_M_pieces ci_12 ho_148 hwo hS ⟨rfl, rfl⟩ ⟨by decide, by decide⟩ rfl hl.1 rfl (Nat.le_of_ble_eq_true rfl) ⟨by decide, by decide⟩ dL_law_518 (fun r_149 V_146 U_147 hw H locs hwo hS => ?_)
            refine lv_icmp_eq (tgt := 664) hx hb dL_law_521 (by decide) (fun hc_150 => ?_) (fun hc_150 => ?_)
            · replace hw := hw.1 hc_150
              obtain ⟨y_151, ey_151⟩ : ∃ z : Int32, z = x3_18 + (4 : Int32) := ⟨_, rfl⟩
              replace hw := hw y_151 ey_151
              refine lv_iinc (k := 3) (v := y_151) (lv' := [(3, .int y_151), (0, .ref b), (1, .ref a1_18), (2, .ref a2_18)]) hx hb dL_law_664 hl rfl (by rw [ey_151]; rfl) (by decide) rfl (fun ls hl => ?_)
              refine lv_goto (tgt := 18) hx hb dL_law_667 (by decide) ?_
              exact ih18 _ _ _ _ _ _ hw hwo hS (lv_sub hl [1, 2, 3, 0] rfl)
            · replace hw := hw.2 hc_150
              refine lv_iconst (v := 0) hx hb dL_law_524 (by decide) ?_
              exact hw.elim
          · have h9 : (494 : Int) = off := Option.some.inj hj
            subst h9
            have h9 : tgt = 526 := Int.ofNat.inj (ht.symm.trans (by decide))
            subst h9
            have hq : y_3 = (14 : Int32) := sw_eq hq (by decide)
            replace hw := hw.2.2.2.2.2.2.2.2.2.2.2.2.2.2.1 hq
            refine lv_aload_n hx hb dL_law_526 rfl (lv_at hl 1 rfl) ?_
            obtain ⟨ho_154, hw⟩ := hw
            refine gl_Vi (rest := []) hC (c_S_take l θ _ _ _ _ hw) mi_S_take mlL_77 mv_S_take ci_0 ho_154 hwo hS ⟨rfl, rfl⟩ ⟨by decide, by decide⟩ rfl hl.1 rfl (Nat.le_of_ble_eq_true rfl) ⟨by decide, by decide⟩ dL_law_527 (fun r_155 V_152 U_153 hw H locs hwo hS => ?_)
            refine lv_aload_n hx hb dL_law_530 rfl (lv_at hl 2 rfl) ?_
            obtain ⟨ho_158, hw⟩ := hw
            refine gl_Vi (rest := [.int r_155]) hC (c_M_take l θ _ _ _ _ hw) mi_M_take mlL_80 mv_M_take ci_12 ho_158 hwo hS ⟨rfl, rfl⟩ ⟨by decide, by decide⟩ rfl hl.1 rfl (Nat.le_of_ble_eq_true rfl) ⟨by decide, by decide⟩ dL_law_531 (fun r_159 V_156 U_157 hw H locs hwo hS => ?_)
            refine lv_icmp_eq (tgt := 664) hx hb dL_law_534 (by decide) (fun hc_160 => ?_) (fun hc_160 => ?_)
            · replace hw := hw.1 hc_160
              obtain ⟨y_161, ey_161⟩ : ∃ z : Int32, z = x3_18 + (4 : Int32) := ⟨_, rfl⟩
              replace hw := hw y_161 ey_161
              refine lv_iinc (k := 3) (v := y_161) (lv' := [(3, .int y_161), (0, .ref b), (1, .ref a1_18), (2, .ref a2_18)]) hx hb dL_law_664 hl rfl (by rw [ey_161]; rfl) (by decide) rfl (fun ls hl => ?_)
              refine lv_goto (tgt := 18) hx hb dL_law_667 (by decide) ?_
              exact ih18 _ _ _ _ _ _ hw hwo hS (lv_sub hl [1, 2, 3, 0] rfl)
            · replace hw := hw.2 hc_160
              refine lv_iconst (v := 0) hx hb dL_law_537 (by decide) ?_
              exact hw.elim
          · have h9 : (507 : Int) = off := Option.some.inj hj
            subst h9
            have h9 : tgt = 539 := Int.ofNat.inj (ht.symm.trans (by decide))
            subst h9
            have hq : y_3 = (15 : Int32) := sw_eq hq (by decide)
            replace hw := hw.2.2.2.2.2.2.2.2.2.2.2.2.2.2.2.1 hq
            refine lv_aload_n hx hb dL_law_539 rfl (lv_at hl 1 rfl) ?_
            refine lv_aload_n hx hb dL_law_540 rfl (lv_at hl 0 rfl) ?_
            refine lv_iload_n hx hb dL_law_541 rfl (lv_at hl 3 rfl) ?_
            refine lv_iconst (v := 1) hx hb dL_law_542 (by decide) ?_
            refine lv_iadd hx hb dL_law_543 ?_
            obtain ⟨hi_162, hw⟩ := hw
            refine va_sld hx hb hX hbl hbA hS hi_162 dL_law_544 ?_
            refine lv_aload_n hx hb dL_law_545 rfl (lv_at hl 0 rfl) ?_
            refine lv_iload_n hx hb dL_law_546 rfl (lv_at hl 3 rfl) ?_
            refine lv_iconst (v := 2) hx hb dL_law_547 (by decide) ?_
            refine lv_iadd hx hb dL_law_548 ?_
            obtain ⟨hi_163, hw⟩ := hw
            refine va_sld hx hb hX hbl hbA hS hi_163 dL_law_549 ?_
            obtain ⟨ho_166, hw⟩ := hw
            refine gl_Vi (rest := []) hC (c_S_entry l θ _ _ _ _ _ _ hw) mi_S_entry mlL_81 mv_S_entry ci_0 ho_166 hwo hS ⟨rfl, rfl⟩ ⟨by decide, by decide⟩ rfl hl.1 rfl (Nat.le_of_ble_eq_true rfl) ⟨by decide, by decide⟩ dL_law_550 (fun r_167 V_164 U_165 hw H locs hwo hS => ?_)
            refine lv_aload_n hx hb dL_law_553 rfl (lv_at hl 2 rfl) ?_
            refine lv_aload_n hx hb dL_law_554 rfl (lv_at hl 0 rfl) ?_
            refine lv_iload_n hx hb dL_law_555 rfl (lv_at hl 3 rfl) ?_
            refine lv_iconst (v := 1) hx hb dL_law_556 (by decide) ?_
            refine lv_iadd hx hb dL_law_557 ?_
            refine va_sld hx hb hX hbl hbA hS hi_162 dL_law_558 ?_
            refine lv_aload_n hx hb dL_law_559 rfl (lv_at hl 0 rfl) ?_
            refine lv_iload_n hx hb dL_law_560 rfl (lv_at hl 3 rfl) ?_
            refine lv_iconst (v := 2) hx hb dL_law_561 (by decide) ?_
            refine lv_iadd hx hb dL_law_562 ?_
            refine va_sld hx hb hX hbl hbA hS hi_163 dL_law_563 ?_
            obtain ⟨ho_170, hw⟩ := hw
            refine gl_Vi (rest := [.int r_167]) hC (c_M_entry l θ _ _ _ _ _ _ hw) mi_M_entry mlL_84 mv_M_entry ci_12 ho_170 hwo hS ⟨rfl, rfl⟩ ⟨by decide, by decide⟩ rfl hl.1 rfl (Nat.le_of_ble_eq_true rfl) ⟨by decide, by decide⟩ dL_law_564 (fun r_171 V_168 U_169 hw H locs hwo hS => ?_)
            refine lv_icmp_eq (tgt := 664) hx hb dL_law_567 (by decide) (fun hc_172 => ?_) (fun hc_172 => ?_)
            · replace hw := hw.1 hc_172
              obtain ⟨y_173, ey_173⟩ : ∃ z : Int32, z = x3_18 + (4 : Int32) := ⟨_, rfl⟩
              replace hw := hw y_173 ey_173
              refine lv_iinc (k := 3) (v := y_173) (lv' := [(3, .int y_173), (0, .ref b), (1, .ref a1_18), (2, .ref a2_18)]) hx hb dL_law_664 hl rfl (by rw [ey_173]; rfl) (by decide) rfl (fun ls hl => ?_)
              refine lv_goto (tgt := 18) hx hb dL_law_667 (by decide) ?_
              exact ih18 _ _ _ _ _ _ hw hwo hS (lv_sub hl [1, 2, 3, 0] rfl)
            · replace hw := hw.2 hc_172
              refine lv_iconst (v := 0) hx hb dL_law_570 (by decide) ?_
              exact hw.elim
          · have h9 : (540 : Int) = off := Option.some.inj hj
            subst h9
            have h9 : tgt = 572 := Int.ofNat.inj (ht.symm.trans (by decide))
            subst h9
            have hq : y_3 = (16 : Int32) := sw_eq hq (by decide)
            replace hw := hw.2.2.2.2.2.2.2.2.2.2.2.2.2.2.2.2.1 hq
            refine lv_aload_n hx hb dL_law_572 rfl (lv_at hl 1 rfl) ?_
            obtain ⟨ho_176, hw⟩ := hw
            refine gl_Vi (rest := []) hC (c_S_block l θ _ _ _ _ hw) mi_S_block mlL_85 mv_S_block ci_0 ho_176 hwo hS ⟨rfl, rfl⟩ ⟨by decide, by decide⟩ rfl hl.1 rfl (Nat.le_of_ble_eq_true rfl) ⟨by decide, by decide⟩ dL_law_573 (fun r_177 V_174 U_175 hw H locs hwo hS => ?_)
            refine lv_aload_n hx hb dL_law_576 rfl (lv_at hl 2 rfl) ?_
            obtain ⟨ho_180, hw⟩ := hw
            refine gl_Vi (rest := [.int r_177]) hC (c_M_block l θ _ _ _ _ hw) mi_M_block mlL_88 mv_M_block ci_12 ho_180 hwo hS ⟨rfl, rfl⟩ ⟨by decide, by decide⟩ rfl hl.1 rfl (Nat.le_of_ble_eq_true rfl) ⟨by decide, by decide⟩ dL_law_577 (fun r_181 V_178 U_179 hw H locs hwo hS => ?_)
            refine lv_icmp_eq (tgt := 664) hx hb dL_law_580 (by decide) (fun hc_182 => ?_) (fun hc_182 => ?_)
            · replace hw := hw.1 hc_182
              obtain ⟨y_183, ey_183⟩ : ∃ z : Int32, z = x3_18 + (4 : Int32) := ⟨_, rfl⟩
              replace hw := hw y_183 ey_183
              refine lv_iinc (k := 3) (v := y_183) (lv' := [(3, .int y_183), (0, .ref b), (1, .ref a1_18), (2, .ref a2_18)]) hx hb dL_law_664 hl rfl (by rw [ey_183]; rfl) (by decide) rfl (fun ls hl => ?_)
              refine lv_goto (tgt := 18) hx hb dL_law_667 (by decide) ?_
              exact ih18 _ _ _ _ _ _ hw hwo hS (lv_sub hl [1, 2, 3, 0] rfl)
            · replace hw := hw.2 hc_182
              refine lv_iconst (v := 0) hx hb dL_law_583 (by decide) ?_
              exact hw.elim
          · have h9 : (553 : Int) = off := Option.some.inj hj
            subst h9
            have h9 : tgt = 585 := Int.ofNat.inj (ht.symm.trans (by decide))
            subst h9
            have hq : y_3 = (17 : Int32) := sw_eq hq (by decide)
            replace hw := hw.2.2.2.2.2.2.2.2.2.2.2.2.2.2.2.2.2.1 hq
            refine lv_aload_n hx hb dL_law_585 rfl (lv_at hl 1 rfl) ?_
            refine lv_aload_n hx hb dL_law_586 rfl (lv_at hl 0 rfl) ?_
            refine lv_iload_n hx hb dL_law_587 rfl (lv_at hl 3 rfl) ?_
            refine lv_iconst (v := 1) hx hb dL_law_588 (by decide) ?_
            refine lv_iadd hx hb dL_law_589 ?_
            obtain ⟨hi_184, hw⟩ := hw
            refine va_sld hx hb hX hbl hbA hS hi_184 dL_law_590 ?_
            refine lv_aload_n hx hb dL_law_591 rfl (lv_at hl 0 rfl) ?_
            refine lv_iload_n hx hb dL_law_592 rfl (lv_at hl 3 rfl) ?_
            refine lv_iconst (v := 2) hx hb dL_law_593 (by decide) ?_
            refine lv_iadd hx hb dL_law_594 ?_
            obtain ⟨hi_185, hw⟩ := hw
            refine va_sld hx hb hX hbl hbA hS hi_185 dL_law_595 ?_
            obtain ⟨ho_188, hw⟩ := hw
            refine gl_Vi (rest := []) hC (c_S_curve l θ _ _ _ _ _ _ hw) mi_S_curve mlL_89 mv_S_curve ci_0 ho_188 hwo hS ⟨rfl, rfl⟩ ⟨by decide, by decide⟩ rfl hl.1 rfl (Nat.le_of_ble_eq_true rfl) ⟨by decide, by decide⟩ dL_law_596 (fun r_189 V_186 U_187 hw H locs hwo hS => ?_)
            refine lv_aload_n hx hb dL_law_599 rfl (lv_at hl 2 rfl) ?_
            refine lv_aload_n hx hb dL_law_600 rfl (lv_at hl 0 rfl) ?_
            refine lv_iload_n hx hb dL_law_601 rfl (lv_at hl 3 rfl) ?_
            refine lv_iconst (v := 1) hx hb dL_law_602 (by decide) ?_
            refine lv_iadd hx hb dL_law_603 ?_
            refine va_sld hx hb hX hbl hbA hS hi_184 dL_law_604 ?_
            refine lv_aload_n hx hb dL_law_605 rfl (lv_at hl 0 rfl) ?_
            refine lv_iload_n hx hb dL_law_606 rfl (lv_at hl 3 rfl) ?_
            refine lv_iconst (v := 2) hx hb dL_law_607 (by decide) ?_
            refine lv_iadd hx hb dL_law_608 ?_
            refine va_sld hx hb hX hbl hbA hS hi_185 dL_law_609 ?_
            obtain ⟨ho_192, hw⟩ := hw
            refine gl_Vi (rest := [.int r_189]) hC (c_M_curve l θ _ _ _ _ _ _ hw) mi_M_curve mlL_92 mv_M_curve ci_12 ho_192 hwo hS ⟨rfl, rfl⟩ ⟨by decide, by decide⟩ rfl hl.1 rfl (Nat.le_of_ble_eq_true rfl) ⟨by decide, by decide⟩ dL_law_610 (fun r_193 V_190 U_191 hw H locs hwo hS => ?_)
            refine lv_icmp_eq (tgt := 664) hx hb dL_law_613 (by decide) (fun hc_194 => ?_) (fun hc_194 => ?_)
            · replace hw := hw.1 hc_194
              obtain ⟨y_195, ey_195⟩ : ∃ z : Int32, z = x3_18 + (4 : Int32) := ⟨_, rfl⟩
              replace hw := hw y_195 ey_195
              refine lv_iinc (k := 3) (v := y_195) (lv' := [(3, .int y_195), (0, .ref b), (1, .ref a1_18), (2, .ref a2_18)]) hx hb dL_law_664 hl rfl (by rw [ey_195]; rfl) (by decide) rfl (fun ls hl => ?_)
              refine lv_goto (tgt := 18) hx hb dL_law_667 (by decide) ?_
              exact ih18 _ _ _ _ _ _ hw hwo hS (lv_sub hl [1, 2, 3, 0] rfl)
            · replace hw := hw.2 hc_194
              refine lv_iconst (v := 0) hx hb dL_law_616 (by decide) ?_
              exact hw.elim
          · have h9 : (586 : Int) = off := Option.some.inj hj
            subst h9
            have h9 : tgt = 618 := Int.ofNat.inj (ht.symm.trans (by decide))
            subst h9
            have hq : y_3 = (18 : Int32) := sw_eq hq (by decide)
            replace hw := hw.2.2.2.2.2.2.2.2.2.2.2.2.2.2.2.2.2.2.1 hq
            refine lv_aload_n hx hb dL_law_618 rfl (lv_at hl 1 rfl) ?_
            refine lv_aload_n hx hb dL_law_619 rfl (lv_at hl 0 rfl) ?_
            refine lv_iload_n hx hb dL_law_620 rfl (lv_at hl 3 rfl) ?_
            refine lv_iconst (v := 1) hx hb dL_law_621 (by decide) ?_
            refine lv_iadd hx hb dL_law_622 ?_
            obtain ⟨hi_196, hw⟩ := hw
            refine va_sld hx hb hX hbl hbA hS hi_196 dL_law_623 ?_
            refine lv_aload_n hx hb dL_law_624 rfl (lv_at hl 0 rfl) ?_
            refine lv_iload_n hx hb dL_law_625 rfl (lv_at hl 3 rfl) ?_
            refine lv_iconst (v := 2) hx hb dL_law_626 (by decide) ?_
            refine lv_iadd hx hb dL_law_627 ?_
            obtain ⟨hi_197, hw⟩ := hw
            refine va_sld hx hb hX hbl hbA hS hi_197 dL_law_628 ?_
            obtain ⟨ho_200, hw⟩ := hw
            refine gl_Vi (rest := []) hC (c_S_value l θ _ _ _ _ _ _ hw) mi_S_value mlL_93 mv_S_value ci_0 ho_200 hwo hS ⟨rfl, rfl⟩ ⟨by decide, by decide⟩ rfl hl.1 rfl (Nat.le_of_ble_eq_true rfl) ⟨by decide, by decide⟩ dL_law_629 (fun r_201 V_198 U_199 hw H locs hwo hS => ?_)
            refine lv_aload_n hx hb dL_law_632 rfl (lv_at hl 2 rfl) ?_
            refine lv_aload_n hx hb dL_law_633 rfl (lv_at hl 0 rfl) ?_
            refine lv_iload_n hx hb dL_law_634 rfl (lv_at hl 3 rfl) ?_
            refine lv_iconst (v := 1) hx hb dL_law_635 (by decide) ?_
            refine lv_iadd hx hb dL_law_636 ?_
            refine va_sld hx hb hX hbl hbA hS hi_196 dL_law_637 ?_
            refine lv_aload_n hx hb dL_law_638 rfl (lv_at hl 0 rfl) ?_
            refine lv_iload_n hx hb dL_law_639 rfl (lv_at hl 3 rfl) ?_
            refine lv_iconst (v := 2) hx hb dL_law_640 (by decide) ?_
            refine lv_iadd hx hb dL_law_641 ?_
            refine va_sld hx hb hX hbl hbA hS hi_197 dL_law_642 ?_
            obtain ⟨ho_204, hw⟩ := hw
            refine gl_Vi (rest := [.int r_201]) hC (c_M_value l θ _ _ _ _ _ _ hw) mi_M_value mlL_96 mv_M_value ci_12 ho_204 hwo hS ⟨rfl, rfl⟩ ⟨by decide, by decide⟩ rfl hl.1 rfl (Nat.le_of_ble_eq_true rfl) ⟨by decide, by decide⟩ dL_law_643 (fun r_205 V_202 U_203 hw H locs hwo hS => ?_)
            refine lv_icmp_eq (tgt := 664) hx hb dL_law_646 (by decide) (fun hc_206 => ?_) (fun hc_206 => ?_)
            · replace hw := hw.1 hc_206
              obtain ⟨y_207, ey_207⟩ : ∃ z : Int32, z = x3_18 + (4 : Int32) := ⟨_, rfl⟩
              replace hw := hw y_207 ey_207
              refine lv_iinc (k := 3) (v := y_207) (lv' := [(3, .int y_207), (0, .ref b), (1, .ref a1_18), (2, .ref a2_18)]) hx hb dL_law_664 hl rfl (by rw [ey_207]; rfl) (by decide) rfl (fun ls hl => ?_)
              refine lv_goto (tgt := 18) hx hb dL_law_667 (by decide) ?_
              exact ih18 _ _ _ _ _ _ hw hwo hS (lv_sub hl [1, 2, 3, 0] rfl)
            · replace hw := hw.2 hc_206
              refine lv_iconst (v := 0) hx hb dL_law_649 (by decide) ?_
              exact hw.elim
          · have h9 : (619 : Int) = off := Option.some.inj hj
            subst h9
            have h9 : tgt = 651 := Int.ofNat.inj (ht.symm.trans (by decide))
            subst h9
            have hq : y_3 = (19 : Int32) := sw_eq hq (by decide)
            replace hw := hw.2.2.2.2.2.2.2.2.2.2.2.2.2.2.2.2.2.2.2.1 hq
            refine lv_aload_n hx hb dL_law_651 rfl (lv_at hl 1 rfl) ?_
            obtain ⟨ho_210, hw⟩ := hw
            refine gl_Vi (rest := []) hC (c_S_samples l θ _ _ _ _ hw) mi_S_samples mlL_97 mv_S_samples ci_0 ho_210 hwo hS ⟨rfl, rfl⟩ ⟨by decide, by decide⟩ rfl hl.1 rfl (Nat.le_of_ble_eq_true rfl) ⟨by decide, by decide⟩ dL_law_652 (fun r_211 V_208 U_209 hw H locs hwo hS => ?_)
            refine lv_aload_n hx hb dL_law_655 rfl (lv_at hl 2 rfl) ?_
            obtain ⟨ho_214, hw⟩ := hw
            refine gl_Vi (rest := [.int r_211]) hC (c_M_samples l θ _ _ _ _ hw) mi_M_samples mlL_100 mv_M_samples ci_12 ho_214 hwo hS ⟨rfl, rfl⟩ ⟨by decide, by decide⟩ rfl hl.1 rfl (Nat.le_of_ble_eq_true rfl) ⟨by decide, by decide⟩ dL_law_656 (fun r_215 V_212 U_213 hw H locs hwo hS => ?_)
            refine lv_icmp_eq (tgt := 664) hx hb dL_law_659 (by decide) (fun hc_216 => ?_) (fun hc_216 => ?_)
            · replace hw := hw.1 hc_216
              obtain ⟨y_217, ey_217⟩ : ∃ z : Int32, z = x3_18 + (4 : Int32) := ⟨_, rfl⟩
              replace hw := hw y_217 ey_217
              refine lv_iinc (k := 3) (v := y_217) (lv' := [(3, .int y_217), (0, .ref b), (1, .ref a1_18), (2, .ref a2_18)]) hx hb dL_law_664 hl rfl (by rw [ey_217]; rfl) (by decide) rfl (fun ls hl => ?_)
              refine lv_goto (tgt := 18) hx hb dL_law_667 (by decide) ?_
              exact ih18 _ _ _ _ _ _ hw hwo hS (lv_sub hl [1, 2, 3, 0] rfl)
            · replace hw := hw.2 hc_216
              refine lv_iconst (v := 0) hx hb dL_law_662 (by decide) ?_
              exact hw.elim
          · simp at hj
        · rcases j with _ | _ | _ | _ | _ | _ | _ | _ | _ | _ | _ | _ | _ | _ | _ | _ | _ | _ | _ | _ | j
          all_goals first | (cases hj; decide) | simp at hj
  exact L18
