theorem dP_suits_0 : decode kP_suits 0 = .ok (.aload_n 1, 1) := by decide +kernel
theorem dP_suits_1 : decode kP_suits 1 = .ok (.getfield 63, 3) := by decide +kernel
theorem dP_suits_4 : decode kP_suits 4 = .ok (.ifCond .eq 19, 3) := by decide +kernel
theorem dP_suits_7 : decode kP_suits 7 = .ok (.aload_n 0, 1) := by decide +kernel
theorem dP_suits_8 : decode kP_suits 8 = .ok (.getfield 15, 3) := by decide +kernel
theorem dP_suits_11 : decode kP_suits 11 = .ok (.aload_n 1, 1) := by decide +kernel
theorem dP_suits_12 : decode kP_suits 12 = .ok (.getfield 68, 3) := by decide +kernel
theorem dP_suits_15 : decode kP_suits 15 = .ok (.irem, 1) := by decide +kernel
theorem dP_suits_16 : decode kP_suits 16 = .ok (.ifCond .ne 7, 3) := by decide +kernel
theorem dP_suits_19 : decode kP_suits 19 = .ok (.iconst 1, 1) := by decide +kernel
theorem dP_suits_20 : decode kP_suits 20 = .ok (.goto 4, 3) := by decide +kernel
theorem dP_suits_23 : decode kP_suits 23 = .ok (.iconst 0, 1) := by decide +kernel
theorem dP_suits_24 : decode kP_suits 24 = .ok (.ireturn, 1) := by decide +kernel
def wb_P_suits_23 (θ : TH) (K : Int32 → VT → UT → Prop) (V : VT) (U : UT) : Prop := K (0 : Int32) V U
def wp_P_suits (θ : TH) (a0 : Nat) (a1 : Nat) (V : VT) (U : UT) (K : Int32 → VT → UT → Prop) : Prop := isO θ a1 8 ∧ (((V a1 5) = 0 → wb_P_suits_23 θ K V U) ∧ (¬ (V a1 5) = 0 → isO θ a0 10 ∧ ¬ (V a1 1) = 0 ∧ ((¬ ((V a0 4) - (V a0 4) / (V a1 1) * (V a1 1)) = 0 → wb_P_suits_23 θ K V U) ∧ (((V a0 4) - (V a0 4) / (V a1 1) * (V a1 1)) = 0 → K (1 : Int32) V U))))
set_option maxRecDepth 100000 in
set_option maxHeartbeats 4000000 in
theorem c_P_suits (l : Launch) (θ : TH) (a0 : Nat) (a1 : Nat) (V : VT) (U : UT) (K : Int32 → VT → UT → Prop) (hw : wp_P_suits θ a0 a1 V U K) : CMi l yP_suits kP_suits 2 (some .boolean) rmP_suits θ [.ref a0, .ref a1] V U K := by
  refine g_met nRP (by decide +kernel) rfl (Nat.le_of_ble_eq_true rfl) (fun p e s m args below meth c ls hC hr hlk hwo hl => ?_)
  have hx := hC.1
  have hb := hC.2.1
  have hS : Sx θ s s.heap [] := va_S.rf
  have hl : lv_has ls 2 [(0, .ref a0), (1, .ref a1)] := hl
  have J23 : ∀ (V : VT) (U : UT) (H : Heap) (locs : List Loc) (ls : Array Slot), wb_P_suits_23 θ K V U → wo θ V U H → Sx θ s H locs → lv_has ls 2 [] → W p l e rmP_suits s m args below meth c H locs 0 0 (MQ below (QI θ K) args s 0 0 (aT θ)) (F0 m 23 ls []) := by
    intro V U H locs ls hw hwo hS hl
    unfold wb_P_suits_23 at hw
    refine lv_iconst (v := 0) hx hb dP_suits_23 (by decide) ?_
    exact g_zret hC hr hlk (Or.inl rfl) hw hwo hS dP_suits_24
  unfold wp_P_suits at hw
  refine lv_aload_n hx hb dP_suits_0 rfl (lv_at hl 1 rfl) ?_
  obtain ⟨ho_1, hw⟩ := hw
  refine g_getI hC fkP_63 rfl hwo ho_1 dP_suits_1 ?_
  refine lv_if_eq (tgt := 23) hx hb dP_suits_4 (by decide) (fun hc_2 => ?_) (fun hc_2 => ?_)
  · replace hw := hw.1 hc_2
    exact J23 _ _ _ _ _ hw hwo hS (lv_sub hl [] rfl)
  · replace hw := hw.2 hc_2
    refine lv_aload_n hx hb dP_suits_7 rfl (lv_at hl 0 rfl) ?_
    obtain ⟨ho_3, hw⟩ := hw
    refine g_getI hC fkP_15 rfl hwo ho_3 dP_suits_8 ?_
    refine lv_aload_n hx hb dP_suits_11 rfl (lv_at hl 1 rfl) ?_
    refine g_getI hC fkP_68 rfl hwo ho_1 dP_suits_12 ?_
    obtain ⟨hd_4, hw⟩ := hw
    refine lv_irem hx hb dP_suits_15 hd_4 ?_
    refine lv_if_ne (tgt := 23) hx hb dP_suits_16 (by decide) (fun hc_5 => ?_) (fun hc_5 => ?_)
    · replace hw := hw.1 hc_5
      exact J23 _ _ _ _ _ hw hwo hS (lv_sub hl [] rfl)
    · replace hw := hw.2 hc_5
      refine lv_iconst (v := 1) hx hb dP_suits_19 (by decide) ?_
      refine lv_goto (tgt := 24) hx hb dP_suits_20 (by decide) ?_
      exact g_zret hC hr hlk (Or.inr rfl) hw hwo hS dP_suits_24
theorem dP_load_0 : decode kP_load 0 = .ok (.aload_n 0, 1) := by decide +kernel
theorem dP_load_1 : decode kP_load 1 = .ok (.iload 4, 2) := by decide +kernel
theorem dP_load_3 : decode kP_load 3 = .ok (.putfield 9, 3) := by decide +kernel
theorem dP_load_6 : decode kP_load 6 = .ok (.aload_n 0, 1) := by decide +kernel
theorem dP_load_7 : decode kP_load 7 = .ok (.aload_n 1, 1) := by decide +kernel
theorem dP_load_8 : decode kP_load 8 = .ok (.iconst 2, 1) := by decide +kernel
theorem dP_load_9 : decode kP_load 9 = .ok (.invokevirtual 33, 3) := by decide +kernel
theorem dP_load_12 : decode kP_load 12 = .ok (.putfield 39, 3) := by decide +kernel
theorem dP_load_15 : decode kP_load 15 = .ok (.aload_n 0, 1) := by decide +kernel
theorem dP_load_16 : decode kP_load 16 = .ok (.aload_n 1, 1) := by decide +kernel
theorem dP_load_17 : decode kP_load 17 = .ok (.iconst 5, 1) := by decide +kernel
theorem dP_load_18 : decode kP_load 18 = .ok (.invokevirtual 33, 3) := by decide +kernel
theorem dP_load_21 : decode kP_load 21 = .ok (.putfield 42, 3) := by decide +kernel
theorem dP_load_24 : decode kP_load 24 = .ok (.aload_n 0, 1) := by decide +kernel
theorem dP_load_25 : decode kP_load 25 = .ok (.aload_n 1, 1) := by decide +kernel
theorem dP_load_26 : decode kP_load 26 = .ok (.bipush 6, 2) := by decide +kernel
theorem dP_load_28 : decode kP_load 28 = .ok (.invokevirtual 33, 3) := by decide +kernel
theorem dP_load_31 : decode kP_load 31 = .ok (.putfield 45, 3) := by decide +kernel
theorem dP_load_34 : decode kP_load 34 = .ok (.aload_n 0, 1) := by decide +kernel
theorem dP_load_35 : decode kP_load 35 = .ok (.aload_n 1, 1) := by decide +kernel
theorem dP_load_36 : decode kP_load 36 = .ok (.iconst 3, 1) := by decide +kernel
theorem dP_load_37 : decode kP_load 37 = .ok (.invokevirtual 33, 3) := by decide +kernel
theorem dP_load_40 : decode kP_load 40 = .ok (.iconst 1, 1) := by decide +kernel
theorem dP_load_41 : decode kP_load 41 = .ok (.iadd, 1) := by decide +kernel
theorem dP_load_42 : decode kP_load 42 = .ok (.putfield 15, 3) := by decide +kernel
theorem dP_load_45 : decode kP_load 45 = .ok (.aload_n 0, 1) := by decide +kernel
theorem dP_load_46 : decode kP_load 46 = .ok (.aload_n 1, 1) := by decide +kernel
theorem dP_load_47 : decode kP_load 47 = .ok (.iconst 1, 1) := by decide +kernel
theorem dP_load_48 : decode kP_load 48 = .ok (.invokevirtual 33, 3) := by decide +kernel
theorem dP_load_51 : decode kP_load 51 = .ok (.iconst 1, 1) := by decide +kernel
theorem dP_load_52 : decode kP_load 52 = .ok (.iadd, 1) := by decide +kernel
theorem dP_load_53 : decode kP_load 53 = .ok (.putfield 18, 3) := by decide +kernel
theorem dP_load_56 : decode kP_load 56 = .ok (.aload_n 0, 1) := by decide +kernel
theorem dP_load_57 : decode kP_load 57 = .ok (.aload_n 1, 1) := by decide +kernel
theorem dP_load_58 : decode kP_load 58 = .ok (.iconst 2, 1) := by decide +kernel
theorem dP_load_59 : decode kP_load 59 = .ok (.invokevirtual 33, 3) := by decide +kernel
theorem dP_load_62 : decode kP_load 62 = .ok (.putfield 48, 3) := by decide +kernel
theorem dP_load_65 : decode kP_load 65 = .ok (.aload_n 0, 1) := by decide +kernel
theorem dP_load_66 : decode kP_load 66 = .ok (.getfield 39, 3) := by decide +kernel
theorem dP_load_69 : decode kP_load 69 = .ok (.iconst 3, 1) := by decide +kernel
theorem dP_load_70 : decode kP_load 70 = .ok (.if_icmp .eq 22, 3) := by decide +kernel
theorem dP_load_73 : decode kP_load 73 = .ok (.aload_n 0, 1) := by decide +kernel
theorem dP_load_74 : decode kP_load 74 = .ok (.getfield 45, 3) := by decide +kernel
theorem dP_load_77 : decode kP_load 77 = .ok (.aload_n 0, 1) := by decide +kernel
theorem dP_load_78 : decode kP_load 78 = .ok (.getfield 42, 3) := by decide +kernel
theorem dP_load_81 : decode kP_load 81 = .ok (.if_icmp .lt 11, 3) := by decide +kernel
theorem dP_load_84 : decode kP_load 84 = .ok (.aload_n 0, 1) := by decide +kernel
theorem dP_load_85 : decode kP_load 85 = .ok (.getfield 48, 3) := by decide +kernel
theorem dP_load_88 : decode kP_load 88 = .ok (.iload_n 3, 1) := by decide +kernel
theorem dP_load_89 : decode kP_load 89 = .ok (.if_icmp .lt 5, 3) := by decide +kernel
theorem dP_load_92 : decode kP_load 92 = .ok (.iconst 0, 1) := by decide +kernel
theorem dP_load_93 : decode kP_load 93 = .ok (.ireturn, 1) := by decide +kernel
theorem dP_load_94 : decode kP_load 94 = .ok (.aload_n 1, 1) := by decide +kernel
theorem dP_load_95 : decode kP_load 95 = .ok (.iconst 2, 1) := by decide +kernel
theorem dP_load_96 : decode kP_load 96 = .ok (.aload_n 0, 1) := by decide +kernel
theorem dP_load_97 : decode kP_load 97 = .ok (.getfield 18, 3) := by decide +kernel
theorem dP_load_100 : decode kP_load 100 = .ok (.imul, 1) := by decide +kernel
theorem dP_load_101 : decode kP_load 101 = .ok (.invokevirtual 33, 3) := by decide +kernel
theorem dP_load_104 : decode kP_load 104 = .ok (.istore 5, 2) := by decide +kernel
theorem dP_load_106 : decode kP_load 106 = .ok (.iconst 0, 1) := by decide +kernel
theorem dP_load_107 : decode kP_load 107 = .ok (.istore 6, 2) := by decide +kernel
theorem dP_load_109 : decode kP_load 109 = .ok (.iload 6, 2) := by decide +kernel
theorem dP_load_111 : decode kP_load 111 = .ok (.iconst 2, 1) := by decide +kernel
theorem dP_load_112 : decode kP_load 112 = .ok (.aload_n 0, 1) := by decide +kernel
theorem dP_load_113 : decode kP_load 113 = .ok (.getfield 18, 3) := by decide +kernel
theorem dP_load_116 : decode kP_load 116 = .ok (.imul, 1) := by decide +kernel
theorem dP_load_117 : decode kP_load 117 = .ok (.if_icmp .ge 65, 3) := by decide +kernel
theorem dP_load_120 : decode kP_load 120 = .ok (.iload 5, 2) := by decide +kernel
theorem dP_load_122 : decode kP_load 122 = .ok (.iload 6, 2) := by decide +kernel
theorem dP_load_124 : decode kP_load 124 = .ok (.ishr, 1) := by decide +kernel
theorem dP_load_125 : decode kP_load 125 = .ok (.iconst 1, 1) := by decide +kernel
theorem dP_load_126 : decode kP_load 126 = .ok (.iand, 1) := by decide +kernel
theorem dP_load_127 : decode kP_load 127 = .ok (.iconst 1, 1) := by decide +kernel
theorem dP_load_128 : decode kP_load 128 = .ok (.if_icmp .ne 11, 3) := by decide +kernel
theorem dP_load_131 : decode kP_load 131 = .ok (.aload_n 1, 1) := by decide +kernel
theorem dP_load_132 : decode kP_load 132 = .ok (.iconst 2, 1) := by decide +kernel
theorem dP_load_133 : decode kP_load 133 = .ok (.invokevirtual 33, 3) := by decide +kernel
theorem dP_load_136 : decode kP_load 136 = .ok (.goto 4, 3) := by decide +kernel
theorem dP_load_139 : decode kP_load 139 = .ok (.iconst (-1), 1) := by decide +kernel
theorem dP_load_140 : decode kP_load 140 = .ok (.istore 7, 2) := by decide +kernel
theorem dP_load_142 : decode kP_load 142 = .ok (.iload 7, 2) := by decide +kernel
theorem dP_load_144 : decode kP_load 144 = .ok (.iload_n 3, 1) := by decide +kernel
theorem dP_load_145 : decode kP_load 145 = .ok (.if_icmp .ge 20, 3) := by decide +kernel
theorem dP_load_148 : decode kP_load 148 = .ok (.iload 7, 2) := by decide +kernel
theorem dP_load_150 : decode kP_load 150 = .ok (.iconst (-1), 1) := by decide +kernel
theorem dP_load_151 : decode kP_load 151 = .ok (.if_icmp .eq 16, 3) := by decide +kernel
theorem dP_load_154 : decode kP_load 154 = .ok (.aload_n 0, 1) := by decide +kernel
theorem dP_load_155 : decode kP_load 155 = .ok (.aload_n 2, 1) := by decide +kernel
theorem dP_load_156 : decode kP_load 156 = .ok (.iload 7, 2) := by decide +kernel
theorem dP_load_158 : decode kP_load 158 = .ok (.aaload, 1) := by decide +kernel
theorem dP_load_159 : decode kP_load 159 = .ok (.invokevirtual 51, 3) := by decide +kernel
theorem dP_load_162 : decode kP_load 162 = .ok (.ifCond .ne 5, 3) := by decide +kernel
theorem dP_load_165 : decode kP_load 165 = .ok (.iconst 0, 1) := by decide +kernel
theorem dP_load_166 : decode kP_load 166 = .ok (.ireturn, 1) := by decide +kernel
theorem dP_load_167 : decode kP_load 167 = .ok (.aload_n 0, 1) := by decide +kernel
theorem dP_load_168 : decode kP_load 168 = .ok (.getfield 21, 3) := by decide +kernel
theorem dP_load_171 : decode kP_load 171 = .ok (.iload 6, 2) := by decide +kernel
theorem dP_load_173 : decode kP_load 173 = .ok (.iload 7, 2) := by decide +kernel
theorem dP_load_175 : decode kP_load 175 = .ok (.iastore, 1) := by decide +kernel
theorem dP_load_176 : decode kP_load 176 = .ok (.iinc 6 1, 3) := by decide +kernel
theorem dP_load_179 : decode kP_load 179 = .ok (.goto (-70), 3) := by decide +kernel
theorem dP_load_182 : decode kP_load 182 = .ok (.aload_n 0, 1) := by decide +kernel
theorem dP_load_183 : decode kP_load 183 = .ok (.aload_n 1, 1) := by decide +kernel
theorem dP_load_184 : decode kP_load 184 = .ok (.invokevirtual 55, 3) := by decide +kernel
theorem dP_load_187 : decode kP_load 187 = .ok (.putfield 59, 3) := by decide +kernel
theorem dP_load_190 : decode kP_load 190 = .ok (.aload_n 0, 1) := by decide +kernel
theorem dP_load_191 : decode kP_load 191 = .ok (.getfield 59, 3) := by decide +kernel
theorem dP_load_194 : decode kP_load 194 = .ok (.ifCond .eq 11, 3) := by decide +kernel
theorem dP_load_197 : decode kP_load 197 = .ok (.aload_n 0, 1) := by decide +kernel
theorem dP_load_198 : decode kP_load 198 = .ok (.getfield 9, 3) := by decide +kernel
theorem dP_load_201 : decode kP_load 201 = .ok (.iconst 2, 1) := by decide +kernel
theorem dP_load_202 : decode kP_load 202 = .ok (.if_icmp .ne 7, 3) := by decide +kernel
theorem dP_load_205 : decode kP_load 205 = .ok (.iconst 1, 1) := by decide +kernel
theorem dP_load_206 : decode kP_load 206 = .ok (.goto 4, 3) := by decide +kernel
theorem dP_load_209 : decode kP_load 209 = .ok (.iconst 0, 1) := by decide +kernel
theorem dP_load_210 : decode kP_load 210 = .ok (.ireturn, 1) := by decide +kernel
def wb_P_load_205 (θ : TH) (K : Int32 → VT → UT → Prop) (V : VT) (U : UT) : Prop := K (1 : Int32) V U
def wb_P_load_167 (θ : TH) (a0_109 : Nat) (a1_109 : Nat) (a2_109 : Nat) (x3_109 : Int32) (x5_109 : Int32) (x6_167 : Int32) (x7_167 : Int32) (kb109 : Int32 → VT → UT → Prop) (K : Int32 → VT → UT → Prop) (V : VT) (U : UT) : Prop := isO θ a0_109 10 ∧ (U a0_109 7) ≠ 0 ∧ ∃ n_62, isA θ (U a0_109 7) 0 n_62 ∧ vp_in x6_167 n_62 ∧ ∀ V_65 : VT, V_65 = up2 V (U a0_109 7) x6_167.toNatClampNeg x7_167 → ∀ y_66 : Int32, y_66 = x6_167 + (1 : Int32) → kb109 y_66 V_65 U
def wb_P_load_140 (θ : TH) (a0_109 : Nat) (a1_109 : Nat) (a2_109 : Nat) (x3_109 : Int32) (x5_109 : Int32) (x6_140 : Int32) (z0_140 : Int32) (kb109 : Int32 → VT → UT → Prop) (K : Int32 → VT → UT → Prop) (V : VT) (U : UT) : Prop := ((x3_109 ≤ z0_140 → K (0 : Int32) V U) ∧ (¬ x3_109 ≤ z0_140 → ((z0_140 = (-1 : Int32) → wb_P_load_167 θ a0_109 a1_109 a2_109 x3_109 x5_109 x6_140 z0_140 kb109 K V U) ∧ (¬ z0_140 = (-1 : Int32) → ∃ n_51, isR θ a2_109 5 n_51 ∧ vp_in z0_140 n_51 ∧ (U a2_109 z0_140.toNatClampNeg) ≠ 0 ∧ isO θ a0_109 10 ∧ wp_P_suits θ a0_109 (U a2_109 z0_140.toNatClampNeg) V U (fun r_58 V_55 U_56 => ((¬ r_58 = 0 → wb_P_load_167 θ a0_109 a1_109 a2_109 x3_109 x5_109 x6_140 z0_140 kb109 K V_55 U_56) ∧ (r_58 = 0 → K (0 : Int32) V_55 U_56)))))))
def bl_P_load_109 (θ : TH) (a0_109 : Nat) (a1_109 : Nat) (a2_109 : Nat) (x3_109 : Int32) (x5_109 : Int32) (K : Int32 → VT → UT → Prop) (kb109 : Int32 → VT → UT → Prop) (x6_109 : Int32) (V : VT) (U : UT) : Prop := isO θ a0_109 10 ∧ ((((2 : Int32) * (V a0_109 5)) ≤ x6_109 → isO θ a1_109 7 ∧ wp_H_readFlag θ a1_109 V U (fun r_39 V_36 U_37 => isZ r_39 ∧ ∀ V_41 : VT, V_41 = up2 V_36 a0_109 8 r_39 → (((V_41 a0_109 8) = 0 → wb_P_load_205 θ K V_41 U_37) ∧ (¬ (V_41 a0_109 8) = 0 → ((¬ (V_41 a0_109 0) = (2 : Int32) → K (0 : Int32) V_41 U_37) ∧ ((V_41 a0_109 0) = (2 : Int32) → wb_P_load_205 θ K V_41 U_37)))))) ∧ (¬ ((2 : Int32) * (V a0_109 5)) ≤ x6_109 → ((¬ ((x5_109 >>> (x6_109 &&& 31)) &&& (1 : Int32)) = (1 : Int32) → wb_P_load_140 θ a0_109 a1_109 a2_109 x3_109 x5_109 x6_109 (-1 : Int32) kb109 K V U) ∧ (((x5_109 >>> (x6_109 &&& 31)) &&& (1 : Int32)) = (1 : Int32) → isO θ a1_109 7 ∧ wp_H_read θ a1_109 (2 : Int32) V U (fun r_48 V_45 U_46 => wb_P_load_140 θ a0_109 a1_109 a2_109 x3_109 x5_109 x6_109 r_48 kb109 K V_45 U_46)))))
def wl_P_load_109 (θ : TH) (a0_109 : Nat) (a1_109 : Nat) (a2_109 : Nat) (x3_109 : Int32) (x5_109 : Int32) (K : Int32 → VT → UT → Prop) : Nat → Int32 → VT → UT → Prop
  | 0, _, _, _ => False
  | n + 1, x6_109, V, U => bl_P_load_109 θ a0_109 a1_109 a2_109 x3_109 x5_109 K (wl_P_load_109 θ a0_109 a1_109 a2_109 x3_109 x5_109 K n) x6_109 V U
def wp_P_load (θ : TH) (a0 : Nat) (a1 : Nat) (a2 : Nat) (x3 : Int32) (x4 : Int32) (V : VT) (U : UT) (K : Int32 → VT → UT → Prop) : Prop := isO θ a0 10 ∧ ∀ V_2 : VT, V_2 = up2 V a0 0 x4 → isO θ a1 7 ∧ wp_H_read θ a1 (2 : Int32) V_2 U (fun r_6 V_3 U_4 => ∀ V_7 : VT, V_7 = up2 V_3 a0 1 r_6 → wp_H_read θ a1 (5 : Int32) V_7 U_4 (fun r_10 V_8 U_9 => ∀ V_11 : VT, V_11 = up2 V_8 a0 2 r_10 → wp_H_read θ a1 (6 : Int32) V_11 U_9 (fun r_14 V_12 U_13 => ∀ V_15 : VT, V_15 = up2 V_12 a0 3 r_14 → wp_H_read θ a1 (3 : Int32) V_15 U_13 (fun r_18 V_16 U_17 => ∀ V_19 : VT, V_19 = up2 V_16 a0 4 (r_18 + (1 : Int32)) → wp_H_read θ a1 (1 : Int32) V_19 U_17 (fun r_22 V_20 U_21 => ∀ V_23 : VT, V_23 = up2 V_20 a0 5 (r_22 + (1 : Int32)) → wp_H_read θ a1 (2 : Int32) V_23 U_21 (fun r_26 V_24 U_25 => ∀ V_27 : VT, V_27 = up2 V_24 a0 6 r_26 → (((V_27 a0 1) = (3 : Int32) → K (0 : Int32) V_27 U_25) ∧ (¬ (V_27 a0 1) = (3 : Int32) → (((V_27 a0 3) < (V_27 a0 2) → K (0 : Int32) V_27 U_25) ∧ (¬ (V_27 a0 3) < (V_27 a0 2) → (((V_27 a0 6) < x3 → wp_H_read θ a1 ((2 : Int32) * (V_27 a0 5)) V_27 U_25 (fun r_33 V_31 U_32 => ∃ n, wl_P_load_109 θ a0 a1 a2 x3 r_33 K n (0 : Int32) V_31 U_32)) ∧ (¬ (V_27 a0 6) < x3 → K (0 : Int32) V_27 U_25))))))))))))
set_option maxRecDepth 100000 in
set_option maxHeartbeats 4000000 in
theorem c_P_load (l : Launch) (θ : TH) (a0 : Nat) (a1 : Nat) (a2 : Nat) (x3 : Int32) (x4 : Int32) (V : VT) (U : UT) (K : Int32 → VT → UT → Prop) (hw : wp_P_load θ a0 a1 a2 x3 x4 V U K) : CMi l yP_load kP_load 8 (some .boolean) rmP_load θ [.ref a0, .ref a1, .ref a2, .int x3, .int x4] V U K := by
  refine g_met nRP (by decide +kernel) rfl (Nat.le_of_ble_eq_true rfl) (fun p e s m args below meth c ls hC hr hlk hwo hl => ?_)
  have hx := hC.1
  have hb := hC.2.1
  have hS : Sx θ s s.heap [] := va_S.rf
  have hl : lv_has ls 8 [(0, .ref a0), (1, .ref a1), (2, .ref a2), (3, .int x3), (4, .int x4)] := hl
  have J205 : ∀ (V : VT) (U : UT) (H : Heap) (locs : List Loc) (ls : Array Slot), wb_P_load_205 θ K V U → wo θ V U H → Sx θ s H locs → lv_has ls 8 [] → W p l e rmP_load s m args below meth c H locs 0 0 (MQ below (QI θ K) args s 0 0 (aT θ)) (F0 m 205 ls []) := by
    intro V U H locs ls hw hwo hS hl
    unfold wb_P_load_205 at hw
    refine lv_iconst (v := 1) hx hb dP_load_205 (by decide) ?_
    refine lv_goto (tgt := 210) hx hb dP_load_206 (by decide) ?_
    exact g_zret hC hr hlk (Or.inr rfl) hw hwo hS dP_load_210
  have L109 : ∀ (a0_109 : Nat) (a1_109 : Nat) (a2_109 : Nat) (x3_109 : Int32) (x5_109 : Int32) (n109 : Nat) (x6_109 : Int32) (V : VT) (U : UT) (H : Heap) (locs : List Loc) (ls : Array Slot), wl_P_load_109 θ a0_109 a1_109 a2_109 x3_109 x5_109 K n109 x6_109 V U → wo θ V U H → Sx θ s H locs → lv_has ls 8 [(0, .ref a0_109), (1, .ref a1_109), (2, .ref a2_109), (3, .int x3_109), (5, .int x5_109), (6, .int x6_109)] → W p l e rmP_load s m args below meth c H locs 0 0 (MQ below (QI θ K) args s 0 0 (aT θ)) (F0 m 109 ls []) := by
    intro a0_109 a1_109 a2_109 x3_109 x5_109 n109
    induction n109 with
    | zero => intro x6_109 V U H locs ls hw hwo hS hl; exact (show False from hw).elim
    | succ n109 ih109 =>
      have J167 : ∀ (x6_167 : Int32) (x7_167 : Int32) (V : VT) (U : UT) (H : Heap) (locs : List Loc) (ls : Array Slot), wb_P_load_167 θ a0_109 a1_109 a2_109 x3_109 x5_109 x6_167 x7_167 (wl_P_load_109 θ a0_109 a1_109 a2_109 x3_109 x5_109 K n109) K V U → wo θ V U H → Sx θ s H locs → lv_has ls 8 [(0, .ref a0_109), (1, .ref a1_109), (2, .ref a2_109), (3, .int x3_109), (5, .int x5_109), (6, .int x6_167), (7, .int x7_167)] → W p l e rmP_load s m args below meth c H locs 0 0 (MQ below (QI θ K) args s 0 0 (aT θ)) (F0 m 167 ls []) := by
        intro x6_167 x7_167 V U H locs ls hw hwo hS hl
        unfold wb_P_load_167 at hw
        refine lv_aload_n hx hb dP_load_167 rfl (lv_at hl 0 rfl) ?_
        obtain ⟨ho_60, hw⟩ := hw
        obtain ⟨hz_61, hw⟩ := hw
        refine g_getR hC fkP_21 rfl hwo ho_60 hz_61 dP_load_168 ?_
        refine lv_iload hx hb dP_load_171 (lv_at hl 5 rfl) ?_
        refine lv_iload hx hb dP_load_173 (lv_at hl 6 rfl) ?_
        obtain ⟨n_62, ha_63, hw⟩ := hw
        obtain ⟨hi_64, hw⟩ := hw
        refine g_iast hC hwo hS ha_63 hi_64 dP_load_175 (fun V_65 eV_65 H locs hwo hS => ?_)
        replace hw := hw V_65 eV_65
        obtain ⟨y_66, ey_66⟩ : ∃ z : Int32, z = x6_167 + (1 : Int32) := ⟨_, rfl⟩
        replace hw := hw y_66 ey_66
        refine lv_iinc (k := 5) (v := y_66) (lv' := [(6, .int y_66), (0, .ref a0_109), (1, .ref a1_109), (2, .ref a2_109), (3, .int x3_109), (5, .int x5_109), (7, .int x7_167)]) hx hb dP_load_176 hl rfl (by rw [ey_66]; rfl) (by decide) rfl (fun ls hl => ?_)
        refine lv_goto (tgt := 109) hx hb dP_load_179 (by decide) ?_
        exact ih109 _ _ _ _ _ _ hw hwo hS (lv_sub hl [1, 2, 3, 4, 5, 0] rfl)
      have J140 : ∀ (x6_140 : Int32) (z0_140 : Int32) (V : VT) (U : UT) (H : Heap) (locs : List Loc) (ls : Array Slot), wb_P_load_140 θ a0_109 a1_109 a2_109 x3_109 x5_109 x6_140 z0_140 (wl_P_load_109 θ a0_109 a1_109 a2_109 x3_109 x5_109 K n109) K V U → wo θ V U H → Sx θ s H locs → lv_has ls 8 [(0, .ref a0_109), (1, .ref a1_109), (2, .ref a2_109), (3, .int x3_109), (5, .int x5_109), (6, .int x6_140)] → W p l e rmP_load s m args below meth c H locs 0 0 (MQ below (QI θ K) args s 0 0 (aT θ)) (F0 m 140 ls [.int z0_140]) := by
        intro x6_140 z0_140 V U H locs ls hw hwo hS hl
        unfold wb_P_load_140 at hw
        refine lv_istore (i := 7) (lv' := [(7, .int z0_140), (0, .ref a0_109), (1, .ref a1_109), (2, .ref a2_109), (3, .int x3_109), (5, .int x5_109), (6, .int x6_140)]) hx hb dP_load_140 hl (by decide) rfl (fun ls hl => ?_)
        refine lv_iload hx hb dP_load_142 (lv_at hl 0 rfl) ?_
        refine lv_iload_n hx hb dP_load_144 rfl (lv_at hl 4 rfl) ?_
        refine lv_icmp_ge (tgt := 165) hx hb dP_load_145 (by decide) (fun hc_49 => ?_) (fun hc_49 => ?_)
        · replace hw := hw.1 hc_49
          refine lv_iconst (v := 0) hx hb dP_load_165 (by decide) ?_
          exact g_zret hC hr hlk (Or.inl rfl) hw hwo hS dP_load_166
        · replace hw := hw.2 hc_49
          refine lv_iload hx hb dP_load_148 (lv_at hl 0 rfl) ?_
          refine lv_iconst (v := -1) hx hb dP_load_150 (by decide) ?_
          refine lv_icmp_eq (tgt := 167) hx hb dP_load_151 (by decide) (fun hc_50 => ?_) (fun hc_50 => ?_)
          · replace hw := hw.1 hc_50
            exact J167 _ _ _ _ _ _ _ hw hwo hS (lv_sub hl [1, 2, 3, 4, 5, 6, 0] rfl)
          · replace hw := hw.2 hc_50
            refine lv_aload_n hx hb dP_load_154 rfl (lv_at hl 1 rfl) ?_
            refine lv_aload_n hx hb dP_load_155 rfl (lv_at hl 3 rfl) ?_
            refine lv_iload hx hb dP_load_156 (lv_at hl 0 rfl) ?_
            obtain ⟨n_51, ha_52, hw⟩ := hw
            obtain ⟨hi_53, hw⟩ := hw
            obtain ⟨hz_54, hw⟩ := hw
            refine g_aald hC hwo (t := 5) (by decide) rfl ha_52 hi_53 hz_54 dP_load_158 ?_
            obtain ⟨ho_57, hw⟩ := hw
            refine g_Vi (rest := []) hC (c_P_suits l θ _ _ _ _ _ hw) mi_P_suits mlP_51 mv_P_suits ci_10 ho_57 hwo hS ⟨rfl, rfl⟩ ⟨by decide, by decide⟩ rfl hl.1 rfl (Nat.le_of_ble_eq_true rfl) dP_load_159 (fun r_58 V_55 U_56 hw H locs hwo hS => ?_)
            refine lv_if_ne (tgt := 167) hx hb dP_load_162 (by decide) (fun hc_59 => ?_) (fun hc_59 => ?_)
            · replace hw := hw.1 hc_59
              exact J167 _ _ _ _ _ _ _ hw hwo hS (lv_sub hl [1, 2, 3, 4, 5, 6, 0] rfl)
            · replace hw := hw.2 hc_59
              refine lv_iconst (v := 0) hx hb dP_load_165 (by decide) ?_
              exact g_zret hC hr hlk (Or.inl rfl) hw hwo hS dP_load_166
      intro x6_109 V U H locs ls hw hwo hS hl
      replace hw : bl_P_load_109 θ a0_109 a1_109 a2_109 x3_109 x5_109 K (wl_P_load_109 θ a0_109 a1_109 a2_109 x3_109 x5_109 K n109) x6_109 V U := hw
      unfold bl_P_load_109 at hw
      refine lv_iload hx hb dP_load_109 (lv_at hl 5 rfl) ?_
      refine lv_iconst (v := 2) hx hb dP_load_111 (by decide) ?_
      refine lv_aload_n hx hb dP_load_112 rfl (lv_at hl 0 rfl) ?_
      obtain ⟨ho_34, hw⟩ := hw
      refine g_getI hC fkP_18 rfl hwo ho_34 dP_load_113 ?_
      refine lv_imul hx hb dP_load_116 ?_
      refine lv_icmp_ge (tgt := 182) hx hb dP_load_117 (by decide) (fun hc_35 => ?_) (fun hc_35 => ?_)
      · replace hw := hw.1 hc_35
        refine lv_aload_n hx hb dP_load_182 rfl (lv_at hl 0 rfl) ?_
        refine lv_aload_n hx hb dP_load_183 rfl (lv_at hl 1 rfl) ?_
        obtain ⟨ho_38, hw⟩ := hw
        refine g_Vi (rest := [.ref a0_109]) hC (c_H_readFlag l θ _ _ _ _ hw) mi_H_readFlag mlP_55 mv_H_readFlag ci_7 ho_38 hwo hS ⟨rfl, rfl⟩ ⟨by decide, by decide⟩ rfl hl.1 rfl (Nat.le_of_ble_eq_true rfl) dP_load_184 (fun r_39 V_36 U_37 hw H locs hwo hS => ?_)
        obtain ⟨hb_40, hw⟩ := hw
        refine g_putZ hC fkP_59 rfl hwo hS ho_34 hb_40 dP_load_187 (fun V_41 eV_41 H locs hwo hS => ?_)
        replace hw := hw V_41 eV_41
        refine lv_aload_n hx hb dP_load_190 rfl (lv_at hl 0 rfl) ?_
        refine g_getI hC fkP_59 rfl hwo ho_34 dP_load_191 ?_
        refine lv_if_eq (tgt := 205) hx hb dP_load_194 (by decide) (fun hc_42 => ?_) (fun hc_42 => ?_)
        · replace hw := hw.1 hc_42
          exact J205 _ _ _ _ _ hw hwo hS (lv_sub hl [] rfl)
        · replace hw := hw.2 hc_42
          refine lv_aload_n hx hb dP_load_197 rfl (lv_at hl 0 rfl) ?_
          refine g_getI hC fkP_9 rfl hwo ho_34 dP_load_198 ?_
          refine lv_iconst (v := 2) hx hb dP_load_201 (by decide) ?_
          refine lv_icmp_ne (tgt := 209) hx hb dP_load_202 (by decide) (fun hc_43 => ?_) (fun hc_43 => ?_)
          · replace hw := hw.1 hc_43
            refine lv_iconst (v := 0) hx hb dP_load_209 (by decide) ?_
            exact g_zret hC hr hlk (Or.inl rfl) hw hwo hS dP_load_210
          · replace hw := hw.2 hc_43
            exact J205 _ _ _ _ _ hw hwo hS (lv_sub hl [] rfl)
      · replace hw := hw.2 hc_35
        refine lv_iload hx hb dP_load_120 (lv_at hl 4 rfl) ?_
        refine lv_iload hx hb dP_load_122 (lv_at hl 5 rfl) ?_
        refine lv_ishr hx hb dP_load_124 ?_
        refine lv_iconst (v := 1) hx hb dP_load_125 (by decide) ?_
        refine lv_iand hx hb dP_load_126 ?_
        refine lv_iconst (v := 1) hx hb dP_load_127 (by decide) ?_
        refine lv_icmp_ne (tgt := 139) hx hb dP_load_128 (by decide) (fun hc_44 => ?_) (fun hc_44 => ?_)
        · replace hw := hw.1 hc_44
          refine lv_iconst (v := -1) hx hb dP_load_139 (by decide) ?_
          exact J140 _ _ _ _ _ _ _ hw hwo hS (lv_sub hl [0, 1, 2, 3, 4, 5] rfl)
        · replace hw := hw.2 hc_44
          refine lv_aload_n hx hb dP_load_131 rfl (lv_at hl 1 rfl) ?_
          refine lv_iconst (v := 2) hx hb dP_load_132 (by decide) ?_
          obtain ⟨ho_47, hw⟩ := hw
          refine g_Vi (rest := []) hC (c_H_read l θ _ _ _ _ _ hw) mi_H_read mlP_33 mv_H_read ci_7 ho_47 hwo hS ⟨rfl, rfl⟩ ⟨by decide, by decide⟩ rfl hl.1 rfl (Nat.le_of_ble_eq_true rfl) dP_load_133 (fun r_48 V_45 U_46 hw H locs hwo hS => ?_)
          refine lv_goto (tgt := 140) hx hb dP_load_136 (by decide) ?_
          exact J140 _ _ _ _ _ _ _ hw hwo hS (lv_sub hl [0, 1, 2, 3, 4, 5] rfl)
  unfold wp_P_load at hw
  refine lv_aload_n hx hb dP_load_0 rfl (lv_at hl 0 rfl) ?_
  refine lv_iload hx hb dP_load_1 (lv_at hl 4 rfl) ?_
  obtain ⟨ho_1, hw⟩ := hw
  refine g_putI hC fkP_9 rfl hwo hS ho_1 dP_load_3 (fun V_2 eV_2 H locs hwo hS => ?_)
  replace hw := hw V_2 eV_2
  refine lv_aload_n hx hb dP_load_6 rfl (lv_at hl 0 rfl) ?_
  refine lv_aload_n hx hb dP_load_7 rfl (lv_at hl 1 rfl) ?_
  refine lv_iconst (v := 2) hx hb dP_load_8 (by decide) ?_
  obtain ⟨ho_5, hw⟩ := hw
  refine g_Vi (rest := [.ref a0]) hC (c_H_read l θ _ _ _ _ _ hw) mi_H_read mlP_33 mv_H_read ci_7 ho_5 hwo hS ⟨rfl, rfl⟩ ⟨by decide, by decide⟩ rfl hl.1 rfl (Nat.le_of_ble_eq_true rfl) dP_load_9 (fun r_6 V_3 U_4 hw H locs hwo hS => ?_)
  refine g_putI hC fkP_39 rfl hwo hS ho_1 dP_load_12 (fun V_7 eV_7 H locs hwo hS => ?_)
  replace hw := hw V_7 eV_7
  refine lv_aload_n hx hb dP_load_15 rfl (lv_at hl 0 rfl) ?_
  refine lv_aload_n hx hb dP_load_16 rfl (lv_at hl 1 rfl) ?_
  refine lv_iconst (v := 5) hx hb dP_load_17 (by decide) ?_
  refine g_Vi (rest := [.ref a0]) hC (c_H_read l θ _ _ _ _ _ hw) mi_H_read mlP_33 mv_H_read ci_7 ho_5 hwo hS ⟨rfl, rfl⟩ ⟨by decide, by decide⟩ rfl hl.1 rfl (Nat.le_of_ble_eq_true rfl) dP_load_18 (fun r_10 V_8 U_9 hw H locs hwo hS => ?_)
  refine g_putI hC fkP_42 rfl hwo hS ho_1 dP_load_21 (fun V_11 eV_11 H locs hwo hS => ?_)
  replace hw := hw V_11 eV_11
  refine lv_aload_n hx hb dP_load_24 rfl (lv_at hl 0 rfl) ?_
  refine lv_aload_n hx hb dP_load_25 rfl (lv_at hl 1 rfl) ?_
  refine lv_bipush (v := 6) hx hb dP_load_26 (by decide) ?_
  refine g_Vi (rest := [.ref a0]) hC (c_H_read l θ _ _ _ _ _ hw) mi_H_read mlP_33 mv_H_read ci_7 ho_5 hwo hS ⟨rfl, rfl⟩ ⟨by decide, by decide⟩ rfl hl.1 rfl (Nat.le_of_ble_eq_true rfl) dP_load_28 (fun r_14 V_12 U_13 hw H locs hwo hS => ?_)
  refine g_putI hC fkP_45 rfl hwo hS ho_1 dP_load_31 (fun V_15 eV_15 H locs hwo hS => ?_)
  replace hw := hw V_15 eV_15
  refine lv_aload_n hx hb dP_load_34 rfl (lv_at hl 0 rfl) ?_
  refine lv_aload_n hx hb dP_load_35 rfl (lv_at hl 1 rfl) ?_
  refine lv_iconst (v := 3) hx hb dP_load_36 (by decide) ?_
  refine g_Vi (rest := [.ref a0]) hC (c_H_read l θ _ _ _ _ _ hw) mi_H_read mlP_33 mv_H_read ci_7 ho_5 hwo hS ⟨rfl, rfl⟩ ⟨by decide, by decide⟩ rfl hl.1 rfl (Nat.le_of_ble_eq_true rfl) dP_load_37 (fun r_18 V_16 U_17 hw H locs hwo hS => ?_)
  refine lv_iconst (v := 1) hx hb dP_load_40 (by decide) ?_
  refine lv_iadd hx hb dP_load_41 ?_
  refine g_putI hC fkP_15 rfl hwo hS ho_1 dP_load_42 (fun V_19 eV_19 H locs hwo hS => ?_)
  replace hw := hw V_19 eV_19
  refine lv_aload_n hx hb dP_load_45 rfl (lv_at hl 0 rfl) ?_
  refine lv_aload_n hx hb dP_load_46 rfl (lv_at hl 1 rfl) ?_
  refine lv_iconst (v := 1) hx hb dP_load_47 (by decide) ?_
  refine g_Vi (rest := [.ref a0]) hC (c_H_read l θ _ _ _ _ _ hw) mi_H_read mlP_33 mv_H_read ci_7 ho_5 hwo hS ⟨rfl, rfl⟩ ⟨by decide, by decide⟩ rfl hl.1 rfl (Nat.le_of_ble_eq_true rfl) dP_load_48 (fun r_22 V_20 U_21 hw H locs hwo hS => ?_)
  refine lv_iconst (v := 1) hx hb dP_load_51 (by decide) ?_
  refine lv_iadd hx hb dP_load_52 ?_
  refine g_putI hC fkP_18 rfl hwo hS ho_1 dP_load_53 (fun V_23 eV_23 H locs hwo hS => ?_)
  replace hw := hw V_23 eV_23
  refine lv_aload_n hx hb dP_load_56 rfl (lv_at hl 0 rfl) ?_
  refine lv_aload_n hx hb dP_load_57 rfl (lv_at hl 1 rfl) ?_
  refine lv_iconst (v := 2) hx hb dP_load_58 (by decide) ?_
  refine g_Vi (rest := [.ref a0]) hC (c_H_read l θ _ _ _ _ _ hw) mi_H_read mlP_33 mv_H_read ci_7 ho_5 hwo hS ⟨rfl, rfl⟩ ⟨by decide, by decide⟩ rfl hl.1 rfl (Nat.le_of_ble_eq_true rfl) dP_load_59 (fun r_26 V_24 U_25 hw H locs hwo hS => ?_)
  refine g_putI hC fkP_48 rfl hwo hS ho_1 dP_load_62 (fun V_27 eV_27 H locs hwo hS => ?_)
  replace hw := hw V_27 eV_27
  refine lv_aload_n hx hb dP_load_65 rfl (lv_at hl 0 rfl) ?_
  refine g_getI hC fkP_39 rfl hwo ho_1 dP_load_66 ?_
  refine lv_iconst (v := 3) hx hb dP_load_69 (by decide) ?_
  refine lv_icmp_eq (tgt := 92) hx hb dP_load_70 (by decide) (fun hc_28 => ?_) (fun hc_28 => ?_)
  · replace hw := hw.1 hc_28
    refine lv_iconst (v := 0) hx hb dP_load_92 (by decide) ?_
    exact g_zret hC hr hlk (Or.inl rfl) hw hwo hS dP_load_93
  · replace hw := hw.2 hc_28
    refine lv_aload_n hx hb dP_load_73 rfl (lv_at hl 0 rfl) ?_
    refine g_getI hC fkP_45 rfl hwo ho_1 dP_load_74 ?_
    refine lv_aload_n hx hb dP_load_77 rfl (lv_at hl 0 rfl) ?_
    refine g_getI hC fkP_42 rfl hwo ho_1 dP_load_78 ?_
    refine lv_icmp_lt (tgt := 92) hx hb dP_load_81 (by decide) (fun hc_29 => ?_) (fun hc_29 => ?_)
    · replace hw := hw.1 hc_29
      refine lv_iconst (v := 0) hx hb dP_load_92 (by decide) ?_
      exact g_zret hC hr hlk (Or.inl rfl) hw hwo hS dP_load_93
    · replace hw := hw.2 hc_29
      refine lv_aload_n hx hb dP_load_84 rfl (lv_at hl 0 rfl) ?_
      refine g_getI hC fkP_48 rfl hwo ho_1 dP_load_85 ?_
      refine lv_iload_n hx hb dP_load_88 rfl (lv_at hl 3 rfl) ?_
      refine lv_icmp_lt (tgt := 94) hx hb dP_load_89 (by decide) (fun hc_30 => ?_) (fun hc_30 => ?_)
      · replace hw := hw.1 hc_30
        refine lv_aload_n hx hb dP_load_94 rfl (lv_at hl 1 rfl) ?_
        refine lv_iconst (v := 2) hx hb dP_load_95 (by decide) ?_
        refine lv_aload_n hx hb dP_load_96 rfl (lv_at hl 0 rfl) ?_
        refine g_getI hC fkP_18 rfl hwo ho_1 dP_load_97 ?_
        refine lv_imul hx hb dP_load_100 ?_
        refine g_Vi (rest := []) hC (c_H_read l θ _ _ _ _ _ hw) mi_H_read mlP_33 mv_H_read ci_7 ho_5 hwo hS ⟨rfl, rfl⟩ ⟨by decide, by decide⟩ rfl hl.1 rfl (Nat.le_of_ble_eq_true rfl) dP_load_101 (fun r_33 V_31 U_32 hw H locs hwo hS => ?_)
        refine lv_istore (i := 5) (lv' := [(5, .int r_33), (0, .ref a0), (1, .ref a1), (2, .ref a2), (3, .int x3), (4, .int x4)]) hx hb dP_load_104 hl (by decide) rfl (fun ls hl => ?_)
        refine lv_iconst (v := 0) hx hb dP_load_106 (by decide) ?_
        refine lv_istore (i := 6) (lv' := [(6, .int (0 : Int32)), (5, .int r_33), (0, .ref a0), (1, .ref a1), (2, .ref a2), (3, .int x3), (4, .int x4)]) hx hb dP_load_107 hl (by decide) rfl (fun ls hl => ?_)
        obtain ⟨n, hw⟩ := hw
        exact L109 _ _ _ _ _ n _ _ _ _ _ _ hw hwo hS (lv_sub hl [2, 3, 4, 5, 1, 0] rfl)
      · replace hw := hw.2 hc_30
        refine lv_iconst (v := 0) hx hb dP_load_92 (by decide) ?_
        exact g_zret hC hr hlk (Or.inl rfl) hw hwo hS dP_load_93
theorem dP_chooseRows_0 : decode kP_chooseRows 0 = .ok (.iload_n 1, 1) := by decide +kernel
theorem dP_chooseRows_1 : decode kP_chooseRows 1 = .ok (.ifCond .eq 7, 3) := by decide +kernel
theorem dP_chooseRows_4 : decode kP_chooseRows 4 = .ok (.iconst 1, 1) := by decide +kernel
theorem dP_chooseRows_5 : decode kP_chooseRows 5 = .ok (.goto 4, 3) := by decide +kernel
theorem dP_chooseRows_8 : decode kP_chooseRows 8 = .ok (.iconst 0, 1) := by decide +kernel
theorem dP_chooseRows_9 : decode kP_chooseRows 9 = .ok (.istore_n 2, 1) := by decide +kernel
theorem dP_chooseRows_10 : decode kP_chooseRows 10 = .ok (.aload_n 0, 1) := by decide +kernel
theorem dP_chooseRows_11 : decode kP_chooseRows 11 = .ok (.iconst 0, 1) := by decide +kernel
theorem dP_chooseRows_12 : decode kP_chooseRows 12 = .ok (.putfield 88, 3) := by decide +kernel
theorem dP_chooseRows_15 : decode kP_chooseRows 15 = .ok (.aload_n 0, 1) := by decide +kernel
theorem dP_chooseRows_16 : decode kP_chooseRows 16 = .ok (.getfield 39, 3) := by decide +kernel
theorem dP_chooseRows_19 : decode kP_chooseRows 19 = .ok (.iconst 2, 1) := by decide +kernel
theorem dP_chooseRows_20 : decode kP_chooseRows 20 = .ok (.if_icmp .ne 17, 3) := by decide +kernel
theorem dP_chooseRows_23 : decode kP_chooseRows 23 = .ok (.aload_n 0, 1) := by decide +kernel
theorem dP_chooseRows_24 : decode kP_chooseRows 24 = .ok (.iload_n 2, 1) := by decide +kernel
theorem dP_chooseRows_25 : decode kP_chooseRows 25 = .ok (.ifCond .eq 7, 3) := by decide +kernel
theorem dP_chooseRows_28 : decode kP_chooseRows 28 = .ok (.iconst 1, 1) := by decide +kernel
theorem dP_chooseRows_29 : decode kP_chooseRows 29 = .ok (.goto 4, 3) := by decide +kernel
theorem dP_chooseRows_32 : decode kP_chooseRows 32 = .ok (.iconst 0, 1) := by decide +kernel
theorem dP_chooseRows_33 : decode kP_chooseRows 33 = .ok (.putfield 88, 3) := by decide +kernel
theorem dP_chooseRows_36 : decode kP_chooseRows 36 = .ok (.return_, 1) := by decide +kernel
theorem dP_chooseRows_37 : decode kP_chooseRows 37 = .ok (.iconst 0, 1) := by decide +kernel
theorem dP_chooseRows_38 : decode kP_chooseRows 38 = .ok (.istore_n 3, 1) := by decide +kernel
theorem dP_chooseRows_39 : decode kP_chooseRows 39 = .ok (.iload_n 3, 1) := by decide +kernel
theorem dP_chooseRows_40 : decode kP_chooseRows 40 = .ok (.aload_n 0, 1) := by decide +kernel
theorem dP_chooseRows_41 : decode kP_chooseRows 41 = .ok (.getfield 9, 3) := by decide +kernel
theorem dP_chooseRows_44 : decode kP_chooseRows 44 = .ok (.if_icmp .ge 61, 3) := by decide +kernel
theorem dP_chooseRows_47 : decode kP_chooseRows 47 = .ok (.aload_n 0, 1) := by decide +kernel
theorem dP_chooseRows_48 : decode kP_chooseRows 48 = .ok (.getfield 59, 3) := by decide +kernel
theorem dP_chooseRows_51 : decode kP_chooseRows 51 = .ok (.ifCond .eq 7, 3) := by decide +kernel
theorem dP_chooseRows_54 : decode kP_chooseRows 54 = .ok (.iload_n 2, 1) := by decide +kernel
theorem dP_chooseRows_55 : decode kP_chooseRows 55 = .ok (.goto 17, 3) := by decide +kernel
theorem dP_chooseRows_58 : decode kP_chooseRows 58 = .ok (.iload_n 1, 1) := by decide +kernel
theorem dP_chooseRows_59 : decode kP_chooseRows 59 = .ok (.iload_n 3, 1) := by decide +kernel
theorem dP_chooseRows_60 : decode kP_chooseRows 60 = .ok (.ishr, 1) := by decide +kernel
theorem dP_chooseRows_61 : decode kP_chooseRows 61 = .ok (.iconst 1, 1) := by decide +kernel
theorem dP_chooseRows_62 : decode kP_chooseRows 62 = .ok (.iand, 1) := by decide +kernel
theorem dP_chooseRows_63 : decode kP_chooseRows 63 = .ok (.iconst 1, 1) := by decide +kernel
theorem dP_chooseRows_64 : decode kP_chooseRows 64 = .ok (.if_icmp .ne 7, 3) := by decide +kernel
theorem dP_chooseRows_67 : decode kP_chooseRows 67 = .ok (.iconst 1, 1) := by decide +kernel
theorem dP_chooseRows_68 : decode kP_chooseRows 68 = .ok (.goto 4, 3) := by decide +kernel
theorem dP_chooseRows_71 : decode kP_chooseRows 71 = .ok (.iconst 0, 1) := by decide +kernel
theorem dP_chooseRows_72 : decode kP_chooseRows 72 = .ok (.istore 4, 2) := by decide +kernel
theorem dP_chooseRows_74 : decode kP_chooseRows 74 = .ok (.iload 4, 2) := by decide +kernel
theorem dP_chooseRows_76 : decode kP_chooseRows 76 = .ok (.ifCond .eq 23, 3) := by decide +kernel
theorem dP_chooseRows_79 : decode kP_chooseRows 79 = .ok (.aload_n 0, 1) := by decide +kernel
theorem dP_chooseRows_80 : decode kP_chooseRows 80 = .ok (.getfield 25, 3) := by decide +kernel
theorem dP_chooseRows_83 : decode kP_chooseRows 83 = .ok (.aload_n 0, 1) := by decide +kernel
theorem dP_chooseRows_84 : decode kP_chooseRows 84 = .ok (.getfield 88, 3) := by decide +kernel
theorem dP_chooseRows_87 : decode kP_chooseRows 87 = .ok (.iload_n 3, 1) := by decide +kernel
theorem dP_chooseRows_88 : decode kP_chooseRows 88 = .ok (.iastore, 1) := by decide +kernel
theorem dP_chooseRows_89 : decode kP_chooseRows 89 = .ok (.aload_n 0, 1) := by decide +kernel
theorem dP_chooseRows_90 : decode kP_chooseRows 90 = .ok (.dup, 1) := by decide +kernel
theorem dP_chooseRows_91 : decode kP_chooseRows 91 = .ok (.getfield 88, 3) := by decide +kernel
theorem dP_chooseRows_94 : decode kP_chooseRows 94 = .ok (.iconst 1, 1) := by decide +kernel
theorem dP_chooseRows_95 : decode kP_chooseRows 95 = .ok (.iadd, 1) := by decide +kernel
theorem dP_chooseRows_96 : decode kP_chooseRows 96 = .ok (.putfield 88, 3) := by decide +kernel
theorem dP_chooseRows_99 : decode kP_chooseRows 99 = .ok (.iinc 3 1, 3) := by decide +kernel
theorem dP_chooseRows_102 : decode kP_chooseRows 102 = .ok (.goto (-63), 3) := by decide +kernel
theorem dP_chooseRows_105 : decode kP_chooseRows 105 = .ok (.return_, 1) := by decide +kernel
def wb_P_chooseRows_72 (θ : TH) (a0_39 : Nat) (x1_39 : Int32) (x2_39 : Int32) (x3_72 : Int32) (z0_72 : Int32) (kb39 : Int32 → VT → UT → Prop) (K : VT → UT → Prop) (V : VT) (U : UT) : Prop := ((z0_72 = 0 → ∀ y_13 : Int32, y_13 = x3_72 + (1 : Int32) → kb39 y_13 V U) ∧ (¬ z0_72 = 0 → isO θ a0_39 10 ∧ (U a0_39 10) ≠ 0 ∧ ∃ n_16, isA θ (U a0_39 10) 0 n_16 ∧ vp_in (V a0_39 9) n_16 ∧ ∀ V_19 : VT, V_19 = up2 V (U a0_39 10) (V a0_39 9).toNatClampNeg x3_72 → ∀ V_20 : VT, V_20 = up2 V_19 a0_39 9 ((V_19 a0_39 9) + (1 : Int32)) → ∀ y_21 : Int32, y_21 = x3_72 + (1 : Int32) → kb39 y_21 V_20 U))
def bl_P_chooseRows_39 (θ : TH) (a0_39 : Nat) (x1_39 : Int32) (x2_39 : Int32) (K : VT → UT → Prop) (kb39 : Int32 → VT → UT → Prop) (x3_39 : Int32) (V : VT) (U : UT) : Prop := isO θ a0_39 10 ∧ (((V a0_39 0) ≤ x3_39 → K V U) ∧ (¬ (V a0_39 0) ≤ x3_39 → (((V a0_39 8) = 0 → ((¬ ((x1_39 >>> (x3_39 &&& 31)) &&& (1 : Int32)) = (1 : Int32) → wb_P_chooseRows_72 θ a0_39 x1_39 x2_39 x3_39 (0 : Int32) kb39 K V U) ∧ (((x1_39 >>> (x3_39 &&& 31)) &&& (1 : Int32)) = (1 : Int32) → wb_P_chooseRows_72 θ a0_39 x1_39 x2_39 x3_39 (1 : Int32) kb39 K V U))) ∧ (¬ (V a0_39 8) = 0 → wb_P_chooseRows_72 θ a0_39 x1_39 x2_39 x3_39 x2_39 kb39 K V U))))
def wl_P_chooseRows_39 (θ : TH) (a0_39 : Nat) (x1_39 : Int32) (x2_39 : Int32) (K : VT → UT → Prop) : Nat → Int32 → VT → UT → Prop
  | 0, _, _, _ => False
  | n + 1, x3_39, V, U => bl_P_chooseRows_39 θ a0_39 x1_39 x2_39 K (wl_P_chooseRows_39 θ a0_39 x1_39 x2_39 K n) x3_39 V U
def wb_P_chooseRows_9 (θ : TH) (a0_9 : Nat) (x1_9 : Int32) (z0_9 : Int32) (K : VT → UT → Prop) (V : VT) (U : UT) : Prop := isO θ a0_9 10 ∧ ∀ V_3 : VT, V_3 = up2 V a0_9 9 (0 : Int32) → ((¬ (V_3 a0_9 1) = (2 : Int32) → ∃ n, wl_P_chooseRows_39 θ a0_9 x1_9 z0_9 K n (0 : Int32) V_3 U) ∧ ((V_3 a0_9 1) = (2 : Int32) → ((z0_9 = 0 → ∀ V_6 : VT, V_6 = up2 V_3 a0_9 9 (0 : Int32) → K V_6 U) ∧ (¬ z0_9 = 0 → ∀ V_7 : VT, V_7 = up2 V_3 a0_9 9 (1 : Int32) → K V_7 U))))
def wp_P_chooseRows (θ : TH) (a0 : Nat) (x1 : Int32) (V : VT) (U : UT) (K : VT → UT → Prop) : Prop := ((x1 = 0 → wb_P_chooseRows_9 θ a0 x1 (0 : Int32) K V U) ∧ (¬ x1 = 0 → wb_P_chooseRows_9 θ a0 x1 (1 : Int32) K V U))
set_option maxRecDepth 100000 in
set_option maxHeartbeats 4000000 in
theorem c_P_chooseRows (l : Launch) (θ : TH) (a0 : Nat) (x1 : Int32) (V : VT) (U : UT) (K : VT → UT → Prop) (hw : wp_P_chooseRows θ a0 x1 V U K) : CMv l yP_chooseRows kP_chooseRows 5 none rmP_chooseRows θ [.ref a0, .int x1] V U K := by
  refine g_met nRP (by decide +kernel) rfl (Nat.le_of_ble_eq_true rfl) (fun p e s m args below meth c ls hC hr hlk hwo hl => ?_)
  have hx := hC.1
  have hb := hC.2.1
  have hS : Sx θ s s.heap [] := va_S.rf
  have hl : lv_has ls 5 [(0, .ref a0), (1, .int x1)] := hl
  have L39 : ∀ (a0_39 : Nat) (x1_39 : Int32) (x2_39 : Int32) (n39 : Nat) (x3_39 : Int32) (V : VT) (U : UT) (H : Heap) (locs : List Loc) (ls : Array Slot), wl_P_chooseRows_39 θ a0_39 x1_39 x2_39 K n39 x3_39 V U → wo θ V U H → Sx θ s H locs → lv_has ls 5 [(0, .ref a0_39), (1, .int x1_39), (2, .int x2_39), (3, .int x3_39)] → W p l e rmP_chooseRows s m args below meth c H locs 0 0 (MQ below (QV θ K) args s 0 0 (aT θ)) (F0 m 39 ls []) := by
    intro a0_39 x1_39 x2_39 n39
    induction n39 with
    | zero => intro x3_39 V U H locs ls hw hwo hS hl; exact (show False from hw).elim
    | succ n39 ih39 =>
      have J72 : ∀ (x3_72 : Int32) (z0_72 : Int32) (V : VT) (U : UT) (H : Heap) (locs : List Loc) (ls : Array Slot), wb_P_chooseRows_72 θ a0_39 x1_39 x2_39 x3_72 z0_72 (wl_P_chooseRows_39 θ a0_39 x1_39 x2_39 K n39) K V U → wo θ V U H → Sx θ s H locs → lv_has ls 5 [(0, .ref a0_39), (1, .int x1_39), (2, .int x2_39), (3, .int x3_72)] → W p l e rmP_chooseRows s m args below meth c H locs 0 0 (MQ below (QV θ K) args s 0 0 (aT θ)) (F0 m 72 ls [.int z0_72]) := by
        intro x3_72 z0_72 V U H locs ls hw hwo hS hl
        unfold wb_P_chooseRows_72 at hw
        refine lv_istore (i := 4) (lv' := [(4, .int z0_72), (0, .ref a0_39), (1, .int x1_39), (2, .int x2_39), (3, .int x3_72)]) hx hb dP_chooseRows_72 hl (by decide) rfl (fun ls hl => ?_)
        refine lv_iload hx hb dP_chooseRows_74 (lv_at hl 0 rfl) ?_
        refine lv_if_eq (tgt := 99) hx hb dP_chooseRows_76 (by decide) (fun hc_12 => ?_) (fun hc_12 => ?_)
        · replace hw := hw.1 hc_12
          obtain ⟨y_13, ey_13⟩ : ∃ z : Int32, z = x3_72 + (1 : Int32) := ⟨_, rfl⟩
          replace hw := hw y_13 ey_13
          refine lv_iinc (k := 4) (v := y_13) (lv' := [(3, .int y_13), (4, .int z0_72), (0, .ref a0_39), (1, .int x1_39), (2, .int x2_39)]) hx hb dP_chooseRows_99 hl rfl (by rw [ey_13]; rfl) (by decide) rfl (fun ls hl => ?_)
          refine lv_goto (tgt := 39) hx hb dP_chooseRows_102 (by decide) ?_
          exact ih39 _ _ _ _ _ _ hw hwo hS (lv_sub hl [2, 3, 4, 0] rfl)
        · replace hw := hw.2 hc_12
          refine lv_aload_n hx hb dP_chooseRows_79 rfl (lv_at hl 1 rfl) ?_
          obtain ⟨ho_14, hw⟩ := hw
          obtain ⟨hz_15, hw⟩ := hw
          refine g_getR hC fkP_25 rfl hwo ho_14 hz_15 dP_chooseRows_80 ?_
          refine lv_aload_n hx hb dP_chooseRows_83 rfl (lv_at hl 1 rfl) ?_
          refine g_getI hC fkP_88 rfl hwo ho_14 dP_chooseRows_84 ?_
          refine lv_iload_n hx hb dP_chooseRows_87 rfl (lv_at hl 4 rfl) ?_
          obtain ⟨n_16, ha_17, hw⟩ := hw
          obtain ⟨hi_18, hw⟩ := hw
          refine g_iast hC hwo hS ha_17 hi_18 dP_chooseRows_88 (fun V_19 eV_19 H locs hwo hS => ?_)
          replace hw := hw V_19 eV_19
          refine lv_aload_n hx hb dP_chooseRows_89 rfl (lv_at hl 1 rfl) ?_
          refine lv_dup hx hb dP_chooseRows_90 rfl ?_
          refine g_getI hC fkP_88 rfl hwo ho_14 dP_chooseRows_91 ?_
          refine lv_iconst (v := 1) hx hb dP_chooseRows_94 (by decide) ?_
          refine lv_iadd hx hb dP_chooseRows_95 ?_
          refine g_putI hC fkP_88 rfl hwo hS ho_14 dP_chooseRows_96 (fun V_20 eV_20 H locs hwo hS => ?_)
          replace hw := hw V_20 eV_20
          obtain ⟨y_21, ey_21⟩ : ∃ z : Int32, z = x3_72 + (1 : Int32) := ⟨_, rfl⟩
          replace hw := hw y_21 ey_21
          refine lv_iinc (k := 4) (v := y_21) (lv' := [(3, .int y_21), (4, .int z0_72), (0, .ref a0_39), (1, .int x1_39), (2, .int x2_39)]) hx hb dP_chooseRows_99 hl rfl (by rw [ey_21]; rfl) (by decide) rfl (fun ls hl => ?_)
          refine lv_goto (tgt := 39) hx hb dP_chooseRows_102 (by decide) ?_
          exact ih39 _ _ _ _ _ _ hw hwo hS (lv_sub hl [2, 3, 4, 0] rfl)
      intro x3_39 V U H locs ls hw hwo hS hl
      replace hw : bl_P_chooseRows_39 θ a0_39 x1_39 x2_39 K (wl_P_chooseRows_39 θ a0_39 x1_39 x2_39 K n39) x3_39 V U := hw
      unfold bl_P_chooseRows_39 at hw
      refine lv_iload_n hx hb dP_chooseRows_39 rfl (lv_at hl 3 rfl) ?_
      refine lv_aload_n hx hb dP_chooseRows_40 rfl (lv_at hl 0 rfl) ?_
      obtain ⟨ho_8, hw⟩ := hw
      refine g_getI hC fkP_9 rfl hwo ho_8 dP_chooseRows_41 ?_
      refine lv_icmp_ge (tgt := 105) hx hb dP_chooseRows_44 (by decide) (fun hc_9 => ?_) (fun hc_9 => ?_)
      · replace hw := hw.1 hc_9
        exact g_vret hC hr hlk hw hwo hS dP_chooseRows_105
      · replace hw := hw.2 hc_9
        refine lv_aload_n hx hb dP_chooseRows_47 rfl (lv_at hl 0 rfl) ?_
        refine g_getI hC fkP_59 rfl hwo ho_8 dP_chooseRows_48 ?_
        refine lv_if_eq (tgt := 58) hx hb dP_chooseRows_51 (by decide) (fun hc_10 => ?_) (fun hc_10 => ?_)
        · replace hw := hw.1 hc_10
          refine lv_iload_n hx hb dP_chooseRows_58 rfl (lv_at hl 1 rfl) ?_
          refine lv_iload_n hx hb dP_chooseRows_59 rfl (lv_at hl 3 rfl) ?_
          refine lv_ishr hx hb dP_chooseRows_60 ?_
          refine lv_iconst (v := 1) hx hb dP_chooseRows_61 (by decide) ?_
          refine lv_iand hx hb dP_chooseRows_62 ?_
          refine lv_iconst (v := 1) hx hb dP_chooseRows_63 (by decide) ?_
          refine lv_icmp_ne (tgt := 71) hx hb dP_chooseRows_64 (by decide) (fun hc_11 => ?_) (fun hc_11 => ?_)
          · replace hw := hw.1 hc_11
            refine lv_iconst (v := 0) hx hb dP_chooseRows_71 (by decide) ?_
            exact J72 _ _ _ _ _ _ _ hw hwo hS (lv_sub hl [0, 1, 2, 3] rfl)
          · replace hw := hw.2 hc_11
            refine lv_iconst (v := 1) hx hb dP_chooseRows_67 (by decide) ?_
            refine lv_goto (tgt := 72) hx hb dP_chooseRows_68 (by decide) ?_
            exact J72 _ _ _ _ _ _ _ hw hwo hS (lv_sub hl [0, 1, 2, 3] rfl)
        · replace hw := hw.2 hc_10
          refine lv_iload_n hx hb dP_chooseRows_54 rfl (lv_at hl 2 rfl) ?_
          refine lv_goto (tgt := 72) hx hb dP_chooseRows_55 (by decide) ?_
          exact J72 _ _ _ _ _ _ _ hw hwo hS (lv_sub hl [0, 1, 2, 3] rfl)
  have J9 : ∀ (a0_9 : Nat) (x1_9 : Int32) (z0_9 : Int32) (V : VT) (U : UT) (H : Heap) (locs : List Loc) (ls : Array Slot), wb_P_chooseRows_9 θ a0_9 x1_9 z0_9 K V U → wo θ V U H → Sx θ s H locs → lv_has ls 5 [(0, .ref a0_9), (1, .int x1_9)] → W p l e rmP_chooseRows s m args below meth c H locs 0 0 (MQ below (QV θ K) args s 0 0 (aT θ)) (F0 m 9 ls [.int z0_9]) := by
    intro a0_9 x1_9 z0_9 V U H locs ls hw hwo hS hl
    unfold wb_P_chooseRows_9 at hw
    refine lv_istore_n (i := 2) (lv' := [(2, .int z0_9), (0, .ref a0_9), (1, .int x1_9)]) hx hb dP_chooseRows_9 rfl hl (by decide) rfl (fun ls hl => ?_)
    refine lv_aload_n hx hb dP_chooseRows_10 rfl (lv_at hl 1 rfl) ?_
    refine lv_iconst (v := 0) hx hb dP_chooseRows_11 (by decide) ?_
    obtain ⟨ho_2, hw⟩ := hw
    refine g_putI hC fkP_88 rfl hwo hS ho_2 dP_chooseRows_12 (fun V_3 eV_3 H locs hwo hS => ?_)
    replace hw := hw V_3 eV_3
    refine lv_aload_n hx hb dP_chooseRows_15 rfl (lv_at hl 1 rfl) ?_
    refine g_getI hC fkP_39 rfl hwo ho_2 dP_chooseRows_16 ?_
    refine lv_iconst (v := 2) hx hb dP_chooseRows_19 (by decide) ?_
    refine lv_icmp_ne (tgt := 37) hx hb dP_chooseRows_20 (by decide) (fun hc_4 => ?_) (fun hc_4 => ?_)
    · replace hw := hw.1 hc_4
      refine lv_iconst (v := 0) hx hb dP_chooseRows_37 (by decide) ?_
      refine lv_istore_n (i := 3) (lv' := [(3, .int (0 : Int32)), (2, .int z0_9), (0, .ref a0_9), (1, .int x1_9)]) hx hb dP_chooseRows_38 rfl hl (by decide) rfl (fun ls hl => ?_)
      obtain ⟨n, hw⟩ := hw
      exact L39 _ _ _ n _ _ _ _ _ _ hw hwo hS (lv_sub hl [2, 3, 1, 0] rfl)
    · replace hw := hw.2 hc_4
      refine lv_aload_n hx hb dP_chooseRows_23 rfl (lv_at hl 1 rfl) ?_
      refine lv_iload_n hx hb dP_chooseRows_24 rfl (lv_at hl 0 rfl) ?_
      refine lv_if_eq (tgt := 32) hx hb dP_chooseRows_25 (by decide) (fun hc_5 => ?_) (fun hc_5 => ?_)
      · replace hw := hw.1 hc_5
        refine lv_iconst (v := 0) hx hb dP_chooseRows_32 (by decide) ?_
        refine g_putI hC fkP_88 rfl hwo hS ho_2 dP_chooseRows_33 (fun V_6 eV_6 H locs hwo hS => ?_)
        replace hw := hw V_6 eV_6
        exact g_vret hC hr hlk hw hwo hS dP_chooseRows_36
      · replace hw := hw.2 hc_5
        refine lv_iconst (v := 1) hx hb dP_chooseRows_28 (by decide) ?_
        refine lv_goto (tgt := 33) hx hb dP_chooseRows_29 (by decide) ?_
        refine g_putI hC fkP_88 rfl hwo hS ho_2 dP_chooseRows_33 (fun V_7 eV_7 H locs hwo hS => ?_)
        replace hw := hw V_7 eV_7
        exact g_vret hC hr hlk hw hwo hS dP_chooseRows_36
  unfold wp_P_chooseRows at hw
  refine lv_iload_n hx hb dP_chooseRows_0 rfl (lv_at hl 1 rfl) ?_
  refine lv_if_eq (tgt := 8) hx hb dP_chooseRows_1 (by decide) (fun hc_1 => ?_) (fun hc_1 => ?_)
  · replace hw := hw.1 hc_1
    refine lv_iconst (v := 0) hx hb dP_chooseRows_8 (by decide) ?_
    exact J9 _ _ _ _ _ _ _ _ hw hwo hS (lv_sub hl [0, 1] rfl)
  · replace hw := hw.2 hc_1
    refine lv_iconst (v := 1) hx hb dP_chooseRows_4 (by decide) ?_
    refine lv_goto (tgt := 9) hx hb dP_chooseRows_5 (by decide) ?_
    exact J9 _ _ _ _ _ _ _ _ hw hwo hS (lv_sub hl [0, 1] rfl)
theorem dP_readKinds_0 : decode kP_readKinds 0 = .ok (.iconst 0, 1) := by decide +kernel
theorem dP_readKinds_1 : decode kP_readKinds 1 = .ok (.istore 4, 2) := by decide +kernel
theorem dP_readKinds_3 : decode kP_readKinds 3 = .ok (.iload 4, 2) := by decide +kernel
theorem dP_readKinds_5 : decode kP_readKinds 5 = .ok (.aload_n 0, 1) := by decide +kernel
theorem dP_readKinds_6 : decode kP_readKinds 6 = .ok (.getfield 88, 3) := by decide +kernel
theorem dP_readKinds_9 : decode kP_readKinds 9 = .ok (.if_icmp .ge 78, 3) := by decide +kernel
theorem dP_readKinds_12 : decode kP_readKinds 12 = .ok (.aload_n 2, 1) := by decide +kernel
theorem dP_readKinds_13 : decode kP_readKinds 13 = .ok (.aload_n 1, 1) := by decide +kernel
theorem dP_readKinds_14 : decode kP_readKinds 14 = .ok (.invokevirtual 95, 3) := by decide +kernel
theorem dP_readKinds_17 : decode kP_readKinds 17 = .ok (.istore 5, 2) := by decide +kernel
theorem dP_readKinds_19 : decode kP_readKinds 19 = .ok (.iload 5, 2) := by decide +kernel
theorem dP_readKinds_21 : decode kP_readKinds 21 = .ok (.iconst (-1), 1) := by decide +kernel
theorem dP_readKinds_22 : decode kP_readKinds 22 = .ok (.if_icmp .ne 4, 3) := by decide +kernel
theorem dP_readKinds_25 : decode kP_readKinds 25 = .ok (.return_, 1) := by decide +kernel
theorem dP_readKinds_26 : decode kP_readKinds 26 = .ok (.iload_n 3, 1) := by decide +kernel
theorem dP_readKinds_27 : decode kP_readKinds 27 = .ok (.aload_n 2, 1) := by decide +kernel
theorem dP_readKinds_28 : decode kP_readKinds 28 = .ok (.getfield 68, 3) := by decide +kernel
theorem dP_readKinds_31 : decode kP_readKinds 31 = .ok (.iadd, 1) := by decide +kernel
theorem dP_readKinds_32 : decode kP_readKinds 32 = .ok (.iconst 1, 1) := by decide +kernel
theorem dP_readKinds_33 : decode kP_readKinds 33 = .ok (.isub, 1) := by decide +kernel
theorem dP_readKinds_34 : decode kP_readKinds 34 = .ok (.istore 6, 2) := by decide +kernel
theorem dP_readKinds_36 : decode kP_readKinds 36 = .ok (.iload 6, 2) := by decide +kernel
theorem dP_readKinds_38 : decode kP_readKinds 38 = .ok (.iload_n 3, 1) := by decide +kernel
theorem dP_readKinds_39 : decode kP_readKinds 39 = .ok (.if_icmp .lt 42, 3) := by decide +kernel
theorem dP_readKinds_42 : decode kP_readKinds 42 = .ok (.iload 6, 2) := by decide +kernel
theorem dP_readKinds_44 : decode kP_readKinds 44 = .ok (.bipush 64, 2) := by decide +kernel
theorem dP_readKinds_46 : decode kP_readKinds 46 = .ok (.if_icmp .ge 20, 3) := by decide +kernel
theorem dP_readKinds_49 : decode kP_readKinds 49 = .ok (.aload_n 0, 1) := by decide +kernel
theorem dP_readKinds_50 : decode kP_readKinds 50 = .ok (.getfield 30, 3) := by decide +kernel
theorem dP_readKinds_53 : decode kP_readKinds 53 = .ok (.iload 4, 2) := by decide +kernel
theorem dP_readKinds_55 : decode kP_readKinds 55 = .ok (.aaload, 1) := by decide +kernel
theorem dP_readKinds_56 : decode kP_readKinds 56 = .ok (.iload 6, 2) := by decide +kernel
theorem dP_readKinds_58 : decode kP_readKinds 58 = .ok (.iload 5, 2) := by decide +kernel
theorem dP_readKinds_60 : decode kP_readKinds 60 = .ok (.aload_n 0, 1) := by decide +kernel
theorem dP_readKinds_61 : decode kP_readKinds 61 = .ok (.getfield 18, 3) := by decide +kernel
theorem dP_readKinds_64 : decode kP_readKinds 64 = .ok (.irem, 1) := by decide +kernel
theorem dP_readKinds_65 : decode kP_readKinds 65 = .ok (.iastore, 1) := by decide +kernel
theorem dP_readKinds_66 : decode kP_readKinds 66 = .ok (.iload 5, 2) := by decide +kernel
theorem dP_readKinds_68 : decode kP_readKinds 68 = .ok (.aload_n 0, 1) := by decide +kernel
theorem dP_readKinds_69 : decode kP_readKinds 69 = .ok (.getfield 18, 3) := by decide +kernel
theorem dP_readKinds_72 : decode kP_readKinds 72 = .ok (.idiv, 1) := by decide +kernel
theorem dP_readKinds_73 : decode kP_readKinds 73 = .ok (.istore 5, 2) := by decide +kernel
theorem dP_readKinds_75 : decode kP_readKinds 75 = .ok (.iinc 6 (-1), 3) := by decide +kernel
theorem dP_readKinds_78 : decode kP_readKinds 78 = .ok (.goto (-42), 3) := by decide +kernel
theorem dP_readKinds_81 : decode kP_readKinds 81 = .ok (.iinc 4 1, 3) := by decide +kernel
theorem dP_readKinds_84 : decode kP_readKinds 84 = .ok (.goto (-81), 3) := by decide +kernel
theorem dP_readKinds_87 : decode kP_readKinds 87 = .ok (.return_, 1) := by decide +kernel
def wb_P_readKinds_66 (θ : TH) (a0_3 : Nat) (a1_3 : Nat) (a2_3 : Nat) (x3_3 : Int32) (x4_36 : Int32) (x5_66 : Int32) (x6_66 : Int32) (kb3 : Int32 → VT → UT → Prop) (kb36 : Int32 → Int32 → VT → UT → Prop) (K : VT → UT → Prop) (V : VT) (U : UT) : Prop := isO θ a0_3 10 ∧ ¬ (V a0_3 5) = 0 ∧ ∀ y_25 : Int32, y_25 = (x5_66 / (V a0_3 5)) → ∀ y_26 : Int32, y_26 = x6_66 + (-1 : Int32) → kb36 y_25 y_26 V U
def bl_P_readKinds_36 (θ : TH) (a0_3 : Nat) (a1_3 : Nat) (a2_3 : Nat) (x3_3 : Int32) (x4_36 : Int32) (kb3 : Int32 → VT → UT → Prop) (K : VT → UT → Prop) (kb36 : Int32 → Int32 → VT → UT → Prop) (x5_36 : Int32) (x6_36 : Int32) (V : VT) (U : UT) : Prop := ((x6_36 < x3_3 → ∀ y_10 : Int32, y_10 = x4_36 + (1 : Int32) → kb3 y_10 V U) ∧ (¬ x6_36 < x3_3 → (((64 : Int32) ≤ x6_36 → wb_P_readKinds_66 θ a0_3 a1_3 a2_3 x3_3 x4_36 x5_36 x6_36 kb3 kb36 K V U) ∧ (¬ (64 : Int32) ≤ x6_36 → isO θ a0_3 10 ∧ (U a0_3 11) ≠ 0 ∧ ∃ n_14, isR θ (U a0_3 11) 6 n_14 ∧ vp_in x4_36 n_14 ∧ (U (U a0_3 11) x4_36.toNatClampNeg) ≠ 0 ∧ ¬ (V a0_3 5) = 0 ∧ ∃ n_19, isA θ (U (U a0_3 11) x4_36.toNatClampNeg) 0 n_19 ∧ vp_in x6_36 n_19 ∧ ∀ V_22 : VT, V_22 = up2 V (U (U a0_3 11) x4_36.toNatClampNeg) x6_36.toNatClampNeg (x5_36 - x5_36 / (V a0_3 5) * (V a0_3 5)) → wb_P_readKinds_66 θ a0_3 a1_3 a2_3 x3_3 x4_36 x5_36 x6_36 kb3 kb36 K V_22 U))))
def wl_P_readKinds_36 (θ : TH) (a0_3 : Nat) (a1_3 : Nat) (a2_3 : Nat) (x3_3 : Int32) (x4_36 : Int32) (kb3 : Int32 → VT → UT → Prop) (K : VT → UT → Prop) : Nat → Int32 → Int32 → VT → UT → Prop
  | 0, _, _, _, _ => False
  | n + 1, x5_36, x6_36, V, U => bl_P_readKinds_36 θ a0_3 a1_3 a2_3 x3_3 x4_36 kb3 K (wl_P_readKinds_36 θ a0_3 a1_3 a2_3 x3_3 x4_36 kb3 K n) x5_36 x6_36 V U
def bl_P_readKinds_3 (θ : TH) (a0_3 : Nat) (a1_3 : Nat) (a2_3 : Nat) (x3_3 : Int32) (K : VT → UT → Prop) (kb3 : Int32 → VT → UT → Prop) (x4_3 : Int32) (V : VT) (U : UT) : Prop := isO θ a0_3 10 ∧ (((V a0_3 9) ≤ x4_3 → K V U) ∧ (¬ (V a0_3 9) ≤ x4_3 → isO θ a2_3 8 ∧ wp_B_readEntry θ a2_3 a1_3 V U (fun r_6 V_3 U_4 => ((¬ r_6 = (-1 : Int32) → ∀ y_8 : Int32, y_8 = ((x3_3 + (V_3 a2_3 1)) - (1 : Int32)) → ∃ n, wl_P_readKinds_36 θ a0_3 a1_3 a2_3 x3_3 x4_3 kb3 K n r_6 y_8 V_3 U_4) ∧ (r_6 = (-1 : Int32) → K V_3 U_4)))))
def wl_P_readKinds_3 (θ : TH) (a0_3 : Nat) (a1_3 : Nat) (a2_3 : Nat) (x3_3 : Int32) (K : VT → UT → Prop) : Nat → Int32 → VT → UT → Prop
  | 0, _, _, _ => False
  | n + 1, x4_3, V, U => bl_P_readKinds_3 θ a0_3 a1_3 a2_3 x3_3 K (wl_P_readKinds_3 θ a0_3 a1_3 a2_3 x3_3 K n) x4_3 V U
def wp_P_readKinds (θ : TH) (a0 : Nat) (a1 : Nat) (a2 : Nat) (x3 : Int32) (V : VT) (U : UT) (K : VT → UT → Prop) : Prop := ∃ n, wl_P_readKinds_3 θ a0 a1 a2 x3 K n (0 : Int32) V U
set_option maxRecDepth 100000 in
set_option maxHeartbeats 4000000 in
theorem c_P_readKinds (l : Launch) (θ : TH) (a0 : Nat) (a1 : Nat) (a2 : Nat) (x3 : Int32) (V : VT) (U : UT) (K : VT → UT → Prop) (hw : wp_P_readKinds θ a0 a1 a2 x3 V U K) : CMv l yP_readKinds kP_readKinds 7 none rmP_readKinds θ [.ref a0, .ref a1, .ref a2, .int x3] V U K := by
  refine g_met nRP (by decide +kernel) rfl (Nat.le_of_ble_eq_true rfl) (fun p e s m args below meth c ls hC hr hlk hwo hl => ?_)
  have hx := hC.1
  have hb := hC.2.1
  have hS : Sx θ s s.heap [] := va_S.rf
  have hl : lv_has ls 7 [(0, .ref a0), (1, .ref a1), (2, .ref a2), (3, .int x3)] := hl
  have L3 : ∀ (a0_3 : Nat) (a1_3 : Nat) (a2_3 : Nat) (x3_3 : Int32) (n3 : Nat) (x4_3 : Int32) (V : VT) (U : UT) (H : Heap) (locs : List Loc) (ls : Array Slot), wl_P_readKinds_3 θ a0_3 a1_3 a2_3 x3_3 K n3 x4_3 V U → wo θ V U H → Sx θ s H locs → lv_has ls 7 [(0, .ref a0_3), (1, .ref a1_3), (2, .ref a2_3), (3, .int x3_3), (4, .int x4_3)] → W p l e rmP_readKinds s m args below meth c H locs 0 0 (MQ below (QV θ K) args s 0 0 (aT θ)) (F0 m 3 ls []) := by
    intro a0_3 a1_3 a2_3 x3_3 n3
    induction n3 with
    | zero => intro x4_3 V U H locs ls hw hwo hS hl; exact (show False from hw).elim
    | succ n3 ih3 =>
      have L36 : ∀ (x4_36 : Int32) (n36 : Nat) (x5_36 : Int32) (x6_36 : Int32) (V : VT) (U : UT) (H : Heap) (locs : List Loc) (ls : Array Slot), wl_P_readKinds_36 θ a0_3 a1_3 a2_3 x3_3 x4_36 (wl_P_readKinds_3 θ a0_3 a1_3 a2_3 x3_3 K n3) K n36 x5_36 x6_36 V U → wo θ V U H → Sx θ s H locs → lv_has ls 7 [(0, .ref a0_3), (1, .ref a1_3), (2, .ref a2_3), (3, .int x3_3), (4, .int x4_36), (5, .int x5_36), (6, .int x6_36)] → W p l e rmP_readKinds s m args below meth c H locs 0 0 (MQ below (QV θ K) args s 0 0 (aT θ)) (F0 m 36 ls []) := by
        intro x4_36 n36
        induction n36 with
        | zero => intro x5_36 x6_36 V U H locs ls hw hwo hS hl; exact (show False from hw).elim
        | succ n36 ih36 =>
          have J66 : ∀ (x5_66 : Int32) (x6_66 : Int32) (V : VT) (U : UT) (H : Heap) (locs : List Loc) (ls : Array Slot), wb_P_readKinds_66 θ a0_3 a1_3 a2_3 x3_3 x4_36 x5_66 x6_66 (wl_P_readKinds_3 θ a0_3 a1_3 a2_3 x3_3 K n3) (wl_P_readKinds_36 θ a0_3 a1_3 a2_3 x3_3 x4_36 (wl_P_readKinds_3 θ a0_3 a1_3 a2_3 x3_3 K n3) K n36) K V U → wo θ V U H → Sx θ s H locs → lv_has ls 7 [(0, .ref a0_3), (1, .ref a1_3), (2, .ref a2_3), (3, .int x3_3), (4, .int x4_36), (5, .int x5_66), (6, .int x6_66)] → W p l e rmP_readKinds s m args below meth c H locs 0 0 (MQ below (QV θ K) args s 0 0 (aT θ)) (F0 m 66 ls []) := by
            intro x5_66 x6_66 V U H locs ls hw hwo hS hl
            unfold wb_P_readKinds_66 at hw
            refine lv_iload hx hb dP_readKinds_66 (lv_at hl 5 rfl) ?_
            refine lv_aload_n hx hb dP_readKinds_68 rfl (lv_at hl 0 rfl) ?_
            obtain ⟨ho_23, hw⟩ := hw
            refine g_getI hC fkP_18 rfl hwo ho_23 dP_readKinds_69 ?_
            obtain ⟨hd_24, hw⟩ := hw
            refine lv_idiv hx hb dP_readKinds_72 hd_24 ?_
            refine lv_topi (fun y_25 ey_25 => ?_)
            replace hw := hw y_25 ey_25
            refine lv_istore (i := 5) (lv' := [(5, .int y_25), (0, .ref a0_3), (1, .ref a1_3), (2, .ref a2_3), (3, .int x3_3), (4, .int x4_36), (6, .int x6_66)]) hx hb dP_readKinds_73 hl (by decide) rfl (fun ls hl => ?_)
            obtain ⟨y_26, ey_26⟩ : ∃ z : Int32, z = x6_66 + (-1 : Int32) := ⟨_, rfl⟩
            replace hw := hw y_26 ey_26
            refine lv_iinc (k := 6) (v := y_26) (lv' := [(6, .int y_26), (5, .int y_25), (0, .ref a0_3), (1, .ref a1_3), (2, .ref a2_3), (3, .int x3_3), (4, .int x4_36)]) hx hb dP_readKinds_75 hl rfl (by rw [ey_26]; rfl) (by decide) rfl (fun ls hl => ?_)
            refine lv_goto (tgt := 36) hx hb dP_readKinds_78 (by decide) ?_
            exact ih36 _ _ _ _ _ _ _ hw hwo hS (lv_sub hl [2, 3, 4, 5, 6, 1, 0] rfl)
          intro x5_36 x6_36 V U H locs ls hw hwo hS hl
          replace hw : bl_P_readKinds_36 θ a0_3 a1_3 a2_3 x3_3 x4_36 (wl_P_readKinds_3 θ a0_3 a1_3 a2_3 x3_3 K n3) K (wl_P_readKinds_36 θ a0_3 a1_3 a2_3 x3_3 x4_36 (wl_P_readKinds_3 θ a0_3 a1_3 a2_3 x3_3 K n3) K n36) x5_36 x6_36 V U := hw
          unfold bl_P_readKinds_36 at hw
          refine lv_iload hx hb dP_readKinds_36 (lv_at hl 6 rfl) ?_
          refine lv_iload_n hx hb dP_readKinds_38 rfl (lv_at hl 3 rfl) ?_
          refine lv_icmp_lt (tgt := 81) hx hb dP_readKinds_39 (by decide) (fun hc_9 => ?_) (fun hc_9 => ?_)
          · replace hw := hw.1 hc_9
            obtain ⟨y_10, ey_10⟩ : ∃ z : Int32, z = x4_36 + (1 : Int32) := ⟨_, rfl⟩
            replace hw := hw y_10 ey_10
            refine lv_iinc (k := 4) (v := y_10) (lv' := [(4, .int y_10), (0, .ref a0_3), (1, .ref a1_3), (2, .ref a2_3), (3, .int x3_3), (5, .int x5_36), (6, .int x6_36)]) hx hb dP_readKinds_81 hl rfl (by rw [ey_10]; rfl) (by decide) rfl (fun ls hl => ?_)
            refine lv_goto (tgt := 3) hx hb dP_readKinds_84 (by decide) ?_
            exact ih3 _ _ _ _ _ _ hw hwo hS (lv_sub hl [1, 2, 3, 4, 0] rfl)
          · replace hw := hw.2 hc_9
            refine lv_iload hx hb dP_readKinds_42 (lv_at hl 6 rfl) ?_
            refine lv_bipush (v := 64) hx hb dP_readKinds_44 (by decide) ?_
            refine lv_icmp_ge (tgt := 66) hx hb dP_readKinds_46 (by decide) (fun hc_11 => ?_) (fun hc_11 => ?_)
            · replace hw := hw.1 hc_11
              exact J66 _ _ _ _ _ _ _ hw hwo hS (lv_sub hl [0, 1, 2, 3, 4, 5, 6] rfl)
            · replace hw := hw.2 hc_11
              refine lv_aload_n hx hb dP_readKinds_49 rfl (lv_at hl 0 rfl) ?_
              obtain ⟨ho_12, hw⟩ := hw
              obtain ⟨hz_13, hw⟩ := hw
              refine g_getR hC fkP_30 rfl hwo ho_12 hz_13 dP_readKinds_50 ?_
              refine lv_iload hx hb dP_readKinds_53 (lv_at hl 4 rfl) ?_
              obtain ⟨n_14, ha_15, hw⟩ := hw
              obtain ⟨hi_16, hw⟩ := hw
              obtain ⟨hz_17, hw⟩ := hw
              refine g_aald hC hwo (t := 6) (by decide) rfl ha_15 hi_16 hz_17 dP_readKinds_55 ?_
              refine lv_iload hx hb dP_readKinds_56 (lv_at hl 6 rfl) ?_
              refine lv_iload hx hb dP_readKinds_58 (lv_at hl 5 rfl) ?_
              refine lv_aload_n hx hb dP_readKinds_60 rfl (lv_at hl 0 rfl) ?_
              refine g_getI hC fkP_18 rfl hwo ho_12 dP_readKinds_61 ?_
              obtain ⟨hd_18, hw⟩ := hw
              refine lv_irem hx hb dP_readKinds_64 hd_18 ?_
              obtain ⟨n_19, ha_20, hw⟩ := hw
              obtain ⟨hi_21, hw⟩ := hw
              refine g_iast hC hwo hS ha_20 hi_21 dP_readKinds_65 (fun V_22 eV_22 H locs hwo hS => ?_)
              replace hw := hw V_22 eV_22
              exact J66 _ _ _ _ _ _ _ hw hwo hS (lv_sub hl [0, 1, 2, 3, 4, 5, 6] rfl)
      intro x4_3 V U H locs ls hw hwo hS hl
      replace hw : bl_P_readKinds_3 θ a0_3 a1_3 a2_3 x3_3 K (wl_P_readKinds_3 θ a0_3 a1_3 a2_3 x3_3 K n3) x4_3 V U := hw
      unfold bl_P_readKinds_3 at hw
      refine lv_iload hx hb dP_readKinds_3 (lv_at hl 4 rfl) ?_
      refine lv_aload_n hx hb dP_readKinds_5 rfl (lv_at hl 0 rfl) ?_
      obtain ⟨ho_1, hw⟩ := hw
      refine g_getI hC fkP_88 rfl hwo ho_1 dP_readKinds_6 ?_
      refine lv_icmp_ge (tgt := 87) hx hb dP_readKinds_9 (by decide) (fun hc_2 => ?_) (fun hc_2 => ?_)
      · replace hw := hw.1 hc_2
        exact g_vret hC hr hlk hw hwo hS dP_readKinds_87
      · replace hw := hw.2 hc_2
        refine lv_aload_n hx hb dP_readKinds_12 rfl (lv_at hl 2 rfl) ?_
        refine lv_aload_n hx hb dP_readKinds_13 rfl (lv_at hl 1 rfl) ?_
        obtain ⟨ho_5, hw⟩ := hw
        refine g_Vi (rest := []) hC (c_B_readEntry l θ _ _ _ _ _ hw) mi_B_readEntry mlP_95 mv_B_readEntry ci_8 ho_5 hwo hS ⟨rfl, rfl⟩ ⟨by decide, by decide⟩ rfl hl.1 rfl (Nat.le_of_ble_eq_true rfl) dP_readKinds_14 (fun r_6 V_3 U_4 hw H locs hwo hS => ?_)
        refine lv_istore (i := 5) (lv' := [(5, .int r_6), (0, .ref a0_3), (1, .ref a1_3), (2, .ref a2_3), (3, .int x3_3), (4, .int x4_3)]) hx hb dP_readKinds_17 hl (by decide) rfl (fun ls hl => ?_)
        refine lv_iload hx hb dP_readKinds_19 (lv_at hl 0 rfl) ?_
        refine lv_iconst (v := -1) hx hb dP_readKinds_21 (by decide) ?_
        refine lv_icmp_ne (tgt := 26) hx hb dP_readKinds_22 (by decide) (fun hc_7 => ?_) (fun hc_7 => ?_)
        · replace hw := hw.1 hc_7
          refine lv_iload_n hx hb dP_readKinds_26 rfl (lv_at hl 4 rfl) ?_
          refine lv_aload_n hx hb dP_readKinds_27 rfl (lv_at hl 3 rfl) ?_
          refine g_getI hC fkP_68 rfl hwo ho_5 dP_readKinds_28 ?_
          refine lv_iadd hx hb dP_readKinds_31 ?_
          refine lv_iconst (v := 1) hx hb dP_readKinds_32 (by decide) ?_
          refine lv_isub hx hb dP_readKinds_33 ?_
          refine lv_topi (fun y_8 ey_8 => ?_)
          replace hw := hw y_8 ey_8
          refine lv_istore (i := 6) (lv' := [(6, .int y_8), (5, .int r_6), (0, .ref a0_3), (1, .ref a1_3), (2, .ref a2_3), (3, .int x3_3), (4, .int x4_3)]) hx hb dP_readKinds_34 hl (by decide) rfl (fun ls hl => ?_)
          obtain ⟨n, hw⟩ := hw
          exact L36 _ n _ _ _ _ _ _ _ hw hwo hS (lv_sub hl [2, 3, 4, 5, 6, 1, 0] rfl)
        · replace hw := hw.2 hc_7
          exact g_vret hC hr hlk hw hwo hS dP_readKinds_25
  unfold wp_P_readKinds at hw
  refine lv_iconst (v := 0) hx hb dP_readKinds_0 (by decide) ?_
  refine lv_istore (i := 4) (lv' := [(4, .int (0 : Int32)), (0, .ref a0), (1, .ref a1), (2, .ref a2), (3, .int x3)]) hx hb dP_readKinds_1 hl (by decide) rfl (fun ls hl => ?_)
  obtain ⟨n, hw⟩ := hw
  exact L3 _ _ _ _ n _ _ _ _ _ _ hw hwo hS (lv_sub hl [1, 2, 3, 4, 0] rfl)
theorem dP_addPart_0 : decode kP_addPart 0 = .ok (.aload_n 0, 1) := by decide +kernel
theorem dP_addPart_1 : decode kP_addPart 1 = .ok (.getfield 42, 3) := by decide +kernel
theorem dP_addPart_4 : decode kP_addPart 4 = .ok (.iload_n 3, 1) := by decide +kernel
theorem dP_addPart_5 : decode kP_addPart 5 = .ok (.aload_n 0, 1) := by decide +kernel
theorem dP_addPart_6 : decode kP_addPart 6 = .ok (.getfield 15, 3) := by decide +kernel
theorem dP_addPart_9 : decode kP_addPart 9 = .ok (.imul, 1) := by decide +kernel
theorem dP_addPart_10 : decode kP_addPart 10 = .ok (.iadd, 1) := by decide +kernel
theorem dP_addPart_11 : decode kP_addPart 11 = .ok (.istore 6, 2) := by decide +kernel
theorem dP_addPart_13 : decode kP_addPart 13 = .ok (.aload_n 0, 1) := by decide +kernel
theorem dP_addPart_14 : decode kP_addPart 14 = .ok (.getfield 15, 3) := by decide +kernel
theorem dP_addPart_17 : decode kP_addPart 17 = .ok (.aload_n 2, 1) := by decide +kernel
theorem dP_addPart_18 : decode kP_addPart 18 = .ok (.getfield 68, 3) := by decide +kernel
theorem dP_addPart_21 : decode kP_addPart 21 = .ok (.idiv, 1) := by decide +kernel
theorem dP_addPart_22 : decode kP_addPart 22 = .ok (.istore 7, 2) := by decide +kernel
theorem dP_addPart_24 : decode kP_addPart 24 = .ok (.iconst 0, 1) := by decide +kernel
theorem dP_addPart_25 : decode kP_addPart 25 = .ok (.istore 8, 2) := by decide +kernel
theorem dP_addPart_27 : decode kP_addPart 27 = .ok (.iload 8, 2) := by decide +kernel
theorem dP_addPart_29 : decode kP_addPart 29 = .ok (.iload 7, 2) := by decide +kernel
theorem dP_addPart_31 : decode kP_addPart 31 = .ok (.if_icmp .ge 142, 3) := by decide +kernel
theorem dP_addPart_34 : decode kP_addPart 34 = .ok (.aload_n 2, 1) := by decide +kernel
theorem dP_addPart_35 : decode kP_addPart 35 = .ok (.aload_n 1, 1) := by decide +kernel
theorem dP_addPart_36 : decode kP_addPart 36 = .ok (.invokevirtual 95, 3) := by decide +kernel
theorem dP_addPart_39 : decode kP_addPart 39 = .ok (.istore 9, 2) := by decide +kernel
theorem dP_addPart_41 : decode kP_addPart 41 = .ok (.iload 9, 2) := by decide +kernel
theorem dP_addPart_43 : decode kP_addPart 43 = .ok (.iconst (-1), 1) := by decide +kernel
theorem dP_addPart_44 : decode kP_addPart 44 = .ok (.if_icmp .ne 4, 3) := by decide +kernel
theorem dP_addPart_47 : decode kP_addPart 47 = .ok (.return_, 1) := by decide +kernel
theorem dP_addPart_48 : decode kP_addPart 48 = .ok (.iconst 0, 1) := by decide +kernel
theorem dP_addPart_49 : decode kP_addPart 49 = .ok (.istore 10, 2) := by decide +kernel
theorem dP_addPart_51 : decode kP_addPart 51 = .ok (.iload 10, 2) := by decide +kernel
theorem dP_addPart_53 : decode kP_addPart 53 = .ok (.aload_n 2, 1) := by decide +kernel
theorem dP_addPart_54 : decode kP_addPart 54 = .ok (.getfield 68, 3) := by decide +kernel
theorem dP_addPart_57 : decode kP_addPart 57 = .ok (.if_icmp .ge 110, 3) := by decide +kernel
theorem dP_addPart_60 : decode kP_addPart 60 = .ok (.aload_n 0, 1) := by decide +kernel
theorem dP_addPart_61 : decode kP_addPart 61 = .ok (.getfield 39, 3) := by decide +kernel
theorem dP_addPart_64 : decode kP_addPart 64 = .ok (.ifCond .ne 14, 3) := by decide +kernel
theorem dP_addPart_67 : decode kP_addPart 67 = .ok (.iload 8, 2) := by decide +kernel
theorem dP_addPart_69 : decode kP_addPart 69 = .ok (.iload 10, 2) := by decide +kernel
theorem dP_addPart_71 : decode kP_addPart 71 = .ok (.iload 7, 2) := by decide +kernel
theorem dP_addPart_73 : decode kP_addPart 73 = .ok (.imul, 1) := by decide +kernel
theorem dP_addPart_74 : decode kP_addPart 74 = .ok (.iadd, 1) := by decide +kernel
theorem dP_addPart_75 : decode kP_addPart 75 = .ok (.goto 13, 3) := by decide +kernel
theorem dP_addPart_78 : decode kP_addPart 78 = .ok (.iload 8, 2) := by decide +kernel
theorem dP_addPart_80 : decode kP_addPart 80 = .ok (.aload_n 2, 1) := by decide +kernel
theorem dP_addPart_81 : decode kP_addPart 81 = .ok (.getfield 68, 3) := by decide +kernel
theorem dP_addPart_84 : decode kP_addPart 84 = .ok (.imul, 1) := by decide +kernel
theorem dP_addPart_85 : decode kP_addPart 85 = .ok (.iload 10, 2) := by decide +kernel
theorem dP_addPart_87 : decode kP_addPart 87 = .ok (.iadd, 1) := by decide +kernel
theorem dP_addPart_88 : decode kP_addPart 88 = .ok (.istore 11, 2) := by decide +kernel
theorem dP_addPart_90 : decode kP_addPart 90 = .ok (.iload 6, 2) := by decide +kernel
theorem dP_addPart_92 : decode kP_addPart 92 = .ok (.iload 11, 2) := by decide +kernel
theorem dP_addPart_94 : decode kP_addPart 94 = .ok (.iadd, 1) := by decide +kernel
theorem dP_addPart_95 : decode kP_addPart 95 = .ok (.istore 12, 2) := by decide +kernel
theorem dP_addPart_97 : decode kP_addPart 97 = .ok (.aload_n 2, 1) := by decide +kernel
theorem dP_addPart_98 : decode kP_addPart 98 = .ok (.getfield 99, 3) := by decide +kernel
theorem dP_addPart_101 : decode kP_addPart 101 = .ok (.iload 9, 2) := by decide +kernel
theorem dP_addPart_103 : decode kP_addPart 103 = .ok (.aload_n 2, 1) := by decide +kernel
theorem dP_addPart_104 : decode kP_addPart 104 = .ok (.getfield 68, 3) := by decide +kernel
theorem dP_addPart_107 : decode kP_addPart 107 = .ok (.imul, 1) := by decide +kernel
theorem dP_addPart_108 : decode kP_addPart 108 = .ok (.iload 10, 2) := by decide +kernel
theorem dP_addPart_110 : decode kP_addPart 110 = .ok (.iadd, 1) := by decide +kernel
theorem dP_addPart_111 : decode kP_addPart 111 = .ok (.iaload, 1) := by decide +kernel
theorem dP_addPart_112 : decode kP_addPart 112 = .ok (.istore 13, 2) := by decide +kernel
theorem dP_addPart_114 : decode kP_addPart 114 = .ok (.aload_n 0, 1) := by decide +kernel
theorem dP_addPart_115 : decode kP_addPart 115 = .ok (.getfield 39, 3) := by decide +kernel
theorem dP_addPart_118 : decode kP_addPart 118 = .ok (.iconst 2, 1) := by decide +kernel
theorem dP_addPart_119 : decode kP_addPart 119 = .ok (.if_icmp .ne 29, 3) := by decide +kernel
theorem dP_addPart_122 : decode kP_addPart 122 = .ok (.aload 5, 2) := by decide +kernel
theorem dP_addPart_124 : decode kP_addPart 124 = .ok (.iload 12, 2) := by decide +kernel
theorem dP_addPart_126 : decode kP_addPart 126 = .ok (.aload_n 0, 1) := by decide +kernel
theorem dP_addPart_127 : decode kP_addPart 127 = .ok (.getfield 9, 3) := by decide +kernel
theorem dP_addPart_130 : decode kP_addPart 130 = .ok (.irem, 1) := by decide +kernel
theorem dP_addPart_131 : decode kP_addPart 131 = .ok (.aaload, 1) := by decide +kernel
theorem dP_addPart_132 : decode kP_addPart 132 = .ok (.iload 12, 2) := by decide +kernel
theorem dP_addPart_134 : decode kP_addPart 134 = .ok (.aload_n 0, 1) := by decide +kernel
theorem dP_addPart_135 : decode kP_addPart 135 = .ok (.getfield 9, 3) := by decide +kernel
theorem dP_addPart_138 : decode kP_addPart 138 = .ok (.idiv, 1) := by decide +kernel
theorem dP_addPart_139 : decode kP_addPart 139 = .ok (.dup2, 1) := by decide +kernel
theorem dP_addPart_140 : decode kP_addPart 140 = .ok (.iaload, 1) := by decide +kernel
theorem dP_addPart_141 : decode kP_addPart 141 = .ok (.iload 13, 2) := by decide +kernel
theorem dP_addPart_143 : decode kP_addPart 143 = .ok (.iadd, 1) := by decide +kernel
theorem dP_addPart_144 : decode kP_addPart 144 = .ok (.iastore, 1) := by decide +kernel
theorem dP_addPart_145 : decode kP_addPart 145 = .ok (.goto 16, 3) := by decide +kernel
theorem dP_addPart_148 : decode kP_addPart 148 = .ok (.aload 5, 2) := by decide +kernel
theorem dP_addPart_150 : decode kP_addPart 150 = .ok (.iload 4, 2) := by decide +kernel
theorem dP_addPart_152 : decode kP_addPart 152 = .ok (.aaload, 1) := by decide +kernel
theorem dP_addPart_153 : decode kP_addPart 153 = .ok (.iload 12, 2) := by decide +kernel
theorem dP_addPart_155 : decode kP_addPart 155 = .ok (.dup2, 1) := by decide +kernel
theorem dP_addPart_156 : decode kP_addPart 156 = .ok (.iaload, 1) := by decide +kernel
theorem dP_addPart_157 : decode kP_addPart 157 = .ok (.iload 13, 2) := by decide +kernel
theorem dP_addPart_159 : decode kP_addPart 159 = .ok (.iadd, 1) := by decide +kernel
theorem dP_addPart_160 : decode kP_addPart 160 = .ok (.iastore, 1) := by decide +kernel
theorem dP_addPart_161 : decode kP_addPart 161 = .ok (.iinc 10 1, 3) := by decide +kernel
theorem dP_addPart_164 : decode kP_addPart 164 = .ok (.goto (-113), 3) := by decide +kernel
theorem dP_addPart_167 : decode kP_addPart 167 = .ok (.iinc 8 1, 3) := by decide +kernel
theorem dP_addPart_170 : decode kP_addPart 170 = .ok (.goto (-143), 3) := by decide +kernel
theorem dP_addPart_173 : decode kP_addPart 173 = .ok (.return_, 1) := by decide +kernel
def wb_P_addPart_88 (θ : TH) (a0_27 : Nat) (a1_27 : Nat) (a2_27 : Nat) (x4_27 : Int32) (a5_27 : Nat) (x6_27 : Int32) (x7_27 : Int32) (x8_51 : Int32) (x9_51 : Int32) (x10_88 : Int32) (z0_88 : Int32) (kb27 : Int32 → VT → UT → Prop) (kb51 : Int32 → VT → UT → Prop) (K : VT → UT → Prop) (V : VT) (U : UT) : Prop := ∀ y_17 : Int32, y_17 = (x6_27 + z0_88) → isO θ a2_27 8 ∧ (U a2_27 7) ≠ 0 ∧ ∃ n_20, isA θ (U a2_27 7) 0 n_20 ∧ vp_in ((x9_51 * (V a2_27 1)) + x10_88) n_20 ∧ ∀ y_23 : Int32, y_23 = (V (U a2_27 7) ((x9_51 * (V a2_27 1)) + x10_88).toNatClampNeg) → isO θ a0_27 10 ∧ ((¬ (V a0_27 1) = (2 : Int32) → ∃ n_26, isR θ a5_27 6 n_26 ∧ vp_in x4_27 n_26 ∧ (U a5_27 x4_27.toNatClampNeg) ≠ 0 ∧ ∃ n_30, isA θ (U a5_27 x4_27.toNatClampNeg) 0 n_30 ∧ vp_in y_17 n_30 ∧ ∀ V_33 : VT, V_33 = up2 V (U a5_27 x4_27.toNatClampNeg) y_17.toNatClampNeg ((V (U a5_27 x4_27.toNatClampNeg) y_17.toNatClampNeg) + y_23) → ∀ y_34 : Int32, y_34 = x10_88 + (1 : Int32) → kb51 y_34 V_33 U) ∧ ((V a0_27 1) = (2 : Int32) → ¬ (V a0_27 0) = 0 ∧ ∃ n_36, isR θ a5_27 6 n_36 ∧ vp_in (y_17 - y_17 / (V a0_27 0) * (V a0_27 0)) n_36 ∧ (U a5_27 (y_17 - y_17 / (V a0_27 0) * (V a0_27 0)).toNatClampNeg) ≠ 0 ∧ ∀ y_40 : Int32, y_40 = (y_17 / (V a0_27 0)) → ∃ n_41, isA θ (U a5_27 (y_17 - y_17 / (V a0_27 0) * (V a0_27 0)).toNatClampNeg) 0 n_41 ∧ vp_in y_40 n_41 ∧ ∀ V_44 : VT, V_44 = up2 V (U a5_27 (y_17 - y_17 / (V a0_27 0) * (V a0_27 0)).toNatClampNeg) y_40.toNatClampNeg ((V (U a5_27 (y_17 - y_17 / (V a0_27 0) * (V a0_27 0)).toNatClampNeg) y_40.toNatClampNeg) + y_23) → ∀ y_45 : Int32, y_45 = x10_88 + (1 : Int32) → kb51 y_45 V_44 U))
def bl_P_addPart_51 (θ : TH) (a0_27 : Nat) (a1_27 : Nat) (a2_27 : Nat) (x4_27 : Int32) (a5_27 : Nat) (x6_27 : Int32) (x7_27 : Int32) (x8_51 : Int32) (x9_51 : Int32) (kb27 : Int32 → VT → UT → Prop) (K : VT → UT → Prop) (kb51 : Int32 → VT → UT → Prop) (x10_51 : Int32) (V : VT) (U : UT) : Prop := isO θ a2_27 8 ∧ (((V a2_27 1) ≤ x10_51 → ∀ y_14 : Int32, y_14 = x8_51 + (1 : Int32) → kb27 y_14 V U) ∧ (¬ (V a2_27 1) ≤ x10_51 → isO θ a0_27 10 ∧ ((¬ (V a0_27 1) = 0 → wb_P_addPart_88 θ a0_27 a1_27 a2_27 x4_27 a5_27 x6_27 x7_27 x8_51 x9_51 x10_51 ((x8_51 * (V a2_27 1)) + x10_51) kb27 kb51 K V U) ∧ ((V a0_27 1) = 0 → wb_P_addPart_88 θ a0_27 a1_27 a2_27 x4_27 a5_27 x6_27 x7_27 x8_51 x9_51 x10_51 (x8_51 + (x10_51 * x7_27)) kb27 kb51 K V U))))
def wl_P_addPart_51 (θ : TH) (a0_27 : Nat) (a1_27 : Nat) (a2_27 : Nat) (x4_27 : Int32) (a5_27 : Nat) (x6_27 : Int32) (x7_27 : Int32) (x8_51 : Int32) (x9_51 : Int32) (kb27 : Int32 → VT → UT → Prop) (K : VT → UT → Prop) : Nat → Int32 → VT → UT → Prop
  | 0, _, _, _ => False
  | n + 1, x10_51, V, U => bl_P_addPart_51 θ a0_27 a1_27 a2_27 x4_27 a5_27 x6_27 x7_27 x8_51 x9_51 kb27 K (wl_P_addPart_51 θ a0_27 a1_27 a2_27 x4_27 a5_27 x6_27 x7_27 x8_51 x9_51 kb27 K n) x10_51 V U
def bl_P_addPart_27 (θ : TH) (a0_27 : Nat) (a1_27 : Nat) (a2_27 : Nat) (x4_27 : Int32) (a5_27 : Nat) (x6_27 : Int32) (x7_27 : Int32) (K : VT → UT → Prop) (kb27 : Int32 → VT → UT → Prop) (x8_27 : Int32) (V : VT) (U : UT) : Prop := ((x7_27 ≤ x8_27 → K V U) ∧ (¬ x7_27 ≤ x8_27 → isO θ a2_27 8 ∧ wp_B_readEntry θ a2_27 a1_27 V U (fun r_10 V_7 U_8 => ((¬ r_10 = (-1 : Int32) → ∃ n, wl_P_addPart_51 θ a0_27 a1_27 a2_27 x4_27 a5_27 x6_27 x7_27 x8_27 r_10 kb27 K n (0 : Int32) V_7 U_8) ∧ (r_10 = (-1 : Int32) → K V_7 U_8)))))
def wl_P_addPart_27 (θ : TH) (a0_27 : Nat) (a1_27 : Nat) (a2_27 : Nat) (x4_27 : Int32) (a5_27 : Nat) (x6_27 : Int32) (x7_27 : Int32) (K : VT → UT → Prop) : Nat → Int32 → VT → UT → Prop
  | 0, _, _, _ => False
  | n + 1, x8_27, V, U => bl_P_addPart_27 θ a0_27 a1_27 a2_27 x4_27 a5_27 x6_27 x7_27 K (wl_P_addPart_27 θ a0_27 a1_27 a2_27 x4_27 a5_27 x6_27 x7_27 K n) x8_27 V U
def wp_P_addPart (θ : TH) (a0 : Nat) (a1 : Nat) (a2 : Nat) (x3 : Int32) (x4 : Int32) (a5 : Nat) (V : VT) (U : UT) (K : VT → UT → Prop) : Prop := isO θ a0 10 ∧ ∀ y_2 : Int32, y_2 = ((V a0 2) + (x3 * (V a0 4))) → isO θ a2 8 ∧ ¬ (V a2 1) = 0 ∧ ∀ y_5 : Int32, y_5 = ((V a0 4) / (V a2 1)) → ∃ n, wl_P_addPart_27 θ a0 a1 a2 x4 a5 y_2 y_5 K n (0 : Int32) V U
set_option maxRecDepth 100000 in
set_option maxHeartbeats 4000000 in
theorem c_P_addPart (l : Launch) (θ : TH) (a0 : Nat) (a1 : Nat) (a2 : Nat) (x3 : Int32) (x4 : Int32) (a5 : Nat) (V : VT) (U : UT) (K : VT → UT → Prop) (hw : wp_P_addPart θ a0 a1 a2 x3 x4 a5 V U K) : CMv l yP_addPart kP_addPart 14 none rmP_addPart θ [.ref a0, .ref a1, .ref a2, .int x3, .int x4, .ref a5] V U K := by
  refine g_met nRP (by decide +kernel) rfl (Nat.le_of_ble_eq_true rfl) (fun p e s m args below meth c ls hC hr hlk hwo hl => ?_)
  have hx := hC.1
  have hb := hC.2.1
  have hS : Sx θ s s.heap [] := va_S.rf
  have hl : lv_has ls 14 [(0, .ref a0), (1, .ref a1), (2, .ref a2), (3, .int x3), (4, .int x4), (5, .ref a5)] := hl
  have L27 : ∀ (a0_27 : Nat) (a1_27 : Nat) (a2_27 : Nat) (x4_27 : Int32) (a5_27 : Nat) (x6_27 : Int32) (x7_27 : Int32) (n27 : Nat) (x8_27 : Int32) (V : VT) (U : UT) (H : Heap) (locs : List Loc) (ls : Array Slot), wl_P_addPart_27 θ a0_27 a1_27 a2_27 x4_27 a5_27 x6_27 x7_27 K n27 x8_27 V U → wo θ V U H → Sx θ s H locs → lv_has ls 14 [(0, .ref a0_27), (1, .ref a1_27), (2, .ref a2_27), (4, .int x4_27), (5, .ref a5_27), (6, .int x6_27), (7, .int x7_27), (8, .int x8_27)] → W p l e rmP_addPart s m args below meth c H locs 0 0 (MQ below (QV θ K) args s 0 0 (aT θ)) (F0 m 27 ls []) := by
    intro a0_27 a1_27 a2_27 x4_27 a5_27 x6_27 x7_27 n27
    induction n27 with
    | zero => intro x8_27 V U H locs ls hw hwo hS hl; exact (show False from hw).elim
    | succ n27 ih27 =>
      have L51 : ∀ (x8_51 : Int32) (x9_51 : Int32) (n51 : Nat) (x10_51 : Int32) (V : VT) (U : UT) (H : Heap) (locs : List Loc) (ls : Array Slot), wl_P_addPart_51 θ a0_27 a1_27 a2_27 x4_27 a5_27 x6_27 x7_27 x8_51 x9_51 (wl_P_addPart_27 θ a0_27 a1_27 a2_27 x4_27 a5_27 x6_27 x7_27 K n27) K n51 x10_51 V U → wo θ V U H → Sx θ s H locs → lv_has ls 14 [(0, .ref a0_27), (1, .ref a1_27), (2, .ref a2_27), (4, .int x4_27), (5, .ref a5_27), (6, .int x6_27), (7, .int x7_27), (8, .int x8_51), (9, .int x9_51), (10, .int x10_51)] → W p l e rmP_addPart s m args below meth c H locs 0 0 (MQ below (QV θ K) args s 0 0 (aT θ)) (F0 m 51 ls []) := by
        intro x8_51 x9_51 n51
        induction n51 with
        | zero => intro x10_51 V U H locs ls hw hwo hS hl; exact (show False from hw).elim
        | succ n51 ih51 =>
          have J88 : ∀ (x10_88 : Int32) (z0_88 : Int32) (V : VT) (U : UT) (H : Heap) (locs : List Loc) (ls : Array Slot), wb_P_addPart_88 θ a0_27 a1_27 a2_27 x4_27 a5_27 x6_27 x7_27 x8_51 x9_51 x10_88 z0_88 (wl_P_addPart_27 θ a0_27 a1_27 a2_27 x4_27 a5_27 x6_27 x7_27 K n27) (wl_P_addPart_51 θ a0_27 a1_27 a2_27 x4_27 a5_27 x6_27 x7_27 x8_51 x9_51 (wl_P_addPart_27 θ a0_27 a1_27 a2_27 x4_27 a5_27 x6_27 x7_27 K n27) K n51) K V U → wo θ V U H → Sx θ s H locs → lv_has ls 14 [(0, .ref a0_27), (1, .ref a1_27), (2, .ref a2_27), (4, .int x4_27), (5, .ref a5_27), (6, .int x6_27), (7, .int x7_27), (8, .int x8_51), (9, .int x9_51), (10, .int x10_88)] → W p l e rmP_addPart s m args below meth c H locs 0 0 (MQ below (QV θ K) args s 0 0 (aT θ)) (F0 m 88 ls [.int z0_88]) := by
            intro x10_88 z0_88 V U H locs ls hw hwo hS hl
            unfold wb_P_addPart_88 at hw
            refine lv_istore (i := 11) (lv' := [(11, .int z0_88), (0, .ref a0_27), (1, .ref a1_27), (2, .ref a2_27), (4, .int x4_27), (5, .ref a5_27), (6, .int x6_27), (7, .int x7_27), (8, .int x8_51), (9, .int x9_51), (10, .int x10_88)]) hx hb dP_addPart_88 hl (by decide) rfl (fun ls hl => ?_)
            refine lv_iload hx hb dP_addPart_90 (lv_at hl 6 rfl) ?_
            refine lv_iload hx hb dP_addPart_92 (lv_at hl 0 rfl) ?_
            refine lv_iadd hx hb dP_addPart_94 ?_
            refine lv_topi (fun y_17 ey_17 => ?_)
            replace hw := hw y_17 ey_17
            refine lv_istore (i := 12) (lv' := [(12, .int y_17), (11, .int z0_88), (0, .ref a0_27), (1, .ref a1_27), (2, .ref a2_27), (4, .int x4_27), (5, .ref a5_27), (6, .int x6_27), (7, .int x7_27), (8, .int x8_51), (9, .int x9_51), (10, .int x10_88)]) hx hb dP_addPart_95 hl (by decide) rfl (fun ls hl => ?_)
            refine lv_aload_n hx hb dP_addPart_97 rfl (lv_at hl 4 rfl) ?_
            obtain ⟨ho_18, hw⟩ := hw
            obtain ⟨hz_19, hw⟩ := hw
            refine g_getR hC fkP_99 rfl hwo ho_18 hz_19 dP_addPart_98 ?_
            refine lv_iload hx hb dP_addPart_101 (lv_at hl 10 rfl) ?_
            refine lv_aload_n hx hb dP_addPart_103 rfl (lv_at hl 4 rfl) ?_
            refine g_getI hC fkP_68 rfl hwo ho_18 dP_addPart_104 ?_
            refine lv_imul hx hb dP_addPart_107 ?_
            refine lv_iload hx hb dP_addPart_108 (lv_at hl 11 rfl) ?_
            refine lv_iadd hx hb dP_addPart_110 ?_
            obtain ⟨n_20, ha_21, hw⟩ := hw
            obtain ⟨hi_22, hw⟩ := hw
            refine g_iald hC hwo ha_21 hi_22 dP_addPart_111 ?_
            refine lv_topi (fun y_23 ey_23 => ?_)
            replace hw := hw y_23 ey_23
            refine lv_istore (i := 13) (lv' := [(13, .int y_23), (12, .int y_17), (11, .int z0_88), (0, .ref a0_27), (1, .ref a1_27), (2, .ref a2_27), (4, .int x4_27), (5, .ref a5_27), (6, .int x6_27), (7, .int x7_27), (8, .int x8_51), (9, .int x9_51), (10, .int x10_88)]) hx hb dP_addPart_112 hl (by decide) rfl (fun ls hl => ?_)
            refine lv_aload_n hx hb dP_addPart_114 rfl (lv_at hl 3 rfl) ?_
            obtain ⟨ho_24, hw⟩ := hw
            refine g_getI hC fkP_39 rfl hwo ho_24 dP_addPart_115 ?_
            refine lv_iconst (v := 2) hx hb dP_addPart_118 (by decide) ?_
            refine lv_icmp_ne (tgt := 148) hx hb dP_addPart_119 (by decide) (fun hc_25 => ?_) (fun hc_25 => ?_)
            · replace hw := hw.1 hc_25
              refine lv_aload hx hb dP_addPart_148 (lv_at hl 7 rfl) ?_
              refine lv_iload hx hb dP_addPart_150 (lv_at hl 6 rfl) ?_
              obtain ⟨n_26, ha_27, hw⟩ := hw
              obtain ⟨hi_28, hw⟩ := hw
              obtain ⟨hz_29, hw⟩ := hw
              refine g_aald hC hwo (t := 6) (by decide) rfl ha_27 hi_28 hz_29 dP_addPart_152 ?_
              refine lv_iload hx hb dP_addPart_153 (lv_at hl 1 rfl) ?_
              refine lv_dup2_11 hx hb dP_addPart_155 rfl rfl ?_
              obtain ⟨n_30, ha_31, hw⟩ := hw
              obtain ⟨hi_32, hw⟩ := hw
              refine g_iald hC hwo ha_31 hi_32 dP_addPart_156 ?_
              refine lv_iload hx hb dP_addPart_157 (lv_at hl 0 rfl) ?_
              refine lv_iadd hx hb dP_addPart_159 ?_
              refine g_iast hC hwo hS ha_31 hi_32 dP_addPart_160 (fun V_33 eV_33 H locs hwo hS => ?_)
              replace hw := hw V_33 eV_33
              obtain ⟨y_34, ey_34⟩ : ∃ z : Int32, z = x10_88 + (1 : Int32) := ⟨_, rfl⟩
              replace hw := hw y_34 ey_34
              refine lv_iinc (k := 12) (v := y_34) (lv' := [(10, .int y_34), (13, .int y_23), (12, .int y_17), (11, .int z0_88), (0, .ref a0_27), (1, .ref a1_27), (2, .ref a2_27), (4, .int x4_27), (5, .ref a5_27), (6, .int x6_27), (7, .int x7_27), (8, .int x8_51), (9, .int x9_51)]) hx hb dP_addPart_161 hl rfl (by rw [ey_34]; rfl) (by decide) rfl (fun ls hl => ?_)
              refine lv_goto (tgt := 51) hx hb dP_addPart_164 (by decide) ?_
              exact ih51 _ _ _ _ _ _ hw hwo hS (lv_sub hl [4, 5, 6, 7, 8, 9, 10, 11, 12, 0] rfl)
            · replace hw := hw.2 hc_25
              refine lv_aload hx hb dP_addPart_122 (lv_at hl 7 rfl) ?_
              refine lv_iload hx hb dP_addPart_124 (lv_at hl 1 rfl) ?_
              refine lv_aload_n hx hb dP_addPart_126 rfl (lv_at hl 3 rfl) ?_
              refine g_getI hC fkP_9 rfl hwo ho_24 dP_addPart_127 ?_
              obtain ⟨hd_35, hw⟩ := hw
              refine lv_irem hx hb dP_addPart_130 hd_35 ?_
              obtain ⟨n_36, ha_37, hw⟩ := hw
              obtain ⟨hi_38, hw⟩ := hw
              obtain ⟨hz_39, hw⟩ := hw
              refine g_aald hC hwo (t := 6) (by decide) rfl ha_37 hi_38 hz_39 dP_addPart_131 ?_
              refine lv_iload hx hb dP_addPart_132 (lv_at hl 1 rfl) ?_
              refine lv_aload_n hx hb dP_addPart_134 rfl (lv_at hl 3 rfl) ?_
              refine g_getI hC fkP_9 rfl hwo ho_24 dP_addPart_135 ?_
              refine lv_idiv hx hb dP_addPart_138 hd_35 ?_
              refine lv_topi (fun y_40 ey_40 => ?_)
              replace hw := hw y_40 ey_40
              refine lv_dup2_11 hx hb dP_addPart_139 rfl rfl ?_
              obtain ⟨n_41, ha_42, hw⟩ := hw
              obtain ⟨hi_43, hw⟩ := hw
              refine g_iald hC hwo ha_42 hi_43 dP_addPart_140 ?_
              refine lv_iload hx hb dP_addPart_141 (lv_at hl 0 rfl) ?_
              refine lv_iadd hx hb dP_addPart_143 ?_
              refine g_iast hC hwo hS ha_42 hi_43 dP_addPart_144 (fun V_44 eV_44 H locs hwo hS => ?_)
              replace hw := hw V_44 eV_44
              refine lv_goto (tgt := 161) hx hb dP_addPart_145 (by decide) ?_
              obtain ⟨y_45, ey_45⟩ : ∃ z : Int32, z = x10_88 + (1 : Int32) := ⟨_, rfl⟩
              replace hw := hw y_45 ey_45
              refine lv_iinc (k := 12) (v := y_45) (lv' := [(10, .int y_45), (13, .int y_23), (12, .int y_17), (11, .int z0_88), (0, .ref a0_27), (1, .ref a1_27), (2, .ref a2_27), (4, .int x4_27), (5, .ref a5_27), (6, .int x6_27), (7, .int x7_27), (8, .int x8_51), (9, .int x9_51)]) hx hb dP_addPart_161 hl rfl (by rw [ey_45]; rfl) (by decide) rfl (fun ls hl => ?_)
              refine lv_goto (tgt := 51) hx hb dP_addPart_164 (by decide) ?_
              exact ih51 _ _ _ _ _ _ hw hwo hS (lv_sub hl [4, 5, 6, 7, 8, 9, 10, 11, 12, 0] rfl)
          intro x10_51 V U H locs ls hw hwo hS hl
          replace hw : bl_P_addPart_51 θ a0_27 a1_27 a2_27 x4_27 a5_27 x6_27 x7_27 x8_51 x9_51 (wl_P_addPart_27 θ a0_27 a1_27 a2_27 x4_27 a5_27 x6_27 x7_27 K n27) K (wl_P_addPart_51 θ a0_27 a1_27 a2_27 x4_27 a5_27 x6_27 x7_27 x8_51 x9_51 (wl_P_addPart_27 θ a0_27 a1_27 a2_27 x4_27 a5_27 x6_27 x7_27 K n27) K n51) x10_51 V U := hw
          unfold bl_P_addPart_51 at hw
          refine lv_iload hx hb dP_addPart_51 (lv_at hl 9 rfl) ?_
          refine lv_aload_n hx hb dP_addPart_53 rfl (lv_at hl 2 rfl) ?_
          obtain ⟨ho_12, hw⟩ := hw
          refine g_getI hC fkP_68 rfl hwo ho_12 dP_addPart_54 ?_
          refine lv_icmp_ge (tgt := 167) hx hb dP_addPart_57 (by decide) (fun hc_13 => ?_) (fun hc_13 => ?_)
          · replace hw := hw.1 hc_13
            obtain ⟨y_14, ey_14⟩ : ∃ z : Int32, z = x8_51 + (1 : Int32) := ⟨_, rfl⟩
            replace hw := hw y_14 ey_14
            refine lv_iinc (k := 7) (v := y_14) (lv' := [(8, .int y_14), (0, .ref a0_27), (1, .ref a1_27), (2, .ref a2_27), (4, .int x4_27), (5, .ref a5_27), (6, .int x6_27), (7, .int x7_27), (9, .int x9_51), (10, .int x10_51)]) hx hb dP_addPart_167 hl rfl (by rw [ey_14]; rfl) (by decide) rfl (fun ls hl => ?_)
            refine lv_goto (tgt := 27) hx hb dP_addPart_170 (by decide) ?_
            exact ih27 _ _ _ _ _ _ hw hwo hS (lv_sub hl [1, 2, 3, 4, 5, 6, 7, 0] rfl)
          · replace hw := hw.2 hc_13
            refine lv_aload_n hx hb dP_addPart_60 rfl (lv_at hl 0 rfl) ?_
            obtain ⟨ho_15, hw⟩ := hw
            refine g_getI hC fkP_39 rfl hwo ho_15 dP_addPart_61 ?_
            refine lv_if_ne (tgt := 78) hx hb dP_addPart_64 (by decide) (fun hc_16 => ?_) (fun hc_16 => ?_)
            · replace hw := hw.1 hc_16
              refine lv_iload hx hb dP_addPart_78 (lv_at hl 7 rfl) ?_
              refine lv_aload_n hx hb dP_addPart_80 rfl (lv_at hl 2 rfl) ?_
              refine g_getI hC fkP_68 rfl hwo ho_12 dP_addPart_81 ?_
              refine lv_imul hx hb dP_addPart_84 ?_
              refine lv_iload hx hb dP_addPart_85 (lv_at hl 9 rfl) ?_
              refine lv_iadd hx hb dP_addPart_87 ?_
              exact J88 _ _ _ _ _ _ _ hw hwo hS (lv_sub hl [0, 1, 2, 3, 4, 5, 6, 7, 8, 9] rfl)
            · replace hw := hw.2 hc_16
              refine lv_iload hx hb dP_addPart_67 (lv_at hl 7 rfl) ?_
              refine lv_iload hx hb dP_addPart_69 (lv_at hl 9 rfl) ?_
              refine lv_iload hx hb dP_addPart_71 (lv_at hl 6 rfl) ?_
              refine lv_imul hx hb dP_addPart_73 ?_
              refine lv_iadd hx hb dP_addPart_74 ?_
              refine lv_goto (tgt := 88) hx hb dP_addPart_75 (by decide) ?_
              exact J88 _ _ _ _ _ _ _ hw hwo hS (lv_sub hl [0, 1, 2, 3, 4, 5, 6, 7, 8, 9] rfl)
      intro x8_27 V U H locs ls hw hwo hS hl
      replace hw : bl_P_addPart_27 θ a0_27 a1_27 a2_27 x4_27 a5_27 x6_27 x7_27 K (wl_P_addPart_27 θ a0_27 a1_27 a2_27 x4_27 a5_27 x6_27 x7_27 K n27) x8_27 V U := hw
      unfold bl_P_addPart_27 at hw
      refine lv_iload hx hb dP_addPart_27 (lv_at hl 7 rfl) ?_
      refine lv_iload hx hb dP_addPart_29 (lv_at hl 6 rfl) ?_
      refine lv_icmp_ge (tgt := 173) hx hb dP_addPart_31 (by decide) (fun hc_6 => ?_) (fun hc_6 => ?_)
      · replace hw := hw.1 hc_6
        exact g_vret hC hr hlk hw hwo hS dP_addPart_173
      · replace hw := hw.2 hc_6
        refine lv_aload_n hx hb dP_addPart_34 rfl (lv_at hl 2 rfl) ?_
        refine lv_aload_n hx hb dP_addPart_35 rfl (lv_at hl 1 rfl) ?_
        obtain ⟨ho_9, hw⟩ := hw
        refine g_Vi (rest := []) hC (c_B_readEntry l θ _ _ _ _ _ hw) mi_B_readEntry mlP_95 mv_B_readEntry ci_8 ho_9 hwo hS ⟨rfl, rfl⟩ ⟨by decide, by decide⟩ rfl hl.1 rfl (Nat.le_of_ble_eq_true rfl) dP_addPart_36 (fun r_10 V_7 U_8 hw H locs hwo hS => ?_)
        refine lv_istore (i := 9) (lv' := [(9, .int r_10), (0, .ref a0_27), (1, .ref a1_27), (2, .ref a2_27), (4, .int x4_27), (5, .ref a5_27), (6, .int x6_27), (7, .int x7_27), (8, .int x8_27)]) hx hb dP_addPart_39 hl (by decide) rfl (fun ls hl => ?_)
        refine lv_iload hx hb dP_addPart_41 (lv_at hl 0 rfl) ?_
        refine lv_iconst (v := -1) hx hb dP_addPart_43 (by decide) ?_
        refine lv_icmp_ne (tgt := 48) hx hb dP_addPart_44 (by decide) (fun hc_11 => ?_) (fun hc_11 => ?_)
        · replace hw := hw.1 hc_11
          refine lv_iconst (v := 0) hx hb dP_addPart_48 (by decide) ?_
          refine lv_istore (i := 10) (lv' := [(10, .int (0 : Int32)), (9, .int r_10), (0, .ref a0_27), (1, .ref a1_27), (2, .ref a2_27), (4, .int x4_27), (5, .ref a5_27), (6, .int x6_27), (7, .int x7_27), (8, .int x8_27)]) hx hb dP_addPart_49 hl (by decide) rfl (fun ls hl => ?_)
          obtain ⟨n, hw⟩ := hw
          exact L51 _ _ n _ _ _ _ _ _ hw hwo hS (lv_sub hl [2, 3, 4, 5, 6, 7, 8, 9, 1, 0] rfl)
        · replace hw := hw.2 hc_11
          exact g_vret hC hr hlk hw hwo hS dP_addPart_47
  unfold wp_P_addPart at hw
  refine lv_aload_n hx hb dP_addPart_0 rfl (lv_at hl 0 rfl) ?_
  obtain ⟨ho_1, hw⟩ := hw
  refine g_getI hC fkP_42 rfl hwo ho_1 dP_addPart_1 ?_
  refine lv_iload_n hx hb dP_addPart_4 rfl (lv_at hl 3 rfl) ?_
  refine lv_aload_n hx hb dP_addPart_5 rfl (lv_at hl 0 rfl) ?_
  refine g_getI hC fkP_15 rfl hwo ho_1 dP_addPart_6 ?_
  refine lv_imul hx hb dP_addPart_9 ?_
  refine lv_iadd hx hb dP_addPart_10 ?_
  refine lv_topi (fun y_2 ey_2 => ?_)
  replace hw := hw y_2 ey_2
  refine lv_istore (i := 6) (lv' := [(6, .int y_2), (0, .ref a0), (1, .ref a1), (2, .ref a2), (3, .int x3), (4, .int x4), (5, .ref a5)]) hx hb dP_addPart_11 hl (by decide) rfl (fun ls hl => ?_)
  refine lv_aload_n hx hb dP_addPart_13 rfl (lv_at hl 1 rfl) ?_
  refine g_getI hC fkP_15 rfl hwo ho_1 dP_addPart_14 ?_
  refine lv_aload_n hx hb dP_addPart_17 rfl (lv_at hl 3 rfl) ?_
  obtain ⟨ho_3, hw⟩ := hw
  refine g_getI hC fkP_68 rfl hwo ho_3 dP_addPart_18 ?_
  obtain ⟨hd_4, hw⟩ := hw
  refine lv_idiv hx hb dP_addPart_21 hd_4 ?_
  refine lv_topi (fun y_5 ey_5 => ?_)
  replace hw := hw y_5 ey_5
  refine lv_istore (i := 7) (lv' := [(7, .int y_5), (6, .int y_2), (0, .ref a0), (1, .ref a1), (2, .ref a2), (3, .int x3), (4, .int x4), (5, .ref a5)]) hx hb dP_addPart_22 hl (by decide) rfl (fun ls hl => ?_)
  refine lv_iconst (v := 0) hx hb dP_addPart_24 (by decide) ?_
  refine lv_istore (i := 8) (lv' := [(8, .int (0 : Int32)), (7, .int y_5), (6, .int y_2), (0, .ref a0), (1, .ref a1), (2, .ref a2), (3, .int x3), (4, .int x4), (5, .ref a5)]) hx hb dP_addPart_25 hl (by decide) rfl (fun ls hl => ?_)
  obtain ⟨n, hw⟩ := hw
  exact L27 _ _ _ _ _ _ _ n _ _ _ _ _ _ hw hwo hS (lv_sub hl [3, 4, 5, 7, 8, 2, 1, 0] rfl)
theorem dP_decode_0 : decode kP_decode 0 = .ok (.aload_n 0, 1) := by decide +kernel
theorem dP_decode_1 : decode kP_decode 1 = .ok (.iload_n 3, 1) := by decide +kernel
theorem dP_decode_2 : decode kP_decode 2 = .ok (.invokevirtual 71, 3) := by decide +kernel
theorem dP_decode_5 : decode kP_decode 5 = .ok (.aload_n 0, 1) := by decide +kernel
theorem dP_decode_6 : decode kP_decode 6 = .ok (.getfield 39, 3) := by decide +kernel
theorem dP_decode_9 : decode kP_decode 9 = .ok (.iconst 2, 1) := by decide +kernel
theorem dP_decode_10 : decode kP_decode 10 = .ok (.if_icmp .ne 13, 3) := by decide +kernel
theorem dP_decode_13 : decode kP_decode 13 = .ok (.aload_n 0, 1) := by decide +kernel
theorem dP_decode_14 : decode kP_decode 14 = .ok (.getfield 9, 3) := by decide +kernel
theorem dP_decode_17 : decode kP_decode 17 = .ok (.iload 5, 2) := by decide +kernel
theorem dP_decode_19 : decode kP_decode 19 = .ok (.imul, 1) := by decide +kernel
theorem dP_decode_20 : decode kP_decode 20 = .ok (.goto 5, 3) := by decide +kernel
theorem dP_decode_23 : decode kP_decode 23 = .ok (.iload 5, 2) := by decide +kernel
theorem dP_decode_25 : decode kP_decode 25 = .ok (.istore 6, 2) := by decide +kernel
theorem dP_decode_27 : decode kP_decode 27 = .ok (.aload_n 0, 1) := by decide +kernel
theorem dP_decode_28 : decode kP_decode 28 = .ok (.getfield 45, 3) := by decide +kernel
theorem dP_decode_31 : decode kP_decode 31 = .ok (.iload 6, 2) := by decide +kernel
theorem dP_decode_33 : decode kP_decode 33 = .ok (.invokestatic 75, 3) := by decide +kernel
theorem dP_decode_36 : decode kP_decode 36 = .ok (.aload_n 0, 1) := by decide +kernel
theorem dP_decode_37 : decode kP_decode 37 = .ok (.getfield 42, 3) := by decide +kernel
theorem dP_decode_40 : decode kP_decode 40 = .ok (.iload 6, 2) := by decide +kernel
theorem dP_decode_42 : decode kP_decode 42 = .ok (.invokestatic 75, 3) := by decide +kernel
theorem dP_decode_45 : decode kP_decode 45 = .ok (.isub, 1) := by decide +kernel
theorem dP_decode_46 : decode kP_decode 46 = .ok (.aload_n 0, 1) := by decide +kernel
theorem dP_decode_47 : decode kP_decode 47 = .ok (.getfield 15, 3) := by decide +kernel
theorem dP_decode_50 : decode kP_decode 50 = .ok (.idiv, 1) := by decide +kernel
theorem dP_decode_51 : decode kP_decode 51 = .ok (.istore 7, 2) := by decide +kernel
theorem dP_decode_53 : decode kP_decode 53 = .ok (.aload_n 2, 1) := by decide +kernel
theorem dP_decode_54 : decode kP_decode 54 = .ok (.aload_n 0, 1) := by decide +kernel
theorem dP_decode_55 : decode kP_decode 55 = .ok (.getfield 48, 3) := by decide +kernel
theorem dP_decode_58 : decode kP_decode 58 = .ok (.aaload, 1) := by decide +kernel
theorem dP_decode_59 : decode kP_decode 59 = .ok (.astore 8, 2) := by decide +kernel
theorem dP_decode_61 : decode kP_decode 61 = .ok (.iconst 0, 1) := by decide +kernel
theorem dP_decode_62 : decode kP_decode 62 = .ok (.istore 9, 2) := by decide +kernel
theorem dP_decode_64 : decode kP_decode 64 = .ok (.iload 9, 2) := by decide +kernel
theorem dP_decode_66 : decode kP_decode 66 = .ok (.iconst 2, 1) := by decide +kernel
theorem dP_decode_67 : decode kP_decode 67 = .ok (.if_icmp .ge 130, 3) := by decide +kernel
theorem dP_decode_70 : decode kP_decode 70 = .ok (.iconst 0, 1) := by decide +kernel
theorem dP_decode_71 : decode kP_decode 71 = .ok (.istore 10, 2) := by decide +kernel
theorem dP_decode_73 : decode kP_decode 73 = .ok (.iload 10, 2) := by decide +kernel
theorem dP_decode_75 : decode kP_decode 75 = .ok (.iload 7, 2) := by decide +kernel
theorem dP_decode_77 : decode kP_decode 77 = .ok (.if_icmp .ge 114, 3) := by decide +kernel
theorem dP_decode_80 : decode kP_decode 80 = .ok (.aload_n 1, 1) := by decide +kernel
theorem dP_decode_81 : decode kP_decode 81 = .ok (.getfield 81, 3) := by decide +kernel
theorem dP_decode_84 : decode kP_decode 84 = .ok (.ifCond .ne 107, 3) := by decide +kernel
theorem dP_decode_87 : decode kP_decode 87 = .ok (.iload 9, 2) := by decide +kernel
theorem dP_decode_89 : decode kP_decode 89 = .ok (.ifCond .ne 23, 3) := by decide +kernel
theorem dP_decode_92 : decode kP_decode 92 = .ok (.iload 10, 2) := by decide +kernel
theorem dP_decode_94 : decode kP_decode 94 = .ok (.aload 8, 2) := by decide +kernel
theorem dP_decode_96 : decode kP_decode 96 = .ok (.getfield 68, 3) := by decide +kernel
theorem dP_decode_99 : decode kP_decode 99 = .ok (.irem, 1) := by decide +kernel
theorem dP_decode_100 : decode kP_decode 100 = .ok (.ifCond .ne 12, 3) := by decide +kernel
theorem dP_decode_103 : decode kP_decode 103 = .ok (.aload_n 0, 1) := by decide +kernel
theorem dP_decode_104 : decode kP_decode 104 = .ok (.aload_n 1, 1) := by decide +kernel
theorem dP_decode_105 : decode kP_decode 105 = .ok (.aload 8, 2) := by decide +kernel
theorem dP_decode_107 : decode kP_decode 107 = .ok (.iload 10, 2) := by decide +kernel
theorem dP_decode_109 : decode kP_decode 109 = .ok (.invokevirtual 84, 3) := by decide +kernel
theorem dP_decode_112 : decode kP_decode 112 = .ok (.iconst 0, 1) := by decide +kernel
theorem dP_decode_113 : decode kP_decode 113 = .ok (.istore 11, 2) := by decide +kernel
theorem dP_decode_115 : decode kP_decode 115 = .ok (.iload 11, 2) := by decide +kernel
theorem dP_decode_117 : decode kP_decode 117 = .ok (.aload_n 0, 1) := by decide +kernel
theorem dP_decode_118 : decode kP_decode 118 = .ok (.getfield 88, 3) := by decide +kernel
theorem dP_decode_121 : decode kP_decode 121 = .ok (.if_icmp .ge 64, 3) := by decide +kernel
theorem dP_decode_124 : decode kP_decode 124 = .ok (.aload_n 1, 1) := by decide +kernel
theorem dP_decode_125 : decode kP_decode 125 = .ok (.getfield 81, 3) := by decide +kernel
theorem dP_decode_128 : decode kP_decode 128 = .ok (.ifCond .ne 57, 3) := by decide +kernel
theorem dP_decode_131 : decode kP_decode 131 = .ok (.aload_n 0, 1) := by decide +kernel
theorem dP_decode_132 : decode kP_decode 132 = .ok (.getfield 21, 3) := by decide +kernel
theorem dP_decode_135 : decode kP_decode 135 = .ok (.aload_n 0, 1) := by decide +kernel
theorem dP_decode_136 : decode kP_decode 136 = .ok (.getfield 30, 3) := by decide +kernel
theorem dP_decode_139 : decode kP_decode 139 = .ok (.iload 11, 2) := by decide +kernel
theorem dP_decode_141 : decode kP_decode 141 = .ok (.aaload, 1) := by decide +kernel
theorem dP_decode_142 : decode kP_decode 142 = .ok (.iload 10, 2) := by decide +kernel
theorem dP_decode_144 : decode kP_decode 144 = .ok (.iaload, 1) := by decide +kernel
theorem dP_decode_145 : decode kP_decode 145 = .ok (.iconst 2, 1) := by decide +kernel
theorem dP_decode_146 : decode kP_decode 146 = .ok (.imul, 1) := by decide +kernel
theorem dP_decode_147 : decode kP_decode 147 = .ok (.iload 9, 2) := by decide +kernel
theorem dP_decode_149 : decode kP_decode 149 = .ok (.iadd, 1) := by decide +kernel
theorem dP_decode_150 : decode kP_decode 150 = .ok (.iaload, 1) := by decide +kernel
theorem dP_decode_151 : decode kP_decode 151 = .ok (.istore 12, 2) := by decide +kernel
theorem dP_decode_153 : decode kP_decode 153 = .ok (.iload 12, 2) := by decide +kernel
theorem dP_decode_155 : decode kP_decode 155 = .ok (.iconst (-1), 1) := by decide +kernel
theorem dP_decode_156 : decode kP_decode 156 = .ok (.if_icmp .eq 23, 3) := by decide +kernel
theorem dP_decode_159 : decode kP_decode 159 = .ok (.aload_n 0, 1) := by decide +kernel
theorem dP_decode_160 : decode kP_decode 160 = .ok (.aload_n 1, 1) := by decide +kernel
theorem dP_decode_161 : decode kP_decode 161 = .ok (.aload_n 2, 1) := by decide +kernel
theorem dP_decode_162 : decode kP_decode 162 = .ok (.iload 12, 2) := by decide +kernel
theorem dP_decode_164 : decode kP_decode 164 = .ok (.aaload, 1) := by decide +kernel
theorem dP_decode_165 : decode kP_decode 165 = .ok (.iload 10, 2) := by decide +kernel
theorem dP_decode_167 : decode kP_decode 167 = .ok (.aload_n 0, 1) := by decide +kernel
theorem dP_decode_168 : decode kP_decode 168 = .ok (.getfield 25, 3) := by decide +kernel
theorem dP_decode_171 : decode kP_decode 171 = .ok (.iload 11, 2) := by decide +kernel
theorem dP_decode_173 : decode kP_decode 173 = .ok (.iaload, 1) := by decide +kernel
theorem dP_decode_174 : decode kP_decode 174 = .ok (.aload 4, 2) := by decide +kernel
theorem dP_decode_176 : decode kP_decode 176 = .ok (.invokevirtual 91, 3) := by decide +kernel
theorem dP_decode_179 : decode kP_decode 179 = .ok (.iinc 11 1, 3) := by decide +kernel
theorem dP_decode_182 : decode kP_decode 182 = .ok (.goto (-67), 3) := by decide +kernel
theorem dP_decode_185 : decode kP_decode 185 = .ok (.iinc 10 1, 3) := by decide +kernel
theorem dP_decode_188 : decode kP_decode 188 = .ok (.goto (-115), 3) := by decide +kernel
theorem dP_decode_191 : decode kP_decode 191 = .ok (.iinc 9 1, 3) := by decide +kernel
theorem dP_decode_194 : decode kP_decode 194 = .ok (.goto (-130), 3) := by decide +kernel
theorem dP_decode_197 : decode kP_decode 197 = .ok (.return_, 1) := by decide +kernel
def bl_P_decode_115 (θ : TH) (a0_64 : Nat) (a1_64 : Nat) (a2_64 : Nat) (a4_64 : Nat) (x7_64 : Int32) (a8_64 : Nat) (x9_73 : Int32) (x10_115 : Int32) (kb64 : Int32 → VT → UT → Prop) (kb73 : Int32 → VT → UT → Prop) (K : VT → UT → Prop) (kb115 : Int32 → VT → UT → Prop) (x11_115 : Int32) (V : VT) (U : UT) : Prop := isO θ a0_64 10 ∧ (((V a0_64 9) ≤ x11_115 → ∀ y_28 : Int32, y_28 = x10_115 + (1 : Int32) → kb73 y_28 V U) ∧ (¬ (V a0_64 9) ≤ x11_115 → isO θ a1_64 7 ∧ ((¬ (V a1_64 6) = 0 → ∀ y_31 : Int32, y_31 = x10_115 + (1 : Int32) → kb73 y_31 V U) ∧ ((V a1_64 6) = 0 → (U a0_64 7) ≠ 0 ∧ (U a0_64 11) ≠ 0 ∧ ∃ n_34, isR θ (U a0_64 11) 6 n_34 ∧ vp_in x11_115 n_34 ∧ (U (U a0_64 11) x11_115.toNatClampNeg) ≠ 0 ∧ ∃ n_38, isA θ (U (U a0_64 11) x11_115.toNatClampNeg) 0 n_38 ∧ vp_in x10_115 n_38 ∧ ∃ n_41, isA θ (U a0_64 7) 0 n_41 ∧ vp_in (((V (U (U a0_64 11) x11_115.toNatClampNeg) x10_115.toNatClampNeg) * (2 : Int32)) + x9_73) n_41 ∧ ∀ y_44 : Int32, y_44 = (V (U a0_64 7) (((V (U (U a0_64 11) x11_115.toNatClampNeg) x10_115.toNatClampNeg) * (2 : Int32)) + x9_73).toNatClampNeg) → ((y_44 = (-1 : Int32) → ∀ y_46 : Int32, y_46 = x11_115 + (1 : Int32) → kb115 y_46 V U) ∧ (¬ y_44 = (-1 : Int32) → ∃ n_47, isR θ a2_64 5 n_47 ∧ vp_in y_44 n_47 ∧ (U a2_64 y_44.toNatClampNeg) ≠ 0 ∧ (U a0_64 10) ≠ 0 ∧ ∃ n_52, isA θ (U a0_64 10) 0 n_52 ∧ vp_in x11_115 n_52 ∧ wp_P_addPart θ a0_64 a1_64 (U a2_64 y_44.toNatClampNeg) x10_115 (V (U a0_64 10) x11_115.toNatClampNeg) a4_64 V U (fun V_55 U_56 => ∀ y_57 : Int32, y_57 = x11_115 + (1 : Int32) → kb115 y_57 V_55 U_56)))))))
def wl_P_decode_115 (θ : TH) (a0_64 : Nat) (a1_64 : Nat) (a2_64 : Nat) (a4_64 : Nat) (x7_64 : Int32) (a8_64 : Nat) (x9_73 : Int32) (x10_115 : Int32) (kb64 : Int32 → VT → UT → Prop) (kb73 : Int32 → VT → UT → Prop) (K : VT → UT → Prop) : Nat → Int32 → VT → UT → Prop
  | 0, _, _, _ => False
  | n + 1, x11_115, V, U => bl_P_decode_115 θ a0_64 a1_64 a2_64 a4_64 x7_64 a8_64 x9_73 x10_115 kb64 kb73 K (wl_P_decode_115 θ a0_64 a1_64 a2_64 a4_64 x7_64 a8_64 x9_73 x10_115 kb64 kb73 K n) x11_115 V U
def bl_P_decode_73 (θ : TH) (a0_64 : Nat) (a1_64 : Nat) (a2_64 : Nat) (a4_64 : Nat) (x7_64 : Int32) (a8_64 : Nat) (x9_73 : Int32) (kb64 : Int32 → VT → UT → Prop) (K : VT → UT → Prop) (kb73 : Int32 → VT → UT → Prop) (x10_73 : Int32) (V : VT) (U : UT) : Prop := ((x7_64 ≤ x10_73 → ∀ y_15 : Int32, y_15 = x9_73 + (1 : Int32) → kb64 y_15 V U) ∧ (¬ x7_64 ≤ x10_73 → isO θ a1_64 7 ∧ ((¬ (V a1_64 6) = 0 → ∀ y_18 : Int32, y_18 = x9_73 + (1 : Int32) → kb64 y_18 V U) ∧ ((V a1_64 6) = 0 → ((¬ x9_73 = 0 → ∃ n, wl_P_decode_115 θ a0_64 a1_64 a2_64 a4_64 x7_64 a8_64 x9_73 x10_73 kb64 kb73 K n (0 : Int32) V U) ∧ (x9_73 = 0 → isO θ a8_64 8 ∧ ¬ (V a8_64 1) = 0 ∧ ((¬ (x10_73 - x10_73 / (V a8_64 1) * (V a8_64 1)) = 0 → ∃ n, wl_P_decode_115 θ a0_64 a1_64 a2_64 a4_64 x7_64 a8_64 x9_73 x10_73 kb64 kb73 K n (0 : Int32) V U) ∧ ((x10_73 - x10_73 / (V a8_64 1) * (V a8_64 1)) = 0 → isO θ a0_64 10 ∧ wp_P_readKinds θ a0_64 a1_64 a8_64 x10_73 V U (fun V_23 U_24 => ∃ n, wl_P_decode_115 θ a0_64 a1_64 a2_64 a4_64 x7_64 a8_64 x9_73 x10_73 kb64 kb73 K n (0 : Int32) V_23 U_24)))))))))
def wl_P_decode_73 (θ : TH) (a0_64 : Nat) (a1_64 : Nat) (a2_64 : Nat) (a4_64 : Nat) (x7_64 : Int32) (a8_64 : Nat) (x9_73 : Int32) (kb64 : Int32 → VT → UT → Prop) (K : VT → UT → Prop) : Nat → Int32 → VT → UT → Prop
  | 0, _, _, _ => False
  | n + 1, x10_73, V, U => bl_P_decode_73 θ a0_64 a1_64 a2_64 a4_64 x7_64 a8_64 x9_73 kb64 K (wl_P_decode_73 θ a0_64 a1_64 a2_64 a4_64 x7_64 a8_64 x9_73 kb64 K n) x10_73 V U
def bl_P_decode_64 (θ : TH) (a0_64 : Nat) (a1_64 : Nat) (a2_64 : Nat) (a4_64 : Nat) (x7_64 : Int32) (a8_64 : Nat) (K : VT → UT → Prop) (kb64 : Int32 → VT → UT → Prop) (x9_64 : Int32) (V : VT) (U : UT) : Prop := (((2 : Int32) ≤ x9_64 → K V U) ∧ (¬ (2 : Int32) ≤ x9_64 → ∃ n, wl_P_decode_73 θ a0_64 a1_64 a2_64 a4_64 x7_64 a8_64 x9_64 kb64 K n (0 : Int32) V U))
def wl_P_decode_64 (θ : TH) (a0_64 : Nat) (a1_64 : Nat) (a2_64 : Nat) (a4_64 : Nat) (x7_64 : Int32) (a8_64 : Nat) (K : VT → UT → Prop) : Nat → Int32 → VT → UT → Prop
  | 0, _, _, _ => False
  | n + 1, x9_64, V, U => bl_P_decode_64 θ a0_64 a1_64 a2_64 a4_64 x7_64 a8_64 K (wl_P_decode_64 θ a0_64 a1_64 a2_64 a4_64 x7_64 a8_64 K n) x9_64 V U
def wb_P_decode_25 (θ : TH) (a0_25 : Nat) (a1_25 : Nat) (a2_25 : Nat) (a4_25 : Nat) (z0_25 : Int32) (K : VT → UT → Prop) (V : VT) (U : UT) : Prop := isO θ a0_25 10 ∧ ¬ (V a0_25 4) = 0 ∧ ∀ y_7 : Int32, y_7 = (((if z0_25 < (V a0_25 3) then z0_25 else (V a0_25 3)) - (if z0_25 < (V a0_25 2) then z0_25 else (V a0_25 2))) / (V a0_25 4)) → ∃ n_8, isR θ a2_25 5 n_8 ∧ vp_in (V a0_25 6) n_8 ∧ (U a2_25 (V a0_25 6).toNatClampNeg) ≠ 0 ∧ ∀ a_12 : Nat, a_12 = (U a2_25 (V a0_25 6).toNatClampNeg) → ∃ n, wl_P_decode_64 θ a0_25 a1_25 a2_25 a4_25 y_7 a_12 K n (0 : Int32) V U
def wp_P_decode (θ : TH) (a0 : Nat) (a1 : Nat) (a2 : Nat) (x3 : Int32) (a4 : Nat) (x5 : Int32) (V : VT) (U : UT) (K : VT → UT → Prop) : Prop := isO θ a0 10 ∧ wp_P_chooseRows θ a0 x3 V U (fun V_1 U_2 => ((¬ (V_1 a0 1) = (2 : Int32) → wb_P_decode_25 θ a0 a1 a2 a4 x5 K V_1 U_2) ∧ ((V_1 a0 1) = (2 : Int32) → wb_P_decode_25 θ a0 a1 a2 a4 ((V_1 a0 0) * x5) K V_1 U_2)))
set_option maxRecDepth 100000 in
set_option maxHeartbeats 4000000 in
theorem c_P_decode (l : Launch) (θ : TH) (a0 : Nat) (a1 : Nat) (a2 : Nat) (x3 : Int32) (a4 : Nat) (x5 : Int32) (V : VT) (U : UT) (K : VT → UT → Prop) (hw : wp_P_decode θ a0 a1 a2 x3 a4 x5 V U K) : CMv l yP_decode kP_decode 13 none rmP_decode θ [.ref a0, .ref a1, .ref a2, .int x3, .ref a4, .int x5] V U K := by
  refine g_met nRP (by decide +kernel) rfl (Nat.le_of_ble_eq_true rfl) (fun p e s m args below meth c ls hC hr hlk hwo hl => ?_)
  have hx := hC.1
  have hb := hC.2.1
  have hS : Sx θ s s.heap [] := va_S.rf
  have hl : lv_has ls 13 [(0, .ref a0), (1, .ref a1), (2, .ref a2), (3, .int x3), (4, .ref a4), (5, .int x5)] := hl
  have L64 : ∀ (a0_64 : Nat) (a1_64 : Nat) (a2_64 : Nat) (a4_64 : Nat) (x7_64 : Int32) (a8_64 : Nat) (n64 : Nat) (x9_64 : Int32) (V : VT) (U : UT) (H : Heap) (locs : List Loc) (ls : Array Slot), wl_P_decode_64 θ a0_64 a1_64 a2_64 a4_64 x7_64 a8_64 K n64 x9_64 V U → wo θ V U H → Sx θ s H locs → lv_has ls 13 [(0, .ref a0_64), (1, .ref a1_64), (2, .ref a2_64), (4, .ref a4_64), (7, .int x7_64), (8, .ref a8_64), (9, .int x9_64)] → W p l e rmP_decode s m args below meth c H locs 0 0 (MQ below (QV θ K) args s 0 0 (aT θ)) (F0 m 64 ls []) := by
    intro a0_64 a1_64 a2_64 a4_64 x7_64 a8_64 n64
    induction n64 with
    | zero => intro x9_64 V U H locs ls hw hwo hS hl; exact (show False from hw).elim
    | succ n64 ih64 =>
      have L73 : ∀ (x9_73 : Int32) (n73 : Nat) (x10_73 : Int32) (V : VT) (U : UT) (H : Heap) (locs : List Loc) (ls : Array Slot), wl_P_decode_73 θ a0_64 a1_64 a2_64 a4_64 x7_64 a8_64 x9_73 (wl_P_decode_64 θ a0_64 a1_64 a2_64 a4_64 x7_64 a8_64 K n64) K n73 x10_73 V U → wo θ V U H → Sx θ s H locs → lv_has ls 13 [(0, .ref a0_64), (1, .ref a1_64), (2, .ref a2_64), (4, .ref a4_64), (7, .int x7_64), (8, .ref a8_64), (9, .int x9_73), (10, .int x10_73)] → W p l e rmP_decode s m args below meth c H locs 0 0 (MQ below (QV θ K) args s 0 0 (aT θ)) (F0 m 73 ls []) := by
        intro x9_73 n73
        induction n73 with
        | zero => intro x10_73 V U H locs ls hw hwo hS hl; exact (show False from hw).elim
        | succ n73 ih73 =>
          have L115 : ∀ (x10_115 : Int32) (n115 : Nat) (x11_115 : Int32) (V : VT) (U : UT) (H : Heap) (locs : List Loc) (ls : Array Slot), wl_P_decode_115 θ a0_64 a1_64 a2_64 a4_64 x7_64 a8_64 x9_73 x10_115 (wl_P_decode_64 θ a0_64 a1_64 a2_64 a4_64 x7_64 a8_64 K n64) (wl_P_decode_73 θ a0_64 a1_64 a2_64 a4_64 x7_64 a8_64 x9_73 (wl_P_decode_64 θ a0_64 a1_64 a2_64 a4_64 x7_64 a8_64 K n64) K n73) K n115 x11_115 V U → wo θ V U H → Sx θ s H locs → lv_has ls 13 [(0, .ref a0_64), (1, .ref a1_64), (2, .ref a2_64), (4, .ref a4_64), (7, .int x7_64), (8, .ref a8_64), (9, .int x9_73), (10, .int x10_115), (11, .int x11_115)] → W p l e rmP_decode s m args below meth c H locs 0 0 (MQ below (QV θ K) args s 0 0 (aT θ)) (F0 m 115 ls []) := by
            intro x10_115 n115
            induction n115 with
            | zero => intro x11_115 V U H locs ls hw hwo hS hl; exact (show False from hw).elim
            | succ n115 ih115 =>
              intro x11_115 V U H locs ls hw hwo hS hl
              replace hw : bl_P_decode_115 θ a0_64 a1_64 a2_64 a4_64 x7_64 a8_64 x9_73 x10_115 (wl_P_decode_64 θ a0_64 a1_64 a2_64 a4_64 x7_64 a8_64 K n64) (wl_P_decode_73 θ a0_64 a1_64 a2_64 a4_64 x7_64 a8_64 x9_73 (wl_P_decode_64 θ a0_64 a1_64 a2_64 a4_64 x7_64 a8_64 K n64) K n73) K (wl_P_decode_115 θ a0_64 a1_64 a2_64 a4_64 x7_64 a8_64 x9_73 x10_115 (wl_P_decode_64 θ a0_64 a1_64 a2_64 a4_64 x7_64 a8_64 K n64) (wl_P_decode_73 θ a0_64 a1_64 a2_64 a4_64 x7_64 a8_64 x9_73 (wl_P_decode_64 θ a0_64 a1_64 a2_64 a4_64 x7_64 a8_64 K n64) K n73) K n115) x11_115 V U := hw
              unfold bl_P_decode_115 at hw
              refine lv_iload hx hb dP_decode_115 (lv_at hl 8 rfl) ?_
              refine lv_aload_n hx hb dP_decode_117 rfl (lv_at hl 0 rfl) ?_
              obtain ⟨ho_26, hw⟩ := hw
              refine g_getI hC fkP_88 rfl hwo ho_26 dP_decode_118 ?_
              refine lv_icmp_ge (tgt := 185) hx hb dP_decode_121 (by decide) (fun hc_27 => ?_) (fun hc_27 => ?_)
              · replace hw := hw.1 hc_27
                obtain ⟨y_28, ey_28⟩ : ∃ z : Int32, z = x10_115 + (1 : Int32) := ⟨_, rfl⟩
                replace hw := hw y_28 ey_28
                refine lv_iinc (k := 7) (v := y_28) (lv' := [(10, .int y_28), (0, .ref a0_64), (1, .ref a1_64), (2, .ref a2_64), (4, .ref a4_64), (7, .int x7_64), (8, .ref a8_64), (9, .int x9_73), (11, .int x11_115)]) hx hb dP_decode_185 hl rfl (by rw [ey_28]; rfl) (by decide) rfl (fun ls hl => ?_)
                refine lv_goto (tgt := 73) hx hb dP_decode_188 (by decide) ?_
                exact ih73 _ _ _ _ _ _ hw hwo hS (lv_sub hl [1, 2, 3, 4, 5, 6, 7, 0] rfl)
              · replace hw := hw.2 hc_27
                refine lv_aload_n hx hb dP_decode_124 rfl (lv_at hl 1 rfl) ?_
                obtain ⟨ho_29, hw⟩ := hw
                refine g_getI hC fkP_81 rfl hwo ho_29 dP_decode_125 ?_
                refine lv_if_ne (tgt := 185) hx hb dP_decode_128 (by decide) (fun hc_30 => ?_) (fun hc_30 => ?_)
                · replace hw := hw.1 hc_30
                  obtain ⟨y_31, ey_31⟩ : ∃ z : Int32, z = x10_115 + (1 : Int32) := ⟨_, rfl⟩
                  replace hw := hw y_31 ey_31
                  refine lv_iinc (k := 7) (v := y_31) (lv' := [(10, .int y_31), (0, .ref a0_64), (1, .ref a1_64), (2, .ref a2_64), (4, .ref a4_64), (7, .int x7_64), (8, .ref a8_64), (9, .int x9_73), (11, .int x11_115)]) hx hb dP_decode_185 hl rfl (by rw [ey_31]; rfl) (by decide) rfl (fun ls hl => ?_)
                  refine lv_goto (tgt := 73) hx hb dP_decode_188 (by decide) ?_
                  exact ih73 _ _ _ _ _ _ hw hwo hS (lv_sub hl [1, 2, 3, 4, 5, 6, 7, 0] rfl)
                · replace hw := hw.2 hc_30
                  refine lv_aload_n hx hb dP_decode_131 rfl (lv_at hl 0 rfl) ?_
                  obtain ⟨hz_32, hw⟩ := hw
                  refine g_getR hC fkP_21 rfl hwo ho_26 hz_32 dP_decode_132 ?_
                  refine lv_aload_n hx hb dP_decode_135 rfl (lv_at hl 0 rfl) ?_
                  obtain ⟨hz_33, hw⟩ := hw
                  refine g_getR hC fkP_30 rfl hwo ho_26 hz_33 dP_decode_136 ?_
                  refine lv_iload hx hb dP_decode_139 (lv_at hl 8 rfl) ?_
                  obtain ⟨n_34, ha_35, hw⟩ := hw
                  obtain ⟨hi_36, hw⟩ := hw
                  obtain ⟨hz_37, hw⟩ := hw
                  refine g_aald hC hwo (t := 6) (by decide) rfl ha_35 hi_36 hz_37 dP_decode_141 ?_
                  refine lv_iload hx hb dP_decode_142 (lv_at hl 7 rfl) ?_
                  obtain ⟨n_38, ha_39, hw⟩ := hw
                  obtain ⟨hi_40, hw⟩ := hw
                  refine g_iald hC hwo ha_39 hi_40 dP_decode_144 ?_
                  refine lv_iconst (v := 2) hx hb dP_decode_145 (by decide) ?_
                  refine lv_imul hx hb dP_decode_146 ?_
                  refine lv_iload hx hb dP_decode_147 (lv_at hl 6 rfl) ?_
                  refine lv_iadd hx hb dP_decode_149 ?_
                  obtain ⟨n_41, ha_42, hw⟩ := hw
                  obtain ⟨hi_43, hw⟩ := hw
                  refine g_iald hC hwo ha_42 hi_43 dP_decode_150 ?_
                  refine lv_topi (fun y_44 ey_44 => ?_)
                  replace hw := hw y_44 ey_44
                  refine lv_istore (i := 12) (lv' := [(12, .int y_44), (0, .ref a0_64), (1, .ref a1_64), (2, .ref a2_64), (4, .ref a4_64), (7, .int x7_64), (8, .ref a8_64), (9, .int x9_73), (10, .int x10_115), (11, .int x11_115)]) hx hb dP_decode_151 hl (by decide) rfl (fun ls hl => ?_)
                  refine lv_iload hx hb dP_decode_153 (lv_at hl 0 rfl) ?_
                  refine lv_iconst (v := -1) hx hb dP_decode_155 (by decide) ?_
                  refine lv_icmp_eq (tgt := 179) hx hb dP_decode_156 (by decide) (fun hc_45 => ?_) (fun hc_45 => ?_)
                  · replace hw := hw.1 hc_45
                    obtain ⟨y_46, ey_46⟩ : ∃ z : Int32, z = x11_115 + (1 : Int32) := ⟨_, rfl⟩
                    replace hw := hw y_46 ey_46
                    refine lv_iinc (k := 9) (v := y_46) (lv' := [(11, .int y_46), (12, .int y_44), (0, .ref a0_64), (1, .ref a1_64), (2, .ref a2_64), (4, .ref a4_64), (7, .int x7_64), (8, .ref a8_64), (9, .int x9_73), (10, .int x10_115)]) hx hb dP_decode_179 hl rfl (by rw [ey_46]; rfl) (by decide) rfl (fun ls hl => ?_)
                    refine lv_goto (tgt := 115) hx hb dP_decode_182 (by decide) ?_
                    exact ih115 _ _ _ _ _ _ hw hwo hS (lv_sub hl [2, 3, 4, 5, 6, 7, 8, 9, 0] rfl)
                  · replace hw := hw.2 hc_45
                    refine lv_aload_n hx hb dP_decode_159 rfl (lv_at hl 1 rfl) ?_
                    refine lv_aload_n hx hb dP_decode_160 rfl (lv_at hl 2 rfl) ?_
                    refine lv_aload_n hx hb dP_decode_161 rfl (lv_at hl 3 rfl) ?_
                    refine lv_iload hx hb dP_decode_162 (lv_at hl 0 rfl) ?_
                    obtain ⟨n_47, ha_48, hw⟩ := hw
                    obtain ⟨hi_49, hw⟩ := hw
                    obtain ⟨hz_50, hw⟩ := hw
                    refine g_aald hC hwo (t := 5) (by decide) rfl ha_48 hi_49 hz_50 dP_decode_164 ?_
                    refine lv_iload hx hb dP_decode_165 (lv_at hl 8 rfl) ?_
                    refine lv_aload_n hx hb dP_decode_167 rfl (lv_at hl 1 rfl) ?_
                    obtain ⟨hz_51, hw⟩ := hw
                    refine g_getR hC fkP_25 rfl hwo ho_26 hz_51 dP_decode_168 ?_
                    refine lv_iload hx hb dP_decode_171 (lv_at hl 9 rfl) ?_
                    obtain ⟨n_52, ha_53, hw⟩ := hw
                    obtain ⟨hi_54, hw⟩ := hw
                    refine g_iald hC hwo ha_53 hi_54 dP_decode_173 ?_
                    refine lv_aload hx hb dP_decode_174 (lv_at hl 4 rfl) ?_
                    refine g_Vv (rest := []) hC (c_P_addPart l θ _ _ _ _ _ _ _ _ _ hw) mi_P_addPart mlP_91 mv_P_addPart ci_10 ho_26 hwo hS ⟨rfl, rfl⟩ ⟨by decide, by decide⟩ rfl hl.1 rfl (Nat.le_of_ble_eq_true rfl) dP_decode_176 (fun V_55 U_56 hw H locs hwo hS => ?_)
                    obtain ⟨y_57, ey_57⟩ : ∃ z : Int32, z = x11_115 + (1 : Int32) := ⟨_, rfl⟩
                    replace hw := hw y_57 ey_57
                    refine lv_iinc (k := 9) (v := y_57) (lv' := [(11, .int y_57), (12, .int y_44), (0, .ref a0_64), (1, .ref a1_64), (2, .ref a2_64), (4, .ref a4_64), (7, .int x7_64), (8, .ref a8_64), (9, .int x9_73), (10, .int x10_115)]) hx hb dP_decode_179 hl rfl (by rw [ey_57]; rfl) (by decide) rfl (fun ls hl => ?_)
                    refine lv_goto (tgt := 115) hx hb dP_decode_182 (by decide) ?_
                    exact ih115 _ _ _ _ _ _ hw hwo hS (lv_sub hl [2, 3, 4, 5, 6, 7, 8, 9, 0] rfl)
          intro x10_73 V U H locs ls hw hwo hS hl
          replace hw : bl_P_decode_73 θ a0_64 a1_64 a2_64 a4_64 x7_64 a8_64 x9_73 (wl_P_decode_64 θ a0_64 a1_64 a2_64 a4_64 x7_64 a8_64 K n64) K (wl_P_decode_73 θ a0_64 a1_64 a2_64 a4_64 x7_64 a8_64 x9_73 (wl_P_decode_64 θ a0_64 a1_64 a2_64 a4_64 x7_64 a8_64 K n64) K n73) x10_73 V U := hw
          unfold bl_P_decode_73 at hw
          refine lv_iload hx hb dP_decode_73 (lv_at hl 7 rfl) ?_
          refine lv_iload hx hb dP_decode_75 (lv_at hl 4 rfl) ?_
          refine lv_icmp_ge (tgt := 191) hx hb dP_decode_77 (by decide) (fun hc_14 => ?_) (fun hc_14 => ?_)
          · replace hw := hw.1 hc_14
            obtain ⟨y_15, ey_15⟩ : ∃ z : Int32, z = x9_73 + (1 : Int32) := ⟨_, rfl⟩
            replace hw := hw y_15 ey_15
            refine lv_iinc (k := 6) (v := y_15) (lv' := [(9, .int y_15), (0, .ref a0_64), (1, .ref a1_64), (2, .ref a2_64), (4, .ref a4_64), (7, .int x7_64), (8, .ref a8_64), (10, .int x10_73)]) hx hb dP_decode_191 hl rfl (by rw [ey_15]; rfl) (by decide) rfl (fun ls hl => ?_)
            refine lv_goto (tgt := 64) hx hb dP_decode_194 (by decide) ?_
            exact ih64 _ _ _ _ _ _ hw hwo hS (lv_sub hl [1, 2, 3, 4, 5, 6, 0] rfl)
          · replace hw := hw.2 hc_14
            refine lv_aload_n hx hb dP_decode_80 rfl (lv_at hl 1 rfl) ?_
            obtain ⟨ho_16, hw⟩ := hw
            refine g_getI hC fkP_81 rfl hwo ho_16 dP_decode_81 ?_
            refine lv_if_ne (tgt := 191) hx hb dP_decode_84 (by decide) (fun hc_17 => ?_) (fun hc_17 => ?_)
            · replace hw := hw.1 hc_17
              obtain ⟨y_18, ey_18⟩ : ∃ z : Int32, z = x9_73 + (1 : Int32) := ⟨_, rfl⟩
              replace hw := hw y_18 ey_18
              refine lv_iinc (k := 6) (v := y_18) (lv' := [(9, .int y_18), (0, .ref a0_64), (1, .ref a1_64), (2, .ref a2_64), (4, .ref a4_64), (7, .int x7_64), (8, .ref a8_64), (10, .int x10_73)]) hx hb dP_decode_191 hl rfl (by rw [ey_18]; rfl) (by decide) rfl (fun ls hl => ?_)
              refine lv_goto (tgt := 64) hx hb dP_decode_194 (by decide) ?_
              exact ih64 _ _ _ _ _ _ hw hwo hS (lv_sub hl [1, 2, 3, 4, 5, 6, 0] rfl)
            · replace hw := hw.2 hc_17
              refine lv_iload hx hb dP_decode_87 (lv_at hl 6 rfl) ?_
              refine lv_if_ne (tgt := 112) hx hb dP_decode_89 (by decide) (fun hc_19 => ?_) (fun hc_19 => ?_)
              · replace hw := hw.1 hc_19
                refine lv_iconst (v := 0) hx hb dP_decode_112 (by decide) ?_
                refine lv_istore (i := 11) (lv' := [(11, .int (0 : Int32)), (0, .ref a0_64), (1, .ref a1_64), (2, .ref a2_64), (4, .ref a4_64), (7, .int x7_64), (8, .ref a8_64), (9, .int x9_73), (10, .int x10_73)]) hx hb dP_decode_113 hl (by decide) rfl (fun ls hl => ?_)
                obtain ⟨n, hw⟩ := hw
                exact L115 _ n _ _ _ _ _ _ hw hwo hS (lv_sub hl [1, 2, 3, 4, 5, 6, 7, 8, 0] rfl)
              · replace hw := hw.2 hc_19
                refine lv_iload hx hb dP_decode_92 (lv_at hl 7 rfl) ?_
                refine lv_aload hx hb dP_decode_94 (lv_at hl 5 rfl) ?_
                obtain ⟨ho_20, hw⟩ := hw
                refine g_getI hC fkP_68 rfl hwo ho_20 dP_decode_96 ?_
                obtain ⟨hd_21, hw⟩ := hw
                refine lv_irem hx hb dP_decode_99 hd_21 ?_
                refine lv_if_ne (tgt := 112) hx hb dP_decode_100 (by decide) (fun hc_22 => ?_) (fun hc_22 => ?_)
                · replace hw := hw.1 hc_22
                  refine lv_iconst (v := 0) hx hb dP_decode_112 (by decide) ?_
                  refine lv_istore (i := 11) (lv' := [(11, .int (0 : Int32)), (0, .ref a0_64), (1, .ref a1_64), (2, .ref a2_64), (4, .ref a4_64), (7, .int x7_64), (8, .ref a8_64), (9, .int x9_73), (10, .int x10_73)]) hx hb dP_decode_113 hl (by decide) rfl (fun ls hl => ?_)
                  obtain ⟨n, hw⟩ := hw
                  exact L115 _ n _ _ _ _ _ _ hw hwo hS (lv_sub hl [1, 2, 3, 4, 5, 6, 7, 8, 0] rfl)
                · replace hw := hw.2 hc_22
                  refine lv_aload_n hx hb dP_decode_103 rfl (lv_at hl 0 rfl) ?_
                  refine lv_aload_n hx hb dP_decode_104 rfl (lv_at hl 1 rfl) ?_
                  refine lv_aload hx hb dP_decode_105 (lv_at hl 5 rfl) ?_
                  refine lv_iload hx hb dP_decode_107 (lv_at hl 7 rfl) ?_
                  obtain ⟨ho_25, hw⟩ := hw
                  refine g_Vv (rest := []) hC (c_P_readKinds l θ _ _ _ _ _ _ _ hw) mi_P_readKinds mlP_84 mv_P_readKinds ci_10 ho_25 hwo hS ⟨rfl, rfl⟩ ⟨by decide, by decide⟩ rfl hl.1 rfl (Nat.le_of_ble_eq_true rfl) dP_decode_109 (fun V_23 U_24 hw H locs hwo hS => ?_)
                  refine lv_iconst (v := 0) hx hb dP_decode_112 (by decide) ?_
                  refine lv_istore (i := 11) (lv' := [(11, .int (0 : Int32)), (0, .ref a0_64), (1, .ref a1_64), (2, .ref a2_64), (4, .ref a4_64), (7, .int x7_64), (8, .ref a8_64), (9, .int x9_73), (10, .int x10_73)]) hx hb dP_decode_113 hl (by decide) rfl (fun ls hl => ?_)
                  obtain ⟨n, hw⟩ := hw
                  exact L115 _ n _ _ _ _ _ _ hw hwo hS (lv_sub hl [1, 2, 3, 4, 5, 6, 7, 8, 0] rfl)
      intro x9_64 V U H locs ls hw hwo hS hl
      replace hw : bl_P_decode_64 θ a0_64 a1_64 a2_64 a4_64 x7_64 a8_64 K (wl_P_decode_64 θ a0_64 a1_64 a2_64 a4_64 x7_64 a8_64 K n64) x9_64 V U := hw
      unfold bl_P_decode_64 at hw
      refine lv_iload hx hb dP_decode_64 (lv_at hl 6 rfl) ?_
      refine lv_iconst (v := 2) hx hb dP_decode_66 (by decide) ?_
      refine lv_icmp_ge (tgt := 197) hx hb dP_decode_67 (by decide) (fun hc_13 => ?_) (fun hc_13 => ?_)
      · replace hw := hw.1 hc_13
        exact g_vret hC hr hlk hw hwo hS dP_decode_197
      · replace hw := hw.2 hc_13
        refine lv_iconst (v := 0) hx hb dP_decode_70 (by decide) ?_
        refine lv_istore (i := 10) (lv' := [(10, .int (0 : Int32)), (0, .ref a0_64), (1, .ref a1_64), (2, .ref a2_64), (4, .ref a4_64), (7, .int x7_64), (8, .ref a8_64), (9, .int x9_64)]) hx hb dP_decode_71 hl (by decide) rfl (fun ls hl => ?_)
        obtain ⟨n, hw⟩ := hw
        exact L73 _ n _ _ _ _ _ _ hw hwo hS (lv_sub hl [1, 2, 3, 4, 5, 6, 7, 0] rfl)
  have J25 : ∀ (a0_25 : Nat) (a1_25 : Nat) (a2_25 : Nat) (a4_25 : Nat) (z0_25 : Int32) (V : VT) (U : UT) (H : Heap) (locs : List Loc) (ls : Array Slot), wb_P_decode_25 θ a0_25 a1_25 a2_25 a4_25 z0_25 K V U → wo θ V U H → Sx θ s H locs → lv_has ls 13 [(0, .ref a0_25), (1, .ref a1_25), (2, .ref a2_25), (4, .ref a4_25)] → W p l e rmP_decode s m args below meth c H locs 0 0 (MQ below (QV θ K) args s 0 0 (aT θ)) (F0 m 25 ls [.int z0_25]) := by
    intro a0_25 a1_25 a2_25 a4_25 z0_25 V U H locs ls hw hwo hS hl
    unfold wb_P_decode_25 at hw
    refine lv_istore (i := 6) (lv' := [(6, .int z0_25), (0, .ref a0_25), (1, .ref a1_25), (2, .ref a2_25), (4, .ref a4_25)]) hx hb dP_decode_25 hl (by decide) rfl (fun ls hl => ?_)
    refine lv_aload_n hx hb dP_decode_27 rfl (lv_at hl 1 rfl) ?_
    obtain ⟨ho_5, hw⟩ := hw
    refine g_getI hC fkP_45 rfl hwo ho_5 dP_decode_28 ?_
    refine lv_iload hx hb dP_decode_31 (lv_at hl 0 rfl) ?_
    refine g_min hC hl.1 lkP_75 ka_min (by decide) (Nat.le_of_ble_eq_true rfl) dP_decode_33 ?_
    refine lv_aload_n hx hb dP_decode_36 rfl (lv_at hl 1 rfl) ?_
    refine g_getI hC fkP_42 rfl hwo ho_5 dP_decode_37 ?_
    refine lv_iload hx hb dP_decode_40 (lv_at hl 0 rfl) ?_
    refine g_min hC hl.1 lkP_75 ka_min (by decide) (Nat.le_of_ble_eq_true rfl) dP_decode_42 ?_
    refine lv_isub hx hb dP_decode_45 ?_
    refine lv_aload_n hx hb dP_decode_46 rfl (lv_at hl 1 rfl) ?_
    refine g_getI hC fkP_15 rfl hwo ho_5 dP_decode_47 ?_
    obtain ⟨hd_6, hw⟩ := hw
    refine lv_idiv hx hb dP_decode_50 hd_6 ?_
    refine lv_topi (fun y_7 ey_7 => ?_)
    replace hw := hw y_7 ey_7
    refine lv_istore (i := 7) (lv' := [(7, .int y_7), (6, .int z0_25), (0, .ref a0_25), (1, .ref a1_25), (2, .ref a2_25), (4, .ref a4_25)]) hx hb dP_decode_51 hl (by decide) rfl (fun ls hl => ?_)
    refine lv_aload_n hx hb dP_decode_53 rfl (lv_at hl 4 rfl) ?_
    refine lv_aload_n hx hb dP_decode_54 rfl (lv_at hl 2 rfl) ?_
    refine g_getI hC fkP_48 rfl hwo ho_5 dP_decode_55 ?_
    obtain ⟨n_8, ha_9, hw⟩ := hw
    obtain ⟨hi_10, hw⟩ := hw
    obtain ⟨hz_11, hw⟩ := hw
    refine g_aald hC hwo (t := 5) (by decide) rfl ha_9 hi_10 hz_11 dP_decode_58 ?_
    refine g_topr (fun a_12 ea_12 => ?_)
    replace hw := hw a_12 ea_12
    refine lv_astore (i := 8) (lv' := [(8, .ref a_12), (7, .int y_7), (6, .int z0_25), (0, .ref a0_25), (1, .ref a1_25), (2, .ref a2_25), (4, .ref a4_25)]) hx hb dP_decode_59 hl (by decide) rfl (fun ls hl => ?_)
    refine lv_iconst (v := 0) hx hb dP_decode_61 (by decide) ?_
    refine lv_istore (i := 9) (lv' := [(9, .int (0 : Int32)), (8, .ref a_12), (7, .int y_7), (6, .int z0_25), (0, .ref a0_25), (1, .ref a1_25), (2, .ref a2_25), (4, .ref a4_25)]) hx hb dP_decode_62 hl (by decide) rfl (fun ls hl => ?_)
    obtain ⟨n, hw⟩ := hw
    exact L64 _ _ _ _ _ _ n _ _ _ _ _ _ hw hwo hS (lv_sub hl [4, 5, 6, 7, 2, 1, 0] rfl)
  unfold wp_P_decode at hw
  refine lv_aload_n hx hb dP_decode_0 rfl (lv_at hl 0 rfl) ?_
  refine lv_iload_n hx hb dP_decode_1 rfl (lv_at hl 3 rfl) ?_
  obtain ⟨ho_3, hw⟩ := hw
  refine g_Vv (rest := []) hC (c_P_chooseRows l θ _ _ _ _ _ hw) mi_P_chooseRows mlP_71 mv_P_chooseRows ci_10 ho_3 hwo hS ⟨rfl, rfl⟩ ⟨by decide, by decide⟩ rfl hl.1 rfl (Nat.le_of_ble_eq_true rfl) dP_decode_2 (fun V_1 U_2 hw H locs hwo hS => ?_)
  refine lv_aload_n hx hb dP_decode_5 rfl (lv_at hl 0 rfl) ?_
  refine g_getI hC fkP_39 rfl hwo ho_3 dP_decode_6 ?_
  refine lv_iconst (v := 2) hx hb dP_decode_9 (by decide) ?_
  refine lv_icmp_ne (tgt := 23) hx hb dP_decode_10 (by decide) (fun hc_4 => ?_) (fun hc_4 => ?_)
  · replace hw := hw.1 hc_4
    refine lv_iload hx hb dP_decode_23 (lv_at hl 5 rfl) ?_
    exact J25 _ _ _ _ _ _ _ _ _ _ hw hwo hS (lv_sub hl [0, 1, 2, 4] rfl)
  · replace hw := hw.2 hc_4
    refine lv_aload_n hx hb dP_decode_13 rfl (lv_at hl 0 rfl) ?_
    refine g_getI hC fkP_9 rfl hwo ho_3 dP_decode_14 ?_
    refine lv_iload hx hb dP_decode_17 (lv_at hl 5 rfl) ?_
    refine lv_imul hx hb dP_decode_19 ?_
    refine lv_goto (tgt := 25) hx hb dP_decode_20 (by decide) ?_
    exact J25 _ _ _ _ _ _ _ _ _ _ hw hwo hS (lv_sub hl [0, 1, 2, 4] rfl)
