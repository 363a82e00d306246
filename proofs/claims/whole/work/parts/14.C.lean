theorem dC_loadClass_0 : decode kC_loadClass 0 = .ok (.aload_n 0, 1) := by decide +kernel
theorem dC_loadClass_1 : decode kC_loadClass 1 = .ok (.getfield 15, 3) := by decide +kernel
theorem dC_loadClass_4 : decode kC_loadClass 4 = .ok (.iload_n 2, 1) := by decide +kernel
theorem dC_loadClass_5 : decode kC_loadClass 5 = .ok (.aload_n 1, 1) := by decide +kernel
theorem dC_loadClass_6 : decode kC_loadClass 6 = .ok (.iconst 2, 1) := by decide +kernel
theorem dC_loadClass_7 : decode kC_loadClass 7 = .ok (.invokevirtual 40, 3) := by decide +kernel
theorem dC_loadClass_10 : decode kC_loadClass 10 = .ok (.iconst 1, 1) := by decide +kernel
theorem dC_loadClass_11 : decode kC_loadClass 11 = .ok (.iadd, 1) := by decide +kernel
theorem dC_loadClass_12 : decode kC_loadClass 12 = .ok (.iastore, 1) := by decide +kernel
theorem dC_loadClass_13 : decode kC_loadClass 13 = .ok (.aload_n 0, 1) := by decide +kernel
theorem dC_loadClass_14 : decode kC_loadClass 14 = .ok (.getfield 18, 3) := by decide +kernel
theorem dC_loadClass_17 : decode kC_loadClass 17 = .ok (.iload_n 2, 1) := by decide +kernel
theorem dC_loadClass_18 : decode kC_loadClass 18 = .ok (.aload_n 1, 1) := by decide +kernel
theorem dC_loadClass_19 : decode kC_loadClass 19 = .ok (.invokevirtual 67, 3) := by decide +kernel
theorem dC_loadClass_22 : decode kC_loadClass 22 = .ok (.bastore, 1) := by decide +kernel
theorem dC_loadClass_23 : decode kC_loadClass 23 = .ok (.aload_n 0, 1) := by decide +kernel
theorem dC_loadClass_24 : decode kC_loadClass 24 = .ok (.getfield 22, 3) := by decide +kernel
theorem dC_loadClass_27 : decode kC_loadClass 27 = .ok (.iload_n 2, 1) := by decide +kernel
theorem dC_loadClass_28 : decode kC_loadClass 28 = .ok (.aload_n 0, 1) := by decide +kernel
theorem dC_loadClass_29 : decode kC_loadClass 29 = .ok (.getfield 18, 3) := by decide +kernel
theorem dC_loadClass_32 : decode kC_loadClass 32 = .ok (.iload_n 2, 1) := by decide +kernel
theorem dC_loadClass_33 : decode kC_loadClass 33 = .ok (.baload, 1) := by decide +kernel
theorem dC_loadClass_34 : decode kC_loadClass 34 = .ok (.ifCond .eq 11, 3) := by decide +kernel
theorem dC_loadClass_37 : decode kC_loadClass 37 = .ok (.aload_n 1, 1) := by decide +kernel
theorem dC_loadClass_38 : decode kC_loadClass 38 = .ok (.iconst 2, 1) := by decide +kernel
theorem dC_loadClass_39 : decode kC_loadClass 39 = .ok (.invokevirtual 40, 3) := by decide +kernel
theorem dC_loadClass_42 : decode kC_loadClass 42 = .ok (.goto 4, 3) := by decide +kernel
theorem dC_loadClass_45 : decode kC_loadClass 45 = .ok (.iconst (-1), 1) := by decide +kernel
theorem dC_loadClass_46 : decode kC_loadClass 46 = .ok (.iastore, 1) := by decide +kernel
theorem dC_loadClass_47 : decode kC_loadClass 47 = .ok (.aload_n 1, 1) := by decide +kernel
theorem dC_loadClass_48 : decode kC_loadClass 48 = .ok (.iconst 3, 1) := by decide +kernel
theorem dC_loadClass_49 : decode kC_loadClass 49 = .ok (.invokevirtual 40, 3) := by decide +kernel
theorem dC_loadClass_52 : decode kC_loadClass 52 = .ok (.iconst 1, 1) := by decide +kernel
theorem dC_loadClass_53 : decode kC_loadClass 53 = .ok (.isub, 1) := by decide +kernel
theorem dC_loadClass_54 : decode kC_loadClass 54 = .ok (.istore 4, 2) := by decide +kernel
theorem dC_loadClass_56 : decode kC_loadClass 56 = .ok (.aload_n 0, 1) := by decide +kernel
theorem dC_loadClass_57 : decode kC_loadClass 57 = .ok (.getfield 18, 3) := by decide +kernel
theorem dC_loadClass_60 : decode kC_loadClass 60 = .ok (.iload_n 2, 1) := by decide +kernel
theorem dC_loadClass_61 : decode kC_loadClass 61 = .ok (.baload, 1) := by decide +kernel
theorem dC_loadClass_62 : decode kC_loadClass 62 = .ok (.ifCond .eq 13, 3) := by decide +kernel
theorem dC_loadClass_65 : decode kC_loadClass 65 = .ok (.aload_n 1, 1) := by decide +kernel
theorem dC_loadClass_66 : decode kC_loadClass 66 = .ok (.iconst 3, 1) := by decide +kernel
theorem dC_loadClass_67 : decode kC_loadClass 67 = .ok (.invokevirtual 40, 3) := by decide +kernel
theorem dC_loadClass_70 : decode kC_loadClass 70 = .ok (.iconst 1, 1) := by decide +kernel
theorem dC_loadClass_71 : decode kC_loadClass 71 = .ok (.isub, 1) := by decide +kernel
theorem dC_loadClass_72 : decode kC_loadClass 72 = .ok (.goto 4, 3) := by decide +kernel
theorem dC_loadClass_75 : decode kC_loadClass 75 = .ok (.iconst (-1), 1) := by decide +kernel
theorem dC_loadClass_76 : decode kC_loadClass 76 = .ok (.istore 5, 2) := by decide +kernel
theorem dC_loadClass_78 : decode kC_loadClass 78 = .ok (.aload_n 0, 1) := by decide +kernel
theorem dC_loadClass_79 : decode kC_loadClass 79 = .ok (.getfield 25, 3) := by decide +kernel
theorem dC_loadClass_82 : decode kC_loadClass 82 = .ok (.iload_n 2, 1) := by decide +kernel
theorem dC_loadClass_83 : decode kC_loadClass 83 = .ok (.iconst 2, 1) := by decide +kernel
theorem dC_loadClass_84 : decode kC_loadClass 84 = .ok (.imul, 1) := by decide +kernel
theorem dC_loadClass_85 : decode kC_loadClass 85 = .ok (.iload 4, 2) := by decide +kernel
theorem dC_loadClass_87 : decode kC_loadClass 87 = .ok (.iastore, 1) := by decide +kernel
theorem dC_loadClass_88 : decode kC_loadClass 88 = .ok (.aload_n 0, 1) := by decide +kernel
theorem dC_loadClass_89 : decode kC_loadClass 89 = .ok (.getfield 25, 3) := by decide +kernel
theorem dC_loadClass_92 : decode kC_loadClass 92 = .ok (.iload_n 2, 1) := by decide +kernel
theorem dC_loadClass_93 : decode kC_loadClass 93 = .ok (.iconst 2, 1) := by decide +kernel
theorem dC_loadClass_94 : decode kC_loadClass 94 = .ok (.imul, 1) := by decide +kernel
theorem dC_loadClass_95 : decode kC_loadClass 95 = .ok (.iconst 1, 1) := by decide +kernel
theorem dC_loadClass_96 : decode kC_loadClass 96 = .ok (.iadd, 1) := by decide +kernel
theorem dC_loadClass_97 : decode kC_loadClass 97 = .ok (.iload 5, 2) := by decide +kernel
theorem dC_loadClass_99 : decode kC_loadClass 99 = .ok (.iastore, 1) := by decide +kernel
theorem dC_loadClass_100 : decode kC_loadClass 100 = .ok (.aload_n 0, 1) := by decide +kernel
theorem dC_loadClass_101 : decode kC_loadClass 101 = .ok (.getfield 22, 3) := by decide +kernel
theorem dC_loadClass_104 : decode kC_loadClass 104 = .ok (.iload_n 2, 1) := by decide +kernel
theorem dC_loadClass_105 : decode kC_loadClass 105 = .ok (.iaload, 1) := by decide +kernel
theorem dC_loadClass_106 : decode kC_loadClass 106 = .ok (.iload_n 3, 1) := by decide +kernel
theorem dC_loadClass_107 : decode kC_loadClass 107 = .ok (.if_icmp .ge 19, 3) := by decide +kernel
theorem dC_loadClass_110 : decode kC_loadClass 110 = .ok (.iload 4, 2) := by decide +kernel
theorem dC_loadClass_112 : decode kC_loadClass 112 = .ok (.iload_n 3, 1) := by decide +kernel
theorem dC_loadClass_113 : decode kC_loadClass 113 = .ok (.if_icmp .ge 13, 3) := by decide +kernel
theorem dC_loadClass_116 : decode kC_loadClass 116 = .ok (.iload 5, 2) := by decide +kernel
theorem dC_loadClass_118 : decode kC_loadClass 118 = .ok (.iload_n 3, 1) := by decide +kernel
theorem dC_loadClass_119 : decode kC_loadClass 119 = .ok (.if_icmp .ge 7, 3) := by decide +kernel
theorem dC_loadClass_122 : decode kC_loadClass 122 = .ok (.iconst 1, 1) := by decide +kernel
theorem dC_loadClass_123 : decode kC_loadClass 123 = .ok (.goto 4, 3) := by decide +kernel
theorem dC_loadClass_126 : decode kC_loadClass 126 = .ok (.iconst 0, 1) := by decide +kernel
theorem dC_loadClass_127 : decode kC_loadClass 127 = .ok (.ireturn, 1) := by decide +kernel
def wb_C_loadClass_126 (θ : TH) (K : Int32 → VT → UT → Prop) (V : VT) (U : UT) : Prop := K (0 : Int32) V U
def wb_C_loadClass_76 (θ : TH) (a0_76 : Nat) (x2_76 : Int32) (x3_76 : Int32) (x4_76 : Int32) (z0_76 : Int32) (K : Int32 → VT → UT → Prop) (V : VT) (U : UT) : Prop := isO θ a0_76 9 ∧ (U a0_76 6) ≠ 0 ∧ ∃ n_49, isA θ (U a0_76 6) 0 n_49 ∧ vp_in (x2_76 * (2 : Int32)) n_49 ∧ ∀ V_52 : VT, V_52 = up2 V (U a0_76 6) (x2_76 * (2 : Int32)).toNatClampNeg x4_76 → vp_in ((x2_76 * (2 : Int32)) + (1 : Int32)) n_49 ∧ ∀ V_54 : VT, V_54 = up2 V_52 (U a0_76 6) ((x2_76 * (2 : Int32)) + (1 : Int32)).toNatClampNeg z0_76 → (U a0_76 5) ≠ 0 ∧ ∃ n_56, isA θ (U a0_76 5) 0 n_56 ∧ vp_in x2_76 n_56 ∧ ((x3_76 ≤ (V_54 (U a0_76 5) x2_76.toNatClampNeg) → wb_C_loadClass_126 θ K V_54 U) ∧ (¬ x3_76 ≤ (V_54 (U a0_76 5) x2_76.toNatClampNeg) → ((x3_76 ≤ x4_76 → wb_C_loadClass_126 θ K V_54 U) ∧ (¬ x3_76 ≤ x4_76 → ((x3_76 ≤ z0_76 → wb_C_loadClass_126 θ K V_54 U) ∧ (¬ x3_76 ≤ z0_76 → K (1 : Int32) V_54 U))))))
def wb_C_loadClass_46 (θ : TH) (a0_46 : Nat) (a1_46 : Nat) (x2_46 : Int32) (x3_46 : Int32) (z0_46 : Int32) (z1_46 : Int32) (z2_46 : Nat) (K : Int32 → VT → UT → Prop) (V : VT) (U : UT) : Prop := ∃ n_29, isA θ z2_46 0 n_29 ∧ vp_in z1_46 n_29 ∧ ∀ V_32 : VT, V_32 = up2 V z2_46 z1_46.toNatClampNeg z0_46 → isO θ a1_46 7 ∧ wp_H_read θ a1_46 (3 : Int32) V_32 U (fun r_36 V_33 U_34 => ∀ y_37 : Int32, y_37 = (r_36 - (1 : Int32)) → isO θ a0_46 9 ∧ (U_34 a0_46 4) ≠ 0 ∧ ∃ n_40, isA θ (U_34 a0_46 4) 1 n_40 ∧ vp_in x2_46 n_40 ∧ (((V_33 (U_34 a0_46 4) x2_46.toNatClampNeg) = 0 → wb_C_loadClass_76 θ a0_46 x2_46 x3_46 y_37 (-1 : Int32) K V_33 U_34) ∧ (¬ (V_33 (U_34 a0_46 4) x2_46.toNatClampNeg) = 0 → wp_H_read θ a1_46 (3 : Int32) V_33 U_34 (fun r_46 V_44 U_45 => wb_C_loadClass_76 θ a0_46 x2_46 x3_46 y_37 (r_46 - (1 : Int32)) K V_44 U_45))))
def wp_C_loadClass (θ : TH) (a0 : Nat) (a1 : Nat) (x2 : Int32) (x3 : Int32) (V : VT) (U : UT) (K : Int32 → VT → UT → Prop) : Prop := isO θ a0 9 ∧ (U a0 3) ≠ 0 ∧ isO θ a1 7 ∧ wp_H_read θ a1 (2 : Int32) V U (fun r_6 V_3 U_4 => ∃ n_7, isA θ (U a0 3) 0 n_7 ∧ vp_in x2 n_7 ∧ ∀ V_10 : VT, V_10 = up2 V_3 (U a0 3) x2.toNatClampNeg (r_6 + (1 : Int32)) → (U_4 a0 4) ≠ 0 ∧ wp_H_readFlag θ a1 V_10 U_4 (fun r_14 V_12 U_13 => ∃ n_15, isA θ (U_4 a0 4) 1 n_15 ∧ vp_in x2 n_15 ∧ isZ r_14 ∧ ∀ V_19 : VT, V_19 = up2 V_12 (U_4 a0 4) x2.toNatClampNeg r_14 → (U_13 a0 5) ≠ 0 ∧ (U_13 a0 4) ≠ 0 ∧ ∃ n_22, isA θ (U_13 a0 4) 1 n_22 ∧ vp_in x2 n_22 ∧ (((V_19 (U_13 a0 4) x2.toNatClampNeg) = 0 → wb_C_loadClass_46 θ a0 a1 x2 x3 (-1 : Int32) x2 (U_13 a0 5) K V_19 U_13) ∧ (¬ (V_19 (U_13 a0 4) x2.toNatClampNeg) = 0 → wp_H_read θ a1 (2 : Int32) V_19 U_13 (fun r_28 V_26 U_27 => wb_C_loadClass_46 θ a0 a1 x2 x3 r_28 x2 (U_13 a0 5) K V_26 U_27)))))
set_option maxRecDepth 100000 in
set_option maxHeartbeats 4000000 in
theorem c_C_loadClass (l : Launch) (θ : TH) (a0 : Nat) (a1 : Nat) (x2 : Int32) (x3 : Int32) (V : VT) (U : UT) (K : Int32 → VT → UT → Prop) (hw : wp_C_loadClass θ a0 a1 x2 x3 V U K) : CMi l yC_loadClass kC_loadClass 6 (some .boolean) rmC_loadClass θ [.ref a0, .ref a1, .int x2, .int x3] V U K := by
  refine g_met nRC (by decide +kernel) rfl (Nat.le_of_ble_eq_true rfl) (fun p e s m args below meth c ls hC hr hlk hwo hl => ?_)
  have hx := hC.1
  have hb := hC.2.1
  have hS : Sx θ s s.heap [] := va_S.rf
  have hl : lv_has ls 6 [(0, .ref a0), (1, .ref a1), (2, .int x2), (3, .int x3)] := hl
  have J126 : ∀ (V : VT) (U : UT) (H : Heap) (locs : List Loc) (ls : Array Slot), wb_C_loadClass_126 θ K V U → wo θ V U H → Sx θ s H locs → lv_has ls 6 [] → W p l e rmC_loadClass s m args below meth c H locs 0 0 (MQ below (QI θ K) args s 0 0 (aT θ)) (F0 m 126 ls []) := by
    intro V U H locs ls hw hwo hS hl
    unfold wb_C_loadClass_126 at hw
    refine lv_iconst (v := 0) hx hb dC_loadClass_126 (by decide) ?_
    exact g_zret hC hr hlk (Or.inl rfl) hw hwo hS dC_loadClass_127
  have J76 : ∀ (a0_76 : Nat) (x2_76 : Int32) (x3_76 : Int32) (x4_76 : Int32) (z0_76 : Int32) (V : VT) (U : UT) (H : Heap) (locs : List Loc) (ls : Array Slot), wb_C_loadClass_76 θ a0_76 x2_76 x3_76 x4_76 z0_76 K V U → wo θ V U H → Sx θ s H locs → lv_has ls 6 [(0, .ref a0_76), (2, .int x2_76), (3, .int x3_76), (4, .int x4_76)] → W p l e rmC_loadClass s m args below meth c H locs 0 0 (MQ below (QI θ K) args s 0 0 (aT θ)) (F0 m 76 ls [.int z0_76]) := by
    intro a0_76 x2_76 x3_76 x4_76 z0_76 V U H locs ls hw hwo hS hl
    unfold wb_C_loadClass_76 at hw
    refine lv_istore (i := 5) (lv' := [(5, .int z0_76), (0, .ref a0_76), (2, .int x2_76), (3, .int x3_76), (4, .int x4_76)]) hx hb dC_loadClass_76 hl (by decide) rfl (fun ls hl => ?_)
    refine lv_aload_n hx hb dC_loadClass_78 rfl (lv_at hl 1 rfl) ?_
    obtain ⟨ho_47, hw⟩ := hw
    obtain ⟨hz_48, hw⟩ := hw
    refine g_getR hC fkC_25 rfl hwo ho_47 hz_48 dC_loadClass_79 ?_
    refine lv_iload_n hx hb dC_loadClass_82 rfl (lv_at hl 2 rfl) ?_
    refine lv_iconst (v := 2) hx hb dC_loadClass_83 (by decide) ?_
    refine lv_imul hx hb dC_loadClass_84 ?_
    refine lv_iload hx hb dC_loadClass_85 (lv_at hl 4 rfl) ?_
    obtain ⟨n_49, ha_50, hw⟩ := hw
    obtain ⟨hi_51, hw⟩ := hw
    refine g_iast hC hwo hS ha_50 hi_51 dC_loadClass_87 (fun V_52 eV_52 H locs hwo hS => ?_)
    replace hw := hw V_52 eV_52
    refine lv_aload_n hx hb dC_loadClass_88 rfl (lv_at hl 1 rfl) ?_
    refine g_getR hC fkC_25 rfl hwo ho_47 hz_48 dC_loadClass_89 ?_
    refine lv_iload_n hx hb dC_loadClass_92 rfl (lv_at hl 2 rfl) ?_
    refine lv_iconst (v := 2) hx hb dC_loadClass_93 (by decide) ?_
    refine lv_imul hx hb dC_loadClass_94 ?_
    refine lv_iconst (v := 1) hx hb dC_loadClass_95 (by decide) ?_
    refine lv_iadd hx hb dC_loadClass_96 ?_
    refine lv_iload hx hb dC_loadClass_97 (lv_at hl 0 rfl) ?_
    obtain ⟨hi_53, hw⟩ := hw
    refine g_iast hC hwo hS ha_50 hi_53 dC_loadClass_99 (fun V_54 eV_54 H locs hwo hS => ?_)
    replace hw := hw V_54 eV_54
    refine lv_aload_n hx hb dC_loadClass_100 rfl (lv_at hl 1 rfl) ?_
    obtain ⟨hz_55, hw⟩ := hw
    refine g_getR hC fkC_22 rfl hwo ho_47 hz_55 dC_loadClass_101 ?_
    refine lv_iload_n hx hb dC_loadClass_104 rfl (lv_at hl 2 rfl) ?_
    obtain ⟨n_56, ha_57, hw⟩ := hw
    obtain ⟨hi_58, hw⟩ := hw
    refine g_iald hC hwo ha_57 hi_58 dC_loadClass_105 ?_
    refine lv_iload_n hx hb dC_loadClass_106 rfl (lv_at hl 3 rfl) ?_
    refine lv_icmp_ge (tgt := 126) hx hb dC_loadClass_107 (by decide) (fun hc_59 => ?_) (fun hc_59 => ?_)
    · replace hw := hw.1 hc_59
      exact J126 _ _ _ _ _ hw hwo hS (lv_sub hl [] rfl)
    · replace hw := hw.2 hc_59
      refine lv_iload hx hb dC_loadClass_110 (lv_at hl 4 rfl) ?_
      refine lv_iload_n hx hb dC_loadClass_112 rfl (lv_at hl 3 rfl) ?_
      refine lv_icmp_ge (tgt := 126) hx hb dC_loadClass_113 (by decide) (fun hc_60 => ?_) (fun hc_60 => ?_)
      · replace hw := hw.1 hc_60
        exact J126 _ _ _ _ _ hw hwo hS (lv_sub hl [] rfl)
      · replace hw := hw.2 hc_60
        refine lv_iload hx hb dC_loadClass_116 (lv_at hl 0 rfl) ?_
        refine lv_iload_n hx hb dC_loadClass_118 rfl (lv_at hl 3 rfl) ?_
        refine lv_icmp_ge (tgt := 126) hx hb dC_loadClass_119 (by decide) (fun hc_61 => ?_) (fun hc_61 => ?_)
        · replace hw := hw.1 hc_61
          exact J126 _ _ _ _ _ hw hwo hS (lv_sub hl [] rfl)
        · replace hw := hw.2 hc_61
          refine lv_iconst (v := 1) hx hb dC_loadClass_122 (by decide) ?_
          refine lv_goto (tgt := 127) hx hb dC_loadClass_123 (by decide) ?_
          exact g_zret hC hr hlk (Or.inr rfl) hw hwo hS dC_loadClass_127
  have J46 : ∀ (a0_46 : Nat) (a1_46 : Nat) (x2_46 : Int32) (x3_46 : Int32) (z0_46 : Int32) (z1_46 : Int32) (z2_46 : Nat) (V : VT) (U : UT) (H : Heap) (locs : List Loc) (ls : Array Slot), wb_C_loadClass_46 θ a0_46 a1_46 x2_46 x3_46 z0_46 z1_46 z2_46 K V U → wo θ V U H → Sx θ s H locs → lv_has ls 6 [(0, .ref a0_46), (1, .ref a1_46), (2, .int x2_46), (3, .int x3_46)] → W p l e rmC_loadClass s m args below meth c H locs 0 0 (MQ below (QI θ K) args s 0 0 (aT θ)) (F0 m 46 ls [.int z0_46, .int z1_46, .ref z2_46]) := by
    intro a0_46 a1_46 x2_46 x3_46 z0_46 z1_46 z2_46 V U H locs ls hw hwo hS hl
    unfold wb_C_loadClass_46 at hw
    obtain ⟨n_29, ha_30, hw⟩ := hw
    obtain ⟨hi_31, hw⟩ := hw
    refine g_iast hC hwo hS ha_30 hi_31 dC_loadClass_46 (fun V_32 eV_32 H locs hwo hS => ?_)
    replace hw := hw V_32 eV_32
    refine lv_aload_n hx hb dC_loadClass_47 rfl (lv_at hl 1 rfl) ?_
    refine lv_iconst (v := 3) hx hb dC_loadClass_48 (by decide) ?_
    obtain ⟨ho_35, hw⟩ := hw
    refine g_Vi (rest := []) hC (c_H_read l θ _ _ _ _ _ hw) mi_H_read mlC_40 mv_H_read ci_7 ho_35 hwo hS ⟨rfl, rfl⟩ ⟨by decide, by decide⟩ rfl hl.1 rfl (Nat.le_of_ble_eq_true rfl) dC_loadClass_49 (fun r_36 V_33 U_34 hw H locs hwo hS => ?_)
    refine lv_iconst (v := 1) hx hb dC_loadClass_52 (by decide) ?_
    refine lv_isub hx hb dC_loadClass_53 ?_
    refine lv_topi (fun y_37 ey_37 => ?_)
    replace hw := hw y_37 ey_37
    refine lv_istore (i := 4) (lv' := [(4, .int y_37), (0, .ref a0_46), (1, .ref a1_46), (2, .int x2_46), (3, .int x3_46)]) hx hb dC_loadClass_54 hl (by decide) rfl (fun ls hl => ?_)
    refine lv_aload_n hx hb dC_loadClass_56 rfl (lv_at hl 1 rfl) ?_
    obtain ⟨ho_38, hw⟩ := hw
    obtain ⟨hz_39, hw⟩ := hw
    refine g_getR hC fkC_18 rfl hwo ho_38 hz_39 dC_loadClass_57 ?_
    refine lv_iload_n hx hb dC_loadClass_60 rfl (lv_at hl 3 rfl) ?_
    obtain ⟨n_40, ha_41, hw⟩ := hw
    obtain ⟨hi_42, hw⟩ := hw
    refine g_zald hC hwo ha_41 hi_42 dC_loadClass_61 ?_
    refine lv_if_eq (tgt := 75) hx hb dC_loadClass_62 (by decide) (fun hc_43 => ?_) (fun hc_43 => ?_)
    · replace hw := hw.1 hc_43
      refine lv_iconst (v := -1) hx hb dC_loadClass_75 (by decide) ?_
      exact J76 _ _ _ _ _ _ _ _ _ _ hw hwo hS (lv_sub hl [1, 3, 4, 0] rfl)
    · replace hw := hw.2 hc_43
      refine lv_aload_n hx hb dC_loadClass_65 rfl (lv_at hl 2 rfl) ?_
      refine lv_iconst (v := 3) hx hb dC_loadClass_66 (by decide) ?_
      refine g_Vi (rest := []) hC (c_H_read l θ _ _ _ _ _ hw) mi_H_read mlC_40 mv_H_read ci_7 ho_35 hwo hS ⟨rfl, rfl⟩ ⟨by decide, by decide⟩ rfl hl.1 rfl (Nat.le_of_ble_eq_true rfl) dC_loadClass_67 (fun r_46 V_44 U_45 hw H locs hwo hS => ?_)
      refine lv_iconst (v := 1) hx hb dC_loadClass_70 (by decide) ?_
      refine lv_isub hx hb dC_loadClass_71 ?_
      refine lv_goto (tgt := 76) hx hb dC_loadClass_72 (by decide) ?_
      exact J76 _ _ _ _ _ _ _ _ _ _ hw hwo hS (lv_sub hl [1, 3, 4, 0] rfl)
  unfold wp_C_loadClass at hw
  refine lv_aload_n hx hb dC_loadClass_0 rfl (lv_at hl 0 rfl) ?_
  obtain ⟨ho_1, hw⟩ := hw
  obtain ⟨hz_2, hw⟩ := hw
  refine g_getR hC fkC_15 rfl hwo ho_1 hz_2 dC_loadClass_1 ?_
  refine lv_iload_n hx hb dC_loadClass_4 rfl (lv_at hl 2 rfl) ?_
  refine lv_aload_n hx hb dC_loadClass_5 rfl (lv_at hl 1 rfl) ?_
  refine lv_iconst (v := 2) hx hb dC_loadClass_6 (by decide) ?_
  obtain ⟨ho_5, hw⟩ := hw
  refine g_Vi (rest := [.int x2, .ref (U a0 3)]) hC (c_H_read l θ _ _ _ _ _ hw) mi_H_read mlC_40 mv_H_read ci_7 ho_5 hwo hS ⟨rfl, rfl⟩ ⟨by decide, by decide⟩ rfl hl.1 rfl (Nat.le_of_ble_eq_true rfl) dC_loadClass_7 (fun r_6 V_3 U_4 hw H locs hwo hS => ?_)
  refine lv_iconst (v := 1) hx hb dC_loadClass_10 (by decide) ?_
  refine lv_iadd hx hb dC_loadClass_11 ?_
  obtain ⟨n_7, ha_8, hw⟩ := hw
  obtain ⟨hi_9, hw⟩ := hw
  refine g_iast hC hwo hS ha_8 hi_9 dC_loadClass_12 (fun V_10 eV_10 H locs hwo hS => ?_)
  replace hw := hw V_10 eV_10
  refine lv_aload_n hx hb dC_loadClass_13 rfl (lv_at hl 0 rfl) ?_
  obtain ⟨hz_11, hw⟩ := hw
  refine g_getR hC fkC_18 rfl hwo ho_1 hz_11 dC_loadClass_14 ?_
  refine lv_iload_n hx hb dC_loadClass_17 rfl (lv_at hl 2 rfl) ?_
  refine lv_aload_n hx hb dC_loadClass_18 rfl (lv_at hl 1 rfl) ?_
  refine g_Vi (rest := [.int x2, .ref (U_4 a0 4)]) hC (c_H_readFlag l θ _ _ _ _ hw) mi_H_readFlag mlC_67 mv_H_readFlag ci_7 ho_5 hwo hS ⟨rfl, rfl⟩ ⟨by decide, by decide⟩ rfl hl.1 rfl (Nat.le_of_ble_eq_true rfl) dC_loadClass_19 (fun r_14 V_12 U_13 hw H locs hwo hS => ?_)
  obtain ⟨n_15, ha_16, hw⟩ := hw
  obtain ⟨hi_17, hw⟩ := hw
  obtain ⟨hb_18, hw⟩ := hw
  refine g_zast hC hwo hS ha_16 hi_17 hb_18 dC_loadClass_22 (fun V_19 eV_19 H locs hwo hS => ?_)
  replace hw := hw V_19 eV_19
  refine lv_aload_n hx hb dC_loadClass_23 rfl (lv_at hl 0 rfl) ?_
  obtain ⟨hz_20, hw⟩ := hw
  refine g_getR hC fkC_22 rfl hwo ho_1 hz_20 dC_loadClass_24 ?_
  refine lv_iload_n hx hb dC_loadClass_27 rfl (lv_at hl 2 rfl) ?_
  refine lv_aload_n hx hb dC_loadClass_28 rfl (lv_at hl 0 rfl) ?_
  obtain ⟨hz_21, hw⟩ := hw
  refine g_getR hC fkC_18 rfl hwo ho_1 hz_21 dC_loadClass_29 ?_
  refine lv_iload_n hx hb dC_loadClass_32 rfl (lv_at hl 2 rfl) ?_
  obtain ⟨n_22, ha_23, hw⟩ := hw
  obtain ⟨hi_24, hw⟩ := hw
  refine g_zald hC hwo ha_23 hi_24 dC_loadClass_33 ?_
  refine lv_if_eq (tgt := 45) hx hb dC_loadClass_34 (by decide) (fun hc_25 => ?_) (fun hc_25 => ?_)
  · replace hw := hw.1 hc_25
    refine lv_iconst (v := -1) hx hb dC_loadClass_45 (by decide) ?_
    exact J46 _ _ _ _ _ _ _ _ _ _ _ _ hw hwo hS (lv_sub hl [0, 1, 2, 3] rfl)
  · replace hw := hw.2 hc_25
    refine lv_aload_n hx hb dC_loadClass_37 rfl (lv_at hl 1 rfl) ?_
    refine lv_iconst (v := 2) hx hb dC_loadClass_38 (by decide) ?_
    refine g_Vi (rest := [.int x2, .ref (U_13 a0 5)]) hC (c_H_read l θ _ _ _ _ _ hw) mi_H_read mlC_40 mv_H_read ci_7 ho_5 hwo hS ⟨rfl, rfl⟩ ⟨by decide, by decide⟩ rfl hl.1 rfl (Nat.le_of_ble_eq_true rfl) dC_loadClass_39 (fun r_28 V_26 U_27 hw H locs hwo hS => ?_)
    refine lv_goto (tgt := 46) hx hb dC_loadClass_42 (by decide) ?_
    exact J46 _ _ _ _ _ _ _ _ _ _ _ _ hw hwo hS (lv_sub hl [0, 1, 2, 3] rfl)
theorem dC_isTaken_0 : decode kC_isTaken 0 = .ok (.iconst 0, 1) := by decide +kernel
theorem dC_isTaken_1 : decode kC_isTaken 1 = .ok (.istore_n 2, 1) := by decide +kernel
theorem dC_isTaken_2 : decode kC_isTaken 2 = .ok (.iload_n 2, 1) := by decide +kernel
theorem dC_isTaken_3 : decode kC_isTaken 3 = .ok (.aload_n 0, 1) := by decide +kernel
theorem dC_isTaken_4 : decode kC_isTaken 4 = .ok (.getfield 71, 3) := by decide +kernel
theorem dC_isTaken_7 : decode kC_isTaken 7 = .ok (.if_icmp .ge 21, 3) := by decide +kernel
theorem dC_isTaken_10 : decode kC_isTaken 10 = .ok (.aload_n 0, 1) := by decide +kernel
theorem dC_isTaken_11 : decode kC_isTaken 11 = .ok (.getfield 28, 3) := by decide +kernel
theorem dC_isTaken_14 : decode kC_isTaken 14 = .ok (.iload_n 2, 1) := by decide +kernel
theorem dC_isTaken_15 : decode kC_isTaken 15 = .ok (.iaload, 1) := by decide +kernel
theorem dC_isTaken_16 : decode kC_isTaken 16 = .ok (.iload_n 1, 1) := by decide +kernel
theorem dC_isTaken_17 : decode kC_isTaken 17 = .ok (.if_icmp .ne 5, 3) := by decide +kernel
theorem dC_isTaken_20 : decode kC_isTaken 20 = .ok (.iconst 1, 1) := by decide +kernel
theorem dC_isTaken_21 : decode kC_isTaken 21 = .ok (.ireturn, 1) := by decide +kernel
theorem dC_isTaken_22 : decode kC_isTaken 22 = .ok (.iinc 2 1, 3) := by decide +kernel
theorem dC_isTaken_25 : decode kC_isTaken 25 = .ok (.goto (-23), 3) := by decide +kernel
theorem dC_isTaken_28 : decode kC_isTaken 28 = .ok (.iconst 0, 1) := by decide +kernel
theorem dC_isTaken_29 : decode kC_isTaken 29 = .ok (.ireturn, 1) := by decide +kernel
def bl_C_isTaken_2 (θ : TH) (a0_2 : Nat) (x1_2 : Int32) (K : Int32 → VT → UT → Prop) (kb2 : Int32 → VT → UT → Prop) (x2_2 : Int32) (V : VT) (U : UT) : Prop := isO θ a0_2 9 ∧ (((V a0_2 7) ≤ x2_2 → K (0 : Int32) V U) ∧ (¬ (V a0_2 7) ≤ x2_2 → (U a0_2 8) ≠ 0 ∧ ∃ n_4, isA θ (U a0_2 8) 0 n_4 ∧ vp_in x2_2 n_4 ∧ ((¬ (V (U a0_2 8) x2_2.toNatClampNeg) = x1_2 → ∀ y_8 : Int32, y_8 = x2_2 + (1 : Int32) → kb2 y_8 V U) ∧ ((V (U a0_2 8) x2_2.toNatClampNeg) = x1_2 → K (1 : Int32) V U))))
def wl_C_isTaken_2 (θ : TH) (a0_2 : Nat) (x1_2 : Int32) (K : Int32 → VT → UT → Prop) : Nat → Int32 → VT → UT → Prop
  | 0, _, _, _ => False
  | n + 1, x2_2, V, U => bl_C_isTaken_2 θ a0_2 x1_2 K (wl_C_isTaken_2 θ a0_2 x1_2 K n) x2_2 V U
def wp_C_isTaken (θ : TH) (a0 : Nat) (x1 : Int32) (V : VT) (U : UT) (K : Int32 → VT → UT → Prop) : Prop := ∃ n, wl_C_isTaken_2 θ a0 x1 K n (0 : Int32) V U
set_option maxRecDepth 100000 in
set_option maxHeartbeats 4000000 in
theorem c_C_isTaken (l : Launch) (θ : TH) (a0 : Nat) (x1 : Int32) (V : VT) (U : UT) (K : Int32 → VT → UT → Prop) (hw : wp_C_isTaken θ a0 x1 V U K) : CMi l yC_isTaken kC_isTaken 3 (some .boolean) rmC_isTaken θ [.ref a0, .int x1] V U K := by
  refine g_met nRC (by decide +kernel) rfl (Nat.le_of_ble_eq_true rfl) (fun p e s m args below meth c ls hC hr hlk hwo hl => ?_)
  have hx := hC.1
  have hb := hC.2.1
  have hS : Sx θ s s.heap [] := va_S.rf
  have hl : lv_has ls 3 [(0, .ref a0), (1, .int x1)] := hl
  have L2 : ∀ (a0_2 : Nat) (x1_2 : Int32) (n2 : Nat) (x2_2 : Int32) (V : VT) (U : UT) (H : Heap) (locs : List Loc) (ls : Array Slot), wl_C_isTaken_2 θ a0_2 x1_2 K n2 x2_2 V U → wo θ V U H → Sx θ s H locs → lv_has ls 3 [(0, .ref a0_2), (1, .int x1_2), (2, .int x2_2)] → W p l e rmC_isTaken s m args below meth c H locs 0 0 (MQ below (QI θ K) args s 0 0 (aT θ)) (F0 m 2 ls []) := by
    intro a0_2 x1_2 n2
    induction n2 with
    | zero => intro x2_2 V U H locs ls hw hwo hS hl; exact (show False from hw).elim
    | succ n2 ih2 =>
      intro x2_2 V U H locs ls hw hwo hS hl
      replace hw : bl_C_isTaken_2 θ a0_2 x1_2 K (wl_C_isTaken_2 θ a0_2 x1_2 K n2) x2_2 V U := hw
      unfold bl_C_isTaken_2 at hw
      refine lv_iload_n hx hb dC_isTaken_2 rfl (lv_at hl 2 rfl) ?_
      refine lv_aload_n hx hb dC_isTaken_3 rfl (lv_at hl 0 rfl) ?_
      obtain ⟨ho_1, hw⟩ := hw
      refine g_getI hC fkC_71 rfl hwo ho_1 dC_isTaken_4 ?_
      refine lv_icmp_ge (tgt := 28) hx hb dC_isTaken_7 (by decide) (fun hc_2 => ?_) (fun hc_2 => ?_)
      · replace hw := hw.1 hc_2
        refine lv_iconst (v := 0) hx hb dC_isTaken_28 (by decide) ?_
        exact g_zret hC hr hlk (Or.inl rfl) hw hwo hS dC_isTaken_29
      · replace hw := hw.2 hc_2
        refine lv_aload_n hx hb dC_isTaken_10 rfl (lv_at hl 0 rfl) ?_
        obtain ⟨hz_3, hw⟩ := hw
        refine g_getR hC fkC_28 rfl hwo ho_1 hz_3 dC_isTaken_11 ?_
        refine lv_iload_n hx hb dC_isTaken_14 rfl (lv_at hl 2 rfl) ?_
        obtain ⟨n_4, ha_5, hw⟩ := hw
        obtain ⟨hi_6, hw⟩ := hw
        refine g_iald hC hwo ha_5 hi_6 dC_isTaken_15 ?_
        refine lv_iload_n hx hb dC_isTaken_16 rfl (lv_at hl 1 rfl) ?_
        refine lv_icmp_ne (tgt := 22) hx hb dC_isTaken_17 (by decide) (fun hc_7 => ?_) (fun hc_7 => ?_)
        · replace hw := hw.1 hc_7
          obtain ⟨y_8, ey_8⟩ : ∃ z : Int32, z = x2_2 + (1 : Int32) := ⟨_, rfl⟩
          replace hw := hw y_8 ey_8
          refine lv_iinc (k := 2) (v := y_8) (lv' := [(2, .int y_8), (0, .ref a0_2), (1, .int x1_2)]) hx hb dC_isTaken_22 hl rfl (by rw [ey_8]; rfl) (by decide) rfl (fun ls hl => ?_)
          refine lv_goto (tgt := 2) hx hb dC_isTaken_25 (by decide) ?_
          exact ih2 _ _ _ _ _ _ hw hwo hS (lv_sub hl [1, 2, 0] rfl)
        · replace hw := hw.2 hc_7
          refine lv_iconst (v := 1) hx hb dC_isTaken_20 (by decide) ?_
          exact g_zret hC hr hlk (Or.inr rfl) hw hwo hS dC_isTaken_21
  unfold wp_C_isTaken at hw
  refine lv_iconst (v := 0) hx hb dC_isTaken_0 (by decide) ?_
  refine lv_istore_n (i := 2) (lv' := [(2, .int (0 : Int32)), (0, .ref a0), (1, .int x1)]) hx hb dC_isTaken_1 rfl hl (by decide) rfl (fun ls hl => ?_)
  obtain ⟨n, hw⟩ := hw
  exact L2 _ _ n _ _ _ _ _ _ hw hwo hS (lv_sub hl [1, 2, 0] rfl)
theorem dC_loadPoints_0 : decode kC_loadPoints 0 = .ok (.aload_n 1, 1) := by decide +kernel
theorem dC_loadPoints_1 : decode kC_loadPoints 1 = .ok (.iconst 2, 1) := by decide +kernel
theorem dC_loadPoints_2 : decode kC_loadPoints 2 = .ok (.invokevirtual 40, 3) := by decide +kernel
theorem dC_loadPoints_5 : decode kC_loadPoints 5 = .ok (.iconst 2, 1) := by decide +kernel
theorem dC_loadPoints_6 : decode kC_loadPoints 6 = .ok (.iadd, 1) := by decide +kernel
theorem dC_loadPoints_7 : decode kC_loadPoints 7 = .ok (.istore_n 2, 1) := by decide +kernel
theorem dC_loadPoints_8 : decode kC_loadPoints 8 = .ok (.aload_n 0, 1) := by decide +kernel
theorem dC_loadPoints_9 : decode kC_loadPoints 9 = .ok (.getfield 28, 3) := by decide +kernel
theorem dC_loadPoints_12 : decode kC_loadPoints 12 = .ok (.iconst 0, 1) := by decide +kernel
theorem dC_loadPoints_13 : decode kC_loadPoints 13 = .ok (.iconst 0, 1) := by decide +kernel
theorem dC_loadPoints_14 : decode kC_loadPoints 14 = .ok (.iastore, 1) := by decide +kernel
theorem dC_loadPoints_15 : decode kC_loadPoints 15 = .ok (.aload_n 0, 1) := by decide +kernel
theorem dC_loadPoints_16 : decode kC_loadPoints 16 = .ok (.getfield 28, 3) := by decide +kernel
theorem dC_loadPoints_19 : decode kC_loadPoints 19 = .ok (.iconst 1, 1) := by decide +kernel
theorem dC_loadPoints_20 : decode kC_loadPoints 20 = .ok (.iconst 1, 1) := by decide +kernel
theorem dC_loadPoints_21 : decode kC_loadPoints 21 = .ok (.iload_n 2, 1) := by decide +kernel
theorem dC_loadPoints_22 : decode kC_loadPoints 22 = .ok (.ishl, 1) := by decide +kernel
theorem dC_loadPoints_23 : decode kC_loadPoints 23 = .ok (.iastore, 1) := by decide +kernel
theorem dC_loadPoints_24 : decode kC_loadPoints 24 = .ok (.aload_n 0, 1) := by decide +kernel
theorem dC_loadPoints_25 : decode kC_loadPoints 25 = .ok (.iconst 2, 1) := by decide +kernel
theorem dC_loadPoints_26 : decode kC_loadPoints 26 = .ok (.putfield 71, 3) := by decide +kernel
theorem dC_loadPoints_29 : decode kC_loadPoints 29 = .ok (.iconst 0, 1) := by decide +kernel
theorem dC_loadPoints_30 : decode kC_loadPoints 30 = .ok (.istore_n 3, 1) := by decide +kernel
theorem dC_loadPoints_31 : decode kC_loadPoints 31 = .ok (.iload_n 3, 1) := by decide +kernel
theorem dC_loadPoints_32 : decode kC_loadPoints 32 = .ok (.aload_n 0, 1) := by decide +kernel
theorem dC_loadPoints_33 : decode kC_loadPoints 33 = .ok (.getfield 50, 3) := by decide +kernel
theorem dC_loadPoints_36 : decode kC_loadPoints 36 = .ok (.if_icmp .ge 73, 3) := by decide +kernel
theorem dC_loadPoints_39 : decode kC_loadPoints 39 = .ok (.iconst 0, 1) := by decide +kernel
theorem dC_loadPoints_40 : decode kC_loadPoints 40 = .ok (.istore 4, 2) := by decide +kernel
theorem dC_loadPoints_42 : decode kC_loadPoints 42 = .ok (.iload 4, 2) := by decide +kernel
theorem dC_loadPoints_44 : decode kC_loadPoints 44 = .ok (.aload_n 0, 1) := by decide +kernel
theorem dC_loadPoints_45 : decode kC_loadPoints 45 = .ok (.getfield 15, 3) := by decide +kernel
theorem dC_loadPoints_48 : decode kC_loadPoints 48 = .ok (.aload_n 0, 1) := by decide +kernel
theorem dC_loadPoints_49 : decode kC_loadPoints 49 = .ok (.getfield 11, 3) := by decide +kernel
theorem dC_loadPoints_52 : decode kC_loadPoints 52 = .ok (.iload_n 3, 1) := by decide +kernel
theorem dC_loadPoints_53 : decode kC_loadPoints 53 = .ok (.iaload, 1) := by decide +kernel
theorem dC_loadPoints_54 : decode kC_loadPoints 54 = .ok (.iaload, 1) := by decide +kernel
theorem dC_loadPoints_55 : decode kC_loadPoints 55 = .ok (.if_icmp .ge 48, 3) := by decide +kernel
theorem dC_loadPoints_58 : decode kC_loadPoints 58 = .ok (.aload_n 1, 1) := by decide +kernel
theorem dC_loadPoints_59 : decode kC_loadPoints 59 = .ok (.iload_n 2, 1) := by decide +kernel
theorem dC_loadPoints_60 : decode kC_loadPoints 60 = .ok (.invokevirtual 40, 3) := by decide +kernel
theorem dC_loadPoints_63 : decode kC_loadPoints 63 = .ok (.istore 5, 2) := by decide +kernel
theorem dC_loadPoints_65 : decode kC_loadPoints 65 = .ok (.aload_n 0, 1) := by decide +kernel
theorem dC_loadPoints_66 : decode kC_loadPoints 66 = .ok (.iload 5, 2) := by decide +kernel
theorem dC_loadPoints_68 : decode kC_loadPoints 68 = .ok (.invokevirtual 74, 3) := by decide +kernel
theorem dC_loadPoints_71 : decode kC_loadPoints 71 = .ok (.ifCond .eq 5, 3) := by decide +kernel
theorem dC_loadPoints_74 : decode kC_loadPoints 74 = .ok (.iconst 0, 1) := by decide +kernel
theorem dC_loadPoints_75 : decode kC_loadPoints 75 = .ok (.ireturn, 1) := by decide +kernel
theorem dC_loadPoints_76 : decode kC_loadPoints 76 = .ok (.aload_n 0, 1) := by decide +kernel
theorem dC_loadPoints_77 : decode kC_loadPoints 77 = .ok (.getfield 28, 3) := by decide +kernel
theorem dC_loadPoints_80 : decode kC_loadPoints 80 = .ok (.aload_n 0, 1) := by decide +kernel
theorem dC_loadPoints_81 : decode kC_loadPoints 81 = .ok (.getfield 71, 3) := by decide +kernel
theorem dC_loadPoints_84 : decode kC_loadPoints 84 = .ok (.iload 5, 2) := by decide +kernel
theorem dC_loadPoints_86 : decode kC_loadPoints 86 = .ok (.iastore, 1) := by decide +kernel
theorem dC_loadPoints_87 : decode kC_loadPoints 87 = .ok (.aload_n 0, 1) := by decide +kernel
theorem dC_loadPoints_88 : decode kC_loadPoints 88 = .ok (.dup, 1) := by decide +kernel
theorem dC_loadPoints_89 : decode kC_loadPoints 89 = .ok (.getfield 71, 3) := by decide +kernel
theorem dC_loadPoints_92 : decode kC_loadPoints 92 = .ok (.iconst 1, 1) := by decide +kernel
theorem dC_loadPoints_93 : decode kC_loadPoints 93 = .ok (.iadd, 1) := by decide +kernel
theorem dC_loadPoints_94 : decode kC_loadPoints 94 = .ok (.putfield 71, 3) := by decide +kernel
theorem dC_loadPoints_97 : decode kC_loadPoints 97 = .ok (.iinc 4 1, 3) := by decide +kernel
theorem dC_loadPoints_100 : decode kC_loadPoints 100 = .ok (.goto (-58), 3) := by decide +kernel
theorem dC_loadPoints_103 : decode kC_loadPoints 103 = .ok (.iinc 3 1, 3) := by decide +kernel
theorem dC_loadPoints_106 : decode kC_loadPoints 106 = .ok (.goto (-75), 3) := by decide +kernel
theorem dC_loadPoints_109 : decode kC_loadPoints 109 = .ok (.iconst 1, 1) := by decide +kernel
theorem dC_loadPoints_110 : decode kC_loadPoints 110 = .ok (.ireturn, 1) := by decide +kernel
def bl_C_loadPoints_42 (θ : TH) (a0_31 : Nat) (a1_31 : Nat) (x2_31 : Int32) (x3_42 : Int32) (kb31 : Int32 → VT → UT → Prop) (K : Int32 → VT → UT → Prop) (kb42 : Int32 → VT → UT → Prop) (x4_42 : Int32) (V : VT) (U : UT) : Prop := isO θ a0_31 9 ∧ (U a0_31 3) ≠ 0 ∧ (U a0_31 2) ≠ 0 ∧ ∃ n_20, isA θ (U a0_31 2) 0 n_20 ∧ vp_in x3_42 n_20 ∧ ∃ n_23, isA θ (U a0_31 3) 0 n_23 ∧ vp_in (V (U a0_31 2) x3_42.toNatClampNeg) n_23 ∧ (((V (U a0_31 3) (V (U a0_31 2) x3_42.toNatClampNeg).toNatClampNeg) ≤ x4_42 → ∀ y_27 : Int32, y_27 = x3_42 + (1 : Int32) → kb31 y_27 V U) ∧ (¬ (V (U a0_31 3) (V (U a0_31 2) x3_42.toNatClampNeg).toNatClampNeg) ≤ x4_42 → isO θ a1_31 7 ∧ wp_H_read θ a1_31 x2_31 V U (fun r_31 V_28 U_29 => wp_C_isTaken θ a0_31 r_31 V_28 U_29 (fun r_34 V_32 U_33 => ((r_34 = 0 → (U_33 a0_31 8) ≠ 0 ∧ ∃ n_37, isA θ (U_33 a0_31 8) 0 n_37 ∧ vp_in (V_32 a0_31 7) n_37 ∧ ∀ V_40 : VT, V_40 = up2 V_32 (U_33 a0_31 8) (V_32 a0_31 7).toNatClampNeg r_31 → ∀ V_41 : VT, V_41 = up2 V_40 a0_31 7 ((V_40 a0_31 7) + (1 : Int32)) → ∀ y_42 : Int32, y_42 = x4_42 + (1 : Int32) → kb42 y_42 V_41 U_33) ∧ (¬ r_34 = 0 → K (0 : Int32) V_32 U_33))))))
def wl_C_loadPoints_42 (θ : TH) (a0_31 : Nat) (a1_31 : Nat) (x2_31 : Int32) (x3_42 : Int32) (kb31 : Int32 → VT → UT → Prop) (K : Int32 → VT → UT → Prop) : Nat → Int32 → VT → UT → Prop
  | 0, _, _, _ => False
  | n + 1, x4_42, V, U => bl_C_loadPoints_42 θ a0_31 a1_31 x2_31 x3_42 kb31 K (wl_C_loadPoints_42 θ a0_31 a1_31 x2_31 x3_42 kb31 K n) x4_42 V U
def bl_C_loadPoints_31 (θ : TH) (a0_31 : Nat) (a1_31 : Nat) (x2_31 : Int32) (K : Int32 → VT → UT → Prop) (kb31 : Int32 → VT → UT → Prop) (x3_31 : Int32) (V : VT) (U : UT) : Prop := isO θ a0_31 9 ∧ (((V a0_31 1) ≤ x3_31 → K (1 : Int32) V U) ∧ (¬ (V a0_31 1) ≤ x3_31 → ∃ n, wl_C_loadPoints_42 θ a0_31 a1_31 x2_31 x3_31 kb31 K n (0 : Int32) V U))
def wl_C_loadPoints_31 (θ : TH) (a0_31 : Nat) (a1_31 : Nat) (x2_31 : Int32) (K : Int32 → VT → UT → Prop) : Nat → Int32 → VT → UT → Prop
  | 0, _, _, _ => False
  | n + 1, x3_31, V, U => bl_C_loadPoints_31 θ a0_31 a1_31 x2_31 K (wl_C_loadPoints_31 θ a0_31 a1_31 x2_31 K n) x3_31 V U
def wp_C_loadPoints (θ : TH) (a0 : Nat) (a1 : Nat) (V : VT) (U : UT) (K : Int32 → VT → UT → Prop) : Prop := isO θ a1 7 ∧ wp_H_read θ a1 (2 : Int32) V U (fun r_4 V_1 U_2 => ∀ y_5 : Int32, y_5 = (r_4 + (2 : Int32)) → isO θ a0 9 ∧ (U_2 a0 8) ≠ 0 ∧ ∃ n_8, isA θ (U_2 a0 8) 0 n_8 ∧ vp_in (0 : Int32) n_8 ∧ ∀ V_11 : VT, V_11 = up2 V_1 (U_2 a0 8) (0 : Int32).toNatClampNeg (0 : Int32) → vp_in (1 : Int32) n_8 ∧ ∀ V_13 : VT, V_13 = up2 V_11 (U_2 a0 8) (1 : Int32).toNatClampNeg ((1 : Int32) <<< (y_5 &&& 31)) → ∀ V_14 : VT, V_14 = up2 V_13 a0 7 (2 : Int32) → ∃ n, wl_C_loadPoints_31 θ a0 a1 y_5 K n (0 : Int32) V_14 U_2)
set_option maxRecDepth 100000 in
set_option maxHeartbeats 4000000 in
theorem c_C_loadPoints (l : Launch) (θ : TH) (a0 : Nat) (a1 : Nat) (V : VT) (U : UT) (K : Int32 → VT → UT → Prop) (hw : wp_C_loadPoints θ a0 a1 V U K) : CMi l yC_loadPoints kC_loadPoints 6 (some .boolean) rmC_loadPoints θ [.ref a0, .ref a1] V U K := by
  refine g_met nRC (by decide +kernel) rfl (Nat.le_of_ble_eq_true rfl) (fun p e s m args below meth c ls hC hr hlk hwo hl => ?_)
  have hx := hC.1
  have hb := hC.2.1
  have hS : Sx θ s s.heap [] := va_S.rf
  have hl : lv_has ls 6 [(0, .ref a0), (1, .ref a1)] := hl
  have L31 : ∀ (a0_31 : Nat) (a1_31 : Nat) (x2_31 : Int32) (n31 : Nat) (x3_31 : Int32) (V : VT) (U : UT) (H : Heap) (locs : List Loc) (ls : Array Slot), wl_C_loadPoints_31 θ a0_31 a1_31 x2_31 K n31 x3_31 V U → wo θ V U H → Sx θ s H locs → lv_has ls 6 [(0, .ref a0_31), (1, .ref a1_31), (2, .int x2_31), (3, .int x3_31)] → W p l e rmC_loadPoints s m args below meth c H locs 0 0 (MQ below (QI θ K) args s 0 0 (aT θ)) (F0 m 31 ls []) := by
    intro a0_31 a1_31 x2_31 n31
    induction n31 with
    | zero => intro x3_31 V U H locs ls hw hwo hS hl; exact (show False from hw).elim
    | succ n31 ih31 =>
      have L42 : ∀ (x3_42 : Int32) (n42 : Nat) (x4_42 : Int32) (V : VT) (U : UT) (H : Heap) (locs : List Loc) (ls : Array Slot), wl_C_loadPoints_42 θ a0_31 a1_31 x2_31 x3_42 (wl_C_loadPoints_31 θ a0_31 a1_31 x2_31 K n31) K n42 x4_42 V U → wo θ V U H → Sx θ s H locs → lv_has ls 6 [(0, .ref a0_31), (1, .ref a1_31), (2, .int x2_31), (3, .int x3_42), (4, .int x4_42)] → W p l e rmC_loadPoints s m args below meth c H locs 0 0 (MQ below (QI θ K) args s 0 0 (aT θ)) (F0 m 42 ls []) := by
        intro x3_42 n42
        induction n42 with
        | zero => intro x4_42 V U H locs ls hw hwo hS hl; exact (show False from hw).elim
        | succ n42 ih42 =>
          intro x4_42 V U H locs ls hw hwo hS hl
          replace hw : bl_C_loadPoints_42 θ a0_31 a1_31 x2_31 x3_42 (wl_C_loadPoints_31 θ a0_31 a1_31 x2_31 K n31) K (wl_C_loadPoints_42 θ a0_31 a1_31 x2_31 x3_42 (wl_C_loadPoints_31 θ a0_31 a1_31 x2_31 K n31) K n42) x4_42 V U := hw
          unfold bl_C_loadPoints_42 at hw
          refine lv_iload hx hb dC_loadPoints_42 (lv_at hl 4 rfl) ?_
          refine lv_aload_n hx hb dC_loadPoints_44 rfl (lv_at hl 0 rfl) ?_
          obtain ⟨ho_17, hw⟩ := hw
          obtain ⟨hz_18, hw⟩ := hw
          refine g_getR hC fkC_15 rfl hwo ho_17 hz_18 dC_loadPoints_45 ?_
          refine lv_aload_n hx hb dC_loadPoints_48 rfl (lv_at hl 0 rfl) ?_
          obtain ⟨hz_19, hw⟩ := hw
          refine g_getR hC fkC_11 rfl hwo ho_17 hz_19 dC_loadPoints_49 ?_
          refine lv_iload_n hx hb dC_loadPoints_52 rfl (lv_at hl 3 rfl) ?_
          obtain ⟨n_20, ha_21, hw⟩ := hw
          obtain ⟨hi_22, hw⟩ := hw
          refine g_iald hC hwo ha_21 hi_22 dC_loadPoints_53 ?_
          obtain ⟨n_23, ha_24, hw⟩ := hw
          obtain ⟨hi_25, hw⟩ := hw
          refine g_iald hC hwo ha_24 hi_25 dC_loadPoints_54 ?_
          refine lv_icmp_ge (tgt := 103) hx hb dC_loadPoints_55 (by decide) (fun hc_26 => ?_) (fun hc_26 => ?_)
          · replace hw := hw.1 hc_26
            obtain ⟨y_27, ey_27⟩ : ∃ z : Int32, z = x3_42 + (1 : Int32) := ⟨_, rfl⟩
            replace hw := hw y_27 ey_27
            refine lv_iinc (k := 3) (v := y_27) (lv' := [(3, .int y_27), (0, .ref a0_31), (1, .ref a1_31), (2, .int x2_31), (4, .int x4_42)]) hx hb dC_loadPoints_103 hl rfl (by rw [ey_27]; rfl) (by decide) rfl (fun ls hl => ?_)
            refine lv_goto (tgt := 31) hx hb dC_loadPoints_106 (by decide) ?_
            exact ih31 _ _ _ _ _ _ hw hwo hS (lv_sub hl [1, 2, 3, 0] rfl)
          · replace hw := hw.2 hc_26
            refine lv_aload_n hx hb dC_loadPoints_58 rfl (lv_at hl 1 rfl) ?_
            refine lv_iload_n hx hb dC_loadPoints_59 rfl (lv_at hl 2 rfl) ?_
            obtain ⟨ho_30, hw⟩ := hw
            refine g_Vi (rest := []) hC (c_H_read l θ _ _ _ _ _ hw) mi_H_read mlC_40 mv_H_read ci_7 ho_30 hwo hS ⟨rfl, rfl⟩ ⟨by decide, by decide⟩ rfl hl.1 rfl (Nat.le_of_ble_eq_true rfl) dC_loadPoints_60 (fun r_31 V_28 U_29 hw H locs hwo hS => ?_)
            refine lv_istore (i := 5) (lv' := [(5, .int r_31), (0, .ref a0_31), (1, .ref a1_31), (2, .int x2_31), (3, .int x3_42), (4, .int x4_42)]) hx hb dC_loadPoints_63 hl (by decide) rfl (fun ls hl => ?_)
            refine lv_aload_n hx hb dC_loadPoints_65 rfl (lv_at hl 1 rfl) ?_
            refine lv_iload hx hb dC_loadPoints_66 (lv_at hl 0 rfl) ?_
            refine g_Vi (rest := []) hC (c_C_isTaken l θ _ _ _ _ _ hw) mi_C_isTaken mlC_74 mv_C_isTaken ci_9 ho_17 hwo hS ⟨rfl, rfl⟩ ⟨by decide, by decide⟩ rfl hl.1 rfl (Nat.le_of_ble_eq_true rfl) dC_loadPoints_68 (fun r_34 V_32 U_33 hw H locs hwo hS => ?_)
            refine lv_if_eq (tgt := 76) hx hb dC_loadPoints_71 (by decide) (fun hc_35 => ?_) (fun hc_35 => ?_)
            · replace hw := hw.1 hc_35
              refine lv_aload_n hx hb dC_loadPoints_76 rfl (lv_at hl 1 rfl) ?_
              obtain ⟨hz_36, hw⟩ := hw
              refine g_getR hC fkC_28 rfl hwo ho_17 hz_36 dC_loadPoints_77 ?_
              refine lv_aload_n hx hb dC_loadPoints_80 rfl (lv_at hl 1 rfl) ?_
              refine g_getI hC fkC_71 rfl hwo ho_17 dC_loadPoints_81 ?_
              refine lv_iload hx hb dC_loadPoints_84 (lv_at hl 0 rfl) ?_
              obtain ⟨n_37, ha_38, hw⟩ := hw
              obtain ⟨hi_39, hw⟩ := hw
              refine g_iast hC hwo hS ha_38 hi_39 dC_loadPoints_86 (fun V_40 eV_40 H locs hwo hS => ?_)
              replace hw := hw V_40 eV_40
              refine lv_aload_n hx hb dC_loadPoints_87 rfl (lv_at hl 1 rfl) ?_
              refine lv_dup hx hb dC_loadPoints_88 rfl ?_
              refine g_getI hC fkC_71 rfl hwo ho_17 dC_loadPoints_89 ?_
              refine lv_iconst (v := 1) hx hb dC_loadPoints_92 (by decide) ?_
              refine lv_iadd hx hb dC_loadPoints_93 ?_
              refine g_putI hC fkC_71 rfl hwo hS ho_17 dC_loadPoints_94 (fun V_41 eV_41 H locs hwo hS => ?_)
              replace hw := hw V_41 eV_41
              obtain ⟨y_42, ey_42⟩ : ∃ z : Int32, z = x4_42 + (1 : Int32) := ⟨_, rfl⟩
              replace hw := hw y_42 ey_42
              refine lv_iinc (k := 5) (v := y_42) (lv' := [(4, .int y_42), (5, .int r_31), (0, .ref a0_31), (1, .ref a1_31), (2, .int x2_31), (3, .int x3_42)]) hx hb dC_loadPoints_97 hl rfl (by rw [ey_42]; rfl) (by decide) rfl (fun ls hl => ?_)
              refine lv_goto (tgt := 42) hx hb dC_loadPoints_100 (by decide) ?_
              exact ih42 _ _ _ _ _ _ hw hwo hS (lv_sub hl [2, 3, 4, 5, 0] rfl)
            · replace hw := hw.2 hc_35
              refine lv_iconst (v := 0) hx hb dC_loadPoints_74 (by decide) ?_
              exact g_zret hC hr hlk (Or.inl rfl) hw hwo hS dC_loadPoints_75
      intro x3_31 V U H locs ls hw hwo hS hl
      replace hw : bl_C_loadPoints_31 θ a0_31 a1_31 x2_31 K (wl_C_loadPoints_31 θ a0_31 a1_31 x2_31 K n31) x3_31 V U := hw
      unfold bl_C_loadPoints_31 at hw
      refine lv_iload_n hx hb dC_loadPoints_31 rfl (lv_at hl 3 rfl) ?_
      refine lv_aload_n hx hb dC_loadPoints_32 rfl (lv_at hl 0 rfl) ?_
      obtain ⟨ho_15, hw⟩ := hw
      refine g_getI hC fkC_50 rfl hwo ho_15 dC_loadPoints_33 ?_
      refine lv_icmp_ge (tgt := 109) hx hb dC_loadPoints_36 (by decide) (fun hc_16 => ?_) (fun hc_16 => ?_)
      · replace hw := hw.1 hc_16
        refine lv_iconst (v := 1) hx hb dC_loadPoints_109 (by decide) ?_
        exact g_zret hC hr hlk (Or.inr rfl) hw hwo hS dC_loadPoints_110
      · replace hw := hw.2 hc_16
        refine lv_iconst (v := 0) hx hb dC_loadPoints_39 (by decide) ?_
        refine lv_istore (i := 4) (lv' := [(4, .int (0 : Int32)), (0, .ref a0_31), (1, .ref a1_31), (2, .int x2_31), (3, .int x3_31)]) hx hb dC_loadPoints_40 hl (by decide) rfl (fun ls hl => ?_)
        obtain ⟨n, hw⟩ := hw
        exact L42 _ n _ _ _ _ _ _ hw hwo hS (lv_sub hl [1, 2, 3, 4, 0] rfl)
  unfold wp_C_loadPoints at hw
  refine lv_aload_n hx hb dC_loadPoints_0 rfl (lv_at hl 1 rfl) ?_
  refine lv_iconst (v := 2) hx hb dC_loadPoints_1 (by decide) ?_
  obtain ⟨ho_3, hw⟩ := hw
  refine g_Vi (rest := []) hC (c_H_read l θ _ _ _ _ _ hw) mi_H_read mlC_40 mv_H_read ci_7 ho_3 hwo hS ⟨rfl, rfl⟩ ⟨by decide, by decide⟩ rfl hl.1 rfl (Nat.le_of_ble_eq_true rfl) dC_loadPoints_2 (fun r_4 V_1 U_2 hw H locs hwo hS => ?_)
  refine lv_iconst (v := 2) hx hb dC_loadPoints_5 (by decide) ?_
  refine lv_iadd hx hb dC_loadPoints_6 ?_
  refine lv_topi (fun y_5 ey_5 => ?_)
  replace hw := hw y_5 ey_5
  refine lv_istore_n (i := 2) (lv' := [(2, .int y_5), (0, .ref a0), (1, .ref a1)]) hx hb dC_loadPoints_7 rfl hl (by decide) rfl (fun ls hl => ?_)
  refine lv_aload_n hx hb dC_loadPoints_8 rfl (lv_at hl 1 rfl) ?_
  obtain ⟨ho_6, hw⟩ := hw
  obtain ⟨hz_7, hw⟩ := hw
  refine g_getR hC fkC_28 rfl hwo ho_6 hz_7 dC_loadPoints_9 ?_
  refine lv_iconst (v := 0) hx hb dC_loadPoints_12 (by decide) ?_
  refine lv_iconst (v := 0) hx hb dC_loadPoints_13 (by decide) ?_
  obtain ⟨n_8, ha_9, hw⟩ := hw
  obtain ⟨hi_10, hw⟩ := hw
  refine g_iast hC hwo hS ha_9 hi_10 dC_loadPoints_14 (fun V_11 eV_11 H locs hwo hS => ?_)
  replace hw := hw V_11 eV_11
  refine lv_aload_n hx hb dC_loadPoints_15 rfl (lv_at hl 1 rfl) ?_
  refine g_getR hC fkC_28 rfl hwo ho_6 hz_7 dC_loadPoints_16 ?_
  refine lv_iconst (v := 1) hx hb dC_loadPoints_19 (by decide) ?_
  refine lv_iconst (v := 1) hx hb dC_loadPoints_20 (by decide) ?_
  refine lv_iload_n hx hb dC_loadPoints_21 rfl (lv_at hl 0 rfl) ?_
  refine lv_ishl hx hb dC_loadPoints_22 ?_
  obtain ⟨hi_12, hw⟩ := hw
  refine g_iast hC hwo hS ha_9 hi_12 dC_loadPoints_23 (fun V_13 eV_13 H locs hwo hS => ?_)
  replace hw := hw V_13 eV_13
  refine lv_aload_n hx hb dC_loadPoints_24 rfl (lv_at hl 1 rfl) ?_
  refine lv_iconst (v := 2) hx hb dC_loadPoints_25 (by decide) ?_
  refine g_putI hC fkC_71 rfl hwo hS ho_6 dC_loadPoints_26 (fun V_14 eV_14 H locs hwo hS => ?_)
  replace hw := hw V_14 eV_14
  refine lv_iconst (v := 0) hx hb dC_loadPoints_29 (by decide) ?_
  refine lv_istore_n (i := 3) (lv' := [(3, .int (0 : Int32)), (2, .int y_5), (0, .ref a0), (1, .ref a1)]) hx hb dC_loadPoints_30 rfl hl (by decide) rfl (fun ls hl => ?_)
  obtain ⟨n, hw⟩ := hw
  exact L31 _ _ _ n _ _ _ _ _ _ hw hwo hS (lv_sub hl [2, 3, 1, 0] rfl)
theorem dC_load_0 : decode kC_load 0 = .ok (.aload_n 0, 1) := by decide +kernel
theorem dC_load_1 : decode kC_load 1 = .ok (.aload_n 1, 1) := by decide +kernel
theorem dC_load_2 : decode kC_load 2 = .ok (.iconst 2, 1) := by decide +kernel
theorem dC_load_3 : decode kC_load 3 = .ok (.invokevirtual 40, 3) := by decide +kernel
theorem dC_load_6 : decode kC_load 6 = .ok (.putfield 46, 3) := by decide +kernel
theorem dC_load_9 : decode kC_load 9 = .ok (.aload_n 0, 1) := by decide +kernel
theorem dC_load_10 : decode kC_load 10 = .ok (.aload_n 1, 1) := by decide +kernel
theorem dC_load_11 : decode kC_load 11 = .ok (.iconst 2, 1) := by decide +kernel
theorem dC_load_12 : decode kC_load 12 = .ok (.invokevirtual 40, 3) := by decide +kernel
theorem dC_load_15 : decode kC_load 15 = .ok (.putfield 50, 3) := by decide +kernel
theorem dC_load_18 : decode kC_load 18 = .ok (.iconst 0, 1) := by decide +kernel
theorem dC_load_19 : decode kC_load 19 = .ok (.istore_n 3, 1) := by decide +kernel
theorem dC_load_20 : decode kC_load 20 = .ok (.iconst 0, 1) := by decide +kernel
theorem dC_load_21 : decode kC_load 21 = .ok (.istore 4, 2) := by decide +kernel
theorem dC_load_23 : decode kC_load 23 = .ok (.iload 4, 2) := by decide +kernel
theorem dC_load_25 : decode kC_load 25 = .ok (.aload_n 0, 1) := by decide +kernel
theorem dC_load_26 : decode kC_load 26 = .ok (.getfield 50, 3) := by decide +kernel
theorem dC_load_29 : decode kC_load 29 = .ok (.if_icmp .ge 35, 3) := by decide +kernel
theorem dC_load_32 : decode kC_load 32 = .ok (.aload_n 0, 1) := by decide +kernel
theorem dC_load_33 : decode kC_load 33 = .ok (.getfield 11, 3) := by decide +kernel
theorem dC_load_36 : decode kC_load 36 = .ok (.iload 4, 2) := by decide +kernel
theorem dC_load_38 : decode kC_load 38 = .ok (.aload_n 1, 1) := by decide +kernel
theorem dC_load_39 : decode kC_load 39 = .ok (.iconst 1, 1) := by decide +kernel
theorem dC_load_40 : decode kC_load 40 = .ok (.invokevirtual 40, 3) := by decide +kernel
theorem dC_load_43 : decode kC_load 43 = .ok (.iastore, 1) := by decide +kernel
theorem dC_load_44 : decode kC_load 44 = .ok (.iload_n 3, 1) := by decide +kernel
theorem dC_load_45 : decode kC_load 45 = .ok (.aload_n 0, 1) := by decide +kernel
theorem dC_load_46 : decode kC_load 46 = .ok (.getfield 11, 3) := by decide +kernel
theorem dC_load_49 : decode kC_load 49 = .ok (.iload 4, 2) := by decide +kernel
theorem dC_load_51 : decode kC_load 51 = .ok (.iaload, 1) := by decide +kernel
theorem dC_load_52 : decode kC_load 52 = .ok (.iconst 1, 1) := by decide +kernel
theorem dC_load_53 : decode kC_load 53 = .ok (.iadd, 1) := by decide +kernel
theorem dC_load_54 : decode kC_load 54 = .ok (.invokestatic 53, 3) := by decide +kernel
theorem dC_load_57 : decode kC_load 57 = .ok (.istore_n 3, 1) := by decide +kernel
theorem dC_load_58 : decode kC_load 58 = .ok (.iinc 4 1, 3) := by decide +kernel
theorem dC_load_61 : decode kC_load 61 = .ok (.goto (-38), 3) := by decide +kernel
theorem dC_load_64 : decode kC_load 64 = .ok (.iconst 0, 1) := by decide +kernel
theorem dC_load_65 : decode kC_load 65 = .ok (.istore 4, 2) := by decide +kernel
theorem dC_load_67 : decode kC_load 67 = .ok (.iload 4, 2) := by decide +kernel
theorem dC_load_69 : decode kC_load 69 = .ok (.iload_n 3, 1) := by decide +kernel
theorem dC_load_70 : decode kC_load 70 = .ok (.if_icmp .ge 22, 3) := by decide +kernel
theorem dC_load_73 : decode kC_load 73 = .ok (.aload_n 0, 1) := by decide +kernel
theorem dC_load_74 : decode kC_load 74 = .ok (.aload_n 1, 1) := by decide +kernel
theorem dC_load_75 : decode kC_load 75 = .ok (.iload 4, 2) := by decide +kernel
theorem dC_load_77 : decode kC_load 77 = .ok (.iload_n 2, 1) := by decide +kernel
theorem dC_load_78 : decode kC_load 78 = .ok (.invokevirtual 59, 3) := by decide +kernel
theorem dC_load_81 : decode kC_load 81 = .ok (.ifCond .ne 5, 3) := by decide +kernel
theorem dC_load_84 : decode kC_load 84 = .ok (.iconst 0, 1) := by decide +kernel
theorem dC_load_85 : decode kC_load 85 = .ok (.ireturn, 1) := by decide +kernel
theorem dC_load_86 : decode kC_load 86 = .ok (.iinc 4 1, 3) := by decide +kernel
theorem dC_load_89 : decode kC_load 89 = .ok (.goto (-22), 3) := by decide +kernel
theorem dC_load_92 : decode kC_load 92 = .ok (.aload_n 0, 1) := by decide +kernel
theorem dC_load_93 : decode kC_load 93 = .ok (.aload_n 1, 1) := by decide +kernel
theorem dC_load_94 : decode kC_load 94 = .ok (.invokevirtual 63, 3) := by decide +kernel
theorem dC_load_97 : decode kC_load 97 = .ok (.ireturn, 1) := by decide +kernel
def bl_C_load_67 (θ : TH) (a0_67 : Nat) (a1_67 : Nat) (x2_67 : Int32) (x3_67 : Int32) (K : Int32 → VT → UT → Prop) (kb67 : Int32 → VT → UT → Prop) (x4_67 : Int32) (V : VT) (U : UT) : Prop := ((x3_67 ≤ x4_67 → isO θ a0_67 9 ∧ wp_C_loadPoints θ a0_67 a1_67 V U (fun r_32 V_29 U_30 => isZ r_32 ∧ K r_32 V_29 U_30)) ∧ (¬ x3_67 ≤ x4_67 → isO θ a0_67 9 ∧ wp_C_loadClass θ a0_67 a1_67 x4_67 x2_67 V U (fun r_37 V_34 U_35 => ((¬ r_37 = 0 → ∀ y_39 : Int32, y_39 = x4_67 + (1 : Int32) → kb67 y_39 V_34 U_35) ∧ (r_37 = 0 → K (0 : Int32) V_34 U_35)))))
def wl_C_load_67 (θ : TH) (a0_67 : Nat) (a1_67 : Nat) (x2_67 : Int32) (x3_67 : Int32) (K : Int32 → VT → UT → Prop) : Nat → Int32 → VT → UT → Prop
  | 0, _, _, _ => False
  | n + 1, x4_67, V, U => bl_C_load_67 θ a0_67 a1_67 x2_67 x3_67 K (wl_C_load_67 θ a0_67 a1_67 x2_67 x3_67 K n) x4_67 V U
def bl_C_load_23 (θ : TH) (a0_23 : Nat) (a1_23 : Nat) (x2_23 : Int32) (K : Int32 → VT → UT → Prop) (kb23 : Int32 → Int32 → VT → UT → Prop) (x3_23 : Int32) (x4_23 : Int32) (V : VT) (U : UT) : Prop := isO θ a0_23 9 ∧ (((V a0_23 1) ≤ x4_23 → ∃ n, wl_C_load_67 θ a0_23 a1_23 x2_23 x3_23 K n (0 : Int32) V U) ∧ (¬ (V a0_23 1) ≤ x4_23 → (U a0_23 2) ≠ 0 ∧ isO θ a1_23 7 ∧ wp_H_read θ a1_23 (1 : Int32) V U (fun r_17 V_14 U_15 => ∃ n_18, isA θ (U a0_23 2) 0 n_18 ∧ vp_in x4_23 n_18 ∧ ∀ V_21 : VT, V_21 = up2 V_14 (U a0_23 2) x4_23.toNatClampNeg r_17 → (U_15 a0_23 2) ≠ 0 ∧ ∃ n_23, isA θ (U_15 a0_23 2) 0 n_23 ∧ vp_in x4_23 n_23 ∧ ∀ y_26 : Int32, y_26 = (if x3_23 < ((V_21 (U_15 a0_23 2) x4_23.toNatClampNeg) + (1 : Int32)) then ((V_21 (U_15 a0_23 2) x4_23.toNatClampNeg) + (1 : Int32)) else x3_23) → ∀ y_27 : Int32, y_27 = x4_23 + (1 : Int32) → kb23 y_26 y_27 V_21 U_15)))
def wl_C_load_23 (θ : TH) (a0_23 : Nat) (a1_23 : Nat) (x2_23 : Int32) (K : Int32 → VT → UT → Prop) : Nat → Int32 → Int32 → VT → UT → Prop
  | 0, _, _, _, _ => False
  | n + 1, x3_23, x4_23, V, U => bl_C_load_23 θ a0_23 a1_23 x2_23 K (wl_C_load_23 θ a0_23 a1_23 x2_23 K n) x3_23 x4_23 V U
def wp_C_load (θ : TH) (a0 : Nat) (a1 : Nat) (x2 : Int32) (V : VT) (U : UT) (K : Int32 → VT → UT → Prop) : Prop := isO θ a1 7 ∧ wp_H_read θ a1 (2 : Int32) V U (fun r_4 V_1 U_2 => isO θ a0 9 ∧ ∀ V_6 : VT, V_6 = up2 V_1 a0 0 r_4 → wp_H_read θ a1 (2 : Int32) V_6 U_2 (fun r_9 V_7 U_8 => ∀ V_10 : VT, V_10 = up2 V_7 a0 1 r_9 → ∃ n, wl_C_load_23 θ a0 a1 x2 K n (0 : Int32) (0 : Int32) V_10 U_8))
set_option maxRecDepth 100000 in
set_option maxHeartbeats 4000000 in
theorem c_C_load (l : Launch) (θ : TH) (a0 : Nat) (a1 : Nat) (x2 : Int32) (V : VT) (U : UT) (K : Int32 → VT → UT → Prop) (hw : wp_C_load θ a0 a1 x2 V U K) : CMi l yC_load kC_load 5 (some .boolean) rmC_load θ [.ref a0, .ref a1, .int x2] V U K := by
  refine g_met nRC (by decide +kernel) rfl (Nat.le_of_ble_eq_true rfl) (fun p e s m args below meth c ls hC hr hlk hwo hl => ?_)
  have hx := hC.1
  have hb := hC.2.1
  have hS : Sx θ s s.heap [] := va_S.rf
  have hl : lv_has ls 5 [(0, .ref a0), (1, .ref a1), (2, .int x2)] := hl
  have L67 : ∀ (a0_67 : Nat) (a1_67 : Nat) (x2_67 : Int32) (x3_67 : Int32) (n67 : Nat) (x4_67 : Int32) (V : VT) (U : UT) (H : Heap) (locs : List Loc) (ls : Array Slot), wl_C_load_67 θ a0_67 a1_67 x2_67 x3_67 K n67 x4_67 V U → wo θ V U H → Sx θ s H locs → lv_has ls 5 [(0, .ref a0_67), (1, .ref a1_67), (2, .int x2_67), (3, .int x3_67), (4, .int x4_67)] → W p l e rmC_load s m args below meth c H locs 0 0 (MQ below (QI θ K) args s 0 0 (aT θ)) (F0 m 67 ls []) := by
    intro a0_67 a1_67 x2_67 x3_67 n67
    induction n67 with
    | zero => intro x4_67 V U H locs ls hw hwo hS hl; exact (show False from hw).elim
    | succ n67 ih67 =>
      intro x4_67 V U H locs ls hw hwo hS hl
      replace hw : bl_C_load_67 θ a0_67 a1_67 x2_67 x3_67 K (wl_C_load_67 θ a0_67 a1_67 x2_67 x3_67 K n67) x4_67 V U := hw
      unfold bl_C_load_67 at hw
      refine lv_iload hx hb dC_load_67 (lv_at hl 4 rfl) ?_
      refine lv_iload_n hx hb dC_load_69 rfl (lv_at hl 3 rfl) ?_
      refine lv_icmp_ge (tgt := 92) hx hb dC_load_70 (by decide) (fun hc_28 => ?_) (fun hc_28 => ?_)
      · replace hw := hw.1 hc_28
        refine lv_aload_n hx hb dC_load_92 rfl (lv_at hl 0 rfl) ?_
        refine lv_aload_n hx hb dC_load_93 rfl (lv_at hl 1 rfl) ?_
        obtain ⟨ho_31, hw⟩ := hw
        refine g_Vi (rest := []) hC (c_C_loadPoints l θ _ _ _ _ _ hw) mi_C_loadPoints mlC_63 mv_C_loadPoints ci_9 ho_31 hwo hS ⟨rfl, rfl⟩ ⟨by decide, by decide⟩ rfl hl.1 rfl (Nat.le_of_ble_eq_true rfl) dC_load_94 (fun r_32 V_29 U_30 hw H locs hwo hS => ?_)
        obtain ⟨hb_33, hw⟩ := hw
        exact g_zret hC hr hlk hb_33 hw hwo hS dC_load_97
      · replace hw := hw.2 hc_28
        refine lv_aload_n hx hb dC_load_73 rfl (lv_at hl 0 rfl) ?_
        refine lv_aload_n hx hb dC_load_74 rfl (lv_at hl 1 rfl) ?_
        refine lv_iload hx hb dC_load_75 (lv_at hl 4 rfl) ?_
        refine lv_iload_n hx hb dC_load_77 rfl (lv_at hl 2 rfl) ?_
        obtain ⟨ho_36, hw⟩ := hw
        refine g_Vi (rest := []) hC (c_C_loadClass l θ _ _ _ _ _ _ _ hw) mi_C_loadClass mlC_59 mv_C_loadClass ci_9 ho_36 hwo hS ⟨rfl, rfl⟩ ⟨by decide, by decide⟩ rfl hl.1 rfl (Nat.le_of_ble_eq_true rfl) dC_load_78 (fun r_37 V_34 U_35 hw H locs hwo hS => ?_)
        refine lv_if_ne (tgt := 86) hx hb dC_load_81 (by decide) (fun hc_38 => ?_) (fun hc_38 => ?_)
        · replace hw := hw.1 hc_38
          obtain ⟨y_39, ey_39⟩ : ∃ z : Int32, z = x4_67 + (1 : Int32) := ⟨_, rfl⟩
          replace hw := hw y_39 ey_39
          refine lv_iinc (k := 4) (v := y_39) (lv' := [(4, .int y_39), (0, .ref a0_67), (1, .ref a1_67), (2, .int x2_67), (3, .int x3_67)]) hx hb dC_load_86 hl rfl (by rw [ey_39]; rfl) (by decide) rfl (fun ls hl => ?_)
          refine lv_goto (tgt := 67) hx hb dC_load_89 (by decide) ?_
          exact ih67 _ _ _ _ _ _ hw hwo hS (lv_sub hl [1, 2, 3, 4, 0] rfl)
        · replace hw := hw.2 hc_38
          refine lv_iconst (v := 0) hx hb dC_load_84 (by decide) ?_
          exact g_zret hC hr hlk (Or.inl rfl) hw hwo hS dC_load_85
  have L23 : ∀ (a0_23 : Nat) (a1_23 : Nat) (x2_23 : Int32) (n23 : Nat) (x3_23 : Int32) (x4_23 : Int32) (V : VT) (U : UT) (H : Heap) (locs : List Loc) (ls : Array Slot), wl_C_load_23 θ a0_23 a1_23 x2_23 K n23 x3_23 x4_23 V U → wo θ V U H → Sx θ s H locs → lv_has ls 5 [(0, .ref a0_23), (1, .ref a1_23), (2, .int x2_23), (3, .int x3_23), (4, .int x4_23)] → W p l e rmC_load s m args below meth c H locs 0 0 (MQ below (QI θ K) args s 0 0 (aT θ)) (F0 m 23 ls []) := by
    intro a0_23 a1_23 x2_23 n23
    induction n23 with
    | zero => intro x3_23 x4_23 V U H locs ls hw hwo hS hl; exact (show False from hw).elim
    | succ n23 ih23 =>
      intro x3_23 x4_23 V U H locs ls hw hwo hS hl
      replace hw : bl_C_load_23 θ a0_23 a1_23 x2_23 K (wl_C_load_23 θ a0_23 a1_23 x2_23 K n23) x3_23 x4_23 V U := hw
      unfold bl_C_load_23 at hw
      refine lv_iload hx hb dC_load_23 (lv_at hl 4 rfl) ?_
      refine lv_aload_n hx hb dC_load_25 rfl (lv_at hl 0 rfl) ?_
      obtain ⟨ho_11, hw⟩ := hw
      refine g_getI hC fkC_50 rfl hwo ho_11 dC_load_26 ?_
      refine lv_icmp_ge (tgt := 64) hx hb dC_load_29 (by decide) (fun hc_12 => ?_) (fun hc_12 => ?_)
      · replace hw := hw.1 hc_12
        refine lv_iconst (v := 0) hx hb dC_load_64 (by decide) ?_
        refine lv_istore (i := 4) (lv' := [(4, .int (0 : Int32)), (0, .ref a0_23), (1, .ref a1_23), (2, .int x2_23), (3, .int x3_23)]) hx hb dC_load_65 hl (by decide) rfl (fun ls hl => ?_)
        obtain ⟨n, hw⟩ := hw
        exact L67 _ _ _ _ n _ _ _ _ _ _ hw hwo hS (lv_sub hl [1, 2, 3, 4, 0] rfl)
      · replace hw := hw.2 hc_12
        refine lv_aload_n hx hb dC_load_32 rfl (lv_at hl 0 rfl) ?_
        obtain ⟨hz_13, hw⟩ := hw
        refine g_getR hC fkC_11 rfl hwo ho_11 hz_13 dC_load_33 ?_
        refine lv_iload hx hb dC_load_36 (lv_at hl 4 rfl) ?_
        refine lv_aload_n hx hb dC_load_38 rfl (lv_at hl 1 rfl) ?_
        refine lv_iconst (v := 1) hx hb dC_load_39 (by decide) ?_
        obtain ⟨ho_16, hw⟩ := hw
        refine g_Vi (rest := [.int x4_23, .ref (U a0_23 2)]) hC (c_H_read l θ _ _ _ _ _ hw) mi_H_read mlC_40 mv_H_read ci_7 ho_16 hwo hS ⟨rfl, rfl⟩ ⟨by decide, by decide⟩ rfl hl.1 rfl (Nat.le_of_ble_eq_true rfl) dC_load_40 (fun r_17 V_14 U_15 hw H locs hwo hS => ?_)
        obtain ⟨n_18, ha_19, hw⟩ := hw
        obtain ⟨hi_20, hw⟩ := hw
        refine g_iast hC hwo hS ha_19 hi_20 dC_load_43 (fun V_21 eV_21 H locs hwo hS => ?_)
        replace hw := hw V_21 eV_21
        refine lv_iload_n hx hb dC_load_44 rfl (lv_at hl 3 rfl) ?_
        refine lv_aload_n hx hb dC_load_45 rfl (lv_at hl 0 rfl) ?_
        obtain ⟨hz_22, hw⟩ := hw
        refine g_getR hC fkC_11 rfl hwo ho_11 hz_22 dC_load_46 ?_
        refine lv_iload hx hb dC_load_49 (lv_at hl 4 rfl) ?_
        obtain ⟨n_23, ha_24, hw⟩ := hw
        obtain ⟨hi_25, hw⟩ := hw
        refine g_iald hC hwo ha_24 hi_25 dC_load_51 ?_
        refine lv_iconst (v := 1) hx hb dC_load_52 (by decide) ?_
        refine lv_iadd hx hb dC_load_53 ?_
        refine g_max hC hl.1 lkC_53 ka_max (by decide) (Nat.le_of_ble_eq_true rfl) dC_load_54 ?_
        refine lv_topi (fun y_26 ey_26 => ?_)
        replace hw := hw y_26 ey_26
        refine lv_istore_n (i := 3) (lv' := [(3, .int y_26), (0, .ref a0_23), (1, .ref a1_23), (2, .int x2_23), (4, .int x4_23)]) hx hb dC_load_57 rfl hl (by decide) rfl (fun ls hl => ?_)
        obtain ⟨y_27, ey_27⟩ : ∃ z : Int32, z = x4_23 + (1 : Int32) := ⟨_, rfl⟩
        replace hw := hw y_27 ey_27
        refine lv_iinc (k := 4) (v := y_27) (lv' := [(4, .int y_27), (3, .int y_26), (0, .ref a0_23), (1, .ref a1_23), (2, .int x2_23)]) hx hb dC_load_58 hl rfl (by rw [ey_27]; rfl) (by decide) rfl (fun ls hl => ?_)
        refine lv_goto (tgt := 23) hx hb dC_load_61 (by decide) ?_
        exact ih23 _ _ _ _ _ _ _ hw hwo hS (lv_sub hl [2, 3, 4, 1, 0] rfl)
  unfold wp_C_load at hw
  refine lv_aload_n hx hb dC_load_0 rfl (lv_at hl 0 rfl) ?_
  refine lv_aload_n hx hb dC_load_1 rfl (lv_at hl 1 rfl) ?_
  refine lv_iconst (v := 2) hx hb dC_load_2 (by decide) ?_
  obtain ⟨ho_3, hw⟩ := hw
  refine g_Vi (rest := [.ref a0]) hC (c_H_read l θ _ _ _ _ _ hw) mi_H_read mlC_40 mv_H_read ci_7 ho_3 hwo hS ⟨rfl, rfl⟩ ⟨by decide, by decide⟩ rfl hl.1 rfl (Nat.le_of_ble_eq_true rfl) dC_load_3 (fun r_4 V_1 U_2 hw H locs hwo hS => ?_)
  obtain ⟨ho_5, hw⟩ := hw
  refine g_putI hC fkC_46 rfl hwo hS ho_5 dC_load_6 (fun V_6 eV_6 H locs hwo hS => ?_)
  replace hw := hw V_6 eV_6
  refine lv_aload_n hx hb dC_load_9 rfl (lv_at hl 0 rfl) ?_
  refine lv_aload_n hx hb dC_load_10 rfl (lv_at hl 1 rfl) ?_
  refine lv_iconst (v := 2) hx hb dC_load_11 (by decide) ?_
  refine g_Vi (rest := [.ref a0]) hC (c_H_read l θ _ _ _ _ _ hw) mi_H_read mlC_40 mv_H_read ci_7 ho_3 hwo hS ⟨rfl, rfl⟩ ⟨by decide, by decide⟩ rfl hl.1 rfl (Nat.le_of_ble_eq_true rfl) dC_load_12 (fun r_9 V_7 U_8 hw H locs hwo hS => ?_)
  refine g_putI hC fkC_50 rfl hwo hS ho_5 dC_load_15 (fun V_10 eV_10 H locs hwo hS => ?_)
  replace hw := hw V_10 eV_10
  refine lv_iconst (v := 0) hx hb dC_load_18 (by decide) ?_
  refine lv_istore_n (i := 3) (lv' := [(3, .int (0 : Int32)), (0, .ref a0), (1, .ref a1), (2, .int x2)]) hx hb dC_load_19 rfl hl (by decide) rfl (fun ls hl => ?_)
  refine lv_iconst (v := 0) hx hb dC_load_20 (by decide) ?_
  refine lv_istore (i := 4) (lv' := [(4, .int (0 : Int32)), (3, .int (0 : Int32)), (0, .ref a0), (1, .ref a1), (2, .int x2)]) hx hb dC_load_21 hl (by decide) rfl (fun ls hl => ?_)
  obtain ⟨n, hw⟩ := hw
  exact L23 _ _ _ n _ _ _ _ _ _ _ hw hwo hS (lv_sub hl [2, 3, 4, 1, 0] rfl)
theorem dC_readNumbers_0 : decode kC_readNumbers 0 = .ok (.iconst 0, 1) := by decide +kernel
theorem dC_readNumbers_1 : decode kC_readNumbers 1 = .ok (.istore_n 3, 1) := by decide +kernel
theorem dC_readNumbers_2 : decode kC_readNumbers 2 = .ok (.iload_n 3, 1) := by decide +kernel
theorem dC_readNumbers_3 : decode kC_readNumbers 3 = .ok (.iconst 2, 1) := by decide +kernel
theorem dC_readNumbers_4 : decode kC_readNumbers 4 = .ok (.if_icmp .ge 40, 3) := by decide +kernel
theorem dC_readNumbers_7 : decode kC_readNumbers 7 = .ok (.aload_n 0, 1) := by decide +kernel
theorem dC_readNumbers_8 : decode kC_readNumbers 8 = .ok (.getfield 31, 3) := by decide +kernel
theorem dC_readNumbers_11 : decode kC_readNumbers 11 = .ok (.iload_n 3, 1) := by decide +kernel
theorem dC_readNumbers_12 : decode kC_readNumbers 12 = .ok (.aload_n 1, 1) := by decide +kernel
theorem dC_readNumbers_13 : decode kC_readNumbers 13 = .ok (.getstatic 89, 3) := by decide +kernel
theorem dC_readNumbers_16 : decode kC_readNumbers 16 = .ok (.aload_n 0, 1) := by decide +kernel
theorem dC_readNumbers_17 : decode kC_readNumbers 17 = .ok (.getfield 46, 3) := by decide +kernel
theorem dC_readNumbers_20 : decode kC_readNumbers 20 = .ok (.iaload, 1) := by decide +kernel
theorem dC_readNumbers_21 : decode kC_readNumbers 21 = .ok (.invokevirtual 40, 3) := by decide +kernel
theorem dC_readNumbers_24 : decode kC_readNumbers 24 = .ok (.getstatic 92, 3) := by decide +kernel
theorem dC_readNumbers_27 : decode kC_readNumbers 27 = .ok (.aload_n 0, 1) := by decide +kernel
theorem dC_readNumbers_28 : decode kC_readNumbers 28 = .ok (.getfield 46, 3) := by decide +kernel
theorem dC_readNumbers_31 : decode kC_readNumbers 31 = .ok (.iaload, 1) := by decide +kernel
theorem dC_readNumbers_32 : decode kC_readNumbers 32 = .ok (.iconst 1, 1) := by decide +kernel
theorem dC_readNumbers_33 : decode kC_readNumbers 33 = .ok (.isub, 1) := by decide +kernel
theorem dC_readNumbers_34 : decode kC_readNumbers 34 = .ok (.invokestatic 95, 3) := by decide +kernel
theorem dC_readNumbers_37 : decode kC_readNumbers 37 = .ok (.iastore, 1) := by decide +kernel
theorem dC_readNumbers_38 : decode kC_readNumbers 38 = .ok (.iinc 3 1, 3) := by decide +kernel
theorem dC_readNumbers_41 : decode kC_readNumbers 41 = .ok (.goto (-39), 3) := by decide +kernel
theorem dC_readNumbers_44 : decode kC_readNumbers 44 = .ok (.iconst 2, 1) := by decide +kernel
theorem dC_readNumbers_45 : decode kC_readNumbers 45 = .ok (.istore_n 3, 1) := by decide +kernel
theorem dC_readNumbers_46 : decode kC_readNumbers 46 = .ok (.iconst 0, 1) := by decide +kernel
theorem dC_readNumbers_47 : decode kC_readNumbers 47 = .ok (.istore 4, 2) := by decide +kernel
theorem dC_readNumbers_49 : decode kC_readNumbers 49 = .ok (.iload 4, 2) := by decide +kernel
theorem dC_readNumbers_51 : decode kC_readNumbers 51 = .ok (.aload_n 0, 1) := by decide +kernel
theorem dC_readNumbers_52 : decode kC_readNumbers 52 = .ok (.getfield 50, 3) := by decide +kernel
theorem dC_readNumbers_55 : decode kC_readNumbers 55 = .ok (.if_icmp .ge 123, 3) := by decide +kernel
theorem dC_readNumbers_58 : decode kC_readNumbers 58 = .ok (.aload_n 0, 1) := by decide +kernel
theorem dC_readNumbers_59 : decode kC_readNumbers 59 = .ok (.getfield 11, 3) := by decide +kernel
theorem dC_readNumbers_62 : decode kC_readNumbers 62 = .ok (.iload 4, 2) := by decide +kernel
theorem dC_readNumbers_64 : decode kC_readNumbers 64 = .ok (.iaload, 1) := by decide +kernel
theorem dC_readNumbers_65 : decode kC_readNumbers 65 = .ok (.istore 5, 2) := by decide +kernel
theorem dC_readNumbers_67 : decode kC_readNumbers 67 = .ok (.aload_n 0, 1) := by decide +kernel
theorem dC_readNumbers_68 : decode kC_readNumbers 68 = .ok (.getfield 18, 3) := by decide +kernel
theorem dC_readNumbers_71 : decode kC_readNumbers 71 = .ok (.iload 5, 2) := by decide +kernel
theorem dC_readNumbers_73 : decode kC_readNumbers 73 = .ok (.baload, 1) := by decide +kernel
theorem dC_readNumbers_74 : decode kC_readNumbers 74 = .ok (.ifCond .eq 19, 3) := by decide +kernel
theorem dC_readNumbers_77 : decode kC_readNumbers 77 = .ok (.aload_n 2, 1) := by decide +kernel
theorem dC_readNumbers_78 : decode kC_readNumbers 78 = .ok (.aload_n 0, 1) := by decide +kernel
theorem dC_readNumbers_79 : decode kC_readNumbers 79 = .ok (.getfield 22, 3) := by decide +kernel
theorem dC_readNumbers_82 : decode kC_readNumbers 82 = .ok (.iload 5, 2) := by decide +kernel
theorem dC_readNumbers_84 : decode kC_readNumbers 84 = .ok (.iaload, 1) := by decide +kernel
theorem dC_readNumbers_85 : decode kC_readNumbers 85 = .ok (.aaload, 1) := by decide +kernel
theorem dC_readNumbers_86 : decode kC_readNumbers 86 = .ok (.aload_n 1, 1) := by decide +kernel
theorem dC_readNumbers_87 : decode kC_readNumbers 87 = .ok (.invokevirtual 98, 3) := by decide +kernel
theorem dC_readNumbers_90 : decode kC_readNumbers 90 = .ok (.goto 4, 3) := by decide +kernel
theorem dC_readNumbers_93 : decode kC_readNumbers 93 = .ok (.iconst 0, 1) := by decide +kernel
theorem dC_readNumbers_94 : decode kC_readNumbers 94 = .ok (.istore 6, 2) := by decide +kernel
theorem dC_readNumbers_96 : decode kC_readNumbers 96 = .ok (.iconst 0, 1) := by decide +kernel
theorem dC_readNumbers_97 : decode kC_readNumbers 97 = .ok (.istore 7, 2) := by decide +kernel
theorem dC_readNumbers_99 : decode kC_readNumbers 99 = .ok (.iload 7, 2) := by decide +kernel
theorem dC_readNumbers_101 : decode kC_readNumbers 101 = .ok (.aload_n 0, 1) := by decide +kernel
theorem dC_readNumbers_102 : decode kC_readNumbers 102 = .ok (.getfield 15, 3) := by decide +kernel
theorem dC_readNumbers_105 : decode kC_readNumbers 105 = .ok (.iload 5, 2) := by decide +kernel
theorem dC_readNumbers_107 : decode kC_readNumbers 107 = .ok (.iaload, 1) := by decide +kernel
theorem dC_readNumbers_108 : decode kC_readNumbers 108 = .ok (.if_icmp .ge 64, 3) := by decide +kernel
theorem dC_readNumbers_111 : decode kC_readNumbers 111 = .ok (.iload 6, 2) := by decide +kernel
theorem dC_readNumbers_113 : decode kC_readNumbers 113 = .ok (.iconst (-1), 1) := by decide +kernel
theorem dC_readNumbers_114 : decode kC_readNumbers 114 = .ok (.if_icmp .eq 58, 3) := by decide +kernel
theorem dC_readNumbers_117 : decode kC_readNumbers 117 = .ok (.aload_n 0, 1) := by decide +kernel
theorem dC_readNumbers_118 : decode kC_readNumbers 118 = .ok (.getfield 25, 3) := by decide +kernel
theorem dC_readNumbers_121 : decode kC_readNumbers 121 = .ok (.iload 5, 2) := by decide +kernel
theorem dC_readNumbers_123 : decode kC_readNumbers 123 = .ok (.iconst 2, 1) := by decide +kernel
theorem dC_readNumbers_124 : decode kC_readNumbers 124 = .ok (.imul, 1) := by decide +kernel
theorem dC_readNumbers_125 : decode kC_readNumbers 125 = .ok (.iload 6, 2) := by decide +kernel
theorem dC_readNumbers_127 : decode kC_readNumbers 127 = .ok (.iconst 2, 1) := by decide +kernel
theorem dC_readNumbers_128 : decode kC_readNumbers 128 = .ok (.irem, 1) := by decide +kernel
theorem dC_readNumbers_129 : decode kC_readNumbers 129 = .ok (.iadd, 1) := by decide +kernel
theorem dC_readNumbers_130 : decode kC_readNumbers 130 = .ok (.iaload, 1) := by decide +kernel
theorem dC_readNumbers_131 : decode kC_readNumbers 131 = .ok (.istore 8, 2) := by decide +kernel
theorem dC_readNumbers_133 : decode kC_readNumbers 133 = .ok (.aload_n 0, 1) := by decide +kernel
theorem dC_readNumbers_134 : decode kC_readNumbers 134 = .ok (.getfield 31, 3) := by decide +kernel
theorem dC_readNumbers_137 : decode kC_readNumbers 137 = .ok (.iload_n 3, 1) := by decide +kernel
theorem dC_readNumbers_138 : decode kC_readNumbers 138 = .ok (.iload 8, 2) := by decide +kernel
theorem dC_readNumbers_140 : decode kC_readNumbers 140 = .ok (.iconst (-1), 1) := by decide +kernel
theorem dC_readNumbers_141 : decode kC_readNumbers 141 = .ok (.if_icmp .ne 7, 3) := by decide +kernel
theorem dC_readNumbers_144 : decode kC_readNumbers 144 = .ok (.iconst 0, 1) := by decide +kernel
theorem dC_readNumbers_145 : decode kC_readNumbers 145 = .ok (.goto 11, 3) := by decide +kernel
theorem dC_readNumbers_148 : decode kC_readNumbers 148 = .ok (.aload_n 2, 1) := by decide +kernel
theorem dC_readNumbers_149 : decode kC_readNumbers 149 = .ok (.iload 8, 2) := by decide +kernel
theorem dC_readNumbers_151 : decode kC_readNumbers 151 = .ok (.aaload, 1) := by decide +kernel
theorem dC_readNumbers_152 : decode kC_readNumbers 152 = .ok (.aload_n 1, 1) := by decide +kernel
theorem dC_readNumbers_153 : decode kC_readNumbers 153 = .ok (.invokevirtual 98, 3) := by decide +kernel
theorem dC_readNumbers_156 : decode kC_readNumbers 156 = .ok (.iastore, 1) := by decide +kernel
theorem dC_readNumbers_157 : decode kC_readNumbers 157 = .ok (.iload 6, 2) := by decide +kernel
theorem dC_readNumbers_159 : decode kC_readNumbers 159 = .ok (.iconst 2, 1) := by decide +kernel
theorem dC_readNumbers_160 : decode kC_readNumbers 160 = .ok (.idiv, 1) := by decide +kernel
theorem dC_readNumbers_161 : decode kC_readNumbers 161 = .ok (.istore 6, 2) := by decide +kernel
theorem dC_readNumbers_163 : decode kC_readNumbers 163 = .ok (.iinc 3 1, 3) := by decide +kernel
theorem dC_readNumbers_166 : decode kC_readNumbers 166 = .ok (.iinc 7 1, 3) := by decide +kernel
theorem dC_readNumbers_169 : decode kC_readNumbers 169 = .ok (.goto (-70), 3) := by decide +kernel
theorem dC_readNumbers_172 : decode kC_readNumbers 172 = .ok (.iinc 4 1, 3) := by decide +kernel
theorem dC_readNumbers_175 : decode kC_readNumbers 175 = .ok (.goto (-126), 3) := by decide +kernel
theorem dC_readNumbers_178 : decode kC_readNumbers 178 = .ok (.aload_n 1, 1) := by decide +kernel
theorem dC_readNumbers_179 : decode kC_readNumbers 179 = .ok (.getfield 104, 3) := by decide +kernel
theorem dC_readNumbers_182 : decode kC_readNumbers 182 = .ok (.ifCond .ne 7, 3) := by decide +kernel
theorem dC_readNumbers_185 : decode kC_readNumbers 185 = .ok (.iconst 1, 1) := by decide +kernel
theorem dC_readNumbers_186 : decode kC_readNumbers 186 = .ok (.goto 4, 3) := by decide +kernel
theorem dC_readNumbers_189 : decode kC_readNumbers 189 = .ok (.iconst 0, 1) := by decide +kernel
theorem dC_readNumbers_190 : decode kC_readNumbers 190 = .ok (.ireturn, 1) := by decide +kernel
def wb_C_readNumbers_156 (θ : TH) (a0_49 : Nat) (a1_49 : Nat) (a2_49 : Nat) (x3_156 : Int32) (x4_99 : Int32) (x5_99 : Int32) (x6_156 : Int32) (x7_156 : Int32) (z0_156 : Int32) (z1_156 : Int32) (z2_156 : Nat) (kb49 : Int32 → Int32 → VT → UT → Prop) (kb99 : Int32 → Int32 → Int32 → VT → UT → Prop) (K : Int32 → VT → UT → Prop) (V : VT) (U : UT) : Prop := ∃ n_66, isA θ z2_156 0 n_66 ∧ vp_in z1_156 n_66 ∧ ∀ V_69 : VT, V_69 = up2 V z2_156 z1_156.toNatClampNeg z0_156 → ¬ (2 : Int32) = 0 ∧ ∀ y_71 : Int32, y_71 = (x6_156 / (2 : Int32)) → ∀ y_72 : Int32, y_72 = x3_156 + (1 : Int32) → ∀ y_73 : Int32, y_73 = x7_156 + (1 : Int32) → kb99 y_72 y_71 y_73 V_69 U
def bl_C_readNumbers_99 (θ : TH) (a0_49 : Nat) (a1_49 : Nat) (a2_49 : Nat) (x4_99 : Int32) (x5_99 : Int32) (kb49 : Int32 → Int32 → VT → UT → Prop) (K : Int32 → VT → UT → Prop) (kb99 : Int32 → Int32 → Int32 → VT → UT → Prop) (x3_99 : Int32) (x6_99 : Int32) (x7_99 : Int32) (V : VT) (U : UT) : Prop := isO θ a0_49 9 ∧ (U a0_49 3) ≠ 0 ∧ ∃ n_43, isA θ (U a0_49 3) 0 n_43 ∧ vp_in x5_99 n_43 ∧ (((V (U a0_49 3) x5_99.toNatClampNeg) ≤ x7_99 → ∀ y_47 : Int32, y_47 = x4_99 + (1 : Int32) → kb49 x3_99 y_47 V U) ∧ (¬ (V (U a0_49 3) x5_99.toNatClampNeg) ≤ x7_99 → ((x6_99 = (-1 : Int32) → ∀ y_49 : Int32, y_49 = x4_99 + (1 : Int32) → kb49 x3_99 y_49 V U) ∧ (¬ x6_99 = (-1 : Int32) → (U a0_49 6) ≠ 0 ∧ ¬ (2 : Int32) = 0 ∧ ∃ n_52, isA θ (U a0_49 6) 0 n_52 ∧ vp_in ((x5_99 * (2 : Int32)) + (x6_99 - x6_99 / (2 : Int32) * (2 : Int32))) n_52 ∧ ∀ y_55 : Int32, y_55 = (V (U a0_49 6) ((x5_99 * (2 : Int32)) + (x6_99 - x6_99 / (2 : Int32) * (2 : Int32))).toNatClampNeg) → (U a0_49 9) ≠ 0 ∧ ((¬ y_55 = (-1 : Int32) → ∃ n_58, isR θ a2_49 5 n_58 ∧ vp_in y_55 n_58 ∧ (U a2_49 y_55.toNatClampNeg) ≠ 0 ∧ isO θ (U a2_49 y_55.toNatClampNeg) 8 ∧ wp_B_readEntry θ (U a2_49 y_55.toNatClampNeg) a1_49 V U (fun r_65 V_62 U_63 => wb_C_readNumbers_156 θ a0_49 a1_49 a2_49 x3_99 x4_99 x5_99 x6_99 x7_99 r_65 x3_99 (U a0_49 9) kb49 kb99 K V_62 U_63)) ∧ (y_55 = (-1 : Int32) → wb_C_readNumbers_156 θ a0_49 a1_49 a2_49 x3_99 x4_99 x5_99 x6_99 x7_99 (0 : Int32) x3_99 (U a0_49 9) kb49 kb99 K V U))))))
def wl_C_readNumbers_99 (θ : TH) (a0_49 : Nat) (a1_49 : Nat) (a2_49 : Nat) (x4_99 : Int32) (x5_99 : Int32) (kb49 : Int32 → Int32 → VT → UT → Prop) (K : Int32 → VT → UT → Prop) : Nat → Int32 → Int32 → Int32 → VT → UT → Prop
  | 0, _, _, _, _, _ => False
  | n + 1, x3_99, x6_99, x7_99, V, U => bl_C_readNumbers_99 θ a0_49 a1_49 a2_49 x4_99 x5_99 kb49 K (wl_C_readNumbers_99 θ a0_49 a1_49 a2_49 x4_99 x5_99 kb49 K n) x3_99 x6_99 x7_99 V U
def bl_C_readNumbers_49 (θ : TH) (a0_49 : Nat) (a1_49 : Nat) (a2_49 : Nat) (K : Int32 → VT → UT → Prop) (kb49 : Int32 → Int32 → VT → UT → Prop) (x3_49 : Int32) (x4_49 : Int32) (V : VT) (U : UT) : Prop := isO θ a0_49 9 ∧ (((V a0_49 1) ≤ x4_49 → isO θ a1_49 7 ∧ ((¬ (V a1_49 6) = 0 → K (0 : Int32) V U) ∧ ((V a1_49 6) = 0 → K (1 : Int32) V U))) ∧ (¬ (V a0_49 1) ≤ x4_49 → (U a0_49 2) ≠ 0 ∧ ∃ n_20, isA θ (U a0_49 2) 0 n_20 ∧ vp_in x4_49 n_20 ∧ ∀ y_23 : Int32, y_23 = (V (U a0_49 2) x4_49.toNatClampNeg) → (U a0_49 4) ≠ 0 ∧ ∃ n_25, isA θ (U a0_49 4) 1 n_25 ∧ vp_in y_23 n_25 ∧ (((V (U a0_49 4) y_23.toNatClampNeg) = 0 → ∃ n, wl_C_readNumbers_99 θ a0_49 a1_49 a2_49 x4_49 y_23 kb49 K n x3_49 (0 : Int32) (0 : Int32) V U) ∧ (¬ (V (U a0_49 4) y_23.toNatClampNeg) = 0 → (U a0_49 5) ≠ 0 ∧ ∃ n_30, isA θ (U a0_49 5) 0 n_30 ∧ vp_in y_23 n_30 ∧ ∃ n_33, isR θ a2_49 5 n_33 ∧ vp_in (V (U a0_49 5) y_23.toNatClampNeg) n_33 ∧ (U a2_49 (V (U a0_49 5) y_23.toNatClampNeg).toNatClampNeg) ≠ 0 ∧ isO θ (U a2_49 (V (U a0_49 5) y_23.toNatClampNeg).toNatClampNeg) 8 ∧ wp_B_readEntry θ (U a2_49 (V (U a0_49 5) y_23.toNatClampNeg).toNatClampNeg) a1_49 V U (fun r_40 V_37 U_38 => ∃ n, wl_C_readNumbers_99 θ a0_49 a1_49 a2_49 x4_49 y_23 kb49 K n x3_49 r_40 (0 : Int32) V_37 U_38)))))
def wl_C_readNumbers_49 (θ : TH) (a0_49 : Nat) (a1_49 : Nat) (a2_49 : Nat) (K : Int32 → VT → UT → Prop) : Nat → Int32 → Int32 → VT → UT → Prop
  | 0, _, _, _, _ => False
  | n + 1, x3_49, x4_49, V, U => bl_C_readNumbers_49 θ a0_49 a1_49 a2_49 K (wl_C_readNumbers_49 θ a0_49 a1_49 a2_49 K n) x3_49 x4_49 V U
def bl_C_readNumbers_2 (θ : TH) (a0_2 : Nat) (a1_2 : Nat) (a2_2 : Nat) (K : Int32 → VT → UT → Prop) (kb2 : Int32 → VT → UT → Prop) (x3_2 : Int32) (V : VT) (U : UT) : Prop := (((2 : Int32) ≤ x3_2 → ∃ n, wl_C_readNumbers_49 θ a0_2 a1_2 a2_2 K n (2 : Int32) (0 : Int32) V U) ∧ (¬ (2 : Int32) ≤ x3_2 → isO θ a0_2 9 ∧ (U a0_2 9) ≠ 0 ∧ vp_in (V a0_2 0) (sLen 2) ∧ isO θ a1_2 7 ∧ wp_H_read θ a1_2 (sV 2 (V a0_2 0).toNatClampNeg) V U (fun r_8 V_5 U_6 => vp_in (V_5 a0_2 0) (sLen 1) ∧ ∃ n_10, isA θ (U a0_2 9) 0 n_10 ∧ vp_in x3_2 n_10 ∧ ∀ V_13 : VT, V_13 = up2 V_5 (U a0_2 9) x3_2.toNatClampNeg (if ((sV 1 (V_5 a0_2 0).toNatClampNeg) - (1 : Int32)) < r_8 then ((sV 1 (V_5 a0_2 0).toNatClampNeg) - (1 : Int32)) else r_8) → ∀ y_14 : Int32, y_14 = x3_2 + (1 : Int32) → kb2 y_14 V_13 U_6)))
def wl_C_readNumbers_2 (θ : TH) (a0_2 : Nat) (a1_2 : Nat) (a2_2 : Nat) (K : Int32 → VT → UT → Prop) : Nat → Int32 → VT → UT → Prop
  | 0, _, _, _ => False
  | n + 1, x3_2, V, U => bl_C_readNumbers_2 θ a0_2 a1_2 a2_2 K (wl_C_readNumbers_2 θ a0_2 a1_2 a2_2 K n) x3_2 V U
def wp_C_readNumbers (θ : TH) (a0 : Nat) (a1 : Nat) (a2 : Nat) (V : VT) (U : UT) (K : Int32 → VT → UT → Prop) : Prop := ∃ n, wl_C_readNumbers_2 θ a0 a1 a2 K n (0 : Int32) V U
set_option maxRecDepth 100000 in
set_option maxHeartbeats 4000000 in
theorem c_C_readNumbers (l : Launch) (θ : TH) (a0 : Nat) (a1 : Nat) (a2 : Nat) (V : VT) (U : UT) (K : Int32 → VT → UT → Prop) (hw : wp_C_readNumbers θ a0 a1 a2 V U K) : CMi l yC_readNumbers kC_readNumbers 9 (some .boolean) rmC_readNumbers θ [.ref a0, .ref a1, .ref a2] V U K := by
  refine g_met nRC (by decide +kernel) rfl (Nat.le_of_ble_eq_true rfl) (fun p e s m args below meth c ls hC hr hlk hwo hl => ?_)
  have hx := hC.1
  have hb := hC.2.1
  have hS : Sx θ s s.heap [] := va_S.rf
  have hl : lv_has ls 9 [(0, .ref a0), (1, .ref a1), (2, .ref a2)] := hl
  have L49 : ∀ (a0_49 : Nat) (a1_49 : Nat) (a2_49 : Nat) (n49 : Nat) (x3_49 : Int32) (x4_49 : Int32) (V : VT) (U : UT) (H : Heap) (locs : List Loc) (ls : Array Slot), wl_C_readNumbers_49 θ a0_49 a1_49 a2_49 K n49 x3_49 x4_49 V U → wo θ V U H → Sx θ s H locs → lv_has ls 9 [(0, .ref a0_49), (1, .ref a1_49), (2, .ref a2_49), (3, .int x3_49), (4, .int x4_49)] → W p l e rmC_readNumbers s m args below meth c H locs 0 0 (MQ below (QI θ K) args s 0 0 (aT θ)) (F0 m 49 ls []) := by
    intro a0_49 a1_49 a2_49 n49
    induction n49 with
    | zero => intro x3_49 x4_49 V U H locs ls hw hwo hS hl; exact (show False from hw).elim
    | succ n49 ih49 =>
      have L99 : ∀ (x4_99 : Int32) (x5_99 : Int32) (n99 : Nat) (x3_99 : Int32) (x6_99 : Int32) (x7_99 : Int32) (V : VT) (U : UT) (H : Heap) (locs : List Loc) (ls : Array Slot), wl_C_readNumbers_99 θ a0_49 a1_49 a2_49 x4_99 x5_99 (wl_C_readNumbers_49 θ a0_49 a1_49 a2_49 K n49) K n99 x3_99 x6_99 x7_99 V U → wo θ V U H → Sx θ s H locs → lv_has ls 9 [(0, .ref a0_49), (1, .ref a1_49), (2, .ref a2_49), (3, .int x3_99), (4, .int x4_99), (5, .int x5_99), (6, .int x6_99), (7, .int x7_99)] → W p l e rmC_readNumbers s m args below meth c H locs 0 0 (MQ below (QI θ K) args s 0 0 (aT θ)) (F0 m 99 ls []) := by
        intro x4_99 x5_99 n99
        induction n99 with
        | zero => intro x3_99 x6_99 x7_99 V U H locs ls hw hwo hS hl; exact (show False from hw).elim
        | succ n99 ih99 =>
          have J156 : ∀ (x3_156 : Int32) (x6_156 : Int32) (x7_156 : Int32) (z0_156 : Int32) (z1_156 : Int32) (z2_156 : Nat) (V : VT) (U : UT) (H : Heap) (locs : List Loc) (ls : Array Slot), wb_C_readNumbers_156 θ a0_49 a1_49 a2_49 x3_156 x4_99 x5_99 x6_156 x7_156 z0_156 z1_156 z2_156 (wl_C_readNumbers_49 θ a0_49 a1_49 a2_49 K n49) (wl_C_readNumbers_99 θ a0_49 a1_49 a2_49 x4_99 x5_99 (wl_C_readNumbers_49 θ a0_49 a1_49 a2_49 K n49) K n99) K V U → wo θ V U H → Sx θ s H locs → lv_has ls 9 [(0, .ref a0_49), (1, .ref a1_49), (2, .ref a2_49), (3, .int x3_156), (4, .int x4_99), (5, .int x5_99), (6, .int x6_156), (7, .int x7_156)] → W p l e rmC_readNumbers s m args below meth c H locs 0 0 (MQ below (QI θ K) args s 0 0 (aT θ)) (F0 m 156 ls [.int z0_156, .int z1_156, .ref z2_156]) := by
            intro x3_156 x6_156 x7_156 z0_156 z1_156 z2_156 V U H locs ls hw hwo hS hl
            unfold wb_C_readNumbers_156 at hw
            obtain ⟨n_66, ha_67, hw⟩ := hw
            obtain ⟨hi_68, hw⟩ := hw
            refine g_iast hC hwo hS ha_67 hi_68 dC_readNumbers_156 (fun V_69 eV_69 H locs hwo hS => ?_)
            replace hw := hw V_69 eV_69
            refine lv_iload hx hb dC_readNumbers_157 (lv_at hl 6 rfl) ?_
            refine lv_iconst (v := 2) hx hb dC_readNumbers_159 (by decide) ?_
            obtain ⟨hd_70, hw⟩ := hw
            refine lv_idiv hx hb dC_readNumbers_160 hd_70 ?_
            refine lv_topi (fun y_71 ey_71 => ?_)
            replace hw := hw y_71 ey_71
            refine lv_istore (i := 6) (lv' := [(6, .int y_71), (0, .ref a0_49), (1, .ref a1_49), (2, .ref a2_49), (3, .int x3_156), (4, .int x4_99), (5, .int x5_99), (7, .int x7_156)]) hx hb dC_readNumbers_161 hl (by decide) rfl (fun ls hl => ?_)
            obtain ⟨y_72, ey_72⟩ : ∃ z : Int32, z = x3_156 + (1 : Int32) := ⟨_, rfl⟩
            replace hw := hw y_72 ey_72
            refine lv_iinc (k := 4) (v := y_72) (lv' := [(3, .int y_72), (6, .int y_71), (0, .ref a0_49), (1, .ref a1_49), (2, .ref a2_49), (4, .int x4_99), (5, .int x5_99), (7, .int x7_156)]) hx hb dC_readNumbers_163 hl rfl (by rw [ey_72]; rfl) (by decide) rfl (fun ls hl => ?_)
            obtain ⟨y_73, ey_73⟩ : ∃ z : Int32, z = x7_156 + (1 : Int32) := ⟨_, rfl⟩
            replace hw := hw y_73 ey_73
            refine lv_iinc (k := 7) (v := y_73) (lv' := [(7, .int y_73), (3, .int y_72), (6, .int y_71), (0, .ref a0_49), (1, .ref a1_49), (2, .ref a2_49), (4, .int x4_99), (5, .int x5_99)]) hx hb dC_readNumbers_166 hl rfl (by rw [ey_73]; rfl) (by decide) rfl (fun ls hl => ?_)
            refine lv_goto (tgt := 99) hx hb dC_readNumbers_169 (by decide) ?_
            exact ih99 _ _ _ _ _ _ _ _ hw hwo hS (lv_sub hl [3, 4, 5, 1, 6, 7, 2, 0] rfl)
          intro x3_99 x6_99 x7_99 V U H locs ls hw hwo hS hl
          replace hw : bl_C_readNumbers_99 θ a0_49 a1_49 a2_49 x4_99 x5_99 (wl_C_readNumbers_49 θ a0_49 a1_49 a2_49 K n49) K (wl_C_readNumbers_99 θ a0_49 a1_49 a2_49 x4_99 x5_99 (wl_C_readNumbers_49 θ a0_49 a1_49 a2_49 K n49) K n99) x3_99 x6_99 x7_99 V U := hw
          unfold bl_C_readNumbers_99 at hw
          refine lv_iload hx hb dC_readNumbers_99 (lv_at hl 7 rfl) ?_
          refine lv_aload_n hx hb dC_readNumbers_101 rfl (lv_at hl 0 rfl) ?_
          obtain ⟨ho_41, hw⟩ := hw
          obtain ⟨hz_42, hw⟩ := hw
          refine g_getR hC fkC_15 rfl hwo ho_41 hz_42 dC_readNumbers_102 ?_
          refine lv_iload hx hb dC_readNumbers_105 (lv_at hl 5 rfl) ?_
          obtain ⟨n_43, ha_44, hw⟩ := hw
          obtain ⟨hi_45, hw⟩ := hw
          refine g_iald hC hwo ha_44 hi_45 dC_readNumbers_107 ?_
          refine lv_icmp_ge (tgt := 172) hx hb dC_readNumbers_108 (by decide) (fun hc_46 => ?_) (fun hc_46 => ?_)
          · replace hw := hw.1 hc_46
            obtain ⟨y_47, ey_47⟩ : ∃ z : Int32, z = x4_99 + (1 : Int32) := ⟨_, rfl⟩
            replace hw := hw y_47 ey_47
            refine lv_iinc (k := 4) (v := y_47) (lv' := [(4, .int y_47), (0, .ref a0_49), (1, .ref a1_49), (2, .ref a2_49), (3, .int x3_99), (5, .int x5_99), (6, .int x6_99), (7, .int x7_99)]) hx hb dC_readNumbers_172 hl rfl (by rw [ey_47]; rfl) (by decide) rfl (fun ls hl => ?_)
            refine lv_goto (tgt := 49) hx hb dC_readNumbers_175 (by decide) ?_
            exact ih49 _ _ _ _ _ _ _ hw hwo hS (lv_sub hl [1, 2, 3, 4, 0] rfl)
          · replace hw := hw.2 hc_46
            refine lv_iload hx hb dC_readNumbers_111 (lv_at hl 6 rfl) ?_
            refine lv_iconst (v := -1) hx hb dC_readNumbers_113 (by decide) ?_
            refine lv_icmp_eq (tgt := 172) hx hb dC_readNumbers_114 (by decide) (fun hc_48 => ?_) (fun hc_48 => ?_)
            · replace hw := hw.1 hc_48
              obtain ⟨y_49, ey_49⟩ : ∃ z : Int32, z = x4_99 + (1 : Int32) := ⟨_, rfl⟩
              replace hw := hw y_49 ey_49
              refine lv_iinc (k := 4) (v := y_49) (lv' := [(4, .int y_49), (0, .ref a0_49), (1, .ref a1_49), (2, .ref a2_49), (3, .int x3_99), (5, .int x5_99), (6, .int x6_99), (7, .int x7_99)]) hx hb dC_readNumbers_172 hl rfl (by rw [ey_49]; rfl) (by decide) rfl (fun ls hl => ?_)
              refine lv_goto (tgt := 49) hx hb dC_readNumbers_175 (by decide) ?_
              exact ih49 _ _ _ _ _ _ _ hw hwo hS (lv_sub hl [1, 2, 3, 4, 0] rfl)
            · replace hw := hw.2 hc_48
              refine lv_aload_n hx hb dC_readNumbers_117 rfl (lv_at hl 0 rfl) ?_
              obtain ⟨hz_50, hw⟩ := hw
              refine g_getR hC fkC_25 rfl hwo ho_41 hz_50 dC_readNumbers_118 ?_
              refine lv_iload hx hb dC_readNumbers_121 (lv_at hl 5 rfl) ?_
              refine lv_iconst (v := 2) hx hb dC_readNumbers_123 (by decide) ?_
              refine lv_imul hx hb dC_readNumbers_124 ?_
              refine lv_iload hx hb dC_readNumbers_125 (lv_at hl 6 rfl) ?_
              refine lv_iconst (v := 2) hx hb dC_readNumbers_127 (by decide) ?_
              obtain ⟨hd_51, hw⟩ := hw
              refine lv_irem hx hb dC_readNumbers_128 hd_51 ?_
              refine lv_iadd hx hb dC_readNumbers_129 ?_
              obtain ⟨n_52, ha_53, hw⟩ := hw
              obtain ⟨hi_54, hw⟩ := hw
              refine g_iald hC hwo ha_53 hi_54 dC_readNumbers_130 ?_
              refine lv_topi (fun y_55 ey_55 => ?_)
              replace hw := hw y_55 ey_55
              refine lv_istore (i := 8) (lv' := [(8, .int y_55), (0, .ref a0_49), (1, .ref a1_49), (2, .ref a2_49), (3, .int x3_99), (4, .int x4_99), (5, .int x5_99), (6, .int x6_99), (7, .int x7_99)]) hx hb dC_readNumbers_131 hl (by decide) rfl (fun ls hl => ?_)
              refine lv_aload_n hx hb dC_readNumbers_133 rfl (lv_at hl 1 rfl) ?_
              obtain ⟨hz_56, hw⟩ := hw
              refine g_getR hC fkC_31 rfl hwo ho_41 hz_56 dC_readNumbers_134 ?_
              refine lv_iload_n hx hb dC_readNumbers_137 rfl (lv_at hl 4 rfl) ?_
              refine lv_iload hx hb dC_readNumbers_138 (lv_at hl 0 rfl) ?_
              refine lv_iconst (v := -1) hx hb dC_readNumbers_140 (by decide) ?_
              refine lv_icmp_ne (tgt := 148) hx hb dC_readNumbers_141 (by decide) (fun hc_57 => ?_) (fun hc_57 => ?_)
              · replace hw := hw.1 hc_57
                refine lv_aload_n hx hb dC_readNumbers_148 rfl (lv_at hl 3 rfl) ?_
                refine lv_iload hx hb dC_readNumbers_149 (lv_at hl 0 rfl) ?_
                obtain ⟨n_58, ha_59, hw⟩ := hw
                obtain ⟨hi_60, hw⟩ := hw
                obtain ⟨hz_61, hw⟩ := hw
                refine g_aald hC hwo (t := 5) (by decide) rfl ha_59 hi_60 hz_61 dC_readNumbers_151 ?_
                refine lv_aload_n hx hb dC_readNumbers_152 rfl (lv_at hl 2 rfl) ?_
                obtain ⟨ho_64, hw⟩ := hw
                refine g_Vi (rest := [.int x3_99, .ref (U a0_49 9)]) hC (c_B_readEntry l θ _ _ _ _ _ hw) mi_B_readEntry mlC_98 mv_B_readEntry ci_8 ho_64 hwo hS ⟨rfl, rfl⟩ ⟨by decide, by decide⟩ rfl hl.1 rfl (Nat.le_of_ble_eq_true rfl) dC_readNumbers_153 (fun r_65 V_62 U_63 hw H locs hwo hS => ?_)
                exact J156 _ _ _ _ _ _ _ _ _ _ _ hw hwo hS (lv_sub hl [1, 2, 3, 4, 5, 6, 7, 8] rfl)
              · replace hw := hw.2 hc_57
                refine lv_iconst (v := 0) hx hb dC_readNumbers_144 (by decide) ?_
                refine lv_goto (tgt := 156) hx hb dC_readNumbers_145 (by decide) ?_
                exact J156 _ _ _ _ _ _ _ _ _ _ _ hw hwo hS (lv_sub hl [1, 2, 3, 4, 5, 6, 7, 8] rfl)
      intro x3_49 x4_49 V U H locs ls hw hwo hS hl
      replace hw : bl_C_readNumbers_49 θ a0_49 a1_49 a2_49 K (wl_C_readNumbers_49 θ a0_49 a1_49 a2_49 K n49) x3_49 x4_49 V U := hw
      unfold bl_C_readNumbers_49 at hw
      refine lv_iload hx hb dC_readNumbers_49 (lv_at hl 4 rfl) ?_
      refine lv_aload_n hx hb dC_readNumbers_51 rfl (lv_at hl 0 rfl) ?_
      obtain ⟨ho_15, hw⟩ := hw
      refine g_getI hC fkC_50 rfl hwo ho_15 dC_readNumbers_52 ?_
      refine lv_icmp_ge (tgt := 178) hx hb dC_readNumbers_55 (by decide) (fun hc_16 => ?_) (fun hc_16 => ?_)
      · replace hw := hw.1 hc_16
        refine lv_aload_n hx hb dC_readNumbers_178 rfl (lv_at hl 1 rfl) ?_
        obtain ⟨ho_17, hw⟩ := hw
        refine g_getI hC fkC_104 rfl hwo ho_17 dC_readNumbers_179 ?_
        refine lv_if_ne (tgt := 189) hx hb dC_readNumbers_182 (by decide) (fun hc_18 => ?_) (fun hc_18 => ?_)
        · replace hw := hw.1 hc_18
          refine lv_iconst (v := 0) hx hb dC_readNumbers_189 (by decide) ?_
          exact g_zret hC hr hlk (Or.inl rfl) hw hwo hS dC_readNumbers_190
        · replace hw := hw.2 hc_18
          refine lv_iconst (v := 1) hx hb dC_readNumbers_185 (by decide) ?_
          refine lv_goto (tgt := 190) hx hb dC_readNumbers_186 (by decide) ?_
          exact g_zret hC hr hlk (Or.inr rfl) hw hwo hS dC_readNumbers_190
      · replace hw := hw.2 hc_16
        refine lv_aload_n hx hb dC_readNumbers_58 rfl (lv_at hl 0 rfl) ?_
        obtain ⟨hz_19, hw⟩ := hw
        refine g_getR hC fkC_11 rfl hwo ho_15 hz_19 dC_readNumbers_59 ?_
        refine lv_iload hx hb dC_readNumbers_62 (lv_at hl 4 rfl) ?_
        obtain ⟨n_20, ha_21, hw⟩ := hw
        obtain ⟨hi_22, hw⟩ := hw
        refine g_iald hC hwo ha_21 hi_22 dC_readNumbers_64 ?_
        refine lv_topi (fun y_23 ey_23 => ?_)
        replace hw := hw y_23 ey_23
        refine lv_istore (i := 5) (lv' := [(5, .int y_23), (0, .ref a0_49), (1, .ref a1_49), (2, .ref a2_49), (3, .int x3_49), (4, .int x4_49)]) hx hb dC_readNumbers_65 hl (by decide) rfl (fun ls hl => ?_)
        refine lv_aload_n hx hb dC_readNumbers_67 rfl (lv_at hl 1 rfl) ?_
        obtain ⟨hz_24, hw⟩ := hw
        refine g_getR hC fkC_18 rfl hwo ho_15 hz_24 dC_readNumbers_68 ?_
        refine lv_iload hx hb dC_readNumbers_71 (lv_at hl 0 rfl) ?_
        obtain ⟨n_25, ha_26, hw⟩ := hw
        obtain ⟨hi_27, hw⟩ := hw
        refine g_zald hC hwo ha_26 hi_27 dC_readNumbers_73 ?_
        refine lv_if_eq (tgt := 93) hx hb dC_readNumbers_74 (by decide) (fun hc_28 => ?_) (fun hc_28 => ?_)
        · replace hw := hw.1 hc_28
          refine lv_iconst (v := 0) hx hb dC_readNumbers_93 (by decide) ?_
          refine lv_istore (i := 6) (lv' := [(6, .int (0 : Int32)), (5, .int y_23), (0, .ref a0_49), (1, .ref a1_49), (2, .ref a2_49), (3, .int x3_49), (4, .int x4_49)]) hx hb dC_readNumbers_94 hl (by decide) rfl (fun ls hl => ?_)
          refine lv_iconst (v := 0) hx hb dC_readNumbers_96 (by decide) ?_
          refine lv_istore (i := 7) (lv' := [(7, .int (0 : Int32)), (6, .int (0 : Int32)), (5, .int y_23), (0, .ref a0_49), (1, .ref a1_49), (2, .ref a2_49), (3, .int x3_49), (4, .int x4_49)]) hx hb dC_readNumbers_97 hl (by decide) rfl (fun ls hl => ?_)
          obtain ⟨n, hw⟩ := hw
          exact L99 _ _ n _ _ _ _ _ _ _ _ hw hwo hS (lv_sub hl [3, 4, 5, 6, 7, 2, 1, 0] rfl)
        · replace hw := hw.2 hc_28
          refine lv_aload_n hx hb dC_readNumbers_77 rfl (lv_at hl 3 rfl) ?_
          refine lv_aload_n hx hb dC_readNumbers_78 rfl (lv_at hl 1 rfl) ?_
          obtain ⟨hz_29, hw⟩ := hw
          refine g_getR hC fkC_22 rfl hwo ho_15 hz_29 dC_readNumbers_79 ?_
          refine lv_iload hx hb dC_readNumbers_82 (lv_at hl 0 rfl) ?_
          obtain ⟨n_30, ha_31, hw⟩ := hw
          obtain ⟨hi_32, hw⟩ := hw
          refine g_iald hC hwo ha_31 hi_32 dC_readNumbers_84 ?_
          obtain ⟨n_33, ha_34, hw⟩ := hw
          obtain ⟨hi_35, hw⟩ := hw
          obtain ⟨hz_36, hw⟩ := hw
          refine g_aald hC hwo (t := 5) (by decide) rfl ha_34 hi_35 hz_36 dC_readNumbers_85 ?_
          refine lv_aload_n hx hb dC_readNumbers_86 rfl (lv_at hl 2 rfl) ?_
          obtain ⟨ho_39, hw⟩ := hw
          refine g_Vi (rest := []) hC (c_B_readEntry l θ _ _ _ _ _ hw) mi_B_readEntry mlC_98 mv_B_readEntry ci_8 ho_39 hwo hS ⟨rfl, rfl⟩ ⟨by decide, by decide⟩ rfl hl.1 rfl (Nat.le_of_ble_eq_true rfl) dC_readNumbers_87 (fun r_40 V_37 U_38 hw H locs hwo hS => ?_)
          refine lv_goto (tgt := 94) hx hb dC_readNumbers_90 (by decide) ?_
          refine lv_istore (i := 6) (lv' := [(6, .int r_40), (5, .int y_23), (0, .ref a0_49), (1, .ref a1_49), (2, .ref a2_49), (3, .int x3_49), (4, .int x4_49)]) hx hb dC_readNumbers_94 hl (by decide) rfl (fun ls hl => ?_)
          refine lv_iconst (v := 0) hx hb dC_readNumbers_96 (by decide) ?_
          refine lv_istore (i := 7) (lv' := [(7, .int (0 : Int32)), (6, .int r_40), (5, .int y_23), (0, .ref a0_49), (1, .ref a1_49), (2, .ref a2_49), (3, .int x3_49), (4, .int x4_49)]) hx hb dC_readNumbers_97 hl (by decide) rfl (fun ls hl => ?_)
          obtain ⟨n, hw⟩ := hw
          exact L99 _ _ n _ _ _ _ _ _ _ _ hw hwo hS (lv_sub hl [3, 4, 5, 6, 7, 2, 1, 0] rfl)
  have L2 : ∀ (a0_2 : Nat) (a1_2 : Nat) (a2_2 : Nat) (n2 : Nat) (x3_2 : Int32) (V : VT) (U : UT) (H : Heap) (locs : List Loc) (ls : Array Slot), wl_C_readNumbers_2 θ a0_2 a1_2 a2_2 K n2 x3_2 V U → wo θ V U H → Sx θ s H locs → lv_has ls 9 [(0, .ref a0_2), (1, .ref a1_2), (2, .ref a2_2), (3, .int x3_2)] → W p l e rmC_readNumbers s m args below meth c H locs 0 0 (MQ below (QI θ K) args s 0 0 (aT θ)) (F0 m 2 ls []) := by
    intro a0_2 a1_2 a2_2 n2
    induction n2 with
    | zero => intro x3_2 V U H locs ls hw hwo hS hl; exact (show False from hw).elim
    | succ n2 ih2 =>
      intro x3_2 V U H locs ls hw hwo hS hl
      replace hw : bl_C_readNumbers_2 θ a0_2 a1_2 a2_2 K (wl_C_readNumbers_2 θ a0_2 a1_2 a2_2 K n2) x3_2 V U := hw
      unfold bl_C_readNumbers_2 at hw
      refine lv_iload_n hx hb dC_readNumbers_2 rfl (lv_at hl 3 rfl) ?_
      refine lv_iconst (v := 2) hx hb dC_readNumbers_3 (by decide) ?_
      refine lv_icmp_ge (tgt := 44) hx hb dC_readNumbers_4 (by decide) (fun hc_1 => ?_) (fun hc_1 => ?_)
      · replace hw := hw.1 hc_1
        refine lv_iconst (v := 2) hx hb dC_readNumbers_44 (by decide) ?_
        refine lv_istore_n (i := 3) (lv' := [(3, .int (2 : Int32)), (0, .ref a0_2), (1, .ref a1_2), (2, .ref a2_2)]) hx hb dC_readNumbers_45 rfl hl (by decide) rfl (fun ls hl => ?_)
        refine lv_iconst (v := 0) hx hb dC_readNumbers_46 (by decide) ?_
        refine lv_istore (i := 4) (lv' := [(4, .int (0 : Int32)), (3, .int (2 : Int32)), (0, .ref a0_2), (1, .ref a1_2), (2, .ref a2_2)]) hx hb dC_readNumbers_47 hl (by decide) rfl (fun ls hl => ?_)
        obtain ⟨n, hw⟩ := hw
        exact L49 _ _ _ n _ _ _ _ _ _ _ hw hwo hS (lv_sub hl [2, 3, 4, 1, 0] rfl)
      · replace hw := hw.2 hc_1
        refine lv_aload_n hx hb dC_readNumbers_7 rfl (lv_at hl 0 rfl) ?_
        obtain ⟨ho_2, hw⟩ := hw
        obtain ⟨hz_3, hw⟩ := hw
        refine g_getR hC fkC_31 rfl hwo ho_2 hz_3 dC_readNumbers_8 ?_
        refine lv_iload_n hx hb dC_readNumbers_11 rfl (lv_at hl 3 rfl) ?_
        refine lv_aload_n hx hb dC_readNumbers_12 rfl (lv_at hl 1 rfl) ?_
        refine g_gets (j := 2) hC hS (by decide) skC_89 dC_readNumbers_13 ?_
        refine lv_aload_n hx hb dC_readNumbers_16 rfl (lv_at hl 0 rfl) ?_
        refine g_getI hC fkC_46 rfl hwo ho_2 dC_readNumbers_17 ?_
        obtain ⟨hi_4, hw⟩ := hw
        refine g_tald (j := 2) hC hS (by decide) hi_4 dC_readNumbers_20 ?_
        obtain ⟨ho_7, hw⟩ := hw
        refine g_Vi (rest := [.int x3_2, .ref (U a0_2 9)]) hC (c_H_read l θ _ _ _ _ _ hw) mi_H_read mlC_40 mv_H_read ci_7 ho_7 hwo hS ⟨rfl, rfl⟩ ⟨by decide, by decide⟩ rfl hl.1 rfl (Nat.le_of_ble_eq_true rfl) dC_readNumbers_21 (fun r_8 V_5 U_6 hw H locs hwo hS => ?_)
        refine g_gets (j := 1) hC hS (by decide) skC_92 dC_readNumbers_24 ?_
        refine lv_aload_n hx hb dC_readNumbers_27 rfl (lv_at hl 0 rfl) ?_
        refine g_getI hC fkC_46 rfl hwo ho_2 dC_readNumbers_28 ?_
        obtain ⟨hi_9, hw⟩ := hw
        refine g_tald (j := 1) hC hS (by decide) hi_9 dC_readNumbers_31 ?_
        refine lv_iconst (v := 1) hx hb dC_readNumbers_32 (by decide) ?_
        refine lv_isub hx hb dC_readNumbers_33 ?_
        refine g_min hC hl.1 lkC_95 ka_min (by decide) (Nat.le_of_ble_eq_true rfl) dC_readNumbers_34 ?_
        obtain ⟨n_10, ha_11, hw⟩ := hw
        obtain ⟨hi_12, hw⟩ := hw
        refine g_iast hC hwo hS ha_11 hi_12 dC_readNumbers_37 (fun V_13 eV_13 H locs hwo hS => ?_)
        replace hw := hw V_13 eV_13
        obtain ⟨y_14, ey_14⟩ : ∃ z : Int32, z = x3_2 + (1 : Int32) := ⟨_, rfl⟩
        replace hw := hw y_14 ey_14
        refine lv_iinc (k := 3) (v := y_14) (lv' := [(3, .int y_14), (0, .ref a0_2), (1, .ref a1_2), (2, .ref a2_2)]) hx hb dC_readNumbers_38 hl rfl (by rw [ey_14]; rfl) (by decide) rfl (fun ls hl => ?_)
        refine lv_goto (tgt := 2) hx hb dC_readNumbers_41 (by decide) ?_
        exact ih2 _ _ _ _ _ _ hw hwo hS (lv_sub hl [1, 2, 3, 0] rfl)
  unfold wp_C_readNumbers at hw
  refine lv_iconst (v := 0) hx hb dC_readNumbers_0 (by decide) ?_
  refine lv_istore_n (i := 3) (lv' := [(3, .int (0 : Int32)), (0, .ref a0), (1, .ref a1), (2, .ref a2)]) hx hb dC_readNumbers_1 rfl hl (by decide) rfl (fun ls hl => ?_)
  obtain ⟨n, hw⟩ := hw
  exact L2 _ _ _ n _ _ _ _ _ _ hw hwo hS (lv_sub hl [1, 2, 3, 0] rfl)
theorem dC_heightBetween_0 : decode kC_heightBetween 0 = .ok (.aload_n 0, 1) := by decide +kernel
theorem dC_heightBetween_1 : decode kC_heightBetween 1 = .ok (.getfield 34, 3) := by decide +kernel
theorem dC_heightBetween_4 : decode kC_heightBetween 4 = .ok (.iload_n 1, 1) := by decide +kernel
theorem dC_heightBetween_5 : decode kC_heightBetween 5 = .ok (.iaload, 1) := by decide +kernel
theorem dC_heightBetween_6 : decode kC_heightBetween 6 = .ok (.iload 4, 2) := by decide +kernel
theorem dC_heightBetween_8 : decode kC_heightBetween 8 = .ok (.imul, 1) := by decide +kernel
theorem dC_heightBetween_9 : decode kC_heightBetween 9 = .ok (.istore 5, 2) := by decide +kernel
theorem dC_heightBetween_11 : decode kC_heightBetween 11 = .ok (.aload_n 0, 1) := by decide +kernel
theorem dC_heightBetween_12 : decode kC_heightBetween 12 = .ok (.getfield 34, 3) := by decide +kernel
theorem dC_heightBetween_15 : decode kC_heightBetween 15 = .ok (.iload_n 2, 1) := by decide +kernel
theorem dC_heightBetween_16 : decode kC_heightBetween 16 = .ok (.iaload, 1) := by decide +kernel
theorem dC_heightBetween_17 : decode kC_heightBetween 17 = .ok (.iload 4, 2) := by decide +kernel
theorem dC_heightBetween_19 : decode kC_heightBetween 19 = .ok (.imul, 1) := by decide +kernel
theorem dC_heightBetween_20 : decode kC_heightBetween 20 = .ok (.istore 6, 2) := by decide +kernel
theorem dC_heightBetween_22 : decode kC_heightBetween 22 = .ok (.iconst 1, 1) := by decide +kernel
theorem dC_heightBetween_23 : decode kC_heightBetween 23 = .ok (.aload_n 0, 1) := by decide +kernel
theorem dC_heightBetween_24 : decode kC_heightBetween 24 = .ok (.getfield 28, 3) := by decide +kernel
theorem dC_heightBetween_27 : decode kC_heightBetween 27 = .ok (.iload_n 2, 1) := by decide +kernel
theorem dC_heightBetween_28 : decode kC_heightBetween 28 = .ok (.iaload, 1) := by decide +kernel
theorem dC_heightBetween_29 : decode kC_heightBetween 29 = .ok (.aload_n 0, 1) := by decide +kernel
theorem dC_heightBetween_30 : decode kC_heightBetween 30 = .ok (.getfield 28, 3) := by decide +kernel
theorem dC_heightBetween_33 : decode kC_heightBetween 33 = .ok (.iload_n 1, 1) := by decide +kernel
theorem dC_heightBetween_34 : decode kC_heightBetween 34 = .ok (.iaload, 1) := by decide +kernel
theorem dC_heightBetween_35 : decode kC_heightBetween 35 = .ok (.isub, 1) := by decide +kernel
theorem dC_heightBetween_36 : decode kC_heightBetween 36 = .ok (.invokestatic 53, 3) := by decide +kernel
theorem dC_heightBetween_39 : decode kC_heightBetween 39 = .ok (.istore 7, 2) := by decide +kernel
theorem dC_heightBetween_41 : decode kC_heightBetween 41 = .ok (.iload 6, 2) := by decide +kernel
theorem dC_heightBetween_43 : decode kC_heightBetween 43 = .ok (.iload 5, 2) := by decide +kernel
theorem dC_heightBetween_45 : decode kC_heightBetween 45 = .ok (.isub, 1) := by decide +kernel
theorem dC_heightBetween_46 : decode kC_heightBetween 46 = .ok (.invokestatic 115, 3) := by decide +kernel
theorem dC_heightBetween_49 : decode kC_heightBetween 49 = .ok (.iload_n 3, 1) := by decide +kernel
theorem dC_heightBetween_50 : decode kC_heightBetween 50 = .ok (.aload_n 0, 1) := by decide +kernel
theorem dC_heightBetween_51 : decode kC_heightBetween 51 = .ok (.getfield 28, 3) := by decide +kernel
theorem dC_heightBetween_54 : decode kC_heightBetween 54 = .ok (.iload_n 1, 1) := by decide +kernel
theorem dC_heightBetween_55 : decode kC_heightBetween 55 = .ok (.iaload, 1) := by decide +kernel
theorem dC_heightBetween_56 : decode kC_heightBetween 56 = .ok (.isub, 1) := by decide +kernel
theorem dC_heightBetween_57 : decode kC_heightBetween 57 = .ok (.imul, 1) := by decide +kernel
theorem dC_heightBetween_58 : decode kC_heightBetween 58 = .ok (.iload 7, 2) := by decide +kernel
theorem dC_heightBetween_60 : decode kC_heightBetween 60 = .ok (.idiv, 1) := by decide +kernel
theorem dC_heightBetween_61 : decode kC_heightBetween 61 = .ok (.istore 8, 2) := by decide +kernel
theorem dC_heightBetween_63 : decode kC_heightBetween 63 = .ok (.iload 6, 2) := by decide +kernel
theorem dC_heightBetween_65 : decode kC_heightBetween 65 = .ok (.iload 5, 2) := by decide +kernel
theorem dC_heightBetween_67 : decode kC_heightBetween 67 = .ok (.if_icmp .lt 11, 3) := by decide +kernel
theorem dC_heightBetween_70 : decode kC_heightBetween 70 = .ok (.iload 5, 2) := by decide +kernel
theorem dC_heightBetween_72 : decode kC_heightBetween 72 = .ok (.iload 8, 2) := by decide +kernel
theorem dC_heightBetween_74 : decode kC_heightBetween 74 = .ok (.iadd, 1) := by decide +kernel
theorem dC_heightBetween_75 : decode kC_heightBetween 75 = .ok (.goto 8, 3) := by decide +kernel
theorem dC_heightBetween_78 : decode kC_heightBetween 78 = .ok (.iload 5, 2) := by decide +kernel
theorem dC_heightBetween_80 : decode kC_heightBetween 80 = .ok (.iload 8, 2) := by decide +kernel
theorem dC_heightBetween_82 : decode kC_heightBetween 82 = .ok (.isub, 1) := by decide +kernel
theorem dC_heightBetween_83 : decode kC_heightBetween 83 = .ok (.ireturn, 1) := by decide +kernel
def wp_C_heightBetween (θ : TH) (a0 : Nat) (x1 : Int32) (x2 : Int32) (x3 : Int32) (x4 : Int32) (V : VT) (U : UT) (K : Int32 → VT → UT → Prop) : Prop := isO θ a0 9 ∧ (U a0 10) ≠ 0 ∧ ∃ n_3, isA θ (U a0 10) 0 n_3 ∧ vp_in x1 n_3 ∧ ∀ y_6 : Int32, y_6 = ((V (U a0 10) x1.toNatClampNeg) * x4) → vp_in x2 n_3 ∧ ∀ y_8 : Int32, y_8 = ((V (U a0 10) x2.toNatClampNeg) * x4) → (U a0 8) ≠ 0 ∧ ∃ n_10, isA θ (U a0 8) 0 n_10 ∧ vp_in x2 n_10 ∧ vp_in x1 n_10 ∧ ∀ y_14 : Int32, y_14 = (if (1 : Int32) < ((V (U a0 8) x2.toNatClampNeg) - (V (U a0 8) x1.toNatClampNeg)) then ((V (U a0 8) x2.toNatClampNeg) - (V (U a0 8) x1.toNatClampNeg)) else (1 : Int32)) → ¬ y_14 = 0 ∧ ∀ y_16 : Int32, y_16 = (((if 0 ≤ (y_8 - y_6) then (y_8 - y_6) else 0 - (y_8 - y_6)) * (x3 - (V (U a0 8) x1.toNatClampNeg))) / y_14) → ((y_8 < y_6 → K (y_6 - y_16) V U) ∧ (¬ y_8 < y_6 → K (y_6 + y_16) V U))
set_option maxRecDepth 100000 in
set_option maxHeartbeats 4000000 in
theorem c_C_heightBetween (l : Launch) (θ : TH) (a0 : Nat) (x1 : Int32) (x2 : Int32) (x3 : Int32) (x4 : Int32) (V : VT) (U : UT) (K : Int32 → VT → UT → Prop) (hw : wp_C_heightBetween θ a0 x1 x2 x3 x4 V U K) : CMi l yC_heightBetween kC_heightBetween 9 (some .int) rmC_heightBetween θ [.ref a0, .int x1, .int x2, .int x3, .int x4] V U K := by
  refine g_met nRC (by decide +kernel) rfl (Nat.le_of_ble_eq_true rfl) (fun p e s m args below meth c ls hC hr hlk hwo hl => ?_)
  have hx := hC.1
  have hb := hC.2.1
  have hS : Sx θ s s.heap [] := va_S.rf
  have hl : lv_has ls 9 [(0, .ref a0), (1, .int x1), (2, .int x2), (3, .int x3), (4, .int x4)] := hl
  unfold wp_C_heightBetween at hw
  refine lv_aload_n hx hb dC_heightBetween_0 rfl (lv_at hl 0 rfl) ?_
  obtain ⟨ho_1, hw⟩ := hw
  obtain ⟨hz_2, hw⟩ := hw
  refine g_getR hC fkC_34 rfl hwo ho_1 hz_2 dC_heightBetween_1 ?_
  refine lv_iload_n hx hb dC_heightBetween_4 rfl (lv_at hl 1 rfl) ?_
  obtain ⟨n_3, ha_4, hw⟩ := hw
  obtain ⟨hi_5, hw⟩ := hw
  refine g_iald hC hwo ha_4 hi_5 dC_heightBetween_5 ?_
  refine lv_iload hx hb dC_heightBetween_6 (lv_at hl 4 rfl) ?_
  refine lv_imul hx hb dC_heightBetween_8 ?_
  refine lv_topi (fun y_6 ey_6 => ?_)
  replace hw := hw y_6 ey_6
  refine lv_istore (i := 5) (lv' := [(5, .int y_6), (0, .ref a0), (1, .int x1), (2, .int x2), (3, .int x3), (4, .int x4)]) hx hb dC_heightBetween_9 hl (by decide) rfl (fun ls hl => ?_)
  refine lv_aload_n hx hb dC_heightBetween_11 rfl (lv_at hl 1 rfl) ?_
  refine g_getR hC fkC_34 rfl hwo ho_1 hz_2 dC_heightBetween_12 ?_
  refine lv_iload_n hx hb dC_heightBetween_15 rfl (lv_at hl 3 rfl) ?_
  obtain ⟨hi_7, hw⟩ := hw
  refine g_iald hC hwo ha_4 hi_7 dC_heightBetween_16 ?_
  refine lv_iload hx hb dC_heightBetween_17 (lv_at hl 5 rfl) ?_
  refine lv_imul hx hb dC_heightBetween_19 ?_
  refine lv_topi (fun y_8 ey_8 => ?_)
  replace hw := hw y_8 ey_8
  refine lv_istore (i := 6) (lv' := [(6, .int y_8), (5, .int y_6), (0, .ref a0), (1, .int x1), (2, .int x2), (3, .int x3), (4, .int x4)]) hx hb dC_heightBetween_20 hl (by decide) rfl (fun ls hl => ?_)
  refine lv_iconst (v := 1) hx hb dC_heightBetween_22 (by decide) ?_
  refine lv_aload_n hx hb dC_heightBetween_23 rfl (lv_at hl 2 rfl) ?_
  obtain ⟨hz_9, hw⟩ := hw
  refine g_getR hC fkC_28 rfl hwo ho_1 hz_9 dC_heightBetween_24 ?_
  refine lv_iload_n hx hb dC_heightBetween_27 rfl (lv_at hl 4 rfl) ?_
  obtain ⟨n_10, ha_11, hw⟩ := hw
  obtain ⟨hi_12, hw⟩ := hw
  refine g_iald hC hwo ha_11 hi_12 dC_heightBetween_28 ?_
  refine lv_aload_n hx hb dC_heightBetween_29 rfl (lv_at hl 2 rfl) ?_
  refine g_getR hC fkC_28 rfl hwo ho_1 hz_9 dC_heightBetween_30 ?_
  refine lv_iload_n hx hb dC_heightBetween_33 rfl (lv_at hl 3 rfl) ?_
  obtain ⟨hi_13, hw⟩ := hw
  refine g_iald hC hwo ha_11 hi_13 dC_heightBetween_34 ?_
  refine lv_isub hx hb dC_heightBetween_35 ?_
  refine g_max hC hl.1 lkC_53 ka_max (by decide) (Nat.le_of_ble_eq_true rfl) dC_heightBetween_36 ?_
  refine lv_topi (fun y_14 ey_14 => ?_)
  replace hw := hw y_14 ey_14
  refine lv_istore (i := 7) (lv' := [(7, .int y_14), (6, .int y_8), (5, .int y_6), (0, .ref a0), (1, .int x1), (2, .int x2), (3, .int x3), (4, .int x4)]) hx hb dC_heightBetween_39 hl (by decide) rfl (fun ls hl => ?_)
  refine lv_iload hx hb dC_heightBetween_41 (lv_at hl 1 rfl) ?_
  refine lv_iload hx hb dC_heightBetween_43 (lv_at hl 2 rfl) ?_
  refine lv_isub hx hb dC_heightBetween_45 ?_
  refine g_abs hC hl.1 lkC_115 ka_abs (by decide) (Nat.le_of_ble_eq_true rfl) dC_heightBetween_46 ?_
  refine lv_iload_n hx hb dC_heightBetween_49 rfl (lv_at hl 6 rfl) ?_
  refine lv_aload_n hx hb dC_heightBetween_50 rfl (lv_at hl 3 rfl) ?_
  refine g_getR hC fkC_28 rfl hwo ho_1 hz_9 dC_heightBetween_51 ?_
  refine lv_iload_n hx hb dC_heightBetween_54 rfl (lv_at hl 4 rfl) ?_
  refine g_iald hC hwo ha_11 hi_13 dC_heightBetween_55 ?_
  refine lv_isub hx hb dC_heightBetween_56 ?_
  refine lv_imul hx hb dC_heightBetween_57 ?_
  refine lv_iload hx hb dC_heightBetween_58 (lv_at hl 0 rfl) ?_
  obtain ⟨hd_15, hw⟩ := hw
  refine lv_idiv hx hb dC_heightBetween_60 hd_15 ?_
  refine lv_topi (fun y_16 ey_16 => ?_)
  replace hw := hw y_16 ey_16
  refine lv_istore (i := 8) (lv' := [(8, .int y_16), (7, .int y_14), (6, .int y_8), (5, .int y_6), (0, .ref a0), (1, .int x1), (2, .int x2), (3, .int x3), (4, .int x4)]) hx hb dC_heightBetween_61 hl (by decide) rfl (fun ls hl => ?_)
  refine lv_iload hx hb dC_heightBetween_63 (lv_at hl 2 rfl) ?_
  refine lv_iload hx hb dC_heightBetween_65 (lv_at hl 3 rfl) ?_
  refine lv_icmp_lt (tgt := 78) hx hb dC_heightBetween_67 (by decide) (fun hc_17 => ?_) (fun hc_17 => ?_)
  · replace hw := hw.1 hc_17
    refine lv_iload hx hb dC_heightBetween_78 (lv_at hl 3 rfl) ?_
    refine lv_iload hx hb dC_heightBetween_80 (lv_at hl 0 rfl) ?_
    refine lv_isub hx hb dC_heightBetween_82 ?_
    exact g_iret hC hr hlk hw hwo hS dC_heightBetween_83
  · replace hw := hw.2 hc_17
    refine lv_iload hx hb dC_heightBetween_70 (lv_at hl 3 rfl) ?_
    refine lv_iload hx hb dC_heightBetween_72 (lv_at hl 0 rfl) ?_
    refine lv_iadd hx hb dC_heightBetween_74 ?_
    refine lv_goto (tgt := 83) hx hb dC_heightBetween_75 (by decide) ?_
    exact g_iret hC hr hlk hw hwo hS dC_heightBetween_83
theorem dC_heightOf_0 : decode kC_heightOf 0 = .ok (.getstatic 92, 3) := by decide +kernel
theorem dC_heightOf_3 : decode kC_heightOf 3 = .ok (.aload_n 0, 1) := by decide +kernel
theorem dC_heightOf_4 : decode kC_heightOf 4 = .ok (.getfield 46, 3) := by decide +kernel
theorem dC_heightOf_7 : decode kC_heightOf 7 = .ok (.iaload, 1) := by decide +kernel
theorem dC_heightOf_8 : decode kC_heightOf 8 = .ok (.istore_n 3, 1) := by decide +kernel
theorem dC_heightOf_9 : decode kC_heightOf 9 = .ok (.iload_n 3, 1) := by decide +kernel
theorem dC_heightOf_10 : decode kC_heightOf 10 = .ok (.iload_n 2, 1) := by decide +kernel
theorem dC_heightOf_11 : decode kC_heightOf 11 = .ok (.isub, 1) := by decide +kernel
theorem dC_heightOf_12 : decode kC_heightOf 12 = .ok (.istore 4, 2) := by decide +kernel
theorem dC_heightOf_14 : decode kC_heightOf 14 = .ok (.iload_n 1, 1) := by decide +kernel
theorem dC_heightOf_15 : decode kC_heightOf 15 = .ok (.ifCond .ne 5, 3) := by decide +kernel
theorem dC_heightOf_18 : decode kC_heightOf 18 = .ok (.iload_n 2, 1) := by decide +kernel
theorem dC_heightOf_19 : decode kC_heightOf 19 = .ok (.ireturn, 1) := by decide +kernel
theorem dC_heightOf_20 : decode kC_heightOf 20 = .ok (.iload_n 1, 1) := by decide +kernel
theorem dC_heightOf_21 : decode kC_heightOf 21 = .ok (.iconst 2, 1) := by decide +kernel
theorem dC_heightOf_22 : decode kC_heightOf 22 = .ok (.iload 4, 2) := by decide +kernel
theorem dC_heightOf_24 : decode kC_heightOf 24 = .ok (.iload_n 2, 1) := by decide +kernel
theorem dC_heightOf_25 : decode kC_heightOf 25 = .ok (.invokestatic 95, 3) := by decide +kernel
theorem dC_heightOf_28 : decode kC_heightOf 28 = .ok (.imul, 1) := by decide +kernel
theorem dC_heightOf_29 : decode kC_heightOf 29 = .ok (.if_icmp .ge 26, 3) := by decide +kernel
theorem dC_heightOf_32 : decode kC_heightOf 32 = .ok (.iload_n 1, 1) := by decide +kernel
theorem dC_heightOf_33 : decode kC_heightOf 33 = .ok (.iconst 2, 1) := by decide +kernel
theorem dC_heightOf_34 : decode kC_heightOf 34 = .ok (.irem, 1) := by decide +kernel
theorem dC_heightOf_35 : decode kC_heightOf 35 = .ok (.iconst 1, 1) := by decide +kernel
theorem dC_heightOf_36 : decode kC_heightOf 36 = .ok (.if_icmp .ne 13, 3) := by decide +kernel
theorem dC_heightOf_39 : decode kC_heightOf 39 = .ok (.iload_n 2, 1) := by decide +kernel
theorem dC_heightOf_40 : decode kC_heightOf 40 = .ok (.iload_n 1, 1) := by decide +kernel
theorem dC_heightOf_41 : decode kC_heightOf 41 = .ok (.iconst 1, 1) := by decide +kernel
theorem dC_heightOf_42 : decode kC_heightOf 42 = .ok (.iadd, 1) := by decide +kernel
theorem dC_heightOf_43 : decode kC_heightOf 43 = .ok (.iconst 2, 1) := by decide +kernel
theorem dC_heightOf_44 : decode kC_heightOf 44 = .ok (.idiv, 1) := by decide +kernel
theorem dC_heightOf_45 : decode kC_heightOf 45 = .ok (.isub, 1) := by decide +kernel
theorem dC_heightOf_46 : decode kC_heightOf 46 = .ok (.goto 8, 3) := by decide +kernel
theorem dC_heightOf_49 : decode kC_heightOf 49 = .ok (.iload_n 2, 1) := by decide +kernel
theorem dC_heightOf_50 : decode kC_heightOf 50 = .ok (.iload_n 1, 1) := by decide +kernel
theorem dC_heightOf_51 : decode kC_heightOf 51 = .ok (.iconst 2, 1) := by decide +kernel
theorem dC_heightOf_52 : decode kC_heightOf 52 = .ok (.idiv, 1) := by decide +kernel
theorem dC_heightOf_53 : decode kC_heightOf 53 = .ok (.iadd, 1) := by decide +kernel
theorem dC_heightOf_54 : decode kC_heightOf 54 = .ok (.ireturn, 1) := by decide +kernel
theorem dC_heightOf_55 : decode kC_heightOf 55 = .ok (.iload 4, 2) := by decide +kernel
theorem dC_heightOf_57 : decode kC_heightOf 57 = .ok (.iload_n 2, 1) := by decide +kernel
theorem dC_heightOf_58 : decode kC_heightOf 58 = .ok (.if_icmp .le 7, 3) := by decide +kernel
theorem dC_heightOf_61 : decode kC_heightOf 61 = .ok (.iload_n 1, 1) := by decide +kernel
theorem dC_heightOf_62 : decode kC_heightOf 62 = .ok (.goto 8, 3) := by decide +kernel
theorem dC_heightOf_65 : decode kC_heightOf 65 = .ok (.iload_n 3, 1) := by decide +kernel
theorem dC_heightOf_66 : decode kC_heightOf 66 = .ok (.iconst 1, 1) := by decide +kernel
theorem dC_heightOf_67 : decode kC_heightOf 67 = .ok (.isub, 1) := by decide +kernel
theorem dC_heightOf_68 : decode kC_heightOf 68 = .ok (.iload_n 1, 1) := by decide +kernel
theorem dC_heightOf_69 : decode kC_heightOf 69 = .ok (.isub, 1) := by decide +kernel
theorem dC_heightOf_70 : decode kC_heightOf 70 = .ok (.ireturn, 1) := by decide +kernel
def wp_C_heightOf (θ : TH) (a0 : Nat) (x1 : Int32) (x2 : Int32) (V : VT) (U : UT) (K : Int32 → VT → UT → Prop) : Prop := isO θ a0 9 ∧ vp_in (V a0 0) (sLen 1) ∧ ∀ y_3 : Int32, y_3 = (sV 1 (V a0 0).toNatClampNeg) → ∀ y_4 : Int32, y_4 = (y_3 - x2) → ((¬ x1 = 0 → ((((2 : Int32) * (if x2 < y_4 then x2 else y_4)) ≤ x1 → ((y_4 ≤ x2 → K ((y_3 - (1 : Int32)) - x1) V U) ∧ (¬ y_4 ≤ x2 → K x1 V U))) ∧ (¬ ((2 : Int32) * (if x2 < y_4 then x2 else y_4)) ≤ x1 → ¬ (2 : Int32) = 0 ∧ ((¬ (x1 - x1 / (2 : Int32) * (2 : Int32)) = (1 : Int32) → K (x2 + (x1 / (2 : Int32))) V U) ∧ ((x1 - x1 / (2 : Int32) * (2 : Int32)) = (1 : Int32) → K (x2 - ((x1 + (1 : Int32)) / (2 : Int32))) V U))))) ∧ (x1 = 0 → K x2 V U))
set_option maxRecDepth 100000 in
set_option maxHeartbeats 4000000 in
theorem c_C_heightOf (l : Launch) (θ : TH) (a0 : Nat) (x1 : Int32) (x2 : Int32) (V : VT) (U : UT) (K : Int32 → VT → UT → Prop) (hw : wp_C_heightOf θ a0 x1 x2 V U K) : CMi l yC_heightOf kC_heightOf 5 (some .int) rmC_heightOf θ [.ref a0, .int x1, .int x2] V U K := by
  refine g_met nRC (by decide +kernel) rfl (Nat.le_of_ble_eq_true rfl) (fun p e s m args below meth c ls hC hr hlk hwo hl => ?_)
  have hx := hC.1
  have hb := hC.2.1
  have hS : Sx θ s s.heap [] := va_S.rf
  have hl : lv_has ls 5 [(0, .ref a0), (1, .int x1), (2, .int x2)] := hl
  unfold wp_C_heightOf at hw
  refine g_gets (j := 1) hC hS (by decide) skC_92 dC_heightOf_0 ?_
  refine lv_aload_n hx hb dC_heightOf_3 rfl (lv_at hl 0 rfl) ?_
  obtain ⟨ho_1, hw⟩ := hw
  refine g_getI hC fkC_46 rfl hwo ho_1 dC_heightOf_4 ?_
  obtain ⟨hi_2, hw⟩ := hw
  refine g_tald (j := 1) hC hS (by decide) hi_2 dC_heightOf_7 ?_
  refine lv_topi (fun y_3 ey_3 => ?_)
  replace hw := hw y_3 ey_3
  refine lv_istore_n (i := 3) (lv' := [(3, .int y_3), (0, .ref a0), (1, .int x1), (2, .int x2)]) hx hb dC_heightOf_8 rfl hl (by decide) rfl (fun ls hl => ?_)
  refine lv_iload_n hx hb dC_heightOf_9 rfl (lv_at hl 0 rfl) ?_
  refine lv_iload_n hx hb dC_heightOf_10 rfl (lv_at hl 3 rfl) ?_
  refine lv_isub hx hb dC_heightOf_11 ?_
  refine lv_topi (fun y_4 ey_4 => ?_)
  replace hw := hw y_4 ey_4
  refine lv_istore (i := 4) (lv' := [(4, .int y_4), (3, .int y_3), (0, .ref a0), (1, .int x1), (2, .int x2)]) hx hb dC_heightOf_12 hl (by decide) rfl (fun ls hl => ?_)
  refine lv_iload_n hx hb dC_heightOf_14 rfl (lv_at hl 3 rfl) ?_
  refine lv_if_ne (tgt := 20) hx hb dC_heightOf_15 (by decide) (fun hc_5 => ?_) (fun hc_5 => ?_)
  · replace hw := hw.1 hc_5
    refine lv_iload_n hx hb dC_heightOf_20 rfl (lv_at hl 3 rfl) ?_
    refine lv_iconst (v := 2) hx hb dC_heightOf_21 (by decide) ?_
    refine lv_iload hx hb dC_heightOf_22 (lv_at hl 0 rfl) ?_
    refine lv_iload_n hx hb dC_heightOf_24 rfl (lv_at hl 4 rfl) ?_
    refine g_min hC hl.1 lkC_95 ka_min (by decide) (Nat.le_of_ble_eq_true rfl) dC_heightOf_25 ?_
    refine lv_imul hx hb dC_heightOf_28 ?_
    refine lv_icmp_ge (tgt := 55) hx hb dC_heightOf_29 (by decide) (fun hc_6 => ?_) (fun hc_6 => ?_)
    · replace hw := hw.1 hc_6
      refine lv_iload hx hb dC_heightOf_55 (lv_at hl 0 rfl) ?_
      refine lv_iload_n hx hb dC_heightOf_57 rfl (lv_at hl 4 rfl) ?_
      refine lv_icmp_le (tgt := 65) hx hb dC_heightOf_58 (by decide) (fun hc_7 => ?_) (fun hc_7 => ?_)
      · replace hw := hw.1 hc_7
        refine lv_iload_n hx hb dC_heightOf_65 rfl (lv_at hl 1 rfl) ?_
        refine lv_iconst (v := 1) hx hb dC_heightOf_66 (by decide) ?_
        refine lv_isub hx hb dC_heightOf_67 ?_
        refine lv_iload_n hx hb dC_heightOf_68 rfl (lv_at hl 3 rfl) ?_
        refine lv_isub hx hb dC_heightOf_69 ?_
        exact g_iret hC hr hlk hw hwo hS dC_heightOf_70
      · replace hw := hw.2 hc_7
        refine lv_iload_n hx hb dC_heightOf_61 rfl (lv_at hl 3 rfl) ?_
        refine lv_goto (tgt := 70) hx hb dC_heightOf_62 (by decide) ?_
        exact g_iret hC hr hlk hw hwo hS dC_heightOf_70
    · replace hw := hw.2 hc_6
      refine lv_iload_n hx hb dC_heightOf_32 rfl (lv_at hl 3 rfl) ?_
      refine lv_iconst (v := 2) hx hb dC_heightOf_33 (by decide) ?_
      obtain ⟨hd_8, hw⟩ := hw
      refine lv_irem hx hb dC_heightOf_34 hd_8 ?_
      refine lv_iconst (v := 1) hx hb dC_heightOf_35 (by decide) ?_
      refine lv_icmp_ne (tgt := 49) hx hb dC_heightOf_36 (by decide) (fun hc_9 => ?_) (fun hc_9 => ?_)
      · replace hw := hw.1 hc_9
        refine lv_iload_n hx hb dC_heightOf_49 rfl (lv_at hl 4 rfl) ?_
        refine lv_iload_n hx hb dC_heightOf_50 rfl (lv_at hl 3 rfl) ?_
        refine lv_iconst (v := 2) hx hb dC_heightOf_51 (by decide) ?_
        refine lv_idiv hx hb dC_heightOf_52 hd_8 ?_
        refine lv_iadd hx hb dC_heightOf_53 ?_
        exact g_iret hC hr hlk hw hwo hS dC_heightOf_54
      · replace hw := hw.2 hc_9
        refine lv_iload_n hx hb dC_heightOf_39 rfl (lv_at hl 4 rfl) ?_
        refine lv_iload_n hx hb dC_heightOf_40 rfl (lv_at hl 3 rfl) ?_
        refine lv_iconst (v := 1) hx hb dC_heightOf_41 (by decide) ?_
        refine lv_iadd hx hb dC_heightOf_42 ?_
        refine lv_iconst (v := 2) hx hb dC_heightOf_43 (by decide) ?_
        refine lv_idiv hx hb dC_heightOf_44 hd_8 ?_
        refine lv_isub hx hb dC_heightOf_45 ?_
        refine lv_goto (tgt := 54) hx hb dC_heightOf_46 (by decide) ?_
        exact g_iret hC hr hlk hw hwo hS dC_heightOf_54
  · replace hw := hw.2 hc_5
    refine lv_iload_n hx hb dC_heightOf_18 rfl (lv_at hl 4 rfl) ?_
    exact g_iret hC hr hlk hw hwo hS dC_heightOf_19
theorem dC_raise_0 : decode kC_raise 0 = .ok (.iconst 0, 1) := by decide +kernel
theorem dC_raise_1 : decode kC_raise 1 = .ok (.istore_n 1, 1) := by decide +kernel
theorem dC_raise_2 : decode kC_raise 2 = .ok (.iload_n 1, 1) := by decide +kernel
theorem dC_raise_3 : decode kC_raise 3 = .ok (.iconst 2, 1) := by decide +kernel
theorem dC_raise_4 : decode kC_raise 4 = .ok (.if_icmp .ge 28, 3) := by decide +kernel
theorem dC_raise_7 : decode kC_raise 7 = .ok (.aload_n 0, 1) := by decide +kernel
theorem dC_raise_8 : decode kC_raise 8 = .ok (.getfield 34, 3) := by decide +kernel
theorem dC_raise_11 : decode kC_raise 11 = .ok (.iload_n 1, 1) := by decide +kernel
theorem dC_raise_12 : decode kC_raise 12 = .ok (.aload_n 0, 1) := by decide +kernel
theorem dC_raise_13 : decode kC_raise 13 = .ok (.getfield 31, 3) := by decide +kernel
theorem dC_raise_16 : decode kC_raise 16 = .ok (.iload_n 1, 1) := by decide +kernel
theorem dC_raise_17 : decode kC_raise 17 = .ok (.iaload, 1) := by decide +kernel
theorem dC_raise_18 : decode kC_raise 18 = .ok (.iastore, 1) := by decide +kernel
theorem dC_raise_19 : decode kC_raise 19 = .ok (.aload_n 0, 1) := by decide +kernel
theorem dC_raise_20 : decode kC_raise 20 = .ok (.getfield 37, 3) := by decide +kernel
theorem dC_raise_23 : decode kC_raise 23 = .ok (.iload_n 1, 1) := by decide +kernel
theorem dC_raise_24 : decode kC_raise 24 = .ok (.iconst 1, 1) := by decide +kernel
theorem dC_raise_25 : decode kC_raise 25 = .ok (.bastore, 1) := by decide +kernel
theorem dC_raise_26 : decode kC_raise 26 = .ok (.iinc 1 1, 3) := by decide +kernel
theorem dC_raise_29 : decode kC_raise 29 = .ok (.goto (-27), 3) := by decide +kernel
theorem dC_raise_32 : decode kC_raise 32 = .ok (.iconst 2, 1) := by decide +kernel
theorem dC_raise_33 : decode kC_raise 33 = .ok (.istore_n 1, 1) := by decide +kernel
theorem dC_raise_34 : decode kC_raise 34 = .ok (.iload_n 1, 1) := by decide +kernel
theorem dC_raise_35 : decode kC_raise 35 = .ok (.aload_n 0, 1) := by decide +kernel
theorem dC_raise_36 : decode kC_raise 36 = .ok (.getfield 71, 3) := by decide +kernel
theorem dC_raise_39 : decode kC_raise 39 = .ok (.if_icmp .ge 174, 3) := by decide +kernel
theorem dC_raise_42 : decode kC_raise 42 = .ok (.iconst 0, 1) := by decide +kernel
theorem dC_raise_43 : decode kC_raise 43 = .ok (.istore_n 2, 1) := by decide +kernel
theorem dC_raise_44 : decode kC_raise 44 = .ok (.iconst 1, 1) := by decide +kernel
theorem dC_raise_45 : decode kC_raise 45 = .ok (.istore_n 3, 1) := by decide +kernel
theorem dC_raise_46 : decode kC_raise 46 = .ok (.iconst 2, 1) := by decide +kernel
theorem dC_raise_47 : decode kC_raise 47 = .ok (.istore 4, 2) := by decide +kernel
theorem dC_raise_49 : decode kC_raise 49 = .ok (.iload 4, 2) := by decide +kernel
theorem dC_raise_51 : decode kC_raise 51 = .ok (.iload_n 1, 1) := by decide +kernel
theorem dC_raise_52 : decode kC_raise 52 = .ok (.if_icmp .ge 79, 3) := by decide +kernel
theorem dC_raise_55 : decode kC_raise 55 = .ok (.aload_n 0, 1) := by decide +kernel
theorem dC_raise_56 : decode kC_raise 56 = .ok (.getfield 28, 3) := by decide +kernel
theorem dC_raise_59 : decode kC_raise 59 = .ok (.iload 4, 2) := by decide +kernel
theorem dC_raise_61 : decode kC_raise 61 = .ok (.iaload, 1) := by decide +kernel
theorem dC_raise_62 : decode kC_raise 62 = .ok (.aload_n 0, 1) := by decide +kernel
theorem dC_raise_63 : decode kC_raise 63 = .ok (.getfield 28, 3) := by decide +kernel
theorem dC_raise_66 : decode kC_raise 66 = .ok (.iload_n 1, 1) := by decide +kernel
theorem dC_raise_67 : decode kC_raise 67 = .ok (.iaload, 1) := by decide +kernel
theorem dC_raise_68 : decode kC_raise 68 = .ok (.if_icmp .ge 22, 3) := by decide +kernel
theorem dC_raise_71 : decode kC_raise 71 = .ok (.aload_n 0, 1) := by decide +kernel
theorem dC_raise_72 : decode kC_raise 72 = .ok (.getfield 28, 3) := by decide +kernel
theorem dC_raise_75 : decode kC_raise 75 = .ok (.iload 4, 2) := by decide +kernel
theorem dC_raise_77 : decode kC_raise 77 = .ok (.iaload, 1) := by decide +kernel
theorem dC_raise_78 : decode kC_raise 78 = .ok (.aload_n 0, 1) := by decide +kernel
theorem dC_raise_79 : decode kC_raise 79 = .ok (.getfield 28, 3) := by decide +kernel
theorem dC_raise_82 : decode kC_raise 82 = .ok (.iload_n 2, 1) := by decide +kernel
theorem dC_raise_83 : decode kC_raise 83 = .ok (.iaload, 1) := by decide +kernel
theorem dC_raise_84 : decode kC_raise 84 = .ok (.if_icmp .le 6, 3) := by decide +kernel
theorem dC_raise_87 : decode kC_raise 87 = .ok (.iload 4, 2) := by decide +kernel
theorem dC_raise_89 : decode kC_raise 89 = .ok (.istore_n 2, 1) := by decide +kernel
theorem dC_raise_90 : decode kC_raise 90 = .ok (.aload_n 0, 1) := by decide +kernel
theorem dC_raise_91 : decode kC_raise 91 = .ok (.getfield 28, 3) := by decide +kernel
theorem dC_raise_94 : decode kC_raise 94 = .ok (.iload 4, 2) := by decide +kernel
theorem dC_raise_96 : decode kC_raise 96 = .ok (.iaload, 1) := by decide +kernel
theorem dC_raise_97 : decode kC_raise 97 = .ok (.aload_n 0, 1) := by decide +kernel
theorem dC_raise_98 : decode kC_raise 98 = .ok (.getfield 28, 3) := by decide +kernel
theorem dC_raise_101 : decode kC_raise 101 = .ok (.iload_n 1, 1) := by decide +kernel
theorem dC_raise_102 : decode kC_raise 102 = .ok (.iaload, 1) := by decide +kernel
theorem dC_raise_103 : decode kC_raise 103 = .ok (.if_icmp .le 22, 3) := by decide +kernel
theorem dC_raise_106 : decode kC_raise 106 = .ok (.aload_n 0, 1) := by decide +kernel
theorem dC_raise_107 : decode kC_raise 107 = .ok (.getfield 28, 3) := by decide +kernel
theorem dC_raise_110 : decode kC_raise 110 = .ok (.iload 4, 2) := by decide +kernel
theorem dC_raise_112 : decode kC_raise 112 = .ok (.iaload, 1) := by decide +kernel
theorem dC_raise_113 : decode kC_raise 113 = .ok (.aload_n 0, 1) := by decide +kernel
theorem dC_raise_114 : decode kC_raise 114 = .ok (.getfield 28, 3) := by decide +kernel
theorem dC_raise_117 : decode kC_raise 117 = .ok (.iload_n 3, 1) := by decide +kernel
theorem dC_raise_118 : decode kC_raise 118 = .ok (.iaload, 1) := by decide +kernel
theorem dC_raise_119 : decode kC_raise 119 = .ok (.if_icmp .ge 6, 3) := by decide +kernel
theorem dC_raise_122 : decode kC_raise 122 = .ok (.iload 4, 2) := by decide +kernel
theorem dC_raise_124 : decode kC_raise 124 = .ok (.istore_n 3, 1) := by decide +kernel
theorem dC_raise_125 : decode kC_raise 125 = .ok (.iinc 4 1, 3) := by decide +kernel
theorem dC_raise_128 : decode kC_raise 128 = .ok (.goto (-79), 3) := by decide +kernel
theorem dC_raise_131 : decode kC_raise 131 = .ok (.aload_n 0, 1) := by decide +kernel
theorem dC_raise_132 : decode kC_raise 132 = .ok (.iload_n 2, 1) := by decide +kernel
theorem dC_raise_133 : decode kC_raise 133 = .ok (.iload_n 3, 1) := by decide +kernel
theorem dC_raise_134 : decode kC_raise 134 = .ok (.aload_n 0, 1) := by decide +kernel
theorem dC_raise_135 : decode kC_raise 135 = .ok (.getfield 28, 3) := by decide +kernel
theorem dC_raise_138 : decode kC_raise 138 = .ok (.iload_n 1, 1) := by decide +kernel
theorem dC_raise_139 : decode kC_raise 139 = .ok (.iaload, 1) := by decide +kernel
theorem dC_raise_140 : decode kC_raise 140 = .ok (.iconst 1, 1) := by decide +kernel
theorem dC_raise_141 : decode kC_raise 141 = .ok (.invokevirtual 108, 3) := by decide +kernel
theorem dC_raise_144 : decode kC_raise 144 = .ok (.istore 4, 2) := by decide +kernel
theorem dC_raise_146 : decode kC_raise 146 = .ok (.aload_n 0, 1) := by decide +kernel
theorem dC_raise_147 : decode kC_raise 147 = .ok (.getfield 34, 3) := by decide +kernel
theorem dC_raise_150 : decode kC_raise 150 = .ok (.iload_n 1, 1) := by decide +kernel
theorem dC_raise_151 : decode kC_raise 151 = .ok (.aload_n 0, 1) := by decide +kernel
theorem dC_raise_152 : decode kC_raise 152 = .ok (.aload_n 0, 1) := by decide +kernel
theorem dC_raise_153 : decode kC_raise 153 = .ok (.getfield 31, 3) := by decide +kernel
theorem dC_raise_156 : decode kC_raise 156 = .ok (.iload_n 1, 1) := by decide +kernel
theorem dC_raise_157 : decode kC_raise 157 = .ok (.iaload, 1) := by decide +kernel
theorem dC_raise_158 : decode kC_raise 158 = .ok (.iload 4, 2) := by decide +kernel
theorem dC_raise_160 : decode kC_raise 160 = .ok (.invokevirtual 112, 3) := by decide +kernel
theorem dC_raise_163 : decode kC_raise 163 = .ok (.iastore, 1) := by decide +kernel
theorem dC_raise_164 : decode kC_raise 164 = .ok (.aload_n 0, 1) := by decide +kernel
theorem dC_raise_165 : decode kC_raise 165 = .ok (.getfield 37, 3) := by decide +kernel
theorem dC_raise_168 : decode kC_raise 168 = .ok (.iload_n 1, 1) := by decide +kernel
theorem dC_raise_169 : decode kC_raise 169 = .ok (.aload_n 0, 1) := by decide +kernel
theorem dC_raise_170 : decode kC_raise 170 = .ok (.getfield 31, 3) := by decide +kernel
theorem dC_raise_173 : decode kC_raise 173 = .ok (.iload_n 1, 1) := by decide +kernel
theorem dC_raise_174 : decode kC_raise 174 = .ok (.iaload, 1) := by decide +kernel
theorem dC_raise_175 : decode kC_raise 175 = .ok (.ifCond .eq 7, 3) := by decide +kernel
theorem dC_raise_178 : decode kC_raise 178 = .ok (.iconst 1, 1) := by decide +kernel
theorem dC_raise_179 : decode kC_raise 179 = .ok (.goto 4, 3) := by decide +kernel
theorem dC_raise_182 : decode kC_raise 182 = .ok (.iconst 0, 1) := by decide +kernel
theorem dC_raise_183 : decode kC_raise 183 = .ok (.bastore, 1) := by decide +kernel
theorem dC_raise_184 : decode kC_raise 184 = .ok (.aload_n 0, 1) := by decide +kernel
theorem dC_raise_185 : decode kC_raise 185 = .ok (.getfield 37, 3) := by decide +kernel
theorem dC_raise_188 : decode kC_raise 188 = .ok (.iload_n 1, 1) := by decide +kernel
theorem dC_raise_189 : decode kC_raise 189 = .ok (.baload, 1) := by decide +kernel
theorem dC_raise_190 : decode kC_raise 190 = .ok (.ifCond .eq 17, 3) := by decide +kernel
theorem dC_raise_193 : decode kC_raise 193 = .ok (.aload_n 0, 1) := by decide +kernel
theorem dC_raise_194 : decode kC_raise 194 = .ok (.getfield 37, 3) := by decide +kernel
theorem dC_raise_197 : decode kC_raise 197 = .ok (.iload_n 2, 1) := by decide +kernel
theorem dC_raise_198 : decode kC_raise 198 = .ok (.iconst 1, 1) := by decide +kernel
theorem dC_raise_199 : decode kC_raise 199 = .ok (.bastore, 1) := by decide +kernel
theorem dC_raise_200 : decode kC_raise 200 = .ok (.aload_n 0, 1) := by decide +kernel
theorem dC_raise_201 : decode kC_raise 201 = .ok (.getfield 37, 3) := by decide +kernel
theorem dC_raise_204 : decode kC_raise 204 = .ok (.iload_n 3, 1) := by decide +kernel
theorem dC_raise_205 : decode kC_raise 205 = .ok (.iconst 1, 1) := by decide +kernel
theorem dC_raise_206 : decode kC_raise 206 = .ok (.bastore, 1) := by decide +kernel
theorem dC_raise_207 : decode kC_raise 207 = .ok (.iinc 1 1, 3) := by decide +kernel
theorem dC_raise_210 : decode kC_raise 210 = .ok (.goto (-176), 3) := by decide +kernel
theorem dC_raise_213 : decode kC_raise 213 = .ok (.return_, 1) := by decide +kernel
def wb_C_raise_183 (θ : TH) (a0_34 : Nat) (x1_183 : Int32) (x2_183 : Int32) (x3_183 : Int32) (z0_183 : Int32) (z1_183 : Int32) (z2_183 : Nat) (kb34 : Int32 → VT → UT → Prop) (K : VT → UT → Prop) (V : VT) (U : UT) : Prop := ∃ n_56, isA θ z2_183 1 n_56 ∧ vp_in z1_183 n_56 ∧ isZ z0_183 ∧ ∀ V_60 : VT, V_60 = up2 V z2_183 z1_183.toNatClampNeg z0_183 → isO θ a0_34 9 ∧ (U a0_34 11) ≠ 0 ∧ ∃ n_63, isA θ (U a0_34 11) 1 n_63 ∧ vp_in x1_183 n_63 ∧ (((V_60 (U a0_34 11) x1_183.toNatClampNeg) = 0 → ∀ y_67 : Int32, y_67 = x1_183 + (1 : Int32) → kb34 y_67 V_60 U) ∧ (¬ (V_60 (U a0_34 11) x1_183.toNatClampNeg) = 0 → vp_in x2_183 n_63 ∧ ∀ V_69 : VT, V_69 = up2 V_60 (U a0_34 11) x2_183.toNatClampNeg (1 : Int32) → vp_in x3_183 n_63 ∧ ∀ V_71 : VT, V_71 = up2 V_69 (U a0_34 11) x3_183.toNatClampNeg (1 : Int32) → ∀ y_72 : Int32, y_72 = x1_183 + (1 : Int32) → kb34 y_72 V_71 U))
def wb_C_raise_90 (θ : TH) (a0_34 : Nat) (x1_49 : Int32) (x2_90 : Int32) (x3_90 : Int32) (x4_90 : Int32) (kb34 : Int32 → VT → UT → Prop) (kb49 : Int32 → Int32 → Int32 → VT → UT → Prop) (K : VT → UT → Prop) (V : VT) (U : UT) : Prop := isO θ a0_34 9 ∧ (U a0_34 8) ≠ 0 ∧ ∃ n_75, isA θ (U a0_34 8) 0 n_75 ∧ vp_in x4_90 n_75 ∧ vp_in x1_49 n_75 ∧ (((V (U a0_34 8) x4_90.toNatClampNeg) ≤ (V (U a0_34 8) x1_49.toNatClampNeg) → ∀ y_80 : Int32, y_80 = x4_90 + (1 : Int32) → kb49 x2_90 x3_90 y_80 V U) ∧ (¬ (V (U a0_34 8) x4_90.toNatClampNeg) ≤ (V (U a0_34 8) x1_49.toNatClampNeg) → vp_in x3_90 n_75 ∧ (((V (U a0_34 8) x3_90.toNatClampNeg) ≤ (V (U a0_34 8) x4_90.toNatClampNeg) → ∀ y_83 : Int32, y_83 = x4_90 + (1 : Int32) → kb49 x2_90 x3_90 y_83 V U) ∧ (¬ (V (U a0_34 8) x3_90.toNatClampNeg) ≤ (V (U a0_34 8) x4_90.toNatClampNeg) → ∀ y_84 : Int32, y_84 = x4_90 + (1 : Int32) → kb49 x2_90 x4_90 y_84 V U))))
def bl_C_raise_49 (θ : TH) (a0_34 : Nat) (x1_49 : Int32) (kb34 : Int32 → VT → UT → Prop) (K : VT → UT → Prop) (kb49 : Int32 → Int32 → Int32 → VT → UT → Prop) (x2_49 : Int32) (x3_49 : Int32) (x4_49 : Int32) (V : VT) (U : UT) : Prop := ((x1_49 ≤ x4_49 → isO θ a0_34 9 ∧ (U a0_34 8) ≠ 0 ∧ ∃ n_23, isA θ (U a0_34 8) 0 n_23 ∧ vp_in x1_49 n_23 ∧ wp_C_heightBetween θ a0_34 x2_49 x3_49 (V (U a0_34 8) x1_49.toNatClampNeg) (1 : Int32) V U (fun r_28 V_26 U_27 => (U_27 a0_34 10) ≠ 0 ∧ (U_27 a0_34 9) ≠ 0 ∧ ∃ n_31, isA θ (U_27 a0_34 9) 0 n_31 ∧ vp_in x1_49 n_31 ∧ wp_C_heightOf θ a0_34 (V_26 (U_27 a0_34 9) x1_49.toNatClampNeg) r_28 V_26 U_27 (fun r_36 V_34 U_35 => ∃ n_37, isA θ (U_27 a0_34 10) 0 n_37 ∧ vp_in x1_49 n_37 ∧ ∀ V_40 : VT, V_40 = up2 V_34 (U_27 a0_34 10) x1_49.toNatClampNeg r_36 → (U_35 a0_34 11) ≠ 0 ∧ (U_35 a0_34 9) ≠ 0 ∧ ∃ n_43, isA θ (U_35 a0_34 9) 0 n_43 ∧ vp_in x1_49 n_43 ∧ (((V_40 (U_35 a0_34 9) x1_49.toNatClampNeg) = 0 → wb_C_raise_183 θ a0_34 x1_49 x2_49 x3_49 (0 : Int32) x1_49 (U_35 a0_34 11) kb34 K V_40 U_35) ∧ (¬ (V_40 (U_35 a0_34 9) x1_49.toNatClampNeg) = 0 → wb_C_raise_183 θ a0_34 x1_49 x2_49 x3_49 (1 : Int32) x1_49 (U_35 a0_34 11) kb34 K V_40 U_35))))) ∧ (¬ x1_49 ≤ x4_49 → isO θ a0_34 9 ∧ (U a0_34 8) ≠ 0 ∧ ∃ n_49, isA θ (U a0_34 8) 0 n_49 ∧ vp_in x4_49 n_49 ∧ vp_in x1_49 n_49 ∧ (((V (U a0_34 8) x1_49.toNatClampNeg) ≤ (V (U a0_34 8) x4_49.toNatClampNeg) → wb_C_raise_90 θ a0_34 x1_49 x2_49 x3_49 x4_49 kb34 kb49 K V U) ∧ (¬ (V (U a0_34 8) x1_49.toNatClampNeg) ≤ (V (U a0_34 8) x4_49.toNatClampNeg) → vp_in x2_49 n_49 ∧ (((V (U a0_34 8) x4_49.toNatClampNeg) ≤ (V (U a0_34 8) x2_49.toNatClampNeg) → wb_C_raise_90 θ a0_34 x1_49 x2_49 x3_49 x4_49 kb34 kb49 K V U) ∧ (¬ (V (U a0_34 8) x4_49.toNatClampNeg) ≤ (V (U a0_34 8) x2_49.toNatClampNeg) → wb_C_raise_90 θ a0_34 x1_49 x4_49 x3_49 x4_49 kb34 kb49 K V U))))))
def wl_C_raise_49 (θ : TH) (a0_34 : Nat) (x1_49 : Int32) (kb34 : Int32 → VT → UT → Prop) (K : VT → UT → Prop) : Nat → Int32 → Int32 → Int32 → VT → UT → Prop
  | 0, _, _, _, _, _ => False
  | n + 1, x2_49, x3_49, x4_49, V, U => bl_C_raise_49 θ a0_34 x1_49 kb34 K (wl_C_raise_49 θ a0_34 x1_49 kb34 K n) x2_49 x3_49 x4_49 V U
def bl_C_raise_34 (θ : TH) (a0_34 : Nat) (K : VT → UT → Prop) (kb34 : Int32 → VT → UT → Prop) (x1_34 : Int32) (V : VT) (U : UT) : Prop := isO θ a0_34 9 ∧ (((V a0_34 7) ≤ x1_34 → K V U) ∧ (¬ (V a0_34 7) ≤ x1_34 → ∃ n, wl_C_raise_49 θ a0_34 x1_34 kb34 K n (0 : Int32) (1 : Int32) (2 : Int32) V U))
def wl_C_raise_34 (θ : TH) (a0_34 : Nat) (K : VT → UT → Prop) : Nat → Int32 → VT → UT → Prop
  | 0, _, _, _ => False
  | n + 1, x1_34, V, U => bl_C_raise_34 θ a0_34 K (wl_C_raise_34 θ a0_34 K n) x1_34 V U
def bl_C_raise_2 (θ : TH) (a0_2 : Nat) (K : VT → UT → Prop) (kb2 : Int32 → VT → UT → Prop) (x1_2 : Int32) (V : VT) (U : UT) : Prop := (((2 : Int32) ≤ x1_2 → ∃ n, wl_C_raise_34 θ a0_2 K n (2 : Int32) V U) ∧ (¬ (2 : Int32) ≤ x1_2 → isO θ a0_2 9 ∧ (U a0_2 10) ≠ 0 ∧ (U a0_2 9) ≠ 0 ∧ ∃ n_5, isA θ (U a0_2 9) 0 n_5 ∧ vp_in x1_2 n_5 ∧ ∃ n_8, isA θ (U a0_2 10) 0 n_8 ∧ vp_in x1_2 n_8 ∧ ∀ V_11 : VT, V_11 = up2 V (U a0_2 10) x1_2.toNatClampNeg (V (U a0_2 9) x1_2.toNatClampNeg) → (U a0_2 11) ≠ 0 ∧ ∃ n_13, isA θ (U a0_2 11) 1 n_13 ∧ vp_in x1_2 n_13 ∧ ∀ V_16 : VT, V_16 = up2 V_11 (U a0_2 11) x1_2.toNatClampNeg (1 : Int32) → ∀ y_17 : Int32, y_17 = x1_2 + (1 : Int32) → kb2 y_17 V_16 U))
def wl_C_raise_2 (θ : TH) (a0_2 : Nat) (K : VT → UT → Prop) : Nat → Int32 → VT → UT → Prop
  | 0, _, _, _ => False
  | n + 1, x1_2, V, U => bl_C_raise_2 θ a0_2 K (wl_C_raise_2 θ a0_2 K n) x1_2 V U
def wp_C_raise (θ : TH) (a0 : Nat) (V : VT) (U : UT) (K : VT → UT → Prop) : Prop := ∃ n, wl_C_raise_2 θ a0 K n (0 : Int32) V U
set_option maxRecDepth 100000 in
set_option maxHeartbeats 4000000 in
theorem c_C_raise (l : Launch) (θ : TH) (a0 : Nat) (V : VT) (U : UT) (K : VT → UT → Prop) (hw : wp_C_raise θ a0 V U K) : CMv l yC_raise kC_raise 5 none rmC_raise θ [.ref a0] V U K := by
  refine g_met nRC (by decide +kernel) rfl (Nat.le_of_ble_eq_true rfl) (fun p e s m args below meth c ls hC hr hlk hwo hl => ?_)
  have hx := hC.1
  have hb := hC.2.1
  have hS : Sx θ s s.heap [] := va_S.rf
  have hl : lv_has ls 5 [(0, .ref a0)] := hl
  have L34 : ∀ (a0_34 : Nat) (n34 : Nat) (x1_34 : Int32) (V : VT) (U : UT) (H : Heap) (locs : List Loc) (ls : Array Slot), wl_C_raise_34 θ a0_34 K n34 x1_34 V U → wo θ V U H → Sx θ s H locs → lv_has ls 5 [(0, .ref a0_34), (1, .int x1_34)] → W p l e rmC_raise s m args below meth c H locs 0 0 (MQ below (QV θ K) args s 0 0 (aT θ)) (F0 m 34 ls []) := by
    intro a0_34 n34
    induction n34 with
    | zero => intro x1_34 V U H locs ls hw hwo hS hl; exact (show False from hw).elim
    | succ n34 ih34 =>
      have J183 : ∀ (x1_183 : Int32) (x2_183 : Int32) (x3_183 : Int32) (z0_183 : Int32) (z1_183 : Int32) (z2_183 : Nat) (V : VT) (U : UT) (H : Heap) (locs : List Loc) (ls : Array Slot), wb_C_raise_183 θ a0_34 x1_183 x2_183 x3_183 z0_183 z1_183 z2_183 (wl_C_raise_34 θ a0_34 K n34) K V U → wo θ V U H → Sx θ s H locs → lv_has ls 5 [(0, .ref a0_34), (1, .int x1_183), (2, .int x2_183), (3, .int x3_183)] → W p l e rmC_raise s m args below meth c H locs 0 0 (MQ below (QV θ K) args s 0 0 (aT θ)) (F0 m 183 ls [.int z0_183, .int z1_183, .ref z2_183]) := by
        intro x1_183 x2_183 x3_183 z0_183 z1_183 z2_183 V U H locs ls hw hwo hS hl
        unfold wb_C_raise_183 at hw
        obtain ⟨n_56, ha_57, hw⟩ := hw
        obtain ⟨hi_58, hw⟩ := hw
        obtain ⟨hb_59, hw⟩ := hw
        refine g_zast hC hwo hS ha_57 hi_58 hb_59 dC_raise_183 (fun V_60 eV_60 H locs hwo hS => ?_)
        replace hw := hw V_60 eV_60
        refine lv_aload_n hx hb dC_raise_184 rfl (lv_at hl 0 rfl) ?_
        obtain ⟨ho_61, hw⟩ := hw
        obtain ⟨hz_62, hw⟩ := hw
        refine g_getR hC fkC_37 rfl hwo ho_61 hz_62 dC_raise_185 ?_
        refine lv_iload_n hx hb dC_raise_188 rfl (lv_at hl 1 rfl) ?_
        obtain ⟨n_63, ha_64, hw⟩ := hw
        obtain ⟨hi_65, hw⟩ := hw
        refine g_zald hC hwo ha_64 hi_65 dC_raise_189 ?_
        refine lv_if_eq (tgt := 207) hx hb dC_raise_190 (by decide) (fun hc_66 => ?_) (fun hc_66 => ?_)
        · replace hw := hw.1 hc_66
          obtain ⟨y_67, ey_67⟩ : ∃ z : Int32, z = x1_183 + (1 : Int32) := ⟨_, rfl⟩
          replace hw := hw y_67 ey_67
          refine lv_iinc (k := 1) (v := y_67) (lv' := [(1, .int y_67), (0, .ref a0_34), (2, .int x2_183), (3, .int x3_183)]) hx hb dC_raise_207 hl rfl (by rw [ey_67]; rfl) (by decide) rfl (fun ls hl => ?_)
          refine lv_goto (tgt := 34) hx hb dC_raise_210 (by decide) ?_
          exact ih34 _ _ _ _ _ _ hw hwo hS (lv_sub hl [1, 0] rfl)
        · replace hw := hw.2 hc_66
          refine lv_aload_n hx hb dC_raise_193 rfl (lv_at hl 0 rfl) ?_
          refine g_getR hC fkC_37 rfl hwo ho_61 hz_62 dC_raise_194 ?_
          refine lv_iload_n hx hb dC_raise_197 rfl (lv_at hl 2 rfl) ?_
          refine lv_iconst (v := 1) hx hb dC_raise_198 (by decide) ?_
          obtain ⟨hi_68, hw⟩ := hw
          refine g_zast hC hwo hS ha_64 hi_68 (Or.inr rfl) dC_raise_199 (fun V_69 eV_69 H locs hwo hS => ?_)
          replace hw := hw V_69 eV_69
          refine lv_aload_n hx hb dC_raise_200 rfl (lv_at hl 0 rfl) ?_
          refine g_getR hC fkC_37 rfl hwo ho_61 hz_62 dC_raise_201 ?_
          refine lv_iload_n hx hb dC_raise_204 rfl (lv_at hl 3 rfl) ?_
          refine lv_iconst (v := 1) hx hb dC_raise_205 (by decide) ?_
          obtain ⟨hi_70, hw⟩ := hw
          refine g_zast hC hwo hS ha_64 hi_70 (Or.inr rfl) dC_raise_206 (fun V_71 eV_71 H locs hwo hS => ?_)
          replace hw := hw V_71 eV_71
          obtain ⟨y_72, ey_72⟩ : ∃ z : Int32, z = x1_183 + (1 : Int32) := ⟨_, rfl⟩
          replace hw := hw y_72 ey_72
          refine lv_iinc (k := 1) (v := y_72) (lv' := [(1, .int y_72), (0, .ref a0_34), (2, .int x2_183), (3, .int x3_183)]) hx hb dC_raise_207 hl rfl (by rw [ey_72]; rfl) (by decide) rfl (fun ls hl => ?_)
          refine lv_goto (tgt := 34) hx hb dC_raise_210 (by decide) ?_
          exact ih34 _ _ _ _ _ _ hw hwo hS (lv_sub hl [1, 0] rfl)
      have L49 : ∀ (x1_49 : Int32) (n49 : Nat) (x2_49 : Int32) (x3_49 : Int32) (x4_49 : Int32) (V : VT) (U : UT) (H : Heap) (locs : List Loc) (ls : Array Slot), wl_C_raise_49 θ a0_34 x1_49 (wl_C_raise_34 θ a0_34 K n34) K n49 x2_49 x3_49 x4_49 V U → wo θ V U H → Sx θ s H locs → lv_has ls 5 [(0, .ref a0_34), (1, .int x1_49), (2, .int x2_49), (3, .int x3_49), (4, .int x4_49)] → W p l e rmC_raise s m args below meth c H locs 0 0 (MQ below (QV θ K) args s 0 0 (aT θ)) (F0 m 49 ls []) := by
        intro x1_49 n49
        induction n49 with
        | zero => intro x2_49 x3_49 x4_49 V U H locs ls hw hwo hS hl; exact (show False from hw).elim
        | succ n49 ih49 =>
          have J90 : ∀ (x2_90 : Int32) (x3_90 : Int32) (x4_90 : Int32) (V : VT) (U : UT) (H : Heap) (locs : List Loc) (ls : Array Slot), wb_C_raise_90 θ a0_34 x1_49 x2_90 x3_90 x4_90 (wl_C_raise_34 θ a0_34 K n34) (wl_C_raise_49 θ a0_34 x1_49 (wl_C_raise_34 θ a0_34 K n34) K n49) K V U → wo θ V U H → Sx θ s H locs → lv_has ls 5 [(0, .ref a0_34), (1, .int x1_49), (2, .int x2_90), (3, .int x3_90), (4, .int x4_90)] → W p l e rmC_raise s m args below meth c H locs 0 0 (MQ below (QV θ K) args s 0 0 (aT θ)) (F0 m 90 ls []) := by
            intro x2_90 x3_90 x4_90 V U H locs ls hw hwo hS hl
            unfold wb_C_raise_90 at hw
            refine lv_aload_n hx hb dC_raise_90 rfl (lv_at hl 0 rfl) ?_
            obtain ⟨ho_73, hw⟩ := hw
            obtain ⟨hz_74, hw⟩ := hw
            refine g_getR hC fkC_28 rfl hwo ho_73 hz_74 dC_raise_91 ?_
            refine lv_iload hx hb dC_raise_94 (lv_at hl 4 rfl) ?_
            obtain ⟨n_75, ha_76, hw⟩ := hw
            obtain ⟨hi_77, hw⟩ := hw
            refine g_iald hC hwo ha_76 hi_77 dC_raise_96 ?_
            refine lv_aload_n hx hb dC_raise_97 rfl (lv_at hl 0 rfl) ?_
            refine g_getR hC fkC_28 rfl hwo ho_73 hz_74 dC_raise_98 ?_
            refine lv_iload_n hx hb dC_raise_101 rfl (lv_at hl 1 rfl) ?_
            obtain ⟨hi_78, hw⟩ := hw
            refine g_iald hC hwo ha_76 hi_78 dC_raise_102 ?_
            refine lv_icmp_le (tgt := 125) hx hb dC_raise_103 (by decide) (fun hc_79 => ?_) (fun hc_79 => ?_)
            · replace hw := hw.1 hc_79
              obtain ⟨y_80, ey_80⟩ : ∃ z : Int32, z = x4_90 + (1 : Int32) := ⟨_, rfl⟩
              replace hw := hw y_80 ey_80
              refine lv_iinc (k := 4) (v := y_80) (lv' := [(4, .int y_80), (0, .ref a0_34), (1, .int x1_49), (2, .int x2_90), (3, .int x3_90)]) hx hb dC_raise_125 hl rfl (by rw [ey_80]; rfl) (by decide) rfl (fun ls hl => ?_)
              refine lv_goto (tgt := 49) hx hb dC_raise_128 (by decide) ?_
              exact ih49 _ _ _ _ _ _ _ _ hw hwo hS (lv_sub hl [1, 2, 3, 4, 0] rfl)
            · replace hw := hw.2 hc_79
              refine lv_aload_n hx hb dC_raise_106 rfl (lv_at hl 0 rfl) ?_
              refine g_getR hC fkC_28 rfl hwo ho_73 hz_74 dC_raise_107 ?_
              refine lv_iload hx hb dC_raise_110 (lv_at hl 4 rfl) ?_
              refine g_iald hC hwo ha_76 hi_77 dC_raise_112 ?_
              refine lv_aload_n hx hb dC_raise_113 rfl (lv_at hl 0 rfl) ?_
              refine g_getR hC fkC_28 rfl hwo ho_73 hz_74 dC_raise_114 ?_
              refine lv_iload_n hx hb dC_raise_117 rfl (lv_at hl 3 rfl) ?_
              obtain ⟨hi_81, hw⟩ := hw
              refine g_iald hC hwo ha_76 hi_81 dC_raise_118 ?_
              refine lv_icmp_ge (tgt := 125) hx hb dC_raise_119 (by decide) (fun hc_82 => ?_) (fun hc_82 => ?_)
              · replace hw := hw.1 hc_82
                obtain ⟨y_83, ey_83⟩ : ∃ z : Int32, z = x4_90 + (1 : Int32) := ⟨_, rfl⟩
                replace hw := hw y_83 ey_83
                refine lv_iinc (k := 4) (v := y_83) (lv' := [(4, .int y_83), (0, .ref a0_34), (1, .int x1_49), (2, .int x2_90), (3, .int x3_90)]) hx hb dC_raise_125 hl rfl (by rw [ey_83]; rfl) (by decide) rfl (fun ls hl => ?_)
                refine lv_goto (tgt := 49) hx hb dC_raise_128 (by decide) ?_
                exact ih49 _ _ _ _ _ _ _ _ hw hwo hS (lv_sub hl [1, 2, 3, 4, 0] rfl)
              · replace hw := hw.2 hc_82
                refine lv_iload hx hb dC_raise_122 (lv_at hl 4 rfl) ?_
                refine lv_istore_n (i := 3) (lv' := [(3, .int x4_90), (0, .ref a0_34), (1, .int x1_49), (2, .int x2_90), (4, .int x4_90)]) hx hb dC_raise_124 rfl hl (by decide) rfl (fun ls hl => ?_)
                obtain ⟨y_84, ey_84⟩ : ∃ z : Int32, z = x4_90 + (1 : Int32) := ⟨_, rfl⟩
                replace hw := hw y_84 ey_84
                refine lv_iinc (k := 4) (v := y_84) (lv' := [(4, .int y_84), (3, .int x4_90), (0, .ref a0_34), (1, .int x1_49), (2, .int x2_90)]) hx hb dC_raise_125 hl rfl (by rw [ey_84]; rfl) (by decide) rfl (fun ls hl => ?_)
                refine lv_goto (tgt := 49) hx hb dC_raise_128 (by decide) ?_
                exact ih49 _ _ _ _ _ _ _ _ hw hwo hS (lv_sub hl [2, 3, 4, 1, 0] rfl)
          intro x2_49 x3_49 x4_49 V U H locs ls hw hwo hS hl
          replace hw : bl_C_raise_49 θ a0_34 x1_49 (wl_C_raise_34 θ a0_34 K n34) K (wl_C_raise_49 θ a0_34 x1_49 (wl_C_raise_34 θ a0_34 K n34) K n49) x2_49 x3_49 x4_49 V U := hw
          unfold bl_C_raise_49 at hw
          refine lv_iload hx hb dC_raise_49 (lv_at hl 4 rfl) ?_
          refine lv_iload_n hx hb dC_raise_51 rfl (lv_at hl 1 rfl) ?_
          refine lv_icmp_ge (tgt := 131) hx hb dC_raise_52 (by decide) (fun hc_20 => ?_) (fun hc_20 => ?_)
          · replace hw := hw.1 hc_20
            refine lv_aload_n hx hb dC_raise_131 rfl (lv_at hl 0 rfl) ?_
            refine lv_iload_n hx hb dC_raise_132 rfl (lv_at hl 2 rfl) ?_
            refine lv_iload_n hx hb dC_raise_133 rfl (lv_at hl 3 rfl) ?_
            refine lv_aload_n hx hb dC_raise_134 rfl (lv_at hl 0 rfl) ?_
            obtain ⟨ho_21, hw⟩ := hw
            obtain ⟨hz_22, hw⟩ := hw
            refine g_getR hC fkC_28 rfl hwo ho_21 hz_22 dC_raise_135 ?_
            refine lv_iload_n hx hb dC_raise_138 rfl (lv_at hl 1 rfl) ?_
            obtain ⟨n_23, ha_24, hw⟩ := hw
            obtain ⟨hi_25, hw⟩ := hw
            refine g_iald hC hwo ha_24 hi_25 dC_raise_139 ?_
            refine lv_iconst (v := 1) hx hb dC_raise_140 (by decide) ?_
            refine g_Vi (rest := []) hC (c_C_heightBetween l θ _ _ _ _ _ _ _ _ hw) mi_C_heightBetween mlC_108 mv_C_heightBetween ci_9 ho_21 hwo hS ⟨rfl, rfl⟩ ⟨by decide, by decide⟩ rfl hl.1 rfl (Nat.le_of_ble_eq_true rfl) dC_raise_141 (fun r_28 V_26 U_27 hw H locs hwo hS => ?_)
            refine lv_istore (i := 4) (lv' := [(4, .int r_28), (0, .ref a0_34), (1, .int x1_49), (2, .int x2_49), (3, .int x3_49)]) hx hb dC_raise_144 hl (by decide) rfl (fun ls hl => ?_)
            refine lv_aload_n hx hb dC_raise_146 rfl (lv_at hl 1 rfl) ?_
            obtain ⟨hz_29, hw⟩ := hw
            refine g_getR hC fkC_34 rfl hwo ho_21 hz_29 dC_raise_147 ?_
            refine lv_iload_n hx hb dC_raise_150 rfl (lv_at hl 2 rfl) ?_
            refine lv_aload_n hx hb dC_raise_151 rfl (lv_at hl 1 rfl) ?_
            refine lv_aload_n hx hb dC_raise_152 rfl (lv_at hl 1 rfl) ?_
            obtain ⟨hz_30, hw⟩ := hw
            refine g_getR hC fkC_31 rfl hwo ho_21 hz_30 dC_raise_153 ?_
            refine lv_iload_n hx hb dC_raise_156 rfl (lv_at hl 2 rfl) ?_
            obtain ⟨n_31, ha_32, hw⟩ := hw
            obtain ⟨hi_33, hw⟩ := hw
            refine g_iald hC hwo ha_32 hi_33 dC_raise_157 ?_
            refine lv_iload hx hb dC_raise_158 (lv_at hl 0 rfl) ?_
            refine g_Vi (rest := [.int x1_49, .ref (U_27 a0_34 10)]) hC (c_C_heightOf l θ _ _ _ _ _ _ hw) mi_C_heightOf mlC_112 mv_C_heightOf ci_9 ho_21 hwo hS ⟨rfl, rfl⟩ ⟨by decide, by decide⟩ rfl hl.1 rfl (Nat.le_of_ble_eq_true rfl) dC_raise_160 (fun r_36 V_34 U_35 hw H locs hwo hS => ?_)
            obtain ⟨n_37, ha_38, hw⟩ := hw
            obtain ⟨hi_39, hw⟩ := hw
            refine g_iast hC hwo hS ha_38 hi_39 dC_raise_163 (fun V_40 eV_40 H locs hwo hS => ?_)
            replace hw := hw V_40 eV_40
            refine lv_aload_n hx hb dC_raise_164 rfl (lv_at hl 1 rfl) ?_
            obtain ⟨hz_41, hw⟩ := hw
            refine g_getR hC fkC_37 rfl hwo ho_21 hz_41 dC_raise_165 ?_
            refine lv_iload_n hx hb dC_raise_168 rfl (lv_at hl 2 rfl) ?_
            refine lv_aload_n hx hb dC_raise_169 rfl (lv_at hl 1 rfl) ?_
            obtain ⟨hz_42, hw⟩ := hw
            refine g_getR hC fkC_31 rfl hwo ho_21 hz_42 dC_raise_170 ?_
            refine lv_iload_n hx hb dC_raise_173 rfl (lv_at hl 2 rfl) ?_
            obtain ⟨n_43, ha_44, hw⟩ := hw
            obtain ⟨hi_45, hw⟩ := hw
            refine g_iald hC hwo ha_44 hi_45 dC_raise_174 ?_
            refine lv_if_eq (tgt := 182) hx hb dC_raise_175 (by decide) (fun hc_46 => ?_) (fun hc_46 => ?_)
            · replace hw := hw.1 hc_46
              refine lv_iconst (v := 0) hx hb dC_raise_182 (by decide) ?_
              exact J183 _ _ _ _ _ _ _ _ _ _ _ hw hwo hS (lv_sub hl [1, 2, 3, 4] rfl)
            · replace hw := hw.2 hc_46
              refine lv_iconst (v := 1) hx hb dC_raise_178 (by decide) ?_
              refine lv_goto (tgt := 183) hx hb dC_raise_179 (by decide) ?_
              exact J183 _ _ _ _ _ _ _ _ _ _ _ hw hwo hS (lv_sub hl [1, 2, 3, 4] rfl)
          · replace hw := hw.2 hc_20
            refine lv_aload_n hx hb dC_raise_55 rfl (lv_at hl 0 rfl) ?_
            obtain ⟨ho_47, hw⟩ := hw
            obtain ⟨hz_48, hw⟩ := hw
            refine g_getR hC fkC_28 rfl hwo ho_47 hz_48 dC_raise_56 ?_
            refine lv_iload hx hb dC_raise_59 (lv_at hl 4 rfl) ?_
            obtain ⟨n_49, ha_50, hw⟩ := hw
            obtain ⟨hi_51, hw⟩ := hw
            refine g_iald hC hwo ha_50 hi_51 dC_raise_61 ?_
            refine lv_aload_n hx hb dC_raise_62 rfl (lv_at hl 0 rfl) ?_
            refine g_getR hC fkC_28 rfl hwo ho_47 hz_48 dC_raise_63 ?_
            refine lv_iload_n hx hb dC_raise_66 rfl (lv_at hl 1 rfl) ?_
            obtain ⟨hi_52, hw⟩ := hw
            refine g_iald hC hwo ha_50 hi_52 dC_raise_67 ?_
            refine lv_icmp_ge (tgt := 90) hx hb dC_raise_68 (by decide) (fun hc_53 => ?_) (fun hc_53 => ?_)
            · replace hw := hw.1 hc_53
              exact J90 _ _ _ _ _ _ _ _ hw hwo hS (lv_sub hl [0, 1, 2, 3, 4] rfl)
            · replace hw := hw.2 hc_53
              refine lv_aload_n hx hb dC_raise_71 rfl (lv_at hl 0 rfl) ?_
              refine g_getR hC fkC_28 rfl hwo ho_47 hz_48 dC_raise_72 ?_
              refine lv_iload hx hb dC_raise_75 (lv_at hl 4 rfl) ?_
              refine g_iald hC hwo ha_50 hi_51 dC_raise_77 ?_
              refine lv_aload_n hx hb dC_raise_78 rfl (lv_at hl 0 rfl) ?_
              refine g_getR hC fkC_28 rfl hwo ho_47 hz_48 dC_raise_79 ?_
              refine lv_iload_n hx hb dC_raise_82 rfl (lv_at hl 2 rfl) ?_
              obtain ⟨hi_54, hw⟩ := hw
              refine g_iald hC hwo ha_50 hi_54 dC_raise_83 ?_
              refine lv_icmp_le (tgt := 90) hx hb dC_raise_84 (by decide) (fun hc_55 => ?_) (fun hc_55 => ?_)
              · replace hw := hw.1 hc_55
                exact J90 _ _ _ _ _ _ _ _ hw hwo hS (lv_sub hl [0, 1, 2, 3, 4] rfl)
              · replace hw := hw.2 hc_55
                refine lv_iload hx hb dC_raise_87 (lv_at hl 4 rfl) ?_
                refine lv_istore_n (i := 2) (lv' := [(2, .int x4_49), (0, .ref a0_34), (1, .int x1_49), (3, .int x3_49), (4, .int x4_49)]) hx hb dC_raise_89 rfl hl (by decide) rfl (fun ls hl => ?_)
                exact J90 _ _ _ _ _ _ _ _ hw hwo hS (lv_sub hl [1, 2, 0, 3, 4] rfl)
      intro x1_34 V U H locs ls hw hwo hS hl
      replace hw : bl_C_raise_34 θ a0_34 K (wl_C_raise_34 θ a0_34 K n34) x1_34 V U := hw
      unfold bl_C_raise_34 at hw
      refine lv_iload_n hx hb dC_raise_34 rfl (lv_at hl 1 rfl) ?_
      refine lv_aload_n hx hb dC_raise_35 rfl (lv_at hl 0 rfl) ?_
      obtain ⟨ho_18, hw⟩ := hw
      refine g_getI hC fkC_71 rfl hwo ho_18 dC_raise_36 ?_
      refine lv_icmp_ge (tgt := 213) hx hb dC_raise_39 (by decide) (fun hc_19 => ?_) (fun hc_19 => ?_)
      · replace hw := hw.1 hc_19
        exact g_vret hC hr hlk hw hwo hS dC_raise_213
      · replace hw := hw.2 hc_19
        refine lv_iconst (v := 0) hx hb dC_raise_42 (by decide) ?_
        refine lv_istore_n (i := 2) (lv' := [(2, .int (0 : Int32)), (0, .ref a0_34), (1, .int x1_34)]) hx hb dC_raise_43 rfl hl (by decide) rfl (fun ls hl => ?_)
        refine lv_iconst (v := 1) hx hb dC_raise_44 (by decide) ?_
        refine lv_istore_n (i := 3) (lv' := [(3, .int (1 : Int32)), (2, .int (0 : Int32)), (0, .ref a0_34), (1, .int x1_34)]) hx hb dC_raise_45 rfl hl (by decide) rfl (fun ls hl => ?_)
        refine lv_iconst (v := 2) hx hb dC_raise_46 (by decide) ?_
        refine lv_istore (i := 4) (lv' := [(4, .int (2 : Int32)), (3, .int (1 : Int32)), (2, .int (0 : Int32)), (0, .ref a0_34), (1, .int x1_34)]) hx hb dC_raise_47 hl (by decide) rfl (fun ls hl => ?_)
        obtain ⟨n, hw⟩ := hw
        exact L49 _ n _ _ _ _ _ _ _ _ hw hwo hS (lv_sub hl [3, 4, 2, 1, 0] rfl)
  have L2 : ∀ (a0_2 : Nat) (n2 : Nat) (x1_2 : Int32) (V : VT) (U : UT) (H : Heap) (locs : List Loc) (ls : Array Slot), wl_C_raise_2 θ a0_2 K n2 x1_2 V U → wo θ V U H → Sx θ s H locs → lv_has ls 5 [(0, .ref a0_2), (1, .int x1_2)] → W p l e rmC_raise s m args below meth c H locs 0 0 (MQ below (QV θ K) args s 0 0 (aT θ)) (F0 m 2 ls []) := by
    intro a0_2 n2
    induction n2 with
    | zero => intro x1_2 V U H locs ls hw hwo hS hl; exact (show False from hw).elim
    | succ n2 ih2 =>
      intro x1_2 V U H locs ls hw hwo hS hl
      replace hw : bl_C_raise_2 θ a0_2 K (wl_C_raise_2 θ a0_2 K n2) x1_2 V U := hw
      unfold bl_C_raise_2 at hw
      refine lv_iload_n hx hb dC_raise_2 rfl (lv_at hl 1 rfl) ?_
      refine lv_iconst (v := 2) hx hb dC_raise_3 (by decide) ?_
      refine lv_icmp_ge (tgt := 32) hx hb dC_raise_4 (by decide) (fun hc_1 => ?_) (fun hc_1 => ?_)
      · replace hw := hw.1 hc_1
        refine lv_iconst (v := 2) hx hb dC_raise_32 (by decide) ?_
        refine lv_istore_n (i := 1) (lv' := [(1, .int (2 : Int32)), (0, .ref a0_2)]) hx hb dC_raise_33 rfl hl (by decide) rfl (fun ls hl => ?_)
        obtain ⟨n, hw⟩ := hw
        exact L34 _ n _ _ _ _ _ _ hw hwo hS (lv_sub hl [1, 0] rfl)
      · replace hw := hw.2 hc_1
        refine lv_aload_n hx hb dC_raise_7 rfl (lv_at hl 0 rfl) ?_
        obtain ⟨ho_2, hw⟩ := hw
        obtain ⟨hz_3, hw⟩ := hw
        refine g_getR hC fkC_34 rfl hwo ho_2 hz_3 dC_raise_8 ?_
        refine lv_iload_n hx hb dC_raise_11 rfl (lv_at hl 1 rfl) ?_
        refine lv_aload_n hx hb dC_raise_12 rfl (lv_at hl 0 rfl) ?_
        obtain ⟨hz_4, hw⟩ := hw
        refine g_getR hC fkC_31 rfl hwo ho_2 hz_4 dC_raise_13 ?_
        refine lv_iload_n hx hb dC_raise_16 rfl (lv_at hl 1 rfl) ?_
        obtain ⟨n_5, ha_6, hw⟩ := hw
        obtain ⟨hi_7, hw⟩ := hw
        refine g_iald hC hwo ha_6 hi_7 dC_raise_17 ?_
        obtain ⟨n_8, ha_9, hw⟩ := hw
        obtain ⟨hi_10, hw⟩ := hw
        refine g_iast hC hwo hS ha_9 hi_10 dC_raise_18 (fun V_11 eV_11 H locs hwo hS => ?_)
        replace hw := hw V_11 eV_11
        refine lv_aload_n hx hb dC_raise_19 rfl (lv_at hl 0 rfl) ?_
        obtain ⟨hz_12, hw⟩ := hw
        refine g_getR hC fkC_37 rfl hwo ho_2 hz_12 dC_raise_20 ?_
        refine lv_iload_n hx hb dC_raise_23 rfl (lv_at hl 1 rfl) ?_
        refine lv_iconst (v := 1) hx hb dC_raise_24 (by decide) ?_
        obtain ⟨n_13, ha_14, hw⟩ := hw
        obtain ⟨hi_15, hw⟩ := hw
        refine g_zast hC hwo hS ha_14 hi_15 (Or.inr rfl) dC_raise_25 (fun V_16 eV_16 H locs hwo hS => ?_)
        replace hw := hw V_16 eV_16
        obtain ⟨y_17, ey_17⟩ : ∃ z : Int32, z = x1_2 + (1 : Int32) := ⟨_, rfl⟩
        replace hw := hw y_17 ey_17
        refine lv_iinc (k := 1) (v := y_17) (lv' := [(1, .int y_17), (0, .ref a0_2)]) hx hb dC_raise_26 hl rfl (by rw [ey_17]; rfl) (by decide) rfl (fun ls hl => ?_)
        refine lv_goto (tgt := 2) hx hb dC_raise_29 (by decide) ?_
        exact ih2 _ _ _ _ _ _ hw hwo hS (lv_sub hl [1, 0] rfl)
  unfold wp_C_raise at hw
  refine lv_iconst (v := 0) hx hb dC_raise_0 (by decide) ?_
  refine lv_istore_n (i := 1) (lv' := [(1, .int (0 : Int32)), (0, .ref a0)]) hx hb dC_raise_1 rfl hl (by decide) rfl (fun ls hl => ?_)
  obtain ⟨n, hw⟩ := hw
  exact L2 _ n _ _ _ _ _ _ hw hwo hS (lv_sub hl [1, 0] rfl)
theorem dC_draw_0 : decode kC_draw 0 = .ok (.aload_n 0, 1) := by decide +kernel
theorem dC_draw_1 : decode kC_draw 1 = .ok (.getfield 46, 3) := by decide +kernel
theorem dC_draw_4 : decode kC_draw 4 = .ok (.iconst 1, 1) := by decide +kernel
theorem dC_draw_5 : decode kC_draw 5 = .ok (.iadd, 1) := by decide +kernel
theorem dC_draw_6 : decode kC_draw 6 = .ok (.istore_n 3, 1) := by decide +kernel
theorem dC_draw_7 : decode kC_draw 7 = .ok (.iconst 0, 1) := by decide +kernel
theorem dC_draw_8 : decode kC_draw 8 = .ok (.istore 4, 2) := by decide +kernel
theorem dC_draw_10 : decode kC_draw 10 = .ok (.iload 4, 2) := by decide +kernel
theorem dC_draw_12 : decode kC_draw 12 = .ok (.iload_n 2, 1) := by decide +kernel
theorem dC_draw_13 : decode kC_draw 13 = .ok (.if_icmp .ge 168, 3) := by decide +kernel
theorem dC_draw_16 : decode kC_draw 16 = .ok (.iconst 0, 1) := by decide +kernel
theorem dC_draw_17 : decode kC_draw 17 = .ok (.istore 5, 2) := by decide +kernel
theorem dC_draw_19 : decode kC_draw 19 = .ok (.iconst 1, 1) := by decide +kernel
theorem dC_draw_20 : decode kC_draw 20 = .ok (.istore 6, 2) := by decide +kernel
theorem dC_draw_22 : decode kC_draw 22 = .ok (.iconst 2, 1) := by decide +kernel
theorem dC_draw_23 : decode kC_draw 23 = .ok (.istore 7, 2) := by decide +kernel
theorem dC_draw_25 : decode kC_draw 25 = .ok (.iload 7, 2) := by decide +kernel
theorem dC_draw_27 : decode kC_draw 27 = .ok (.aload_n 0, 1) := by decide +kernel
theorem dC_draw_28 : decode kC_draw 28 = .ok (.getfield 71, 3) := by decide +kernel
theorem dC_draw_31 : decode kC_draw 31 = .ok (.if_icmp .ge 95, 3) := by decide +kernel
theorem dC_draw_34 : decode kC_draw 34 = .ok (.aload_n 0, 1) := by decide +kernel
theorem dC_draw_35 : decode kC_draw 35 = .ok (.getfield 37, 3) := by decide +kernel
theorem dC_draw_38 : decode kC_draw 38 = .ok (.iload 7, 2) := by decide +kernel
theorem dC_draw_40 : decode kC_draw 40 = .ok (.baload, 1) := by decide +kernel
theorem dC_draw_41 : decode kC_draw 41 = .ok (.ifCond .eq 36, 3) := by decide +kernel
theorem dC_draw_44 : decode kC_draw 44 = .ok (.aload_n 0, 1) := by decide +kernel
theorem dC_draw_45 : decode kC_draw 45 = .ok (.getfield 28, 3) := by decide +kernel
theorem dC_draw_48 : decode kC_draw 48 = .ok (.iload 7, 2) := by decide +kernel
theorem dC_draw_50 : decode kC_draw 50 = .ok (.iaload, 1) := by decide +kernel
theorem dC_draw_51 : decode kC_draw 51 = .ok (.iload 4, 2) := by decide +kernel
theorem dC_draw_53 : decode kC_draw 53 = .ok (.if_icmp .gt 24, 3) := by decide +kernel
theorem dC_draw_56 : decode kC_draw 56 = .ok (.aload_n 0, 1) := by decide +kernel
theorem dC_draw_57 : decode kC_draw 57 = .ok (.getfield 28, 3) := by decide +kernel
theorem dC_draw_60 : decode kC_draw 60 = .ok (.iload 7, 2) := by decide +kernel
theorem dC_draw_62 : decode kC_draw 62 = .ok (.iaload, 1) := by decide +kernel
theorem dC_draw_63 : decode kC_draw 63 = .ok (.aload_n 0, 1) := by decide +kernel
theorem dC_draw_64 : decode kC_draw 64 = .ok (.getfield 28, 3) := by decide +kernel
theorem dC_draw_67 : decode kC_draw 67 = .ok (.iload 5, 2) := by decide +kernel
theorem dC_draw_69 : decode kC_draw 69 = .ok (.iaload, 1) := by decide +kernel
theorem dC_draw_70 : decode kC_draw 70 = .ok (.if_icmp .le 7, 3) := by decide +kernel
theorem dC_draw_73 : decode kC_draw 73 = .ok (.iload 7, 2) := by decide +kernel
theorem dC_draw_75 : decode kC_draw 75 = .ok (.istore 5, 2) := by decide +kernel
theorem dC_draw_77 : decode kC_draw 77 = .ok (.aload_n 0, 1) := by decide +kernel
theorem dC_draw_78 : decode kC_draw 78 = .ok (.getfield 37, 3) := by decide +kernel
theorem dC_draw_81 : decode kC_draw 81 = .ok (.iload 7, 2) := by decide +kernel
theorem dC_draw_83 : decode kC_draw 83 = .ok (.baload, 1) := by decide +kernel
theorem dC_draw_84 : decode kC_draw 84 = .ok (.ifCond .eq 36, 3) := by decide +kernel
theorem dC_draw_87 : decode kC_draw 87 = .ok (.aload_n 0, 1) := by decide +kernel
theorem dC_draw_88 : decode kC_draw 88 = .ok (.getfield 28, 3) := by decide +kernel
theorem dC_draw_91 : decode kC_draw 91 = .ok (.iload 7, 2) := by decide +kernel
theorem dC_draw_93 : decode kC_draw 93 = .ok (.iaload, 1) := by decide +kernel
theorem dC_draw_94 : decode kC_draw 94 = .ok (.iload 4, 2) := by decide +kernel
theorem dC_draw_96 : decode kC_draw 96 = .ok (.if_icmp .le 24, 3) := by decide +kernel
theorem dC_draw_99 : decode kC_draw 99 = .ok (.aload_n 0, 1) := by decide +kernel
theorem dC_draw_100 : decode kC_draw 100 = .ok (.getfield 28, 3) := by decide +kernel
theorem dC_draw_103 : decode kC_draw 103 = .ok (.iload 7, 2) := by decide +kernel
theorem dC_draw_105 : decode kC_draw 105 = .ok (.iaload, 1) := by decide +kernel
theorem dC_draw_106 : decode kC_draw 106 = .ok (.aload_n 0, 1) := by decide +kernel
theorem dC_draw_107 : decode kC_draw 107 = .ok (.getfield 28, 3) := by decide +kernel
theorem dC_draw_110 : decode kC_draw 110 = .ok (.iload 6, 2) := by decide +kernel
theorem dC_draw_112 : decode kC_draw 112 = .ok (.iaload, 1) := by decide +kernel
theorem dC_draw_113 : decode kC_draw 113 = .ok (.if_icmp .ge 7, 3) := by decide +kernel
theorem dC_draw_116 : decode kC_draw 116 = .ok (.iload 7, 2) := by decide +kernel
theorem dC_draw_118 : decode kC_draw 118 = .ok (.istore 6, 2) := by decide +kernel
theorem dC_draw_120 : decode kC_draw 120 = .ok (.iinc 7 1, 3) := by decide +kernel
theorem dC_draw_123 : decode kC_draw 123 = .ok (.goto (-98), 3) := by decide +kernel
theorem dC_draw_126 : decode kC_draw 126 = .ok (.iload 4, 2) := by decide +kernel
theorem dC_draw_128 : decode kC_draw 128 = .ok (.aload_n 0, 1) := by decide +kernel
theorem dC_draw_129 : decode kC_draw 129 = .ok (.getfield 28, 3) := by decide +kernel
theorem dC_draw_132 : decode kC_draw 132 = .ok (.iconst 1, 1) := by decide +kernel
theorem dC_draw_133 : decode kC_draw 133 = .ok (.iaload, 1) := by decide +kernel
theorem dC_draw_134 : decode kC_draw 134 = .ok (.if_icmp .lt 7, 3) := by decide +kernel
theorem dC_draw_137 : decode kC_draw 137 = .ok (.iconst 1, 1) := by decide +kernel
theorem dC_draw_138 : decode kC_draw 138 = .ok (.goto 4, 3) := by decide +kernel
theorem dC_draw_141 : decode kC_draw 141 = .ok (.iconst 0, 1) := by decide +kernel
theorem dC_draw_142 : decode kC_draw 142 = .ok (.istore 7, 2) := by decide +kernel
theorem dC_draw_144 : decode kC_draw 144 = .ok (.aload_n 1, 1) := by decide +kernel
theorem dC_draw_145 : decode kC_draw 145 = .ok (.iload 4, 2) := by decide +kernel
theorem dC_draw_147 : decode kC_draw 147 = .ok (.iload 7, 2) := by decide +kernel
theorem dC_draw_149 : decode kC_draw 149 = .ok (.ifCond .eq 14, 3) := by decide +kernel
theorem dC_draw_152 : decode kC_draw 152 = .ok (.aload_n 0, 1) := by decide +kernel
theorem dC_draw_153 : decode kC_draw 153 = .ok (.getfield 34, 3) := by decide +kernel
theorem dC_draw_156 : decode kC_draw 156 = .ok (.iconst 1, 1) := by decide +kernel
theorem dC_draw_157 : decode kC_draw 157 = .ok (.iaload, 1) := by decide +kernel
theorem dC_draw_158 : decode kC_draw 158 = .ok (.iload_n 3, 1) := by decide +kernel
theorem dC_draw_159 : decode kC_draw 159 = .ok (.imul, 1) := by decide +kernel
theorem dC_draw_160 : decode kC_draw 160 = .ok (.goto 14, 3) := by decide +kernel
theorem dC_draw_163 : decode kC_draw 163 = .ok (.aload_n 0, 1) := by decide +kernel
theorem dC_draw_164 : decode kC_draw 164 = .ok (.iload 5, 2) := by decide +kernel
theorem dC_draw_166 : decode kC_draw 166 = .ok (.iload 6, 2) := by decide +kernel
theorem dC_draw_168 : decode kC_draw 168 = .ok (.iload 4, 2) := by decide +kernel
theorem dC_draw_170 : decode kC_draw 170 = .ok (.iload_n 3, 1) := by decide +kernel
theorem dC_draw_171 : decode kC_draw 171 = .ok (.invokevirtual 108, 3) := by decide +kernel
theorem dC_draw_174 : decode kC_draw 174 = .ok (.iastore, 1) := by decide +kernel
theorem dC_draw_175 : decode kC_draw 175 = .ok (.iinc 4 1, 3) := by decide +kernel
theorem dC_draw_178 : decode kC_draw 178 = .ok (.goto (-168), 3) := by decide +kernel
theorem dC_draw_181 : decode kC_draw 181 = .ok (.return_, 1) := by decide +kernel
def wb_C_draw_142 (θ : TH) (a0_10 : Nat) (a1_10 : Nat) (x2_10 : Int32) (x3_10 : Int32) (x4_142 : Int32) (x5_142 : Int32) (x6_142 : Int32) (z0_142 : Int32) (kb10 : Int32 → VT → UT → Prop) (K : VT → UT → Prop) (V : VT) (U : UT) : Prop := ((z0_142 = 0 → isO θ a0_10 9 ∧ wp_C_heightBetween θ a0_10 x5_142 x6_142 x4_142 x3_10 V U (fun r_27 V_24 U_25 => ∃ n_28, isA θ a1_10 0 n_28 ∧ vp_in x4_142 n_28 ∧ ∀ V_31 : VT, V_31 = up2 V_24 a1_10 x4_142.toNatClampNeg r_27 → ∀ y_32 : Int32, y_32 = x4_142 + (1 : Int32) → kb10 y_32 V_31 U_25)) ∧ (¬ z0_142 = 0 → isO θ a0_10 9 ∧ (U a0_10 10) ≠ 0 ∧ ∃ n_35, isA θ (U a0_10 10) 0 n_35 ∧ vp_in (1 : Int32) n_35 ∧ ∃ n_38, isA θ a1_10 0 n_38 ∧ vp_in x4_142 n_38 ∧ ∀ V_41 : VT, V_41 = up2 V a1_10 x4_142.toNatClampNeg ((V (U a0_10 10) (1 : Int32).toNatClampNeg) * x3_10) → ∀ y_42 : Int32, y_42 = x4_142 + (1 : Int32) → kb10 y_42 V_41 U))
def wb_C_draw_77 (θ : TH) (a0_10 : Nat) (a1_10 : Nat) (x2_10 : Int32) (x3_10 : Int32) (x4_25 : Int32) (x5_77 : Int32) (x6_77 : Int32) (x7_77 : Int32) (kb10 : Int32 → VT → UT → Prop) (kb25 : Int32 → Int32 → Int32 → VT → UT → Prop) (K : VT → UT → Prop) (V : VT) (U : UT) : Prop := isO θ a0_10 9 ∧ (U a0_10 11) ≠ 0 ∧ ∃ n_45, isA θ (U a0_10 11) 1 n_45 ∧ vp_in x7_77 n_45 ∧ (((V (U a0_10 11) x7_77.toNatClampNeg) = 0 → ∀ y_49 : Int32, y_49 = x7_77 + (1 : Int32) → kb25 x5_77 x6_77 y_49 V U) ∧ (¬ (V (U a0_10 11) x7_77.toNatClampNeg) = 0 → (U a0_10 8) ≠ 0 ∧ ∃ n_51, isA θ (U a0_10 8) 0 n_51 ∧ vp_in x7_77 n_51 ∧ (((V (U a0_10 8) x7_77.toNatClampNeg) ≤ x4_25 → ∀ y_55 : Int32, y_55 = x7_77 + (1 : Int32) → kb25 x5_77 x6_77 y_55 V U) ∧ (¬ (V (U a0_10 8) x7_77.toNatClampNeg) ≤ x4_25 → vp_in x6_77 n_51 ∧ (((V (U a0_10 8) x6_77.toNatClampNeg) ≤ (V (U a0_10 8) x7_77.toNatClampNeg) → ∀ y_58 : Int32, y_58 = x7_77 + (1 : Int32) → kb25 x5_77 x6_77 y_58 V U) ∧ (¬ (V (U a0_10 8) x6_77.toNatClampNeg) ≤ (V (U a0_10 8) x7_77.toNatClampNeg) → ∀ y_59 : Int32, y_59 = x7_77 + (1 : Int32) → kb25 x5_77 x7_77 y_59 V U))))))
def bl_C_draw_25 (θ : TH) (a0_10 : Nat) (a1_10 : Nat) (x2_10 : Int32) (x3_10 : Int32) (x4_25 : Int32) (kb10 : Int32 → VT → UT → Prop) (K : VT → UT → Prop) (kb25 : Int32 → Int32 → Int32 → VT → UT → Prop) (x5_25 : Int32) (x6_25 : Int32) (x7_25 : Int32) (V : VT) (U : UT) : Prop := isO θ a0_10 9 ∧ (((V a0_10 7) ≤ x7_25 → (U a0_10 8) ≠ 0 ∧ ∃ n_7, isA θ (U a0_10 8) 0 n_7 ∧ vp_in (1 : Int32) n_7 ∧ ((x4_25 < (V (U a0_10 8) (1 : Int32).toNatClampNeg) → wb_C_draw_142 θ a0_10 a1_10 x2_10 x3_10 x4_25 x5_25 x6_25 (0 : Int32) kb10 K V U) ∧ (¬ x4_25 < (V (U a0_10 8) (1 : Int32).toNatClampNeg) → wb_C_draw_142 θ a0_10 a1_10 x2_10 x3_10 x4_25 x5_25 x6_25 (1 : Int32) kb10 K V U))) ∧ (¬ (V a0_10 7) ≤ x7_25 → (U a0_10 11) ≠ 0 ∧ ∃ n_12, isA θ (U a0_10 11) 1 n_12 ∧ vp_in x7_25 n_12 ∧ (((V (U a0_10 11) x7_25.toNatClampNeg) = 0 → wb_C_draw_77 θ a0_10 a1_10 x2_10 x3_10 x4_25 x5_25 x6_25 x7_25 kb10 kb25 K V U) ∧ (¬ (V (U a0_10 11) x7_25.toNatClampNeg) = 0 → (U a0_10 8) ≠ 0 ∧ ∃ n_17, isA θ (U a0_10 8) 0 n_17 ∧ vp_in x7_25 n_17 ∧ ((x4_25 < (V (U a0_10 8) x7_25.toNatClampNeg) → wb_C_draw_77 θ a0_10 a1_10 x2_10 x3_10 x4_25 x5_25 x6_25 x7_25 kb10 kb25 K V U) ∧ (¬ x4_25 < (V (U a0_10 8) x7_25.toNatClampNeg) → vp_in x5_25 n_17 ∧ (((V (U a0_10 8) x7_25.toNatClampNeg) ≤ (V (U a0_10 8) x5_25.toNatClampNeg) → wb_C_draw_77 θ a0_10 a1_10 x2_10 x3_10 x4_25 x5_25 x6_25 x7_25 kb10 kb25 K V U) ∧ (¬ (V (U a0_10 8) x7_25.toNatClampNeg) ≤ (V (U a0_10 8) x5_25.toNatClampNeg) → wb_C_draw_77 θ a0_10 a1_10 x2_10 x3_10 x4_25 x7_25 x6_25 x7_25 kb10 kb25 K V U))))))))
def wl_C_draw_25 (θ : TH) (a0_10 : Nat) (a1_10 : Nat) (x2_10 : Int32) (x3_10 : Int32) (x4_25 : Int32) (kb10 : Int32 → VT → UT → Prop) (K : VT → UT → Prop) : Nat → Int32 → Int32 → Int32 → VT → UT → Prop
  | 0, _, _, _, _, _ => False
  | n + 1, x5_25, x6_25, x7_25, V, U => bl_C_draw_25 θ a0_10 a1_10 x2_10 x3_10 x4_25 kb10 K (wl_C_draw_25 θ a0_10 a1_10 x2_10 x3_10 x4_25 kb10 K n) x5_25 x6_25 x7_25 V U
def bl_C_draw_10 (θ : TH) (a0_10 : Nat) (a1_10 : Nat) (x2_10 : Int32) (x3_10 : Int32) (K : VT → UT → Prop) (kb10 : Int32 → VT → UT → Prop) (x4_10 : Int32) (V : VT) (U : UT) : Prop := ((x2_10 ≤ x4_10 → K V U) ∧ (¬ x2_10 ≤ x4_10 → ∃ n, wl_C_draw_25 θ a0_10 a1_10 x2_10 x3_10 x4_10 kb10 K n (0 : Int32) (1 : Int32) (2 : Int32) V U))
def wl_C_draw_10 (θ : TH) (a0_10 : Nat) (a1_10 : Nat) (x2_10 : Int32) (x3_10 : Int32) (K : VT → UT → Prop) : Nat → Int32 → VT → UT → Prop
  | 0, _, _, _ => False
  | n + 1, x4_10, V, U => bl_C_draw_10 θ a0_10 a1_10 x2_10 x3_10 K (wl_C_draw_10 θ a0_10 a1_10 x2_10 x3_10 K n) x4_10 V U
def wp_C_draw (θ : TH) (a0 : Nat) (a1 : Nat) (x2 : Int32) (V : VT) (U : UT) (K : VT → UT → Prop) : Prop := isO θ a0 9 ∧ ∀ y_2 : Int32, y_2 = ((V a0 0) + (1 : Int32)) → ∃ n, wl_C_draw_10 θ a0 a1 x2 y_2 K n (0 : Int32) V U
set_option maxRecDepth 100000 in
set_option maxHeartbeats 4000000 in
theorem c_C_draw (l : Launch) (θ : TH) (a0 : Nat) (a1 : Nat) (x2 : Int32) (V : VT) (U : UT) (K : VT → UT → Prop) (hw : wp_C_draw θ a0 a1 x2 V U K) : CMv l yC_draw kC_draw 8 none rmC_draw θ [.ref a0, .ref a1, .int x2] V U K := by
  refine g_met nRC (by decide +kernel) rfl (Nat.le_of_ble_eq_true rfl) (fun p e s m args below meth c ls hC hr hlk hwo hl => ?_)
  have hx := hC.1
  have hb := hC.2.1
  have hS : Sx θ s s.heap [] := va_S.rf
  have hl : lv_has ls 8 [(0, .ref a0), (1, .ref a1), (2, .int x2)] := hl
  have L10 : ∀ (a0_10 : Nat) (a1_10 : Nat) (x2_10 : Int32) (x3_10 : Int32) (n10 : Nat) (x4_10 : Int32) (V : VT) (U : UT) (H : Heap) (locs : List Loc) (ls : Array Slot), wl_C_draw_10 θ a0_10 a1_10 x2_10 x3_10 K n10 x4_10 V U → wo θ V U H → Sx θ s H locs → lv_has ls 8 [(0, .ref a0_10), (1, .ref a1_10), (2, .int x2_10), (3, .int x3_10), (4, .int x4_10)] → W p l e rmC_draw s m args below meth c H locs 0 0 (MQ below (QV θ K) args s 0 0 (aT θ)) (F0 m 10 ls []) := by
    intro a0_10 a1_10 x2_10 x3_10 n10
    induction n10 with
    | zero => intro x4_10 V U H locs ls hw hwo hS hl; exact (show False from hw).elim
    | succ n10 ih10 =>
      have J142 : ∀ (x4_142 : Int32) (x5_142 : Int32) (x6_142 : Int32) (z0_142 : Int32) (V : VT) (U : UT) (H : Heap) (locs : List Loc) (ls : Array Slot), wb_C_draw_142 θ a0_10 a1_10 x2_10 x3_10 x4_142 x5_142 x6_142 z0_142 (wl_C_draw_10 θ a0_10 a1_10 x2_10 x3_10 K n10) K V U → wo θ V U H → Sx θ s H locs → lv_has ls 8 [(0, .ref a0_10), (1, .ref a1_10), (2, .int x2_10), (3, .int x3_10), (4, .int x4_142), (5, .int x5_142), (6, .int x6_142)] → W p l e rmC_draw s m args below meth c H locs 0 0 (MQ below (QV θ K) args s 0 0 (aT θ)) (F0 m 142 ls [.int z0_142]) := by
        intro x4_142 x5_142 x6_142 z0_142 V U H locs ls hw hwo hS hl
        unfold wb_C_draw_142 at hw
        refine lv_istore (i := 7) (lv' := [(7, .int z0_142), (0, .ref a0_10), (1, .ref a1_10), (2, .int x2_10), (3, .int x3_10), (4, .int x4_142), (5, .int x5_142), (6, .int x6_142)]) hx hb dC_draw_142 hl (by decide) rfl (fun ls hl => ?_)
        refine lv_aload_n hx hb dC_draw_144 rfl (lv_at hl 2 rfl) ?_
        refine lv_iload hx hb dC_draw_145 (lv_at hl 5 rfl) ?_
        refine lv_iload hx hb dC_draw_147 (lv_at hl 0 rfl) ?_
        refine lv_if_eq (tgt := 163) hx hb dC_draw_149 (by decide) (fun hc_23 => ?_) (fun hc_23 => ?_)
        · replace hw := hw.1 hc_23
          refine lv_aload_n hx hb dC_draw_163 rfl (lv_at hl 1 rfl) ?_
          refine lv_iload hx hb dC_draw_164 (lv_at hl 6 rfl) ?_
          refine lv_iload hx hb dC_draw_166 (lv_at hl 7 rfl) ?_
          refine lv_iload hx hb dC_draw_168 (lv_at hl 5 rfl) ?_
          refine lv_iload_n hx hb dC_draw_170 rfl (lv_at hl 4 rfl) ?_
          obtain ⟨ho_26, hw⟩ := hw
          refine g_Vi (rest := [.int x4_142, .ref a1_10]) hC (c_C_heightBetween l θ _ _ _ _ _ _ _ _ hw) mi_C_heightBetween mlC_108 mv_C_heightBetween ci_9 ho_26 hwo hS ⟨rfl, rfl⟩ ⟨by decide, by decide⟩ rfl hl.1 rfl (Nat.le_of_ble_eq_true rfl) dC_draw_171 (fun r_27 V_24 U_25 hw H locs hwo hS => ?_)
          obtain ⟨n_28, ha_29, hw⟩ := hw
          obtain ⟨hi_30, hw⟩ := hw
          refine g_iast hC hwo hS ha_29 hi_30 dC_draw_174 (fun V_31 eV_31 H locs hwo hS => ?_)
          replace hw := hw V_31 eV_31
          obtain ⟨y_32, ey_32⟩ : ∃ z : Int32, z = x4_142 + (1 : Int32) := ⟨_, rfl⟩
          replace hw := hw y_32 ey_32
          refine lv_iinc (k := 5) (v := y_32) (lv' := [(4, .int y_32), (7, .int z0_142), (0, .ref a0_10), (1, .ref a1_10), (2, .int x2_10), (3, .int x3_10), (5, .int x5_142), (6, .int x6_142)]) hx hb dC_draw_175 hl rfl (by rw [ey_32]; rfl) (by decide) rfl (fun ls hl => ?_)
          refine lv_goto (tgt := 10) hx hb dC_draw_178 (by decide) ?_
          exact ih10 _ _ _ _ _ _ hw hwo hS (lv_sub hl [2, 3, 4, 5, 0] rfl)
        · replace hw := hw.2 hc_23
          refine lv_aload_n hx hb dC_draw_152 rfl (lv_at hl 1 rfl) ?_
          obtain ⟨ho_33, hw⟩ := hw
          obtain ⟨hz_34, hw⟩ := hw
          refine g_getR hC fkC_34 rfl hwo ho_33 hz_34 dC_draw_153 ?_
          refine lv_iconst (v := 1) hx hb dC_draw_156 (by decide) ?_
          obtain ⟨n_35, ha_36, hw⟩ := hw
          obtain ⟨hi_37, hw⟩ := hw
          refine g_iald hC hwo ha_36 hi_37 dC_draw_157 ?_
          refine lv_iload_n hx hb dC_draw_158 rfl (lv_at hl 4 rfl) ?_
          refine lv_imul hx hb dC_draw_159 ?_
          refine lv_goto (tgt := 174) hx hb dC_draw_160 (by decide) ?_
          obtain ⟨n_38, ha_39, hw⟩ := hw
          obtain ⟨hi_40, hw⟩ := hw
          refine g_iast hC hwo hS ha_39 hi_40 dC_draw_174 (fun V_41 eV_41 H locs hwo hS => ?_)
          replace hw := hw V_41 eV_41
          obtain ⟨y_42, ey_42⟩ : ∃ z : Int32, z = x4_142 + (1 : Int32) := ⟨_, rfl⟩
          replace hw := hw y_42 ey_42
          refine lv_iinc (k := 5) (v := y_42) (lv' := [(4, .int y_42), (7, .int z0_142), (0, .ref a0_10), (1, .ref a1_10), (2, .int x2_10), (3, .int x3_10), (5, .int x5_142), (6, .int x6_142)]) hx hb dC_draw_175 hl rfl (by rw [ey_42]; rfl) (by decide) rfl (fun ls hl => ?_)
          refine lv_goto (tgt := 10) hx hb dC_draw_178 (by decide) ?_
          exact ih10 _ _ _ _ _ _ hw hwo hS (lv_sub hl [2, 3, 4, 5, 0] rfl)
      have L25 : ∀ (x4_25 : Int32) (n25 : Nat) (x5_25 : Int32) (x6_25 : Int32) (x7_25 : Int32) (V : VT) (U : UT) (H : Heap) (locs : List Loc) (ls : Array Slot), wl_C_draw_25 θ a0_10 a1_10 x2_10 x3_10 x4_25 (wl_C_draw_10 θ a0_10 a1_10 x2_10 x3_10 K n10) K n25 x5_25 x6_25 x7_25 V U → wo θ V U H → Sx θ s H locs → lv_has ls 8 [(0, .ref a0_10), (1, .ref a1_10), (2, .int x2_10), (3, .int x3_10), (4, .int x4_25), (5, .int x5_25), (6, .int x6_25), (7, .int x7_25)] → W p l e rmC_draw s m args below meth c H locs 0 0 (MQ below (QV θ K) args s 0 0 (aT θ)) (F0 m 25 ls []) := by
        intro x4_25 n25
        induction n25 with
        | zero => intro x5_25 x6_25 x7_25 V U H locs ls hw hwo hS hl; exact (show False from hw).elim
        | succ n25 ih25 =>
          have J77 : ∀ (x5_77 : Int32) (x6_77 : Int32) (x7_77 : Int32) (V : VT) (U : UT) (H : Heap) (locs : List Loc) (ls : Array Slot), wb_C_draw_77 θ a0_10 a1_10 x2_10 x3_10 x4_25 x5_77 x6_77 x7_77 (wl_C_draw_10 θ a0_10 a1_10 x2_10 x3_10 K n10) (wl_C_draw_25 θ a0_10 a1_10 x2_10 x3_10 x4_25 (wl_C_draw_10 θ a0_10 a1_10 x2_10 x3_10 K n10) K n25) K V U → wo θ V U H → Sx θ s H locs → lv_has ls 8 [(0, .ref a0_10), (1, .ref a1_10), (2, .int x2_10), (3, .int x3_10), (4, .int x4_25), (5, .int x5_77), (6, .int x6_77), (7, .int x7_77)] → W p l e rmC_draw s m args below meth c H locs 0 0 (MQ below (QV θ K) args s 0 0 (aT θ)) (F0 m 77 ls []) := by
            intro x5_77 x6_77 x7_77 V U H locs ls hw hwo hS hl
            unfold wb_C_draw_77 at hw
            refine lv_aload_n hx hb dC_draw_77 rfl (lv_at hl 0 rfl) ?_
            obtain ⟨ho_43, hw⟩ := hw
            obtain ⟨hz_44, hw⟩ := hw
            refine g_getR hC fkC_37 rfl hwo ho_43 hz_44 dC_draw_78 ?_
            refine lv_iload hx hb dC_draw_81 (lv_at hl 7 rfl) ?_
            obtain ⟨n_45, ha_46, hw⟩ := hw
            obtain ⟨hi_47, hw⟩ := hw
            refine g_zald hC hwo ha_46 hi_47 dC_draw_83 ?_
            refine lv_if_eq (tgt := 120) hx hb dC_draw_84 (by decide) (fun hc_48 => ?_) (fun hc_48 => ?_)
            · replace hw := hw.1 hc_48
              obtain ⟨y_49, ey_49⟩ : ∃ z : Int32, z = x7_77 + (1 : Int32) := ⟨_, rfl⟩
              replace hw := hw y_49 ey_49
              refine lv_iinc (k := 7) (v := y_49) (lv' := [(7, .int y_49), (0, .ref a0_10), (1, .ref a1_10), (2, .int x2_10), (3, .int x3_10), (4, .int x4_25), (5, .int x5_77), (6, .int x6_77)]) hx hb dC_draw_120 hl rfl (by rw [ey_49]; rfl) (by decide) rfl (fun ls hl => ?_)
              refine lv_goto (tgt := 25) hx hb dC_draw_123 (by decide) ?_
              exact ih25 _ _ _ _ _ _ _ _ hw hwo hS (lv_sub hl [1, 2, 3, 4, 5, 6, 7, 0] rfl)
            · replace hw := hw.2 hc_48
              refine lv_aload_n hx hb dC_draw_87 rfl (lv_at hl 0 rfl) ?_
              obtain ⟨hz_50, hw⟩ := hw
              refine g_getR hC fkC_28 rfl hwo ho_43 hz_50 dC_draw_88 ?_
              refine lv_iload hx hb dC_draw_91 (lv_at hl 7 rfl) ?_
              obtain ⟨n_51, ha_52, hw⟩ := hw
              obtain ⟨hi_53, hw⟩ := hw
              refine g_iald hC hwo ha_52 hi_53 dC_draw_93 ?_
              refine lv_iload hx hb dC_draw_94 (lv_at hl 4 rfl) ?_
              refine lv_icmp_le (tgt := 120) hx hb dC_draw_96 (by decide) (fun hc_54 => ?_) (fun hc_54 => ?_)
              · replace hw := hw.1 hc_54
                obtain ⟨y_55, ey_55⟩ : ∃ z : Int32, z = x7_77 + (1 : Int32) := ⟨_, rfl⟩
                replace hw := hw y_55 ey_55
                refine lv_iinc (k := 7) (v := y_55) (lv' := [(7, .int y_55), (0, .ref a0_10), (1, .ref a1_10), (2, .int x2_10), (3, .int x3_10), (4, .int x4_25), (5, .int x5_77), (6, .int x6_77)]) hx hb dC_draw_120 hl rfl (by rw [ey_55]; rfl) (by decide) rfl (fun ls hl => ?_)
                refine lv_goto (tgt := 25) hx hb dC_draw_123 (by decide) ?_
                exact ih25 _ _ _ _ _ _ _ _ hw hwo hS (lv_sub hl [1, 2, 3, 4, 5, 6, 7, 0] rfl)
              · replace hw := hw.2 hc_54
                refine lv_aload_n hx hb dC_draw_99 rfl (lv_at hl 0 rfl) ?_
                refine g_getR hC fkC_28 rfl hwo ho_43 hz_50 dC_draw_100 ?_
                refine lv_iload hx hb dC_draw_103 (lv_at hl 7 rfl) ?_
                refine g_iald hC hwo ha_52 hi_53 dC_draw_105 ?_
                refine lv_aload_n hx hb dC_draw_106 rfl (lv_at hl 0 rfl) ?_
                refine g_getR hC fkC_28 rfl hwo ho_43 hz_50 dC_draw_107 ?_
                refine lv_iload hx hb dC_draw_110 (lv_at hl 6 rfl) ?_
                obtain ⟨hi_56, hw⟩ := hw
                refine g_iald hC hwo ha_52 hi_56 dC_draw_112 ?_
                refine lv_icmp_ge (tgt := 120) hx hb dC_draw_113 (by decide) (fun hc_57 => ?_) (fun hc_57 => ?_)
                · replace hw := hw.1 hc_57
                  obtain ⟨y_58, ey_58⟩ : ∃ z : Int32, z = x7_77 + (1 : Int32) := ⟨_, rfl⟩
                  replace hw := hw y_58 ey_58
                  refine lv_iinc (k := 7) (v := y_58) (lv' := [(7, .int y_58), (0, .ref a0_10), (1, .ref a1_10), (2, .int x2_10), (3, .int x3_10), (4, .int x4_25), (5, .int x5_77), (6, .int x6_77)]) hx hb dC_draw_120 hl rfl (by rw [ey_58]; rfl) (by decide) rfl (fun ls hl => ?_)
                  refine lv_goto (tgt := 25) hx hb dC_draw_123 (by decide) ?_
                  exact ih25 _ _ _ _ _ _ _ _ hw hwo hS (lv_sub hl [1, 2, 3, 4, 5, 6, 7, 0] rfl)
                · replace hw := hw.2 hc_57
                  refine lv_iload hx hb dC_draw_116 (lv_at hl 7 rfl) ?_
                  refine lv_istore (i := 6) (lv' := [(6, .int x7_77), (0, .ref a0_10), (1, .ref a1_10), (2, .int x2_10), (3, .int x3_10), (4, .int x4_25), (5, .int x5_77), (7, .int x7_77)]) hx hb dC_draw_118 hl (by decide) rfl (fun ls hl => ?_)
                  obtain ⟨y_59, ey_59⟩ : ∃ z : Int32, z = x7_77 + (1 : Int32) := ⟨_, rfl⟩
                  replace hw := hw y_59 ey_59
                  refine lv_iinc (k := 7) (v := y_59) (lv' := [(7, .int y_59), (6, .int x7_77), (0, .ref a0_10), (1, .ref a1_10), (2, .int x2_10), (3, .int x3_10), (4, .int x4_25), (5, .int x5_77)]) hx hb dC_draw_120 hl rfl (by rw [ey_59]; rfl) (by decide) rfl (fun ls hl => ?_)
                  refine lv_goto (tgt := 25) hx hb dC_draw_123 (by decide) ?_
                  exact ih25 _ _ _ _ _ _ _ _ hw hwo hS (lv_sub hl [2, 3, 4, 5, 6, 7, 1, 0] rfl)
          intro x5_25 x6_25 x7_25 V U H locs ls hw hwo hS hl
          replace hw : bl_C_draw_25 θ a0_10 a1_10 x2_10 x3_10 x4_25 (wl_C_draw_10 θ a0_10 a1_10 x2_10 x3_10 K n10) K (wl_C_draw_25 θ a0_10 a1_10 x2_10 x3_10 x4_25 (wl_C_draw_10 θ a0_10 a1_10 x2_10 x3_10 K n10) K n25) x5_25 x6_25 x7_25 V U := hw
          unfold bl_C_draw_25 at hw
          refine lv_iload hx hb dC_draw_25 (lv_at hl 7 rfl) ?_
          refine lv_aload_n hx hb dC_draw_27 rfl (lv_at hl 0 rfl) ?_
          obtain ⟨ho_4, hw⟩ := hw
          refine g_getI hC fkC_71 rfl hwo ho_4 dC_draw_28 ?_
          refine lv_icmp_ge (tgt := 126) hx hb dC_draw_31 (by decide) (fun hc_5 => ?_) (fun hc_5 => ?_)
          · replace hw := hw.1 hc_5
            refine lv_iload hx hb dC_draw_126 (lv_at hl 4 rfl) ?_
            refine lv_aload_n hx hb dC_draw_128 rfl (lv_at hl 0 rfl) ?_
            obtain ⟨hz_6, hw⟩ := hw
            refine g_getR hC fkC_28 rfl hwo ho_4 hz_6 dC_draw_129 ?_
            refine lv_iconst (v := 1) hx hb dC_draw_132 (by decide) ?_
            obtain ⟨n_7, ha_8, hw⟩ := hw
            obtain ⟨hi_9, hw⟩ := hw
            refine g_iald hC hwo ha_8 hi_9 dC_draw_133 ?_
            refine lv_icmp_lt (tgt := 141) hx hb dC_draw_134 (by decide) (fun hc_10 => ?_) (fun hc_10 => ?_)
            · replace hw := hw.1 hc_10
              refine lv_iconst (v := 0) hx hb dC_draw_141 (by decide) ?_
              exact J142 _ _ _ _ _ _ _ _ _ hw hwo hS (lv_sub hl [0, 1, 2, 3, 4, 5, 6] rfl)
            · replace hw := hw.2 hc_10
              refine lv_iconst (v := 1) hx hb dC_draw_137 (by decide) ?_
              refine lv_goto (tgt := 142) hx hb dC_draw_138 (by decide) ?_
              exact J142 _ _ _ _ _ _ _ _ _ hw hwo hS (lv_sub hl [0, 1, 2, 3, 4, 5, 6] rfl)
          · replace hw := hw.2 hc_5
            refine lv_aload_n hx hb dC_draw_34 rfl (lv_at hl 0 rfl) ?_
            obtain ⟨hz_11, hw⟩ := hw
            refine g_getR hC fkC_37 rfl hwo ho_4 hz_11 dC_draw_35 ?_
            refine lv_iload hx hb dC_draw_38 (lv_at hl 7 rfl) ?_
            obtain ⟨n_12, ha_13, hw⟩ := hw
            obtain ⟨hi_14, hw⟩ := hw
            refine g_zald hC hwo ha_13 hi_14 dC_draw_40 ?_
            refine lv_if_eq (tgt := 77) hx hb dC_draw_41 (by decide) (fun hc_15 => ?_) (fun hc_15 => ?_)
            · replace hw := hw.1 hc_15
              exact J77 _ _ _ _ _ _ _ _ hw hwo hS (lv_sub hl [0, 1, 2, 3, 4, 5, 6, 7] rfl)
            · replace hw := hw.2 hc_15
              refine lv_aload_n hx hb dC_draw_44 rfl (lv_at hl 0 rfl) ?_
              obtain ⟨hz_16, hw⟩ := hw
              refine g_getR hC fkC_28 rfl hwo ho_4 hz_16 dC_draw_45 ?_
              refine lv_iload hx hb dC_draw_48 (lv_at hl 7 rfl) ?_
              obtain ⟨n_17, ha_18, hw⟩ := hw
              obtain ⟨hi_19, hw⟩ := hw
              refine g_iald hC hwo ha_18 hi_19 dC_draw_50 ?_
              refine lv_iload hx hb dC_draw_51 (lv_at hl 4 rfl) ?_
              refine lv_icmp_gt (tgt := 77) hx hb dC_draw_53 (by decide) (fun hc_20 => ?_) (fun hc_20 => ?_)
              · replace hw := hw.1 hc_20
                exact J77 _ _ _ _ _ _ _ _ hw hwo hS (lv_sub hl [0, 1, 2, 3, 4, 5, 6, 7] rfl)
              · replace hw := hw.2 hc_20
                refine lv_aload_n hx hb dC_draw_56 rfl (lv_at hl 0 rfl) ?_
                refine g_getR hC fkC_28 rfl hwo ho_4 hz_16 dC_draw_57 ?_
                refine lv_iload hx hb dC_draw_60 (lv_at hl 7 rfl) ?_
                refine g_iald hC hwo ha_18 hi_19 dC_draw_62 ?_
                refine lv_aload_n hx hb dC_draw_63 rfl (lv_at hl 0 rfl) ?_
                refine g_getR hC fkC_28 rfl hwo ho_4 hz_16 dC_draw_64 ?_
                refine lv_iload hx hb dC_draw_67 (lv_at hl 5 rfl) ?_
                obtain ⟨hi_21, hw⟩ := hw
                refine g_iald hC hwo ha_18 hi_21 dC_draw_69 ?_
                refine lv_icmp_le (tgt := 77) hx hb dC_draw_70 (by decide) (fun hc_22 => ?_) (fun hc_22 => ?_)
                · replace hw := hw.1 hc_22
                  exact J77 _ _ _ _ _ _ _ _ hw hwo hS (lv_sub hl [0, 1, 2, 3, 4, 5, 6, 7] rfl)
                · replace hw := hw.2 hc_22
                  refine lv_iload hx hb dC_draw_73 (lv_at hl 7 rfl) ?_
                  refine lv_istore (i := 5) (lv' := [(5, .int x7_25), (0, .ref a0_10), (1, .ref a1_10), (2, .int x2_10), (3, .int x3_10), (4, .int x4_25), (6, .int x6_25), (7, .int x7_25)]) hx hb dC_draw_75 hl (by decide) rfl (fun ls hl => ?_)
                  exact J77 _ _ _ _ _ _ _ _ hw hwo hS (lv_sub hl [1, 2, 3, 4, 5, 0, 6, 7] rfl)
      intro x4_10 V U H locs ls hw hwo hS hl
      replace hw : bl_C_draw_10 θ a0_10 a1_10 x2_10 x3_10 K (wl_C_draw_10 θ a0_10 a1_10 x2_10 x3_10 K n10) x4_10 V U := hw
      unfold bl_C_draw_10 at hw
      refine lv_iload hx hb dC_draw_10 (lv_at hl 4 rfl) ?_
      refine lv_iload_n hx hb dC_draw_12 rfl (lv_at hl 2 rfl) ?_
      refine lv_icmp_ge (tgt := 181) hx hb dC_draw_13 (by decide) (fun hc_3 => ?_) (fun hc_3 => ?_)
      · replace hw := hw.1 hc_3
        exact g_vret hC hr hlk hw hwo hS dC_draw_181
      · replace hw := hw.2 hc_3
        refine lv_iconst (v := 0) hx hb dC_draw_16 (by decide) ?_
        refine lv_istore (i := 5) (lv' := [(5, .int (0 : Int32)), (0, .ref a0_10), (1, .ref a1_10), (2, .int x2_10), (3, .int x3_10), (4, .int x4_10)]) hx hb dC_draw_17 hl (by decide) rfl (fun ls hl => ?_)
        refine lv_iconst (v := 1) hx hb dC_draw_19 (by decide) ?_
        refine lv_istore (i := 6) (lv' := [(6, .int (1 : Int32)), (5, .int (0 : Int32)), (0, .ref a0_10), (1, .ref a1_10), (2, .int x2_10), (3, .int x3_10), (4, .int x4_10)]) hx hb dC_draw_20 hl (by decide) rfl (fun ls hl => ?_)
        refine lv_iconst (v := 2) hx hb dC_draw_22 (by decide) ?_
        refine lv_istore (i := 7) (lv' := [(7, .int (2 : Int32)), (6, .int (1 : Int32)), (5, .int (0 : Int32)), (0, .ref a0_10), (1, .ref a1_10), (2, .int x2_10), (3, .int x3_10), (4, .int x4_10)]) hx hb dC_draw_23 hl (by decide) rfl (fun ls hl => ?_)
        obtain ⟨n, hw⟩ := hw
        exact L25 _ n _ _ _ _ _ _ _ _ hw hwo hS (lv_sub hl [3, 4, 5, 6, 7, 2, 1, 0] rfl)
  unfold wp_C_draw at hw
  refine lv_aload_n hx hb dC_draw_0 rfl (lv_at hl 0 rfl) ?_
  obtain ⟨ho_1, hw⟩ := hw
  refine g_getI hC fkC_46 rfl hwo ho_1 dC_draw_1 ?_
  refine lv_iconst (v := 1) hx hb dC_draw_4 (by decide) ?_
  refine lv_iadd hx hb dC_draw_5 ?_
  refine lv_topi (fun y_2 ey_2 => ?_)
  replace hw := hw y_2 ey_2
  refine lv_istore_n (i := 3) (lv' := [(3, .int y_2), (0, .ref a0), (1, .ref a1), (2, .int x2)]) hx hb dC_draw_6 rfl hl (by decide) rfl (fun ls hl => ?_)
  refine lv_iconst (v := 0) hx hb dC_draw_7 (by decide) ?_
  refine lv_istore (i := 4) (lv' := [(4, .int (0 : Int32)), (3, .int y_2), (0, .ref a0), (1, .ref a1), (2, .int x2)]) hx hb dC_draw_8 hl (by decide) rfl (fun ls hl => ?_)
  obtain ⟨n, hw⟩ := hw
  exact L10 _ _ _ _ n _ _ _ _ _ _ hw hwo hS (lv_sub hl [2, 3, 4, 1, 0] rfl)
theorem dC_decode_0 : decode kC_decode 0 = .ok (.aload_n 1, 1) := by decide +kernel
theorem dC_decode_1 : decode kC_decode 1 = .ok (.invokevirtual 67, 3) := by decide +kernel
theorem dC_decode_4 : decode kC_decode 4 = .ok (.ifCond .eq 12, 3) := by decide +kernel
theorem dC_decode_7 : decode kC_decode 7 = .ok (.aload_n 0, 1) := by decide +kernel
theorem dC_decode_8 : decode kC_decode 8 = .ok (.aload_n 1, 1) := by decide +kernel
theorem dC_decode_9 : decode kC_decode 9 = .ok (.aload_n 2, 1) := by decide +kernel
theorem dC_decode_10 : decode kC_decode 10 = .ok (.invokevirtual 78, 3) := by decide +kernel
theorem dC_decode_13 : decode kC_decode 13 = .ok (.ifCond .ne 5, 3) := by decide +kernel
theorem dC_decode_16 : decode kC_decode 16 = .ok (.iconst 0, 1) := by decide +kernel
theorem dC_decode_17 : decode kC_decode 17 = .ok (.ireturn, 1) := by decide +kernel
theorem dC_decode_18 : decode kC_decode 18 = .ok (.aload_n 0, 1) := by decide +kernel
theorem dC_decode_19 : decode kC_decode 19 = .ok (.invokevirtual 82, 3) := by decide +kernel
theorem dC_decode_22 : decode kC_decode 22 = .ok (.aload_n 0, 1) := by decide +kernel
theorem dC_decode_23 : decode kC_decode 23 = .ok (.aload_n 3, 1) := by decide +kernel
theorem dC_decode_24 : decode kC_decode 24 = .ok (.iload 4, 2) := by decide +kernel
theorem dC_decode_26 : decode kC_decode 26 = .ok (.invokevirtual 85, 3) := by decide +kernel
theorem dC_decode_29 : decode kC_decode 29 = .ok (.iconst 1, 1) := by decide +kernel
theorem dC_decode_30 : decode kC_decode 30 = .ok (.ireturn, 1) := by decide +kernel
def wp_C_decode (θ : TH) (a0 : Nat) (a1 : Nat) (a2 : Nat) (a3 : Nat) (x4 : Int32) (V : VT) (U : UT) (K : Int32 → VT → UT → Prop) : Prop := isO θ a1 7 ∧ wp_H_readFlag θ a1 V U (fun r_4 V_1 U_2 => ((r_4 = 0 → K (0 : Int32) V_1 U_2) ∧ (¬ r_4 = 0 → isO θ a0 9 ∧ wp_C_readNumbers θ a0 a1 a2 V_1 U_2 (fun r_9 V_6 U_7 => ((¬ r_9 = 0 → wp_C_raise θ a0 V_6 U_7 (fun V_11 U_12 => wp_C_draw θ a0 a3 x4 V_11 U_12 (fun V_13 U_14 => K (1 : Int32) V_13 U_14))) ∧ (r_9 = 0 → K (0 : Int32) V_6 U_7))))))
set_option maxRecDepth 100000 in
set_option maxHeartbeats 4000000 in
theorem c_C_decode (l : Launch) (θ : TH) (a0 : Nat) (a1 : Nat) (a2 : Nat) (a3 : Nat) (x4 : Int32) (V : VT) (U : UT) (K : Int32 → VT → UT → Prop) (hw : wp_C_decode θ a0 a1 a2 a3 x4 V U K) : CMi l yC_decode kC_decode 5 (some .boolean) rmC_decode θ [.ref a0, .ref a1, .ref a2, .ref a3, .int x4] V U K := by
  refine g_met nRC (by decide +kernel) rfl (Nat.le_of_ble_eq_true rfl) (fun p e s m args below meth c ls hC hr hlk hwo hl => ?_)
  have hx := hC.1
  have hb := hC.2.1
  have hS : Sx θ s s.heap [] := va_S.rf
  have hl : lv_has ls 5 [(0, .ref a0), (1, .ref a1), (2, .ref a2), (3, .ref a3), (4, .int x4)] := hl
  unfold wp_C_decode at hw
  refine lv_aload_n hx hb dC_decode_0 rfl (lv_at hl 1 rfl) ?_
  obtain ⟨ho_3, hw⟩ := hw
  refine g_Vi (rest := []) hC (c_H_readFlag l θ _ _ _ _ hw) mi_H_readFlag mlC_67 mv_H_readFlag ci_7 ho_3 hwo hS ⟨rfl, rfl⟩ ⟨by decide, by decide⟩ rfl hl.1 rfl (Nat.le_of_ble_eq_true rfl) dC_decode_1 (fun r_4 V_1 U_2 hw H locs hwo hS => ?_)
  refine lv_if_eq (tgt := 16) hx hb dC_decode_4 (by decide) (fun hc_5 => ?_) (fun hc_5 => ?_)
  · replace hw := hw.1 hc_5
    refine lv_iconst (v := 0) hx hb dC_decode_16 (by decide) ?_
    exact g_zret hC hr hlk (Or.inl rfl) hw hwo hS dC_decode_17
  · replace hw := hw.2 hc_5
    refine lv_aload_n hx hb dC_decode_7 rfl (lv_at hl 0 rfl) ?_
    refine lv_aload_n hx hb dC_decode_8 rfl (lv_at hl 1 rfl) ?_
    refine lv_aload_n hx hb dC_decode_9 rfl (lv_at hl 2 rfl) ?_
    obtain ⟨ho_8, hw⟩ := hw
    refine g_Vi (rest := []) hC (c_C_readNumbers l θ _ _ _ _ _ _ hw) mi_C_readNumbers mlC_78 mv_C_readNumbers ci_9 ho_8 hwo hS ⟨rfl, rfl⟩ ⟨by decide, by decide⟩ rfl hl.1 rfl (Nat.le_of_ble_eq_true rfl) dC_decode_10 (fun r_9 V_6 U_7 hw H locs hwo hS => ?_)
    refine lv_if_ne (tgt := 18) hx hb dC_decode_13 (by decide) (fun hc_10 => ?_) (fun hc_10 => ?_)
    · replace hw := hw.1 hc_10
      refine lv_aload_n hx hb dC_decode_18 rfl (lv_at hl 0 rfl) ?_
      refine g_Vv (rest := []) hC (c_C_raise l θ _ _ _ _ hw) mi_C_raise mlC_82 mv_C_raise ci_9 ho_8 hwo hS ⟨rfl, rfl⟩ ⟨by decide, by decide⟩ rfl hl.1 rfl (Nat.le_of_ble_eq_true rfl) dC_decode_19 (fun V_11 U_12 hw H locs hwo hS => ?_)
      refine lv_aload_n hx hb dC_decode_22 rfl (lv_at hl 0 rfl) ?_
      refine lv_aload_n hx hb dC_decode_23 rfl (lv_at hl 3 rfl) ?_
      refine lv_iload hx hb dC_decode_24 (lv_at hl 4 rfl) ?_
      refine g_Vv (rest := []) hC (c_C_draw l θ _ _ _ _ _ _ hw) mi_C_draw mlC_85 mv_C_draw ci_9 ho_8 hwo hS ⟨rfl, rfl⟩ ⟨by decide, by decide⟩ rfl hl.1 rfl (Nat.le_of_ble_eq_true rfl) dC_decode_26 (fun V_13 U_14 hw H locs hwo hS => ?_)
      refine lv_iconst (v := 1) hx hb dC_decode_29 (by decide) ?_
      exact g_zret hC hr hlk (Or.inr rfl) hw hwo hS dC_decode_30
    · replace hw := hw.2 hc_10
      refine lv_iconst (v := 0) hx hb dC_decode_16 (by decide) ?_
      exact g_zret hC hr hlk (Or.inl rfl) hw hwo hS dC_decode_17
