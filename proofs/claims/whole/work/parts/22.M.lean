theorem dM_give_0 : decode kM_give 0 = .ok (.aload_n 0, 1) := by decide +kernel
theorem dM_give_1 : decode kM_give 1 = .ok (.aload_n 0, 1) := by decide +kernel
theorem dM_give_2 : decode kM_give 2 = .ok (.getfield 59, 3) := by decide +kernel
theorem dM_give_5 : decode kM_give 5 = .ok (.aload_n 0, 1) := by decide +kernel
theorem dM_give_6 : decode kM_give 6 = .ok (.getfield 205, 3) := by decide +kernel
theorem dM_give_9 : decode kM_give 9 = .ok (.iaload, 1) := by decide +kernel
theorem dM_give_10 : decode kM_give 10 = .ok (.putfield 208, 3) := by decide +kernel
theorem dM_give_13 : decode kM_give 13 = .ok (.aload_n 0, 1) := by decide +kernel
theorem dM_give_14 : decode kM_give 14 = .ok (.aload_n 0, 1) := by decide +kernel
theorem dM_give_15 : decode kM_give 15 = .ok (.getfield 62, 3) := by decide +kernel
theorem dM_give_18 : decode kM_give 18 = .ok (.aload_n 0, 1) := by decide +kernel
theorem dM_give_19 : decode kM_give 19 = .ok (.getfield 205, 3) := by decide +kernel
theorem dM_give_22 : decode kM_give 22 = .ok (.iaload, 1) := by decide +kernel
theorem dM_give_23 : decode kM_give 23 = .ok (.putfield 211, 3) := by decide +kernel
theorem dM_give_26 : decode kM_give 26 = .ok (.aload_n 0, 1) := by decide +kernel
theorem dM_give_27 : decode kM_give 27 = .ok (.aload_n 0, 1) := by decide +kernel
theorem dM_give_28 : decode kM_give 28 = .ok (.getfield 65, 3) := by decide +kernel
theorem dM_give_31 : decode kM_give 31 = .ok (.aload_n 0, 1) := by decide +kernel
theorem dM_give_32 : decode kM_give 32 = .ok (.getfield 205, 3) := by decide +kernel
theorem dM_give_35 : decode kM_give 35 = .ok (.iaload, 1) := by decide +kernel
theorem dM_give_36 : decode kM_give 36 = .ok (.putfield 214, 3) := by decide +kernel
theorem dM_give_39 : decode kM_give 39 = .ok (.aload_n 0, 1) := by decide +kernel
theorem dM_give_40 : decode kM_give 40 = .ok (.aload_n 0, 1) := by decide +kernel
theorem dM_give_41 : decode kM_give 41 = .ok (.getfield 7, 3) := by decide +kernel
theorem dM_give_44 : decode kM_give 44 = .ok (.aload_n 0, 1) := by decide +kernel
theorem dM_give_45 : decode kM_give 45 = .ok (.getfield 38, 3) := by decide +kernel
theorem dM_give_48 : decode kM_give 48 = .ok (.aload_n 0, 1) := by decide +kernel
theorem dM_give_49 : decode kM_give 49 = .ok (.getfield 179, 3) := by decide +kernel
theorem dM_give_52 : decode kM_give 52 = .ok (.iconst 1, 1) := by decide +kernel
theorem dM_give_53 : decode kM_give 53 = .ok (.isub, 1) := by decide +kernel
theorem dM_give_54 : decode kM_give 54 = .ok (.iaload, 1) := by decide +kernel
theorem dM_give_55 : decode kM_give 55 = .ok (.iconst 5, 1) := by decide +kernel
theorem dM_give_56 : decode kM_give 56 = .ok (.iadd, 1) := by decide +kernel
theorem dM_give_57 : decode kM_give 57 = .ok (.iaload, 1) := by decide +kernel
theorem dM_give_58 : decode kM_give 58 = .ok (.putfield 217, 3) := by decide +kernel
theorem dM_give_61 : decode kM_give 61 = .ok (.aload_n 0, 1) := by decide +kernel
theorem dM_give_62 : decode kM_give 62 = .ok (.getfield 208, 3) := by decide +kernel
theorem dM_give_65 : decode kM_give 65 = .ok (.iconst 3, 1) := by decide +kernel
theorem dM_give_66 : decode kM_give 66 = .ok (.if_icmp .ne 75, 3) := by decide +kernel
theorem dM_give_69 : decode kM_give 69 = .ok (.aload_n 0, 1) := by decide +kernel
theorem dM_give_70 : decode kM_give 70 = .ok (.iconst 1, 1) := by decide +kernel
theorem dM_give_71 : decode kM_give 71 = .ok (.putfield 220, 3) := by decide +kernel
theorem dM_give_74 : decode kM_give 74 = .ok (.aload_n 0, 1) := by decide +kernel
theorem dM_give_75 : decode kM_give 75 = .ok (.aload_n 0, 1) := by decide +kernel
theorem dM_give_76 : decode kM_give 76 = .ok (.getfield 211, 3) := by decide +kernel
theorem dM_give_79 : decode kM_give 79 = .ok (.putfield 224, 3) := by decide +kernel
theorem dM_give_82 : decode kM_give 82 = .ok (.aload_n 0, 1) := by decide +kernel
theorem dM_give_83 : decode kM_give 83 = .ok (.aload_n 0, 1) := by decide +kernel
theorem dM_give_84 : decode kM_give 84 = .ok (.getfield 214, 3) := by decide +kernel
theorem dM_give_87 : decode kM_give 87 = .ok (.putfield 227, 3) := by decide +kernel
theorem dM_give_90 : decode kM_give 90 = .ok (.aload_n 0, 1) := by decide +kernel
theorem dM_give_91 : decode kM_give 91 = .ok (.aload_n 0, 1) := by decide +kernel
theorem dM_give_92 : decode kM_give 92 = .ok (.getfield 68, 3) := by decide +kernel
theorem dM_give_95 : decode kM_give 95 = .ok (.aload_n 0, 1) := by decide +kernel
theorem dM_give_96 : decode kM_give 96 = .ok (.getfield 205, 3) := by decide +kernel
theorem dM_give_99 : decode kM_give 99 = .ok (.baload, 1) := by decide +kernel
theorem dM_give_100 : decode kM_give 100 = .ok (.putfield 230, 3) := by decide +kernel
theorem dM_give_103 : decode kM_give 103 = .ok (.iconst 0, 1) := by decide +kernel
theorem dM_give_104 : decode kM_give 104 = .ok (.istore_n 1, 1) := by decide +kernel
theorem dM_give_105 : decode kM_give 105 = .ok (.iload_n 1, 1) := by decide +kernel
theorem dM_give_106 : decode kM_give 106 = .ok (.aload_n 0, 1) := by decide +kernel
theorem dM_give_107 : decode kM_give 107 = .ok (.getfield 224, 3) := by decide +kernel
theorem dM_give_110 : decode kM_give 110 = .ok (.if_icmp .ge 31, 3) := by decide +kernel
theorem dM_give_113 : decode kM_give 113 = .ok (.aload_n 0, 1) := by decide +kernel
theorem dM_give_114 : decode kM_give 114 = .ok (.getfield 77, 3) := by decide +kernel
theorem dM_give_117 : decode kM_give 117 = .ok (.iload_n 1, 1) := by decide +kernel
theorem dM_give_118 : decode kM_give 118 = .ok (.aload_n 0, 1) := by decide +kernel
theorem dM_give_119 : decode kM_give 119 = .ok (.getfield 74, 3) := by decide +kernel
theorem dM_give_122 : decode kM_give 122 = .ok (.aload_n 0, 1) := by decide +kernel
theorem dM_give_123 : decode kM_give 123 = .ok (.getfield 71, 3) := by decide +kernel
theorem dM_give_126 : decode kM_give 126 = .ok (.aload_n 0, 1) := by decide +kernel
theorem dM_give_127 : decode kM_give 127 = .ok (.getfield 205, 3) := by decide +kernel
theorem dM_give_130 : decode kM_give 130 = .ok (.iaload, 1) := by decide +kernel
theorem dM_give_131 : decode kM_give 131 = .ok (.iload_n 1, 1) := by decide +kernel
theorem dM_give_132 : decode kM_give 132 = .ok (.iadd, 1) := by decide +kernel
theorem dM_give_133 : decode kM_give 133 = .ok (.iaload, 1) := by decide +kernel
theorem dM_give_134 : decode kM_give 134 = .ok (.iastore, 1) := by decide +kernel
theorem dM_give_135 : decode kM_give 135 = .ok (.iinc 1 1, 3) := by decide +kernel
theorem dM_give_138 : decode kM_give 138 = .ok (.goto (-33), 3) := by decide +kernel
theorem dM_give_141 : decode kM_give 141 = .ok (.aload_n 0, 1) := by decide +kernel
theorem dM_give_142 : decode kM_give 142 = .ok (.dup, 1) := by decide +kernel
theorem dM_give_143 : decode kM_give 143 = .ok (.getfield 205, 3) := by decide +kernel
theorem dM_give_146 : decode kM_give 146 = .ok (.iconst 1, 1) := by decide +kernel
theorem dM_give_147 : decode kM_give 147 = .ok (.iadd, 1) := by decide +kernel
theorem dM_give_148 : decode kM_give 148 = .ok (.putfield 205, 3) := by decide +kernel
theorem dM_give_151 : decode kM_give 151 = .ok (.aload_n 0, 1) := by decide +kernel
theorem dM_give_152 : decode kM_give 152 = .ok (.getfield 208, 3) := by decide +kernel
theorem dM_give_155 : decode kM_give 155 = .ok (.ireturn, 1) := by decide +kernel
def bl_M_give_105 (θ : TH) (a0_105 : Nat) (K : Int32 → VT → UT → Prop) (kb105 : Int32 → VT → UT → Prop) (x1_105 : Int32) (V : VT) (U : UT) : Prop := isO θ a0_105 12 ∧ (((V a0_105 36) ≤ x1_105 → ∀ V_39 : VT, V_39 = up2 V a0_105 14 ((V a0_105 14) + (1 : Int32)) → K (V_39 a0_105 30) V_39 U) ∧ (¬ (V a0_105 36) ≤ x1_105 → (U a0_105 35) ≠ 0 ∧ (U a0_105 28) ≠ 0 ∧ (U a0_105 27) ≠ 0 ∧ ∃ n_43, isA θ (U a0_105 27) 0 n_43 ∧ vp_in (V a0_105 14) n_43 ∧ ∃ n_46, isA θ (U a0_105 28) 0 n_46 ∧ vp_in ((V (U a0_105 27) (V a0_105 14).toNatClampNeg) + x1_105) n_46 ∧ ∃ n_49, isA θ (U a0_105 35) 0 n_49 ∧ vp_in x1_105 n_49 ∧ ∀ V_52 : VT, V_52 = up2 V (U a0_105 35) x1_105.toNatClampNeg (V (U a0_105 28) ((V (U a0_105 27) (V a0_105 14).toNatClampNeg) + x1_105).toNatClampNeg) → ∀ y_53 : Int32, y_53 = x1_105 + (1 : Int32) → kb105 y_53 V_52 U))
def wl_M_give_105 (θ : TH) (a0_105 : Nat) (K : Int32 → VT → UT → Prop) : Nat → Int32 → VT → UT → Prop
  | 0, _, _, _ => False
  | n + 1, x1_105, V, U => bl_M_give_105 θ a0_105 K (wl_M_give_105 θ a0_105 K n) x1_105 V U
def wp_M_give (θ : TH) (a0 : Nat) (V : VT) (U : UT) (K : Int32 → VT → UT → Prop) : Prop := isO θ a0 12 ∧ (U a0 23) ≠ 0 ∧ ∃ n_3, isA θ (U a0 23) 0 n_3 ∧ vp_in (V a0 14) n_3 ∧ ∀ V_6 : VT, V_6 = up2 V a0 30 (V (U a0 23) (V a0 14).toNatClampNeg) → (U a0 24) ≠ 0 ∧ ∃ n_8, isA θ (U a0 24) 0 n_8 ∧ vp_in (V_6 a0 14) n_8 ∧ ∀ V_11 : VT, V_11 = up2 V_6 a0 31 (V_6 (U a0 24) (V_6 a0 14).toNatClampNeg) → (U a0 25) ≠ 0 ∧ ∃ n_13, isA θ (U a0 25) 0 n_13 ∧ vp_in (V_11 a0 14) n_13 ∧ ∀ V_16 : VT, V_16 = up2 V_11 a0 33 (V_11 (U a0 25) (V_11 a0 14).toNatClampNeg) → (U a0 0) ≠ 0 ∧ (U a0 12) ≠ 0 ∧ ∃ n_19, isA θ (U a0 12) 0 n_19 ∧ vp_in ((V_16 a0 13) - (1 : Int32)) n_19 ∧ ∃ n_22, isA θ (U a0 0) 0 n_22 ∧ vp_in ((V_16 (U a0 12) ((V_16 a0 13) - (1 : Int32)).toNatClampNeg) + (5 : Int32)) n_22 ∧ ∀ V_25 : VT, V_25 = up2 V_16 a0 32 (V_16 (U a0 0) ((V_16 (U a0 12) ((V_16 a0 13) - (1 : Int32)).toNatClampNeg) + (5 : Int32)).toNatClampNeg) → ((¬ (V_25 a0 30) = (3 : Int32) → ∀ V_27 : VT, V_27 = up2 V_25 a0 14 ((V_25 a0 14) + (1 : Int32)) → K (V_27 a0 30) V_27 U) ∧ ((V_25 a0 30) = (3 : Int32) → ∀ V_28 : VT, V_28 = up2 V_25 a0 34 (1 : Int32) → ∀ V_29 : VT, V_29 = up2 V_28 a0 36 (V_28 a0 31) → ∀ V_30 : VT, V_30 = up2 V_29 a0 37 (V_29 a0 33) → (U a0 26) ≠ 0 ∧ ∃ n_32, isA θ (U a0 26) 1 n_32 ∧ vp_in (V_30 a0 14) n_32 ∧ isZ (V_30 (U a0 26) (V_30 a0 14).toNatClampNeg) ∧ ∀ V_36 : VT, V_36 = up2 V_30 a0 38 (V_30 (U a0 26) (V_30 a0 14).toNatClampNeg) → ∃ n, wl_M_give_105 θ a0 K n (0 : Int32) V_36 U))
set_option maxRecDepth 100000 in
set_option maxHeartbeats 4000000 in
theorem c_M_give (l : Launch) (θ : TH) (a0 : Nat) (V : VT) (U : UT) (K : Int32 → VT → UT → Prop) (hw : wp_M_give θ a0 V U K) : CMi l yM_give kM_give 2 (some .int) rmM_give θ [.ref a0] V U K := by
  refine g_met nRM (by decide +kernel) rfl (Nat.le_of_ble_eq_true rfl) (fun p e s m args below meth c ls hC hr hlk hwo hl => ?_)
  have hx := hC.1
  have hb := hC.2.1
  have hS : Sx θ s s.heap [] := va_S.rf
  have hl : lv_has ls 2 [(0, .ref a0)] := hl
  have L105 : ∀ (a0_105 : Nat) (n105 : Nat) (x1_105 : Int32) (V : VT) (U : UT) (H : Heap) (locs : List Loc) (ls : Array Slot), wl_M_give_105 θ a0_105 K n105 x1_105 V U → wo θ V U H → Sx θ s H locs → lv_has ls 2 [(0, .ref a0_105), (1, .int x1_105)] → W p l e rmM_give s m args below meth c H locs 0 0 (MQ below (QI θ K) args s 0 0 (aT θ)) (F0 m 105 ls []) := by
    intro a0_105 n105
    induction n105 with
    | zero => intro x1_105 V U H locs ls hw hwo hS hl; exact (show False from hw).elim
    | succ n105 ih105 =>
      intro x1_105 V U H locs ls hw hwo hS hl
      replace hw : bl_M_give_105 θ a0_105 K (wl_M_give_105 θ a0_105 K n105) x1_105 V U := hw
      unfold bl_M_give_105 at hw
      refine lv_iload_n hx hb dM_give_105 rfl (lv_at hl 1 rfl) ?_
      refine lv_aload_n hx hb dM_give_106 rfl (lv_at hl 0 rfl) ?_
      obtain ⟨ho_37, hw⟩ := hw
      refine g_getI hC fkM_224 rfl hwo ho_37 dM_give_107 ?_
      refine lv_icmp_ge (tgt := 141) hx hb dM_give_110 (by decide) (fun hc_38 => ?_) (fun hc_38 => ?_)
      · replace hw := hw.1 hc_38
        refine lv_aload_n hx hb dM_give_141 rfl (lv_at hl 0 rfl) ?_
        refine lv_dup hx hb dM_give_142 rfl ?_
        refine g_getI hC fkM_205 rfl hwo ho_37 dM_give_143 ?_
        refine lv_iconst (v := 1) hx hb dM_give_146 (by decide) ?_
        refine lv_iadd hx hb dM_give_147 ?_
        refine g_putI hC fkM_205 rfl hwo hS ho_37 dM_give_148 (fun V_39 eV_39 H locs hwo hS => ?_)
        replace hw := hw V_39 eV_39
        refine lv_aload_n hx hb dM_give_151 rfl (lv_at hl 0 rfl) ?_
        refine g_getI hC fkM_208 rfl hwo ho_37 dM_give_152 ?_
        exact g_iret hC hr hlk hw hwo hS dM_give_155
      · replace hw := hw.2 hc_38
        refine lv_aload_n hx hb dM_give_113 rfl (lv_at hl 0 rfl) ?_
        obtain ⟨hz_40, hw⟩ := hw
        refine g_getR hC fkM_77 rfl hwo ho_37 hz_40 dM_give_114 ?_
        refine lv_iload_n hx hb dM_give_117 rfl (lv_at hl 1 rfl) ?_
        refine lv_aload_n hx hb dM_give_118 rfl (lv_at hl 0 rfl) ?_
        obtain ⟨hz_41, hw⟩ := hw
        refine g_getR hC fkM_74 rfl hwo ho_37 hz_41 dM_give_119 ?_
        refine lv_aload_n hx hb dM_give_122 rfl (lv_at hl 0 rfl) ?_
        obtain ⟨hz_42, hw⟩ := hw
        refine g_getR hC fkM_71 rfl hwo ho_37 hz_42 dM_give_123 ?_
        refine lv_aload_n hx hb dM_give_126 rfl (lv_at hl 0 rfl) ?_
        refine g_getI hC fkM_205 rfl hwo ho_37 dM_give_127 ?_
        obtain ⟨n_43, ha_44, hw⟩ := hw
        obtain ⟨hi_45, hw⟩ := hw
        refine g_iald hC hwo ha_44 hi_45 dM_give_130 ?_
        refine lv_iload_n hx hb dM_give_131 rfl (lv_at hl 1 rfl) ?_
        refine lv_iadd hx hb dM_give_132 ?_
        obtain ⟨n_46, ha_47, hw⟩ := hw
        obtain ⟨hi_48, hw⟩ := hw
        refine g_iald hC hwo ha_47 hi_48 dM_give_133 ?_
        obtain ⟨n_49, ha_50, hw⟩ := hw
        obtain ⟨hi_51, hw⟩ := hw
        refine g_iast hC hwo hS ha_50 hi_51 dM_give_134 (fun V_52 eV_52 H locs hwo hS => ?_)
        replace hw := hw V_52 eV_52
        obtain ⟨y_53, ey_53⟩ : ∃ z : Int32, z = x1_105 + (1 : Int32) := ⟨_, rfl⟩
        replace hw := hw y_53 ey_53
        refine lv_iinc (k := 1) (v := y_53) (lv' := [(1, .int y_53), (0, .ref a0_105)]) hx hb dM_give_135 hl rfl (by rw [ey_53]; rfl) (by decide) rfl (fun ls hl => ?_)
        refine lv_goto (tgt := 105) hx hb dM_give_138 (by decide) ?_
        exact ih105 _ _ _ _ _ _ hw hwo hS (lv_sub hl [1, 0] rfl)
  unfold wp_M_give at hw
  refine lv_aload_n hx hb dM_give_0 rfl (lv_at hl 0 rfl) ?_
  refine lv_aload_n hx hb dM_give_1 rfl (lv_at hl 0 rfl) ?_
  obtain ⟨ho_1, hw⟩ := hw
  obtain ⟨hz_2, hw⟩ := hw
  refine g_getR hC fkM_59 rfl hwo ho_1 hz_2 dM_give_2 ?_
  refine lv_aload_n hx hb dM_give_5 rfl (lv_at hl 0 rfl) ?_
  refine g_getI hC fkM_205 rfl hwo ho_1 dM_give_6 ?_
  obtain ⟨n_3, ha_4, hw⟩ := hw
  obtain ⟨hi_5, hw⟩ := hw
  refine g_iald hC hwo ha_4 hi_5 dM_give_9 ?_
  refine g_putI hC fkM_208 rfl hwo hS ho_1 dM_give_10 (fun V_6 eV_6 H locs hwo hS => ?_)
  replace hw := hw V_6 eV_6
  refine lv_aload_n hx hb dM_give_13 rfl (lv_at hl 0 rfl) ?_
  refine lv_aload_n hx hb dM_give_14 rfl (lv_at hl 0 rfl) ?_
  obtain ⟨hz_7, hw⟩ := hw
  refine g_getR hC fkM_62 rfl hwo ho_1 hz_7 dM_give_15 ?_
  refine lv_aload_n hx hb dM_give_18 rfl (lv_at hl 0 rfl) ?_
  refine g_getI hC fkM_205 rfl hwo ho_1 dM_give_19 ?_
  obtain ⟨n_8, ha_9, hw⟩ := hw
  obtain ⟨hi_10, hw⟩ := hw
  refine g_iald hC hwo ha_9 hi_10 dM_give_22 ?_
  refine g_putI hC fkM_211 rfl hwo hS ho_1 dM_give_23 (fun V_11 eV_11 H locs hwo hS => ?_)
  replace hw := hw V_11 eV_11
  refine lv_aload_n hx hb dM_give_26 rfl (lv_at hl 0 rfl) ?_
  refine lv_aload_n hx hb dM_give_27 rfl (lv_at hl 0 rfl) ?_
  obtain ⟨hz_12, hw⟩ := hw
  refine g_getR hC fkM_65 rfl hwo ho_1 hz_12 dM_give_28 ?_
  refine lv_aload_n hx hb dM_give_31 rfl (lv_at hl 0 rfl) ?_
  refine g_getI hC fkM_205 rfl hwo ho_1 dM_give_32 ?_
  obtain ⟨n_13, ha_14, hw⟩ := hw
  obtain ⟨hi_15, hw⟩ := hw
  refine g_iald hC hwo ha_14 hi_15 dM_give_35 ?_
  refine g_putI hC fkM_214 rfl hwo hS ho_1 dM_give_36 (fun V_16 eV_16 H locs hwo hS => ?_)
  replace hw := hw V_16 eV_16
  refine lv_aload_n hx hb dM_give_39 rfl (lv_at hl 0 rfl) ?_
  refine lv_aload_n hx hb dM_give_40 rfl (lv_at hl 0 rfl) ?_
  obtain ⟨hz_17, hw⟩ := hw
  refine g_getR hC fkM_7 rfl hwo ho_1 hz_17 dM_give_41 ?_
  refine lv_aload_n hx hb dM_give_44 rfl (lv_at hl 0 rfl) ?_
  obtain ⟨hz_18, hw⟩ := hw
  refine g_getR hC fkM_38 rfl hwo ho_1 hz_18 dM_give_45 ?_
  refine lv_aload_n hx hb dM_give_48 rfl (lv_at hl 0 rfl) ?_
  refine g_getI hC fkM_179 rfl hwo ho_1 dM_give_49 ?_
  refine lv_iconst (v := 1) hx hb dM_give_52 (by decide) ?_
  refine lv_isub hx hb dM_give_53 ?_
  obtain ⟨n_19, ha_20, hw⟩ := hw
  obtain ⟨hi_21, hw⟩ := hw
  refine g_iald hC hwo ha_20 hi_21 dM_give_54 ?_
  refine lv_iconst (v := 5) hx hb dM_give_55 (by decide) ?_
  refine lv_iadd hx hb dM_give_56 ?_
  obtain ⟨n_22, ha_23, hw⟩ := hw
  obtain ⟨hi_24, hw⟩ := hw
  refine g_iald hC hwo ha_23 hi_24 dM_give_57 ?_
  refine g_putI hC fkM_217 rfl hwo hS ho_1 dM_give_58 (fun V_25 eV_25 H locs hwo hS => ?_)
  replace hw := hw V_25 eV_25
  refine lv_aload_n hx hb dM_give_61 rfl (lv_at hl 0 rfl) ?_
  refine g_getI hC fkM_208 rfl hwo ho_1 dM_give_62 ?_
  refine lv_iconst (v := 3) hx hb dM_give_65 (by decide) ?_
  refine lv_icmp_ne (tgt := 141) hx hb dM_give_66 (by decide) (fun hc_26 => ?_) (fun hc_26 => ?_)
  · replace hw := hw.1 hc_26
    refine lv_aload_n hx hb dM_give_141 rfl (lv_at hl 0 rfl) ?_
    refine lv_dup hx hb dM_give_142 rfl ?_
    refine g_getI hC fkM_205 rfl hwo ho_1 dM_give_143 ?_
    refine lv_iconst (v := 1) hx hb dM_give_146 (by decide) ?_
    refine lv_iadd hx hb dM_give_147 ?_
    refine g_putI hC fkM_205 rfl hwo hS ho_1 dM_give_148 (fun V_27 eV_27 H locs hwo hS => ?_)
    replace hw := hw V_27 eV_27
    refine lv_aload_n hx hb dM_give_151 rfl (lv_at hl 0 rfl) ?_
    refine g_getI hC fkM_208 rfl hwo ho_1 dM_give_152 ?_
    exact g_iret hC hr hlk hw hwo hS dM_give_155
  · replace hw := hw.2 hc_26
    refine lv_aload_n hx hb dM_give_69 rfl (lv_at hl 0 rfl) ?_
    refine lv_iconst (v := 1) hx hb dM_give_70 (by decide) ?_
    refine g_putZ hC fkM_220 rfl hwo hS ho_1 (Or.inr rfl) dM_give_71 (fun V_28 eV_28 H locs hwo hS => ?_)
    replace hw := hw V_28 eV_28
    refine lv_aload_n hx hb dM_give_74 rfl (lv_at hl 0 rfl) ?_
    refine lv_aload_n hx hb dM_give_75 rfl (lv_at hl 0 rfl) ?_
    refine g_getI hC fkM_211 rfl hwo ho_1 dM_give_76 ?_
    refine g_putI hC fkM_224 rfl hwo hS ho_1 dM_give_79 (fun V_29 eV_29 H locs hwo hS => ?_)
    replace hw := hw V_29 eV_29
    refine lv_aload_n hx hb dM_give_82 rfl (lv_at hl 0 rfl) ?_
    refine lv_aload_n hx hb dM_give_83 rfl (lv_at hl 0 rfl) ?_
    refine g_getI hC fkM_214 rfl hwo ho_1 dM_give_84 ?_
    refine g_putI hC fkM_227 rfl hwo hS ho_1 dM_give_87 (fun V_30 eV_30 H locs hwo hS => ?_)
    replace hw := hw V_30 eV_30
    refine lv_aload_n hx hb dM_give_90 rfl (lv_at hl 0 rfl) ?_
    refine lv_aload_n hx hb dM_give_91 rfl (lv_at hl 0 rfl) ?_
    obtain ⟨hz_31, hw⟩ := hw
    refine g_getR hC fkM_68 rfl hwo ho_1 hz_31 dM_give_92 ?_
    refine lv_aload_n hx hb dM_give_95 rfl (lv_at hl 0 rfl) ?_
    refine g_getI hC fkM_205 rfl hwo ho_1 dM_give_96 ?_
    obtain ⟨n_32, ha_33, hw⟩ := hw
    obtain ⟨hi_34, hw⟩ := hw
    refine g_zald hC hwo ha_33 hi_34 dM_give_99 ?_
    obtain ⟨hb_35, hw⟩ := hw
    refine g_putZ hC fkM_230 rfl hwo hS ho_1 hb_35 dM_give_100 (fun V_36 eV_36 H locs hwo hS => ?_)
    replace hw := hw V_36 eV_36
    refine lv_iconst (v := 0) hx hb dM_give_103 (by decide) ?_
    refine lv_istore_n (i := 1) (lv' := [(1, .int (0 : Int32)), (0, .ref a0)]) hx hb dM_give_104 rfl hl (by decide) rfl (fun ls hl => ?_)
    obtain ⟨n, hw⟩ := hw
    exact L105 _ n _ _ _ _ _ _ hw hwo hS (lv_sub hl [1, 0] rfl)
theorem dM_next_0 : decode kM_next 0 = .ok (.iconst 0, 1) := by decide +kernel
theorem dM_next_1 : decode kM_next 1 = .ok (.istore_n 1, 1) := by decide +kernel
theorem dM_next_2 : decode kM_next 2 = .ok (.iload_n 1, 1) := by decide +kernel
theorem dM_next_3 : decode kM_next 3 = .ok (.bipush 100, 2) := by decide +kernel
theorem dM_next_5 : decode kM_next 5 = .ok (.if_icmp .ge 145, 3) := by decide +kernel
theorem dM_next_8 : decode kM_next 8 = .ok (.aload_n 0, 1) := by decide +kernel
theorem dM_next_9 : decode kM_next 9 = .ok (.getfield 205, 3) := by decide +kernel
theorem dM_next_12 : decode kM_next 12 = .ok (.aload_n 0, 1) := by decide +kernel
theorem dM_next_13 : decode kM_next 13 = .ok (.getfield 173, 3) := by decide +kernel
theorem dM_next_16 : decode kM_next 16 = .ok (.if_icmp .ge 8, 3) := by decide +kernel
theorem dM_next_19 : decode kM_next 19 = .ok (.aload_n 0, 1) := by decide +kernel
theorem dM_next_20 : decode kM_next 20 = .ok (.invokevirtual 233, 3) := by decide +kernel
theorem dM_next_23 : decode kM_next 23 = .ok (.ireturn, 1) := by decide +kernel
theorem dM_next_24 : decode kM_next 24 = .ok (.aload_n 0, 1) := by decide +kernel
theorem dM_next_25 : decode kM_next 25 = .ok (.aload_n 0, 1) := by decide +kernel
theorem dM_next_26 : decode kM_next 26 = .ok (.getfield 137, 3) := by decide +kernel
theorem dM_next_29 : decode kM_next 29 = .ok (.invokevirtual 237, 3) := by decide +kernel
theorem dM_next_32 : decode kM_next 32 = .ok (.istore_n 2, 1) := by decide +kernel
theorem dM_next_33 : decode kM_next 33 = .ok (.iload_n 2, 1) := by decide +kernel
theorem dM_next_34 : decode kM_next 34 = .ok (.iconst 1, 1) := by decide +kernel
theorem dM_next_35 : decode kM_next 35 = .ok (.if_icmp .ne 5, 3) := by decide +kernel
theorem dM_next_38 : decode kM_next 38 = .ok (.iconst 0, 1) := by decide +kernel
theorem dM_next_39 : decode kM_next 39 = .ok (.ireturn, 1) := by decide +kernel
theorem dM_next_40 : decode kM_next 40 = .ok (.iload_n 2, 1) := by decide +kernel
theorem dM_next_41 : decode kM_next 41 = .ok (.ifCond .ne 54, 3) := by decide +kernel
theorem dM_next_44 : decode kM_next 44 = .ok (.aload_n 0, 1) := by decide +kernel
theorem dM_next_45 : decode kM_next 45 = .ok (.getfield 137, 3) := by decide +kernel
theorem dM_next_48 : decode kM_next 48 = .ok (.iconst 1, 1) := by decide +kernel
theorem dM_next_49 : decode kM_next 49 = .ok (.iadd, 1) := by decide +kernel
theorem dM_next_50 : decode kM_next 50 = .ok (.istore_n 3, 1) := by decide +kernel
theorem dM_next_51 : decode kM_next 51 = .ok (.iload_n 3, 1) := by decide +kernel
theorem dM_next_52 : decode kM_next 52 = .ok (.aload_n 0, 1) := by decide +kernel
theorem dM_next_53 : decode kM_next 53 = .ok (.getfield 132, 3) := by decide +kernel
theorem dM_next_56 : decode kM_next 56 = .ok (.if_icmp .ge 17, 3) := by decide +kernel
theorem dM_next_59 : decode kM_next 59 = .ok (.aload_n 0, 1) := by decide +kernel
theorem dM_next_60 : decode kM_next 60 = .ok (.iload_n 3, 1) := by decide +kernel
theorem dM_next_61 : decode kM_next 61 = .ok (.invokevirtual 237, 3) := by decide +kernel
theorem dM_next_64 : decode kM_next 64 = .ok (.ifCond .ne 9, 3) := by decide +kernel
theorem dM_next_67 : decode kM_next 67 = .ok (.iinc 3 1, 3) := by decide +kernel
theorem dM_next_70 : decode kM_next 70 = .ok (.goto (-19), 3) := by decide +kernel
theorem dM_next_73 : decode kM_next 73 = .ok (.aload_n 0, 1) := by decide +kernel
theorem dM_next_74 : decode kM_next 74 = .ok (.iconst 1, 1) := by decide +kernel
theorem dM_next_75 : decode kM_next 75 = .ok (.putfield 208, 3) := by decide +kernel
theorem dM_next_78 : decode kM_next 78 = .ok (.aload_n 0, 1) := by decide +kernel
theorem dM_next_79 : decode kM_next 79 = .ok (.iload_n 3, 1) := by decide +kernel
theorem dM_next_80 : decode kM_next 80 = .ok (.aload_n 0, 1) := by decide +kernel
theorem dM_next_81 : decode kM_next 81 = .ok (.getfield 137, 3) := by decide +kernel
theorem dM_next_84 : decode kM_next 84 = .ok (.isub, 1) := by decide +kernel
theorem dM_next_85 : decode kM_next 85 = .ok (.putfield 211, 3) := by decide +kernel
theorem dM_next_88 : decode kM_next 88 = .ok (.aload_n 0, 1) := by decide +kernel
theorem dM_next_89 : decode kM_next 89 = .ok (.iload_n 3, 1) := by decide +kernel
theorem dM_next_90 : decode kM_next 90 = .ok (.putfield 137, 3) := by decide +kernel
theorem dM_next_93 : decode kM_next 93 = .ok (.iconst 1, 1) := by decide +kernel
theorem dM_next_94 : decode kM_next 94 = .ok (.ireturn, 1) := by decide +kernel
theorem dM_next_95 : decode kM_next 95 = .ok (.aload_n 0, 1) := by decide +kernel
theorem dM_next_96 : decode kM_next 96 = .ok (.getfield 38, 3) := by decide +kernel
theorem dM_next_99 : decode kM_next 99 = .ok (.aload_n 0, 1) := by decide +kernel
theorem dM_next_100 : decode kM_next 100 = .ok (.getfield 179, 3) := by decide +kernel
theorem dM_next_103 : decode kM_next 103 = .ok (.aload_n 0, 1) := by decide +kernel
theorem dM_next_104 : decode kM_next 104 = .ok (.getfield 137, 3) := by decide +kernel
theorem dM_next_107 : decode kM_next 107 = .ok (.iastore, 1) := by decide +kernel
theorem dM_next_108 : decode kM_next 108 = .ok (.aload_n 0, 1) := by decide +kernel
theorem dM_next_109 : decode kM_next 109 = .ok (.dup, 1) := by decide +kernel
theorem dM_next_110 : decode kM_next 110 = .ok (.getfield 179, 3) := by decide +kernel
theorem dM_next_113 : decode kM_next 113 = .ok (.iconst 1, 1) := by decide +kernel
theorem dM_next_114 : decode kM_next 114 = .ok (.iadd, 1) := by decide +kernel
theorem dM_next_115 : decode kM_next 115 = .ok (.putfield 179, 3) := by decide +kernel
theorem dM_next_118 : decode kM_next 118 = .ok (.aload_n 0, 1) := by decide +kernel
theorem dM_next_119 : decode kM_next 119 = .ok (.dup, 1) := by decide +kernel
theorem dM_next_120 : decode kM_next 120 = .ok (.getfield 137, 3) := by decide +kernel
theorem dM_next_123 : decode kM_next 123 = .ok (.aload_n 0, 1) := by decide +kernel
theorem dM_next_124 : decode kM_next 124 = .ok (.aload_n 0, 1) := by decide +kernel
theorem dM_next_125 : decode kM_next 125 = .ok (.getfield 137, 3) := by decide +kernel
theorem dM_next_128 : decode kM_next 128 = .ok (.invokevirtual 145, 3) := by decide +kernel
theorem dM_next_131 : decode kM_next 131 = .ok (.iadd, 1) := by decide +kernel
theorem dM_next_132 : decode kM_next 132 = .ok (.putfield 137, 3) := by decide +kernel
theorem dM_next_135 : decode kM_next 135 = .ok (.aload_n 0, 1) := by decide +kernel
theorem dM_next_136 : decode kM_next 136 = .ok (.iconst 0, 1) := by decide +kernel
theorem dM_next_137 : decode kM_next 137 = .ok (.putfield 205, 3) := by decide +kernel
theorem dM_next_140 : decode kM_next 140 = .ok (.aload_n 0, 1) := by decide +kernel
theorem dM_next_141 : decode kM_next 141 = .ok (.invokevirtual 240, 3) := by decide +kernel
theorem dM_next_144 : decode kM_next 144 = .ok (.iinc 1 1, 3) := by decide +kernel
theorem dM_next_147 : decode kM_next 147 = .ok (.goto (-145), 3) := by decide +kernel
theorem dM_next_150 : decode kM_next 150 = .ok (.iconst 0, 1) := by decide +kernel
theorem dM_next_151 : decode kM_next 151 = .ok (.ireturn, 1) := by decide +kernel
def wb_M_next_73 (θ : TH) (a0_73 : Nat) (x3_73 : Int32) (K : Int32 → VT → UT → Prop) (V : VT) (U : UT) : Prop := isO θ a0_73 12 ∧ ∀ V_35 : VT, V_35 = up2 V a0_73 30 (1 : Int32) → ∀ V_36 : VT, V_36 = up2 V_35 a0_73 31 (x3_73 - (V_35 a0_73 2)) → ∀ V_37 : VT, V_37 = up2 V_36 a0_73 2 x3_73 → K (1 : Int32) V_37 U
def bl_M_next_51 (θ : TH) (a0_51 : Nat) (K : Int32 → VT → UT → Prop) (kb51 : Int32 → VT → UT → Prop) (x3_51 : Int32) (V : VT) (U : UT) : Prop := isO θ a0_51 12 ∧ (((V a0_51 1) ≤ x3_51 → wb_M_next_73 θ a0_51 x3_51 K V U) ∧ (¬ (V a0_51 1) ≤ x3_51 → wp_M_state θ a0_51 x3_51 V U (fun r_31 V_29 U_30 => ((¬ r_31 = 0 → wb_M_next_73 θ a0_51 x3_51 K V_29 U_30) ∧ (r_31 = 0 → ∀ y_33 : Int32, y_33 = x3_51 + (1 : Int32) → kb51 y_33 V_29 U_30)))))
def wl_M_next_51 (θ : TH) (a0_51 : Nat) (K : Int32 → VT → UT → Prop) : Nat → Int32 → VT → UT → Prop
  | 0, _, _, _ => False
  | n + 1, x3_51, V, U => bl_M_next_51 θ a0_51 K (wl_M_next_51 θ a0_51 K n) x3_51 V U
def bl_M_next_2 (θ : TH) (a0_2 : Nat) (K : Int32 → VT → UT → Prop) (kb2 : Int32 → VT → UT → Prop) (x1_2 : Int32) (V : VT) (U : UT) : Prop := (((100 : Int32) ≤ x1_2 → K (0 : Int32) V U) ∧ (¬ (100 : Int32) ≤ x1_2 → isO θ a0_2 12 ∧ (((V a0_2 22) ≤ (V a0_2 14) → wp_M_state θ a0_2 (V a0_2 2) V U (fun r_6 V_4 U_5 => ((¬ r_6 = (1 : Int32) → ((¬ r_6 = 0 → (U_5 a0_2 12) ≠ 0 ∧ ∃ n_10, isA θ (U_5 a0_2 12) 0 n_10 ∧ vp_in (V_4 a0_2 13) n_10 ∧ ∀ V_13 : VT, V_13 = up2 V_4 (U_5 a0_2 12) (V_4 a0_2 13).toNatClampNeg (V_4 a0_2 2) → ∀ V_14 : VT, V_14 = up2 V_13 a0_2 13 ((V_13 a0_2 13) + (1 : Int32)) → wp_M_pageLength θ a0_2 (V_14 a0_2 2) V_14 U_5 (fun r_17 V_15 U_16 => ∀ V_18 : VT, V_18 = up2 V_15 a0_2 2 ((V_14 a0_2 2) + r_17) → ∀ V_19 : VT, V_19 = up2 V_18 a0_2 14 (0 : Int32) → wp_M_replay θ a0_2 V_19 U_16 (fun V_20 U_21 => ∀ y_22 : Int32, y_22 = x1_2 + (1 : Int32) → kb2 y_22 V_20 U_21))) ∧ (r_6 = 0 → ∀ y_23 : Int32, y_23 = ((V_4 a0_2 2) + (1 : Int32)) → ∃ n, wl_M_next_51 θ a0_2 K n y_23 V_4 U_5))) ∧ (r_6 = (1 : Int32) → K (0 : Int32) V_4 U_5)))) ∧ (¬ (V a0_2 22) ≤ (V a0_2 14) → wp_M_give θ a0_2 V U (fun r_26 V_24 U_25 => K r_26 V_24 U_25)))))
def wl_M_next_2 (θ : TH) (a0_2 : Nat) (K : Int32 → VT → UT → Prop) : Nat → Int32 → VT → UT → Prop
  | 0, _, _, _ => False
  | n + 1, x1_2, V, U => bl_M_next_2 θ a0_2 K (wl_M_next_2 θ a0_2 K n) x1_2 V U
def wp_M_next (θ : TH) (a0 : Nat) (V : VT) (U : UT) (K : Int32 → VT → UT → Prop) : Prop := ∃ n, wl_M_next_2 θ a0 K n (0 : Int32) V U
set_option maxRecDepth 100000 in
set_option maxHeartbeats 4000000 in
theorem c_M_next (l : Launch) (θ : TH) (a0 : Nat) (V : VT) (U : UT) (K : Int32 → VT → UT → Prop) (hw : wp_M_next θ a0 V U K) : CMi l yM_next kM_next 4 (some .int) rmM_next θ [.ref a0] V U K := by
  refine g_met nRM (by decide +kernel) rfl (Nat.le_of_ble_eq_true rfl) (fun p e s m args below meth c ls hC hr hlk hwo hl => ?_)
  have hx := hC.1
  have hb := hC.2.1
  have hS : Sx θ s s.heap [] := va_S.rf
  have hl : lv_has ls 4 [(0, .ref a0)] := hl
  have J73 : ∀ (a0_73 : Nat) (x3_73 : Int32) (V : VT) (U : UT) (H : Heap) (locs : List Loc) (ls : Array Slot), wb_M_next_73 θ a0_73 x3_73 K V U → wo θ V U H → Sx θ s H locs → lv_has ls 4 [(0, .ref a0_73), (3, .int x3_73)] → W p l e rmM_next s m args below meth c H locs 0 0 (MQ below (QI θ K) args s 0 0 (aT θ)) (F0 m 73 ls []) := by
    intro a0_73 x3_73 V U H locs ls hw hwo hS hl
    unfold wb_M_next_73 at hw
    refine lv_aload_n hx hb dM_next_73 rfl (lv_at hl 0 rfl) ?_
    refine lv_iconst (v := 1) hx hb dM_next_74 (by decide) ?_
    obtain ⟨ho_34, hw⟩ := hw
    refine g_putI hC fkM_208 rfl hwo hS ho_34 dM_next_75 (fun V_35 eV_35 H locs hwo hS => ?_)
    replace hw := hw V_35 eV_35
    refine lv_aload_n hx hb dM_next_78 rfl (lv_at hl 0 rfl) ?_
    refine lv_iload_n hx hb dM_next_79 rfl (lv_at hl 1 rfl) ?_
    refine lv_aload_n hx hb dM_next_80 rfl (lv_at hl 0 rfl) ?_
    refine g_getI hC fkM_137 rfl hwo ho_34 dM_next_81 ?_
    refine lv_isub hx hb dM_next_84 ?_
    refine g_putI hC fkM_211 rfl hwo hS ho_34 dM_next_85 (fun V_36 eV_36 H locs hwo hS => ?_)
    replace hw := hw V_36 eV_36
    refine lv_aload_n hx hb dM_next_88 rfl (lv_at hl 0 rfl) ?_
    refine lv_iload_n hx hb dM_next_89 rfl (lv_at hl 1 rfl) ?_
    refine g_putI hC fkM_137 rfl hwo hS ho_34 dM_next_90 (fun V_37 eV_37 H locs hwo hS => ?_)
    replace hw := hw V_37 eV_37
    refine lv_iconst (v := 1) hx hb dM_next_93 (by decide) ?_
    exact g_iret hC hr hlk hw hwo hS dM_next_94
  have L51 : ∀ (a0_51 : Nat) (n51 : Nat) (x3_51 : Int32) (V : VT) (U : UT) (H : Heap) (locs : List Loc) (ls : Array Slot), wl_M_next_51 θ a0_51 K n51 x3_51 V U → wo θ V U H → Sx θ s H locs → lv_has ls 4 [(0, .ref a0_51), (3, .int x3_51)] → W p l e rmM_next s m args below meth c H locs 0 0 (MQ below (QI θ K) args s 0 0 (aT θ)) (F0 m 51 ls []) := by
    intro a0_51 n51
    induction n51 with
    | zero => intro x3_51 V U H locs ls hw hwo hS hl; exact (show False from hw).elim
    | succ n51 ih51 =>
      intro x3_51 V U H locs ls hw hwo hS hl
      replace hw : bl_M_next_51 θ a0_51 K (wl_M_next_51 θ a0_51 K n51) x3_51 V U := hw
      unfold bl_M_next_51 at hw
      refine lv_iload_n hx hb dM_next_51 rfl (lv_at hl 1 rfl) ?_
      refine lv_aload_n hx hb dM_next_52 rfl (lv_at hl 0 rfl) ?_
      obtain ⟨ho_27, hw⟩ := hw
      refine g_getI hC fkM_132 rfl hwo ho_27 dM_next_53 ?_
      refine lv_icmp_ge (tgt := 73) hx hb dM_next_56 (by decide) (fun hc_28 => ?_) (fun hc_28 => ?_)
      · replace hw := hw.1 hc_28
        exact J73 _ _ _ _ _ _ _ hw hwo hS (lv_sub hl [0, 1] rfl)
      · replace hw := hw.2 hc_28
        refine lv_aload_n hx hb dM_next_59 rfl (lv_at hl 0 rfl) ?_
        refine lv_iload_n hx hb dM_next_60 rfl (lv_at hl 1 rfl) ?_
        refine g_Vi (rest := []) hC (c_M_state l θ _ _ _ _ _ hw) mi_M_state mlM_237 mv_M_state ci_12 ho_27 hwo hS ⟨rfl, rfl⟩ ⟨by decide, by decide⟩ rfl hl.1 rfl (Nat.le_of_ble_eq_true rfl) dM_next_61 (fun r_31 V_29 U_30 hw H locs hwo hS => ?_)
        refine lv_if_ne (tgt := 73) hx hb dM_next_64 (by decide) (fun hc_32 => ?_) (fun hc_32 => ?_)
        · replace hw := hw.1 hc_32
          exact J73 _ _ _ _ _ _ _ hw hwo hS (lv_sub hl [0, 1] rfl)
        · replace hw := hw.2 hc_32
          obtain ⟨y_33, ey_33⟩ : ∃ z : Int32, z = x3_51 + (1 : Int32) := ⟨_, rfl⟩
          replace hw := hw y_33 ey_33
          refine lv_iinc (k := 1) (v := y_33) (lv' := [(3, .int y_33), (0, .ref a0_51)]) hx hb dM_next_67 hl rfl (by rw [ey_33]; rfl) (by decide) rfl (fun ls hl => ?_)
          refine lv_goto (tgt := 51) hx hb dM_next_70 (by decide) ?_
          exact ih51 _ _ _ _ _ _ hw hwo hS (lv_sub hl [1, 0] rfl)
  have L2 : ∀ (a0_2 : Nat) (n2 : Nat) (x1_2 : Int32) (V : VT) (U : UT) (H : Heap) (locs : List Loc) (ls : Array Slot), wl_M_next_2 θ a0_2 K n2 x1_2 V U → wo θ V U H → Sx θ s H locs → lv_has ls 4 [(0, .ref a0_2), (1, .int x1_2)] → W p l e rmM_next s m args below meth c H locs 0 0 (MQ below (QI θ K) args s 0 0 (aT θ)) (F0 m 2 ls []) := by
    intro a0_2 n2
    induction n2 with
    | zero => intro x1_2 V U H locs ls hw hwo hS hl; exact (show False from hw).elim
    | succ n2 ih2 =>
      intro x1_2 V U H locs ls hw hwo hS hl
      replace hw : bl_M_next_2 θ a0_2 K (wl_M_next_2 θ a0_2 K n2) x1_2 V U := hw
      unfold bl_M_next_2 at hw
      refine lv_iload_n hx hb dM_next_2 rfl (lv_at hl 1 rfl) ?_
      refine lv_bipush (v := 100) hx hb dM_next_3 (by decide) ?_
      refine lv_icmp_ge (tgt := 150) hx hb dM_next_5 (by decide) (fun hc_1 => ?_) (fun hc_1 => ?_)
      · replace hw := hw.1 hc_1
        refine lv_iconst (v := 0) hx hb dM_next_150 (by decide) ?_
        exact g_iret hC hr hlk hw hwo hS dM_next_151
      · replace hw := hw.2 hc_1
        refine lv_aload_n hx hb dM_next_8 rfl (lv_at hl 0 rfl) ?_
        obtain ⟨ho_2, hw⟩ := hw
        refine g_getI hC fkM_205 rfl hwo ho_2 dM_next_9 ?_
        refine lv_aload_n hx hb dM_next_12 rfl (lv_at hl 0 rfl) ?_
        refine g_getI hC fkM_173 rfl hwo ho_2 dM_next_13 ?_
        refine lv_icmp_ge (tgt := 24) hx hb dM_next_16 (by decide) (fun hc_3 => ?_) (fun hc_3 => ?_)
        · replace hw := hw.1 hc_3
          refine lv_aload_n hx hb dM_next_24 rfl (lv_at hl 0 rfl) ?_
          refine lv_aload_n hx hb dM_next_25 rfl (lv_at hl 0 rfl) ?_
          refine g_getI hC fkM_137 rfl hwo ho_2 dM_next_26 ?_
          refine g_Vi (rest := []) hC (c_M_state l θ _ _ _ _ _ hw) mi_M_state mlM_237 mv_M_state ci_12 ho_2 hwo hS ⟨rfl, rfl⟩ ⟨by decide, by decide⟩ rfl hl.1 rfl (Nat.le_of_ble_eq_true rfl) dM_next_29 (fun r_6 V_4 U_5 hw H locs hwo hS => ?_)
          refine lv_istore_n (i := 2) (lv' := [(2, .int r_6), (0, .ref a0_2), (1, .int x1_2)]) hx hb dM_next_32 rfl hl (by decide) rfl (fun ls hl => ?_)
          refine lv_iload_n hx hb dM_next_33 rfl (lv_at hl 0 rfl) ?_
          refine lv_iconst (v := 1) hx hb dM_next_34 (by decide) ?_
          refine lv_icmp_ne (tgt := 40) hx hb dM_next_35 (by decide) (fun hc_7 => ?_) (fun hc_7 => ?_)
          · replace hw := hw.1 hc_7
            refine lv_iload_n hx hb dM_next_40 rfl (lv_at hl 0 rfl) ?_
            refine lv_if_ne (tgt := 95) hx hb dM_next_41 (by decide) (fun hc_8 => ?_) (fun hc_8 => ?_)
            · replace hw := hw.1 hc_8
              refine lv_aload_n hx hb dM_next_95 rfl (lv_at hl 1 rfl) ?_
              obtain ⟨hz_9, hw⟩ := hw
              refine g_getR hC fkM_38 rfl hwo ho_2 hz_9 dM_next_96 ?_
              refine lv_aload_n hx hb dM_next_99 rfl (lv_at hl 1 rfl) ?_
              refine g_getI hC fkM_179 rfl hwo ho_2 dM_next_100 ?_
              refine lv_aload_n hx hb dM_next_103 rfl (lv_at hl 1 rfl) ?_
              refine g_getI hC fkM_137 rfl hwo ho_2 dM_next_104 ?_
              obtain ⟨n_10, ha_11, hw⟩ := hw
              obtain ⟨hi_12, hw⟩ := hw
              refine g_iast hC hwo hS ha_11 hi_12 dM_next_107 (fun V_13 eV_13 H locs hwo hS => ?_)
              replace hw := hw V_13 eV_13
              refine lv_aload_n hx hb dM_next_108 rfl (lv_at hl 1 rfl) ?_
              refine lv_dup hx hb dM_next_109 rfl ?_
              refine g_getI hC fkM_179 rfl hwo ho_2 dM_next_110 ?_
              refine lv_iconst (v := 1) hx hb dM_next_113 (by decide) ?_
              refine lv_iadd hx hb dM_next_114 ?_
              refine g_putI hC fkM_179 rfl hwo hS ho_2 dM_next_115 (fun V_14 eV_14 H locs hwo hS => ?_)
              replace hw := hw V_14 eV_14
              refine lv_aload_n hx hb dM_next_118 rfl (lv_at hl 1 rfl) ?_
              refine lv_dup hx hb dM_next_119 rfl ?_
              refine g_getI hC fkM_137 rfl hwo ho_2 dM_next_120 ?_
              refine lv_aload_n hx hb dM_next_123 rfl (lv_at hl 1 rfl) ?_
              refine lv_aload_n hx hb dM_next_124 rfl (lv_at hl 1 rfl) ?_
              refine g_getI hC fkM_137 rfl hwo ho_2 dM_next_125 ?_
              refine g_Vi (rest := [.int (V_14 a0_2 2), .ref a0_2]) hC (c_M_pageLength l θ _ _ _ _ _ hw) mi_M_pageLength mlM_145 mv_M_pageLength ci_12 ho_2 hwo hS ⟨rfl, rfl⟩ ⟨by decide, by decide⟩ rfl hl.1 rfl (Nat.le_of_ble_eq_true rfl) dM_next_128 (fun r_17 V_15 U_16 hw H locs hwo hS => ?_)
              refine lv_iadd hx hb dM_next_131 ?_
              refine g_putI hC fkM_137 rfl hwo hS ho_2 dM_next_132 (fun V_18 eV_18 H locs hwo hS => ?_)
              replace hw := hw V_18 eV_18
              refine lv_aload_n hx hb dM_next_135 rfl (lv_at hl 1 rfl) ?_
              refine lv_iconst (v := 0) hx hb dM_next_136 (by decide) ?_
              refine g_putI hC fkM_205 rfl hwo hS ho_2 dM_next_137 (fun V_19 eV_19 H locs hwo hS => ?_)
              replace hw := hw V_19 eV_19
              refine lv_aload_n hx hb dM_next_140 rfl (lv_at hl 1 rfl) ?_
              refine g_Vv (rest := []) hC (c_M_replay l θ _ _ _ _ hw) mi_M_replay mlM_240 mv_M_replay ci_12 ho_2 hwo hS ⟨rfl, rfl⟩ ⟨by decide, by decide⟩ rfl hl.1 rfl (Nat.le_of_ble_eq_true rfl) dM_next_141 (fun V_20 U_21 hw H locs hwo hS => ?_)
              obtain ⟨y_22, ey_22⟩ : ∃ z : Int32, z = x1_2 + (1 : Int32) := ⟨_, rfl⟩
              replace hw := hw y_22 ey_22
              refine lv_iinc (k := 2) (v := y_22) (lv' := [(1, .int y_22), (2, .int r_6), (0, .ref a0_2)]) hx hb dM_next_144 hl rfl (by rw [ey_22]; rfl) (by decide) rfl (fun ls hl => ?_)
              refine lv_goto (tgt := 2) hx hb dM_next_147 (by decide) ?_
              exact ih2 _ _ _ _ _ _ hw hwo hS (lv_sub hl [2, 0] rfl)
            · replace hw := hw.2 hc_8
              refine lv_aload_n hx hb dM_next_44 rfl (lv_at hl 1 rfl) ?_
              refine g_getI hC fkM_137 rfl hwo ho_2 dM_next_45 ?_
              refine lv_iconst (v := 1) hx hb dM_next_48 (by decide) ?_
              refine lv_iadd hx hb dM_next_49 ?_
              refine lv_topi (fun y_23 ey_23 => ?_)
              replace hw := hw y_23 ey_23
              refine lv_istore_n (i := 3) (lv' := [(3, .int y_23), (2, .int r_6), (0, .ref a0_2), (1, .int x1_2)]) hx hb dM_next_50 rfl hl (by decide) rfl (fun ls hl => ?_)
              obtain ⟨n, hw⟩ := hw
              exact L51 _ n _ _ _ _ _ _ hw hwo hS (lv_sub hl [2, 0] rfl)
          · replace hw := hw.2 hc_7
            refine lv_iconst (v := 0) hx hb dM_next_38 (by decide) ?_
            exact g_iret hC hr hlk hw hwo hS dM_next_39
        · replace hw := hw.2 hc_3
          refine lv_aload_n hx hb dM_next_19 rfl (lv_at hl 0 rfl) ?_
          refine g_Vi (rest := []) hC (c_M_give l θ _ _ _ _ hw) mi_M_give mlM_233 mv_M_give ci_12 ho_2 hwo hS ⟨rfl, rfl⟩ ⟨by decide, by decide⟩ rfl hl.1 rfl (Nat.le_of_ble_eq_true rfl) dM_next_20 (fun r_26 V_24 U_25 hw H locs hwo hS => ?_)
          exact g_iret hC hr hlk hw hwo hS dM_next_23
  unfold wp_M_next at hw
  refine lv_iconst (v := 0) hx hb dM_next_0 (by decide) ?_
  refine lv_istore_n (i := 1) (lv' := [(1, .int (0 : Int32)), (0, .ref a0)]) hx hb dM_next_1 rfl hl (by decide) rfl (fun ls hl => ?_)
  obtain ⟨n, hw⟩ := hw
  exact L2 _ n _ _ _ _ _ _ hw hwo hS (lv_sub hl [1, 0] rfl)
theorem dM_amount_0 : decode kM_amount 0 = .ok (.aload_n 0, 1) := by decide +kernel
theorem dM_amount_1 : decode kM_amount 1 = .ok (.getfield 208, 3) := by decide +kernel
theorem dM_amount_4 : decode kM_amount 4 = .ok (.ifCond .ne 7, 3) := by decide +kernel
theorem dM_amount_7 : decode kM_amount 7 = .ok (.iconst (-1), 1) := by decide +kernel
theorem dM_amount_8 : decode kM_amount 8 = .ok (.goto 7, 3) := by decide +kernel
theorem dM_amount_11 : decode kM_amount 11 = .ok (.aload_n 0, 1) := by decide +kernel
theorem dM_amount_12 : decode kM_amount 12 = .ok (.getfield 211, 3) := by decide +kernel
theorem dM_amount_15 : decode kM_amount 15 = .ok (.ireturn, 1) := by decide +kernel
def wp_M_amount (θ : TH) (a0 : Nat) (V : VT) (U : UT) (K : Int32 → VT → UT → Prop) : Prop := isO θ a0 12 ∧ ((¬ (V a0 30) = 0 → K (V a0 31) V U) ∧ ((V a0 30) = 0 → K (-1 : Int32) V U))
set_option maxRecDepth 100000 in
set_option maxHeartbeats 4000000 in
theorem c_M_amount (l : Launch) (θ : TH) (a0 : Nat) (V : VT) (U : UT) (K : Int32 → VT → UT → Prop) (hw : wp_M_amount θ a0 V U K) : CMi l yM_amount kM_amount 1 (some .int) rmM_amount θ [.ref a0] V U K := by
  refine g_met nRM (by decide +kernel) rfl (Nat.le_of_ble_eq_true rfl) (fun p e s m args below meth c ls hC hr hlk hwo hl => ?_)
  have hx := hC.1
  have hb := hC.2.1
  have hS : Sx θ s s.heap [] := va_S.rf
  have hl : lv_has ls 1 [(0, .ref a0)] := hl
  unfold wp_M_amount at hw
  refine lv_aload_n hx hb dM_amount_0 rfl (lv_at hl 0 rfl) ?_
  obtain ⟨ho_1, hw⟩ := hw
  refine g_getI hC fkM_208 rfl hwo ho_1 dM_amount_1 ?_
  refine lv_if_ne (tgt := 11) hx hb dM_amount_4 (by decide) (fun hc_2 => ?_) (fun hc_2 => ?_)
  · replace hw := hw.1 hc_2
    refine lv_aload_n hx hb dM_amount_11 rfl (lv_at hl 0 rfl) ?_
    refine g_getI hC fkM_211 rfl hwo ho_1 dM_amount_12 ?_
    exact g_iret hC hr hlk hw hwo hS dM_amount_15
  · replace hw := hw.2 hc_2
    refine lv_iconst (v := -1) hx hb dM_amount_7 (by decide) ?_
    refine lv_goto (tgt := 15) hx hb dM_amount_8 (by decide) ?_
    exact g_iret hC hr hlk hw hwo hS dM_amount_15
theorem dM_serial_0 : decode kM_serial 0 = .ok (.aload_n 0, 1) := by decide +kernel
theorem dM_serial_1 : decode kM_serial 1 = .ok (.getfield 208, 3) := by decide +kernel
theorem dM_serial_4 : decode kM_serial 4 = .ok (.iconst 2, 1) := by decide +kernel
theorem dM_serial_5 : decode kM_serial 5 = .ok (.if_icmp .ge 7, 3) := by decide +kernel
theorem dM_serial_8 : decode kM_serial 8 = .ok (.iconst (-1), 1) := by decide +kernel
theorem dM_serial_9 : decode kM_serial 9 = .ok (.goto 7, 3) := by decide +kernel
theorem dM_serial_12 : decode kM_serial 12 = .ok (.aload_n 0, 1) := by decide +kernel
theorem dM_serial_13 : decode kM_serial 13 = .ok (.getfield 217, 3) := by decide +kernel
theorem dM_serial_16 : decode kM_serial 16 = .ok (.ireturn, 1) := by decide +kernel
def wp_M_serial (θ : TH) (a0 : Nat) (V : VT) (U : UT) (K : Int32 → VT → UT → Prop) : Prop := isO θ a0 12 ∧ (((2 : Int32) ≤ (V a0 30) → K (V a0 32) V U) ∧ (¬ (2 : Int32) ≤ (V a0 30) → K (-1 : Int32) V U))
set_option maxRecDepth 100000 in
set_option maxHeartbeats 4000000 in
theorem c_M_serial (l : Launch) (θ : TH) (a0 : Nat) (V : VT) (U : UT) (K : Int32 → VT → UT → Prop) (hw : wp_M_serial θ a0 V U K) : CMi l yM_serial kM_serial 1 (some .int) rmM_serial θ [.ref a0] V U K := by
  refine g_met nRM (by decide +kernel) rfl (Nat.le_of_ble_eq_true rfl) (fun p e s m args below meth c ls hC hr hlk hwo hl => ?_)
  have hx := hC.1
  have hb := hC.2.1
  have hS : Sx θ s s.heap [] := va_S.rf
  have hl : lv_has ls 1 [(0, .ref a0)] := hl
  unfold wp_M_serial at hw
  refine lv_aload_n hx hb dM_serial_0 rfl (lv_at hl 0 rfl) ?_
  obtain ⟨ho_1, hw⟩ := hw
  refine g_getI hC fkM_208 rfl hwo ho_1 dM_serial_1 ?_
  refine lv_iconst (v := 2) hx hb dM_serial_4 (by decide) ?_
  refine lv_icmp_ge (tgt := 12) hx hb dM_serial_5 (by decide) (fun hc_2 => ?_) (fun hc_2 => ?_)
  · replace hw := hw.1 hc_2
    refine lv_aload_n hx hb dM_serial_12 rfl (lv_at hl 0 rfl) ?_
    refine g_getI hC fkM_217 rfl hwo ho_1 dM_serial_13 ?_
    exact g_iret hC hr hlk hw hwo hS dM_serial_16
  · replace hw := hw.2 hc_2
    refine lv_iconst (v := -1) hx hb dM_serial_8 (by decide) ?_
    refine lv_goto (tgt := 16) hx hb dM_serial_9 (by decide) ?_
    exact g_iret hC hr hlk hw hwo hS dM_serial_16
theorem dM_time_0 : decode kM_time 0 = .ok (.aload_n 0, 1) := by decide +kernel
theorem dM_time_1 : decode kM_time 1 = .ok (.getfield 208, 3) := by decide +kernel
theorem dM_time_4 : decode kM_time 4 = .ok (.iconst 3, 1) := by decide +kernel
theorem dM_time_5 : decode kM_time 5 = .ok (.if_icmp .ne 10, 3) := by decide +kernel
theorem dM_time_8 : decode kM_time 8 = .ok (.aload_n 0, 1) := by decide +kernel
theorem dM_time_9 : decode kM_time 9 = .ok (.getfield 214, 3) := by decide +kernel
theorem dM_time_12 : decode kM_time 12 = .ok (.goto 4, 3) := by decide +kernel
theorem dM_time_15 : decode kM_time 15 = .ok (.iconst (-1), 1) := by decide +kernel
theorem dM_time_16 : decode kM_time 16 = .ok (.ireturn, 1) := by decide +kernel
def wp_M_time (θ : TH) (a0 : Nat) (V : VT) (U : UT) (K : Int32 → VT → UT → Prop) : Prop := isO θ a0 12 ∧ ((¬ (V a0 30) = (3 : Int32) → K (-1 : Int32) V U) ∧ ((V a0 30) = (3 : Int32) → K (V a0 33) V U))
set_option maxRecDepth 100000 in
set_option maxHeartbeats 4000000 in
theorem c_M_time (l : Launch) (θ : TH) (a0 : Nat) (V : VT) (U : UT) (K : Int32 → VT → UT → Prop) (hw : wp_M_time θ a0 V U K) : CMi l yM_time kM_time 1 (some .int) rmM_time θ [.ref a0] V U K := by
  refine g_met nRM (by decide +kernel) rfl (Nat.le_of_ble_eq_true rfl) (fun p e s m args below meth c ls hC hr hlk hwo hl => ?_)
  have hx := hC.1
  have hb := hC.2.1
  have hS : Sx θ s s.heap [] := va_S.rf
  have hl : lv_has ls 1 [(0, .ref a0)] := hl
  unfold wp_M_time at hw
  refine lv_aload_n hx hb dM_time_0 rfl (lv_at hl 0 rfl) ?_
  obtain ⟨ho_1, hw⟩ := hw
  refine g_getI hC fkM_208 rfl hwo ho_1 dM_time_1 ?_
  refine lv_iconst (v := 3) hx hb dM_time_4 (by decide) ?_
  refine lv_icmp_ne (tgt := 15) hx hb dM_time_5 (by decide) (fun hc_2 => ?_) (fun hc_2 => ?_)
  · replace hw := hw.1 hc_2
    refine lv_iconst (v := -1) hx hb dM_time_15 (by decide) ?_
    exact g_iret hC hr hlk hw hwo hS dM_time_16
  · replace hw := hw.2 hc_2
    refine lv_aload_n hx hb dM_time_8 rfl (lv_at hl 0 rfl) ?_
    refine g_getI hC fkM_214 rfl hwo ho_1 dM_time_9 ?_
    refine lv_goto (tgt := 16) hx hb dM_time_12 (by decide) ?_
    exact g_iret hC hr hlk hw hwo hS dM_time_16
theorem dM_octet_0 : decode kM_octet 0 = .ok (.aload_n 0, 1) := by decide +kernel
theorem dM_octet_1 : decode kM_octet 1 = .ok (.getfield 220, 3) := by decide +kernel
theorem dM_octet_4 : decode kM_octet 4 = .ok (.ifCond .eq 15, 3) := by decide +kernel
theorem dM_octet_7 : decode kM_octet 7 = .ok (.iload_n 1, 1) := by decide +kernel
theorem dM_octet_8 : decode kM_octet 8 = .ok (.ifCond .lt 11, 3) := by decide +kernel
theorem dM_octet_11 : decode kM_octet 11 = .ok (.iload_n 1, 1) := by decide +kernel
theorem dM_octet_12 : decode kM_octet 12 = .ok (.aload_n 0, 1) := by decide +kernel
theorem dM_octet_13 : decode kM_octet 13 = .ok (.getfield 224, 3) := by decide +kernel
theorem dM_octet_16 : decode kM_octet 16 = .ok (.if_icmp .lt 7, 3) := by decide +kernel
theorem dM_octet_19 : decode kM_octet 19 = .ok (.iconst (-1), 1) := by decide +kernel
theorem dM_octet_20 : decode kM_octet 20 = .ok (.goto 9, 3) := by decide +kernel
theorem dM_octet_23 : decode kM_octet 23 = .ok (.aload_n 0, 1) := by decide +kernel
theorem dM_octet_24 : decode kM_octet 24 = .ok (.getfield 77, 3) := by decide +kernel
theorem dM_octet_27 : decode kM_octet 27 = .ok (.iload_n 1, 1) := by decide +kernel
theorem dM_octet_28 : decode kM_octet 28 = .ok (.iaload, 1) := by decide +kernel
theorem dM_octet_29 : decode kM_octet 29 = .ok (.ireturn, 1) := by decide +kernel
def wb_M_octet_19 (θ : TH) (K : Int32 → VT → UT → Prop) (V : VT) (U : UT) : Prop := K (-1 : Int32) V U
def wp_M_octet (θ : TH) (a0 : Nat) (x1 : Int32) (V : VT) (U : UT) (K : Int32 → VT → UT → Prop) : Prop := isO θ a0 12 ∧ (((V a0 34) = 0 → wb_M_octet_19 θ K V U) ∧ (¬ (V a0 34) = 0 → ((x1 < 0 → wb_M_octet_19 θ K V U) ∧ (¬ x1 < 0 → ((x1 < (V a0 36) → (U a0 35) ≠ 0 ∧ ∃ n_6, isA θ (U a0 35) 0 n_6 ∧ vp_in x1 n_6 ∧ K (V (U a0 35) x1.toNatClampNeg) V U) ∧ (¬ x1 < (V a0 36) → wb_M_octet_19 θ K V U))))))
set_option maxRecDepth 100000 in
set_option maxHeartbeats 4000000 in
theorem c_M_octet (l : Launch) (θ : TH) (a0 : Nat) (x1 : Int32) (V : VT) (U : UT) (K : Int32 → VT → UT → Prop) (hw : wp_M_octet θ a0 x1 V U K) : CMi l yM_octet kM_octet 2 (some .int) rmM_octet θ [.ref a0, .int x1] V U K := by
  refine g_met nRM (by decide +kernel) rfl (Nat.le_of_ble_eq_true rfl) (fun p e s m args below meth c ls hC hr hlk hwo hl => ?_)
  have hx := hC.1
  have hb := hC.2.1
  have hS : Sx θ s s.heap [] := va_S.rf
  have hl : lv_has ls 2 [(0, .ref a0), (1, .int x1)] := hl
  have J19 : ∀ (V : VT) (U : UT) (H : Heap) (locs : List Loc) (ls : Array Slot), wb_M_octet_19 θ K V U → wo θ V U H → Sx θ s H locs → lv_has ls 2 [] → W p l e rmM_octet s m args below meth c H locs 0 0 (MQ below (QI θ K) args s 0 0 (aT θ)) (F0 m 19 ls []) := by
    intro V U H locs ls hw hwo hS hl
    unfold wb_M_octet_19 at hw
    refine lv_iconst (v := -1) hx hb dM_octet_19 (by decide) ?_
    refine lv_goto (tgt := 29) hx hb dM_octet_20 (by decide) ?_
    exact g_iret hC hr hlk hw hwo hS dM_octet_29
  unfold wp_M_octet at hw
  refine lv_aload_n hx hb dM_octet_0 rfl (lv_at hl 0 rfl) ?_
  obtain ⟨ho_1, hw⟩ := hw
  refine g_getI hC fkM_220 rfl hwo ho_1 dM_octet_1 ?_
  refine lv_if_eq (tgt := 19) hx hb dM_octet_4 (by decide) (fun hc_2 => ?_) (fun hc_2 => ?_)
  · replace hw := hw.1 hc_2
    exact J19 _ _ _ _ _ hw hwo hS (lv_sub hl [] rfl)
  · replace hw := hw.2 hc_2
    refine lv_iload_n hx hb dM_octet_7 rfl (lv_at hl 1 rfl) ?_
    refine lv_if_lt (tgt := 19) hx hb dM_octet_8 (by decide) (fun hc_3 => ?_) (fun hc_3 => ?_)
    · replace hw := hw.1 hc_3
      exact J19 _ _ _ _ _ hw hwo hS (lv_sub hl [] rfl)
    · replace hw := hw.2 hc_3
      refine lv_iload_n hx hb dM_octet_11 rfl (lv_at hl 1 rfl) ?_
      refine lv_aload_n hx hb dM_octet_12 rfl (lv_at hl 0 rfl) ?_
      refine g_getI hC fkM_224 rfl hwo ho_1 dM_octet_13 ?_
      refine lv_icmp_lt (tgt := 23) hx hb dM_octet_16 (by decide) (fun hc_4 => ?_) (fun hc_4 => ?_)
      · replace hw := hw.1 hc_4
        refine lv_aload_n hx hb dM_octet_23 rfl (lv_at hl 0 rfl) ?_
        obtain ⟨hz_5, hw⟩ := hw
        refine g_getR hC fkM_77 rfl hwo ho_1 hz_5 dM_octet_24 ?_
        refine lv_iload_n hx hb dM_octet_27 rfl (lv_at hl 1 rfl) ?_
        obtain ⟨n_6, ha_7, hw⟩ := hw
        obtain ⟨hi_8, hw⟩ := hw
        refine g_iald hC hwo ha_7 hi_8 dM_octet_28 ?_
        exact g_iret hC hr hlk hw hwo hS dM_octet_29
      · replace hw := hw.2 hc_4
        exact J19 _ _ _ _ _ hw hwo hS (lv_sub hl [] rfl)
theorem dM_pieces_0 : decode kM_pieces 0 = .ok (.aload_n 0, 1) := by decide +kernel
theorem dM_pieces_1 : decode kM_pieces 1 = .ok (.getfield 176, 3) := by decide +kernel
theorem dM_pieces_4 : decode kM_pieces 4 = .ok (.ireturn, 1) := by decide +kernel
def wp_M_pieces (θ : TH) (a0 : Nat) (V : VT) (U : UT) (K : Int32 → VT → UT → Prop) : Prop := isO θ a0 12 ∧ K (V a0 21) V U
set_option maxRecDepth 100000 in
set_option maxHeartbeats 4000000 in
theorem c_M_pieces (l : Launch) (θ : TH) (a0 : Nat) (V : VT) (U : UT) (K : Int32 → VT → UT → Prop) (hw : wp_M_pieces θ a0 V U K) : CMi l yM_pieces kM_pieces 1 (some .int) rmM_pieces θ [.ref a0] V U K := by
  refine g_met nRM (by decide +kernel) rfl (Nat.le_of_ble_eq_true rfl) (fun p e s m args below meth c ls hC hr hlk hwo hl => ?_)
  have hx := hC.1
  have hb := hC.2.1
  have hS : Sx θ s s.heap [] := va_S.rf
  have hl : lv_has ls 1 [(0, .ref a0)] := hl
  unfold wp_M_pieces at hw
  refine lv_aload_n hx hb dM_pieces_0 rfl (lv_at hl 0 rfl) ?_
  obtain ⟨ho_1, hw⟩ := hw
  refine g_getI hC fkM_176 rfl hwo ho_1 dM_pieces_1 ?_
  exact g_iret hC hr hlk hw hwo hS dM_pieces_4
theorem dM_read_0 : decode kM_read 0 = .ok (.aload_n 0, 1) := by decide +kernel
theorem dM_read_1 : decode kM_read 1 = .ok (.getfield 243, 3) := by decide +kernel
theorem dM_read_4 : decode kM_read 4 = .ok (.ifCond .ne 19, 3) := by decide +kernel
theorem dM_read_7 : decode kM_read 7 = .ok (.aload_n 0, 1) := by decide +kernel
theorem dM_read_8 : decode kM_read 8 = .ok (.getfield 246, 3) := by decide +kernel
theorem dM_read_11 : decode kM_read 11 = .ok (.iload_n 1, 1) := by decide +kernel
theorem dM_read_12 : decode kM_read 12 = .ok (.iadd, 1) := by decide +kernel
theorem dM_read_13 : decode kM_read 13 = .ok (.bipush 8, 2) := by decide +kernel
theorem dM_read_15 : decode kM_read 15 = .ok (.aload_n 0, 1) := by decide +kernel
theorem dM_read_16 : decode kM_read 16 = .ok (.getfield 224, 3) := by decide +kernel
theorem dM_read_19 : decode kM_read 19 = .ok (.imul, 1) := by decide +kernel
theorem dM_read_20 : decode kM_read 20 = .ok (.if_icmp .le 10, 3) := by decide +kernel
theorem dM_read_23 : decode kM_read 23 = .ok (.aload_n 0, 1) := by decide +kernel
theorem dM_read_24 : decode kM_read 24 = .ok (.iconst 1, 1) := by decide +kernel
theorem dM_read_25 : decode kM_read 25 = .ok (.putfield 243, 3) := by decide +kernel
theorem dM_read_28 : decode kM_read 28 = .ok (.iconst 0, 1) := by decide +kernel
theorem dM_read_29 : decode kM_read 29 = .ok (.ireturn, 1) := by decide +kernel
theorem dM_read_30 : decode kM_read 30 = .ok (.iconst 0, 1) := by decide +kernel
theorem dM_read_31 : decode kM_read 31 = .ok (.istore_n 2, 1) := by decide +kernel
theorem dM_read_32 : decode kM_read 32 = .ok (.iconst 0, 1) := by decide +kernel
theorem dM_read_33 : decode kM_read 33 = .ok (.istore_n 3, 1) := by decide +kernel
theorem dM_read_34 : decode kM_read 34 = .ok (.iload_n 3, 1) := by decide +kernel
theorem dM_read_35 : decode kM_read 35 = .ok (.iload_n 1, 1) := by decide +kernel
theorem dM_read_36 : decode kM_read 36 = .ok (.if_icmp .ge 45, 3) := by decide +kernel
theorem dM_read_39 : decode kM_read 39 = .ok (.iload_n 2, 1) := by decide +kernel
theorem dM_read_40 : decode kM_read 40 = .ok (.aload_n 0, 1) := by decide +kernel
theorem dM_read_41 : decode kM_read 41 = .ok (.getfield 77, 3) := by decide +kernel
theorem dM_read_44 : decode kM_read 44 = .ok (.aload_n 0, 1) := by decide +kernel
theorem dM_read_45 : decode kM_read 45 = .ok (.getfield 246, 3) := by decide +kernel
theorem dM_read_48 : decode kM_read 48 = .ok (.iconst 3, 1) := by decide +kernel
theorem dM_read_49 : decode kM_read 49 = .ok (.ishr, 1) := by decide +kernel
theorem dM_read_50 : decode kM_read 50 = .ok (.iaload, 1) := by decide +kernel
theorem dM_read_51 : decode kM_read 51 = .ok (.aload_n 0, 1) := by decide +kernel
theorem dM_read_52 : decode kM_read 52 = .ok (.getfield 246, 3) := by decide +kernel
theorem dM_read_55 : decode kM_read 55 = .ok (.bipush 7, 2) := by decide +kernel
theorem dM_read_57 : decode kM_read 57 = .ok (.iand, 1) := by decide +kernel
theorem dM_read_58 : decode kM_read 58 = .ok (.ishr, 1) := by decide +kernel
theorem dM_read_59 : decode kM_read 59 = .ok (.iconst 1, 1) := by decide +kernel
theorem dM_read_60 : decode kM_read 60 = .ok (.iand, 1) := by decide +kernel
theorem dM_read_61 : decode kM_read 61 = .ok (.iload_n 3, 1) := by decide +kernel
theorem dM_read_62 : decode kM_read 62 = .ok (.ishl, 1) := by decide +kernel
theorem dM_read_63 : decode kM_read 63 = .ok (.iadd, 1) := by decide +kernel
theorem dM_read_64 : decode kM_read 64 = .ok (.istore_n 2, 1) := by decide +kernel
theorem dM_read_65 : decode kM_read 65 = .ok (.aload_n 0, 1) := by decide +kernel
theorem dM_read_66 : decode kM_read 66 = .ok (.dup, 1) := by decide +kernel
theorem dM_read_67 : decode kM_read 67 = .ok (.getfield 246, 3) := by decide +kernel
theorem dM_read_70 : decode kM_read 70 = .ok (.iconst 1, 1) := by decide +kernel
theorem dM_read_71 : decode kM_read 71 = .ok (.iadd, 1) := by decide +kernel
theorem dM_read_72 : decode kM_read 72 = .ok (.putfield 246, 3) := by decide +kernel
theorem dM_read_75 : decode kM_read 75 = .ok (.iinc 3 1, 3) := by decide +kernel
theorem dM_read_78 : decode kM_read 78 = .ok (.goto (-44), 3) := by decide +kernel
theorem dM_read_81 : decode kM_read 81 = .ok (.iload_n 2, 1) := by decide +kernel
theorem dM_read_82 : decode kM_read 82 = .ok (.ireturn, 1) := by decide +kernel
def bl_M_read_34 (θ : TH) (a0_34 : Nat) (x1_34 : Int32) (K : Int32 → VT → UT → Prop) (kb34 : Int32 → Int32 → VT → UT → Prop) (x2_34 : Int32) (x3_34 : Int32) (V : VT) (U : UT) : Prop := ((x1_34 ≤ x3_34 → K x2_34 V U) ∧ (¬ x1_34 ≤ x3_34 → isO θ a0_34 12 ∧ (U a0_34 35) ≠ 0 ∧ ∃ n_9, isA θ (U a0_34 35) 0 n_9 ∧ vp_in ((V a0_34 39) >>> ((3 : Int32) &&& 31)) n_9 ∧ ∀ y_12 : Int32, y_12 = (x2_34 + ((((V (U a0_34 35) ((V a0_34 39) >>> ((3 : Int32) &&& 31)).toNatClampNeg) >>> (((V a0_34 39) &&& (7 : Int32)) &&& 31)) &&& (1 : Int32)) <<< (x3_34 &&& 31))) → ∀ V_13 : VT, V_13 = up2 V a0_34 39 ((V a0_34 39) + (1 : Int32)) → ∀ y_14 : Int32, y_14 = x3_34 + (1 : Int32) → kb34 y_12 y_14 V_13 U))
def wl_M_read_34 (θ : TH) (a0_34 : Nat) (x1_34 : Int32) (K : Int32 → VT → UT → Prop) : Nat → Int32 → Int32 → VT → UT → Prop
  | 0, _, _, _, _ => False
  | n + 1, x2_34, x3_34, V, U => bl_M_read_34 θ a0_34 x1_34 K (wl_M_read_34 θ a0_34 x1_34 K n) x2_34 x3_34 V U
def wp_M_read (θ : TH) (a0 : Nat) (x1 : Int32) (V : VT) (U : UT) (K : Int32 → VT → UT → Prop) : Prop := isO θ a0 12 ∧ ((¬ (V a0 40) = 0 → ∀ V_3 : VT, V_3 = up2 V a0 40 (1 : Int32) → K (0 : Int32) V_3 U) ∧ ((V a0 40) = 0 → ((((V a0 39) + x1) ≤ ((8 : Int32) * (V a0 36)) → ∃ n, wl_M_read_34 θ a0 x1 K n (0 : Int32) (0 : Int32) V U) ∧ (¬ ((V a0 39) + x1) ≤ ((8 : Int32) * (V a0 36)) → ∀ V_5 : VT, V_5 = up2 V a0 40 (1 : Int32) → K (0 : Int32) V_5 U))))
set_option maxRecDepth 100000 in
set_option maxHeartbeats 4000000 in
theorem c_M_read (l : Launch) (θ : TH) (a0 : Nat) (x1 : Int32) (V : VT) (U : UT) (K : Int32 → VT → UT → Prop) (hw : wp_M_read θ a0 x1 V U K) : CMi l yM_read kM_read 4 (some .int) rmM_read θ [.ref a0, .int x1] V U K := by
  refine g_met nRM (by decide +kernel) rfl (Nat.le_of_ble_eq_true rfl) (fun p e s m args below meth c ls hC hr hlk hwo hl => ?_)
  have hx := hC.1
  have hb := hC.2.1
  have hS : Sx θ s s.heap [] := va_S.rf
  have hl : lv_has ls 4 [(0, .ref a0), (1, .int x1)] := hl
  have L34 : ∀ (a0_34 : Nat) (x1_34 : Int32) (n34 : Nat) (x2_34 : Int32) (x3_34 : Int32) (V : VT) (U : UT) (H : Heap) (locs : List Loc) (ls : Array Slot), wl_M_read_34 θ a0_34 x1_34 K n34 x2_34 x3_34 V U → wo θ V U H → Sx θ s H locs → lv_has ls 4 [(0, .ref a0_34), (1, .int x1_34), (2, .int x2_34), (3, .int x3_34)] → W p l e rmM_read s m args below meth c H locs 0 0 (MQ below (QI θ K) args s 0 0 (aT θ)) (F0 m 34 ls []) := by
    intro a0_34 x1_34 n34
    induction n34 with
    | zero => intro x2_34 x3_34 V U H locs ls hw hwo hS hl; exact (show False from hw).elim
    | succ n34 ih34 =>
      intro x2_34 x3_34 V U H locs ls hw hwo hS hl
      replace hw : bl_M_read_34 θ a0_34 x1_34 K (wl_M_read_34 θ a0_34 x1_34 K n34) x2_34 x3_34 V U := hw
      unfold bl_M_read_34 at hw
      refine lv_iload_n hx hb dM_read_34 rfl (lv_at hl 3 rfl) ?_
      refine lv_iload_n hx hb dM_read_35 rfl (lv_at hl 1 rfl) ?_
      refine lv_icmp_ge (tgt := 81) hx hb dM_read_36 (by decide) (fun hc_6 => ?_) (fun hc_6 => ?_)
      · replace hw := hw.1 hc_6
        refine lv_iload_n hx hb dM_read_81 rfl (lv_at hl 2 rfl) ?_
        exact g_iret hC hr hlk hw hwo hS dM_read_82
      · replace hw := hw.2 hc_6
        refine lv_iload_n hx hb dM_read_39 rfl (lv_at hl 2 rfl) ?_
        refine lv_aload_n hx hb dM_read_40 rfl (lv_at hl 0 rfl) ?_
        obtain ⟨ho_7, hw⟩ := hw
        obtain ⟨hz_8, hw⟩ := hw
        refine g_getR hC fkM_77 rfl hwo ho_7 hz_8 dM_read_41 ?_
        refine lv_aload_n hx hb dM_read_44 rfl (lv_at hl 0 rfl) ?_
        refine g_getI hC fkM_246 rfl hwo ho_7 dM_read_45 ?_
        refine lv_iconst (v := 3) hx hb dM_read_48 (by decide) ?_
        refine lv_ishr hx hb dM_read_49 ?_
        obtain ⟨n_9, ha_10, hw⟩ := hw
        obtain ⟨hi_11, hw⟩ := hw
        refine g_iald hC hwo ha_10 hi_11 dM_read_50 ?_
        refine lv_aload_n hx hb dM_read_51 rfl (lv_at hl 0 rfl) ?_
        refine g_getI hC fkM_246 rfl hwo ho_7 dM_read_52 ?_
        refine lv_bipush (v := 7) hx hb dM_read_55 (by decide) ?_
        refine lv_iand hx hb dM_read_57 ?_
        refine lv_ishr hx hb dM_read_58 ?_
        refine lv_iconst (v := 1) hx hb dM_read_59 (by decide) ?_
        refine lv_iand hx hb dM_read_60 ?_
        refine lv_iload_n hx hb dM_read_61 rfl (lv_at hl 3 rfl) ?_
        refine lv_ishl hx hb dM_read_62 ?_
        refine lv_iadd hx hb dM_read_63 ?_
        refine lv_topi (fun y_12 ey_12 => ?_)
        replace hw := hw y_12 ey_12
        refine lv_istore_n (i := 2) (lv' := [(2, .int y_12), (0, .ref a0_34), (1, .int x1_34), (3, .int x3_34)]) hx hb dM_read_64 rfl hl (by decide) rfl (fun ls hl => ?_)
        refine lv_aload_n hx hb dM_read_65 rfl (lv_at hl 1 rfl) ?_
        refine lv_dup hx hb dM_read_66 rfl ?_
        refine g_getI hC fkM_246 rfl hwo ho_7 dM_read_67 ?_
        refine lv_iconst (v := 1) hx hb dM_read_70 (by decide) ?_
        refine lv_iadd hx hb dM_read_71 ?_
        refine g_putI hC fkM_246 rfl hwo hS ho_7 dM_read_72 (fun V_13 eV_13 H locs hwo hS => ?_)
        replace hw := hw V_13 eV_13
        obtain ⟨y_14, ey_14⟩ : ∃ z : Int32, z = x3_34 + (1 : Int32) := ⟨_, rfl⟩
        replace hw := hw y_14 ey_14
        refine lv_iinc (k := 3) (v := y_14) (lv' := [(3, .int y_14), (2, .int y_12), (0, .ref a0_34), (1, .int x1_34)]) hx hb dM_read_75 hl rfl (by rw [ey_14]; rfl) (by decide) rfl (fun ls hl => ?_)
        refine lv_goto (tgt := 34) hx hb dM_read_78 (by decide) ?_
        exact ih34 _ _ _ _ _ _ _ hw hwo hS (lv_sub hl [2, 3, 1, 0] rfl)
  unfold wp_M_read at hw
  refine lv_aload_n hx hb dM_read_0 rfl (lv_at hl 0 rfl) ?_
  obtain ⟨ho_1, hw⟩ := hw
  refine g_getI hC fkM_243 rfl hwo ho_1 dM_read_1 ?_
  refine lv_if_ne (tgt := 23) hx hb dM_read_4 (by decide) (fun hc_2 => ?_) (fun hc_2 => ?_)
  · replace hw := hw.1 hc_2
    refine lv_aload_n hx hb dM_read_23 rfl (lv_at hl 0 rfl) ?_
    refine lv_iconst (v := 1) hx hb dM_read_24 (by decide) ?_
    refine g_putZ hC fkM_243 rfl hwo hS ho_1 (Or.inr rfl) dM_read_25 (fun V_3 eV_3 H locs hwo hS => ?_)
    replace hw := hw V_3 eV_3
    refine lv_iconst (v := 0) hx hb dM_read_28 (by decide) ?_
    exact g_iret hC hr hlk hw hwo hS dM_read_29
  · replace hw := hw.2 hc_2
    refine lv_aload_n hx hb dM_read_7 rfl (lv_at hl 0 rfl) ?_
    refine g_getI hC fkM_246 rfl hwo ho_1 dM_read_8 ?_
    refine lv_iload_n hx hb dM_read_11 rfl (lv_at hl 1 rfl) ?_
    refine lv_iadd hx hb dM_read_12 ?_
    refine lv_bipush (v := 8) hx hb dM_read_13 (by decide) ?_
    refine lv_aload_n hx hb dM_read_15 rfl (lv_at hl 0 rfl) ?_
    refine g_getI hC fkM_224 rfl hwo ho_1 dM_read_16 ?_
    refine lv_imul hx hb dM_read_19 ?_
    refine lv_icmp_le (tgt := 30) hx hb dM_read_20 (by decide) (fun hc_4 => ?_) (fun hc_4 => ?_)
    · replace hw := hw.1 hc_4
      refine lv_iconst (v := 0) hx hb dM_read_30 (by decide) ?_
      refine lv_istore_n (i := 2) (lv' := [(2, .int (0 : Int32)), (0, .ref a0), (1, .int x1)]) hx hb dM_read_31 rfl hl (by decide) rfl (fun ls hl => ?_)
      refine lv_iconst (v := 0) hx hb dM_read_32 (by decide) ?_
      refine lv_istore_n (i := 3) (lv' := [(3, .int (0 : Int32)), (2, .int (0 : Int32)), (0, .ref a0), (1, .int x1)]) hx hb dM_read_33 rfl hl (by decide) rfl (fun ls hl => ?_)
      obtain ⟨n, hw⟩ := hw
      exact L34 _ _ n _ _ _ _ _ _ _ hw hwo hS (lv_sub hl [2, 3, 1, 0] rfl)
    · replace hw := hw.2 hc_4
      refine lv_aload_n hx hb dM_read_23 rfl (lv_at hl 0 rfl) ?_
      refine lv_iconst (v := 1) hx hb dM_read_24 (by decide) ?_
      refine g_putZ hC fkM_243 rfl hwo hS ho_1 (Or.inr rfl) dM_read_25 (fun V_5 eV_5 H locs hwo hS => ?_)
      replace hw := hw V_5 eV_5
      refine lv_iconst (v := 0) hx hb dM_read_28 (by decide) ?_
      exact g_iret hC hr hlk hw hwo hS dM_read_29
theorem dM_format_0 : decode kM_format 0 = .ok (.aload_n 0, 1) := by decide +kernel
theorem dM_format_1 : decode kM_format 1 = .ok (.iconst 1, 1) := by decide +kernel
theorem dM_format_2 : decode kM_format 2 = .ok (.invokevirtual 249, 3) := by decide +kernel
theorem dM_format_5 : decode kM_format 5 = .ok (.iconst 1, 1) := by decide +kernel
theorem dM_format_6 : decode kM_format 6 = .ok (.iadd, 1) := by decide +kernel
theorem dM_format_7 : decode kM_format 7 = .ok (.istore_n 1, 1) := by decide +kernel
theorem dM_format_8 : decode kM_format 8 = .ok (.aload_n 0, 1) := by decide +kernel
theorem dM_format_9 : decode kM_format 9 = .ok (.iconst 2, 1) := by decide +kernel
theorem dM_format_10 : decode kM_format 10 = .ok (.invokevirtual 249, 3) := by decide +kernel
theorem dM_format_13 : decode kM_format 13 = .ok (.istore_n 2, 1) := by decide +kernel
theorem dM_format_14 : decode kM_format 14 = .ok (.aload_n 0, 1) := by decide +kernel
theorem dM_format_15 : decode kM_format 15 = .ok (.iconst 2, 1) := by decide +kernel
theorem dM_format_16 : decode kM_format 16 = .ok (.invokevirtual 249, 3) := by decide +kernel
theorem dM_format_19 : decode kM_format 19 = .ok (.istore_n 3, 1) := by decide +kernel
theorem dM_format_20 : decode kM_format 20 = .ok (.aload_n 0, 1) := by decide +kernel
theorem dM_format_21 : decode kM_format 21 = .ok (.getfield 243, 3) := by decide +kernel
theorem dM_format_24 : decode kM_format 24 = .ok (.ifCond .ne 8, 3) := by decide +kernel
theorem dM_format_27 : decode kM_format 27 = .ok (.iload_n 2, 1) := by decide +kernel
theorem dM_format_28 : decode kM_format 28 = .ok (.iload_n 3, 1) := by decide +kernel
theorem dM_format_29 : decode kM_format 29 = .ok (.if_icmp .le 5, 3) := by decide +kernel
theorem dM_format_32 : decode kM_format 32 = .ok (.iconst 0, 1) := by decide +kernel
theorem dM_format_33 : decode kM_format 33 = .ok (.ireturn, 1) := by decide +kernel
theorem dM_format_34 : decode kM_format 34 = .ok (.aload_n 0, 1) := by decide +kernel
theorem dM_format_35 : decode kM_format 35 = .ok (.iload_n 1, 1) := by decide +kernel
theorem dM_format_36 : decode kM_format 36 = .ok (.putfield 265, 3) := by decide +kernel
theorem dM_format_39 : decode kM_format 39 = .ok (.aload_n 0, 1) := by decide +kernel
theorem dM_format_40 : decode kM_format 40 = .ok (.bipush 8, 2) := by decide +kernel
theorem dM_format_42 : decode kM_format 42 = .ok (.iload_n 2, 1) := by decide +kernel
theorem dM_format_43 : decode kM_format 43 = .ok (.ishl, 1) := by decide +kernel
theorem dM_format_44 : decode kM_format 44 = .ok (.putfield 268, 3) := by decide +kernel
theorem dM_format_47 : decode kM_format 47 = .ok (.aload_n 0, 1) := by decide +kernel
theorem dM_format_48 : decode kM_format 48 = .ok (.bipush 8, 2) := by decide +kernel
theorem dM_format_50 : decode kM_format 50 = .ok (.iload_n 3, 1) := by decide +kernel
theorem dM_format_51 : decode kM_format 51 = .ok (.ishl, 1) := by decide +kernel
theorem dM_format_52 : decode kM_format 52 = .ok (.putfield 271, 3) := by decide +kernel
theorem dM_format_55 : decode kM_format 55 = .ok (.aload_n 0, 1) := by decide +kernel
theorem dM_format_56 : decode kM_format 56 = .ok (.iconst (-1), 1) := by decide +kernel
theorem dM_format_57 : decode kM_format 57 = .ok (.putfield 104, 3) := by decide +kernel
theorem dM_format_60 : decode kM_format 60 = .ok (.aload_n 0, 1) := by decide +kernel
theorem dM_format_61 : decode kM_format 61 = .ok (.iconst 0, 1) := by decide +kernel
theorem dM_format_62 : decode kM_format 62 = .ok (.putfield 274, 3) := by decide +kernel
theorem dM_format_65 : decode kM_format 65 = .ok (.aload_n 0, 1) := by decide +kernel
theorem dM_format_66 : decode kM_format 66 = .ok (.iconst 0, 1) := by decide +kernel
theorem dM_format_67 : decode kM_format 67 = .ok (.putfield 277, 3) := by decide +kernel
theorem dM_format_70 : decode kM_format 70 = .ok (.iconst 1, 1) := by decide +kernel
theorem dM_format_71 : decode kM_format 71 = .ok (.ireturn, 1) := by decide +kernel
def wp_M_format (θ : TH) (a0 : Nat) (V : VT) (U : UT) (K : Int32 → VT → UT → Prop) : Prop := isO θ a0 12 ∧ wp_M_read θ a0 (1 : Int32) V U (fun r_4 V_1 U_2 => ∀ y_5 : Int32, y_5 = (r_4 + (1 : Int32)) → wp_M_read θ a0 (2 : Int32) V_1 U_2 (fun r_8 V_6 U_7 => wp_M_read θ a0 (2 : Int32) V_6 U_7 (fun r_11 V_9 U_10 => ((¬ (V_9 a0 40) = 0 → K (0 : Int32) V_9 U_10) ∧ ((V_9 a0 40) = 0 → ((r_8 ≤ r_11 → ∀ V_14 : VT, V_14 = up2 V_9 a0 41 y_5 → ∀ V_15 : VT, V_15 = up2 V_14 a0 42 ((8 : Int32) <<< (r_8 &&& 31)) → ∀ V_16 : VT, V_16 = up2 V_15 a0 43 ((8 : Int32) <<< (r_11 &&& 31)) → ∀ V_17 : VT, V_17 = up2 V_16 a0 53 (-1 : Int32) → ∀ V_18 : VT, V_18 = up2 V_17 a0 54 (0 : Int32) → ∀ V_19 : VT, V_19 = up2 V_18 a0 68 (0 : Int32) → K (1 : Int32) V_19 U_10) ∧ (¬ r_8 ≤ r_11 → K (0 : Int32) V_9 U_10)))))))
set_option maxRecDepth 100000 in
set_option maxHeartbeats 4000000 in
theorem c_M_format (l : Launch) (θ : TH) (a0 : Nat) (V : VT) (U : UT) (K : Int32 → VT → UT → Prop) (hw : wp_M_format θ a0 V U K) : CMi l yM_format kM_format 4 (some .boolean) rmM_format θ [.ref a0] V U K := by
  refine g_met nRM (by decide +kernel) rfl (Nat.le_of_ble_eq_true rfl) (fun p e s m args below meth c ls hC hr hlk hwo hl => ?_)
  have hx := hC.1
  have hb := hC.2.1
  have hS : Sx θ s s.heap [] := va_S.rf
  have hl : lv_has ls 4 [(0, .ref a0)] := hl
  unfold wp_M_format at hw
  refine lv_aload_n hx hb dM_format_0 rfl (lv_at hl 0 rfl) ?_
  refine lv_iconst (v := 1) hx hb dM_format_1 (by decide) ?_
  obtain ⟨ho_3, hw⟩ := hw
  refine g_Vi (rest := []) hC (c_M_read l θ _ _ _ _ _ hw) mi_M_read mlM_249 mv_M_read ci_12 ho_3 hwo hS ⟨rfl, rfl⟩ ⟨by decide, by decide⟩ rfl hl.1 rfl (Nat.le_of_ble_eq_true rfl) dM_format_2 (fun r_4 V_1 U_2 hw H locs hwo hS => ?_)
  refine lv_iconst (v := 1) hx hb dM_format_5 (by decide) ?_
  refine lv_iadd hx hb dM_format_6 ?_
  refine lv_topi (fun y_5 ey_5 => ?_)
  replace hw := hw y_5 ey_5
  refine lv_istore_n (i := 1) (lv' := [(1, .int y_5), (0, .ref a0)]) hx hb dM_format_7 rfl hl (by decide) rfl (fun ls hl => ?_)
  refine lv_aload_n hx hb dM_format_8 rfl (lv_at hl 1 rfl) ?_
  refine lv_iconst (v := 2) hx hb dM_format_9 (by decide) ?_
  refine g_Vi (rest := []) hC (c_M_read l θ _ _ _ _ _ hw) mi_M_read mlM_249 mv_M_read ci_12 ho_3 hwo hS ⟨rfl, rfl⟩ ⟨by decide, by decide⟩ rfl hl.1 rfl (Nat.le_of_ble_eq_true rfl) dM_format_10 (fun r_8 V_6 U_7 hw H locs hwo hS => ?_)
  refine lv_istore_n (i := 2) (lv' := [(2, .int r_8), (1, .int y_5), (0, .ref a0)]) hx hb dM_format_13 rfl hl (by decide) rfl (fun ls hl => ?_)
  refine lv_aload_n hx hb dM_format_14 rfl (lv_at hl 2 rfl) ?_
  refine lv_iconst (v := 2) hx hb dM_format_15 (by decide) ?_
  refine g_Vi (rest := []) hC (c_M_read l θ _ _ _ _ _ hw) mi_M_read mlM_249 mv_M_read ci_12 ho_3 hwo hS ⟨rfl, rfl⟩ ⟨by decide, by decide⟩ rfl hl.1 rfl (Nat.le_of_ble_eq_true rfl) dM_format_16 (fun r_11 V_9 U_10 hw H locs hwo hS => ?_)
  refine lv_istore_n (i := 3) (lv' := [(3, .int r_11), (2, .int r_8), (1, .int y_5), (0, .ref a0)]) hx hb dM_format_19 rfl hl (by decide) rfl (fun ls hl => ?_)
  refine lv_aload_n hx hb dM_format_20 rfl (lv_at hl 3 rfl) ?_
  refine g_getI hC fkM_243 rfl hwo ho_3 dM_format_21 ?_
  refine lv_if_ne (tgt := 32) hx hb dM_format_24 (by decide) (fun hc_12 => ?_) (fun hc_12 => ?_)
  · replace hw := hw.1 hc_12
    refine lv_iconst (v := 0) hx hb dM_format_32 (by decide) ?_
    exact g_zret hC hr hlk (Or.inl rfl) hw hwo hS dM_format_33
  · replace hw := hw.2 hc_12
    refine lv_iload_n hx hb dM_format_27 rfl (lv_at hl 1 rfl) ?_
    refine lv_iload_n hx hb dM_format_28 rfl (lv_at hl 0 rfl) ?_
    refine lv_icmp_le (tgt := 34) hx hb dM_format_29 (by decide) (fun hc_13 => ?_) (fun hc_13 => ?_)
    · replace hw := hw.1 hc_13
      refine lv_aload_n hx hb dM_format_34 rfl (lv_at hl 3 rfl) ?_
      refine lv_iload_n hx hb dM_format_35 rfl (lv_at hl 2 rfl) ?_
      refine g_putI hC fkM_265 rfl hwo hS ho_3 dM_format_36 (fun V_14 eV_14 H locs hwo hS => ?_)
      replace hw := hw V_14 eV_14
      refine lv_aload_n hx hb dM_format_39 rfl (lv_at hl 3 rfl) ?_
      refine lv_bipush (v := 8) hx hb dM_format_40 (by decide) ?_
      refine lv_iload_n hx hb dM_format_42 rfl (lv_at hl 1 rfl) ?_
      refine lv_ishl hx hb dM_format_43 ?_
      refine g_putI hC fkM_268 rfl hwo hS ho_3 dM_format_44 (fun V_15 eV_15 H locs hwo hS => ?_)
      replace hw := hw V_15 eV_15
      refine lv_aload_n hx hb dM_format_47 rfl (lv_at hl 3 rfl) ?_
      refine lv_bipush (v := 8) hx hb dM_format_48 (by decide) ?_
      refine lv_iload_n hx hb dM_format_50 rfl (lv_at hl 0 rfl) ?_
      refine lv_ishl hx hb dM_format_51 ?_
      refine g_putI hC fkM_271 rfl hwo hS ho_3 dM_format_52 (fun V_16 eV_16 H locs hwo hS => ?_)
      replace hw := hw V_16 eV_16
      refine lv_aload_n hx hb dM_format_55 rfl (lv_at hl 3 rfl) ?_
      refine lv_iconst (v := -1) hx hb dM_format_56 (by decide) ?_
      refine g_putI hC fkM_104 rfl hwo hS ho_3 dM_format_57 (fun V_17 eV_17 H locs hwo hS => ?_)
      replace hw := hw V_17 eV_17
      refine lv_aload_n hx hb dM_format_60 rfl (lv_at hl 3 rfl) ?_
      refine lv_iconst (v := 0) hx hb dM_format_61 (by decide) ?_
      refine g_putZ hC fkM_274 rfl hwo hS ho_3 (Or.inl rfl) dM_format_62 (fun V_18 eV_18 H locs hwo hS => ?_)
      replace hw := hw V_18 eV_18
      refine lv_aload_n hx hb dM_format_65 rfl (lv_at hl 3 rfl) ?_
      refine lv_iconst (v := 0) hx hb dM_format_66 (by decide) ?_
      refine g_putI hC fkM_277 rfl hwo hS ho_3 dM_format_67 (fun V_19 eV_19 H locs hwo hS => ?_)
      replace hw := hw V_19 eV_19
      refine lv_iconst (v := 1) hx hb dM_format_70 (by decide) ?_
      exact g_zret hC hr hlk (Or.inr rfl) hw hwo hS dM_format_71
    · replace hw := hw.2 hc_13
      refine lv_iconst (v := 0) hx hb dM_format_32 (by decide) ?_
      exact g_zret hC hr hlk (Or.inl rfl) hw hwo hS dM_format_33
theorem dM_ordered_0 : decode kM_ordered 0 = .ok (.aload_n 0, 1) := by decide +kernel
theorem dM_ordered_1 : decode kM_ordered 1 = .ok (.iconst 3, 1) := by decide +kernel
theorem dM_ordered_2 : decode kM_ordered 2 = .ok (.invokevirtual 249, 3) := by decide +kernel
theorem dM_ordered_5 : decode kM_ordered 5 = .ok (.iconst 1, 1) := by decide +kernel
theorem dM_ordered_6 : decode kM_ordered 6 = .ok (.iadd, 1) := by decide +kernel
theorem dM_ordered_7 : decode kM_ordered 7 = .ok (.istore_n 3, 1) := by decide +kernel
theorem dM_ordered_8 : decode kM_ordered 8 = .ok (.iconst 0, 1) := by decide +kernel
theorem dM_ordered_9 : decode kM_ordered 9 = .ok (.istore 4, 2) := by decide +kernel
theorem dM_ordered_11 : decode kM_ordered 11 = .ok (.iload 4, 2) := by decide +kernel
theorem dM_ordered_13 : decode kM_ordered 13 = .ok (.iload_n 2, 1) := by decide +kernel
theorem dM_ordered_14 : decode kM_ordered 14 = .ok (.if_icmp .ge 106, 3) := by decide +kernel
theorem dM_ordered_17 : decode kM_ordered 17 = .ok (.iload_n 2, 1) := by decide +kernel
theorem dM_ordered_18 : decode kM_ordered 18 = .ok (.iload 4, 2) := by decide +kernel
theorem dM_ordered_20 : decode kM_ordered 20 = .ok (.isub, 1) := by decide +kernel
theorem dM_ordered_21 : decode kM_ordered 21 = .ok (.istore 5, 2) := by decide +kernel
theorem dM_ordered_23 : decode kM_ordered 23 = .ok (.iload 5, 2) := by decide +kernel
theorem dM_ordered_25 : decode kM_ordered 25 = .ok (.bipush 8, 2) := by decide +kernel
theorem dM_ordered_27 : decode kM_ordered 27 = .ok (.if_icmp .lt 7, 3) := by decide +kernel
theorem dM_ordered_30 : decode kM_ordered 30 = .ok (.iconst 4, 1) := by decide +kernel
theorem dM_ordered_31 : decode kM_ordered 31 = .ok (.goto 24, 3) := by decide +kernel
theorem dM_ordered_34 : decode kM_ordered 34 = .ok (.iload 5, 2) := by decide +kernel
theorem dM_ordered_36 : decode kM_ordered 36 = .ok (.iconst 4, 1) := by decide +kernel
theorem dM_ordered_37 : decode kM_ordered 37 = .ok (.if_icmp .lt 7, 3) := by decide +kernel
theorem dM_ordered_40 : decode kM_ordered 40 = .ok (.iconst 3, 1) := by decide +kernel
theorem dM_ordered_41 : decode kM_ordered 41 = .ok (.goto 14, 3) := by decide +kernel
theorem dM_ordered_44 : decode kM_ordered 44 = .ok (.iload 5, 2) := by decide +kernel
theorem dM_ordered_46 : decode kM_ordered 46 = .ok (.iconst 2, 1) := by decide +kernel
theorem dM_ordered_47 : decode kM_ordered 47 = .ok (.if_icmp .lt 7, 3) := by decide +kernel
theorem dM_ordered_50 : decode kM_ordered 50 = .ok (.iconst 2, 1) := by decide +kernel
theorem dM_ordered_51 : decode kM_ordered 51 = .ok (.goto 4, 3) := by decide +kernel
theorem dM_ordered_54 : decode kM_ordered 54 = .ok (.iconst 1, 1) := by decide +kernel
theorem dM_ordered_55 : decode kM_ordered 55 = .ok (.istore 6, 2) := by decide +kernel
theorem dM_ordered_57 : decode kM_ordered 57 = .ok (.iload_n 3, 1) := by decide +kernel
theorem dM_ordered_58 : decode kM_ordered 58 = .ok (.bipush 8, 2) := by decide +kernel
theorem dM_ordered_60 : decode kM_ordered 60 = .ok (.if_icmp .le 8, 3) := by decide +kernel
theorem dM_ordered_63 : decode kM_ordered 63 = .ok (.bipush 9, 2) := by decide +kernel
theorem dM_ordered_65 : decode kM_ordered 65 = .ok (.goto 9, 3) := by decide +kernel
theorem dM_ordered_68 : decode kM_ordered 68 = .ok (.aload_n 0, 1) := by decide +kernel
theorem dM_ordered_69 : decode kM_ordered 69 = .ok (.iload 6, 2) := by decide +kernel
theorem dM_ordered_71 : decode kM_ordered 71 = .ok (.invokevirtual 249, 3) := by decide +kernel
theorem dM_ordered_74 : decode kM_ordered 74 = .ok (.istore 7, 2) := by decide +kernel
theorem dM_ordered_76 : decode kM_ordered 76 = .ok (.iload 7, 2) := by decide +kernel
theorem dM_ordered_78 : decode kM_ordered 78 = .ok (.iload 5, 2) := by decide +kernel
theorem dM_ordered_80 : decode kM_ordered 80 = .ok (.if_icmp .le 5, 3) := by decide +kernel
theorem dM_ordered_83 : decode kM_ordered 83 = .ok (.iconst 0, 1) := by decide +kernel
theorem dM_ordered_84 : decode kM_ordered 84 = .ok (.ireturn, 1) := by decide +kernel
theorem dM_ordered_85 : decode kM_ordered 85 = .ok (.iconst 0, 1) := by decide +kernel
theorem dM_ordered_86 : decode kM_ordered 86 = .ok (.istore 8, 2) := by decide +kernel
theorem dM_ordered_88 : decode kM_ordered 88 = .ok (.iload 8, 2) := by decide +kernel
theorem dM_ordered_90 : decode kM_ordered 90 = .ok (.iload 7, 2) := by decide +kernel
theorem dM_ordered_92 : decode kM_ordered 92 = .ok (.if_icmp .ge 22, 3) := by decide +kernel
theorem dM_ordered_95 : decode kM_ordered 95 = .ok (.aload_n 0, 1) := by decide +kernel
theorem dM_ordered_96 : decode kM_ordered 96 = .ok (.getfield 86, 3) := by decide +kernel
theorem dM_ordered_99 : decode kM_ordered 99 = .ok (.iload_n 1, 1) := by decide +kernel
theorem dM_ordered_100 : decode kM_ordered 100 = .ok (.iload 4, 2) := by decide +kernel
theorem dM_ordered_102 : decode kM_ordered 102 = .ok (.iadd, 1) := by decide +kernel
theorem dM_ordered_103 : decode kM_ordered 103 = .ok (.iload_n 3, 1) := by decide +kernel
theorem dM_ordered_104 : decode kM_ordered 104 = .ok (.iastore, 1) := by decide +kernel
theorem dM_ordered_105 : decode kM_ordered 105 = .ok (.iinc 4 1, 3) := by decide +kernel
theorem dM_ordered_108 : decode kM_ordered 108 = .ok (.iinc 8 1, 3) := by decide +kernel
theorem dM_ordered_111 : decode kM_ordered 111 = .ok (.goto (-23), 3) := by decide +kernel
theorem dM_ordered_114 : decode kM_ordered 114 = .ok (.iinc 3 1, 3) := by decide +kernel
theorem dM_ordered_117 : decode kM_ordered 117 = .ok (.goto (-106), 3) := by decide +kernel
theorem dM_ordered_120 : decode kM_ordered 120 = .ok (.iconst 1, 1) := by decide +kernel
theorem dM_ordered_121 : decode kM_ordered 121 = .ok (.ireturn, 1) := by decide +kernel
def bl_M_ordered_88 (θ : TH) (a0_11 : Nat) (x1_11 : Int32) (x2_11 : Int32) (x3_88 : Int32) (x7_88 : Int32) (kb11 : Int32 → Int32 → VT → UT → Prop) (K : Int32 → VT → UT → Prop) (kb88 : Int32 → Int32 → VT → UT → Prop) (x4_88 : Int32) (x8_88 : Int32) (V : VT) (U : UT) : Prop := ((x7_88 ≤ x8_88 → ∀ y_18 : Int32, y_18 = x3_88 + (1 : Int32) → kb11 y_18 x4_88 V U) ∧ (¬ x7_88 ≤ x8_88 → isO θ a0_11 12 ∧ (U a0_11 47) ≠ 0 ∧ ∃ n_21, isA θ (U a0_11 47) 0 n_21 ∧ vp_in (x1_11 + x4_88) n_21 ∧ ∀ V_24 : VT, V_24 = up2 V (U a0_11 47) (x1_11 + x4_88).toNatClampNeg x3_88 → ∀ y_25 : Int32, y_25 = x4_88 + (1 : Int32) → ∀ y_26 : Int32, y_26 = x8_88 + (1 : Int32) → kb88 y_25 y_26 V_24 U))
def wl_M_ordered_88 (θ : TH) (a0_11 : Nat) (x1_11 : Int32) (x2_11 : Int32) (x3_88 : Int32) (x7_88 : Int32) (kb11 : Int32 → Int32 → VT → UT → Prop) (K : Int32 → VT → UT → Prop) : Nat → Int32 → Int32 → VT → UT → Prop
  | 0, _, _, _, _ => False
  | n + 1, x4_88, x8_88, V, U => bl_M_ordered_88 θ a0_11 x1_11 x2_11 x3_88 x7_88 kb11 K (wl_M_ordered_88 θ a0_11 x1_11 x2_11 x3_88 x7_88 kb11 K n) x4_88 x8_88 V U
def wb_M_ordered_74 (θ : TH) (a0_11 : Nat) (x1_11 : Int32) (x2_11 : Int32) (x3_74 : Int32) (x4_74 : Int32) (x5_74 : Int32) (z0_74 : Int32) (kb11 : Int32 → Int32 → VT → UT → Prop) (K : Int32 → VT → UT → Prop) (V : VT) (U : UT) : Prop := ((z0_74 ≤ x5_74 → ∃ n, wl_M_ordered_88 θ a0_11 x1_11 x2_11 x3_74 z0_74 kb11 K n x4_74 (0 : Int32) V U) ∧ (¬ z0_74 ≤ x5_74 → K (0 : Int32) V U))
def wb_M_ordered_55 (θ : TH) (a0_11 : Nat) (x1_11 : Int32) (x2_11 : Int32) (x3_55 : Int32) (x4_55 : Int32) (x5_55 : Int32) (z0_55 : Int32) (kb11 : Int32 → Int32 → VT → UT → Prop) (K : Int32 → VT → UT → Prop) (V : VT) (U : UT) : Prop := ((x3_55 ≤ (8 : Int32) → isO θ a0_11 12 ∧ wp_M_read θ a0_11 z0_55 V U (fun r_15 V_12 U_13 => wb_M_ordered_74 θ a0_11 x1_11 x2_11 x3_55 x4_55 x5_55 r_15 kb11 K V_12 U_13)) ∧ (¬ x3_55 ≤ (8 : Int32) → wb_M_ordered_74 θ a0_11 x1_11 x2_11 x3_55 x4_55 x5_55 (9 : Int32) kb11 K V U))
def bl_M_ordered_11 (θ : TH) (a0_11 : Nat) (x1_11 : Int32) (x2_11 : Int32) (K : Int32 → VT → UT → Prop) (kb11 : Int32 → Int32 → VT → UT → Prop) (x3_11 : Int32) (x4_11 : Int32) (V : VT) (U : UT) : Prop := ((x2_11 ≤ x4_11 → K (1 : Int32) V U) ∧ (¬ x2_11 ≤ x4_11 → ∀ y_7 : Int32, y_7 = (x2_11 - x4_11) → ((y_7 < (8 : Int32) → ((y_7 < (4 : Int32) → ((y_7 < (2 : Int32) → wb_M_ordered_55 θ a0_11 x1_11 x2_11 x3_11 x4_11 y_7 (1 : Int32) kb11 K V U) ∧ (¬ y_7 < (2 : Int32) → wb_M_ordered_55 θ a0_11 x1_11 x2_11 x3_11 x4_11 y_7 (2 : Int32) kb11 K V U))) ∧ (¬ y_7 < (4 : Int32) → wb_M_ordered_55 θ a0_11 x1_11 x2_11 x3_11 x4_11 y_7 (3 : Int32) kb11 K V U))) ∧ (¬ y_7 < (8 : Int32) → wb_M_ordered_55 θ a0_11 x1_11 x2_11 x3_11 x4_11 y_7 (4 : Int32) kb11 K V U))))
def wl_M_ordered_11 (θ : TH) (a0_11 : Nat) (x1_11 : Int32) (x2_11 : Int32) (K : Int32 → VT → UT → Prop) : Nat → Int32 → Int32 → VT → UT → Prop
  | 0, _, _, _, _ => False
  | n + 1, x3_11, x4_11, V, U => bl_M_ordered_11 θ a0_11 x1_11 x2_11 K (wl_M_ordered_11 θ a0_11 x1_11 x2_11 K n) x3_11 x4_11 V U
def wp_M_ordered (θ : TH) (a0 : Nat) (x1 : Int32) (x2 : Int32) (V : VT) (U : UT) (K : Int32 → VT → UT → Prop) : Prop := isO θ a0 12 ∧ wp_M_read θ a0 (3 : Int32) V U (fun r_4 V_1 U_2 => ∀ y_5 : Int32, y_5 = (r_4 + (1 : Int32)) → ∃ n, wl_M_ordered_11 θ a0 x1 x2 K n y_5 (0 : Int32) V_1 U_2)
set_option maxRecDepth 100000 in
set_option maxHeartbeats 4000000 in
theorem c_M_ordered (l : Launch) (θ : TH) (a0 : Nat) (x1 : Int32) (x2 : Int32) (V : VT) (U : UT) (K : Int32 → VT → UT → Prop) (hw : wp_M_ordered θ a0 x1 x2 V U K) : CMi l yM_ordered kM_ordered 9 (some .boolean) rmM_ordered θ [.ref a0, .int x1, .int x2] V U K := by
  refine g_met nRM (by decide +kernel) rfl (Nat.le_of_ble_eq_true rfl) (fun p e s m args below meth c ls hC hr hlk hwo hl => ?_)
  have hx := hC.1
  have hb := hC.2.1
  have hS : Sx θ s s.heap [] := va_S.rf
  have hl : lv_has ls 9 [(0, .ref a0), (1, .int x1), (2, .int x2)] := hl
  have L11 : ∀ (a0_11 : Nat) (x1_11 : Int32) (x2_11 : Int32) (n11 : Nat) (x3_11 : Int32) (x4_11 : Int32) (V : VT) (U : UT) (H : Heap) (locs : List Loc) (ls : Array Slot), wl_M_ordered_11 θ a0_11 x1_11 x2_11 K n11 x3_11 x4_11 V U → wo θ V U H → Sx θ s H locs → lv_has ls 9 [(0, .ref a0_11), (1, .int x1_11), (2, .int x2_11), (3, .int x3_11), (4, .int x4_11)] → W p l e rmM_ordered s m args below meth c H locs 0 0 (MQ below (QI θ K) args s 0 0 (aT θ)) (F0 m 11 ls []) := by
    intro a0_11 x1_11 x2_11 n11
    induction n11 with
    | zero => intro x3_11 x4_11 V U H locs ls hw hwo hS hl; exact (show False from hw).elim
    | succ n11 ih11 =>
      have L88 : ∀ (x3_88 : Int32) (x7_88 : Int32) (n88 : Nat) (x4_88 : Int32) (x8_88 : Int32) (V : VT) (U : UT) (H : Heap) (locs : List Loc) (ls : Array Slot), wl_M_ordered_88 θ a0_11 x1_11 x2_11 x3_88 x7_88 (wl_M_ordered_11 θ a0_11 x1_11 x2_11 K n11) K n88 x4_88 x8_88 V U → wo θ V U H → Sx θ s H locs → lv_has ls 9 [(0, .ref a0_11), (1, .int x1_11), (2, .int x2_11), (3, .int x3_88), (4, .int x4_88), (7, .int x7_88), (8, .int x8_88)] → W p l e rmM_ordered s m args below meth c H locs 0 0 (MQ below (QI θ K) args s 0 0 (aT θ)) (F0 m 88 ls []) := by
        intro x3_88 x7_88 n88
        induction n88 with
        | zero => intro x4_88 x8_88 V U H locs ls hw hwo hS hl; exact (show False from hw).elim
        | succ n88 ih88 =>
          intro x4_88 x8_88 V U H locs ls hw hwo hS hl
          replace hw : bl_M_ordered_88 θ a0_11 x1_11 x2_11 x3_88 x7_88 (wl_M_ordered_11 θ a0_11 x1_11 x2_11 K n11) K (wl_M_ordered_88 θ a0_11 x1_11 x2_11 x3_88 x7_88 (wl_M_ordered_11 θ a0_11 x1_11 x2_11 K n11) K n88) x4_88 x8_88 V U := hw
          unfold bl_M_ordered_88 at hw
          refine lv_iload hx hb dM_ordered_88 (lv_at hl 6 rfl) ?_
          refine lv_iload hx hb dM_ordered_90 (lv_at hl 5 rfl) ?_
          refine lv_icmp_ge (tgt := 114) hx hb dM_ordered_92 (by decide) (fun hc_17 => ?_) (fun hc_17 => ?_)
          · replace hw := hw.1 hc_17
            obtain ⟨y_18, ey_18⟩ : ∃ z : Int32, z = x3_88 + (1 : Int32) := ⟨_, rfl⟩
            replace hw := hw y_18 ey_18
            refine lv_iinc (k := 3) (v := y_18) (lv' := [(3, .int y_18), (0, .ref a0_11), (1, .int x1_11), (2, .int x2_11), (4, .int x4_88), (7, .int x7_88), (8, .int x8_88)]) hx hb dM_ordered_114 hl rfl (by rw [ey_18]; rfl) (by decide) rfl (fun ls hl => ?_)
            refine lv_goto (tgt := 11) hx hb dM_ordered_117 (by decide) ?_
            exact ih11 _ _ _ _ _ _ _ hw hwo hS (lv_sub hl [1, 2, 3, 0, 4] rfl)
          · replace hw := hw.2 hc_17
            refine lv_aload_n hx hb dM_ordered_95 rfl (lv_at hl 0 rfl) ?_
            obtain ⟨ho_19, hw⟩ := hw
            obtain ⟨hz_20, hw⟩ := hw
            refine g_getR hC fkM_86 rfl hwo ho_19 hz_20 dM_ordered_96 ?_
            refine lv_iload_n hx hb dM_ordered_99 rfl (lv_at hl 1 rfl) ?_
            refine lv_iload hx hb dM_ordered_100 (lv_at hl 4 rfl) ?_
            refine lv_iadd hx hb dM_ordered_102 ?_
            refine lv_iload_n hx hb dM_ordered_103 rfl (lv_at hl 3 rfl) ?_
            obtain ⟨n_21, ha_22, hw⟩ := hw
            obtain ⟨hi_23, hw⟩ := hw
            refine g_iast hC hwo hS ha_22 hi_23 dM_ordered_104 (fun V_24 eV_24 H locs hwo hS => ?_)
            replace hw := hw V_24 eV_24
            obtain ⟨y_25, ey_25⟩ : ∃ z : Int32, z = x4_88 + (1 : Int32) := ⟨_, rfl⟩
            replace hw := hw y_25 ey_25
            refine lv_iinc (k := 4) (v := y_25) (lv' := [(4, .int y_25), (0, .ref a0_11), (1, .int x1_11), (2, .int x2_11), (3, .int x3_88), (7, .int x7_88), (8, .int x8_88)]) hx hb dM_ordered_105 hl rfl (by rw [ey_25]; rfl) (by decide) rfl (fun ls hl => ?_)
            obtain ⟨y_26, ey_26⟩ : ∃ z : Int32, z = x8_88 + (1 : Int32) := ⟨_, rfl⟩
            replace hw := hw y_26 ey_26
            refine lv_iinc (k := 6) (v := y_26) (lv' := [(8, .int y_26), (4, .int y_25), (0, .ref a0_11), (1, .int x1_11), (2, .int x2_11), (3, .int x3_88), (7, .int x7_88)]) hx hb dM_ordered_108 hl rfl (by rw [ey_26]; rfl) (by decide) rfl (fun ls hl => ?_)
            refine lv_goto (tgt := 88) hx hb dM_ordered_111 (by decide) ?_
            exact ih88 _ _ _ _ _ _ _ hw hwo hS (lv_sub hl [2, 3, 4, 5, 1, 6, 0] rfl)
      have J74 : ∀ (x3_74 : Int32) (x4_74 : Int32) (x5_74 : Int32) (z0_74 : Int32) (V : VT) (U : UT) (H : Heap) (locs : List Loc) (ls : Array Slot), wb_M_ordered_74 θ a0_11 x1_11 x2_11 x3_74 x4_74 x5_74 z0_74 (wl_M_ordered_11 θ a0_11 x1_11 x2_11 K n11) K V U → wo θ V U H → Sx θ s H locs → lv_has ls 9 [(0, .ref a0_11), (1, .int x1_11), (2, .int x2_11), (3, .int x3_74), (4, .int x4_74), (5, .int x5_74)] → W p l e rmM_ordered s m args below meth c H locs 0 0 (MQ below (QI θ K) args s 0 0 (aT θ)) (F0 m 74 ls [.int z0_74]) := by
        intro x3_74 x4_74 x5_74 z0_74 V U H locs ls hw hwo hS hl
        unfold wb_M_ordered_74 at hw
        refine lv_istore (i := 7) (lv' := [(7, .int z0_74), (0, .ref a0_11), (1, .int x1_11), (2, .int x2_11), (3, .int x3_74), (4, .int x4_74), (5, .int x5_74)]) hx hb dM_ordered_74 hl (by decide) rfl (fun ls hl => ?_)
        refine lv_iload hx hb dM_ordered_76 (lv_at hl 0 rfl) ?_
        refine lv_iload hx hb dM_ordered_78 (lv_at hl 6 rfl) ?_
        refine lv_icmp_le (tgt := 85) hx hb dM_ordered_80 (by decide) (fun hc_16 => ?_) (fun hc_16 => ?_)
        · replace hw := hw.1 hc_16
          refine lv_iconst (v := 0) hx hb dM_ordered_85 (by decide) ?_
          refine lv_istore (i := 8) (lv' := [(8, .int (0 : Int32)), (7, .int z0_74), (0, .ref a0_11), (1, .int x1_11), (2, .int x2_11), (3, .int x3_74), (4, .int x4_74), (5, .int x5_74)]) hx hb dM_ordered_86 hl (by decide) rfl (fun ls hl => ?_)
          obtain ⟨n, hw⟩ := hw
          exact L88 _ _ n _ _ _ _ _ _ _ hw hwo hS (lv_sub hl [2, 3, 4, 5, 6, 1, 0] rfl)
        · replace hw := hw.2 hc_16
          refine lv_iconst (v := 0) hx hb dM_ordered_83 (by decide) ?_
          exact g_zret hC hr hlk (Or.inl rfl) hw hwo hS dM_ordered_84
      have J55 : ∀ (x3_55 : Int32) (x4_55 : Int32) (x5_55 : Int32) (z0_55 : Int32) (V : VT) (U : UT) (H : Heap) (locs : List Loc) (ls : Array Slot), wb_M_ordered_55 θ a0_11 x1_11 x2_11 x3_55 x4_55 x5_55 z0_55 (wl_M_ordered_11 θ a0_11 x1_11 x2_11 K n11) K V U → wo θ V U H → Sx θ s H locs → lv_has ls 9 [(0, .ref a0_11), (1, .int x1_11), (2, .int x2_11), (3, .int x3_55), (4, .int x4_55), (5, .int x5_55)] → W p l e rmM_ordered s m args below meth c H locs 0 0 (MQ below (QI θ K) args s 0 0 (aT θ)) (F0 m 55 ls [.int z0_55]) := by
        intro x3_55 x4_55 x5_55 z0_55 V U H locs ls hw hwo hS hl
        unfold wb_M_ordered_55 at hw
        refine lv_istore (i := 6) (lv' := [(6, .int z0_55), (0, .ref a0_11), (1, .int x1_11), (2, .int x2_11), (3, .int x3_55), (4, .int x4_55), (5, .int x5_55)]) hx hb dM_ordered_55 hl (by decide) rfl (fun ls hl => ?_)
        refine lv_iload_n hx hb dM_ordered_57 rfl (lv_at hl 4 rfl) ?_
        refine lv_bipush (v := 8) hx hb dM_ordered_58 (by decide) ?_
        refine lv_icmp_le (tgt := 68) hx hb dM_ordered_60 (by decide) (fun hc_11 => ?_) (fun hc_11 => ?_)
        · replace hw := hw.1 hc_11
          refine lv_aload_n hx hb dM_ordered_68 rfl (lv_at hl 1 rfl) ?_
          refine lv_iload hx hb dM_ordered_69 (lv_at hl 0 rfl) ?_
          obtain ⟨ho_14, hw⟩ := hw
          refine g_Vi (rest := []) hC (c_M_read l θ _ _ _ _ _ hw) mi_M_read mlM_249 mv_M_read ci_12 ho_14 hwo hS ⟨rfl, rfl⟩ ⟨by decide, by decide⟩ rfl hl.1 rfl (Nat.le_of_ble_eq_true rfl) dM_ordered_71 (fun r_15 V_12 U_13 hw H locs hwo hS => ?_)
          exact J74 _ _ _ _ _ _ _ _ _ hw hwo hS (lv_sub hl [1, 2, 3, 4, 5, 6] rfl)
        · replace hw := hw.2 hc_11
          refine lv_bipush (v := 9) hx hb dM_ordered_63 (by decide) ?_
          refine lv_goto (tgt := 74) hx hb dM_ordered_65 (by decide) ?_
          exact J74 _ _ _ _ _ _ _ _ _ hw hwo hS (lv_sub hl [1, 2, 3, 4, 5, 6] rfl)
      intro x3_11 x4_11 V U H locs ls hw hwo hS hl
      replace hw : bl_M_ordered_11 θ a0_11 x1_11 x2_11 K (wl_M_ordered_11 θ a0_11 x1_11 x2_11 K n11) x3_11 x4_11 V U := hw
      unfold bl_M_ordered_11 at hw
      refine lv_iload hx hb dM_ordered_11 (lv_at hl 4 rfl) ?_
      refine lv_iload_n hx hb dM_ordered_13 rfl (lv_at hl 2 rfl) ?_
      refine lv_icmp_ge (tgt := 120) hx hb dM_ordered_14 (by decide) (fun hc_6 => ?_) (fun hc_6 => ?_)
      · replace hw := hw.1 hc_6
        refine lv_iconst (v := 1) hx hb dM_ordered_120 (by decide) ?_
        exact g_zret hC hr hlk (Or.inr rfl) hw hwo hS dM_ordered_121
      · replace hw := hw.2 hc_6
        refine lv_iload_n hx hb dM_ordered_17 rfl (lv_at hl 2 rfl) ?_
        refine lv_iload hx hb dM_ordered_18 (lv_at hl 4 rfl) ?_
        refine lv_isub hx hb dM_ordered_20 ?_
        refine lv_topi (fun y_7 ey_7 => ?_)
        replace hw := hw y_7 ey_7
        refine lv_istore (i := 5) (lv' := [(5, .int y_7), (0, .ref a0_11), (1, .int x1_11), (2, .int x2_11), (3, .int x3_11), (4, .int x4_11)]) hx hb dM_ordered_21 hl (by decide) rfl (fun ls hl => ?_)
        refine lv_iload hx hb dM_ordered_23 (lv_at hl 0 rfl) ?_
        refine lv_bipush (v := 8) hx hb dM_ordered_25 (by decide) ?_
        refine lv_icmp_lt (tgt := 34) hx hb dM_ordered_27 (by decide) (fun hc_8 => ?_) (fun hc_8 => ?_)
        · replace hw := hw.1 hc_8
          refine lv_iload hx hb dM_ordered_34 (lv_at hl 0 rfl) ?_
          refine lv_iconst (v := 4) hx hb dM_ordered_36 (by decide) ?_
          refine lv_icmp_lt (tgt := 44) hx hb dM_ordered_37 (by decide) (fun hc_9 => ?_) (fun hc_9 => ?_)
          · replace hw := hw.1 hc_9
            refine lv_iload hx hb dM_ordered_44 (lv_at hl 0 rfl) ?_
            refine lv_iconst (v := 2) hx hb dM_ordered_46 (by decide) ?_
            refine lv_icmp_lt (tgt := 54) hx hb dM_ordered_47 (by decide) (fun hc_10 => ?_) (fun hc_10 => ?_)
            · replace hw := hw.1 hc_10
              refine lv_iconst (v := 1) hx hb dM_ordered_54 (by decide) ?_
              exact J55 _ _ _ _ _ _ _ _ _ hw hwo hS (lv_sub hl [1, 2, 3, 4, 5, 0] rfl)
            · replace hw := hw.2 hc_10
              refine lv_iconst (v := 2) hx hb dM_ordered_50 (by decide) ?_
              refine lv_goto (tgt := 55) hx hb dM_ordered_51 (by decide) ?_
              exact J55 _ _ _ _ _ _ _ _ _ hw hwo hS (lv_sub hl [1, 2, 3, 4, 5, 0] rfl)
          · replace hw := hw.2 hc_9
            refine lv_iconst (v := 3) hx hb dM_ordered_40 (by decide) ?_
            refine lv_goto (tgt := 55) hx hb dM_ordered_41 (by decide) ?_
            exact J55 _ _ _ _ _ _ _ _ _ hw hwo hS (lv_sub hl [1, 2, 3, 4, 5, 0] rfl)
        · replace hw := hw.2 hc_8
          refine lv_iconst (v := 4) hx hb dM_ordered_30 (by decide) ?_
          refine lv_goto (tgt := 55) hx hb dM_ordered_31 (by decide) ?_
          exact J55 _ _ _ _ _ _ _ _ _ hw hwo hS (lv_sub hl [1, 2, 3, 4, 5, 0] rfl)
  unfold wp_M_ordered at hw
  refine lv_aload_n hx hb dM_ordered_0 rfl (lv_at hl 0 rfl) ?_
  refine lv_iconst (v := 3) hx hb dM_ordered_1 (by decide) ?_
  obtain ⟨ho_3, hw⟩ := hw
  refine g_Vi (rest := []) hC (c_M_read l θ _ _ _ _ _ hw) mi_M_read mlM_249 mv_M_read ci_12 ho_3 hwo hS ⟨rfl, rfl⟩ ⟨by decide, by decide⟩ rfl hl.1 rfl (Nat.le_of_ble_eq_true rfl) dM_ordered_2 (fun r_4 V_1 U_2 hw H locs hwo hS => ?_)
  refine lv_iconst (v := 1) hx hb dM_ordered_5 (by decide) ?_
  refine lv_iadd hx hb dM_ordered_6 ?_
  refine lv_topi (fun y_5 ey_5 => ?_)
  replace hw := hw y_5 ey_5
  refine lv_istore_n (i := 3) (lv' := [(3, .int y_5), (0, .ref a0), (1, .int x1), (2, .int x2)]) hx hb dM_ordered_7 rfl hl (by decide) rfl (fun ls hl => ?_)
  refine lv_iconst (v := 0) hx hb dM_ordered_8 (by decide) ?_
  refine lv_istore (i := 4) (lv' := [(4, .int (0 : Int32)), (3, .int y_5), (0, .ref a0), (1, .int x1), (2, .int x2)]) hx hb dM_ordered_9 hl (by decide) rfl (fun ls hl => ?_)
  obtain ⟨n, hw⟩ := hw
  exact L11 _ _ _ n _ _ _ _ _ _ _ hw hwo hS (lv_sub hl [2, 3, 4, 1, 0] rfl)
theorem dM_plainLengths_0 : decode kM_plainLengths 0 = .ok (.aload_n 0, 1) := by decide +kernel
theorem dM_plainLengths_1 : decode kM_plainLengths 1 = .ok (.iconst 1, 1) := by decide +kernel
theorem dM_plainLengths_2 : decode kM_plainLengths 2 = .ok (.invokevirtual 249, 3) := by decide +kernel
theorem dM_plainLengths_5 : decode kM_plainLengths 5 = .ok (.iconst 1, 1) := by decide +kernel
theorem dM_plainLengths_6 : decode kM_plainLengths 6 = .ok (.if_icmp .ne 7, 3) := by decide +kernel
theorem dM_plainLengths_9 : decode kM_plainLengths 9 = .ok (.iconst 1, 1) := by decide +kernel
theorem dM_plainLengths_10 : decode kM_plainLengths 10 = .ok (.goto 4, 3) := by decide +kernel
theorem dM_plainLengths_13 : decode kM_plainLengths 13 = .ok (.iconst 0, 1) := by decide +kernel
theorem dM_plainLengths_14 : decode kM_plainLengths 14 = .ok (.istore_n 3, 1) := by decide +kernel
theorem dM_plainLengths_15 : decode kM_plainLengths 15 = .ok (.iconst 0, 1) := by decide +kernel
theorem dM_plainLengths_16 : decode kM_plainLengths 16 = .ok (.istore 4, 2) := by decide +kernel
theorem dM_plainLengths_18 : decode kM_plainLengths 18 = .ok (.iload 4, 2) := by decide +kernel
theorem dM_plainLengths_20 : decode kM_plainLengths 20 = .ok (.iload_n 2, 1) := by decide +kernel
theorem dM_plainLengths_21 : decode kM_plainLengths 21 = .ok (.if_icmp .ge 54, 3) := by decide +kernel
theorem dM_plainLengths_24 : decode kM_plainLengths 24 = .ok (.iload_n 3, 1) := by decide +kernel
theorem dM_plainLengths_25 : decode kM_plainLengths 25 = .ok (.ifCond .eq 12, 3) := by decide +kernel
theorem dM_plainLengths_28 : decode kM_plainLengths 28 = .ok (.aload_n 0, 1) := by decide +kernel
theorem dM_plainLengths_29 : decode kM_plainLengths 29 = .ok (.iconst 1, 1) := by decide +kernel
theorem dM_plainLengths_30 : decode kM_plainLengths 30 = .ok (.invokevirtual 249, 3) := by decide +kernel
theorem dM_plainLengths_33 : decode kM_plainLengths 33 = .ok (.iconst 1, 1) := by decide +kernel
theorem dM_plainLengths_34 : decode kM_plainLengths 34 = .ok (.if_icmp .ne 7, 3) := by decide +kernel
theorem dM_plainLengths_37 : decode kM_plainLengths 37 = .ok (.iconst 1, 1) := by decide +kernel
theorem dM_plainLengths_38 : decode kM_plainLengths 38 = .ok (.goto 4, 3) := by decide +kernel
theorem dM_plainLengths_41 : decode kM_plainLengths 41 = .ok (.iconst 0, 1) := by decide +kernel
theorem dM_plainLengths_42 : decode kM_plainLengths 42 = .ok (.istore 5, 2) := by decide +kernel
theorem dM_plainLengths_44 : decode kM_plainLengths 44 = .ok (.aload_n 0, 1) := by decide +kernel
theorem dM_plainLengths_45 : decode kM_plainLengths 45 = .ok (.getfield 86, 3) := by decide +kernel
theorem dM_plainLengths_48 : decode kM_plainLengths 48 = .ok (.iload_n 1, 1) := by decide +kernel
theorem dM_plainLengths_49 : decode kM_plainLengths 49 = .ok (.iload 4, 2) := by decide +kernel
theorem dM_plainLengths_51 : decode kM_plainLengths 51 = .ok (.iadd, 1) := by decide +kernel
theorem dM_plainLengths_52 : decode kM_plainLengths 52 = .ok (.iload 5, 2) := by decide +kernel
theorem dM_plainLengths_54 : decode kM_plainLengths 54 = .ok (.ifCond .eq 13, 3) := by decide +kernel
theorem dM_plainLengths_57 : decode kM_plainLengths 57 = .ok (.aload_n 0, 1) := by decide +kernel
theorem dM_plainLengths_58 : decode kM_plainLengths 58 = .ok (.iconst 3, 1) := by decide +kernel
theorem dM_plainLengths_59 : decode kM_plainLengths 59 = .ok (.invokevirtual 249, 3) := by decide +kernel
theorem dM_plainLengths_62 : decode kM_plainLengths 62 = .ok (.iconst 1, 1) := by decide +kernel
theorem dM_plainLengths_63 : decode kM_plainLengths 63 = .ok (.iadd, 1) := by decide +kernel
theorem dM_plainLengths_64 : decode kM_plainLengths 64 = .ok (.goto 4, 3) := by decide +kernel
theorem dM_plainLengths_67 : decode kM_plainLengths 67 = .ok (.iconst 0, 1) := by decide +kernel
theorem dM_plainLengths_68 : decode kM_plainLengths 68 = .ok (.iastore, 1) := by decide +kernel
theorem dM_plainLengths_69 : decode kM_plainLengths 69 = .ok (.iinc 4 1, 3) := by decide +kernel
theorem dM_plainLengths_72 : decode kM_plainLengths 72 = .ok (.goto (-54), 3) := by decide +kernel
theorem dM_plainLengths_75 : decode kM_plainLengths 75 = .ok (.iconst 1, 1) := by decide +kernel
theorem dM_plainLengths_76 : decode kM_plainLengths 76 = .ok (.ireturn, 1) := by decide +kernel
def wb_M_plainLengths_42 (θ : TH) (a0_18 : Nat) (x1_18 : Int32) (x2_18 : Int32) (x3_18 : Int32) (x4_42 : Int32) (z0_42 : Int32) (kb18 : Int32 → VT → UT → Prop) (K : Int32 → VT → UT → Prop) (V : VT) (U : UT) : Prop := isO θ a0_18 12 ∧ (U a0_18 47) ≠ 0 ∧ ((z0_42 = 0 → ∃ n_16, isA θ (U a0_18 47) 0 n_16 ∧ vp_in (x1_18 + x4_42) n_16 ∧ ∀ V_19 : VT, V_19 = up2 V (U a0_18 47) (x1_18 + x4_42).toNatClampNeg (0 : Int32) → ∀ y_20 : Int32, y_20 = x4_42 + (1 : Int32) → kb18 y_20 V_19 U) ∧ (¬ z0_42 = 0 → wp_M_read θ a0_18 (3 : Int32) V U (fun r_23 V_21 U_22 => ∃ n_24, isA θ (U a0_18 47) 0 n_24 ∧ vp_in (x1_18 + x4_42) n_24 ∧ ∀ V_27 : VT, V_27 = up2 V_21 (U a0_18 47) (x1_18 + x4_42).toNatClampNeg (r_23 + (1 : Int32)) → ∀ y_28 : Int32, y_28 = x4_42 + (1 : Int32) → kb18 y_28 V_27 U_22)))
def wb_M_plainLengths_37 (θ : TH) (a0_18 : Nat) (x1_18 : Int32) (x2_18 : Int32) (x3_18 : Int32) (x4_37 : Int32) (kb18 : Int32 → VT → UT → Prop) (K : Int32 → VT → UT → Prop) (V : VT) (U : UT) : Prop := wb_M_plainLengths_42 θ a0_18 x1_18 x2_18 x3_18 x4_37 (1 : Int32) kb18 K V U
def bl_M_plainLengths_18 (θ : TH) (a0_18 : Nat) (x1_18 : Int32) (x2_18 : Int32) (x3_18 : Int32) (K : Int32 → VT → UT → Prop) (kb18 : Int32 → VT → UT → Prop) (x4_18 : Int32) (V : VT) (U : UT) : Prop := ((x2_18 ≤ x4_18 → K (1 : Int32) V U) ∧ (¬ x2_18 ≤ x4_18 → ((x3_18 = 0 → wb_M_plainLengths_37 θ a0_18 x1_18 x2_18 x3_18 x4_18 kb18 K V U) ∧ (¬ x3_18 = 0 → isO θ a0_18 12 ∧ wp_M_read θ a0_18 (1 : Int32) V U (fun r_11 V_8 U_9 => ((¬ r_11 = (1 : Int32) → wb_M_plainLengths_42 θ a0_18 x1_18 x2_18 x3_18 x4_18 (0 : Int32) kb18 K V_8 U_9) ∧ (r_11 = (1 : Int32) → wb_M_plainLengths_37 θ a0_18 x1_18 x2_18 x3_18 x4_18 kb18 K V_8 U_9)))))))
def wl_M_plainLengths_18 (θ : TH) (a0_18 : Nat) (x1_18 : Int32) (x2_18 : Int32) (x3_18 : Int32) (K : Int32 → VT → UT → Prop) : Nat → Int32 → VT → UT → Prop
  | 0, _, _, _ => False
  | n + 1, x4_18, V, U => bl_M_plainLengths_18 θ a0_18 x1_18 x2_18 x3_18 K (wl_M_plainLengths_18 θ a0_18 x1_18 x2_18 x3_18 K n) x4_18 V U
def wp_M_plainLengths (θ : TH) (a0 : Nat) (x1 : Int32) (x2 : Int32) (V : VT) (U : UT) (K : Int32 → VT → UT → Prop) : Prop := isO θ a0 12 ∧ wp_M_read θ a0 (1 : Int32) V U (fun r_4 V_1 U_2 => ((¬ r_4 = (1 : Int32) → ∃ n, wl_M_plainLengths_18 θ a0 x1 x2 (0 : Int32) K n (0 : Int32) V_1 U_2) ∧ (r_4 = (1 : Int32) → ∃ n, wl_M_plainLengths_18 θ a0 x1 x2 (1 : Int32) K n (0 : Int32) V_1 U_2)))
set_option maxRecDepth 100000 in
set_option maxHeartbeats 4000000 in
theorem c_M_plainLengths (l : Launch) (θ : TH) (a0 : Nat) (x1 : Int32) (x2 : Int32) (V : VT) (U : UT) (K : Int32 → VT → UT → Prop) (hw : wp_M_plainLengths θ a0 x1 x2 V U K) : CMi l yM_plainLengths kM_plainLengths 6 (some .boolean) rmM_plainLengths θ [.ref a0, .int x1, .int x2] V U K := by
  refine g_met nRM (by decide +kernel) rfl (Nat.le_of_ble_eq_true rfl) (fun p e s m args below meth c ls hC hr hlk hwo hl => ?_)
  have hx := hC.1
  have hb := hC.2.1
  have hS : Sx θ s s.heap [] := va_S.rf
  have hl : lv_has ls 6 [(0, .ref a0), (1, .int x1), (2, .int x2)] := hl
  have L18 : ∀ (a0_18 : Nat) (x1_18 : Int32) (x2_18 : Int32) (x3_18 : Int32) (n18 : Nat) (x4_18 : Int32) (V : VT) (U : UT) (H : Heap) (locs : List Loc) (ls : Array Slot), wl_M_plainLengths_18 θ a0_18 x1_18 x2_18 x3_18 K n18 x4_18 V U → wo θ V U H → Sx θ s H locs → lv_has ls 6 [(0, .ref a0_18), (1, .int x1_18), (2, .int x2_18), (3, .int x3_18), (4, .int x4_18)] → W p l e rmM_plainLengths s m args below meth c H locs 0 0 (MQ below (QI θ K) args s 0 0 (aT θ)) (F0 m 18 ls []) := by
    intro a0_18 x1_18 x2_18 x3_18 n18
    induction n18 with
    | zero => intro x4_18 V U H locs ls hw hwo hS hl; exact (show False from hw).elim
    | succ n18 ih18 =>
      have J42 : ∀ (x4_42 : Int32) (z0_42 : Int32) (V : VT) (U : UT) (H : Heap) (locs : List Loc) (ls : Array Slot), wb_M_plainLengths_42 θ a0_18 x1_18 x2_18 x3_18 x4_42 z0_42 (wl_M_plainLengths_18 θ a0_18 x1_18 x2_18 x3_18 K n18) K V U → wo θ V U H → Sx θ s H locs → lv_has ls 6 [(0, .ref a0_18), (1, .int x1_18), (2, .int x2_18), (3, .int x3_18), (4, .int x4_42)] → W p l e rmM_plainLengths s m args below meth c H locs 0 0 (MQ below (QI θ K) args s 0 0 (aT θ)) (F0 m 42 ls [.int z0_42]) := by
        intro x4_42 z0_42 V U H locs ls hw hwo hS hl
        unfold wb_M_plainLengths_42 at hw
        refine lv_istore (i := 5) (lv' := [(5, .int z0_42), (0, .ref a0_18), (1, .int x1_18), (2, .int x2_18), (3, .int x3_18), (4, .int x4_42)]) hx hb dM_plainLengths_42 hl (by decide) rfl (fun ls hl => ?_)
        refine lv_aload_n hx hb dM_plainLengths_44 rfl (lv_at hl 1 rfl) ?_
        obtain ⟨ho_13, hw⟩ := hw
        obtain ⟨hz_14, hw⟩ := hw
        refine g_getR hC fkM_86 rfl hwo ho_13 hz_14 dM_plainLengths_45 ?_
        refine lv_iload_n hx hb dM_plainLengths_48 rfl (lv_at hl 2 rfl) ?_
        refine lv_iload hx hb dM_plainLengths_49 (lv_at hl 5 rfl) ?_
        refine lv_iadd hx hb dM_plainLengths_51 ?_
        refine lv_iload hx hb dM_plainLengths_52 (lv_at hl 0 rfl) ?_
        refine lv_if_eq (tgt := 67) hx hb dM_plainLengths_54 (by decide) (fun hc_15 => ?_) (fun hc_15 => ?_)
        · replace hw := hw.1 hc_15
          refine lv_iconst (v := 0) hx hb dM_plainLengths_67 (by decide) ?_
          obtain ⟨n_16, ha_17, hw⟩ := hw
          obtain ⟨hi_18, hw⟩ := hw
          refine g_iast hC hwo hS ha_17 hi_18 dM_plainLengths_68 (fun V_19 eV_19 H locs hwo hS => ?_)
          replace hw := hw V_19 eV_19
          obtain ⟨y_20, ey_20⟩ : ∃ z : Int32, z = x4_42 + (1 : Int32) := ⟨_, rfl⟩
          replace hw := hw y_20 ey_20
          refine lv_iinc (k := 5) (v := y_20) (lv' := [(4, .int y_20), (5, .int z0_42), (0, .ref a0_18), (1, .int x1_18), (2, .int x2_18), (3, .int x3_18)]) hx hb dM_plainLengths_69 hl rfl (by rw [ey_20]; rfl) (by decide) rfl (fun ls hl => ?_)
          refine lv_goto (tgt := 18) hx hb dM_plainLengths_72 (by decide) ?_
          exact ih18 _ _ _ _ _ _ hw hwo hS (lv_sub hl [2, 3, 4, 5, 0] rfl)
        · replace hw := hw.2 hc_15
          refine lv_aload_n hx hb dM_plainLengths_57 rfl (lv_at hl 1 rfl) ?_
          refine lv_iconst (v := 3) hx hb dM_plainLengths_58 (by decide) ?_
          refine g_Vi (rest := [.int (x1_18 + x4_42), .ref (U a0_18 47)]) hC (c_M_read l θ _ _ _ _ _ hw) mi_M_read mlM_249 mv_M_read ci_12 ho_13 hwo hS ⟨rfl, rfl⟩ ⟨by decide, by decide⟩ rfl hl.1 rfl (Nat.le_of_ble_eq_true rfl) dM_plainLengths_59 (fun r_23 V_21 U_22 hw H locs hwo hS => ?_)
          refine lv_iconst (v := 1) hx hb dM_plainLengths_62 (by decide) ?_
          refine lv_iadd hx hb dM_plainLengths_63 ?_
          refine lv_goto (tgt := 68) hx hb dM_plainLengths_64 (by decide) ?_
          obtain ⟨n_24, ha_25, hw⟩ := hw
          obtain ⟨hi_26, hw⟩ := hw
          refine g_iast hC hwo hS ha_25 hi_26 dM_plainLengths_68 (fun V_27 eV_27 H locs hwo hS => ?_)
          replace hw := hw V_27 eV_27
          obtain ⟨y_28, ey_28⟩ : ∃ z : Int32, z = x4_42 + (1 : Int32) := ⟨_, rfl⟩
          replace hw := hw y_28 ey_28
          refine lv_iinc (k := 5) (v := y_28) (lv' := [(4, .int y_28), (5, .int z0_42), (0, .ref a0_18), (1, .int x1_18), (2, .int x2_18), (3, .int x3_18)]) hx hb dM_plainLengths_69 hl rfl (by rw [ey_28]; rfl) (by decide) rfl (fun ls hl => ?_)
          refine lv_goto (tgt := 18) hx hb dM_plainLengths_72 (by decide) ?_
          exact ih18 _ _ _ _ _ _ hw hwo hS (lv_sub hl [2, 3, 4, 5, 0] rfl)
      have J37 : ∀ (x4_37 : Int32) (V : VT) (U : UT) (H : Heap) (locs : List Loc) (ls : Array Slot), wb_M_plainLengths_37 θ a0_18 x1_18 x2_18 x3_18 x4_37 (wl_M_plainLengths_18 θ a0_18 x1_18 x2_18 x3_18 K n18) K V U → wo θ V U H → Sx θ s H locs → lv_has ls 6 [(0, .ref a0_18), (1, .int x1_18), (2, .int x2_18), (3, .int x3_18), (4, .int x4_37)] → W p l e rmM_plainLengths s m args below meth c H locs 0 0 (MQ below (QI θ K) args s 0 0 (aT θ)) (F0 m 37 ls []) := by
        intro x4_37 V U H locs ls hw hwo hS hl
        unfold wb_M_plainLengths_37 at hw
        refine lv_iconst (v := 1) hx hb dM_plainLengths_37 (by decide) ?_
        refine lv_goto (tgt := 42) hx hb dM_plainLengths_38 (by decide) ?_
        exact J42 _ _ _ _ _ _ _ hw hwo hS (lv_sub hl [0, 1, 2, 3, 4] rfl)
      intro x4_18 V U H locs ls hw hwo hS hl
      replace hw : bl_M_plainLengths_18 θ a0_18 x1_18 x2_18 x3_18 K (wl_M_plainLengths_18 θ a0_18 x1_18 x2_18 x3_18 K n18) x4_18 V U := hw
      unfold bl_M_plainLengths_18 at hw
      refine lv_iload hx hb dM_plainLengths_18 (lv_at hl 4 rfl) ?_
      refine lv_iload_n hx hb dM_plainLengths_20 rfl (lv_at hl 2 rfl) ?_
      refine lv_icmp_ge (tgt := 75) hx hb dM_plainLengths_21 (by decide) (fun hc_6 => ?_) (fun hc_6 => ?_)
      · replace hw := hw.1 hc_6
        refine lv_iconst (v := 1) hx hb dM_plainLengths_75 (by decide) ?_
        exact g_zret hC hr hlk (Or.inr rfl) hw hwo hS dM_plainLengths_76
      · replace hw := hw.2 hc_6
        refine lv_iload_n hx hb dM_plainLengths_24 rfl (lv_at hl 3 rfl) ?_
        refine lv_if_eq (tgt := 37) hx hb dM_plainLengths_25 (by decide) (fun hc_7 => ?_) (fun hc_7 => ?_)
        · replace hw := hw.1 hc_7
          exact J37 _ _ _ _ _ _ hw hwo hS (lv_sub hl [0, 1, 2, 3, 4] rfl)
        · replace hw := hw.2 hc_7
          refine lv_aload_n hx hb dM_plainLengths_28 rfl (lv_at hl 0 rfl) ?_
          refine lv_iconst (v := 1) hx hb dM_plainLengths_29 (by decide) ?_
          obtain ⟨ho_10, hw⟩ := hw
          refine g_Vi (rest := []) hC (c_M_read l θ _ _ _ _ _ hw) mi_M_read mlM_249 mv_M_read ci_12 ho_10 hwo hS ⟨rfl, rfl⟩ ⟨by decide, by decide⟩ rfl hl.1 rfl (Nat.le_of_ble_eq_true rfl) dM_plainLengths_30 (fun r_11 V_8 U_9 hw H locs hwo hS => ?_)
          refine lv_iconst (v := 1) hx hb dM_plainLengths_33 (by decide) ?_
          refine lv_icmp_ne (tgt := 41) hx hb dM_plainLengths_34 (by decide) (fun hc_12 => ?_) (fun hc_12 => ?_)
          · replace hw := hw.1 hc_12
            refine lv_iconst (v := 0) hx hb dM_plainLengths_41 (by decide) ?_
            exact J42 _ _ _ _ _ _ _ hw hwo hS (lv_sub hl [0, 1, 2, 3, 4] rfl)
          · replace hw := hw.2 hc_12
            exact J37 _ _ _ _ _ _ hw hwo hS (lv_sub hl [0, 1, 2, 3, 4] rfl)
  unfold wp_M_plainLengths at hw
  refine lv_aload_n hx hb dM_plainLengths_0 rfl (lv_at hl 0 rfl) ?_
  refine lv_iconst (v := 1) hx hb dM_plainLengths_1 (by decide) ?_
  obtain ⟨ho_3, hw⟩ := hw
  refine g_Vi (rest := []) hC (c_M_read l θ _ _ _ _ _ hw) mi_M_read mlM_249 mv_M_read ci_12 ho_3 hwo hS ⟨rfl, rfl⟩ ⟨by decide, by decide⟩ rfl hl.1 rfl (Nat.le_of_ble_eq_true rfl) dM_plainLengths_2 (fun r_4 V_1 U_2 hw H locs hwo hS => ?_)
  refine lv_iconst (v := 1) hx hb dM_plainLengths_5 (by decide) ?_
  refine lv_icmp_ne (tgt := 13) hx hb dM_plainLengths_6 (by decide) (fun hc_5 => ?_) (fun hc_5 => ?_)
  · replace hw := hw.1 hc_5
    refine lv_iconst (v := 0) hx hb dM_plainLengths_13 (by decide) ?_
    refine lv_istore_n (i := 3) (lv' := [(3, .int (0 : Int32)), (0, .ref a0), (1, .int x1), (2, .int x2)]) hx hb dM_plainLengths_14 rfl hl (by decide) rfl (fun ls hl => ?_)
    refine lv_iconst (v := 0) hx hb dM_plainLengths_15 (by decide) ?_
    refine lv_istore (i := 4) (lv' := [(4, .int (0 : Int32)), (3, .int (0 : Int32)), (0, .ref a0), (1, .int x1), (2, .int x2)]) hx hb dM_plainLengths_16 hl (by decide) rfl (fun ls hl => ?_)
    obtain ⟨n, hw⟩ := hw
    exact L18 _ _ _ _ n _ _ _ _ _ _ hw hwo hS (lv_sub hl [2, 3, 4, 1, 0] rfl)
  · replace hw := hw.2 hc_5
    refine lv_iconst (v := 1) hx hb dM_plainLengths_9 (by decide) ?_
    refine lv_goto (tgt := 14) hx hb dM_plainLengths_10 (by decide) ?_
    refine lv_istore_n (i := 3) (lv' := [(3, .int (1 : Int32)), (0, .ref a0), (1, .int x1), (2, .int x2)]) hx hb dM_plainLengths_14 rfl hl (by decide) rfl (fun ls hl => ?_)
    refine lv_iconst (v := 0) hx hb dM_plainLengths_15 (by decide) ?_
    refine lv_istore (i := 4) (lv' := [(4, .int (0 : Int32)), (3, .int (1 : Int32)), (0, .ref a0), (1, .int x1), (2, .int x2)]) hx hb dM_plainLengths_16 hl (by decide) rfl (fun ls hl => ?_)
    obtain ⟨n, hw⟩ := hw
    exact L18 _ _ _ _ n _ _ _ _ _ _ hw hwo hS (lv_sub hl [2, 3, 4, 1, 0] rfl)
theorem dM_power_0 : decode kM_power 0 = .ok (.iconst 1, 1) := by decide +kernel
theorem dM_power_1 : decode kM_power 1 = .ok (.istore_n 2, 1) := by decide +kernel
theorem dM_power_2 : decode kM_power 2 = .ok (.iconst 0, 1) := by decide +kernel
theorem dM_power_3 : decode kM_power 3 = .ok (.istore_n 3, 1) := by decide +kernel
theorem dM_power_4 : decode kM_power 4 = .ok (.iload_n 3, 1) := by decide +kernel
theorem dM_power_5 : decode kM_power 5 = .ok (.iload_n 1, 1) := by decide +kernel
theorem dM_power_6 : decode kM_power 6 = .ok (.if_icmp .ge 13, 3) := by decide +kernel
theorem dM_power_9 : decode kM_power 9 = .ok (.iload_n 2, 1) := by decide +kernel
theorem dM_power_10 : decode kM_power 10 = .ok (.iload_n 0, 1) := by decide +kernel
theorem dM_power_11 : decode kM_power 11 = .ok (.imul, 1) := by decide +kernel
theorem dM_power_12 : decode kM_power 12 = .ok (.istore_n 2, 1) := by decide +kernel
theorem dM_power_13 : decode kM_power 13 = .ok (.iinc 3 1, 3) := by decide +kernel
theorem dM_power_16 : decode kM_power 16 = .ok (.goto (-12), 3) := by decide +kernel
theorem dM_power_19 : decode kM_power 19 = .ok (.iload_n 2, 1) := by decide +kernel
theorem dM_power_20 : decode kM_power 20 = .ok (.ireturn, 1) := by decide +kernel
def bl_M_power_4 (θ : TH) (x0_4 : Int32) (x1_4 : Int32) (K : Int32 → VT → UT → Prop) (kb4 : Int32 → Int32 → VT → UT → Prop) (x2_4 : Int32) (x3_4 : Int32) (V : VT) (U : UT) : Prop := ((x1_4 ≤ x3_4 → K x2_4 V U) ∧ (¬ x1_4 ≤ x3_4 → ∀ y_2 : Int32, y_2 = (x2_4 * x0_4) → ∀ y_3 : Int32, y_3 = x3_4 + (1 : Int32) → kb4 y_2 y_3 V U))
def wl_M_power_4 (θ : TH) (x0_4 : Int32) (x1_4 : Int32) (K : Int32 → VT → UT → Prop) : Nat → Int32 → Int32 → VT → UT → Prop
  | 0, _, _, _, _ => False
  | n + 1, x2_4, x3_4, V, U => bl_M_power_4 θ x0_4 x1_4 K (wl_M_power_4 θ x0_4 x1_4 K n) x2_4 x3_4 V U
def wp_M_power (θ : TH) (x0 : Int32) (x1 : Int32) (V : VT) (U : UT) (K : Int32 → VT → UT → Prop) : Prop := ∃ n, wl_M_power_4 θ x0 x1 K n (1 : Int32) (0 : Int32) V U
set_option maxRecDepth 100000 in
set_option maxHeartbeats 4000000 in
theorem c_M_power (l : Launch) (θ : TH) (x0 : Int32) (x1 : Int32) (V : VT) (U : UT) (K : Int32 → VT → UT → Prop) (hw : wp_M_power θ x0 x1 V U K) : CMi l yM_power kM_power 4 (some .int) rmM_power θ [.int x0, .int x1] V U K := by
  refine g_met nRM (by decide +kernel) rfl (Nat.le_of_ble_eq_true rfl) (fun p e s m args below meth c ls hC hr hlk hwo hl => ?_)
  have hx := hC.1
  have hb := hC.2.1
  have hS : Sx θ s s.heap [] := va_S.rf
  have hl : lv_has ls 4 [(0, .int x0), (1, .int x1)] := hl
  have L4 : ∀ (x0_4 : Int32) (x1_4 : Int32) (n4 : Nat) (x2_4 : Int32) (x3_4 : Int32) (V : VT) (U : UT) (H : Heap) (locs : List Loc) (ls : Array Slot), wl_M_power_4 θ x0_4 x1_4 K n4 x2_4 x3_4 V U → wo θ V U H → Sx θ s H locs → lv_has ls 4 [(0, .int x0_4), (1, .int x1_4), (2, .int x2_4), (3, .int x3_4)] → W p l e rmM_power s m args below meth c H locs 0 0 (MQ below (QI θ K) args s 0 0 (aT θ)) (F0 m 4 ls []) := by
    intro x0_4 x1_4 n4
    induction n4 with
    | zero => intro x2_4 x3_4 V U H locs ls hw hwo hS hl; exact (show False from hw).elim
    | succ n4 ih4 =>
      intro x2_4 x3_4 V U H locs ls hw hwo hS hl
      replace hw : bl_M_power_4 θ x0_4 x1_4 K (wl_M_power_4 θ x0_4 x1_4 K n4) x2_4 x3_4 V U := hw
      unfold bl_M_power_4 at hw
      refine lv_iload_n hx hb dM_power_4 rfl (lv_at hl 3 rfl) ?_
      refine lv_iload_n hx hb dM_power_5 rfl (lv_at hl 1 rfl) ?_
      refine lv_icmp_ge (tgt := 19) hx hb dM_power_6 (by decide) (fun hc_1 => ?_) (fun hc_1 => ?_)
      · replace hw := hw.1 hc_1
        refine lv_iload_n hx hb dM_power_19 rfl (lv_at hl 2 rfl) ?_
        exact g_iret hC hr hlk hw hwo hS dM_power_20
      · replace hw := hw.2 hc_1
        refine lv_iload_n hx hb dM_power_9 rfl (lv_at hl 2 rfl) ?_
        refine lv_iload_n hx hb dM_power_10 rfl (lv_at hl 0 rfl) ?_
        refine lv_imul hx hb dM_power_11 ?_
        refine lv_topi (fun y_2 ey_2 => ?_)
        replace hw := hw y_2 ey_2
        refine lv_istore_n (i := 2) (lv' := [(2, .int y_2), (0, .int x0_4), (1, .int x1_4), (3, .int x3_4)]) hx hb dM_power_12 rfl hl (by decide) rfl (fun ls hl => ?_)
        obtain ⟨y_3, ey_3⟩ : ∃ z : Int32, z = x3_4 + (1 : Int32) := ⟨_, rfl⟩
        replace hw := hw y_3 ey_3
        refine lv_iinc (k := 3) (v := y_3) (lv' := [(3, .int y_3), (2, .int y_2), (0, .int x0_4), (1, .int x1_4)]) hx hb dM_power_13 hl rfl (by rw [ey_3]; rfl) (by decide) rfl (fun ls hl => ?_)
        refine lv_goto (tgt := 4) hx hb dM_power_16 (by decide) ?_
        exact ih4 _ _ _ _ _ _ _ hw hwo hS (lv_sub hl [2, 3, 1, 0] rfl)
  unfold wp_M_power at hw
  refine lv_iconst (v := 1) hx hb dM_power_0 (by decide) ?_
  refine lv_istore_n (i := 2) (lv' := [(2, .int (1 : Int32)), (0, .int x0), (1, .int x1)]) hx hb dM_power_1 rfl hl (by decide) rfl (fun ls hl => ?_)
  refine lv_iconst (v := 0) hx hb dM_power_2 (by decide) ?_
  refine lv_istore_n (i := 3) (lv' := [(3, .int (0 : Int32)), (2, .int (1 : Int32)), (0, .int x0), (1, .int x1)]) hx hb dM_power_3 rfl hl (by decide) rfl (fun ls hl => ?_)
  obtain ⟨n, hw⟩ := hw
  exact L4 _ _ n _ _ _ _ _ _ _ hw hwo hS (lv_sub hl [2, 3, 1, 0] rfl)
theorem dM_vectors_0 : decode kM_vectors 0 = .ok (.aload_n 0, 1) := by decide +kernel
theorem dM_vectors_1 : decode kM_vectors 1 = .ok (.iconst 2, 1) := by decide +kernel
theorem dM_vectors_2 : decode kM_vectors 2 = .ok (.invokevirtual 249, 3) := by decide +kernel
theorem dM_vectors_5 : decode kM_vectors 5 = .ok (.istore_n 2, 1) := by decide +kernel
theorem dM_vectors_6 : decode kM_vectors 6 = .ok (.aload_n 0, 1) := by decide +kernel
theorem dM_vectors_7 : decode kM_vectors 7 = .ok (.getfield 80, 3) := by decide +kernel
theorem dM_vectors_10 : decode kM_vectors 10 = .ok (.iload_n 1, 1) := by decide +kernel
theorem dM_vectors_11 : decode kM_vectors 11 = .ok (.iaload, 1) := by decide +kernel
theorem dM_vectors_12 : decode kM_vectors 12 = .ok (.istore_n 3, 1) := by decide +kernel
theorem dM_vectors_13 : decode kM_vectors 13 = .ok (.aload_n 0, 1) := by decide +kernel
theorem dM_vectors_14 : decode kM_vectors 14 = .ok (.getfield 83, 3) := by decide +kernel
theorem dM_vectors_17 : decode kM_vectors 17 = .ok (.iload_n 1, 1) := by decide +kernel
theorem dM_vectors_18 : decode kM_vectors 18 = .ok (.iaload, 1) := by decide +kernel
theorem dM_vectors_19 : decode kM_vectors 19 = .ok (.istore 4, 2) := by decide +kernel
theorem dM_vectors_21 : decode kM_vectors 21 = .ok (.aload_n 0, 1) := by decide +kernel
theorem dM_vectors_22 : decode kM_vectors 22 = .ok (.getfield 92, 3) := by decide +kernel
theorem dM_vectors_25 : decode kM_vectors 25 = .ok (.iload_n 1, 1) := by decide +kernel
theorem dM_vectors_26 : decode kM_vectors 26 = .ok (.iload_n 2, 1) := by decide +kernel
theorem dM_vectors_27 : decode kM_vectors 27 = .ok (.ifCond .eq 7, 3) := by decide +kernel
theorem dM_vectors_30 : decode kM_vectors 30 = .ok (.iconst 1, 1) := by decide +kernel
theorem dM_vectors_31 : decode kM_vectors 31 = .ok (.goto 4, 3) := by decide +kernel
theorem dM_vectors_34 : decode kM_vectors 34 = .ok (.iconst 0, 1) := by decide +kernel
theorem dM_vectors_35 : decode kM_vectors 35 = .ok (.bastore, 1) := by decide +kernel
theorem dM_vectors_36 : decode kM_vectors 36 = .ok (.iload_n 2, 1) := by decide +kernel
theorem dM_vectors_37 : decode kM_vectors 37 = .ok (.ifCond .eq 8, 3) := by decide +kernel
theorem dM_vectors_40 : decode kM_vectors 40 = .ok (.iload_n 2, 1) := by decide +kernel
theorem dM_vectors_41 : decode kM_vectors 41 = .ok (.iconst 3, 1) := by decide +kernel
theorem dM_vectors_42 : decode kM_vectors 42 = .ok (.if_icmp .ne 13, 3) := by decide +kernel
theorem dM_vectors_45 : decode kM_vectors 45 = .ok (.iload_n 2, 1) := by decide +kernel
theorem dM_vectors_46 : decode kM_vectors 46 = .ok (.ifCond .ne 7, 3) := by decide +kernel
theorem dM_vectors_49 : decode kM_vectors 49 = .ok (.iconst 1, 1) := by decide +kernel
theorem dM_vectors_50 : decode kM_vectors 50 = .ok (.goto 4, 3) := by decide +kernel
theorem dM_vectors_53 : decode kM_vectors 53 = .ok (.iconst 0, 1) := by decide +kernel
theorem dM_vectors_54 : decode kM_vectors 54 = .ok (.ireturn, 1) := by decide +kernel
theorem dM_vectors_55 : decode kM_vectors 55 = .ok (.aload_n 0, 1) := by decide +kernel
theorem dM_vectors_56 : decode kM_vectors 56 = .ok (.iconst 4, 1) := by decide +kernel
theorem dM_vectors_57 : decode kM_vectors 57 = .ok (.invokevirtual 249, 3) := by decide +kernel
theorem dM_vectors_60 : decode kM_vectors 60 = .ok (.bipush 8, 2) := by decide +kernel
theorem dM_vectors_62 : decode kM_vectors 62 = .ok (.isub, 1) := by decide +kernel
theorem dM_vectors_63 : decode kM_vectors 63 = .ok (.istore 5, 2) := by decide +kernel
theorem dM_vectors_65 : decode kM_vectors 65 = .ok (.aload_n 0, 1) := by decide +kernel
theorem dM_vectors_66 : decode kM_vectors 66 = .ok (.iconst 3, 1) := by decide +kernel
theorem dM_vectors_67 : decode kM_vectors 67 = .ok (.invokevirtual 249, 3) := by decide +kernel
theorem dM_vectors_70 : decode kM_vectors 70 = .ok (.istore 6, 2) := by decide +kernel
theorem dM_vectors_72 : decode kM_vectors 72 = .ok (.aload_n 0, 1) := by decide +kernel
theorem dM_vectors_73 : decode kM_vectors 73 = .ok (.iconst 1, 1) := by decide +kernel
theorem dM_vectors_74 : decode kM_vectors 74 = .ok (.invokevirtual 249, 3) := by decide +kernel
theorem dM_vectors_77 : decode kM_vectors 77 = .ok (.iconst 1, 1) := by decide +kernel
theorem dM_vectors_78 : decode kM_vectors 78 = .ok (.if_icmp .ne 7, 3) := by decide +kernel
theorem dM_vectors_81 : decode kM_vectors 81 = .ok (.iconst 1, 1) := by decide +kernel
theorem dM_vectors_82 : decode kM_vectors 82 = .ok (.goto 4, 3) := by decide +kernel
theorem dM_vectors_85 : decode kM_vectors 85 = .ok (.iconst 0, 1) := by decide +kernel
theorem dM_vectors_86 : decode kM_vectors 86 = .ok (.istore 7, 2) := by decide +kernel
theorem dM_vectors_88 : decode kM_vectors 88 = .ok (.aload_n 0, 1) := by decide +kernel
theorem dM_vectors_89 : decode kM_vectors 89 = .ok (.iconst 2, 1) := by decide +kernel
theorem dM_vectors_90 : decode kM_vectors 90 = .ok (.invokevirtual 249, 3) := by decide +kernel
theorem dM_vectors_93 : decode kM_vectors 93 = .ok (.iconst 1, 1) := by decide +kernel
theorem dM_vectors_94 : decode kM_vectors 94 = .ok (.iadd, 1) := by decide +kernel
theorem dM_vectors_95 : decode kM_vectors 95 = .ok (.istore 8, 2) := by decide +kernel
theorem dM_vectors_97 : decode kM_vectors 97 = .ok (.iconst 1, 1) := by decide +kernel
theorem dM_vectors_98 : decode kM_vectors 98 = .ok (.istore 9, 2) := by decide +kernel
theorem dM_vectors_100 : decode kM_vectors 100 = .ok (.iload 9, 2) := by decide +kernel
theorem dM_vectors_102 : decode kM_vectors 102 = .ok (.iconst 1, 1) := by decide +kernel
theorem dM_vectors_103 : decode kM_vectors 103 = .ok (.iadd, 1) := by decide +kernel
theorem dM_vectors_104 : decode kM_vectors 104 = .ok (.iload_n 3, 1) := by decide +kernel
theorem dM_vectors_105 : decode kM_vectors 105 = .ok (.invokestatic 296, 3) := by decide +kernel
theorem dM_vectors_108 : decode kM_vectors 108 = .ok (.iload 4, 2) := by decide +kernel
theorem dM_vectors_110 : decode kM_vectors 110 = .ok (.if_icmp .gt 9, 3) := by decide +kernel
theorem dM_vectors_113 : decode kM_vectors 113 = .ok (.iinc 9 1, 3) := by decide +kernel
theorem dM_vectors_116 : decode kM_vectors 116 = .ok (.goto (-16), 3) := by decide +kernel
theorem dM_vectors_119 : decode kM_vectors 119 = .ok (.iload_n 2, 1) := by decide +kernel
theorem dM_vectors_120 : decode kM_vectors 120 = .ok (.iconst 1, 1) := by decide +kernel
theorem dM_vectors_121 : decode kM_vectors 121 = .ok (.if_icmp .ne 8, 3) := by decide +kernel
theorem dM_vectors_124 : decode kM_vectors 124 = .ok (.iload 9, 2) := by decide +kernel
theorem dM_vectors_126 : decode kM_vectors 126 = .ok (.goto 7, 3) := by decide +kernel
theorem dM_vectors_129 : decode kM_vectors 129 = .ok (.iload 4, 2) := by decide +kernel
theorem dM_vectors_131 : decode kM_vectors 131 = .ok (.iload_n 3, 1) := by decide +kernel
theorem dM_vectors_132 : decode kM_vectors 132 = .ok (.imul, 1) := by decide +kernel
theorem dM_vectors_133 : decode kM_vectors 133 = .ok (.istore 10, 2) := by decide +kernel
theorem dM_vectors_135 : decode kM_vectors 135 = .ok (.iconst 0, 1) := by decide +kernel
theorem dM_vectors_136 : decode kM_vectors 136 = .ok (.istore 11, 2) := by decide +kernel
theorem dM_vectors_138 : decode kM_vectors 138 = .ok (.iload 11, 2) := by decide +kernel
theorem dM_vectors_140 : decode kM_vectors 140 = .ok (.iload 10, 2) := by decide +kernel
theorem dM_vectors_142 : decode kM_vectors 142 = .ok (.if_icmp .ge 22, 3) := by decide +kernel
theorem dM_vectors_145 : decode kM_vectors 145 = .ok (.aload_n 0, 1) := by decide +kernel
theorem dM_vectors_146 : decode kM_vectors 146 = .ok (.getfield 98, 3) := by decide +kernel
theorem dM_vectors_149 : decode kM_vectors 149 = .ok (.iload 11, 2) := by decide +kernel
theorem dM_vectors_151 : decode kM_vectors 151 = .ok (.aload_n 0, 1) := by decide +kernel
theorem dM_vectors_152 : decode kM_vectors 152 = .ok (.iload 8, 2) := by decide +kernel
theorem dM_vectors_154 : decode kM_vectors 154 = .ok (.invokevirtual 249, 3) := by decide +kernel
theorem dM_vectors_157 : decode kM_vectors 157 = .ok (.iastore, 1) := by decide +kernel
theorem dM_vectors_158 : decode kM_vectors 158 = .ok (.iinc 11 1, 3) := by decide +kernel
theorem dM_vectors_161 : decode kM_vectors 161 = .ok (.goto (-23), 3) := by decide +kernel
theorem dM_vectors_164 : decode kM_vectors 164 = .ok (.iconst 0, 1) := by decide +kernel
theorem dM_vectors_165 : decode kM_vectors 165 = .ok (.istore 11, 2) := by decide +kernel
theorem dM_vectors_167 : decode kM_vectors 167 = .ok (.iload 11, 2) := by decide +kernel
theorem dM_vectors_169 : decode kM_vectors 169 = .ok (.iload 4, 2) := by decide +kernel
theorem dM_vectors_171 : decode kM_vectors 171 = .ok (.if_icmp .ge 122, 3) := by decide +kernel
theorem dM_vectors_174 : decode kM_vectors 174 = .ok (.iconst 0, 1) := by decide +kernel
theorem dM_vectors_175 : decode kM_vectors 175 = .ok (.istore 12, 2) := by decide +kernel
theorem dM_vectors_177 : decode kM_vectors 177 = .ok (.iload 12, 2) := by decide +kernel
theorem dM_vectors_179 : decode kM_vectors 179 = .ok (.iload_n 3, 1) := by decide +kernel
theorem dM_vectors_180 : decode kM_vectors 180 = .ok (.if_icmp .ge 107, 3) := by decide +kernel
theorem dM_vectors_183 : decode kM_vectors 183 = .ok (.iload_n 2, 1) := by decide +kernel
theorem dM_vectors_184 : decode kM_vectors 184 = .ok (.iconst 1, 1) := by decide +kernel
theorem dM_vectors_185 : decode kM_vectors 185 = .ok (.if_icmp .ne 19, 3) := by decide +kernel
theorem dM_vectors_188 : decode kM_vectors 188 = .ok (.iload 11, 2) := by decide +kernel
theorem dM_vectors_190 : decode kM_vectors 190 = .ok (.iload 9, 2) := by decide +kernel
theorem dM_vectors_192 : decode kM_vectors 192 = .ok (.iload 12, 2) := by decide +kernel
theorem dM_vectors_194 : decode kM_vectors 194 = .ok (.invokestatic 296, 3) := by decide +kernel
theorem dM_vectors_197 : decode kM_vectors 197 = .ok (.idiv, 1) := by decide +kernel
theorem dM_vectors_198 : decode kM_vectors 198 = .ok (.iload 9, 2) := by decide +kernel
theorem dM_vectors_200 : decode kM_vectors 200 = .ok (.irem, 1) := by decide +kernel
theorem dM_vectors_201 : decode kM_vectors 201 = .ok (.goto 10, 3) := by decide +kernel
theorem dM_vectors_204 : decode kM_vectors 204 = .ok (.iload 11, 2) := by decide +kernel
theorem dM_vectors_206 : decode kM_vectors 206 = .ok (.iload_n 3, 1) := by decide +kernel
theorem dM_vectors_207 : decode kM_vectors 207 = .ok (.imul, 1) := by decide +kernel
theorem dM_vectors_208 : decode kM_vectors 208 = .ok (.iload 12, 2) := by decide +kernel
theorem dM_vectors_210 : decode kM_vectors 210 = .ok (.iadd, 1) := by decide +kernel
theorem dM_vectors_211 : decode kM_vectors 211 = .ok (.istore 13, 2) := by decide +kernel
theorem dM_vectors_213 : decode kM_vectors 213 = .ok (.iload 7, 2) := by decide +kernel
theorem dM_vectors_215 : decode kM_vectors 215 = .ok (.ifCond .eq 30, 3) := by decide +kernel
theorem dM_vectors_218 : decode kM_vectors 218 = .ok (.iload 12, 2) := by decide +kernel
theorem dM_vectors_220 : decode kM_vectors 220 = .ok (.ifCond .le 25, 3) := by decide +kernel
theorem dM_vectors_223 : decode kM_vectors 223 = .ok (.aload_n 0, 1) := by decide +kernel
theorem dM_vectors_224 : decode kM_vectors 224 = .ok (.getfield 95, 3) := by decide +kernel
theorem dM_vectors_227 : decode kM_vectors 227 = .ok (.bipush 32, 2) := by decide +kernel
theorem dM_vectors_229 : decode kM_vectors 229 = .ok (.iload_n 1, 1) := by decide +kernel
theorem dM_vectors_230 : decode kM_vectors 230 = .ok (.imul, 1) := by decide +kernel
theorem dM_vectors_231 : decode kM_vectors 231 = .ok (.iconst 4, 1) := by decide +kernel
theorem dM_vectors_232 : decode kM_vectors 232 = .ok (.iload 11, 2) := by decide +kernel
theorem dM_vectors_234 : decode kM_vectors 234 = .ok (.imul, 1) := by decide +kernel
theorem dM_vectors_235 : decode kM_vectors 235 = .ok (.iadd, 1) := by decide +kernel
theorem dM_vectors_236 : decode kM_vectors 236 = .ok (.iload 12, 2) := by decide +kernel
theorem dM_vectors_238 : decode kM_vectors 238 = .ok (.iadd, 1) := by decide +kernel
theorem dM_vectors_239 : decode kM_vectors 239 = .ok (.iconst 1, 1) := by decide +kernel
theorem dM_vectors_240 : decode kM_vectors 240 = .ok (.isub, 1) := by decide +kernel
theorem dM_vectors_241 : decode kM_vectors 241 = .ok (.iaload, 1) := by decide +kernel
theorem dM_vectors_242 : decode kM_vectors 242 = .ok (.goto 4, 3) := by decide +kernel
theorem dM_vectors_245 : decode kM_vectors 245 = .ok (.iconst 0, 1) := by decide +kernel
theorem dM_vectors_246 : decode kM_vectors 246 = .ok (.istore 14, 2) := by decide +kernel
theorem dM_vectors_248 : decode kM_vectors 248 = .ok (.aload_n 0, 1) := by decide +kernel
theorem dM_vectors_249 : decode kM_vectors 249 = .ok (.getfield 95, 3) := by decide +kernel
theorem dM_vectors_252 : decode kM_vectors 252 = .ok (.bipush 32, 2) := by decide +kernel
theorem dM_vectors_254 : decode kM_vectors 254 = .ok (.iload_n 1, 1) := by decide +kernel
theorem dM_vectors_255 : decode kM_vectors 255 = .ok (.imul, 1) := by decide +kernel
theorem dM_vectors_256 : decode kM_vectors 256 = .ok (.iconst 4, 1) := by decide +kernel
theorem dM_vectors_257 : decode kM_vectors 257 = .ok (.iload 11, 2) := by decide +kernel
theorem dM_vectors_259 : decode kM_vectors 259 = .ok (.imul, 1) := by decide +kernel
theorem dM_vectors_260 : decode kM_vectors 260 = .ok (.iadd, 1) := by decide +kernel
theorem dM_vectors_261 : decode kM_vectors 261 = .ok (.iload 12, 2) := by decide +kernel
theorem dM_vectors_263 : decode kM_vectors 263 = .ok (.iadd, 1) := by decide +kernel
theorem dM_vectors_264 : decode kM_vectors 264 = .ok (.iload 5, 2) := by decide +kernel
theorem dM_vectors_266 : decode kM_vectors 266 = .ok (.iload 6, 2) := by decide +kernel
theorem dM_vectors_268 : decode kM_vectors 268 = .ok (.aload_n 0, 1) := by decide +kernel
theorem dM_vectors_269 : decode kM_vectors 269 = .ok (.getfield 98, 3) := by decide +kernel
theorem dM_vectors_272 : decode kM_vectors 272 = .ok (.iload 13, 2) := by decide +kernel
theorem dM_vectors_274 : decode kM_vectors 274 = .ok (.iaload, 1) := by decide +kernel
theorem dM_vectors_275 : decode kM_vectors 275 = .ok (.imul, 1) := by decide +kernel
theorem dM_vectors_276 : decode kM_vectors 276 = .ok (.iadd, 1) := by decide +kernel
theorem dM_vectors_277 : decode kM_vectors 277 = .ok (.iload 14, 2) := by decide +kernel
theorem dM_vectors_279 : decode kM_vectors 279 = .ok (.iadd, 1) := by decide +kernel
theorem dM_vectors_280 : decode kM_vectors 280 = .ok (.iastore, 1) := by decide +kernel
theorem dM_vectors_281 : decode kM_vectors 281 = .ok (.iinc 12 1, 3) := by decide +kernel
theorem dM_vectors_284 : decode kM_vectors 284 = .ok (.goto (-107), 3) := by decide +kernel
theorem dM_vectors_287 : decode kM_vectors 287 = .ok (.iinc 11 1, 3) := by decide +kernel
theorem dM_vectors_290 : decode kM_vectors 290 = .ok (.goto (-123), 3) := by decide +kernel
theorem dM_vectors_293 : decode kM_vectors 293 = .ok (.iconst 1, 1) := by decide +kernel
theorem dM_vectors_294 : decode kM_vectors 294 = .ok (.ireturn, 1) := by decide +kernel
def wb_M_vectors_45 (θ : TH) (x2_45 : Int32) (K : Int32 → VT → UT → Prop) (V : VT) (U : UT) : Prop := ((¬ x2_45 = 0 → K (0 : Int32) V U) ∧ (x2_45 = 0 → K (1 : Int32) V U))
def wb_M_vectors_246 (θ : TH) (a0_167 : Nat) (x1_167 : Int32) (x2_167 : Int32) (x3_167 : Int32) (x4_167 : Int32) (x5_167 : Int32) (x6_167 : Int32) (x7_167 : Int32) (x9_167 : Int32) (x11_177 : Int32) (x12_246 : Int32) (x13_246 : Int32) (z0_246 : Int32) (kb167 : Int32 → VT → UT → Prop) (kb177 : Int32 → VT → UT → Prop) (K : Int32 → VT → UT → Prop) (V : VT) (U : UT) : Prop := isO θ a0_167 12 ∧ (U a0_167 50) ≠ 0 ∧ (U a0_167 51) ≠ 0 ∧ ∃ n_79, isA θ (U a0_167 51) 0 n_79 ∧ vp_in x13_246 n_79 ∧ ∃ n_82, isA θ (U a0_167 50) 0 n_82 ∧ vp_in ((((32 : Int32) * x1_167) + ((4 : Int32) * x11_177)) + x12_246) n_82 ∧ ∀ V_85 : VT, V_85 = up2 V (U a0_167 50) ((((32 : Int32) * x1_167) + ((4 : Int32) * x11_177)) + x12_246).toNatClampNeg ((x5_167 + (x6_167 * (V (U a0_167 51) x13_246.toNatClampNeg))) + z0_246) → ∀ y_86 : Int32, y_86 = x12_246 + (1 : Int32) → kb177 y_86 V_85 U
def wb_M_vectors_245 (θ : TH) (a0_167 : Nat) (x1_167 : Int32) (x2_167 : Int32) (x3_167 : Int32) (x4_167 : Int32) (x5_167 : Int32) (x6_167 : Int32) (x7_167 : Int32) (x9_167 : Int32) (x11_177 : Int32) (x12_245 : Int32) (x13_245 : Int32) (kb167 : Int32 → VT → UT → Prop) (kb177 : Int32 → VT → UT → Prop) (K : Int32 → VT → UT → Prop) (V : VT) (U : UT) : Prop := wb_M_vectors_246 θ a0_167 x1_167 x2_167 x3_167 x4_167 x5_167 x6_167 x7_167 x9_167 x11_177 x12_245 x13_245 (0 : Int32) kb167 kb177 K V U
def wb_M_vectors_211 (θ : TH) (a0_167 : Nat) (x1_167 : Int32) (x2_167 : Int32) (x3_167 : Int32) (x4_167 : Int32) (x5_167 : Int32) (x6_167 : Int32) (x7_167 : Int32) (x9_167 : Int32) (x11_177 : Int32) (x12_211 : Int32) (z0_211 : Int32) (kb167 : Int32 → VT → UT → Prop) (kb177 : Int32 → VT → UT → Prop) (K : Int32 → VT → UT → Prop) (V : VT) (U : UT) : Prop := ((x7_167 = 0 → wb_M_vectors_245 θ a0_167 x1_167 x2_167 x3_167 x4_167 x5_167 x6_167 x7_167 x9_167 x11_177 x12_211 z0_211 kb167 kb177 K V U) ∧ (¬ x7_167 = 0 → ((x12_211 ≤ 0 → wb_M_vectors_245 θ a0_167 x1_167 x2_167 x3_167 x4_167 x5_167 x6_167 x7_167 x9_167 x11_177 x12_211 z0_211 kb167 kb177 K V U) ∧ (¬ x12_211 ≤ 0 → isO θ a0_167 12 ∧ (U a0_167 50) ≠ 0 ∧ ∃ n_73, isA θ (U a0_167 50) 0 n_73 ∧ vp_in (((((32 : Int32) * x1_167) + ((4 : Int32) * x11_177)) + x12_211) - (1 : Int32)) n_73 ∧ wb_M_vectors_246 θ a0_167 x1_167 x2_167 x3_167 x4_167 x5_167 x6_167 x7_167 x9_167 x11_177 x12_211 z0_211 (V (U a0_167 50) (((((32 : Int32) * x1_167) + ((4 : Int32) * x11_177)) + x12_211) - (1 : Int32)).toNatClampNeg) kb167 kb177 K V U))))
def bl_M_vectors_177 (θ : TH) (a0_167 : Nat) (x1_167 : Int32) (x2_167 : Int32) (x3_167 : Int32) (x4_167 : Int32) (x5_167 : Int32) (x6_167 : Int32) (x7_167 : Int32) (x9_167 : Int32) (x11_177 : Int32) (kb167 : Int32 → VT → UT → Prop) (K : Int32 → VT → UT → Prop) (kb177 : Int32 → VT → UT → Prop) (x12_177 : Int32) (V : VT) (U : UT) : Prop := ((x3_167 ≤ x12_177 → ∀ y_62 : Int32, y_62 = x11_177 + (1 : Int32) → kb167 y_62 V U) ∧ (¬ x3_167 ≤ x12_177 → ((¬ x2_167 = (1 : Int32) → wb_M_vectors_211 θ a0_167 x1_167 x2_167 x3_167 x4_167 x5_167 x6_167 x7_167 x9_167 x11_177 x12_177 ((x11_177 * x3_167) + x12_177) kb167 kb177 K V U) ∧ (x2_167 = (1 : Int32) → wp_M_power θ x9_167 x12_177 V U (fun r_66 V_64 U_65 => ¬ r_66 = 0 ∧ ¬ x9_167 = 0 ∧ wb_M_vectors_211 θ a0_167 x1_167 x2_167 x3_167 x4_167 x5_167 x6_167 x7_167 x9_167 x11_177 x12_177 ((x11_177 / r_66) - (x11_177 / r_66) / x9_167 * x9_167) kb167 kb177 K V_64 U_65)))))
def wl_M_vectors_177 (θ : TH) (a0_167 : Nat) (x1_167 : Int32) (x2_167 : Int32) (x3_167 : Int32) (x4_167 : Int32) (x5_167 : Int32) (x6_167 : Int32) (x7_167 : Int32) (x9_167 : Int32) (x11_177 : Int32) (kb167 : Int32 → VT → UT → Prop) (K : Int32 → VT → UT → Prop) : Nat → Int32 → VT → UT → Prop
  | 0, _, _, _ => False
  | n + 1, x12_177, V, U => bl_M_vectors_177 θ a0_167 x1_167 x2_167 x3_167 x4_167 x5_167 x6_167 x7_167 x9_167 x11_177 kb167 K (wl_M_vectors_177 θ a0_167 x1_167 x2_167 x3_167 x4_167 x5_167 x6_167 x7_167 x9_167 x11_177 kb167 K n) x12_177 V U
def bl_M_vectors_167 (θ : TH) (a0_167 : Nat) (x1_167 : Int32) (x2_167 : Int32) (x3_167 : Int32) (x4_167 : Int32) (x5_167 : Int32) (x6_167 : Int32) (x7_167 : Int32) (x9_167 : Int32) (K : Int32 → VT → UT → Prop) (kb167 : Int32 → VT → UT → Prop) (x11_167 : Int32) (V : VT) (U : UT) : Prop := ((x4_167 ≤ x11_167 → K (1 : Int32) V U) ∧ (¬ x4_167 ≤ x11_167 → ∃ n, wl_M_vectors_177 θ a0_167 x1_167 x2_167 x3_167 x4_167 x5_167 x6_167 x7_167 x9_167 x11_167 kb167 K n (0 : Int32) V U))
def wl_M_vectors_167 (θ : TH) (a0_167 : Nat) (x1_167 : Int32) (x2_167 : Int32) (x3_167 : Int32) (x4_167 : Int32) (x5_167 : Int32) (x6_167 : Int32) (x7_167 : Int32) (x9_167 : Int32) (K : Int32 → VT → UT → Prop) : Nat → Int32 → VT → UT → Prop
  | 0, _, _, _ => False
  | n + 1, x11_167, V, U => bl_M_vectors_167 θ a0_167 x1_167 x2_167 x3_167 x4_167 x5_167 x6_167 x7_167 x9_167 K (wl_M_vectors_167 θ a0_167 x1_167 x2_167 x3_167 x4_167 x5_167 x6_167 x7_167 x9_167 K n) x11_167 V U
def bl_M_vectors_138 (θ : TH) (a0_138 : Nat) (x1_138 : Int32) (x2_138 : Int32) (x3_138 : Int32) (x4_138 : Int32) (x5_138 : Int32) (x6_138 : Int32) (x7_138 : Int32) (x8_138 : Int32) (x9_138 : Int32) (x10_138 : Int32) (K : Int32 → VT → UT → Prop) (kb138 : Int32 → VT → UT → Prop) (x11_138 : Int32) (V : VT) (U : UT) : Prop := ((x10_138 ≤ x11_138 → ∃ n, wl_M_vectors_167 θ a0_138 x1_138 x2_138 x3_138 x4_138 x5_138 x6_138 x7_138 x9_138 K n (0 : Int32) V U) ∧ (¬ x10_138 ≤ x11_138 → isO θ a0_138 12 ∧ (U a0_138 51) ≠ 0 ∧ wp_M_read θ a0_138 x8_138 V U (fun r_54 V_52 U_53 => ∃ n_55, isA θ (U a0_138 51) 0 n_55 ∧ vp_in x11_138 n_55 ∧ ∀ V_58 : VT, V_58 = up2 V_52 (U a0_138 51) x11_138.toNatClampNeg r_54 → ∀ y_59 : Int32, y_59 = x11_138 + (1 : Int32) → kb138 y_59 V_58 U_53)))
def wl_M_vectors_138 (θ : TH) (a0_138 : Nat) (x1_138 : Int32) (x2_138 : Int32) (x3_138 : Int32) (x4_138 : Int32) (x5_138 : Int32) (x6_138 : Int32) (x7_138 : Int32) (x8_138 : Int32) (x9_138 : Int32) (x10_138 : Int32) (K : Int32 → VT → UT → Prop) : Nat → Int32 → VT → UT → Prop
  | 0, _, _, _ => False
  | n + 1, x11_138, V, U => bl_M_vectors_138 θ a0_138 x1_138 x2_138 x3_138 x4_138 x5_138 x6_138 x7_138 x8_138 x9_138 x10_138 K (wl_M_vectors_138 θ a0_138 x1_138 x2_138 x3_138 x4_138 x5_138 x6_138 x7_138 x8_138 x9_138 x10_138 K n) x11_138 V U
def bl_M_vectors_100 (θ : TH) (a0_100 : Nat) (x1_100 : Int32) (x2_100 : Int32) (x3_100 : Int32) (x4_100 : Int32) (x5_100 : Int32) (x6_100 : Int32) (x7_100 : Int32) (x8_100 : Int32) (K : Int32 → VT → UT → Prop) (kb100 : Int32 → VT → UT → Prop) (x9_100 : Int32) (V : VT) (U : UT) : Prop := wp_M_power θ (x9_100 + (1 : Int32)) x3_100 V U (fun r_44 V_42 U_43 => ((x4_100 < r_44 → ((¬ x2_100 = (1 : Int32) → ∀ y_47 : Int32, y_47 = (x4_100 * x3_100) → ∃ n, wl_M_vectors_138 θ a0_100 x1_100 x2_100 x3_100 x4_100 x5_100 x6_100 x7_100 x8_100 x9_100 y_47 K n (0 : Int32) V_42 U_43) ∧ (x2_100 = (1 : Int32) → ∃ n, wl_M_vectors_138 θ a0_100 x1_100 x2_100 x3_100 x4_100 x5_100 x6_100 x7_100 x8_100 x9_100 x9_100 K n (0 : Int32) V_42 U_43))) ∧ (¬ x4_100 < r_44 → ∀ y_48 : Int32, y_48 = x9_100 + (1 : Int32) → kb100 y_48 V_42 U_43)))
def wl_M_vectors_100 (θ : TH) (a0_100 : Nat) (x1_100 : Int32) (x2_100 : Int32) (x3_100 : Int32) (x4_100 : Int32) (x5_100 : Int32) (x6_100 : Int32) (x7_100 : Int32) (x8_100 : Int32) (K : Int32 → VT → UT → Prop) : Nat → Int32 → VT → UT → Prop
  | 0, _, _, _ => False
  | n + 1, x9_100, V, U => bl_M_vectors_100 θ a0_100 x1_100 x2_100 x3_100 x4_100 x5_100 x6_100 x7_100 x8_100 K (wl_M_vectors_100 θ a0_100 x1_100 x2_100 x3_100 x4_100 x5_100 x6_100 x7_100 x8_100 K n) x9_100 V U
def wb_M_vectors_86 (θ : TH) (a0_86 : Nat) (x1_86 : Int32) (x2_86 : Int32) (x3_86 : Int32) (x4_86 : Int32) (x5_86 : Int32) (x6_86 : Int32) (z0_86 : Int32) (K : Int32 → VT → UT → Prop) (V : VT) (U : UT) : Prop := isO θ a0_86 12 ∧ wp_M_read θ a0_86 (2 : Int32) V U (fun r_40 V_37 U_38 => ∀ y_41 : Int32, y_41 = (r_40 + (1 : Int32)) → ∃ n, wl_M_vectors_100 θ a0_86 x1_86 x2_86 x3_86 x4_86 x5_86 x6_86 z0_86 y_41 K n (1 : Int32) V_37 U_38)
def wb_M_vectors_35 (θ : TH) (a0_35 : Nat) (x1_35 : Int32) (x2_35 : Int32) (x3_35 : Int32) (x4_35 : Int32) (z0_35 : Int32) (z1_35 : Int32) (z2_35 : Nat) (K : Int32 → VT → UT → Prop) (V : VT) (U : UT) : Prop := ∃ n_17, isA θ z2_35 1 n_17 ∧ vp_in z1_35 n_17 ∧ isZ z0_35 ∧ ∀ V_21 : VT, V_21 = up2 V z2_35 z1_35.toNatClampNeg z0_35 → ((x2_35 = 0 → wb_M_vectors_45 θ x2_35 K V_21 U) ∧ (¬ x2_35 = 0 → ((¬ x2_35 = (3 : Int32) → isO θ a0_35 12 ∧ wp_M_read θ a0_35 (4 : Int32) V_21 U (fun r_27 V_24 U_25 => ∀ y_28 : Int32, y_28 = (r_27 - (8 : Int32)) → wp_M_read θ a0_35 (3 : Int32) V_24 U_25 (fun r_31 V_29 U_30 => wp_M_read θ a0_35 (1 : Int32) V_29 U_30 (fun r_34 V_32 U_33 => ((¬ r_34 = (1 : Int32) → wb_M_vectors_86 θ a0_35 x1_35 x2_35 x3_35 x4_35 y_28 r_31 (0 : Int32) K V_32 U_33) ∧ (r_34 = (1 : Int32) → wb_M_vectors_86 θ a0_35 x1_35 x2_35 x3_35 x4_35 y_28 r_31 (1 : Int32) K V_32 U_33)))))) ∧ (x2_35 = (3 : Int32) → wb_M_vectors_45 θ x2_35 K V_21 U))))
def wp_M_vectors (θ : TH) (a0 : Nat) (x1 : Int32) (V : VT) (U : UT) (K : Int32 → VT → UT → Prop) : Prop := isO θ a0 12 ∧ wp_M_read θ a0 (2 : Int32) V U (fun r_4 V_1 U_2 => (U_2 a0 45) ≠ 0 ∧ ∃ n_6, isA θ (U_2 a0 45) 0 n_6 ∧ vp_in x1 n_6 ∧ ∀ y_9 : Int32, y_9 = (V_1 (U_2 a0 45) x1.toNatClampNeg) → (U_2 a0 46) ≠ 0 ∧ ∃ n_11, isA θ (U_2 a0 46) 0 n_11 ∧ vp_in x1 n_11 ∧ ∀ y_14 : Int32, y_14 = (V_1 (U_2 a0 46) x1.toNatClampNeg) → (U_2 a0 49) ≠ 0 ∧ ((r_4 = 0 → wb_M_vectors_35 θ a0 x1 r_4 y_9 y_14 (0 : Int32) x1 (U_2 a0 49) K V_1 U_2) ∧ (¬ r_4 = 0 → wb_M_vectors_35 θ a0 x1 r_4 y_9 y_14 (1 : Int32) x1 (U_2 a0 49) K V_1 U_2)))
set_option maxRecDepth 100000 in
set_option maxHeartbeats 4000000 in
theorem c_M_vectors (l : Launch) (θ : TH) (a0 : Nat) (x1 : Int32) (V : VT) (U : UT) (K : Int32 → VT → UT → Prop) (hw : wp_M_vectors θ a0 x1 V U K) : CMi l yM_vectors kM_vectors 15 (some .boolean) rmM_vectors θ [.ref a0, .int x1] V U K := by
  refine g_met nRM (by decide +kernel) rfl (Nat.le_of_ble_eq_true rfl) (fun p e s m args below meth c ls hC hr hlk hwo hl => ?_)
  have hx := hC.1
  have hb := hC.2.1
  have hS : Sx θ s s.heap [] := va_S.rf
  have hl : lv_has ls 15 [(0, .ref a0), (1, .int x1)] := hl
  have J45 : ∀ (x2_45 : Int32) (V : VT) (U : UT) (H : Heap) (locs : List Loc) (ls : Array Slot), wb_M_vectors_45 θ x2_45 K V U → wo θ V U H → Sx θ s H locs → lv_has ls 15 [(2, .int x2_45)] → W p l e rmM_vectors s m args below meth c H locs 0 0 (MQ below (QI θ K) args s 0 0 (aT θ)) (F0 m 45 ls []) := by
    intro x2_45 V U H locs ls hw hwo hS hl
    unfold wb_M_vectors_45 at hw
    refine lv_iload_n hx hb dM_vectors_45 rfl (lv_at hl 0 rfl) ?_
    refine lv_if_ne (tgt := 53) hx hb dM_vectors_46 (by decide) (fun hc_36 => ?_) (fun hc_36 => ?_)
    · replace hw := hw.1 hc_36
      refine lv_iconst (v := 0) hx hb dM_vectors_53 (by decide) ?_
      exact g_zret hC hr hlk (Or.inl rfl) hw hwo hS dM_vectors_54
    · replace hw := hw.2 hc_36
      refine lv_iconst (v := 1) hx hb dM_vectors_49 (by decide) ?_
      refine lv_goto (tgt := 54) hx hb dM_vectors_50 (by decide) ?_
      exact g_zret hC hr hlk (Or.inr rfl) hw hwo hS dM_vectors_54
  have L167 : ∀ (a0_167 : Nat) (x1_167 : Int32) (x2_167 : Int32) (x3_167 : Int32) (x4_167 : Int32) (x5_167 : Int32) (x6_167 : Int32) (x7_167 : Int32) (x9_167 : Int32) (n167 : Nat) (x11_167 : Int32) (V : VT) (U : UT) (H : Heap) (locs : List Loc) (ls : Array Slot), wl_M_vectors_167 θ a0_167 x1_167 x2_167 x3_167 x4_167 x5_167 x6_167 x7_167 x9_167 K n167 x11_167 V U → wo θ V U H → Sx θ s H locs → lv_has ls 15 [(0, .ref a0_167), (1, .int x1_167), (2, .int x2_167), (3, .int x3_167), (4, .int x4_167), (5, .int x5_167), (6, .int x6_167), (7, .int x7_167), (9, .int x9_167), (11, .int x11_167)] → W p l e rmM_vectors s m args below meth c H locs 0 0 (MQ below (QI θ K) args s 0 0 (aT θ)) (F0 m 167 ls []) := by
    intro a0_167 x1_167 x2_167 x3_167 x4_167 x5_167 x6_167 x7_167 x9_167 n167
    induction n167 with
    | zero => intro x11_167 V U H locs ls hw hwo hS hl; exact (show False from hw).elim
    | succ n167 ih167 =>
      have L177 : ∀ (x11_177 : Int32) (n177 : Nat) (x12_177 : Int32) (V : VT) (U : UT) (H : Heap) (locs : List Loc) (ls : Array Slot), wl_M_vectors_177 θ a0_167 x1_167 x2_167 x3_167 x4_167 x5_167 x6_167 x7_167 x9_167 x11_177 (wl_M_vectors_167 θ a0_167 x1_167 x2_167 x3_167 x4_167 x5_167 x6_167 x7_167 x9_167 K n167) K n177 x12_177 V U → wo θ V U H → Sx θ s H locs → lv_has ls 15 [(0, .ref a0_167), (1, .int x1_167), (2, .int x2_167), (3, .int x3_167), (4, .int x4_167), (5, .int x5_167), (6, .int x6_167), (7, .int x7_167), (9, .int x9_167), (11, .int x11_177), (12, .int x12_177)] → W p l e rmM_vectors s m args below meth c H locs 0 0 (MQ below (QI θ K) args s 0 0 (aT θ)) (F0 m 177 ls []) := by
        intro x11_177 n177
        induction n177 with
        | zero => intro x12_177 V U H locs ls hw hwo hS hl; exact (show False from hw).elim
        | succ n177 ih177 =>
          have J246 : ∀ (x12_246 : Int32) (x13_246 : Int32) (z0_246 : Int32) (V : VT) (U : UT) (H : Heap) (locs : List Loc) (ls : Array Slot), wb_M_vectors_246 θ a0_167 x1_167 x2_167 x3_167 x4_167 x5_167 x6_167 x7_167 x9_167 x11_177 x12_246 x13_246 z0_246 (wl_M_vectors_167 θ a0_167 x1_167 x2_167 x3_167 x4_167 x5_167 x6_167 x7_167 x9_167 K n167) (wl_M_vectors_177 θ a0_167 x1_167 x2_167 x3_167 x4_167 x5_167 x6_167 x7_167 x9_167 x11_177 (wl_M_vectors_167 θ a0_167 x1_167 x2_167 x3_167 x4_167 x5_167 x6_167 x7_167 x9_167 K n167) K n177) K V U → wo θ V U H → Sx θ s H locs → lv_has ls 15 [(0, .ref a0_167), (1, .int x1_167), (2, .int x2_167), (3, .int x3_167), (4, .int x4_167), (5, .int x5_167), (6, .int x6_167), (7, .int x7_167), (9, .int x9_167), (11, .int x11_177), (12, .int x12_246), (13, .int x13_246)] → W p l e rmM_vectors s m args below meth c H locs 0 0 (MQ below (QI θ K) args s 0 0 (aT θ)) (F0 m 246 ls [.int z0_246]) := by
            intro x12_246 x13_246 z0_246 V U H locs ls hw hwo hS hl
            unfold wb_M_vectors_246 at hw
            refine lv_istore (i := 14) (lv' := [(14, .int z0_246), (0, .ref a0_167), (1, .int x1_167), (2, .int x2_167), (3, .int x3_167), (4, .int x4_167), (5, .int x5_167), (6, .int x6_167), (7, .int x7_167), (9, .int x9_167), (11, .int x11_177), (12, .int x12_246), (13, .int x13_246)]) hx hb dM_vectors_246 hl (by decide) rfl (fun ls hl => ?_)
            refine lv_aload_n hx hb dM_vectors_248 rfl (lv_at hl 1 rfl) ?_
            obtain ⟨ho_76, hw⟩ := hw
            obtain ⟨hz_77, hw⟩ := hw
            refine g_getR hC fkM_95 rfl hwo ho_76 hz_77 dM_vectors_249 ?_
            refine lv_bipush (v := 32) hx hb dM_vectors_252 (by decide) ?_
            refine lv_iload_n hx hb dM_vectors_254 rfl (lv_at hl 2 rfl) ?_
            refine lv_imul hx hb dM_vectors_255 ?_
            refine lv_iconst (v := 4) hx hb dM_vectors_256 (by decide) ?_
            refine lv_iload hx hb dM_vectors_257 (lv_at hl 10 rfl) ?_
            refine lv_imul hx hb dM_vectors_259 ?_
            refine lv_iadd hx hb dM_vectors_260 ?_
            refine lv_iload hx hb dM_vectors_261 (lv_at hl 11 rfl) ?_
            refine lv_iadd hx hb dM_vectors_263 ?_
            refine lv_iload hx hb dM_vectors_264 (lv_at hl 6 rfl) ?_
            refine lv_iload hx hb dM_vectors_266 (lv_at hl 7 rfl) ?_
            refine lv_aload_n hx hb dM_vectors_268 rfl (lv_at hl 1 rfl) ?_
            obtain ⟨hz_78, hw⟩ := hw
            refine g_getR hC fkM_98 rfl hwo ho_76 hz_78 dM_vectors_269 ?_
            refine lv_iload hx hb dM_vectors_272 (lv_at hl 12 rfl) ?_
            obtain ⟨n_79, ha_80, hw⟩ := hw
            obtain ⟨hi_81, hw⟩ := hw
            refine g_iald hC hwo ha_80 hi_81 dM_vectors_274 ?_
            refine lv_imul hx hb dM_vectors_275 ?_
            refine lv_iadd hx hb dM_vectors_276 ?_
            refine lv_iload hx hb dM_vectors_277 (lv_at hl 0 rfl) ?_
            refine lv_iadd hx hb dM_vectors_279 ?_
            obtain ⟨n_82, ha_83, hw⟩ := hw
            obtain ⟨hi_84, hw⟩ := hw
            refine g_iast hC hwo hS ha_83 hi_84 dM_vectors_280 (fun V_85 eV_85 H locs hwo hS => ?_)
            replace hw := hw V_85 eV_85
            obtain ⟨y_86, ey_86⟩ : ∃ z : Int32, z = x12_246 + (1 : Int32) := ⟨_, rfl⟩
            replace hw := hw y_86 ey_86
            refine lv_iinc (k := 11) (v := y_86) (lv' := [(12, .int y_86), (14, .int z0_246), (0, .ref a0_167), (1, .int x1_167), (2, .int x2_167), (3, .int x3_167), (4, .int x4_167), (5, .int x5_167), (6, .int x6_167), (7, .int x7_167), (9, .int x9_167), (11, .int x11_177), (13, .int x13_246)]) hx hb dM_vectors_281 hl rfl (by rw [ey_86]; rfl) (by decide) rfl (fun ls hl => ?_)
            refine lv_goto (tgt := 177) hx hb dM_vectors_284 (by decide) ?_
            exact ih177 _ _ _ _ _ _ hw hwo hS (lv_sub hl [2, 3, 4, 5, 6, 7, 8, 9, 10, 11, 0] rfl)
          have J245 : ∀ (x12_245 : Int32) (x13_245 : Int32) (V : VT) (U : UT) (H : Heap) (locs : List Loc) (ls : Array Slot), wb_M_vectors_245 θ a0_167 x1_167 x2_167 x3_167 x4_167 x5_167 x6_167 x7_167 x9_167 x11_177 x12_245 x13_245 (wl_M_vectors_167 θ a0_167 x1_167 x2_167 x3_167 x4_167 x5_167 x6_167 x7_167 x9_167 K n167) (wl_M_vectors_177 θ a0_167 x1_167 x2_167 x3_167 x4_167 x5_167 x6_167 x7_167 x9_167 x11_177 (wl_M_vectors_167 θ a0_167 x1_167 x2_167 x3_167 x4_167 x5_167 x6_167 x7_167 x9_167 K n167) K n177) K V U → wo θ V U H → Sx θ s H locs → lv_has ls 15 [(0, .ref a0_167), (1, .int x1_167), (2, .int x2_167), (3, .int x3_167), (4, .int x4_167), (5, .int x5_167), (6, .int x6_167), (7, .int x7_167), (9, .int x9_167), (11, .int x11_177), (12, .int x12_245), (13, .int x13_245)] → W p l e rmM_vectors s m args below meth c H locs 0 0 (MQ below (QI θ K) args s 0 0 (aT θ)) (F0 m 245 ls []) := by
            intro x12_245 x13_245 V U H locs ls hw hwo hS hl
            unfold wb_M_vectors_245 at hw
            refine lv_iconst (v := 0) hx hb dM_vectors_245 (by decide) ?_
            exact J246 _ _ _ _ _ _ _ _ hw hwo hS (lv_sub hl [0, 1, 2, 3, 4, 5, 6, 7, 8, 9, 10, 11] rfl)
          have J211 : ∀ (x12_211 : Int32) (z0_211 : Int32) (V : VT) (U : UT) (H : Heap) (locs : List Loc) (ls : Array Slot), wb_M_vectors_211 θ a0_167 x1_167 x2_167 x3_167 x4_167 x5_167 x6_167 x7_167 x9_167 x11_177 x12_211 z0_211 (wl_M_vectors_167 θ a0_167 x1_167 x2_167 x3_167 x4_167 x5_167 x6_167 x7_167 x9_167 K n167) (wl_M_vectors_177 θ a0_167 x1_167 x2_167 x3_167 x4_167 x5_167 x6_167 x7_167 x9_167 x11_177 (wl_M_vectors_167 θ a0_167 x1_167 x2_167 x3_167 x4_167 x5_167 x6_167 x7_167 x9_167 K n167) K n177) K V U → wo θ V U H → Sx θ s H locs → lv_has ls 15 [(0, .ref a0_167), (1, .int x1_167), (2, .int x2_167), (3, .int x3_167), (4, .int x4_167), (5, .int x5_167), (6, .int x6_167), (7, .int x7_167), (9, .int x9_167), (11, .int x11_177), (12, .int x12_211)] → W p l e rmM_vectors s m args below meth c H locs 0 0 (MQ below (QI θ K) args s 0 0 (aT θ)) (F0 m 211 ls [.int z0_211]) := by
            intro x12_211 z0_211 V U H locs ls hw hwo hS hl
            unfold wb_M_vectors_211 at hw
            refine lv_istore (i := 13) (lv' := [(13, .int z0_211), (0, .ref a0_167), (1, .int x1_167), (2, .int x2_167), (3, .int x3_167), (4, .int x4_167), (5, .int x5_167), (6, .int x6_167), (7, .int x7_167), (9, .int x9_167), (11, .int x11_177), (12, .int x12_211)]) hx hb dM_vectors_211 hl (by decide) rfl (fun ls hl => ?_)
            refine lv_iload hx hb dM_vectors_213 (lv_at hl 8 rfl) ?_
            refine lv_if_eq (tgt := 245) hx hb dM_vectors_215 (by decide) (fun hc_69 => ?_) (fun hc_69 => ?_)
            · replace hw := hw.1 hc_69
              exact J245 _ _ _ _ _ _ _ hw hwo hS (lv_sub hl [1, 2, 3, 4, 5, 6, 7, 8, 9, 10, 11, 0] rfl)
            · replace hw := hw.2 hc_69
              refine lv_iload hx hb dM_vectors_218 (lv_at hl 11 rfl) ?_
              refine lv_if_le (tgt := 245) hx hb dM_vectors_220 (by decide) (fun hc_70 => ?_) (fun hc_70 => ?_)
              · replace hw := hw.1 hc_70
                exact J245 _ _ _ _ _ _ _ hw hwo hS (lv_sub hl [1, 2, 3, 4, 5, 6, 7, 8, 9, 10, 11, 0] rfl)
              · replace hw := hw.2 hc_70
                refine lv_aload_n hx hb dM_vectors_223 rfl (lv_at hl 1 rfl) ?_
                obtain ⟨ho_71, hw⟩ := hw
                obtain ⟨hz_72, hw⟩ := hw
                refine g_getR hC fkM_95 rfl hwo ho_71 hz_72 dM_vectors_224 ?_
                refine lv_bipush (v := 32) hx hb dM_vectors_227 (by decide) ?_
                refine lv_iload_n hx hb dM_vectors_229 rfl (lv_at hl 2 rfl) ?_
                refine lv_imul hx hb dM_vectors_230 ?_
                refine lv_iconst (v := 4) hx hb dM_vectors_231 (by decide) ?_
                refine lv_iload hx hb dM_vectors_232 (lv_at hl 10 rfl) ?_
                refine lv_imul hx hb dM_vectors_234 ?_
                refine lv_iadd hx hb dM_vectors_235 ?_
                refine lv_iload hx hb dM_vectors_236 (lv_at hl 11 rfl) ?_
                refine lv_iadd hx hb dM_vectors_238 ?_
                refine lv_iconst (v := 1) hx hb dM_vectors_239 (by decide) ?_
                refine lv_isub hx hb dM_vectors_240 ?_
                obtain ⟨n_73, ha_74, hw⟩ := hw
                obtain ⟨hi_75, hw⟩ := hw
                refine g_iald hC hwo ha_74 hi_75 dM_vectors_241 ?_
                refine lv_goto (tgt := 246) hx hb dM_vectors_242 (by decide) ?_
                exact J246 _ _ _ _ _ _ _ _ hw hwo hS (lv_sub hl [1, 2, 3, 4, 5, 6, 7, 8, 9, 10, 11, 0] rfl)
          intro x12_177 V U H locs ls hw hwo hS hl
          replace hw : bl_M_vectors_177 θ a0_167 x1_167 x2_167 x3_167 x4_167 x5_167 x6_167 x7_167 x9_167 x11_177 (wl_M_vectors_167 θ a0_167 x1_167 x2_167 x3_167 x4_167 x5_167 x6_167 x7_167 x9_167 K n167) K (wl_M_vectors_177 θ a0_167 x1_167 x2_167 x3_167 x4_167 x5_167 x6_167 x7_167 x9_167 x11_177 (wl_M_vectors_167 θ a0_167 x1_167 x2_167 x3_167 x4_167 x5_167 x6_167 x7_167 x9_167 K n167) K n177) x12_177 V U := hw
          unfold bl_M_vectors_177 at hw
          refine lv_iload hx hb dM_vectors_177 (lv_at hl 10 rfl) ?_
          refine lv_iload_n hx hb dM_vectors_179 rfl (lv_at hl 3 rfl) ?_
          refine lv_icmp_ge (tgt := 287) hx hb dM_vectors_180 (by decide) (fun hc_61 => ?_) (fun hc_61 => ?_)
          · replace hw := hw.1 hc_61
            obtain ⟨y_62, ey_62⟩ : ∃ z : Int32, z = x11_177 + (1 : Int32) := ⟨_, rfl⟩
            replace hw := hw y_62 ey_62
            refine lv_iinc (k := 9) (v := y_62) (lv' := [(11, .int y_62), (0, .ref a0_167), (1, .int x1_167), (2, .int x2_167), (3, .int x3_167), (4, .int x4_167), (5, .int x5_167), (6, .int x6_167), (7, .int x7_167), (9, .int x9_167), (12, .int x12_177)]) hx hb dM_vectors_287 hl rfl (by rw [ey_62]; rfl) (by decide) rfl (fun ls hl => ?_)
            refine lv_goto (tgt := 167) hx hb dM_vectors_290 (by decide) ?_
            exact ih167 _ _ _ _ _ _ hw hwo hS (lv_sub hl [1, 2, 3, 4, 5, 6, 7, 8, 9, 0] rfl)
          · replace hw := hw.2 hc_61
            refine lv_iload_n hx hb dM_vectors_183 rfl (lv_at hl 2 rfl) ?_
            refine lv_iconst (v := 1) hx hb dM_vectors_184 (by decide) ?_
            refine lv_icmp_ne (tgt := 204) hx hb dM_vectors_185 (by decide) (fun hc_63 => ?_) (fun hc_63 => ?_)
            · replace hw := hw.1 hc_63
              refine lv_iload hx hb dM_vectors_204 (lv_at hl 9 rfl) ?_
              refine lv_iload_n hx hb dM_vectors_206 rfl (lv_at hl 3 rfl) ?_
              refine lv_imul hx hb dM_vectors_207 ?_
              refine lv_iload hx hb dM_vectors_208 (lv_at hl 10 rfl) ?_
              refine lv_iadd hx hb dM_vectors_210 ?_
              exact J211 _ _ _ _ _ _ _ hw hwo hS (lv_sub hl [0, 1, 2, 3, 4, 5, 6, 7, 8, 9, 10] rfl)
            · replace hw := hw.2 hc_63
              refine lv_iload hx hb dM_vectors_188 (lv_at hl 9 rfl) ?_
              refine lv_iload hx hb dM_vectors_190 (lv_at hl 8 rfl) ?_
              refine lv_iload hx hb dM_vectors_192 (lv_at hl 10 rfl) ?_
              refine g_Si (rest := [.int x11_177]) hC (c_M_power l θ _ _ _ _ _ hw) mi_M_power mlM_296 ms_M_power hwo hS ⟨rfl, rfl⟩ ⟨by decide, by decide⟩ rfl hl.1 rfl (Nat.le_of_ble_eq_true rfl) dM_vectors_194 (fun r_66 V_64 U_65 hw H locs hwo hS => ?_)
              obtain ⟨hd_67, hw⟩ := hw
              refine lv_idiv hx hb dM_vectors_197 hd_67 ?_
              refine lv_iload hx hb dM_vectors_198 (lv_at hl 8 rfl) ?_
              obtain ⟨hd_68, hw⟩ := hw
              refine lv_irem hx hb dM_vectors_200 hd_68 ?_
              refine lv_goto (tgt := 211) hx hb dM_vectors_201 (by decide) ?_
              exact J211 _ _ _ _ _ _ _ hw hwo hS (lv_sub hl [0, 1, 2, 3, 4, 5, 6, 7, 8, 9, 10] rfl)
      intro x11_167 V U H locs ls hw hwo hS hl
      replace hw : bl_M_vectors_167 θ a0_167 x1_167 x2_167 x3_167 x4_167 x5_167 x6_167 x7_167 x9_167 K (wl_M_vectors_167 θ a0_167 x1_167 x2_167 x3_167 x4_167 x5_167 x6_167 x7_167 x9_167 K n167) x11_167 V U := hw
      unfold bl_M_vectors_167 at hw
      refine lv_iload hx hb dM_vectors_167 (lv_at hl 9 rfl) ?_
      refine lv_iload hx hb dM_vectors_169 (lv_at hl 4 rfl) ?_
      refine lv_icmp_ge (tgt := 293) hx hb dM_vectors_171 (by decide) (fun hc_60 => ?_) (fun hc_60 => ?_)
      · replace hw := hw.1 hc_60
        refine lv_iconst (v := 1) hx hb dM_vectors_293 (by decide) ?_
        exact g_zret hC hr hlk (Or.inr rfl) hw hwo hS dM_vectors_294
      · replace hw := hw.2 hc_60
        refine lv_iconst (v := 0) hx hb dM_vectors_174 (by decide) ?_
        refine lv_istore (i := 12) (lv' := [(12, .int (0 : Int32)), (0, .ref a0_167), (1, .int x1_167), (2, .int x2_167), (3, .int x3_167), (4, .int x4_167), (5, .int x5_167), (6, .int x6_167), (7, .int x7_167), (9, .int x9_167), (11, .int x11_167)]) hx hb dM_vectors_175 hl (by decide) rfl (fun ls hl => ?_)
        obtain ⟨n, hw⟩ := hw
        exact L177 _ n _ _ _ _ _ _ hw hwo hS (lv_sub hl [1, 2, 3, 4, 5, 6, 7, 8, 9, 10, 0] rfl)
  have L138 : ∀ (a0_138 : Nat) (x1_138 : Int32) (x2_138 : Int32) (x3_138 : Int32) (x4_138 : Int32) (x5_138 : Int32) (x6_138 : Int32) (x7_138 : Int32) (x8_138 : Int32) (x9_138 : Int32) (x10_138 : Int32) (n138 : Nat) (x11_138 : Int32) (V : VT) (U : UT) (H : Heap) (locs : List Loc) (ls : Array Slot), wl_M_vectors_138 θ a0_138 x1_138 x2_138 x3_138 x4_138 x5_138 x6_138 x7_138 x8_138 x9_138 x10_138 K n138 x11_138 V U → wo θ V U H → Sx θ s H locs → lv_has ls 15 [(0, .ref a0_138), (1, .int x1_138), (2, .int x2_138), (3, .int x3_138), (4, .int x4_138), (5, .int x5_138), (6, .int x6_138), (7, .int x7_138), (8, .int x8_138), (9, .int x9_138), (10, .int x10_138), (11, .int x11_138)] → W p l e rmM_vectors s m args below meth c H locs 0 0 (MQ below (QI θ K) args s 0 0 (aT θ)) (F0 m 138 ls []) := by
    intro a0_138 x1_138 x2_138 x3_138 x4_138 x5_138 x6_138 x7_138 x8_138 x9_138 x10_138 n138
    induction n138 with
    | zero => intro x11_138 V U H locs ls hw hwo hS hl; exact (show False from hw).elim
    | succ n138 ih138 =>
      intro x11_138 V U H locs ls hw hwo hS hl
      replace hw : bl_M_vectors_138 θ a0_138 x1_138 x2_138 x3_138 x4_138 x5_138 x6_138 x7_138 x8_138 x9_138 x10_138 K (wl_M_vectors_138 θ a0_138 x1_138 x2_138 x3_138 x4_138 x5_138 x6_138 x7_138 x8_138 x9_138 x10_138 K n138) x11_138 V U := hw
      unfold bl_M_vectors_138 at hw
      refine lv_iload hx hb dM_vectors_138 (lv_at hl 11 rfl) ?_
      refine lv_iload hx hb dM_vectors_140 (lv_at hl 10 rfl) ?_
      refine lv_icmp_ge (tgt := 164) hx hb dM_vectors_142 (by decide) (fun hc_49 => ?_) (fun hc_49 => ?_)
      · replace hw := hw.1 hc_49
        refine lv_iconst (v := 0) hx hb dM_vectors_164 (by decide) ?_
        refine lv_istore (i := 11) (lv' := [(11, .int (0 : Int32)), (0, .ref a0_138), (1, .int x1_138), (2, .int x2_138), (3, .int x3_138), (4, .int x4_138), (5, .int x5_138), (6, .int x6_138), (7, .int x7_138), (8, .int x8_138), (9, .int x9_138), (10, .int x10_138)]) hx hb dM_vectors_165 hl (by decide) rfl (fun ls hl => ?_)
        obtain ⟨n, hw⟩ := hw
        exact L167 _ _ _ _ _ _ _ _ _ n _ _ _ _ _ _ hw hwo hS (lv_sub hl [1, 2, 3, 4, 5, 6, 7, 8, 10, 0] rfl)
      · replace hw := hw.2 hc_49
        refine lv_aload_n hx hb dM_vectors_145 rfl (lv_at hl 0 rfl) ?_
        obtain ⟨ho_50, hw⟩ := hw
        obtain ⟨hz_51, hw⟩ := hw
        refine g_getR hC fkM_98 rfl hwo ho_50 hz_51 dM_vectors_146 ?_
        refine lv_iload hx hb dM_vectors_149 (lv_at hl 11 rfl) ?_
        refine lv_aload_n hx hb dM_vectors_151 rfl (lv_at hl 0 rfl) ?_
        refine lv_iload hx hb dM_vectors_152 (lv_at hl 8 rfl) ?_
        refine g_Vi (rest := [.int x11_138, .ref (U a0_138 51)]) hC (c_M_read l θ _ _ _ _ _ hw) mi_M_read mlM_249 mv_M_read ci_12 ho_50 hwo hS ⟨rfl, rfl⟩ ⟨by decide, by decide⟩ rfl hl.1 rfl (Nat.le_of_ble_eq_true rfl) dM_vectors_154 (fun r_54 V_52 U_53 hw H locs hwo hS => ?_)
        obtain ⟨n_55, ha_56, hw⟩ := hw
        obtain ⟨hi_57, hw⟩ := hw
        refine g_iast hC hwo hS ha_56 hi_57 dM_vectors_157 (fun V_58 eV_58 H locs hwo hS => ?_)
        replace hw := hw V_58 eV_58
        obtain ⟨y_59, ey_59⟩ : ∃ z : Int32, z = x11_138 + (1 : Int32) := ⟨_, rfl⟩
        replace hw := hw y_59 ey_59
        refine lv_iinc (k := 11) (v := y_59) (lv' := [(11, .int y_59), (0, .ref a0_138), (1, .int x1_138), (2, .int x2_138), (3, .int x3_138), (4, .int x4_138), (5, .int x5_138), (6, .int x6_138), (7, .int x7_138), (8, .int x8_138), (9, .int x9_138), (10, .int x10_138)]) hx hb dM_vectors_158 hl rfl (by rw [ey_59]; rfl) (by decide) rfl (fun ls hl => ?_)
        refine lv_goto (tgt := 138) hx hb dM_vectors_161 (by decide) ?_
        exact ih138 _ _ _ _ _ _ hw hwo hS (lv_sub hl [1, 2, 3, 4, 5, 6, 7, 8, 9, 10, 11, 0] rfl)
  have L100 : ∀ (a0_100 : Nat) (x1_100 : Int32) (x2_100 : Int32) (x3_100 : Int32) (x4_100 : Int32) (x5_100 : Int32) (x6_100 : Int32) (x7_100 : Int32) (x8_100 : Int32) (n100 : Nat) (x9_100 : Int32) (V : VT) (U : UT) (H : Heap) (locs : List Loc) (ls : Array Slot), wl_M_vectors_100 θ a0_100 x1_100 x2_100 x3_100 x4_100 x5_100 x6_100 x7_100 x8_100 K n100 x9_100 V U → wo θ V U H → Sx θ s H locs → lv_has ls 15 [(0, .ref a0_100), (1, .int x1_100), (2, .int x2_100), (3, .int x3_100), (4, .int x4_100), (5, .int x5_100), (6, .int x6_100), (7, .int x7_100), (8, .int x8_100), (9, .int x9_100)] → W p l e rmM_vectors s m args below meth c H locs 0 0 (MQ below (QI θ K) args s 0 0 (aT θ)) (F0 m 100 ls []) := by
    intro a0_100 x1_100 x2_100 x3_100 x4_100 x5_100 x6_100 x7_100 x8_100 n100
    induction n100 with
    | zero => intro x9_100 V U H locs ls hw hwo hS hl; exact (show False from hw).elim
    | succ n100 ih100 =>
      intro x9_100 V U H locs ls hw hwo hS hl
      replace hw : bl_M_vectors_100 θ a0_100 x1_100 x2_100 x3_100 x4_100 x5_100 x6_100 x7_100 x8_100 K (wl_M_vectors_100 θ a0_100 x1_100 x2_100 x3_100 x4_100 x5_100 x6_100 x7_100 x8_100 K n100) x9_100 V U := hw
      unfold bl_M_vectors_100 at hw
      refine lv_iload hx hb dM_vectors_100 (lv_at hl 9 rfl) ?_
      refine lv_iconst (v := 1) hx hb dM_vectors_102 (by decide) ?_
      refine lv_iadd hx hb dM_vectors_103 ?_
      refine lv_iload_n hx hb dM_vectors_104 rfl (lv_at hl 3 rfl) ?_
      refine g_Si (rest := []) hC (c_M_power l θ _ _ _ _ _ hw) mi_M_power mlM_296 ms_M_power hwo hS ⟨rfl, rfl⟩ ⟨by decide, by decide⟩ rfl hl.1 rfl (Nat.le_of_ble_eq_true rfl) dM_vectors_105 (fun r_44 V_42 U_43 hw H locs hwo hS => ?_)
      refine lv_iload hx hb dM_vectors_108 (lv_at hl 4 rfl) ?_
      refine lv_icmp_gt (tgt := 119) hx hb dM_vectors_110 (by decide) (fun hc_45 => ?_) (fun hc_45 => ?_)
      · replace hw := hw.1 hc_45
        refine lv_iload_n hx hb dM_vectors_119 rfl (lv_at hl 2 rfl) ?_
        refine lv_iconst (v := 1) hx hb dM_vectors_120 (by decide) ?_
        refine lv_icmp_ne (tgt := 129) hx hb dM_vectors_121 (by decide) (fun hc_46 => ?_) (fun hc_46 => ?_)
        · replace hw := hw.1 hc_46
          refine lv_iload hx hb dM_vectors_129 (lv_at hl 4 rfl) ?_
          refine lv_iload_n hx hb dM_vectors_131 rfl (lv_at hl 3 rfl) ?_
          refine lv_imul hx hb dM_vectors_132 ?_
          refine lv_topi (fun y_47 ey_47 => ?_)
          replace hw := hw y_47 ey_47
          refine lv_istore (i := 10) (lv' := [(10, .int y_47), (0, .ref a0_100), (1, .int x1_100), (2, .int x2_100), (3, .int x3_100), (4, .int x4_100), (5, .int x5_100), (6, .int x6_100), (7, .int x7_100), (8, .int x8_100), (9, .int x9_100)]) hx hb dM_vectors_133 hl (by decide) rfl (fun ls hl => ?_)
          refine lv_iconst (v := 0) hx hb dM_vectors_135 (by decide) ?_
          refine lv_istore (i := 11) (lv' := [(11, .int (0 : Int32)), (10, .int y_47), (0, .ref a0_100), (1, .int x1_100), (2, .int x2_100), (3, .int x3_100), (4, .int x4_100), (5, .int x5_100), (6, .int x6_100), (7, .int x7_100), (8, .int x8_100), (9, .int x9_100)]) hx hb dM_vectors_136 hl (by decide) rfl (fun ls hl => ?_)
          obtain ⟨n, hw⟩ := hw
          exact L138 _ _ _ _ _ _ _ _ _ _ _ n _ _ _ _ _ _ hw hwo hS (lv_sub hl [2, 3, 4, 5, 6, 7, 8, 9, 10, 11, 1, 0] rfl)
        · replace hw := hw.2 hc_46
          refine lv_iload hx hb dM_vectors_124 (lv_at hl 9 rfl) ?_
          refine lv_goto (tgt := 133) hx hb dM_vectors_126 (by decide) ?_
          refine lv_istore (i := 10) (lv' := [(10, .int x9_100), (0, .ref a0_100), (1, .int x1_100), (2, .int x2_100), (3, .int x3_100), (4, .int x4_100), (5, .int x5_100), (6, .int x6_100), (7, .int x7_100), (8, .int x8_100), (9, .int x9_100)]) hx hb dM_vectors_133 hl (by decide) rfl (fun ls hl => ?_)
          refine lv_iconst (v := 0) hx hb dM_vectors_135 (by decide) ?_
          refine lv_istore (i := 11) (lv' := [(11, .int (0 : Int32)), (10, .int x9_100), (0, .ref a0_100), (1, .int x1_100), (2, .int x2_100), (3, .int x3_100), (4, .int x4_100), (5, .int x5_100), (6, .int x6_100), (7, .int x7_100), (8, .int x8_100), (9, .int x9_100)]) hx hb dM_vectors_136 hl (by decide) rfl (fun ls hl => ?_)
          obtain ⟨n, hw⟩ := hw
          exact L138 _ _ _ _ _ _ _ _ _ _ _ n _ _ _ _ _ _ hw hwo hS (lv_sub hl [2, 3, 4, 5, 6, 7, 8, 9, 10, 11, 1, 0] rfl)
      · replace hw := hw.2 hc_45
        obtain ⟨y_48, ey_48⟩ : ∃ z : Int32, z = x9_100 + (1 : Int32) := ⟨_, rfl⟩
        replace hw := hw y_48 ey_48
        refine lv_iinc (k := 9) (v := y_48) (lv' := [(9, .int y_48), (0, .ref a0_100), (1, .int x1_100), (2, .int x2_100), (3, .int x3_100), (4, .int x4_100), (5, .int x5_100), (6, .int x6_100), (7, .int x7_100), (8, .int x8_100)]) hx hb dM_vectors_113 hl rfl (by rw [ey_48]; rfl) (by decide) rfl (fun ls hl => ?_)
        refine lv_goto (tgt := 100) hx hb dM_vectors_116 (by decide) ?_
        exact ih100 _ _ _ _ _ _ hw hwo hS (lv_sub hl [1, 2, 3, 4, 5, 6, 7, 8, 9, 0] rfl)
  have J86 : ∀ (a0_86 : Nat) (x1_86 : Int32) (x2_86 : Int32) (x3_86 : Int32) (x4_86 : Int32) (x5_86 : Int32) (x6_86 : Int32) (z0_86 : Int32) (V : VT) (U : UT) (H : Heap) (locs : List Loc) (ls : Array Slot), wb_M_vectors_86 θ a0_86 x1_86 x2_86 x3_86 x4_86 x5_86 x6_86 z0_86 K V U → wo θ V U H → Sx θ s H locs → lv_has ls 15 [(0, .ref a0_86), (1, .int x1_86), (2, .int x2_86), (3, .int x3_86), (4, .int x4_86), (5, .int x5_86), (6, .int x6_86)] → W p l e rmM_vectors s m args below meth c H locs 0 0 (MQ below (QI θ K) args s 0 0 (aT θ)) (F0 m 86 ls [.int z0_86]) := by
    intro a0_86 x1_86 x2_86 x3_86 x4_86 x5_86 x6_86 z0_86 V U H locs ls hw hwo hS hl
    unfold wb_M_vectors_86 at hw
    refine lv_istore (i := 7) (lv' := [(7, .int z0_86), (0, .ref a0_86), (1, .int x1_86), (2, .int x2_86), (3, .int x3_86), (4, .int x4_86), (5, .int x5_86), (6, .int x6_86)]) hx hb dM_vectors_86 hl (by decide) rfl (fun ls hl => ?_)
    refine lv_aload_n hx hb dM_vectors_88 rfl (lv_at hl 1 rfl) ?_
    refine lv_iconst (v := 2) hx hb dM_vectors_89 (by decide) ?_
    obtain ⟨ho_39, hw⟩ := hw
    refine g_Vi (rest := []) hC (c_M_read l θ _ _ _ _ _ hw) mi_M_read mlM_249 mv_M_read ci_12 ho_39 hwo hS ⟨rfl, rfl⟩ ⟨by decide, by decide⟩ rfl hl.1 rfl (Nat.le_of_ble_eq_true rfl) dM_vectors_90 (fun r_40 V_37 U_38 hw H locs hwo hS => ?_)
    refine lv_iconst (v := 1) hx hb dM_vectors_93 (by decide) ?_
    refine lv_iadd hx hb dM_vectors_94 ?_
    refine lv_topi (fun y_41 ey_41 => ?_)
    replace hw := hw y_41 ey_41
    refine lv_istore (i := 8) (lv' := [(8, .int y_41), (7, .int z0_86), (0, .ref a0_86), (1, .int x1_86), (2, .int x2_86), (3, .int x3_86), (4, .int x4_86), (5, .int x5_86), (6, .int x6_86)]) hx hb dM_vectors_95 hl (by decide) rfl (fun ls hl => ?_)
    refine lv_iconst (v := 1) hx hb dM_vectors_97 (by decide) ?_
    refine lv_istore (i := 9) (lv' := [(9, .int (1 : Int32)), (8, .int y_41), (7, .int z0_86), (0, .ref a0_86), (1, .int x1_86), (2, .int x2_86), (3, .int x3_86), (4, .int x4_86), (5, .int x5_86), (6, .int x6_86)]) hx hb dM_vectors_98 hl (by decide) rfl (fun ls hl => ?_)
    obtain ⟨n, hw⟩ := hw
    exact L100 _ _ _ _ _ _ _ _ _ n _ _ _ _ _ _ hw hwo hS (lv_sub hl [3, 4, 5, 6, 7, 8, 9, 2, 1, 0] rfl)
  have J35 : ∀ (a0_35 : Nat) (x1_35 : Int32) (x2_35 : Int32) (x3_35 : Int32) (x4_35 : Int32) (z0_35 : Int32) (z1_35 : Int32) (z2_35 : Nat) (V : VT) (U : UT) (H : Heap) (locs : List Loc) (ls : Array Slot), wb_M_vectors_35 θ a0_35 x1_35 x2_35 x3_35 x4_35 z0_35 z1_35 z2_35 K V U → wo θ V U H → Sx θ s H locs → lv_has ls 15 [(0, .ref a0_35), (1, .int x1_35), (2, .int x2_35), (3, .int x3_35), (4, .int x4_35)] → W p l e rmM_vectors s m args below meth c H locs 0 0 (MQ below (QI θ K) args s 0 0 (aT θ)) (F0 m 35 ls [.int z0_35, .int z1_35, .ref z2_35]) := by
    intro a0_35 x1_35 x2_35 x3_35 x4_35 z0_35 z1_35 z2_35 V U H locs ls hw hwo hS hl
    unfold wb_M_vectors_35 at hw
    obtain ⟨n_17, ha_18, hw⟩ := hw
    obtain ⟨hi_19, hw⟩ := hw
    obtain ⟨hb_20, hw⟩ := hw
    refine g_zast hC hwo hS ha_18 hi_19 hb_20 dM_vectors_35 (fun V_21 eV_21 H locs hwo hS => ?_)
    replace hw := hw V_21 eV_21
    refine lv_iload_n hx hb dM_vectors_36 rfl (lv_at hl 2 rfl) ?_
    refine lv_if_eq (tgt := 45) hx hb dM_vectors_37 (by decide) (fun hc_22 => ?_) (fun hc_22 => ?_)
    · replace hw := hw.1 hc_22
      exact J45 _ _ _ _ _ _ hw hwo hS (lv_sub hl [2] rfl)
    · replace hw := hw.2 hc_22
      refine lv_iload_n hx hb dM_vectors_40 rfl (lv_at hl 2 rfl) ?_
      refine lv_iconst (v := 3) hx hb dM_vectors_41 (by decide) ?_
      refine lv_icmp_ne (tgt := 55) hx hb dM_vectors_42 (by decide) (fun hc_23 => ?_) (fun hc_23 => ?_)
      · replace hw := hw.1 hc_23
        refine lv_aload_n hx hb dM_vectors_55 rfl (lv_at hl 0 rfl) ?_
        refine lv_iconst (v := 4) hx hb dM_vectors_56 (by decide) ?_
        obtain ⟨ho_26, hw⟩ := hw
        refine g_Vi (rest := []) hC (c_M_read l θ _ _ _ _ _ hw) mi_M_read mlM_249 mv_M_read ci_12 ho_26 hwo hS ⟨rfl, rfl⟩ ⟨by decide, by decide⟩ rfl hl.1 rfl (Nat.le_of_ble_eq_true rfl) dM_vectors_57 (fun r_27 V_24 U_25 hw H locs hwo hS => ?_)
        refine lv_bipush (v := 8) hx hb dM_vectors_60 (by decide) ?_
        refine lv_isub hx hb dM_vectors_62 ?_
        refine lv_topi (fun y_28 ey_28 => ?_)
        replace hw := hw y_28 ey_28
        refine lv_istore (i := 5) (lv' := [(5, .int y_28), (0, .ref a0_35), (1, .int x1_35), (2, .int x2_35), (3, .int x3_35), (4, .int x4_35)]) hx hb dM_vectors_63 hl (by decide) rfl (fun ls hl => ?_)
        refine lv_aload_n hx hb dM_vectors_65 rfl (lv_at hl 1 rfl) ?_
        refine lv_iconst (v := 3) hx hb dM_vectors_66 (by decide) ?_
        refine g_Vi (rest := []) hC (c_M_read l θ _ _ _ _ _ hw) mi_M_read mlM_249 mv_M_read ci_12 ho_26 hwo hS ⟨rfl, rfl⟩ ⟨by decide, by decide⟩ rfl hl.1 rfl (Nat.le_of_ble_eq_true rfl) dM_vectors_67 (fun r_31 V_29 U_30 hw H locs hwo hS => ?_)
        refine lv_istore (i := 6) (lv' := [(6, .int r_31), (5, .int y_28), (0, .ref a0_35), (1, .int x1_35), (2, .int x2_35), (3, .int x3_35), (4, .int x4_35)]) hx hb dM_vectors_70 hl (by decide) rfl (fun ls hl => ?_)
        refine lv_aload_n hx hb dM_vectors_72 rfl (lv_at hl 2 rfl) ?_
        refine lv_iconst (v := 1) hx hb dM_vectors_73 (by decide) ?_
        refine g_Vi (rest := []) hC (c_M_read l θ _ _ _ _ _ hw) mi_M_read mlM_249 mv_M_read ci_12 ho_26 hwo hS ⟨rfl, rfl⟩ ⟨by decide, by decide⟩ rfl hl.1 rfl (Nat.le_of_ble_eq_true rfl) dM_vectors_74 (fun r_34 V_32 U_33 hw H locs hwo hS => ?_)
        refine lv_iconst (v := 1) hx hb dM_vectors_77 (by decide) ?_
        refine lv_icmp_ne (tgt := 85) hx hb dM_vectors_78 (by decide) (fun hc_35 => ?_) (fun hc_35 => ?_)
        · replace hw := hw.1 hc_35
          refine lv_iconst (v := 0) hx hb dM_vectors_85 (by decide) ?_
          exact J86 _ _ _ _ _ _ _ _ _ _ _ _ _ hw hwo hS (lv_sub hl [2, 3, 4, 5, 6, 1, 0] rfl)
        · replace hw := hw.2 hc_35
          refine lv_iconst (v := 1) hx hb dM_vectors_81 (by decide) ?_
          refine lv_goto (tgt := 86) hx hb dM_vectors_82 (by decide) ?_
          exact J86 _ _ _ _ _ _ _ _ _ _ _ _ _ hw hwo hS (lv_sub hl [2, 3, 4, 5, 6, 1, 0] rfl)
      · replace hw := hw.2 hc_23
        exact J45 _ _ _ _ _ _ hw hwo hS (lv_sub hl [2] rfl)
  unfold wp_M_vectors at hw
  refine lv_aload_n hx hb dM_vectors_0 rfl (lv_at hl 0 rfl) ?_
  refine lv_iconst (v := 2) hx hb dM_vectors_1 (by decide) ?_
  obtain ⟨ho_3, hw⟩ := hw
  refine g_Vi (rest := []) hC (c_M_read l θ _ _ _ _ _ hw) mi_M_read mlM_249 mv_M_read ci_12 ho_3 hwo hS ⟨rfl, rfl⟩ ⟨by decide, by decide⟩ rfl hl.1 rfl (Nat.le_of_ble_eq_true rfl) dM_vectors_2 (fun r_4 V_1 U_2 hw H locs hwo hS => ?_)
  refine lv_istore_n (i := 2) (lv' := [(2, .int r_4), (0, .ref a0), (1, .int x1)]) hx hb dM_vectors_5 rfl hl (by decide) rfl (fun ls hl => ?_)
  refine lv_aload_n hx hb dM_vectors_6 rfl (lv_at hl 1 rfl) ?_
  obtain ⟨hz_5, hw⟩ := hw
  refine g_getR hC fkM_80 rfl hwo ho_3 hz_5 dM_vectors_7 ?_
  refine lv_iload_n hx hb dM_vectors_10 rfl (lv_at hl 2 rfl) ?_
  obtain ⟨n_6, ha_7, hw⟩ := hw
  obtain ⟨hi_8, hw⟩ := hw
  refine g_iald hC hwo ha_7 hi_8 dM_vectors_11 ?_
  refine lv_topi (fun y_9 ey_9 => ?_)
  replace hw := hw y_9 ey_9
  refine lv_istore_n (i := 3) (lv' := [(3, .int y_9), (2, .int r_4), (0, .ref a0), (1, .int x1)]) hx hb dM_vectors_12 rfl hl (by decide) rfl (fun ls hl => ?_)
  refine lv_aload_n hx hb dM_vectors_13 rfl (lv_at hl 2 rfl) ?_
  obtain ⟨hz_10, hw⟩ := hw
  refine g_getR hC fkM_83 rfl hwo ho_3 hz_10 dM_vectors_14 ?_
  refine lv_iload_n hx hb dM_vectors_17 rfl (lv_at hl 3 rfl) ?_
  obtain ⟨n_11, ha_12, hw⟩ := hw
  obtain ⟨hi_13, hw⟩ := hw
  refine g_iald hC hwo ha_12 hi_13 dM_vectors_18 ?_
  refine lv_topi (fun y_14 ey_14 => ?_)
  replace hw := hw y_14 ey_14
  refine lv_istore (i := 4) (lv' := [(4, .int y_14), (3, .int y_9), (2, .int r_4), (0, .ref a0), (1, .int x1)]) hx hb dM_vectors_19 hl (by decide) rfl (fun ls hl => ?_)
  refine lv_aload_n hx hb dM_vectors_21 rfl (lv_at hl 3 rfl) ?_
  obtain ⟨hz_15, hw⟩ := hw
  refine g_getR hC fkM_92 rfl hwo ho_3 hz_15 dM_vectors_22 ?_
  refine lv_iload_n hx hb dM_vectors_25 rfl (lv_at hl 4 rfl) ?_
  refine lv_iload_n hx hb dM_vectors_26 rfl (lv_at hl 2 rfl) ?_
  refine lv_if_eq (tgt := 34) hx hb dM_vectors_27 (by decide) (fun hc_16 => ?_) (fun hc_16 => ?_)
  · replace hw := hw.1 hc_16
    refine lv_iconst (v := 0) hx hb dM_vectors_34 (by decide) ?_
    exact J35 _ _ _ _ _ _ _ _ _ _ _ _ _ hw hwo hS (lv_sub hl [3, 4, 2, 1, 0] rfl)
  · replace hw := hw.2 hc_16
    refine lv_iconst (v := 1) hx hb dM_vectors_30 (by decide) ?_
    refine lv_goto (tgt := 35) hx hb dM_vectors_31 (by decide) ?_
    exact J35 _ _ _ _ _ _ _ _ _ _ _ _ _ hw hwo hS (lv_sub hl [3, 4, 2, 1, 0] rfl)
theorem dM_fits_0 : decode kM_fits 0 = .ok (.iconst 0, 1) := by decide +kernel
theorem dM_fits_1 : decode kM_fits 1 = .ok (.istore 5, 2) := by decide +kernel
theorem dM_fits_3 : decode kM_fits 3 = .ok (.iload 5, 2) := by decide +kernel
theorem dM_fits_5 : decode kM_fits 5 = .ok (.iload_n 2, 1) := by decide +kernel
theorem dM_fits_6 : decode kM_fits 6 = .ok (.if_icmp .ge 68, 3) := by decide +kernel
theorem dM_fits_9 : decode kM_fits 9 = .ok (.aload_n 0, 1) := by decide +kernel
theorem dM_fits_10 : decode kM_fits 10 = .ok (.getfield 86, 3) := by decide +kernel
theorem dM_fits_13 : decode kM_fits 13 = .ok (.iload_n 1, 1) := by decide +kernel
theorem dM_fits_14 : decode kM_fits 14 = .ok (.iload 5, 2) := by decide +kernel
theorem dM_fits_16 : decode kM_fits 16 = .ok (.iadd, 1) := by decide +kernel
theorem dM_fits_17 : decode kM_fits 17 = .ok (.iaload, 1) := by decide +kernel
theorem dM_fits_18 : decode kM_fits 18 = .ok (.istore 6, 2) := by decide +kernel
theorem dM_fits_20 : decode kM_fits 20 = .ok (.iload 6, 2) := by decide +kernel
theorem dM_fits_22 : decode kM_fits 22 = .ok (.iload 4, 2) := by decide +kernel
theorem dM_fits_24 : decode kM_fits 24 = .ok (.if_icmp .ge 8, 3) := by decide +kernel
theorem dM_fits_27 : decode kM_fits 27 = .ok (.iload 6, 2) := by decide +kernel
theorem dM_fits_29 : decode kM_fits 29 = .ok (.goto 5, 3) := by decide +kernel
theorem dM_fits_32 : decode kM_fits 32 = .ok (.iload 4, 2) := by decide +kernel
theorem dM_fits_34 : decode kM_fits 34 = .ok (.istore 7, 2) := by decide +kernel
theorem dM_fits_36 : decode kM_fits 36 = .ok (.iload 6, 2) := by decide +kernel
theorem dM_fits_38 : decode kM_fits 38 = .ok (.ifCond .le 30, 3) := by decide +kernel
theorem dM_fits_41 : decode kM_fits 41 = .ok (.iload_n 3, 1) := by decide +kernel
theorem dM_fits_42 : decode kM_fits 42 = .ok (.iload 4, 2) := by decide +kernel
theorem dM_fits_44 : decode kM_fits 44 = .ok (.iload 7, 2) := by decide +kernel
theorem dM_fits_46 : decode kM_fits 46 = .ok (.isub, 1) := by decide +kernel
theorem dM_fits_47 : decode kM_fits 47 = .ok (.ishr, 1) := by decide +kernel
theorem dM_fits_48 : decode kM_fits 48 = .ok (.aload_n 0, 1) := by decide +kernel
theorem dM_fits_49 : decode kM_fits 49 = .ok (.getfield 89, 3) := by decide +kernel
theorem dM_fits_52 : decode kM_fits 52 = .ok (.iload_n 1, 1) := by decide +kernel
theorem dM_fits_53 : decode kM_fits 53 = .ok (.iload 5, 2) := by decide +kernel
theorem dM_fits_55 : decode kM_fits 55 = .ok (.iadd, 1) := by decide +kernel
theorem dM_fits_56 : decode kM_fits 56 = .ok (.iaload, 1) := by decide +kernel
theorem dM_fits_57 : decode kM_fits 57 = .ok (.iload 6, 2) := by decide +kernel
theorem dM_fits_59 : decode kM_fits 59 = .ok (.iload 7, 2) := by decide +kernel
theorem dM_fits_61 : decode kM_fits 61 = .ok (.isub, 1) := by decide +kernel
theorem dM_fits_62 : decode kM_fits 62 = .ok (.ishr, 1) := by decide +kernel
theorem dM_fits_63 : decode kM_fits 63 = .ok (.if_icmp .ne 5, 3) := by decide +kernel
theorem dM_fits_66 : decode kM_fits 66 = .ok (.iconst 0, 1) := by decide +kernel
theorem dM_fits_67 : decode kM_fits 67 = .ok (.ireturn, 1) := by decide +kernel
theorem dM_fits_68 : decode kM_fits 68 = .ok (.iinc 5 1, 3) := by decide +kernel
theorem dM_fits_71 : decode kM_fits 71 = .ok (.goto (-68), 3) := by decide +kernel
theorem dM_fits_74 : decode kM_fits 74 = .ok (.iconst 1, 1) := by decide +kernel
theorem dM_fits_75 : decode kM_fits 75 = .ok (.ireturn, 1) := by decide +kernel
def wb_M_fits_34 (θ : TH) (a0_3 : Nat) (x1_3 : Int32) (x2_3 : Int32) (x3_3 : Int32) (x4_3 : Int32) (x5_34 : Int32) (x6_34 : Int32) (z0_34 : Int32) (kb3 : Int32 → VT → UT → Prop) (K : Int32 → VT → UT → Prop) (V : VT) (U : UT) : Prop := ((x6_34 ≤ 0 → ∀ y_10 : Int32, y_10 = x5_34 + (1 : Int32) → kb3 y_10 V U) ∧ (¬ x6_34 ≤ 0 → isO θ a0_3 12 ∧ (U a0_3 48) ≠ 0 ∧ ∃ n_13, isA θ (U a0_3 48) 0 n_13 ∧ vp_in (x1_3 + x5_34) n_13 ∧ ((¬ (x3_3 >>> ((x4_3 - z0_34) &&& 31)) = ((V (U a0_3 48) (x1_3 + x5_34).toNatClampNeg) >>> ((x6_34 - z0_34) &&& 31)) → ∀ y_17 : Int32, y_17 = x5_34 + (1 : Int32) → kb3 y_17 V U) ∧ ((x3_3 >>> ((x4_3 - z0_34) &&& 31)) = ((V (U a0_3 48) (x1_3 + x5_34).toNatClampNeg) >>> ((x6_34 - z0_34) &&& 31)) → K (0 : Int32) V U))))
def bl_M_fits_3 (θ : TH) (a0_3 : Nat) (x1_3 : Int32) (x2_3 : Int32) (x3_3 : Int32) (x4_3 : Int32) (K : Int32 → VT → UT → Prop) (kb3 : Int32 → VT → UT → Prop) (x5_3 : Int32) (V : VT) (U : UT) : Prop := ((x2_3 ≤ x5_3 → K (1 : Int32) V U) ∧ (¬ x2_3 ≤ x5_3 → isO θ a0_3 12 ∧ (U a0_3 47) ≠ 0 ∧ ∃ n_4, isA θ (U a0_3 47) 0 n_4 ∧ vp_in (x1_3 + x5_3) n_4 ∧ ∀ y_7 : Int32, y_7 = (V (U a0_3 47) (x1_3 + x5_3).toNatClampNeg) → ((x4_3 ≤ y_7 → wb_M_fits_34 θ a0_3 x1_3 x2_3 x3_3 x4_3 x5_3 y_7 x4_3 kb3 K V U) ∧ (¬ x4_3 ≤ y_7 → wb_M_fits_34 θ a0_3 x1_3 x2_3 x3_3 x4_3 x5_3 y_7 y_7 kb3 K V U))))
def wl_M_fits_3 (θ : TH) (a0_3 : Nat) (x1_3 : Int32) (x2_3 : Int32) (x3_3 : Int32) (x4_3 : Int32) (K : Int32 → VT → UT → Prop) : Nat → Int32 → VT → UT → Prop
  | 0, _, _, _ => False
  | n + 1, x5_3, V, U => bl_M_fits_3 θ a0_3 x1_3 x2_3 x3_3 x4_3 K (wl_M_fits_3 θ a0_3 x1_3 x2_3 x3_3 x4_3 K n) x5_3 V U
def wp_M_fits (θ : TH) (a0 : Nat) (x1 : Int32) (x2 : Int32) (x3 : Int32) (x4 : Int32) (V : VT) (U : UT) (K : Int32 → VT → UT → Prop) : Prop := ∃ n, wl_M_fits_3 θ a0 x1 x2 x3 x4 K n (0 : Int32) V U
set_option maxRecDepth 100000 in
set_option maxHeartbeats 4000000 in
theorem c_M_fits (l : Launch) (θ : TH) (a0 : Nat) (x1 : Int32) (x2 : Int32) (x3 : Int32) (x4 : Int32) (V : VT) (U : UT) (K : Int32 → VT → UT → Prop) (hw : wp_M_fits θ a0 x1 x2 x3 x4 V U K) : CMi l yM_fits kM_fits 8 (some .boolean) rmM_fits θ [.ref a0, .int x1, .int x2, .int x3, .int x4] V U K := by
  refine g_met nRM (by decide +kernel) rfl (Nat.le_of_ble_eq_true rfl) (fun p e s m args below meth c ls hC hr hlk hwo hl => ?_)
  have hx := hC.1
  have hb := hC.2.1
  have hS : Sx θ s s.heap [] := va_S.rf
  have hl : lv_has ls 8 [(0, .ref a0), (1, .int x1), (2, .int x2), (3, .int x3), (4, .int x4)] := hl
  have L3 : ∀ (a0_3 : Nat) (x1_3 : Int32) (x2_3 : Int32) (x3_3 : Int32) (x4_3 : Int32) (n3 : Nat) (x5_3 : Int32) (V : VT) (U : UT) (H : Heap) (locs : List Loc) (ls : Array Slot), wl_M_fits_3 θ a0_3 x1_3 x2_3 x3_3 x4_3 K n3 x5_3 V U → wo θ V U H → Sx θ s H locs → lv_has ls 8 [(0, .ref a0_3), (1, .int x1_3), (2, .int x2_3), (3, .int x3_3), (4, .int x4_3), (5, .int x5_3)] → W p l e rmM_fits s m args below meth c H locs 0 0 (MQ below (QI θ K) args s 0 0 (aT θ)) (F0 m 3 ls []) := by
    intro a0_3 x1_3 x2_3 x3_3 x4_3 n3
    induction n3 with
    | zero => intro x5_3 V U H locs ls hw hwo hS hl; exact (show False from hw).elim
    | succ n3 ih3 =>
      have J34 : ∀ (x5_34 : Int32) (x6_34 : Int32) (z0_34 : Int32) (V : VT) (U : UT) (H : Heap) (locs : List Loc) (ls : Array Slot), wb_M_fits_34 θ a0_3 x1_3 x2_3 x3_3 x4_3 x5_34 x6_34 z0_34 (wl_M_fits_3 θ a0_3 x1_3 x2_3 x3_3 x4_3 K n3) K V U → wo θ V U H → Sx θ s H locs → lv_has ls 8 [(0, .ref a0_3), (1, .int x1_3), (2, .int x2_3), (3, .int x3_3), (4, .int x4_3), (5, .int x5_34), (6, .int x6_34)] → W p l e rmM_fits s m args below meth c H locs 0 0 (MQ below (QI θ K) args s 0 0 (aT θ)) (F0 m 34 ls [.int z0_34]) := by
        intro x5_34 x6_34 z0_34 V U H locs ls hw hwo hS hl
        unfold wb_M_fits_34 at hw
        refine lv_istore (i := 7) (lv' := [(7, .int z0_34), (0, .ref a0_3), (1, .int x1_3), (2, .int x2_3), (3, .int x3_3), (4, .int x4_3), (5, .int x5_34), (6, .int x6_34)]) hx hb dM_fits_34 hl (by decide) rfl (fun ls hl => ?_)
        refine lv_iload hx hb dM_fits_36 (lv_at hl 7 rfl) ?_
        refine lv_if_le (tgt := 68) hx hb dM_fits_38 (by decide) (fun hc_9 => ?_) (fun hc_9 => ?_)
        · replace hw := hw.1 hc_9
          obtain ⟨y_10, ey_10⟩ : ∃ z : Int32, z = x5_34 + (1 : Int32) := ⟨_, rfl⟩
          replace hw := hw y_10 ey_10
          refine lv_iinc (k := 6) (v := y_10) (lv' := [(5, .int y_10), (7, .int z0_34), (0, .ref a0_3), (1, .int x1_3), (2, .int x2_3), (3, .int x3_3), (4, .int x4_3), (6, .int x6_34)]) hx hb dM_fits_68 hl rfl (by rw [ey_10]; rfl) (by decide) rfl (fun ls hl => ?_)
          refine lv_goto (tgt := 3) hx hb dM_fits_71 (by decide) ?_
          exact ih3 _ _ _ _ _ _ hw hwo hS (lv_sub hl [2, 3, 4, 5, 6, 0] rfl)
        · replace hw := hw.2 hc_9
          refine lv_iload_n hx hb dM_fits_41 rfl (lv_at hl 4 rfl) ?_
          refine lv_iload hx hb dM_fits_42 (lv_at hl 5 rfl) ?_
          refine lv_iload hx hb dM_fits_44 (lv_at hl 0 rfl) ?_
          refine lv_isub hx hb dM_fits_46 ?_
          refine lv_ishr hx hb dM_fits_47 ?_
          refine lv_aload_n hx hb dM_fits_48 rfl (lv_at hl 1 rfl) ?_
          obtain ⟨ho_11, hw⟩ := hw
          obtain ⟨hz_12, hw⟩ := hw
          refine g_getR hC fkM_89 rfl hwo ho_11 hz_12 dM_fits_49 ?_
          refine lv_iload_n hx hb dM_fits_52 rfl (lv_at hl 2 rfl) ?_
          refine lv_iload hx hb dM_fits_53 (lv_at hl 6 rfl) ?_
          refine lv_iadd hx hb dM_fits_55 ?_
          obtain ⟨n_13, ha_14, hw⟩ := hw
          obtain ⟨hi_15, hw⟩ := hw
          refine g_iald hC hwo ha_14 hi_15 dM_fits_56 ?_
          refine lv_iload hx hb dM_fits_57 (lv_at hl 7 rfl) ?_
          refine lv_iload hx hb dM_fits_59 (lv_at hl 0 rfl) ?_
          refine lv_isub hx hb dM_fits_61 ?_
          refine lv_ishr hx hb dM_fits_62 ?_
          refine lv_icmp_ne (tgt := 68) hx hb dM_fits_63 (by decide) (fun hc_16 => ?_) (fun hc_16 => ?_)
          · replace hw := hw.1 hc_16
            obtain ⟨y_17, ey_17⟩ : ∃ z : Int32, z = x5_34 + (1 : Int32) := ⟨_, rfl⟩
            replace hw := hw y_17 ey_17
            refine lv_iinc (k := 6) (v := y_17) (lv' := [(5, .int y_17), (7, .int z0_34), (0, .ref a0_3), (1, .int x1_3), (2, .int x2_3), (3, .int x3_3), (4, .int x4_3), (6, .int x6_34)]) hx hb dM_fits_68 hl rfl (by rw [ey_17]; rfl) (by decide) rfl (fun ls hl => ?_)
            refine lv_goto (tgt := 3) hx hb dM_fits_71 (by decide) ?_
            exact ih3 _ _ _ _ _ _ hw hwo hS (lv_sub hl [2, 3, 4, 5, 6, 0] rfl)
          · replace hw := hw.2 hc_16
            refine lv_iconst (v := 0) hx hb dM_fits_66 (by decide) ?_
            exact g_zret hC hr hlk (Or.inl rfl) hw hwo hS dM_fits_67
      intro x5_3 V U H locs ls hw hwo hS hl
      replace hw : bl_M_fits_3 θ a0_3 x1_3 x2_3 x3_3 x4_3 K (wl_M_fits_3 θ a0_3 x1_3 x2_3 x3_3 x4_3 K n3) x5_3 V U := hw
      unfold bl_M_fits_3 at hw
      refine lv_iload hx hb dM_fits_3 (lv_at hl 5 rfl) ?_
      refine lv_iload_n hx hb dM_fits_5 rfl (lv_at hl 2 rfl) ?_
      refine lv_icmp_ge (tgt := 74) hx hb dM_fits_6 (by decide) (fun hc_1 => ?_) (fun hc_1 => ?_)
      · replace hw := hw.1 hc_1
        refine lv_iconst (v := 1) hx hb dM_fits_74 (by decide) ?_
        exact g_zret hC hr hlk (Or.inr rfl) hw hwo hS dM_fits_75
      · replace hw := hw.2 hc_1
        refine lv_aload_n hx hb dM_fits_9 rfl (lv_at hl 0 rfl) ?_
        obtain ⟨ho_2, hw⟩ := hw
        obtain ⟨hz_3, hw⟩ := hw
        refine g_getR hC fkM_86 rfl hwo ho_2 hz_3 dM_fits_10 ?_
        refine lv_iload_n hx hb dM_fits_13 rfl (lv_at hl 1 rfl) ?_
        refine lv_iload hx hb dM_fits_14 (lv_at hl 5 rfl) ?_
        refine lv_iadd hx hb dM_fits_16 ?_
        obtain ⟨n_4, ha_5, hw⟩ := hw
        obtain ⟨hi_6, hw⟩ := hw
        refine g_iald hC hwo ha_5 hi_6 dM_fits_17 ?_
        refine lv_topi (fun y_7 ey_7 => ?_)
        replace hw := hw y_7 ey_7
        refine lv_istore (i := 6) (lv' := [(6, .int y_7), (0, .ref a0_3), (1, .int x1_3), (2, .int x2_3), (3, .int x3_3), (4, .int x4_3), (5, .int x5_3)]) hx hb dM_fits_18 hl (by decide) rfl (fun ls hl => ?_)
        refine lv_iload hx hb dM_fits_20 (lv_at hl 0 rfl) ?_
        refine lv_iload hx hb dM_fits_22 (lv_at hl 5 rfl) ?_
        refine lv_icmp_ge (tgt := 32) hx hb dM_fits_24 (by decide) (fun hc_8 => ?_) (fun hc_8 => ?_)
        · replace hw := hw.1 hc_8
          refine lv_iload hx hb dM_fits_32 (lv_at hl 5 rfl) ?_
          exact J34 _ _ _ _ _ _ _ _ hw hwo hS (lv_sub hl [1, 2, 3, 4, 5, 6, 0] rfl)
        · replace hw := hw.2 hc_8
          refine lv_iload hx hb dM_fits_27 (lv_at hl 0 rfl) ?_
          refine lv_goto (tgt := 34) hx hb dM_fits_29 (by decide) ?_
          exact J34 _ _ _ _ _ _ _ _ hw hwo hS (lv_sub hl [1, 2, 3, 4, 5, 6, 0] rfl)
  unfold wp_M_fits at hw
  refine lv_iconst (v := 0) hx hb dM_fits_0 (by decide) ?_
  refine lv_istore (i := 5) (lv' := [(5, .int (0 : Int32)), (0, .ref a0), (1, .int x1), (2, .int x2), (3, .int x3), (4, .int x4)]) hx hb dM_fits_1 hl (by decide) rfl (fun ls hl => ?_)
  obtain ⟨n, hw⟩ := hw
  exact L3 _ _ _ _ _ n _ _ _ _ _ _ hw hwo hS (lv_sub hl [1, 2, 3, 4, 5, 0] rfl)
theorem dM_words_0 : decode kM_words 0 = .ok (.iconst 0, 1) := by decide +kernel
theorem dM_words_1 : decode kM_words 1 = .ok (.istore_n 3, 1) := by decide +kernel
theorem dM_words_2 : decode kM_words 2 = .ok (.iconst 0, 1) := by decide +kernel
theorem dM_words_3 : decode kM_words 3 = .ok (.istore 4, 2) := by decide +kernel
theorem dM_words_5 : decode kM_words 5 = .ok (.iconst 0, 1) := by decide +kernel
theorem dM_words_6 : decode kM_words 6 = .ok (.istore 5, 2) := by decide +kernel
theorem dM_words_8 : decode kM_words 8 = .ok (.iconst 0, 1) := by decide +kernel
theorem dM_words_9 : decode kM_words 9 = .ok (.istore 6, 2) := by decide +kernel
theorem dM_words_11 : decode kM_words 11 = .ok (.iload 6, 2) := by decide +kernel
theorem dM_words_13 : decode kM_words 13 = .ok (.iload_n 2, 1) := by decide +kernel
theorem dM_words_14 : decode kM_words 14 = .ok (.if_icmp .ge 51, 3) := by decide +kernel
theorem dM_words_17 : decode kM_words 17 = .ok (.aload_n 0, 1) := by decide +kernel
theorem dM_words_18 : decode kM_words 18 = .ok (.getfield 86, 3) := by decide +kernel
theorem dM_words_21 : decode kM_words 21 = .ok (.iload_n 1, 1) := by decide +kernel
theorem dM_words_22 : decode kM_words 22 = .ok (.iload 6, 2) := by decide +kernel
theorem dM_words_24 : decode kM_words 24 = .ok (.iadd, 1) := by decide +kernel
theorem dM_words_25 : decode kM_words 25 = .ok (.iaload, 1) := by decide +kernel
theorem dM_words_26 : decode kM_words 26 = .ok (.ifCond .le 33, 3) := by decide +kernel
theorem dM_words_29 : decode kM_words 29 = .ok (.iload_n 3, 1) := by decide +kernel
theorem dM_words_30 : decode kM_words 30 = .ok (.sipush 256, 3) := by decide +kernel
theorem dM_words_33 : decode kM_words 33 = .ok (.aload_n 0, 1) := by decide +kernel
theorem dM_words_34 : decode kM_words 34 = .ok (.getfield 86, 3) := by decide +kernel
theorem dM_words_37 : decode kM_words 37 = .ok (.iload_n 1, 1) := by decide +kernel
theorem dM_words_38 : decode kM_words 38 = .ok (.iload 6, 2) := by decide +kernel
theorem dM_words_40 : decode kM_words 40 = .ok (.iadd, 1) := by decide +kernel
theorem dM_words_41 : decode kM_words 41 = .ok (.iaload, 1) := by decide +kernel
theorem dM_words_42 : decode kM_words 42 = .ok (.ishr, 1) := by decide +kernel
theorem dM_words_43 : decode kM_words 43 = .ok (.iadd, 1) := by decide +kernel
theorem dM_words_44 : decode kM_words 44 = .ok (.istore_n 3, 1) := by decide +kernel
theorem dM_words_45 : decode kM_words 45 = .ok (.iinc 4 1, 3) := by decide +kernel
theorem dM_words_48 : decode kM_words 48 = .ok (.aload_n 0, 1) := by decide +kernel
theorem dM_words_49 : decode kM_words 49 = .ok (.getfield 86, 3) := by decide +kernel
theorem dM_words_52 : decode kM_words 52 = .ok (.iload_n 1, 1) := by decide +kernel
theorem dM_words_53 : decode kM_words 53 = .ok (.iload 6, 2) := by decide +kernel
theorem dM_words_55 : decode kM_words 55 = .ok (.iadd, 1) := by decide +kernel
theorem dM_words_56 : decode kM_words 56 = .ok (.iaload, 1) := by decide +kernel
theorem dM_words_57 : decode kM_words 57 = .ok (.istore 5, 2) := by decide +kernel
theorem dM_words_59 : decode kM_words 59 = .ok (.iinc 6 1, 3) := by decide +kernel
theorem dM_words_62 : decode kM_words 62 = .ok (.goto (-51), 3) := by decide +kernel
theorem dM_words_65 : decode kM_words 65 = .ok (.iload_n 3, 1) := by decide +kernel
theorem dM_words_66 : decode kM_words 66 = .ok (.sipush 256, 3) := by decide +kernel
theorem dM_words_69 : decode kM_words 69 = .ok (.if_icmp .eq 17, 3) := by decide +kernel
theorem dM_words_72 : decode kM_words 72 = .ok (.iload 4, 2) := by decide +kernel
theorem dM_words_74 : decode kM_words 74 = .ok (.iconst 1, 1) := by decide +kernel
theorem dM_words_75 : decode kM_words 75 = .ok (.if_icmp .ne 9, 3) := by decide +kernel
theorem dM_words_78 : decode kM_words 78 = .ok (.iload 5, 2) := by decide +kernel
theorem dM_words_80 : decode kM_words 80 = .ok (.iconst 1, 1) := by decide +kernel
theorem dM_words_81 : decode kM_words 81 = .ok (.if_icmp .eq 5, 3) := by decide +kernel
theorem dM_words_84 : decode kM_words 84 = .ok (.iconst 0, 1) := by decide +kernel
theorem dM_words_85 : decode kM_words 85 = .ok (.ireturn, 1) := by decide +kernel
theorem dM_words_86 : decode kM_words 86 = .ok (.iconst 0, 1) := by decide +kernel
theorem dM_words_87 : decode kM_words 87 = .ok (.istore 6, 2) := by decide +kernel
theorem dM_words_89 : decode kM_words 89 = .ok (.iload 6, 2) := by decide +kernel
theorem dM_words_91 : decode kM_words 91 = .ok (.iload_n 2, 1) := by decide +kernel
theorem dM_words_92 : decode kM_words 92 = .ok (.if_icmp .ge 68, 3) := by decide +kernel
theorem dM_words_95 : decode kM_words 95 = .ok (.aload_n 0, 1) := by decide +kernel
theorem dM_words_96 : decode kM_words 96 = .ok (.getfield 86, 3) := by decide +kernel
theorem dM_words_99 : decode kM_words 99 = .ok (.iload_n 1, 1) := by decide +kernel
theorem dM_words_100 : decode kM_words 100 = .ok (.iload 6, 2) := by decide +kernel
theorem dM_words_102 : decode kM_words 102 = .ok (.iadd, 1) := by decide +kernel
theorem dM_words_103 : decode kM_words 103 = .ok (.iaload, 1) := by decide +kernel
theorem dM_words_104 : decode kM_words 104 = .ok (.istore 7, 2) := by decide +kernel
theorem dM_words_106 : decode kM_words 106 = .ok (.iconst 0, 1) := by decide +kernel
theorem dM_words_107 : decode kM_words 107 = .ok (.istore 8, 2) := by decide +kernel
theorem dM_words_109 : decode kM_words 109 = .ok (.iload 7, 2) := by decide +kernel
theorem dM_words_111 : decode kM_words 111 = .ok (.ifCond .le 32, 3) := by decide +kernel
theorem dM_words_114 : decode kM_words 114 = .ok (.iload 8, 2) := by decide +kernel
theorem dM_words_116 : decode kM_words 116 = .ok (.iconst 1, 1) := by decide +kernel
theorem dM_words_117 : decode kM_words 117 = .ok (.iload 7, 2) := by decide +kernel
theorem dM_words_119 : decode kM_words 119 = .ok (.ishl, 1) := by decide +kernel
theorem dM_words_120 : decode kM_words 120 = .ok (.if_icmp .ge 23, 3) := by decide +kernel
theorem dM_words_123 : decode kM_words 123 = .ok (.aload_n 0, 1) := by decide +kernel
theorem dM_words_124 : decode kM_words 124 = .ok (.iload_n 1, 1) := by decide +kernel
theorem dM_words_125 : decode kM_words 125 = .ok (.iload 6, 2) := by decide +kernel
theorem dM_words_127 : decode kM_words 127 = .ok (.iload 8, 2) := by decide +kernel
theorem dM_words_129 : decode kM_words 129 = .ok (.iload 7, 2) := by decide +kernel
theorem dM_words_131 : decode kM_words 131 = .ok (.invokevirtual 299, 3) := by decide +kernel
theorem dM_words_134 : decode kM_words 134 = .ok (.ifCond .ne 9, 3) := by decide +kernel
theorem dM_words_137 : decode kM_words 137 = .ok (.iinc 8 1, 3) := by decide +kernel
theorem dM_words_140 : decode kM_words 140 = .ok (.goto (-31), 3) := by decide +kernel
theorem dM_words_143 : decode kM_words 143 = .ok (.aload_n 0, 1) := by decide +kernel
theorem dM_words_144 : decode kM_words 144 = .ok (.getfield 89, 3) := by decide +kernel
theorem dM_words_147 : decode kM_words 147 = .ok (.iload_n 1, 1) := by decide +kernel
theorem dM_words_148 : decode kM_words 148 = .ok (.iload 6, 2) := by decide +kernel
theorem dM_words_150 : decode kM_words 150 = .ok (.iadd, 1) := by decide +kernel
theorem dM_words_151 : decode kM_words 151 = .ok (.iload 8, 2) := by decide +kernel
theorem dM_words_153 : decode kM_words 153 = .ok (.iastore, 1) := by decide +kernel
theorem dM_words_154 : decode kM_words 154 = .ok (.iinc 6 1, 3) := by decide +kernel
theorem dM_words_157 : decode kM_words 157 = .ok (.goto (-68), 3) := by decide +kernel
theorem dM_words_160 : decode kM_words 160 = .ok (.iconst 1, 1) := by decide +kernel
theorem dM_words_161 : decode kM_words 161 = .ok (.ireturn, 1) := by decide +kernel
def wb_M_words_143 (θ : TH) (a0_89 : Nat) (x1_89 : Int32) (x2_89 : Int32) (x6_143 : Int32) (x8_143 : Int32) (kb89 : Int32 → VT → UT → Prop) (K : Int32 → VT → UT → Prop) (V : VT) (U : UT) : Prop := isO θ a0_89 12 ∧ (U a0_89 48) ≠ 0 ∧ ∃ n_33, isA θ (U a0_89 48) 0 n_33 ∧ vp_in (x1_89 + x6_143) n_33 ∧ ∀ V_36 : VT, V_36 = up2 V (U a0_89 48) (x1_89 + x6_143).toNatClampNeg x8_143 → ∀ y_37 : Int32, y_37 = x6_143 + (1 : Int32) → kb89 y_37 V_36 U
def bl_M_words_109 (θ : TH) (a0_89 : Nat) (x1_89 : Int32) (x2_89 : Int32) (x6_109 : Int32) (x7_109 : Int32) (kb89 : Int32 → VT → UT → Prop) (K : Int32 → VT → UT → Prop) (kb109 : Int32 → VT → UT → Prop) (x8_109 : Int32) (V : VT) (U : UT) : Prop := ((x7_109 ≤ 0 → wb_M_words_143 θ a0_89 x1_89 x2_89 x6_109 x8_109 kb89 K V U) ∧ (¬ x7_109 ≤ 0 → ((((1 : Int32) <<< (x7_109 &&& 31)) ≤ x8_109 → wb_M_words_143 θ a0_89 x1_89 x2_89 x6_109 x8_109 kb89 K V U) ∧ (¬ ((1 : Int32) <<< (x7_109 &&& 31)) ≤ x8_109 → isO θ a0_89 12 ∧ wp_M_fits θ a0_89 x1_89 x6_109 x8_109 x7_109 V U (fun r_28 V_25 U_26 => ((¬ r_28 = 0 → wb_M_words_143 θ a0_89 x1_89 x2_89 x6_109 x8_109 kb89 K V_25 U_26) ∧ (r_28 = 0 → ∀ y_30 : Int32, y_30 = x8_109 + (1 : Int32) → kb109 y_30 V_25 U_26)))))))
def wl_M_words_109 (θ : TH) (a0_89 : Nat) (x1_89 : Int32) (x2_89 : Int32) (x6_109 : Int32) (x7_109 : Int32) (kb89 : Int32 → VT → UT → Prop) (K : Int32 → VT → UT → Prop) : Nat → Int32 → VT → UT → Prop
  | 0, _, _, _ => False
  | n + 1, x8_109, V, U => bl_M_words_109 θ a0_89 x1_89 x2_89 x6_109 x7_109 kb89 K (wl_M_words_109 θ a0_89 x1_89 x2_89 x6_109 x7_109 kb89 K n) x8_109 V U
def bl_M_words_89 (θ : TH) (a0_89 : Nat) (x1_89 : Int32) (x2_89 : Int32) (K : Int32 → VT → UT → Prop) (kb89 : Int32 → VT → UT → Prop) (x6_89 : Int32) (V : VT) (U : UT) : Prop := ((x2_89 ≤ x6_89 → K (1 : Int32) V U) ∧ (¬ x2_89 ≤ x6_89 → isO θ a0_89 12 ∧ (U a0_89 47) ≠ 0 ∧ ∃ n_19, isA θ (U a0_89 47) 0 n_19 ∧ vp_in (x1_89 + x6_89) n_19 ∧ ∀ y_22 : Int32, y_22 = (V (U a0_89 47) (x1_89 + x6_89).toNatClampNeg) → ∃ n, wl_M_words_109 θ a0_89 x1_89 x2_89 x6_89 y_22 kb89 K n (0 : Int32) V U))
def wl_M_words_89 (θ : TH) (a0_89 : Nat) (x1_89 : Int32) (x2_89 : Int32) (K : Int32 → VT → UT → Prop) : Nat → Int32 → VT → UT → Prop
  | 0, _, _, _ => False
  | n + 1, x6_89, V, U => bl_M_words_89 θ a0_89 x1_89 x2_89 K (wl_M_words_89 θ a0_89 x1_89 x2_89 K n) x6_89 V U
def bl_M_words_11 (θ : TH) (a0_11 : Nat) (x1_11 : Int32) (x2_11 : Int32) (K : Int32 → VT → UT → Prop) (kb11 : Int32 → Int32 → Int32 → Int32 → VT → UT → Prop) (x3_11 : Int32) (x4_11 : Int32) (x5_11 : Int32) (x6_11 : Int32) (V : VT) (U : UT) : Prop := ((x2_11 ≤ x6_11 → ((x3_11 = (256 : Int32) → ∃ n, wl_M_words_89 θ a0_11 x1_11 x2_11 K n (0 : Int32) V U) ∧ (¬ x3_11 = (256 : Int32) → ((¬ x4_11 = (1 : Int32) → K (0 : Int32) V U) ∧ (x4_11 = (1 : Int32) → ((x5_11 = (1 : Int32) → ∃ n, wl_M_words_89 θ a0_11 x1_11 x2_11 K n (0 : Int32) V U) ∧ (¬ x5_11 = (1 : Int32) → K (0 : Int32) V U))))))) ∧ (¬ x2_11 ≤ x6_11 → isO θ a0_11 12 ∧ (U a0_11 47) ≠ 0 ∧ ∃ n_7, isA θ (U a0_11 47) 0 n_7 ∧ vp_in (x1_11 + x6_11) n_7 ∧ (((V (U a0_11 47) (x1_11 + x6_11).toNatClampNeg) ≤ 0 → ∀ y_11 : Int32, y_11 = x6_11 + (1 : Int32) → kb11 x3_11 x4_11 x5_11 y_11 V U) ∧ (¬ (V (U a0_11 47) (x1_11 + x6_11).toNatClampNeg) ≤ 0 → ∀ y_12 : Int32, y_12 = (x3_11 + ((256 : Int32) >>> ((V (U a0_11 47) (x1_11 + x6_11).toNatClampNeg) &&& 31))) → ∀ y_13 : Int32, y_13 = x4_11 + (1 : Int32) → ∀ y_14 : Int32, y_14 = (V (U a0_11 47) (x1_11 + x6_11).toNatClampNeg) → ∀ y_15 : Int32, y_15 = x6_11 + (1 : Int32) → kb11 y_12 y_13 y_14 y_15 V U))))
def wl_M_words_11 (θ : TH) (a0_11 : Nat) (x1_11 : Int32) (x2_11 : Int32) (K : Int32 → VT → UT → Prop) : Nat → Int32 → Int32 → Int32 → Int32 → VT → UT → Prop
  | 0, _, _, _, _, _, _ => False
  | n + 1, x3_11, x4_11, x5_11, x6_11, V, U => bl_M_words_11 θ a0_11 x1_11 x2_11 K (wl_M_words_11 θ a0_11 x1_11 x2_11 K n) x3_11 x4_11 x5_11 x6_11 V U
def wp_M_words (θ : TH) (a0 : Nat) (x1 : Int32) (x2 : Int32) (V : VT) (U : UT) (K : Int32 → VT → UT → Prop) : Prop := ∃ n, wl_M_words_11 θ a0 x1 x2 K n (0 : Int32) (0 : Int32) (0 : Int32) (0 : Int32) V U
set_option maxRecDepth 100000 in
set_option maxHeartbeats 4000000 in
theorem c_M_words (l : Launch) (θ : TH) (a0 : Nat) (x1 : Int32) (x2 : Int32) (V : VT) (U : UT) (K : Int32 → VT → UT → Prop) (hw : wp_M_words θ a0 x1 x2 V U K) : CMi l yM_words kM_words 9 (some .boolean) rmM_words θ [.ref a0, .int x1, .int x2] V U K := by
  refine g_met nRM (by decide +kernel) rfl (Nat.le_of_ble_eq_true rfl) (fun p e s m args below meth c ls hC hr hlk hwo hl => ?_)
  have hx := hC.1
  have hb := hC.2.1
  have hS : Sx θ s s.heap [] := va_S.rf
  have hl : lv_has ls 9 [(0, .ref a0), (1, .int x1), (2, .int x2)] := hl
  have L89 : ∀ (a0_89 : Nat) (x1_89 : Int32) (x2_89 : Int32) (n89 : Nat) (x6_89 : Int32) (V : VT) (U : UT) (H : Heap) (locs : List Loc) (ls : Array Slot), wl_M_words_89 θ a0_89 x1_89 x2_89 K n89 x6_89 V U → wo θ V U H → Sx θ s H locs → lv_has ls 9 [(0, .ref a0_89), (1, .int x1_89), (2, .int x2_89), (6, .int x6_89)] → W p l e rmM_words s m args below meth c H locs 0 0 (MQ below (QI θ K) args s 0 0 (aT θ)) (F0 m 89 ls []) := by
    intro a0_89 x1_89 x2_89 n89
    induction n89 with
    | zero => intro x6_89 V U H locs ls hw hwo hS hl; exact (show False from hw).elim
    | succ n89 ih89 =>
      have J143 : ∀ (x6_143 : Int32) (x8_143 : Int32) (V : VT) (U : UT) (H : Heap) (locs : List Loc) (ls : Array Slot), wb_M_words_143 θ a0_89 x1_89 x2_89 x6_143 x8_143 (wl_M_words_89 θ a0_89 x1_89 x2_89 K n89) K V U → wo θ V U H → Sx θ s H locs → lv_has ls 9 [(0, .ref a0_89), (1, .int x1_89), (2, .int x2_89), (6, .int x6_143), (8, .int x8_143)] → W p l e rmM_words s m args below meth c H locs 0 0 (MQ below (QI θ K) args s 0 0 (aT θ)) (F0 m 143 ls []) := by
        intro x6_143 x8_143 V U H locs ls hw hwo hS hl
        unfold wb_M_words_143 at hw
        refine lv_aload_n hx hb dM_words_143 rfl (lv_at hl 0 rfl) ?_
        obtain ⟨ho_31, hw⟩ := hw
        obtain ⟨hz_32, hw⟩ := hw
        refine g_getR hC fkM_89 rfl hwo ho_31 hz_32 dM_words_144 ?_
        refine lv_iload_n hx hb dM_words_147 rfl (lv_at hl 1 rfl) ?_
        refine lv_iload hx hb dM_words_148 (lv_at hl 3 rfl) ?_
        refine lv_iadd hx hb dM_words_150 ?_
        refine lv_iload hx hb dM_words_151 (lv_at hl 4 rfl) ?_
        obtain ⟨n_33, ha_34, hw⟩ := hw
        obtain ⟨hi_35, hw⟩ := hw
        refine g_iast hC hwo hS ha_34 hi_35 dM_words_153 (fun V_36 eV_36 H locs hwo hS => ?_)
        replace hw := hw V_36 eV_36
        obtain ⟨y_37, ey_37⟩ : ∃ z : Int32, z = x6_143 + (1 : Int32) := ⟨_, rfl⟩
        replace hw := hw y_37 ey_37
        refine lv_iinc (k := 3) (v := y_37) (lv' := [(6, .int y_37), (0, .ref a0_89), (1, .int x1_89), (2, .int x2_89), (8, .int x8_143)]) hx hb dM_words_154 hl rfl (by rw [ey_37]; rfl) (by decide) rfl (fun ls hl => ?_)
        refine lv_goto (tgt := 89) hx hb dM_words_157 (by decide) ?_
        exact ih89 _ _ _ _ _ _ hw hwo hS (lv_sub hl [1, 2, 3, 0] rfl)
      have L109 : ∀ (x6_109 : Int32) (x7_109 : Int32) (n109 : Nat) (x8_109 : Int32) (V : VT) (U : UT) (H : Heap) (locs : List Loc) (ls : Array Slot), wl_M_words_109 θ a0_89 x1_89 x2_89 x6_109 x7_109 (wl_M_words_89 θ a0_89 x1_89 x2_89 K n89) K n109 x8_109 V U → wo θ V U H → Sx θ s H locs → lv_has ls 9 [(0, .ref a0_89), (1, .int x1_89), (2, .int x2_89), (6, .int x6_109), (7, .int x7_109), (8, .int x8_109)] → W p l e rmM_words s m args below meth c H locs 0 0 (MQ below (QI θ K) args s 0 0 (aT θ)) (F0 m 109 ls []) := by
        intro x6_109 x7_109 n109
        induction n109 with
        | zero => intro x8_109 V U H locs ls hw hwo hS hl; exact (show False from hw).elim
        | succ n109 ih109 =>
          intro x8_109 V U H locs ls hw hwo hS hl
          replace hw : bl_M_words_109 θ a0_89 x1_89 x2_89 x6_109 x7_109 (wl_M_words_89 θ a0_89 x1_89 x2_89 K n89) K (wl_M_words_109 θ a0_89 x1_89 x2_89 x6_109 x7_109 (wl_M_words_89 θ a0_89 x1_89 x2_89 K n89) K n109) x8_109 V U := hw
          unfold bl_M_words_109 at hw
          refine lv_iload hx hb dM_words_109 (lv_at hl 4 rfl) ?_
          refine lv_if_le (tgt := 143) hx hb dM_words_111 (by decide) (fun hc_23 => ?_) (fun hc_23 => ?_)
          · replace hw := hw.1 hc_23
            exact J143 _ _ _ _ _ _ _ hw hwo hS (lv_sub hl [0, 1, 2, 3, 5] rfl)
          · replace hw := hw.2 hc_23
            refine lv_iload hx hb dM_words_114 (lv_at hl 5 rfl) ?_
            refine lv_iconst (v := 1) hx hb dM_words_116 (by decide) ?_
            refine lv_iload hx hb dM_words_117 (lv_at hl 4 rfl) ?_
            refine lv_ishl hx hb dM_words_119 ?_
            refine lv_icmp_ge (tgt := 143) hx hb dM_words_120 (by decide) (fun hc_24 => ?_) (fun hc_24 => ?_)
            · replace hw := hw.1 hc_24
              exact J143 _ _ _ _ _ _ _ hw hwo hS (lv_sub hl [0, 1, 2, 3, 5] rfl)
            · replace hw := hw.2 hc_24
              refine lv_aload_n hx hb dM_words_123 rfl (lv_at hl 0 rfl) ?_
              refine lv_iload_n hx hb dM_words_124 rfl (lv_at hl 1 rfl) ?_
              refine lv_iload hx hb dM_words_125 (lv_at hl 3 rfl) ?_
              refine lv_iload hx hb dM_words_127 (lv_at hl 5 rfl) ?_
              refine lv_iload hx hb dM_words_129 (lv_at hl 4 rfl) ?_
              obtain ⟨ho_27, hw⟩ := hw
              refine g_Vi (rest := []) hC (c_M_fits l θ _ _ _ _ _ _ _ _ hw) mi_M_fits mlM_299 mv_M_fits ci_12 ho_27 hwo hS ⟨rfl, rfl⟩ ⟨by decide, by decide⟩ rfl hl.1 rfl (Nat.le_of_ble_eq_true rfl) dM_words_131 (fun r_28 V_25 U_26 hw H locs hwo hS => ?_)
              refine lv_if_ne (tgt := 143) hx hb dM_words_134 (by decide) (fun hc_29 => ?_) (fun hc_29 => ?_)
              · replace hw := hw.1 hc_29
                exact J143 _ _ _ _ _ _ _ hw hwo hS (lv_sub hl [0, 1, 2, 3, 5] rfl)
              · replace hw := hw.2 hc_29
                obtain ⟨y_30, ey_30⟩ : ∃ z : Int32, z = x8_109 + (1 : Int32) := ⟨_, rfl⟩
                replace hw := hw y_30 ey_30
                refine lv_iinc (k := 5) (v := y_30) (lv' := [(8, .int y_30), (0, .ref a0_89), (1, .int x1_89), (2, .int x2_89), (6, .int x6_109), (7, .int x7_109)]) hx hb dM_words_137 hl rfl (by rw [ey_30]; rfl) (by decide) rfl (fun ls hl => ?_)
                refine lv_goto (tgt := 109) hx hb dM_words_140 (by decide) ?_
                exact ih109 _ _ _ _ _ _ hw hwo hS (lv_sub hl [1, 2, 3, 4, 5, 0] rfl)
      intro x6_89 V U H locs ls hw hwo hS hl
      replace hw : bl_M_words_89 θ a0_89 x1_89 x2_89 K (wl_M_words_89 θ a0_89 x1_89 x2_89 K n89) x6_89 V U := hw
      unfold bl_M_words_89 at hw
      refine lv_iload hx hb dM_words_89 (lv_at hl 3 rfl) ?_
      refine lv_iload_n hx hb dM_words_91 rfl (lv_at hl 2 rfl) ?_
      refine lv_icmp_ge (tgt := 160) hx hb dM_words_92 (by decide) (fun hc_16 => ?_) (fun hc_16 => ?_)
      · replace hw := hw.1 hc_16
        refine lv_iconst (v := 1) hx hb dM_words_160 (by decide) ?_
        exact g_zret hC hr hlk (Or.inr rfl) hw hwo hS dM_words_161
      · replace hw := hw.2 hc_16
        refine lv_aload_n hx hb dM_words_95 rfl (lv_at hl 0 rfl) ?_
        obtain ⟨ho_17, hw⟩ := hw
        obtain ⟨hz_18, hw⟩ := hw
        refine g_getR hC fkM_86 rfl hwo ho_17 hz_18 dM_words_96 ?_
        refine lv_iload_n hx hb dM_words_99 rfl (lv_at hl 1 rfl) ?_
        refine lv_iload hx hb dM_words_100 (lv_at hl 3 rfl) ?_
        refine lv_iadd hx hb dM_words_102 ?_
        obtain ⟨n_19, ha_20, hw⟩ := hw
        obtain ⟨hi_21, hw⟩ := hw
        refine g_iald hC hwo ha_20 hi_21 dM_words_103 ?_
        refine lv_topi (fun y_22 ey_22 => ?_)
        replace hw := hw y_22 ey_22
        refine lv_istore (i := 7) (lv' := [(7, .int y_22), (0, .ref a0_89), (1, .int x1_89), (2, .int x2_89), (6, .int x6_89)]) hx hb dM_words_104 hl (by decide) rfl (fun ls hl => ?_)
        refine lv_iconst (v := 0) hx hb dM_words_106 (by decide) ?_
        refine lv_istore (i := 8) (lv' := [(8, .int (0 : Int32)), (7, .int y_22), (0, .ref a0_89), (1, .int x1_89), (2, .int x2_89), (6, .int x6_89)]) hx hb dM_words_107 hl (by decide) rfl (fun ls hl => ?_)
        obtain ⟨n, hw⟩ := hw
        exact L109 _ _ n _ _ _ _ _ _ hw hwo hS (lv_sub hl [2, 3, 4, 5, 1, 0] rfl)
  have L11 : ∀ (a0_11 : Nat) (x1_11 : Int32) (x2_11 : Int32) (n11 : Nat) (x3_11 : Int32) (x4_11 : Int32) (x5_11 : Int32) (x6_11 : Int32) (V : VT) (U : UT) (H : Heap) (locs : List Loc) (ls : Array Slot), wl_M_words_11 θ a0_11 x1_11 x2_11 K n11 x3_11 x4_11 x5_11 x6_11 V U → wo θ V U H → Sx θ s H locs → lv_has ls 9 [(0, .ref a0_11), (1, .int x1_11), (2, .int x2_11), (3, .int x3_11), (4, .int x4_11), (5, .int x5_11), (6, .int x6_11)] → W p l e rmM_words s m args below meth c H locs 0 0 (MQ below (QI θ K) args s 0 0 (aT θ)) (F0 m 11 ls []) := by
    intro a0_11 x1_11 x2_11 n11
    induction n11 with
    | zero => intro x3_11 x4_11 x5_11 x6_11 V U H locs ls hw hwo hS hl; exact (show False from hw).elim
    | succ n11 ih11 =>
      intro x3_11 x4_11 x5_11 x6_11 V U H locs ls hw hwo hS hl
      replace hw : bl_M_words_11 θ a0_11 x1_11 x2_11 K (wl_M_words_11 θ a0_11 x1_11 x2_11 K n11) x3_11 x4_11 x5_11 x6_11 V U := hw
      unfold bl_M_words_11 at hw
      refine lv_iload hx hb dM_words_11 (lv_at hl 6 rfl) ?_
      refine lv_iload_n hx hb dM_words_13 rfl (lv_at hl 2 rfl) ?_
      refine lv_icmp_ge (tgt := 65) hx hb dM_words_14 (by decide) (fun hc_1 => ?_) (fun hc_1 => ?_)
      · replace hw := hw.1 hc_1
        refine lv_iload_n hx hb dM_words_65 rfl (lv_at hl 3 rfl) ?_
        refine lv_sipush (v := 256) hx hb dM_words_66 (by decide) ?_
        refine lv_icmp_eq (tgt := 86) hx hb dM_words_69 (by decide) (fun hc_2 => ?_) (fun hc_2 => ?_)
        · replace hw := hw.1 hc_2
          refine lv_iconst (v := 0) hx hb dM_words_86 (by decide) ?_
          refine lv_istore (i := 6) (lv' := [(6, .int (0 : Int32)), (0, .ref a0_11), (1, .int x1_11), (2, .int x2_11), (3, .int x3_11), (4, .int x4_11), (5, .int x5_11)]) hx hb dM_words_87 hl (by decide) rfl (fun ls hl => ?_)
          obtain ⟨n, hw⟩ := hw
          exact L89 _ _ _ n _ _ _ _ _ _ hw hwo hS (lv_sub hl [1, 2, 3, 0] rfl)
        · replace hw := hw.2 hc_2
          refine lv_iload hx hb dM_words_72 (lv_at hl 4 rfl) ?_
          refine lv_iconst (v := 1) hx hb dM_words_74 (by decide) ?_
          refine lv_icmp_ne (tgt := 84) hx hb dM_words_75 (by decide) (fun hc_3 => ?_) (fun hc_3 => ?_)
          · replace hw := hw.1 hc_3
            refine lv_iconst (v := 0) hx hb dM_words_84 (by decide) ?_
            exact g_zret hC hr hlk (Or.inl rfl) hw hwo hS dM_words_85
          · replace hw := hw.2 hc_3
            refine lv_iload hx hb dM_words_78 (lv_at hl 5 rfl) ?_
            refine lv_iconst (v := 1) hx hb dM_words_80 (by decide) ?_
            refine lv_icmp_eq (tgt := 86) hx hb dM_words_81 (by decide) (fun hc_4 => ?_) (fun hc_4 => ?_)
            · replace hw := hw.1 hc_4
              refine lv_iconst (v := 0) hx hb dM_words_86 (by decide) ?_
              refine lv_istore (i := 6) (lv' := [(6, .int (0 : Int32)), (0, .ref a0_11), (1, .int x1_11), (2, .int x2_11), (3, .int x3_11), (4, .int x4_11), (5, .int x5_11)]) hx hb dM_words_87 hl (by decide) rfl (fun ls hl => ?_)
              obtain ⟨n, hw⟩ := hw
              exact L89 _ _ _ n _ _ _ _ _ _ hw hwo hS (lv_sub hl [1, 2, 3, 0] rfl)
            · replace hw := hw.2 hc_4
              refine lv_iconst (v := 0) hx hb dM_words_84 (by decide) ?_
              exact g_zret hC hr hlk (Or.inl rfl) hw hwo hS dM_words_85
      · replace hw := hw.2 hc_1
        refine lv_aload_n hx hb dM_words_17 rfl (lv_at hl 0 rfl) ?_
        obtain ⟨ho_5, hw⟩ := hw
        obtain ⟨hz_6, hw⟩ := hw
        refine g_getR hC fkM_86 rfl hwo ho_5 hz_6 dM_words_18 ?_
        refine lv_iload_n hx hb dM_words_21 rfl (lv_at hl 1 rfl) ?_
        refine lv_iload hx hb dM_words_22 (lv_at hl 6 rfl) ?_
        refine lv_iadd hx hb dM_words_24 ?_
        obtain ⟨n_7, ha_8, hw⟩ := hw
        obtain ⟨hi_9, hw⟩ := hw
        refine g_iald hC hwo ha_8 hi_9 dM_words_25 ?_
        refine lv_if_le (tgt := 59) hx hb dM_words_26 (by decide) (fun hc_10 => ?_) (fun hc_10 => ?_)
        · replace hw := hw.1 hc_10
          obtain ⟨y_11, ey_11⟩ : ∃ z : Int32, z = x6_11 + (1 : Int32) := ⟨_, rfl⟩
          replace hw := hw y_11 ey_11
          refine lv_iinc (k := 6) (v := y_11) (lv' := [(6, .int y_11), (0, .ref a0_11), (1, .int x1_11), (2, .int x2_11), (3, .int x3_11), (4, .int x4_11), (5, .int x5_11)]) hx hb dM_words_59 hl rfl (by rw [ey_11]; rfl) (by decide) rfl (fun ls hl => ?_)
          refine lv_goto (tgt := 11) hx hb dM_words_62 (by decide) ?_
          exact ih11 _ _ _ _ _ _ _ _ _ hw hwo hS (lv_sub hl [1, 2, 3, 4, 5, 6, 0] rfl)
        · replace hw := hw.2 hc_10
          refine lv_iload_n hx hb dM_words_29 rfl (lv_at hl 3 rfl) ?_
          refine lv_sipush (v := 256) hx hb dM_words_30 (by decide) ?_
          refine lv_aload_n hx hb dM_words_33 rfl (lv_at hl 0 rfl) ?_
          refine g_getR hC fkM_86 rfl hwo ho_5 hz_6 dM_words_34 ?_
          refine lv_iload_n hx hb dM_words_37 rfl (lv_at hl 1 rfl) ?_
          refine lv_iload hx hb dM_words_38 (lv_at hl 6 rfl) ?_
          refine lv_iadd hx hb dM_words_40 ?_
          refine g_iald hC hwo ha_8 hi_9 dM_words_41 ?_
          refine lv_ishr hx hb dM_words_42 ?_
          refine lv_iadd hx hb dM_words_43 ?_
          refine lv_topi (fun y_12 ey_12 => ?_)
          replace hw := hw y_12 ey_12
          refine lv_istore_n (i := 3) (lv' := [(3, .int y_12), (0, .ref a0_11), (1, .int x1_11), (2, .int x2_11), (4, .int x4_11), (5, .int x5_11), (6, .int x6_11)]) hx hb dM_words_44 rfl hl (by decide) rfl (fun ls hl => ?_)
          obtain ⟨y_13, ey_13⟩ : ∃ z : Int32, z = x4_11 + (1 : Int32) := ⟨_, rfl⟩
          replace hw := hw y_13 ey_13
          refine lv_iinc (k := 4) (v := y_13) (lv' := [(4, .int y_13), (3, .int y_12), (0, .ref a0_11), (1, .int x1_11), (2, .int x2_11), (5, .int x5_11), (6, .int x6_11)]) hx hb dM_words_45 hl rfl (by rw [ey_13]; rfl) (by decide) rfl (fun ls hl => ?_)
          refine lv_aload_n hx hb dM_words_48 rfl (lv_at hl 2 rfl) ?_
          refine g_getR hC fkM_86 rfl hwo ho_5 hz_6 dM_words_49 ?_
          refine lv_iload_n hx hb dM_words_52 rfl (lv_at hl 3 rfl) ?_
          refine lv_iload hx hb dM_words_53 (lv_at hl 6 rfl) ?_
          refine lv_iadd hx hb dM_words_55 ?_
          refine g_iald hC hwo ha_8 hi_9 dM_words_56 ?_
          refine lv_topi (fun y_14 ey_14 => ?_)
          replace hw := hw y_14 ey_14
          refine lv_istore (i := 5) (lv' := [(5, .int y_14), (4, .int y_13), (3, .int y_12), (0, .ref a0_11), (1, .int x1_11), (2, .int x2_11), (6, .int x6_11)]) hx hb dM_words_57 hl (by decide) rfl (fun ls hl => ?_)
          obtain ⟨y_15, ey_15⟩ : ∃ z : Int32, z = x6_11 + (1 : Int32) := ⟨_, rfl⟩
          replace hw := hw y_15 ey_15
          refine lv_iinc (k := 6) (v := y_15) (lv' := [(6, .int y_15), (5, .int y_14), (4, .int y_13), (3, .int y_12), (0, .ref a0_11), (1, .int x1_11), (2, .int x2_11)]) hx hb dM_words_59 hl rfl (by rw [ey_15]; rfl) (by decide) rfl (fun ls hl => ?_)
          refine lv_goto (tgt := 11) hx hb dM_words_62 (by decide) ?_
          exact ih11 _ _ _ _ _ _ _ _ _ hw hwo hS (lv_sub hl [4, 5, 6, 3, 2, 1, 0] rfl)
  unfold wp_M_words at hw
  refine lv_iconst (v := 0) hx hb dM_words_0 (by decide) ?_
  refine lv_istore_n (i := 3) (lv' := [(3, .int (0 : Int32)), (0, .ref a0), (1, .int x1), (2, .int x2)]) hx hb dM_words_1 rfl hl (by decide) rfl (fun ls hl => ?_)
  refine lv_iconst (v := 0) hx hb dM_words_2 (by decide) ?_
  refine lv_istore (i := 4) (lv' := [(4, .int (0 : Int32)), (3, .int (0 : Int32)), (0, .ref a0), (1, .int x1), (2, .int x2)]) hx hb dM_words_3 hl (by decide) rfl (fun ls hl => ?_)
  refine lv_iconst (v := 0) hx hb dM_words_5 (by decide) ?_
  refine lv_istore (i := 5) (lv' := [(5, .int (0 : Int32)), (4, .int (0 : Int32)), (3, .int (0 : Int32)), (0, .ref a0), (1, .int x1), (2, .int x2)]) hx hb dM_words_6 hl (by decide) rfl (fun ls hl => ?_)
  refine lv_iconst (v := 0) hx hb dM_words_8 (by decide) ?_
  refine lv_istore (i := 6) (lv' := [(6, .int (0 : Int32)), (5, .int (0 : Int32)), (4, .int (0 : Int32)), (3, .int (0 : Int32)), (0, .ref a0), (1, .int x1), (2, .int x2)]) hx hb dM_words_9 hl (by decide) rfl (fun ls hl => ?_)
  obtain ⟨n, hw⟩ := hw
  exact L11 _ _ _ n _ _ _ _ _ _ _ _ _ hw hwo hS (lv_sub hl [4, 5, 6, 3, 2, 1, 0] rfl)
