theorem dM_below_0 : decode kM_below 0 = .ok (.iconst (-1), 1) := by decide +kernel
theorem dM_below_1 : decode kM_below 1 = .ok (.istore 4, 2) := by decide +kernel
theorem dM_below_3 : decode kM_below 3 = .ok (.iconst 0, 1) := by decide +kernel
theorem dM_below_4 : decode kM_below 4 = .ok (.istore 5, 2) := by decide +kernel
theorem dM_below_6 : decode kM_below 6 = .ok (.iload 5, 2) := by decide +kernel
theorem dM_below_8 : decode kM_below 8 = .ok (.iload_n 1, 1) := by decide +kernel
theorem dM_below_9 : decode kM_below 9 = .ok (.if_icmp .ge 75, 3) := by decide +kernel
theorem dM_below_12 : decode kM_below 12 = .ok (.aload_n 0, 1) := by decide +kernel
theorem dM_below_13 : decode kM_below 13 = .ok (.getfield 101, 3) := by decide +kernel
theorem dM_below_16 : decode kM_below 16 = .ok (.aload_n 0, 1) := by decide +kernel
theorem dM_below_17 : decode kM_below 17 = .ok (.getfield 104, 3) := by decide +kernel
theorem dM_below_20 : decode kM_below 20 = .ok (.bipush 16, 2) := by decide +kernel
theorem dM_below_22 : decode kM_below 22 = .ok (.iadd, 1) := by decide +kernel
theorem dM_below_23 : decode kM_below 23 = .ok (.iload 5, 2) := by decide +kernel
theorem dM_below_25 : decode kM_below 25 = .ok (.iadd, 1) := by decide +kernel
theorem dM_below_26 : decode kM_below 26 = .ok (.iaload, 1) := by decide +kernel
theorem dM_below_27 : decode kM_below 27 = .ok (.istore 6, 2) := by decide +kernel
theorem dM_below_29 : decode kM_below 29 = .ok (.iload 6, 2) := by decide +kernel
theorem dM_below_31 : decode kM_below 31 = .ok (.iload_n 2, 1) := by decide +kernel
theorem dM_below_32 : decode kM_below 32 = .ok (.if_icmp .gt 46, 3) := by decide +kernel
theorem dM_below_35 : decode kM_below 35 = .ok (.aload_n 0, 1) := by decide +kernel
theorem dM_below_36 : decode kM_below 36 = .ok (.getfield 123, 3) := by decide +kernel
theorem dM_below_39 : decode kM_below 39 = .ok (.iload 5, 2) := by decide +kernel
theorem dM_below_41 : decode kM_below 41 = .ok (.baload, 1) := by decide +kernel
theorem dM_below_42 : decode kM_below 42 = .ok (.ifCond .ne 7, 3) := by decide +kernel
theorem dM_below_45 : decode kM_below 45 = .ok (.iload_n 3, 1) := by decide +kernel
theorem dM_below_46 : decode kM_below 46 = .ok (.ifCond .ne 32, 3) := by decide +kernel
theorem dM_below_49 : decode kM_below 49 = .ok (.iload 4, 2) := by decide +kernel
theorem dM_below_51 : decode kM_below 51 = .ok (.ifCond .lt 23, 3) := by decide +kernel
theorem dM_below_54 : decode kM_below 54 = .ok (.iload 6, 2) := by decide +kernel
theorem dM_below_56 : decode kM_below 56 = .ok (.aload_n 0, 1) := by decide +kernel
theorem dM_below_57 : decode kM_below 57 = .ok (.getfield 101, 3) := by decide +kernel
theorem dM_below_60 : decode kM_below 60 = .ok (.aload_n 0, 1) := by decide +kernel
theorem dM_below_61 : decode kM_below 61 = .ok (.getfield 104, 3) := by decide +kernel
theorem dM_below_64 : decode kM_below 64 = .ok (.bipush 16, 2) := by decide +kernel
theorem dM_below_66 : decode kM_below 66 = .ok (.iadd, 1) := by decide +kernel
theorem dM_below_67 : decode kM_below 67 = .ok (.iload 4, 2) := by decide +kernel
theorem dM_below_69 : decode kM_below 69 = .ok (.iadd, 1) := by decide +kernel
theorem dM_below_70 : decode kM_below 70 = .ok (.iaload, 1) := by decide +kernel
theorem dM_below_71 : decode kM_below 71 = .ok (.if_icmp .le 7, 3) := by decide +kernel
theorem dM_below_74 : decode kM_below 74 = .ok (.iload 5, 2) := by decide +kernel
theorem dM_below_76 : decode kM_below 76 = .ok (.istore 4, 2) := by decide +kernel
theorem dM_below_78 : decode kM_below 78 = .ok (.iinc 5 1, 3) := by decide +kernel
theorem dM_below_81 : decode kM_below 81 = .ok (.goto (-75), 3) := by decide +kernel
theorem dM_below_84 : decode kM_below 84 = .ok (.iload 4, 2) := by decide +kernel
theorem dM_below_86 : decode kM_below 86 = .ok (.ireturn, 1) := by decide +kernel
def wb_M_below_74 (θ : TH) (a0_6 : Nat) (x1_6 : Int32) (x2_6 : Int32) (x3_6 : Int32) (x5_74 : Int32) (kb6 : Int32 → Int32 → VT → UT → Prop) (K : Int32 → VT → UT → Prop) (V : VT) (U : UT) : Prop := ∀ y_25 : Int32, y_25 = x5_74 + (1 : Int32) → kb6 x5_74 y_25 V U
def wb_M_below_49 (θ : TH) (a0_6 : Nat) (x1_6 : Int32) (x2_6 : Int32) (x3_6 : Int32) (x4_49 : Int32) (x5_49 : Int32) (x6_49 : Int32) (kb6 : Int32 → Int32 → VT → UT → Prop) (K : Int32 → VT → UT → Prop) (V : VT) (U : UT) : Prop := ((x4_49 < 0 → wb_M_below_74 θ a0_6 x1_6 x2_6 x3_6 x5_49 kb6 K V U) ∧ (¬ x4_49 < 0 → isO θ a0_6 12 ∧ (U a0_6 52) ≠ 0 ∧ ∃ n_20, isA θ (U a0_6 52) 0 n_20 ∧ vp_in (((V a0_6 53) + (16 : Int32)) + x4_49) n_20 ∧ ((x6_49 ≤ (V (U a0_6 52) (((V a0_6 53) + (16 : Int32)) + x4_49).toNatClampNeg) → ∀ y_24 : Int32, y_24 = x5_49 + (1 : Int32) → kb6 x4_49 y_24 V U) ∧ (¬ x6_49 ≤ (V (U a0_6 52) (((V a0_6 53) + (16 : Int32)) + x4_49).toNatClampNeg) → wb_M_below_74 θ a0_6 x1_6 x2_6 x3_6 x5_49 kb6 K V U))))
def bl_M_below_6 (θ : TH) (a0_6 : Nat) (x1_6 : Int32) (x2_6 : Int32) (x3_6 : Int32) (K : Int32 → VT → UT → Prop) (kb6 : Int32 → Int32 → VT → UT → Prop) (x4_6 : Int32) (x5_6 : Int32) (V : VT) (U : UT) : Prop := ((x1_6 ≤ x5_6 → K x4_6 V U) ∧ (¬ x1_6 ≤ x5_6 → isO θ a0_6 12 ∧ (U a0_6 52) ≠ 0 ∧ ∃ n_4, isA θ (U a0_6 52) 0 n_4 ∧ vp_in (((V a0_6 53) + (16 : Int32)) + x5_6) n_4 ∧ ∀ y_7 : Int32, y_7 = (V (U a0_6 52) (((V a0_6 53) + (16 : Int32)) + x5_6).toNatClampNeg) → ((x2_6 < y_7 → ∀ y_9 : Int32, y_9 = x5_6 + (1 : Int32) → kb6 x4_6 y_9 V U) ∧ (¬ x2_6 < y_7 → (U a0_6 64) ≠ 0 ∧ ∃ n_11, isA θ (U a0_6 64) 1 n_11 ∧ vp_in x5_6 n_11 ∧ ((¬ (V (U a0_6 64) x5_6.toNatClampNeg) = 0 → wb_M_below_49 θ a0_6 x1_6 x2_6 x3_6 x4_6 x5_6 y_7 kb6 K V U) ∧ ((V (U a0_6 64) x5_6.toNatClampNeg) = 0 → ((¬ x3_6 = 0 → ∀ y_16 : Int32, y_16 = x5_6 + (1 : Int32) → kb6 x4_6 y_16 V U) ∧ (x3_6 = 0 → wb_M_below_49 θ a0_6 x1_6 x2_6 x3_6 x4_6 x5_6 y_7 kb6 K V U))))))))
def wl_M_below_6 (θ : TH) (a0_6 : Nat) (x1_6 : Int32) (x2_6 : Int32) (x3_6 : Int32) (K : Int32 → VT → UT → Prop) : Nat → Int32 → Int32 → VT → UT → Prop
  | 0, _, _, _, _ => False
  | n + 1, x4_6, x5_6, V, U => bl_M_below_6 θ a0_6 x1_6 x2_6 x3_6 K (wl_M_below_6 θ a0_6 x1_6 x2_6 x3_6 K n) x4_6 x5_6 V U
def wp_M_below (θ : TH) (a0 : Nat) (x1 : Int32) (x2 : Int32) (x3 : Int32) (V : VT) (U : UT) (K : Int32 → VT → UT → Prop) : Prop := ∃ n, wl_M_below_6 θ a0 x1 x2 x3 K n (-1 : Int32) (0 : Int32) V U
set_option maxRecDepth 100000 in
set_option maxHeartbeats 4000000 in
theorem c_M_below (l : Launch) (θ : TH) (a0 : Nat) (x1 : Int32) (x2 : Int32) (x3 : Int32) (V : VT) (U : UT) (K : Int32 → VT → UT → Prop) (hw : wp_M_below θ a0 x1 x2 x3 V U K) : CMi l yM_below kM_below 7 (some .int) rmM_below θ [.ref a0, .int x1, .int x2, .int x3] V U K := by
  refine g_met nRM (by decide +kernel) rfl (Nat.le_of_ble_eq_true rfl) (fun p e s m args below meth c ls hC hr hlk hwo hl => ?_)
  have hx := hC.1
  have hb := hC.2.1
  have hS : Sx θ s s.heap [] := va_S.rf
  have hl : lv_has ls 7 [(0, .ref a0), (1, .int x1), (2, .int x2), (3, .int x3)] := hl
  have L6 : ∀ (a0_6 : Nat) (x1_6 : Int32) (x2_6 : Int32) (x3_6 : Int32) (n6 : Nat) (x4_6 : Int32) (x5_6 : Int32) (V : VT) (U : UT) (H : Heap) (locs : List Loc) (ls : Array Slot), wl_M_below_6 θ a0_6 x1_6 x2_6 x3_6 K n6 x4_6 x5_6 V U → wo θ V U H → Sx θ s H locs → lv_has ls 7 [(0, .ref a0_6), (1, .int x1_6), (2, .int x2_6), (3, .int x3_6), (4, .int x4_6), (5, .int x5_6)] → W p l e rmM_below s m args below meth c H locs 0 0 (MQ below (QI θ K) args s 0 0 (aT θ)) (F0 m 6 ls []) := by
    intro a0_6 x1_6 x2_6 x3_6 n6
    induction n6 with
    | zero => intro x4_6 x5_6 V U H locs ls hw hwo hS hl; exact (show False from hw).elim
    | succ n6 ih6 =>
      have J74 : ∀ (x5_74 : Int32) (V : VT) (U : UT) (H : Heap) (locs : List Loc) (ls : Array Slot), wb_M_below_74 θ a0_6 x1_6 x2_6 x3_6 x5_74 (wl_M_below_6 θ a0_6 x1_6 x2_6 x3_6 K n6) K V U → wo θ V U H → Sx θ s H locs → lv_has ls 7 [(0, .ref a0_6), (1, .int x1_6), (2, .int x2_6), (3, .int x3_6), (5, .int x5_74)] → W p l e rmM_below s m args below meth c H locs 0 0 (MQ below (QI θ K) args s 0 0 (aT θ)) (F0 m 74 ls []) := by
        intro x5_74 V U H locs ls hw hwo hS hl
        unfold wb_M_below_74 at hw
        refine lv_iload hx hb dM_below_74 (lv_at hl 4 rfl) ?_
        refine lv_istore (i := 4) (lv' := [(4, .int x5_74), (0, .ref a0_6), (1, .int x1_6), (2, .int x2_6), (3, .int x3_6), (5, .int x5_74)]) hx hb dM_below_76 hl (by decide) rfl (fun ls hl => ?_)
        obtain ⟨y_25, ey_25⟩ : ∃ z : Int32, z = x5_74 + (1 : Int32) := ⟨_, rfl⟩
        replace hw := hw y_25 ey_25
        refine lv_iinc (k := 5) (v := y_25) (lv' := [(5, .int y_25), (4, .int x5_74), (0, .ref a0_6), (1, .int x1_6), (2, .int x2_6), (3, .int x3_6)]) hx hb dM_below_78 hl rfl (by rw [ey_25]; rfl) (by decide) rfl (fun ls hl => ?_)
        refine lv_goto (tgt := 6) hx hb dM_below_81 (by decide) ?_
        exact ih6 _ _ _ _ _ _ _ hw hwo hS (lv_sub hl [2, 3, 4, 5, 1, 0] rfl)
      have J49 : ∀ (x4_49 : Int32) (x5_49 : Int32) (x6_49 : Int32) (V : VT) (U : UT) (H : Heap) (locs : List Loc) (ls : Array Slot), wb_M_below_49 θ a0_6 x1_6 x2_6 x3_6 x4_49 x5_49 x6_49 (wl_M_below_6 θ a0_6 x1_6 x2_6 x3_6 K n6) K V U → wo θ V U H → Sx θ s H locs → lv_has ls 7 [(0, .ref a0_6), (1, .int x1_6), (2, .int x2_6), (3, .int x3_6), (4, .int x4_49), (5, .int x5_49), (6, .int x6_49)] → W p l e rmM_below s m args below meth c H locs 0 0 (MQ below (QI θ K) args s 0 0 (aT θ)) (F0 m 49 ls []) := by
        intro x4_49 x5_49 x6_49 V U H locs ls hw hwo hS hl
        unfold wb_M_below_49 at hw
        refine lv_iload hx hb dM_below_49 (lv_at hl 4 rfl) ?_
        refine lv_if_lt (tgt := 74) hx hb dM_below_51 (by decide) (fun hc_17 => ?_) (fun hc_17 => ?_)
        · replace hw := hw.1 hc_17
          exact J74 _ _ _ _ _ _ hw hwo hS (lv_sub hl [0, 1, 2, 3, 5] rfl)
        · replace hw := hw.2 hc_17
          refine lv_iload hx hb dM_below_54 (lv_at hl 6 rfl) ?_
          refine lv_aload_n hx hb dM_below_56 rfl (lv_at hl 0 rfl) ?_
          obtain ⟨ho_18, hw⟩ := hw
          obtain ⟨hz_19, hw⟩ := hw
          refine g_getR hC fkM_101 rfl hwo ho_18 hz_19 dM_below_57 ?_
          refine lv_aload_n hx hb dM_below_60 rfl (lv_at hl 0 rfl) ?_
          refine g_getI hC fkM_104 rfl hwo ho_18 dM_below_61 ?_
          refine lv_bipush (v := 16) hx hb dM_below_64 (by decide) ?_
          refine lv_iadd hx hb dM_below_66 ?_
          refine lv_iload hx hb dM_below_67 (lv_at hl 4 rfl) ?_
          refine lv_iadd hx hb dM_below_69 ?_
          obtain ⟨n_20, ha_21, hw⟩ := hw
          obtain ⟨hi_22, hw⟩ := hw
          refine g_iald hC hwo ha_21 hi_22 dM_below_70 ?_
          refine lv_icmp_le (tgt := 78) hx hb dM_below_71 (by decide) (fun hc_23 => ?_) (fun hc_23 => ?_)
          · replace hw := hw.1 hc_23
            obtain ⟨y_24, ey_24⟩ : ∃ z : Int32, z = x5_49 + (1 : Int32) := ⟨_, rfl⟩
            replace hw := hw y_24 ey_24
            refine lv_iinc (k := 5) (v := y_24) (lv' := [(5, .int y_24), (0, .ref a0_6), (1, .int x1_6), (2, .int x2_6), (3, .int x3_6), (4, .int x4_49), (6, .int x6_49)]) hx hb dM_below_78 hl rfl (by rw [ey_24]; rfl) (by decide) rfl (fun ls hl => ?_)
            refine lv_goto (tgt := 6) hx hb dM_below_81 (by decide) ?_
            exact ih6 _ _ _ _ _ _ _ hw hwo hS (lv_sub hl [1, 2, 3, 4, 5, 0] rfl)
          · replace hw := hw.2 hc_23
            exact J74 _ _ _ _ _ _ hw hwo hS (lv_sub hl [0, 1, 2, 3, 5] rfl)
      intro x4_6 x5_6 V U H locs ls hw hwo hS hl
      replace hw : bl_M_below_6 θ a0_6 x1_6 x2_6 x3_6 K (wl_M_below_6 θ a0_6 x1_6 x2_6 x3_6 K n6) x4_6 x5_6 V U := hw
      unfold bl_M_below_6 at hw
      refine lv_iload hx hb dM_below_6 (lv_at hl 5 rfl) ?_
      refine lv_iload_n hx hb dM_below_8 rfl (lv_at hl 1 rfl) ?_
      refine lv_icmp_ge (tgt := 84) hx hb dM_below_9 (by decide) (fun hc_1 => ?_) (fun hc_1 => ?_)
      · replace hw := hw.1 hc_1
        refine lv_iload hx hb dM_below_84 (lv_at hl 4 rfl) ?_
        exact g_iret hC hr hlk hw hwo hS dM_below_86
      · replace hw := hw.2 hc_1
        refine lv_aload_n hx hb dM_below_12 rfl (lv_at hl 0 rfl) ?_
        obtain ⟨ho_2, hw⟩ := hw
        obtain ⟨hz_3, hw⟩ := hw
        refine g_getR hC fkM_101 rfl hwo ho_2 hz_3 dM_below_13 ?_
        refine lv_aload_n hx hb dM_below_16 rfl (lv_at hl 0 rfl) ?_
        refine g_getI hC fkM_104 rfl hwo ho_2 dM_below_17 ?_
        refine lv_bipush (v := 16) hx hb dM_below_20 (by decide) ?_
        refine lv_iadd hx hb dM_below_22 ?_
        refine lv_iload hx hb dM_below_23 (lv_at hl 5 rfl) ?_
        refine lv_iadd hx hb dM_below_25 ?_
        obtain ⟨n_4, ha_5, hw⟩ := hw
        obtain ⟨hi_6, hw⟩ := hw
        refine g_iald hC hwo ha_5 hi_6 dM_below_26 ?_
        refine lv_topi (fun y_7 ey_7 => ?_)
        replace hw := hw y_7 ey_7
        refine lv_istore (i := 6) (lv' := [(6, .int y_7), (0, .ref a0_6), (1, .int x1_6), (2, .int x2_6), (3, .int x3_6), (4, .int x4_6), (5, .int x5_6)]) hx hb dM_below_27 hl (by decide) rfl (fun ls hl => ?_)
        refine lv_iload hx hb dM_below_29 (lv_at hl 0 rfl) ?_
        refine lv_iload_n hx hb dM_below_31 rfl (lv_at hl 3 rfl) ?_
        refine lv_icmp_gt (tgt := 78) hx hb dM_below_32 (by decide) (fun hc_8 => ?_) (fun hc_8 => ?_)
        · replace hw := hw.1 hc_8
          obtain ⟨y_9, ey_9⟩ : ∃ z : Int32, z = x5_6 + (1 : Int32) := ⟨_, rfl⟩
          replace hw := hw y_9 ey_9
          refine lv_iinc (k := 6) (v := y_9) (lv' := [(5, .int y_9), (6, .int y_7), (0, .ref a0_6), (1, .int x1_6), (2, .int x2_6), (3, .int x3_6), (4, .int x4_6)]) hx hb dM_below_78 hl rfl (by rw [ey_9]; rfl) (by decide) rfl (fun ls hl => ?_)
          refine lv_goto (tgt := 6) hx hb dM_below_81 (by decide) ?_
          exact ih6 _ _ _ _ _ _ _ hw hwo hS (lv_sub hl [2, 3, 4, 5, 6, 0] rfl)
        · replace hw := hw.2 hc_8
          refine lv_aload_n hx hb dM_below_35 rfl (lv_at hl 1 rfl) ?_
          obtain ⟨hz_10, hw⟩ := hw
          refine g_getR hC fkM_123 rfl hwo ho_2 hz_10 dM_below_36 ?_
          refine lv_iload hx hb dM_below_39 (lv_at hl 6 rfl) ?_
          obtain ⟨n_11, ha_12, hw⟩ := hw
          obtain ⟨hi_13, hw⟩ := hw
          refine g_zald hC hwo ha_12 hi_13 dM_below_41 ?_
          refine lv_if_ne (tgt := 49) hx hb dM_below_42 (by decide) (fun hc_14 => ?_) (fun hc_14 => ?_)
          · replace hw := hw.1 hc_14
            exact J49 _ _ _ _ _ _ _ _ hw hwo hS (lv_sub hl [1, 2, 3, 4, 5, 6, 0] rfl)
          · replace hw := hw.2 hc_14
            refine lv_iload_n hx hb dM_below_45 rfl (lv_at hl 4 rfl) ?_
            refine lv_if_ne (tgt := 78) hx hb dM_below_46 (by decide) (fun hc_15 => ?_) (fun hc_15 => ?_)
            · replace hw := hw.1 hc_15
              obtain ⟨y_16, ey_16⟩ : ∃ z : Int32, z = x5_6 + (1 : Int32) := ⟨_, rfl⟩
              replace hw := hw y_16 ey_16
              refine lv_iinc (k := 6) (v := y_16) (lv' := [(5, .int y_16), (6, .int y_7), (0, .ref a0_6), (1, .int x1_6), (2, .int x2_6), (3, .int x3_6), (4, .int x4_6)]) hx hb dM_below_78 hl rfl (by rw [ey_16]; rfl) (by decide) rfl (fun ls hl => ?_)
              refine lv_goto (tgt := 6) hx hb dM_below_81 (by decide) ?_
              exact ih6 _ _ _ _ _ _ _ hw hwo hS (lv_sub hl [2, 3, 4, 5, 6, 0] rfl)
            · replace hw := hw.2 hc_15
              exact J49 _ _ _ _ _ _ _ _ hw hwo hS (lv_sub hl [1, 2, 3, 4, 5, 6, 0] rfl)
  unfold wp_M_below at hw
  refine lv_iconst (v := -1) hx hb dM_below_0 (by decide) ?_
  refine lv_istore (i := 4) (lv' := [(4, .int (-1 : Int32)), (0, .ref a0), (1, .int x1), (2, .int x2), (3, .int x3)]) hx hb dM_below_1 hl (by decide) rfl (fun ls hl => ?_)
  refine lv_iconst (v := 0) hx hb dM_below_3 (by decide) ?_
  refine lv_istore (i := 5) (lv' := [(5, .int (0 : Int32)), (4, .int (-1 : Int32)), (0, .ref a0), (1, .int x1), (2, .int x2), (3, .int x3)]) hx hb dM_below_4 hl (by decide) rfl (fun ls hl => ?_)
  obtain ⟨n, hw⟩ := hw
  exact L6 _ _ _ _ n _ _ _ _ _ _ _ hw hwo hS (lv_sub hl [2, 3, 4, 5, 1, 0] rfl)
theorem dM_above_0 : decode kM_above 0 = .ok (.iconst (-1), 1) := by decide +kernel
theorem dM_above_1 : decode kM_above 1 = .ok (.istore 4, 2) := by decide +kernel
theorem dM_above_3 : decode kM_above 3 = .ok (.iconst 0, 1) := by decide +kernel
theorem dM_above_4 : decode kM_above 4 = .ok (.istore 5, 2) := by decide +kernel
theorem dM_above_6 : decode kM_above 6 = .ok (.iload 5, 2) := by decide +kernel
theorem dM_above_8 : decode kM_above 8 = .ok (.iload_n 1, 1) := by decide +kernel
theorem dM_above_9 : decode kM_above 9 = .ok (.if_icmp .ge 75, 3) := by decide +kernel
theorem dM_above_12 : decode kM_above 12 = .ok (.aload_n 0, 1) := by decide +kernel
theorem dM_above_13 : decode kM_above 13 = .ok (.getfield 101, 3) := by decide +kernel
theorem dM_above_16 : decode kM_above 16 = .ok (.aload_n 0, 1) := by decide +kernel
theorem dM_above_17 : decode kM_above 17 = .ok (.getfield 104, 3) := by decide +kernel
theorem dM_above_20 : decode kM_above 20 = .ok (.bipush 16, 2) := by decide +kernel
theorem dM_above_22 : decode kM_above 22 = .ok (.iadd, 1) := by decide +kernel
theorem dM_above_23 : decode kM_above 23 = .ok (.iload 5, 2) := by decide +kernel
theorem dM_above_25 : decode kM_above 25 = .ok (.iadd, 1) := by decide +kernel
theorem dM_above_26 : decode kM_above 26 = .ok (.iaload, 1) := by decide +kernel
theorem dM_above_27 : decode kM_above 27 = .ok (.istore 6, 2) := by decide +kernel
theorem dM_above_29 : decode kM_above 29 = .ok (.iload 6, 2) := by decide +kernel
theorem dM_above_31 : decode kM_above 31 = .ok (.iload_n 2, 1) := by decide +kernel
theorem dM_above_32 : decode kM_above 32 = .ok (.if_icmp .le 46, 3) := by decide +kernel
theorem dM_above_35 : decode kM_above 35 = .ok (.aload_n 0, 1) := by decide +kernel
theorem dM_above_36 : decode kM_above 36 = .ok (.getfield 123, 3) := by decide +kernel
theorem dM_above_39 : decode kM_above 39 = .ok (.iload 5, 2) := by decide +kernel
theorem dM_above_41 : decode kM_above 41 = .ok (.baload, 1) := by decide +kernel
theorem dM_above_42 : decode kM_above 42 = .ok (.ifCond .ne 7, 3) := by decide +kernel
theorem dM_above_45 : decode kM_above 45 = .ok (.iload_n 3, 1) := by decide +kernel
theorem dM_above_46 : decode kM_above 46 = .ok (.ifCond .ne 32, 3) := by decide +kernel
theorem dM_above_49 : decode kM_above 49 = .ok (.iload 4, 2) := by decide +kernel
theorem dM_above_51 : decode kM_above 51 = .ok (.ifCond .lt 23, 3) := by decide +kernel
theorem dM_above_54 : decode kM_above 54 = .ok (.iload 6, 2) := by decide +kernel
theorem dM_above_56 : decode kM_above 56 = .ok (.aload_n 0, 1) := by decide +kernel
theorem dM_above_57 : decode kM_above 57 = .ok (.getfield 101, 3) := by decide +kernel
theorem dM_above_60 : decode kM_above 60 = .ok (.aload_n 0, 1) := by decide +kernel
theorem dM_above_61 : decode kM_above 61 = .ok (.getfield 104, 3) := by decide +kernel
theorem dM_above_64 : decode kM_above 64 = .ok (.bipush 16, 2) := by decide +kernel
theorem dM_above_66 : decode kM_above 66 = .ok (.iadd, 1) := by decide +kernel
theorem dM_above_67 : decode kM_above 67 = .ok (.iload 4, 2) := by decide +kernel
theorem dM_above_69 : decode kM_above 69 = .ok (.iadd, 1) := by decide +kernel
theorem dM_above_70 : decode kM_above 70 = .ok (.iaload, 1) := by decide +kernel
theorem dM_above_71 : decode kM_above 71 = .ok (.if_icmp .ge 7, 3) := by decide +kernel
theorem dM_above_74 : decode kM_above 74 = .ok (.iload 5, 2) := by decide +kernel
theorem dM_above_76 : decode kM_above 76 = .ok (.istore 4, 2) := by decide +kernel
theorem dM_above_78 : decode kM_above 78 = .ok (.iinc 5 1, 3) := by decide +kernel
theorem dM_above_81 : decode kM_above 81 = .ok (.goto (-75), 3) := by decide +kernel
theorem dM_above_84 : decode kM_above 84 = .ok (.iload 4, 2) := by decide +kernel
theorem dM_above_86 : decode kM_above 86 = .ok (.ireturn, 1) := by decide +kernel
def wb_M_above_74 (θ : TH) (a0_6 : Nat) (x1_6 : Int32) (x2_6 : Int32) (x3_6 : Int32) (x5_74 : Int32) (kb6 : Int32 → Int32 → VT → UT → Prop) (K : Int32 → VT → UT → Prop) (V : VT) (U : UT) : Prop := ∀ y_25 : Int32, y_25 = x5_74 + (1 : Int32) → kb6 x5_74 y_25 V U
def wb_M_above_49 (θ : TH) (a0_6 : Nat) (x1_6 : Int32) (x2_6 : Int32) (x3_6 : Int32) (x4_49 : Int32) (x5_49 : Int32) (x6_49 : Int32) (kb6 : Int32 → Int32 → VT → UT → Prop) (K : Int32 → VT → UT → Prop) (V : VT) (U : UT) : Prop := ((x4_49 < 0 → wb_M_above_74 θ a0_6 x1_6 x2_6 x3_6 x5_49 kb6 K V U) ∧ (¬ x4_49 < 0 → isO θ a0_6 12 ∧ (U a0_6 52) ≠ 0 ∧ ∃ n_20, isA θ (U a0_6 52) 0 n_20 ∧ vp_in (((V a0_6 53) + (16 : Int32)) + x4_49) n_20 ∧ (((V (U a0_6 52) (((V a0_6 53) + (16 : Int32)) + x4_49).toNatClampNeg) ≤ x6_49 → ∀ y_24 : Int32, y_24 = x5_49 + (1 : Int32) → kb6 x4_49 y_24 V U) ∧ (¬ (V (U a0_6 52) (((V a0_6 53) + (16 : Int32)) + x4_49).toNatClampNeg) ≤ x6_49 → wb_M_above_74 θ a0_6 x1_6 x2_6 x3_6 x5_49 kb6 K V U))))
def bl_M_above_6 (θ : TH) (a0_6 : Nat) (x1_6 : Int32) (x2_6 : Int32) (x3_6 : Int32) (K : Int32 → VT → UT → Prop) (kb6 : Int32 → Int32 → VT → UT → Prop) (x4_6 : Int32) (x5_6 : Int32) (V : VT) (U : UT) : Prop := ((x1_6 ≤ x5_6 → K x4_6 V U) ∧ (¬ x1_6 ≤ x5_6 → isO θ a0_6 12 ∧ (U a0_6 52) ≠ 0 ∧ ∃ n_4, isA θ (U a0_6 52) 0 n_4 ∧ vp_in (((V a0_6 53) + (16 : Int32)) + x5_6) n_4 ∧ ∀ y_7 : Int32, y_7 = (V (U a0_6 52) (((V a0_6 53) + (16 : Int32)) + x5_6).toNatClampNeg) → ((y_7 ≤ x2_6 → ∀ y_9 : Int32, y_9 = x5_6 + (1 : Int32) → kb6 x4_6 y_9 V U) ∧ (¬ y_7 ≤ x2_6 → (U a0_6 64) ≠ 0 ∧ ∃ n_11, isA θ (U a0_6 64) 1 n_11 ∧ vp_in x5_6 n_11 ∧ ((¬ (V (U a0_6 64) x5_6.toNatClampNeg) = 0 → wb_M_above_49 θ a0_6 x1_6 x2_6 x3_6 x4_6 x5_6 y_7 kb6 K V U) ∧ ((V (U a0_6 64) x5_6.toNatClampNeg) = 0 → ((¬ x3_6 = 0 → ∀ y_16 : Int32, y_16 = x5_6 + (1 : Int32) → kb6 x4_6 y_16 V U) ∧ (x3_6 = 0 → wb_M_above_49 θ a0_6 x1_6 x2_6 x3_6 x4_6 x5_6 y_7 kb6 K V U))))))))
def wl_M_above_6 (θ : TH) (a0_6 : Nat) (x1_6 : Int32) (x2_6 : Int32) (x3_6 : Int32) (K : Int32 → VT → UT → Prop) : Nat → Int32 → Int32 → VT → UT → Prop
  | 0, _, _, _, _ => False
  | n + 1, x4_6, x5_6, V, U => bl_M_above_6 θ a0_6 x1_6 x2_6 x3_6 K (wl_M_above_6 θ a0_6 x1_6 x2_6 x3_6 K n) x4_6 x5_6 V U
def wp_M_above (θ : TH) (a0 : Nat) (x1 : Int32) (x2 : Int32) (x3 : Int32) (V : VT) (U : UT) (K : Int32 → VT → UT → Prop) : Prop := ∃ n, wl_M_above_6 θ a0 x1 x2 x3 K n (-1 : Int32) (0 : Int32) V U
set_option maxRecDepth 100000 in
set_option maxHeartbeats 4000000 in
theorem c_M_above (l : Launch) (θ : TH) (a0 : Nat) (x1 : Int32) (x2 : Int32) (x3 : Int32) (V : VT) (U : UT) (K : Int32 → VT → UT → Prop) (hw : wp_M_above θ a0 x1 x2 x3 V U K) : CMi l yM_above kM_above 7 (some .int) rmM_above θ [.ref a0, .int x1, .int x2, .int x3] V U K := by
  refine g_met nRM (by decide +kernel) rfl (Nat.le_of_ble_eq_true rfl) (fun p e s m args below meth c ls hC hr hlk hwo hl => ?_)
  have hx := hC.1
  have hb := hC.2.1
  have hS : Sx θ s s.heap [] := va_S.rf
  have hl : lv_has ls 7 [(0, .ref a0), (1, .int x1), (2, .int x2), (3, .int x3)] := hl
  have L6 : ∀ (a0_6 : Nat) (x1_6 : Int32) (x2_6 : Int32) (x3_6 : Int32) (n6 : Nat) (x4_6 : Int32) (x5_6 : Int32) (V : VT) (U : UT) (H : Heap) (locs : List Loc) (ls : Array Slot), wl_M_above_6 θ a0_6 x1_6 x2_6 x3_6 K n6 x4_6 x5_6 V U → wo θ V U H → Sx θ s H locs → lv_has ls 7 [(0, .ref a0_6), (1, .int x1_6), (2, .int x2_6), (3, .int x3_6), (4, .int x4_6), (5, .int x5_6)] → W p l e rmM_above s m args below meth c H locs 0 0 (MQ below (QI θ K) args s 0 0 (aT θ)) (F0 m 6 ls []) := by
    intro a0_6 x1_6 x2_6 x3_6 n6
    induction n6 with
    | zero => intro x4_6 x5_6 V U H locs ls hw hwo hS hl; exact (show False from hw).elim
    | succ n6 ih6 =>
      have J74 : ∀ (x5_74 : Int32) (V : VT) (U : UT) (H : Heap) (locs : List Loc) (ls : Array Slot), wb_M_above_74 θ a0_6 x1_6 x2_6 x3_6 x5_74 (wl_M_above_6 θ a0_6 x1_6 x2_6 x3_6 K n6) K V U → wo θ V U H → Sx θ s H locs → lv_has ls 7 [(0, .ref a0_6), (1, .int x1_6), (2, .int x2_6), (3, .int x3_6), (5, .int x5_74)] → W p l e rmM_above s m args below meth c H locs 0 0 (MQ below (QI θ K) args s 0 0 (aT θ)) (F0 m 74 ls []) := by
        intro x5_74 V U H locs ls hw hwo hS hl
        unfold wb_M_above_74 at hw
        refine lv_iload hx hb dM_above_74 (lv_at hl 4 rfl) ?_
        refine lv_istore (i := 4) (lv' := [(4, .int x5_74), (0, .ref a0_6), (1, .int x1_6), (2, .int x2_6), (3, .int x3_6), (5, .int x5_74)]) hx hb dM_above_76 hl (by decide) rfl (fun ls hl => ?_)
        obtain ⟨y_25, ey_25⟩ : ∃ z : Int32, z = x5_74 + (1 : Int32) := ⟨_, rfl⟩
        replace hw := hw y_25 ey_25
        refine lv_iinc (k := 5) (v := y_25) (lv' := [(5, .int y_25), (4, .int x5_74), (0, .ref a0_6), (1, .int x1_6), (2, .int x2_6), (3, .int x3_6)]) hx hb dM_above_78 hl rfl (by rw [ey_25]; rfl) (by decide) rfl (fun ls hl => ?_)
        refine lv_goto (tgt := 6) hx hb dM_above_81 (by decide) ?_
        exact ih6 _ _ _ _ _ _ _ hw hwo hS (lv_sub hl [2, 3, 4, 5, 1, 0] rfl)
      have J49 : ∀ (x4_49 : Int32) (x5_49 : Int32) (x6_49 : Int32) (V : VT) (U : UT) (H : Heap) (locs : List Loc) (ls : Array Slot), wb_M_above_49 θ a0_6 x1_6 x2_6 x3_6 x4_49 x5_49 x6_49 (wl_M_above_6 θ a0_6 x1_6 x2_6 x3_6 K n6) K V U → wo θ V U H → Sx θ s H locs → lv_has ls 7 [(0, .ref a0_6), (1, .int x1_6), (2, .int x2_6), (3, .int x3_6), (4, .int x4_49), (5, .int x5_49), (6, .int x6_49)] → W p l e rmM_above s m args below meth c H locs 0 0 (MQ below (QI θ K) args s 0 0 (aT θ)) (F0 m 49 ls []) := by
        intro x4_49 x5_49 x6_49 V U H locs ls hw hwo hS hl
        unfold wb_M_above_49 at hw
        refine lv_iload hx hb dM_above_49 (lv_at hl 4 rfl) ?_
        refine lv_if_lt (tgt := 74) hx hb dM_above_51 (by decide) (fun hc_17 => ?_) (fun hc_17 => ?_)
        · replace hw := hw.1 hc_17
          exact J74 _ _ _ _ _ _ hw hwo hS (lv_sub hl [0, 1, 2, 3, 5] rfl)
        · replace hw := hw.2 hc_17
          refine lv_iload hx hb dM_above_54 (lv_at hl 6 rfl) ?_
          refine lv_aload_n hx hb dM_above_56 rfl (lv_at hl 0 rfl) ?_
          obtain ⟨ho_18, hw⟩ := hw
          obtain ⟨hz_19, hw⟩ := hw
          refine g_getR hC fkM_101 rfl hwo ho_18 hz_19 dM_above_57 ?_
          refine lv_aload_n hx hb dM_above_60 rfl (lv_at hl 0 rfl) ?_
          refine g_getI hC fkM_104 rfl hwo ho_18 dM_above_61 ?_
          refine lv_bipush (v := 16) hx hb dM_above_64 (by decide) ?_
          refine lv_iadd hx hb dM_above_66 ?_
          refine lv_iload hx hb dM_above_67 (lv_at hl 4 rfl) ?_
          refine lv_iadd hx hb dM_above_69 ?_
          obtain ⟨n_20, ha_21, hw⟩ := hw
          obtain ⟨hi_22, hw⟩ := hw
          refine g_iald hC hwo ha_21 hi_22 dM_above_70 ?_
          refine lv_icmp_ge (tgt := 78) hx hb dM_above_71 (by decide) (fun hc_23 => ?_) (fun hc_23 => ?_)
          · replace hw := hw.1 hc_23
            obtain ⟨y_24, ey_24⟩ : ∃ z : Int32, z = x5_49 + (1 : Int32) := ⟨_, rfl⟩
            replace hw := hw y_24 ey_24
            refine lv_iinc (k := 5) (v := y_24) (lv' := [(5, .int y_24), (0, .ref a0_6), (1, .int x1_6), (2, .int x2_6), (3, .int x3_6), (4, .int x4_49), (6, .int x6_49)]) hx hb dM_above_78 hl rfl (by rw [ey_24]; rfl) (by decide) rfl (fun ls hl => ?_)
            refine lv_goto (tgt := 6) hx hb dM_above_81 (by decide) ?_
            exact ih6 _ _ _ _ _ _ _ hw hwo hS (lv_sub hl [1, 2, 3, 4, 5, 0] rfl)
          · replace hw := hw.2 hc_23
            exact J74 _ _ _ _ _ _ hw hwo hS (lv_sub hl [0, 1, 2, 3, 5] rfl)
      intro x4_6 x5_6 V U H locs ls hw hwo hS hl
      replace hw : bl_M_above_6 θ a0_6 x1_6 x2_6 x3_6 K (wl_M_above_6 θ a0_6 x1_6 x2_6 x3_6 K n6) x4_6 x5_6 V U := hw
      unfold bl_M_above_6 at hw
      refine lv_iload hx hb dM_above_6 (lv_at hl 5 rfl) ?_
      refine lv_iload_n hx hb dM_above_8 rfl (lv_at hl 1 rfl) ?_
      refine lv_icmp_ge (tgt := 84) hx hb dM_above_9 (by decide) (fun hc_1 => ?_) (fun hc_1 => ?_)
      · replace hw := hw.1 hc_1
        refine lv_iload hx hb dM_above_84 (lv_at hl 4 rfl) ?_
        exact g_iret hC hr hlk hw hwo hS dM_above_86
      · replace hw := hw.2 hc_1
        refine lv_aload_n hx hb dM_above_12 rfl (lv_at hl 0 rfl) ?_
        obtain ⟨ho_2, hw⟩ := hw
        obtain ⟨hz_3, hw⟩ := hw
        refine g_getR hC fkM_101 rfl hwo ho_2 hz_3 dM_above_13 ?_
        refine lv_aload_n hx hb dM_above_16 rfl (lv_at hl 0 rfl) ?_
        refine g_getI hC fkM_104 rfl hwo ho_2 dM_above_17 ?_
        refine lv_bipush (v := 16) hx hb dM_above_20 (by decide) ?_
        refine lv_iadd hx hb dM_above_22 ?_
        refine lv_iload hx hb dM_above_23 (lv_at hl 5 rfl) ?_
        refine lv_iadd hx hb dM_above_25 ?_
        obtain ⟨n_4, ha_5, hw⟩ := hw
        obtain ⟨hi_6, hw⟩ := hw
        refine g_iald hC hwo ha_5 hi_6 dM_above_26 ?_
        refine lv_topi (fun y_7 ey_7 => ?_)
        replace hw := hw y_7 ey_7
        refine lv_istore (i := 6) (lv' := [(6, .int y_7), (0, .ref a0_6), (1, .int x1_6), (2, .int x2_6), (3, .int x3_6), (4, .int x4_6), (5, .int x5_6)]) hx hb dM_above_27 hl (by decide) rfl (fun ls hl => ?_)
        refine lv_iload hx hb dM_above_29 (lv_at hl 0 rfl) ?_
        refine lv_iload_n hx hb dM_above_31 rfl (lv_at hl 3 rfl) ?_
        refine lv_icmp_le (tgt := 78) hx hb dM_above_32 (by decide) (fun hc_8 => ?_) (fun hc_8 => ?_)
        · replace hw := hw.1 hc_8
          obtain ⟨y_9, ey_9⟩ : ∃ z : Int32, z = x5_6 + (1 : Int32) := ⟨_, rfl⟩
          replace hw := hw y_9 ey_9
          refine lv_iinc (k := 6) (v := y_9) (lv' := [(5, .int y_9), (6, .int y_7), (0, .ref a0_6), (1, .int x1_6), (2, .int x2_6), (3, .int x3_6), (4, .int x4_6)]) hx hb dM_above_78 hl rfl (by rw [ey_9]; rfl) (by decide) rfl (fun ls hl => ?_)
          refine lv_goto (tgt := 6) hx hb dM_above_81 (by decide) ?_
          exact ih6 _ _ _ _ _ _ _ hw hwo hS (lv_sub hl [2, 3, 4, 5, 6, 0] rfl)
        · replace hw := hw.2 hc_8
          refine lv_aload_n hx hb dM_above_35 rfl (lv_at hl 1 rfl) ?_
          obtain ⟨hz_10, hw⟩ := hw
          refine g_getR hC fkM_123 rfl hwo ho_2 hz_10 dM_above_36 ?_
          refine lv_iload hx hb dM_above_39 (lv_at hl 6 rfl) ?_
          obtain ⟨n_11, ha_12, hw⟩ := hw
          obtain ⟨hi_13, hw⟩ := hw
          refine g_zald hC hwo ha_12 hi_13 dM_above_41 ?_
          refine lv_if_ne (tgt := 49) hx hb dM_above_42 (by decide) (fun hc_14 => ?_) (fun hc_14 => ?_)
          · replace hw := hw.1 hc_14
            exact J49 _ _ _ _ _ _ _ _ hw hwo hS (lv_sub hl [1, 2, 3, 4, 5, 6, 0] rfl)
          · replace hw := hw.2 hc_14
            refine lv_iload_n hx hb dM_above_45 rfl (lv_at hl 4 rfl) ?_
            refine lv_if_ne (tgt := 78) hx hb dM_above_46 (by decide) (fun hc_15 => ?_) (fun hc_15 => ?_)
            · replace hw := hw.1 hc_15
              obtain ⟨y_16, ey_16⟩ : ∃ z : Int32, z = x5_6 + (1 : Int32) := ⟨_, rfl⟩
              replace hw := hw y_16 ey_16
              refine lv_iinc (k := 6) (v := y_16) (lv' := [(5, .int y_16), (6, .int y_7), (0, .ref a0_6), (1, .int x1_6), (2, .int x2_6), (3, .int x3_6), (4, .int x4_6)]) hx hb dM_above_78 hl rfl (by rw [ey_16]; rfl) (by decide) rfl (fun ls hl => ?_)
              refine lv_goto (tgt := 6) hx hb dM_above_81 (by decide) ?_
              exact ih6 _ _ _ _ _ _ _ hw hwo hS (lv_sub hl [2, 3, 4, 5, 6, 0] rfl)
            · replace hw := hw.2 hc_15
              exact J49 _ _ _ _ _ _ _ _ hw hwo hS (lv_sub hl [1, 2, 3, 4, 5, 6, 0] rfl)
  unfold wp_M_above at hw
  refine lv_iconst (v := -1) hx hb dM_above_0 (by decide) ?_
  refine lv_istore (i := 4) (lv' := [(4, .int (-1 : Int32)), (0, .ref a0), (1, .int x1), (2, .int x2), (3, .int x3)]) hx hb dM_above_1 hl (by decide) rfl (fun ls hl => ?_)
  refine lv_iconst (v := 0) hx hb dM_above_3 (by decide) ?_
  refine lv_istore (i := 5) (lv' := [(5, .int (0 : Int32)), (4, .int (-1 : Int32)), (0, .ref a0), (1, .int x1), (2, .int x2), (3, .int x3)]) hx hb dM_above_4 hl (by decide) rfl (fun ls hl => ?_)
  obtain ⟨n, hw⟩ := hw
  exact L6 _ _ _ _ n _ _ _ _ _ _ _ hw hwo hS (lv_sub hl [2, 3, 4, 5, 1, 0] rfl)
theorem dM_line_0 : decode kM_line 0 = .ok (.aload_n 0, 1) := by decide +kernel
theorem dM_line_1 : decode kM_line 1 = .ok (.getfield 120, 3) := by decide +kernel
theorem dM_line_4 : decode kM_line 4 = .ok (.iload_n 1, 1) := by decide +kernel
theorem dM_line_5 : decode kM_line 5 = .ok (.iaload, 1) := by decide +kernel
theorem dM_line_6 : decode kM_line 6 = .ok (.iload_n 3, 1) := by decide +kernel
theorem dM_line_7 : decode kM_line 7 = .ok (.imul, 1) := by decide +kernel
theorem dM_line_8 : decode kM_line 8 = .ok (.istore 5, 2) := by decide +kernel
theorem dM_line_10 : decode kM_line 10 = .ok (.aload_n 0, 1) := by decide +kernel
theorem dM_line_11 : decode kM_line 11 = .ok (.getfield 120, 3) := by decide +kernel
theorem dM_line_14 : decode kM_line 14 = .ok (.iload_n 2, 1) := by decide +kernel
theorem dM_line_15 : decode kM_line 15 = .ok (.iaload, 1) := by decide +kernel
theorem dM_line_16 : decode kM_line 16 = .ok (.iload_n 3, 1) := by decide +kernel
theorem dM_line_17 : decode kM_line 17 = .ok (.imul, 1) := by decide +kernel
theorem dM_line_18 : decode kM_line 18 = .ok (.istore 6, 2) := by decide +kernel
theorem dM_line_20 : decode kM_line 20 = .ok (.aload_n 0, 1) := by decide +kernel
theorem dM_line_21 : decode kM_line 21 = .ok (.getfield 101, 3) := by decide +kernel
theorem dM_line_24 : decode kM_line 24 = .ok (.aload_n 0, 1) := by decide +kernel
theorem dM_line_25 : decode kM_line 25 = .ok (.getfield 104, 3) := by decide +kernel
theorem dM_line_28 : decode kM_line 28 = .ok (.bipush 16, 2) := by decide +kernel
theorem dM_line_30 : decode kM_line 30 = .ok (.iadd, 1) := by decide +kernel
theorem dM_line_31 : decode kM_line 31 = .ok (.iload_n 1, 1) := by decide +kernel
theorem dM_line_32 : decode kM_line 32 = .ok (.iadd, 1) := by decide +kernel
theorem dM_line_33 : decode kM_line 33 = .ok (.iaload, 1) := by decide +kernel
theorem dM_line_34 : decode kM_line 34 = .ok (.istore 7, 2) := by decide +kernel
theorem dM_line_36 : decode kM_line 36 = .ok (.aload_n 0, 1) := by decide +kernel
theorem dM_line_37 : decode kM_line 37 = .ok (.getfield 101, 3) := by decide +kernel
theorem dM_line_40 : decode kM_line 40 = .ok (.aload_n 0, 1) := by decide +kernel
theorem dM_line_41 : decode kM_line 41 = .ok (.getfield 104, 3) := by decide +kernel
theorem dM_line_44 : decode kM_line 44 = .ok (.bipush 16, 2) := by decide +kernel
theorem dM_line_46 : decode kM_line 46 = .ok (.iadd, 1) := by decide +kernel
theorem dM_line_47 : decode kM_line 47 = .ok (.iload_n 2, 1) := by decide +kernel
theorem dM_line_48 : decode kM_line 48 = .ok (.iadd, 1) := by decide +kernel
theorem dM_line_49 : decode kM_line 49 = .ok (.iaload, 1) := by decide +kernel
theorem dM_line_50 : decode kM_line 50 = .ok (.iload 7, 2) := by decide +kernel
theorem dM_line_52 : decode kM_line 52 = .ok (.isub, 1) := by decide +kernel
theorem dM_line_53 : decode kM_line 53 = .ok (.istore 8, 2) := by decide +kernel
theorem dM_line_55 : decode kM_line 55 = .ok (.iload 6, 2) := by decide +kernel
theorem dM_line_57 : decode kM_line 57 = .ok (.iload 5, 2) := by decide +kernel
theorem dM_line_59 : decode kM_line 59 = .ok (.if_icmp .lt 11, 3) := by decide +kernel
theorem dM_line_62 : decode kM_line 62 = .ok (.iload 6, 2) := by decide +kernel
theorem dM_line_64 : decode kM_line 64 = .ok (.iload 5, 2) := by decide +kernel
theorem dM_line_66 : decode kM_line 66 = .ok (.isub, 1) := by decide +kernel
theorem dM_line_67 : decode kM_line 67 = .ok (.goto 8, 3) := by decide +kernel
theorem dM_line_70 : decode kM_line 70 = .ok (.iload 5, 2) := by decide +kernel
theorem dM_line_72 : decode kM_line 72 = .ok (.iload 6, 2) := by decide +kernel
theorem dM_line_74 : decode kM_line 74 = .ok (.isub, 1) := by decide +kernel
theorem dM_line_75 : decode kM_line 75 = .ok (.istore 9, 2) := by decide +kernel
theorem dM_line_77 : decode kM_line 77 = .ok (.iload 9, 2) := by decide +kernel
theorem dM_line_79 : decode kM_line 79 = .ok (.iload 4, 2) := by decide +kernel
theorem dM_line_81 : decode kM_line 81 = .ok (.iload 7, 2) := by decide +kernel
theorem dM_line_83 : decode kM_line 83 = .ok (.isub, 1) := by decide +kernel
theorem dM_line_84 : decode kM_line 84 = .ok (.imul, 1) := by decide +kernel
theorem dM_line_85 : decode kM_line 85 = .ok (.iload 8, 2) := by decide +kernel
theorem dM_line_87 : decode kM_line 87 = .ok (.idiv, 1) := by decide +kernel
theorem dM_line_88 : decode kM_line 88 = .ok (.istore 10, 2) := by decide +kernel
theorem dM_line_90 : decode kM_line 90 = .ok (.iload 6, 2) := by decide +kernel
theorem dM_line_92 : decode kM_line 92 = .ok (.iload 5, 2) := by decide +kernel
theorem dM_line_94 : decode kM_line 94 = .ok (.if_icmp .lt 11, 3) := by decide +kernel
theorem dM_line_97 : decode kM_line 97 = .ok (.iload 5, 2) := by decide +kernel
theorem dM_line_99 : decode kM_line 99 = .ok (.iload 10, 2) := by decide +kernel
theorem dM_line_101 : decode kM_line 101 = .ok (.iadd, 1) := by decide +kernel
theorem dM_line_102 : decode kM_line 102 = .ok (.goto 8, 3) := by decide +kernel
theorem dM_line_105 : decode kM_line 105 = .ok (.iload 5, 2) := by decide +kernel
theorem dM_line_107 : decode kM_line 107 = .ok (.iload 10, 2) := by decide +kernel
theorem dM_line_109 : decode kM_line 109 = .ok (.isub, 1) := by decide +kernel
theorem dM_line_110 : decode kM_line 110 = .ok (.ireturn, 1) := by decide +kernel
def wb_M_line_75 (θ : TH) (x4_75 : Int32) (x5_75 : Int32) (x6_75 : Int32) (x7_75 : Int32) (x8_75 : Int32) (z0_75 : Int32) (K : Int32 → VT → UT → Prop) (V : VT) (U : UT) : Prop := ¬ x8_75 = 0 ∧ ∀ y_18 : Int32, y_18 = ((z0_75 * (x4_75 - x7_75)) / x8_75) → ((x6_75 < x5_75 → K (x5_75 - y_18) V U) ∧ (¬ x6_75 < x5_75 → K (x5_75 + y_18) V U))
def wp_M_line (θ : TH) (a0 : Nat) (x1 : Int32) (x2 : Int32) (x3 : Int32) (x4 : Int32) (V : VT) (U : UT) (K : Int32 → VT → UT → Prop) : Prop := isO θ a0 12 ∧ (U a0 63) ≠ 0 ∧ ∃ n_3, isA θ (U a0 63) 0 n_3 ∧ vp_in x1 n_3 ∧ ∀ y_6 : Int32, y_6 = ((V (U a0 63) x1.toNatClampNeg) * x3) → vp_in x2 n_3 ∧ ∀ y_8 : Int32, y_8 = ((V (U a0 63) x2.toNatClampNeg) * x3) → (U a0 52) ≠ 0 ∧ ∃ n_10, isA θ (U a0 52) 0 n_10 ∧ vp_in (((V a0 53) + (16 : Int32)) + x1) n_10 ∧ ∀ y_13 : Int32, y_13 = (V (U a0 52) (((V a0 53) + (16 : Int32)) + x1).toNatClampNeg) → vp_in (((V a0 53) + (16 : Int32)) + x2) n_10 ∧ ∀ y_15 : Int32, y_15 = ((V (U a0 52) (((V a0 53) + (16 : Int32)) + x2).toNatClampNeg) - y_13) → ((y_8 < y_6 → wb_M_line_75 θ x4 y_6 y_8 y_13 y_15 (y_6 - y_8) K V U) ∧ (¬ y_8 < y_6 → wb_M_line_75 θ x4 y_6 y_8 y_13 y_15 (y_8 - y_6) K V U))
set_option maxRecDepth 100000 in
set_option maxHeartbeats 4000000 in
theorem c_M_line (l : Launch) (θ : TH) (a0 : Nat) (x1 : Int32) (x2 : Int32) (x3 : Int32) (x4 : Int32) (V : VT) (U : UT) (K : Int32 → VT → UT → Prop) (hw : wp_M_line θ a0 x1 x2 x3 x4 V U K) : CMi l yM_line kM_line 11 (some .int) rmM_line θ [.ref a0, .int x1, .int x2, .int x3, .int x4] V U K := by
  refine g_met nRM (by decide +kernel) rfl (Nat.le_of_ble_eq_true rfl) (fun p e s m args below meth c ls hC hr hlk hwo hl => ?_)
  have hx := hC.1
  have hb := hC.2.1
  have hS : Sx θ s s.heap [] := va_S.rf
  have hl : lv_has ls 11 [(0, .ref a0), (1, .int x1), (2, .int x2), (3, .int x3), (4, .int x4)] := hl
  have J75 : ∀ (x4_75 : Int32) (x5_75 : Int32) (x6_75 : Int32) (x7_75 : Int32) (x8_75 : Int32) (z0_75 : Int32) (V : VT) (U : UT) (H : Heap) (locs : List Loc) (ls : Array Slot), wb_M_line_75 θ x4_75 x5_75 x6_75 x7_75 x8_75 z0_75 K V U → wo θ V U H → Sx θ s H locs → lv_has ls 11 [(4, .int x4_75), (5, .int x5_75), (6, .int x6_75), (7, .int x7_75), (8, .int x8_75)] → W p l e rmM_line s m args below meth c H locs 0 0 (MQ below (QI θ K) args s 0 0 (aT θ)) (F0 m 75 ls [.int z0_75]) := by
    intro x4_75 x5_75 x6_75 x7_75 x8_75 z0_75 V U H locs ls hw hwo hS hl
    unfold wb_M_line_75 at hw
    refine lv_istore (i := 9) (lv' := [(9, .int z0_75), (4, .int x4_75), (5, .int x5_75), (6, .int x6_75), (7, .int x7_75), (8, .int x8_75)]) hx hb dM_line_75 hl (by decide) rfl (fun ls hl => ?_)
    refine lv_iload hx hb dM_line_77 (lv_at hl 0 rfl) ?_
    refine lv_iload hx hb dM_line_79 (lv_at hl 1 rfl) ?_
    refine lv_iload hx hb dM_line_81 (lv_at hl 4 rfl) ?_
    refine lv_isub hx hb dM_line_83 ?_
    refine lv_imul hx hb dM_line_84 ?_
    refine lv_iload hx hb dM_line_85 (lv_at hl 5 rfl) ?_
    obtain ⟨hd_17, hw⟩ := hw
    refine lv_idiv hx hb dM_line_87 hd_17 ?_
    refine lv_topi (fun y_18 ey_18 => ?_)
    replace hw := hw y_18 ey_18
    refine lv_istore (i := 10) (lv' := [(10, .int y_18), (9, .int z0_75), (4, .int x4_75), (5, .int x5_75), (6, .int x6_75), (7, .int x7_75), (8, .int x8_75)]) hx hb dM_line_88 hl (by decide) rfl (fun ls hl => ?_)
    refine lv_iload hx hb dM_line_90 (lv_at hl 4 rfl) ?_
    refine lv_iload hx hb dM_line_92 (lv_at hl 3 rfl) ?_
    refine lv_icmp_lt (tgt := 105) hx hb dM_line_94 (by decide) (fun hc_19 => ?_) (fun hc_19 => ?_)
    · replace hw := hw.1 hc_19
      refine lv_iload hx hb dM_line_105 (lv_at hl 3 rfl) ?_
      refine lv_iload hx hb dM_line_107 (lv_at hl 0 rfl) ?_
      refine lv_isub hx hb dM_line_109 ?_
      exact g_iret hC hr hlk hw hwo hS dM_line_110
    · replace hw := hw.2 hc_19
      refine lv_iload hx hb dM_line_97 (lv_at hl 3 rfl) ?_
      refine lv_iload hx hb dM_line_99 (lv_at hl 0 rfl) ?_
      refine lv_iadd hx hb dM_line_101 ?_
      refine lv_goto (tgt := 110) hx hb dM_line_102 (by decide) ?_
      exact g_iret hC hr hlk hw hwo hS dM_line_110
  unfold wp_M_line at hw
  refine lv_aload_n hx hb dM_line_0 rfl (lv_at hl 0 rfl) ?_
  obtain ⟨ho_1, hw⟩ := hw
  obtain ⟨hz_2, hw⟩ := hw
  refine g_getR hC fkM_120 rfl hwo ho_1 hz_2 dM_line_1 ?_
  refine lv_iload_n hx hb dM_line_4 rfl (lv_at hl 1 rfl) ?_
  obtain ⟨n_3, ha_4, hw⟩ := hw
  obtain ⟨hi_5, hw⟩ := hw
  refine g_iald hC hwo ha_4 hi_5 dM_line_5 ?_
  refine lv_iload_n hx hb dM_line_6 rfl (lv_at hl 3 rfl) ?_
  refine lv_imul hx hb dM_line_7 ?_
  refine lv_topi (fun y_6 ey_6 => ?_)
  replace hw := hw y_6 ey_6
  refine lv_istore (i := 5) (lv' := [(5, .int y_6), (0, .ref a0), (1, .int x1), (2, .int x2), (3, .int x3), (4, .int x4)]) hx hb dM_line_8 hl (by decide) rfl (fun ls hl => ?_)
  refine lv_aload_n hx hb dM_line_10 rfl (lv_at hl 1 rfl) ?_
  refine g_getR hC fkM_120 rfl hwo ho_1 hz_2 dM_line_11 ?_
  refine lv_iload_n hx hb dM_line_14 rfl (lv_at hl 3 rfl) ?_
  obtain ⟨hi_7, hw⟩ := hw
  refine g_iald hC hwo ha_4 hi_7 dM_line_15 ?_
  refine lv_iload_n hx hb dM_line_16 rfl (lv_at hl 4 rfl) ?_
  refine lv_imul hx hb dM_line_17 ?_
  refine lv_topi (fun y_8 ey_8 => ?_)
  replace hw := hw y_8 ey_8
  refine lv_istore (i := 6) (lv' := [(6, .int y_8), (5, .int y_6), (0, .ref a0), (1, .int x1), (2, .int x2), (3, .int x3), (4, .int x4)]) hx hb dM_line_18 hl (by decide) rfl (fun ls hl => ?_)
  refine lv_aload_n hx hb dM_line_20 rfl (lv_at hl 2 rfl) ?_
  obtain ⟨hz_9, hw⟩ := hw
  refine g_getR hC fkM_101 rfl hwo ho_1 hz_9 dM_line_21 ?_
  refine lv_aload_n hx hb dM_line_24 rfl (lv_at hl 2 rfl) ?_
  refine g_getI hC fkM_104 rfl hwo ho_1 dM_line_25 ?_
  refine lv_bipush (v := 16) hx hb dM_line_28 (by decide) ?_
  refine lv_iadd hx hb dM_line_30 ?_
  refine lv_iload_n hx hb dM_line_31 rfl (lv_at hl 3 rfl) ?_
  refine lv_iadd hx hb dM_line_32 ?_
  obtain ⟨n_10, ha_11, hw⟩ := hw
  obtain ⟨hi_12, hw⟩ := hw
  refine g_iald hC hwo ha_11 hi_12 dM_line_33 ?_
  refine lv_topi (fun y_13 ey_13 => ?_)
  replace hw := hw y_13 ey_13
  refine lv_istore (i := 7) (lv' := [(7, .int y_13), (6, .int y_8), (5, .int y_6), (0, .ref a0), (1, .int x1), (2, .int x2), (3, .int x3), (4, .int x4)]) hx hb dM_line_34 hl (by decide) rfl (fun ls hl => ?_)
  refine lv_aload_n hx hb dM_line_36 rfl (lv_at hl 3 rfl) ?_
  refine g_getR hC fkM_101 rfl hwo ho_1 hz_9 dM_line_37 ?_
  refine lv_aload_n hx hb dM_line_40 rfl (lv_at hl 3 rfl) ?_
  refine g_getI hC fkM_104 rfl hwo ho_1 dM_line_41 ?_
  refine lv_bipush (v := 16) hx hb dM_line_44 (by decide) ?_
  refine lv_iadd hx hb dM_line_46 ?_
  refine lv_iload_n hx hb dM_line_47 rfl (lv_at hl 5 rfl) ?_
  refine lv_iadd hx hb dM_line_48 ?_
  obtain ⟨hi_14, hw⟩ := hw
  refine g_iald hC hwo ha_11 hi_14 dM_line_49 ?_
  refine lv_iload hx hb dM_line_50 (lv_at hl 0 rfl) ?_
  refine lv_isub hx hb dM_line_52 ?_
  refine lv_topi (fun y_15 ey_15 => ?_)
  replace hw := hw y_15 ey_15
  refine lv_istore (i := 8) (lv' := [(8, .int y_15), (7, .int y_13), (6, .int y_8), (5, .int y_6), (0, .ref a0), (1, .int x1), (2, .int x2), (3, .int x3), (4, .int x4)]) hx hb dM_line_53 hl (by decide) rfl (fun ls hl => ?_)
  refine lv_iload hx hb dM_line_55 (lv_at hl 2 rfl) ?_
  refine lv_iload hx hb dM_line_57 (lv_at hl 3 rfl) ?_
  refine lv_icmp_lt (tgt := 70) hx hb dM_line_59 (by decide) (fun hc_16 => ?_) (fun hc_16 => ?_)
  · replace hw := hw.1 hc_16
    refine lv_iload hx hb dM_line_70 (lv_at hl 3 rfl) ?_
    refine lv_iload hx hb dM_line_72 (lv_at hl 2 rfl) ?_
    refine lv_isub hx hb dM_line_74 ?_
    exact J75 _ _ _ _ _ _ _ _ _ _ _ hw hwo hS (lv_sub hl [8, 3, 2, 1, 0] rfl)
  · replace hw := hw.2 hc_16
    refine lv_iload hx hb dM_line_62 (lv_at hl 2 rfl) ?_
    refine lv_iload hx hb dM_line_64 (lv_at hl 3 rfl) ?_
    refine lv_isub hx hb dM_line_66 ?_
    refine lv_goto (tgt := 75) hx hb dM_line_67 (by decide) ?_
    exact J75 _ _ _ _ _ _ _ _ _ _ _ hw hwo hS (lv_sub hl [8, 3, 2, 1, 0] rfl)
theorem dM_heightOf_0 : decode kM_heightOf 0 = .ok (.iload_n 1, 1) := by decide +kernel
theorem dM_heightOf_1 : decode kM_heightOf 1 = .ok (.iload_n 0, 1) := by decide +kernel
theorem dM_heightOf_2 : decode kM_heightOf 2 = .ok (.if_icmp .ge 9, 3) := by decide +kernel
theorem dM_heightOf_5 : decode kM_heightOf 5 = .ok (.iconst 2, 1) := by decide +kernel
theorem dM_heightOf_6 : decode kM_heightOf 6 = .ok (.iload_n 1, 1) := by decide +kernel
theorem dM_heightOf_7 : decode kM_heightOf 7 = .ok (.imul, 1) := by decide +kernel
theorem dM_heightOf_8 : decode kM_heightOf 8 = .ok (.goto 6, 3) := by decide +kernel
theorem dM_heightOf_11 : decode kM_heightOf 11 = .ok (.iconst 2, 1) := by decide +kernel
theorem dM_heightOf_12 : decode kM_heightOf 12 = .ok (.iload_n 0, 1) := by decide +kernel
theorem dM_heightOf_13 : decode kM_heightOf 13 = .ok (.imul, 1) := by decide +kernel
theorem dM_heightOf_14 : decode kM_heightOf 14 = .ok (.istore_n 3, 1) := by decide +kernel
theorem dM_heightOf_15 : decode kM_heightOf 15 = .ok (.iload_n 2, 1) := by decide +kernel
theorem dM_heightOf_16 : decode kM_heightOf 16 = .ok (.ifCond .ne 5, 3) := by decide +kernel
theorem dM_heightOf_19 : decode kM_heightOf 19 = .ok (.iload_n 0, 1) := by decide +kernel
theorem dM_heightOf_20 : decode kM_heightOf 20 = .ok (.ireturn, 1) := by decide +kernel
theorem dM_heightOf_21 : decode kM_heightOf 21 = .ok (.iload_n 2, 1) := by decide +kernel
theorem dM_heightOf_22 : decode kM_heightOf 22 = .ok (.iload_n 3, 1) := by decide +kernel
theorem dM_heightOf_23 : decode kM_heightOf 23 = .ok (.if_icmp .ge 26, 3) := by decide +kernel
theorem dM_heightOf_26 : decode kM_heightOf 26 = .ok (.iload_n 2, 1) := by decide +kernel
theorem dM_heightOf_27 : decode kM_heightOf 27 = .ok (.iconst 2, 1) := by decide +kernel
theorem dM_heightOf_28 : decode kM_heightOf 28 = .ok (.irem, 1) := by decide +kernel
theorem dM_heightOf_29 : decode kM_heightOf 29 = .ok (.iconst 1, 1) := by decide +kernel
theorem dM_heightOf_30 : decode kM_heightOf 30 = .ok (.if_icmp .ne 13, 3) := by decide +kernel
theorem dM_heightOf_33 : decode kM_heightOf 33 = .ok (.iload_n 0, 1) := by decide +kernel
theorem dM_heightOf_34 : decode kM_heightOf 34 = .ok (.iload_n 2, 1) := by decide +kernel
theorem dM_heightOf_35 : decode kM_heightOf 35 = .ok (.iconst 1, 1) := by decide +kernel
theorem dM_heightOf_36 : decode kM_heightOf 36 = .ok (.iadd, 1) := by decide +kernel
theorem dM_heightOf_37 : decode kM_heightOf 37 = .ok (.iconst 2, 1) := by decide +kernel
theorem dM_heightOf_38 : decode kM_heightOf 38 = .ok (.idiv, 1) := by decide +kernel
theorem dM_heightOf_39 : decode kM_heightOf 39 = .ok (.isub, 1) := by decide +kernel
theorem dM_heightOf_40 : decode kM_heightOf 40 = .ok (.goto 8, 3) := by decide +kernel
theorem dM_heightOf_43 : decode kM_heightOf 43 = .ok (.iload_n 0, 1) := by decide +kernel
theorem dM_heightOf_44 : decode kM_heightOf 44 = .ok (.iload_n 2, 1) := by decide +kernel
theorem dM_heightOf_45 : decode kM_heightOf 45 = .ok (.iconst 2, 1) := by decide +kernel
theorem dM_heightOf_46 : decode kM_heightOf 46 = .ok (.idiv, 1) := by decide +kernel
theorem dM_heightOf_47 : decode kM_heightOf 47 = .ok (.iadd, 1) := by decide +kernel
theorem dM_heightOf_48 : decode kM_heightOf 48 = .ok (.ireturn, 1) := by decide +kernel
theorem dM_heightOf_49 : decode kM_heightOf 49 = .ok (.iload_n 1, 1) := by decide +kernel
theorem dM_heightOf_50 : decode kM_heightOf 50 = .ok (.iload_n 0, 1) := by decide +kernel
theorem dM_heightOf_51 : decode kM_heightOf 51 = .ok (.if_icmp .le 7, 3) := by decide +kernel
theorem dM_heightOf_54 : decode kM_heightOf 54 = .ok (.iload_n 2, 1) := by decide +kernel
theorem dM_heightOf_55 : decode kM_heightOf 55 = .ok (.goto 10, 3) := by decide +kernel
theorem dM_heightOf_58 : decode kM_heightOf 58 = .ok (.iload_n 1, 1) := by decide +kernel
theorem dM_heightOf_59 : decode kM_heightOf 59 = .ok (.iload_n 0, 1) := by decide +kernel
theorem dM_heightOf_60 : decode kM_heightOf 60 = .ok (.iadd, 1) := by decide +kernel
theorem dM_heightOf_61 : decode kM_heightOf 61 = .ok (.iconst 1, 1) := by decide +kernel
theorem dM_heightOf_62 : decode kM_heightOf 62 = .ok (.isub, 1) := by decide +kernel
theorem dM_heightOf_63 : decode kM_heightOf 63 = .ok (.iload_n 2, 1) := by decide +kernel
theorem dM_heightOf_64 : decode kM_heightOf 64 = .ok (.isub, 1) := by decide +kernel
theorem dM_heightOf_65 : decode kM_heightOf 65 = .ok (.ireturn, 1) := by decide +kernel
def wb_M_heightOf_14 (θ : TH) (x0_14 : Int32) (x1_14 : Int32) (x2_14 : Int32) (z0_14 : Int32) (K : Int32 → VT → UT → Prop) (V : VT) (U : UT) : Prop := ((¬ x2_14 = 0 → ((z0_14 ≤ x2_14 → ((x1_14 ≤ x0_14 → K (((x1_14 + x0_14) - (1 : Int32)) - x2_14) V U) ∧ (¬ x1_14 ≤ x0_14 → K x2_14 V U))) ∧ (¬ z0_14 ≤ x2_14 → ¬ (2 : Int32) = 0 ∧ ((¬ (x2_14 - x2_14 / (2 : Int32) * (2 : Int32)) = (1 : Int32) → K (x0_14 + (x2_14 / (2 : Int32))) V U) ∧ ((x2_14 - x2_14 / (2 : Int32) * (2 : Int32)) = (1 : Int32) → K (x0_14 - ((x2_14 + (1 : Int32)) / (2 : Int32))) V U))))) ∧ (x2_14 = 0 → K x0_14 V U))
def wp_M_heightOf (θ : TH) (x0 : Int32) (x1 : Int32) (x2 : Int32) (V : VT) (U : UT) (K : Int32 → VT → UT → Prop) : Prop := ((x0 ≤ x1 → wb_M_heightOf_14 θ x0 x1 x2 ((2 : Int32) * x0) K V U) ∧ (¬ x0 ≤ x1 → wb_M_heightOf_14 θ x0 x1 x2 ((2 : Int32) * x1) K V U))
set_option maxRecDepth 100000 in
set_option maxHeartbeats 4000000 in
theorem c_M_heightOf (l : Launch) (θ : TH) (x0 : Int32) (x1 : Int32) (x2 : Int32) (V : VT) (U : UT) (K : Int32 → VT → UT → Prop) (hw : wp_M_heightOf θ x0 x1 x2 V U K) : CMi l yM_heightOf kM_heightOf 4 (some .int) rmM_heightOf θ [.int x0, .int x1, .int x2] V U K := by
  refine g_met nRM (by decide +kernel) rfl (Nat.le_of_ble_eq_true rfl) (fun p e s m args below meth c ls hC hr hlk hwo hl => ?_)
  have hx := hC.1
  have hb := hC.2.1
  have hS : Sx θ s s.heap [] := va_S.rf
  have hl : lv_has ls 4 [(0, .int x0), (1, .int x1), (2, .int x2)] := hl
  have J14 : ∀ (x0_14 : Int32) (x1_14 : Int32) (x2_14 : Int32) (z0_14 : Int32) (V : VT) (U : UT) (H : Heap) (locs : List Loc) (ls : Array Slot), wb_M_heightOf_14 θ x0_14 x1_14 x2_14 z0_14 K V U → wo θ V U H → Sx θ s H locs → lv_has ls 4 [(0, .int x0_14), (1, .int x1_14), (2, .int x2_14)] → W p l e rmM_heightOf s m args below meth c H locs 0 0 (MQ below (QI θ K) args s 0 0 (aT θ)) (F0 m 14 ls [.int z0_14]) := by
    intro x0_14 x1_14 x2_14 z0_14 V U H locs ls hw hwo hS hl
    unfold wb_M_heightOf_14 at hw
    refine lv_istore_n (i := 3) (lv' := [(3, .int z0_14), (0, .int x0_14), (1, .int x1_14), (2, .int x2_14)]) hx hb dM_heightOf_14 rfl hl (by decide) rfl (fun ls hl => ?_)
    refine lv_iload_n hx hb dM_heightOf_15 rfl (lv_at hl 3 rfl) ?_
    refine lv_if_ne (tgt := 21) hx hb dM_heightOf_16 (by decide) (fun hc_2 => ?_) (fun hc_2 => ?_)
    · replace hw := hw.1 hc_2
      refine lv_iload_n hx hb dM_heightOf_21 rfl (lv_at hl 3 rfl) ?_
      refine lv_iload_n hx hb dM_heightOf_22 rfl (lv_at hl 0 rfl) ?_
      refine lv_icmp_ge (tgt := 49) hx hb dM_heightOf_23 (by decide) (fun hc_3 => ?_) (fun hc_3 => ?_)
      · replace hw := hw.1 hc_3
        refine lv_iload_n hx hb dM_heightOf_49 rfl (lv_at hl 2 rfl) ?_
        refine lv_iload_n hx hb dM_heightOf_50 rfl (lv_at hl 1 rfl) ?_
        refine lv_icmp_le (tgt := 58) hx hb dM_heightOf_51 (by decide) (fun hc_4 => ?_) (fun hc_4 => ?_)
        · replace hw := hw.1 hc_4
          refine lv_iload_n hx hb dM_heightOf_58 rfl (lv_at hl 2 rfl) ?_
          refine lv_iload_n hx hb dM_heightOf_59 rfl (lv_at hl 1 rfl) ?_
          refine lv_iadd hx hb dM_heightOf_60 ?_
          refine lv_iconst (v := 1) hx hb dM_heightOf_61 (by decide) ?_
          refine lv_isub hx hb dM_heightOf_62 ?_
          refine lv_iload_n hx hb dM_heightOf_63 rfl (lv_at hl 3 rfl) ?_
          refine lv_isub hx hb dM_heightOf_64 ?_
          exact g_iret hC hr hlk hw hwo hS dM_heightOf_65
        · replace hw := hw.2 hc_4
          refine lv_iload_n hx hb dM_heightOf_54 rfl (lv_at hl 3 rfl) ?_
          refine lv_goto (tgt := 65) hx hb dM_heightOf_55 (by decide) ?_
          exact g_iret hC hr hlk hw hwo hS dM_heightOf_65
      · replace hw := hw.2 hc_3
        refine lv_iload_n hx hb dM_heightOf_26 rfl (lv_at hl 3 rfl) ?_
        refine lv_iconst (v := 2) hx hb dM_heightOf_27 (by decide) ?_
        obtain ⟨hd_5, hw⟩ := hw
        refine lv_irem hx hb dM_heightOf_28 hd_5 ?_
        refine lv_iconst (v := 1) hx hb dM_heightOf_29 (by decide) ?_
        refine lv_icmp_ne (tgt := 43) hx hb dM_heightOf_30 (by decide) (fun hc_6 => ?_) (fun hc_6 => ?_)
        · replace hw := hw.1 hc_6
          refine lv_iload_n hx hb dM_heightOf_43 rfl (lv_at hl 1 rfl) ?_
          refine lv_iload_n hx hb dM_heightOf_44 rfl (lv_at hl 3 rfl) ?_
          refine lv_iconst (v := 2) hx hb dM_heightOf_45 (by decide) ?_
          refine lv_idiv hx hb dM_heightOf_46 hd_5 ?_
          refine lv_iadd hx hb dM_heightOf_47 ?_
          exact g_iret hC hr hlk hw hwo hS dM_heightOf_48
        · replace hw := hw.2 hc_6
          refine lv_iload_n hx hb dM_heightOf_33 rfl (lv_at hl 1 rfl) ?_
          refine lv_iload_n hx hb dM_heightOf_34 rfl (lv_at hl 3 rfl) ?_
          refine lv_iconst (v := 1) hx hb dM_heightOf_35 (by decide) ?_
          refine lv_iadd hx hb dM_heightOf_36 ?_
          refine lv_iconst (v := 2) hx hb dM_heightOf_37 (by decide) ?_
          refine lv_idiv hx hb dM_heightOf_38 hd_5 ?_
          refine lv_isub hx hb dM_heightOf_39 ?_
          refine lv_goto (tgt := 48) hx hb dM_heightOf_40 (by decide) ?_
          exact g_iret hC hr hlk hw hwo hS dM_heightOf_48
    · replace hw := hw.2 hc_2
      refine lv_iload_n hx hb dM_heightOf_19 rfl (lv_at hl 1 rfl) ?_
      exact g_iret hC hr hlk hw hwo hS dM_heightOf_20
  unfold wp_M_heightOf at hw
  refine lv_iload_n hx hb dM_heightOf_0 rfl (lv_at hl 1 rfl) ?_
  refine lv_iload_n hx hb dM_heightOf_1 rfl (lv_at hl 0 rfl) ?_
  refine lv_icmp_ge (tgt := 11) hx hb dM_heightOf_2 (by decide) (fun hc_1 => ?_) (fun hc_1 => ?_)
  · replace hw := hw.1 hc_1
    refine lv_iconst (v := 2) hx hb dM_heightOf_11 (by decide) ?_
    refine lv_iload_n hx hb dM_heightOf_12 rfl (lv_at hl 0 rfl) ?_
    refine lv_imul hx hb dM_heightOf_13 ?_
    exact J14 _ _ _ _ _ _ _ _ _ hw hwo hS (lv_sub hl [0, 1, 2] rfl)
  · replace hw := hw.2 hc_1
    refine lv_iconst (v := 2) hx hb dM_heightOf_5 (by decide) ?_
    refine lv_iload_n hx hb dM_heightOf_6 rfl (lv_at hl 1 rfl) ?_
    refine lv_imul hx hb dM_heightOf_7 ?_
    refine lv_goto (tgt := 14) hx hb dM_heightOf_8 (by decide) ?_
    exact J14 _ _ _ _ _ _ _ _ _ hw hwo hS (lv_sub hl [0, 1, 2] rfl)
theorem dM_heights_0 : decode kM_heights 0 = .ok (.iconst 0, 1) := by decide +kernel
theorem dM_heights_1 : decode kM_heights 1 = .ok (.istore_n 2, 1) := by decide +kernel
theorem dM_heights_2 : decode kM_heights 2 = .ok (.iload_n 2, 1) := by decide +kernel
theorem dM_heights_3 : decode kM_heights 3 = .ok (.iload_n 1, 1) := by decide +kernel
theorem dM_heights_4 : decode kM_heights 4 = .ok (.if_icmp .ge 147, 3) := by decide +kernel
theorem dM_heights_7 : decode kM_heights 7 = .ok (.aload_n 0, 1) := by decide +kernel
theorem dM_heights_8 : decode kM_heights 8 = .ok (.getfield 123, 3) := by decide +kernel
theorem dM_heights_11 : decode kM_heights 11 = .ok (.iload_n 2, 1) := by decide +kernel
theorem dM_heights_12 : decode kM_heights 12 = .ok (.iload_n 2, 1) := by decide +kernel
theorem dM_heights_13 : decode kM_heights 13 = .ok (.iconst 2, 1) := by decide +kernel
theorem dM_heights_14 : decode kM_heights 14 = .ok (.if_icmp .ge 7, 3) := by decide +kernel
theorem dM_heights_17 : decode kM_heights 17 = .ok (.iconst 1, 1) := by decide +kernel
theorem dM_heights_18 : decode kM_heights 18 = .ok (.goto 4, 3) := by decide +kernel
theorem dM_heights_21 : decode kM_heights 21 = .ok (.iconst 0, 1) := by decide +kernel
theorem dM_heights_22 : decode kM_heights 22 = .ok (.bastore, 1) := by decide +kernel
theorem dM_heights_23 : decode kM_heights 23 = .ok (.aload_n 0, 1) := by decide +kernel
theorem dM_heights_24 : decode kM_heights 24 = .ok (.getfield 120, 3) := by decide +kernel
theorem dM_heights_27 : decode kM_heights 27 = .ok (.iload_n 2, 1) := by decide +kernel
theorem dM_heights_28 : decode kM_heights 28 = .ok (.aload_n 0, 1) := by decide +kernel
theorem dM_heights_29 : decode kM_heights 29 = .ok (.getfield 117, 3) := by decide +kernel
theorem dM_heights_32 : decode kM_heights 32 = .ok (.iload_n 2, 1) := by decide +kernel
theorem dM_heights_33 : decode kM_heights 33 = .ok (.iaload, 1) := by decide +kernel
theorem dM_heights_34 : decode kM_heights 34 = .ok (.iastore, 1) := by decide +kernel
theorem dM_heights_35 : decode kM_heights 35 = .ok (.iload_n 2, 1) := by decide +kernel
theorem dM_heights_36 : decode kM_heights 36 = .ok (.iconst 2, 1) := by decide +kernel
theorem dM_heights_37 : decode kM_heights 37 = .ok (.if_icmp .lt 108, 3) := by decide +kernel
theorem dM_heights_40 : decode kM_heights 40 = .ok (.aload_n 0, 1) := by decide +kernel
theorem dM_heights_41 : decode kM_heights 41 = .ok (.getfield 101, 3) := by decide +kernel
theorem dM_heights_44 : decode kM_heights 44 = .ok (.aload_n 0, 1) := by decide +kernel
theorem dM_heights_45 : decode kM_heights 45 = .ok (.getfield 104, 3) := by decide +kernel
theorem dM_heights_48 : decode kM_heights 48 = .ok (.bipush 16, 2) := by decide +kernel
theorem dM_heights_50 : decode kM_heights 50 = .ok (.iadd, 1) := by decide +kernel
theorem dM_heights_51 : decode kM_heights 51 = .ok (.iload_n 2, 1) := by decide +kernel
theorem dM_heights_52 : decode kM_heights 52 = .ok (.iadd, 1) := by decide +kernel
theorem dM_heights_53 : decode kM_heights 53 = .ok (.iaload, 1) := by decide +kernel
theorem dM_heights_54 : decode kM_heights 54 = .ok (.istore_n 3, 1) := by decide +kernel
theorem dM_heights_55 : decode kM_heights 55 = .ok (.aload_n 0, 1) := by decide +kernel
theorem dM_heights_56 : decode kM_heights 56 = .ok (.iload_n 2, 1) := by decide +kernel
theorem dM_heights_57 : decode kM_heights 57 = .ok (.iload_n 3, 1) := by decide +kernel
theorem dM_heights_58 : decode kM_heights 58 = .ok (.iconst 0, 1) := by decide +kernel
theorem dM_heights_59 : decode kM_heights 59 = .ok (.invokevirtual 345, 3) := by decide +kernel
theorem dM_heights_62 : decode kM_heights 62 = .ok (.istore 4, 2) := by decide +kernel
theorem dM_heights_64 : decode kM_heights 64 = .ok (.aload_n 0, 1) := by decide +kernel
theorem dM_heights_65 : decode kM_heights 65 = .ok (.iload_n 2, 1) := by decide +kernel
theorem dM_heights_66 : decode kM_heights 66 = .ok (.iload_n 3, 1) := by decide +kernel
theorem dM_heights_67 : decode kM_heights 67 = .ok (.iconst 0, 1) := by decide +kernel
theorem dM_heights_68 : decode kM_heights 68 = .ok (.invokevirtual 349, 3) := by decide +kernel
theorem dM_heights_71 : decode kM_heights 71 = .ok (.istore 5, 2) := by decide +kernel
theorem dM_heights_73 : decode kM_heights 73 = .ok (.aload_n 0, 1) := by decide +kernel
theorem dM_heights_74 : decode kM_heights 74 = .ok (.iload 4, 2) := by decide +kernel
theorem dM_heights_76 : decode kM_heights 76 = .ok (.iload 5, 2) := by decide +kernel
theorem dM_heights_78 : decode kM_heights 78 = .ok (.iconst 1, 1) := by decide +kernel
theorem dM_heights_79 : decode kM_heights 79 = .ok (.iload_n 3, 1) := by decide +kernel
theorem dM_heights_80 : decode kM_heights 80 = .ok (.invokevirtual 352, 3) := by decide +kernel
theorem dM_heights_83 : decode kM_heights 83 = .ok (.istore 6, 2) := by decide +kernel
theorem dM_heights_85 : decode kM_heights 85 = .ok (.aload_n 0, 1) := by decide +kernel
theorem dM_heights_86 : decode kM_heights 86 = .ok (.getfield 120, 3) := by decide +kernel
theorem dM_heights_89 : decode kM_heights 89 = .ok (.iload_n 2, 1) := by decide +kernel
theorem dM_heights_90 : decode kM_heights 90 = .ok (.iload 6, 2) := by decide +kernel
theorem dM_heights_92 : decode kM_heights 92 = .ok (.aload_n 0, 1) := by decide +kernel
theorem dM_heights_93 : decode kM_heights 93 = .ok (.aload_n 0, 1) := by decide +kernel
theorem dM_heights_94 : decode kM_heights 94 = .ok (.getfield 104, 3) := by decide +kernel
theorem dM_heights_97 : decode kM_heights 97 = .ok (.invokevirtual 333, 3) := by decide +kernel
theorem dM_heights_100 : decode kM_heights 100 = .ok (.iload 6, 2) := by decide +kernel
theorem dM_heights_102 : decode kM_heights 102 = .ok (.isub, 1) := by decide +kernel
theorem dM_heights_103 : decode kM_heights 103 = .ok (.aload_n 0, 1) := by decide +kernel
theorem dM_heights_104 : decode kM_heights 104 = .ok (.getfield 117, 3) := by decide +kernel
theorem dM_heights_107 : decode kM_heights 107 = .ok (.iload_n 2, 1) := by decide +kernel
theorem dM_heights_108 : decode kM_heights 108 = .ok (.iaload, 1) := by decide +kernel
theorem dM_heights_109 : decode kM_heights 109 = .ok (.invokestatic 356, 3) := by decide +kernel
theorem dM_heights_112 : decode kM_heights 112 = .ok (.iastore, 1) := by decide +kernel
theorem dM_heights_113 : decode kM_heights 113 = .ok (.aload_n 0, 1) := by decide +kernel
theorem dM_heights_114 : decode kM_heights 114 = .ok (.getfield 117, 3) := by decide +kernel
theorem dM_heights_117 : decode kM_heights 117 = .ok (.iload_n 2, 1) := by decide +kernel
theorem dM_heights_118 : decode kM_heights 118 = .ok (.iaload, 1) := by decide +kernel
theorem dM_heights_119 : decode kM_heights 119 = .ok (.ifCond .eq 26, 3) := by decide +kernel
theorem dM_heights_122 : decode kM_heights 122 = .ok (.aload_n 0, 1) := by decide +kernel
theorem dM_heights_123 : decode kM_heights 123 = .ok (.getfield 123, 3) := by decide +kernel
theorem dM_heights_126 : decode kM_heights 126 = .ok (.iload 4, 2) := by decide +kernel
theorem dM_heights_128 : decode kM_heights 128 = .ok (.iconst 1, 1) := by decide +kernel
theorem dM_heights_129 : decode kM_heights 129 = .ok (.bastore, 1) := by decide +kernel
theorem dM_heights_130 : decode kM_heights 130 = .ok (.aload_n 0, 1) := by decide +kernel
theorem dM_heights_131 : decode kM_heights 131 = .ok (.getfield 123, 3) := by decide +kernel
theorem dM_heights_134 : decode kM_heights 134 = .ok (.iload 5, 2) := by decide +kernel
theorem dM_heights_136 : decode kM_heights 136 = .ok (.iconst 1, 1) := by decide +kernel
theorem dM_heights_137 : decode kM_heights 137 = .ok (.bastore, 1) := by decide +kernel
theorem dM_heights_138 : decode kM_heights 138 = .ok (.aload_n 0, 1) := by decide +kernel
theorem dM_heights_139 : decode kM_heights 139 = .ok (.getfield 123, 3) := by decide +kernel
theorem dM_heights_142 : decode kM_heights 142 = .ok (.iload_n 2, 1) := by decide +kernel
theorem dM_heights_143 : decode kM_heights 143 = .ok (.iconst 1, 1) := by decide +kernel
theorem dM_heights_144 : decode kM_heights 144 = .ok (.bastore, 1) := by decide +kernel
theorem dM_heights_145 : decode kM_heights 145 = .ok (.iinc 2 1, 3) := by decide +kernel
theorem dM_heights_148 : decode kM_heights 148 = .ok (.goto (-146), 3) := by decide +kernel
theorem dM_heights_151 : decode kM_heights 151 = .ok (.return_, 1) := by decide +kernel
def wb_M_heights_22 (θ : TH) (a0_2 : Nat) (x1_2 : Int32) (x2_22 : Int32) (z0_22 : Int32) (z1_22 : Int32) (z2_22 : Nat) (kb2 : Int32 → VT → UT → Prop) (K : VT → UT → Prop) (V : VT) (U : UT) : Prop := ∃ n_5, isA θ z2_22 1 n_5 ∧ vp_in z1_22 n_5 ∧ isZ z0_22 ∧ ∀ V_9 : VT, V_9 = up2 V z2_22 z1_22.toNatClampNeg z0_22 → isO θ a0_2 12 ∧ (U a0_2 63) ≠ 0 ∧ (U a0_2 62) ≠ 0 ∧ ∃ n_13, isA θ (U a0_2 62) 0 n_13 ∧ vp_in x2_22 n_13 ∧ ∃ n_16, isA θ (U a0_2 63) 0 n_16 ∧ vp_in x2_22 n_16 ∧ ∀ V_19 : VT, V_19 = up2 V_9 (U a0_2 63) x2_22.toNatClampNeg (V_9 (U a0_2 62) x2_22.toNatClampNeg) → ((x2_22 < (2 : Int32) → ∀ y_21 : Int32, y_21 = x2_22 + (1 : Int32) → kb2 y_21 V_19 U) ∧ (¬ x2_22 < (2 : Int32) → (U a0_2 52) ≠ 0 ∧ ∃ n_23, isA θ (U a0_2 52) 0 n_23 ∧ vp_in (((V_19 a0_2 53) + (16 : Int32)) + x2_22) n_23 ∧ ∀ y_26 : Int32, y_26 = (V_19 (U a0_2 52) (((V_19 a0_2 53) + (16 : Int32)) + x2_22).toNatClampNeg) → wp_M_below θ a0_2 x2_22 y_26 (0 : Int32) V_19 U (fun r_29 V_27 U_28 => wp_M_above θ a0_2 x2_22 y_26 (0 : Int32) V_27 U_28 (fun r_32 V_30 U_31 => wp_M_line θ a0_2 r_29 r_32 (1 : Int32) y_26 V_30 U_31 (fun r_35 V_33 U_34 => (U_34 a0_2 63) ≠ 0 ∧ wp_M_range θ a0_2 (V_33 a0_2 53) V_33 U_34 (fun r_39 V_37 U_38 => (U_38 a0_2 62) ≠ 0 ∧ ∃ n_41, isA θ (U_38 a0_2 62) 0 n_41 ∧ vp_in x2_22 n_41 ∧ wp_M_heightOf θ r_35 (r_39 - r_35) (V_37 (U_38 a0_2 62) x2_22.toNatClampNeg) V_37 U_38 (fun r_46 V_44 U_45 => ∃ n_47, isA θ (U_34 a0_2 63) 0 n_47 ∧ vp_in x2_22 n_47 ∧ ∀ V_50 : VT, V_50 = up2 V_44 (U_34 a0_2 63) x2_22.toNatClampNeg r_46 → (U_45 a0_2 62) ≠ 0 ∧ ∃ n_52, isA θ (U_45 a0_2 62) 0 n_52 ∧ vp_in x2_22 n_52 ∧ (((V_50 (U_45 a0_2 62) x2_22.toNatClampNeg) = 0 → ∀ y_56 : Int32, y_56 = x2_22 + (1 : Int32) → kb2 y_56 V_50 U_45) ∧ (¬ (V_50 (U_45 a0_2 62) x2_22.toNatClampNeg) = 0 → (U_45 a0_2 64) ≠ 0 ∧ ∃ n_58, isA θ (U_45 a0_2 64) 1 n_58 ∧ vp_in r_29 n_58 ∧ ∀ V_61 : VT, V_61 = up2 V_50 (U_45 a0_2 64) r_29.toNatClampNeg (1 : Int32) → vp_in r_32 n_58 ∧ ∀ V_63 : VT, V_63 = up2 V_61 (U_45 a0_2 64) r_32.toNatClampNeg (1 : Int32) → vp_in x2_22 n_58 ∧ ∀ V_65 : VT, V_65 = up2 V_63 (U_45 a0_2 64) x2_22.toNatClampNeg (1 : Int32) → ∀ y_66 : Int32, y_66 = x2_22 + (1 : Int32) → kb2 y_66 V_65 U_45)))))))))
def bl_M_heights_2 (θ : TH) (a0_2 : Nat) (x1_2 : Int32) (K : VT → UT → Prop) (kb2 : Int32 → VT → UT → Prop) (x2_2 : Int32) (V : VT) (U : UT) : Prop := ((x1_2 ≤ x2_2 → K V U) ∧ (¬ x1_2 ≤ x2_2 → isO θ a0_2 12 ∧ (U a0_2 64) ≠ 0 ∧ (((2 : Int32) ≤ x2_2 → wb_M_heights_22 θ a0_2 x1_2 x2_2 (0 : Int32) x2_2 (U a0_2 64) kb2 K V U) ∧ (¬ (2 : Int32) ≤ x2_2 → wb_M_heights_22 θ a0_2 x1_2 x2_2 (1 : Int32) x2_2 (U a0_2 64) kb2 K V U))))
def wl_M_heights_2 (θ : TH) (a0_2 : Nat) (x1_2 : Int32) (K : VT → UT → Prop) : Nat → Int32 → VT → UT → Prop
  | 0, _, _, _ => False
  | n + 1, x2_2, V, U => bl_M_heights_2 θ a0_2 x1_2 K (wl_M_heights_2 θ a0_2 x1_2 K n) x2_2 V U
def wp_M_heights (θ : TH) (a0 : Nat) (x1 : Int32) (V : VT) (U : UT) (K : VT → UT → Prop) : Prop := ∃ n, wl_M_heights_2 θ a0 x1 K n (0 : Int32) V U
set_option maxRecDepth 100000 in
set_option maxHeartbeats 4000000 in
theorem c_M_heights (l : Launch) (θ : TH) (a0 : Nat) (x1 : Int32) (V : VT) (U : UT) (K : VT → UT → Prop) (hw : wp_M_heights θ a0 x1 V U K) : CMv l yM_heights kM_heights 7 none rmM_heights θ [.ref a0, .int x1] V U K := by
  refine g_met nRM (by decide +kernel) rfl (Nat.le_of_ble_eq_true rfl) (fun p e s m args below meth c ls hC hr hlk hwo hl => ?_)
  have hx := hC.1
  have hb := hC.2.1
  have hS : Sx θ s s.heap [] := va_S.rf
  have hl : lv_has ls 7 [(0, .ref a0), (1, .int x1)] := hl
  have L2 : ∀ (a0_2 : Nat) (x1_2 : Int32) (n2 : Nat) (x2_2 : Int32) (V : VT) (U : UT) (H : Heap) (locs : List Loc) (ls : Array Slot), wl_M_heights_2 θ a0_2 x1_2 K n2 x2_2 V U → wo θ V U H → Sx θ s H locs → lv_has ls 7 [(0, .ref a0_2), (1, .int x1_2), (2, .int x2_2)] → W p l e rmM_heights s m args below meth c H locs 0 0 (MQ below (QV θ K) args s 0 0 (aT θ)) (F0 m 2 ls []) := by
    intro a0_2 x1_2 n2
    induction n2 with
    | zero => intro x2_2 V U H locs ls hw hwo hS hl; exact (show False from hw).elim
    | succ n2 ih2 =>
      have J22 : ∀ (x2_22 : Int32) (z0_22 : Int32) (z1_22 : Int32) (z2_22 : Nat) (V : VT) (U : UT) (H : Heap) (locs : List Loc) (ls : Array Slot), wb_M_heights_22 θ a0_2 x1_2 x2_22 z0_22 z1_22 z2_22 (wl_M_heights_2 θ a0_2 x1_2 K n2) K V U → wo θ V U H → Sx θ s H locs → lv_has ls 7 [(0, .ref a0_2), (1, .int x1_2), (2, .int x2_22)] → W p l e rmM_heights s m args below meth c H locs 0 0 (MQ below (QV θ K) args s 0 0 (aT θ)) (F0 m 22 ls [.int z0_22, .int z1_22, .ref z2_22]) := by
        intro x2_22 z0_22 z1_22 z2_22 V U H locs ls hw hwo hS hl
        unfold wb_M_heights_22 at hw
        obtain ⟨n_5, ha_6, hw⟩ := hw
        obtain ⟨hi_7, hw⟩ := hw
        obtain ⟨hb_8, hw⟩ := hw
        refine g_zast hC hwo hS ha_6 hi_7 hb_8 dM_heights_22 (fun V_9 eV_9 H locs hwo hS => ?_)
        replace hw := hw V_9 eV_9
        refine lv_aload_n hx hb dM_heights_23 rfl (lv_at hl 0 rfl) ?_
        obtain ⟨ho_10, hw⟩ := hw
        obtain ⟨hz_11, hw⟩ := hw
        refine g_getR hC fkM_120 rfl hwo ho_10 hz_11 dM_heights_24 ?_
        refine lv_iload_n hx hb dM_heights_27 rfl (lv_at hl 2 rfl) ?_
        refine lv_aload_n hx hb dM_heights_28 rfl (lv_at hl 0 rfl) ?_
        obtain ⟨hz_12, hw⟩ := hw
        refine g_getR hC fkM_117 rfl hwo ho_10 hz_12 dM_heights_29 ?_
        refine lv_iload_n hx hb dM_heights_32 rfl (lv_at hl 2 rfl) ?_
        obtain ⟨n_13, ha_14, hw⟩ := hw
        obtain ⟨hi_15, hw⟩ := hw
        refine g_iald hC hwo ha_14 hi_15 dM_heights_33 ?_
        obtain ⟨n_16, ha_17, hw⟩ := hw
        obtain ⟨hi_18, hw⟩ := hw
        refine g_iast hC hwo hS ha_17 hi_18 dM_heights_34 (fun V_19 eV_19 H locs hwo hS => ?_)
        replace hw := hw V_19 eV_19
        refine lv_iload_n hx hb dM_heights_35 rfl (lv_at hl 2 rfl) ?_
        refine lv_iconst (v := 2) hx hb dM_heights_36 (by decide) ?_
        refine lv_icmp_lt (tgt := 145) hx hb dM_heights_37 (by decide) (fun hc_20 => ?_) (fun hc_20 => ?_)
        · replace hw := hw.1 hc_20
          obtain ⟨y_21, ey_21⟩ : ∃ z : Int32, z = x2_22 + (1 : Int32) := ⟨_, rfl⟩
          replace hw := hw y_21 ey_21
          refine lv_iinc (k := 2) (v := y_21) (lv' := [(2, .int y_21), (0, .ref a0_2), (1, .int x1_2)]) hx hb dM_heights_145 hl rfl (by rw [ey_21]; rfl) (by decide) rfl (fun ls hl => ?_)
          refine lv_goto (tgt := 2) hx hb dM_heights_148 (by decide) ?_
          exact ih2 _ _ _ _ _ _ hw hwo hS (lv_sub hl [1, 2, 0] rfl)
        · replace hw := hw.2 hc_20
          refine lv_aload_n hx hb dM_heights_40 rfl (lv_at hl 0 rfl) ?_
          obtain ⟨hz_22, hw⟩ := hw
          refine g_getR hC fkM_101 rfl hwo ho_10 hz_22 dM_heights_41 ?_
          refine lv_aload_n hx hb dM_heights_44 rfl (lv_at hl 0 rfl) ?_
          refine g_getI hC fkM_104 rfl hwo ho_10 dM_heights_45 ?_
          refine lv_bipush (v := 16) hx hb dM_heights_48 (by decide) ?_
          refine lv_iadd hx hb dM_heights_50 ?_
          refine lv_iload_n hx hb dM_heights_51 rfl (lv_at hl 2 rfl) ?_
          refine lv_iadd hx hb dM_heights_52 ?_
          obtain ⟨n_23, ha_24, hw⟩ := hw
          obtain ⟨hi_25, hw⟩ := hw
          refine g_iald hC hwo ha_24 hi_25 dM_heights_53 ?_
          refine lv_topi (fun y_26 ey_26 => ?_)
          replace hw := hw y_26 ey_26
          refine lv_istore_n (i := 3) (lv' := [(3, .int y_26), (0, .ref a0_2), (1, .int x1_2), (2, .int x2_22)]) hx hb dM_heights_54 rfl hl (by decide) rfl (fun ls hl => ?_)
          refine lv_aload_n hx hb dM_heights_55 rfl (lv_at hl 1 rfl) ?_
          refine lv_iload_n hx hb dM_heights_56 rfl (lv_at hl 3 rfl) ?_
          refine lv_iload_n hx hb dM_heights_57 rfl (lv_at hl 0 rfl) ?_
          refine lv_iconst (v := 0) hx hb dM_heights_58 (by decide) ?_
          refine g_Vi (rest := []) hC (c_M_below l θ _ _ _ _ _ _ _ hw) mi_M_below mlM_345 mv_M_below ci_12 ho_10 hwo hS ⟨rfl, rfl⟩ ⟨by decide, by decide⟩ rfl hl.1 rfl (Nat.le_of_ble_eq_true rfl) dM_heights_59 (fun r_29 V_27 U_28 hw H locs hwo hS => ?_)
          refine lv_istore (i := 4) (lv' := [(4, .int r_29), (3, .int y_26), (0, .ref a0_2), (1, .int x1_2), (2, .int x2_22)]) hx hb dM_heights_62 hl (by decide) rfl (fun ls hl => ?_)
          refine lv_aload_n hx hb dM_heights_64 rfl (lv_at hl 2 rfl) ?_
          refine lv_iload_n hx hb dM_heights_65 rfl (lv_at hl 4 rfl) ?_
          refine lv_iload_n hx hb dM_heights_66 rfl (lv_at hl 1 rfl) ?_
          refine lv_iconst (v := 0) hx hb dM_heights_67 (by decide) ?_
          refine g_Vi (rest := []) hC (c_M_above l θ _ _ _ _ _ _ _ hw) mi_M_above mlM_349 mv_M_above ci_12 ho_10 hwo hS ⟨rfl, rfl⟩ ⟨by decide, by decide⟩ rfl hl.1 rfl (Nat.le_of_ble_eq_true rfl) dM_heights_68 (fun r_32 V_30 U_31 hw H locs hwo hS => ?_)
          refine lv_istore (i := 5) (lv' := [(5, .int r_32), (4, .int r_29), (3, .int y_26), (0, .ref a0_2), (1, .int x1_2), (2, .int x2_22)]) hx hb dM_heights_71 hl (by decide) rfl (fun ls hl => ?_)
          refine lv_aload_n hx hb dM_heights_73 rfl (lv_at hl 3 rfl) ?_
          refine lv_iload hx hb dM_heights_74 (lv_at hl 1 rfl) ?_
          refine lv_iload hx hb dM_heights_76 (lv_at hl 0 rfl) ?_
          refine lv_iconst (v := 1) hx hb dM_heights_78 (by decide) ?_
          refine lv_iload_n hx hb dM_heights_79 rfl (lv_at hl 2 rfl) ?_
          refine g_Vi (rest := []) hC (c_M_line l θ _ _ _ _ _ _ _ _ hw) mi_M_line mlM_352 mv_M_line ci_12 ho_10 hwo hS ⟨rfl, rfl⟩ ⟨by decide, by decide⟩ rfl hl.1 rfl (Nat.le_of_ble_eq_true rfl) dM_heights_80 (fun r_35 V_33 U_34 hw H locs hwo hS => ?_)
          refine lv_istore (i := 6) (lv' := [(6, .int r_35), (5, .int r_32), (4, .int r_29), (3, .int y_26), (0, .ref a0_2), (1, .int x1_2), (2, .int x2_22)]) hx hb dM_heights_83 hl (by decide) rfl (fun ls hl => ?_)
          refine lv_aload_n hx hb dM_heights_85 rfl (lv_at hl 4 rfl) ?_
          obtain ⟨hz_36, hw⟩ := hw
          refine g_getR hC fkM_120 rfl hwo ho_10 hz_36 dM_heights_86 ?_
          refine lv_iload_n hx hb dM_heights_89 rfl (lv_at hl 6 rfl) ?_
          refine lv_iload hx hb dM_heights_90 (lv_at hl 0 rfl) ?_
          refine lv_aload_n hx hb dM_heights_92 rfl (lv_at hl 4 rfl) ?_
          refine lv_aload_n hx hb dM_heights_93 rfl (lv_at hl 4 rfl) ?_
          refine g_getI hC fkM_104 rfl hwo ho_10 dM_heights_94 ?_
          refine g_Vi (rest := [.int r_35, .int x2_22, .ref (U_34 a0_2 63)]) hC (c_M_range l θ _ _ _ _ _ hw) mi_M_range mlM_333 mv_M_range ci_12 ho_10 hwo hS ⟨rfl, rfl⟩ ⟨by decide, by decide⟩ rfl hl.1 rfl (Nat.le_of_ble_eq_true rfl) dM_heights_97 (fun r_39 V_37 U_38 hw H locs hwo hS => ?_)
          refine lv_iload hx hb dM_heights_100 (lv_at hl 0 rfl) ?_
          refine lv_isub hx hb dM_heights_102 ?_
          refine lv_aload_n hx hb dM_heights_103 rfl (lv_at hl 4 rfl) ?_
          obtain ⟨hz_40, hw⟩ := hw
          refine g_getR hC fkM_117 rfl hwo ho_10 hz_40 dM_heights_104 ?_
          refine lv_iload_n hx hb dM_heights_107 rfl (lv_at hl 6 rfl) ?_
          obtain ⟨n_41, ha_42, hw⟩ := hw
          obtain ⟨hi_43, hw⟩ := hw
          refine g_iald hC hwo ha_42 hi_43 dM_heights_108 ?_
          refine g_Si (rest := [.int x2_22, .ref (U_34 a0_2 63)]) hC (c_M_heightOf l θ _ _ _ _ _ _ hw) mi_M_heightOf mlM_356 ms_M_heightOf hwo hS ⟨rfl, rfl⟩ ⟨by decide, by decide⟩ rfl hl.1 rfl (Nat.le_of_ble_eq_true rfl) dM_heights_109 (fun r_46 V_44 U_45 hw H locs hwo hS => ?_)
          obtain ⟨n_47, ha_48, hw⟩ := hw
          obtain ⟨hi_49, hw⟩ := hw
          refine g_iast hC hwo hS ha_48 hi_49 dM_heights_112 (fun V_50 eV_50 H locs hwo hS => ?_)
          replace hw := hw V_50 eV_50
          refine lv_aload_n hx hb dM_heights_113 rfl (lv_at hl 4 rfl) ?_
          obtain ⟨hz_51, hw⟩ := hw
          refine g_getR hC fkM_117 rfl hwo ho_10 hz_51 dM_heights_114 ?_
          refine lv_iload_n hx hb dM_heights_117 rfl (lv_at hl 6 rfl) ?_
          obtain ⟨n_52, ha_53, hw⟩ := hw
          obtain ⟨hi_54, hw⟩ := hw
          refine g_iald hC hwo ha_53 hi_54 dM_heights_118 ?_
          refine lv_if_eq (tgt := 145) hx hb dM_heights_119 (by decide) (fun hc_55 => ?_) (fun hc_55 => ?_)
          · replace hw := hw.1 hc_55
            obtain ⟨y_56, ey_56⟩ : ∃ z : Int32, z = x2_22 + (1 : Int32) := ⟨_, rfl⟩
            replace hw := hw y_56 ey_56
            refine lv_iinc (k := 6) (v := y_56) (lv' := [(2, .int y_56), (6, .int r_35), (5, .int r_32), (4, .int r_29), (3, .int y_26), (0, .ref a0_2), (1, .int x1_2)]) hx hb dM_heights_145 hl rfl (by rw [ey_56]; rfl) (by decide) rfl (fun ls hl => ?_)
            refine lv_goto (tgt := 2) hx hb dM_heights_148 (by decide) ?_
            exact ih2 _ _ _ _ _ _ hw hwo hS (lv_sub hl [5, 6, 0] rfl)
          · replace hw := hw.2 hc_55
            refine lv_aload_n hx hb dM_heights_122 rfl (lv_at hl 4 rfl) ?_
            obtain ⟨hz_57, hw⟩ := hw
            refine g_getR hC fkM_123 rfl hwo ho_10 hz_57 dM_heights_123 ?_
            refine lv_iload hx hb dM_heights_126 (lv_at hl 2 rfl) ?_
            refine lv_iconst (v := 1) hx hb dM_heights_128 (by decide) ?_
            obtain ⟨n_58, ha_59, hw⟩ := hw
            obtain ⟨hi_60, hw⟩ := hw
            refine g_zast hC hwo hS ha_59 hi_60 (Or.inr rfl) dM_heights_129 (fun V_61 eV_61 H locs hwo hS => ?_)
            replace hw := hw V_61 eV_61
            refine lv_aload_n hx hb dM_heights_130 rfl (lv_at hl 4 rfl) ?_
            refine g_getR hC fkM_123 rfl hwo ho_10 hz_57 dM_heights_131 ?_
            refine lv_iload hx hb dM_heights_134 (lv_at hl 1 rfl) ?_
            refine lv_iconst (v := 1) hx hb dM_heights_136 (by decide) ?_
            obtain ⟨hi_62, hw⟩ := hw
            refine g_zast hC hwo hS ha_59 hi_62 (Or.inr rfl) dM_heights_137 (fun V_63 eV_63 H locs hwo hS => ?_)
            replace hw := hw V_63 eV_63
            refine lv_aload_n hx hb dM_heights_138 rfl (lv_at hl 4 rfl) ?_
            refine g_getR hC fkM_123 rfl hwo ho_10 hz_57 dM_heights_139 ?_
            refine lv_iload_n hx hb dM_heights_142 rfl (lv_at hl 6 rfl) ?_
            refine lv_iconst (v := 1) hx hb dM_heights_143 (by decide) ?_
            obtain ⟨hi_64, hw⟩ := hw
            refine g_zast hC hwo hS ha_59 hi_64 (Or.inr rfl) dM_heights_144 (fun V_65 eV_65 H locs hwo hS => ?_)
            replace hw := hw V_65 eV_65
            obtain ⟨y_66, ey_66⟩ : ∃ z : Int32, z = x2_22 + (1 : Int32) := ⟨_, rfl⟩
            replace hw := hw y_66 ey_66
            refine lv_iinc (k := 6) (v := y_66) (lv' := [(2, .int y_66), (6, .int r_35), (5, .int r_32), (4, .int r_29), (3, .int y_26), (0, .ref a0_2), (1, .int x1_2)]) hx hb dM_heights_145 hl rfl (by rw [ey_66]; rfl) (by decide) rfl (fun ls hl => ?_)
            refine lv_goto (tgt := 2) hx hb dM_heights_148 (by decide) ?_
            exact ih2 _ _ _ _ _ _ hw hwo hS (lv_sub hl [5, 6, 0] rfl)
      intro x2_2 V U H locs ls hw hwo hS hl
      replace hw : bl_M_heights_2 θ a0_2 x1_2 K (wl_M_heights_2 θ a0_2 x1_2 K n2) x2_2 V U := hw
      unfold bl_M_heights_2 at hw
      refine lv_iload_n hx hb dM_heights_2 rfl (lv_at hl 2 rfl) ?_
      refine lv_iload_n hx hb dM_heights_3 rfl (lv_at hl 1 rfl) ?_
      refine lv_icmp_ge (tgt := 151) hx hb dM_heights_4 (by decide) (fun hc_1 => ?_) (fun hc_1 => ?_)
      · replace hw := hw.1 hc_1
        exact g_vret hC hr hlk hw hwo hS dM_heights_151
      · replace hw := hw.2 hc_1
        refine lv_aload_n hx hb dM_heights_7 rfl (lv_at hl 0 rfl) ?_
        obtain ⟨ho_2, hw⟩ := hw
        obtain ⟨hz_3, hw⟩ := hw
        refine g_getR hC fkM_123 rfl hwo ho_2 hz_3 dM_heights_8 ?_
        refine lv_iload_n hx hb dM_heights_11 rfl (lv_at hl 2 rfl) ?_
        refine lv_iload_n hx hb dM_heights_12 rfl (lv_at hl 2 rfl) ?_
        refine lv_iconst (v := 2) hx hb dM_heights_13 (by decide) ?_
        refine lv_icmp_ge (tgt := 21) hx hb dM_heights_14 (by decide) (fun hc_4 => ?_) (fun hc_4 => ?_)
        · replace hw := hw.1 hc_4
          refine lv_iconst (v := 0) hx hb dM_heights_21 (by decide) ?_
          exact J22 _ _ _ _ _ _ _ _ _ hw hwo hS (lv_sub hl [0, 1, 2] rfl)
        · replace hw := hw.2 hc_4
          refine lv_iconst (v := 1) hx hb dM_heights_17 (by decide) ?_
          refine lv_goto (tgt := 22) hx hb dM_heights_18 (by decide) ?_
          exact J22 _ _ _ _ _ _ _ _ _ hw hwo hS (lv_sub hl [0, 1, 2] rfl)
  unfold wp_M_heights at hw
  refine lv_iconst (v := 0) hx hb dM_heights_0 (by decide) ?_
  refine lv_istore_n (i := 2) (lv' := [(2, .int (0 : Int32)), (0, .ref a0), (1, .int x1)]) hx hb dM_heights_1 rfl hl (by decide) rfl (fun ls hl => ?_)
  obtain ⟨n, hw⟩ := hw
  exact L2 _ _ n _ _ _ _ _ _ hw hwo hS (lv_sub hl [1, 2, 0] rfl)
theorem dM_draw_0 : decode kM_draw 0 = .ok (.aload_n 0, 1) := by decide +kernel
theorem dM_draw_1 : decode kM_draw 1 = .ok (.iload_n 1, 1) := by decide +kernel
theorem dM_draw_2 : decode kM_draw 2 = .ok (.iload_n 2, 1) := by decide +kernel
theorem dM_draw_3 : decode kM_draw 3 = .ok (.iconst 1, 1) := by decide +kernel
theorem dM_draw_4 : decode kM_draw 4 = .ok (.invokevirtual 345, 3) := by decide +kernel
theorem dM_draw_7 : decode kM_draw 7 = .ok (.istore_n 3, 1) := by decide +kernel
theorem dM_draw_8 : decode kM_draw 8 = .ok (.aload_n 0, 1) := by decide +kernel
theorem dM_draw_9 : decode kM_draw 9 = .ok (.iload_n 1, 1) := by decide +kernel
theorem dM_draw_10 : decode kM_draw 10 = .ok (.iload_n 2, 1) := by decide +kernel
theorem dM_draw_11 : decode kM_draw 11 = .ok (.iconst 1, 1) := by decide +kernel
theorem dM_draw_12 : decode kM_draw 12 = .ok (.invokevirtual 349, 3) := by decide +kernel
theorem dM_draw_15 : decode kM_draw 15 = .ok (.istore 4, 2) := by decide +kernel
theorem dM_draw_17 : decode kM_draw 17 = .ok (.aload_n 0, 1) := by decide +kernel
theorem dM_draw_18 : decode kM_draw 18 = .ok (.getfield 101, 3) := by decide +kernel
theorem dM_draw_21 : decode kM_draw 21 = .ok (.aload_n 0, 1) := by decide +kernel
theorem dM_draw_22 : decode kM_draw 22 = .ok (.getfield 104, 3) := by decide +kernel
theorem dM_draw_25 : decode kM_draw 25 = .ok (.iconst 0, 1) := by decide +kernel
theorem dM_draw_26 : decode kM_draw 26 = .ok (.iadd, 1) := by decide +kernel
theorem dM_draw_27 : decode kM_draw 27 = .ok (.iaload, 1) := by decide +kernel
theorem dM_draw_28 : decode kM_draw 28 = .ok (.istore 5, 2) := by decide +kernel
theorem dM_draw_30 : decode kM_draw 30 = .ok (.iload 4, 2) := by decide +kernel
theorem dM_draw_32 : decode kM_draw 32 = .ok (.ifCond .ge 15, 3) := by decide +kernel
theorem dM_draw_35 : decode kM_draw 35 = .ok (.aload_n 0, 1) := by decide +kernel
theorem dM_draw_36 : decode kM_draw 36 = .ok (.getfield 120, 3) := by decide +kernel
theorem dM_draw_39 : decode kM_draw 39 = .ok (.iload_n 3, 1) := by decide +kernel
theorem dM_draw_40 : decode kM_draw 40 = .ok (.iaload, 1) := by decide +kernel
theorem dM_draw_41 : decode kM_draw 41 = .ok (.iload 5, 2) := by decide +kernel
theorem dM_draw_43 : decode kM_draw 43 = .ok (.imul, 1) := by decide +kernel
theorem dM_draw_44 : decode kM_draw 44 = .ok (.goto 13, 3) := by decide +kernel
theorem dM_draw_47 : decode kM_draw 47 = .ok (.aload_n 0, 1) := by decide +kernel
theorem dM_draw_48 : decode kM_draw 48 = .ok (.iload_n 3, 1) := by decide +kernel
theorem dM_draw_49 : decode kM_draw 49 = .ok (.iload 4, 2) := by decide +kernel
theorem dM_draw_51 : decode kM_draw 51 = .ok (.iload 5, 2) := by decide +kernel
theorem dM_draw_53 : decode kM_draw 53 = .ok (.iload_n 2, 1) := by decide +kernel
theorem dM_draw_54 : decode kM_draw 54 = .ok (.invokevirtual 352, 3) := by decide +kernel
theorem dM_draw_57 : decode kM_draw 57 = .ok (.ireturn, 1) := by decide +kernel
def wp_M_draw (θ : TH) (a0 : Nat) (x1 : Int32) (x2 : Int32) (V : VT) (U : UT) (K : Int32 → VT → UT → Prop) : Prop := isO θ a0 12 ∧ wp_M_below θ a0 x1 x2 (1 : Int32) V U (fun r_4 V_1 U_2 => wp_M_above θ a0 x1 x2 (1 : Int32) V_1 U_2 (fun r_7 V_5 U_6 => (U_6 a0 52) ≠ 0 ∧ ∃ n_9, isA θ (U_6 a0 52) 0 n_9 ∧ vp_in ((V_5 a0 53) + (0 : Int32)) n_9 ∧ ∀ y_12 : Int32, y_12 = (V_5 (U_6 a0 52) ((V_5 a0 53) + (0 : Int32)).toNatClampNeg) → ((0 ≤ r_7 → wp_M_line θ a0 r_4 r_7 y_12 x2 V_5 U_6 (fun r_16 V_14 U_15 => K r_16 V_14 U_15)) ∧ (¬ 0 ≤ r_7 → (U_6 a0 63) ≠ 0 ∧ ∃ n_18, isA θ (U_6 a0 63) 0 n_18 ∧ vp_in r_4 n_18 ∧ K ((V_5 (U_6 a0 63) r_4.toNatClampNeg) * y_12) V_5 U_6))))
set_option maxRecDepth 100000 in
set_option maxHeartbeats 4000000 in
theorem c_M_draw (l : Launch) (θ : TH) (a0 : Nat) (x1 : Int32) (x2 : Int32) (V : VT) (U : UT) (K : Int32 → VT → UT → Prop) (hw : wp_M_draw θ a0 x1 x2 V U K) : CMi l yM_draw kM_draw 6 (some .int) rmM_draw θ [.ref a0, .int x1, .int x2] V U K := by
  refine g_met nRM (by decide +kernel) rfl (Nat.le_of_ble_eq_true rfl) (fun p e s m args below meth c ls hC hr hlk hwo hl => ?_)
  have hx := hC.1
  have hb := hC.2.1
  have hS : Sx θ s s.heap [] := va_S.rf
  have hl : lv_has ls 6 [(0, .ref a0), (1, .int x1), (2, .int x2)] := hl
  unfold wp_M_draw at hw
  refine lv_aload_n hx hb dM_draw_0 rfl (lv_at hl 0 rfl) ?_
  refine lv_iload_n hx hb dM_draw_1 rfl (lv_at hl 1 rfl) ?_
  refine lv_iload_n hx hb dM_draw_2 rfl (lv_at hl 2 rfl) ?_
  refine lv_iconst (v := 1) hx hb dM_draw_3 (by decide) ?_
  obtain ⟨ho_3, hw⟩ := hw
  refine g_Vi (rest := []) hC (c_M_below l θ _ _ _ _ _ _ _ hw) mi_M_below mlM_345 mv_M_below ci_12 ho_3 hwo hS ⟨rfl, rfl⟩ ⟨by decide, by decide⟩ rfl hl.1 rfl (Nat.le_of_ble_eq_true rfl) dM_draw_4 (fun r_4 V_1 U_2 hw H locs hwo hS => ?_)
  refine lv_istore_n (i := 3) (lv' := [(3, .int r_4), (0, .ref a0), (1, .int x1), (2, .int x2)]) hx hb dM_draw_7 rfl hl (by decide) rfl (fun ls hl => ?_)
  refine lv_aload_n hx hb dM_draw_8 rfl (lv_at hl 1 rfl) ?_
  refine lv_iload_n hx hb dM_draw_9 rfl (lv_at hl 2 rfl) ?_
  refine lv_iload_n hx hb dM_draw_10 rfl (lv_at hl 3 rfl) ?_
  refine lv_iconst (v := 1) hx hb dM_draw_11 (by decide) ?_
  refine g_Vi (rest := []) hC (c_M_above l θ _ _ _ _ _ _ _ hw) mi_M_above mlM_349 mv_M_above ci_12 ho_3 hwo hS ⟨rfl, rfl⟩ ⟨by decide, by decide⟩ rfl hl.1 rfl (Nat.le_of_ble_eq_true rfl) dM_draw_12 (fun r_7 V_5 U_6 hw H locs hwo hS => ?_)
  refine lv_istore (i := 4) (lv' := [(4, .int r_7), (3, .int r_4), (0, .ref a0), (1, .int x1), (2, .int x2)]) hx hb dM_draw_15 hl (by decide) rfl (fun ls hl => ?_)
  refine lv_aload_n hx hb dM_draw_17 rfl (lv_at hl 2 rfl) ?_
  obtain ⟨hz_8, hw⟩ := hw
  refine g_getR hC fkM_101 rfl hwo ho_3 hz_8 dM_draw_18 ?_
  refine lv_aload_n hx hb dM_draw_21 rfl (lv_at hl 2 rfl) ?_
  refine g_getI hC fkM_104 rfl hwo ho_3 dM_draw_22 ?_
  refine lv_iconst (v := 0) hx hb dM_draw_25 (by decide) ?_
  refine lv_iadd hx hb dM_draw_26 ?_
  obtain ⟨n_9, ha_10, hw⟩ := hw
  obtain ⟨hi_11, hw⟩ := hw
  refine g_iald hC hwo ha_10 hi_11 dM_draw_27 ?_
  refine lv_topi (fun y_12 ey_12 => ?_)
  replace hw := hw y_12 ey_12
  refine lv_istore (i := 5) (lv' := [(5, .int y_12), (4, .int r_7), (3, .int r_4), (0, .ref a0), (1, .int x1), (2, .int x2)]) hx hb dM_draw_28 hl (by decide) rfl (fun ls hl => ?_)
  refine lv_iload hx hb dM_draw_30 (lv_at hl 1 rfl) ?_
  refine lv_if_ge (tgt := 47) hx hb dM_draw_32 (by decide) (fun hc_13 => ?_) (fun hc_13 => ?_)
  · replace hw := hw.1 hc_13
    refine lv_aload_n hx hb dM_draw_47 rfl (lv_at hl 3 rfl) ?_
    refine lv_iload_n hx hb dM_draw_48 rfl (lv_at hl 2 rfl) ?_
    refine lv_iload hx hb dM_draw_49 (lv_at hl 1 rfl) ?_
    refine lv_iload hx hb dM_draw_51 (lv_at hl 0 rfl) ?_
    refine lv_iload_n hx hb dM_draw_53 rfl (lv_at hl 5 rfl) ?_
    refine g_Vi (rest := []) hC (c_M_line l θ _ _ _ _ _ _ _ _ hw) mi_M_line mlM_352 mv_M_line ci_12 ho_3 hwo hS ⟨rfl, rfl⟩ ⟨by decide, by decide⟩ rfl hl.1 rfl (Nat.le_of_ble_eq_true rfl) dM_draw_54 (fun r_16 V_14 U_15 hw H locs hwo hS => ?_)
    exact g_iret hC hr hlk hw hwo hS dM_draw_57
  · replace hw := hw.2 hc_13
    refine lv_aload_n hx hb dM_draw_35 rfl (lv_at hl 3 rfl) ?_
    obtain ⟨hz_17, hw⟩ := hw
    refine g_getR hC fkM_120 rfl hwo ho_3 hz_17 dM_draw_36 ?_
    refine lv_iload_n hx hb dM_draw_39 rfl (lv_at hl 2 rfl) ?_
    obtain ⟨n_18, ha_19, hw⟩ := hw
    obtain ⟨hi_20, hw⟩ := hw
    refine g_iald hC hwo ha_19 hi_20 dM_draw_40 ?_
    refine lv_iload hx hb dM_draw_41 (lv_at hl 0 rfl) ?_
    refine lv_imul hx hb dM_draw_43 ?_
    refine lv_goto (tgt := 57) hx hb dM_draw_44 (by decide) ?_
    exact g_iret hC hr hlk hw hwo hS dM_draw_57
theorem dM_curveOf_0 : decode kM_curveOf 0 = .ok (.aload_n 0, 1) := by decide +kernel
theorem dM_curveOf_1 : decode kM_curveOf 1 = .ok (.iconst 1, 1) := by decide +kernel
theorem dM_curveOf_2 : decode kM_curveOf 2 = .ok (.invokevirtual 249, 3) := by decide +kernel
theorem dM_curveOf_5 : decode kM_curveOf 5 = .ok (.ifCond .ne 5, 3) := by decide +kernel
theorem dM_curveOf_8 : decode kM_curveOf 8 = .ok (.iconst 0, 1) := by decide +kernel
theorem dM_curveOf_9 : decode kM_curveOf 9 = .ok (.ireturn, 1) := by decide +kernel
theorem dM_curveOf_10 : decode kM_curveOf 10 = .ok (.aload_n 0, 1) := by decide +kernel
theorem dM_curveOf_11 : decode kM_curveOf 11 = .ok (.aload_n 0, 1) := by decide +kernel
theorem dM_curveOf_12 : decode kM_curveOf 12 = .ok (.getfield 104, 3) := by decide +kernel
theorem dM_curveOf_15 : decode kM_curveOf 15 = .ok (.invokevirtual 333, 3) := by decide +kernel
theorem dM_curveOf_18 : decode kM_curveOf 18 = .ok (.iconst 1, 1) := by decide +kernel
theorem dM_curveOf_19 : decode kM_curveOf 19 = .ok (.isub, 1) := by decide +kernel
theorem dM_curveOf_20 : decode kM_curveOf 20 = .ok (.istore_n 2, 1) := by decide +kernel
theorem dM_curveOf_21 : decode kM_curveOf 21 = .ok (.iload_n 2, 1) := by decide +kernel
theorem dM_curveOf_22 : decode kM_curveOf 22 = .ok (.bipush 31, 2) := by decide +kernel
theorem dM_curveOf_24 : decode kM_curveOf 24 = .ok (.if_icmp .ne 7, 3) := by decide +kernel
theorem dM_curveOf_27 : decode kM_curveOf 27 = .ok (.iconst 5, 1) := by decide +kernel
theorem dM_curveOf_28 : decode kM_curveOf 28 = .ok (.goto 14, 3) := by decide +kernel
theorem dM_curveOf_31 : decode kM_curveOf 31 = .ok (.iload_n 2, 1) := by decide +kernel
theorem dM_curveOf_32 : decode kM_curveOf 32 = .ok (.bipush 7, 2) := by decide +kernel
theorem dM_curveOf_34 : decode kM_curveOf 34 = .ok (.if_icmp .ne 7, 3) := by decide +kernel
theorem dM_curveOf_37 : decode kM_curveOf 37 = .ok (.iconst 3, 1) := by decide +kernel
theorem dM_curveOf_38 : decode kM_curveOf 38 = .ok (.goto 4, 3) := by decide +kernel
theorem dM_curveOf_41 : decode kM_curveOf 41 = .ok (.iconst 4, 1) := by decide +kernel
theorem dM_curveOf_42 : decode kM_curveOf 42 = .ok (.istore_n 3, 1) := by decide +kernel
theorem dM_curveOf_43 : decode kM_curveOf 43 = .ok (.iconst 0, 1) := by decide +kernel
theorem dM_curveOf_44 : decode kM_curveOf 44 = .ok (.istore 4, 2) := by decide +kernel
theorem dM_curveOf_46 : decode kM_curveOf 46 = .ok (.iload 4, 2) := by decide +kernel
theorem dM_curveOf_48 : decode kM_curveOf 48 = .ok (.iconst 2, 1) := by decide +kernel
theorem dM_curveOf_49 : decode kM_curveOf 49 = .ok (.if_icmp .ge 35, 3) := by decide +kernel
theorem dM_curveOf_52 : decode kM_curveOf 52 = .ok (.aload_n 0, 1) := by decide +kernel
theorem dM_curveOf_53 : decode kM_curveOf 53 = .ok (.iload_n 3, 1) := by decide +kernel
theorem dM_curveOf_54 : decode kM_curveOf 54 = .ok (.invokevirtual 249, 3) := by decide +kernel
theorem dM_curveOf_57 : decode kM_curveOf 57 = .ok (.istore 5, 2) := by decide +kernel
theorem dM_curveOf_59 : decode kM_curveOf 59 = .ok (.aload_n 0, 1) := by decide +kernel
theorem dM_curveOf_60 : decode kM_curveOf 60 = .ok (.getfield 117, 3) := by decide +kernel
theorem dM_curveOf_63 : decode kM_curveOf 63 = .ok (.iload 4, 2) := by decide +kernel
theorem dM_curveOf_65 : decode kM_curveOf 65 = .ok (.iload 5, 2) := by decide +kernel
theorem dM_curveOf_67 : decode kM_curveOf 67 = .ok (.iload_n 2, 1) := by decide +kernel
theorem dM_curveOf_68 : decode kM_curveOf 68 = .ok (.if_icmp .le 7, 3) := by decide +kernel
theorem dM_curveOf_71 : decode kM_curveOf 71 = .ok (.iload_n 2, 1) := by decide +kernel
theorem dM_curveOf_72 : decode kM_curveOf 72 = .ok (.goto 5, 3) := by decide +kernel
theorem dM_curveOf_75 : decode kM_curveOf 75 = .ok (.iload 5, 2) := by decide +kernel
theorem dM_curveOf_77 : decode kM_curveOf 77 = .ok (.iastore, 1) := by decide +kernel
theorem dM_curveOf_78 : decode kM_curveOf 78 = .ok (.iinc 4 1, 3) := by decide +kernel
theorem dM_curveOf_81 : decode kM_curveOf 81 = .ok (.goto (-35), 3) := by decide +kernel
theorem dM_curveOf_84 : decode kM_curveOf 84 = .ok (.iconst 2, 1) := by decide +kernel
theorem dM_curveOf_85 : decode kM_curveOf 85 = .ok (.istore 4, 2) := by decide +kernel
theorem dM_curveOf_87 : decode kM_curveOf 87 = .ok (.iconst 0, 1) := by decide +kernel
theorem dM_curveOf_88 : decode kM_curveOf 88 = .ok (.istore 5, 2) := by decide +kernel
theorem dM_curveOf_90 : decode kM_curveOf 90 = .ok (.iload 5, 2) := by decide +kernel
theorem dM_curveOf_92 : decode kM_curveOf 92 = .ok (.aload_n 0, 1) := by decide +kernel
theorem dM_curveOf_93 : decode kM_curveOf 93 = .ok (.getfield 101, 3) := by decide +kernel
theorem dM_curveOf_96 : decode kM_curveOf 96 = .ok (.aload_n 0, 1) := by decide +kernel
theorem dM_curveOf_97 : decode kM_curveOf 97 = .ok (.getfield 104, 3) := by decide +kernel
theorem dM_curveOf_100 : decode kM_curveOf 100 = .ok (.iconst 1, 1) := by decide +kernel
theorem dM_curveOf_101 : decode kM_curveOf 101 = .ok (.iadd, 1) := by decide +kernel
theorem dM_curveOf_102 : decode kM_curveOf 102 = .ok (.iaload, 1) := by decide +kernel
theorem dM_curveOf_103 : decode kM_curveOf 103 = .ok (.if_icmp .ge 188, 3) := by decide +kernel
theorem dM_curveOf_106 : decode kM_curveOf 106 = .ok (.aload_n 0, 1) := by decide +kernel
theorem dM_curveOf_107 : decode kM_curveOf 107 = .ok (.getfield 101, 3) := by decide +kernel
theorem dM_curveOf_110 : decode kM_curveOf 110 = .ok (.aload_n 0, 1) := by decide +kernel
theorem dM_curveOf_111 : decode kM_curveOf 111 = .ok (.getfield 104, 3) := by decide +kernel
theorem dM_curveOf_114 : decode kM_curveOf 114 = .ok (.iconst 2, 1) := by decide +kernel
theorem dM_curveOf_115 : decode kM_curveOf 115 = .ok (.iadd, 1) := by decide +kernel
theorem dM_curveOf_116 : decode kM_curveOf 116 = .ok (.iload 5, 2) := by decide +kernel
theorem dM_curveOf_118 : decode kM_curveOf 118 = .ok (.iadd, 1) := by decide +kernel
theorem dM_curveOf_119 : decode kM_curveOf 119 = .ok (.iaload, 1) := by decide +kernel
theorem dM_curveOf_120 : decode kM_curveOf 120 = .ok (.istore 6, 2) := by decide +kernel
theorem dM_curveOf_122 : decode kM_curveOf 122 = .ok (.aload_n 0, 1) := by decide +kernel
theorem dM_curveOf_123 : decode kM_curveOf 123 = .ok (.getfield 101, 3) := by decide +kernel
theorem dM_curveOf_126 : decode kM_curveOf 126 = .ok (.aload_n 0, 1) := by decide +kernel
theorem dM_curveOf_127 : decode kM_curveOf 127 = .ok (.getfield 104, 3) := by decide +kernel
theorem dM_curveOf_130 : decode kM_curveOf 130 = .ok (.bipush 7, 2) := by decide +kernel
theorem dM_curveOf_132 : decode kM_curveOf 132 = .ok (.iadd, 1) := by decide +kernel
theorem dM_curveOf_133 : decode kM_curveOf 133 = .ok (.iload 6, 2) := by decide +kernel
theorem dM_curveOf_135 : decode kM_curveOf 135 = .ok (.iadd, 1) := by decide +kernel
theorem dM_curveOf_136 : decode kM_curveOf 136 = .ok (.iaload, 1) := by decide +kernel
theorem dM_curveOf_137 : decode kM_curveOf 137 = .ok (.iconst 1, 1) := by decide +kernel
theorem dM_curveOf_138 : decode kM_curveOf 138 = .ok (.if_icmp .ne 7, 3) := by decide +kernel
theorem dM_curveOf_141 : decode kM_curveOf 141 = .ok (.iconst 1, 1) := by decide +kernel
theorem dM_curveOf_142 : decode kM_curveOf 142 = .ok (.goto 4, 3) := by decide +kernel
theorem dM_curveOf_145 : decode kM_curveOf 145 = .ok (.iconst 0, 1) := by decide +kernel
theorem dM_curveOf_146 : decode kM_curveOf 146 = .ok (.istore 7, 2) := by decide +kernel
theorem dM_curveOf_148 : decode kM_curveOf 148 = .ok (.iload 7, 2) := by decide +kernel
theorem dM_curveOf_150 : decode kM_curveOf 150 = .ok (.ifCond .eq 25, 3) := by decide +kernel
theorem dM_curveOf_153 : decode kM_curveOf 153 = .ok (.aload_n 0, 1) := by decide +kernel
theorem dM_curveOf_154 : decode kM_curveOf 154 = .ok (.aload_n 0, 1) := by decide +kernel
theorem dM_curveOf_155 : decode kM_curveOf 155 = .ok (.getfield 101, 3) := by decide +kernel
theorem dM_curveOf_158 : decode kM_curveOf 158 = .ok (.aload_n 0, 1) := by decide +kernel
theorem dM_curveOf_159 : decode kM_curveOf 159 = .ok (.getfield 104, 3) := by decide +kernel
theorem dM_curveOf_162 : decode kM_curveOf 162 = .ok (.bipush 9, 2) := by decide +kernel
theorem dM_curveOf_164 : decode kM_curveOf 164 = .ok (.iadd, 1) := by decide +kernel
theorem dM_curveOf_165 : decode kM_curveOf 165 = .ok (.iload 6, 2) := by decide +kernel
theorem dM_curveOf_167 : decode kM_curveOf 167 = .ok (.iadd, 1) := by decide +kernel
theorem dM_curveOf_168 : decode kM_curveOf 168 = .ok (.iaload, 1) := by decide +kernel
theorem dM_curveOf_169 : decode kM_curveOf 169 = .ok (.invokevirtual 336, 3) := by decide +kernel
theorem dM_curveOf_172 : decode kM_curveOf 172 = .ok (.goto 4, 3) := by decide +kernel
theorem dM_curveOf_175 : decode kM_curveOf 175 = .ok (.iconst 0, 1) := by decide +kernel
theorem dM_curveOf_176 : decode kM_curveOf 176 = .ok (.istore 8, 2) := by decide +kernel
theorem dM_curveOf_178 : decode kM_curveOf 178 = .ok (.iconst 0, 1) := by decide +kernel
theorem dM_curveOf_179 : decode kM_curveOf 179 = .ok (.istore 9, 2) := by decide +kernel
theorem dM_curveOf_181 : decode kM_curveOf 181 = .ok (.iload 9, 2) := by decide +kernel
theorem dM_curveOf_183 : decode kM_curveOf 183 = .ok (.aload_n 0, 1) := by decide +kernel
theorem dM_curveOf_184 : decode kM_curveOf 184 = .ok (.getfield 101, 3) := by decide +kernel
theorem dM_curveOf_187 : decode kM_curveOf 187 = .ok (.aload_n 0, 1) := by decide +kernel
theorem dM_curveOf_188 : decode kM_curveOf 188 = .ok (.getfield 104, 3) := by decide +kernel
theorem dM_curveOf_191 : decode kM_curveOf 191 = .ok (.iconst 5, 1) := by decide +kernel
theorem dM_curveOf_192 : decode kM_curveOf 192 = .ok (.iadd, 1) := by decide +kernel
theorem dM_curveOf_193 : decode kM_curveOf 193 = .ok (.iload 6, 2) := by decide +kernel
theorem dM_curveOf_195 : decode kM_curveOf 195 = .ok (.iadd, 1) := by decide +kernel
theorem dM_curveOf_196 : decode kM_curveOf 196 = .ok (.iaload, 1) := by decide +kernel
theorem dM_curveOf_197 : decode kM_curveOf 197 = .ok (.if_icmp .ge 88, 3) := by decide +kernel
theorem dM_curveOf_200 : decode kM_curveOf 200 = .ok (.iload 8, 2) := by decide +kernel
theorem dM_curveOf_202 : decode kM_curveOf 202 = .ok (.ifCond .lt 83, 3) := by decide +kernel
theorem dM_curveOf_205 : decode kM_curveOf 205 = .ok (.aload_n 0, 1) := by decide +kernel
theorem dM_curveOf_206 : decode kM_curveOf 206 = .ok (.getfield 101, 3) := by decide +kernel
theorem dM_curveOf_209 : decode kM_curveOf 209 = .ok (.aload_n 0, 1) := by decide +kernel
theorem dM_curveOf_210 : decode kM_curveOf 210 = .ok (.getfield 104, 3) := by decide +kernel
theorem dM_curveOf_213 : decode kM_curveOf 213 = .ok (.bipush 11, 2) := by decide +kernel
theorem dM_curveOf_215 : decode kM_curveOf 215 = .ok (.iadd, 1) := by decide +kernel
theorem dM_curveOf_216 : decode kM_curveOf 216 = .ok (.iconst 2, 1) := by decide +kernel
theorem dM_curveOf_217 : decode kM_curveOf 217 = .ok (.iload 6, 2) := by decide +kernel
theorem dM_curveOf_219 : decode kM_curveOf 219 = .ok (.imul, 1) := by decide +kernel
theorem dM_curveOf_220 : decode kM_curveOf 220 = .ok (.iadd, 1) := by decide +kernel
theorem dM_curveOf_221 : decode kM_curveOf 221 = .ok (.iload 7, 2) := by decide +kernel
theorem dM_curveOf_223 : decode kM_curveOf 223 = .ok (.ifCond .eq 10, 3) := by decide +kernel
theorem dM_curveOf_226 : decode kM_curveOf 226 = .ok (.iload 8, 2) := by decide +kernel
theorem dM_curveOf_228 : decode kM_curveOf 228 = .ok (.iconst 1, 1) := by decide +kernel
theorem dM_curveOf_229 : decode kM_curveOf 229 = .ok (.iand, 1) := by decide +kernel
theorem dM_curveOf_230 : decode kM_curveOf 230 = .ok (.goto 4, 3) := by decide +kernel
theorem dM_curveOf_233 : decode kM_curveOf 233 = .ok (.iconst 0, 1) := by decide +kernel
theorem dM_curveOf_234 : decode kM_curveOf 234 = .ok (.iadd, 1) := by decide +kernel
theorem dM_curveOf_235 : decode kM_curveOf 235 = .ok (.iaload, 1) := by decide +kernel
theorem dM_curveOf_236 : decode kM_curveOf 236 = .ok (.istore 10, 2) := by decide +kernel
theorem dM_curveOf_238 : decode kM_curveOf 238 = .ok (.iload 7, 2) := by decide +kernel
theorem dM_curveOf_240 : decode kM_curveOf 240 = .ok (.ifCond .eq 10, 3) := by decide +kernel
theorem dM_curveOf_243 : decode kM_curveOf 243 = .ok (.iload 8, 2) := by decide +kernel
theorem dM_curveOf_245 : decode kM_curveOf 245 = .ok (.iconst 1, 1) := by decide +kernel
theorem dM_curveOf_246 : decode kM_curveOf 246 = .ok (.ishr, 1) := by decide +kernel
theorem dM_curveOf_247 : decode kM_curveOf 247 = .ok (.goto 5, 3) := by decide +kernel
theorem dM_curveOf_250 : decode kM_curveOf 250 = .ok (.iload 8, 2) := by decide +kernel
theorem dM_curveOf_252 : decode kM_curveOf 252 = .ok (.istore 8, 2) := by decide +kernel
theorem dM_curveOf_254 : decode kM_curveOf 254 = .ok (.aload_n 0, 1) := by decide +kernel
theorem dM_curveOf_255 : decode kM_curveOf 255 = .ok (.getfield 117, 3) := by decide +kernel
theorem dM_curveOf_258 : decode kM_curveOf 258 = .ok (.iload 4, 2) := by decide +kernel
theorem dM_curveOf_260 : decode kM_curveOf 260 = .ok (.iload 10, 2) := by decide +kernel
theorem dM_curveOf_262 : decode kM_curveOf 262 = .ok (.ifCond .ge 7, 3) := by decide +kernel
theorem dM_curveOf_265 : decode kM_curveOf 265 = .ok (.iconst 0, 1) := by decide +kernel
theorem dM_curveOf_266 : decode kM_curveOf 266 = .ok (.goto 9, 3) := by decide +kernel
theorem dM_curveOf_269 : decode kM_curveOf 269 = .ok (.aload_n 0, 1) := by decide +kernel
theorem dM_curveOf_270 : decode kM_curveOf 270 = .ok (.iload 10, 2) := by decide +kernel
theorem dM_curveOf_272 : decode kM_curveOf 272 = .ok (.invokevirtual 336, 3) := by decide +kernel
theorem dM_curveOf_275 : decode kM_curveOf 275 = .ok (.iastore, 1) := by decide +kernel
theorem dM_curveOf_276 : decode kM_curveOf 276 = .ok (.iinc 4 1, 3) := by decide +kernel
theorem dM_curveOf_279 : decode kM_curveOf 279 = .ok (.iinc 9 1, 3) := by decide +kernel
theorem dM_curveOf_282 : decode kM_curveOf 282 = .ok (.goto (-101), 3) := by decide +kernel
theorem dM_curveOf_285 : decode kM_curveOf 285 = .ok (.iinc 5 1, 3) := by decide +kernel
theorem dM_curveOf_288 : decode kM_curveOf 288 = .ok (.goto (-198), 3) := by decide +kernel
theorem dM_curveOf_291 : decode kM_curveOf 291 = .ok (.aload_n 0, 1) := by decide +kernel
theorem dM_curveOf_292 : decode kM_curveOf 292 = .ok (.getfield 243, 3) := by decide +kernel
theorem dM_curveOf_295 : decode kM_curveOf 295 = .ok (.ifCond .eq 5, 3) := by decide +kernel
theorem dM_curveOf_298 : decode kM_curveOf 298 = .ok (.iconst 0, 1) := by decide +kernel
theorem dM_curveOf_299 : decode kM_curveOf 299 = .ok (.ireturn, 1) := by decide +kernel
theorem dM_curveOf_300 : decode kM_curveOf 300 = .ok (.aload_n 0, 1) := by decide +kernel
theorem dM_curveOf_301 : decode kM_curveOf 301 = .ok (.iload 4, 2) := by decide +kernel
theorem dM_curveOf_303 : decode kM_curveOf 303 = .ok (.invokevirtual 339, 3) := by decide +kernel
theorem dM_curveOf_306 : decode kM_curveOf 306 = .ok (.iconst 0, 1) := by decide +kernel
theorem dM_curveOf_307 : decode kM_curveOf 307 = .ok (.istore 5, 2) := by decide +kernel
theorem dM_curveOf_309 : decode kM_curveOf 309 = .ok (.iload 5, 2) := by decide +kernel
theorem dM_curveOf_311 : decode kM_curveOf 311 = .ok (.aload_n 0, 1) := by decide +kernel
theorem dM_curveOf_312 : decode kM_curveOf 312 = .ok (.getfield 312, 3) := by decide +kernel
theorem dM_curveOf_315 : decode kM_curveOf 315 = .ok (.iconst 2, 1) := by decide +kernel
theorem dM_curveOf_316 : decode kM_curveOf 316 = .ok (.idiv, 1) := by decide +kernel
theorem dM_curveOf_317 : decode kM_curveOf 317 = .ok (.if_icmp .ge 29, 3) := by decide +kernel
theorem dM_curveOf_320 : decode kM_curveOf 320 = .ok (.aload_n 0, 1) := by decide +kernel
theorem dM_curveOf_321 : decode kM_curveOf 321 = .ok (.getfield 111, 3) := by decide +kernel
theorem dM_curveOf_324 : decode kM_curveOf 324 = .ok (.bipush 32, 2) := by decide +kernel
theorem dM_curveOf_326 : decode kM_curveOf 326 = .ok (.iload_n 1, 1) := by decide +kernel
theorem dM_curveOf_327 : decode kM_curveOf 327 = .ok (.imul, 1) := by decide +kernel
theorem dM_curveOf_328 : decode kM_curveOf 328 = .ok (.iload 5, 2) := by decide +kernel
theorem dM_curveOf_330 : decode kM_curveOf 330 = .ok (.iadd, 1) := by decide +kernel
theorem dM_curveOf_331 : decode kM_curveOf 331 = .ok (.aload_n 0, 1) := by decide +kernel
theorem dM_curveOf_332 : decode kM_curveOf 332 = .ok (.iload 4, 2) := by decide +kernel
theorem dM_curveOf_334 : decode kM_curveOf 334 = .ok (.iload 5, 2) := by decide +kernel
theorem dM_curveOf_336 : decode kM_curveOf 336 = .ok (.invokevirtual 342, 3) := by decide +kernel
theorem dM_curveOf_339 : decode kM_curveOf 339 = .ok (.iastore, 1) := by decide +kernel
theorem dM_curveOf_340 : decode kM_curveOf 340 = .ok (.iinc 5 1, 3) := by decide +kernel
theorem dM_curveOf_343 : decode kM_curveOf 343 = .ok (.goto (-34), 3) := by decide +kernel
theorem dM_curveOf_346 : decode kM_curveOf 346 = .ok (.iconst 1, 1) := by decide +kernel
theorem dM_curveOf_347 : decode kM_curveOf 347 = .ok (.ireturn, 1) := by decide +kernel
def bl_M_curveOf_309 (θ : TH) (a0_309 : Nat) (x1_309 : Int32) (x4_309 : Int32) (K : Int32 → VT → UT → Prop) (kb309 : Int32 → VT → UT → Prop) (x5_309 : Int32) (V : VT) (U : UT) : Prop := isO θ a0_309 12 ∧ ¬ (2 : Int32) = 0 ∧ ((((V a0_309 57) / (2 : Int32)) ≤ x5_309 → K (1 : Int32) V U) ∧ (¬ ((V a0_309 57) / (2 : Int32)) ≤ x5_309 → (U a0_309 60) ≠ 0 ∧ wp_M_draw θ a0_309 x4_309 x5_309 V U (fun r_48 V_46 U_47 => ∃ n_49, isA θ (U a0_309 60) 0 n_49 ∧ vp_in (((32 : Int32) * x1_309) + x5_309) n_49 ∧ ∀ V_52 : VT, V_52 = up2 V_46 (U a0_309 60) (((32 : Int32) * x1_309) + x5_309).toNatClampNeg r_48 → ∀ y_53 : Int32, y_53 = x5_309 + (1 : Int32) → kb309 y_53 V_52 U_47)))
def wl_M_curveOf_309 (θ : TH) (a0_309 : Nat) (x1_309 : Int32) (x4_309 : Int32) (K : Int32 → VT → UT → Prop) : Nat → Int32 → VT → UT → Prop
  | 0, _, _, _ => False
  | n + 1, x5_309, V, U => bl_M_curveOf_309 θ a0_309 x1_309 x4_309 K (wl_M_curveOf_309 θ a0_309 x1_309 x4_309 K n) x5_309 V U
def wb_M_curveOf_252 (θ : TH) (a0_90 : Nat) (x1_90 : Int32) (x4_252 : Int32) (x5_181 : Int32) (x6_181 : Int32) (x7_181 : Int32) (x9_252 : Int32) (x10_252 : Int32) (z0_252 : Int32) (kb90 : Int32 → Int32 → VT → UT → Prop) (kb181 : Int32 → Int32 → Int32 → VT → UT → Prop) (K : Int32 → VT → UT → Prop) (V : VT) (U : UT) : Prop := isO θ a0_90 12 ∧ (U a0_90 62) ≠ 0 ∧ ((0 ≤ x10_252 → wp_M_pick θ a0_90 x10_252 V U (fun r_83 V_81 U_82 => ∃ n_84, isA θ (U a0_90 62) 0 n_84 ∧ vp_in x4_252 n_84 ∧ ∀ V_87 : VT, V_87 = up2 V_81 (U a0_90 62) x4_252.toNatClampNeg r_83 → ∀ y_88 : Int32, y_88 = x4_252 + (1 : Int32) → ∀ y_89 : Int32, y_89 = x9_252 + (1 : Int32) → kb181 y_88 z0_252 y_89 V_87 U_82)) ∧ (¬ 0 ≤ x10_252 → ∃ n_90, isA θ (U a0_90 62) 0 n_90 ∧ vp_in x4_252 n_90 ∧ ∀ V_93 : VT, V_93 = up2 V (U a0_90 62) x4_252.toNatClampNeg (0 : Int32) → ∀ y_94 : Int32, y_94 = x4_252 + (1 : Int32) → ∀ y_95 : Int32, y_95 = x9_252 + (1 : Int32) → kb181 y_94 z0_252 y_95 V_93 U))
def wb_M_curveOf_234 (θ : TH) (a0_90 : Nat) (x1_90 : Int32) (x4_234 : Int32) (x5_181 : Int32) (x6_181 : Int32) (x7_181 : Int32) (x8_234 : Int32) (x9_234 : Int32) (z0_234 : Int32) (z1_234 : Int32) (z2_234 : Nat) (kb90 : Int32 → Int32 → VT → UT → Prop) (kb181 : Int32 → Int32 → Int32 → VT → UT → Prop) (K : Int32 → VT → UT → Prop) (V : VT) (U : UT) : Prop := ∃ n_73, isA θ z2_234 0 n_73 ∧ vp_in (z1_234 + z0_234) n_73 ∧ ∀ y_76 : Int32, y_76 = (V z2_234 (z1_234 + z0_234).toNatClampNeg) → ((x7_181 = 0 → wb_M_curveOf_252 θ a0_90 x1_90 x4_234 x5_181 x6_181 x7_181 x9_234 y_76 x8_234 kb90 kb181 K V U) ∧ (¬ x7_181 = 0 → wb_M_curveOf_252 θ a0_90 x1_90 x4_234 x5_181 x6_181 x7_181 x9_234 y_76 (x8_234 >>> ((1 : Int32) &&& 31)) kb90 kb181 K V U))
def bl_M_curveOf_181 (θ : TH) (a0_90 : Nat) (x1_90 : Int32) (x5_181 : Int32) (x6_181 : Int32) (x7_181 : Int32) (kb90 : Int32 → Int32 → VT → UT → Prop) (K : Int32 → VT → UT → Prop) (kb181 : Int32 → Int32 → Int32 → VT → UT → Prop) (x4_181 : Int32) (x8_181 : Int32) (x9_181 : Int32) (V : VT) (U : UT) : Prop := isO θ a0_90 12 ∧ (U a0_90 52) ≠ 0 ∧ ∃ n_65, isA θ (U a0_90 52) 0 n_65 ∧ vp_in (((V a0_90 53) + (5 : Int32)) + x6_181) n_65 ∧ (((V (U a0_90 52) (((V a0_90 53) + (5 : Int32)) + x6_181).toNatClampNeg) ≤ x9_181 → ∀ y_69 : Int32, y_69 = x5_181 + (1 : Int32) → kb90 x4_181 y_69 V U) ∧ (¬ (V (U a0_90 52) (((V a0_90 53) + (5 : Int32)) + x6_181).toNatClampNeg) ≤ x9_181 → ((x8_181 < 0 → ∀ y_71 : Int32, y_71 = x5_181 + (1 : Int32) → kb90 x4_181 y_71 V U) ∧ (¬ x8_181 < 0 → ((x7_181 = 0 → wb_M_curveOf_234 θ a0_90 x1_90 x4_181 x5_181 x6_181 x7_181 x8_181 x9_181 (0 : Int32) (((V a0_90 53) + (11 : Int32)) + ((2 : Int32) * x6_181)) (U a0_90 52) kb90 kb181 K V U) ∧ (¬ x7_181 = 0 → wb_M_curveOf_234 θ a0_90 x1_90 x4_181 x5_181 x6_181 x7_181 x8_181 x9_181 (x8_181 &&& (1 : Int32)) (((V a0_90 53) + (11 : Int32)) + ((2 : Int32) * x6_181)) (U a0_90 52) kb90 kb181 K V U))))))
def wl_M_curveOf_181 (θ : TH) (a0_90 : Nat) (x1_90 : Int32) (x5_181 : Int32) (x6_181 : Int32) (x7_181 : Int32) (kb90 : Int32 → Int32 → VT → UT → Prop) (K : Int32 → VT → UT → Prop) : Nat → Int32 → Int32 → Int32 → VT → UT → Prop
  | 0, _, _, _, _, _ => False
  | n + 1, x4_181, x8_181, x9_181, V, U => bl_M_curveOf_181 θ a0_90 x1_90 x5_181 x6_181 x7_181 kb90 K (wl_M_curveOf_181 θ a0_90 x1_90 x5_181 x6_181 x7_181 kb90 K n) x4_181 x8_181 x9_181 V U
def wb_M_curveOf_146 (θ : TH) (a0_90 : Nat) (x1_90 : Int32) (x4_146 : Int32) (x5_146 : Int32) (x6_146 : Int32) (z0_146 : Int32) (kb90 : Int32 → Int32 → VT → UT → Prop) (K : Int32 → VT → UT → Prop) (V : VT) (U : UT) : Prop := ((z0_146 = 0 → ∃ n, wl_M_curveOf_181 θ a0_90 x1_90 x5_146 x6_146 z0_146 kb90 K n x4_146 (0 : Int32) (0 : Int32) V U) ∧ (¬ z0_146 = 0 → isO θ a0_90 12 ∧ (U a0_90 52) ≠ 0 ∧ ∃ n_57, isA θ (U a0_90 52) 0 n_57 ∧ vp_in (((V a0_90 53) + (9 : Int32)) + x6_146) n_57 ∧ wp_M_pick θ a0_90 (V (U a0_90 52) (((V a0_90 53) + (9 : Int32)) + x6_146).toNatClampNeg) V U (fun r_62 V_60 U_61 => ∃ n, wl_M_curveOf_181 θ a0_90 x1_90 x5_146 x6_146 z0_146 kb90 K n x4_146 r_62 (0 : Int32) V_60 U_61)))
def bl_M_curveOf_90 (θ : TH) (a0_90 : Nat) (x1_90 : Int32) (K : Int32 → VT → UT → Prop) (kb90 : Int32 → Int32 → VT → UT → Prop) (x4_90 : Int32) (x5_90 : Int32) (V : VT) (U : UT) : Prop := isO θ a0_90 12 ∧ (U a0_90 52) ≠ 0 ∧ ∃ n_31, isA θ (U a0_90 52) 0 n_31 ∧ vp_in ((V a0_90 53) + (1 : Int32)) n_31 ∧ (((V (U a0_90 52) ((V a0_90 53) + (1 : Int32)).toNatClampNeg) ≤ x5_90 → (((V a0_90 40) = 0 → wp_M_heights θ a0_90 x4_90 V U (fun V_36 U_37 => ∃ n, wl_M_curveOf_309 θ a0_90 x1_90 x4_90 K n (0 : Int32) V_36 U_37)) ∧ (¬ (V a0_90 40) = 0 → K (0 : Int32) V U))) ∧ (¬ (V (U a0_90 52) ((V a0_90 53) + (1 : Int32)).toNatClampNeg) ≤ x5_90 → vp_in (((V a0_90 53) + (2 : Int32)) + x5_90) n_31 ∧ ∀ y_39 : Int32, y_39 = (V (U a0_90 52) (((V a0_90 53) + (2 : Int32)) + x5_90).toNatClampNeg) → vp_in (((V a0_90 53) + (7 : Int32)) + y_39) n_31 ∧ ((¬ (V (U a0_90 52) (((V a0_90 53) + (7 : Int32)) + y_39).toNatClampNeg) = (1 : Int32) → wb_M_curveOf_146 θ a0_90 x1_90 x4_90 x5_90 y_39 (0 : Int32) kb90 K V U) ∧ ((V (U a0_90 52) (((V a0_90 53) + (7 : Int32)) + y_39).toNatClampNeg) = (1 : Int32) → wb_M_curveOf_146 θ a0_90 x1_90 x4_90 x5_90 y_39 (1 : Int32) kb90 K V U))))
def wl_M_curveOf_90 (θ : TH) (a0_90 : Nat) (x1_90 : Int32) (K : Int32 → VT → UT → Prop) : Nat → Int32 → Int32 → VT → UT → Prop
  | 0, _, _, _, _ => False
  | n + 1, x4_90, x5_90, V, U => bl_M_curveOf_90 θ a0_90 x1_90 K (wl_M_curveOf_90 θ a0_90 x1_90 K n) x4_90 x5_90 V U
def bl_M_curveOf_46 (θ : TH) (a0_46 : Nat) (x1_46 : Int32) (x2_46 : Int32) (x3_46 : Int32) (K : Int32 → VT → UT → Prop) (kb46 : Int32 → VT → UT → Prop) (x4_46 : Int32) (V : VT) (U : UT) : Prop := (((2 : Int32) ≤ x4_46 → ∃ n, wl_M_curveOf_90 θ a0_46 x1_46 K n (2 : Int32) (0 : Int32) V U) ∧ (¬ (2 : Int32) ≤ x4_46 → isO θ a0_46 12 ∧ wp_M_read θ a0_46 x3_46 V U (fun r_16 V_13 U_14 => (U_14 a0_46 62) ≠ 0 ∧ ((r_16 ≤ x2_46 → ∃ n_19, isA θ (U_14 a0_46 62) 0 n_19 ∧ vp_in x4_46 n_19 ∧ ∀ V_22 : VT, V_22 = up2 V_13 (U_14 a0_46 62) x4_46.toNatClampNeg r_16 → ∀ y_23 : Int32, y_23 = x4_46 + (1 : Int32) → kb46 y_23 V_22 U_14) ∧ (¬ r_16 ≤ x2_46 → ∃ n_24, isA θ (U_14 a0_46 62) 0 n_24 ∧ vp_in x4_46 n_24 ∧ ∀ V_27 : VT, V_27 = up2 V_13 (U_14 a0_46 62) x4_46.toNatClampNeg x2_46 → ∀ y_28 : Int32, y_28 = x4_46 + (1 : Int32) → kb46 y_28 V_27 U_14)))))
def wl_M_curveOf_46 (θ : TH) (a0_46 : Nat) (x1_46 : Int32) (x2_46 : Int32) (x3_46 : Int32) (K : Int32 → VT → UT → Prop) : Nat → Int32 → VT → UT → Prop
  | 0, _, _, _ => False
  | n + 1, x4_46, V, U => bl_M_curveOf_46 θ a0_46 x1_46 x2_46 x3_46 K (wl_M_curveOf_46 θ a0_46 x1_46 x2_46 x3_46 K n) x4_46 V U
def wp_M_curveOf (θ : TH) (a0 : Nat) (x1 : Int32) (V : VT) (U : UT) (K : Int32 → VT → UT → Prop) : Prop := isO θ a0 12 ∧ wp_M_read θ a0 (1 : Int32) V U (fun r_4 V_1 U_2 => ((¬ r_4 = 0 → wp_M_range θ a0 (V_1 a0 53) V_1 U_2 (fun r_8 V_6 U_7 => ∀ y_9 : Int32, y_9 = (r_8 - (1 : Int32)) → ((¬ y_9 = (31 : Int32) → ((¬ y_9 = (7 : Int32) → ∃ n, wl_M_curveOf_46 θ a0 x1 y_9 (4 : Int32) K n (0 : Int32) V_6 U_7) ∧ (y_9 = (7 : Int32) → ∃ n, wl_M_curveOf_46 θ a0 x1 y_9 (3 : Int32) K n (0 : Int32) V_6 U_7))) ∧ (y_9 = (31 : Int32) → ∃ n, wl_M_curveOf_46 θ a0 x1 y_9 (5 : Int32) K n (0 : Int32) V_6 U_7)))) ∧ (r_4 = 0 → K (0 : Int32) V_1 U_2)))
set_option maxRecDepth 100000 in
set_option maxHeartbeats 4000000 in
theorem c_M_curveOf (l : Launch) (θ : TH) (a0 : Nat) (x1 : Int32) (V : VT) (U : UT) (K : Int32 → VT → UT → Prop) (hw : wp_M_curveOf θ a0 x1 V U K) : CMi l yM_curveOf kM_curveOf 11 (some .boolean) rmM_curveOf θ [.ref a0, .int x1] V U K := by
  refine g_met nRM (by decide +kernel) rfl (Nat.le_of_ble_eq_true rfl) (fun p e s m args below meth c ls hC hr hlk hwo hl => ?_)
  have hx := hC.1
  have hb := hC.2.1
  have hS : Sx θ s s.heap [] := va_S.rf
  have hl : lv_has ls 11 [(0, .ref a0), (1, .int x1)] := hl
  have L309 : ∀ (a0_309 : Nat) (x1_309 : Int32) (x4_309 : Int32) (n309 : Nat) (x5_309 : Int32) (V : VT) (U : UT) (H : Heap) (locs : List Loc) (ls : Array Slot), wl_M_curveOf_309 θ a0_309 x1_309 x4_309 K n309 x5_309 V U → wo θ V U H → Sx θ s H locs → lv_has ls 11 [(0, .ref a0_309), (1, .int x1_309), (4, .int x4_309), (5, .int x5_309)] → W p l e rmM_curveOf s m args below meth c H locs 0 0 (MQ below (QI θ K) args s 0 0 (aT θ)) (F0 m 309 ls []) := by
    intro a0_309 x1_309 x4_309 n309
    induction n309 with
    | zero => intro x5_309 V U H locs ls hw hwo hS hl; exact (show False from hw).elim
    | succ n309 ih309 =>
      intro x5_309 V U H locs ls hw hwo hS hl
      replace hw : bl_M_curveOf_309 θ a0_309 x1_309 x4_309 K (wl_M_curveOf_309 θ a0_309 x1_309 x4_309 K n309) x5_309 V U := hw
      unfold bl_M_curveOf_309 at hw
      refine lv_iload hx hb dM_curveOf_309 (lv_at hl 3 rfl) ?_
      refine lv_aload_n hx hb dM_curveOf_311 rfl (lv_at hl 0 rfl) ?_
      obtain ⟨ho_42, hw⟩ := hw
      refine g_getI hC fkM_312 rfl hwo ho_42 dM_curveOf_312 ?_
      refine lv_iconst (v := 2) hx hb dM_curveOf_315 (by decide) ?_
      obtain ⟨hd_43, hw⟩ := hw
      refine lv_idiv hx hb dM_curveOf_316 hd_43 ?_
      refine lv_icmp_ge (tgt := 346) hx hb dM_curveOf_317 (by decide) (fun hc_44 => ?_) (fun hc_44 => ?_)
      · replace hw := hw.1 hc_44
        refine lv_iconst (v := 1) hx hb dM_curveOf_346 (by decide) ?_
        exact g_zret hC hr hlk (Or.inr rfl) hw hwo hS dM_curveOf_347
      · replace hw := hw.2 hc_44
        refine lv_aload_n hx hb dM_curveOf_320 rfl (lv_at hl 0 rfl) ?_
        obtain ⟨hz_45, hw⟩ := hw
        refine g_getR hC fkM_111 rfl hwo ho_42 hz_45 dM_curveOf_321 ?_
        refine lv_bipush (v := 32) hx hb dM_curveOf_324 (by decide) ?_
        refine lv_iload_n hx hb dM_curveOf_326 rfl (lv_at hl 1 rfl) ?_
        refine lv_imul hx hb dM_curveOf_327 ?_
        refine lv_iload hx hb dM_curveOf_328 (lv_at hl 3 rfl) ?_
        refine lv_iadd hx hb dM_curveOf_330 ?_
        refine lv_aload_n hx hb dM_curveOf_331 rfl (lv_at hl 0 rfl) ?_
        refine lv_iload hx hb dM_curveOf_332 (lv_at hl 2 rfl) ?_
        refine lv_iload hx hb dM_curveOf_334 (lv_at hl 3 rfl) ?_
        refine g_Vi (rest := [.int (((32 : Int32) * x1_309) + x5_309), .ref (U a0_309 60)]) hC (c_M_draw l θ _ _ _ _ _ _ hw) mi_M_draw mlM_342 mv_M_draw ci_12 ho_42 hwo hS ⟨rfl, rfl⟩ ⟨by decide, by decide⟩ rfl hl.1 rfl (Nat.le_of_ble_eq_true rfl) dM_curveOf_336 (fun r_48 V_46 U_47 hw H locs hwo hS => ?_)
        obtain ⟨n_49, ha_50, hw⟩ := hw
        obtain ⟨hi_51, hw⟩ := hw
        refine g_iast hC hwo hS ha_50 hi_51 dM_curveOf_339 (fun V_52 eV_52 H locs hwo hS => ?_)
        replace hw := hw V_52 eV_52
        obtain ⟨y_53, ey_53⟩ : ∃ z : Int32, z = x5_309 + (1 : Int32) := ⟨_, rfl⟩
        replace hw := hw y_53 ey_53
        refine lv_iinc (k := 3) (v := y_53) (lv' := [(5, .int y_53), (0, .ref a0_309), (1, .int x1_309), (4, .int x4_309)]) hx hb dM_curveOf_340 hl rfl (by rw [ey_53]; rfl) (by decide) rfl (fun ls hl => ?_)
        refine lv_goto (tgt := 309) hx hb dM_curveOf_343 (by decide) ?_
        exact ih309 _ _ _ _ _ _ hw hwo hS (lv_sub hl [1, 2, 3, 0] rfl)
  have L90 : ∀ (a0_90 : Nat) (x1_90 : Int32) (n90 : Nat) (x4_90 : Int32) (x5_90 : Int32) (V : VT) (U : UT) (H : Heap) (locs : List Loc) (ls : Array Slot), wl_M_curveOf_90 θ a0_90 x1_90 K n90 x4_90 x5_90 V U → wo θ V U H → Sx θ s H locs → lv_has ls 11 [(0, .ref a0_90), (1, .int x1_90), (4, .int x4_90), (5, .int x5_90)] → W p l e rmM_curveOf s m args below meth c H locs 0 0 (MQ below (QI θ K) args s 0 0 (aT θ)) (F0 m 90 ls []) := by
    intro a0_90 x1_90 n90
    induction n90 with
    | zero => intro x4_90 x5_90 V U H locs ls hw hwo hS hl; exact (show False from hw).elim
    | succ n90 ih90 =>
      have L181 : ∀ (x5_181 : Int32) (x6_181 : Int32) (x7_181 : Int32) (n181 : Nat) (x4_181 : Int32) (x8_181 : Int32) (x9_181 : Int32) (V : VT) (U : UT) (H : Heap) (locs : List Loc) (ls : Array Slot), wl_M_curveOf_181 θ a0_90 x1_90 x5_181 x6_181 x7_181 (wl_M_curveOf_90 θ a0_90 x1_90 K n90) K n181 x4_181 x8_181 x9_181 V U → wo θ V U H → Sx θ s H locs → lv_has ls 11 [(0, .ref a0_90), (1, .int x1_90), (4, .int x4_181), (5, .int x5_181), (6, .int x6_181), (7, .int x7_181), (8, .int x8_181), (9, .int x9_181)] → W p l e rmM_curveOf s m args below meth c H locs 0 0 (MQ below (QI θ K) args s 0 0 (aT θ)) (F0 m 181 ls []) := by
        intro x5_181 x6_181 x7_181 n181
        induction n181 with
        | zero => intro x4_181 x8_181 x9_181 V U H locs ls hw hwo hS hl; exact (show False from hw).elim
        | succ n181 ih181 =>
          have J252 : ∀ (x4_252 : Int32) (x9_252 : Int32) (x10_252 : Int32) (z0_252 : Int32) (V : VT) (U : UT) (H : Heap) (locs : List Loc) (ls : Array Slot), wb_M_curveOf_252 θ a0_90 x1_90 x4_252 x5_181 x6_181 x7_181 x9_252 x10_252 z0_252 (wl_M_curveOf_90 θ a0_90 x1_90 K n90) (wl_M_curveOf_181 θ a0_90 x1_90 x5_181 x6_181 x7_181 (wl_M_curveOf_90 θ a0_90 x1_90 K n90) K n181) K V U → wo θ V U H → Sx θ s H locs → lv_has ls 11 [(0, .ref a0_90), (1, .int x1_90), (4, .int x4_252), (5, .int x5_181), (6, .int x6_181), (7, .int x7_181), (9, .int x9_252), (10, .int x10_252)] → W p l e rmM_curveOf s m args below meth c H locs 0 0 (MQ below (QI θ K) args s 0 0 (aT θ)) (F0 m 252 ls [.int z0_252]) := by
            intro x4_252 x9_252 x10_252 z0_252 V U H locs ls hw hwo hS hl
            unfold wb_M_curveOf_252 at hw
            refine lv_istore (i := 8) (lv' := [(8, .int z0_252), (0, .ref a0_90), (1, .int x1_90), (4, .int x4_252), (5, .int x5_181), (6, .int x6_181), (7, .int x7_181), (9, .int x9_252), (10, .int x10_252)]) hx hb dM_curveOf_252 hl (by decide) rfl (fun ls hl => ?_)
            refine lv_aload_n hx hb dM_curveOf_254 rfl (lv_at hl 1 rfl) ?_
            obtain ⟨ho_78, hw⟩ := hw
            obtain ⟨hz_79, hw⟩ := hw
            refine g_getR hC fkM_117 rfl hwo ho_78 hz_79 dM_curveOf_255 ?_
            refine lv_iload hx hb dM_curveOf_258 (lv_at hl 3 rfl) ?_
            refine lv_iload hx hb dM_curveOf_260 (lv_at hl 8 rfl) ?_
            refine lv_if_ge (tgt := 269) hx hb dM_curveOf_262 (by decide) (fun hc_80 => ?_) (fun hc_80 => ?_)
            · replace hw := hw.1 hc_80
              refine lv_aload_n hx hb dM_curveOf_269 rfl (lv_at hl 1 rfl) ?_
              refine lv_iload hx hb dM_curveOf_270 (lv_at hl 8 rfl) ?_
              refine g_Vi (rest := [.int x4_252, .ref (U a0_90 62)]) hC (c_M_pick l θ _ _ _ _ _ hw) mi_M_pick mlM_336 mv_M_pick ci_12 ho_78 hwo hS ⟨rfl, rfl⟩ ⟨by decide, by decide⟩ rfl hl.1 rfl (Nat.le_of_ble_eq_true rfl) dM_curveOf_272 (fun r_83 V_81 U_82 hw H locs hwo hS => ?_)
              obtain ⟨n_84, ha_85, hw⟩ := hw
              obtain ⟨hi_86, hw⟩ := hw
              refine g_iast hC hwo hS ha_85 hi_86 dM_curveOf_275 (fun V_87 eV_87 H locs hwo hS => ?_)
              replace hw := hw V_87 eV_87
              obtain ⟨y_88, ey_88⟩ : ∃ z : Int32, z = x4_252 + (1 : Int32) := ⟨_, rfl⟩
              replace hw := hw y_88 ey_88
              refine lv_iinc (k := 3) (v := y_88) (lv' := [(4, .int y_88), (8, .int z0_252), (0, .ref a0_90), (1, .int x1_90), (5, .int x5_181), (6, .int x6_181), (7, .int x7_181), (9, .int x9_252), (10, .int x10_252)]) hx hb dM_curveOf_276 hl rfl (by rw [ey_88]; rfl) (by decide) rfl (fun ls hl => ?_)
              obtain ⟨y_89, ey_89⟩ : ∃ z : Int32, z = x9_252 + (1 : Int32) := ⟨_, rfl⟩
              replace hw := hw y_89 ey_89
              refine lv_iinc (k := 7) (v := y_89) (lv' := [(9, .int y_89), (4, .int y_88), (8, .int z0_252), (0, .ref a0_90), (1, .int x1_90), (5, .int x5_181), (6, .int x6_181), (7, .int x7_181), (10, .int x10_252)]) hx hb dM_curveOf_279 hl rfl (by rw [ey_89]; rfl) (by decide) rfl (fun ls hl => ?_)
              refine lv_goto (tgt := 181) hx hb dM_curveOf_282 (by decide) ?_
              exact ih181 _ _ _ _ _ _ _ _ hw hwo hS (lv_sub hl [3, 4, 1, 5, 6, 7, 2, 0] rfl)
            · replace hw := hw.2 hc_80
              refine lv_iconst (v := 0) hx hb dM_curveOf_265 (by decide) ?_
              refine lv_goto (tgt := 275) hx hb dM_curveOf_266 (by decide) ?_
              obtain ⟨n_90, ha_91, hw⟩ := hw
              obtain ⟨hi_92, hw⟩ := hw
              refine g_iast hC hwo hS ha_91 hi_92 dM_curveOf_275 (fun V_93 eV_93 H locs hwo hS => ?_)
              replace hw := hw V_93 eV_93
              obtain ⟨y_94, ey_94⟩ : ∃ z : Int32, z = x4_252 + (1 : Int32) := ⟨_, rfl⟩
              replace hw := hw y_94 ey_94
              refine lv_iinc (k := 3) (v := y_94) (lv' := [(4, .int y_94), (8, .int z0_252), (0, .ref a0_90), (1, .int x1_90), (5, .int x5_181), (6, .int x6_181), (7, .int x7_181), (9, .int x9_252), (10, .int x10_252)]) hx hb dM_curveOf_276 hl rfl (by rw [ey_94]; rfl) (by decide) rfl (fun ls hl => ?_)
              obtain ⟨y_95, ey_95⟩ : ∃ z : Int32, z = x9_252 + (1 : Int32) := ⟨_, rfl⟩
              replace hw := hw y_95 ey_95
              refine lv_iinc (k := 7) (v := y_95) (lv' := [(9, .int y_95), (4, .int y_94), (8, .int z0_252), (0, .ref a0_90), (1, .int x1_90), (5, .int x5_181), (6, .int x6_181), (7, .int x7_181), (10, .int x10_252)]) hx hb dM_curveOf_279 hl rfl (by rw [ey_95]; rfl) (by decide) rfl (fun ls hl => ?_)
              refine lv_goto (tgt := 181) hx hb dM_curveOf_282 (by decide) ?_
              exact ih181 _ _ _ _ _ _ _ _ hw hwo hS (lv_sub hl [3, 4, 1, 5, 6, 7, 2, 0] rfl)
          have J234 : ∀ (x4_234 : Int32) (x8_234 : Int32) (x9_234 : Int32) (z0_234 : Int32) (z1_234 : Int32) (z2_234 : Nat) (V : VT) (U : UT) (H : Heap) (locs : List Loc) (ls : Array Slot), wb_M_curveOf_234 θ a0_90 x1_90 x4_234 x5_181 x6_181 x7_181 x8_234 x9_234 z0_234 z1_234 z2_234 (wl_M_curveOf_90 θ a0_90 x1_90 K n90) (wl_M_curveOf_181 θ a0_90 x1_90 x5_181 x6_181 x7_181 (wl_M_curveOf_90 θ a0_90 x1_90 K n90) K n181) K V U → wo θ V U H → Sx θ s H locs → lv_has ls 11 [(0, .ref a0_90), (1, .int x1_90), (4, .int x4_234), (5, .int x5_181), (6, .int x6_181), (7, .int x7_181), (8, .int x8_234), (9, .int x9_234)] → W p l e rmM_curveOf s m args below meth c H locs 0 0 (MQ below (QI θ K) args s 0 0 (aT θ)) (F0 m 234 ls [.int z0_234, .int z1_234, .ref z2_234]) := by
            intro x4_234 x8_234 x9_234 z0_234 z1_234 z2_234 V U H locs ls hw hwo hS hl
            unfold wb_M_curveOf_234 at hw
            refine lv_iadd hx hb dM_curveOf_234 ?_
            obtain ⟨n_73, ha_74, hw⟩ := hw
            obtain ⟨hi_75, hw⟩ := hw
            refine g_iald hC hwo ha_74 hi_75 dM_curveOf_235 ?_
            refine lv_topi (fun y_76 ey_76 => ?_)
            replace hw := hw y_76 ey_76
            refine lv_istore (i := 10) (lv' := [(10, .int y_76), (0, .ref a0_90), (1, .int x1_90), (4, .int x4_234), (5, .int x5_181), (6, .int x6_181), (7, .int x7_181), (8, .int x8_234), (9, .int x9_234)]) hx hb dM_curveOf_236 hl (by decide) rfl (fun ls hl => ?_)
            refine lv_iload hx hb dM_curveOf_238 (lv_at hl 6 rfl) ?_
            refine lv_if_eq (tgt := 250) hx hb dM_curveOf_240 (by decide) (fun hc_77 => ?_) (fun hc_77 => ?_)
            · replace hw := hw.1 hc_77
              refine lv_iload hx hb dM_curveOf_250 (lv_at hl 7 rfl) ?_
              exact J252 _ _ _ _ _ _ _ _ _ hw hwo hS (lv_sub hl [1, 2, 3, 4, 5, 6, 8, 0] rfl)
            · replace hw := hw.2 hc_77
              refine lv_iload hx hb dM_curveOf_243 (lv_at hl 7 rfl) ?_
              refine lv_iconst (v := 1) hx hb dM_curveOf_245 (by decide) ?_
              refine lv_ishr hx hb dM_curveOf_246 ?_
              refine lv_goto (tgt := 252) hx hb dM_curveOf_247 (by decide) ?_
              exact J252 _ _ _ _ _ _ _ _ _ hw hwo hS (lv_sub hl [1, 2, 3, 4, 5, 6, 8, 0] rfl)
          intro x4_181 x8_181 x9_181 V U H locs ls hw hwo hS hl
          replace hw : bl_M_curveOf_181 θ a0_90 x1_90 x5_181 x6_181 x7_181 (wl_M_curveOf_90 θ a0_90 x1_90 K n90) K (wl_M_curveOf_181 θ a0_90 x1_90 x5_181 x6_181 x7_181 (wl_M_curveOf_90 θ a0_90 x1_90 K n90) K n181) x4_181 x8_181 x9_181 V U := hw
          unfold bl_M_curveOf_181 at hw
          refine lv_iload hx hb dM_curveOf_181 (lv_at hl 7 rfl) ?_
          refine lv_aload_n hx hb dM_curveOf_183 rfl (lv_at hl 0 rfl) ?_
          obtain ⟨ho_63, hw⟩ := hw
          obtain ⟨hz_64, hw⟩ := hw
          refine g_getR hC fkM_101 rfl hwo ho_63 hz_64 dM_curveOf_184 ?_
          refine lv_aload_n hx hb dM_curveOf_187 rfl (lv_at hl 0 rfl) ?_
          refine g_getI hC fkM_104 rfl hwo ho_63 dM_curveOf_188 ?_
          refine lv_iconst (v := 5) hx hb dM_curveOf_191 (by decide) ?_
          refine lv_iadd hx hb dM_curveOf_192 ?_
          refine lv_iload hx hb dM_curveOf_193 (lv_at hl 4 rfl) ?_
          refine lv_iadd hx hb dM_curveOf_195 ?_
          obtain ⟨n_65, ha_66, hw⟩ := hw
          obtain ⟨hi_67, hw⟩ := hw
          refine g_iald hC hwo ha_66 hi_67 dM_curveOf_196 ?_
          refine lv_icmp_ge (tgt := 285) hx hb dM_curveOf_197 (by decide) (fun hc_68 => ?_) (fun hc_68 => ?_)
          · replace hw := hw.1 hc_68
            obtain ⟨y_69, ey_69⟩ : ∃ z : Int32, z = x5_181 + (1 : Int32) := ⟨_, rfl⟩
            replace hw := hw y_69 ey_69
            refine lv_iinc (k := 3) (v := y_69) (lv' := [(5, .int y_69), (0, .ref a0_90), (1, .int x1_90), (4, .int x4_181), (6, .int x6_181), (7, .int x7_181), (8, .int x8_181), (9, .int x9_181)]) hx hb dM_curveOf_285 hl rfl (by rw [ey_69]; rfl) (by decide) rfl (fun ls hl => ?_)
            refine lv_goto (tgt := 90) hx hb dM_curveOf_288 (by decide) ?_
            exact ih90 _ _ _ _ _ _ _ hw hwo hS (lv_sub hl [1, 2, 3, 0] rfl)
          · replace hw := hw.2 hc_68
            refine lv_iload hx hb dM_curveOf_200 (lv_at hl 6 rfl) ?_
            refine lv_if_lt (tgt := 285) hx hb dM_curveOf_202 (by decide) (fun hc_70 => ?_) (fun hc_70 => ?_)
            · replace hw := hw.1 hc_70
              obtain ⟨y_71, ey_71⟩ : ∃ z : Int32, z = x5_181 + (1 : Int32) := ⟨_, rfl⟩
              replace hw := hw y_71 ey_71
              refine lv_iinc (k := 3) (v := y_71) (lv' := [(5, .int y_71), (0, .ref a0_90), (1, .int x1_90), (4, .int x4_181), (6, .int x6_181), (7, .int x7_181), (8, .int x8_181), (9, .int x9_181)]) hx hb dM_curveOf_285 hl rfl (by rw [ey_71]; rfl) (by decide) rfl (fun ls hl => ?_)
              refine lv_goto (tgt := 90) hx hb dM_curveOf_288 (by decide) ?_
              exact ih90 _ _ _ _ _ _ _ hw hwo hS (lv_sub hl [1, 2, 3, 0] rfl)
            · replace hw := hw.2 hc_70
              refine lv_aload_n hx hb dM_curveOf_205 rfl (lv_at hl 0 rfl) ?_
              refine g_getR hC fkM_101 rfl hwo ho_63 hz_64 dM_curveOf_206 ?_
              refine lv_aload_n hx hb dM_curveOf_209 rfl (lv_at hl 0 rfl) ?_
              refine g_getI hC fkM_104 rfl hwo ho_63 dM_curveOf_210 ?_
              refine lv_bipush (v := 11) hx hb dM_curveOf_213 (by decide) ?_
              refine lv_iadd hx hb dM_curveOf_215 ?_
              refine lv_iconst (v := 2) hx hb dM_curveOf_216 (by decide) ?_
              refine lv_iload hx hb dM_curveOf_217 (lv_at hl 4 rfl) ?_
              refine lv_imul hx hb dM_curveOf_219 ?_
              refine lv_iadd hx hb dM_curveOf_220 ?_
              refine lv_iload hx hb dM_curveOf_221 (lv_at hl 5 rfl) ?_
              refine lv_if_eq (tgt := 233) hx hb dM_curveOf_223 (by decide) (fun hc_72 => ?_) (fun hc_72 => ?_)
              · replace hw := hw.1 hc_72
                refine lv_iconst (v := 0) hx hb dM_curveOf_233 (by decide) ?_
                exact J234 _ _ _ _ _ _ _ _ _ _ _ hw hwo hS (lv_sub hl [0, 1, 2, 3, 4, 5, 6, 7] rfl)
              · replace hw := hw.2 hc_72
                refine lv_iload hx hb dM_curveOf_226 (lv_at hl 6 rfl) ?_
                refine lv_iconst (v := 1) hx hb dM_curveOf_228 (by decide) ?_
                refine lv_iand hx hb dM_curveOf_229 ?_
                refine lv_goto (tgt := 234) hx hb dM_curveOf_230 (by decide) ?_
                exact J234 _ _ _ _ _ _ _ _ _ _ _ hw hwo hS (lv_sub hl [0, 1, 2, 3, 4, 5, 6, 7] rfl)
      have J146 : ∀ (x4_146 : Int32) (x5_146 : Int32) (x6_146 : Int32) (z0_146 : Int32) (V : VT) (U : UT) (H : Heap) (locs : List Loc) (ls : Array Slot), wb_M_curveOf_146 θ a0_90 x1_90 x4_146 x5_146 x6_146 z0_146 (wl_M_curveOf_90 θ a0_90 x1_90 K n90) K V U → wo θ V U H → Sx θ s H locs → lv_has ls 11 [(0, .ref a0_90), (1, .int x1_90), (4, .int x4_146), (5, .int x5_146), (6, .int x6_146)] → W p l e rmM_curveOf s m args below meth c H locs 0 0 (MQ below (QI θ K) args s 0 0 (aT θ)) (F0 m 146 ls [.int z0_146]) := by
        intro x4_146 x5_146 x6_146 z0_146 V U H locs ls hw hwo hS hl
        unfold wb_M_curveOf_146 at hw
        refine lv_istore (i := 7) (lv' := [(7, .int z0_146), (0, .ref a0_90), (1, .int x1_90), (4, .int x4_146), (5, .int x5_146), (6, .int x6_146)]) hx hb dM_curveOf_146 hl (by decide) rfl (fun ls hl => ?_)
        refine lv_iload hx hb dM_curveOf_148 (lv_at hl 0 rfl) ?_
        refine lv_if_eq (tgt := 175) hx hb dM_curveOf_150 (by decide) (fun hc_54 => ?_) (fun hc_54 => ?_)
        · replace hw := hw.1 hc_54
          refine lv_iconst (v := 0) hx hb dM_curveOf_175 (by decide) ?_
          refine lv_istore (i := 8) (lv' := [(8, .int (0 : Int32)), (7, .int z0_146), (0, .ref a0_90), (1, .int x1_90), (4, .int x4_146), (5, .int x5_146), (6, .int x6_146)]) hx hb dM_curveOf_176 hl (by decide) rfl (fun ls hl => ?_)
          refine lv_iconst (v := 0) hx hb dM_curveOf_178 (by decide) ?_
          refine lv_istore (i := 9) (lv' := [(9, .int (0 : Int32)), (8, .int (0 : Int32)), (7, .int z0_146), (0, .ref a0_90), (1, .int x1_90), (4, .int x4_146), (5, .int x5_146), (6, .int x6_146)]) hx hb dM_curveOf_179 hl (by decide) rfl (fun ls hl => ?_)
          obtain ⟨n, hw⟩ := hw
          exact L181 _ _ _ n _ _ _ _ _ _ _ _ hw hwo hS (lv_sub hl [3, 4, 5, 6, 7, 2, 1, 0] rfl)
        · replace hw := hw.2 hc_54
          refine lv_aload_n hx hb dM_curveOf_153 rfl (lv_at hl 1 rfl) ?_
          refine lv_aload_n hx hb dM_curveOf_154 rfl (lv_at hl 1 rfl) ?_
          obtain ⟨ho_55, hw⟩ := hw
          obtain ⟨hz_56, hw⟩ := hw
          refine g_getR hC fkM_101 rfl hwo ho_55 hz_56 dM_curveOf_155 ?_
          refine lv_aload_n hx hb dM_curveOf_158 rfl (lv_at hl 1 rfl) ?_
          refine g_getI hC fkM_104 rfl hwo ho_55 dM_curveOf_159 ?_
          refine lv_bipush (v := 9) hx hb dM_curveOf_162 (by decide) ?_
          refine lv_iadd hx hb dM_curveOf_164 ?_
          refine lv_iload hx hb dM_curveOf_165 (lv_at hl 5 rfl) ?_
          refine lv_iadd hx hb dM_curveOf_167 ?_
          obtain ⟨n_57, ha_58, hw⟩ := hw
          obtain ⟨hi_59, hw⟩ := hw
          refine g_iald hC hwo ha_58 hi_59 dM_curveOf_168 ?_
          refine g_Vi (rest := []) hC (c_M_pick l θ _ _ _ _ _ hw) mi_M_pick mlM_336 mv_M_pick ci_12 ho_55 hwo hS ⟨rfl, rfl⟩ ⟨by decide, by decide⟩ rfl hl.1 rfl (Nat.le_of_ble_eq_true rfl) dM_curveOf_169 (fun r_62 V_60 U_61 hw H locs hwo hS => ?_)
          refine lv_goto (tgt := 176) hx hb dM_curveOf_172 (by decide) ?_
          refine lv_istore (i := 8) (lv' := [(8, .int r_62), (7, .int z0_146), (0, .ref a0_90), (1, .int x1_90), (4, .int x4_146), (5, .int x5_146), (6, .int x6_146)]) hx hb dM_curveOf_176 hl (by decide) rfl (fun ls hl => ?_)
          refine lv_iconst (v := 0) hx hb dM_curveOf_178 (by decide) ?_
          refine lv_istore (i := 9) (lv' := [(9, .int (0 : Int32)), (8, .int r_62), (7, .int z0_146), (0, .ref a0_90), (1, .int x1_90), (4, .int x4_146), (5, .int x5_146), (6, .int x6_146)]) hx hb dM_curveOf_179 hl (by decide) rfl (fun ls hl => ?_)
          obtain ⟨n, hw⟩ := hw
          exact L181 _ _ _ n _ _ _ _ _ _ _ _ hw hwo hS (lv_sub hl [3, 4, 5, 6, 7, 2, 1, 0] rfl)
      intro x4_90 x5_90 V U H locs ls hw hwo hS hl
      replace hw : bl_M_curveOf_90 θ a0_90 x1_90 K (wl_M_curveOf_90 θ a0_90 x1_90 K n90) x4_90 x5_90 V U := hw
      unfold bl_M_curveOf_90 at hw
      refine lv_iload hx hb dM_curveOf_90 (lv_at hl 3 rfl) ?_
      refine lv_aload_n hx hb dM_curveOf_92 rfl (lv_at hl 0 rfl) ?_
      obtain ⟨ho_29, hw⟩ := hw
      obtain ⟨hz_30, hw⟩ := hw
      refine g_getR hC fkM_101 rfl hwo ho_29 hz_30 dM_curveOf_93 ?_
      refine lv_aload_n hx hb dM_curveOf_96 rfl (lv_at hl 0 rfl) ?_
      refine g_getI hC fkM_104 rfl hwo ho_29 dM_curveOf_97 ?_
      refine lv_iconst (v := 1) hx hb dM_curveOf_100 (by decide) ?_
      refine lv_iadd hx hb dM_curveOf_101 ?_
      obtain ⟨n_31, ha_32, hw⟩ := hw
      obtain ⟨hi_33, hw⟩ := hw
      refine g_iald hC hwo ha_32 hi_33 dM_curveOf_102 ?_
      refine lv_icmp_ge (tgt := 291) hx hb dM_curveOf_103 (by decide) (fun hc_34 => ?_) (fun hc_34 => ?_)
      · replace hw := hw.1 hc_34
        refine lv_aload_n hx hb dM_curveOf_291 rfl (lv_at hl 0 rfl) ?_
        refine g_getI hC fkM_243 rfl hwo ho_29 dM_curveOf_292 ?_
        refine lv_if_eq (tgt := 300) hx hb dM_curveOf_295 (by decide) (fun hc_35 => ?_) (fun hc_35 => ?_)
        · replace hw := hw.1 hc_35
          refine lv_aload_n hx hb dM_curveOf_300 rfl (lv_at hl 0 rfl) ?_
          refine lv_iload hx hb dM_curveOf_301 (lv_at hl 2 rfl) ?_
          refine g_Vv (rest := []) hC (c_M_heights l θ _ _ _ _ _ hw) mi_M_heights mlM_339 mv_M_heights ci_12 ho_29 hwo hS ⟨rfl, rfl⟩ ⟨by decide, by decide⟩ rfl hl.1 rfl (Nat.le_of_ble_eq_true rfl) dM_curveOf_303 (fun V_36 U_37 hw H locs hwo hS => ?_)
          refine lv_iconst (v := 0) hx hb dM_curveOf_306 (by decide) ?_
          refine lv_istore (i := 5) (lv' := [(5, .int (0 : Int32)), (0, .ref a0_90), (1, .int x1_90), (4, .int x4_90)]) hx hb dM_curveOf_307 hl (by decide) rfl (fun ls hl => ?_)
          obtain ⟨n, hw⟩ := hw
          exact L309 _ _ _ n _ _ _ _ _ _ hw hwo hS (lv_sub hl [1, 2, 3, 0] rfl)
        · replace hw := hw.2 hc_35
          refine lv_iconst (v := 0) hx hb dM_curveOf_298 (by decide) ?_
          exact g_zret hC hr hlk (Or.inl rfl) hw hwo hS dM_curveOf_299
      · replace hw := hw.2 hc_34
        refine lv_aload_n hx hb dM_curveOf_106 rfl (lv_at hl 0 rfl) ?_
        refine g_getR hC fkM_101 rfl hwo ho_29 hz_30 dM_curveOf_107 ?_
        refine lv_aload_n hx hb dM_curveOf_110 rfl (lv_at hl 0 rfl) ?_
        refine g_getI hC fkM_104 rfl hwo ho_29 dM_curveOf_111 ?_
        refine lv_iconst (v := 2) hx hb dM_curveOf_114 (by decide) ?_
        refine lv_iadd hx hb dM_curveOf_115 ?_
        refine lv_iload hx hb dM_curveOf_116 (lv_at hl 3 rfl) ?_
        refine lv_iadd hx hb dM_curveOf_118 ?_
        obtain ⟨hi_38, hw⟩ := hw
        refine g_iald hC hwo ha_32 hi_38 dM_curveOf_119 ?_
        refine lv_topi (fun y_39 ey_39 => ?_)
        replace hw := hw y_39 ey_39
        refine lv_istore (i := 6) (lv' := [(6, .int y_39), (0, .ref a0_90), (1, .int x1_90), (4, .int x4_90), (5, .int x5_90)]) hx hb dM_curveOf_120 hl (by decide) rfl (fun ls hl => ?_)
        refine lv_aload_n hx hb dM_curveOf_122 rfl (lv_at hl 1 rfl) ?_
        refine g_getR hC fkM_101 rfl hwo ho_29 hz_30 dM_curveOf_123 ?_
        refine lv_aload_n hx hb dM_curveOf_126 rfl (lv_at hl 1 rfl) ?_
        refine g_getI hC fkM_104 rfl hwo ho_29 dM_curveOf_127 ?_
        refine lv_bipush (v := 7) hx hb dM_curveOf_130 (by decide) ?_
        refine lv_iadd hx hb dM_curveOf_132 ?_
        refine lv_iload hx hb dM_curveOf_133 (lv_at hl 0 rfl) ?_
        refine lv_iadd hx hb dM_curveOf_135 ?_
        obtain ⟨hi_40, hw⟩ := hw
        refine g_iald hC hwo ha_32 hi_40 dM_curveOf_136 ?_
        refine lv_iconst (v := 1) hx hb dM_curveOf_137 (by decide) ?_
        refine lv_icmp_ne (tgt := 145) hx hb dM_curveOf_138 (by decide) (fun hc_41 => ?_) (fun hc_41 => ?_)
        · replace hw := hw.1 hc_41
          refine lv_iconst (v := 0) hx hb dM_curveOf_145 (by decide) ?_
          exact J146 _ _ _ _ _ _ _ _ _ hw hwo hS (lv_sub hl [1, 2, 3, 4, 0] rfl)
        · replace hw := hw.2 hc_41
          refine lv_iconst (v := 1) hx hb dM_curveOf_141 (by decide) ?_
          refine lv_goto (tgt := 146) hx hb dM_curveOf_142 (by decide) ?_
          exact J146 _ _ _ _ _ _ _ _ _ hw hwo hS (lv_sub hl [1, 2, 3, 4, 0] rfl)
  have L46 : ∀ (a0_46 : Nat) (x1_46 : Int32) (x2_46 : Int32) (x3_46 : Int32) (n46 : Nat) (x4_46 : Int32) (V : VT) (U : UT) (H : Heap) (locs : List Loc) (ls : Array Slot), wl_M_curveOf_46 θ a0_46 x1_46 x2_46 x3_46 K n46 x4_46 V U → wo θ V U H → Sx θ s H locs → lv_has ls 11 [(0, .ref a0_46), (1, .int x1_46), (2, .int x2_46), (3, .int x3_46), (4, .int x4_46)] → W p l e rmM_curveOf s m args below meth c H locs 0 0 (MQ below (QI θ K) args s 0 0 (aT θ)) (F0 m 46 ls []) := by
    intro a0_46 x1_46 x2_46 x3_46 n46
    induction n46 with
    | zero => intro x4_46 V U H locs ls hw hwo hS hl; exact (show False from hw).elim
    | succ n46 ih46 =>
      intro x4_46 V U H locs ls hw hwo hS hl
      replace hw : bl_M_curveOf_46 θ a0_46 x1_46 x2_46 x3_46 K (wl_M_curveOf_46 θ a0_46 x1_46 x2_46 x3_46 K n46) x4_46 V U := hw
      unfold bl_M_curveOf_46 at hw
      refine lv_iload hx hb dM_curveOf_46 (lv_at hl 4 rfl) ?_
      refine lv_iconst (v := 2) hx hb dM_curveOf_48 (by decide) ?_
      refine lv_icmp_ge (tgt := 84) hx hb dM_curveOf_49 (by decide) (fun hc_12 => ?_) (fun hc_12 => ?_)
      · replace hw := hw.1 hc_12
        refine lv_iconst (v := 2) hx hb dM_curveOf_84 (by decide) ?_
        refine lv_istore (i := 4) (lv' := [(4, .int (2 : Int32)), (0, .ref a0_46), (1, .int x1_46), (2, .int x2_46), (3, .int x3_46)]) hx hb dM_curveOf_85 hl (by decide) rfl (fun ls hl => ?_)
        refine lv_iconst (v := 0) hx hb dM_curveOf_87 (by decide) ?_
        refine lv_istore (i := 5) (lv' := [(5, .int (0 : Int32)), (4, .int (2 : Int32)), (0, .ref a0_46), (1, .int x1_46), (2, .int x2_46), (3, .int x3_46)]) hx hb dM_curveOf_88 hl (by decide) rfl (fun ls hl => ?_)
        obtain ⟨n, hw⟩ := hw
        exact L90 _ _ n _ _ _ _ _ _ _ hw hwo hS (lv_sub hl [2, 3, 1, 0] rfl)
      · replace hw := hw.2 hc_12
        refine lv_aload_n hx hb dM_curveOf_52 rfl (lv_at hl 0 rfl) ?_
        refine lv_iload_n hx hb dM_curveOf_53 rfl (lv_at hl 3 rfl) ?_
        obtain ⟨ho_15, hw⟩ := hw
        refine g_Vi (rest := []) hC (c_M_read l θ _ _ _ _ _ hw) mi_M_read mlM_249 mv_M_read ci_12 ho_15 hwo hS ⟨rfl, rfl⟩ ⟨by decide, by decide⟩ rfl hl.1 rfl (Nat.le_of_ble_eq_true rfl) dM_curveOf_54 (fun r_16 V_13 U_14 hw H locs hwo hS => ?_)
        refine lv_istore (i := 5) (lv' := [(5, .int r_16), (0, .ref a0_46), (1, .int x1_46), (2, .int x2_46), (3, .int x3_46), (4, .int x4_46)]) hx hb dM_curveOf_57 hl (by decide) rfl (fun ls hl => ?_)
        refine lv_aload_n hx hb dM_curveOf_59 rfl (lv_at hl 1 rfl) ?_
        obtain ⟨hz_17, hw⟩ := hw
        refine g_getR hC fkM_117 rfl hwo ho_15 hz_17 dM_curveOf_60 ?_
        refine lv_iload hx hb dM_curveOf_63 (lv_at hl 5 rfl) ?_
        refine lv_iload hx hb dM_curveOf_65 (lv_at hl 0 rfl) ?_
        refine lv_iload_n hx hb dM_curveOf_67 rfl (lv_at hl 3 rfl) ?_
        refine lv_icmp_le (tgt := 75) hx hb dM_curveOf_68 (by decide) (fun hc_18 => ?_) (fun hc_18 => ?_)
        · replace hw := hw.1 hc_18
          refine lv_iload hx hb dM_curveOf_75 (lv_at hl 0 rfl) ?_
          obtain ⟨n_19, ha_20, hw⟩ := hw
          obtain ⟨hi_21, hw⟩ := hw
          refine g_iast hC hwo hS ha_20 hi_21 dM_curveOf_77 (fun V_22 eV_22 H locs hwo hS => ?_)
          replace hw := hw V_22 eV_22
          obtain ⟨y_23, ey_23⟩ : ∃ z : Int32, z = x4_46 + (1 : Int32) := ⟨_, rfl⟩
          replace hw := hw y_23 ey_23
          refine lv_iinc (k := 5) (v := y_23) (lv' := [(4, .int y_23), (5, .int r_16), (0, .ref a0_46), (1, .int x1_46), (2, .int x2_46), (3, .int x3_46)]) hx hb dM_curveOf_78 hl rfl (by rw [ey_23]; rfl) (by decide) rfl (fun ls hl => ?_)
          refine lv_goto (tgt := 46) hx hb dM_curveOf_81 (by decide) ?_
          exact ih46 _ _ _ _ _ _ hw hwo hS (lv_sub hl [2, 3, 4, 5, 0] rfl)
        · replace hw := hw.2 hc_18
          refine lv_iload_n hx hb dM_curveOf_71 rfl (lv_at hl 3 rfl) ?_
          refine lv_goto (tgt := 77) hx hb dM_curveOf_72 (by decide) ?_
          obtain ⟨n_24, ha_25, hw⟩ := hw
          obtain ⟨hi_26, hw⟩ := hw
          refine g_iast hC hwo hS ha_25 hi_26 dM_curveOf_77 (fun V_27 eV_27 H locs hwo hS => ?_)
          replace hw := hw V_27 eV_27
          obtain ⟨y_28, ey_28⟩ : ∃ z : Int32, z = x4_46 + (1 : Int32) := ⟨_, rfl⟩
          replace hw := hw y_28 ey_28
          refine lv_iinc (k := 5) (v := y_28) (lv' := [(4, .int y_28), (5, .int r_16), (0, .ref a0_46), (1, .int x1_46), (2, .int x2_46), (3, .int x3_46)]) hx hb dM_curveOf_78 hl rfl (by rw [ey_28]; rfl) (by decide) rfl (fun ls hl => ?_)
          refine lv_goto (tgt := 46) hx hb dM_curveOf_81 (by decide) ?_
          exact ih46 _ _ _ _ _ _ hw hwo hS (lv_sub hl [2, 3, 4, 5, 0] rfl)
  unfold wp_M_curveOf at hw
  refine lv_aload_n hx hb dM_curveOf_0 rfl (lv_at hl 0 rfl) ?_
  refine lv_iconst (v := 1) hx hb dM_curveOf_1 (by decide) ?_
  obtain ⟨ho_3, hw⟩ := hw
  refine g_Vi (rest := []) hC (c_M_read l θ _ _ _ _ _ hw) mi_M_read mlM_249 mv_M_read ci_12 ho_3 hwo hS ⟨rfl, rfl⟩ ⟨by decide, by decide⟩ rfl hl.1 rfl (Nat.le_of_ble_eq_true rfl) dM_curveOf_2 (fun r_4 V_1 U_2 hw H locs hwo hS => ?_)
  refine lv_if_ne (tgt := 10) hx hb dM_curveOf_5 (by decide) (fun hc_5 => ?_) (fun hc_5 => ?_)
  · replace hw := hw.1 hc_5
    refine lv_aload_n hx hb dM_curveOf_10 rfl (lv_at hl 0 rfl) ?_
    refine lv_aload_n hx hb dM_curveOf_11 rfl (lv_at hl 0 rfl) ?_
    refine g_getI hC fkM_104 rfl hwo ho_3 dM_curveOf_12 ?_
    refine g_Vi (rest := []) hC (c_M_range l θ _ _ _ _ _ hw) mi_M_range mlM_333 mv_M_range ci_12 ho_3 hwo hS ⟨rfl, rfl⟩ ⟨by decide, by decide⟩ rfl hl.1 rfl (Nat.le_of_ble_eq_true rfl) dM_curveOf_15 (fun r_8 V_6 U_7 hw H locs hwo hS => ?_)
    refine lv_iconst (v := 1) hx hb dM_curveOf_18 (by decide) ?_
    refine lv_isub hx hb dM_curveOf_19 ?_
    refine lv_topi (fun y_9 ey_9 => ?_)
    replace hw := hw y_9 ey_9
    refine lv_istore_n (i := 2) (lv' := [(2, .int y_9), (0, .ref a0), (1, .int x1)]) hx hb dM_curveOf_20 rfl hl (by decide) rfl (fun ls hl => ?_)
    refine lv_iload_n hx hb dM_curveOf_21 rfl (lv_at hl 0 rfl) ?_
    refine lv_bipush (v := 31) hx hb dM_curveOf_22 (by decide) ?_
    refine lv_icmp_ne (tgt := 31) hx hb dM_curveOf_24 (by decide) (fun hc_10 => ?_) (fun hc_10 => ?_)
    · replace hw := hw.1 hc_10
      refine lv_iload_n hx hb dM_curveOf_31 rfl (lv_at hl 0 rfl) ?_
      refine lv_bipush (v := 7) hx hb dM_curveOf_32 (by decide) ?_
      refine lv_icmp_ne (tgt := 41) hx hb dM_curveOf_34 (by decide) (fun hc_11 => ?_) (fun hc_11 => ?_)
      · replace hw := hw.1 hc_11
        refine lv_iconst (v := 4) hx hb dM_curveOf_41 (by decide) ?_
        refine lv_istore_n (i := 3) (lv' := [(3, .int (4 : Int32)), (2, .int y_9), (0, .ref a0), (1, .int x1)]) hx hb dM_curveOf_42 rfl hl (by decide) rfl (fun ls hl => ?_)
        refine lv_iconst (v := 0) hx hb dM_curveOf_43 (by decide) ?_
        refine lv_istore (i := 4) (lv' := [(4, .int (0 : Int32)), (3, .int (4 : Int32)), (2, .int y_9), (0, .ref a0), (1, .int x1)]) hx hb dM_curveOf_44 hl (by decide) rfl (fun ls hl => ?_)
        obtain ⟨n, hw⟩ := hw
        exact L46 _ _ _ _ n _ _ _ _ _ _ hw hwo hS (lv_sub hl [3, 4, 2, 1, 0] rfl)
      · replace hw := hw.2 hc_11
        refine lv_iconst (v := 3) hx hb dM_curveOf_37 (by decide) ?_
        refine lv_goto (tgt := 42) hx hb dM_curveOf_38 (by decide) ?_
        refine lv_istore_n (i := 3) (lv' := [(3, .int (3 : Int32)), (2, .int y_9), (0, .ref a0), (1, .int x1)]) hx hb dM_curveOf_42 rfl hl (by decide) rfl (fun ls hl => ?_)
        refine lv_iconst (v := 0) hx hb dM_curveOf_43 (by decide) ?_
        refine lv_istore (i := 4) (lv' := [(4, .int (0 : Int32)), (3, .int (3 : Int32)), (2, .int y_9), (0, .ref a0), (1, .int x1)]) hx hb dM_curveOf_44 hl (by decide) rfl (fun ls hl => ?_)
        obtain ⟨n, hw⟩ := hw
        exact L46 _ _ _ _ n _ _ _ _ _ _ hw hwo hS (lv_sub hl [3, 4, 2, 1, 0] rfl)
    · replace hw := hw.2 hc_10
      refine lv_iconst (v := 5) hx hb dM_curveOf_27 (by decide) ?_
      refine lv_goto (tgt := 42) hx hb dM_curveOf_28 (by decide) ?_
      refine lv_istore_n (i := 3) (lv' := [(3, .int (5 : Int32)), (2, .int y_9), (0, .ref a0), (1, .int x1)]) hx hb dM_curveOf_42 rfl hl (by decide) rfl (fun ls hl => ?_)
      refine lv_iconst (v := 0) hx hb dM_curveOf_43 (by decide) ?_
      refine lv_istore (i := 4) (lv' := [(4, .int (0 : Int32)), (3, .int (5 : Int32)), (2, .int y_9), (0, .ref a0), (1, .int x1)]) hx hb dM_curveOf_44 hl (by decide) rfl (fun ls hl => ?_)
      obtain ⟨n, hw⟩ := hw
      exact L46 _ _ _ _ n _ _ _ _ _ _ hw hwo hS (lv_sub hl [3, 4, 2, 1, 0] rfl)
  · replace hw := hw.2 hc_5
    refine lv_iconst (v := 0) hx hb dM_curveOf_8 (by decide) ?_
    exact g_zret hC hr hlk (Or.inl rfl) hw hwo hS dM_curveOf_9
theorem dM_findRows_0 : decode kM_findRows 0 = .ok (.aload_n 0, 1) := by decide +kernel
theorem dM_findRows_1 : decode kM_findRows 1 = .ok (.getfield 108, 3) := by decide +kernel
theorem dM_findRows_4 : decode kM_findRows 4 = .ok (.iconst 0, 1) := by decide +kernel
theorem dM_findRows_5 : decode kM_findRows 5 = .ok (.baload, 1) := by decide +kernel
theorem dM_findRows_6 : decode kM_findRows 6 = .ok (.ifCond .ne 12, 3) := by decide +kernel
theorem dM_findRows_9 : decode kM_findRows 9 = .ok (.aload_n 0, 1) := by decide +kernel
theorem dM_findRows_10 : decode kM_findRows 10 = .ok (.getfield 108, 3) := by decide +kernel
theorem dM_findRows_13 : decode kM_findRows 13 = .ok (.iconst 1, 1) := by decide +kernel
theorem dM_findRows_14 : decode kM_findRows 14 = .ok (.baload, 1) := by decide +kernel
theorem dM_findRows_15 : decode kM_findRows 15 = .ok (.ifCond .eq 7, 3) := by decide +kernel
theorem dM_findRows_18 : decode kM_findRows 18 = .ok (.iconst 1, 1) := by decide +kernel
theorem dM_findRows_19 : decode kM_findRows 19 = .ok (.goto 4, 3) := by decide +kernel
theorem dM_findRows_22 : decode kM_findRows 22 = .ok (.iconst 0, 1) := by decide +kernel
theorem dM_findRows_23 : decode kM_findRows 23 = .ok (.istore_n 1, 1) := by decide +kernel
theorem dM_findRows_24 : decode kM_findRows 24 = .ok (.iload_n 1, 1) := by decide +kernel
theorem dM_findRows_25 : decode kM_findRows 25 = .ok (.ifCond .eq 23, 3) := by decide +kernel
theorem dM_findRows_28 : decode kM_findRows 28 = .ok (.aload_n 0, 1) := by decide +kernel
theorem dM_findRows_29 : decode kM_findRows 29 = .ok (.getfield 101, 3) := by decide +kernel
theorem dM_findRows_32 : decode kM_findRows 32 = .ok (.aload_n 0, 1) := by decide +kernel
theorem dM_findRows_33 : decode kM_findRows 33 = .ok (.getfield 104, 3) := by decide +kernel
theorem dM_findRows_36 : decode kM_findRows 36 = .ok (.bipush 40, 2) := by decide +kernel
theorem dM_findRows_38 : decode kM_findRows 38 = .ok (.iadd, 1) := by decide +kernel
theorem dM_findRows_39 : decode kM_findRows 39 = .ok (.iaload, 1) := by decide +kernel
theorem dM_findRows_40 : decode kM_findRows 40 = .ok (.iconst 1, 1) := by decide +kernel
theorem dM_findRows_41 : decode kM_findRows 41 = .ok (.if_icmp .ne 7, 3) := by decide +kernel
theorem dM_findRows_44 : decode kM_findRows 44 = .ok (.iconst 1, 1) := by decide +kernel
theorem dM_findRows_45 : decode kM_findRows 45 = .ok (.goto 4, 3) := by decide +kernel
theorem dM_findRows_48 : decode kM_findRows 48 = .ok (.iconst 0, 1) := by decide +kernel
theorem dM_findRows_49 : decode kM_findRows 49 = .ok (.istore_n 2, 1) := by decide +kernel
theorem dM_findRows_50 : decode kM_findRows 50 = .ok (.aload_n 0, 1) := by decide +kernel
theorem dM_findRows_51 : decode kM_findRows 51 = .ok (.iconst 0, 1) := by decide +kernel
theorem dM_findRows_52 : decode kM_findRows 52 = .ok (.putfield 360, 3) := by decide +kernel
theorem dM_findRows_55 : decode kM_findRows 55 = .ok (.iconst 0, 1) := by decide +kernel
theorem dM_findRows_56 : decode kM_findRows 56 = .ok (.istore_n 3, 1) := by decide +kernel
theorem dM_findRows_57 : decode kM_findRows 57 = .ok (.iload_n 3, 1) := by decide +kernel
theorem dM_findRows_58 : decode kM_findRows 58 = .ok (.aload_n 0, 1) := by decide +kernel
theorem dM_findRows_59 : decode kM_findRows 59 = .ok (.getfield 265, 3) := by decide +kernel
theorem dM_findRows_62 : decode kM_findRows 62 = .ok (.if_icmp .ge 42, 3) := by decide +kernel
theorem dM_findRows_65 : decode kM_findRows 65 = .ok (.aload_n 0, 1) := by decide +kernel
theorem dM_findRows_66 : decode kM_findRows 66 = .ok (.getfield 108, 3) := by decide +kernel
theorem dM_findRows_69 : decode kM_findRows 69 = .ok (.iload_n 3, 1) := by decide +kernel
theorem dM_findRows_70 : decode kM_findRows 70 = .ok (.baload, 1) := by decide +kernel
theorem dM_findRows_71 : decode kM_findRows 71 = .ok (.ifCond .ne 7, 3) := by decide +kernel
theorem dM_findRows_74 : decode kM_findRows 74 = .ok (.iload_n 2, 1) := by decide +kernel
theorem dM_findRows_75 : decode kM_findRows 75 = .ok (.ifCond .eq 23, 3) := by decide +kernel
theorem dM_findRows_78 : decode kM_findRows 78 = .ok (.aload_n 0, 1) := by decide +kernel
theorem dM_findRows_79 : decode kM_findRows 79 = .ok (.getfield 126, 3) := by decide +kernel
theorem dM_findRows_82 : decode kM_findRows 82 = .ok (.aload_n 0, 1) := by decide +kernel
theorem dM_findRows_83 : decode kM_findRows 83 = .ok (.getfield 360, 3) := by decide +kernel
theorem dM_findRows_86 : decode kM_findRows 86 = .ok (.iload_n 3, 1) := by decide +kernel
theorem dM_findRows_87 : decode kM_findRows 87 = .ok (.iastore, 1) := by decide +kernel
theorem dM_findRows_88 : decode kM_findRows 88 = .ok (.aload_n 0, 1) := by decide +kernel
theorem dM_findRows_89 : decode kM_findRows 89 = .ok (.dup, 1) := by decide +kernel
theorem dM_findRows_90 : decode kM_findRows 90 = .ok (.getfield 360, 3) := by decide +kernel
theorem dM_findRows_93 : decode kM_findRows 93 = .ok (.iconst 1, 1) := by decide +kernel
theorem dM_findRows_94 : decode kM_findRows 94 = .ok (.iadd, 1) := by decide +kernel
theorem dM_findRows_95 : decode kM_findRows 95 = .ok (.putfield 360, 3) := by decide +kernel
theorem dM_findRows_98 : decode kM_findRows 98 = .ok (.iinc 3 1, 3) := by decide +kernel
theorem dM_findRows_101 : decode kM_findRows 101 = .ok (.goto (-44), 3) := by decide +kernel
theorem dM_findRows_104 : decode kM_findRows 104 = .ok (.aload_n 0, 1) := by decide +kernel
theorem dM_findRows_105 : decode kM_findRows 105 = .ok (.aload_n 0, 1) := by decide +kernel
theorem dM_findRows_106 : decode kM_findRows 106 = .ok (.getfield 101, 3) := by decide +kernel
theorem dM_findRows_109 : decode kM_findRows 109 = .ok (.aload_n 0, 1) := by decide +kernel
theorem dM_findRows_110 : decode kM_findRows 110 = .ok (.getfield 104, 3) := by decide +kernel
theorem dM_findRows_113 : decode kM_findRows 113 = .ok (.bipush 30, 2) := by decide +kernel
theorem dM_findRows_115 : decode kM_findRows 115 = .ok (.iadd, 1) := by decide +kernel
theorem dM_findRows_116 : decode kM_findRows 116 = .ok (.iaload, 1) := by decide +kernel
theorem dM_findRows_117 : decode kM_findRows 117 = .ok (.iconst 2, 1) := by decide +kernel
theorem dM_findRows_118 : decode kM_findRows 118 = .ok (.if_icmp .ne 11, 3) := by decide +kernel
theorem dM_findRows_121 : decode kM_findRows 121 = .ok (.iload_n 1, 1) := by decide +kernel
theorem dM_findRows_122 : decode kM_findRows 122 = .ok (.ifCond .eq 7, 3) := by decide +kernel
theorem dM_findRows_125 : decode kM_findRows 125 = .ok (.iconst 1, 1) := by decide +kernel
theorem dM_findRows_126 : decode kM_findRows 126 = .ok (.goto 7, 3) := by decide +kernel
theorem dM_findRows_129 : decode kM_findRows 129 = .ok (.aload_n 0, 1) := by decide +kernel
theorem dM_findRows_130 : decode kM_findRows 130 = .ok (.getfield 360, 3) := by decide +kernel
theorem dM_findRows_133 : decode kM_findRows 133 = .ok (.putfield 360, 3) := by decide +kernel
theorem dM_findRows_136 : decode kM_findRows 136 = .ok (.return_, 1) := by decide +kernel
def wb_M_findRows_129 (θ : TH) (a0_129 : Nat) (z0_129 : Nat) (K : VT → UT → Prop) (V : VT) (U : UT) : Prop := isO θ a0_129 12 ∧ isO θ z0_129 12 ∧ ∀ V_36 : VT, V_36 = up2 V z0_129 65 (V a0_129 65) → K V_36 U
def wb_M_findRows_78 (θ : TH) (a0_57 : Nat) (x1_57 : Int32) (x2_57 : Int32) (x3_78 : Int32) (kb57 : Int32 → VT → UT → Prop) (K : VT → UT → Prop) (V : VT) (U : UT) : Prop := isO θ a0_57 12 ∧ (U a0_57 66) ≠ 0 ∧ ∃ n_39, isA θ (U a0_57 66) 0 n_39 ∧ vp_in (V a0_57 65) n_39 ∧ ∀ V_42 : VT, V_42 = up2 V (U a0_57 66) (V a0_57 65).toNatClampNeg x3_78 → ∀ V_43 : VT, V_43 = up2 V_42 a0_57 65 ((V_42 a0_57 65) + (1 : Int32)) → ∀ y_44 : Int32, y_44 = x3_78 + (1 : Int32) → kb57 y_44 V_43 U
def bl_M_findRows_57 (θ : TH) (a0_57 : Nat) (x1_57 : Int32) (x2_57 : Int32) (K : VT → UT → Prop) (kb57 : Int32 → VT → UT → Prop) (x3_57 : Int32) (V : VT) (U : UT) : Prop := isO θ a0_57 12 ∧ (((V a0_57 41) ≤ x3_57 → (U a0_57 52) ≠ 0 ∧ ∃ n_21, isA θ (U a0_57 52) 0 n_21 ∧ vp_in ((V a0_57 53) + (30 : Int32)) n_21 ∧ ((¬ (V (U a0_57 52) ((V a0_57 53) + (30 : Int32)).toNatClampNeg) = (2 : Int32) → wb_M_findRows_129 θ a0_57 a0_57 K V U) ∧ ((V (U a0_57 52) ((V a0_57 53) + (30 : Int32)).toNatClampNeg) = (2 : Int32) → ((x1_57 = 0 → wb_M_findRows_129 θ a0_57 a0_57 K V U) ∧ (¬ x1_57 = 0 → ∀ V_26 : VT, V_26 = up2 V a0_57 65 (1 : Int32) → K V_26 U))))) ∧ (¬ (V a0_57 41) ≤ x3_57 → (U a0_57 59) ≠ 0 ∧ ∃ n_28, isA θ (U a0_57 59) 1 n_28 ∧ vp_in x3_57 n_28 ∧ ((¬ (V (U a0_57 59) x3_57.toNatClampNeg) = 0 → wb_M_findRows_78 θ a0_57 x1_57 x2_57 x3_57 kb57 K V U) ∧ ((V (U a0_57 59) x3_57.toNatClampNeg) = 0 → ((x2_57 = 0 → ∀ y_33 : Int32, y_33 = x3_57 + (1 : Int32) → kb57 y_33 V U) ∧ (¬ x2_57 = 0 → wb_M_findRows_78 θ a0_57 x1_57 x2_57 x3_57 kb57 K V U))))))
def wl_M_findRows_57 (θ : TH) (a0_57 : Nat) (x1_57 : Int32) (x2_57 : Int32) (K : VT → UT → Prop) : Nat → Int32 → VT → UT → Prop
  | 0, _, _, _ => False
  | n + 1, x3_57, V, U => bl_M_findRows_57 θ a0_57 x1_57 x2_57 K (wl_M_findRows_57 θ a0_57 x1_57 x2_57 K n) x3_57 V U
def wb_M_findRows_49 (θ : TH) (a0_49 : Nat) (x1_49 : Int32) (z0_49 : Int32) (K : VT → UT → Prop) (V : VT) (U : UT) : Prop := isO θ a0_49 12 ∧ ∀ V_17 : VT, V_17 = up2 V a0_49 65 (0 : Int32) → ∃ n, wl_M_findRows_57 θ a0_49 x1_49 z0_49 K n (0 : Int32) V_17 U
def wb_M_findRows_48 (θ : TH) (a0_48 : Nat) (x1_48 : Int32) (K : VT → UT → Prop) (V : VT) (U : UT) : Prop := wb_M_findRows_49 θ a0_48 x1_48 (0 : Int32) K V U
def wb_M_findRows_23 (θ : TH) (a0_23 : Nat) (z0_23 : Int32) (K : VT → UT → Prop) (V : VT) (U : UT) : Prop := ((z0_23 = 0 → wb_M_findRows_48 θ a0_23 z0_23 K V U) ∧ (¬ z0_23 = 0 → isO θ a0_23 12 ∧ (U a0_23 52) ≠ 0 ∧ ∃ n_12, isA θ (U a0_23 52) 0 n_12 ∧ vp_in ((V a0_23 53) + (40 : Int32)) n_12 ∧ ((¬ (V (U a0_23 52) ((V a0_23 53) + (40 : Int32)).toNatClampNeg) = (1 : Int32) → wb_M_findRows_48 θ a0_23 z0_23 K V U) ∧ ((V (U a0_23 52) ((V a0_23 53) + (40 : Int32)).toNatClampNeg) = (1 : Int32) → wb_M_findRows_49 θ a0_23 z0_23 (1 : Int32) K V U))))
def wb_M_findRows_18 (θ : TH) (a0_18 : Nat) (K : VT → UT → Prop) (V : VT) (U : UT) : Prop := wb_M_findRows_23 θ a0_18 (1 : Int32) K V U
def wp_M_findRows (θ : TH) (a0 : Nat) (V : VT) (U : UT) (K : VT → UT → Prop) : Prop := isO θ a0 12 ∧ (U a0 59) ≠ 0 ∧ ∃ n_3, isA θ (U a0 59) 1 n_3 ∧ vp_in (0 : Int32) n_3 ∧ ((¬ (V (U a0 59) (0 : Int32).toNatClampNeg) = 0 → wb_M_findRows_18 θ a0 K V U) ∧ ((V (U a0 59) (0 : Int32).toNatClampNeg) = 0 → vp_in (1 : Int32) n_3 ∧ (((V (U a0 59) (1 : Int32).toNatClampNeg) = 0 → wb_M_findRows_23 θ a0 (0 : Int32) K V U) ∧ (¬ (V (U a0 59) (1 : Int32).toNatClampNeg) = 0 → wb_M_findRows_18 θ a0 K V U))))
set_option maxRecDepth 100000 in
set_option maxHeartbeats 4000000 in
theorem c_M_findRows (l : Launch) (θ : TH) (a0 : Nat) (V : VT) (U : UT) (K : VT → UT → Prop) (hw : wp_M_findRows θ a0 V U K) : CMv l yM_findRows kM_findRows 4 none rmM_findRows θ [.ref a0] V U K := by
  refine g_met nRM (by decide +kernel) rfl (Nat.le_of_ble_eq_true rfl) (fun p e s m args below meth c ls hC hr hlk hwo hl => ?_)
  have hx := hC.1
  have hb := hC.2.1
  have hS : Sx θ s s.heap [] := va_S.rf
  have hl : lv_has ls 4 [(0, .ref a0)] := hl
  have J129 : ∀ (a0_129 : Nat) (z0_129 : Nat) (V : VT) (U : UT) (H : Heap) (locs : List Loc) (ls : Array Slot), wb_M_findRows_129 θ a0_129 z0_129 K V U → wo θ V U H → Sx θ s H locs → lv_has ls 4 [(0, .ref a0_129)] → W p l e rmM_findRows s m args below meth c H locs 0 0 (MQ below (QV θ K) args s 0 0 (aT θ)) (F0 m 129 ls [.ref z0_129]) := by
    intro a0_129 z0_129 V U H locs ls hw hwo hS hl
    unfold wb_M_findRows_129 at hw
    refine lv_aload_n hx hb dM_findRows_129 rfl (lv_at hl 0 rfl) ?_
    obtain ⟨ho_34, hw⟩ := hw
    refine g_getI hC fkM_360 rfl hwo ho_34 dM_findRows_130 ?_
    obtain ⟨ho_35, hw⟩ := hw
    refine g_putI hC fkM_360 rfl hwo hS ho_35 dM_findRows_133 (fun V_36 eV_36 H locs hwo hS => ?_)
    replace hw := hw V_36 eV_36
    exact g_vret hC hr hlk hw hwo hS dM_findRows_136
  have L57 : ∀ (a0_57 : Nat) (x1_57 : Int32) (x2_57 : Int32) (n57 : Nat) (x3_57 : Int32) (V : VT) (U : UT) (H : Heap) (locs : List Loc) (ls : Array Slot), wl_M_findRows_57 θ a0_57 x1_57 x2_57 K n57 x3_57 V U → wo θ V U H → Sx θ s H locs → lv_has ls 4 [(0, .ref a0_57), (1, .int x1_57), (2, .int x2_57), (3, .int x3_57)] → W p l e rmM_findRows s m args below meth c H locs 0 0 (MQ below (QV θ K) args s 0 0 (aT θ)) (F0 m 57 ls []) := by
    intro a0_57 x1_57 x2_57 n57
    induction n57 with
    | zero => intro x3_57 V U H locs ls hw hwo hS hl; exact (show False from hw).elim
    | succ n57 ih57 =>
      have J78 : ∀ (x3_78 : Int32) (V : VT) (U : UT) (H : Heap) (locs : List Loc) (ls : Array Slot), wb_M_findRows_78 θ a0_57 x1_57 x2_57 x3_78 (wl_M_findRows_57 θ a0_57 x1_57 x2_57 K n57) K V U → wo θ V U H → Sx θ s H locs → lv_has ls 4 [(0, .ref a0_57), (1, .int x1_57), (2, .int x2_57), (3, .int x3_78)] → W p l e rmM_findRows s m args below meth c H locs 0 0 (MQ below (QV θ K) args s 0 0 (aT θ)) (F0 m 78 ls []) := by
        intro x3_78 V U H locs ls hw hwo hS hl
        unfold wb_M_findRows_78 at hw
        refine lv_aload_n hx hb dM_findRows_78 rfl (lv_at hl 0 rfl) ?_
        obtain ⟨ho_37, hw⟩ := hw
        obtain ⟨hz_38, hw⟩ := hw
        refine g_getR hC fkM_126 rfl hwo ho_37 hz_38 dM_findRows_79 ?_
        refine lv_aload_n hx hb dM_findRows_82 rfl (lv_at hl 0 rfl) ?_
        refine g_getI hC fkM_360 rfl hwo ho_37 dM_findRows_83 ?_
        refine lv_iload_n hx hb dM_findRows_86 rfl (lv_at hl 3 rfl) ?_
        obtain ⟨n_39, ha_40, hw⟩ := hw
        obtain ⟨hi_41, hw⟩ := hw
        refine g_iast hC hwo hS ha_40 hi_41 dM_findRows_87 (fun V_42 eV_42 H locs hwo hS => ?_)
        replace hw := hw V_42 eV_42
        refine lv_aload_n hx hb dM_findRows_88 rfl (lv_at hl 0 rfl) ?_
        refine lv_dup hx hb dM_findRows_89 rfl ?_
        refine g_getI hC fkM_360 rfl hwo ho_37 dM_findRows_90 ?_
        refine lv_iconst (v := 1) hx hb dM_findRows_93 (by decide) ?_
        refine lv_iadd hx hb dM_findRows_94 ?_
        refine g_putI hC fkM_360 rfl hwo hS ho_37 dM_findRows_95 (fun V_43 eV_43 H locs hwo hS => ?_)
        replace hw := hw V_43 eV_43
        obtain ⟨y_44, ey_44⟩ : ∃ z : Int32, z = x3_78 + (1 : Int32) := ⟨_, rfl⟩
        replace hw := hw y_44 ey_44
        refine lv_iinc (k := 3) (v := y_44) (lv' := [(3, .int y_44), (0, .ref a0_57), (1, .int x1_57), (2, .int x2_57)]) hx hb dM_findRows_98 hl rfl (by rw [ey_44]; rfl) (by decide) rfl (fun ls hl => ?_)
        refine lv_goto (tgt := 57) hx hb dM_findRows_101 (by decide) ?_
        exact ih57 _ _ _ _ _ _ hw hwo hS (lv_sub hl [1, 2, 3, 0] rfl)
      intro x3_57 V U H locs ls hw hwo hS hl
      replace hw : bl_M_findRows_57 θ a0_57 x1_57 x2_57 K (wl_M_findRows_57 θ a0_57 x1_57 x2_57 K n57) x3_57 V U := hw
      unfold bl_M_findRows_57 at hw
      refine lv_iload_n hx hb dM_findRows_57 rfl (lv_at hl 3 rfl) ?_
      refine lv_aload_n hx hb dM_findRows_58 rfl (lv_at hl 0 rfl) ?_
      obtain ⟨ho_18, hw⟩ := hw
      refine g_getI hC fkM_265 rfl hwo ho_18 dM_findRows_59 ?_
      refine lv_icmp_ge (tgt := 104) hx hb dM_findRows_62 (by decide) (fun hc_19 => ?_) (fun hc_19 => ?_)
      · replace hw := hw.1 hc_19
        refine lv_aload_n hx hb dM_findRows_104 rfl (lv_at hl 0 rfl) ?_
        refine lv_aload_n hx hb dM_findRows_105 rfl (lv_at hl 0 rfl) ?_
        obtain ⟨hz_20, hw⟩ := hw
        refine g_getR hC fkM_101 rfl hwo ho_18 hz_20 dM_findRows_106 ?_
        refine lv_aload_n hx hb dM_findRows_109 rfl (lv_at hl 0 rfl) ?_
        refine g_getI hC fkM_104 rfl hwo ho_18 dM_findRows_110 ?_
        refine lv_bipush (v := 30) hx hb dM_findRows_113 (by decide) ?_
        refine lv_iadd hx hb dM_findRows_115 ?_
        obtain ⟨n_21, ha_22, hw⟩ := hw
        obtain ⟨hi_23, hw⟩ := hw
        refine g_iald hC hwo ha_22 hi_23 dM_findRows_116 ?_
        refine lv_iconst (v := 2) hx hb dM_findRows_117 (by decide) ?_
        refine lv_icmp_ne (tgt := 129) hx hb dM_findRows_118 (by decide) (fun hc_24 => ?_) (fun hc_24 => ?_)
        · replace hw := hw.1 hc_24
          exact J129 _ _ _ _ _ _ _ hw hwo hS (lv_sub hl [0] rfl)
        · replace hw := hw.2 hc_24
          refine lv_iload_n hx hb dM_findRows_121 rfl (lv_at hl 1 rfl) ?_
          refine lv_if_eq (tgt := 129) hx hb dM_findRows_122 (by decide) (fun hc_25 => ?_) (fun hc_25 => ?_)
          · replace hw := hw.1 hc_25
            exact J129 _ _ _ _ _ _ _ hw hwo hS (lv_sub hl [0] rfl)
          · replace hw := hw.2 hc_25
            refine lv_iconst (v := 1) hx hb dM_findRows_125 (by decide) ?_
            refine lv_goto (tgt := 133) hx hb dM_findRows_126 (by decide) ?_
            refine g_putI hC fkM_360 rfl hwo hS ho_18 dM_findRows_133 (fun V_26 eV_26 H locs hwo hS => ?_)
            replace hw := hw V_26 eV_26
            exact g_vret hC hr hlk hw hwo hS dM_findRows_136
      · replace hw := hw.2 hc_19
        refine lv_aload_n hx hb dM_findRows_65 rfl (lv_at hl 0 rfl) ?_
        obtain ⟨hz_27, hw⟩ := hw
        refine g_getR hC fkM_108 rfl hwo ho_18 hz_27 dM_findRows_66 ?_
        refine lv_iload_n hx hb dM_findRows_69 rfl (lv_at hl 3 rfl) ?_
        obtain ⟨n_28, ha_29, hw⟩ := hw
        obtain ⟨hi_30, hw⟩ := hw
        refine g_zald hC hwo ha_29 hi_30 dM_findRows_70 ?_
        refine lv_if_ne (tgt := 78) hx hb dM_findRows_71 (by decide) (fun hc_31 => ?_) (fun hc_31 => ?_)
        · replace hw := hw.1 hc_31
          exact J78 _ _ _ _ _ _ hw hwo hS (lv_sub hl [0, 1, 2, 3] rfl)
        · replace hw := hw.2 hc_31
          refine lv_iload_n hx hb dM_findRows_74 rfl (lv_at hl 2 rfl) ?_
          refine lv_if_eq (tgt := 98) hx hb dM_findRows_75 (by decide) (fun hc_32 => ?_) (fun hc_32 => ?_)
          · replace hw := hw.1 hc_32
            obtain ⟨y_33, ey_33⟩ : ∃ z : Int32, z = x3_57 + (1 : Int32) := ⟨_, rfl⟩
            replace hw := hw y_33 ey_33
            refine lv_iinc (k := 3) (v := y_33) (lv' := [(3, .int y_33), (0, .ref a0_57), (1, .int x1_57), (2, .int x2_57)]) hx hb dM_findRows_98 hl rfl (by rw [ey_33]; rfl) (by decide) rfl (fun ls hl => ?_)
            refine lv_goto (tgt := 57) hx hb dM_findRows_101 (by decide) ?_
            exact ih57 _ _ _ _ _ _ hw hwo hS (lv_sub hl [1, 2, 3, 0] rfl)
          · replace hw := hw.2 hc_32
            exact J78 _ _ _ _ _ _ hw hwo hS (lv_sub hl [0, 1, 2, 3] rfl)
  have J49 : ∀ (a0_49 : Nat) (x1_49 : Int32) (z0_49 : Int32) (V : VT) (U : UT) (H : Heap) (locs : List Loc) (ls : Array Slot), wb_M_findRows_49 θ a0_49 x1_49 z0_49 K V U → wo θ V U H → Sx θ s H locs → lv_has ls 4 [(0, .ref a0_49), (1, .int x1_49)] → W p l e rmM_findRows s m args below meth c H locs 0 0 (MQ below (QV θ K) args s 0 0 (aT θ)) (F0 m 49 ls [.int z0_49]) := by
    intro a0_49 x1_49 z0_49 V U H locs ls hw hwo hS hl
    unfold wb_M_findRows_49 at hw
    refine lv_istore_n (i := 2) (lv' := [(2, .int z0_49), (0, .ref a0_49), (1, .int x1_49)]) hx hb dM_findRows_49 rfl hl (by decide) rfl (fun ls hl => ?_)
    refine lv_aload_n hx hb dM_findRows_50 rfl (lv_at hl 1 rfl) ?_
    refine lv_iconst (v := 0) hx hb dM_findRows_51 (by decide) ?_
    obtain ⟨ho_16, hw⟩ := hw
    refine g_putI hC fkM_360 rfl hwo hS ho_16 dM_findRows_52 (fun V_17 eV_17 H locs hwo hS => ?_)
    replace hw := hw V_17 eV_17
    refine lv_iconst (v := 0) hx hb dM_findRows_55 (by decide) ?_
    refine lv_istore_n (i := 3) (lv' := [(3, .int (0 : Int32)), (2, .int z0_49), (0, .ref a0_49), (1, .int x1_49)]) hx hb dM_findRows_56 rfl hl (by decide) rfl (fun ls hl => ?_)
    obtain ⟨n, hw⟩ := hw
    exact L57 _ _ _ n _ _ _ _ _ _ hw hwo hS (lv_sub hl [2, 3, 1, 0] rfl)
  have J48 : ∀ (a0_48 : Nat) (x1_48 : Int32) (V : VT) (U : UT) (H : Heap) (locs : List Loc) (ls : Array Slot), wb_M_findRows_48 θ a0_48 x1_48 K V U → wo θ V U H → Sx θ s H locs → lv_has ls 4 [(0, .ref a0_48), (1, .int x1_48)] → W p l e rmM_findRows s m args below meth c H locs 0 0 (MQ below (QV θ K) args s 0 0 (aT θ)) (F0 m 48 ls []) := by
    intro a0_48 x1_48 V U H locs ls hw hwo hS hl
    unfold wb_M_findRows_48 at hw
    refine lv_iconst (v := 0) hx hb dM_findRows_48 (by decide) ?_
    exact J49 _ _ _ _ _ _ _ _ hw hwo hS (lv_sub hl [0, 1] rfl)
  have J23 : ∀ (a0_23 : Nat) (z0_23 : Int32) (V : VT) (U : UT) (H : Heap) (locs : List Loc) (ls : Array Slot), wb_M_findRows_23 θ a0_23 z0_23 K V U → wo θ V U H → Sx θ s H locs → lv_has ls 4 [(0, .ref a0_23)] → W p l e rmM_findRows s m args below meth c H locs 0 0 (MQ below (QV θ K) args s 0 0 (aT θ)) (F0 m 23 ls [.int z0_23]) := by
    intro a0_23 z0_23 V U H locs ls hw hwo hS hl
    unfold wb_M_findRows_23 at hw
    refine lv_istore_n (i := 1) (lv' := [(1, .int z0_23), (0, .ref a0_23)]) hx hb dM_findRows_23 rfl hl (by decide) rfl (fun ls hl => ?_)
    refine lv_iload_n hx hb dM_findRows_24 rfl (lv_at hl 0 rfl) ?_
    refine lv_if_eq (tgt := 48) hx hb dM_findRows_25 (by decide) (fun hc_9 => ?_) (fun hc_9 => ?_)
    · replace hw := hw.1 hc_9
      exact J48 _ _ _ _ _ _ _ hw hwo hS (lv_sub hl [1, 0] rfl)
    · replace hw := hw.2 hc_9
      refine lv_aload_n hx hb dM_findRows_28 rfl (lv_at hl 1 rfl) ?_
      obtain ⟨ho_10, hw⟩ := hw
      obtain ⟨hz_11, hw⟩ := hw
      refine g_getR hC fkM_101 rfl hwo ho_10 hz_11 dM_findRows_29 ?_
      refine lv_aload_n hx hb dM_findRows_32 rfl (lv_at hl 1 rfl) ?_
      refine g_getI hC fkM_104 rfl hwo ho_10 dM_findRows_33 ?_
      refine lv_bipush (v := 40) hx hb dM_findRows_36 (by decide) ?_
      refine lv_iadd hx hb dM_findRows_38 ?_
      obtain ⟨n_12, ha_13, hw⟩ := hw
      obtain ⟨hi_14, hw⟩ := hw
      refine g_iald hC hwo ha_13 hi_14 dM_findRows_39 ?_
      refine lv_iconst (v := 1) hx hb dM_findRows_40 (by decide) ?_
      refine lv_icmp_ne (tgt := 48) hx hb dM_findRows_41 (by decide) (fun hc_15 => ?_) (fun hc_15 => ?_)
      · replace hw := hw.1 hc_15
        exact J48 _ _ _ _ _ _ _ hw hwo hS (lv_sub hl [1, 0] rfl)
      · replace hw := hw.2 hc_15
        refine lv_iconst (v := 1) hx hb dM_findRows_44 (by decide) ?_
        refine lv_goto (tgt := 49) hx hb dM_findRows_45 (by decide) ?_
        exact J49 _ _ _ _ _ _ _ _ hw hwo hS (lv_sub hl [1, 0] rfl)
  have J18 : ∀ (a0_18 : Nat) (V : VT) (U : UT) (H : Heap) (locs : List Loc) (ls : Array Slot), wb_M_findRows_18 θ a0_18 K V U → wo θ V U H → Sx θ s H locs → lv_has ls 4 [(0, .ref a0_18)] → W p l e rmM_findRows s m args below meth c H locs 0 0 (MQ below (QV θ K) args s 0 0 (aT θ)) (F0 m 18 ls []) := by
    intro a0_18 V U H locs ls hw hwo hS hl
    unfold wb_M_findRows_18 at hw
    refine lv_iconst (v := 1) hx hb dM_findRows_18 (by decide) ?_
    refine lv_goto (tgt := 23) hx hb dM_findRows_19 (by decide) ?_
    exact J23 _ _ _ _ _ _ _ hw hwo hS (lv_sub hl [0] rfl)
  unfold wp_M_findRows at hw
  refine lv_aload_n hx hb dM_findRows_0 rfl (lv_at hl 0 rfl) ?_
  obtain ⟨ho_1, hw⟩ := hw
  obtain ⟨hz_2, hw⟩ := hw
  refine g_getR hC fkM_108 rfl hwo ho_1 hz_2 dM_findRows_1 ?_
  refine lv_iconst (v := 0) hx hb dM_findRows_4 (by decide) ?_
  obtain ⟨n_3, ha_4, hw⟩ := hw
  obtain ⟨hi_5, hw⟩ := hw
  refine g_zald hC hwo ha_4 hi_5 dM_findRows_5 ?_
  refine lv_if_ne (tgt := 18) hx hb dM_findRows_6 (by decide) (fun hc_6 => ?_) (fun hc_6 => ?_)
  · replace hw := hw.1 hc_6
    exact J18 _ _ _ _ _ _ hw hwo hS (lv_sub hl [0] rfl)
  · replace hw := hw.2 hc_6
    refine lv_aload_n hx hb dM_findRows_9 rfl (lv_at hl 0 rfl) ?_
    refine g_getR hC fkM_108 rfl hwo ho_1 hz_2 dM_findRows_10 ?_
    refine lv_iconst (v := 1) hx hb dM_findRows_13 (by decide) ?_
    obtain ⟨hi_7, hw⟩ := hw
    refine g_zald hC hwo ha_4 hi_7 dM_findRows_14 ?_
    refine lv_if_eq (tgt := 22) hx hb dM_findRows_15 (by decide) (fun hc_8 => ?_) (fun hc_8 => ?_)
    · replace hw := hw.1 hc_8
      refine lv_iconst (v := 0) hx hb dM_findRows_22 (by decide) ?_
      exact J23 _ _ _ _ _ _ _ hw hwo hS (lv_sub hl [0] rfl)
    · replace hw := hw.2 hc_8
      exact J18 _ _ _ _ _ _ hw hwo hS (lv_sub hl [0] rfl)
theorem dM_kinds_0 : decode kM_kinds 0 = .ok (.aload_n 0, 1) := by decide +kernel
theorem dM_kinds_1 : decode kM_kinds 1 = .ok (.aload_n 0, 1) := by decide +kernel
theorem dM_kinds_2 : decode kM_kinds 2 = .ok (.getfield 101, 3) := by decide +kernel
theorem dM_kinds_5 : decode kM_kinds 5 = .ok (.aload_n 0, 1) := by decide +kernel
theorem dM_kinds_6 : decode kM_kinds 6 = .ok (.getfield 104, 3) := by decide +kernel
theorem dM_kinds_9 : decode kM_kinds 9 = .ok (.bipush 35, 2) := by decide +kernel
theorem dM_kinds_11 : decode kM_kinds 11 = .ok (.iadd, 1) := by decide +kernel
theorem dM_kinds_12 : decode kM_kinds 12 = .ok (.iaload, 1) := by decide +kernel
theorem dM_kinds_13 : decode kM_kinds 13 = .ok (.invokevirtual 336, 3) := by decide +kernel
theorem dM_kinds_16 : decode kM_kinds 16 = .ok (.istore 5, 2) := by decide +kernel
theorem dM_kinds_18 : decode kM_kinds 18 = .ok (.iload 5, 2) := by decide +kernel
theorem dM_kinds_20 : decode kM_kinds 20 = .ok (.ifCond .ge 5, 3) := by decide +kernel
theorem dM_kinds_23 : decode kM_kinds 23 = .ok (.iconst 0, 1) := by decide +kernel
theorem dM_kinds_24 : decode kM_kinds 24 = .ok (.ireturn, 1) := by decide +kernel
theorem dM_kinds_25 : decode kM_kinds 25 = .ok (.iload_n 2, 1) := by decide +kernel
theorem dM_kinds_26 : decode kM_kinds 26 = .ok (.iload_n 3, 1) := by decide +kernel
theorem dM_kinds_27 : decode kM_kinds 27 = .ok (.iadd, 1) := by decide +kernel
theorem dM_kinds_28 : decode kM_kinds 28 = .ok (.iconst 1, 1) := by decide +kernel
theorem dM_kinds_29 : decode kM_kinds 29 = .ok (.isub, 1) := by decide +kernel
theorem dM_kinds_30 : decode kM_kinds 30 = .ok (.istore 6, 2) := by decide +kernel
theorem dM_kinds_32 : decode kM_kinds 32 = .ok (.iload 6, 2) := by decide +kernel
theorem dM_kinds_34 : decode kM_kinds 34 = .ok (.iload_n 2, 1) := by decide +kernel
theorem dM_kinds_35 : decode kM_kinds 35 = .ok (.if_icmp .lt 60, 3) := by decide +kernel
theorem dM_kinds_38 : decode kM_kinds 38 = .ok (.iload 6, 2) := by decide +kernel
theorem dM_kinds_40 : decode kM_kinds 40 = .ok (.iload 4, 2) := by decide +kernel
theorem dM_kinds_42 : decode kM_kinds 42 = .ok (.if_icmp .ge 30, 3) := by decide +kernel
theorem dM_kinds_45 : decode kM_kinds 45 = .ok (.aload_n 0, 1) := by decide +kernel
theorem dM_kinds_46 : decode kM_kinds 46 = .ok (.getfield 129, 3) := by decide +kernel
theorem dM_kinds_49 : decode kM_kinds 49 = .ok (.bipush 64, 2) := by decide +kernel
theorem dM_kinds_51 : decode kM_kinds 51 = .ok (.iload_n 1, 1) := by decide +kernel
theorem dM_kinds_52 : decode kM_kinds 52 = .ok (.imul, 1) := by decide +kernel
theorem dM_kinds_53 : decode kM_kinds 53 = .ok (.iload 6, 2) := by decide +kernel
theorem dM_kinds_55 : decode kM_kinds 55 = .ok (.iadd, 1) := by decide +kernel
theorem dM_kinds_56 : decode kM_kinds 56 = .ok (.iload 5, 2) := by decide +kernel
theorem dM_kinds_58 : decode kM_kinds 58 = .ok (.aload_n 0, 1) := by decide +kernel
theorem dM_kinds_59 : decode kM_kinds 59 = .ok (.getfield 101, 3) := by decide +kernel
theorem dM_kinds_62 : decode kM_kinds 62 = .ok (.aload_n 0, 1) := by decide +kernel
theorem dM_kinds_63 : decode kM_kinds 63 = .ok (.getfield 104, 3) := by decide +kernel
theorem dM_kinds_66 : decode kM_kinds 66 = .ok (.bipush 34, 2) := by decide +kernel
theorem dM_kinds_68 : decode kM_kinds 68 = .ok (.iadd, 1) := by decide +kernel
theorem dM_kinds_69 : decode kM_kinds 69 = .ok (.iaload, 1) := by decide +kernel
theorem dM_kinds_70 : decode kM_kinds 70 = .ok (.irem, 1) := by decide +kernel
theorem dM_kinds_71 : decode kM_kinds 71 = .ok (.iastore, 1) := by decide +kernel
theorem dM_kinds_72 : decode kM_kinds 72 = .ok (.iload 5, 2) := by decide +kernel
theorem dM_kinds_74 : decode kM_kinds 74 = .ok (.aload_n 0, 1) := by decide +kernel
theorem dM_kinds_75 : decode kM_kinds 75 = .ok (.getfield 101, 3) := by decide +kernel
theorem dM_kinds_78 : decode kM_kinds 78 = .ok (.aload_n 0, 1) := by decide +kernel
theorem dM_kinds_79 : decode kM_kinds 79 = .ok (.getfield 104, 3) := by decide +kernel
theorem dM_kinds_82 : decode kM_kinds 82 = .ok (.bipush 34, 2) := by decide +kernel
theorem dM_kinds_84 : decode kM_kinds 84 = .ok (.iadd, 1) := by decide +kernel
theorem dM_kinds_85 : decode kM_kinds 85 = .ok (.iaload, 1) := by decide +kernel
theorem dM_kinds_86 : decode kM_kinds 86 = .ok (.idiv, 1) := by decide +kernel
theorem dM_kinds_87 : decode kM_kinds 87 = .ok (.istore 5, 2) := by decide +kernel
theorem dM_kinds_89 : decode kM_kinds 89 = .ok (.iinc 6 (-1), 3) := by decide +kernel
theorem dM_kinds_92 : decode kM_kinds 92 = .ok (.goto (-60), 3) := by decide +kernel
theorem dM_kinds_95 : decode kM_kinds 95 = .ok (.iconst 1, 1) := by decide +kernel
theorem dM_kinds_96 : decode kM_kinds 96 = .ok (.ireturn, 1) := by decide +kernel
def wb_M_kinds_72 (θ : TH) (a0_32 : Nat) (x1_32 : Int32) (x2_32 : Int32) (x4_32 : Int32) (x5_72 : Int32) (x6_72 : Int32) (kb32 : Int32 → Int32 → VT → UT → Prop) (K : Int32 → VT → UT → Prop) (V : VT) (U : UT) : Prop := isO θ a0_32 12 ∧ (U a0_32 52) ≠ 0 ∧ ∃ n_26, isA θ (U a0_32 52) 0 n_26 ∧ vp_in ((V a0_32 53) + (34 : Int32)) n_26 ∧ ¬ (V (U a0_32 52) ((V a0_32 53) + (34 : Int32)).toNatClampNeg) = 0 ∧ ∀ y_30 : Int32, y_30 = (x5_72 / (V (U a0_32 52) ((V a0_32 53) + (34 : Int32)).toNatClampNeg)) → ∀ y_31 : Int32, y_31 = x6_72 + (-1 : Int32) → kb32 y_30 y_31 V U
def bl_M_kinds_32 (θ : TH) (a0_32 : Nat) (x1_32 : Int32) (x2_32 : Int32) (x4_32 : Int32) (K : Int32 → VT → UT → Prop) (kb32 : Int32 → Int32 → VT → UT → Prop) (x5_32 : Int32) (x6_32 : Int32) (V : VT) (U : UT) : Prop := ((x6_32 < x2_32 → K (1 : Int32) V U) ∧ (¬ x6_32 < x2_32 → ((x4_32 ≤ x6_32 → wb_M_kinds_72 θ a0_32 x1_32 x2_32 x4_32 x5_32 x6_32 kb32 K V U) ∧ (¬ x4_32 ≤ x6_32 → isO θ a0_32 12 ∧ (U a0_32 67) ≠ 0 ∧ (U a0_32 52) ≠ 0 ∧ ∃ n_16, isA θ (U a0_32 52) 0 n_16 ∧ vp_in ((V a0_32 53) + (34 : Int32)) n_16 ∧ ¬ (V (U a0_32 52) ((V a0_32 53) + (34 : Int32)).toNatClampNeg) = 0 ∧ ∃ n_20, isA θ (U a0_32 67) 0 n_20 ∧ vp_in (((64 : Int32) * x1_32) + x6_32) n_20 ∧ ∀ V_23 : VT, V_23 = up2 V (U a0_32 67) (((64 : Int32) * x1_32) + x6_32).toNatClampNeg (x5_32 - x5_32 / (V (U a0_32 52) ((V a0_32 53) + (34 : Int32)).toNatClampNeg) * (V (U a0_32 52) ((V a0_32 53) + (34 : Int32)).toNatClampNeg)) → wb_M_kinds_72 θ a0_32 x1_32 x2_32 x4_32 x5_32 x6_32 kb32 K V_23 U))))
def wl_M_kinds_32 (θ : TH) (a0_32 : Nat) (x1_32 : Int32) (x2_32 : Int32) (x4_32 : Int32) (K : Int32 → VT → UT → Prop) : Nat → Int32 → Int32 → VT → UT → Prop
  | 0, _, _, _, _ => False
  | n + 1, x5_32, x6_32, V, U => bl_M_kinds_32 θ a0_32 x1_32 x2_32 x4_32 K (wl_M_kinds_32 θ a0_32 x1_32 x2_32 x4_32 K n) x5_32 x6_32 V U
def wp_M_kinds (θ : TH) (a0 : Nat) (x1 : Int32) (x2 : Int32) (x3 : Int32) (x4 : Int32) (V : VT) (U : UT) (K : Int32 → VT → UT → Prop) : Prop := isO θ a0 12 ∧ (U a0 52) ≠ 0 ∧ ∃ n_3, isA θ (U a0 52) 0 n_3 ∧ vp_in ((V a0 53) + (35 : Int32)) n_3 ∧ wp_M_pick θ a0 (V (U a0 52) ((V a0 53) + (35 : Int32)).toNatClampNeg) V U (fun r_8 V_6 U_7 => ((0 ≤ r_8 → ∀ y_10 : Int32, y_10 = ((x2 + x3) - (1 : Int32)) → ∃ n, wl_M_kinds_32 θ a0 x1 x2 x4 K n r_8 y_10 V_6 U_7) ∧ (¬ 0 ≤ r_8 → K (0 : Int32) V_6 U_7)))
set_option maxRecDepth 100000 in
set_option maxHeartbeats 4000000 in
theorem c_M_kinds (l : Launch) (θ : TH) (a0 : Nat) (x1 : Int32) (x2 : Int32) (x3 : Int32) (x4 : Int32) (V : VT) (U : UT) (K : Int32 → VT → UT → Prop) (hw : wp_M_kinds θ a0 x1 x2 x3 x4 V U K) : CMi l yM_kinds kM_kinds 7 (some .boolean) rmM_kinds θ [.ref a0, .int x1, .int x2, .int x3, .int x4] V U K := by
  refine g_met nRM (by decide +kernel) rfl (Nat.le_of_ble_eq_true rfl) (fun p e s m args below meth c ls hC hr hlk hwo hl => ?_)
  have hx := hC.1
  have hb := hC.2.1
  have hS : Sx θ s s.heap [] := va_S.rf
  have hl : lv_has ls 7 [(0, .ref a0), (1, .int x1), (2, .int x2), (3, .int x3), (4, .int x4)] := hl
  have L32 : ∀ (a0_32 : Nat) (x1_32 : Int32) (x2_32 : Int32) (x4_32 : Int32) (n32 : Nat) (x5_32 : Int32) (x6_32 : Int32) (V : VT) (U : UT) (H : Heap) (locs : List Loc) (ls : Array Slot), wl_M_kinds_32 θ a0_32 x1_32 x2_32 x4_32 K n32 x5_32 x6_32 V U → wo θ V U H → Sx θ s H locs → lv_has ls 7 [(0, .ref a0_32), (1, .int x1_32), (2, .int x2_32), (4, .int x4_32), (5, .int x5_32), (6, .int x6_32)] → W p l e rmM_kinds s m args below meth c H locs 0 0 (MQ below (QI θ K) args s 0 0 (aT θ)) (F0 m 32 ls []) := by
    intro a0_32 x1_32 x2_32 x4_32 n32
    induction n32 with
    | zero => intro x5_32 x6_32 V U H locs ls hw hwo hS hl; exact (show False from hw).elim
    | succ n32 ih32 =>
      have J72 : ∀ (x5_72 : Int32) (x6_72 : Int32) (V : VT) (U : UT) (H : Heap) (locs : List Loc) (ls : Array Slot), wb_M_kinds_72 θ a0_32 x1_32 x2_32 x4_32 x5_72 x6_72 (wl_M_kinds_32 θ a0_32 x1_32 x2_32 x4_32 K n32) K V U → wo θ V U H → Sx θ s H locs → lv_has ls 7 [(0, .ref a0_32), (1, .int x1_32), (2, .int x2_32), (4, .int x4_32), (5, .int x5_72), (6, .int x6_72)] → W p l e rmM_kinds s m args below meth c H locs 0 0 (MQ below (QI θ K) args s 0 0 (aT θ)) (F0 m 72 ls []) := by
        intro x5_72 x6_72 V U H locs ls hw hwo hS hl
        unfold wb_M_kinds_72 at hw
        refine lv_iload hx hb dM_kinds_72 (lv_at hl 4 rfl) ?_
        refine lv_aload_n hx hb dM_kinds_74 rfl (lv_at hl 0 rfl) ?_
        obtain ⟨ho_24, hw⟩ := hw
        obtain ⟨hz_25, hw⟩ := hw
        refine g_getR hC fkM_101 rfl hwo ho_24 hz_25 dM_kinds_75 ?_
        refine lv_aload_n hx hb dM_kinds_78 rfl (lv_at hl 0 rfl) ?_
        refine g_getI hC fkM_104 rfl hwo ho_24 dM_kinds_79 ?_
        refine lv_bipush (v := 34) hx hb dM_kinds_82 (by decide) ?_
        refine lv_iadd hx hb dM_kinds_84 ?_
        obtain ⟨n_26, ha_27, hw⟩ := hw
        obtain ⟨hi_28, hw⟩ := hw
        refine g_iald hC hwo ha_27 hi_28 dM_kinds_85 ?_
        obtain ⟨hd_29, hw⟩ := hw
        refine lv_idiv hx hb dM_kinds_86 hd_29 ?_
        refine lv_topi (fun y_30 ey_30 => ?_)
        replace hw := hw y_30 ey_30
        refine lv_istore (i := 5) (lv' := [(5, .int y_30), (0, .ref a0_32), (1, .int x1_32), (2, .int x2_32), (4, .int x4_32), (6, .int x6_72)]) hx hb dM_kinds_87 hl (by decide) rfl (fun ls hl => ?_)
        obtain ⟨y_31, ey_31⟩ : ∃ z : Int32, z = x6_72 + (-1 : Int32) := ⟨_, rfl⟩
        replace hw := hw y_31 ey_31
        refine lv_iinc (k := 5) (v := y_31) (lv' := [(6, .int y_31), (5, .int y_30), (0, .ref a0_32), (1, .int x1_32), (2, .int x2_32), (4, .int x4_32)]) hx hb dM_kinds_89 hl rfl (by rw [ey_31]; rfl) (by decide) rfl (fun ls hl => ?_)
        refine lv_goto (tgt := 32) hx hb dM_kinds_92 (by decide) ?_
        exact ih32 _ _ _ _ _ _ _ hw hwo hS (lv_sub hl [2, 3, 4, 5, 1, 0] rfl)
      intro x5_32 x6_32 V U H locs ls hw hwo hS hl
      replace hw : bl_M_kinds_32 θ a0_32 x1_32 x2_32 x4_32 K (wl_M_kinds_32 θ a0_32 x1_32 x2_32 x4_32 K n32) x5_32 x6_32 V U := hw
      unfold bl_M_kinds_32 at hw
      refine lv_iload hx hb dM_kinds_32 (lv_at hl 5 rfl) ?_
      refine lv_iload_n hx hb dM_kinds_34 rfl (lv_at hl 2 rfl) ?_
      refine lv_icmp_lt (tgt := 95) hx hb dM_kinds_35 (by decide) (fun hc_11 => ?_) (fun hc_11 => ?_)
      · replace hw := hw.1 hc_11
        refine lv_iconst (v := 1) hx hb dM_kinds_95 (by decide) ?_
        exact g_zret hC hr hlk (Or.inr rfl) hw hwo hS dM_kinds_96
      · replace hw := hw.2 hc_11
        refine lv_iload hx hb dM_kinds_38 (lv_at hl 5 rfl) ?_
        refine lv_iload hx hb dM_kinds_40 (lv_at hl 3 rfl) ?_
        refine lv_icmp_ge (tgt := 72) hx hb dM_kinds_42 (by decide) (fun hc_12 => ?_) (fun hc_12 => ?_)
        · replace hw := hw.1 hc_12
          exact J72 _ _ _ _ _ _ _ hw hwo hS (lv_sub hl [0, 1, 2, 3, 4, 5] rfl)
        · replace hw := hw.2 hc_12
          refine lv_aload_n hx hb dM_kinds_45 rfl (lv_at hl 0 rfl) ?_
          obtain ⟨ho_13, hw⟩ := hw
          obtain ⟨hz_14, hw⟩ := hw
          refine g_getR hC fkM_129 rfl hwo ho_13 hz_14 dM_kinds_46 ?_
          refine lv_bipush (v := 64) hx hb dM_kinds_49 (by decide) ?_
          refine lv_iload_n hx hb dM_kinds_51 rfl (lv_at hl 1 rfl) ?_
          refine lv_imul hx hb dM_kinds_52 ?_
          refine lv_iload hx hb dM_kinds_53 (lv_at hl 5 rfl) ?_
          refine lv_iadd hx hb dM_kinds_55 ?_
          refine lv_iload hx hb dM_kinds_56 (lv_at hl 4 rfl) ?_
          refine lv_aload_n hx hb dM_kinds_58 rfl (lv_at hl 0 rfl) ?_
          obtain ⟨hz_15, hw⟩ := hw
          refine g_getR hC fkM_101 rfl hwo ho_13 hz_15 dM_kinds_59 ?_
          refine lv_aload_n hx hb dM_kinds_62 rfl (lv_at hl 0 rfl) ?_
          refine g_getI hC fkM_104 rfl hwo ho_13 dM_kinds_63 ?_
          refine lv_bipush (v := 34) hx hb dM_kinds_66 (by decide) ?_
          refine lv_iadd hx hb dM_kinds_68 ?_
          obtain ⟨n_16, ha_17, hw⟩ := hw
          obtain ⟨hi_18, hw⟩ := hw
          refine g_iald hC hwo ha_17 hi_18 dM_kinds_69 ?_
          obtain ⟨hd_19, hw⟩ := hw
          refine lv_irem hx hb dM_kinds_70 hd_19 ?_
          obtain ⟨n_20, ha_21, hw⟩ := hw
          obtain ⟨hi_22, hw⟩ := hw
          refine g_iast hC hwo hS ha_21 hi_22 dM_kinds_71 (fun V_23 eV_23 H locs hwo hS => ?_)
          replace hw := hw V_23 eV_23
          exact J72 _ _ _ _ _ _ _ hw hwo hS (lv_sub hl [0, 1, 2, 3, 4, 5] rfl)
  unfold wp_M_kinds at hw
  refine lv_aload_n hx hb dM_kinds_0 rfl (lv_at hl 0 rfl) ?_
  refine lv_aload_n hx hb dM_kinds_1 rfl (lv_at hl 0 rfl) ?_
  obtain ⟨ho_1, hw⟩ := hw
  obtain ⟨hz_2, hw⟩ := hw
  refine g_getR hC fkM_101 rfl hwo ho_1 hz_2 dM_kinds_2 ?_
  refine lv_aload_n hx hb dM_kinds_5 rfl (lv_at hl 0 rfl) ?_
  refine g_getI hC fkM_104 rfl hwo ho_1 dM_kinds_6 ?_
  refine lv_bipush (v := 35) hx hb dM_kinds_9 (by decide) ?_
  refine lv_iadd hx hb dM_kinds_11 ?_
  obtain ⟨n_3, ha_4, hw⟩ := hw
  obtain ⟨hi_5, hw⟩ := hw
  refine g_iald hC hwo ha_4 hi_5 dM_kinds_12 ?_
  refine g_Vi (rest := []) hC (c_M_pick l θ _ _ _ _ _ hw) mi_M_pick mlM_336 mv_M_pick ci_12 ho_1 hwo hS ⟨rfl, rfl⟩ ⟨by decide, by decide⟩ rfl hl.1 rfl (Nat.le_of_ble_eq_true rfl) dM_kinds_13 (fun r_8 V_6 U_7 hw H locs hwo hS => ?_)
  refine lv_istore (i := 5) (lv' := [(5, .int r_8), (0, .ref a0), (1, .int x1), (2, .int x2), (3, .int x3), (4, .int x4)]) hx hb dM_kinds_16 hl (by decide) rfl (fun ls hl => ?_)
  refine lv_iload hx hb dM_kinds_18 (lv_at hl 0 rfl) ?_
  refine lv_if_ge (tgt := 25) hx hb dM_kinds_20 (by decide) (fun hc_9 => ?_) (fun hc_9 => ?_)
  · replace hw := hw.1 hc_9
    refine lv_iload_n hx hb dM_kinds_25 rfl (lv_at hl 3 rfl) ?_
    refine lv_iload_n hx hb dM_kinds_26 rfl (lv_at hl 4 rfl) ?_
    refine lv_iadd hx hb dM_kinds_27 ?_
    refine lv_iconst (v := 1) hx hb dM_kinds_28 (by decide) ?_
    refine lv_isub hx hb dM_kinds_29 ?_
    refine lv_topi (fun y_10 ey_10 => ?_)
    replace hw := hw y_10 ey_10
    refine lv_istore (i := 6) (lv' := [(6, .int y_10), (5, .int r_8), (0, .ref a0), (1, .int x1), (2, .int x2), (3, .int x3), (4, .int x4)]) hx hb dM_kinds_30 hl (by decide) rfl (fun ls hl => ?_)
    obtain ⟨n, hw⟩ := hw
    exact L32 _ _ _ _ n _ _ _ _ _ _ _ hw hwo hS (lv_sub hl [2, 3, 4, 6, 1, 0] rfl)
  · replace hw := hw.2 hc_9
    refine lv_iconst (v := 0) hx hb dM_kinds_23 (by decide) ?_
    exact g_zret hC hr hlk (Or.inl rfl) hw hwo hS dM_kinds_24
theorem dM_cell_0 : decode kM_cell 0 = .ok (.aload_n 0, 1) := by decide +kernel
theorem dM_cell_1 : decode kM_cell 1 = .ok (.getfield 101, 3) := by decide +kernel
theorem dM_cell_4 : decode kM_cell 4 = .ok (.aload_n 0, 1) := by decide +kernel
theorem dM_cell_5 : decode kM_cell 5 = .ok (.getfield 104, 3) := by decide +kernel
theorem dM_cell_8 : decode kM_cell 8 = .ok (.bipush 30, 2) := by decide +kernel
theorem dM_cell_10 : decode kM_cell 10 = .ok (.iadd, 1) := by decide +kernel
theorem dM_cell_11 : decode kM_cell 11 = .ok (.iaload, 1) := by decide +kernel
theorem dM_cell_12 : decode kM_cell 12 = .ok (.iconst 2, 1) := by decide +kernel
theorem dM_cell_13 : decode kM_cell 13 = .ok (.if_icmp .ne 22, 3) := by decide +kernel
theorem dM_cell_16 : decode kM_cell 16 = .ok (.bipush 32, 2) := by decide +kernel
theorem dM_cell_18 : decode kM_cell 18 = .ok (.iload_n 2, 1) := by decide +kernel
theorem dM_cell_19 : decode kM_cell 19 = .ok (.aload_n 0, 1) := by decide +kernel
theorem dM_cell_20 : decode kM_cell 20 = .ok (.getfield 265, 3) := by decide +kernel
theorem dM_cell_23 : decode kM_cell 23 = .ok (.irem, 1) := by decide +kernel
theorem dM_cell_24 : decode kM_cell 24 = .ok (.imul, 1) := by decide +kernel
theorem dM_cell_25 : decode kM_cell 25 = .ok (.iload_n 2, 1) := by decide +kernel
theorem dM_cell_26 : decode kM_cell 26 = .ok (.aload_n 0, 1) := by decide +kernel
theorem dM_cell_27 : decode kM_cell 27 = .ok (.getfield 265, 3) := by decide +kernel
theorem dM_cell_30 : decode kM_cell 30 = .ok (.idiv, 1) := by decide +kernel
theorem dM_cell_31 : decode kM_cell 31 = .ok (.iadd, 1) := by decide +kernel
theorem dM_cell_32 : decode kM_cell 32 = .ok (.goto 14, 3) := by decide +kernel
theorem dM_cell_35 : decode kM_cell 35 = .ok (.bipush 32, 2) := by decide +kernel
theorem dM_cell_37 : decode kM_cell 37 = .ok (.aload_n 0, 1) := by decide +kernel
theorem dM_cell_38 : decode kM_cell 38 = .ok (.getfield 126, 3) := by decide +kernel
theorem dM_cell_41 : decode kM_cell 41 = .ok (.iload_n 1, 1) := by decide +kernel
theorem dM_cell_42 : decode kM_cell 42 = .ok (.iaload, 1) := by decide +kernel
theorem dM_cell_43 : decode kM_cell 43 = .ok (.imul, 1) := by decide +kernel
theorem dM_cell_44 : decode kM_cell 44 = .ok (.iload_n 2, 1) := by decide +kernel
theorem dM_cell_45 : decode kM_cell 45 = .ok (.iadd, 1) := by decide +kernel
theorem dM_cell_46 : decode kM_cell 46 = .ok (.ireturn, 1) := by decide +kernel
def wp_M_cell (θ : TH) (a0 : Nat) (x1 : Int32) (x2 : Int32) (V : VT) (U : UT) (K : Int32 → VT → UT → Prop) : Prop := isO θ a0 12 ∧ (U a0 52) ≠ 0 ∧ ∃ n_3, isA θ (U a0 52) 0 n_3 ∧ vp_in ((V a0 53) + (30 : Int32)) n_3 ∧ ((¬ (V (U a0 52) ((V a0 53) + (30 : Int32)).toNatClampNeg) = (2 : Int32) → (U a0 66) ≠ 0 ∧ ∃ n_8, isA θ (U a0 66) 0 n_8 ∧ vp_in x1 n_8 ∧ K (((32 : Int32) * (V (U a0 66) x1.toNatClampNeg)) + x2) V U) ∧ ((V (U a0 52) ((V a0 53) + (30 : Int32)).toNatClampNeg) = (2 : Int32) → ¬ (V a0 41) = 0 ∧ K (((32 : Int32) * (x2 - x2 / (V a0 41) * (V a0 41))) + (x2 / (V a0 41))) V U))
set_option maxRecDepth 100000 in
set_option maxHeartbeats 4000000 in
theorem c_M_cell (l : Launch) (θ : TH) (a0 : Nat) (x1 : Int32) (x2 : Int32) (V : VT) (U : UT) (K : Int32 → VT → UT → Prop) (hw : wp_M_cell θ a0 x1 x2 V U K) : CMi l yM_cell kM_cell 3 (some .int) rmM_cell θ [.ref a0, .int x1, .int x2] V U K := by
  refine g_met nRM (by decide +kernel) rfl (Nat.le_of_ble_eq_true rfl) (fun p e s m args below meth c ls hC hr hlk hwo hl => ?_)
  have hx := hC.1
  have hb := hC.2.1
  have hS : Sx θ s s.heap [] := va_S.rf
  have hl : lv_has ls 3 [(0, .ref a0), (1, .int x1), (2, .int x2)] := hl
  unfold wp_M_cell at hw
  refine lv_aload_n hx hb dM_cell_0 rfl (lv_at hl 0 rfl) ?_
  obtain ⟨ho_1, hw⟩ := hw
  obtain ⟨hz_2, hw⟩ := hw
  refine g_getR hC fkM_101 rfl hwo ho_1 hz_2 dM_cell_1 ?_
  refine lv_aload_n hx hb dM_cell_4 rfl (lv_at hl 0 rfl) ?_
  refine g_getI hC fkM_104 rfl hwo ho_1 dM_cell_5 ?_
  refine lv_bipush (v := 30) hx hb dM_cell_8 (by decide) ?_
  refine lv_iadd hx hb dM_cell_10 ?_
  obtain ⟨n_3, ha_4, hw⟩ := hw
  obtain ⟨hi_5, hw⟩ := hw
  refine g_iald hC hwo ha_4 hi_5 dM_cell_11 ?_
  refine lv_iconst (v := 2) hx hb dM_cell_12 (by decide) ?_
  refine lv_icmp_ne (tgt := 35) hx hb dM_cell_13 (by decide) (fun hc_6 => ?_) (fun hc_6 => ?_)
  · replace hw := hw.1 hc_6
    refine lv_bipush (v := 32) hx hb dM_cell_35 (by decide) ?_
    refine lv_aload_n hx hb dM_cell_37 rfl (lv_at hl 0 rfl) ?_
    obtain ⟨hz_7, hw⟩ := hw
    refine g_getR hC fkM_126 rfl hwo ho_1 hz_7 dM_cell_38 ?_
    refine lv_iload_n hx hb dM_cell_41 rfl (lv_at hl 1 rfl) ?_
    obtain ⟨n_8, ha_9, hw⟩ := hw
    obtain ⟨hi_10, hw⟩ := hw
    refine g_iald hC hwo ha_9 hi_10 dM_cell_42 ?_
    refine lv_imul hx hb dM_cell_43 ?_
    refine lv_iload_n hx hb dM_cell_44 rfl (lv_at hl 2 rfl) ?_
    refine lv_iadd hx hb dM_cell_45 ?_
    exact g_iret hC hr hlk hw hwo hS dM_cell_46
  · replace hw := hw.2 hc_6
    refine lv_bipush (v := 32) hx hb dM_cell_16 (by decide) ?_
    refine lv_iload_n hx hb dM_cell_18 rfl (lv_at hl 2 rfl) ?_
    refine lv_aload_n hx hb dM_cell_19 rfl (lv_at hl 0 rfl) ?_
    refine g_getI hC fkM_265 rfl hwo ho_1 dM_cell_20 ?_
    obtain ⟨hd_11, hw⟩ := hw
    refine lv_irem hx hb dM_cell_23 hd_11 ?_
    refine lv_imul hx hb dM_cell_24 ?_
    refine lv_iload_n hx hb dM_cell_25 rfl (lv_at hl 2 rfl) ?_
    refine lv_aload_n hx hb dM_cell_26 rfl (lv_at hl 0 rfl) ?_
    refine g_getI hC fkM_265 rfl hwo ho_1 dM_cell_27 ?_
    refine lv_idiv hx hb dM_cell_30 hd_11 ?_
    refine lv_iadd hx hb dM_cell_31 ?_
    refine lv_goto (tgt := 46) hx hb dM_cell_32 (by decide) ?_
    exact g_iret hC hr hlk hw hwo hS dM_cell_46
