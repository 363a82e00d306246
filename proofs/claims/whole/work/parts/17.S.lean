theorem dS_octetOf_0 : decode kS_octetOf 0 = .ok (.lload_n 0, 1) := by decide +kernel
theorem dS_octetOf_1 : decode kS_octetOf 1 = .ok (.bipush 8, 2) := by decide +kernel
theorem dS_octetOf_3 : decode kS_octetOf 3 = .ok (.iload_n 2, 1) := by decide +kernel
theorem dS_octetOf_4 : decode kS_octetOf 4 = .ok (.imul, 1) := by decide +kernel
theorem dS_octetOf_5 : decode kS_octetOf 5 = .ok (.lushr, 1) := by decide +kernel
theorem dS_octetOf_6 : decode kS_octetOf 6 = .ok (.l2i, 1) := by decide +kernel
theorem dS_octetOf_7 : decode kS_octetOf 7 = .ok (.sipush 255, 3) := by decide +kernel
theorem dS_octetOf_10 : decode kS_octetOf 10 = .ok (.iand, 1) := by decide +kernel
theorem dS_octetOf_11 : decode kS_octetOf 11 = .ok (.ireturn, 1) := by decide +kernel
def wp_S_octetOf (θ : TH) (w0 : Int64) (x2 : Int32) (V : VT) (U : UT) (K : Int32 → VT → UT → Prop) : Prop := K ((w0.toUInt64 >>> (((8 : Int32) * x2).toInt64.toUInt64 &&& Int64.toUInt64 63)).toInt64.toInt32 &&& (255 : Int32)) V U
set_option maxRecDepth 100000 in
set_option maxHeartbeats 4000000 in
theorem c_S_octetOf (l : Launch) (θ : TH) (w0 : Int64) (x2 : Int32) (V : VT) (U : UT) (K : Int32 → VT → UT → Prop) (hw : wp_S_octetOf θ w0 x2 V U K) : CMi l yS_octetOf kS_octetOf 3 (some .int) rmS_octetOf θ [.long w0, .int x2] V U K := by
  refine g_met nRS (by decide +kernel) rfl (Nat.le_of_ble_eq_true rfl) (fun p e s m args below meth c ls hC hr hlk hwo hl => ?_)
  have hx := hC.1
  have hb := hC.2.1
  have hS : Sx θ s s.heap [] := va_S.rf
  have hl : lv_has ls 3 [(0, .long w0), (2, .int x2)] := hl
  unfold wp_S_octetOf at hw
  refine lv_lload_n hx hb dS_octetOf_0 rfl (lv_at hl 0 rfl) ?_
  refine lv_bipush (v := 8) hx hb dS_octetOf_1 (by decide) ?_
  refine lv_iload_n hx hb dS_octetOf_3 rfl (lv_at hl 1 rfl) ?_
  refine lv_imul hx hb dS_octetOf_4 ?_
  refine lv_lushr hx hb dS_octetOf_5 rfl ?_
  refine lv_l2i hx hb dS_octetOf_6 rfl ?_
  refine lv_sipush (v := 255) hx hb dS_octetOf_7 (by decide) ?_
  refine lv_iand hx hb dS_octetOf_10 ?_
  exact g_iret hC hr hlk hw hwo hS dS_octetOf_11
theorem dS_add_0 : decode kS_add 0 = .ok (.iload_n 3, 1) := by decide +kernel
theorem dS_add_1 : decode kS_add 1 = .ok (.iconst 1, 1) := by decide +kernel
theorem dS_add_2 : decode kS_add 2 = .ok (.if_icmp .lt 20, 3) := by decide +kernel
theorem dS_add_5 : decode kS_add 5 = .ok (.iload_n 3, 1) := by decide +kernel
theorem dS_add_6 : decode kS_add 6 = .ok (.bipush 8, 2) := by decide +kernel
theorem dS_add_8 : decode kS_add 8 = .ok (.if_icmp .gt 14, 3) := by decide +kernel
theorem dS_add_11 : decode kS_add 11 = .ok (.aload_n 0, 1) := by decide +kernel
theorem dS_add_12 : decode kS_add 12 = .ok (.getfield 54, 3) := by decide +kernel
theorem dS_add_15 : decode kS_add 15 = .ok (.iload_n 3, 1) := by decide +kernel
theorem dS_add_16 : decode kS_add 16 = .ok (.iadd, 1) := by decide +kernel
theorem dS_add_17 : decode kS_add 17 = .ok (.bipush 64, 2) := by decide +kernel
theorem dS_add_19 : decode kS_add 19 = .ok (.if_icmp .le 5, 3) := by decide +kernel
theorem dS_add_22 : decode kS_add 22 = .ok (.iconst (-1), 1) := by decide +kernel
theorem dS_add_23 : decode kS_add 23 = .ok (.ireturn, 1) := by decide +kernel
theorem dS_add_24 : decode kS_add 24 = .ok (.iconst 0, 1) := by decide +kernel
theorem dS_add_25 : decode kS_add 25 = .ok (.istore 4, 2) := by decide +kernel
theorem dS_add_27 : decode kS_add 27 = .ok (.iload 4, 2) := by decide +kernel
theorem dS_add_29 : decode kS_add 29 = .ok (.iload_n 3, 1) := by decide +kernel
theorem dS_add_30 : decode kS_add 30 = .ok (.if_icmp .ge 27, 3) := by decide +kernel
theorem dS_add_33 : decode kS_add 33 = .ok (.aload_n 0, 1) := by decide +kernel
theorem dS_add_34 : decode kS_add 34 = .ok (.getfield 16, 3) := by decide +kernel
theorem dS_add_37 : decode kS_add 37 = .ok (.aload_n 0, 1) := by decide +kernel
theorem dS_add_38 : decode kS_add 38 = .ok (.getfield 54, 3) := by decide +kernel
theorem dS_add_41 : decode kS_add 41 = .ok (.iload 4, 2) := by decide +kernel
theorem dS_add_43 : decode kS_add 43 = .ok (.iadd, 1) := by decide +kernel
theorem dS_add_44 : decode kS_add 44 = .ok (.lload_n 1, 1) := by decide +kernel
theorem dS_add_45 : decode kS_add 45 = .ok (.iload 4, 2) := by decide +kernel
theorem dS_add_47 : decode kS_add 47 = .ok (.invokestatic 58, 3) := by decide +kernel
theorem dS_add_50 : decode kS_add 50 = .ok (.iastore, 1) := by decide +kernel
theorem dS_add_51 : decode kS_add 51 = .ok (.iinc 4 1, 3) := by decide +kernel
theorem dS_add_54 : decode kS_add 54 = .ok (.goto (-27), 3) := by decide +kernel
theorem dS_add_57 : decode kS_add 57 = .ok (.aload_n 0, 1) := by decide +kernel
theorem dS_add_58 : decode kS_add 58 = .ok (.dup, 1) := by decide +kernel
theorem dS_add_59 : decode kS_add 59 = .ok (.getfield 54, 3) := by decide +kernel
theorem dS_add_62 : decode kS_add 62 = .ok (.iload_n 3, 1) := by decide +kernel
theorem dS_add_63 : decode kS_add 63 = .ok (.iadd, 1) := by decide +kernel
theorem dS_add_64 : decode kS_add 64 = .ok (.putfield 54, 3) := by decide +kernel
theorem dS_add_67 : decode kS_add 67 = .ok (.aload_n 0, 1) := by decide +kernel
theorem dS_add_68 : decode kS_add 68 = .ok (.getfield 54, 3) := by decide +kernel
theorem dS_add_71 : decode kS_add 71 = .ok (.ireturn, 1) := by decide +kernel
def bl_S_add_27 (θ : TH) (a0_27 : Nat) (w1_27 : Int64) (x3_27 : Int32) (K : Int32 → VT → UT → Prop) (kb27 : Int32 → VT → UT → Prop) (x4_27 : Int32) (V : VT) (U : UT) : Prop := ((x3_27 ≤ x4_27 → isO θ a0_27 0 ∧ ∀ V_7 : VT, V_7 = up2 V a0_27 2 ((V a0_27 2) + x3_27) → K (V_7 a0_27 2) V_7 U) ∧ (¬ x3_27 ≤ x4_27 → isO θ a0_27 0 ∧ (U a0_27 1) ≠ 0 ∧ wp_S_octetOf θ w1_27 x4_27 V U (fun r_12 V_10 U_11 => ∃ n_13, isA θ (U a0_27 1) 0 n_13 ∧ vp_in ((V a0_27 2) + x4_27) n_13 ∧ ∀ V_16 : VT, V_16 = up2 V_10 (U a0_27 1) ((V a0_27 2) + x4_27).toNatClampNeg r_12 → ∀ y_17 : Int32, y_17 = x4_27 + (1 : Int32) → kb27 y_17 V_16 U_11)))
def wl_S_add_27 (θ : TH) (a0_27 : Nat) (w1_27 : Int64) (x3_27 : Int32) (K : Int32 → VT → UT → Prop) : Nat → Int32 → VT → UT → Prop
  | 0, _, _, _ => False
  | n + 1, x4_27, V, U => bl_S_add_27 θ a0_27 w1_27 x3_27 K (wl_S_add_27 θ a0_27 w1_27 x3_27 K n) x4_27 V U
def wp_S_add (θ : TH) (a0 : Nat) (w1 : Int64) (x3 : Int32) (V : VT) (U : UT) (K : Int32 → VT → UT → Prop) : Prop := ((x3 < (1 : Int32) → K (-1 : Int32) V U) ∧ (¬ x3 < (1 : Int32) → (((8 : Int32) < x3 → K (-1 : Int32) V U) ∧ (¬ (8 : Int32) < x3 → isO θ a0 0 ∧ ((((V a0 2) + x3) ≤ (64 : Int32) → ∃ n, wl_S_add_27 θ a0 w1 x3 K n (0 : Int32) V U) ∧ (¬ ((V a0 2) + x3) ≤ (64 : Int32) → K (-1 : Int32) V U))))))
set_option maxRecDepth 100000 in
set_option maxHeartbeats 4000000 in
theorem c_S_add (l : Launch) (θ : TH) (a0 : Nat) (w1 : Int64) (x3 : Int32) (V : VT) (U : UT) (K : Int32 → VT → UT → Prop) (hw : wp_S_add θ a0 w1 x3 V U K) : CMi l yS_add kS_add 5 (some .int) rmS_add θ [.ref a0, .long w1, .int x3] V U K := by
  refine g_met nRS (by decide +kernel) rfl (Nat.le_of_ble_eq_true rfl) (fun p e s m args below meth c ls hC hr hlk hwo hl => ?_)
  have hx := hC.1
  have hb := hC.2.1
  have hS : Sx θ s s.heap [] := va_S.rf
  have hl : lv_has ls 5 [(0, .ref a0), (1, .long w1), (3, .int x3)] := hl
  have L27 : ∀ (a0_27 : Nat) (w1_27 : Int64) (x3_27 : Int32) (n27 : Nat) (x4_27 : Int32) (V : VT) (U : UT) (H : Heap) (locs : List Loc) (ls : Array Slot), wl_S_add_27 θ a0_27 w1_27 x3_27 K n27 x4_27 V U → wo θ V U H → Sx θ s H locs → lv_has ls 5 [(0, .ref a0_27), (1, .long w1_27), (3, .int x3_27), (4, .int x4_27)] → W p l e rmS_add s m args below meth c H locs 0 0 (MQ below (QI θ K) args s 0 0 (aT θ)) (F0 m 27 ls []) := by
    intro a0_27 w1_27 x3_27 n27
    induction n27 with
    | zero => intro x4_27 V U H locs ls hw hwo hS hl; exact (show False from hw).elim
    | succ n27 ih27 =>
      intro x4_27 V U H locs ls hw hwo hS hl
      replace hw : bl_S_add_27 θ a0_27 w1_27 x3_27 K (wl_S_add_27 θ a0_27 w1_27 x3_27 K n27) x4_27 V U := hw
      unfold bl_S_add_27 at hw
      refine lv_iload hx hb dS_add_27 (lv_at hl 3 rfl) ?_
      refine lv_iload_n hx hb dS_add_29 rfl (lv_at hl 2 rfl) ?_
      refine lv_icmp_ge (tgt := 57) hx hb dS_add_30 (by decide) (fun hc_5 => ?_) (fun hc_5 => ?_)
      · replace hw := hw.1 hc_5
        refine lv_aload_n hx hb dS_add_57 rfl (lv_at hl 0 rfl) ?_
        refine lv_dup hx hb dS_add_58 rfl ?_
        obtain ⟨ho_6, hw⟩ := hw
        refine g_getI hC fkS_54 rfl hwo ho_6 dS_add_59 ?_
        refine lv_iload_n hx hb dS_add_62 rfl (lv_at hl 2 rfl) ?_
        refine lv_iadd hx hb dS_add_63 ?_
        refine g_putI hC fkS_54 rfl hwo hS ho_6 dS_add_64 (fun V_7 eV_7 H locs hwo hS => ?_)
        replace hw := hw V_7 eV_7
        refine lv_aload_n hx hb dS_add_67 rfl (lv_at hl 0 rfl) ?_
        refine g_getI hC fkS_54 rfl hwo ho_6 dS_add_68 ?_
        exact g_iret hC hr hlk hw hwo hS dS_add_71
      · replace hw := hw.2 hc_5
        refine lv_aload_n hx hb dS_add_33 rfl (lv_at hl 0 rfl) ?_
        obtain ⟨ho_8, hw⟩ := hw
        obtain ⟨hz_9, hw⟩ := hw
        refine g_getR hC fkS_16 rfl hwo ho_8 hz_9 dS_add_34 ?_
        refine lv_aload_n hx hb dS_add_37 rfl (lv_at hl 0 rfl) ?_
        refine g_getI hC fkS_54 rfl hwo ho_8 dS_add_38 ?_
        refine lv_iload hx hb dS_add_41 (lv_at hl 3 rfl) ?_
        refine lv_iadd hx hb dS_add_43 ?_
        refine lv_lload_n hx hb dS_add_44 rfl (lv_at hl 1 rfl) ?_
        refine lv_iload hx hb dS_add_45 (lv_at hl 3 rfl) ?_
        refine g_Si (rest := [.int ((V a0_27 2) + x4_27), .ref (U a0_27 1)]) hC (c_S_octetOf l θ _ _ _ _ _ hw) mi_S_octetOf mlS_58 ms_S_octetOf hwo hS ⟨rfl, rfl⟩ ⟨by decide, by decide⟩ rfl hl.1 rfl (Nat.le_of_ble_eq_true rfl) dS_add_47 (fun r_12 V_10 U_11 hw H locs hwo hS => ?_)
        obtain ⟨n_13, ha_14, hw⟩ := hw
        obtain ⟨hi_15, hw⟩ := hw
        refine g_iast hC hwo hS ha_14 hi_15 dS_add_50 (fun V_16 eV_16 H locs hwo hS => ?_)
        replace hw := hw V_16 eV_16
        obtain ⟨y_17, ey_17⟩ : ∃ z : Int32, z = x4_27 + (1 : Int32) := ⟨_, rfl⟩
        replace hw := hw y_17 ey_17
        refine lv_iinc (k := 3) (v := y_17) (lv' := [(4, .int y_17), (0, .ref a0_27), (1, .long w1_27), (3, .int x3_27)]) hx hb dS_add_51 hl rfl (by rw [ey_17]; rfl) (by decide) rfl (fun ls hl => ?_)
        refine lv_goto (tgt := 27) hx hb dS_add_54 (by decide) ?_
        exact ih27 _ _ _ _ _ _ hw hwo hS (lv_sub hl [1, 2, 3, 0] rfl)
  unfold wp_S_add at hw
  refine lv_iload_n hx hb dS_add_0 rfl (lv_at hl 2 rfl) ?_
  refine lv_iconst (v := 1) hx hb dS_add_1 (by decide) ?_
  refine lv_icmp_lt (tgt := 22) hx hb dS_add_2 (by decide) (fun hc_1 => ?_) (fun hc_1 => ?_)
  · replace hw := hw.1 hc_1
    refine lv_iconst (v := -1) hx hb dS_add_22 (by decide) ?_
    exact g_iret hC hr hlk hw hwo hS dS_add_23
  · replace hw := hw.2 hc_1
    refine lv_iload_n hx hb dS_add_5 rfl (lv_at hl 2 rfl) ?_
    refine lv_bipush (v := 8) hx hb dS_add_6 (by decide) ?_
    refine lv_icmp_gt (tgt := 22) hx hb dS_add_8 (by decide) (fun hc_2 => ?_) (fun hc_2 => ?_)
    · replace hw := hw.1 hc_2
      refine lv_iconst (v := -1) hx hb dS_add_22 (by decide) ?_
      exact g_iret hC hr hlk hw hwo hS dS_add_23
    · replace hw := hw.2 hc_2
      refine lv_aload_n hx hb dS_add_11 rfl (lv_at hl 0 rfl) ?_
      obtain ⟨ho_3, hw⟩ := hw
      refine g_getI hC fkS_54 rfl hwo ho_3 dS_add_12 ?_
      refine lv_iload_n hx hb dS_add_15 rfl (lv_at hl 2 rfl) ?_
      refine lv_iadd hx hb dS_add_16 ?_
      refine lv_bipush (v := 64) hx hb dS_add_17 (by decide) ?_
      refine lv_icmp_le (tgt := 24) hx hb dS_add_19 (by decide) (fun hc_4 => ?_) (fun hc_4 => ?_)
      · replace hw := hw.1 hc_4
        refine lv_iconst (v := 0) hx hb dS_add_24 (by decide) ?_
        refine lv_istore (i := 4) (lv' := [(4, .int (0 : Int32)), (0, .ref a0), (1, .long w1), (3, .int x3)]) hx hb dS_add_25 hl (by decide) rfl (fun ls hl => ?_)
        obtain ⟨n, hw⟩ := hw
        exact L27 _ _ _ n _ _ _ _ _ _ hw hwo hS (lv_sub hl [1, 2, 3, 0] rfl)
      · replace hw := hw.2 hc_4
        refine lv_iconst (v := -1) hx hb dS_add_22 (by decide) ?_
        exact g_iret hC hr hlk hw hwo hS dS_add_23
theorem dS_send_0 : decode kS_send 0 = .ok (.iload_n 1, 1) := by decide +kernel
theorem dS_send_1 : decode kS_send 1 = .ok (.ifCond .lt 18, 3) := by decide +kernel
theorem dS_send_4 : decode kS_send 4 = .ok (.iload_n 1, 1) := by decide +kernel
theorem dS_send_5 : decode kS_send 5 = .ok (.iconst 4, 1) := by decide +kernel
theorem dS_send_6 : decode kS_send 6 = .ok (.if_icmp .ge 13, 3) := by decide +kernel
theorem dS_send_9 : decode kS_send 9 = .ok (.iload_n 2, 1) := by decide +kernel
theorem dS_send_10 : decode kS_send 10 = .ok (.ifCond .lt 9, 3) := by decide +kernel
theorem dS_send_13 : decode kS_send 13 = .ok (.iload_n 2, 1) := by decide +kernel
theorem dS_send_14 : decode kS_send 14 = .ok (.ldc 62, 2) := by decide +kernel
theorem dS_send_16 : decode kS_send 16 = .ok (.if_icmp .lt 5, 3) := by decide +kernel
theorem dS_send_19 : decode kS_send 19 = .ok (.iconst (-1), 1) := by decide +kernel
theorem dS_send_20 : decode kS_send 20 = .ok (.ireturn, 1) := by decide +kernel
theorem dS_send_21 : decode kS_send 21 = .ok (.aload_n 0, 1) := by decide +kernel
theorem dS_send_22 : decode kS_send 22 = .ok (.getfield 22, 3) := by decide +kernel
theorem dS_send_25 : decode kS_send 25 = .ok (.iload_n 1, 1) := by decide +kernel
theorem dS_send_26 : decode kS_send 26 = .ok (.aaload, 1) := by decide +kernel
theorem dS_send_27 : decode kS_send 27 = .ok (.aload_n 0, 1) := by decide +kernel
theorem dS_send_28 : decode kS_send 28 = .ok (.getfield 10, 3) := by decide +kernel
theorem dS_send_31 : decode kS_send 31 = .ok (.aload_n 0, 1) := by decide +kernel
theorem dS_send_32 : decode kS_send 32 = .ok (.getfield 16, 3) := by decide +kernel
theorem dS_send_35 : decode kS_send 35 = .ok (.aload_n 0, 1) := by decide +kernel
theorem dS_send_36 : decode kS_send 36 = .ok (.getfield 54, 3) := by decide +kernel
theorem dS_send_39 : decode kS_send 39 = .ok (.iload_n 2, 1) := by decide +kernel
theorem dS_send_40 : decode kS_send 40 = .ok (.invokevirtual 63, 3) := by decide +kernel
theorem dS_send_43 : decode kS_send 43 = .ok (.istore_n 3, 1) := by decide +kernel
theorem dS_send_44 : decode kS_send 44 = .ok (.iload_n 3, 1) := by decide +kernel
theorem dS_send_45 : decode kS_send 45 = .ok (.iconst (-1), 1) := by decide +kernel
theorem dS_send_46 : decode kS_send 46 = .ok (.if_icmp .eq 8, 3) := by decide +kernel
theorem dS_send_49 : decode kS_send 49 = .ok (.aload_n 0, 1) := by decide +kernel
theorem dS_send_50 : decode kS_send 50 = .ok (.iconst 0, 1) := by decide +kernel
theorem dS_send_51 : decode kS_send 51 = .ok (.putfield 54, 3) := by decide +kernel
theorem dS_send_54 : decode kS_send 54 = .ok (.iload_n 3, 1) := by decide +kernel
theorem dS_send_55 : decode kS_send 55 = .ok (.ireturn, 1) := by decide +kernel
def wp_S_send (θ : TH) (a0 : Nat) (x1 : Int32) (x2 : Int32) (V : VT) (U : UT) (K : Int32 → VT → UT → Prop) : Prop := ((x1 < 0 → K (-1 : Int32) V U) ∧ (¬ x1 < 0 → (((4 : Int32) ≤ x1 → K (-1 : Int32) V U) ∧ (¬ (4 : Int32) ≤ x1 → ((x2 < 0 → K (-1 : Int32) V U) ∧ (¬ x2 < 0 → ((x2 < (65535 : Int32) → isO θ a0 0 ∧ (U a0 3) ≠ 0 ∧ ∃ n_7, isR θ (U a0 3) 2 n_7 ∧ vp_in x1 n_7 ∧ (U (U a0 3) x1.toNatClampNeg) ≠ 0 ∧ (U a0 0) ≠ 0 ∧ (U a0 1) ≠ 0 ∧ isO θ (U (U a0 3) x1.toNatClampNeg) 2 ∧ wp_O_post θ (U (U a0 3) x1.toNatClampNeg) (U a0 0) (U a0 1) (V a0 2) x2 V U (fun r_16 V_13 U_14 => ((r_16 = (-1 : Int32) → K r_16 V_13 U_14) ∧ (¬ r_16 = (-1 : Int32) → ∀ V_18 : VT, V_18 = up2 V_13 a0 2 (0 : Int32) → K r_16 V_18 U_14)))) ∧ (¬ x2 < (65535 : Int32) → K (-1 : Int32) V U))))))))
set_option maxRecDepth 100000 in
set_option maxHeartbeats 4000000 in
theorem c_S_send (l : Launch) (θ : TH) (a0 : Nat) (x1 : Int32) (x2 : Int32) (V : VT) (U : UT) (K : Int32 → VT → UT → Prop) (hw : wp_S_send θ a0 x1 x2 V U K) : CMi l yS_send kS_send 4 (some .int) rmS_send θ [.ref a0, .int x1, .int x2] V U K := by
  refine g_met nRS (by decide +kernel) rfl (Nat.le_of_ble_eq_true rfl) (fun p e s m args below meth c ls hC hr hlk hwo hl => ?_)
  have hx := hC.1
  have hb := hC.2.1
  have hS : Sx θ s s.heap [] := va_S.rf
  have hl : lv_has ls 4 [(0, .ref a0), (1, .int x1), (2, .int x2)] := hl
  unfold wp_S_send at hw
  refine lv_iload_n hx hb dS_send_0 rfl (lv_at hl 1 rfl) ?_
  refine lv_if_lt (tgt := 19) hx hb dS_send_1 (by decide) (fun hc_1 => ?_) (fun hc_1 => ?_)
  · replace hw := hw.1 hc_1
    refine lv_iconst (v := -1) hx hb dS_send_19 (by decide) ?_
    exact g_iret hC hr hlk hw hwo hS dS_send_20
  · replace hw := hw.2 hc_1
    refine lv_iload_n hx hb dS_send_4 rfl (lv_at hl 1 rfl) ?_
    refine lv_iconst (v := 4) hx hb dS_send_5 (by decide) ?_
    refine lv_icmp_ge (tgt := 19) hx hb dS_send_6 (by decide) (fun hc_2 => ?_) (fun hc_2 => ?_)
    · replace hw := hw.1 hc_2
      refine lv_iconst (v := -1) hx hb dS_send_19 (by decide) ?_
      exact g_iret hC hr hlk hw hwo hS dS_send_20
    · replace hw := hw.2 hc_2
      refine lv_iload_n hx hb dS_send_9 rfl (lv_at hl 2 rfl) ?_
      refine lv_if_lt (tgt := 19) hx hb dS_send_10 (by decide) (fun hc_3 => ?_) (fun hc_3 => ?_)
      · replace hw := hw.1 hc_3
        refine lv_iconst (v := -1) hx hb dS_send_19 (by decide) ?_
        exact g_iret hC hr hlk hw hwo hS dS_send_20
      · replace hw := hw.2 hc_3
        refine lv_iload_n hx hb dS_send_13 rfl (lv_at hl 2 rfl) ?_
        refine lv_ldc hx hb hC.2.2.2.1 (hC.2.2.2.2.1 _ kcS_62) dS_send_14 ?_
        refine lv_icmp_lt (tgt := 21) hx hb dS_send_16 (by decide) (fun hc_4 => ?_) (fun hc_4 => ?_)
        · replace hw := hw.1 hc_4
          refine lv_aload_n hx hb dS_send_21 rfl (lv_at hl 0 rfl) ?_
          obtain ⟨ho_5, hw⟩ := hw
          obtain ⟨hz_6, hw⟩ := hw
          refine g_getR hC fkS_22 rfl hwo ho_5 hz_6 dS_send_22 ?_
          refine lv_iload_n hx hb dS_send_25 rfl (lv_at hl 1 rfl) ?_
          obtain ⟨n_7, ha_8, hw⟩ := hw
          obtain ⟨hi_9, hw⟩ := hw
          obtain ⟨hz_10, hw⟩ := hw
          refine g_aald hC hwo (t := 2) (by decide) rfl ha_8 hi_9 hz_10 dS_send_26 ?_
          refine lv_aload_n hx hb dS_send_27 rfl (lv_at hl 0 rfl) ?_
          obtain ⟨hz_11, hw⟩ := hw
          refine g_getR hC fkS_10 rfl hwo ho_5 hz_11 dS_send_28 ?_
          refine lv_aload_n hx hb dS_send_31 rfl (lv_at hl 0 rfl) ?_
          obtain ⟨hz_12, hw⟩ := hw
          refine g_getR hC fkS_16 rfl hwo ho_5 hz_12 dS_send_32 ?_
          refine lv_aload_n hx hb dS_send_35 rfl (lv_at hl 0 rfl) ?_
          refine g_getI hC fkS_54 rfl hwo ho_5 dS_send_36 ?_
          refine lv_iload_n hx hb dS_send_39 rfl (lv_at hl 2 rfl) ?_
          obtain ⟨ho_15, hw⟩ := hw
          refine g_Vi (rest := []) hC (c_O_post l θ _ _ _ _ _ _ _ _ hw) mi_O_post mlS_63 mv_O_post ci_2 ho_15 hwo hS ⟨rfl, rfl⟩ ⟨by decide, by decide⟩ rfl hl.1 rfl (Nat.le_of_ble_eq_true rfl) dS_send_40 (fun r_16 V_13 U_14 hw H locs hwo hS => ?_)
          refine lv_istore_n (i := 3) (lv' := [(3, .int r_16), (0, .ref a0), (1, .int x1), (2, .int x2)]) hx hb dS_send_43 rfl hl (by decide) rfl (fun ls hl => ?_)
          refine lv_iload_n hx hb dS_send_44 rfl (lv_at hl 0 rfl) ?_
          refine lv_iconst (v := -1) hx hb dS_send_45 (by decide) ?_
          refine lv_icmp_eq (tgt := 54) hx hb dS_send_46 (by decide) (fun hc_17 => ?_) (fun hc_17 => ?_)
          · replace hw := hw.1 hc_17
            refine lv_iload_n hx hb dS_send_54 rfl (lv_at hl 0 rfl) ?_
            exact g_iret hC hr hlk hw hwo hS dS_send_55
          · replace hw := hw.2 hc_17
            refine lv_aload_n hx hb dS_send_49 rfl (lv_at hl 1 rfl) ?_
            refine lv_iconst (v := 0) hx hb dS_send_50 (by decide) ?_
            refine g_putI hC fkS_54 rfl hwo hS ho_5 dS_send_51 (fun V_18 eV_18 H locs hwo hS => ?_)
            replace hw := hw V_18 eV_18
            refine lv_iload_n hx hb dS_send_54 rfl (lv_at hl 0 rfl) ?_
            exact g_iret hC hr hlk hw hwo hS dS_send_55
        · replace hw := hw.2 hc_4
          refine lv_iconst (v := -1) hx hb dS_send_19 (by decide) ?_
          exact g_iret hC hr hlk hw hwo hS dS_send_20
theorem dS_flush_0 : decode kS_flush 0 = .ok (.iload_n 1, 1) := by decide +kernel
theorem dS_flush_1 : decode kS_flush 1 = .ok (.ifCond .lt 8, 3) := by decide +kernel
theorem dS_flush_4 : decode kS_flush 4 = .ok (.iload_n 1, 1) := by decide +kernel
theorem dS_flush_5 : decode kS_flush 5 = .ok (.iconst 4, 1) := by decide +kernel
theorem dS_flush_6 : decode kS_flush 6 = .ok (.if_icmp .lt 5, 3) := by decide +kernel
theorem dS_flush_9 : decode kS_flush 9 = .ok (.iconst (-1), 1) := by decide +kernel
theorem dS_flush_10 : decode kS_flush 10 = .ok (.ireturn, 1) := by decide +kernel
theorem dS_flush_11 : decode kS_flush 11 = .ok (.aload_n 0, 1) := by decide +kernel
theorem dS_flush_12 : decode kS_flush 12 = .ok (.getfield 22, 3) := by decide +kernel
theorem dS_flush_15 : decode kS_flush 15 = .ok (.iload_n 1, 1) := by decide +kernel
theorem dS_flush_16 : decode kS_flush 16 = .ok (.aaload, 1) := by decide +kernel
theorem dS_flush_17 : decode kS_flush 17 = .ok (.aload_n 0, 1) := by decide +kernel
theorem dS_flush_18 : decode kS_flush 18 = .ok (.getfield 10, 3) := by decide +kernel
theorem dS_flush_21 : decode kS_flush 21 = .ok (.iload_n 2, 1) := by decide +kernel
theorem dS_flush_22 : decode kS_flush 22 = .ok (.invokevirtual 67, 3) := by decide +kernel
theorem dS_flush_25 : decode kS_flush 25 = .ok (.ireturn, 1) := by decide +kernel
def wp_S_flush (θ : TH) (a0 : Nat) (x1 : Int32) (x2 : Int32) (V : VT) (U : UT) (K : Int32 → VT → UT → Prop) : Prop := ((x1 < 0 → K (-1 : Int32) V U) ∧ (¬ x1 < 0 → ((x1 < (4 : Int32) → isO θ a0 0 ∧ (U a0 3) ≠ 0 ∧ ∃ n_5, isR θ (U a0 3) 2 n_5 ∧ vp_in x1 n_5 ∧ (U (U a0 3) x1.toNatClampNeg) ≠ 0 ∧ (U a0 0) ≠ 0 ∧ isO θ (U (U a0 3) x1.toNatClampNeg) 2 ∧ wp_O_empty θ (U (U a0 3) x1.toNatClampNeg) (U a0 0) x2 V U (fun r_13 V_10 U_11 => K r_13 V_10 U_11)) ∧ (¬ x1 < (4 : Int32) → K (-1 : Int32) V U))))
set_option maxRecDepth 100000 in
set_option maxHeartbeats 4000000 in
theorem c_S_flush (l : Launch) (θ : TH) (a0 : Nat) (x1 : Int32) (x2 : Int32) (V : VT) (U : UT) (K : Int32 → VT → UT → Prop) (hw : wp_S_flush θ a0 x1 x2 V U K) : CMi l yS_flush kS_flush 3 (some .int) rmS_flush θ [.ref a0, .int x1, .int x2] V U K := by
  refine g_met nRS (by decide +kernel) rfl (Nat.le_of_ble_eq_true rfl) (fun p e s m args below meth c ls hC hr hlk hwo hl => ?_)
  have hx := hC.1
  have hb := hC.2.1
  have hS : Sx θ s s.heap [] := va_S.rf
  have hl : lv_has ls 3 [(0, .ref a0), (1, .int x1), (2, .int x2)] := hl
  unfold wp_S_flush at hw
  refine lv_iload_n hx hb dS_flush_0 rfl (lv_at hl 1 rfl) ?_
  refine lv_if_lt (tgt := 9) hx hb dS_flush_1 (by decide) (fun hc_1 => ?_) (fun hc_1 => ?_)
  · replace hw := hw.1 hc_1
    refine lv_iconst (v := -1) hx hb dS_flush_9 (by decide) ?_
    exact g_iret hC hr hlk hw hwo hS dS_flush_10
  · replace hw := hw.2 hc_1
    refine lv_iload_n hx hb dS_flush_4 rfl (lv_at hl 1 rfl) ?_
    refine lv_iconst (v := 4) hx hb dS_flush_5 (by decide) ?_
    refine lv_icmp_lt (tgt := 11) hx hb dS_flush_6 (by decide) (fun hc_2 => ?_) (fun hc_2 => ?_)
    · replace hw := hw.1 hc_2
      refine lv_aload_n hx hb dS_flush_11 rfl (lv_at hl 0 rfl) ?_
      obtain ⟨ho_3, hw⟩ := hw
      obtain ⟨hz_4, hw⟩ := hw
      refine g_getR hC fkS_22 rfl hwo ho_3 hz_4 dS_flush_12 ?_
      refine lv_iload_n hx hb dS_flush_15 rfl (lv_at hl 1 rfl) ?_
      obtain ⟨n_5, ha_6, hw⟩ := hw
      obtain ⟨hi_7, hw⟩ := hw
      obtain ⟨hz_8, hw⟩ := hw
      refine g_aald hC hwo (t := 2) (by decide) rfl ha_6 hi_7 hz_8 dS_flush_16 ?_
      refine lv_aload_n hx hb dS_flush_17 rfl (lv_at hl 0 rfl) ?_
      obtain ⟨hz_9, hw⟩ := hw
      refine g_getR hC fkS_10 rfl hwo ho_3 hz_9 dS_flush_18 ?_
      refine lv_iload_n hx hb dS_flush_21 rfl (lv_at hl 2 rfl) ?_
      obtain ⟨ho_12, hw⟩ := hw
      refine g_Vi (rest := []) hC (c_O_empty l θ _ _ _ _ _ _ hw) mi_O_empty mlS_67 mv_O_empty ci_2 ho_12 hwo hS ⟨rfl, rfl⟩ ⟨by decide, by decide⟩ rfl hl.1 rfl (Nat.le_of_ble_eq_true rfl) dS_flush_22 (fun r_13 V_10 U_11 hw H locs hwo hS => ?_)
      exact g_iret hC hr hlk hw hwo hS dS_flush_25
    · replace hw := hw.2 hc_2
      refine lv_iconst (v := -1) hx hb dS_flush_9 (by decide) ?_
      exact g_iret hC hr hlk hw hwo hS dS_flush_10
theorem dS_raw_0 : decode kS_raw 0 = .ok (.iload_n 3, 1) := by decide +kernel
theorem dS_raw_1 : decode kS_raw 1 = .ok (.iconst 1, 1) := by decide +kernel
theorem dS_raw_2 : decode kS_raw 2 = .ok (.if_icmp .lt 20, 3) := by decide +kernel
theorem dS_raw_5 : decode kS_raw 5 = .ok (.iload_n 3, 1) := by decide +kernel
theorem dS_raw_6 : decode kS_raw 6 = .ok (.bipush 8, 2) := by decide +kernel
theorem dS_raw_8 : decode kS_raw 8 = .ok (.if_icmp .gt 14, 3) := by decide +kernel
theorem dS_raw_11 : decode kS_raw 11 = .ok (.aload_n 0, 1) := by decide +kernel
theorem dS_raw_12 : decode kS_raw 12 = .ok (.getfield 10, 3) := by decide +kernel
theorem dS_raw_15 : decode kS_raw 15 = .ok (.iload_n 3, 1) := by decide +kernel
theorem dS_raw_16 : decode kS_raw 16 = .ok (.invokevirtual 71, 3) := by decide +kernel
theorem dS_raw_19 : decode kS_raw 19 = .ok (.ifCond .ne 5, 3) := by decide +kernel
theorem dS_raw_22 : decode kS_raw 22 = .ok (.iconst (-1), 1) := by decide +kernel
theorem dS_raw_23 : decode kS_raw 23 = .ok (.ireturn, 1) := by decide +kernel
theorem dS_raw_24 : decode kS_raw 24 = .ok (.iconst 0, 1) := by decide +kernel
theorem dS_raw_25 : decode kS_raw 25 = .ok (.istore 4, 2) := by decide +kernel
theorem dS_raw_27 : decode kS_raw 27 = .ok (.iload 4, 2) := by decide +kernel
theorem dS_raw_29 : decode kS_raw 29 = .ok (.iload_n 3, 1) := by decide +kernel
theorem dS_raw_30 : decode kS_raw 30 = .ok (.if_icmp .ge 22, 3) := by decide +kernel
theorem dS_raw_33 : decode kS_raw 33 = .ok (.aload_n 0, 1) := by decide +kernel
theorem dS_raw_34 : decode kS_raw 34 = .ok (.getfield 10, 3) := by decide +kernel
theorem dS_raw_37 : decode kS_raw 37 = .ok (.lload_n 1, 1) := by decide +kernel
theorem dS_raw_38 : decode kS_raw 38 = .ok (.iload 4, 2) := by decide +kernel
theorem dS_raw_40 : decode kS_raw 40 = .ok (.invokestatic 58, 3) := by decide +kernel
theorem dS_raw_43 : decode kS_raw 43 = .ok (.invokevirtual 75, 3) := by decide +kernel
theorem dS_raw_46 : decode kS_raw 46 = .ok (.iinc 4 1, 3) := by decide +kernel
theorem dS_raw_49 : decode kS_raw 49 = .ok (.goto (-22), 3) := by decide +kernel
theorem dS_raw_52 : decode kS_raw 52 = .ok (.aload_n 0, 1) := by decide +kernel
theorem dS_raw_53 : decode kS_raw 53 = .ok (.getfield 10, 3) := by decide +kernel
theorem dS_raw_56 : decode kS_raw 56 = .ok (.getfield 78, 3) := by decide +kernel
theorem dS_raw_59 : decode kS_raw 59 = .ok (.ireturn, 1) := by decide +kernel
def bl_S_raw_27 (θ : TH) (a0_27 : Nat) (w1_27 : Int64) (x3_27 : Int32) (K : Int32 → VT → UT → Prop) (kb27 : Int32 → VT → UT → Prop) (x4_27 : Int32) (V : VT) (U : UT) : Prop := ((x3_27 ≤ x4_27 → isO θ a0_27 0 ∧ (U a0_27 0) ≠ 0 ∧ isO θ (U a0_27 0) 1 ∧ K (V (U a0_27 0) 1) V U) ∧ (¬ x3_27 ≤ x4_27 → isO θ a0_27 0 ∧ (U a0_27 0) ≠ 0 ∧ wp_S_octetOf θ w1_27 x4_27 V U (fun r_18 V_16 U_17 => isO θ (U a0_27 0) 1 ∧ wp_W_append θ (U a0_27 0) r_18 V_16 U_17 (fun V_19 U_20 => ∀ y_22 : Int32, y_22 = x4_27 + (1 : Int32) → kb27 y_22 V_19 U_20))))
def wl_S_raw_27 (θ : TH) (a0_27 : Nat) (w1_27 : Int64) (x3_27 : Int32) (K : Int32 → VT → UT → Prop) : Nat → Int32 → VT → UT → Prop
  | 0, _, _, _ => False
  | n + 1, x4_27, V, U => bl_S_raw_27 θ a0_27 w1_27 x3_27 K (wl_S_raw_27 θ a0_27 w1_27 x3_27 K n) x4_27 V U
def wp_S_raw (θ : TH) (a0 : Nat) (w1 : Int64) (x3 : Int32) (V : VT) (U : UT) (K : Int32 → VT → UT → Prop) : Prop := ((x3 < (1 : Int32) → K (-1 : Int32) V U) ∧ (¬ x3 < (1 : Int32) → (((8 : Int32) < x3 → K (-1 : Int32) V U) ∧ (¬ (8 : Int32) < x3 → isO θ a0 0 ∧ (U a0 0) ≠ 0 ∧ isO θ (U a0 0) 1 ∧ wp_W_hasRoom θ (U a0 0) x3 V U (fun r_8 V_5 U_6 => ((¬ r_8 = 0 → ∃ n, wl_S_raw_27 θ a0 w1 x3 K n (0 : Int32) V_5 U_6) ∧ (r_8 = 0 → K (-1 : Int32) V_5 U_6)))))))
set_option maxRecDepth 100000 in
set_option maxHeartbeats 4000000 in
theorem c_S_raw (l : Launch) (θ : TH) (a0 : Nat) (w1 : Int64) (x3 : Int32) (V : VT) (U : UT) (K : Int32 → VT → UT → Prop) (hw : wp_S_raw θ a0 w1 x3 V U K) : CMi l yS_raw kS_raw 5 (some .int) rmS_raw θ [.ref a0, .long w1, .int x3] V U K := by
  refine g_met nRS (by decide +kernel) rfl (Nat.le_of_ble_eq_true rfl) (fun p e s m args below meth c ls hC hr hlk hwo hl => ?_)
  have hx := hC.1
  have hb := hC.2.1
  have hS : Sx θ s s.heap [] := va_S.rf
  have hl : lv_has ls 5 [(0, .ref a0), (1, .long w1), (3, .int x3)] := hl
  have L27 : ∀ (a0_27 : Nat) (w1_27 : Int64) (x3_27 : Int32) (n27 : Nat) (x4_27 : Int32) (V : VT) (U : UT) (H : Heap) (locs : List Loc) (ls : Array Slot), wl_S_raw_27 θ a0_27 w1_27 x3_27 K n27 x4_27 V U → wo θ V U H → Sx θ s H locs → lv_has ls 5 [(0, .ref a0_27), (1, .long w1_27), (3, .int x3_27), (4, .int x4_27)] → W p l e rmS_raw s m args below meth c H locs 0 0 (MQ below (QI θ K) args s 0 0 (aT θ)) (F0 m 27 ls []) := by
    intro a0_27 w1_27 x3_27 n27
    induction n27 with
    | zero => intro x4_27 V U H locs ls hw hwo hS hl; exact (show False from hw).elim
    | succ n27 ih27 =>
      intro x4_27 V U H locs ls hw hwo hS hl
      replace hw : bl_S_raw_27 θ a0_27 w1_27 x3_27 K (wl_S_raw_27 θ a0_27 w1_27 x3_27 K n27) x4_27 V U := hw
      unfold bl_S_raw_27 at hw
      refine lv_iload hx hb dS_raw_27 (lv_at hl 3 rfl) ?_
      refine lv_iload_n hx hb dS_raw_29 rfl (lv_at hl 2 rfl) ?_
      refine lv_icmp_ge (tgt := 52) hx hb dS_raw_30 (by decide) (fun hc_10 => ?_) (fun hc_10 => ?_)
      · replace hw := hw.1 hc_10
        refine lv_aload_n hx hb dS_raw_52 rfl (lv_at hl 0 rfl) ?_
        obtain ⟨ho_11, hw⟩ := hw
        obtain ⟨hz_12, hw⟩ := hw
        refine g_getR hC fkS_10 rfl hwo ho_11 hz_12 dS_raw_53 ?_
        obtain ⟨ho_13, hw⟩ := hw
        refine g_getI hC fkS_78 rfl hwo ho_13 dS_raw_56 ?_
        exact g_iret hC hr hlk hw hwo hS dS_raw_59
      · replace hw := hw.2 hc_10
        refine lv_aload_n hx hb dS_raw_33 rfl (lv_at hl 0 rfl) ?_
        obtain ⟨ho_14, hw⟩ := hw
        obtain ⟨hz_15, hw⟩ := hw
        refine g_getR hC fkS_10 rfl hwo ho_14 hz_15 dS_raw_34 ?_
        refine lv_lload_n hx hb dS_raw_37 rfl (lv_at hl 1 rfl) ?_
        refine lv_iload hx hb dS_raw_38 (lv_at hl 3 rfl) ?_
        refine g_Si (rest := [.ref (U a0_27 0)]) hC (c_S_octetOf l θ _ _ _ _ _ hw) mi_S_octetOf mlS_58 ms_S_octetOf hwo hS ⟨rfl, rfl⟩ ⟨by decide, by decide⟩ rfl hl.1 rfl (Nat.le_of_ble_eq_true rfl) dS_raw_40 (fun r_18 V_16 U_17 hw H locs hwo hS => ?_)
        obtain ⟨ho_21, hw⟩ := hw
        refine g_Vv (rest := []) hC (c_W_append l θ _ _ _ _ _ hw) mi_W_append mlS_75 mv_W_append ci_1 ho_21 hwo hS ⟨rfl, rfl⟩ ⟨by decide, by decide⟩ rfl hl.1 rfl (Nat.le_of_ble_eq_true rfl) dS_raw_43 (fun V_19 U_20 hw H locs hwo hS => ?_)
        obtain ⟨y_22, ey_22⟩ : ∃ z : Int32, z = x4_27 + (1 : Int32) := ⟨_, rfl⟩
        replace hw := hw y_22 ey_22
        refine lv_iinc (k := 3) (v := y_22) (lv' := [(4, .int y_22), (0, .ref a0_27), (1, .long w1_27), (3, .int x3_27)]) hx hb dS_raw_46 hl rfl (by rw [ey_22]; rfl) (by decide) rfl (fun ls hl => ?_)
        refine lv_goto (tgt := 27) hx hb dS_raw_49 (by decide) ?_
        exact ih27 _ _ _ _ _ _ hw hwo hS (lv_sub hl [1, 2, 3, 0] rfl)
  unfold wp_S_raw at hw
  refine lv_iload_n hx hb dS_raw_0 rfl (lv_at hl 2 rfl) ?_
  refine lv_iconst (v := 1) hx hb dS_raw_1 (by decide) ?_
  refine lv_icmp_lt (tgt := 22) hx hb dS_raw_2 (by decide) (fun hc_1 => ?_) (fun hc_1 => ?_)
  · replace hw := hw.1 hc_1
    refine lv_iconst (v := -1) hx hb dS_raw_22 (by decide) ?_
    exact g_iret hC hr hlk hw hwo hS dS_raw_23
  · replace hw := hw.2 hc_1
    refine lv_iload_n hx hb dS_raw_5 rfl (lv_at hl 2 rfl) ?_
    refine lv_bipush (v := 8) hx hb dS_raw_6 (by decide) ?_
    refine lv_icmp_gt (tgt := 22) hx hb dS_raw_8 (by decide) (fun hc_2 => ?_) (fun hc_2 => ?_)
    · replace hw := hw.1 hc_2
      refine lv_iconst (v := -1) hx hb dS_raw_22 (by decide) ?_
      exact g_iret hC hr hlk hw hwo hS dS_raw_23
    · replace hw := hw.2 hc_2
      refine lv_aload_n hx hb dS_raw_11 rfl (lv_at hl 0 rfl) ?_
      obtain ⟨ho_3, hw⟩ := hw
      obtain ⟨hz_4, hw⟩ := hw
      refine g_getR hC fkS_10 rfl hwo ho_3 hz_4 dS_raw_12 ?_
      refine lv_iload_n hx hb dS_raw_15 rfl (lv_at hl 2 rfl) ?_
      obtain ⟨ho_7, hw⟩ := hw
      refine g_Vi (rest := []) hC (c_W_hasRoom l θ _ _ _ _ _ hw) mi_W_hasRoom mlS_71 mv_W_hasRoom ci_1 ho_7 hwo hS ⟨rfl, rfl⟩ ⟨by decide, by decide⟩ rfl hl.1 rfl (Nat.le_of_ble_eq_true rfl) dS_raw_16 (fun r_8 V_5 U_6 hw H locs hwo hS => ?_)
      refine lv_if_ne (tgt := 24) hx hb dS_raw_19 (by decide) (fun hc_9 => ?_) (fun hc_9 => ?_)
      · replace hw := hw.1 hc_9
        refine lv_iconst (v := 0) hx hb dS_raw_24 (by decide) ?_
        refine lv_istore (i := 4) (lv' := [(4, .int (0 : Int32)), (0, .ref a0), (1, .long w1), (3, .int x3)]) hx hb dS_raw_25 hl (by decide) rfl (fun ls hl => ?_)
        obtain ⟨n, hw⟩ := hw
        exact L27 _ _ _ n _ _ _ _ _ _ hw hwo hS (lv_sub hl [1, 2, 3, 0] rfl)
      · replace hw := hw.2 hc_9
        refine lv_iconst (v := -1) hx hb dS_raw_22 (by decide) ?_
        exact g_iret hC hr hlk hw hwo hS dS_raw_23
theorem dS_alter_0 : decode kS_alter 0 = .ok (.aload_n 0, 1) := by decide +kernel
theorem dS_alter_1 : decode kS_alter 1 = .ok (.getfield 10, 3) := by decide +kernel
theorem dS_alter_4 : decode kS_alter 4 = .ok (.iload_n 1, 1) := by decide +kernel
theorem dS_alter_5 : decode kS_alter 5 = .ok (.iload_n 2, 1) := by decide +kernel
theorem dS_alter_6 : decode kS_alter 6 = .ok (.invokevirtual 81, 3) := by decide +kernel
theorem dS_alter_9 : decode kS_alter 9 = .ok (.ireturn, 1) := by decide +kernel
def wp_S_alter (θ : TH) (a0 : Nat) (x1 : Int32) (x2 : Int32) (V : VT) (U : UT) (K : Int32 → VT → UT → Prop) : Prop := isO θ a0 0 ∧ (U a0 0) ≠ 0 ∧ isO θ (U a0 0) 1 ∧ wp_W_change θ (U a0 0) x1 x2 V U (fun r_6 V_3 U_4 => isZ r_6 ∧ K r_6 V_3 U_4)
set_option maxRecDepth 100000 in
set_option maxHeartbeats 4000000 in
theorem c_S_alter (l : Launch) (θ : TH) (a0 : Nat) (x1 : Int32) (x2 : Int32) (V : VT) (U : UT) (K : Int32 → VT → UT → Prop) (hw : wp_S_alter θ a0 x1 x2 V U K) : CMi l yS_alter kS_alter 3 (some .boolean) rmS_alter θ [.ref a0, .int x1, .int x2] V U K := by
  refine g_met nRS (by decide +kernel) rfl (Nat.le_of_ble_eq_true rfl) (fun p e s m args below meth c ls hC hr hlk hwo hl => ?_)
  have hx := hC.1
  have hb := hC.2.1
  have hS : Sx θ s s.heap [] := va_S.rf
  have hl : lv_has ls 3 [(0, .ref a0), (1, .int x1), (2, .int x2)] := hl
  unfold wp_S_alter at hw
  refine lv_aload_n hx hb dS_alter_0 rfl (lv_at hl 0 rfl) ?_
  obtain ⟨ho_1, hw⟩ := hw
  obtain ⟨hz_2, hw⟩ := hw
  refine g_getR hC fkS_10 rfl hwo ho_1 hz_2 dS_alter_1 ?_
  refine lv_iload_n hx hb dS_alter_4 rfl (lv_at hl 1 rfl) ?_
  refine lv_iload_n hx hb dS_alter_5 rfl (lv_at hl 2 rfl) ?_
  obtain ⟨ho_5, hw⟩ := hw
  refine g_Vi (rest := []) hC (c_W_change l θ _ _ _ _ _ _ hw) mi_W_change mlS_81 mv_W_change ci_1 ho_5 hwo hS ⟨rfl, rfl⟩ ⟨by decide, by decide⟩ rfl hl.1 rfl (Nat.le_of_ble_eq_true rfl) dS_alter_6 (fun r_6 V_3 U_4 hw H locs hwo hS => ?_)
  obtain ⟨hb_7, hw⟩ := hw
  exact g_zret hC hr hlk hb_7 hw hwo hS dS_alter_9
theorem dS_cut_0 : decode kS_cut 0 = .ok (.aload_n 0, 1) := by decide +kernel
theorem dS_cut_1 : decode kS_cut 1 = .ok (.getfield 10, 3) := by decide +kernel
theorem dS_cut_4 : decode kS_cut 4 = .ok (.iload_n 1, 1) := by decide +kernel
theorem dS_cut_5 : decode kS_cut 5 = .ok (.iload_n 2, 1) := by decide +kernel
theorem dS_cut_6 : decode kS_cut 6 = .ok (.invokevirtual 85, 3) := by decide +kernel
theorem dS_cut_9 : decode kS_cut 9 = .ok (.ireturn, 1) := by decide +kernel
def wp_S_cut (θ : TH) (a0 : Nat) (x1 : Int32) (x2 : Int32) (V : VT) (U : UT) (K : Int32 → VT → UT → Prop) : Prop := isO θ a0 0 ∧ (U a0 0) ≠ 0 ∧ isO θ (U a0 0) 1 ∧ wp_W_takeOut θ (U a0 0) x1 x2 V U (fun r_6 V_3 U_4 => isZ r_6 ∧ K r_6 V_3 U_4)
set_option maxRecDepth 100000 in
set_option maxHeartbeats 4000000 in
theorem c_S_cut (l : Launch) (θ : TH) (a0 : Nat) (x1 : Int32) (x2 : Int32) (V : VT) (U : UT) (K : Int32 → VT → UT → Prop) (hw : wp_S_cut θ a0 x1 x2 V U K) : CMi l yS_cut kS_cut 3 (some .boolean) rmS_cut θ [.ref a0, .int x1, .int x2] V U K := by
  refine g_met nRS (by decide +kernel) rfl (Nat.le_of_ble_eq_true rfl) (fun p e s m args below meth c ls hC hr hlk hwo hl => ?_)
  have hx := hC.1
  have hb := hC.2.1
  have hS : Sx θ s s.heap [] := va_S.rf
  have hl : lv_has ls 3 [(0, .ref a0), (1, .int x1), (2, .int x2)] := hl
  unfold wp_S_cut at hw
  refine lv_aload_n hx hb dS_cut_0 rfl (lv_at hl 0 rfl) ?_
  obtain ⟨ho_1, hw⟩ := hw
  obtain ⟨hz_2, hw⟩ := hw
  refine g_getR hC fkS_10 rfl hwo ho_1 hz_2 dS_cut_1 ?_
  refine lv_iload_n hx hb dS_cut_4 rfl (lv_at hl 1 rfl) ?_
  refine lv_iload_n hx hb dS_cut_5 rfl (lv_at hl 2 rfl) ?_
  obtain ⟨ho_5, hw⟩ := hw
  refine g_Vi (rest := []) hC (c_W_takeOut l θ _ _ _ _ _ _ hw) mi_W_takeOut mlS_85 mv_W_takeOut ci_1 ho_5 hwo hS ⟨rfl, rfl⟩ ⟨by decide, by decide⟩ rfl hl.1 rfl (Nat.le_of_ble_eq_true rfl) dS_cut_6 (fun r_6 V_3 U_4 hw H locs hwo hS => ?_)
  obtain ⟨hb_7, hw⟩ := hw
  exact g_zret hC hr hlk hb_7 hw hwo hS dS_cut_9
theorem dS_wire_0 : decode kS_wire 0 = .ok (.aload_n 0, 1) := by decide +kernel
theorem dS_wire_1 : decode kS_wire 1 = .ok (.getfield 10, 3) := by decide +kernel
theorem dS_wire_4 : decode kS_wire 4 = .ok (.iload_n 1, 1) := by decide +kernel
theorem dS_wire_5 : decode kS_wire 5 = .ok (.invokevirtual 88, 3) := by decide +kernel
theorem dS_wire_8 : decode kS_wire 8 = .ok (.ireturn, 1) := by decide +kernel
def wp_S_wire (θ : TH) (a0 : Nat) (x1 : Int32) (V : VT) (U : UT) (K : Int32 → VT → UT → Prop) : Prop := isO θ a0 0 ∧ (U a0 0) ≠ 0 ∧ isO θ (U a0 0) 1 ∧ wp_W_at θ (U a0 0) x1 V U (fun r_6 V_3 U_4 => K r_6 V_3 U_4)
set_option maxRecDepth 100000 in
set_option maxHeartbeats 4000000 in
theorem c_S_wire (l : Launch) (θ : TH) (a0 : Nat) (x1 : Int32) (V : VT) (U : UT) (K : Int32 → VT → UT → Prop) (hw : wp_S_wire θ a0 x1 V U K) : CMi l yS_wire kS_wire 2 (some .int) rmS_wire θ [.ref a0, .int x1] V U K := by
  refine g_met nRS (by decide +kernel) rfl (Nat.le_of_ble_eq_true rfl) (fun p e s m args below meth c ls hC hr hlk hwo hl => ?_)
  have hx := hC.1
  have hb := hC.2.1
  have hS : Sx θ s s.heap [] := va_S.rf
  have hl : lv_has ls 2 [(0, .ref a0), (1, .int x1)] := hl
  unfold wp_S_wire at hw
  refine lv_aload_n hx hb dS_wire_0 rfl (lv_at hl 0 rfl) ?_
  obtain ⟨ho_1, hw⟩ := hw
  obtain ⟨hz_2, hw⟩ := hw
  refine g_getR hC fkS_10 rfl hwo ho_1 hz_2 dS_wire_1 ?_
  refine lv_iload_n hx hb dS_wire_4 rfl (lv_at hl 1 rfl) ?_
  obtain ⟨ho_5, hw⟩ := hw
  refine g_Vi (rest := []) hC (c_W_at l θ _ _ _ _ _ hw) mi_W_at mlS_88 mv_W_at ci_1 ho_5 hwo hS ⟨rfl, rfl⟩ ⟨by decide, by decide⟩ rfl hl.1 rfl (Nat.le_of_ble_eq_true rfl) dS_wire_5 (fun r_6 V_3 U_4 hw H locs hwo hS => ?_)
  exact g_iret hC hr hlk hw hwo hS dS_wire_8
theorem dS_length_0 : decode kS_length 0 = .ok (.aload_n 0, 1) := by decide +kernel
theorem dS_length_1 : decode kS_length 1 = .ok (.getfield 10, 3) := by decide +kernel
theorem dS_length_4 : decode kS_length 4 = .ok (.getfield 78, 3) := by decide +kernel
theorem dS_length_7 : decode kS_length 7 = .ok (.ireturn, 1) := by decide +kernel
def wp_S_length (θ : TH) (a0 : Nat) (V : VT) (U : UT) (K : Int32 → VT → UT → Prop) : Prop := isO θ a0 0 ∧ (U a0 0) ≠ 0 ∧ isO θ (U a0 0) 1 ∧ K (V (U a0 0) 1) V U
set_option maxRecDepth 100000 in
set_option maxHeartbeats 4000000 in
theorem c_S_length (l : Launch) (θ : TH) (a0 : Nat) (V : VT) (U : UT) (K : Int32 → VT → UT → Prop) (hw : wp_S_length θ a0 V U K) : CMi l yS_length kS_length 1 (some .int) rmS_length θ [.ref a0] V U K := by
  refine g_met nRS (by decide +kernel) rfl (Nat.le_of_ble_eq_true rfl) (fun p e s m args below meth c ls hC hr hlk hwo hl => ?_)
  have hx := hC.1
  have hb := hC.2.1
  have hS : Sx θ s s.heap [] := va_S.rf
  have hl : lv_has ls 1 [(0, .ref a0)] := hl
  unfold wp_S_length at hw
  refine lv_aload_n hx hb dS_length_0 rfl (lv_at hl 0 rfl) ?_
  obtain ⟨ho_1, hw⟩ := hw
  obtain ⟨hz_2, hw⟩ := hw
  refine g_getR hC fkS_10 rfl hwo ho_1 hz_2 dS_length_1 ?_
  obtain ⟨ho_3, hw⟩ := hw
  refine g_getI hC fkS_78 rfl hwo ho_3 dS_length_4 ?_
  exact g_iret hC hr hlk hw hwo hS dS_length_7
theorem dS_next_0 : decode kS_next 0 = .ok (.aload_n 0, 1) := by decide +kernel
theorem dS_next_1 : decode kS_next 1 = .ok (.getfield 41, 3) := by decide +kernel
theorem dS_next_4 : decode kS_next 4 = .ok (.invokevirtual 92, 3) := by decide +kernel
theorem dS_next_7 : decode kS_next 7 = .ok (.ireturn, 1) := by decide +kernel
def wp_S_next (θ : TH) (a0 : Nat) (V : VT) (U : UT) (K : Int32 → VT → UT → Prop) : Prop := isO θ a0 0 ∧ (U a0 5) ≠ 0 ∧ isO θ (U a0 5) 6 ∧ wp_R_advance θ (U a0 5) V U (fun r_6 V_3 U_4 => K r_6 V_3 U_4)
set_option maxRecDepth 100000 in
set_option maxHeartbeats 4000000 in
theorem c_S_next (l : Launch) (θ : TH) (a0 : Nat) (V : VT) (U : UT) (K : Int32 → VT → UT → Prop) (hw : wp_S_next θ a0 V U K) : CMi l yS_next kS_next 1 (some .int) rmS_next θ [.ref a0] V U K := by
  refine g_met nRS (by decide +kernel) rfl (Nat.le_of_ble_eq_true rfl) (fun p e s m args below meth c ls hC hr hlk hwo hl => ?_)
  have hx := hC.1
  have hb := hC.2.1
  have hS : Sx θ s s.heap [] := va_S.rf
  have hl : lv_has ls 1 [(0, .ref a0)] := hl
  unfold wp_S_next at hw
  refine lv_aload_n hx hb dS_next_0 rfl (lv_at hl 0 rfl) ?_
  obtain ⟨ho_1, hw⟩ := hw
  obtain ⟨hz_2, hw⟩ := hw
  refine g_getR hC fkS_41 rfl hwo ho_1 hz_2 dS_next_1 ?_
  obtain ⟨ho_5, hw⟩ := hw
  refine g_Vi (rest := []) hC (c_R_advance l θ _ _ _ _ hw) mi_R_advance mlS_92 mv_R_advance ci_6 ho_5 hwo hS ⟨rfl, rfl⟩ ⟨by decide, by decide⟩ rfl hl.1 rfl (Nat.le_of_ble_eq_true rfl) dS_next_4 (fun r_6 V_3 U_4 hw H locs hwo hS => ?_)
  exact g_iret hC hr hlk hw hwo hS dS_next_7
theorem dS_amount_0 : decode kS_amount 0 = .ok (.aload_n 0, 1) := by decide +kernel
theorem dS_amount_1 : decode kS_amount 1 = .ok (.getfield 41, 3) := by decide +kernel
theorem dS_amount_4 : decode kS_amount 4 = .ok (.getfield 96, 3) := by decide +kernel
theorem dS_amount_7 : decode kS_amount 7 = .ok (.getfield 100, 3) := by decide +kernel
theorem dS_amount_10 : decode kS_amount 10 = .ok (.ifCond .ne 7, 3) := by decide +kernel
theorem dS_amount_13 : decode kS_amount 13 = .ok (.iconst (-1), 1) := by decide +kernel
theorem dS_amount_14 : decode kS_amount 14 = .ok (.goto 13, 3) := by decide +kernel
theorem dS_amount_17 : decode kS_amount 17 = .ok (.aload_n 0, 1) := by decide +kernel
theorem dS_amount_18 : decode kS_amount 18 = .ok (.getfield 41, 3) := by decide +kernel
theorem dS_amount_21 : decode kS_amount 21 = .ok (.getfield 96, 3) := by decide +kernel
theorem dS_amount_24 : decode kS_amount 24 = .ok (.getfield 105, 3) := by decide +kernel
theorem dS_amount_27 : decode kS_amount 27 = .ok (.ireturn, 1) := by decide +kernel
def wp_S_amount (θ : TH) (a0 : Nat) (V : VT) (U : UT) (K : Int32 → VT → UT → Prop) : Prop := isO θ a0 0 ∧ (U a0 5) ≠ 0 ∧ isO θ (U a0 5) 6 ∧ (U (U a0 5) 6) ≠ 0 ∧ isO θ (U (U a0 5) 6) 5 ∧ ((¬ (V (U (U a0 5) 6) 0) = 0 → K (V (U (U a0 5) 6) 1) V U) ∧ ((V (U (U a0 5) 6) 0) = 0 → K (-1 : Int32) V U))
set_option maxRecDepth 100000 in
set_option maxHeartbeats 4000000 in
theorem c_S_amount (l : Launch) (θ : TH) (a0 : Nat) (V : VT) (U : UT) (K : Int32 → VT → UT → Prop) (hw : wp_S_amount θ a0 V U K) : CMi l yS_amount kS_amount 1 (some .int) rmS_amount θ [.ref a0] V U K := by
  refine g_met nRS (by decide +kernel) rfl (Nat.le_of_ble_eq_true rfl) (fun p e s m args below meth c ls hC hr hlk hwo hl => ?_)
  have hx := hC.1
  have hb := hC.2.1
  have hS : Sx θ s s.heap [] := va_S.rf
  have hl : lv_has ls 1 [(0, .ref a0)] := hl
  unfold wp_S_amount at hw
  refine lv_aload_n hx hb dS_amount_0 rfl (lv_at hl 0 rfl) ?_
  obtain ⟨ho_1, hw⟩ := hw
  obtain ⟨hz_2, hw⟩ := hw
  refine g_getR hC fkS_41 rfl hwo ho_1 hz_2 dS_amount_1 ?_
  obtain ⟨ho_3, hw⟩ := hw
  obtain ⟨hz_4, hw⟩ := hw
  refine g_getR hC fkS_96 rfl hwo ho_3 hz_4 dS_amount_4 ?_
  obtain ⟨ho_5, hw⟩ := hw
  refine g_getI hC fkS_100 rfl hwo ho_5 dS_amount_7 ?_
  refine lv_if_ne (tgt := 17) hx hb dS_amount_10 (by decide) (fun hc_6 => ?_) (fun hc_6 => ?_)
  · replace hw := hw.1 hc_6
    refine lv_aload_n hx hb dS_amount_17 rfl (lv_at hl 0 rfl) ?_
    refine g_getR hC fkS_41 rfl hwo ho_1 hz_2 dS_amount_18 ?_
    refine g_getR hC fkS_96 rfl hwo ho_3 hz_4 dS_amount_21 ?_
    refine g_getI hC fkS_105 rfl hwo ho_5 dS_amount_24 ?_
    exact g_iret hC hr hlk hw hwo hS dS_amount_27
  · replace hw := hw.2 hc_6
    refine lv_iconst (v := -1) hx hb dS_amount_13 (by decide) ?_
    refine lv_goto (tgt := 27) hx hb dS_amount_14 (by decide) ?_
    exact g_iret hC hr hlk hw hwo hS dS_amount_27
theorem dS_serial_0 : decode kS_serial 0 = .ok (.aload_n 0, 1) := by decide +kernel
theorem dS_serial_1 : decode kS_serial 1 = .ok (.getfield 41, 3) := by decide +kernel
theorem dS_serial_4 : decode kS_serial 4 = .ok (.getfield 96, 3) := by decide +kernel
theorem dS_serial_7 : decode kS_serial 7 = .ok (.getfield 100, 3) := by decide +kernel
theorem dS_serial_10 : decode kS_serial 10 = .ok (.ifCond .ne 7, 3) := by decide +kernel
theorem dS_serial_13 : decode kS_serial 13 = .ok (.iconst (-1), 1) := by decide +kernel
theorem dS_serial_14 : decode kS_serial 14 = .ok (.goto 13, 3) := by decide +kernel
theorem dS_serial_17 : decode kS_serial 17 = .ok (.aload_n 0, 1) := by decide +kernel
theorem dS_serial_18 : decode kS_serial 18 = .ok (.getfield 41, 3) := by decide +kernel
theorem dS_serial_21 : decode kS_serial 21 = .ok (.getfield 96, 3) := by decide +kernel
theorem dS_serial_24 : decode kS_serial 24 = .ok (.getfield 108, 3) := by decide +kernel
theorem dS_serial_27 : decode kS_serial 27 = .ok (.ireturn, 1) := by decide +kernel
def wp_S_serial (θ : TH) (a0 : Nat) (V : VT) (U : UT) (K : Int32 → VT → UT → Prop) : Prop := isO θ a0 0 ∧ (U a0 5) ≠ 0 ∧ isO θ (U a0 5) 6 ∧ (U (U a0 5) 6) ≠ 0 ∧ isO θ (U (U a0 5) 6) 5 ∧ ((¬ (V (U (U a0 5) 6) 0) = 0 → K (V (U (U a0 5) 6) 2) V U) ∧ ((V (U (U a0 5) 6) 0) = 0 → K (-1 : Int32) V U))
set_option maxRecDepth 100000 in
set_option maxHeartbeats 4000000 in
theorem c_S_serial (l : Launch) (θ : TH) (a0 : Nat) (V : VT) (U : UT) (K : Int32 → VT → UT → Prop) (hw : wp_S_serial θ a0 V U K) : CMi l yS_serial kS_serial 1 (some .int) rmS_serial θ [.ref a0] V U K := by
  refine g_met nRS (by decide +kernel) rfl (Nat.le_of_ble_eq_true rfl) (fun p e s m args below meth c ls hC hr hlk hwo hl => ?_)
  have hx := hC.1
  have hb := hC.2.1
  have hS : Sx θ s s.heap [] := va_S.rf
  have hl : lv_has ls 1 [(0, .ref a0)] := hl
  unfold wp_S_serial at hw
  refine lv_aload_n hx hb dS_serial_0 rfl (lv_at hl 0 rfl) ?_
  obtain ⟨ho_1, hw⟩ := hw
  obtain ⟨hz_2, hw⟩ := hw
  refine g_getR hC fkS_41 rfl hwo ho_1 hz_2 dS_serial_1 ?_
  obtain ⟨ho_3, hw⟩ := hw
  obtain ⟨hz_4, hw⟩ := hw
  refine g_getR hC fkS_96 rfl hwo ho_3 hz_4 dS_serial_4 ?_
  obtain ⟨ho_5, hw⟩ := hw
  refine g_getI hC fkS_100 rfl hwo ho_5 dS_serial_7 ?_
  refine lv_if_ne (tgt := 17) hx hb dS_serial_10 (by decide) (fun hc_6 => ?_) (fun hc_6 => ?_)
  · replace hw := hw.1 hc_6
    refine lv_aload_n hx hb dS_serial_17 rfl (lv_at hl 0 rfl) ?_
    refine g_getR hC fkS_41 rfl hwo ho_1 hz_2 dS_serial_18 ?_
    refine g_getR hC fkS_96 rfl hwo ho_3 hz_4 dS_serial_21 ?_
    refine g_getI hC fkS_108 rfl hwo ho_5 dS_serial_24 ?_
    exact g_iret hC hr hlk hw hwo hS dS_serial_27
  · replace hw := hw.2 hc_6
    refine lv_iconst (v := -1) hx hb dS_serial_13 (by decide) ?_
    refine lv_goto (tgt := 27) hx hb dS_serial_14 (by decide) ?_
    exact g_iret hC hr hlk hw hwo hS dS_serial_27
theorem dS_time_0 : decode kS_time 0 = .ok (.aload_n 0, 1) := by decide +kernel
theorem dS_time_1 : decode kS_time 1 = .ok (.getfield 41, 3) := by decide +kernel
theorem dS_time_4 : decode kS_time 4 = .ok (.getfield 96, 3) := by decide +kernel
theorem dS_time_7 : decode kS_time 7 = .ok (.getfield 100, 3) := by decide +kernel
theorem dS_time_10 : decode kS_time 10 = .ok (.iconst 3, 1) := by decide +kernel
theorem dS_time_11 : decode kS_time 11 = .ok (.if_icmp .ne 16, 3) := by decide +kernel
theorem dS_time_14 : decode kS_time 14 = .ok (.aload_n 0, 1) := by decide +kernel
theorem dS_time_15 : decode kS_time 15 = .ok (.getfield 41, 3) := by decide +kernel
theorem dS_time_18 : decode kS_time 18 = .ok (.getfield 96, 3) := by decide +kernel
theorem dS_time_21 : decode kS_time 21 = .ok (.getfield 111, 3) := by decide +kernel
theorem dS_time_24 : decode kS_time 24 = .ok (.goto 4, 3) := by decide +kernel
theorem dS_time_27 : decode kS_time 27 = .ok (.iconst (-1), 1) := by decide +kernel
theorem dS_time_28 : decode kS_time 28 = .ok (.ireturn, 1) := by decide +kernel
def wp_S_time (θ : TH) (a0 : Nat) (V : VT) (U : UT) (K : Int32 → VT → UT → Prop) : Prop := isO θ a0 0 ∧ (U a0 5) ≠ 0 ∧ isO θ (U a0 5) 6 ∧ (U (U a0 5) 6) ≠ 0 ∧ isO θ (U (U a0 5) 6) 5 ∧ ((¬ (V (U (U a0 5) 6) 0) = (3 : Int32) → K (-1 : Int32) V U) ∧ ((V (U (U a0 5) 6) 0) = (3 : Int32) → K (V (U (U a0 5) 6) 3) V U))
set_option maxRecDepth 100000 in
set_option maxHeartbeats 4000000 in
theorem c_S_time (l : Launch) (θ : TH) (a0 : Nat) (V : VT) (U : UT) (K : Int32 → VT → UT → Prop) (hw : wp_S_time θ a0 V U K) : CMi l yS_time kS_time 1 (some .int) rmS_time θ [.ref a0] V U K := by
  refine g_met nRS (by decide +kernel) rfl (Nat.le_of_ble_eq_true rfl) (fun p e s m args below meth c ls hC hr hlk hwo hl => ?_)
  have hx := hC.1
  have hb := hC.2.1
  have hS : Sx θ s s.heap [] := va_S.rf
  have hl : lv_has ls 1 [(0, .ref a0)] := hl
  unfold wp_S_time at hw
  refine lv_aload_n hx hb dS_time_0 rfl (lv_at hl 0 rfl) ?_
  obtain ⟨ho_1, hw⟩ := hw
  obtain ⟨hz_2, hw⟩ := hw
  refine g_getR hC fkS_41 rfl hwo ho_1 hz_2 dS_time_1 ?_
  obtain ⟨ho_3, hw⟩ := hw
  obtain ⟨hz_4, hw⟩ := hw
  refine g_getR hC fkS_96 rfl hwo ho_3 hz_4 dS_time_4 ?_
  obtain ⟨ho_5, hw⟩ := hw
  refine g_getI hC fkS_100 rfl hwo ho_5 dS_time_7 ?_
  refine lv_iconst (v := 3) hx hb dS_time_10 (by decide) ?_
  refine lv_icmp_ne (tgt := 27) hx hb dS_time_11 (by decide) (fun hc_6 => ?_) (fun hc_6 => ?_)
  · replace hw := hw.1 hc_6
    refine lv_iconst (v := -1) hx hb dS_time_27 (by decide) ?_
    exact g_iret hC hr hlk hw hwo hS dS_time_28
  · replace hw := hw.2 hc_6
    refine lv_aload_n hx hb dS_time_14 rfl (lv_at hl 0 rfl) ?_
    refine g_getR hC fkS_41 rfl hwo ho_1 hz_2 dS_time_15 ?_
    refine g_getR hC fkS_96 rfl hwo ho_3 hz_4 dS_time_18 ?_
    refine g_getI hC fkS_111 rfl hwo ho_5 dS_time_21 ?_
    refine lv_goto (tgt := 28) hx hb dS_time_24 (by decide) ?_
    exact g_iret hC hr hlk hw hwo hS dS_time_28
theorem dS_octet_0 : decode kS_octet 0 = .ok (.aload_n 0, 1) := by decide +kernel
theorem dS_octet_1 : decode kS_octet 1 = .ok (.getfield 32, 3) := by decide +kernel
theorem dS_octet_4 : decode kS_octet 4 = .ok (.iload_n 1, 1) := by decide +kernel
theorem dS_octet_5 : decode kS_octet 5 = .ok (.invokevirtual 114, 3) := by decide +kernel
theorem dS_octet_8 : decode kS_octet 8 = .ok (.ireturn, 1) := by decide +kernel
def wp_S_octet (θ : TH) (a0 : Nat) (x1 : Int32) (V : VT) (U : UT) (K : Int32 → VT → UT → Prop) : Prop := isO θ a0 0 ∧ (U a0 4) ≠ 0 ∧ isO θ (U a0 4) 7 ∧ wp_H_at θ (U a0 4) x1 V U (fun r_6 V_3 U_4 => K r_6 V_3 U_4)
set_option maxRecDepth 100000 in
set_option maxHeartbeats 4000000 in
theorem c_S_octet (l : Launch) (θ : TH) (a0 : Nat) (x1 : Int32) (V : VT) (U : UT) (K : Int32 → VT → UT → Prop) (hw : wp_S_octet θ a0 x1 V U K) : CMi l yS_octet kS_octet 2 (some .int) rmS_octet θ [.ref a0, .int x1] V U K := by
  refine g_met nRS (by decide +kernel) rfl (Nat.le_of_ble_eq_true rfl) (fun p e s m args below meth c ls hC hr hlk hwo hl => ?_)
  have hx := hC.1
  have hb := hC.2.1
  have hS : Sx θ s s.heap [] := va_S.rf
  have hl : lv_has ls 2 [(0, .ref a0), (1, .int x1)] := hl
  unfold wp_S_octet at hw
  refine lv_aload_n hx hb dS_octet_0 rfl (lv_at hl 0 rfl) ?_
  obtain ⟨ho_1, hw⟩ := hw
  obtain ⟨hz_2, hw⟩ := hw
  refine g_getR hC fkS_32 rfl hwo ho_1 hz_2 dS_octet_1 ?_
  refine lv_iload_n hx hb dS_octet_4 rfl (lv_at hl 1 rfl) ?_
  obtain ⟨ho_5, hw⟩ := hw
  refine g_Vi (rest := []) hC (c_H_at l θ _ _ _ _ _ hw) mi_H_at mlS_114 mv_H_at ci_7 ho_5 hwo hS ⟨rfl, rfl⟩ ⟨by decide, by decide⟩ rfl hl.1 rfl (Nat.le_of_ble_eq_true rfl) dS_octet_5 (fun r_6 V_3 U_4 hw H locs hwo hS => ?_)
  exact g_iret hC hr hlk hw hwo hS dS_octet_8
theorem dS_pieces_0 : decode kS_pieces 0 = .ok (.aload_n 0, 1) := by decide +kernel
theorem dS_pieces_1 : decode kS_pieces 1 = .ok (.getfield 41, 3) := by decide +kernel
theorem dS_pieces_4 : decode kS_pieces 4 = .ok (.getfield 115, 3) := by decide +kernel
theorem dS_pieces_7 : decode kS_pieces 7 = .ok (.ireturn, 1) := by decide +kernel
def wp_S_pieces (θ : TH) (a0 : Nat) (V : VT) (U : UT) (K : Int32 → VT → UT → Prop) : Prop := isO θ a0 0 ∧ (U a0 5) ≠ 0 ∧ isO θ (U a0 5) 6 ∧ K (V (U a0 5) 7) V U
set_option maxRecDepth 100000 in
set_option maxHeartbeats 4000000 in
theorem c_S_pieces (l : Launch) (θ : TH) (a0 : Nat) (V : VT) (U : UT) (K : Int32 → VT → UT → Prop) (hw : wp_S_pieces θ a0 V U K) : CMi l yS_pieces kS_pieces 1 (some .int) rmS_pieces θ [.ref a0] V U K := by
  refine g_met nRS (by decide +kernel) rfl (Nat.le_of_ble_eq_true rfl) (fun p e s m args below meth c ls hC hr hlk hwo hl => ?_)
  have hx := hC.1
  have hb := hC.2.1
  have hS : Sx θ s s.heap [] := va_S.rf
  have hl : lv_has ls 1 [(0, .ref a0)] := hl
  unfold wp_S_pieces at hw
  refine lv_aload_n hx hb dS_pieces_0 rfl (lv_at hl 0 rfl) ?_
  obtain ⟨ho_1, hw⟩ := hw
  obtain ⟨hz_2, hw⟩ := hw
  refine g_getR hC fkS_41 rfl hwo ho_1 hz_2 dS_pieces_1 ?_
  obtain ⟨ho_3, hw⟩ := hw
  refine g_getI hC fkS_115 rfl hwo ho_3 dS_pieces_4 ?_
  exact g_iret hC hr hlk hw hwo hS dS_pieces_7
theorem dS_take_0 : decode kS_take 0 = .ok (.aload_n 0, 1) := by decide +kernel
theorem dS_take_1 : decode kS_take 1 = .ok (.getfield 32, 3) := by decide +kernel
theorem dS_take_4 : decode kS_take 4 = .ok (.getfield 118, 3) := by decide +kernel
theorem dS_take_7 : decode kS_take 7 = .ok (.ifCond .ne 5, 3) := by decide +kernel
theorem dS_take_10 : decode kS_take 10 = .ok (.iconst (-1), 1) := by decide +kernel
theorem dS_take_11 : decode kS_take 11 = .ok (.ireturn, 1) := by decide +kernel
theorem dS_take_12 : decode kS_take 12 = .ok (.aload_n 0, 1) := by decide +kernel
theorem dS_take_13 : decode kS_take 13 = .ok (.getfield 32, 3) := by decide +kernel
theorem dS_take_16 : decode kS_take 16 = .ok (.iconst 0, 1) := by decide +kernel
theorem dS_take_17 : decode kS_take 17 = .ok (.putfield 118, 3) := by decide +kernel
theorem dS_take_20 : decode kS_take 20 = .ok (.aload_n 0, 1) := by decide +kernel
theorem dS_take_21 : decode kS_take 21 = .ok (.getfield 50, 3) := by decide +kernel
theorem dS_take_24 : decode kS_take 24 = .ok (.invokevirtual 122, 3) := by decide +kernel
theorem dS_take_27 : decode kS_take 27 = .ok (.ireturn, 1) := by decide +kernel
def wp_S_take (θ : TH) (a0 : Nat) (V : VT) (U : UT) (K : Int32 → VT → UT → Prop) : Prop := isO θ a0 0 ∧ (U a0 4) ≠ 0 ∧ isO θ (U a0 4) 7 ∧ ((¬ (V (U a0 4) 1) = 0 → ∀ V_5 : VT, V_5 = up2 V (U a0 4) 1 (0 : Int32) → (U a0 6) ≠ 0 ∧ isO θ (U a0 6) 11 ∧ wp_D_decode θ (U a0 6) V_5 U (fun r_10 V_7 U_8 => K r_10 V_7 U_8)) ∧ ((V (U a0 4) 1) = 0 → K (-1 : Int32) V U))
set_option maxRecDepth 100000 in
set_option maxHeartbeats 4000000 in
theorem c_S_take (l : Launch) (θ : TH) (a0 : Nat) (V : VT) (U : UT) (K : Int32 → VT → UT → Prop) (hw : wp_S_take θ a0 V U K) : CMi l yS_take kS_take 1 (some .int) rmS_take θ [.ref a0] V U K := by
  refine g_met nRS (by decide +kernel) rfl (Nat.le_of_ble_eq_true rfl) (fun p e s m args below meth c ls hC hr hlk hwo hl => ?_)
  have hx := hC.1
  have hb := hC.2.1
  have hS : Sx θ s s.heap [] := va_S.rf
  have hl : lv_has ls 1 [(0, .ref a0)] := hl
  unfold wp_S_take at hw
  refine lv_aload_n hx hb dS_take_0 rfl (lv_at hl 0 rfl) ?_
  obtain ⟨ho_1, hw⟩ := hw
  obtain ⟨hz_2, hw⟩ := hw
  refine g_getR hC fkS_32 rfl hwo ho_1 hz_2 dS_take_1 ?_
  obtain ⟨ho_3, hw⟩ := hw
  refine g_getI hC fkS_118 rfl hwo ho_3 dS_take_4 ?_
  refine lv_if_ne (tgt := 12) hx hb dS_take_7 (by decide) (fun hc_4 => ?_) (fun hc_4 => ?_)
  · replace hw := hw.1 hc_4
    refine lv_aload_n hx hb dS_take_12 rfl (lv_at hl 0 rfl) ?_
    refine g_getR hC fkS_32 rfl hwo ho_1 hz_2 dS_take_13 ?_
    refine lv_iconst (v := 0) hx hb dS_take_16 (by decide) ?_
    refine g_putZ hC fkS_118 rfl hwo hS ho_3 (Or.inl rfl) dS_take_17 (fun V_5 eV_5 H locs hwo hS => ?_)
    replace hw := hw V_5 eV_5
    refine lv_aload_n hx hb dS_take_20 rfl (lv_at hl 0 rfl) ?_
    obtain ⟨hz_6, hw⟩ := hw
    refine g_getR hC fkS_50 rfl hwo ho_1 hz_6 dS_take_21 ?_
    obtain ⟨ho_9, hw⟩ := hw
    refine g_Vi (rest := []) hC (c_D_decode l θ _ _ _ _ hw) mi_D_decode mlS_122 mv_D_decode ci_11 ho_9 hwo hS ⟨rfl, rfl⟩ ⟨by decide, by decide⟩ rfl hl.1 rfl (Nat.le_of_ble_eq_true rfl) dS_take_24 (fun r_10 V_7 U_8 hw H locs hwo hS => ?_)
    exact g_iret hC hr hlk hw hwo hS dS_take_27
  · replace hw := hw.2 hc_4
    refine lv_iconst (v := -1) hx hb dS_take_10 (by decide) ?_
    exact g_iret hC hr hlk hw hwo hS dS_take_11
theorem dS_entry_0 : decode kS_entry 0 = .ok (.aload_n 0, 1) := by decide +kernel
theorem dS_entry_1 : decode kS_entry 1 = .ok (.getfield 50, 3) := by decide +kernel
theorem dS_entry_4 : decode kS_entry 4 = .ok (.iload_n 1, 1) := by decide +kernel
theorem dS_entry_5 : decode kS_entry 5 = .ok (.iload_n 2, 1) := by decide +kernel
theorem dS_entry_6 : decode kS_entry 6 = .ok (.invokevirtual 125, 3) := by decide +kernel
theorem dS_entry_9 : decode kS_entry 9 = .ok (.ireturn, 1) := by decide +kernel
def wp_S_entry (θ : TH) (a0 : Nat) (x1 : Int32) (x2 : Int32) (V : VT) (U : UT) (K : Int32 → VT → UT → Prop) : Prop := isO θ a0 0 ∧ (U a0 6) ≠ 0 ∧ isO θ (U a0 6) 11 ∧ wp_D_codewordOf θ (U a0 6) x1 x2 V U (fun r_6 V_3 U_4 => K r_6 V_3 U_4)
set_option maxRecDepth 100000 in
set_option maxHeartbeats 4000000 in
theorem c_S_entry (l : Launch) (θ : TH) (a0 : Nat) (x1 : Int32) (x2 : Int32) (V : VT) (U : UT) (K : Int32 → VT → UT → Prop) (hw : wp_S_entry θ a0 x1 x2 V U K) : CMi l yS_entry kS_entry 3 (some .int) rmS_entry θ [.ref a0, .int x1, .int x2] V U K := by
  refine g_met nRS (by decide +kernel) rfl (Nat.le_of_ble_eq_true rfl) (fun p e s m args below meth c ls hC hr hlk hwo hl => ?_)
  have hx := hC.1
  have hb := hC.2.1
  have hS : Sx θ s s.heap [] := va_S.rf
  have hl : lv_has ls 3 [(0, .ref a0), (1, .int x1), (2, .int x2)] := hl
  unfold wp_S_entry at hw
  refine lv_aload_n hx hb dS_entry_0 rfl (lv_at hl 0 rfl) ?_
  obtain ⟨ho_1, hw⟩ := hw
  obtain ⟨hz_2, hw⟩ := hw
  refine g_getR hC fkS_50 rfl hwo ho_1 hz_2 dS_entry_1 ?_
  refine lv_iload_n hx hb dS_entry_4 rfl (lv_at hl 1 rfl) ?_
  refine lv_iload_n hx hb dS_entry_5 rfl (lv_at hl 2 rfl) ?_
  obtain ⟨ho_5, hw⟩ := hw
  refine g_Vi (rest := []) hC (c_D_codewordOf l θ _ _ _ _ _ _ hw) mi_D_codewordOf mlS_125 mv_D_codewordOf ci_11 ho_5 hwo hS ⟨rfl, rfl⟩ ⟨by decide, by decide⟩ rfl hl.1 rfl (Nat.le_of_ble_eq_true rfl) dS_entry_6 (fun r_6 V_3 U_4 hw H locs hwo hS => ?_)
  exact g_iret hC hr hlk hw hwo hS dS_entry_9
theorem dS_block_0 : decode kS_block 0 = .ok (.aload_n 0, 1) := by decide +kernel
theorem dS_block_1 : decode kS_block 1 = .ok (.getfield 50, 3) := by decide +kernel
theorem dS_block_4 : decode kS_block 4 = .ok (.getfield 129, 3) := by decide +kernel
theorem dS_block_7 : decode kS_block 7 = .ok (.ifCond .ne 7, 3) := by decide +kernel
theorem dS_block_10 : decode kS_block 10 = .ok (.iconst (-1), 1) := by decide +kernel
theorem dS_block_11 : decode kS_block 11 = .ok (.goto 10, 3) := by decide +kernel
theorem dS_block_14 : decode kS_block 14 = .ok (.aload_n 0, 1) := by decide +kernel
theorem dS_block_15 : decode kS_block 15 = .ok (.getfield 50, 3) := by decide +kernel
theorem dS_block_18 : decode kS_block 18 = .ok (.getfield 132, 3) := by decide +kernel
theorem dS_block_21 : decode kS_block 21 = .ok (.ireturn, 1) := by decide +kernel
def wp_S_block (θ : TH) (a0 : Nat) (V : VT) (U : UT) (K : Int32 → VT → UT → Prop) : Prop := isO θ a0 0 ∧ (U a0 6) ≠ 0 ∧ isO θ (U a0 6) 11 ∧ ((¬ (V (U a0 6) 11) = 0 → K (V (U a0 6) 12) V U) ∧ ((V (U a0 6) 11) = 0 → K (-1 : Int32) V U))
set_option maxRecDepth 100000 in
set_option maxHeartbeats 4000000 in
theorem c_S_block (l : Launch) (θ : TH) (a0 : Nat) (V : VT) (U : UT) (K : Int32 → VT → UT → Prop) (hw : wp_S_block θ a0 V U K) : CMi l yS_block kS_block 1 (some .int) rmS_block θ [.ref a0] V U K := by
  refine g_met nRS (by decide +kernel) rfl (Nat.le_of_ble_eq_true rfl) (fun p e s m args below meth c ls hC hr hlk hwo hl => ?_)
  have hx := hC.1
  have hb := hC.2.1
  have hS : Sx θ s s.heap [] := va_S.rf
  have hl : lv_has ls 1 [(0, .ref a0)] := hl
  unfold wp_S_block at hw
  refine lv_aload_n hx hb dS_block_0 rfl (lv_at hl 0 rfl) ?_
  obtain ⟨ho_1, hw⟩ := hw
  obtain ⟨hz_2, hw⟩ := hw
  refine g_getR hC fkS_50 rfl hwo ho_1 hz_2 dS_block_1 ?_
  obtain ⟨ho_3, hw⟩ := hw
  refine g_getI hC fkS_129 rfl hwo ho_3 dS_block_4 ?_
  refine lv_if_ne (tgt := 14) hx hb dS_block_7 (by decide) (fun hc_4 => ?_) (fun hc_4 => ?_)
  · replace hw := hw.1 hc_4
    refine lv_aload_n hx hb dS_block_14 rfl (lv_at hl 0 rfl) ?_
    refine g_getR hC fkS_50 rfl hwo ho_1 hz_2 dS_block_15 ?_
    refine g_getI hC fkS_132 rfl hwo ho_3 dS_block_18 ?_
    exact g_iret hC hr hlk hw hwo hS dS_block_21
  · replace hw := hw.2 hc_4
    refine lv_iconst (v := -1) hx hb dS_block_10 (by decide) ?_
    refine lv_goto (tgt := 21) hx hb dS_block_11 (by decide) ?_
    exact g_iret hC hr hlk hw hwo hS dS_block_21
theorem dS_curve_0 : decode kS_curve 0 = .ok (.aload_n 0, 1) := by decide +kernel
theorem dS_curve_1 : decode kS_curve 1 = .ok (.getfield 50, 3) := by decide +kernel
theorem dS_curve_4 : decode kS_curve 4 = .ok (.iload_n 1, 1) := by decide +kernel
theorem dS_curve_5 : decode kS_curve 5 = .ok (.iload_n 2, 1) := by decide +kernel
theorem dS_curve_6 : decode kS_curve 6 = .ok (.invokevirtual 135, 3) := by decide +kernel
theorem dS_curve_9 : decode kS_curve 9 = .ok (.ifCond .eq 17, 3) := by decide +kernel
theorem dS_curve_12 : decode kS_curve 12 = .ok (.aload_n 0, 1) := by decide +kernel
theorem dS_curve_13 : decode kS_curve 13 = .ok (.getfield 50, 3) := by decide +kernel
theorem dS_curve_16 : decode kS_curve 16 = .ok (.getfield 138, 3) := by decide +kernel
theorem dS_curve_19 : decode kS_curve 19 = .ok (.iload_n 1, 1) := by decide +kernel
theorem dS_curve_20 : decode kS_curve 20 = .ok (.aaload, 1) := by decide +kernel
theorem dS_curve_21 : decode kS_curve 21 = .ok (.iload_n 2, 1) := by decide +kernel
theorem dS_curve_22 : decode kS_curve 22 = .ok (.iaload, 1) := by decide +kernel
theorem dS_curve_23 : decode kS_curve 23 = .ok (.goto 4, 3) := by decide +kernel
theorem dS_curve_26 : decode kS_curve 26 = .ok (.iconst (-1), 1) := by decide +kernel
theorem dS_curve_27 : decode kS_curve 27 = .ok (.ireturn, 1) := by decide +kernel
def wp_S_curve (θ : TH) (a0 : Nat) (x1 : Int32) (x2 : Int32) (V : VT) (U : UT) (K : Int32 → VT → UT → Prop) : Prop := isO θ a0 0 ∧ (U a0 6) ≠ 0 ∧ isO θ (U a0 6) 11 ∧ wp_D_hasPlace θ (U a0 6) x1 x2 V U (fun r_6 V_3 U_4 => ((r_6 = 0 → K (-1 : Int32) V_3 U_4) ∧ (¬ r_6 = 0 → (U_4 a0 6) ≠ 0 ∧ isO θ (U_4 a0 6) 11 ∧ (U_4 (U_4 a0 6) 13) ≠ 0 ∧ ∃ n_11, isR θ (U_4 (U_4 a0 6) 13) 6 n_11 ∧ vp_in x1 n_11 ∧ (U_4 (U_4 (U_4 a0 6) 13) x1.toNatClampNeg) ≠ 0 ∧ ∃ n_15, isA θ (U_4 (U_4 (U_4 a0 6) 13) x1.toNatClampNeg) 0 n_15 ∧ vp_in x2 n_15 ∧ K (V_3 (U_4 (U_4 (U_4 a0 6) 13) x1.toNatClampNeg) x2.toNatClampNeg) V_3 U_4)))
set_option maxRecDepth 100000 in
set_option maxHeartbeats 4000000 in
theorem c_S_curve (l : Launch) (θ : TH) (a0 : Nat) (x1 : Int32) (x2 : Int32) (V : VT) (U : UT) (K : Int32 → VT → UT → Prop) (hw : wp_S_curve θ a0 x1 x2 V U K) : CMi l yS_curve kS_curve 3 (some .int) rmS_curve θ [.ref a0, .int x1, .int x2] V U K := by
  refine g_met nRS (by decide +kernel) rfl (Nat.le_of_ble_eq_true rfl) (fun p e s m args below meth c ls hC hr hlk hwo hl => ?_)
  have hx := hC.1
  have hb := hC.2.1
  have hS : Sx θ s s.heap [] := va_S.rf
  have hl : lv_has ls 3 [(0, .ref a0), (1, .int x1), (2, .int x2)] := hl
  unfold wp_S_curve at hw
  refine lv_aload_n hx hb dS_curve_0 rfl (lv_at hl 0 rfl) ?_
  obtain ⟨ho_1, hw⟩ := hw
  obtain ⟨hz_2, hw⟩ := hw
  refine g_getR hC fkS_50 rfl hwo ho_1 hz_2 dS_curve_1 ?_
  refine lv_iload_n hx hb dS_curve_4 rfl (lv_at hl 1 rfl) ?_
  refine lv_iload_n hx hb dS_curve_5 rfl (lv_at hl 2 rfl) ?_
  obtain ⟨ho_5, hw⟩ := hw
  refine g_Vi (rest := []) hC (c_D_hasPlace l θ _ _ _ _ _ _ hw) mi_D_hasPlace mlS_135 mv_D_hasPlace ci_11 ho_5 hwo hS ⟨rfl, rfl⟩ ⟨by decide, by decide⟩ rfl hl.1 rfl (Nat.le_of_ble_eq_true rfl) dS_curve_6 (fun r_6 V_3 U_4 hw H locs hwo hS => ?_)
  refine lv_if_eq (tgt := 26) hx hb dS_curve_9 (by decide) (fun hc_7 => ?_) (fun hc_7 => ?_)
  · replace hw := hw.1 hc_7
    refine lv_iconst (v := -1) hx hb dS_curve_26 (by decide) ?_
    exact g_iret hC hr hlk hw hwo hS dS_curve_27
  · replace hw := hw.2 hc_7
    refine lv_aload_n hx hb dS_curve_12 rfl (lv_at hl 0 rfl) ?_
    obtain ⟨hz_8, hw⟩ := hw
    refine g_getR hC fkS_50 rfl hwo ho_1 hz_8 dS_curve_13 ?_
    obtain ⟨ho_9, hw⟩ := hw
    obtain ⟨hz_10, hw⟩ := hw
    refine g_getR hC fkS_138 rfl hwo ho_9 hz_10 dS_curve_16 ?_
    refine lv_iload_n hx hb dS_curve_19 rfl (lv_at hl 1 rfl) ?_
    obtain ⟨n_11, ha_12, hw⟩ := hw
    obtain ⟨hi_13, hw⟩ := hw
    obtain ⟨hz_14, hw⟩ := hw
    refine g_aald hC hwo (t := 6) (by decide) rfl ha_12 hi_13 hz_14 dS_curve_20 ?_
    refine lv_iload_n hx hb dS_curve_21 rfl (lv_at hl 2 rfl) ?_
    obtain ⟨n_15, ha_16, hw⟩ := hw
    obtain ⟨hi_17, hw⟩ := hw
    refine g_iald hC hwo ha_16 hi_17 dS_curve_22 ?_
    refine lv_goto (tgt := 27) hx hb dS_curve_23 (by decide) ?_
    exact g_iret hC hr hlk hw hwo hS dS_curve_27
theorem dS_value_0 : decode kS_value 0 = .ok (.aload_n 0, 1) := by decide +kernel
theorem dS_value_1 : decode kS_value 1 = .ok (.getfield 50, 3) := by decide +kernel
theorem dS_value_4 : decode kS_value 4 = .ok (.iload_n 1, 1) := by decide +kernel
theorem dS_value_5 : decode kS_value 5 = .ok (.iload_n 2, 1) := by decide +kernel
theorem dS_value_6 : decode kS_value 6 = .ok (.invokevirtual 135, 3) := by decide +kernel
theorem dS_value_9 : decode kS_value 9 = .ok (.ifCond .eq 17, 3) := by decide +kernel
theorem dS_value_12 : decode kS_value 12 = .ok (.aload_n 0, 1) := by decide +kernel
theorem dS_value_13 : decode kS_value 13 = .ok (.getfield 50, 3) := by decide +kernel
theorem dS_value_16 : decode kS_value 16 = .ok (.getfield 142, 3) := by decide +kernel
theorem dS_value_19 : decode kS_value 19 = .ok (.iload_n 1, 1) := by decide +kernel
theorem dS_value_20 : decode kS_value 20 = .ok (.aaload, 1) := by decide +kernel
theorem dS_value_21 : decode kS_value 21 = .ok (.iload_n 2, 1) := by decide +kernel
theorem dS_value_22 : decode kS_value 22 = .ok (.iaload, 1) := by decide +kernel
theorem dS_value_23 : decode kS_value 23 = .ok (.goto 4, 3) := by decide +kernel
theorem dS_value_26 : decode kS_value 26 = .ok (.iconst 0, 1) := by decide +kernel
theorem dS_value_27 : decode kS_value 27 = .ok (.ireturn, 1) := by decide +kernel
def wp_S_value (θ : TH) (a0 : Nat) (x1 : Int32) (x2 : Int32) (V : VT) (U : UT) (K : Int32 → VT → UT → Prop) : Prop := isO θ a0 0 ∧ (U a0 6) ≠ 0 ∧ isO θ (U a0 6) 11 ∧ wp_D_hasPlace θ (U a0 6) x1 x2 V U (fun r_6 V_3 U_4 => ((r_6 = 0 → K (0 : Int32) V_3 U_4) ∧ (¬ r_6 = 0 → (U_4 a0 6) ≠ 0 ∧ isO θ (U_4 a0 6) 11 ∧ (U_4 (U_4 a0 6) 14) ≠ 0 ∧ ∃ n_11, isR θ (U_4 (U_4 a0 6) 14) 6 n_11 ∧ vp_in x1 n_11 ∧ (U_4 (U_4 (U_4 a0 6) 14) x1.toNatClampNeg) ≠ 0 ∧ ∃ n_15, isA θ (U_4 (U_4 (U_4 a0 6) 14) x1.toNatClampNeg) 0 n_15 ∧ vp_in x2 n_15 ∧ K (V_3 (U_4 (U_4 (U_4 a0 6) 14) x1.toNatClampNeg) x2.toNatClampNeg) V_3 U_4)))
set_option maxRecDepth 100000 in
set_option maxHeartbeats 4000000 in
theorem c_S_value (l : Launch) (θ : TH) (a0 : Nat) (x1 : Int32) (x2 : Int32) (V : VT) (U : UT) (K : Int32 → VT → UT → Prop) (hw : wp_S_value θ a0 x1 x2 V U K) : CMi l yS_value kS_value 3 (some .int) rmS_value θ [.ref a0, .int x1, .int x2] V U K := by
  refine g_met nRS (by decide +kernel) rfl (Nat.le_of_ble_eq_true rfl) (fun p e s m args below meth c ls hC hr hlk hwo hl => ?_)
  have hx := hC.1
  have hb := hC.2.1
  have hS : Sx θ s s.heap [] := va_S.rf
  have hl : lv_has ls 3 [(0, .ref a0), (1, .int x1), (2, .int x2)] := hl
  unfold wp_S_value at hw
  refine lv_aload_n hx hb dS_value_0 rfl (lv_at hl 0 rfl) ?_
  obtain ⟨ho_1, hw⟩ := hw
  obtain ⟨hz_2, hw⟩ := hw
  refine g_getR hC fkS_50 rfl hwo ho_1 hz_2 dS_value_1 ?_
  refine lv_iload_n hx hb dS_value_4 rfl (lv_at hl 1 rfl) ?_
  refine lv_iload_n hx hb dS_value_5 rfl (lv_at hl 2 rfl) ?_
  obtain ⟨ho_5, hw⟩ := hw
  refine g_Vi (rest := []) hC (c_D_hasPlace l θ _ _ _ _ _ _ hw) mi_D_hasPlace mlS_135 mv_D_hasPlace ci_11 ho_5 hwo hS ⟨rfl, rfl⟩ ⟨by decide, by decide⟩ rfl hl.1 rfl (Nat.le_of_ble_eq_true rfl) dS_value_6 (fun r_6 V_3 U_4 hw H locs hwo hS => ?_)
  refine lv_if_eq (tgt := 26) hx hb dS_value_9 (by decide) (fun hc_7 => ?_) (fun hc_7 => ?_)
  · replace hw := hw.1 hc_7
    refine lv_iconst (v := 0) hx hb dS_value_26 (by decide) ?_
    exact g_iret hC hr hlk hw hwo hS dS_value_27
  · replace hw := hw.2 hc_7
    refine lv_aload_n hx hb dS_value_12 rfl (lv_at hl 0 rfl) ?_
    obtain ⟨hz_8, hw⟩ := hw
    refine g_getR hC fkS_50 rfl hwo ho_1 hz_8 dS_value_13 ?_
    obtain ⟨ho_9, hw⟩ := hw
    obtain ⟨hz_10, hw⟩ := hw
    refine g_getR hC fkS_142 rfl hwo ho_9 hz_10 dS_value_16 ?_
    refine lv_iload_n hx hb dS_value_19 rfl (lv_at hl 1 rfl) ?_
    obtain ⟨n_11, ha_12, hw⟩ := hw
    obtain ⟨hi_13, hw⟩ := hw
    obtain ⟨hz_14, hw⟩ := hw
    refine g_aald hC hwo (t := 6) (by decide) rfl ha_12 hi_13 hz_14 dS_value_20 ?_
    refine lv_iload_n hx hb dS_value_21 rfl (lv_at hl 2 rfl) ?_
    obtain ⟨n_15, ha_16, hw⟩ := hw
    obtain ⟨hi_17, hw⟩ := hw
    refine g_iald hC hwo ha_16 hi_17 dS_value_22 ?_
    refine lv_goto (tgt := 27) hx hb dS_value_23 (by decide) ?_
    exact g_iret hC hr hlk hw hwo hS dS_value_27
theorem dS_samples_0 : decode kS_samples 0 = .ok (.aload_n 0, 1) := by decide +kernel
theorem dS_samples_1 : decode kS_samples 1 = .ok (.getfield 50, 3) := by decide +kernel
theorem dS_samples_4 : decode kS_samples 4 = .ok (.getfield 145, 3) := by decide +kernel
theorem dS_samples_7 : decode kS_samples 7 = .ok (.ireturn, 1) := by decide +kernel
def wp_S_samples (θ : TH) (a0 : Nat) (V : VT) (U : UT) (K : Int32 → VT → UT → Prop) : Prop := isO θ a0 0 ∧ (U a0 6) ≠ 0 ∧ isO θ (U a0 6) 11 ∧ K (V (U a0 6) 15) V U
set_option maxRecDepth 100000 in
set_option maxHeartbeats 4000000 in
theorem c_S_samples (l : Launch) (θ : TH) (a0 : Nat) (V : VT) (U : UT) (K : Int32 → VT → UT → Prop) (hw : wp_S_samples θ a0 V U K) : CMi l yS_samples kS_samples 1 (some .int) rmS_samples θ [.ref a0] V U K := by
  refine g_met nRS (by decide +kernel) rfl (Nat.le_of_ble_eq_true rfl) (fun p e s m args below meth c ls hC hr hlk hwo hl => ?_)
  have hx := hC.1
  have hb := hC.2.1
  have hS : Sx θ s s.heap [] := va_S.rf
  have hl : lv_has ls 1 [(0, .ref a0)] := hl
  unfold wp_S_samples at hw
  refine lv_aload_n hx hb dS_samples_0 rfl (lv_at hl 0 rfl) ?_
  obtain ⟨ho_1, hw⟩ := hw
  obtain ⟨hz_2, hw⟩ := hw
  refine g_getR hC fkS_50 rfl hwo ho_1 hz_2 dS_samples_1 ?_
  obtain ⟨ho_3, hw⟩ := hw
  refine g_getI hC fkS_145 rfl hwo ho_3 dS_samples_4 ?_
  exact g_iret hC hr hlk hw hwo hS dS_samples_7
