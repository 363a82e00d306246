theorem dB_binaryDigits_0 : decode kB_binaryDigits 0 = .ok (.iconst 1, 1) := by decide +kernel
theorem dB_binaryDigits_1 : decode kB_binaryDigits 1 = .ok (.istore_n 1, 1) := by decide +kernel
theorem dB_binaryDigits_2 : decode kB_binaryDigits 2 = .ok (.iload_n 0, 1) := by decide +kernel
theorem dB_binaryDigits_3 : decode kB_binaryDigits 3 = .ok (.iconst 2, 1) := by decide +kernel
theorem dB_binaryDigits_4 : decode kB_binaryDigits 4 = .ok (.idiv, 1) := by decide +kernel
theorem dB_binaryDigits_5 : decode kB_binaryDigits 5 = .ok (.istore_n 2, 1) := by decide +kernel
theorem dB_binaryDigits_6 : decode kB_binaryDigits 6 = .ok (.iload_n 2, 1) := by decide +kernel
theorem dB_binaryDigits_7 : decode kB_binaryDigits 7 = .ok (.ifCond .le 13, 3) := by decide +kernel
theorem dB_binaryDigits_10 : decode kB_binaryDigits 10 = .ok (.iinc 1 1, 3) := by decide +kernel
theorem dB_binaryDigits_13 : decode kB_binaryDigits 13 = .ok (.iload_n 2, 1) := by decide +kernel
theorem dB_binaryDigits_14 : decode kB_binaryDigits 14 = .ok (.iconst 2, 1) := by decide +kernel
theorem dB_binaryDigits_15 : decode kB_binaryDigits 15 = .ok (.idiv, 1) := by decide +kernel
theorem dB_binaryDigits_16 : decode kB_binaryDigits 16 = .ok (.istore_n 2, 1) := by decide +kernel
theorem dB_binaryDigits_17 : decode kB_binaryDigits 17 = .ok (.goto (-11), 3) := by decide +kernel
theorem dB_binaryDigits_20 : decode kB_binaryDigits 20 = .ok (.iload_n 1, 1) := by decide +kernel
theorem dB_binaryDigits_21 : decode kB_binaryDigits 21 = .ok (.ireturn, 1) := by decide +kernel
def bl_B_binaryDigits_6 (θ : TH) (K : Int32 → VT → UT → Prop) (kb6 : Int32 → Int32 → VT → UT → Prop) (x1_6 : Int32) (x2_6 : Int32) (V : VT) (U : UT) : Prop := ((x2_6 ≤ 0 → K x1_6 V U) ∧ (¬ x2_6 ≤ 0 → ∀ y_4 : Int32, y_4 = x1_6 + (1 : Int32) → ¬ (2 : Int32) = 0 ∧ ∀ y_6 : Int32, y_6 = (x2_6 / (2 : Int32)) → kb6 y_4 y_6 V U))
def wl_B_binaryDigits_6 (θ : TH) (K : Int32 → VT → UT → Prop) : Nat → Int32 → Int32 → VT → UT → Prop
  | 0, _, _, _, _ => False
  | n + 1, x1_6, x2_6, V, U => bl_B_binaryDigits_6 θ K (wl_B_binaryDigits_6 θ K n) x1_6 x2_6 V U
def wp_B_binaryDigits (θ : TH) (x0 : Int32) (V : VT) (U : UT) (K : Int32 → VT → UT → Prop) : Prop := ¬ (2 : Int32) = 0 ∧ ∀ y_2 : Int32, y_2 = (x0 / (2 : Int32)) → ∃ n, wl_B_binaryDigits_6 θ K n (1 : Int32) y_2 V U
set_option maxRecDepth 100000 in
set_option maxHeartbeats 4000000 in
theorem c_B_binaryDigits (l : Launch) (θ : TH) (x0 : Int32) (V : VT) (U : UT) (K : Int32 → VT → UT → Prop) (hw : wp_B_binaryDigits θ x0 V U K) : CMi l yB_binaryDigits kB_binaryDigits 3 (some .int) rmB_binaryDigits θ [.int x0] V U K := by
  refine g_met nRB (by decide +kernel) rfl (Nat.le_of_ble_eq_true rfl) (fun p e s m args below meth c ls hC hr hlk hwo hl => ?_)
  have hx := hC.1
  have hb := hC.2.1
  have hS : Sx θ s s.heap [] := va_S.rf
  have hl : lv_has ls 3 [(0, .int x0)] := hl
  have L6 : ∀ (n6 : Nat) (x1_6 : Int32) (x2_6 : Int32) (V : VT) (U : UT) (H : Heap) (locs : List Loc) (ls : Array Slot), wl_B_binaryDigits_6 θ K n6 x1_6 x2_6 V U → wo θ V U H → Sx θ s H locs → lv_has ls 3 [(1, .int x1_6), (2, .int x2_6)] → W p l e rmB_binaryDigits s m args below meth c H locs 0 0 (MQ below (QI θ K) args s 0 0 (aT θ)) (F0 m 6 ls []) := by
    intro n6
    induction n6 with
    | zero => intro x1_6 x2_6 V U H locs ls hw hwo hS hl; exact (show False from hw).elim
    | succ n6 ih6 =>
      intro x1_6 x2_6 V U H locs ls hw hwo hS hl
      replace hw : bl_B_binaryDigits_6 θ K (wl_B_binaryDigits_6 θ K n6) x1_6 x2_6 V U := hw
      unfold bl_B_binaryDigits_6 at hw
      refine lv_iload_n hx hb dB_binaryDigits_6 rfl (lv_at hl 1 rfl) ?_
      refine lv_if_le (tgt := 20) hx hb dB_binaryDigits_7 (by decide) (fun hc_3 => ?_) (fun hc_3 => ?_)
      · replace hw := hw.1 hc_3
        refine lv_iload_n hx hb dB_binaryDigits_20 rfl (lv_at hl 0 rfl) ?_
        exact g_iret hC hr hlk hw hwo hS dB_binaryDigits_21
      · replace hw := hw.2 hc_3
        obtain ⟨y_4, ey_4⟩ : ∃ z : Int32, z = x1_6 + (1 : Int32) := ⟨_, rfl⟩
        replace hw := hw y_4 ey_4
        refine lv_iinc (k := 0) (v := y_4) (lv' := [(1, .int y_4), (2, .int x2_6)]) hx hb dB_binaryDigits_10 hl rfl (by rw [ey_4]; rfl) (by decide) rfl (fun ls hl => ?_)
        refine lv_iload_n hx hb dB_binaryDigits_13 rfl (lv_at hl 1 rfl) ?_
        refine lv_iconst (v := 2) hx hb dB_binaryDigits_14 (by decide) ?_
        obtain ⟨hd_5, hw⟩ := hw
        refine lv_idiv hx hb dB_binaryDigits_15 hd_5 ?_
        refine lv_topi (fun y_6 ey_6 => ?_)
        replace hw := hw y_6 ey_6
        refine lv_istore_n (i := 2) (lv' := [(2, .int y_6), (1, .int y_4)]) hx hb dB_binaryDigits_16 rfl hl (by decide) rfl (fun ls hl => ?_)
        refine lv_goto (tgt := 6) hx hb dB_binaryDigits_17 (by decide) ?_
        exact ih6 _ _ _ _ _ _ _ hw hwo hS (lv_sub hl [1, 0] rfl)
  unfold wp_B_binaryDigits at hw
  refine lv_iconst (v := 1) hx hb dB_binaryDigits_0 (by decide) ?_
  refine lv_istore_n (i := 1) (lv' := [(1, .int (1 : Int32)), (0, .int x0)]) hx hb dB_binaryDigits_1 rfl hl (by decide) rfl (fun ls hl => ?_)
  refine lv_iload_n hx hb dB_binaryDigits_2 rfl (lv_at hl 1 rfl) ?_
  refine lv_iconst (v := 2) hx hb dB_binaryDigits_3 (by decide) ?_
  obtain ⟨hd_1, hw⟩ := hw
  refine lv_idiv hx hb dB_binaryDigits_4 hd_1 ?_
  refine lv_topi (fun y_2 ey_2 => ?_)
  replace hw := hw y_2 ey_2
  refine lv_istore_n (i := 2) (lv' := [(2, .int y_2), (1, .int (1 : Int32)), (0, .int x0)]) hx hb dB_binaryDigits_5 rfl hl (by decide) rfl (fun ls hl => ?_)
  obtain ⟨n, hw⟩ := hw
  exact L6 n _ _ _ _ _ _ _ hw hwo hS (lv_sub hl [1, 0] rfl)
theorem dB_readOrderedLengths_0 : decode kB_readOrderedLengths 0 = .ok (.aload_n 1, 1) := by decide +kernel
theorem dB_readOrderedLengths_1 : decode kB_readOrderedLengths 1 = .ok (.iconst 3, 1) := by decide +kernel
theorem dB_readOrderedLengths_2 : decode kB_readOrderedLengths 2 = .ok (.invokevirtual 28, 3) := by decide +kernel
theorem dB_readOrderedLengths_5 : decode kB_readOrderedLengths 5 = .ok (.iconst 1, 1) := by decide +kernel
theorem dB_readOrderedLengths_6 : decode kB_readOrderedLengths 6 = .ok (.iadd, 1) := by decide +kernel
theorem dB_readOrderedLengths_7 : decode kB_readOrderedLengths 7 = .ok (.istore_n 2, 1) := by decide +kernel
theorem dB_readOrderedLengths_8 : decode kB_readOrderedLengths 8 = .ok (.iconst 0, 1) := by decide +kernel
theorem dB_readOrderedLengths_9 : decode kB_readOrderedLengths 9 = .ok (.istore_n 3, 1) := by decide +kernel
theorem dB_readOrderedLengths_10 : decode kB_readOrderedLengths 10 = .ok (.iload_n 3, 1) := by decide +kernel
theorem dB_readOrderedLengths_11 : decode kB_readOrderedLengths 11 = .ok (.aload_n 0, 1) := by decide +kernel
theorem dB_readOrderedLengths_12 : decode kB_readOrderedLengths 12 = .ok (.getfield 34, 3) := by decide +kernel
theorem dB_readOrderedLengths_15 : decode kB_readOrderedLengths 15 = .ok (.if_icmp .ge 69, 3) := by decide +kernel
theorem dB_readOrderedLengths_18 : decode kB_readOrderedLengths 18 = .ok (.iload_n 2, 1) := by decide +kernel
theorem dB_readOrderedLengths_19 : decode kB_readOrderedLengths 19 = .ok (.bipush 8, 2) := by decide +kernel
theorem dB_readOrderedLengths_21 : decode kB_readOrderedLengths 21 = .ok (.if_icmp .gt 63, 3) := by decide +kernel
theorem dB_readOrderedLengths_24 : decode kB_readOrderedLengths 24 = .ok (.aload_n 0, 1) := by decide +kernel
theorem dB_readOrderedLengths_25 : decode kB_readOrderedLengths 25 = .ok (.getfield 34, 3) := by decide +kernel
theorem dB_readOrderedLengths_28 : decode kB_readOrderedLengths 28 = .ok (.iload_n 3, 1) := by decide +kernel
theorem dB_readOrderedLengths_29 : decode kB_readOrderedLengths 29 = .ok (.isub, 1) := by decide +kernel
theorem dB_readOrderedLengths_30 : decode kB_readOrderedLengths 30 = .ok (.istore 4, 2) := by decide +kernel
theorem dB_readOrderedLengths_32 : decode kB_readOrderedLengths 32 = .ok (.aload_n 1, 1) := by decide +kernel
theorem dB_readOrderedLengths_33 : decode kB_readOrderedLengths 33 = .ok (.iload 4, 2) := by decide +kernel
theorem dB_readOrderedLengths_35 : decode kB_readOrderedLengths 35 = .ok (.invokestatic 59, 3) := by decide +kernel
theorem dB_readOrderedLengths_38 : decode kB_readOrderedLengths 38 = .ok (.invokevirtual 28, 3) := by decide +kernel
theorem dB_readOrderedLengths_41 : decode kB_readOrderedLengths 41 = .ok (.istore 5, 2) := by decide +kernel
theorem dB_readOrderedLengths_43 : decode kB_readOrderedLengths 43 = .ok (.iload 5, 2) := by decide +kernel
theorem dB_readOrderedLengths_45 : decode kB_readOrderedLengths 45 = .ok (.iload 4, 2) := by decide +kernel
theorem dB_readOrderedLengths_47 : decode kB_readOrderedLengths 47 = .ok (.if_icmp .le 5, 3) := by decide +kernel
theorem dB_readOrderedLengths_50 : decode kB_readOrderedLengths 50 = .ok (.iconst 0, 1) := by decide +kernel
theorem dB_readOrderedLengths_51 : decode kB_readOrderedLengths 51 = .ok (.ireturn, 1) := by decide +kernel
theorem dB_readOrderedLengths_52 : decode kB_readOrderedLengths 52 = .ok (.iconst 0, 1) := by decide +kernel
theorem dB_readOrderedLengths_53 : decode kB_readOrderedLengths 53 = .ok (.istore 6, 2) := by decide +kernel
theorem dB_readOrderedLengths_55 : decode kB_readOrderedLengths 55 = .ok (.iload 6, 2) := by decide +kernel
theorem dB_readOrderedLengths_57 : decode kB_readOrderedLengths 57 = .ok (.iload 5, 2) := by decide +kernel
theorem dB_readOrderedLengths_59 : decode kB_readOrderedLengths 59 = .ok (.if_icmp .ge 19, 3) := by decide +kernel
theorem dB_readOrderedLengths_62 : decode kB_readOrderedLengths 62 = .ok (.aload_n 0, 1) := by decide +kernel
theorem dB_readOrderedLengths_63 : decode kB_readOrderedLengths 63 = .ok (.getfield 15, 3) := by decide +kernel
theorem dB_readOrderedLengths_66 : decode kB_readOrderedLengths 66 = .ok (.iload_n 3, 1) := by decide +kernel
theorem dB_readOrderedLengths_67 : decode kB_readOrderedLengths 67 = .ok (.iload_n 2, 1) := by decide +kernel
theorem dB_readOrderedLengths_68 : decode kB_readOrderedLengths 68 = .ok (.iastore, 1) := by decide +kernel
theorem dB_readOrderedLengths_69 : decode kB_readOrderedLengths 69 = .ok (.iinc 3 1, 3) := by decide +kernel
theorem dB_readOrderedLengths_72 : decode kB_readOrderedLengths 72 = .ok (.iinc 6 1, 3) := by decide +kernel
theorem dB_readOrderedLengths_75 : decode kB_readOrderedLengths 75 = .ok (.goto (-20), 3) := by decide +kernel
theorem dB_readOrderedLengths_78 : decode kB_readOrderedLengths 78 = .ok (.iinc 2 1, 3) := by decide +kernel
theorem dB_readOrderedLengths_81 : decode kB_readOrderedLengths 81 = .ok (.goto (-71), 3) := by decide +kernel
theorem dB_readOrderedLengths_84 : decode kB_readOrderedLengths 84 = .ok (.iload_n 3, 1) := by decide +kernel
theorem dB_readOrderedLengths_85 : decode kB_readOrderedLengths 85 = .ok (.aload_n 0, 1) := by decide +kernel
theorem dB_readOrderedLengths_86 : decode kB_readOrderedLengths 86 = .ok (.getfield 34, 3) := by decide +kernel
theorem dB_readOrderedLengths_89 : decode kB_readOrderedLengths 89 = .ok (.if_icmp .ne 7, 3) := by decide +kernel
theorem dB_readOrderedLengths_92 : decode kB_readOrderedLengths 92 = .ok (.iconst 1, 1) := by decide +kernel
theorem dB_readOrderedLengths_93 : decode kB_readOrderedLengths 93 = .ok (.goto 4, 3) := by decide +kernel
theorem dB_readOrderedLengths_96 : decode kB_readOrderedLengths 96 = .ok (.iconst 0, 1) := by decide +kernel
theorem dB_readOrderedLengths_97 : decode kB_readOrderedLengths 97 = .ok (.ireturn, 1) := by decide +kernel
def wb_B_readOrderedLengths_84 (θ : TH) (a0_84 : Nat) (x3_84 : Int32) (K : Int32 → VT → UT → Prop) (V : VT) (U : UT) : Prop := isO θ a0_84 8 ∧ ((¬ x3_84 = (V a0_84 0) → K (0 : Int32) V U) ∧ (x3_84 = (V a0_84 0) → K (1 : Int32) V U))
def bl_B_readOrderedLengths_55 (θ : TH) (a0_10 : Nat) (a1_10 : Nat) (x2_55 : Int32) (x5_55 : Int32) (kb10 : Int32 → Int32 → VT → UT → Prop) (K : Int32 → VT → UT → Prop) (kb55 : Int32 → Int32 → VT → UT → Prop) (x3_55 : Int32) (x6_55 : Int32) (V : VT) (U : UT) : Prop := ((x5_55 ≤ x6_55 → ∀ y_21 : Int32, y_21 = x2_55 + (1 : Int32) → kb10 y_21 x3_55 V U) ∧ (¬ x5_55 ≤ x6_55 → isO θ a0_10 8 ∧ (U a0_10 2) ≠ 0 ∧ ∃ n_24, isA θ (U a0_10 2) 0 n_24 ∧ vp_in x3_55 n_24 ∧ ∀ V_27 : VT, V_27 = up2 V (U a0_10 2) x3_55.toNatClampNeg x2_55 → ∀ y_28 : Int32, y_28 = x3_55 + (1 : Int32) → ∀ y_29 : Int32, y_29 = x6_55 + (1 : Int32) → kb55 y_28 y_29 V_27 U))
def wl_B_readOrderedLengths_55 (θ : TH) (a0_10 : Nat) (a1_10 : Nat) (x2_55 : Int32) (x5_55 : Int32) (kb10 : Int32 → Int32 → VT → UT → Prop) (K : Int32 → VT → UT → Prop) : Nat → Int32 → Int32 → VT → UT → Prop
  | 0, _, _, _, _ => False
  | n + 1, x3_55, x6_55, V, U => bl_B_readOrderedLengths_55 θ a0_10 a1_10 x2_55 x5_55 kb10 K (wl_B_readOrderedLengths_55 θ a0_10 a1_10 x2_55 x5_55 kb10 K n) x3_55 x6_55 V U
def bl_B_readOrderedLengths_10 (θ : TH) (a0_10 : Nat) (a1_10 : Nat) (K : Int32 → VT → UT → Prop) (kb10 : Int32 → Int32 → VT → UT → Prop) (x2_10 : Int32) (x3_10 : Int32) (V : VT) (U : UT) : Prop := isO θ a0_10 8 ∧ (((V a0_10 0) ≤ x3_10 → wb_B_readOrderedLengths_84 θ a0_10 x3_10 K V U) ∧ (¬ (V a0_10 0) ≤ x3_10 → (((8 : Int32) < x2_10 → wb_B_readOrderedLengths_84 θ a0_10 x3_10 K V U) ∧ (¬ (8 : Int32) < x2_10 → ∀ y_9 : Int32, y_9 = ((V a0_10 0) - x3_10) → wp_B_binaryDigits θ y_9 V U (fun r_12 V_10 U_11 => isO θ a1_10 7 ∧ wp_H_read θ a1_10 r_12 V_10 U_11 (fun r_16 V_13 U_14 => ((r_16 ≤ y_9 → ∃ n, wl_B_readOrderedLengths_55 θ a0_10 a1_10 x2_10 r_16 kb10 K n x3_10 (0 : Int32) V_13 U_14) ∧ (¬ r_16 ≤ y_9 → K (0 : Int32) V_13 U_14))))))))
def wl_B_readOrderedLengths_10 (θ : TH) (a0_10 : Nat) (a1_10 : Nat) (K : Int32 → VT → UT → Prop) : Nat → Int32 → Int32 → VT → UT → Prop
  | 0, _, _, _, _ => False
  | n + 1, x2_10, x3_10, V, U => bl_B_readOrderedLengths_10 θ a0_10 a1_10 K (wl_B_readOrderedLengths_10 θ a0_10 a1_10 K n) x2_10 x3_10 V U
def wp_B_readOrderedLengths (θ : TH) (a0 : Nat) (a1 : Nat) (V : VT) (U : UT) (K : Int32 → VT → UT → Prop) : Prop := isO θ a1 7 ∧ wp_H_read θ a1 (3 : Int32) V U (fun r_4 V_1 U_2 => ∀ y_5 : Int32, y_5 = (r_4 + (1 : Int32)) → ∃ n, wl_B_readOrderedLengths_10 θ a0 a1 K n y_5 (0 : Int32) V_1 U_2)
set_option maxRecDepth 100000 in
set_option maxHeartbeats 4000000 in
theorem c_B_readOrderedLengths (l : Launch) (θ : TH) (a0 : Nat) (a1 : Nat) (V : VT) (U : UT) (K : Int32 → VT → UT → Prop) (hw : wp_B_readOrderedLengths θ a0 a1 V U K) : CMi l yB_readOrderedLengths kB_readOrderedLengths 7 (some .boolean) rmB_readOrderedLengths θ [.ref a0, .ref a1] V U K := by
  refine g_met nRB (by decide +kernel) rfl (Nat.le_of_ble_eq_true rfl) (fun p e s m args below meth c ls hC hr hlk hwo hl => ?_)
  have hx := hC.1
  have hb := hC.2.1
  have hS : Sx θ s s.heap [] := va_S.rf
  have hl : lv_has ls 7 [(0, .ref a0), (1, .ref a1)] := hl
  have J84 : ∀ (a0_84 : Nat) (x3_84 : Int32) (V : VT) (U : UT) (H : Heap) (locs : List Loc) (ls : Array Slot), wb_B_readOrderedLengths_84 θ a0_84 x3_84 K V U → wo θ V U H → Sx θ s H locs → lv_has ls 7 [(0, .ref a0_84), (3, .int x3_84)] → W p l e rmB_readOrderedLengths s m args below meth c H locs 0 0 (MQ below (QI θ K) args s 0 0 (aT θ)) (F0 m 84 ls []) := by
    intro a0_84 x3_84 V U H locs ls hw hwo hS hl
    unfold wb_B_readOrderedLengths_84 at hw
    refine lv_iload_n hx hb dB_readOrderedLengths_84 rfl (lv_at hl 1 rfl) ?_
    refine lv_aload_n hx hb dB_readOrderedLengths_85 rfl (lv_at hl 0 rfl) ?_
    obtain ⟨ho_18, hw⟩ := hw
    refine g_getI hC fkB_34 rfl hwo ho_18 dB_readOrderedLengths_86 ?_
    refine lv_icmp_ne (tgt := 96) hx hb dB_readOrderedLengths_89 (by decide) (fun hc_19 => ?_) (fun hc_19 => ?_)
    · replace hw := hw.1 hc_19
      refine lv_iconst (v := 0) hx hb dB_readOrderedLengths_96 (by decide) ?_
      exact g_zret hC hr hlk (Or.inl rfl) hw hwo hS dB_readOrderedLengths_97
    · replace hw := hw.2 hc_19
      refine lv_iconst (v := 1) hx hb dB_readOrderedLengths_92 (by decide) ?_
      refine lv_goto (tgt := 97) hx hb dB_readOrderedLengths_93 (by decide) ?_
      exact g_zret hC hr hlk (Or.inr rfl) hw hwo hS dB_readOrderedLengths_97
  have L10 : ∀ (a0_10 : Nat) (a1_10 : Nat) (n10 : Nat) (x2_10 : Int32) (x3_10 : Int32) (V : VT) (U : UT) (H : Heap) (locs : List Loc) (ls : Array Slot), wl_B_readOrderedLengths_10 θ a0_10 a1_10 K n10 x2_10 x3_10 V U → wo θ V U H → Sx θ s H locs → lv_has ls 7 [(0, .ref a0_10), (1, .ref a1_10), (2, .int x2_10), (3, .int x3_10)] → W p l e rmB_readOrderedLengths s m args below meth c H locs 0 0 (MQ below (QI θ K) args s 0 0 (aT θ)) (F0 m 10 ls []) := by
    intro a0_10 a1_10 n10
    induction n10 with
    | zero => intro x2_10 x3_10 V U H locs ls hw hwo hS hl; exact (show False from hw).elim
    | succ n10 ih10 =>
      have L55 : ∀ (x2_55 : Int32) (x5_55 : Int32) (n55 : Nat) (x3_55 : Int32) (x6_55 : Int32) (V : VT) (U : UT) (H : Heap) (locs : List Loc) (ls : Array Slot), wl_B_readOrderedLengths_55 θ a0_10 a1_10 x2_55 x5_55 (wl_B_readOrderedLengths_10 θ a0_10 a1_10 K n10) K n55 x3_55 x6_55 V U → wo θ V U H → Sx θ s H locs → lv_has ls 7 [(0, .ref a0_10), (1, .ref a1_10), (2, .int x2_55), (3, .int x3_55), (5, .int x5_55), (6, .int x6_55)] → W p l e rmB_readOrderedLengths s m args below meth c H locs 0 0 (MQ below (QI θ K) args s 0 0 (aT θ)) (F0 m 55 ls []) := by
        intro x2_55 x5_55 n55
        induction n55 with
        | zero => intro x3_55 x6_55 V U H locs ls hw hwo hS hl; exact (show False from hw).elim
        | succ n55 ih55 =>
          intro x3_55 x6_55 V U H locs ls hw hwo hS hl
          replace hw : bl_B_readOrderedLengths_55 θ a0_10 a1_10 x2_55 x5_55 (wl_B_readOrderedLengths_10 θ a0_10 a1_10 K n10) K (wl_B_readOrderedLengths_55 θ a0_10 a1_10 x2_55 x5_55 (wl_B_readOrderedLengths_10 θ a0_10 a1_10 K n10) K n55) x3_55 x6_55 V U := hw
          unfold bl_B_readOrderedLengths_55 at hw
          refine lv_iload hx hb dB_readOrderedLengths_55 (lv_at hl 5 rfl) ?_
          refine lv_iload hx hb dB_readOrderedLengths_57 (lv_at hl 4 rfl) ?_
          refine lv_icmp_ge (tgt := 78) hx hb dB_readOrderedLengths_59 (by decide) (fun hc_20 => ?_) (fun hc_20 => ?_)
          · replace hw := hw.1 hc_20
            obtain ⟨y_21, ey_21⟩ : ∃ z : Int32, z = x2_55 + (1 : Int32) := ⟨_, rfl⟩
            replace hw := hw y_21 ey_21
            refine lv_iinc (k := 2) (v := y_21) (lv' := [(2, .int y_21), (0, .ref a0_10), (1, .ref a1_10), (3, .int x3_55), (5, .int x5_55), (6, .int x6_55)]) hx hb dB_readOrderedLengths_78 hl rfl (by rw [ey_21]; rfl) (by decide) rfl (fun ls hl => ?_)
            refine lv_goto (tgt := 10) hx hb dB_readOrderedLengths_81 (by decide) ?_
            exact ih10 _ _ _ _ _ _ _ hw hwo hS (lv_sub hl [1, 2, 0, 3] rfl)
          · replace hw := hw.2 hc_20
            refine lv_aload_n hx hb dB_readOrderedLengths_62 rfl (lv_at hl 0 rfl) ?_
            obtain ⟨ho_22, hw⟩ := hw
            obtain ⟨hz_23, hw⟩ := hw
            refine g_getR hC fkB_15 rfl hwo ho_22 hz_23 dB_readOrderedLengths_63 ?_
            refine lv_iload_n hx hb dB_readOrderedLengths_66 rfl (lv_at hl 3 rfl) ?_
            refine lv_iload_n hx hb dB_readOrderedLengths_67 rfl (lv_at hl 2 rfl) ?_
            obtain ⟨n_24, ha_25, hw⟩ := hw
            obtain ⟨hi_26, hw⟩ := hw
            refine g_iast hC hwo hS ha_25 hi_26 dB_readOrderedLengths_68 (fun V_27 eV_27 H locs hwo hS => ?_)
            replace hw := hw V_27 eV_27
            obtain ⟨y_28, ey_28⟩ : ∃ z : Int32, z = x3_55 + (1 : Int32) := ⟨_, rfl⟩
            replace hw := hw y_28 ey_28
            refine lv_iinc (k := 3) (v := y_28) (lv' := [(3, .int y_28), (0, .ref a0_10), (1, .ref a1_10), (2, .int x2_55), (5, .int x5_55), (6, .int x6_55)]) hx hb dB_readOrderedLengths_69 hl rfl (by rw [ey_28]; rfl) (by decide) rfl (fun ls hl => ?_)
            obtain ⟨y_29, ey_29⟩ : ∃ z : Int32, z = x6_55 + (1 : Int32) := ⟨_, rfl⟩
            replace hw := hw y_29 ey_29
            refine lv_iinc (k := 5) (v := y_29) (lv' := [(6, .int y_29), (3, .int y_28), (0, .ref a0_10), (1, .ref a1_10), (2, .int x2_55), (5, .int x5_55)]) hx hb dB_readOrderedLengths_72 hl rfl (by rw [ey_29]; rfl) (by decide) rfl (fun ls hl => ?_)
            refine lv_goto (tgt := 55) hx hb dB_readOrderedLengths_75 (by decide) ?_
            exact ih55 _ _ _ _ _ _ _ hw hwo hS (lv_sub hl [2, 3, 4, 1, 5, 0] rfl)
      intro x2_10 x3_10 V U H locs ls hw hwo hS hl
      replace hw : bl_B_readOrderedLengths_10 θ a0_10 a1_10 K (wl_B_readOrderedLengths_10 θ a0_10 a1_10 K n10) x2_10 x3_10 V U := hw
      unfold bl_B_readOrderedLengths_10 at hw
      refine lv_iload_n hx hb dB_readOrderedLengths_10 rfl (lv_at hl 3 rfl) ?_
      refine lv_aload_n hx hb dB_readOrderedLengths_11 rfl (lv_at hl 0 rfl) ?_
      obtain ⟨ho_6, hw⟩ := hw
      refine g_getI hC fkB_34 rfl hwo ho_6 dB_readOrderedLengths_12 ?_
      refine lv_icmp_ge (tgt := 84) hx hb dB_readOrderedLengths_15 (by decide) (fun hc_7 => ?_) (fun hc_7 => ?_)
      · replace hw := hw.1 hc_7
        exact J84 _ _ _ _ _ _ _ hw hwo hS (lv_sub hl [0, 3] rfl)
      · replace hw := hw.2 hc_7
        refine lv_iload_n hx hb dB_readOrderedLengths_18 rfl (lv_at hl 2 rfl) ?_
        refine lv_bipush (v := 8) hx hb dB_readOrderedLengths_19 (by decide) ?_
        refine lv_icmp_gt (tgt := 84) hx hb dB_readOrderedLengths_21 (by decide) (fun hc_8 => ?_) (fun hc_8 => ?_)
        · replace hw := hw.1 hc_8
          exact J84 _ _ _ _ _ _ _ hw hwo hS (lv_sub hl [0, 3] rfl)
        · replace hw := hw.2 hc_8
          refine lv_aload_n hx hb dB_readOrderedLengths_24 rfl (lv_at hl 0 rfl) ?_
          refine g_getI hC fkB_34 rfl hwo ho_6 dB_readOrderedLengths_25 ?_
          refine lv_iload_n hx hb dB_readOrderedLengths_28 rfl (lv_at hl 3 rfl) ?_
          refine lv_isub hx hb dB_readOrderedLengths_29 ?_
          refine lv_topi (fun y_9 ey_9 => ?_)
          replace hw := hw y_9 ey_9
          refine lv_istore (i := 4) (lv' := [(4, .int y_9), (0, .ref a0_10), (1, .ref a1_10), (2, .int x2_10), (3, .int x3_10)]) hx hb dB_readOrderedLengths_30 hl (by decide) rfl (fun ls hl => ?_)
          refine lv_aload_n hx hb dB_readOrderedLengths_32 rfl (lv_at hl 2 rfl) ?_
          refine lv_iload hx hb dB_readOrderedLengths_33 (lv_at hl 0 rfl) ?_
          refine g_Si (rest := [.ref a1_10]) hC (c_B_binaryDigits l θ _ _ _ _ hw) mi_B_binaryDigits mlB_59 ms_B_binaryDigits hwo hS ⟨rfl, rfl⟩ ⟨by decide, by decide⟩ rfl hl.1 rfl (Nat.le_of_ble_eq_true rfl) dB_readOrderedLengths_35 (fun r_12 V_10 U_11 hw H locs hwo hS => ?_)
          obtain ⟨ho_15, hw⟩ := hw
          refine g_Vi (rest := []) hC (c_H_read l θ _ _ _ _ _ hw) mi_H_read mlB_28 mv_H_read ci_7 ho_15 hwo hS ⟨rfl, rfl⟩ ⟨by decide, by decide⟩ rfl hl.1 rfl (Nat.le_of_ble_eq_true rfl) dB_readOrderedLengths_38 (fun r_16 V_13 U_14 hw H locs hwo hS => ?_)
          refine lv_istore (i := 5) (lv' := [(5, .int r_16), (4, .int y_9), (0, .ref a0_10), (1, .ref a1_10), (2, .int x2_10), (3, .int x3_10)]) hx hb dB_readOrderedLengths_41 hl (by decide) rfl (fun ls hl => ?_)
          refine lv_iload hx hb dB_readOrderedLengths_43 (lv_at hl 0 rfl) ?_
          refine lv_iload hx hb dB_readOrderedLengths_45 (lv_at hl 1 rfl) ?_
          refine lv_icmp_le (tgt := 52) hx hb dB_readOrderedLengths_47 (by decide) (fun hc_17 => ?_) (fun hc_17 => ?_)
          · replace hw := hw.1 hc_17
            refine lv_iconst (v := 0) hx hb dB_readOrderedLengths_52 (by decide) ?_
            refine lv_istore (i := 6) (lv' := [(6, .int (0 : Int32)), (5, .int r_16), (4, .int y_9), (0, .ref a0_10), (1, .ref a1_10), (2, .int x2_10), (3, .int x3_10)]) hx hb dB_readOrderedLengths_53 hl (by decide) rfl (fun ls hl => ?_)
            obtain ⟨n, hw⟩ := hw
            exact L55 _ _ n _ _ _ _ _ _ _ hw hwo hS (lv_sub hl [3, 4, 5, 6, 1, 0] rfl)
          · replace hw := hw.2 hc_17
            refine lv_iconst (v := 0) hx hb dB_readOrderedLengths_50 (by decide) ?_
            exact g_zret hC hr hlk (Or.inl rfl) hw hwo hS dB_readOrderedLengths_51
  unfold wp_B_readOrderedLengths at hw
  refine lv_aload_n hx hb dB_readOrderedLengths_0 rfl (lv_at hl 1 rfl) ?_
  refine lv_iconst (v := 3) hx hb dB_readOrderedLengths_1 (by decide) ?_
  obtain ⟨ho_3, hw⟩ := hw
  refine g_Vi (rest := []) hC (c_H_read l θ _ _ _ _ _ hw) mi_H_read mlB_28 mv_H_read ci_7 ho_3 hwo hS ⟨rfl, rfl⟩ ⟨by decide, by decide⟩ rfl hl.1 rfl (Nat.le_of_ble_eq_true rfl) dB_readOrderedLengths_2 (fun r_4 V_1 U_2 hw H locs hwo hS => ?_)
  refine lv_iconst (v := 1) hx hb dB_readOrderedLengths_5 (by decide) ?_
  refine lv_iadd hx hb dB_readOrderedLengths_6 ?_
  refine lv_topi (fun y_5 ey_5 => ?_)
  replace hw := hw y_5 ey_5
  refine lv_istore_n (i := 2) (lv' := [(2, .int y_5), (0, .ref a0), (1, .ref a1)]) hx hb dB_readOrderedLengths_7 rfl hl (by decide) rfl (fun ls hl => ?_)
  refine lv_iconst (v := 0) hx hb dB_readOrderedLengths_8 (by decide) ?_
  refine lv_istore_n (i := 3) (lv' := [(3, .int (0 : Int32)), (2, .int y_5), (0, .ref a0), (1, .ref a1)]) hx hb dB_readOrderedLengths_9 rfl hl (by decide) rfl (fun ls hl => ?_)
  obtain ⟨n, hw⟩ := hw
  exact L10 _ _ n _ _ _ _ _ _ _ hw hwo hS (lv_sub hl [2, 3, 1, 0] rfl)
theorem dB_readLengths_0 : decode kB_readLengths 0 = .ok (.aload_n 1, 1) := by decide +kernel
theorem dB_readLengths_1 : decode kB_readLengths 1 = .ok (.invokevirtual 37, 3) := by decide +kernel
theorem dB_readLengths_4 : decode kB_readLengths 4 = .ok (.istore_n 2, 1) := by decide +kernel
theorem dB_readLengths_5 : decode kB_readLengths 5 = .ok (.iconst 0, 1) := by decide +kernel
theorem dB_readLengths_6 : decode kB_readLengths 6 = .ok (.istore_n 3, 1) := by decide +kernel
theorem dB_readLengths_7 : decode kB_readLengths 7 = .ok (.iload_n 3, 1) := by decide +kernel
theorem dB_readLengths_8 : decode kB_readLengths 8 = .ok (.aload_n 0, 1) := by decide +kernel
theorem dB_readLengths_9 : decode kB_readLengths 9 = .ok (.getfield 34, 3) := by decide +kernel
theorem dB_readLengths_12 : decode kB_readLengths 12 = .ok (.if_icmp .ge 49, 3) := by decide +kernel
theorem dB_readLengths_15 : decode kB_readLengths 15 = .ok (.iload_n 2, 1) := by decide +kernel
theorem dB_readLengths_16 : decode kB_readLengths 16 = .ok (.ifCond .eq 10, 3) := by decide +kernel
theorem dB_readLengths_19 : decode kB_readLengths 19 = .ok (.aload_n 1, 1) := by decide +kernel
theorem dB_readLengths_20 : decode kB_readLengths 20 = .ok (.invokevirtual 37, 3) := by decide +kernel
theorem dB_readLengths_23 : decode kB_readLengths 23 = .ok (.ifCond .eq 7, 3) := by decide +kernel
theorem dB_readLengths_26 : decode kB_readLengths 26 = .ok (.iconst 1, 1) := by decide +kernel
theorem dB_readLengths_27 : decode kB_readLengths 27 = .ok (.goto 4, 3) := by decide +kernel
theorem dB_readLengths_30 : decode kB_readLengths 30 = .ok (.iconst 0, 1) := by decide +kernel
theorem dB_readLengths_31 : decode kB_readLengths 31 = .ok (.istore 4, 2) := by decide +kernel
theorem dB_readLengths_33 : decode kB_readLengths 33 = .ok (.aload_n 0, 1) := by decide +kernel
theorem dB_readLengths_34 : decode kB_readLengths 34 = .ok (.getfield 15, 3) := by decide +kernel
theorem dB_readLengths_37 : decode kB_readLengths 37 = .ok (.iload_n 3, 1) := by decide +kernel
theorem dB_readLengths_38 : decode kB_readLengths 38 = .ok (.iload 4, 2) := by decide +kernel
theorem dB_readLengths_40 : decode kB_readLengths 40 = .ok (.ifCond .eq 13, 3) := by decide +kernel
theorem dB_readLengths_43 : decode kB_readLengths 43 = .ok (.aload_n 1, 1) := by decide +kernel
theorem dB_readLengths_44 : decode kB_readLengths 44 = .ok (.iconst 3, 1) := by decide +kernel
theorem dB_readLengths_45 : decode kB_readLengths 45 = .ok (.invokevirtual 28, 3) := by decide +kernel
theorem dB_readLengths_48 : decode kB_readLengths 48 = .ok (.iconst 1, 1) := by decide +kernel
theorem dB_readLengths_49 : decode kB_readLengths 49 = .ok (.iadd, 1) := by decide +kernel
theorem dB_readLengths_50 : decode kB_readLengths 50 = .ok (.goto 4, 3) := by decide +kernel
theorem dB_readLengths_53 : decode kB_readLengths 53 = .ok (.iconst 0, 1) := by decide +kernel
theorem dB_readLengths_54 : decode kB_readLengths 54 = .ok (.iastore, 1) := by decide +kernel
theorem dB_readLengths_55 : decode kB_readLengths 55 = .ok (.iinc 3 1, 3) := by decide +kernel
theorem dB_readLengths_58 : decode kB_readLengths 58 = .ok (.goto (-51), 3) := by decide +kernel
theorem dB_readLengths_61 : decode kB_readLengths 61 = .ok (.return_, 1) := by decide +kernel
def wb_B_readLengths_31 (θ : TH) (a0_7 : Nat) (a1_7 : Nat) (x2_7 : Int32) (x3_31 : Int32) (z0_31 : Int32) (kb7 : Int32 → VT → UT → Prop) (K : VT → UT → Prop) (V : VT) (U : UT) : Prop := isO θ a0_7 8 ∧ (U a0_7 2) ≠ 0 ∧ ((z0_31 = 0 → ∃ n_16, isA θ (U a0_7 2) 0 n_16 ∧ vp_in x3_31 n_16 ∧ ∀ V_19 : VT, V_19 = up2 V (U a0_7 2) x3_31.toNatClampNeg (0 : Int32) → ∀ y_20 : Int32, y_20 = x3_31 + (1 : Int32) → kb7 y_20 V_19 U) ∧ (¬ z0_31 = 0 → isO θ a1_7 7 ∧ wp_H_read θ a1_7 (3 : Int32) V U (fun r_24 V_21 U_22 => ∃ n_25, isA θ (U a0_7 2) 0 n_25 ∧ vp_in x3_31 n_25 ∧ ∀ V_28 : VT, V_28 = up2 V_21 (U a0_7 2) x3_31.toNatClampNeg (r_24 + (1 : Int32)) → ∀ y_29 : Int32, y_29 = x3_31 + (1 : Int32) → kb7 y_29 V_28 U_22)))
def wb_B_readLengths_26 (θ : TH) (a0_7 : Nat) (a1_7 : Nat) (x2_7 : Int32) (x3_26 : Int32) (kb7 : Int32 → VT → UT → Prop) (K : VT → UT → Prop) (V : VT) (U : UT) : Prop := wb_B_readLengths_31 θ a0_7 a1_7 x2_7 x3_26 (1 : Int32) kb7 K V U
def bl_B_readLengths_7 (θ : TH) (a0_7 : Nat) (a1_7 : Nat) (x2_7 : Int32) (K : VT → UT → Prop) (kb7 : Int32 → VT → UT → Prop) (x3_7 : Int32) (V : VT) (U : UT) : Prop := isO θ a0_7 8 ∧ (((V a0_7 0) ≤ x3_7 → K V U) ∧ (¬ (V a0_7 0) ≤ x3_7 → ((x2_7 = 0 → wb_B_readLengths_26 θ a0_7 a1_7 x2_7 x3_7 kb7 K V U) ∧ (¬ x2_7 = 0 → isO θ a1_7 7 ∧ wp_H_readFlag θ a1_7 V U (fun r_11 V_8 U_9 => ((r_11 = 0 → wb_B_readLengths_31 θ a0_7 a1_7 x2_7 x3_7 (0 : Int32) kb7 K V_8 U_9) ∧ (¬ r_11 = 0 → wb_B_readLengths_26 θ a0_7 a1_7 x2_7 x3_7 kb7 K V_8 U_9)))))))
def wl_B_readLengths_7 (θ : TH) (a0_7 : Nat) (a1_7 : Nat) (x2_7 : Int32) (K : VT → UT → Prop) : Nat → Int32 → VT → UT → Prop
  | 0, _, _, _ => False
  | n + 1, x3_7, V, U => bl_B_readLengths_7 θ a0_7 a1_7 x2_7 K (wl_B_readLengths_7 θ a0_7 a1_7 x2_7 K n) x3_7 V U
def wp_B_readLengths (θ : TH) (a0 : Nat) (a1 : Nat) (V : VT) (U : UT) (K : VT → UT → Prop) : Prop := isO θ a1 7 ∧ wp_H_readFlag θ a1 V U (fun r_4 V_1 U_2 => ∃ n, wl_B_readLengths_7 θ a0 a1 r_4 K n (0 : Int32) V_1 U_2)
set_option maxRecDepth 100000 in
set_option maxHeartbeats 4000000 in
theorem c_B_readLengths (l : Launch) (θ : TH) (a0 : Nat) (a1 : Nat) (V : VT) (U : UT) (K : VT → UT → Prop) (hw : wp_B_readLengths θ a0 a1 V U K) : CMv l yB_readLengths kB_readLengths 5 none rmB_readLengths θ [.ref a0, .ref a1] V U K := by
  refine g_met nRB (by decide +kernel) rfl (Nat.le_of_ble_eq_true rfl) (fun p e s m args below meth c ls hC hr hlk hwo hl => ?_)
  have hx := hC.1
  have hb := hC.2.1
  have hS : Sx θ s s.heap [] := va_S.rf
  have hl : lv_has ls 5 [(0, .ref a0), (1, .ref a1)] := hl
  have L7 : ∀ (a0_7 : Nat) (a1_7 : Nat) (x2_7 : Int32) (n7 : Nat) (x3_7 : Int32) (V : VT) (U : UT) (H : Heap) (locs : List Loc) (ls : Array Slot), wl_B_readLengths_7 θ a0_7 a1_7 x2_7 K n7 x3_7 V U → wo θ V U H → Sx θ s H locs → lv_has ls 5 [(0, .ref a0_7), (1, .ref a1_7), (2, .int x2_7), (3, .int x3_7)] → W p l e rmB_readLengths s m args below meth c H locs 0 0 (MQ below (QV θ K) args s 0 0 (aT θ)) (F0 m 7 ls []) := by
    intro a0_7 a1_7 x2_7 n7
    induction n7 with
    | zero => intro x3_7 V U H locs ls hw hwo hS hl; exact (show False from hw).elim
    | succ n7 ih7 =>
      have J31 : ∀ (x3_31 : Int32) (z0_31 : Int32) (V : VT) (U : UT) (H : Heap) (locs : List Loc) (ls : Array Slot), wb_B_readLengths_31 θ a0_7 a1_7 x2_7 x3_31 z0_31 (wl_B_readLengths_7 θ a0_7 a1_7 x2_7 K n7) K V U → wo θ V U H → Sx θ s H locs → lv_has ls 5 [(0, .ref a0_7), (1, .ref a1_7), (2, .int x2_7), (3, .int x3_31)] → W p l e rmB_readLengths s m args below meth c H locs 0 0 (MQ below (QV θ K) args s 0 0 (aT θ)) (F0 m 31 ls [.int z0_31]) := by
        intro x3_31 z0_31 V U H locs ls hw hwo hS hl
        unfold wb_B_readLengths_31 at hw
        refine lv_istore (i := 4) (lv' := [(4, .int z0_31), (0, .ref a0_7), (1, .ref a1_7), (2, .int x2_7), (3, .int x3_31)]) hx hb dB_readLengths_31 hl (by decide) rfl (fun ls hl => ?_)
        refine lv_aload_n hx hb dB_readLengths_33 rfl (lv_at hl 1 rfl) ?_
        obtain ⟨ho_13, hw⟩ := hw
        obtain ⟨hz_14, hw⟩ := hw
        refine g_getR hC fkB_15 rfl hwo ho_13 hz_14 dB_readLengths_34 ?_
        refine lv_iload_n hx hb dB_readLengths_37 rfl (lv_at hl 4 rfl) ?_
        refine lv_iload hx hb dB_readLengths_38 (lv_at hl 0 rfl) ?_
        refine lv_if_eq (tgt := 53) hx hb dB_readLengths_40 (by decide) (fun hc_15 => ?_) (fun hc_15 => ?_)
        · replace hw := hw.1 hc_15
          refine lv_iconst (v := 0) hx hb dB_readLengths_53 (by decide) ?_
          obtain ⟨n_16, ha_17, hw⟩ := hw
          obtain ⟨hi_18, hw⟩ := hw
          refine g_iast hC hwo hS ha_17 hi_18 dB_readLengths_54 (fun V_19 eV_19 H locs hwo hS => ?_)
          replace hw := hw V_19 eV_19
          obtain ⟨y_20, ey_20⟩ : ∃ z : Int32, z = x3_31 + (1 : Int32) := ⟨_, rfl⟩
          replace hw := hw y_20 ey_20
          refine lv_iinc (k := 4) (v := y_20) (lv' := [(3, .int y_20), (4, .int z0_31), (0, .ref a0_7), (1, .ref a1_7), (2, .int x2_7)]) hx hb dB_readLengths_55 hl rfl (by rw [ey_20]; rfl) (by decide) rfl (fun ls hl => ?_)
          refine lv_goto (tgt := 7) hx hb dB_readLengths_58 (by decide) ?_
          exact ih7 _ _ _ _ _ _ hw hwo hS (lv_sub hl [2, 3, 4, 0] rfl)
        · replace hw := hw.2 hc_15
          refine lv_aload_n hx hb dB_readLengths_43 rfl (lv_at hl 2 rfl) ?_
          refine lv_iconst (v := 3) hx hb dB_readLengths_44 (by decide) ?_
          obtain ⟨ho_23, hw⟩ := hw
          refine g_Vi (rest := [.int x3_31, .ref (U a0_7 2)]) hC (c_H_read l θ _ _ _ _ _ hw) mi_H_read mlB_28 mv_H_read ci_7 ho_23 hwo hS ⟨rfl, rfl⟩ ⟨by decide, by decide⟩ rfl hl.1 rfl (Nat.le_of_ble_eq_true rfl) dB_readLengths_45 (fun r_24 V_21 U_22 hw H locs hwo hS => ?_)
          refine lv_iconst (v := 1) hx hb dB_readLengths_48 (by decide) ?_
          refine lv_iadd hx hb dB_readLengths_49 ?_
          refine lv_goto (tgt := 54) hx hb dB_readLengths_50 (by decide) ?_
          obtain ⟨n_25, ha_26, hw⟩ := hw
          obtain ⟨hi_27, hw⟩ := hw
          refine g_iast hC hwo hS ha_26 hi_27 dB_readLengths_54 (fun V_28 eV_28 H locs hwo hS => ?_)
          replace hw := hw V_28 eV_28
          obtain ⟨y_29, ey_29⟩ : ∃ z : Int32, z = x3_31 + (1 : Int32) := ⟨_, rfl⟩
          replace hw := hw y_29 ey_29
          refine lv_iinc (k := 4) (v := y_29) (lv' := [(3, .int y_29), (4, .int z0_31), (0, .ref a0_7), (1, .ref a1_7), (2, .int x2_7)]) hx hb dB_readLengths_55 hl rfl (by rw [ey_29]; rfl) (by decide) rfl (fun ls hl => ?_)
          refine lv_goto (tgt := 7) hx hb dB_readLengths_58 (by decide) ?_
          exact ih7 _ _ _ _ _ _ hw hwo hS (lv_sub hl [2, 3, 4, 0] rfl)
      have J26 : ∀ (x3_26 : Int32) (V : VT) (U : UT) (H : Heap) (locs : List Loc) (ls : Array Slot), wb_B_readLengths_26 θ a0_7 a1_7 x2_7 x3_26 (wl_B_readLengths_7 θ a0_7 a1_7 x2_7 K n7) K V U → wo θ V U H → Sx θ s H locs → lv_has ls 5 [(0, .ref a0_7), (1, .ref a1_7), (2, .int x2_7), (3, .int x3_26)] → W p l e rmB_readLengths s m args below meth c H locs 0 0 (MQ below (QV θ K) args s 0 0 (aT θ)) (F0 m 26 ls []) := by
        intro x3_26 V U H locs ls hw hwo hS hl
        unfold wb_B_readLengths_26 at hw
        refine lv_iconst (v := 1) hx hb dB_readLengths_26 (by decide) ?_
        refine lv_goto (tgt := 31) hx hb dB_readLengths_27 (by decide) ?_
        exact J31 _ _ _ _ _ _ _ hw hwo hS (lv_sub hl [0, 1, 2, 3] rfl)
      intro x3_7 V U H locs ls hw hwo hS hl
      replace hw : bl_B_readLengths_7 θ a0_7 a1_7 x2_7 K (wl_B_readLengths_7 θ a0_7 a1_7 x2_7 K n7) x3_7 V U := hw
      unfold bl_B_readLengths_7 at hw
      refine lv_iload_n hx hb dB_readLengths_7 rfl (lv_at hl 3 rfl) ?_
      refine lv_aload_n hx hb dB_readLengths_8 rfl (lv_at hl 0 rfl) ?_
      obtain ⟨ho_5, hw⟩ := hw
      refine g_getI hC fkB_34 rfl hwo ho_5 dB_readLengths_9 ?_
      refine lv_icmp_ge (tgt := 61) hx hb dB_readLengths_12 (by decide) (fun hc_6 => ?_) (fun hc_6 => ?_)
      · replace hw := hw.1 hc_6
        exact g_vret hC hr hlk hw hwo hS dB_readLengths_61
      · replace hw := hw.2 hc_6
        refine lv_iload_n hx hb dB_readLengths_15 rfl (lv_at hl 2 rfl) ?_
        refine lv_if_eq (tgt := 26) hx hb dB_readLengths_16 (by decide) (fun hc_7 => ?_) (fun hc_7 => ?_)
        · replace hw := hw.1 hc_7
          exact J26 _ _ _ _ _ _ hw hwo hS (lv_sub hl [0, 1, 2, 3] rfl)
        · replace hw := hw.2 hc_7
          refine lv_aload_n hx hb dB_readLengths_19 rfl (lv_at hl 1 rfl) ?_
          obtain ⟨ho_10, hw⟩ := hw
          refine g_Vi (rest := []) hC (c_H_readFlag l θ _ _ _ _ hw) mi_H_readFlag mlB_37 mv_H_readFlag ci_7 ho_10 hwo hS ⟨rfl, rfl⟩ ⟨by decide, by decide⟩ rfl hl.1 rfl (Nat.le_of_ble_eq_true rfl) dB_readLengths_20 (fun r_11 V_8 U_9 hw H locs hwo hS => ?_)
          refine lv_if_eq (tgt := 30) hx hb dB_readLengths_23 (by decide) (fun hc_12 => ?_) (fun hc_12 => ?_)
          · replace hw := hw.1 hc_12
            refine lv_iconst (v := 0) hx hb dB_readLengths_30 (by decide) ?_
            exact J31 _ _ _ _ _ _ _ hw hwo hS (lv_sub hl [0, 1, 2, 3] rfl)
          · replace hw := hw.2 hc_12
            exact J26 _ _ _ _ _ _ hw hwo hS (lv_sub hl [0, 1, 2, 3] rfl)
  unfold wp_B_readLengths at hw
  refine lv_aload_n hx hb dB_readLengths_0 rfl (lv_at hl 1 rfl) ?_
  obtain ⟨ho_3, hw⟩ := hw
  refine g_Vi (rest := []) hC (c_H_readFlag l θ _ _ _ _ hw) mi_H_readFlag mlB_37 mv_H_readFlag ci_7 ho_3 hwo hS ⟨rfl, rfl⟩ ⟨by decide, by decide⟩ rfl hl.1 rfl (Nat.le_of_ble_eq_true rfl) dB_readLengths_1 (fun r_4 V_1 U_2 hw H locs hwo hS => ?_)
  refine lv_istore_n (i := 2) (lv' := [(2, .int r_4), (0, .ref a0), (1, .ref a1)]) hx hb dB_readLengths_4 rfl hl (by decide) rfl (fun ls hl => ?_)
  refine lv_iconst (v := 0) hx hb dB_readLengths_5 (by decide) ?_
  refine lv_istore_n (i := 3) (lv' := [(3, .int (0 : Int32)), (2, .int r_4), (0, .ref a0), (1, .ref a1)]) hx hb dB_readLengths_6 rfl hl (by decide) rfl (fun ls hl => ?_)
  obtain ⟨n, hw⟩ := hw
  exact L7 _ _ _ n _ _ _ _ _ _ hw hwo hS (lv_sub hl [2, 3, 1, 0] rfl)
theorem dB_rootOfEntries_0 : decode kB_rootOfEntries 0 = .ok (.iconst 1, 1) := by decide +kernel
theorem dB_rootOfEntries_1 : decode kB_rootOfEntries 1 = .ok (.istore_n 1, 1) := by decide +kernel
theorem dB_rootOfEntries_2 : decode kB_rootOfEntries 2 = .ok (.iconst 2, 1) := by decide +kernel
theorem dB_rootOfEntries_3 : decode kB_rootOfEntries 3 = .ok (.istore_n 2, 1) := by decide +kernel
theorem dB_rootOfEntries_4 : decode kB_rootOfEntries 4 = .ok (.iload_n 2, 1) := by decide +kernel
theorem dB_rootOfEntries_5 : decode kB_rootOfEntries 5 = .ok (.aload_n 0, 1) := by decide +kernel
theorem dB_rootOfEntries_6 : decode kB_rootOfEntries 6 = .ok (.getfield 34, 3) := by decide +kernel
theorem dB_rootOfEntries_9 : decode kB_rootOfEntries 9 = .ok (.if_icmp .gt 43, 3) := by decide +kernel
theorem dB_rootOfEntries_12 : decode kB_rootOfEntries 12 = .ok (.iconst 1, 1) := by decide +kernel
theorem dB_rootOfEntries_13 : decode kB_rootOfEntries 13 = .ok (.istore_n 3, 1) := by decide +kernel
theorem dB_rootOfEntries_14 : decode kB_rootOfEntries 14 = .ok (.iconst 0, 1) := by decide +kernel
theorem dB_rootOfEntries_15 : decode kB_rootOfEntries 15 = .ok (.istore 4, 2) := by decide +kernel
theorem dB_rootOfEntries_17 : decode kB_rootOfEntries 17 = .ok (.iload 4, 2) := by decide +kernel
theorem dB_rootOfEntries_19 : decode kB_rootOfEntries 19 = .ok (.aload_n 0, 1) := by decide +kernel
theorem dB_rootOfEntries_20 : decode kB_rootOfEntries 20 = .ok (.getfield 9, 3) := by decide +kernel
theorem dB_rootOfEntries_23 : decode kB_rootOfEntries 23 = .ok (.if_icmp .ge 13, 3) := by decide +kernel
theorem dB_rootOfEntries_26 : decode kB_rootOfEntries 26 = .ok (.iload_n 3, 1) := by decide +kernel
theorem dB_rootOfEntries_27 : decode kB_rootOfEntries 27 = .ok (.iload_n 2, 1) := by decide +kernel
theorem dB_rootOfEntries_28 : decode kB_rootOfEntries 28 = .ok (.imul, 1) := by decide +kernel
theorem dB_rootOfEntries_29 : decode kB_rootOfEntries 29 = .ok (.istore_n 3, 1) := by decide +kernel
theorem dB_rootOfEntries_30 : decode kB_rootOfEntries 30 = .ok (.iinc 4 1, 3) := by decide +kernel
theorem dB_rootOfEntries_33 : decode kB_rootOfEntries 33 = .ok (.goto (-16), 3) := by decide +kernel
theorem dB_rootOfEntries_36 : decode kB_rootOfEntries 36 = .ok (.iload_n 3, 1) := by decide +kernel
theorem dB_rootOfEntries_37 : decode kB_rootOfEntries 37 = .ok (.aload_n 0, 1) := by decide +kernel
theorem dB_rootOfEntries_38 : decode kB_rootOfEntries 38 = .ok (.getfield 34, 3) := by decide +kernel
theorem dB_rootOfEntries_41 : decode kB_rootOfEntries 41 = .ok (.if_icmp .gt 5, 3) := by decide +kernel
theorem dB_rootOfEntries_44 : decode kB_rootOfEntries 44 = .ok (.iload_n 2, 1) := by decide +kernel
theorem dB_rootOfEntries_45 : decode kB_rootOfEntries 45 = .ok (.istore_n 1, 1) := by decide +kernel
theorem dB_rootOfEntries_46 : decode kB_rootOfEntries 46 = .ok (.iinc 2 1, 3) := by decide +kernel
theorem dB_rootOfEntries_49 : decode kB_rootOfEntries 49 = .ok (.goto (-45), 3) := by decide +kernel
theorem dB_rootOfEntries_52 : decode kB_rootOfEntries 52 = .ok (.iload_n 1, 1) := by decide +kernel
theorem dB_rootOfEntries_53 : decode kB_rootOfEntries 53 = .ok (.ireturn, 1) := by decide +kernel
def bl_B_rootOfEntries_17 (θ : TH) (a0_4 : Nat) (x1_17 : Int32) (x2_17 : Int32) (kb4 : Int32 → Int32 → VT → UT → Prop) (K : Int32 → VT → UT → Prop) (kb17 : Int32 → Int32 → VT → UT → Prop) (x3_17 : Int32) (x4_17 : Int32) (V : VT) (U : UT) : Prop := isO θ a0_4 8 ∧ (((V a0_4 1) ≤ x4_17 → (((V a0_4 0) < x3_17 → ∀ y_6 : Int32, y_6 = x2_17 + (1 : Int32) → kb4 x1_17 y_6 V U) ∧ (¬ (V a0_4 0) < x3_17 → ∀ y_7 : Int32, y_7 = x2_17 + (1 : Int32) → kb4 x2_17 y_7 V U))) ∧ (¬ (V a0_4 1) ≤ x4_17 → ∀ y_8 : Int32, y_8 = (x3_17 * x2_17) → ∀ y_9 : Int32, y_9 = x4_17 + (1 : Int32) → kb17 y_8 y_9 V U))
def wl_B_rootOfEntries_17 (θ : TH) (a0_4 : Nat) (x1_17 : Int32) (x2_17 : Int32) (kb4 : Int32 → Int32 → VT → UT → Prop) (K : Int32 → VT → UT → Prop) : Nat → Int32 → Int32 → VT → UT → Prop
  | 0, _, _, _, _ => False
  | n + 1, x3_17, x4_17, V, U => bl_B_rootOfEntries_17 θ a0_4 x1_17 x2_17 kb4 K (wl_B_rootOfEntries_17 θ a0_4 x1_17 x2_17 kb4 K n) x3_17 x4_17 V U
def bl_B_rootOfEntries_4 (θ : TH) (a0_4 : Nat) (K : Int32 → VT → UT → Prop) (kb4 : Int32 → Int32 → VT → UT → Prop) (x1_4 : Int32) (x2_4 : Int32) (V : VT) (U : UT) : Prop := isO θ a0_4 8 ∧ (((V a0_4 0) < x2_4 → K x1_4 V U) ∧ (¬ (V a0_4 0) < x2_4 → ∃ n, wl_B_rootOfEntries_17 θ a0_4 x1_4 x2_4 kb4 K n (1 : Int32) (0 : Int32) V U))
def wl_B_rootOfEntries_4 (θ : TH) (a0_4 : Nat) (K : Int32 → VT → UT → Prop) : Nat → Int32 → Int32 → VT → UT → Prop
  | 0, _, _, _, _ => False
  | n + 1, x1_4, x2_4, V, U => bl_B_rootOfEntries_4 θ a0_4 K (wl_B_rootOfEntries_4 θ a0_4 K n) x1_4 x2_4 V U
def wp_B_rootOfEntries (θ : TH) (a0 : Nat) (V : VT) (U : UT) (K : Int32 → VT → UT → Prop) : Prop := ∃ n, wl_B_rootOfEntries_4 θ a0 K n (1 : Int32) (2 : Int32) V U
set_option maxRecDepth 100000 in
set_option maxHeartbeats 4000000 in
theorem c_B_rootOfEntries (l : Launch) (θ : TH) (a0 : Nat) (V : VT) (U : UT) (K : Int32 → VT → UT → Prop) (hw : wp_B_rootOfEntries θ a0 V U K) : CMi l yB_rootOfEntries kB_rootOfEntries 5 (some .int) rmB_rootOfEntries θ [.ref a0] V U K := by
  refine g_met nRB (by decide +kernel) rfl (Nat.le_of_ble_eq_true rfl) (fun p e s m args below meth c ls hC hr hlk hwo hl => ?_)
  have hx := hC.1
  have hb := hC.2.1
  have hS : Sx θ s s.heap [] := va_S.rf
  have hl : lv_has ls 5 [(0, .ref a0)] := hl
  have L4 : ∀ (a0_4 : Nat) (n4 : Nat) (x1_4 : Int32) (x2_4 : Int32) (V : VT) (U : UT) (H : Heap) (locs : List Loc) (ls : Array Slot), wl_B_rootOfEntries_4 θ a0_4 K n4 x1_4 x2_4 V U → wo θ V U H → Sx θ s H locs → lv_has ls 5 [(0, .ref a0_4), (1, .int x1_4), (2, .int x2_4)] → W p l e rmB_rootOfEntries s m args below meth c H locs 0 0 (MQ below (QI θ K) args s 0 0 (aT θ)) (F0 m 4 ls []) := by
    intro a0_4 n4
    induction n4 with
    | zero => intro x1_4 x2_4 V U H locs ls hw hwo hS hl; exact (show False from hw).elim
    | succ n4 ih4 =>
      have L17 : ∀ (x1_17 : Int32) (x2_17 : Int32) (n17 : Nat) (x3_17 : Int32) (x4_17 : Int32) (V : VT) (U : UT) (H : Heap) (locs : List Loc) (ls : Array Slot), wl_B_rootOfEntries_17 θ a0_4 x1_17 x2_17 (wl_B_rootOfEntries_4 θ a0_4 K n4) K n17 x3_17 x4_17 V U → wo θ V U H → Sx θ s H locs → lv_has ls 5 [(0, .ref a0_4), (1, .int x1_17), (2, .int x2_17), (3, .int x3_17), (4, .int x4_17)] → W p l e rmB_rootOfEntries s m args below meth c H locs 0 0 (MQ below (QI θ K) args s 0 0 (aT θ)) (F0 m 17 ls []) := by
        intro x1_17 x2_17 n17
        induction n17 with
        | zero => intro x3_17 x4_17 V U H locs ls hw hwo hS hl; exact (show False from hw).elim
        | succ n17 ih17 =>
          intro x3_17 x4_17 V U H locs ls hw hwo hS hl
          replace hw : bl_B_rootOfEntries_17 θ a0_4 x1_17 x2_17 (wl_B_rootOfEntries_4 θ a0_4 K n4) K (wl_B_rootOfEntries_17 θ a0_4 x1_17 x2_17 (wl_B_rootOfEntries_4 θ a0_4 K n4) K n17) x3_17 x4_17 V U := hw
          unfold bl_B_rootOfEntries_17 at hw
          refine lv_iload hx hb dB_rootOfEntries_17 (lv_at hl 4 rfl) ?_
          refine lv_aload_n hx hb dB_rootOfEntries_19 rfl (lv_at hl 0 rfl) ?_
          obtain ⟨ho_3, hw⟩ := hw
          refine g_getI hC fkB_9 rfl hwo ho_3 dB_rootOfEntries_20 ?_
          refine lv_icmp_ge (tgt := 36) hx hb dB_rootOfEntries_23 (by decide) (fun hc_4 => ?_) (fun hc_4 => ?_)
          · replace hw := hw.1 hc_4
            refine lv_iload_n hx hb dB_rootOfEntries_36 rfl (lv_at hl 3 rfl) ?_
            refine lv_aload_n hx hb dB_rootOfEntries_37 rfl (lv_at hl 0 rfl) ?_
            refine g_getI hC fkB_34 rfl hwo ho_3 dB_rootOfEntries_38 ?_
            refine lv_icmp_gt (tgt := 46) hx hb dB_rootOfEntries_41 (by decide) (fun hc_5 => ?_) (fun hc_5 => ?_)
            · replace hw := hw.1 hc_5
              obtain ⟨y_6, ey_6⟩ : ∃ z : Int32, z = x2_17 + (1 : Int32) := ⟨_, rfl⟩
              replace hw := hw y_6 ey_6
              refine lv_iinc (k := 2) (v := y_6) (lv' := [(2, .int y_6), (0, .ref a0_4), (1, .int x1_17), (3, .int x3_17), (4, .int x4_17)]) hx hb dB_rootOfEntries_46 hl rfl (by rw [ey_6]; rfl) (by decide) rfl (fun ls hl => ?_)
              refine lv_goto (tgt := 4) hx hb dB_rootOfEntries_49 (by decide) ?_
              exact ih4 _ _ _ _ _ _ _ hw hwo hS (lv_sub hl [1, 2, 0] rfl)
            · replace hw := hw.2 hc_5
              refine lv_iload_n hx hb dB_rootOfEntries_44 rfl (lv_at hl 2 rfl) ?_
              refine lv_istore_n (i := 1) (lv' := [(1, .int x2_17), (0, .ref a0_4), (2, .int x2_17), (3, .int x3_17), (4, .int x4_17)]) hx hb dB_rootOfEntries_45 rfl hl (by decide) rfl (fun ls hl => ?_)
              obtain ⟨y_7, ey_7⟩ : ∃ z : Int32, z = x2_17 + (1 : Int32) := ⟨_, rfl⟩
              replace hw := hw y_7 ey_7
              refine lv_iinc (k := 2) (v := y_7) (lv' := [(2, .int y_7), (1, .int x2_17), (0, .ref a0_4), (3, .int x3_17), (4, .int x4_17)]) hx hb dB_rootOfEntries_46 hl rfl (by rw [ey_7]; rfl) (by decide) rfl (fun ls hl => ?_)
              refine lv_goto (tgt := 4) hx hb dB_rootOfEntries_49 (by decide) ?_
              exact ih4 _ _ _ _ _ _ _ hw hwo hS (lv_sub hl [2, 1, 0] rfl)
          · replace hw := hw.2 hc_4
            refine lv_iload_n hx hb dB_rootOfEntries_26 rfl (lv_at hl 3 rfl) ?_
            refine lv_iload_n hx hb dB_rootOfEntries_27 rfl (lv_at hl 2 rfl) ?_
            refine lv_imul hx hb dB_rootOfEntries_28 ?_
            refine lv_topi (fun y_8 ey_8 => ?_)
            replace hw := hw y_8 ey_8
            refine lv_istore_n (i := 3) (lv' := [(3, .int y_8), (0, .ref a0_4), (1, .int x1_17), (2, .int x2_17), (4, .int x4_17)]) hx hb dB_rootOfEntries_29 rfl hl (by decide) rfl (fun ls hl => ?_)
            obtain ⟨y_9, ey_9⟩ : ∃ z : Int32, z = x4_17 + (1 : Int32) := ⟨_, rfl⟩
            replace hw := hw y_9 ey_9
            refine lv_iinc (k := 4) (v := y_9) (lv' := [(4, .int y_9), (3, .int y_8), (0, .ref a0_4), (1, .int x1_17), (2, .int x2_17)]) hx hb dB_rootOfEntries_30 hl rfl (by rw [ey_9]; rfl) (by decide) rfl (fun ls hl => ?_)
            refine lv_goto (tgt := 17) hx hb dB_rootOfEntries_33 (by decide) ?_
            exact ih17 _ _ _ _ _ _ _ hw hwo hS (lv_sub hl [2, 3, 4, 1, 0] rfl)
      intro x1_4 x2_4 V U H locs ls hw hwo hS hl
      replace hw : bl_B_rootOfEntries_4 θ a0_4 K (wl_B_rootOfEntries_4 θ a0_4 K n4) x1_4 x2_4 V U := hw
      unfold bl_B_rootOfEntries_4 at hw
      refine lv_iload_n hx hb dB_rootOfEntries_4 rfl (lv_at hl 2 rfl) ?_
      refine lv_aload_n hx hb dB_rootOfEntries_5 rfl (lv_at hl 0 rfl) ?_
      obtain ⟨ho_1, hw⟩ := hw
      refine g_getI hC fkB_34 rfl hwo ho_1 dB_rootOfEntries_6 ?_
      refine lv_icmp_gt (tgt := 52) hx hb dB_rootOfEntries_9 (by decide) (fun hc_2 => ?_) (fun hc_2 => ?_)
      · replace hw := hw.1 hc_2
        refine lv_iload_n hx hb dB_rootOfEntries_52 rfl (lv_at hl 1 rfl) ?_
        exact g_iret hC hr hlk hw hwo hS dB_rootOfEntries_53
      · replace hw := hw.2 hc_2
        refine lv_iconst (v := 1) hx hb dB_rootOfEntries_12 (by decide) ?_
        refine lv_istore_n (i := 3) (lv' := [(3, .int (1 : Int32)), (0, .ref a0_4), (1, .int x1_4), (2, .int x2_4)]) hx hb dB_rootOfEntries_13 rfl hl (by decide) rfl (fun ls hl => ?_)
        refine lv_iconst (v := 0) hx hb dB_rootOfEntries_14 (by decide) ?_
        refine lv_istore (i := 4) (lv' := [(4, .int (0 : Int32)), (3, .int (1 : Int32)), (0, .ref a0_4), (1, .int x1_4), (2, .int x2_4)]) hx hb dB_rootOfEntries_15 hl (by decide) rfl (fun ls hl => ?_)
        obtain ⟨n, hw⟩ := hw
        exact L17 _ _ n _ _ _ _ _ _ _ hw hwo hS (lv_sub hl [2, 3, 4, 1, 0] rfl)
  unfold wp_B_rootOfEntries at hw
  refine lv_iconst (v := 1) hx hb dB_rootOfEntries_0 (by decide) ?_
  refine lv_istore_n (i := 1) (lv' := [(1, .int (1 : Int32)), (0, .ref a0)]) hx hb dB_rootOfEntries_1 rfl hl (by decide) rfl (fun ls hl => ?_)
  refine lv_iconst (v := 2) hx hb dB_rootOfEntries_2 (by decide) ?_
  refine lv_istore_n (i := 2) (lv' := [(2, .int (2 : Int32)), (1, .int (1 : Int32)), (0, .ref a0)]) hx hb dB_rootOfEntries_3 rfl hl (by decide) rfl (fun ls hl => ?_)
  obtain ⟨n, hw⟩ := hw
  exact L4 _ n _ _ _ _ _ _ _ hw hwo hS (lv_sub hl [2, 1, 0] rfl)
theorem dB_readVectors_0 : decode kB_readVectors 0 = .ok (.aload_n 1, 1) := by decide +kernel
theorem dB_readVectors_1 : decode kB_readVectors 1 = .ok (.iconst 2, 1) := by decide +kernel
theorem dB_readVectors_2 : decode kB_readVectors 2 = .ok (.invokevirtual 28, 3) := by decide +kernel
theorem dB_readVectors_5 : decode kB_readVectors 5 = .ok (.istore_n 2, 1) := by decide +kernel
theorem dB_readVectors_6 : decode kB_readVectors 6 = .ok (.aload_n 0, 1) := by decide +kernel
theorem dB_readVectors_7 : decode kB_readVectors 7 = .ok (.iload_n 2, 1) := by decide +kernel
theorem dB_readVectors_8 : decode kB_readVectors 8 = .ok (.ifCond .eq 7, 3) := by decide +kernel
theorem dB_readVectors_11 : decode kB_readVectors 11 = .ok (.iconst 1, 1) := by decide +kernel
theorem dB_readVectors_12 : decode kB_readVectors 12 = .ok (.goto 4, 3) := by decide +kernel
theorem dB_readVectors_15 : decode kB_readVectors 15 = .ok (.iconst 0, 1) := by decide +kernel
theorem dB_readVectors_16 : decode kB_readVectors 16 = .ok (.putfield 62, 3) := by decide +kernel
theorem dB_readVectors_19 : decode kB_readVectors 19 = .ok (.iload_n 2, 1) := by decide +kernel
theorem dB_readVectors_20 : decode kB_readVectors 20 = .ok (.ifCond .eq 8, 3) := by decide +kernel
theorem dB_readVectors_23 : decode kB_readVectors 23 = .ok (.iload_n 2, 1) := by decide +kernel
theorem dB_readVectors_24 : decode kB_readVectors 24 = .ok (.iconst 3, 1) := by decide +kernel
theorem dB_readVectors_25 : decode kB_readVectors 25 = .ok (.if_icmp .ne 13, 3) := by decide +kernel
theorem dB_readVectors_28 : decode kB_readVectors 28 = .ok (.iload_n 2, 1) := by decide +kernel
theorem dB_readVectors_29 : decode kB_readVectors 29 = .ok (.ifCond .ne 7, 3) := by decide +kernel
theorem dB_readVectors_32 : decode kB_readVectors 32 = .ok (.iconst 1, 1) := by decide +kernel
theorem dB_readVectors_33 : decode kB_readVectors 33 = .ok (.goto 4, 3) := by decide +kernel
theorem dB_readVectors_36 : decode kB_readVectors 36 = .ok (.iconst 0, 1) := by decide +kernel
theorem dB_readVectors_37 : decode kB_readVectors 37 = .ok (.ireturn, 1) := by decide +kernel
theorem dB_readVectors_38 : decode kB_readVectors 38 = .ok (.aload_n 1, 1) := by decide +kernel
theorem dB_readVectors_39 : decode kB_readVectors 39 = .ok (.iconst 4, 1) := by decide +kernel
theorem dB_readVectors_40 : decode kB_readVectors 40 = .ok (.invokevirtual 28, 3) := by decide +kernel
theorem dB_readVectors_43 : decode kB_readVectors 43 = .ok (.bipush 8, 2) := by decide +kernel
theorem dB_readVectors_45 : decode kB_readVectors 45 = .ok (.isub, 1) := by decide +kernel
theorem dB_readVectors_46 : decode kB_readVectors 46 = .ok (.istore_n 3, 1) := by decide +kernel
theorem dB_readVectors_47 : decode kB_readVectors 47 = .ok (.aload_n 1, 1) := by decide +kernel
theorem dB_readVectors_48 : decode kB_readVectors 48 = .ok (.iconst 3, 1) := by decide +kernel
theorem dB_readVectors_49 : decode kB_readVectors 49 = .ok (.invokevirtual 28, 3) := by decide +kernel
theorem dB_readVectors_52 : decode kB_readVectors 52 = .ok (.istore 4, 2) := by decide +kernel
theorem dB_readVectors_54 : decode kB_readVectors 54 = .ok (.aload_n 1, 1) := by decide +kernel
theorem dB_readVectors_55 : decode kB_readVectors 55 = .ok (.invokevirtual 37, 3) := by decide +kernel
theorem dB_readVectors_58 : decode kB_readVectors 58 = .ok (.istore 5, 2) := by decide +kernel
theorem dB_readVectors_60 : decode kB_readVectors 60 = .ok (.aload_n 1, 1) := by decide +kernel
theorem dB_readVectors_61 : decode kB_readVectors 61 = .ok (.iconst 2, 1) := by decide +kernel
theorem dB_readVectors_62 : decode kB_readVectors 62 = .ok (.invokevirtual 28, 3) := by decide +kernel
theorem dB_readVectors_65 : decode kB_readVectors 65 = .ok (.iconst 1, 1) := by decide +kernel
theorem dB_readVectors_66 : decode kB_readVectors 66 = .ok (.iadd, 1) := by decide +kernel
theorem dB_readVectors_67 : decode kB_readVectors 67 = .ok (.istore 6, 2) := by decide +kernel
theorem dB_readVectors_69 : decode kB_readVectors 69 = .ok (.aload_n 0, 1) := by decide +kernel
theorem dB_readVectors_70 : decode kB_readVectors 70 = .ok (.invokevirtual 65, 3) := by decide +kernel
theorem dB_readVectors_73 : decode kB_readVectors 73 = .ok (.istore 7, 2) := by decide +kernel
theorem dB_readVectors_75 : decode kB_readVectors 75 = .ok (.iload_n 2, 1) := by decide +kernel
theorem dB_readVectors_76 : decode kB_readVectors 76 = .ok (.iconst 1, 1) := by decide +kernel
theorem dB_readVectors_77 : decode kB_readVectors 77 = .ok (.if_icmp .ne 8, 3) := by decide +kernel
theorem dB_readVectors_80 : decode kB_readVectors 80 = .ok (.iload 7, 2) := by decide +kernel
theorem dB_readVectors_82 : decode kB_readVectors 82 = .ok (.goto 12, 3) := by decide +kernel
theorem dB_readVectors_85 : decode kB_readVectors 85 = .ok (.aload_n 0, 1) := by decide +kernel
theorem dB_readVectors_86 : decode kB_readVectors 86 = .ok (.getfield 34, 3) := by decide +kernel
theorem dB_readVectors_89 : decode kB_readVectors 89 = .ok (.aload_n 0, 1) := by decide +kernel
theorem dB_readVectors_90 : decode kB_readVectors 90 = .ok (.getfield 9, 3) := by decide +kernel
theorem dB_readVectors_93 : decode kB_readVectors 93 = .ok (.imul, 1) := by decide +kernel
theorem dB_readVectors_94 : decode kB_readVectors 94 = .ok (.istore 8, 2) := by decide +kernel
theorem dB_readVectors_96 : decode kB_readVectors 96 = .ok (.iconst 0, 1) := by decide +kernel
theorem dB_readVectors_97 : decode kB_readVectors 97 = .ok (.istore 9, 2) := by decide +kernel
theorem dB_readVectors_99 : decode kB_readVectors 99 = .ok (.iload 9, 2) := by decide +kernel
theorem dB_readVectors_101 : decode kB_readVectors 101 = .ok (.iload 8, 2) := by decide +kernel
theorem dB_readVectors_103 : decode kB_readVectors 103 = .ok (.if_icmp .ge 22, 3) := by decide +kernel
theorem dB_readVectors_106 : decode kB_readVectors 106 = .ok (.aload_n 0, 1) := by decide +kernel
theorem dB_readVectors_107 : decode kB_readVectors 107 = .ok (.getfield 22, 3) := by decide +kernel
theorem dB_readVectors_110 : decode kB_readVectors 110 = .ok (.iload 9, 2) := by decide +kernel
theorem dB_readVectors_112 : decode kB_readVectors 112 = .ok (.aload_n 1, 1) := by decide +kernel
theorem dB_readVectors_113 : decode kB_readVectors 113 = .ok (.iload 6, 2) := by decide +kernel
theorem dB_readVectors_115 : decode kB_readVectors 115 = .ok (.invokevirtual 28, 3) := by decide +kernel
theorem dB_readVectors_118 : decode kB_readVectors 118 = .ok (.iastore, 1) := by decide +kernel
theorem dB_readVectors_119 : decode kB_readVectors 119 = .ok (.iinc 9 1, 3) := by decide +kernel
theorem dB_readVectors_122 : decode kB_readVectors 122 = .ok (.goto (-23), 3) := by decide +kernel
theorem dB_readVectors_125 : decode kB_readVectors 125 = .ok (.iconst 0, 1) := by decide +kernel
theorem dB_readVectors_126 : decode kB_readVectors 126 = .ok (.istore 9, 2) := by decide +kernel
theorem dB_readVectors_128 : decode kB_readVectors 128 = .ok (.iload 9, 2) := by decide +kernel
theorem dB_readVectors_130 : decode kB_readVectors 130 = .ok (.aload_n 0, 1) := by decide +kernel
theorem dB_readVectors_131 : decode kB_readVectors 131 = .ok (.getfield 34, 3) := by decide +kernel
theorem dB_readVectors_134 : decode kB_readVectors 134 = .ok (.if_icmp .ge 116, 3) := by decide +kernel
theorem dB_readVectors_137 : decode kB_readVectors 137 = .ok (.iconst 1, 1) := by decide +kernel
theorem dB_readVectors_138 : decode kB_readVectors 138 = .ok (.istore 10, 2) := by decide +kernel
theorem dB_readVectors_140 : decode kB_readVectors 140 = .ok (.iconst 0, 1) := by decide +kernel
theorem dB_readVectors_141 : decode kB_readVectors 141 = .ok (.istore 11, 2) := by decide +kernel
theorem dB_readVectors_143 : decode kB_readVectors 143 = .ok (.iload 11, 2) := by decide +kernel
theorem dB_readVectors_145 : decode kB_readVectors 145 = .ok (.aload_n 0, 1) := by decide +kernel
theorem dB_readVectors_146 : decode kB_readVectors 146 = .ok (.getfield 9, 3) := by decide +kernel
theorem dB_readVectors_149 : decode kB_readVectors 149 = .ok (.if_icmp .ge 95, 3) := by decide +kernel
theorem dB_readVectors_152 : decode kB_readVectors 152 = .ok (.iload 9, 2) := by decide +kernel
theorem dB_readVectors_154 : decode kB_readVectors 154 = .ok (.aload_n 0, 1) := by decide +kernel
theorem dB_readVectors_155 : decode kB_readVectors 155 = .ok (.getfield 9, 3) := by decide +kernel
theorem dB_readVectors_158 : decode kB_readVectors 158 = .ok (.imul, 1) := by decide +kernel
theorem dB_readVectors_159 : decode kB_readVectors 159 = .ok (.iload 11, 2) := by decide +kernel
theorem dB_readVectors_161 : decode kB_readVectors 161 = .ok (.iadd, 1) := by decide +kernel
theorem dB_readVectors_162 : decode kB_readVectors 162 = .ok (.istore 12, 2) := by decide +kernel
theorem dB_readVectors_164 : decode kB_readVectors 164 = .ok (.aload_n 0, 1) := by decide +kernel
theorem dB_readVectors_165 : decode kB_readVectors 165 = .ok (.getfield 22, 3) := by decide +kernel
theorem dB_readVectors_168 : decode kB_readVectors 168 = .ok (.iload_n 2, 1) := by decide +kernel
theorem dB_readVectors_169 : decode kB_readVectors 169 = .ok (.iconst 1, 1) := by decide +kernel
theorem dB_readVectors_170 : decode kB_readVectors 170 = .ok (.if_icmp .ne 14, 3) := by decide +kernel
theorem dB_readVectors_173 : decode kB_readVectors 173 = .ok (.iload 9, 2) := by decide +kernel
theorem dB_readVectors_175 : decode kB_readVectors 175 = .ok (.iload 10, 2) := by decide +kernel
theorem dB_readVectors_177 : decode kB_readVectors 177 = .ok (.idiv, 1) := by decide +kernel
theorem dB_readVectors_178 : decode kB_readVectors 178 = .ok (.iload 7, 2) := by decide +kernel
theorem dB_readVectors_180 : decode kB_readVectors 180 = .ok (.irem, 1) := by decide +kernel
theorem dB_readVectors_181 : decode kB_readVectors 181 = .ok (.goto 5, 3) := by decide +kernel
theorem dB_readVectors_184 : decode kB_readVectors 184 = .ok (.iload 12, 2) := by decide +kernel
theorem dB_readVectors_186 : decode kB_readVectors 186 = .ok (.iaload, 1) := by decide +kernel
theorem dB_readVectors_187 : decode kB_readVectors 187 = .ok (.istore 13, 2) := by decide +kernel
theorem dB_readVectors_189 : decode kB_readVectors 189 = .ok (.iload 5, 2) := by decide +kernel
theorem dB_readVectors_191 : decode kB_readVectors 191 = .ok (.ifCond .eq 20, 3) := by decide +kernel
theorem dB_readVectors_194 : decode kB_readVectors 194 = .ok (.iload 11, 2) := by decide +kernel
theorem dB_readVectors_196 : decode kB_readVectors 196 = .ok (.ifCond .le 15, 3) := by decide +kernel
theorem dB_readVectors_199 : decode kB_readVectors 199 = .ok (.aload_n 0, 1) := by decide +kernel
theorem dB_readVectors_200 : decode kB_readVectors 200 = .ok (.getfield 25, 3) := by decide +kernel
theorem dB_readVectors_203 : decode kB_readVectors 203 = .ok (.iload 12, 2) := by decide +kernel
theorem dB_readVectors_205 : decode kB_readVectors 205 = .ok (.iconst 1, 1) := by decide +kernel
theorem dB_readVectors_206 : decode kB_readVectors 206 = .ok (.isub, 1) := by decide +kernel
theorem dB_readVectors_207 : decode kB_readVectors 207 = .ok (.iaload, 1) := by decide +kernel
theorem dB_readVectors_208 : decode kB_readVectors 208 = .ok (.goto 4, 3) := by decide +kernel
theorem dB_readVectors_211 : decode kB_readVectors 211 = .ok (.iconst 0, 1) := by decide +kernel
theorem dB_readVectors_212 : decode kB_readVectors 212 = .ok (.istore 14, 2) := by decide +kernel
theorem dB_readVectors_214 : decode kB_readVectors 214 = .ok (.aload_n 0, 1) := by decide +kernel
theorem dB_readVectors_215 : decode kB_readVectors 215 = .ok (.getfield 25, 3) := by decide +kernel
theorem dB_readVectors_218 : decode kB_readVectors 218 = .ok (.iload 12, 2) := by decide +kernel
theorem dB_readVectors_220 : decode kB_readVectors 220 = .ok (.iload_n 3, 1) := by decide +kernel
theorem dB_readVectors_221 : decode kB_readVectors 221 = .ok (.iload 4, 2) := by decide +kernel
theorem dB_readVectors_223 : decode kB_readVectors 223 = .ok (.iload 13, 2) := by decide +kernel
theorem dB_readVectors_225 : decode kB_readVectors 225 = .ok (.imul, 1) := by decide +kernel
theorem dB_readVectors_226 : decode kB_readVectors 226 = .ok (.iadd, 1) := by decide +kernel
theorem dB_readVectors_227 : decode kB_readVectors 227 = .ok (.iload 14, 2) := by decide +kernel
theorem dB_readVectors_229 : decode kB_readVectors 229 = .ok (.iadd, 1) := by decide +kernel
theorem dB_readVectors_230 : decode kB_readVectors 230 = .ok (.iastore, 1) := by decide +kernel
theorem dB_readVectors_231 : decode kB_readVectors 231 = .ok (.iload 10, 2) := by decide +kernel
theorem dB_readVectors_233 : decode kB_readVectors 233 = .ok (.iload 7, 2) := by decide +kernel
theorem dB_readVectors_235 : decode kB_readVectors 235 = .ok (.imul, 1) := by decide +kernel
theorem dB_readVectors_236 : decode kB_readVectors 236 = .ok (.istore 10, 2) := by decide +kernel
theorem dB_readVectors_238 : decode kB_readVectors 238 = .ok (.iinc 11 1, 3) := by decide +kernel
theorem dB_readVectors_241 : decode kB_readVectors 241 = .ok (.goto (-98), 3) := by decide +kernel
theorem dB_readVectors_244 : decode kB_readVectors 244 = .ok (.iinc 9 1, 3) := by decide +kernel
theorem dB_readVectors_247 : decode kB_readVectors 247 = .ok (.goto (-119), 3) := by decide +kernel
theorem dB_readVectors_250 : decode kB_readVectors 250 = .ok (.iconst 1, 1) := by decide +kernel
theorem dB_readVectors_251 : decode kB_readVectors 251 = .ok (.ireturn, 1) := by decide +kernel
def wb_B_readVectors_28 (θ : TH) (x2_28 : Int32) (K : Int32 → VT → UT → Prop) (V : VT) (U : UT) : Prop := ((¬ x2_28 = 0 → K (0 : Int32) V U) ∧ (x2_28 = 0 → K (1 : Int32) V U))
def wb_B_readVectors_212 (θ : TH) (a0_128 : Nat) (x2_128 : Int32) (x3_128 : Int32) (x4_128 : Int32) (x5_128 : Int32) (x7_128 : Int32) (x9_143 : Int32) (x10_212 : Int32) (x11_212 : Int32) (x12_212 : Int32) (x13_212 : Int32) (z0_212 : Int32) (kb128 : Int32 → VT → UT → Prop) (kb143 : Int32 → Int32 → VT → UT → Prop) (K : Int32 → VT → UT → Prop) (V : VT) (U : UT) : Prop := isO θ a0_128 8 ∧ (U a0_128 7) ≠ 0 ∧ ∃ n_68, isA θ (U a0_128 7) 0 n_68 ∧ vp_in x12_212 n_68 ∧ ∀ V_71 : VT, V_71 = up2 V (U a0_128 7) x12_212.toNatClampNeg ((x3_128 + (x4_128 * x13_212)) + z0_212) → ∀ y_72 : Int32, y_72 = (x10_212 * x7_128) → ∀ y_73 : Int32, y_73 = x11_212 + (1 : Int32) → kb143 y_72 y_73 V_71 U
def wb_B_readVectors_211 (θ : TH) (a0_128 : Nat) (x2_128 : Int32) (x3_128 : Int32) (x4_128 : Int32) (x5_128 : Int32) (x7_128 : Int32) (x9_143 : Int32) (x10_211 : Int32) (x11_211 : Int32) (x12_211 : Int32) (x13_211 : Int32) (kb128 : Int32 → VT → UT → Prop) (kb143 : Int32 → Int32 → VT → UT → Prop) (K : Int32 → VT → UT → Prop) (V : VT) (U : UT) : Prop := wb_B_readVectors_212 θ a0_128 x2_128 x3_128 x4_128 x5_128 x7_128 x9_143 x10_211 x11_211 x12_211 x13_211 (0 : Int32) kb128 kb143 K V U
def wb_B_readVectors_186 (θ : TH) (a0_128 : Nat) (x2_128 : Int32) (x3_128 : Int32) (x4_128 : Int32) (x5_128 : Int32) (x7_128 : Int32) (x9_143 : Int32) (x10_186 : Int32) (x11_186 : Int32) (x12_186 : Int32) (z0_186 : Int32) (z1_186 : Nat) (kb128 : Int32 → VT → UT → Prop) (kb143 : Int32 → Int32 → VT → UT → Prop) (K : Int32 → VT → UT → Prop) (V : VT) (U : UT) : Prop := ∃ n_55, isA θ z1_186 0 n_55 ∧ vp_in z0_186 n_55 ∧ ∀ y_58 : Int32, y_58 = (V z1_186 z0_186.toNatClampNeg) → ((x5_128 = 0 → wb_B_readVectors_211 θ a0_128 x2_128 x3_128 x4_128 x5_128 x7_128 x9_143 x10_186 x11_186 x12_186 y_58 kb128 kb143 K V U) ∧ (¬ x5_128 = 0 → ((x11_186 ≤ 0 → wb_B_readVectors_211 θ a0_128 x2_128 x3_128 x4_128 x5_128 x7_128 x9_143 x10_186 x11_186 x12_186 y_58 kb128 kb143 K V U) ∧ (¬ x11_186 ≤ 0 → isO θ a0_128 8 ∧ (U a0_128 7) ≠ 0 ∧ ∃ n_63, isA θ (U a0_128 7) 0 n_63 ∧ vp_in (x12_186 - (1 : Int32)) n_63 ∧ wb_B_readVectors_212 θ a0_128 x2_128 x3_128 x4_128 x5_128 x7_128 x9_143 x10_186 x11_186 x12_186 y_58 (V (U a0_128 7) (x12_186 - (1 : Int32)).toNatClampNeg) kb128 kb143 K V U))))
def bl_B_readVectors_143 (θ : TH) (a0_128 : Nat) (x2_128 : Int32) (x3_128 : Int32) (x4_128 : Int32) (x5_128 : Int32) (x7_128 : Int32) (x9_143 : Int32) (kb128 : Int32 → VT → UT → Prop) (K : Int32 → VT → UT → Prop) (kb143 : Int32 → Int32 → VT → UT → Prop) (x10_143 : Int32) (x11_143 : Int32) (V : VT) (U : UT) : Prop := isO θ a0_128 8 ∧ (((V a0_128 1) ≤ x11_143 → ∀ y_49 : Int32, y_49 = x9_143 + (1 : Int32) → kb128 y_49 V U) ∧ (¬ (V a0_128 1) ≤ x11_143 → ∀ y_50 : Int32, y_50 = ((x9_143 * (V a0_128 1)) + x11_143) → (U a0_128 6) ≠ 0 ∧ ((¬ x2_128 = (1 : Int32) → wb_B_readVectors_186 θ a0_128 x2_128 x3_128 x4_128 x5_128 x7_128 x9_143 x10_143 x11_143 y_50 y_50 (U a0_128 6) kb128 kb143 K V U) ∧ (x2_128 = (1 : Int32) → ¬ x10_143 = 0 ∧ ¬ x7_128 = 0 ∧ wb_B_readVectors_186 θ a0_128 x2_128 x3_128 x4_128 x5_128 x7_128 x9_143 x10_143 x11_143 y_50 ((x9_143 / x10_143) - (x9_143 / x10_143) / x7_128 * x7_128) (U a0_128 6) kb128 kb143 K V U))))
def wl_B_readVectors_143 (θ : TH) (a0_128 : Nat) (x2_128 : Int32) (x3_128 : Int32) (x4_128 : Int32) (x5_128 : Int32) (x7_128 : Int32) (x9_143 : Int32) (kb128 : Int32 → VT → UT → Prop) (K : Int32 → VT → UT → Prop) : Nat → Int32 → Int32 → VT → UT → Prop
  | 0, _, _, _, _ => False
  | n + 1, x10_143, x11_143, V, U => bl_B_readVectors_143 θ a0_128 x2_128 x3_128 x4_128 x5_128 x7_128 x9_143 kb128 K (wl_B_readVectors_143 θ a0_128 x2_128 x3_128 x4_128 x5_128 x7_128 x9_143 kb128 K n) x10_143 x11_143 V U
def bl_B_readVectors_128 (θ : TH) (a0_128 : Nat) (x2_128 : Int32) (x3_128 : Int32) (x4_128 : Int32) (x5_128 : Int32) (x7_128 : Int32) (K : Int32 → VT → UT → Prop) (kb128 : Int32 → VT → UT → Prop) (x9_128 : Int32) (V : VT) (U : UT) : Prop := isO θ a0_128 8 ∧ (((V a0_128 0) ≤ x9_128 → K (1 : Int32) V U) ∧ (¬ (V a0_128 0) ≤ x9_128 → ∃ n, wl_B_readVectors_143 θ a0_128 x2_128 x3_128 x4_128 x5_128 x7_128 x9_128 kb128 K n (1 : Int32) (0 : Int32) V U))
def wl_B_readVectors_128 (θ : TH) (a0_128 : Nat) (x2_128 : Int32) (x3_128 : Int32) (x4_128 : Int32) (x5_128 : Int32) (x7_128 : Int32) (K : Int32 → VT → UT → Prop) : Nat → Int32 → VT → UT → Prop
  | 0, _, _, _ => False
  | n + 1, x9_128, V, U => bl_B_readVectors_128 θ a0_128 x2_128 x3_128 x4_128 x5_128 x7_128 K (wl_B_readVectors_128 θ a0_128 x2_128 x3_128 x4_128 x5_128 x7_128 K n) x9_128 V U
def bl_B_readVectors_99 (θ : TH) (a0_99 : Nat) (a1_99 : Nat) (x2_99 : Int32) (x3_99 : Int32) (x4_99 : Int32) (x5_99 : Int32) (x6_99 : Int32) (x7_99 : Int32) (x8_99 : Int32) (K : Int32 → VT → UT → Prop) (kb99 : Int32 → VT → UT → Prop) (x9_99 : Int32) (V : VT) (U : UT) : Prop := ((x8_99 ≤ x9_99 → ∃ n, wl_B_readVectors_128 θ a0_99 x2_99 x3_99 x4_99 x5_99 x7_99 K n (0 : Int32) V U) ∧ (¬ x8_99 ≤ x9_99 → isO θ a0_99 8 ∧ (U a0_99 6) ≠ 0 ∧ isO θ a1_99 7 ∧ wp_H_read θ a1_99 x6_99 V U (fun r_39 V_36 U_37 => ∃ n_40, isA θ (U a0_99 6) 0 n_40 ∧ vp_in x9_99 n_40 ∧ ∀ V_43 : VT, V_43 = up2 V_36 (U a0_99 6) x9_99.toNatClampNeg r_39 → ∀ y_44 : Int32, y_44 = x9_99 + (1 : Int32) → kb99 y_44 V_43 U_37)))
def wl_B_readVectors_99 (θ : TH) (a0_99 : Nat) (a1_99 : Nat) (x2_99 : Int32) (x3_99 : Int32) (x4_99 : Int32) (x5_99 : Int32) (x6_99 : Int32) (x7_99 : Int32) (x8_99 : Int32) (K : Int32 → VT → UT → Prop) : Nat → Int32 → VT → UT → Prop
  | 0, _, _, _ => False
  | n + 1, x9_99, V, U => bl_B_readVectors_99 θ a0_99 a1_99 x2_99 x3_99 x4_99 x5_99 x6_99 x7_99 x8_99 K (wl_B_readVectors_99 θ a0_99 a1_99 x2_99 x3_99 x4_99 x5_99 x6_99 x7_99 x8_99 K n) x9_99 V U
def wb_B_readVectors_16 (θ : TH) (a0_16 : Nat) (a1_16 : Nat) (x2_16 : Int32) (z0_16 : Int32) (z1_16 : Nat) (K : Int32 → VT → UT → Prop) (V : VT) (U : UT) : Prop := isO θ z1_16 8 ∧ isZ z0_16 ∧ ∀ V_8 : VT, V_8 = up2 V z1_16 5 z0_16 → ((x2_16 = 0 → wb_B_readVectors_28 θ x2_16 K V_8 U) ∧ (¬ x2_16 = 0 → ((¬ x2_16 = (3 : Int32) → isO θ a1_16 7 ∧ wp_H_read θ a1_16 (4 : Int32) V_8 U (fun r_14 V_11 U_12 => ∀ y_15 : Int32, y_15 = (r_14 - (8 : Int32)) → wp_H_read θ a1_16 (3 : Int32) V_11 U_12 (fun r_18 V_16 U_17 => wp_H_readFlag θ a1_16 V_16 U_17 (fun r_21 V_19 U_20 => wp_H_read θ a1_16 (2 : Int32) V_19 U_20 (fun r_24 V_22 U_23 => ∀ y_25 : Int32, y_25 = (r_24 + (1 : Int32)) → isO θ a0_16 8 ∧ wp_B_rootOfEntries θ a0_16 V_22 U_23 (fun r_29 V_26 U_27 => ((¬ x2_16 = (1 : Int32) → ∀ y_31 : Int32, y_31 = ((V_26 a0_16 0) * (V_26 a0_16 1)) → ∃ n, wl_B_readVectors_99 θ a0_16 a1_16 x2_16 y_15 r_18 r_21 y_25 r_29 y_31 K n (0 : Int32) V_26 U_27) ∧ (x2_16 = (1 : Int32) → ∃ n, wl_B_readVectors_99 θ a0_16 a1_16 x2_16 y_15 r_18 r_21 y_25 r_29 r_29 K n (0 : Int32) V_26 U_27)))))))) ∧ (x2_16 = (3 : Int32) → wb_B_readVectors_28 θ x2_16 K V_8 U))))
def wp_B_readVectors (θ : TH) (a0 : Nat) (a1 : Nat) (V : VT) (U : UT) (K : Int32 → VT → UT → Prop) : Prop := isO θ a1 7 ∧ wp_H_read θ a1 (2 : Int32) V U (fun r_4 V_1 U_2 => ((r_4 = 0 → wb_B_readVectors_16 θ a0 a1 r_4 (0 : Int32) a0 K V_1 U_2) ∧ (¬ r_4 = 0 → wb_B_readVectors_16 θ a0 a1 r_4 (1 : Int32) a0 K V_1 U_2)))
set_option maxRecDepth 100000 in
set_option maxHeartbeats 4000000 in
theorem c_B_readVectors (l : Launch) (θ : TH) (a0 : Nat) (a1 : Nat) (V : VT) (U : UT) (K : Int32 → VT → UT → Prop) (hw : wp_B_readVectors θ a0 a1 V U K) : CMi l yB_readVectors kB_readVectors 15 (some .boolean) rmB_readVectors θ [.ref a0, .ref a1] V U K := by
  refine g_met nRB (by decide +kernel) rfl (Nat.le_of_ble_eq_true rfl) (fun p e s m args below meth c ls hC hr hlk hwo hl => ?_)
  have hx := hC.1
  have hb := hC.2.1
  have hS : Sx θ s s.heap [] := va_S.rf
  have hl : lv_has ls 15 [(0, .ref a0), (1, .ref a1)] := hl
  have J28 : ∀ (x2_28 : Int32) (V : VT) (U : UT) (H : Heap) (locs : List Loc) (ls : Array Slot), wb_B_readVectors_28 θ x2_28 K V U → wo θ V U H → Sx θ s H locs → lv_has ls 15 [(2, .int x2_28)] → W p l e rmB_readVectors s m args below meth c H locs 0 0 (MQ below (QI θ K) args s 0 0 (aT θ)) (F0 m 28 ls []) := by
    intro x2_28 V U H locs ls hw hwo hS hl
    unfold wb_B_readVectors_28 at hw
    refine lv_iload_n hx hb dB_readVectors_28 rfl (lv_at hl 0 rfl) ?_
    refine lv_if_ne (tgt := 36) hx hb dB_readVectors_29 (by decide) (fun hc_32 => ?_) (fun hc_32 => ?_)
    · replace hw := hw.1 hc_32
      refine lv_iconst (v := 0) hx hb dB_readVectors_36 (by decide) ?_
      exact g_zret hC hr hlk (Or.inl rfl) hw hwo hS dB_readVectors_37
    · replace hw := hw.2 hc_32
      refine lv_iconst (v := 1) hx hb dB_readVectors_32 (by decide) ?_
      refine lv_goto (tgt := 37) hx hb dB_readVectors_33 (by decide) ?_
      exact g_zret hC hr hlk (Or.inr rfl) hw hwo hS dB_readVectors_37
  have L128 : ∀ (a0_128 : Nat) (x2_128 : Int32) (x3_128 : Int32) (x4_128 : Int32) (x5_128 : Int32) (x7_128 : Int32) (n128 : Nat) (x9_128 : Int32) (V : VT) (U : UT) (H : Heap) (locs : List Loc) (ls : Array Slot), wl_B_readVectors_128 θ a0_128 x2_128 x3_128 x4_128 x5_128 x7_128 K n128 x9_128 V U → wo θ V U H → Sx θ s H locs → lv_has ls 15 [(0, .ref a0_128), (2, .int x2_128), (3, .int x3_128), (4, .int x4_128), (5, .int x5_128), (7, .int x7_128), (9, .int x9_128)] → W p l e rmB_readVectors s m args below meth c H locs 0 0 (MQ below (QI θ K) args s 0 0 (aT θ)) (F0 m 128 ls []) := by
    intro a0_128 x2_128 x3_128 x4_128 x5_128 x7_128 n128
    induction n128 with
    | zero => intro x9_128 V U H locs ls hw hwo hS hl; exact (show False from hw).elim
    | succ n128 ih128 =>
      have L143 : ∀ (x9_143 : Int32) (n143 : Nat) (x10_143 : Int32) (x11_143 : Int32) (V : VT) (U : UT) (H : Heap) (locs : List Loc) (ls : Array Slot), wl_B_readVectors_143 θ a0_128 x2_128 x3_128 x4_128 x5_128 x7_128 x9_143 (wl_B_readVectors_128 θ a0_128 x2_128 x3_128 x4_128 x5_128 x7_128 K n128) K n143 x10_143 x11_143 V U → wo θ V U H → Sx θ s H locs → lv_has ls 15 [(0, .ref a0_128), (2, .int x2_128), (3, .int x3_128), (4, .int x4_128), (5, .int x5_128), (7, .int x7_128), (9, .int x9_143), (10, .int x10_143), (11, .int x11_143)] → W p l e rmB_readVectors s m args below meth c H locs 0 0 (MQ below (QI θ K) args s 0 0 (aT θ)) (F0 m 143 ls []) := by
        intro x9_143 n143
        induction n143 with
        | zero => intro x10_143 x11_143 V U H locs ls hw hwo hS hl; exact (show False from hw).elim
        | succ n143 ih143 =>
          have J212 : ∀ (x10_212 : Int32) (x11_212 : Int32) (x12_212 : Int32) (x13_212 : Int32) (z0_212 : Int32) (V : VT) (U : UT) (H : Heap) (locs : List Loc) (ls : Array Slot), wb_B_readVectors_212 θ a0_128 x2_128 x3_128 x4_128 x5_128 x7_128 x9_143 x10_212 x11_212 x12_212 x13_212 z0_212 (wl_B_readVectors_128 θ a0_128 x2_128 x3_128 x4_128 x5_128 x7_128 K n128) (wl_B_readVectors_143 θ a0_128 x2_128 x3_128 x4_128 x5_128 x7_128 x9_143 (wl_B_readVectors_128 θ a0_128 x2_128 x3_128 x4_128 x5_128 x7_128 K n128) K n143) K V U → wo θ V U H → Sx θ s H locs → lv_has ls 15 [(0, .ref a0_128), (2, .int x2_128), (3, .int x3_128), (4, .int x4_128), (5, .int x5_128), (7, .int x7_128), (9, .int x9_143), (10, .int x10_212), (11, .int x11_212), (12, .int x12_212), (13, .int x13_212)] → W p l e rmB_readVectors s m args below meth c H locs 0 0 (MQ below (QI θ K) args s 0 0 (aT θ)) (F0 m 212 ls [.int z0_212]) := by
            intro x10_212 x11_212 x12_212 x13_212 z0_212 V U H locs ls hw hwo hS hl
            unfold wb_B_readVectors_212 at hw
            refine lv_istore (i := 14) (lv' := [(14, .int z0_212), (0, .ref a0_128), (2, .int x2_128), (3, .int x3_128), (4, .int x4_128), (5, .int x5_128), (7, .int x7_128), (9, .int x9_143), (10, .int x10_212), (11, .int x11_212), (12, .int x12_212), (13, .int x13_212)]) hx hb dB_readVectors_212 hl (by decide) rfl (fun ls hl => ?_)
            refine lv_aload_n hx hb dB_readVectors_214 rfl (lv_at hl 1 rfl) ?_
            obtain ⟨ho_66, hw⟩ := hw
            obtain ⟨hz_67, hw⟩ := hw
            refine g_getR hC fkB_25 rfl hwo ho_66 hz_67 dB_readVectors_215 ?_
            refine lv_iload hx hb dB_readVectors_218 (lv_at hl 10 rfl) ?_
            refine lv_iload_n hx hb dB_readVectors_220 rfl (lv_at hl 3 rfl) ?_
            refine lv_iload hx hb dB_readVectors_221 (lv_at hl 4 rfl) ?_
            refine lv_iload hx hb dB_readVectors_223 (lv_at hl 11 rfl) ?_
            refine lv_imul hx hb dB_readVectors_225 ?_
            refine lv_iadd hx hb dB_readVectors_226 ?_
            refine lv_iload hx hb dB_readVectors_227 (lv_at hl 0 rfl) ?_
            refine lv_iadd hx hb dB_readVectors_229 ?_
            obtain ⟨n_68, ha_69, hw⟩ := hw
            obtain ⟨hi_70, hw⟩ := hw
            refine g_iast hC hwo hS ha_69 hi_70 dB_readVectors_230 (fun V_71 eV_71 H locs hwo hS => ?_)
            replace hw := hw V_71 eV_71
            refine lv_iload hx hb dB_readVectors_231 (lv_at hl 8 rfl) ?_
            refine lv_iload hx hb dB_readVectors_233 (lv_at hl 6 rfl) ?_
            refine lv_imul hx hb dB_readVectors_235 ?_
            refine lv_topi (fun y_72 ey_72 => ?_)
            replace hw := hw y_72 ey_72
            refine lv_istore (i := 10) (lv' := [(10, .int y_72), (14, .int z0_212), (0, .ref a0_128), (2, .int x2_128), (3, .int x3_128), (4, .int x4_128), (5, .int x5_128), (7, .int x7_128), (9, .int x9_143), (11, .int x11_212), (12, .int x12_212), (13, .int x13_212)]) hx hb dB_readVectors_236 hl (by decide) rfl (fun ls hl => ?_)
            obtain ⟨y_73, ey_73⟩ : ∃ z : Int32, z = x11_212 + (1 : Int32) := ⟨_, rfl⟩
            replace hw := hw y_73 ey_73
            refine lv_iinc (k := 9) (v := y_73) (lv' := [(11, .int y_73), (10, .int y_72), (14, .int z0_212), (0, .ref a0_128), (2, .int x2_128), (3, .int x3_128), (4, .int x4_128), (5, .int x5_128), (7, .int x7_128), (9, .int x9_143), (12, .int x12_212), (13, .int x13_212)]) hx hb dB_readVectors_238 hl rfl (by rw [ey_73]; rfl) (by decide) rfl (fun ls hl => ?_)
            refine lv_goto (tgt := 143) hx hb dB_readVectors_241 (by decide) ?_
            exact ih143 _ _ _ _ _ _ _ hw hwo hS (lv_sub hl [3, 4, 5, 6, 7, 8, 9, 1, 0] rfl)
          have J211 : ∀ (x10_211 : Int32) (x11_211 : Int32) (x12_211 : Int32) (x13_211 : Int32) (V : VT) (U : UT) (H : Heap) (locs : List Loc) (ls : Array Slot), wb_B_readVectors_211 θ a0_128 x2_128 x3_128 x4_128 x5_128 x7_128 x9_143 x10_211 x11_211 x12_211 x13_211 (wl_B_readVectors_128 θ a0_128 x2_128 x3_128 x4_128 x5_128 x7_128 K n128) (wl_B_readVectors_143 θ a0_128 x2_128 x3_128 x4_128 x5_128 x7_128 x9_143 (wl_B_readVectors_128 θ a0_128 x2_128 x3_128 x4_128 x5_128 x7_128 K n128) K n143) K V U → wo θ V U H → Sx θ s H locs → lv_has ls 15 [(0, .ref a0_128), (2, .int x2_128), (3, .int x3_128), (4, .int x4_128), (5, .int x5_128), (7, .int x7_128), (9, .int x9_143), (10, .int x10_211), (11, .int x11_211), (12, .int x12_211), (13, .int x13_211)] → W p l e rmB_readVectors s m args below meth c H locs 0 0 (MQ below (QI θ K) args s 0 0 (aT θ)) (F0 m 211 ls []) := by
            intro x10_211 x11_211 x12_211 x13_211 V U H locs ls hw hwo hS hl
            unfold wb_B_readVectors_211 at hw
            refine lv_iconst (v := 0) hx hb dB_readVectors_211 (by decide) ?_
            exact J212 _ _ _ _ _ _ _ _ _ _ hw hwo hS (lv_sub hl [0, 1, 2, 3, 4, 5, 6, 7, 8, 9, 10] rfl)
          have J186 : ∀ (x10_186 : Int32) (x11_186 : Int32) (x12_186 : Int32) (z0_186 : Int32) (z1_186 : Nat) (V : VT) (U : UT) (H : Heap) (locs : List Loc) (ls : Array Slot), wb_B_readVectors_186 θ a0_128 x2_128 x3_128 x4_128 x5_128 x7_128 x9_143 x10_186 x11_186 x12_186 z0_186 z1_186 (wl_B_readVectors_128 θ a0_128 x2_128 x3_128 x4_128 x5_128 x7_128 K n128) (wl_B_readVectors_143 θ a0_128 x2_128 x3_128 x4_128 x5_128 x7_128 x9_143 (wl_B_readVectors_128 θ a0_128 x2_128 x3_128 x4_128 x5_128 x7_128 K n128) K n143) K V U → wo θ V U H → Sx θ s H locs → lv_has ls 15 [(0, .ref a0_128), (2, .int x2_128), (3, .int x3_128), (4, .int x4_128), (5, .int x5_128), (7, .int x7_128), (9, .int x9_143), (10, .int x10_186), (11, .int x11_186), (12, .int x12_186)] → W p l e rmB_readVectors s m args below meth c H locs 0 0 (MQ below (QI θ K) args s 0 0 (aT θ)) (F0 m 186 ls [.int z0_186, .ref z1_186]) := by
            intro x10_186 x11_186 x12_186 z0_186 z1_186 V U H locs ls hw hwo hS hl
            unfold wb_B_readVectors_186 at hw
            obtain ⟨n_55, ha_56, hw⟩ := hw
            obtain ⟨hi_57, hw⟩ := hw
            refine g_iald hC hwo ha_56 hi_57 dB_readVectors_186 ?_
            refine lv_topi (fun y_58 ey_58 => ?_)
            replace hw := hw y_58 ey_58
            refine lv_istore (i := 13) (lv' := [(13, .int y_58), (0, .ref a0_128), (2, .int x2_128), (3, .int x3_128), (4, .int x4_128), (5, .int x5_128), (7, .int x7_128), (9, .int x9_143), (10, .int x10_186), (11, .int x11_186), (12, .int x12_186)]) hx hb dB_readVectors_187 hl (by decide) rfl (fun ls hl => ?_)
            refine lv_iload hx hb dB_readVectors_189 (lv_at hl 5 rfl) ?_
            refine lv_if_eq (tgt := 211) hx hb dB_readVectors_191 (by decide) (fun hc_59 => ?_) (fun hc_59 => ?_)
            · replace hw := hw.1 hc_59
              exact J211 _ _ _ _ _ _ _ _ _ hw hwo hS (lv_sub hl [1, 2, 3, 4, 5, 6, 7, 8, 9, 10, 0] rfl)
            · replace hw := hw.2 hc_59
              refine lv_iload hx hb dB_readVectors_194 (lv_at hl 9 rfl) ?_
              refine lv_if_le (tgt := 211) hx hb dB_readVectors_196 (by decide) (fun hc_60 => ?_) (fun hc_60 => ?_)
              · replace hw := hw.1 hc_60
                exact J211 _ _ _ _ _ _ _ _ _ hw hwo hS (lv_sub hl [1, 2, 3, 4, 5, 6, 7, 8, 9, 10, 0] rfl)
              · replace hw := hw.2 hc_60
                refine lv_aload_n hx hb dB_readVectors_199 rfl (lv_at hl 1 rfl) ?_
                obtain ⟨ho_61, hw⟩ := hw
                obtain ⟨hz_62, hw⟩ := hw
                refine g_getR hC fkB_25 rfl hwo ho_61 hz_62 dB_readVectors_200 ?_
                refine lv_iload hx hb dB_readVectors_203 (lv_at hl 10 rfl) ?_
                refine lv_iconst (v := 1) hx hb dB_readVectors_205 (by decide) ?_
                refine lv_isub hx hb dB_readVectors_206 ?_
                obtain ⟨n_63, ha_64, hw⟩ := hw
                obtain ⟨hi_65, hw⟩ := hw
                refine g_iald hC hwo ha_64 hi_65 dB_readVectors_207 ?_
                refine lv_goto (tgt := 212) hx hb dB_readVectors_208 (by decide) ?_
                exact J212 _ _ _ _ _ _ _ _ _ _ hw hwo hS (lv_sub hl [1, 2, 3, 4, 5, 6, 7, 8, 9, 10, 0] rfl)
          intro x10_143 x11_143 V U H locs ls hw hwo hS hl
          replace hw : bl_B_readVectors_143 θ a0_128 x2_128 x3_128 x4_128 x5_128 x7_128 x9_143 (wl_B_readVectors_128 θ a0_128 x2_128 x3_128 x4_128 x5_128 x7_128 K n128) K (wl_B_readVectors_143 θ a0_128 x2_128 x3_128 x4_128 x5_128 x7_128 x9_143 (wl_B_readVectors_128 θ a0_128 x2_128 x3_128 x4_128 x5_128 x7_128 K n128) K n143) x10_143 x11_143 V U := hw
          unfold bl_B_readVectors_143 at hw
          refine lv_iload hx hb dB_readVectors_143 (lv_at hl 8 rfl) ?_
          refine lv_aload_n hx hb dB_readVectors_145 rfl (lv_at hl 0 rfl) ?_
          obtain ⟨ho_47, hw⟩ := hw
          refine g_getI hC fkB_9 rfl hwo ho_47 dB_readVectors_146 ?_
          refine lv_icmp_ge (tgt := 244) hx hb dB_readVectors_149 (by decide) (fun hc_48 => ?_) (fun hc_48 => ?_)
          · replace hw := hw.1 hc_48
            obtain ⟨y_49, ey_49⟩ : ∃ z : Int32, z = x9_143 + (1 : Int32) := ⟨_, rfl⟩
            replace hw := hw y_49 ey_49
            refine lv_iinc (k := 6) (v := y_49) (lv' := [(9, .int y_49), (0, .ref a0_128), (2, .int x2_128), (3, .int x3_128), (4, .int x4_128), (5, .int x5_128), (7, .int x7_128), (10, .int x10_143), (11, .int x11_143)]) hx hb dB_readVectors_244 hl rfl (by rw [ey_49]; rfl) (by decide) rfl (fun ls hl => ?_)
            refine lv_goto (tgt := 128) hx hb dB_readVectors_247 (by decide) ?_
            exact ih128 _ _ _ _ _ _ hw hwo hS (lv_sub hl [1, 2, 3, 4, 5, 6, 0] rfl)
          · replace hw := hw.2 hc_48
            refine lv_iload hx hb dB_readVectors_152 (lv_at hl 6 rfl) ?_
            refine lv_aload_n hx hb dB_readVectors_154 rfl (lv_at hl 0 rfl) ?_
            refine g_getI hC fkB_9 rfl hwo ho_47 dB_readVectors_155 ?_
            refine lv_imul hx hb dB_readVectors_158 ?_
            refine lv_iload hx hb dB_readVectors_159 (lv_at hl 8 rfl) ?_
            refine lv_iadd hx hb dB_readVectors_161 ?_
            refine lv_topi (fun y_50 ey_50 => ?_)
            replace hw := hw y_50 ey_50
            refine lv_istore (i := 12) (lv' := [(12, .int y_50), (0, .ref a0_128), (2, .int x2_128), (3, .int x3_128), (4, .int x4_128), (5, .int x5_128), (7, .int x7_128), (9, .int x9_143), (10, .int x10_143), (11, .int x11_143)]) hx hb dB_readVectors_162 hl (by decide) rfl (fun ls hl => ?_)
            refine lv_aload_n hx hb dB_readVectors_164 rfl (lv_at hl 1 rfl) ?_
            obtain ⟨hz_51, hw⟩ := hw
            refine g_getR hC fkB_22 rfl hwo ho_47 hz_51 dB_readVectors_165 ?_
            refine lv_iload_n hx hb dB_readVectors_168 rfl (lv_at hl 2 rfl) ?_
            refine lv_iconst (v := 1) hx hb dB_readVectors_169 (by decide) ?_
            refine lv_icmp_ne (tgt := 184) hx hb dB_readVectors_170 (by decide) (fun hc_52 => ?_) (fun hc_52 => ?_)
            · replace hw := hw.1 hc_52
              refine lv_iload hx hb dB_readVectors_184 (lv_at hl 0 rfl) ?_
              exact J186 _ _ _ _ _ _ _ _ _ _ hw hwo hS (lv_sub hl [1, 2, 3, 4, 5, 6, 7, 8, 9, 0] rfl)
            · replace hw := hw.2 hc_52
              refine lv_iload hx hb dB_readVectors_173 (lv_at hl 7 rfl) ?_
              refine lv_iload hx hb dB_readVectors_175 (lv_at hl 8 rfl) ?_
              obtain ⟨hd_53, hw⟩ := hw
              refine lv_idiv hx hb dB_readVectors_177 hd_53 ?_
              refine lv_iload hx hb dB_readVectors_178 (lv_at hl 6 rfl) ?_
              obtain ⟨hd_54, hw⟩ := hw
              refine lv_irem hx hb dB_readVectors_180 hd_54 ?_
              refine lv_goto (tgt := 186) hx hb dB_readVectors_181 (by decide) ?_
              exact J186 _ _ _ _ _ _ _ _ _ _ hw hwo hS (lv_sub hl [1, 2, 3, 4, 5, 6, 7, 8, 9, 0] rfl)
      intro x9_128 V U H locs ls hw hwo hS hl
      replace hw : bl_B_readVectors_128 θ a0_128 x2_128 x3_128 x4_128 x5_128 x7_128 K (wl_B_readVectors_128 θ a0_128 x2_128 x3_128 x4_128 x5_128 x7_128 K n128) x9_128 V U := hw
      unfold bl_B_readVectors_128 at hw
      refine lv_iload hx hb dB_readVectors_128 (lv_at hl 6 rfl) ?_
      refine lv_aload_n hx hb dB_readVectors_130 rfl (lv_at hl 0 rfl) ?_
      obtain ⟨ho_45, hw⟩ := hw
      refine g_getI hC fkB_34 rfl hwo ho_45 dB_readVectors_131 ?_
      refine lv_icmp_ge (tgt := 250) hx hb dB_readVectors_134 (by decide) (fun hc_46 => ?_) (fun hc_46 => ?_)
      · replace hw := hw.1 hc_46
        refine lv_iconst (v := 1) hx hb dB_readVectors_250 (by decide) ?_
        exact g_zret hC hr hlk (Or.inr rfl) hw hwo hS dB_readVectors_251
      · replace hw := hw.2 hc_46
        refine lv_iconst (v := 1) hx hb dB_readVectors_137 (by decide) ?_
        refine lv_istore (i := 10) (lv' := [(10, .int (1 : Int32)), (0, .ref a0_128), (2, .int x2_128), (3, .int x3_128), (4, .int x4_128), (5, .int x5_128), (7, .int x7_128), (9, .int x9_128)]) hx hb dB_readVectors_138 hl (by decide) rfl (fun ls hl => ?_)
        refine lv_iconst (v := 0) hx hb dB_readVectors_140 (by decide) ?_
        refine lv_istore (i := 11) (lv' := [(11, .int (0 : Int32)), (10, .int (1 : Int32)), (0, .ref a0_128), (2, .int x2_128), (3, .int x3_128), (4, .int x4_128), (5, .int x5_128), (7, .int x7_128), (9, .int x9_128)]) hx hb dB_readVectors_141 hl (by decide) rfl (fun ls hl => ?_)
        obtain ⟨n, hw⟩ := hw
        exact L143 _ n _ _ _ _ _ _ _ hw hwo hS (lv_sub hl [2, 3, 4, 5, 6, 7, 8, 1, 0] rfl)
  have L99 : ∀ (a0_99 : Nat) (a1_99 : Nat) (x2_99 : Int32) (x3_99 : Int32) (x4_99 : Int32) (x5_99 : Int32) (x6_99 : Int32) (x7_99 : Int32) (x8_99 : Int32) (n99 : Nat) (x9_99 : Int32) (V : VT) (U : UT) (H : Heap) (locs : List Loc) (ls : Array Slot), wl_B_readVectors_99 θ a0_99 a1_99 x2_99 x3_99 x4_99 x5_99 x6_99 x7_99 x8_99 K n99 x9_99 V U → wo θ V U H → Sx θ s H locs → lv_has ls 15 [(0, .ref a0_99), (1, .ref a1_99), (2, .int x2_99), (3, .int x3_99), (4, .int x4_99), (5, .int x5_99), (6, .int x6_99), (7, .int x7_99), (8, .int x8_99), (9, .int x9_99)] → W p l e rmB_readVectors s m args below meth c H locs 0 0 (MQ below (QI θ K) args s 0 0 (aT θ)) (F0 m 99 ls []) := by
    intro a0_99 a1_99 x2_99 x3_99 x4_99 x5_99 x6_99 x7_99 x8_99 n99
    induction n99 with
    | zero => intro x9_99 V U H locs ls hw hwo hS hl; exact (show False from hw).elim
    | succ n99 ih99 =>
      intro x9_99 V U H locs ls hw hwo hS hl
      replace hw : bl_B_readVectors_99 θ a0_99 a1_99 x2_99 x3_99 x4_99 x5_99 x6_99 x7_99 x8_99 K (wl_B_readVectors_99 θ a0_99 a1_99 x2_99 x3_99 x4_99 x5_99 x6_99 x7_99 x8_99 K n99) x9_99 V U := hw
      unfold bl_B_readVectors_99 at hw
      refine lv_iload hx hb dB_readVectors_99 (lv_at hl 9 rfl) ?_
      refine lv_iload hx hb dB_readVectors_101 (lv_at hl 8 rfl) ?_
      refine lv_icmp_ge (tgt := 125) hx hb dB_readVectors_103 (by decide) (fun hc_33 => ?_) (fun hc_33 => ?_)
      · replace hw := hw.1 hc_33
        refine lv_iconst (v := 0) hx hb dB_readVectors_125 (by decide) ?_
        refine lv_istore (i := 9) (lv' := [(9, .int (0 : Int32)), (0, .ref a0_99), (1, .ref a1_99), (2, .int x2_99), (3, .int x3_99), (4, .int x4_99), (5, .int x5_99), (6, .int x6_99), (7, .int x7_99), (8, .int x8_99)]) hx hb dB_readVectors_126 hl (by decide) rfl (fun ls hl => ?_)
        obtain ⟨n, hw⟩ := hw
        exact L128 _ _ _ _ _ _ n _ _ _ _ _ _ hw hwo hS (lv_sub hl [1, 3, 4, 5, 6, 8, 0] rfl)
      · replace hw := hw.2 hc_33
        refine lv_aload_n hx hb dB_readVectors_106 rfl (lv_at hl 0 rfl) ?_
        obtain ⟨ho_34, hw⟩ := hw
        obtain ⟨hz_35, hw⟩ := hw
        refine g_getR hC fkB_22 rfl hwo ho_34 hz_35 dB_readVectors_107 ?_
        refine lv_iload hx hb dB_readVectors_110 (lv_at hl 9 rfl) ?_
        refine lv_aload_n hx hb dB_readVectors_112 rfl (lv_at hl 1 rfl) ?_
        refine lv_iload hx hb dB_readVectors_113 (lv_at hl 6 rfl) ?_
        obtain ⟨ho_38, hw⟩ := hw
        refine g_Vi (rest := [.int x9_99, .ref (U a0_99 6)]) hC (c_H_read l θ _ _ _ _ _ hw) mi_H_read mlB_28 mv_H_read ci_7 ho_38 hwo hS ⟨rfl, rfl⟩ ⟨by decide, by decide⟩ rfl hl.1 rfl (Nat.le_of_ble_eq_true rfl) dB_readVectors_115 (fun r_39 V_36 U_37 hw H locs hwo hS => ?_)
        obtain ⟨n_40, ha_41, hw⟩ := hw
        obtain ⟨hi_42, hw⟩ := hw
        refine g_iast hC hwo hS ha_41 hi_42 dB_readVectors_118 (fun V_43 eV_43 H locs hwo hS => ?_)
        replace hw := hw V_43 eV_43
        obtain ⟨y_44, ey_44⟩ : ∃ z : Int32, z = x9_99 + (1 : Int32) := ⟨_, rfl⟩
        replace hw := hw y_44 ey_44
        refine lv_iinc (k := 9) (v := y_44) (lv' := [(9, .int y_44), (0, .ref a0_99), (1, .ref a1_99), (2, .int x2_99), (3, .int x3_99), (4, .int x4_99), (5, .int x5_99), (6, .int x6_99), (7, .int x7_99), (8, .int x8_99)]) hx hb dB_readVectors_119 hl rfl (by rw [ey_44]; rfl) (by decide) rfl (fun ls hl => ?_)
        refine lv_goto (tgt := 99) hx hb dB_readVectors_122 (by decide) ?_
        exact ih99 _ _ _ _ _ _ hw hwo hS (lv_sub hl [1, 2, 3, 4, 5, 6, 7, 8, 9, 0] rfl)
  have J16 : ∀ (a0_16 : Nat) (a1_16 : Nat) (x2_16 : Int32) (z0_16 : Int32) (z1_16 : Nat) (V : VT) (U : UT) (H : Heap) (locs : List Loc) (ls : Array Slot), wb_B_readVectors_16 θ a0_16 a1_16 x2_16 z0_16 z1_16 K V U → wo θ V U H → Sx θ s H locs → lv_has ls 15 [(0, .ref a0_16), (1, .ref a1_16), (2, .int x2_16)] → W p l e rmB_readVectors s m args below meth c H locs 0 0 (MQ below (QI θ K) args s 0 0 (aT θ)) (F0 m 16 ls [.int z0_16, .ref z1_16]) := by
    intro a0_16 a1_16 x2_16 z0_16 z1_16 V U H locs ls hw hwo hS hl
    unfold wb_B_readVectors_16 at hw
    obtain ⟨ho_6, hw⟩ := hw
    obtain ⟨hb_7, hw⟩ := hw
    refine g_putZ hC fkB_62 rfl hwo hS ho_6 hb_7 dB_readVectors_16 (fun V_8 eV_8 H locs hwo hS => ?_)
    replace hw := hw V_8 eV_8
    refine lv_iload_n hx hb dB_readVectors_19 rfl (lv_at hl 2 rfl) ?_
    refine lv_if_eq (tgt := 28) hx hb dB_readVectors_20 (by decide) (fun hc_9 => ?_) (fun hc_9 => ?_)
    · replace hw := hw.1 hc_9
      exact J28 _ _ _ _ _ _ hw hwo hS (lv_sub hl [2] rfl)
    · replace hw := hw.2 hc_9
      refine lv_iload_n hx hb dB_readVectors_23 rfl (lv_at hl 2 rfl) ?_
      refine lv_iconst (v := 3) hx hb dB_readVectors_24 (by decide) ?_
      refine lv_icmp_ne (tgt := 38) hx hb dB_readVectors_25 (by decide) (fun hc_10 => ?_) (fun hc_10 => ?_)
      · replace hw := hw.1 hc_10
        refine lv_aload_n hx hb dB_readVectors_38 rfl (lv_at hl 1 rfl) ?_
        refine lv_iconst (v := 4) hx hb dB_readVectors_39 (by decide) ?_
        obtain ⟨ho_13, hw⟩ := hw
        refine g_Vi (rest := []) hC (c_H_read l θ _ _ _ _ _ hw) mi_H_read mlB_28 mv_H_read ci_7 ho_13 hwo hS ⟨rfl, rfl⟩ ⟨by decide, by decide⟩ rfl hl.1 rfl (Nat.le_of_ble_eq_true rfl) dB_readVectors_40 (fun r_14 V_11 U_12 hw H locs hwo hS => ?_)
        refine lv_bipush (v := 8) hx hb dB_readVectors_43 (by decide) ?_
        refine lv_isub hx hb dB_readVectors_45 ?_
        refine lv_topi (fun y_15 ey_15 => ?_)
        replace hw := hw y_15 ey_15
        refine lv_istore_n (i := 3) (lv' := [(3, .int y_15), (0, .ref a0_16), (1, .ref a1_16), (2, .int x2_16)]) hx hb dB_readVectors_46 rfl hl (by decide) rfl (fun ls hl => ?_)
        refine lv_aload_n hx hb dB_readVectors_47 rfl (lv_at hl 2 rfl) ?_
        refine lv_iconst (v := 3) hx hb dB_readVectors_48 (by decide) ?_
        refine g_Vi (rest := []) hC (c_H_read l θ _ _ _ _ _ hw) mi_H_read mlB_28 mv_H_read ci_7 ho_13 hwo hS ⟨rfl, rfl⟩ ⟨by decide, by decide⟩ rfl hl.1 rfl (Nat.le_of_ble_eq_true rfl) dB_readVectors_49 (fun r_18 V_16 U_17 hw H locs hwo hS => ?_)
        refine lv_istore (i := 4) (lv' := [(4, .int r_18), (3, .int y_15), (0, .ref a0_16), (1, .ref a1_16), (2, .int x2_16)]) hx hb dB_readVectors_52 hl (by decide) rfl (fun ls hl => ?_)
        refine lv_aload_n hx hb dB_readVectors_54 rfl (lv_at hl 3 rfl) ?_
        refine g_Vi (rest := []) hC (c_H_readFlag l θ _ _ _ _ hw) mi_H_readFlag mlB_37 mv_H_readFlag ci_7 ho_13 hwo hS ⟨rfl, rfl⟩ ⟨by decide, by decide⟩ rfl hl.1 rfl (Nat.le_of_ble_eq_true rfl) dB_readVectors_55 (fun r_21 V_19 U_20 hw H locs hwo hS => ?_)
        refine lv_istore (i := 5) (lv' := [(5, .int r_21), (4, .int r_18), (3, .int y_15), (0, .ref a0_16), (1, .ref a1_16), (2, .int x2_16)]) hx hb dB_readVectors_58 hl (by decide) rfl (fun ls hl => ?_)
        refine lv_aload_n hx hb dB_readVectors_60 rfl (lv_at hl 4 rfl) ?_
        refine lv_iconst (v := 2) hx hb dB_readVectors_61 (by decide) ?_
        refine g_Vi (rest := []) hC (c_H_read l θ _ _ _ _ _ hw) mi_H_read mlB_28 mv_H_read ci_7 ho_13 hwo hS ⟨rfl, rfl⟩ ⟨by decide, by decide⟩ rfl hl.1 rfl (Nat.le_of_ble_eq_true rfl) dB_readVectors_62 (fun r_24 V_22 U_23 hw H locs hwo hS => ?_)
        refine lv_iconst (v := 1) hx hb dB_readVectors_65 (by decide) ?_
        refine lv_iadd hx hb dB_readVectors_66 ?_
        refine lv_topi (fun y_25 ey_25 => ?_)
        replace hw := hw y_25 ey_25
        refine lv_istore (i := 6) (lv' := [(6, .int y_25), (5, .int r_21), (4, .int r_18), (3, .int y_15), (0, .ref a0_16), (1, .ref a1_16), (2, .int x2_16)]) hx hb dB_readVectors_67 hl (by decide) rfl (fun ls hl => ?_)
        refine lv_aload_n hx hb dB_readVectors_69 rfl (lv_at hl 4 rfl) ?_
        obtain ⟨ho_28, hw⟩ := hw
        refine g_Vi (rest := []) hC (c_B_rootOfEntries l θ _ _ _ _ hw) mi_B_rootOfEntries mlB_65 mv_B_rootOfEntries ci_8 ho_28 hwo hS ⟨rfl, rfl⟩ ⟨by decide, by decide⟩ rfl hl.1 rfl (Nat.le_of_ble_eq_true rfl) dB_readVectors_70 (fun r_29 V_26 U_27 hw H locs hwo hS => ?_)
        refine lv_istore (i := 7) (lv' := [(7, .int r_29), (6, .int y_25), (5, .int r_21), (4, .int r_18), (3, .int y_15), (0, .ref a0_16), (1, .ref a1_16), (2, .int x2_16)]) hx hb dB_readVectors_73 hl (by decide) rfl (fun ls hl => ?_)
        refine lv_iload_n hx hb dB_readVectors_75 rfl (lv_at hl 7 rfl) ?_
        refine lv_iconst (v := 1) hx hb dB_readVectors_76 (by decide) ?_
        refine lv_icmp_ne (tgt := 85) hx hb dB_readVectors_77 (by decide) (fun hc_30 => ?_) (fun hc_30 => ?_)
        · replace hw := hw.1 hc_30
          refine lv_aload_n hx hb dB_readVectors_85 rfl (lv_at hl 5 rfl) ?_
          refine g_getI hC fkB_34 rfl hwo ho_28 dB_readVectors_86 ?_
          refine lv_aload_n hx hb dB_readVectors_89 rfl (lv_at hl 5 rfl) ?_
          refine g_getI hC fkB_9 rfl hwo ho_28 dB_readVectors_90 ?_
          refine lv_imul hx hb dB_readVectors_93 ?_
          refine lv_topi (fun y_31 ey_31 => ?_)
          replace hw := hw y_31 ey_31
          refine lv_istore (i := 8) (lv' := [(8, .int y_31), (7, .int r_29), (6, .int y_25), (5, .int r_21), (4, .int r_18), (3, .int y_15), (0, .ref a0_16), (1, .ref a1_16), (2, .int x2_16)]) hx hb dB_readVectors_94 hl (by decide) rfl (fun ls hl => ?_)
          refine lv_iconst (v := 0) hx hb dB_readVectors_96 (by decide) ?_
          refine lv_istore (i := 9) (lv' := [(9, .int (0 : Int32)), (8, .int y_31), (7, .int r_29), (6, .int y_25), (5, .int r_21), (4, .int r_18), (3, .int y_15), (0, .ref a0_16), (1, .ref a1_16), (2, .int x2_16)]) hx hb dB_readVectors_97 hl (by decide) rfl (fun ls hl => ?_)
          obtain ⟨n, hw⟩ := hw
          exact L99 _ _ _ _ _ _ _ _ _ n _ _ _ _ _ _ hw hwo hS (lv_sub hl [7, 8, 9, 6, 5, 4, 3, 2, 1, 0] rfl)
        · replace hw := hw.2 hc_30
          refine lv_iload hx hb dB_readVectors_80 (lv_at hl 0 rfl) ?_
          refine lv_goto (tgt := 94) hx hb dB_readVectors_82 (by decide) ?_
          refine lv_istore (i := 8) (lv' := [(8, .int r_29), (7, .int r_29), (6, .int y_25), (5, .int r_21), (4, .int r_18), (3, .int y_15), (0, .ref a0_16), (1, .ref a1_16), (2, .int x2_16)]) hx hb dB_readVectors_94 hl (by decide) rfl (fun ls hl => ?_)
          refine lv_iconst (v := 0) hx hb dB_readVectors_96 (by decide) ?_
          refine lv_istore (i := 9) (lv' := [(9, .int (0 : Int32)), (8, .int r_29), (7, .int r_29), (6, .int y_25), (5, .int r_21), (4, .int r_18), (3, .int y_15), (0, .ref a0_16), (1, .ref a1_16), (2, .int x2_16)]) hx hb dB_readVectors_97 hl (by decide) rfl (fun ls hl => ?_)
          obtain ⟨n, hw⟩ := hw
          exact L99 _ _ _ _ _ _ _ _ _ n _ _ _ _ _ _ hw hwo hS (lv_sub hl [7, 8, 9, 6, 5, 4, 3, 2, 1, 0] rfl)
      · replace hw := hw.2 hc_10
        exact J28 _ _ _ _ _ _ hw hwo hS (lv_sub hl [2] rfl)
  unfold wp_B_readVectors at hw
  refine lv_aload_n hx hb dB_readVectors_0 rfl (lv_at hl 1 rfl) ?_
  refine lv_iconst (v := 2) hx hb dB_readVectors_1 (by decide) ?_
  obtain ⟨ho_3, hw⟩ := hw
  refine g_Vi (rest := []) hC (c_H_read l θ _ _ _ _ _ hw) mi_H_read mlB_28 mv_H_read ci_7 ho_3 hwo hS ⟨rfl, rfl⟩ ⟨by decide, by decide⟩ rfl hl.1 rfl (Nat.le_of_ble_eq_true rfl) dB_readVectors_2 (fun r_4 V_1 U_2 hw H locs hwo hS => ?_)
  refine lv_istore_n (i := 2) (lv' := [(2, .int r_4), (0, .ref a0), (1, .ref a1)]) hx hb dB_readVectors_5 rfl hl (by decide) rfl (fun ls hl => ?_)
  refine lv_aload_n hx hb dB_readVectors_6 rfl (lv_at hl 1 rfl) ?_
  refine lv_iload_n hx hb dB_readVectors_7 rfl (lv_at hl 0 rfl) ?_
  refine lv_if_eq (tgt := 15) hx hb dB_readVectors_8 (by decide) (fun hc_5 => ?_) (fun hc_5 => ?_)
  · replace hw := hw.1 hc_5
    refine lv_iconst (v := 0) hx hb dB_readVectors_15 (by decide) ?_
    exact J16 _ _ _ _ _ _ _ _ _ _ hw hwo hS (lv_sub hl [1, 2, 0] rfl)
  · replace hw := hw.2 hc_5
    refine lv_iconst (v := 1) hx hb dB_readVectors_11 (by decide) ?_
    refine lv_goto (tgt := 16) hx hb dB_readVectors_12 (by decide) ?_
    exact J16 _ _ _ _ _ _ _ _ _ _ hw hwo hS (lv_sub hl [1, 2, 0] rfl)
theorem dB_isFree_0 : decode kB_isFree 0 = .ok (.aload_n 0, 1) := by decide +kernel
theorem dB_isFree_1 : decode kB_isFree 1 = .ok (.getfield 15, 3) := by decide +kernel
theorem dB_isFree_4 : decode kB_isFree 4 = .ok (.iload_n 2, 1) := by decide +kernel
theorem dB_isFree_5 : decode kB_isFree 5 = .ok (.iaload, 1) := by decide +kernel
theorem dB_isFree_6 : decode kB_isFree 6 = .ok (.istore_n 3, 1) := by decide +kernel
theorem dB_isFree_7 : decode kB_isFree 7 = .ok (.iconst 0, 1) := by decide +kernel
theorem dB_isFree_8 : decode kB_isFree 8 = .ok (.istore 4, 2) := by decide +kernel
theorem dB_isFree_10 : decode kB_isFree 10 = .ok (.iload 4, 2) := by decide +kernel
theorem dB_isFree_12 : decode kB_isFree 12 = .ok (.iload_n 2, 1) := by decide +kernel
theorem dB_isFree_13 : decode kB_isFree 13 = .ok (.if_icmp .ge 73, 3) := by decide +kernel
theorem dB_isFree_16 : decode kB_isFree 16 = .ok (.iload_n 3, 1) := by decide +kernel
theorem dB_isFree_17 : decode kB_isFree 17 = .ok (.aload_n 0, 1) := by decide +kernel
theorem dB_isFree_18 : decode kB_isFree 18 = .ok (.getfield 15, 3) := by decide +kernel
theorem dB_isFree_21 : decode kB_isFree 21 = .ok (.iload 4, 2) := by decide +kernel
theorem dB_isFree_23 : decode kB_isFree 23 = .ok (.iaload, 1) := by decide +kernel
theorem dB_isFree_24 : decode kB_isFree 24 = .ok (.invokestatic 79, 3) := by decide +kernel
theorem dB_isFree_27 : decode kB_isFree 27 = .ok (.istore 5, 2) := by decide +kernel
theorem dB_isFree_29 : decode kB_isFree 29 = .ok (.iload_n 1, 1) := by decide +kernel
theorem dB_isFree_30 : decode kB_isFree 30 = .ok (.iload_n 3, 1) := by decide +kernel
theorem dB_isFree_31 : decode kB_isFree 31 = .ok (.iload 5, 2) := by decide +kernel
theorem dB_isFree_33 : decode kB_isFree 33 = .ok (.isub, 1) := by decide +kernel
theorem dB_isFree_34 : decode kB_isFree 34 = .ok (.ishr, 1) := by decide +kernel
theorem dB_isFree_35 : decode kB_isFree 35 = .ok (.aload_n 0, 1) := by decide +kernel
theorem dB_isFree_36 : decode kB_isFree 36 = .ok (.getfield 19, 3) := by decide +kernel
theorem dB_isFree_39 : decode kB_isFree 39 = .ok (.iload 4, 2) := by decide +kernel
theorem dB_isFree_41 : decode kB_isFree 41 = .ok (.iaload, 1) := by decide +kernel
theorem dB_isFree_42 : decode kB_isFree 42 = .ok (.aload_n 0, 1) := by decide +kernel
theorem dB_isFree_43 : decode kB_isFree 43 = .ok (.getfield 15, 3) := by decide +kernel
theorem dB_isFree_46 : decode kB_isFree 46 = .ok (.iload 4, 2) := by decide +kernel
theorem dB_isFree_48 : decode kB_isFree 48 = .ok (.iaload, 1) := by decide +kernel
theorem dB_isFree_49 : decode kB_isFree 49 = .ok (.iload 5, 2) := by decide +kernel
theorem dB_isFree_51 : decode kB_isFree 51 = .ok (.isub, 1) := by decide +kernel
theorem dB_isFree_52 : decode kB_isFree 52 = .ok (.ishr, 1) := by decide +kernel
theorem dB_isFree_53 : decode kB_isFree 53 = .ok (.if_icmp .ne 7, 3) := by decide +kernel
theorem dB_isFree_56 : decode kB_isFree 56 = .ok (.iconst 1, 1) := by decide +kernel
theorem dB_isFree_57 : decode kB_isFree 57 = .ok (.goto 4, 3) := by decide +kernel
theorem dB_isFree_60 : decode kB_isFree 60 = .ok (.iconst 0, 1) := by decide +kernel
theorem dB_isFree_61 : decode kB_isFree 61 = .ok (.istore 6, 2) := by decide +kernel
theorem dB_isFree_63 : decode kB_isFree 63 = .ok (.aload_n 0, 1) := by decide +kernel
theorem dB_isFree_64 : decode kB_isFree 64 = .ok (.getfield 15, 3) := by decide +kernel
theorem dB_isFree_67 : decode kB_isFree 67 = .ok (.iload 4, 2) := by decide +kernel
theorem dB_isFree_69 : decode kB_isFree 69 = .ok (.iaload, 1) := by decide +kernel
theorem dB_isFree_70 : decode kB_isFree 70 = .ok (.ifCond .le 10, 3) := by decide +kernel
theorem dB_isFree_73 : decode kB_isFree 73 = .ok (.iload 6, 2) := by decide +kernel
theorem dB_isFree_75 : decode kB_isFree 75 = .ok (.ifCond .eq 5, 3) := by decide +kernel
theorem dB_isFree_78 : decode kB_isFree 78 = .ok (.iconst 0, 1) := by decide +kernel
theorem dB_isFree_79 : decode kB_isFree 79 = .ok (.ireturn, 1) := by decide +kernel
theorem dB_isFree_80 : decode kB_isFree 80 = .ok (.iinc 4 1, 3) := by decide +kernel
theorem dB_isFree_83 : decode kB_isFree 83 = .ok (.goto (-73), 3) := by decide +kernel
theorem dB_isFree_86 : decode kB_isFree 86 = .ok (.iconst 1, 1) := by decide +kernel
theorem dB_isFree_87 : decode kB_isFree 87 = .ok (.ireturn, 1) := by decide +kernel
def wb_B_isFree_61 (θ : TH) (a0_10 : Nat) (x1_10 : Int32) (x2_10 : Int32) (x3_10 : Int32) (x4_61 : Int32) (z0_61 : Int32) (kb10 : Int32 → VT → UT → Prop) (K : Int32 → VT → UT → Prop) (V : VT) (U : UT) : Prop := isO θ a0_10 8 ∧ (U a0_10 2) ≠ 0 ∧ ∃ n_21, isA θ (U a0_10 2) 0 n_21 ∧ vp_in x4_61 n_21 ∧ (((V (U a0_10 2) x4_61.toNatClampNeg) ≤ 0 → ∀ y_25 : Int32, y_25 = x4_61 + (1 : Int32) → kb10 y_25 V U) ∧ (¬ (V (U a0_10 2) x4_61.toNatClampNeg) ≤ 0 → ((z0_61 = 0 → ∀ y_27 : Int32, y_27 = x4_61 + (1 : Int32) → kb10 y_27 V U) ∧ (¬ z0_61 = 0 → K (0 : Int32) V U))))
def bl_B_isFree_10 (θ : TH) (a0_10 : Nat) (x1_10 : Int32) (x2_10 : Int32) (x3_10 : Int32) (K : Int32 → VT → UT → Prop) (kb10 : Int32 → VT → UT → Prop) (x4_10 : Int32) (V : VT) (U : UT) : Prop := ((x2_10 ≤ x4_10 → K (1 : Int32) V U) ∧ (¬ x2_10 ≤ x4_10 → isO θ a0_10 8 ∧ (U a0_10 2) ≠ 0 ∧ ∃ n_10, isA θ (U a0_10 2) 0 n_10 ∧ vp_in x4_10 n_10 ∧ ∀ y_13 : Int32, y_13 = (if (V (U a0_10 2) x4_10.toNatClampNeg) < x3_10 then (V (U a0_10 2) x4_10.toNatClampNeg) else x3_10) → (U a0_10 3) ≠ 0 ∧ ∃ n_15, isA θ (U a0_10 3) 0 n_15 ∧ vp_in x4_10 n_15 ∧ ((¬ (x1_10 >>> ((x3_10 - y_13) &&& 31)) = ((V (U a0_10 3) x4_10.toNatClampNeg) >>> (((V (U a0_10 2) x4_10.toNatClampNeg) - y_13) &&& 31)) → wb_B_isFree_61 θ a0_10 x1_10 x2_10 x3_10 x4_10 (0 : Int32) kb10 K V U) ∧ ((x1_10 >>> ((x3_10 - y_13) &&& 31)) = ((V (U a0_10 3) x4_10.toNatClampNeg) >>> (((V (U a0_10 2) x4_10.toNatClampNeg) - y_13) &&& 31)) → wb_B_isFree_61 θ a0_10 x1_10 x2_10 x3_10 x4_10 (1 : Int32) kb10 K V U))))
def wl_B_isFree_10 (θ : TH) (a0_10 : Nat) (x1_10 : Int32) (x2_10 : Int32) (x3_10 : Int32) (K : Int32 → VT → UT → Prop) : Nat → Int32 → VT → UT → Prop
  | 0, _, _, _ => False
  | n + 1, x4_10, V, U => bl_B_isFree_10 θ a0_10 x1_10 x2_10 x3_10 K (wl_B_isFree_10 θ a0_10 x1_10 x2_10 x3_10 K n) x4_10 V U
def wp_B_isFree (θ : TH) (a0 : Nat) (x1 : Int32) (x2 : Int32) (V : VT) (U : UT) (K : Int32 → VT → UT → Prop) : Prop := isO θ a0 8 ∧ (U a0 2) ≠ 0 ∧ ∃ n_3, isA θ (U a0 2) 0 n_3 ∧ vp_in x2 n_3 ∧ ∀ y_6 : Int32, y_6 = (V (U a0 2) x2.toNatClampNeg) → ∃ n, wl_B_isFree_10 θ a0 x1 x2 y_6 K n (0 : Int32) V U
set_option maxRecDepth 100000 in
set_option maxHeartbeats 4000000 in
theorem c_B_isFree (l : Launch) (θ : TH) (a0 : Nat) (x1 : Int32) (x2 : Int32) (V : VT) (U : UT) (K : Int32 → VT → UT → Prop) (hw : wp_B_isFree θ a0 x1 x2 V U K) : CMi l yB_isFree kB_isFree 7 (some .boolean) rmB_isFree θ [.ref a0, .int x1, .int x2] V U K := by
  refine g_met nRB (by decide +kernel) rfl (Nat.le_of_ble_eq_true rfl) (fun p e s m args below meth c ls hC hr hlk hwo hl => ?_)
  have hx := hC.1
  have hb := hC.2.1
  have hS : Sx θ s s.heap [] := va_S.rf
  have hl : lv_has ls 7 [(0, .ref a0), (1, .int x1), (2, .int x2)] := hl
  have L10 : ∀ (a0_10 : Nat) (x1_10 : Int32) (x2_10 : Int32) (x3_10 : Int32) (n10 : Nat) (x4_10 : Int32) (V : VT) (U : UT) (H : Heap) (locs : List Loc) (ls : Array Slot), wl_B_isFree_10 θ a0_10 x1_10 x2_10 x3_10 K n10 x4_10 V U → wo θ V U H → Sx θ s H locs → lv_has ls 7 [(0, .ref a0_10), (1, .int x1_10), (2, .int x2_10), (3, .int x3_10), (4, .int x4_10)] → W p l e rmB_isFree s m args below meth c H locs 0 0 (MQ below (QI θ K) args s 0 0 (aT θ)) (F0 m 10 ls []) := by
    intro a0_10 x1_10 x2_10 x3_10 n10
    induction n10 with
    | zero => intro x4_10 V U H locs ls hw hwo hS hl; exact (show False from hw).elim
    | succ n10 ih10 =>
      have J61 : ∀ (x4_61 : Int32) (z0_61 : Int32) (V : VT) (U : UT) (H : Heap) (locs : List Loc) (ls : Array Slot), wb_B_isFree_61 θ a0_10 x1_10 x2_10 x3_10 x4_61 z0_61 (wl_B_isFree_10 θ a0_10 x1_10 x2_10 x3_10 K n10) K V U → wo θ V U H → Sx θ s H locs → lv_has ls 7 [(0, .ref a0_10), (1, .int x1_10), (2, .int x2_10), (3, .int x3_10), (4, .int x4_61)] → W p l e rmB_isFree s m args below meth c H locs 0 0 (MQ below (QI θ K) args s 0 0 (aT θ)) (F0 m 61 ls [.int z0_61]) := by
        intro x4_61 z0_61 V U H locs ls hw hwo hS hl
        unfold wb_B_isFree_61 at hw
        refine lv_istore (i := 6) (lv' := [(6, .int z0_61), (0, .ref a0_10), (1, .int x1_10), (2, .int x2_10), (3, .int x3_10), (4, .int x4_61)]) hx hb dB_isFree_61 hl (by decide) rfl (fun ls hl => ?_)
        refine lv_aload_n hx hb dB_isFree_63 rfl (lv_at hl 1 rfl) ?_
        obtain ⟨ho_19, hw⟩ := hw
        obtain ⟨hz_20, hw⟩ := hw
        refine g_getR hC fkB_15 rfl hwo ho_19 hz_20 dB_isFree_64 ?_
        refine lv_iload hx hb dB_isFree_67 (lv_at hl 5 rfl) ?_
        obtain ⟨n_21, ha_22, hw⟩ := hw
        obtain ⟨hi_23, hw⟩ := hw
        refine g_iald hC hwo ha_22 hi_23 dB_isFree_69 ?_
        refine lv_if_le (tgt := 80) hx hb dB_isFree_70 (by decide) (fun hc_24 => ?_) (fun hc_24 => ?_)
        · replace hw := hw.1 hc_24
          obtain ⟨y_25, ey_25⟩ : ∃ z : Int32, z = x4_61 + (1 : Int32) := ⟨_, rfl⟩
          replace hw := hw y_25 ey_25
          refine lv_iinc (k := 5) (v := y_25) (lv' := [(4, .int y_25), (6, .int z0_61), (0, .ref a0_10), (1, .int x1_10), (2, .int x2_10), (3, .int x3_10)]) hx hb dB_isFree_80 hl rfl (by rw [ey_25]; rfl) (by decide) rfl (fun ls hl => ?_)
          refine lv_goto (tgt := 10) hx hb dB_isFree_83 (by decide) ?_
          exact ih10 _ _ _ _ _ _ hw hwo hS (lv_sub hl [2, 3, 4, 5, 0] rfl)
        · replace hw := hw.2 hc_24
          refine lv_iload hx hb dB_isFree_73 (lv_at hl 0 rfl) ?_
          refine lv_if_eq (tgt := 80) hx hb dB_isFree_75 (by decide) (fun hc_26 => ?_) (fun hc_26 => ?_)
          · replace hw := hw.1 hc_26
            obtain ⟨y_27, ey_27⟩ : ∃ z : Int32, z = x4_61 + (1 : Int32) := ⟨_, rfl⟩
            replace hw := hw y_27 ey_27
            refine lv_iinc (k := 5) (v := y_27) (lv' := [(4, .int y_27), (6, .int z0_61), (0, .ref a0_10), (1, .int x1_10), (2, .int x2_10), (3, .int x3_10)]) hx hb dB_isFree_80 hl rfl (by rw [ey_27]; rfl) (by decide) rfl (fun ls hl => ?_)
            refine lv_goto (tgt := 10) hx hb dB_isFree_83 (by decide) ?_
            exact ih10 _ _ _ _ _ _ hw hwo hS (lv_sub hl [2, 3, 4, 5, 0] rfl)
          · replace hw := hw.2 hc_26
            refine lv_iconst (v := 0) hx hb dB_isFree_78 (by decide) ?_
            exact g_zret hC hr hlk (Or.inl rfl) hw hwo hS dB_isFree_79
      intro x4_10 V U H locs ls hw hwo hS hl
      replace hw : bl_B_isFree_10 θ a0_10 x1_10 x2_10 x3_10 K (wl_B_isFree_10 θ a0_10 x1_10 x2_10 x3_10 K n10) x4_10 V U := hw
      unfold bl_B_isFree_10 at hw
      refine lv_iload hx hb dB_isFree_10 (lv_at hl 4 rfl) ?_
      refine lv_iload_n hx hb dB_isFree_12 rfl (lv_at hl 2 rfl) ?_
      refine lv_icmp_ge (tgt := 86) hx hb dB_isFree_13 (by decide) (fun hc_7 => ?_) (fun hc_7 => ?_)
      · replace hw := hw.1 hc_7
        refine lv_iconst (v := 1) hx hb dB_isFree_86 (by decide) ?_
        exact g_zret hC hr hlk (Or.inr rfl) hw hwo hS dB_isFree_87
      · replace hw := hw.2 hc_7
        refine lv_iload_n hx hb dB_isFree_16 rfl (lv_at hl 3 rfl) ?_
        refine lv_aload_n hx hb dB_isFree_17 rfl (lv_at hl 0 rfl) ?_
        obtain ⟨ho_8, hw⟩ := hw
        obtain ⟨hz_9, hw⟩ := hw
        refine g_getR hC fkB_15 rfl hwo ho_8 hz_9 dB_isFree_18 ?_
        refine lv_iload hx hb dB_isFree_21 (lv_at hl 4 rfl) ?_
        obtain ⟨n_10, ha_11, hw⟩ := hw
        obtain ⟨hi_12, hw⟩ := hw
        refine g_iald hC hwo ha_11 hi_12 dB_isFree_23 ?_
        refine g_min hC hl.1 lkB_79 ka_min (by decide) (Nat.le_of_ble_eq_true rfl) dB_isFree_24 ?_
        refine lv_topi (fun y_13 ey_13 => ?_)
        replace hw := hw y_13 ey_13
        refine lv_istore (i := 5) (lv' := [(5, .int y_13), (0, .ref a0_10), (1, .int x1_10), (2, .int x2_10), (3, .int x3_10), (4, .int x4_10)]) hx hb dB_isFree_27 hl (by decide) rfl (fun ls hl => ?_)
        refine lv_iload_n hx hb dB_isFree_29 rfl (lv_at hl 2 rfl) ?_
        refine lv_iload_n hx hb dB_isFree_30 rfl (lv_at hl 4 rfl) ?_
        refine lv_iload hx hb dB_isFree_31 (lv_at hl 0 rfl) ?_
        refine lv_isub hx hb dB_isFree_33 ?_
        refine lv_ishr hx hb dB_isFree_34 ?_
        refine lv_aload_n hx hb dB_isFree_35 rfl (lv_at hl 1 rfl) ?_
        obtain ⟨hz_14, hw⟩ := hw
        refine g_getR hC fkB_19 rfl hwo ho_8 hz_14 dB_isFree_36 ?_
        refine lv_iload hx hb dB_isFree_39 (lv_at hl 5 rfl) ?_
        obtain ⟨n_15, ha_16, hw⟩ := hw
        obtain ⟨hi_17, hw⟩ := hw
        refine g_iald hC hwo ha_16 hi_17 dB_isFree_41 ?_
        refine lv_aload_n hx hb dB_isFree_42 rfl (lv_at hl 1 rfl) ?_
        refine g_getR hC fkB_15 rfl hwo ho_8 hz_9 dB_isFree_43 ?_
        refine lv_iload hx hb dB_isFree_46 (lv_at hl 5 rfl) ?_
        refine g_iald hC hwo ha_11 hi_12 dB_isFree_48 ?_
        refine lv_iload hx hb dB_isFree_49 (lv_at hl 0 rfl) ?_
        refine lv_isub hx hb dB_isFree_51 ?_
        refine lv_ishr hx hb dB_isFree_52 ?_
        refine lv_icmp_ne (tgt := 60) hx hb dB_isFree_53 (by decide) (fun hc_18 => ?_) (fun hc_18 => ?_)
        · replace hw := hw.1 hc_18
          refine lv_iconst (v := 0) hx hb dB_isFree_60 (by decide) ?_
          exact J61 _ _ _ _ _ _ _ hw hwo hS (lv_sub hl [1, 2, 3, 4, 5] rfl)
        · replace hw := hw.2 hc_18
          refine lv_iconst (v := 1) hx hb dB_isFree_56 (by decide) ?_
          refine lv_goto (tgt := 61) hx hb dB_isFree_57 (by decide) ?_
          exact J61 _ _ _ _ _ _ _ hw hwo hS (lv_sub hl [1, 2, 3, 4, 5] rfl)
  unfold wp_B_isFree at hw
  refine lv_aload_n hx hb dB_isFree_0 rfl (lv_at hl 0 rfl) ?_
  obtain ⟨ho_1, hw⟩ := hw
  obtain ⟨hz_2, hw⟩ := hw
  refine g_getR hC fkB_15 rfl hwo ho_1 hz_2 dB_isFree_1 ?_
  refine lv_iload_n hx hb dB_isFree_4 rfl (lv_at hl 2 rfl) ?_
  obtain ⟨n_3, ha_4, hw⟩ := hw
  obtain ⟨hi_5, hw⟩ := hw
  refine g_iald hC hwo ha_4 hi_5 dB_isFree_5 ?_
  refine lv_topi (fun y_6 ey_6 => ?_)
  replace hw := hw y_6 ey_6
  refine lv_istore_n (i := 3) (lv' := [(3, .int y_6), (0, .ref a0), (1, .int x1), (2, .int x2)]) hx hb dB_isFree_6 rfl hl (by decide) rfl (fun ls hl => ?_)
  refine lv_iconst (v := 0) hx hb dB_isFree_7 (by decide) ?_
  refine lv_istore (i := 4) (lv' := [(4, .int (0 : Int32)), (3, .int y_6), (0, .ref a0), (1, .int x1), (2, .int x2)]) hx hb dB_isFree_8 hl (by decide) rfl (fun ls hl => ?_)
  obtain ⟨n, hw⟩ := hw
  exact L10 _ _ _ _ n _ _ _ _ _ _ hw hwo hS (lv_sub hl [2, 3, 4, 1, 0] rfl)
theorem dB_leastFree_0 : decode kB_leastFree 0 = .ok (.iconst 1, 1) := by decide +kernel
theorem dB_leastFree_1 : decode kB_leastFree 1 = .ok (.aload_n 0, 1) := by decide +kernel
theorem dB_leastFree_2 : decode kB_leastFree 2 = .ok (.getfield 15, 3) := by decide +kernel
theorem dB_leastFree_5 : decode kB_leastFree 5 = .ok (.iload_n 1, 1) := by decide +kernel
theorem dB_leastFree_6 : decode kB_leastFree 6 = .ok (.iaload, 1) := by decide +kernel
theorem dB_leastFree_7 : decode kB_leastFree 7 = .ok (.ishl, 1) := by decide +kernel
theorem dB_leastFree_8 : decode kB_leastFree 8 = .ok (.istore_n 2, 1) := by decide +kernel
theorem dB_leastFree_9 : decode kB_leastFree 9 = .ok (.iload_n 2, 1) := by decide +kernel
theorem dB_leastFree_10 : decode kB_leastFree 10 = .ok (.istore_n 3, 1) := by decide +kernel
theorem dB_leastFree_11 : decode kB_leastFree 11 = .ok (.iload_n 3, 1) := by decide +kernel
theorem dB_leastFree_12 : decode kB_leastFree 12 = .ok (.iconst 2, 1) := by decide +kernel
theorem dB_leastFree_13 : decode kB_leastFree 13 = .ok (.iload_n 2, 1) := by decide +kernel
theorem dB_leastFree_14 : decode kB_leastFree 14 = .ok (.imul, 1) := by decide +kernel
theorem dB_leastFree_15 : decode kB_leastFree 15 = .ok (.if_icmp .ge 20, 3) := by decide +kernel
theorem dB_leastFree_18 : decode kB_leastFree 18 = .ok (.aload_n 0, 1) := by decide +kernel
theorem dB_leastFree_19 : decode kB_leastFree 19 = .ok (.iload_n 3, 1) := by decide +kernel
theorem dB_leastFree_20 : decode kB_leastFree 20 = .ok (.iload_n 1, 1) := by decide +kernel
theorem dB_leastFree_21 : decode kB_leastFree 21 = .ok (.invokevirtual 75, 3) := by decide +kernel
theorem dB_leastFree_24 : decode kB_leastFree 24 = .ok (.ifCond .eq 5, 3) := by decide +kernel
theorem dB_leastFree_27 : decode kB_leastFree 27 = .ok (.iload_n 3, 1) := by decide +kernel
theorem dB_leastFree_28 : decode kB_leastFree 28 = .ok (.ireturn, 1) := by decide +kernel
theorem dB_leastFree_29 : decode kB_leastFree 29 = .ok (.iinc 3 1, 3) := by decide +kernel
theorem dB_leastFree_32 : decode kB_leastFree 32 = .ok (.goto (-21), 3) := by decide +kernel
theorem dB_leastFree_35 : decode kB_leastFree 35 = .ok (.iconst 0, 1) := by decide +kernel
theorem dB_leastFree_36 : decode kB_leastFree 36 = .ok (.ireturn, 1) := by decide +kernel
def bl_B_leastFree_11 (θ : TH) (a0_11 : Nat) (x1_11 : Int32) (x2_11 : Int32) (K : Int32 → VT → UT → Prop) (kb11 : Int32 → VT → UT → Prop) (x3_11 : Int32) (V : VT) (U : UT) : Prop := ((((2 : Int32) * x2_11) ≤ x3_11 → K (0 : Int32) V U) ∧ (¬ ((2 : Int32) * x2_11) ≤ x3_11 → isO θ a0_11 8 ∧ wp_B_isFree θ a0_11 x3_11 x1_11 V U (fun r_11 V_8 U_9 => ((r_11 = 0 → ∀ y_13 : Int32, y_13 = x3_11 + (1 : Int32) → kb11 y_13 V_8 U_9) ∧ (¬ r_11 = 0 → K x3_11 V_8 U_9)))))
def wl_B_leastFree_11 (θ : TH) (a0_11 : Nat) (x1_11 : Int32) (x2_11 : Int32) (K : Int32 → VT → UT → Prop) : Nat → Int32 → VT → UT → Prop
  | 0, _, _, _ => False
  | n + 1, x3_11, V, U => bl_B_leastFree_11 θ a0_11 x1_11 x2_11 K (wl_B_leastFree_11 θ a0_11 x1_11 x2_11 K n) x3_11 V U
def wp_B_leastFree (θ : TH) (a0 : Nat) (x1 : Int32) (V : VT) (U : UT) (K : Int32 → VT → UT → Prop) : Prop := isO θ a0 8 ∧ (U a0 2) ≠ 0 ∧ ∃ n_3, isA θ (U a0 2) 0 n_3 ∧ vp_in x1 n_3 ∧ ∀ y_6 : Int32, y_6 = ((1 : Int32) <<< ((V (U a0 2) x1.toNatClampNeg) &&& 31)) → ∃ n, wl_B_leastFree_11 θ a0 x1 y_6 K n y_6 V U
set_option maxRecDepth 100000 in
set_option maxHeartbeats 4000000 in
theorem c_B_leastFree (l : Launch) (θ : TH) (a0 : Nat) (x1 : Int32) (V : VT) (U : UT) (K : Int32 → VT → UT → Prop) (hw : wp_B_leastFree θ a0 x1 V U K) : CMi l yB_leastFree kB_leastFree 4 (some .int) rmB_leastFree θ [.ref a0, .int x1] V U K := by
  refine g_met nRB (by decide +kernel) rfl (Nat.le_of_ble_eq_true rfl) (fun p e s m args below meth c ls hC hr hlk hwo hl => ?_)
  have hx := hC.1
  have hb := hC.2.1
  have hS : Sx θ s s.heap [] := va_S.rf
  have hl : lv_has ls 4 [(0, .ref a0), (1, .int x1)] := hl
  have L11 : ∀ (a0_11 : Nat) (x1_11 : Int32) (x2_11 : Int32) (n11 : Nat) (x3_11 : Int32) (V : VT) (U : UT) (H : Heap) (locs : List Loc) (ls : Array Slot), wl_B_leastFree_11 θ a0_11 x1_11 x2_11 K n11 x3_11 V U → wo θ V U H → Sx θ s H locs → lv_has ls 4 [(0, .ref a0_11), (1, .int x1_11), (2, .int x2_11), (3, .int x3_11)] → W p l e rmB_leastFree s m args below meth c H locs 0 0 (MQ below (QI θ K) args s 0 0 (aT θ)) (F0 m 11 ls []) := by
    intro a0_11 x1_11 x2_11 n11
    induction n11 with
    | zero => intro x3_11 V U H locs ls hw hwo hS hl; exact (show False from hw).elim
    | succ n11 ih11 =>
      intro x3_11 V U H locs ls hw hwo hS hl
      replace hw : bl_B_leastFree_11 θ a0_11 x1_11 x2_11 K (wl_B_leastFree_11 θ a0_11 x1_11 x2_11 K n11) x3_11 V U := hw
      unfold bl_B_leastFree_11 at hw
      refine lv_iload_n hx hb dB_leastFree_11 rfl (lv_at hl 3 rfl) ?_
      refine lv_iconst (v := 2) hx hb dB_leastFree_12 (by decide) ?_
      refine lv_iload_n hx hb dB_leastFree_13 rfl (lv_at hl 2 rfl) ?_
      refine lv_imul hx hb dB_leastFree_14 ?_
      refine lv_icmp_ge (tgt := 35) hx hb dB_leastFree_15 (by decide) (fun hc_7 => ?_) (fun hc_7 => ?_)
      · replace hw := hw.1 hc_7
        refine lv_iconst (v := 0) hx hb dB_leastFree_35 (by decide) ?_
        exact g_iret hC hr hlk hw hwo hS dB_leastFree_36
      · replace hw := hw.2 hc_7
        refine lv_aload_n hx hb dB_leastFree_18 rfl (lv_at hl 0 rfl) ?_
        refine lv_iload_n hx hb dB_leastFree_19 rfl (lv_at hl 3 rfl) ?_
        refine lv_iload_n hx hb dB_leastFree_20 rfl (lv_at hl 1 rfl) ?_
        obtain ⟨ho_10, hw⟩ := hw
        refine g_Vi (rest := []) hC (c_B_isFree l θ _ _ _ _ _ _ hw) mi_B_isFree mlB_75 mv_B_isFree ci_8 ho_10 hwo hS ⟨rfl, rfl⟩ ⟨by decide, by decide⟩ rfl hl.1 rfl (Nat.le_of_ble_eq_true rfl) dB_leastFree_21 (fun r_11 V_8 U_9 hw H locs hwo hS => ?_)
        refine lv_if_eq (tgt := 29) hx hb dB_leastFree_24 (by decide) (fun hc_12 => ?_) (fun hc_12 => ?_)
        · replace hw := hw.1 hc_12
          obtain ⟨y_13, ey_13⟩ : ∃ z : Int32, z = x3_11 + (1 : Int32) := ⟨_, rfl⟩
          replace hw := hw y_13 ey_13
          refine lv_iinc (k := 3) (v := y_13) (lv' := [(3, .int y_13), (0, .ref a0_11), (1, .int x1_11), (2, .int x2_11)]) hx hb dB_leastFree_29 hl rfl (by rw [ey_13]; rfl) (by decide) rfl (fun ls hl => ?_)
          refine lv_goto (tgt := 11) hx hb dB_leastFree_32 (by decide) ?_
          exact ih11 _ _ _ _ _ _ hw hwo hS (lv_sub hl [1, 2, 3, 0] rfl)
        · replace hw := hw.2 hc_12
          refine lv_iload_n hx hb dB_leastFree_27 rfl (lv_at hl 3 rfl) ?_
          exact g_iret hC hr hlk hw hwo hS dB_leastFree_28
  unfold wp_B_leastFree at hw
  refine lv_iconst (v := 1) hx hb dB_leastFree_0 (by decide) ?_
  refine lv_aload_n hx hb dB_leastFree_1 rfl (lv_at hl 0 rfl) ?_
  obtain ⟨ho_1, hw⟩ := hw
  obtain ⟨hz_2, hw⟩ := hw
  refine g_getR hC fkB_15 rfl hwo ho_1 hz_2 dB_leastFree_2 ?_
  refine lv_iload_n hx hb dB_leastFree_5 rfl (lv_at hl 1 rfl) ?_
  obtain ⟨n_3, ha_4, hw⟩ := hw
  obtain ⟨hi_5, hw⟩ := hw
  refine g_iald hC hwo ha_4 hi_5 dB_leastFree_6 ?_
  refine lv_ishl hx hb dB_leastFree_7 ?_
  refine lv_topi (fun y_6 ey_6 => ?_)
  replace hw := hw y_6 ey_6
  refine lv_istore_n (i := 2) (lv' := [(2, .int y_6), (0, .ref a0), (1, .int x1)]) hx hb dB_leastFree_8 rfl hl (by decide) rfl (fun ls hl => ?_)
  refine lv_iload_n hx hb dB_leastFree_9 rfl (lv_at hl 0 rfl) ?_
  refine lv_istore_n (i := 3) (lv' := [(3, .int y_6), (2, .int y_6), (0, .ref a0), (1, .int x1)]) hx hb dB_leastFree_10 rfl hl (by decide) rfl (fun ls hl => ?_)
  obtain ⟨n, hw⟩ := hw
  exact L11 _ _ _ n _ _ _ _ _ _ hw hwo hS (lv_sub hl [2, 3, 1, 0] rfl)
theorem dB_giveCodewords_0 : decode kB_giveCodewords 0 = .ok (.iconst 0, 1) := by decide +kernel
theorem dB_giveCodewords_1 : decode kB_giveCodewords 1 = .ok (.istore_n 1, 1) := by decide +kernel
theorem dB_giveCodewords_2 : decode kB_giveCodewords 2 = .ok (.aload_n 0, 1) := by decide +kernel
theorem dB_giveCodewords_3 : decode kB_giveCodewords 3 = .ok (.iconst 0, 1) := by decide +kernel
theorem dB_giveCodewords_4 : decode kB_giveCodewords 4 = .ok (.putfield 69, 3) := by decide +kernel
theorem dB_giveCodewords_7 : decode kB_giveCodewords 7 = .ok (.iconst 0, 1) := by decide +kernel
theorem dB_giveCodewords_8 : decode kB_giveCodewords 8 = .ok (.istore_n 2, 1) := by decide +kernel
theorem dB_giveCodewords_9 : decode kB_giveCodewords 9 = .ok (.iload_n 2, 1) := by decide +kernel
theorem dB_giveCodewords_10 : decode kB_giveCodewords 10 = .ok (.aload_n 0, 1) := by decide +kernel
theorem dB_giveCodewords_11 : decode kB_giveCodewords 11 = .ok (.getfield 34, 3) := by decide +kernel
theorem dB_giveCodewords_14 : decode kB_giveCodewords 14 = .ok (.if_icmp .ge 42, 3) := by decide +kernel
theorem dB_giveCodewords_17 : decode kB_giveCodewords 17 = .ok (.aload_n 0, 1) := by decide +kernel
theorem dB_giveCodewords_18 : decode kB_giveCodewords 18 = .ok (.getfield 15, 3) := by decide +kernel
theorem dB_giveCodewords_21 : decode kB_giveCodewords 21 = .ok (.iload_n 2, 1) := by decide +kernel
theorem dB_giveCodewords_22 : decode kB_giveCodewords 22 = .ok (.iaload, 1) := by decide +kernel
theorem dB_giveCodewords_23 : decode kB_giveCodewords 23 = .ok (.ifCond .le 27, 3) := by decide +kernel
theorem dB_giveCodewords_26 : decode kB_giveCodewords 26 = .ok (.iload_n 1, 1) := by decide +kernel
theorem dB_giveCodewords_27 : decode kB_giveCodewords 27 = .ok (.iconst 1, 1) := by decide +kernel
theorem dB_giveCodewords_28 : decode kB_giveCodewords 28 = .ok (.bipush 8, 2) := by decide +kernel
theorem dB_giveCodewords_30 : decode kB_giveCodewords 30 = .ok (.aload_n 0, 1) := by decide +kernel
theorem dB_giveCodewords_31 : decode kB_giveCodewords 31 = .ok (.getfield 15, 3) := by decide +kernel
theorem dB_giveCodewords_34 : decode kB_giveCodewords 34 = .ok (.iload_n 2, 1) := by decide +kernel
theorem dB_giveCodewords_35 : decode kB_giveCodewords 35 = .ok (.iaload, 1) := by decide +kernel
theorem dB_giveCodewords_36 : decode kB_giveCodewords 36 = .ok (.isub, 1) := by decide +kernel
theorem dB_giveCodewords_37 : decode kB_giveCodewords 37 = .ok (.ishl, 1) := by decide +kernel
theorem dB_giveCodewords_38 : decode kB_giveCodewords 38 = .ok (.iadd, 1) := by decide +kernel
theorem dB_giveCodewords_39 : decode kB_giveCodewords 39 = .ok (.istore_n 1, 1) := by decide +kernel
theorem dB_giveCodewords_40 : decode kB_giveCodewords 40 = .ok (.aload_n 0, 1) := by decide +kernel
theorem dB_giveCodewords_41 : decode kB_giveCodewords 41 = .ok (.dup, 1) := by decide +kernel
theorem dB_giveCodewords_42 : decode kB_giveCodewords 42 = .ok (.getfield 69, 3) := by decide +kernel
theorem dB_giveCodewords_45 : decode kB_giveCodewords 45 = .ok (.iconst 1, 1) := by decide +kernel
theorem dB_giveCodewords_46 : decode kB_giveCodewords 46 = .ok (.iadd, 1) := by decide +kernel
theorem dB_giveCodewords_47 : decode kB_giveCodewords 47 = .ok (.putfield 69, 3) := by decide +kernel
theorem dB_giveCodewords_50 : decode kB_giveCodewords 50 = .ok (.iinc 2 1, 3) := by decide +kernel
theorem dB_giveCodewords_53 : decode kB_giveCodewords 53 = .ok (.goto (-44), 3) := by decide +kernel
theorem dB_giveCodewords_56 : decode kB_giveCodewords 56 = .ok (.aload_n 0, 1) := by decide +kernel
theorem dB_giveCodewords_57 : decode kB_giveCodewords 57 = .ok (.getfield 69, 3) := by decide +kernel
theorem dB_giveCodewords_60 : decode kB_giveCodewords 60 = .ok (.iconst 1, 1) := by decide +kernel
theorem dB_giveCodewords_61 : decode kB_giveCodewords 61 = .ok (.if_icmp .ne 14, 3) := by decide +kernel
theorem dB_giveCodewords_64 : decode kB_giveCodewords 64 = .ok (.iload_n 1, 1) := by decide +kernel
theorem dB_giveCodewords_65 : decode kB_giveCodewords 65 = .ok (.sipush 128, 3) := by decide +kernel
theorem dB_giveCodewords_68 : decode kB_giveCodewords 68 = .ok (.if_icmp .ne 7, 3) := by decide +kernel
theorem dB_giveCodewords_71 : decode kB_giveCodewords 71 = .ok (.iconst 1, 1) := by decide +kernel
theorem dB_giveCodewords_72 : decode kB_giveCodewords 72 = .ok (.goto 4, 3) := by decide +kernel
theorem dB_giveCodewords_75 : decode kB_giveCodewords 75 = .ok (.iconst 0, 1) := by decide +kernel
theorem dB_giveCodewords_76 : decode kB_giveCodewords 76 = .ok (.istore_n 2, 1) := by decide +kernel
theorem dB_giveCodewords_77 : decode kB_giveCodewords 77 = .ok (.iload_n 1, 1) := by decide +kernel
theorem dB_giveCodewords_78 : decode kB_giveCodewords 78 = .ok (.sipush 256, 3) := by decide +kernel
theorem dB_giveCodewords_81 : decode kB_giveCodewords 81 = .ok (.if_icmp .eq 9, 3) := by decide +kernel
theorem dB_giveCodewords_84 : decode kB_giveCodewords 84 = .ok (.iload_n 2, 1) := by decide +kernel
theorem dB_giveCodewords_85 : decode kB_giveCodewords 85 = .ok (.ifCond .ne 5, 3) := by decide +kernel
theorem dB_giveCodewords_88 : decode kB_giveCodewords 88 = .ok (.iconst 0, 1) := by decide +kernel
theorem dB_giveCodewords_89 : decode kB_giveCodewords 89 = .ok (.ireturn, 1) := by decide +kernel
theorem dB_giveCodewords_90 : decode kB_giveCodewords 90 = .ok (.iconst 0, 1) := by decide +kernel
theorem dB_giveCodewords_91 : decode kB_giveCodewords 91 = .ok (.istore_n 3, 1) := by decide +kernel
theorem dB_giveCodewords_92 : decode kB_giveCodewords 92 = .ok (.iload_n 3, 1) := by decide +kernel
theorem dB_giveCodewords_93 : decode kB_giveCodewords 93 = .ok (.aload_n 0, 1) := by decide +kernel
theorem dB_giveCodewords_94 : decode kB_giveCodewords 94 = .ok (.getfield 34, 3) := by decide +kernel
theorem dB_giveCodewords_97 : decode kB_giveCodewords 97 = .ok (.if_icmp .ge 33, 3) := by decide +kernel
theorem dB_giveCodewords_100 : decode kB_giveCodewords 100 = .ok (.aload_n 0, 1) := by decide +kernel
theorem dB_giveCodewords_101 : decode kB_giveCodewords 101 = .ok (.getfield 19, 3) := by decide +kernel
theorem dB_giveCodewords_104 : decode kB_giveCodewords 104 = .ok (.iload_n 3, 1) := by decide +kernel
theorem dB_giveCodewords_105 : decode kB_giveCodewords 105 = .ok (.aload_n 0, 1) := by decide +kernel
theorem dB_giveCodewords_106 : decode kB_giveCodewords 106 = .ok (.getfield 15, 3) := by decide +kernel
theorem dB_giveCodewords_109 : decode kB_giveCodewords 109 = .ok (.iload_n 3, 1) := by decide +kernel
theorem dB_giveCodewords_110 : decode kB_giveCodewords 110 = .ok (.iaload, 1) := by decide +kernel
theorem dB_giveCodewords_111 : decode kB_giveCodewords 111 = .ok (.ifCond .le 11, 3) := by decide +kernel
theorem dB_giveCodewords_114 : decode kB_giveCodewords 114 = .ok (.aload_n 0, 1) := by decide +kernel
theorem dB_giveCodewords_115 : decode kB_giveCodewords 115 = .ok (.iload_n 3, 1) := by decide +kernel
theorem dB_giveCodewords_116 : decode kB_giveCodewords 116 = .ok (.invokevirtual 72, 3) := by decide +kernel
theorem dB_giveCodewords_119 : decode kB_giveCodewords 119 = .ok (.goto 4, 3) := by decide +kernel
theorem dB_giveCodewords_122 : decode kB_giveCodewords 122 = .ok (.iconst 0, 1) := by decide +kernel
theorem dB_giveCodewords_123 : decode kB_giveCodewords 123 = .ok (.iastore, 1) := by decide +kernel
theorem dB_giveCodewords_124 : decode kB_giveCodewords 124 = .ok (.iinc 3 1, 3) := by decide +kernel
theorem dB_giveCodewords_127 : decode kB_giveCodewords 127 = .ok (.goto (-35), 3) := by decide +kernel
theorem dB_giveCodewords_130 : decode kB_giveCodewords 130 = .ok (.iconst 1, 1) := by decide +kernel
theorem dB_giveCodewords_131 : decode kB_giveCodewords 131 = .ok (.ireturn, 1) := by decide +kernel
def bl_B_giveCodewords_92 (θ : TH) (a0_92 : Nat) (K : Int32 → VT → UT → Prop) (kb92 : Int32 → VT → UT → Prop) (x3_92 : Int32) (V : VT) (U : UT) : Prop := isO θ a0_92 8 ∧ (((V a0_92 0) ≤ x3_92 → K (1 : Int32) V U) ∧ (¬ (V a0_92 0) ≤ x3_92 → (U a0_92 3) ≠ 0 ∧ (U a0_92 2) ≠ 0 ∧ ∃ n_22, isA θ (U a0_92 2) 0 n_22 ∧ vp_in x3_92 n_22 ∧ (((V (U a0_92 2) x3_92.toNatClampNeg) ≤ 0 → ∃ n_26, isA θ (U a0_92 3) 0 n_26 ∧ vp_in x3_92 n_26 ∧ ∀ V_29 : VT, V_29 = up2 V (U a0_92 3) x3_92.toNatClampNeg (0 : Int32) → ∀ y_30 : Int32, y_30 = x3_92 + (1 : Int32) → kb92 y_30 V_29 U) ∧ (¬ (V (U a0_92 2) x3_92.toNatClampNeg) ≤ 0 → wp_B_leastFree θ a0_92 x3_92 V U (fun r_33 V_31 U_32 => ∃ n_34, isA θ (U a0_92 3) 0 n_34 ∧ vp_in x3_92 n_34 ∧ ∀ V_37 : VT, V_37 = up2 V_31 (U a0_92 3) x3_92.toNatClampNeg r_33 → ∀ y_38 : Int32, y_38 = x3_92 + (1 : Int32) → kb92 y_38 V_37 U_32)))))
def wl_B_giveCodewords_92 (θ : TH) (a0_92 : Nat) (K : Int32 → VT → UT → Prop) : Nat → Int32 → VT → UT → Prop
  | 0, _, _, _ => False
  | n + 1, x3_92, V, U => bl_B_giveCodewords_92 θ a0_92 K (wl_B_giveCodewords_92 θ a0_92 K n) x3_92 V U
def wb_B_giveCodewords_76 (θ : TH) (a0_76 : Nat) (x1_76 : Int32) (z0_76 : Int32) (K : Int32 → VT → UT → Prop) (V : VT) (U : UT) : Prop := ((x1_76 = (256 : Int32) → ∃ n, wl_B_giveCodewords_92 θ a0_76 K n (0 : Int32) V U) ∧ (¬ x1_76 = (256 : Int32) → ((¬ z0_76 = 0 → ∃ n, wl_B_giveCodewords_92 θ a0_76 K n (0 : Int32) V U) ∧ (z0_76 = 0 → K (0 : Int32) V U))))
def wb_B_giveCodewords_75 (θ : TH) (a0_75 : Nat) (x1_75 : Int32) (K : Int32 → VT → UT → Prop) (V : VT) (U : UT) : Prop := wb_B_giveCodewords_76 θ a0_75 x1_75 (0 : Int32) K V U
def bl_B_giveCodewords_9 (θ : TH) (a0_9 : Nat) (K : Int32 → VT → UT → Prop) (kb9 : Int32 → Int32 → VT → UT → Prop) (x1_9 : Int32) (x2_9 : Int32) (V : VT) (U : UT) : Prop := isO θ a0_9 8 ∧ (((V a0_9 0) ≤ x2_9 → ((¬ (V a0_9 4) = (1 : Int32) → wb_B_giveCodewords_75 θ a0_9 x1_9 K V U) ∧ ((V a0_9 4) = (1 : Int32) → ((¬ x1_9 = (128 : Int32) → wb_B_giveCodewords_75 θ a0_9 x1_9 K V U) ∧ (x1_9 = (128 : Int32) → wb_B_giveCodewords_76 θ a0_9 x1_9 (1 : Int32) K V U))))) ∧ (¬ (V a0_9 0) ≤ x2_9 → (U a0_9 2) ≠ 0 ∧ ∃ n_8, isA θ (U a0_9 2) 0 n_8 ∧ vp_in x2_9 n_8 ∧ (((V (U a0_9 2) x2_9.toNatClampNeg) ≤ 0 → ∀ y_12 : Int32, y_12 = x2_9 + (1 : Int32) → kb9 x1_9 y_12 V U) ∧ (¬ (V (U a0_9 2) x2_9.toNatClampNeg) ≤ 0 → ∀ y_13 : Int32, y_13 = (x1_9 + ((1 : Int32) <<< (((8 : Int32) - (V (U a0_9 2) x2_9.toNatClampNeg)) &&& 31))) → ∀ V_14 : VT, V_14 = up2 V a0_9 4 ((V a0_9 4) + (1 : Int32)) → ∀ y_15 : Int32, y_15 = x2_9 + (1 : Int32) → kb9 y_13 y_15 V_14 U))))
def wl_B_giveCodewords_9 (θ : TH) (a0_9 : Nat) (K : Int32 → VT → UT → Prop) : Nat → Int32 → Int32 → VT → UT → Prop
  | 0, _, _, _, _ => False
  | n + 1, x1_9, x2_9, V, U => bl_B_giveCodewords_9 θ a0_9 K (wl_B_giveCodewords_9 θ a0_9 K n) x1_9 x2_9 V U
def wp_B_giveCodewords (θ : TH) (a0 : Nat) (V : VT) (U : UT) (K : Int32 → VT → UT → Prop) : Prop := isO θ a0 8 ∧ ∀ V_2 : VT, V_2 = up2 V a0 4 (0 : Int32) → ∃ n, wl_B_giveCodewords_9 θ a0 K n (0 : Int32) (0 : Int32) V_2 U
set_option maxRecDepth 100000 in
set_option maxHeartbeats 4000000 in
theorem c_B_giveCodewords (l : Launch) (θ : TH) (a0 : Nat) (V : VT) (U : UT) (K : Int32 → VT → UT → Prop) (hw : wp_B_giveCodewords θ a0 V U K) : CMi l yB_giveCodewords kB_giveCodewords 4 (some .boolean) rmB_giveCodewords θ [.ref a0] V U K := by
  refine g_met nRB (by decide +kernel) rfl (Nat.le_of_ble_eq_true rfl) (fun p e s m args below meth c ls hC hr hlk hwo hl => ?_)
  have hx := hC.1
  have hb := hC.2.1
  have hS : Sx θ s s.heap [] := va_S.rf
  have hl : lv_has ls 4 [(0, .ref a0)] := hl
  have L92 : ∀ (a0_92 : Nat) (n92 : Nat) (x3_92 : Int32) (V : VT) (U : UT) (H : Heap) (locs : List Loc) (ls : Array Slot), wl_B_giveCodewords_92 θ a0_92 K n92 x3_92 V U → wo θ V U H → Sx θ s H locs → lv_has ls 4 [(0, .ref a0_92), (3, .int x3_92)] → W p l e rmB_giveCodewords s m args below meth c H locs 0 0 (MQ below (QI θ K) args s 0 0 (aT θ)) (F0 m 92 ls []) := by
    intro a0_92 n92
    induction n92 with
    | zero => intro x3_92 V U H locs ls hw hwo hS hl; exact (show False from hw).elim
    | succ n92 ih92 =>
      intro x3_92 V U H locs ls hw hwo hS hl
      replace hw : bl_B_giveCodewords_92 θ a0_92 K (wl_B_giveCodewords_92 θ a0_92 K n92) x3_92 V U := hw
      unfold bl_B_giveCodewords_92 at hw
      refine lv_iload_n hx hb dB_giveCodewords_92 rfl (lv_at hl 1 rfl) ?_
      refine lv_aload_n hx hb dB_giveCodewords_93 rfl (lv_at hl 0 rfl) ?_
      obtain ⟨ho_18, hw⟩ := hw
      refine g_getI hC fkB_34 rfl hwo ho_18 dB_giveCodewords_94 ?_
      refine lv_icmp_ge (tgt := 130) hx hb dB_giveCodewords_97 (by decide) (fun hc_19 => ?_) (fun hc_19 => ?_)
      · replace hw := hw.1 hc_19
        refine lv_iconst (v := 1) hx hb dB_giveCodewords_130 (by decide) ?_
        exact g_zret hC hr hlk (Or.inr rfl) hw hwo hS dB_giveCodewords_131
      · replace hw := hw.2 hc_19
        refine lv_aload_n hx hb dB_giveCodewords_100 rfl (lv_at hl 0 rfl) ?_
        obtain ⟨hz_20, hw⟩ := hw
        refine g_getR hC fkB_19 rfl hwo ho_18 hz_20 dB_giveCodewords_101 ?_
        refine lv_iload_n hx hb dB_giveCodewords_104 rfl (lv_at hl 1 rfl) ?_
        refine lv_aload_n hx hb dB_giveCodewords_105 rfl (lv_at hl 0 rfl) ?_
        obtain ⟨hz_21, hw⟩ := hw
        refine g_getR hC fkB_15 rfl hwo ho_18 hz_21 dB_giveCodewords_106 ?_
        refine lv_iload_n hx hb dB_giveCodewords_109 rfl (lv_at hl 1 rfl) ?_
        obtain ⟨n_22, ha_23, hw⟩ := hw
        obtain ⟨hi_24, hw⟩ := hw
        refine g_iald hC hwo ha_23 hi_24 dB_giveCodewords_110 ?_
        refine lv_if_le (tgt := 122) hx hb dB_giveCodewords_111 (by decide) (fun hc_25 => ?_) (fun hc_25 => ?_)
        · replace hw := hw.1 hc_25
          refine lv_iconst (v := 0) hx hb dB_giveCodewords_122 (by decide) ?_
          obtain ⟨n_26, ha_27, hw⟩ := hw
          obtain ⟨hi_28, hw⟩ := hw
          refine g_iast hC hwo hS ha_27 hi_28 dB_giveCodewords_123 (fun V_29 eV_29 H locs hwo hS => ?_)
          replace hw := hw V_29 eV_29
          obtain ⟨y_30, ey_30⟩ : ∃ z : Int32, z = x3_92 + (1 : Int32) := ⟨_, rfl⟩
          replace hw := hw y_30 ey_30
          refine lv_iinc (k := 1) (v := y_30) (lv' := [(3, .int y_30), (0, .ref a0_92)]) hx hb dB_giveCodewords_124 hl rfl (by rw [ey_30]; rfl) (by decide) rfl (fun ls hl => ?_)
          refine lv_goto (tgt := 92) hx hb dB_giveCodewords_127 (by decide) ?_
          exact ih92 _ _ _ _ _ _ hw hwo hS (lv_sub hl [1, 0] rfl)
        · replace hw := hw.2 hc_25
          refine lv_aload_n hx hb dB_giveCodewords_114 rfl (lv_at hl 0 rfl) ?_
          refine lv_iload_n hx hb dB_giveCodewords_115 rfl (lv_at hl 1 rfl) ?_
          refine g_Vi (rest := [.int x3_92, .ref (U a0_92 3)]) hC (c_B_leastFree l θ _ _ _ _ _ hw) mi_B_leastFree mlB_72 mv_B_leastFree ci_8 ho_18 hwo hS ⟨rfl, rfl⟩ ⟨by decide, by decide⟩ rfl hl.1 rfl (Nat.le_of_ble_eq_true rfl) dB_giveCodewords_116 (fun r_33 V_31 U_32 hw H locs hwo hS => ?_)
          refine lv_goto (tgt := 123) hx hb dB_giveCodewords_119 (by decide) ?_
          obtain ⟨n_34, ha_35, hw⟩ := hw
          obtain ⟨hi_36, hw⟩ := hw
          refine g_iast hC hwo hS ha_35 hi_36 dB_giveCodewords_123 (fun V_37 eV_37 H locs hwo hS => ?_)
          replace hw := hw V_37 eV_37
          obtain ⟨y_38, ey_38⟩ : ∃ z : Int32, z = x3_92 + (1 : Int32) := ⟨_, rfl⟩
          replace hw := hw y_38 ey_38
          refine lv_iinc (k := 1) (v := y_38) (lv' := [(3, .int y_38), (0, .ref a0_92)]) hx hb dB_giveCodewords_124 hl rfl (by rw [ey_38]; rfl) (by decide) rfl (fun ls hl => ?_)
          refine lv_goto (tgt := 92) hx hb dB_giveCodewords_127 (by decide) ?_
          exact ih92 _ _ _ _ _ _ hw hwo hS (lv_sub hl [1, 0] rfl)
  have J76 : ∀ (a0_76 : Nat) (x1_76 : Int32) (z0_76 : Int32) (V : VT) (U : UT) (H : Heap) (locs : List Loc) (ls : Array Slot), wb_B_giveCodewords_76 θ a0_76 x1_76 z0_76 K V U → wo θ V U H → Sx θ s H locs → lv_has ls 4 [(0, .ref a0_76), (1, .int x1_76)] → W p l e rmB_giveCodewords s m args below meth c H locs 0 0 (MQ below (QI θ K) args s 0 0 (aT θ)) (F0 m 76 ls [.int z0_76]) := by
    intro a0_76 x1_76 z0_76 V U H locs ls hw hwo hS hl
    unfold wb_B_giveCodewords_76 at hw
    refine lv_istore_n (i := 2) (lv' := [(2, .int z0_76), (0, .ref a0_76), (1, .int x1_76)]) hx hb dB_giveCodewords_76 rfl hl (by decide) rfl (fun ls hl => ?_)
    refine lv_iload_n hx hb dB_giveCodewords_77 rfl (lv_at hl 2 rfl) ?_
    refine lv_sipush (v := 256) hx hb dB_giveCodewords_78 (by decide) ?_
    refine lv_icmp_eq (tgt := 90) hx hb dB_giveCodewords_81 (by decide) (fun hc_16 => ?_) (fun hc_16 => ?_)
    · replace hw := hw.1 hc_16
      refine lv_iconst (v := 0) hx hb dB_giveCodewords_90 (by decide) ?_
      refine lv_istore_n (i := 3) (lv' := [(3, .int (0 : Int32)), (2, .int z0_76), (0, .ref a0_76), (1, .int x1_76)]) hx hb dB_giveCodewords_91 rfl hl (by decide) rfl (fun ls hl => ?_)
      obtain ⟨n, hw⟩ := hw
      exact L92 _ n _ _ _ _ _ _ hw hwo hS (lv_sub hl [2, 0] rfl)
    · replace hw := hw.2 hc_16
      refine lv_iload_n hx hb dB_giveCodewords_84 rfl (lv_at hl 0 rfl) ?_
      refine lv_if_ne (tgt := 90) hx hb dB_giveCodewords_85 (by decide) (fun hc_17 => ?_) (fun hc_17 => ?_)
      · replace hw := hw.1 hc_17
        refine lv_iconst (v := 0) hx hb dB_giveCodewords_90 (by decide) ?_
        refine lv_istore_n (i := 3) (lv' := [(3, .int (0 : Int32)), (2, .int z0_76), (0, .ref a0_76), (1, .int x1_76)]) hx hb dB_giveCodewords_91 rfl hl (by decide) rfl (fun ls hl => ?_)
        obtain ⟨n, hw⟩ := hw
        exact L92 _ n _ _ _ _ _ _ hw hwo hS (lv_sub hl [2, 0] rfl)
      · replace hw := hw.2 hc_17
        refine lv_iconst (v := 0) hx hb dB_giveCodewords_88 (by decide) ?_
        exact g_zret hC hr hlk (Or.inl rfl) hw hwo hS dB_giveCodewords_89
  have J75 : ∀ (a0_75 : Nat) (x1_75 : Int32) (V : VT) (U : UT) (H : Heap) (locs : List Loc) (ls : Array Slot), wb_B_giveCodewords_75 θ a0_75 x1_75 K V U → wo θ V U H → Sx θ s H locs → lv_has ls 4 [(0, .ref a0_75), (1, .int x1_75)] → W p l e rmB_giveCodewords s m args below meth c H locs 0 0 (MQ below (QI θ K) args s 0 0 (aT θ)) (F0 m 75 ls []) := by
    intro a0_75 x1_75 V U H locs ls hw hwo hS hl
    unfold wb_B_giveCodewords_75 at hw
    refine lv_iconst (v := 0) hx hb dB_giveCodewords_75 (by decide) ?_
    exact J76 _ _ _ _ _ _ _ _ hw hwo hS (lv_sub hl [0, 1] rfl)
  have L9 : ∀ (a0_9 : Nat) (n9 : Nat) (x1_9 : Int32) (x2_9 : Int32) (V : VT) (U : UT) (H : Heap) (locs : List Loc) (ls : Array Slot), wl_B_giveCodewords_9 θ a0_9 K n9 x1_9 x2_9 V U → wo θ V U H → Sx θ s H locs → lv_has ls 4 [(0, .ref a0_9), (1, .int x1_9), (2, .int x2_9)] → W p l e rmB_giveCodewords s m args below meth c H locs 0 0 (MQ below (QI θ K) args s 0 0 (aT θ)) (F0 m 9 ls []) := by
    intro a0_9 n9
    induction n9 with
    | zero => intro x1_9 x2_9 V U H locs ls hw hwo hS hl; exact (show False from hw).elim
    | succ n9 ih9 =>
      intro x1_9 x2_9 V U H locs ls hw hwo hS hl
      replace hw : bl_B_giveCodewords_9 θ a0_9 K (wl_B_giveCodewords_9 θ a0_9 K n9) x1_9 x2_9 V U := hw
      unfold bl_B_giveCodewords_9 at hw
      refine lv_iload_n hx hb dB_giveCodewords_9 rfl (lv_at hl 2 rfl) ?_
      refine lv_aload_n hx hb dB_giveCodewords_10 rfl (lv_at hl 0 rfl) ?_
      obtain ⟨ho_3, hw⟩ := hw
      refine g_getI hC fkB_34 rfl hwo ho_3 dB_giveCodewords_11 ?_
      refine lv_icmp_ge (tgt := 56) hx hb dB_giveCodewords_14 (by decide) (fun hc_4 => ?_) (fun hc_4 => ?_)
      · replace hw := hw.1 hc_4
        refine lv_aload_n hx hb dB_giveCodewords_56 rfl (lv_at hl 0 rfl) ?_
        refine g_getI hC fkB_69 rfl hwo ho_3 dB_giveCodewords_57 ?_
        refine lv_iconst (v := 1) hx hb dB_giveCodewords_60 (by decide) ?_
        refine lv_icmp_ne (tgt := 75) hx hb dB_giveCodewords_61 (by decide) (fun hc_5 => ?_) (fun hc_5 => ?_)
        · replace hw := hw.1 hc_5
          exact J75 _ _ _ _ _ _ _ hw hwo hS (lv_sub hl [0, 1] rfl)
        · replace hw := hw.2 hc_5
          refine lv_iload_n hx hb dB_giveCodewords_64 rfl (lv_at hl 1 rfl) ?_
          refine lv_sipush (v := 128) hx hb dB_giveCodewords_65 (by decide) ?_
          refine lv_icmp_ne (tgt := 75) hx hb dB_giveCodewords_68 (by decide) (fun hc_6 => ?_) (fun hc_6 => ?_)
          · replace hw := hw.1 hc_6
            exact J75 _ _ _ _ _ _ _ hw hwo hS (lv_sub hl [0, 1] rfl)
          · replace hw := hw.2 hc_6
            refine lv_iconst (v := 1) hx hb dB_giveCodewords_71 (by decide) ?_
            refine lv_goto (tgt := 76) hx hb dB_giveCodewords_72 (by decide) ?_
            exact J76 _ _ _ _ _ _ _ _ hw hwo hS (lv_sub hl [0, 1] rfl)
      · replace hw := hw.2 hc_4
        refine lv_aload_n hx hb dB_giveCodewords_17 rfl (lv_at hl 0 rfl) ?_
        obtain ⟨hz_7, hw⟩ := hw
        refine g_getR hC fkB_15 rfl hwo ho_3 hz_7 dB_giveCodewords_18 ?_
        refine lv_iload_n hx hb dB_giveCodewords_21 rfl (lv_at hl 2 rfl) ?_
        obtain ⟨n_8, ha_9, hw⟩ := hw
        obtain ⟨hi_10, hw⟩ := hw
        refine g_iald hC hwo ha_9 hi_10 dB_giveCodewords_22 ?_
        refine lv_if_le (tgt := 50) hx hb dB_giveCodewords_23 (by decide) (fun hc_11 => ?_) (fun hc_11 => ?_)
        · replace hw := hw.1 hc_11
          obtain ⟨y_12, ey_12⟩ : ∃ z : Int32, z = x2_9 + (1 : Int32) := ⟨_, rfl⟩
          replace hw := hw y_12 ey_12
          refine lv_iinc (k := 2) (v := y_12) (lv' := [(2, .int y_12), (0, .ref a0_9), (1, .int x1_9)]) hx hb dB_giveCodewords_50 hl rfl (by rw [ey_12]; rfl) (by decide) rfl (fun ls hl => ?_)
          refine lv_goto (tgt := 9) hx hb dB_giveCodewords_53 (by decide) ?_
          exact ih9 _ _ _ _ _ _ _ hw hwo hS (lv_sub hl [1, 2, 0] rfl)
        · replace hw := hw.2 hc_11
          refine lv_iload_n hx hb dB_giveCodewords_26 rfl (lv_at hl 1 rfl) ?_
          refine lv_iconst (v := 1) hx hb dB_giveCodewords_27 (by decide) ?_
          refine lv_bipush (v := 8) hx hb dB_giveCodewords_28 (by decide) ?_
          refine lv_aload_n hx hb dB_giveCodewords_30 rfl (lv_at hl 0 rfl) ?_
          refine g_getR hC fkB_15 rfl hwo ho_3 hz_7 dB_giveCodewords_31 ?_
          refine lv_iload_n hx hb dB_giveCodewords_34 rfl (lv_at hl 2 rfl) ?_
          refine g_iald hC hwo ha_9 hi_10 dB_giveCodewords_35 ?_
          refine lv_isub hx hb dB_giveCodewords_36 ?_
          refine lv_ishl hx hb dB_giveCodewords_37 ?_
          refine lv_iadd hx hb dB_giveCodewords_38 ?_
          refine lv_topi (fun y_13 ey_13 => ?_)
          replace hw := hw y_13 ey_13
          refine lv_istore_n (i := 1) (lv' := [(1, .int y_13), (0, .ref a0_9), (2, .int x2_9)]) hx hb dB_giveCodewords_39 rfl hl (by decide) rfl (fun ls hl => ?_)
          refine lv_aload_n hx hb dB_giveCodewords_40 rfl (lv_at hl 1 rfl) ?_
          refine lv_dup hx hb dB_giveCodewords_41 rfl ?_
          refine g_getI hC fkB_69 rfl hwo ho_3 dB_giveCodewords_42 ?_
          refine lv_iconst (v := 1) hx hb dB_giveCodewords_45 (by decide) ?_
          refine lv_iadd hx hb dB_giveCodewords_46 ?_
          refine g_putI hC fkB_69 rfl hwo hS ho_3 dB_giveCodewords_47 (fun V_14 eV_14 H locs hwo hS => ?_)
          replace hw := hw V_14 eV_14
          obtain ⟨y_15, ey_15⟩ : ∃ z : Int32, z = x2_9 + (1 : Int32) := ⟨_, rfl⟩
          replace hw := hw y_15 ey_15
          refine lv_iinc (k := 2) (v := y_15) (lv' := [(2, .int y_15), (1, .int y_13), (0, .ref a0_9)]) hx hb dB_giveCodewords_50 hl rfl (by rw [ey_15]; rfl) (by decide) rfl (fun ls hl => ?_)
          refine lv_goto (tgt := 9) hx hb dB_giveCodewords_53 (by decide) ?_
          exact ih9 _ _ _ _ _ _ _ hw hwo hS (lv_sub hl [2, 1, 0] rfl)
  unfold wp_B_giveCodewords at hw
  refine lv_iconst (v := 0) hx hb dB_giveCodewords_0 (by decide) ?_
  refine lv_istore_n (i := 1) (lv' := [(1, .int (0 : Int32)), (0, .ref a0)]) hx hb dB_giveCodewords_1 rfl hl (by decide) rfl (fun ls hl => ?_)
  refine lv_aload_n hx hb dB_giveCodewords_2 rfl (lv_at hl 1 rfl) ?_
  refine lv_iconst (v := 0) hx hb dB_giveCodewords_3 (by decide) ?_
  obtain ⟨ho_1, hw⟩ := hw
  refine g_putI hC fkB_69 rfl hwo hS ho_1 dB_giveCodewords_4 (fun V_2 eV_2 H locs hwo hS => ?_)
  replace hw := hw V_2 eV_2
  refine lv_iconst (v := 0) hx hb dB_giveCodewords_7 (by decide) ?_
  refine lv_istore_n (i := 2) (lv' := [(2, .int (0 : Int32)), (1, .int (0 : Int32)), (0, .ref a0)]) hx hb dB_giveCodewords_8 rfl hl (by decide) rfl (fun ls hl => ?_)
  obtain ⟨n, hw⟩ := hw
  exact L9 _ n _ _ _ _ _ _ _ hw hwo hS (lv_sub hl [2, 1, 0] rfl)
theorem dB_load_0 : decode kB_load 0 = .ok (.aload_n 0, 1) := by decide +kernel
theorem dB_load_1 : decode kB_load 1 = .ok (.aload_n 1, 1) := by decide +kernel
theorem dB_load_2 : decode kB_load 2 = .ok (.iconst 2, 1) := by decide +kernel
theorem dB_load_3 : decode kB_load 3 = .ok (.invokevirtual 28, 3) := by decide +kernel
theorem dB_load_6 : decode kB_load 6 = .ok (.iconst 1, 1) := by decide +kernel
theorem dB_load_7 : decode kB_load 7 = .ok (.iadd, 1) := by decide +kernel
theorem dB_load_8 : decode kB_load 8 = .ok (.putfield 9, 3) := by decide +kernel
theorem dB_load_11 : decode kB_load 11 = .ok (.aload_n 0, 1) := by decide +kernel
theorem dB_load_12 : decode kB_load 12 = .ok (.aload_n 1, 1) := by decide +kernel
theorem dB_load_13 : decode kB_load 13 = .ok (.iconst 3, 1) := by decide +kernel
theorem dB_load_14 : decode kB_load 14 = .ok (.invokevirtual 28, 3) := by decide +kernel
theorem dB_load_17 : decode kB_load 17 = .ok (.iconst 1, 1) := by decide +kernel
theorem dB_load_18 : decode kB_load 18 = .ok (.iadd, 1) := by decide +kernel
theorem dB_load_19 : decode kB_load 19 = .ok (.putfield 34, 3) := by decide +kernel
theorem dB_load_22 : decode kB_load 22 = .ok (.aload_n 1, 1) := by decide +kernel
theorem dB_load_23 : decode kB_load 23 = .ok (.invokevirtual 37, 3) := by decide +kernel
theorem dB_load_26 : decode kB_load 26 = .ok (.istore_n 2, 1) := by decide +kernel
theorem dB_load_27 : decode kB_load 27 = .ok (.iload_n 2, 1) := by decide +kernel
theorem dB_load_28 : decode kB_load 28 = .ok (.ifCond .eq 13, 3) := by decide +kernel
theorem dB_load_31 : decode kB_load 31 = .ok (.aload_n 0, 1) := by decide +kernel
theorem dB_load_32 : decode kB_load 32 = .ok (.aload_n 1, 1) := by decide +kernel
theorem dB_load_33 : decode kB_load 33 = .ok (.invokevirtual 41, 3) := by decide +kernel
theorem dB_load_36 : decode kB_load 36 = .ok (.ifCond .ne 5, 3) := by decide +kernel
theorem dB_load_39 : decode kB_load 39 = .ok (.iconst 0, 1) := by decide +kernel
theorem dB_load_40 : decode kB_load 40 = .ok (.ireturn, 1) := by decide +kernel
theorem dB_load_41 : decode kB_load 41 = .ok (.iload_n 2, 1) := by decide +kernel
theorem dB_load_42 : decode kB_load 42 = .ok (.ifCond .ne 8, 3) := by decide +kernel
theorem dB_load_45 : decode kB_load 45 = .ok (.aload_n 0, 1) := by decide +kernel
theorem dB_load_46 : decode kB_load 46 = .ok (.aload_n 1, 1) := by decide +kernel
theorem dB_load_47 : decode kB_load 47 = .ok (.invokevirtual 45, 3) := by decide +kernel
theorem dB_load_50 : decode kB_load 50 = .ok (.aload_n 0, 1) := by decide +kernel
theorem dB_load_51 : decode kB_load 51 = .ok (.aload_n 1, 1) := by decide +kernel
theorem dB_load_52 : decode kB_load 52 = .ok (.invokevirtual 49, 3) := by decide +kernel
theorem dB_load_55 : decode kB_load 55 = .ok (.ifCond .eq 21, 3) := by decide +kernel
theorem dB_load_58 : decode kB_load 58 = .ok (.aload_n 1, 1) := by decide +kernel
theorem dB_load_59 : decode kB_load 59 = .ok (.getfield 52, 3) := by decide +kernel
theorem dB_load_62 : decode kB_load 62 = .ok (.ifCond .ne 14, 3) := by decide +kernel
theorem dB_load_65 : decode kB_load 65 = .ok (.aload_n 0, 1) := by decide +kernel
theorem dB_load_66 : decode kB_load 66 = .ok (.invokevirtual 56, 3) := by decide +kernel
theorem dB_load_69 : decode kB_load 69 = .ok (.ifCond .eq 7, 3) := by decide +kernel
theorem dB_load_72 : decode kB_load 72 = .ok (.iconst 1, 1) := by decide +kernel
theorem dB_load_73 : decode kB_load 73 = .ok (.goto 4, 3) := by decide +kernel
theorem dB_load_76 : decode kB_load 76 = .ok (.iconst 0, 1) := by decide +kernel
theorem dB_load_77 : decode kB_load 77 = .ok (.ireturn, 1) := by decide +kernel
def wb_B_load_76 (θ : TH) (K : Int32 → VT → UT → Prop) (V : VT) (U : UT) : Prop := K (0 : Int32) V U
def wb_B_load_50 (θ : TH) (a0_50 : Nat) (a1_50 : Nat) (K : Int32 → VT → UT → Prop) (V : VT) (U : UT) : Prop := isO θ a0_50 8 ∧ wp_B_readVectors θ a0_50 a1_50 V U (fun r_26 V_23 U_24 => ((r_26 = 0 → wb_B_load_76 θ K V_23 U_24) ∧ (¬ r_26 = 0 → isO θ a1_50 7 ∧ ((¬ (V_23 a1_50 6) = 0 → wb_B_load_76 θ K V_23 U_24) ∧ ((V_23 a1_50 6) = 0 → wp_B_giveCodewords θ a0_50 V_23 U_24 (fun r_32 V_30 U_31 => ((r_32 = 0 → wb_B_load_76 θ K V_30 U_31) ∧ (¬ r_32 = 0 → K (1 : Int32) V_30 U_31))))))))
def wb_B_load_41 (θ : TH) (a0_41 : Nat) (a1_41 : Nat) (x2_41 : Int32) (K : Int32 → VT → UT → Prop) (V : VT) (U : UT) : Prop := ((¬ x2_41 = 0 → wb_B_load_50 θ a0_41 a1_41 K V U) ∧ (x2_41 = 0 → isO θ a0_41 8 ∧ wp_B_readLengths θ a0_41 a1_41 V U (fun V_20 U_21 => wb_B_load_50 θ a0_41 a1_41 K V_20 U_21)))
def wp_B_load (θ : TH) (a0 : Nat) (a1 : Nat) (V : VT) (U : UT) (K : Int32 → VT → UT → Prop) : Prop := isO θ a1 7 ∧ wp_H_read θ a1 (2 : Int32) V U (fun r_4 V_1 U_2 => isO θ a0 8 ∧ ∀ V_6 : VT, V_6 = up2 V_1 a0 1 (r_4 + (1 : Int32)) → wp_H_read θ a1 (3 : Int32) V_6 U_2 (fun r_9 V_7 U_8 => ∀ V_10 : VT, V_10 = up2 V_7 a0 0 (r_9 + (1 : Int32)) → wp_H_readFlag θ a1 V_10 U_8 (fun r_13 V_11 U_12 => ((r_13 = 0 → wb_B_load_41 θ a0 a1 r_13 K V_11 U_12) ∧ (¬ r_13 = 0 → wp_B_readOrderedLengths θ a0 a1 V_11 U_12 (fun r_17 V_15 U_16 => ((¬ r_17 = 0 → wb_B_load_41 θ a0 a1 r_13 K V_15 U_16) ∧ (r_17 = 0 → K (0 : Int32) V_15 U_16))))))))
set_option maxRecDepth 100000 in
set_option maxHeartbeats 4000000 in
theorem c_B_load (l : Launch) (θ : TH) (a0 : Nat) (a1 : Nat) (V : VT) (U : UT) (K : Int32 → VT → UT → Prop) (hw : wp_B_load θ a0 a1 V U K) : CMi l yB_load kB_load 3 (some .boolean) rmB_load θ [.ref a0, .ref a1] V U K := by
  refine g_met nRB (by decide +kernel) rfl (Nat.le_of_ble_eq_true rfl) (fun p e s m args below meth c ls hC hr hlk hwo hl => ?_)
  have hx := hC.1
  have hb := hC.2.1
  have hS : Sx θ s s.heap [] := va_S.rf
  have hl : lv_has ls 3 [(0, .ref a0), (1, .ref a1)] := hl
  have J76 : ∀ (V : VT) (U : UT) (H : Heap) (locs : List Loc) (ls : Array Slot), wb_B_load_76 θ K V U → wo θ V U H → Sx θ s H locs → lv_has ls 3 [] → W p l e rmB_load s m args below meth c H locs 0 0 (MQ below (QI θ K) args s 0 0 (aT θ)) (F0 m 76 ls []) := by
    intro V U H locs ls hw hwo hS hl
    unfold wb_B_load_76 at hw
    refine lv_iconst (v := 0) hx hb dB_load_76 (by decide) ?_
    exact g_zret hC hr hlk (Or.inl rfl) hw hwo hS dB_load_77
  have J50 : ∀ (a0_50 : Nat) (a1_50 : Nat) (V : VT) (U : UT) (H : Heap) (locs : List Loc) (ls : Array Slot), wb_B_load_50 θ a0_50 a1_50 K V U → wo θ V U H → Sx θ s H locs → lv_has ls 3 [(0, .ref a0_50), (1, .ref a1_50)] → W p l e rmB_load s m args below meth c H locs 0 0 (MQ below (QI θ K) args s 0 0 (aT θ)) (F0 m 50 ls []) := by
    intro a0_50 a1_50 V U H locs ls hw hwo hS hl
    unfold wb_B_load_50 at hw
    refine lv_aload_n hx hb dB_load_50 rfl (lv_at hl 0 rfl) ?_
    refine lv_aload_n hx hb dB_load_51 rfl (lv_at hl 1 rfl) ?_
    obtain ⟨ho_25, hw⟩ := hw
    refine g_Vi (rest := []) hC (c_B_readVectors l θ _ _ _ _ _ hw) mi_B_readVectors mlB_49 mv_B_readVectors ci_8 ho_25 hwo hS ⟨rfl, rfl⟩ ⟨by decide, by decide⟩ rfl hl.1 rfl (Nat.le_of_ble_eq_true rfl) dB_load_52 (fun r_26 V_23 U_24 hw H locs hwo hS => ?_)
    refine lv_if_eq (tgt := 76) hx hb dB_load_55 (by decide) (fun hc_27 => ?_) (fun hc_27 => ?_)
    · replace hw := hw.1 hc_27
      exact J76 _ _ _ _ _ hw hwo hS (lv_sub hl [] rfl)
    · replace hw := hw.2 hc_27
      refine lv_aload_n hx hb dB_load_58 rfl (lv_at hl 1 rfl) ?_
      obtain ⟨ho_28, hw⟩ := hw
      refine g_getI hC fkB_52 rfl hwo ho_28 dB_load_59 ?_
      refine lv_if_ne (tgt := 76) hx hb dB_load_62 (by decide) (fun hc_29 => ?_) (fun hc_29 => ?_)
      · replace hw := hw.1 hc_29
        exact J76 _ _ _ _ _ hw hwo hS (lv_sub hl [] rfl)
      · replace hw := hw.2 hc_29
        refine lv_aload_n hx hb dB_load_65 rfl (lv_at hl 0 rfl) ?_
        refine g_Vi (rest := []) hC (c_B_giveCodewords l θ _ _ _ _ hw) mi_B_giveCodewords mlB_56 mv_B_giveCodewords ci_8 ho_25 hwo hS ⟨rfl, rfl⟩ ⟨by decide, by decide⟩ rfl hl.1 rfl (Nat.le_of_ble_eq_true rfl) dB_load_66 (fun r_32 V_30 U_31 hw H locs hwo hS => ?_)
        refine lv_if_eq (tgt := 76) hx hb dB_load_69 (by decide) (fun hc_33 => ?_) (fun hc_33 => ?_)
        · replace hw := hw.1 hc_33
          exact J76 _ _ _ _ _ hw hwo hS (lv_sub hl [] rfl)
        · replace hw := hw.2 hc_33
          refine lv_iconst (v := 1) hx hb dB_load_72 (by decide) ?_
          refine lv_goto (tgt := 77) hx hb dB_load_73 (by decide) ?_
          exact g_zret hC hr hlk (Or.inr rfl) hw hwo hS dB_load_77
  have J41 : ∀ (a0_41 : Nat) (a1_41 : Nat) (x2_41 : Int32) (V : VT) (U : UT) (H : Heap) (locs : List Loc) (ls : Array Slot), wb_B_load_41 θ a0_41 a1_41 x2_41 K V U → wo θ V U H → Sx θ s H locs → lv_has ls 3 [(0, .ref a0_41), (1, .ref a1_41), (2, .int x2_41)] → W p l e rmB_load s m args below meth c H locs 0 0 (MQ below (QI θ K) args s 0 0 (aT θ)) (F0 m 41 ls []) := by
    intro a0_41 a1_41 x2_41 V U H locs ls hw hwo hS hl
    unfold wb_B_load_41 at hw
    refine lv_iload_n hx hb dB_load_41 rfl (lv_at hl 2 rfl) ?_
    refine lv_if_ne (tgt := 50) hx hb dB_load_42 (by decide) (fun hc_19 => ?_) (fun hc_19 => ?_)
    · replace hw := hw.1 hc_19
      exact J50 _ _ _ _ _ _ _ hw hwo hS (lv_sub hl [0, 1] rfl)
    · replace hw := hw.2 hc_19
      refine lv_aload_n hx hb dB_load_45 rfl (lv_at hl 0 rfl) ?_
      refine lv_aload_n hx hb dB_load_46 rfl (lv_at hl 1 rfl) ?_
      obtain ⟨ho_22, hw⟩ := hw
      refine g_Vv (rest := []) hC (c_B_readLengths l θ _ _ _ _ _ hw) mi_B_readLengths mlB_45 mv_B_readLengths ci_8 ho_22 hwo hS ⟨rfl, rfl⟩ ⟨by decide, by decide⟩ rfl hl.1 rfl (Nat.le_of_ble_eq_true rfl) dB_load_47 (fun V_20 U_21 hw H locs hwo hS => ?_)
      exact J50 _ _ _ _ _ _ _ hw hwo hS (lv_sub hl [0, 1] rfl)
  unfold wp_B_load at hw
  refine lv_aload_n hx hb dB_load_0 rfl (lv_at hl 0 rfl) ?_
  refine lv_aload_n hx hb dB_load_1 rfl (lv_at hl 1 rfl) ?_
  refine lv_iconst (v := 2) hx hb dB_load_2 (by decide) ?_
  obtain ⟨ho_3, hw⟩ := hw
  refine g_Vi (rest := [.ref a0]) hC (c_H_read l θ _ _ _ _ _ hw) mi_H_read mlB_28 mv_H_read ci_7 ho_3 hwo hS ⟨rfl, rfl⟩ ⟨by decide, by decide⟩ rfl hl.1 rfl (Nat.le_of_ble_eq_true rfl) dB_load_3 (fun r_4 V_1 U_2 hw H locs hwo hS => ?_)
  refine lv_iconst (v := 1) hx hb dB_load_6 (by decide) ?_
  refine lv_iadd hx hb dB_load_7 ?_
  obtain ⟨ho_5, hw⟩ := hw
  refine g_putI hC fkB_9 rfl hwo hS ho_5 dB_load_8 (fun V_6 eV_6 H locs hwo hS => ?_)
  replace hw := hw V_6 eV_6
  refine lv_aload_n hx hb dB_load_11 rfl (lv_at hl 0 rfl) ?_
  refine lv_aload_n hx hb dB_load_12 rfl (lv_at hl 1 rfl) ?_
  refine lv_iconst (v := 3) hx hb dB_load_13 (by decide) ?_
  refine g_Vi (rest := [.ref a0]) hC (c_H_read l θ _ _ _ _ _ hw) mi_H_read mlB_28 mv_H_read ci_7 ho_3 hwo hS ⟨rfl, rfl⟩ ⟨by decide, by decide⟩ rfl hl.1 rfl (Nat.le_of_ble_eq_true rfl) dB_load_14 (fun r_9 V_7 U_8 hw H locs hwo hS => ?_)
  refine lv_iconst (v := 1) hx hb dB_load_17 (by decide) ?_
  refine lv_iadd hx hb dB_load_18 ?_
  refine g_putI hC fkB_34 rfl hwo hS ho_5 dB_load_19 (fun V_10 eV_10 H locs hwo hS => ?_)
  replace hw := hw V_10 eV_10
  refine lv_aload_n hx hb dB_load_22 rfl (lv_at hl 1 rfl) ?_
  refine g_Vi (rest := []) hC (c_H_readFlag l θ _ _ _ _ hw) mi_H_readFlag mlB_37 mv_H_readFlag ci_7 ho_3 hwo hS ⟨rfl, rfl⟩ ⟨by decide, by decide⟩ rfl hl.1 rfl (Nat.le_of_ble_eq_true rfl) dB_load_23 (fun r_13 V_11 U_12 hw H locs hwo hS => ?_)
  refine lv_istore_n (i := 2) (lv' := [(2, .int r_13), (0, .ref a0), (1, .ref a1)]) hx hb dB_load_26 rfl hl (by decide) rfl (fun ls hl => ?_)
  refine lv_iload_n hx hb dB_load_27 rfl (lv_at hl 0 rfl) ?_
  refine lv_if_eq (tgt := 41) hx hb dB_load_28 (by decide) (fun hc_14 => ?_) (fun hc_14 => ?_)
  · replace hw := hw.1 hc_14
    exact J41 _ _ _ _ _ _ _ _ hw hwo hS (lv_sub hl [1, 2, 0] rfl)
  · replace hw := hw.2 hc_14
    refine lv_aload_n hx hb dB_load_31 rfl (lv_at hl 1 rfl) ?_
    refine lv_aload_n hx hb dB_load_32 rfl (lv_at hl 2 rfl) ?_
    refine g_Vi (rest := []) hC (c_B_readOrderedLengths l θ _ _ _ _ _ hw) mi_B_readOrderedLengths mlB_41 mv_B_readOrderedLengths ci_8 ho_5 hwo hS ⟨rfl, rfl⟩ ⟨by decide, by decide⟩ rfl hl.1 rfl (Nat.le_of_ble_eq_true rfl) dB_load_33 (fun r_17 V_15 U_16 hw H locs hwo hS => ?_)
    refine lv_if_ne (tgt := 41) hx hb dB_load_36 (by decide) (fun hc_18 => ?_) (fun hc_18 => ?_)
    · replace hw := hw.1 hc_18
      exact J41 _ _ _ _ _ _ _ _ hw hwo hS (lv_sub hl [1, 2, 0] rfl)
    · replace hw := hw.2 hc_18
      refine lv_iconst (v := 0) hx hb dB_load_39 (by decide) ?_
      exact g_zret hC hr hlk (Or.inl rfl) hw hwo hS dB_load_40
theorem dB_readEntry_0 : decode kB_readEntry 0 = .ok (.iconst 1, 1) := by decide +kernel
theorem dB_readEntry_1 : decode kB_readEntry 1 = .ok (.istore_n 2, 1) := by decide +kernel
theorem dB_readEntry_2 : decode kB_readEntry 2 = .ok (.iconst 0, 1) := by decide +kernel
theorem dB_readEntry_3 : decode kB_readEntry 3 = .ok (.istore_n 3, 1) := by decide +kernel
theorem dB_readEntry_4 : decode kB_readEntry 4 = .ok (.iload_n 3, 1) := by decide +kernel
theorem dB_readEntry_5 : decode kB_readEntry 5 = .ok (.bipush 8, 2) := by decide +kernel
theorem dB_readEntry_7 : decode kB_readEntry 7 = .ok (.if_icmp .ge 90, 3) := by decide +kernel
theorem dB_readEntry_10 : decode kB_readEntry 10 = .ok (.iload_n 2, 1) := by decide +kernel
theorem dB_readEntry_11 : decode kB_readEntry 11 = .ok (.iconst 1, 1) := by decide +kernel
theorem dB_readEntry_12 : decode kB_readEntry 12 = .ok (.ishl, 1) := by decide +kernel
theorem dB_readEntry_13 : decode kB_readEntry 13 = .ok (.aload_n 1, 1) := by decide +kernel
theorem dB_readEntry_14 : decode kB_readEntry 14 = .ok (.iconst 1, 1) := by decide +kernel
theorem dB_readEntry_15 : decode kB_readEntry 15 = .ok (.invokevirtual 28, 3) := by decide +kernel
theorem dB_readEntry_18 : decode kB_readEntry 18 = .ok (.ior, 1) := by decide +kernel
theorem dB_readEntry_19 : decode kB_readEntry 19 = .ok (.istore_n 2, 1) := by decide +kernel
theorem dB_readEntry_20 : decode kB_readEntry 20 = .ok (.aload_n 1, 1) := by decide +kernel
theorem dB_readEntry_21 : decode kB_readEntry 21 = .ok (.getfield 52, 3) := by decide +kernel
theorem dB_readEntry_24 : decode kB_readEntry 24 = .ok (.ifCond .eq 5, 3) := by decide +kernel
theorem dB_readEntry_27 : decode kB_readEntry 27 = .ok (.iconst (-1), 1) := by decide +kernel
theorem dB_readEntry_28 : decode kB_readEntry 28 = .ok (.ireturn, 1) := by decide +kernel
theorem dB_readEntry_29 : decode kB_readEntry 29 = .ok (.iconst 0, 1) := by decide +kernel
theorem dB_readEntry_30 : decode kB_readEntry 30 = .ok (.istore 4, 2) := by decide +kernel
theorem dB_readEntry_32 : decode kB_readEntry 32 = .ok (.iload 4, 2) := by decide +kernel
theorem dB_readEntry_34 : decode kB_readEntry 34 = .ok (.aload_n 0, 1) := by decide +kernel
theorem dB_readEntry_35 : decode kB_readEntry 35 = .ok (.getfield 34, 3) := by decide +kernel
theorem dB_readEntry_38 : decode kB_readEntry 38 = .ok (.if_icmp .ge 53, 3) := by decide +kernel
theorem dB_readEntry_41 : decode kB_readEntry 41 = .ok (.aload_n 0, 1) := by decide +kernel
theorem dB_readEntry_42 : decode kB_readEntry 42 = .ok (.getfield 69, 3) := by decide +kernel
theorem dB_readEntry_45 : decode kB_readEntry 45 = .ok (.iconst 1, 1) := by decide +kernel
theorem dB_readEntry_46 : decode kB_readEntry 46 = .ok (.if_icmp .ne 17, 3) := by decide +kernel
theorem dB_readEntry_49 : decode kB_readEntry 49 = .ok (.aload_n 0, 1) := by decide +kernel
theorem dB_readEntry_50 : decode kB_readEntry 50 = .ok (.getfield 19, 3) := by decide +kernel
theorem dB_readEntry_53 : decode kB_readEntry 53 = .ok (.iload 4, 2) := by decide +kernel
theorem dB_readEntry_55 : decode kB_readEntry 55 = .ok (.iaload, 1) := by decide +kernel
theorem dB_readEntry_56 : decode kB_readEntry 56 = .ok (.ifCond .eq 7, 3) := by decide +kernel
theorem dB_readEntry_59 : decode kB_readEntry 59 = .ok (.iconst 1, 1) := by decide +kernel
theorem dB_readEntry_60 : decode kB_readEntry 60 = .ok (.goto 4, 3) := by decide +kernel
theorem dB_readEntry_63 : decode kB_readEntry 63 = .ok (.iconst 0, 1) := by decide +kernel
theorem dB_readEntry_64 : decode kB_readEntry 64 = .ok (.istore 5, 2) := by decide +kernel
theorem dB_readEntry_66 : decode kB_readEntry 66 = .ok (.iload 5, 2) := by decide +kernel
theorem dB_readEntry_68 : decode kB_readEntry 68 = .ok (.ifCond .ne 14, 3) := by decide +kernel
theorem dB_readEntry_71 : decode kB_readEntry 71 = .ok (.aload_n 0, 1) := by decide +kernel
theorem dB_readEntry_72 : decode kB_readEntry 72 = .ok (.getfield 19, 3) := by decide +kernel
theorem dB_readEntry_75 : decode kB_readEntry 75 = .ok (.iload 4, 2) := by decide +kernel
theorem dB_readEntry_77 : decode kB_readEntry 77 = .ok (.iaload, 1) := by decide +kernel
theorem dB_readEntry_78 : decode kB_readEntry 78 = .ok (.iload_n 2, 1) := by decide +kernel
theorem dB_readEntry_79 : decode kB_readEntry 79 = .ok (.if_icmp .ne 6, 3) := by decide +kernel
theorem dB_readEntry_82 : decode kB_readEntry 82 = .ok (.iload 4, 2) := by decide +kernel
theorem dB_readEntry_84 : decode kB_readEntry 84 = .ok (.ireturn, 1) := by decide +kernel
theorem dB_readEntry_85 : decode kB_readEntry 85 = .ok (.iinc 4 1, 3) := by decide +kernel
theorem dB_readEntry_88 : decode kB_readEntry 88 = .ok (.goto (-56), 3) := by decide +kernel
theorem dB_readEntry_91 : decode kB_readEntry 91 = .ok (.iinc 3 1, 3) := by decide +kernel
theorem dB_readEntry_94 : decode kB_readEntry 94 = .ok (.goto (-90), 3) := by decide +kernel
theorem dB_readEntry_97 : decode kB_readEntry 97 = .ok (.iconst (-1), 1) := by decide +kernel
theorem dB_readEntry_98 : decode kB_readEntry 98 = .ok (.ireturn, 1) := by decide +kernel
def wb_B_readEntry_64 (θ : TH) (a0_4 : Nat) (a1_4 : Nat) (x2_32 : Int32) (x3_32 : Int32) (x4_64 : Int32) (z0_64 : Int32) (kb4 : Int32 → Int32 → VT → UT → Prop) (kb32 : Int32 → VT → UT → Prop) (K : Int32 → VT → UT → Prop) (V : VT) (U : UT) : Prop := ((¬ z0_64 = 0 → K x4_64 V U) ∧ (z0_64 = 0 → isO θ a0_4 8 ∧ (U a0_4 3) ≠ 0 ∧ ∃ n_20, isA θ (U a0_4 3) 0 n_20 ∧ vp_in x4_64 n_20 ∧ ((¬ (V (U a0_4 3) x4_64.toNatClampNeg) = x2_32 → ∀ y_24 : Int32, y_24 = x4_64 + (1 : Int32) → kb32 y_24 V U) ∧ ((V (U a0_4 3) x4_64.toNatClampNeg) = x2_32 → K x4_64 V U))))
def wb_B_readEntry_63 (θ : TH) (a0_4 : Nat) (a1_4 : Nat) (x2_32 : Int32) (x3_32 : Int32) (x4_63 : Int32) (kb4 : Int32 → Int32 → VT → UT → Prop) (kb32 : Int32 → VT → UT → Prop) (K : Int32 → VT → UT → Prop) (V : VT) (U : UT) : Prop := wb_B_readEntry_64 θ a0_4 a1_4 x2_32 x3_32 x4_63 (0 : Int32) kb4 kb32 K V U
def bl_B_readEntry_32 (θ : TH) (a0_4 : Nat) (a1_4 : Nat) (x2_32 : Int32) (x3_32 : Int32) (kb4 : Int32 → Int32 → VT → UT → Prop) (K : Int32 → VT → UT → Prop) (kb32 : Int32 → VT → UT → Prop) (x4_32 : Int32) (V : VT) (U : UT) : Prop := isO θ a0_4 8 ∧ (((V a0_4 0) ≤ x4_32 → ∀ y_10 : Int32, y_10 = x3_32 + (1 : Int32) → kb4 x2_32 y_10 V U) ∧ (¬ (V a0_4 0) ≤ x4_32 → ((¬ (V a0_4 4) = (1 : Int32) → wb_B_readEntry_63 θ a0_4 a1_4 x2_32 x3_32 x4_32 kb4 kb32 K V U) ∧ ((V a0_4 4) = (1 : Int32) → (U a0_4 3) ≠ 0 ∧ ∃ n_13, isA θ (U a0_4 3) 0 n_13 ∧ vp_in x4_32 n_13 ∧ (((V (U a0_4 3) x4_32.toNatClampNeg) = 0 → wb_B_readEntry_63 θ a0_4 a1_4 x2_32 x3_32 x4_32 kb4 kb32 K V U) ∧ (¬ (V (U a0_4 3) x4_32.toNatClampNeg) = 0 → wb_B_readEntry_64 θ a0_4 a1_4 x2_32 x3_32 x4_32 (1 : Int32) kb4 kb32 K V U))))))
def wl_B_readEntry_32 (θ : TH) (a0_4 : Nat) (a1_4 : Nat) (x2_32 : Int32) (x3_32 : Int32) (kb4 : Int32 → Int32 → VT → UT → Prop) (K : Int32 → VT → UT → Prop) : Nat → Int32 → VT → UT → Prop
  | 0, _, _, _ => False
  | n + 1, x4_32, V, U => bl_B_readEntry_32 θ a0_4 a1_4 x2_32 x3_32 kb4 K (wl_B_readEntry_32 θ a0_4 a1_4 x2_32 x3_32 kb4 K n) x4_32 V U
def bl_B_readEntry_4 (θ : TH) (a0_4 : Nat) (a1_4 : Nat) (K : Int32 → VT → UT → Prop) (kb4 : Int32 → Int32 → VT → UT → Prop) (x2_4 : Int32) (x3_4 : Int32) (V : VT) (U : UT) : Prop := (((8 : Int32) ≤ x3_4 → K (-1 : Int32) V U) ∧ (¬ (8 : Int32) ≤ x3_4 → isO θ a1_4 7 ∧ wp_H_read θ a1_4 (1 : Int32) V U (fun r_5 V_2 U_3 => ∀ y_6 : Int32, y_6 = ((x2_4 <<< ((1 : Int32) &&& 31)) ||| r_5) → (((V_2 a1_4 6) = 0 → ∃ n, wl_B_readEntry_32 θ a0_4 a1_4 y_6 x3_4 kb4 K n (0 : Int32) V_2 U_3) ∧ (¬ (V_2 a1_4 6) = 0 → K (-1 : Int32) V_2 U_3)))))
def wl_B_readEntry_4 (θ : TH) (a0_4 : Nat) (a1_4 : Nat) (K : Int32 → VT → UT → Prop) : Nat → Int32 → Int32 → VT → UT → Prop
  | 0, _, _, _, _ => False
  | n + 1, x2_4, x3_4, V, U => bl_B_readEntry_4 θ a0_4 a1_4 K (wl_B_readEntry_4 θ a0_4 a1_4 K n) x2_4 x3_4 V U
def wp_B_readEntry (θ : TH) (a0 : Nat) (a1 : Nat) (V : VT) (U : UT) (K : Int32 → VT → UT → Prop) : Prop := ∃ n, wl_B_readEntry_4 θ a0 a1 K n (1 : Int32) (0 : Int32) V U
set_option maxRecDepth 100000 in
set_option maxHeartbeats 4000000 in
theorem c_B_readEntry (l : Launch) (θ : TH) (a0 : Nat) (a1 : Nat) (V : VT) (U : UT) (K : Int32 → VT → UT → Prop) (hw : wp_B_readEntry θ a0 a1 V U K) : CMi l yB_readEntry kB_readEntry 6 (some .int) rmB_readEntry θ [.ref a0, .ref a1] V U K := by
  refine g_met nRB (by decide +kernel) rfl (Nat.le_of_ble_eq_true rfl) (fun p e s m args below meth c ls hC hr hlk hwo hl => ?_)
  have hx := hC.1
  have hb := hC.2.1
  have hS : Sx θ s s.heap [] := va_S.rf
  have hl : lv_has ls 6 [(0, .ref a0), (1, .ref a1)] := hl
  have L4 : ∀ (a0_4 : Nat) (a1_4 : Nat) (n4 : Nat) (x2_4 : Int32) (x3_4 : Int32) (V : VT) (U : UT) (H : Heap) (locs : List Loc) (ls : Array Slot), wl_B_readEntry_4 θ a0_4 a1_4 K n4 x2_4 x3_4 V U → wo θ V U H → Sx θ s H locs → lv_has ls 6 [(0, .ref a0_4), (1, .ref a1_4), (2, .int x2_4), (3, .int x3_4)] → W p l e rmB_readEntry s m args below meth c H locs 0 0 (MQ below (QI θ K) args s 0 0 (aT θ)) (F0 m 4 ls []) := by
    intro a0_4 a1_4 n4
    induction n4 with
    | zero => intro x2_4 x3_4 V U H locs ls hw hwo hS hl; exact (show False from hw).elim
    | succ n4 ih4 =>
      have L32 : ∀ (x2_32 : Int32) (x3_32 : Int32) (n32 : Nat) (x4_32 : Int32) (V : VT) (U : UT) (H : Heap) (locs : List Loc) (ls : Array Slot), wl_B_readEntry_32 θ a0_4 a1_4 x2_32 x3_32 (wl_B_readEntry_4 θ a0_4 a1_4 K n4) K n32 x4_32 V U → wo θ V U H → Sx θ s H locs → lv_has ls 6 [(0, .ref a0_4), (1, .ref a1_4), (2, .int x2_32), (3, .int x3_32), (4, .int x4_32)] → W p l e rmB_readEntry s m args below meth c H locs 0 0 (MQ below (QI θ K) args s 0 0 (aT θ)) (F0 m 32 ls []) := by
        intro x2_32 x3_32 n32
        induction n32 with
        | zero => intro x4_32 V U H locs ls hw hwo hS hl; exact (show False from hw).elim
        | succ n32 ih32 =>
          have J64 : ∀ (x4_64 : Int32) (z0_64 : Int32) (V : VT) (U : UT) (H : Heap) (locs : List Loc) (ls : Array Slot), wb_B_readEntry_64 θ a0_4 a1_4 x2_32 x3_32 x4_64 z0_64 (wl_B_readEntry_4 θ a0_4 a1_4 K n4) (wl_B_readEntry_32 θ a0_4 a1_4 x2_32 x3_32 (wl_B_readEntry_4 θ a0_4 a1_4 K n4) K n32) K V U → wo θ V U H → Sx θ s H locs → lv_has ls 6 [(0, .ref a0_4), (1, .ref a1_4), (2, .int x2_32), (3, .int x3_32), (4, .int x4_64)] → W p l e rmB_readEntry s m args below meth c H locs 0 0 (MQ below (QI θ K) args s 0 0 (aT θ)) (F0 m 64 ls [.int z0_64]) := by
            intro x4_64 z0_64 V U H locs ls hw hwo hS hl
            unfold wb_B_readEntry_64 at hw
            refine lv_istore (i := 5) (lv' := [(5, .int z0_64), (0, .ref a0_4), (1, .ref a1_4), (2, .int x2_32), (3, .int x3_32), (4, .int x4_64)]) hx hb dB_readEntry_64 hl (by decide) rfl (fun ls hl => ?_)
            refine lv_iload hx hb dB_readEntry_66 (lv_at hl 0 rfl) ?_
            refine lv_if_ne (tgt := 82) hx hb dB_readEntry_68 (by decide) (fun hc_17 => ?_) (fun hc_17 => ?_)
            · replace hw := hw.1 hc_17
              refine lv_iload hx hb dB_readEntry_82 (lv_at hl 5 rfl) ?_
              exact g_iret hC hr hlk hw hwo hS dB_readEntry_84
            · replace hw := hw.2 hc_17
              refine lv_aload_n hx hb dB_readEntry_71 rfl (lv_at hl 1 rfl) ?_
              obtain ⟨ho_18, hw⟩ := hw
              obtain ⟨hz_19, hw⟩ := hw
              refine g_getR hC fkB_19 rfl hwo ho_18 hz_19 dB_readEntry_72 ?_
              refine lv_iload hx hb dB_readEntry_75 (lv_at hl 5 rfl) ?_
              obtain ⟨n_20, ha_21, hw⟩ := hw
              obtain ⟨hi_22, hw⟩ := hw
              refine g_iald hC hwo ha_21 hi_22 dB_readEntry_77 ?_
              refine lv_iload_n hx hb dB_readEntry_78 rfl (lv_at hl 3 rfl) ?_
              refine lv_icmp_ne (tgt := 85) hx hb dB_readEntry_79 (by decide) (fun hc_23 => ?_) (fun hc_23 => ?_)
              · replace hw := hw.1 hc_23
                obtain ⟨y_24, ey_24⟩ : ∃ z : Int32, z = x4_64 + (1 : Int32) := ⟨_, rfl⟩
                replace hw := hw y_24 ey_24
                refine lv_iinc (k := 5) (v := y_24) (lv' := [(4, .int y_24), (5, .int z0_64), (0, .ref a0_4), (1, .ref a1_4), (2, .int x2_32), (3, .int x3_32)]) hx hb dB_readEntry_85 hl rfl (by rw [ey_24]; rfl) (by decide) rfl (fun ls hl => ?_)
                refine lv_goto (tgt := 32) hx hb dB_readEntry_88 (by decide) ?_
                exact ih32 _ _ _ _ _ _ hw hwo hS (lv_sub hl [2, 3, 4, 5, 0] rfl)
              · replace hw := hw.2 hc_23
                refine lv_iload hx hb dB_readEntry_82 (lv_at hl 5 rfl) ?_
                exact g_iret hC hr hlk hw hwo hS dB_readEntry_84
          have J63 : ∀ (x4_63 : Int32) (V : VT) (U : UT) (H : Heap) (locs : List Loc) (ls : Array Slot), wb_B_readEntry_63 θ a0_4 a1_4 x2_32 x3_32 x4_63 (wl_B_readEntry_4 θ a0_4 a1_4 K n4) (wl_B_readEntry_32 θ a0_4 a1_4 x2_32 x3_32 (wl_B_readEntry_4 θ a0_4 a1_4 K n4) K n32) K V U → wo θ V U H → Sx θ s H locs → lv_has ls 6 [(0, .ref a0_4), (1, .ref a1_4), (2, .int x2_32), (3, .int x3_32), (4, .int x4_63)] → W p l e rmB_readEntry s m args below meth c H locs 0 0 (MQ below (QI θ K) args s 0 0 (aT θ)) (F0 m 63 ls []) := by
            intro x4_63 V U H locs ls hw hwo hS hl
            unfold wb_B_readEntry_63 at hw
            refine lv_iconst (v := 0) hx hb dB_readEntry_63 (by decide) ?_
            exact J64 _ _ _ _ _ _ _ hw hwo hS (lv_sub hl [0, 1, 2, 3, 4] rfl)
          intro x4_32 V U H locs ls hw hwo hS hl
          replace hw : bl_B_readEntry_32 θ a0_4 a1_4 x2_32 x3_32 (wl_B_readEntry_4 θ a0_4 a1_4 K n4) K (wl_B_readEntry_32 θ a0_4 a1_4 x2_32 x3_32 (wl_B_readEntry_4 θ a0_4 a1_4 K n4) K n32) x4_32 V U := hw
          unfold bl_B_readEntry_32 at hw
          refine lv_iload hx hb dB_readEntry_32 (lv_at hl 4 rfl) ?_
          refine lv_aload_n hx hb dB_readEntry_34 rfl (lv_at hl 0 rfl) ?_
          obtain ⟨ho_8, hw⟩ := hw
          refine g_getI hC fkB_34 rfl hwo ho_8 dB_readEntry_35 ?_
          refine lv_icmp_ge (tgt := 91) hx hb dB_readEntry_38 (by decide) (fun hc_9 => ?_) (fun hc_9 => ?_)
          · replace hw := hw.1 hc_9
            obtain ⟨y_10, ey_10⟩ : ∃ z : Int32, z = x3_32 + (1 : Int32) := ⟨_, rfl⟩
            replace hw := hw y_10 ey_10
            refine lv_iinc (k := 3) (v := y_10) (lv' := [(3, .int y_10), (0, .ref a0_4), (1, .ref a1_4), (2, .int x2_32), (4, .int x4_32)]) hx hb dB_readEntry_91 hl rfl (by rw [ey_10]; rfl) (by decide) rfl (fun ls hl => ?_)
            refine lv_goto (tgt := 4) hx hb dB_readEntry_94 (by decide) ?_
            exact ih4 _ _ _ _ _ _ _ hw hwo hS (lv_sub hl [1, 2, 3, 0] rfl)
          · replace hw := hw.2 hc_9
            refine lv_aload_n hx hb dB_readEntry_41 rfl (lv_at hl 0 rfl) ?_
            refine g_getI hC fkB_69 rfl hwo ho_8 dB_readEntry_42 ?_
            refine lv_iconst (v := 1) hx hb dB_readEntry_45 (by decide) ?_
            refine lv_icmp_ne (tgt := 63) hx hb dB_readEntry_46 (by decide) (fun hc_11 => ?_) (fun hc_11 => ?_)
            · replace hw := hw.1 hc_11
              exact J63 _ _ _ _ _ _ hw hwo hS (lv_sub hl [0, 1, 2, 3, 4] rfl)
            · replace hw := hw.2 hc_11
              refine lv_aload_n hx hb dB_readEntry_49 rfl (lv_at hl 0 rfl) ?_
              obtain ⟨hz_12, hw⟩ := hw
              refine g_getR hC fkB_19 rfl hwo ho_8 hz_12 dB_readEntry_50 ?_
              refine lv_iload hx hb dB_readEntry_53 (lv_at hl 4 rfl) ?_
              obtain ⟨n_13, ha_14, hw⟩ := hw
              obtain ⟨hi_15, hw⟩ := hw
              refine g_iald hC hwo ha_14 hi_15 dB_readEntry_55 ?_
              refine lv_if_eq (tgt := 63) hx hb dB_readEntry_56 (by decide) (fun hc_16 => ?_) (fun hc_16 => ?_)
              · replace hw := hw.1 hc_16
                exact J63 _ _ _ _ _ _ hw hwo hS (lv_sub hl [0, 1, 2, 3, 4] rfl)
              · replace hw := hw.2 hc_16
                refine lv_iconst (v := 1) hx hb dB_readEntry_59 (by decide) ?_
                refine lv_goto (tgt := 64) hx hb dB_readEntry_60 (by decide) ?_
                exact J64 _ _ _ _ _ _ _ hw hwo hS (lv_sub hl [0, 1, 2, 3, 4] rfl)
      intro x2_4 x3_4 V U H locs ls hw hwo hS hl
      replace hw : bl_B_readEntry_4 θ a0_4 a1_4 K (wl_B_readEntry_4 θ a0_4 a1_4 K n4) x2_4 x3_4 V U := hw
      unfold bl_B_readEntry_4 at hw
      refine lv_iload_n hx hb dB_readEntry_4 rfl (lv_at hl 3 rfl) ?_
      refine lv_bipush (v := 8) hx hb dB_readEntry_5 (by decide) ?_
      refine lv_icmp_ge (tgt := 97) hx hb dB_readEntry_7 (by decide) (fun hc_1 => ?_) (fun hc_1 => ?_)
      · replace hw := hw.1 hc_1
        refine lv_iconst (v := -1) hx hb dB_readEntry_97 (by decide) ?_
        exact g_iret hC hr hlk hw hwo hS dB_readEntry_98
      · replace hw := hw.2 hc_1
        refine lv_iload_n hx hb dB_readEntry_10 rfl (lv_at hl 2 rfl) ?_
        refine lv_iconst (v := 1) hx hb dB_readEntry_11 (by decide) ?_
        refine lv_ishl hx hb dB_readEntry_12 ?_
        refine lv_aload_n hx hb dB_readEntry_13 rfl (lv_at hl 1 rfl) ?_
        refine lv_iconst (v := 1) hx hb dB_readEntry_14 (by decide) ?_
        obtain ⟨ho_4, hw⟩ := hw
        refine g_Vi (rest := [.int (x2_4 <<< ((1 : Int32) &&& 31))]) hC (c_H_read l θ _ _ _ _ _ hw) mi_H_read mlB_28 mv_H_read ci_7 ho_4 hwo hS ⟨rfl, rfl⟩ ⟨by decide, by decide⟩ rfl hl.1 rfl (Nat.le_of_ble_eq_true rfl) dB_readEntry_15 (fun r_5 V_2 U_3 hw H locs hwo hS => ?_)
        refine lv_ior hx hb dB_readEntry_18 ?_
        refine lv_topi (fun y_6 ey_6 => ?_)
        replace hw := hw y_6 ey_6
        refine lv_istore_n (i := 2) (lv' := [(2, .int y_6), (0, .ref a0_4), (1, .ref a1_4), (3, .int x3_4)]) hx hb dB_readEntry_19 rfl hl (by decide) rfl (fun ls hl => ?_)
        refine lv_aload_n hx hb dB_readEntry_20 rfl (lv_at hl 2 rfl) ?_
        refine g_getI hC fkB_52 rfl hwo ho_4 dB_readEntry_21 ?_
        refine lv_if_eq (tgt := 29) hx hb dB_readEntry_24 (by decide) (fun hc_7 => ?_) (fun hc_7 => ?_)
        · replace hw := hw.1 hc_7
          refine lv_iconst (v := 0) hx hb dB_readEntry_29 (by decide) ?_
          refine lv_istore (i := 4) (lv' := [(4, .int (0 : Int32)), (2, .int y_6), (0, .ref a0_4), (1, .ref a1_4), (3, .int x3_4)]) hx hb dB_readEntry_30 hl (by decide) rfl (fun ls hl => ?_)
          obtain ⟨n, hw⟩ := hw
          exact L32 _ _ n _ _ _ _ _ _ hw hwo hS (lv_sub hl [2, 3, 1, 4, 0] rfl)
        · replace hw := hw.2 hc_7
          refine lv_iconst (v := -1) hx hb dB_readEntry_27 (by decide) ?_
          exact g_iret hC hr hlk hw hwo hS dB_readEntry_28
  unfold wp_B_readEntry at hw
  refine lv_iconst (v := 1) hx hb dB_readEntry_0 (by decide) ?_
  refine lv_istore_n (i := 2) (lv' := [(2, .int (1 : Int32)), (0, .ref a0), (1, .ref a1)]) hx hb dB_readEntry_1 rfl hl (by decide) rfl (fun ls hl => ?_)
  refine lv_iconst (v := 0) hx hb dB_readEntry_2 (by decide) ?_
  refine lv_istore_n (i := 3) (lv' := [(3, .int (0 : Int32)), (2, .int (1 : Int32)), (0, .ref a0), (1, .ref a1)]) hx hb dB_readEntry_3 rfl hl (by decide) rfl (fun ls hl => ?_)
  obtain ⟨n, hw⟩ := hw
  exact L4 _ _ n _ _ _ _ _ _ _ hw hwo hS (lv_sub hl [2, 3, 1, 0] rfl)
