theorem dM_raw_0 : decode kM_raw 0 = .ok (.iload_n 3, 1) := by decide +kernel
theorem dM_raw_1 : decode kM_raw 1 = .ok (.iconst 1, 1) := by decide +kernel
theorem dM_raw_2 : decode kM_raw 2 = .ok (.if_icmp .lt 21, 3) := by decide +kernel
theorem dM_raw_5 : decode kM_raw 5 = .ok (.iload_n 3, 1) := by decide +kernel
theorem dM_raw_6 : decode kM_raw 6 = .ok (.bipush 8, 2) := by decide +kernel
theorem dM_raw_8 : decode kM_raw 8 = .ok (.if_icmp .gt 15, 3) := by decide +kernel
theorem dM_raw_11 : decode kM_raw 11 = .ok (.aload_n 0, 1) := by decide +kernel
theorem dM_raw_12 : decode kM_raw 12 = .ok (.getfield 132, 3) := by decide +kernel
theorem dM_raw_15 : decode kM_raw 15 = .ok (.iload_n 3, 1) := by decide +kernel
theorem dM_raw_16 : decode kM_raw 16 = .ok (.iadd, 1) := by decide +kernel
theorem dM_raw_17 : decode kM_raw 17 = .ok (.sipush 1000, 3) := by decide +kernel
theorem dM_raw_20 : decode kM_raw 20 = .ok (.if_icmp .le 5, 3) := by decide +kernel
theorem dM_raw_23 : decode kM_raw 23 = .ok (.iconst (-1), 1) := by decide +kernel
theorem dM_raw_24 : decode kM_raw 24 = .ok (.ireturn, 1) := by decide +kernel
theorem dM_raw_25 : decode kM_raw 25 = .ok (.iconst 0, 1) := by decide +kernel
theorem dM_raw_26 : decode kM_raw 26 = .ok (.istore 4, 2) := by decide +kernel
theorem dM_raw_28 : decode kM_raw 28 = .ok (.iload 4, 2) := by decide +kernel
theorem dM_raw_30 : decode kM_raw 30 = .ok (.iload_n 3, 1) := by decide +kernel
theorem dM_raw_31 : decode kM_raw 31 = .ok (.if_icmp .ge 40, 3) := by decide +kernel
theorem dM_raw_34 : decode kM_raw 34 = .ok (.aload_n 0, 1) := by decide +kernel
theorem dM_raw_35 : decode kM_raw 35 = .ok (.getfield 7, 3) := by decide +kernel
theorem dM_raw_38 : decode kM_raw 38 = .ok (.aload_n 0, 1) := by decide +kernel
theorem dM_raw_39 : decode kM_raw 39 = .ok (.getfield 132, 3) := by decide +kernel
theorem dM_raw_42 : decode kM_raw 42 = .ok (.lload_n 1, 1) := by decide +kernel
theorem dM_raw_43 : decode kM_raw 43 = .ok (.bipush 8, 2) := by decide +kernel
theorem dM_raw_45 : decode kM_raw 45 = .ok (.iload 4, 2) := by decide +kernel
theorem dM_raw_47 : decode kM_raw 47 = .ok (.imul, 1) := by decide +kernel
theorem dM_raw_48 : decode kM_raw 48 = .ok (.lshr, 1) := by decide +kernel
theorem dM_raw_49 : decode kM_raw 49 = .ok (.ldc2_w 135, 3) := by decide +kernel
theorem dM_raw_52 : decode kM_raw 52 = .ok (.land, 1) := by decide +kernel
theorem dM_raw_53 : decode kM_raw 53 = .ok (.l2i, 1) := by decide +kernel
theorem dM_raw_54 : decode kM_raw 54 = .ok (.iastore, 1) := by decide +kernel
theorem dM_raw_55 : decode kM_raw 55 = .ok (.aload_n 0, 1) := by decide +kernel
theorem dM_raw_56 : decode kM_raw 56 = .ok (.dup, 1) := by decide +kernel
theorem dM_raw_57 : decode kM_raw 57 = .ok (.getfield 132, 3) := by decide +kernel
theorem dM_raw_60 : decode kM_raw 60 = .ok (.iconst 1, 1) := by decide +kernel
theorem dM_raw_61 : decode kM_raw 61 = .ok (.iadd, 1) := by decide +kernel
theorem dM_raw_62 : decode kM_raw 62 = .ok (.putfield 132, 3) := by decide +kernel
theorem dM_raw_65 : decode kM_raw 65 = .ok (.iinc 4 1, 3) := by decide +kernel
theorem dM_raw_68 : decode kM_raw 68 = .ok (.goto (-40), 3) := by decide +kernel
theorem dM_raw_71 : decode kM_raw 71 = .ok (.aload_n 0, 1) := by decide +kernel
theorem dM_raw_72 : decode kM_raw 72 = .ok (.getfield 132, 3) := by decide +kernel
theorem dM_raw_75 : decode kM_raw 75 = .ok (.ireturn, 1) := by decide +kernel
def bl_M_raw_28 (θ : TH) (a0_28 : Nat) (w1_28 : Int64) (x3_28 : Int32) (K : Int32 → VT → UT → Prop) (kb28 : Int32 → VT → UT → Prop) (x4_28 : Int32) (V : VT) (U : UT) : Prop := ((x3_28 ≤ x4_28 → isO θ a0_28 12 ∧ K (V a0_28 1) V U) ∧ (¬ x3_28 ≤ x4_28 → isO θ a0_28 12 ∧ (U a0_28 0) ≠ 0 ∧ ∃ n_9, isA θ (U a0_28 0) 0 n_9 ∧ vp_in (V a0_28 1) n_9 ∧ ∀ V_12 : VT, V_12 = up2 V (U a0_28 0) (V a0_28 1).toNatClampNeg ((w1_28 >>> (((8 : Int32) * x4_28).toInt64 &&& 63)) &&& (255 : Int64)).toInt32 → ∀ V_13 : VT, V_13 = up2 V_12 a0_28 1 ((V_12 a0_28 1) + (1 : Int32)) → ∀ y_14 : Int32, y_14 = x4_28 + (1 : Int32) → kb28 y_14 V_13 U))
def wl_M_raw_28 (θ : TH) (a0_28 : Nat) (w1_28 : Int64) (x3_28 : Int32) (K : Int32 → VT → UT → Prop) : Nat → Int32 → VT → UT → Prop
  | 0, _, _, _ => False
  | n + 1, x4_28, V, U => bl_M_raw_28 θ a0_28 w1_28 x3_28 K (wl_M_raw_28 θ a0_28 w1_28 x3_28 K n) x4_28 V U
def wp_M_raw (θ : TH) (a0 : Nat) (w1 : Int64) (x3 : Int32) (V : VT) (U : UT) (K : Int32 → VT → UT → Prop) : Prop := ((x3 < (1 : Int32) → K (-1 : Int32) V U) ∧ (¬ x3 < (1 : Int32) → (((8 : Int32) < x3 → K (-1 : Int32) V U) ∧ (¬ (8 : Int32) < x3 → isO θ a0 12 ∧ ((((V a0 1) + x3) ≤ (1000 : Int32) → ∃ n, wl_M_raw_28 θ a0 w1 x3 K n (0 : Int32) V U) ∧ (¬ ((V a0 1) + x3) ≤ (1000 : Int32) → K (-1 : Int32) V U))))))
set_option maxRecDepth 100000 in
set_option maxHeartbeats 4000000 in
theorem c_M_raw (l : Launch) (θ : TH) (a0 : Nat) (w1 : Int64) (x3 : Int32) (V : VT) (U : UT) (K : Int32 → VT → UT → Prop) (hw : wp_M_raw θ a0 w1 x3 V U K) : CMi l yM_raw kM_raw 5 (some .int) rmM_raw θ [.ref a0, .long w1, .int x3] V U K := by
  refine g_met nRM (by decide +kernel) rfl (Nat.le_of_ble_eq_true rfl) (fun p e s m args below meth c ls hC hr hlk hwo hl => ?_)
  have hx := hC.1
  have hb := hC.2.1
  have hS : Sx θ s s.heap [] := va_S.rf
  have hl : lv_has ls 5 [(0, .ref a0), (1, .long w1), (3, .int x3)] := hl
  have L28 : ∀ (a0_28 : Nat) (w1_28 : Int64) (x3_28 : Int32) (n28 : Nat) (x4_28 : Int32) (V : VT) (U : UT) (H : Heap) (locs : List Loc) (ls : Array Slot), wl_M_raw_28 θ a0_28 w1_28 x3_28 K n28 x4_28 V U → wo θ V U H → Sx θ s H locs → lv_has ls 5 [(0, .ref a0_28), (1, .long w1_28), (3, .int x3_28), (4, .int x4_28)] → W p l e rmM_raw s m args below meth c H locs 0 0 (MQ below (QI θ K) args s 0 0 (aT θ)) (F0 m 28 ls []) := by
    intro a0_28 w1_28 x3_28 n28
    induction n28 with
    | zero => intro x4_28 V U H locs ls hw hwo hS hl; exact (show False from hw).elim
    | succ n28 ih28 =>
      intro x4_28 V U H locs ls hw hwo hS hl
      replace hw : bl_M_raw_28 θ a0_28 w1_28 x3_28 K (wl_M_raw_28 θ a0_28 w1_28 x3_28 K n28) x4_28 V U := hw
      unfold bl_M_raw_28 at hw
      refine lv_iload hx hb dM_raw_28 (lv_at hl 3 rfl) ?_
      refine lv_iload_n hx hb dM_raw_30 rfl (lv_at hl 2 rfl) ?_
      refine lv_icmp_ge (tgt := 71) hx hb dM_raw_31 (by decide) (fun hc_5 => ?_) (fun hc_5 => ?_)
      · replace hw := hw.1 hc_5
        refine lv_aload_n hx hb dM_raw_71 rfl (lv_at hl 0 rfl) ?_
        obtain ⟨ho_6, hw⟩ := hw
        refine g_getI hC fkM_132 rfl hwo ho_6 dM_raw_72 ?_
        exact g_iret hC hr hlk hw hwo hS dM_raw_75
      · replace hw := hw.2 hc_5
        refine lv_aload_n hx hb dM_raw_34 rfl (lv_at hl 0 rfl) ?_
        obtain ⟨ho_7, hw⟩ := hw
        obtain ⟨hz_8, hw⟩ := hw
        refine g_getR hC fkM_7 rfl hwo ho_7 hz_8 dM_raw_35 ?_
        refine lv_aload_n hx hb dM_raw_38 rfl (lv_at hl 0 rfl) ?_
        refine g_getI hC fkM_132 rfl hwo ho_7 dM_raw_39 ?_
        refine lv_lload_n hx hb dM_raw_42 rfl (lv_at hl 1 rfl) ?_
        refine lv_bipush (v := 8) hx hb dM_raw_43 (by decide) ?_
        refine lv_iload hx hb dM_raw_45 (lv_at hl 3 rfl) ?_
        refine lv_imul hx hb dM_raw_47 ?_
        refine lv_lshr hx hb dM_raw_48 rfl ?_
        refine lv_ldc2 hx hb hC.2.2.2.1 (hC.2.2.2.2.1 _ kcM_135) dM_raw_49 ?_
        refine lv_land hx hb dM_raw_52 ?_
        refine lv_l2i hx hb dM_raw_53 rfl ?_
        obtain ⟨n_9, ha_10, hw⟩ := hw
        obtain ⟨hi_11, hw⟩ := hw
        refine g_iast hC hwo hS ha_10 hi_11 dM_raw_54 (fun V_12 eV_12 H locs hwo hS => ?_)
        replace hw := hw V_12 eV_12
        refine lv_aload_n hx hb dM_raw_55 rfl (lv_at hl 0 rfl) ?_
        refine lv_dup hx hb dM_raw_56 rfl ?_
        refine g_getI hC fkM_132 rfl hwo ho_7 dM_raw_57 ?_
        refine lv_iconst (v := 1) hx hb dM_raw_60 (by decide) ?_
        refine lv_iadd hx hb dM_raw_61 ?_
        refine g_putI hC fkM_132 rfl hwo hS ho_7 dM_raw_62 (fun V_13 eV_13 H locs hwo hS => ?_)
        replace hw := hw V_13 eV_13
        obtain ⟨y_14, ey_14⟩ : ∃ z : Int32, z = x4_28 + (1 : Int32) := ⟨_, rfl⟩
        replace hw := hw y_14 ey_14
        refine lv_iinc (k := 3) (v := y_14) (lv' := [(4, .int y_14), (0, .ref a0_28), (1, .long w1_28), (3, .int x3_28)]) hx hb dM_raw_65 hl rfl (by rw [ey_14]; rfl) (by decide) rfl (fun ls hl => ?_)
        refine lv_goto (tgt := 28) hx hb dM_raw_68 (by decide) ?_
        exact ih28 _ _ _ _ _ _ hw hwo hS (lv_sub hl [1, 2, 3, 0] rfl)
  unfold wp_M_raw at hw
  refine lv_iload_n hx hb dM_raw_0 rfl (lv_at hl 2 rfl) ?_
  refine lv_iconst (v := 1) hx hb dM_raw_1 (by decide) ?_
  refine lv_icmp_lt (tgt := 23) hx hb dM_raw_2 (by decide) (fun hc_1 => ?_) (fun hc_1 => ?_)
  · replace hw := hw.1 hc_1
    refine lv_iconst (v := -1) hx hb dM_raw_23 (by decide) ?_
    exact g_iret hC hr hlk hw hwo hS dM_raw_24
  · replace hw := hw.2 hc_1
    refine lv_iload_n hx hb dM_raw_5 rfl (lv_at hl 2 rfl) ?_
    refine lv_bipush (v := 8) hx hb dM_raw_6 (by decide) ?_
    refine lv_icmp_gt (tgt := 23) hx hb dM_raw_8 (by decide) (fun hc_2 => ?_) (fun hc_2 => ?_)
    · replace hw := hw.1 hc_2
      refine lv_iconst (v := -1) hx hb dM_raw_23 (by decide) ?_
      exact g_iret hC hr hlk hw hwo hS dM_raw_24
    · replace hw := hw.2 hc_2
      refine lv_aload_n hx hb dM_raw_11 rfl (lv_at hl 0 rfl) ?_
      obtain ⟨ho_3, hw⟩ := hw
      refine g_getI hC fkM_132 rfl hwo ho_3 dM_raw_12 ?_
      refine lv_iload_n hx hb dM_raw_15 rfl (lv_at hl 2 rfl) ?_
      refine lv_iadd hx hb dM_raw_16 ?_
      refine lv_sipush (v := 1000) hx hb dM_raw_17 (by decide) ?_
      refine lv_icmp_le (tgt := 25) hx hb dM_raw_20 (by decide) (fun hc_4 => ?_) (fun hc_4 => ?_)
      · replace hw := hw.1 hc_4
        refine lv_iconst (v := 0) hx hb dM_raw_25 (by decide) ?_
        refine lv_istore (i := 4) (lv' := [(4, .int (0 : Int32)), (0, .ref a0), (1, .long w1), (3, .int x3)]) hx hb dM_raw_26 hl (by decide) rfl (fun ls hl => ?_)
        obtain ⟨n, hw⟩ := hw
        exact L28 _ _ _ n _ _ _ _ _ _ hw hwo hS (lv_sub hl [1, 2, 3, 0] rfl)
      · replace hw := hw.2 hc_4
        refine lv_iconst (v := -1) hx hb dM_raw_23 (by decide) ?_
        exact g_iret hC hr hlk hw hwo hS dM_raw_24
theorem dM_alter_0 : decode kM_alter 0 = .ok (.iload_n 1, 1) := by decide +kernel
theorem dM_alter_1 : decode kM_alter 1 = .ok (.aload_n 0, 1) := by decide +kernel
theorem dM_alter_2 : decode kM_alter 2 = .ok (.getfield 137, 3) := by decide +kernel
theorem dM_alter_5 : decode kM_alter 5 = .ok (.if_icmp .lt 23, 3) := by decide +kernel
theorem dM_alter_8 : decode kM_alter 8 = .ok (.iload_n 1, 1) := by decide +kernel
theorem dM_alter_9 : decode kM_alter 9 = .ok (.aload_n 0, 1) := by decide +kernel
theorem dM_alter_10 : decode kM_alter 10 = .ok (.getfield 132, 3) := by decide +kernel
theorem dM_alter_13 : decode kM_alter 13 = .ok (.if_icmp .ge 15, 3) := by decide +kernel
theorem dM_alter_16 : decode kM_alter 16 = .ok (.iload_n 2, 1) := by decide +kernel
theorem dM_alter_17 : decode kM_alter 17 = .ok (.iconst 1, 1) := by decide +kernel
theorem dM_alter_18 : decode kM_alter 18 = .ok (.if_icmp .lt 10, 3) := by decide +kernel
theorem dM_alter_21 : decode kM_alter 21 = .ok (.iload_n 2, 1) := by decide +kernel
theorem dM_alter_22 : decode kM_alter 22 = .ok (.sipush 255, 3) := by decide +kernel
theorem dM_alter_25 : decode kM_alter 25 = .ok (.if_icmp .le 5, 3) := by decide +kernel
theorem dM_alter_28 : decode kM_alter 28 = .ok (.iconst 0, 1) := by decide +kernel
theorem dM_alter_29 : decode kM_alter 29 = .ok (.ireturn, 1) := by decide +kernel
theorem dM_alter_30 : decode kM_alter 30 = .ok (.aload_n 0, 1) := by decide +kernel
theorem dM_alter_31 : decode kM_alter 31 = .ok (.getfield 7, 3) := by decide +kernel
theorem dM_alter_34 : decode kM_alter 34 = .ok (.iload_n 1, 1) := by decide +kernel
theorem dM_alter_35 : decode kM_alter 35 = .ok (.aload_n 0, 1) := by decide +kernel
theorem dM_alter_36 : decode kM_alter 36 = .ok (.getfield 7, 3) := by decide +kernel
theorem dM_alter_39 : decode kM_alter 39 = .ok (.iload_n 1, 1) := by decide +kernel
theorem dM_alter_40 : decode kM_alter 40 = .ok (.iaload, 1) := by decide +kernel
theorem dM_alter_41 : decode kM_alter 41 = .ok (.iload_n 2, 1) := by decide +kernel
theorem dM_alter_42 : decode kM_alter 42 = .ok (.ixor, 1) := by decide +kernel
theorem dM_alter_43 : decode kM_alter 43 = .ok (.iastore, 1) := by decide +kernel
theorem dM_alter_44 : decode kM_alter 44 = .ok (.iconst 1, 1) := by decide +kernel
theorem dM_alter_45 : decode kM_alter 45 = .ok (.ireturn, 1) := by decide +kernel
def wp_M_alter (θ : TH) (a0 : Nat) (x1 : Int32) (x2 : Int32) (V : VT) (U : UT) (K : Int32 → VT → UT → Prop) : Prop := isO θ a0 12 ∧ ((x1 < (V a0 2) → K (0 : Int32) V U) ∧ (¬ x1 < (V a0 2) → (((V a0 1) ≤ x1 → K (0 : Int32) V U) ∧ (¬ (V a0 1) ≤ x1 → ((x2 < (1 : Int32) → K (0 : Int32) V U) ∧ (¬ x2 < (1 : Int32) → ((x2 ≤ (255 : Int32) → (U a0 0) ≠ 0 ∧ ∃ n_7, isA θ (U a0 0) 0 n_7 ∧ vp_in x1 n_7 ∧ ∀ V_10 : VT, V_10 = up2 V (U a0 0) x1.toNatClampNeg ((V (U a0 0) x1.toNatClampNeg) ^^^ x2) → K (1 : Int32) V_10 U) ∧ (¬ x2 ≤ (255 : Int32) → K (0 : Int32) V U))))))))
set_option maxRecDepth 100000 in
set_option maxHeartbeats 4000000 in
theorem c_M_alter (l : Launch) (θ : TH) (a0 : Nat) (x1 : Int32) (x2 : Int32) (V : VT) (U : UT) (K : Int32 → VT → UT → Prop) (hw : wp_M_alter θ a0 x1 x2 V U K) : CMi l yM_alter kM_alter 3 (some .boolean) rmM_alter θ [.ref a0, .int x1, .int x2] V U K := by
  refine g_met nRM (by decide +kernel) rfl (Nat.le_of_ble_eq_true rfl) (fun p e s m args below meth c ls hC hr hlk hwo hl => ?_)
  have hx := hC.1
  have hb := hC.2.1
  have hS : Sx θ s s.heap [] := va_S.rf
  have hl : lv_has ls 3 [(0, .ref a0), (1, .int x1), (2, .int x2)] := hl
  unfold wp_M_alter at hw
  refine lv_iload_n hx hb dM_alter_0 rfl (lv_at hl 1 rfl) ?_
  refine lv_aload_n hx hb dM_alter_1 rfl (lv_at hl 0 rfl) ?_
  obtain ⟨ho_1, hw⟩ := hw
  refine g_getI hC fkM_137 rfl hwo ho_1 dM_alter_2 ?_
  refine lv_icmp_lt (tgt := 28) hx hb dM_alter_5 (by decide) (fun hc_2 => ?_) (fun hc_2 => ?_)
  · replace hw := hw.1 hc_2
    refine lv_iconst (v := 0) hx hb dM_alter_28 (by decide) ?_
    exact g_zret hC hr hlk (Or.inl rfl) hw hwo hS dM_alter_29
  · replace hw := hw.2 hc_2
    refine lv_iload_n hx hb dM_alter_8 rfl (lv_at hl 1 rfl) ?_
    refine lv_aload_n hx hb dM_alter_9 rfl (lv_at hl 0 rfl) ?_
    refine g_getI hC fkM_132 rfl hwo ho_1 dM_alter_10 ?_
    refine lv_icmp_ge (tgt := 28) hx hb dM_alter_13 (by decide) (fun hc_3 => ?_) (fun hc_3 => ?_)
    · replace hw := hw.1 hc_3
      refine lv_iconst (v := 0) hx hb dM_alter_28 (by decide) ?_
      exact g_zret hC hr hlk (Or.inl rfl) hw hwo hS dM_alter_29
    · replace hw := hw.2 hc_3
      refine lv_iload_n hx hb dM_alter_16 rfl (lv_at hl 2 rfl) ?_
      refine lv_iconst (v := 1) hx hb dM_alter_17 (by decide) ?_
      refine lv_icmp_lt (tgt := 28) hx hb dM_alter_18 (by decide) (fun hc_4 => ?_) (fun hc_4 => ?_)
      · replace hw := hw.1 hc_4
        refine lv_iconst (v := 0) hx hb dM_alter_28 (by decide) ?_
        exact g_zret hC hr hlk (Or.inl rfl) hw hwo hS dM_alter_29
      · replace hw := hw.2 hc_4
        refine lv_iload_n hx hb dM_alter_21 rfl (lv_at hl 2 rfl) ?_
        refine lv_sipush (v := 255) hx hb dM_alter_22 (by decide) ?_
        refine lv_icmp_le (tgt := 30) hx hb dM_alter_25 (by decide) (fun hc_5 => ?_) (fun hc_5 => ?_)
        · replace hw := hw.1 hc_5
          refine lv_aload_n hx hb dM_alter_30 rfl (lv_at hl 0 rfl) ?_
          obtain ⟨hz_6, hw⟩ := hw
          refine g_getR hC fkM_7 rfl hwo ho_1 hz_6 dM_alter_31 ?_
          refine lv_iload_n hx hb dM_alter_34 rfl (lv_at hl 1 rfl) ?_
          refine lv_aload_n hx hb dM_alter_35 rfl (lv_at hl 0 rfl) ?_
          refine g_getR hC fkM_7 rfl hwo ho_1 hz_6 dM_alter_36 ?_
          refine lv_iload_n hx hb dM_alter_39 rfl (lv_at hl 1 rfl) ?_
          obtain ⟨n_7, ha_8, hw⟩ := hw
          obtain ⟨hi_9, hw⟩ := hw
          refine g_iald hC hwo ha_8 hi_9 dM_alter_40 ?_
          refine lv_iload_n hx hb dM_alter_41 rfl (lv_at hl 2 rfl) ?_
          refine lv_ixor hx hb dM_alter_42 ?_
          refine g_iast hC hwo hS ha_8 hi_9 dM_alter_43 (fun V_10 eV_10 H locs hwo hS => ?_)
          replace hw := hw V_10 eV_10
          refine lv_iconst (v := 1) hx hb dM_alter_44 (by decide) ?_
          exact g_zret hC hr hlk (Or.inr rfl) hw hwo hS dM_alter_45
        · replace hw := hw.2 hc_5
          refine lv_iconst (v := 0) hx hb dM_alter_28 (by decide) ?_
          exact g_zret hC hr hlk (Or.inl rfl) hw hwo hS dM_alter_29
theorem dM_cut_0 : decode kM_cut 0 = .ok (.iload_n 1, 1) := by decide +kernel
theorem dM_cut_1 : decode kM_cut 1 = .ok (.aload_n 0, 1) := by decide +kernel
theorem dM_cut_2 : decode kM_cut 2 = .ok (.getfield 137, 3) := by decide +kernel
theorem dM_cut_5 : decode kM_cut 5 = .ok (.if_icmp .lt 18, 3) := by decide +kernel
theorem dM_cut_8 : decode kM_cut 8 = .ok (.iload_n 2, 1) := by decide +kernel
theorem dM_cut_9 : decode kM_cut 9 = .ok (.iconst 1, 1) := by decide +kernel
theorem dM_cut_10 : decode kM_cut 10 = .ok (.if_icmp .lt 13, 3) := by decide +kernel
theorem dM_cut_13 : decode kM_cut 13 = .ok (.iload_n 2, 1) := by decide +kernel
theorem dM_cut_14 : decode kM_cut 14 = .ok (.aload_n 0, 1) := by decide +kernel
theorem dM_cut_15 : decode kM_cut 15 = .ok (.getfield 132, 3) := by decide +kernel
theorem dM_cut_18 : decode kM_cut 18 = .ok (.iload_n 1, 1) := by decide +kernel
theorem dM_cut_19 : decode kM_cut 19 = .ok (.isub, 1) := by decide +kernel
theorem dM_cut_20 : decode kM_cut 20 = .ok (.if_icmp .le 5, 3) := by decide +kernel
theorem dM_cut_23 : decode kM_cut 23 = .ok (.iconst 0, 1) := by decide +kernel
theorem dM_cut_24 : decode kM_cut 24 = .ok (.ireturn, 1) := by decide +kernel
theorem dM_cut_25 : decode kM_cut 25 = .ok (.iload_n 1, 1) := by decide +kernel
theorem dM_cut_26 : decode kM_cut 26 = .ok (.istore_n 3, 1) := by decide +kernel
theorem dM_cut_27 : decode kM_cut 27 = .ok (.iload_n 3, 1) := by decide +kernel
theorem dM_cut_28 : decode kM_cut 28 = .ok (.iload_n 2, 1) := by decide +kernel
theorem dM_cut_29 : decode kM_cut 29 = .ok (.iadd, 1) := by decide +kernel
theorem dM_cut_30 : decode kM_cut 30 = .ok (.aload_n 0, 1) := by decide +kernel
theorem dM_cut_31 : decode kM_cut 31 = .ok (.getfield 132, 3) := by decide +kernel
theorem dM_cut_34 : decode kM_cut 34 = .ok (.if_icmp .ge 23, 3) := by decide +kernel
theorem dM_cut_37 : decode kM_cut 37 = .ok (.aload_n 0, 1) := by decide +kernel
theorem dM_cut_38 : decode kM_cut 38 = .ok (.getfield 7, 3) := by decide +kernel
theorem dM_cut_41 : decode kM_cut 41 = .ok (.iload_n 3, 1) := by decide +kernel
theorem dM_cut_42 : decode kM_cut 42 = .ok (.aload_n 0, 1) := by decide +kernel
theorem dM_cut_43 : decode kM_cut 43 = .ok (.getfield 7, 3) := by decide +kernel
theorem dM_cut_46 : decode kM_cut 46 = .ok (.iload_n 3, 1) := by decide +kernel
theorem dM_cut_47 : decode kM_cut 47 = .ok (.iload_n 2, 1) := by decide +kernel
theorem dM_cut_48 : decode kM_cut 48 = .ok (.iadd, 1) := by decide +kernel
theorem dM_cut_49 : decode kM_cut 49 = .ok (.iaload, 1) := by decide +kernel
theorem dM_cut_50 : decode kM_cut 50 = .ok (.iastore, 1) := by decide +kernel
theorem dM_cut_51 : decode kM_cut 51 = .ok (.iinc 3 1, 3) := by decide +kernel
theorem dM_cut_54 : decode kM_cut 54 = .ok (.goto (-27), 3) := by decide +kernel
theorem dM_cut_57 : decode kM_cut 57 = .ok (.aload_n 0, 1) := by decide +kernel
theorem dM_cut_58 : decode kM_cut 58 = .ok (.dup, 1) := by decide +kernel
theorem dM_cut_59 : decode kM_cut 59 = .ok (.getfield 132, 3) := by decide +kernel
theorem dM_cut_62 : decode kM_cut 62 = .ok (.iload_n 2, 1) := by decide +kernel
theorem dM_cut_63 : decode kM_cut 63 = .ok (.isub, 1) := by decide +kernel
theorem dM_cut_64 : decode kM_cut 64 = .ok (.putfield 132, 3) := by decide +kernel
theorem dM_cut_67 : decode kM_cut 67 = .ok (.iconst 1, 1) := by decide +kernel
theorem dM_cut_68 : decode kM_cut 68 = .ok (.ireturn, 1) := by decide +kernel
def bl_M_cut_27 (θ : TH) (a0_27 : Nat) (x2_27 : Int32) (K : Int32 → VT → UT → Prop) (kb27 : Int32 → VT → UT → Prop) (x3_27 : Int32) (V : VT) (U : UT) : Prop := isO θ a0_27 12 ∧ (((V a0_27 1) ≤ (x3_27 + x2_27) → ∀ V_7 : VT, V_7 = up2 V a0_27 1 ((V a0_27 1) - x2_27) → K (1 : Int32) V_7 U) ∧ (¬ (V a0_27 1) ≤ (x3_27 + x2_27) → (U a0_27 0) ≠ 0 ∧ ∃ n_9, isA θ (U a0_27 0) 0 n_9 ∧ vp_in (x3_27 + x2_27) n_9 ∧ vp_in x3_27 n_9 ∧ ∀ V_13 : VT, V_13 = up2 V (U a0_27 0) x3_27.toNatClampNeg (V (U a0_27 0) (x3_27 + x2_27).toNatClampNeg) → ∀ y_14 : Int32, y_14 = x3_27 + (1 : Int32) → kb27 y_14 V_13 U))
def wl_M_cut_27 (θ : TH) (a0_27 : Nat) (x2_27 : Int32) (K : Int32 → VT → UT → Prop) : Nat → Int32 → VT → UT → Prop
  | 0, _, _, _ => False
  | n + 1, x3_27, V, U => bl_M_cut_27 θ a0_27 x2_27 K (wl_M_cut_27 θ a0_27 x2_27 K n) x3_27 V U
def wp_M_cut (θ : TH) (a0 : Nat) (x1 : Int32) (x2 : Int32) (V : VT) (U : UT) (K : Int32 → VT → UT → Prop) : Prop := isO θ a0 12 ∧ ((x1 < (V a0 2) → K (0 : Int32) V U) ∧ (¬ x1 < (V a0 2) → ((x2 < (1 : Int32) → K (0 : Int32) V U) ∧ (¬ x2 < (1 : Int32) → ((x2 ≤ ((V a0 1) - x1) → ∃ n, wl_M_cut_27 θ a0 x2 K n x1 V U) ∧ (¬ x2 ≤ ((V a0 1) - x1) → K (0 : Int32) V U))))))
set_option maxRecDepth 100000 in
set_option maxHeartbeats 4000000 in
theorem c_M_cut (l : Launch) (θ : TH) (a0 : Nat) (x1 : Int32) (x2 : Int32) (V : VT) (U : UT) (K : Int32 → VT → UT → Prop) (hw : wp_M_cut θ a0 x1 x2 V U K) : CMi l yM_cut kM_cut 4 (some .boolean) rmM_cut θ [.ref a0, .int x1, .int x2] V U K := by
  refine g_met nRM (by decide +kernel) rfl (Nat.le_of_ble_eq_true rfl) (fun p e s m args below meth c ls hC hr hlk hwo hl => ?_)
  have hx := hC.1
  have hb := hC.2.1
  have hS : Sx θ s s.heap [] := va_S.rf
  have hl : lv_has ls 4 [(0, .ref a0), (1, .int x1), (2, .int x2)] := hl
  have L27 : ∀ (a0_27 : Nat) (x2_27 : Int32) (n27 : Nat) (x3_27 : Int32) (V : VT) (U : UT) (H : Heap) (locs : List Loc) (ls : Array Slot), wl_M_cut_27 θ a0_27 x2_27 K n27 x3_27 V U → wo θ V U H → Sx θ s H locs → lv_has ls 4 [(0, .ref a0_27), (2, .int x2_27), (3, .int x3_27)] → W p l e rmM_cut s m args below meth c H locs 0 0 (MQ below (QI θ K) args s 0 0 (aT θ)) (F0 m 27 ls []) := by
    intro a0_27 x2_27 n27
    induction n27 with
    | zero => intro x3_27 V U H locs ls hw hwo hS hl; exact (show False from hw).elim
    | succ n27 ih27 =>
      intro x3_27 V U H locs ls hw hwo hS hl
      replace hw : bl_M_cut_27 θ a0_27 x2_27 K (wl_M_cut_27 θ a0_27 x2_27 K n27) x3_27 V U := hw
      unfold bl_M_cut_27 at hw
      refine lv_iload_n hx hb dM_cut_27 rfl (lv_at hl 2 rfl) ?_
      refine lv_iload_n hx hb dM_cut_28 rfl (lv_at hl 1 rfl) ?_
      refine lv_iadd hx hb dM_cut_29 ?_
      refine lv_aload_n hx hb dM_cut_30 rfl (lv_at hl 0 rfl) ?_
      obtain ⟨ho_5, hw⟩ := hw
      refine g_getI hC fkM_132 rfl hwo ho_5 dM_cut_31 ?_
      refine lv_icmp_ge (tgt := 57) hx hb dM_cut_34 (by decide) (fun hc_6 => ?_) (fun hc_6 => ?_)
      · replace hw := hw.1 hc_6
        refine lv_aload_n hx hb dM_cut_57 rfl (lv_at hl 0 rfl) ?_
        refine lv_dup hx hb dM_cut_58 rfl ?_
        refine g_getI hC fkM_132 rfl hwo ho_5 dM_cut_59 ?_
        refine lv_iload_n hx hb dM_cut_62 rfl (lv_at hl 1 rfl) ?_
        refine lv_isub hx hb dM_cut_63 ?_
        refine g_putI hC fkM_132 rfl hwo hS ho_5 dM_cut_64 (fun V_7 eV_7 H locs hwo hS => ?_)
        replace hw := hw V_7 eV_7
        refine lv_iconst (v := 1) hx hb dM_cut_67 (by decide) ?_
        exact g_zret hC hr hlk (Or.inr rfl) hw hwo hS dM_cut_68
      · replace hw := hw.2 hc_6
        refine lv_aload_n hx hb dM_cut_37 rfl (lv_at hl 0 rfl) ?_
        obtain ⟨hz_8, hw⟩ := hw
        refine g_getR hC fkM_7 rfl hwo ho_5 hz_8 dM_cut_38 ?_
        refine lv_iload_n hx hb dM_cut_41 rfl (lv_at hl 2 rfl) ?_
        refine lv_aload_n hx hb dM_cut_42 rfl (lv_at hl 0 rfl) ?_
        refine g_getR hC fkM_7 rfl hwo ho_5 hz_8 dM_cut_43 ?_
        refine lv_iload_n hx hb dM_cut_46 rfl (lv_at hl 2 rfl) ?_
        refine lv_iload_n hx hb dM_cut_47 rfl (lv_at hl 1 rfl) ?_
        refine lv_iadd hx hb dM_cut_48 ?_
        obtain ⟨n_9, ha_10, hw⟩ := hw
        obtain ⟨hi_11, hw⟩ := hw
        refine g_iald hC hwo ha_10 hi_11 dM_cut_49 ?_
        obtain ⟨hi_12, hw⟩ := hw
        refine g_iast hC hwo hS ha_10 hi_12 dM_cut_50 (fun V_13 eV_13 H locs hwo hS => ?_)
        replace hw := hw V_13 eV_13
        obtain ⟨y_14, ey_14⟩ : ∃ z : Int32, z = x3_27 + (1 : Int32) := ⟨_, rfl⟩
        replace hw := hw y_14 ey_14
        refine lv_iinc (k := 2) (v := y_14) (lv' := [(3, .int y_14), (0, .ref a0_27), (2, .int x2_27)]) hx hb dM_cut_51 hl rfl (by rw [ey_14]; rfl) (by decide) rfl (fun ls hl => ?_)
        refine lv_goto (tgt := 27) hx hb dM_cut_54 (by decide) ?_
        exact ih27 _ _ _ _ _ _ hw hwo hS (lv_sub hl [1, 2, 0] rfl)
  unfold wp_M_cut at hw
  refine lv_iload_n hx hb dM_cut_0 rfl (lv_at hl 1 rfl) ?_
  refine lv_aload_n hx hb dM_cut_1 rfl (lv_at hl 0 rfl) ?_
  obtain ⟨ho_1, hw⟩ := hw
  refine g_getI hC fkM_137 rfl hwo ho_1 dM_cut_2 ?_
  refine lv_icmp_lt (tgt := 23) hx hb dM_cut_5 (by decide) (fun hc_2 => ?_) (fun hc_2 => ?_)
  · replace hw := hw.1 hc_2
    refine lv_iconst (v := 0) hx hb dM_cut_23 (by decide) ?_
    exact g_zret hC hr hlk (Or.inl rfl) hw hwo hS dM_cut_24
  · replace hw := hw.2 hc_2
    refine lv_iload_n hx hb dM_cut_8 rfl (lv_at hl 2 rfl) ?_
    refine lv_iconst (v := 1) hx hb dM_cut_9 (by decide) ?_
    refine lv_icmp_lt (tgt := 23) hx hb dM_cut_10 (by decide) (fun hc_3 => ?_) (fun hc_3 => ?_)
    · replace hw := hw.1 hc_3
      refine lv_iconst (v := 0) hx hb dM_cut_23 (by decide) ?_
      exact g_zret hC hr hlk (Or.inl rfl) hw hwo hS dM_cut_24
    · replace hw := hw.2 hc_3
      refine lv_iload_n hx hb dM_cut_13 rfl (lv_at hl 2 rfl) ?_
      refine lv_aload_n hx hb dM_cut_14 rfl (lv_at hl 0 rfl) ?_
      refine g_getI hC fkM_132 rfl hwo ho_1 dM_cut_15 ?_
      refine lv_iload_n hx hb dM_cut_18 rfl (lv_at hl 1 rfl) ?_
      refine lv_isub hx hb dM_cut_19 ?_
      refine lv_icmp_le (tgt := 25) hx hb dM_cut_20 (by decide) (fun hc_4 => ?_) (fun hc_4 => ?_)
      · replace hw := hw.1 hc_4
        refine lv_iload_n hx hb dM_cut_25 rfl (lv_at hl 1 rfl) ?_
        refine lv_istore_n (i := 3) (lv' := [(3, .int x1), (0, .ref a0), (1, .int x1), (2, .int x2)]) hx hb dM_cut_26 rfl hl (by decide) rfl (fun ls hl => ?_)
        obtain ⟨n, hw⟩ := hw
        exact L27 _ _ n _ _ _ _ _ _ hw hwo hS (lv_sub hl [1, 3, 0] rfl)
      · replace hw := hw.2 hc_4
        refine lv_iconst (v := 0) hx hb dM_cut_23 (by decide) ?_
        exact g_zret hC hr hlk (Or.inl rfl) hw hwo hS dM_cut_24
theorem dM_wire_0 : decode kM_wire 0 = .ok (.iload_n 1, 1) := by decide +kernel
theorem dM_wire_1 : decode kM_wire 1 = .ok (.ifCond .lt 11, 3) := by decide +kernel
theorem dM_wire_4 : decode kM_wire 4 = .ok (.iload_n 1, 1) := by decide +kernel
theorem dM_wire_5 : decode kM_wire 5 = .ok (.aload_n 0, 1) := by decide +kernel
theorem dM_wire_6 : decode kM_wire 6 = .ok (.getfield 132, 3) := by decide +kernel
theorem dM_wire_9 : decode kM_wire 9 = .ok (.if_icmp .lt 7, 3) := by decide +kernel
theorem dM_wire_12 : decode kM_wire 12 = .ok (.iconst (-1), 1) := by decide +kernel
theorem dM_wire_13 : decode kM_wire 13 = .ok (.goto 9, 3) := by decide +kernel
theorem dM_wire_16 : decode kM_wire 16 = .ok (.aload_n 0, 1) := by decide +kernel
theorem dM_wire_17 : decode kM_wire 17 = .ok (.getfield 7, 3) := by decide +kernel
theorem dM_wire_20 : decode kM_wire 20 = .ok (.iload_n 1, 1) := by decide +kernel
theorem dM_wire_21 : decode kM_wire 21 = .ok (.iaload, 1) := by decide +kernel
theorem dM_wire_22 : decode kM_wire 22 = .ok (.ireturn, 1) := by decide +kernel
def wb_M_wire_12 (θ : TH) (K : Int32 → VT → UT → Prop) (V : VT) (U : UT) : Prop := K (-1 : Int32) V U
def wp_M_wire (θ : TH) (a0 : Nat) (x1 : Int32) (V : VT) (U : UT) (K : Int32 → VT → UT → Prop) : Prop := ((x1 < 0 → wb_M_wire_12 θ K V U) ∧ (¬ x1 < 0 → isO θ a0 12 ∧ ((x1 < (V a0 1) → (U a0 0) ≠ 0 ∧ ∃ n_5, isA θ (U a0 0) 0 n_5 ∧ vp_in x1 n_5 ∧ K (V (U a0 0) x1.toNatClampNeg) V U) ∧ (¬ x1 < (V a0 1) → wb_M_wire_12 θ K V U))))
set_option maxRecDepth 100000 in
set_option maxHeartbeats 4000000 in
theorem c_M_wire (l : Launch) (θ : TH) (a0 : Nat) (x1 : Int32) (V : VT) (U : UT) (K : Int32 → VT → UT → Prop) (hw : wp_M_wire θ a0 x1 V U K) : CMi l yM_wire kM_wire 2 (some .int) rmM_wire θ [.ref a0, .int x1] V U K := by
  refine g_met nRM (by decide +kernel) rfl (Nat.le_of_ble_eq_true rfl) (fun p e s m args below meth c ls hC hr hlk hwo hl => ?_)
  have hx := hC.1
  have hb := hC.2.1
  have hS : Sx θ s s.heap [] := va_S.rf
  have hl : lv_has ls 2 [(0, .ref a0), (1, .int x1)] := hl
  have J12 : ∀ (V : VT) (U : UT) (H : Heap) (locs : List Loc) (ls : Array Slot), wb_M_wire_12 θ K V U → wo θ V U H → Sx θ s H locs → lv_has ls 2 [] → W p l e rmM_wire s m args below meth c H locs 0 0 (MQ below (QI θ K) args s 0 0 (aT θ)) (F0 m 12 ls []) := by
    intro V U H locs ls hw hwo hS hl
    unfold wb_M_wire_12 at hw
    refine lv_iconst (v := -1) hx hb dM_wire_12 (by decide) ?_
    refine lv_goto (tgt := 22) hx hb dM_wire_13 (by decide) ?_
    exact g_iret hC hr hlk hw hwo hS dM_wire_22
  unfold wp_M_wire at hw
  refine lv_iload_n hx hb dM_wire_0 rfl (lv_at hl 1 rfl) ?_
  refine lv_if_lt (tgt := 12) hx hb dM_wire_1 (by decide) (fun hc_1 => ?_) (fun hc_1 => ?_)
  · replace hw := hw.1 hc_1
    exact J12 _ _ _ _ _ hw hwo hS (lv_sub hl [] rfl)
  · replace hw := hw.2 hc_1
    refine lv_iload_n hx hb dM_wire_4 rfl (lv_at hl 1 rfl) ?_
    refine lv_aload_n hx hb dM_wire_5 rfl (lv_at hl 0 rfl) ?_
    obtain ⟨ho_2, hw⟩ := hw
    refine g_getI hC fkM_132 rfl hwo ho_2 dM_wire_6 ?_
    refine lv_icmp_lt (tgt := 16) hx hb dM_wire_9 (by decide) (fun hc_3 => ?_) (fun hc_3 => ?_)
    · replace hw := hw.1 hc_3
      refine lv_aload_n hx hb dM_wire_16 rfl (lv_at hl 0 rfl) ?_
      obtain ⟨hz_4, hw⟩ := hw
      refine g_getR hC fkM_7 rfl hwo ho_2 hz_4 dM_wire_17 ?_
      refine lv_iload_n hx hb dM_wire_20 rfl (lv_at hl 1 rfl) ?_
      obtain ⟨n_5, ha_6, hw⟩ := hw
      obtain ⟨hi_7, hw⟩ := hw
      refine g_iald hC hwo ha_6 hi_7 dM_wire_21 ?_
      exact g_iret hC hr hlk hw hwo hS dM_wire_22
    · replace hw := hw.2 hc_3
      exact J12 _ _ _ _ _ hw hwo hS (lv_sub hl [] rfl)
theorem dM_length_0 : decode kM_length 0 = .ok (.aload_n 0, 1) := by decide +kernel
theorem dM_length_1 : decode kM_length 1 = .ok (.getfield 132, 3) := by decide +kernel
theorem dM_length_4 : decode kM_length 4 = .ok (.ireturn, 1) := by decide +kernel
def wp_M_length (θ : TH) (a0 : Nat) (V : VT) (U : UT) (K : Int32 → VT → UT → Prop) : Prop := isO θ a0 12 ∧ K (V a0 1) V U
set_option maxRecDepth 100000 in
set_option maxHeartbeats 4000000 in
theorem c_M_length (l : Launch) (θ : TH) (a0 : Nat) (V : VT) (U : UT) (K : Int32 → VT → UT → Prop) (hw : wp_M_length θ a0 V U K) : CMi l yM_length kM_length 1 (some .int) rmM_length θ [.ref a0] V U K := by
  refine g_met nRM (by decide +kernel) rfl (Nat.le_of_ble_eq_true rfl) (fun p e s m args below meth c ls hC hr hlk hwo hl => ?_)
  have hx := hC.1
  have hb := hC.2.1
  have hS : Sx θ s s.heap [] := va_S.rf
  have hl : lv_has ls 1 [(0, .ref a0)] := hl
  unfold wp_M_length at hw
  refine lv_aload_n hx hb dM_length_0 rfl (lv_at hl 0 rfl) ?_
  obtain ⟨ho_1, hw⟩ := hw
  refine g_getI hC fkM_132 rfl hwo ho_1 dM_length_1 ?_
  exact g_iret hC hr hlk hw hwo hS dM_length_4
theorem dM_check_0 : decode kM_check 0 = .ok (.iconst 0, 1) := by decide +kernel
theorem dM_check_1 : decode kM_check 1 = .ok (.istore_n 3, 1) := by decide +kernel
theorem dM_check_2 : decode kM_check 2 = .ok (.iconst 0, 1) := by decide +kernel
theorem dM_check_3 : decode kM_check 3 = .ok (.istore 4, 2) := by decide +kernel
theorem dM_check_5 : decode kM_check 5 = .ok (.iload 4, 2) := by decide +kernel
theorem dM_check_7 : decode kM_check 7 = .ok (.iload_n 2, 1) := by decide +kernel
theorem dM_check_8 : decode kM_check 8 = .ok (.if_icmp .ge 98, 3) := by decide +kernel
theorem dM_check_11 : decode kM_check 11 = .ok (.iload 4, 2) := by decide +kernel
theorem dM_check_13 : decode kM_check 13 = .ok (.bipush 9, 2) := by decide +kernel
theorem dM_check_15 : decode kM_check 15 = .ok (.if_icmp .lt 14, 3) := by decide +kernel
theorem dM_check_18 : decode kM_check 18 = .ok (.iload 4, 2) := by decide +kernel
theorem dM_check_20 : decode kM_check 20 = .ok (.bipush 13, 2) := by decide +kernel
theorem dM_check_22 : decode kM_check 22 = .ok (.if_icmp .ge 7, 3) := by decide +kernel
theorem dM_check_25 : decode kM_check 25 = .ok (.iconst 0, 1) := by decide +kernel
theorem dM_check_26 : decode kM_check 26 = .ok (.goto 12, 3) := by decide +kernel
theorem dM_check_29 : decode kM_check 29 = .ok (.aload_n 0, 1) := by decide +kernel
theorem dM_check_30 : decode kM_check 30 = .ok (.getfield 7, 3) := by decide +kernel
theorem dM_check_33 : decode kM_check 33 = .ok (.iload_n 1, 1) := by decide +kernel
theorem dM_check_34 : decode kM_check 34 = .ok (.iload 4, 2) := by decide +kernel
theorem dM_check_36 : decode kM_check 36 = .ok (.iadd, 1) := by decide +kernel
theorem dM_check_37 : decode kM_check 37 = .ok (.iaload, 1) := by decide +kernel
theorem dM_check_38 : decode kM_check 38 = .ok (.istore 5, 2) := by decide +kernel
theorem dM_check_40 : decode kM_check 40 = .ok (.bipush 7, 2) := by decide +kernel
theorem dM_check_42 : decode kM_check 42 = .ok (.istore 6, 2) := by decide +kernel
theorem dM_check_44 : decode kM_check 44 = .ok (.iload 6, 2) := by decide +kernel
theorem dM_check_46 : decode kM_check 46 = .ok (.ifCond .lt 54, 3) := by decide +kernel
theorem dM_check_49 : decode kM_check 49 = .ok (.iload_n 3, 1) := by decide +kernel
theorem dM_check_50 : decode kM_check 50 = .ok (.ifCond .ge 7, 3) := by decide +kernel
theorem dM_check_53 : decode kM_check 53 = .ok (.iconst 1, 1) := by decide +kernel
theorem dM_check_54 : decode kM_check 54 = .ok (.goto 4, 3) := by decide +kernel
theorem dM_check_57 : decode kM_check 57 = .ok (.iconst 0, 1) := by decide +kernel
theorem dM_check_58 : decode kM_check 58 = .ok (.istore 7, 2) := by decide +kernel
theorem dM_check_60 : decode kM_check 60 = .ok (.iload 5, 2) := by decide +kernel
theorem dM_check_62 : decode kM_check 62 = .ok (.iload 6, 2) := by decide +kernel
theorem dM_check_64 : decode kM_check 64 = .ok (.ishr, 1) := by decide +kernel
theorem dM_check_65 : decode kM_check 65 = .ok (.iconst 1, 1) := by decide +kernel
theorem dM_check_66 : decode kM_check 66 = .ok (.iand, 1) := by decide +kernel
theorem dM_check_67 : decode kM_check 67 = .ok (.iconst 1, 1) := by decide +kernel
theorem dM_check_68 : decode kM_check 68 = .ok (.if_icmp .ne 7, 3) := by decide +kernel
theorem dM_check_71 : decode kM_check 71 = .ok (.iconst 1, 1) := by decide +kernel
theorem dM_check_72 : decode kM_check 72 = .ok (.goto 4, 3) := by decide +kernel
theorem dM_check_75 : decode kM_check 75 = .ok (.iconst 0, 1) := by decide +kernel
theorem dM_check_76 : decode kM_check 76 = .ok (.istore 8, 2) := by decide +kernel
theorem dM_check_78 : decode kM_check 78 = .ok (.iload_n 3, 1) := by decide +kernel
theorem dM_check_79 : decode kM_check 79 = .ok (.iconst 1, 1) := by decide +kernel
theorem dM_check_80 : decode kM_check 80 = .ok (.ishl, 1) := by decide +kernel
theorem dM_check_81 : decode kM_check 81 = .ok (.istore_n 3, 1) := by decide +kernel
theorem dM_check_82 : decode kM_check 82 = .ok (.iload 7, 2) := by decide +kernel
theorem dM_check_84 : decode kM_check 84 = .ok (.iload 8, 2) := by decide +kernel
theorem dM_check_86 : decode kM_check 86 = .ok (.if_icmp .eq 8, 3) := by decide +kernel
theorem dM_check_89 : decode kM_check 89 = .ok (.iload_n 3, 1) := by decide +kernel
theorem dM_check_90 : decode kM_check 90 = .ok (.ldc 140, 2) := by decide +kernel
theorem dM_check_92 : decode kM_check 92 = .ok (.ixor, 1) := by decide +kernel
theorem dM_check_93 : decode kM_check 93 = .ok (.istore_n 3, 1) := by decide +kernel
theorem dM_check_94 : decode kM_check 94 = .ok (.iinc 6 (-1), 3) := by decide +kernel
theorem dM_check_97 : decode kM_check 97 = .ok (.goto (-53), 3) := by decide +kernel
theorem dM_check_100 : decode kM_check 100 = .ok (.iinc 4 1, 3) := by decide +kernel
theorem dM_check_103 : decode kM_check 103 = .ok (.goto (-98), 3) := by decide +kernel
theorem dM_check_106 : decode kM_check 106 = .ok (.iload_n 3, 1) := by decide +kernel
theorem dM_check_107 : decode kM_check 107 = .ok (.ireturn, 1) := by decide +kernel
def wb_M_check_76 (θ : TH) (a0_5 : Nat) (x1_5 : Int32) (x2_5 : Int32) (x3_76 : Int32) (x4_44 : Int32) (x5_44 : Int32) (x6_76 : Int32) (x7_76 : Int32) (z0_76 : Int32) (kb5 : Int32 → Int32 → VT → UT → Prop) (kb44 : Int32 → Int32 → VT → UT → Prop) (K : Int32 → VT → UT → Prop) (V : VT) (U : UT) : Prop := ∀ y_14 : Int32, y_14 = (x3_76 <<< ((1 : Int32) &&& 31)) → ((x7_76 = z0_76 → ∀ y_16 : Int32, y_16 = x6_76 + (-1 : Int32) → kb44 y_14 y_16 V U) ∧ (¬ x7_76 = z0_76 → ∀ y_17 : Int32, y_17 = (y_14 ^^^ (79764919 : Int32)) → ∀ y_18 : Int32, y_18 = x6_76 + (-1 : Int32) → kb44 y_17 y_18 V U))
def wb_M_check_58 (θ : TH) (a0_5 : Nat) (x1_5 : Int32) (x2_5 : Int32) (x3_58 : Int32) (x4_44 : Int32) (x5_44 : Int32) (x6_58 : Int32) (z0_58 : Int32) (kb5 : Int32 → Int32 → VT → UT → Prop) (kb44 : Int32 → Int32 → VT → UT → Prop) (K : Int32 → VT → UT → Prop) (V : VT) (U : UT) : Prop := ((¬ ((x5_44 >>> (x6_58 &&& 31)) &&& (1 : Int32)) = (1 : Int32) → wb_M_check_76 θ a0_5 x1_5 x2_5 x3_58 x4_44 x5_44 x6_58 z0_58 (0 : Int32) kb5 kb44 K V U) ∧ (((x5_44 >>> (x6_58 &&& 31)) &&& (1 : Int32)) = (1 : Int32) → wb_M_check_76 θ a0_5 x1_5 x2_5 x3_58 x4_44 x5_44 x6_58 z0_58 (1 : Int32) kb5 kb44 K V U))
def bl_M_check_44 (θ : TH) (a0_5 : Nat) (x1_5 : Int32) (x2_5 : Int32) (x4_44 : Int32) (x5_44 : Int32) (kb5 : Int32 → Int32 → VT → UT → Prop) (K : Int32 → VT → UT → Prop) (kb44 : Int32 → Int32 → VT → UT → Prop) (x3_44 : Int32) (x6_44 : Int32) (V : VT) (U : UT) : Prop := ((x6_44 < 0 → ∀ y_11 : Int32, y_11 = x4_44 + (1 : Int32) → kb5 x3_44 y_11 V U) ∧ (¬ x6_44 < 0 → ((0 ≤ x3_44 → wb_M_check_58 θ a0_5 x1_5 x2_5 x3_44 x4_44 x5_44 x6_44 (0 : Int32) kb5 kb44 K V U) ∧ (¬ 0 ≤ x3_44 → wb_M_check_58 θ a0_5 x1_5 x2_5 x3_44 x4_44 x5_44 x6_44 (1 : Int32) kb5 kb44 K V U))))
def wl_M_check_44 (θ : TH) (a0_5 : Nat) (x1_5 : Int32) (x2_5 : Int32) (x4_44 : Int32) (x5_44 : Int32) (kb5 : Int32 → Int32 → VT → UT → Prop) (K : Int32 → VT → UT → Prop) : Nat → Int32 → Int32 → VT → UT → Prop
  | 0, _, _, _, _ => False
  | n + 1, x3_44, x6_44, V, U => bl_M_check_44 θ a0_5 x1_5 x2_5 x4_44 x5_44 kb5 K (wl_M_check_44 θ a0_5 x1_5 x2_5 x4_44 x5_44 kb5 K n) x3_44 x6_44 V U
def wb_M_check_29 (θ : TH) (a0_5 : Nat) (x1_5 : Int32) (x2_5 : Int32) (x3_29 : Int32) (x4_29 : Int32) (kb5 : Int32 → Int32 → VT → UT → Prop) (K : Int32 → VT → UT → Prop) (V : VT) (U : UT) : Prop := isO θ a0_5 12 ∧ (U a0_5 0) ≠ 0 ∧ ∃ n_6, isA θ (U a0_5 0) 0 n_6 ∧ vp_in (x1_5 + x4_29) n_6 ∧ ∀ y_9 : Int32, y_9 = (V (U a0_5 0) (x1_5 + x4_29).toNatClampNeg) → ∃ n, wl_M_check_44 θ a0_5 x1_5 x2_5 x4_29 y_9 kb5 K n x3_29 (7 : Int32) V U
def bl_M_check_5 (θ : TH) (a0_5 : Nat) (x1_5 : Int32) (x2_5 : Int32) (K : Int32 → VT → UT → Prop) (kb5 : Int32 → Int32 → VT → UT → Prop) (x3_5 : Int32) (x4_5 : Int32) (V : VT) (U : UT) : Prop := ((x2_5 ≤ x4_5 → K x3_5 V U) ∧ (¬ x2_5 ≤ x4_5 → ((x4_5 < (9 : Int32) → wb_M_check_29 θ a0_5 x1_5 x2_5 x3_5 x4_5 kb5 K V U) ∧ (¬ x4_5 < (9 : Int32) → (((13 : Int32) ≤ x4_5 → wb_M_check_29 θ a0_5 x1_5 x2_5 x3_5 x4_5 kb5 K V U) ∧ (¬ (13 : Int32) ≤ x4_5 → ∃ n, wl_M_check_44 θ a0_5 x1_5 x2_5 x4_5 (0 : Int32) kb5 K n x3_5 (7 : Int32) V U))))))
def wl_M_check_5 (θ : TH) (a0_5 : Nat) (x1_5 : Int32) (x2_5 : Int32) (K : Int32 → VT → UT → Prop) : Nat → Int32 → Int32 → VT → UT → Prop
  | 0, _, _, _, _ => False
  | n + 1, x3_5, x4_5, V, U => bl_M_check_5 θ a0_5 x1_5 x2_5 K (wl_M_check_5 θ a0_5 x1_5 x2_5 K n) x3_5 x4_5 V U
def wp_M_check (θ : TH) (a0 : Nat) (x1 : Int32) (x2 : Int32) (V : VT) (U : UT) (K : Int32 → VT → UT → Prop) : Prop := ∃ n, wl_M_check_5 θ a0 x1 x2 K n (0 : Int32) (0 : Int32) V U
set_option maxRecDepth 100000 in
set_option maxHeartbeats 4000000 in
theorem c_M_check (l : Launch) (θ : TH) (a0 : Nat) (x1 : Int32) (x2 : Int32) (V : VT) (U : UT) (K : Int32 → VT → UT → Prop) (hw : wp_M_check θ a0 x1 x2 V U K) : CMi l yM_check kM_check 9 (some .int) rmM_check θ [.ref a0, .int x1, .int x2] V U K := by
  refine g_met nRM (by decide +kernel) rfl (Nat.le_of_ble_eq_true rfl) (fun p e s m args below meth c ls hC hr hlk hwo hl => ?_)
  have hx := hC.1
  have hb := hC.2.1
  have hS : Sx θ s s.heap [] := va_S.rf
  have hl : lv_has ls 9 [(0, .ref a0), (1, .int x1), (2, .int x2)] := hl
  have L5 : ∀ (a0_5 : Nat) (x1_5 : Int32) (x2_5 : Int32) (n5 : Nat) (x3_5 : Int32) (x4_5 : Int32) (V : VT) (U : UT) (H : Heap) (locs : List Loc) (ls : Array Slot), wl_M_check_5 θ a0_5 x1_5 x2_5 K n5 x3_5 x4_5 V U → wo θ V U H → Sx θ s H locs → lv_has ls 9 [(0, .ref a0_5), (1, .int x1_5), (2, .int x2_5), (3, .int x3_5), (4, .int x4_5)] → W p l e rmM_check s m args below meth c H locs 0 0 (MQ below (QI θ K) args s 0 0 (aT θ)) (F0 m 5 ls []) := by
    intro a0_5 x1_5 x2_5 n5
    induction n5 with
    | zero => intro x3_5 x4_5 V U H locs ls hw hwo hS hl; exact (show False from hw).elim
    | succ n5 ih5 =>
      have L44 : ∀ (x4_44 : Int32) (x5_44 : Int32) (n44 : Nat) (x3_44 : Int32) (x6_44 : Int32) (V : VT) (U : UT) (H : Heap) (locs : List Loc) (ls : Array Slot), wl_M_check_44 θ a0_5 x1_5 x2_5 x4_44 x5_44 (wl_M_check_5 θ a0_5 x1_5 x2_5 K n5) K n44 x3_44 x6_44 V U → wo θ V U H → Sx θ s H locs → lv_has ls 9 [(0, .ref a0_5), (1, .int x1_5), (2, .int x2_5), (3, .int x3_44), (4, .int x4_44), (5, .int x5_44), (6, .int x6_44)] → W p l e rmM_check s m args below meth c H locs 0 0 (MQ below (QI θ K) args s 0 0 (aT θ)) (F0 m 44 ls []) := by
        intro x4_44 x5_44 n44
        induction n44 with
        | zero => intro x3_44 x6_44 V U H locs ls hw hwo hS hl; exact (show False from hw).elim
        | succ n44 ih44 =>
          have J76 : ∀ (x3_76 : Int32) (x6_76 : Int32) (x7_76 : Int32) (z0_76 : Int32) (V : VT) (U : UT) (H : Heap) (locs : List Loc) (ls : Array Slot), wb_M_check_76 θ a0_5 x1_5 x2_5 x3_76 x4_44 x5_44 x6_76 x7_76 z0_76 (wl_M_check_5 θ a0_5 x1_5 x2_5 K n5) (wl_M_check_44 θ a0_5 x1_5 x2_5 x4_44 x5_44 (wl_M_check_5 θ a0_5 x1_5 x2_5 K n5) K n44) K V U → wo θ V U H → Sx θ s H locs → lv_has ls 9 [(0, .ref a0_5), (1, .int x1_5), (2, .int x2_5), (3, .int x3_76), (4, .int x4_44), (5, .int x5_44), (6, .int x6_76), (7, .int x7_76)] → W p l e rmM_check s m args below meth c H locs 0 0 (MQ below (QI θ K) args s 0 0 (aT θ)) (F0 m 76 ls [.int z0_76]) := by
            intro x3_76 x6_76 x7_76 z0_76 V U H locs ls hw hwo hS hl
            unfold wb_M_check_76 at hw
            refine lv_istore (i := 8) (lv' := [(8, .int z0_76), (0, .ref a0_5), (1, .int x1_5), (2, .int x2_5), (3, .int x3_76), (4, .int x4_44), (5, .int x5_44), (6, .int x6_76), (7, .int x7_76)]) hx hb dM_check_76 hl (by decide) rfl (fun ls hl => ?_)
            refine lv_iload_n hx hb dM_check_78 rfl (lv_at hl 4 rfl) ?_
            refine lv_iconst (v := 1) hx hb dM_check_79 (by decide) ?_
            refine lv_ishl hx hb dM_check_80 ?_
            refine lv_topi (fun y_14 ey_14 => ?_)
            replace hw := hw y_14 ey_14
            refine lv_istore_n (i := 3) (lv' := [(3, .int y_14), (8, .int z0_76), (0, .ref a0_5), (1, .int x1_5), (2, .int x2_5), (4, .int x4_44), (5, .int x5_44), (6, .int x6_76), (7, .int x7_76)]) hx hb dM_check_81 rfl hl (by decide) rfl (fun ls hl => ?_)
            refine lv_iload hx hb dM_check_82 (lv_at hl 8 rfl) ?_
            refine lv_iload hx hb dM_check_84 (lv_at hl 1 rfl) ?_
            refine lv_icmp_eq (tgt := 94) hx hb dM_check_86 (by decide) (fun hc_15 => ?_) (fun hc_15 => ?_)
            · replace hw := hw.1 hc_15
              obtain ⟨y_16, ey_16⟩ : ∃ z : Int32, z = x6_76 + (-1 : Int32) := ⟨_, rfl⟩
              replace hw := hw y_16 ey_16
              refine lv_iinc (k := 7) (v := y_16) (lv' := [(6, .int y_16), (3, .int y_14), (8, .int z0_76), (0, .ref a0_5), (1, .int x1_5), (2, .int x2_5), (4, .int x4_44), (5, .int x5_44), (7, .int x7_76)]) hx hb dM_check_94 hl rfl (by rw [ey_16]; rfl) (by decide) rfl (fun ls hl => ?_)
              refine lv_goto (tgt := 44) hx hb dM_check_97 (by decide) ?_
              exact ih44 _ _ _ _ _ _ _ hw hwo hS (lv_sub hl [3, 4, 5, 1, 6, 7, 0] rfl)
            · replace hw := hw.2 hc_15
              refine lv_iload_n hx hb dM_check_89 rfl (lv_at hl 0 rfl) ?_
              refine lv_ldc hx hb hC.2.2.2.1 (hC.2.2.2.2.1 _ kcM_140) dM_check_90 ?_
              refine lv_ixor hx hb dM_check_92 ?_
              refine lv_topi (fun y_17 ey_17 => ?_)
              replace hw := hw y_17 ey_17
              refine lv_istore_n (i := 3) (lv' := [(3, .int y_17), (8, .int z0_76), (0, .ref a0_5), (1, .int x1_5), (2, .int x2_5), (4, .int x4_44), (5, .int x5_44), (6, .int x6_76), (7, .int x7_76)]) hx hb dM_check_93 rfl hl (by decide) rfl (fun ls hl => ?_)
              obtain ⟨y_18, ey_18⟩ : ∃ z : Int32, z = x6_76 + (-1 : Int32) := ⟨_, rfl⟩
              replace hw := hw y_18 ey_18
              refine lv_iinc (k := 7) (v := y_18) (lv' := [(6, .int y_18), (3, .int y_17), (8, .int z0_76), (0, .ref a0_5), (1, .int x1_5), (2, .int x2_5), (4, .int x4_44), (5, .int x5_44), (7, .int x7_76)]) hx hb dM_check_94 hl rfl (by rw [ey_18]; rfl) (by decide) rfl (fun ls hl => ?_)
              refine lv_goto (tgt := 44) hx hb dM_check_97 (by decide) ?_
              exact ih44 _ _ _ _ _ _ _ hw hwo hS (lv_sub hl [3, 4, 5, 1, 6, 7, 0] rfl)
          have J58 : ∀ (x3_58 : Int32) (x6_58 : Int32) (z0_58 : Int32) (V : VT) (U : UT) (H : Heap) (locs : List Loc) (ls : Array Slot), wb_M_check_58 θ a0_5 x1_5 x2_5 x3_58 x4_44 x5_44 x6_58 z0_58 (wl_M_check_5 θ a0_5 x1_5 x2_5 K n5) (wl_M_check_44 θ a0_5 x1_5 x2_5 x4_44 x5_44 (wl_M_check_5 θ a0_5 x1_5 x2_5 K n5) K n44) K V U → wo θ V U H → Sx θ s H locs → lv_has ls 9 [(0, .ref a0_5), (1, .int x1_5), (2, .int x2_5), (3, .int x3_58), (4, .int x4_44), (5, .int x5_44), (6, .int x6_58)] → W p l e rmM_check s m args below meth c H locs 0 0 (MQ below (QI θ K) args s 0 0 (aT θ)) (F0 m 58 ls [.int z0_58]) := by
            intro x3_58 x6_58 z0_58 V U H locs ls hw hwo hS hl
            unfold wb_M_check_58 at hw
            refine lv_istore (i := 7) (lv' := [(7, .int z0_58), (0, .ref a0_5), (1, .int x1_5), (2, .int x2_5), (3, .int x3_58), (4, .int x4_44), (5, .int x5_44), (6, .int x6_58)]) hx hb dM_check_58 hl (by decide) rfl (fun ls hl => ?_)
            refine lv_iload hx hb dM_check_60 (lv_at hl 6 rfl) ?_
            refine lv_iload hx hb dM_check_62 (lv_at hl 7 rfl) ?_
            refine lv_ishr hx hb dM_check_64 ?_
            refine lv_iconst (v := 1) hx hb dM_check_65 (by decide) ?_
            refine lv_iand hx hb dM_check_66 ?_
            refine lv_iconst (v := 1) hx hb dM_check_67 (by decide) ?_
            refine lv_icmp_ne (tgt := 75) hx hb dM_check_68 (by decide) (fun hc_13 => ?_) (fun hc_13 => ?_)
            · replace hw := hw.1 hc_13
              refine lv_iconst (v := 0) hx hb dM_check_75 (by decide) ?_
              exact J76 _ _ _ _ _ _ _ _ _ hw hwo hS (lv_sub hl [1, 2, 3, 4, 5, 6, 7, 0] rfl)
            · replace hw := hw.2 hc_13
              refine lv_iconst (v := 1) hx hb dM_check_71 (by decide) ?_
              refine lv_goto (tgt := 76) hx hb dM_check_72 (by decide) ?_
              exact J76 _ _ _ _ _ _ _ _ _ hw hwo hS (lv_sub hl [1, 2, 3, 4, 5, 6, 7, 0] rfl)
          intro x3_44 x6_44 V U H locs ls hw hwo hS hl
          replace hw : bl_M_check_44 θ a0_5 x1_5 x2_5 x4_44 x5_44 (wl_M_check_5 θ a0_5 x1_5 x2_5 K n5) K (wl_M_check_44 θ a0_5 x1_5 x2_5 x4_44 x5_44 (wl_M_check_5 θ a0_5 x1_5 x2_5 K n5) K n44) x3_44 x6_44 V U := hw
          unfold bl_M_check_44 at hw
          refine lv_iload hx hb dM_check_44 (lv_at hl 6 rfl) ?_
          refine lv_if_lt (tgt := 100) hx hb dM_check_46 (by decide) (fun hc_10 => ?_) (fun hc_10 => ?_)
          · replace hw := hw.1 hc_10
            obtain ⟨y_11, ey_11⟩ : ∃ z : Int32, z = x4_44 + (1 : Int32) := ⟨_, rfl⟩
            replace hw := hw y_11 ey_11
            refine lv_iinc (k := 4) (v := y_11) (lv' := [(4, .int y_11), (0, .ref a0_5), (1, .int x1_5), (2, .int x2_5), (3, .int x3_44), (5, .int x5_44), (6, .int x6_44)]) hx hb dM_check_100 hl rfl (by rw [ey_11]; rfl) (by decide) rfl (fun ls hl => ?_)
            refine lv_goto (tgt := 5) hx hb dM_check_103 (by decide) ?_
            exact ih5 _ _ _ _ _ _ _ hw hwo hS (lv_sub hl [1, 2, 3, 4, 0] rfl)
          · replace hw := hw.2 hc_10
            refine lv_iload_n hx hb dM_check_49 rfl (lv_at hl 3 rfl) ?_
            refine lv_if_ge (tgt := 57) hx hb dM_check_50 (by decide) (fun hc_12 => ?_) (fun hc_12 => ?_)
            · replace hw := hw.1 hc_12
              refine lv_iconst (v := 0) hx hb dM_check_57 (by decide) ?_
              exact J58 _ _ _ _ _ _ _ _ hw hwo hS (lv_sub hl [0, 1, 2, 3, 4, 5, 6] rfl)
            · replace hw := hw.2 hc_12
              refine lv_iconst (v := 1) hx hb dM_check_53 (by decide) ?_
              refine lv_goto (tgt := 58) hx hb dM_check_54 (by decide) ?_
              exact J58 _ _ _ _ _ _ _ _ hw hwo hS (lv_sub hl [0, 1, 2, 3, 4, 5, 6] rfl)
      have J29 : ∀ (x3_29 : Int32) (x4_29 : Int32) (V : VT) (U : UT) (H : Heap) (locs : List Loc) (ls : Array Slot), wb_M_check_29 θ a0_5 x1_5 x2_5 x3_29 x4_29 (wl_M_check_5 θ a0_5 x1_5 x2_5 K n5) K V U → wo θ V U H → Sx θ s H locs → lv_has ls 9 [(0, .ref a0_5), (1, .int x1_5), (2, .int x2_5), (3, .int x3_29), (4, .int x4_29)] → W p l e rmM_check s m args below meth c H locs 0 0 (MQ below (QI θ K) args s 0 0 (aT θ)) (F0 m 29 ls []) := by
        intro x3_29 x4_29 V U H locs ls hw hwo hS hl
        unfold wb_M_check_29 at hw
        refine lv_aload_n hx hb dM_check_29 rfl (lv_at hl 0 rfl) ?_
        obtain ⟨ho_4, hw⟩ := hw
        obtain ⟨hz_5, hw⟩ := hw
        refine g_getR hC fkM_7 rfl hwo ho_4 hz_5 dM_check_30 ?_
        refine lv_iload_n hx hb dM_check_33 rfl (lv_at hl 1 rfl) ?_
        refine lv_iload hx hb dM_check_34 (lv_at hl 4 rfl) ?_
        refine lv_iadd hx hb dM_check_36 ?_
        obtain ⟨n_6, ha_7, hw⟩ := hw
        obtain ⟨hi_8, hw⟩ := hw
        refine g_iald hC hwo ha_7 hi_8 dM_check_37 ?_
        refine lv_topi (fun y_9 ey_9 => ?_)
        replace hw := hw y_9 ey_9
        refine lv_istore (i := 5) (lv' := [(5, .int y_9), (0, .ref a0_5), (1, .int x1_5), (2, .int x2_5), (3, .int x3_29), (4, .int x4_29)]) hx hb dM_check_38 hl (by decide) rfl (fun ls hl => ?_)
        refine lv_bipush (v := 7) hx hb dM_check_40 (by decide) ?_
        refine lv_istore (i := 6) (lv' := [(6, .int (7 : Int32)), (5, .int y_9), (0, .ref a0_5), (1, .int x1_5), (2, .int x2_5), (3, .int x3_29), (4, .int x4_29)]) hx hb dM_check_42 hl (by decide) rfl (fun ls hl => ?_)
        obtain ⟨n, hw⟩ := hw
        exact L44 _ _ n _ _ _ _ _ _ _ hw hwo hS (lv_sub hl [2, 3, 4, 5, 6, 1, 0] rfl)
      intro x3_5 x4_5 V U H locs ls hw hwo hS hl
      replace hw : bl_M_check_5 θ a0_5 x1_5 x2_5 K (wl_M_check_5 θ a0_5 x1_5 x2_5 K n5) x3_5 x4_5 V U := hw
      unfold bl_M_check_5 at hw
      refine lv_iload hx hb dM_check_5 (lv_at hl 4 rfl) ?_
      refine lv_iload_n hx hb dM_check_7 rfl (lv_at hl 2 rfl) ?_
      refine lv_icmp_ge (tgt := 106) hx hb dM_check_8 (by decide) (fun hc_1 => ?_) (fun hc_1 => ?_)
      · replace hw := hw.1 hc_1
        refine lv_iload_n hx hb dM_check_106 rfl (lv_at hl 3 rfl) ?_
        exact g_iret hC hr hlk hw hwo hS dM_check_107
      · replace hw := hw.2 hc_1
        refine lv_iload hx hb dM_check_11 (lv_at hl 4 rfl) ?_
        refine lv_bipush (v := 9) hx hb dM_check_13 (by decide) ?_
        refine lv_icmp_lt (tgt := 29) hx hb dM_check_15 (by decide) (fun hc_2 => ?_) (fun hc_2 => ?_)
        · replace hw := hw.1 hc_2
          exact J29 _ _ _ _ _ _ _ hw hwo hS (lv_sub hl [0, 1, 2, 3, 4] rfl)
        · replace hw := hw.2 hc_2
          refine lv_iload hx hb dM_check_18 (lv_at hl 4 rfl) ?_
          refine lv_bipush (v := 13) hx hb dM_check_20 (by decide) ?_
          refine lv_icmp_ge (tgt := 29) hx hb dM_check_22 (by decide) (fun hc_3 => ?_) (fun hc_3 => ?_)
          · replace hw := hw.1 hc_3
            exact J29 _ _ _ _ _ _ _ hw hwo hS (lv_sub hl [0, 1, 2, 3, 4] rfl)
          · replace hw := hw.2 hc_3
            refine lv_iconst (v := 0) hx hb dM_check_25 (by decide) ?_
            refine lv_goto (tgt := 38) hx hb dM_check_26 (by decide) ?_
            refine lv_istore (i := 5) (lv' := [(5, .int (0 : Int32)), (0, .ref a0_5), (1, .int x1_5), (2, .int x2_5), (3, .int x3_5), (4, .int x4_5)]) hx hb dM_check_38 hl (by decide) rfl (fun ls hl => ?_)
            refine lv_bipush (v := 7) hx hb dM_check_40 (by decide) ?_
            refine lv_istore (i := 6) (lv' := [(6, .int (7 : Int32)), (5, .int (0 : Int32)), (0, .ref a0_5), (1, .int x1_5), (2, .int x2_5), (3, .int x3_5), (4, .int x4_5)]) hx hb dM_check_42 hl (by decide) rfl (fun ls hl => ?_)
            obtain ⟨n, hw⟩ := hw
            exact L44 _ _ n _ _ _ _ _ _ _ hw hwo hS (lv_sub hl [2, 3, 4, 5, 6, 1, 0] rfl)
  unfold wp_M_check at hw
  refine lv_iconst (v := 0) hx hb dM_check_0 (by decide) ?_
  refine lv_istore_n (i := 3) (lv' := [(3, .int (0 : Int32)), (0, .ref a0), (1, .int x1), (2, .int x2)]) hx hb dM_check_1 rfl hl (by decide) rfl (fun ls hl => ?_)
  refine lv_iconst (v := 0) hx hb dM_check_2 (by decide) ?_
  refine lv_istore (i := 4) (lv' := [(4, .int (0 : Int32)), (3, .int (0 : Int32)), (0, .ref a0), (1, .int x1), (2, .int x2)]) hx hb dM_check_3 hl (by decide) rfl (fun ls hl => ?_)
  obtain ⟨n, hw⟩ := hw
  exact L5 _ _ _ n _ _ _ _ _ _ _ hw hwo hS (lv_sub hl [2, 3, 4, 1, 0] rfl)
theorem dM_magic_0 : decode kM_magic 0 = .ok (.iload_n 0, 1) := by decide +kernel
theorem dM_magic_1 : decode kM_magic 1 = .ok (.iconst 1, 1) := by decide +kernel
theorem dM_magic_2 : decode kM_magic 2 = .ok (.if_icmp .ne 8, 3) := by decide +kernel
theorem dM_magic_5 : decode kM_magic 5 = .ok (.bipush 97, 2) := by decide +kernel
theorem dM_magic_7 : decode kM_magic 7 = .ok (.goto 15, 3) := by decide +kernel
theorem dM_magic_10 : decode kM_magic 10 = .ok (.iload_n 0, 1) := by decide +kernel
theorem dM_magic_11 : decode kM_magic 11 = .ok (.iconst 3, 1) := by decide +kernel
theorem dM_magic_12 : decode kM_magic 12 = .ok (.if_icmp .ne 8, 3) := by decide +kernel
theorem dM_magic_15 : decode kM_magic 15 = .ok (.bipush 83, 2) := by decide +kernel
theorem dM_magic_17 : decode kM_magic 17 = .ok (.goto 5, 3) := by decide +kernel
theorem dM_magic_20 : decode kM_magic 20 = .ok (.bipush 76, 2) := by decide +kernel
theorem dM_magic_22 : decode kM_magic 22 = .ok (.ireturn, 1) := by decide +kernel
def wp_M_magic (θ : TH) (x0 : Int32) (V : VT) (U : UT) (K : Int32 → VT → UT → Prop) : Prop := ((¬ x0 = (1 : Int32) → ((¬ x0 = (3 : Int32) → K (76 : Int32) V U) ∧ (x0 = (3 : Int32) → K (83 : Int32) V U))) ∧ (x0 = (1 : Int32) → K (97 : Int32) V U))
set_option maxRecDepth 100000 in
set_option maxHeartbeats 4000000 in
theorem c_M_magic (l : Launch) (θ : TH) (x0 : Int32) (V : VT) (U : UT) (K : Int32 → VT → UT → Prop) (hw : wp_M_magic θ x0 V U K) : CMi l yM_magic kM_magic 1 (some .int) rmM_magic θ [.int x0] V U K := by
  refine g_met nRM (by decide +kernel) rfl (Nat.le_of_ble_eq_true rfl) (fun p e s m args below meth c ls hC hr hlk hwo hl => ?_)
  have hx := hC.1
  have hb := hC.2.1
  have hS : Sx θ s s.heap [] := va_S.rf
  have hl : lv_has ls 1 [(0, .int x0)] := hl
  unfold wp_M_magic at hw
  refine lv_iload_n hx hb dM_magic_0 rfl (lv_at hl 0 rfl) ?_
  refine lv_iconst (v := 1) hx hb dM_magic_1 (by decide) ?_
  refine lv_icmp_ne (tgt := 10) hx hb dM_magic_2 (by decide) (fun hc_1 => ?_) (fun hc_1 => ?_)
  · replace hw := hw.1 hc_1
    refine lv_iload_n hx hb dM_magic_10 rfl (lv_at hl 0 rfl) ?_
    refine lv_iconst (v := 3) hx hb dM_magic_11 (by decide) ?_
    refine lv_icmp_ne (tgt := 20) hx hb dM_magic_12 (by decide) (fun hc_2 => ?_) (fun hc_2 => ?_)
    · replace hw := hw.1 hc_2
      refine lv_bipush (v := 76) hx hb dM_magic_20 (by decide) ?_
      exact g_iret hC hr hlk hw hwo hS dM_magic_22
    · replace hw := hw.2 hc_2
      refine lv_bipush (v := 83) hx hb dM_magic_15 (by decide) ?_
      refine lv_goto (tgt := 22) hx hb dM_magic_17 (by decide) ?_
      exact g_iret hC hr hlk hw hwo hS dM_magic_22
  · replace hw := hw.2 hc_1
    refine lv_bipush (v := 97) hx hb dM_magic_5 (by decide) ?_
    refine lv_goto (tgt := 22) hx hb dM_magic_7 (by decide) ?_
    exact g_iret hC hr hlk hw hwo hS dM_magic_22
theorem dM_pageLength_0 : decode kM_pageLength 0 = .ok (.aload_n 0, 1) := by decide +kernel
theorem dM_pageLength_1 : decode kM_pageLength 1 = .ok (.getfield 7, 3) := by decide +kernel
theorem dM_pageLength_4 : decode kM_pageLength 4 = .ok (.iload_n 1, 1) := by decide +kernel
theorem dM_pageLength_5 : decode kM_pageLength 5 = .ok (.bipush 13, 2) := by decide +kernel
theorem dM_pageLength_7 : decode kM_pageLength 7 = .ok (.iadd, 1) := by decide +kernel
theorem dM_pageLength_8 : decode kM_pageLength 8 = .ok (.iaload, 1) := by decide +kernel
theorem dM_pageLength_9 : decode kM_pageLength 9 = .ok (.istore_n 2, 1) := by decide +kernel
theorem dM_pageLength_10 : decode kM_pageLength 10 = .ok (.bipush 14, 2) := by decide +kernel
theorem dM_pageLength_12 : decode kM_pageLength 12 = .ok (.iload_n 2, 1) := by decide +kernel
theorem dM_pageLength_13 : decode kM_pageLength 13 = .ok (.iadd, 1) := by decide +kernel
theorem dM_pageLength_14 : decode kM_pageLength 14 = .ok (.istore_n 3, 1) := by decide +kernel
theorem dM_pageLength_15 : decode kM_pageLength 15 = .ok (.iconst 0, 1) := by decide +kernel
theorem dM_pageLength_16 : decode kM_pageLength 16 = .ok (.istore 4, 2) := by decide +kernel
theorem dM_pageLength_18 : decode kM_pageLength 18 = .ok (.iload 4, 2) := by decide +kernel
theorem dM_pageLength_20 : decode kM_pageLength 20 = .ok (.iload_n 2, 1) := by decide +kernel
theorem dM_pageLength_21 : decode kM_pageLength 21 = .ok (.if_icmp .ge 24, 3) := by decide +kernel
theorem dM_pageLength_24 : decode kM_pageLength 24 = .ok (.iload_n 3, 1) := by decide +kernel
theorem dM_pageLength_25 : decode kM_pageLength 25 = .ok (.aload_n 0, 1) := by decide +kernel
theorem dM_pageLength_26 : decode kM_pageLength 26 = .ok (.getfield 7, 3) := by decide +kernel
theorem dM_pageLength_29 : decode kM_pageLength 29 = .ok (.iload_n 1, 1) := by decide +kernel
theorem dM_pageLength_30 : decode kM_pageLength 30 = .ok (.bipush 14, 2) := by decide +kernel
theorem dM_pageLength_32 : decode kM_pageLength 32 = .ok (.iadd, 1) := by decide +kernel
theorem dM_pageLength_33 : decode kM_pageLength 33 = .ok (.iload 4, 2) := by decide +kernel
theorem dM_pageLength_35 : decode kM_pageLength 35 = .ok (.iadd, 1) := by decide +kernel
theorem dM_pageLength_36 : decode kM_pageLength 36 = .ok (.iaload, 1) := by decide +kernel
theorem dM_pageLength_37 : decode kM_pageLength 37 = .ok (.iadd, 1) := by decide +kernel
theorem dM_pageLength_38 : decode kM_pageLength 38 = .ok (.istore_n 3, 1) := by decide +kernel
theorem dM_pageLength_39 : decode kM_pageLength 39 = .ok (.iinc 4 1, 3) := by decide +kernel
theorem dM_pageLength_42 : decode kM_pageLength 42 = .ok (.goto (-24), 3) := by decide +kernel
theorem dM_pageLength_45 : decode kM_pageLength 45 = .ok (.iload_n 3, 1) := by decide +kernel
theorem dM_pageLength_46 : decode kM_pageLength 46 = .ok (.ireturn, 1) := by decide +kernel
def bl_M_pageLength_18 (θ : TH) (a0_18 : Nat) (x1_18 : Int32) (x2_18 : Int32) (K : Int32 → VT → UT → Prop) (kb18 : Int32 → Int32 → VT → UT → Prop) (x3_18 : Int32) (x4_18 : Int32) (V : VT) (U : UT) : Prop := ((x2_18 ≤ x4_18 → K x3_18 V U) ∧ (¬ x2_18 ≤ x4_18 → isO θ a0_18 12 ∧ (U a0_18 0) ≠ 0 ∧ ∃ n_11, isA θ (U a0_18 0) 0 n_11 ∧ vp_in ((x1_18 + (14 : Int32)) + x4_18) n_11 ∧ ∀ y_14 : Int32, y_14 = (x3_18 + (V (U a0_18 0) ((x1_18 + (14 : Int32)) + x4_18).toNatClampNeg)) → ∀ y_15 : Int32, y_15 = x4_18 + (1 : Int32) → kb18 y_14 y_15 V U))
def wl_M_pageLength_18 (θ : TH) (a0_18 : Nat) (x1_18 : Int32) (x2_18 : Int32) (K : Int32 → VT → UT → Prop) : Nat → Int32 → Int32 → VT → UT → Prop
  | 0, _, _, _, _ => False
  | n + 1, x3_18, x4_18, V, U => bl_M_pageLength_18 θ a0_18 x1_18 x2_18 K (wl_M_pageLength_18 θ a0_18 x1_18 x2_18 K n) x3_18 x4_18 V U
def wp_M_pageLength (θ : TH) (a0 : Nat) (x1 : Int32) (V : VT) (U : UT) (K : Int32 → VT → UT → Prop) : Prop := isO θ a0 12 ∧ (U a0 0) ≠ 0 ∧ ∃ n_3, isA θ (U a0 0) 0 n_3 ∧ vp_in (x1 + (13 : Int32)) n_3 ∧ ∀ y_6 : Int32, y_6 = (V (U a0 0) (x1 + (13 : Int32)).toNatClampNeg) → ∀ y_7 : Int32, y_7 = ((14 : Int32) + y_6) → ∃ n, wl_M_pageLength_18 θ a0 x1 y_6 K n y_7 (0 : Int32) V U
set_option maxRecDepth 100000 in
set_option maxHeartbeats 4000000 in
theorem c_M_pageLength (l : Launch) (θ : TH) (a0 : Nat) (x1 : Int32) (V : VT) (U : UT) (K : Int32 → VT → UT → Prop) (hw : wp_M_pageLength θ a0 x1 V U K) : CMi l yM_pageLength kM_pageLength 5 (some .int) rmM_pageLength θ [.ref a0, .int x1] V U K := by
  refine g_met nRM (by decide +kernel) rfl (Nat.le_of_ble_eq_true rfl) (fun p e s m args below meth c ls hC hr hlk hwo hl => ?_)
  have hx := hC.1
  have hb := hC.2.1
  have hS : Sx θ s s.heap [] := va_S.rf
  have hl : lv_has ls 5 [(0, .ref a0), (1, .int x1)] := hl
  have L18 : ∀ (a0_18 : Nat) (x1_18 : Int32) (x2_18 : Int32) (n18 : Nat) (x3_18 : Int32) (x4_18 : Int32) (V : VT) (U : UT) (H : Heap) (locs : List Loc) (ls : Array Slot), wl_M_pageLength_18 θ a0_18 x1_18 x2_18 K n18 x3_18 x4_18 V U → wo θ V U H → Sx θ s H locs → lv_has ls 5 [(0, .ref a0_18), (1, .int x1_18), (2, .int x2_18), (3, .int x3_18), (4, .int x4_18)] → W p l e rmM_pageLength s m args below meth c H locs 0 0 (MQ below (QI θ K) args s 0 0 (aT θ)) (F0 m 18 ls []) := by
    intro a0_18 x1_18 x2_18 n18
    induction n18 with
    | zero => intro x3_18 x4_18 V U H locs ls hw hwo hS hl; exact (show False from hw).elim
    | succ n18 ih18 =>
      intro x3_18 x4_18 V U H locs ls hw hwo hS hl
      replace hw : bl_M_pageLength_18 θ a0_18 x1_18 x2_18 K (wl_M_pageLength_18 θ a0_18 x1_18 x2_18 K n18) x3_18 x4_18 V U := hw
      unfold bl_M_pageLength_18 at hw
      refine lv_iload hx hb dM_pageLength_18 (lv_at hl 4 rfl) ?_
      refine lv_iload_n hx hb dM_pageLength_20 rfl (lv_at hl 2 rfl) ?_
      refine lv_icmp_ge (tgt := 45) hx hb dM_pageLength_21 (by decide) (fun hc_8 => ?_) (fun hc_8 => ?_)
      · replace hw := hw.1 hc_8
        refine lv_iload_n hx hb dM_pageLength_45 rfl (lv_at hl 3 rfl) ?_
        exact g_iret hC hr hlk hw hwo hS dM_pageLength_46
      · replace hw := hw.2 hc_8
        refine lv_iload_n hx hb dM_pageLength_24 rfl (lv_at hl 3 rfl) ?_
        refine lv_aload_n hx hb dM_pageLength_25 rfl (lv_at hl 0 rfl) ?_
        obtain ⟨ho_9, hw⟩ := hw
        obtain ⟨hz_10, hw⟩ := hw
        refine g_getR hC fkM_7 rfl hwo ho_9 hz_10 dM_pageLength_26 ?_
        refine lv_iload_n hx hb dM_pageLength_29 rfl (lv_at hl 1 rfl) ?_
        refine lv_bipush (v := 14) hx hb dM_pageLength_30 (by decide) ?_
        refine lv_iadd hx hb dM_pageLength_32 ?_
        refine lv_iload hx hb dM_pageLength_33 (lv_at hl 4 rfl) ?_
        refine lv_iadd hx hb dM_pageLength_35 ?_
        obtain ⟨n_11, ha_12, hw⟩ := hw
        obtain ⟨hi_13, hw⟩ := hw
        refine g_iald hC hwo ha_12 hi_13 dM_pageLength_36 ?_
        refine lv_iadd hx hb dM_pageLength_37 ?_
        refine lv_topi (fun y_14 ey_14 => ?_)
        replace hw := hw y_14 ey_14
        refine lv_istore_n (i := 3) (lv' := [(3, .int y_14), (0, .ref a0_18), (1, .int x1_18), (2, .int x2_18), (4, .int x4_18)]) hx hb dM_pageLength_38 rfl hl (by decide) rfl (fun ls hl => ?_)
        obtain ⟨y_15, ey_15⟩ : ∃ z : Int32, z = x4_18 + (1 : Int32) := ⟨_, rfl⟩
        replace hw := hw y_15 ey_15
        refine lv_iinc (k := 4) (v := y_15) (lv' := [(4, .int y_15), (3, .int y_14), (0, .ref a0_18), (1, .int x1_18), (2, .int x2_18)]) hx hb dM_pageLength_39 hl rfl (by rw [ey_15]; rfl) (by decide) rfl (fun ls hl => ?_)
        refine lv_goto (tgt := 18) hx hb dM_pageLength_42 (by decide) ?_
        exact ih18 _ _ _ _ _ _ _ hw hwo hS (lv_sub hl [2, 3, 4, 1, 0] rfl)
  unfold wp_M_pageLength at hw
  refine lv_aload_n hx hb dM_pageLength_0 rfl (lv_at hl 0 rfl) ?_
  obtain ⟨ho_1, hw⟩ := hw
  obtain ⟨hz_2, hw⟩ := hw
  refine g_getR hC fkM_7 rfl hwo ho_1 hz_2 dM_pageLength_1 ?_
  refine lv_iload_n hx hb dM_pageLength_4 rfl (lv_at hl 1 rfl) ?_
  refine lv_bipush (v := 13) hx hb dM_pageLength_5 (by decide) ?_
  refine lv_iadd hx hb dM_pageLength_7 ?_
  obtain ⟨n_3, ha_4, hw⟩ := hw
  obtain ⟨hi_5, hw⟩ := hw
  refine g_iald hC hwo ha_4 hi_5 dM_pageLength_8 ?_
  refine lv_topi (fun y_6 ey_6 => ?_)
  replace hw := hw y_6 ey_6
  refine lv_istore_n (i := 2) (lv' := [(2, .int y_6), (0, .ref a0), (1, .int x1)]) hx hb dM_pageLength_9 rfl hl (by decide) rfl (fun ls hl => ?_)
  refine lv_bipush (v := 14) hx hb dM_pageLength_10 (by decide) ?_
  refine lv_iload_n hx hb dM_pageLength_12 rfl (lv_at hl 0 rfl) ?_
  refine lv_iadd hx hb dM_pageLength_13 ?_
  refine lv_topi (fun y_7 ey_7 => ?_)
  replace hw := hw y_7 ey_7
  refine lv_istore_n (i := 3) (lv' := [(3, .int y_7), (2, .int y_6), (0, .ref a0), (1, .int x1)]) hx hb dM_pageLength_14 rfl hl (by decide) rfl (fun ls hl => ?_)
  refine lv_iconst (v := 0) hx hb dM_pageLength_15 (by decide) ?_
  refine lv_istore (i := 4) (lv' := [(4, .int (0 : Int32)), (3, .int y_7), (2, .int y_6), (0, .ref a0), (1, .int x1)]) hx hb dM_pageLength_16 hl (by decide) rfl (fun ls hl => ?_)
  obtain ⟨n, hw⟩ := hw
  exact L18 _ _ _ n _ _ _ _ _ _ _ hw hwo hS (lv_sub hl [3, 4, 2, 1, 0] rfl)
theorem dM_state_0 : decode kM_state 0 = .ok (.iconst 0, 1) := by decide +kernel
theorem dM_state_1 : decode kM_state 1 = .ok (.istore_n 2, 1) := by decide +kernel
theorem dM_state_2 : decode kM_state 2 = .ok (.iload_n 2, 1) := by decide +kernel
theorem dM_state_3 : decode kM_state 3 = .ok (.iconst 4, 1) := by decide +kernel
theorem dM_state_4 : decode kM_state 4 = .ok (.if_icmp .ge 36, 3) := by decide +kernel
theorem dM_state_7 : decode kM_state 7 = .ok (.iload_n 1, 1) := by decide +kernel
theorem dM_state_8 : decode kM_state 8 = .ok (.iload_n 2, 1) := by decide +kernel
theorem dM_state_9 : decode kM_state 9 = .ok (.iadd, 1) := by decide +kernel
theorem dM_state_10 : decode kM_state 10 = .ok (.aload_n 0, 1) := by decide +kernel
theorem dM_state_11 : decode kM_state 11 = .ok (.getfield 132, 3) := by decide +kernel
theorem dM_state_14 : decode kM_state 14 = .ok (.if_icmp .ge 20, 3) := by decide +kernel
theorem dM_state_17 : decode kM_state 17 = .ok (.aload_n 0, 1) := by decide +kernel
theorem dM_state_18 : decode kM_state 18 = .ok (.getfield 7, 3) := by decide +kernel
theorem dM_state_21 : decode kM_state 21 = .ok (.iload_n 1, 1) := by decide +kernel
theorem dM_state_22 : decode kM_state 22 = .ok (.iload_n 2, 1) := by decide +kernel
theorem dM_state_23 : decode kM_state 23 = .ok (.iadd, 1) := by decide +kernel
theorem dM_state_24 : decode kM_state 24 = .ok (.iaload, 1) := by decide +kernel
theorem dM_state_25 : decode kM_state 25 = .ok (.iload_n 2, 1) := by decide +kernel
theorem dM_state_26 : decode kM_state 26 = .ok (.invokestatic 141, 3) := by decide +kernel
theorem dM_state_29 : decode kM_state 29 = .ok (.if_icmp .eq 5, 3) := by decide +kernel
theorem dM_state_32 : decode kM_state 32 = .ok (.iconst 0, 1) := by decide +kernel
theorem dM_state_33 : decode kM_state 33 = .ok (.ireturn, 1) := by decide +kernel
theorem dM_state_34 : decode kM_state 34 = .ok (.iinc 2 1, 3) := by decide +kernel
theorem dM_state_37 : decode kM_state 37 = .ok (.goto (-35), 3) := by decide +kernel
theorem dM_state_40 : decode kM_state 40 = .ok (.iload_n 1, 1) := by decide +kernel
theorem dM_state_41 : decode kM_state 41 = .ok (.iconst 4, 1) := by decide +kernel
theorem dM_state_42 : decode kM_state 42 = .ok (.iadd, 1) := by decide +kernel
theorem dM_state_43 : decode kM_state 43 = .ok (.aload_n 0, 1) := by decide +kernel
theorem dM_state_44 : decode kM_state 44 = .ok (.getfield 132, 3) := by decide +kernel
theorem dM_state_47 : decode kM_state 47 = .ok (.if_icmp .ge 18, 3) := by decide +kernel
theorem dM_state_50 : decode kM_state 50 = .ok (.aload_n 0, 1) := by decide +kernel
theorem dM_state_51 : decode kM_state 51 = .ok (.getfield 7, 3) := by decide +kernel
theorem dM_state_54 : decode kM_state 54 = .ok (.iload_n 1, 1) := by decide +kernel
theorem dM_state_55 : decode kM_state 55 = .ok (.iconst 4, 1) := by decide +kernel
theorem dM_state_56 : decode kM_state 56 = .ok (.iadd, 1) := by decide +kernel
theorem dM_state_57 : decode kM_state 57 = .ok (.iaload, 1) := by decide +kernel
theorem dM_state_58 : decode kM_state 58 = .ok (.bipush 7, 2) := by decide +kernel
theorem dM_state_60 : decode kM_state 60 = .ok (.if_icmp .le 5, 3) := by decide +kernel
theorem dM_state_63 : decode kM_state 63 = .ok (.iconst 0, 1) := by decide +kernel
theorem dM_state_64 : decode kM_state 64 = .ok (.ireturn, 1) := by decide +kernel
theorem dM_state_65 : decode kM_state 65 = .ok (.iload_n 1, 1) := by decide +kernel
theorem dM_state_66 : decode kM_state 66 = .ok (.bipush 13, 2) := by decide +kernel
theorem dM_state_68 : decode kM_state 68 = .ok (.iadd, 1) := by decide +kernel
theorem dM_state_69 : decode kM_state 69 = .ok (.aload_n 0, 1) := by decide +kernel
theorem dM_state_70 : decode kM_state 70 = .ok (.getfield 132, 3) := by decide +kernel
theorem dM_state_73 : decode kM_state 73 = .ok (.if_icmp .lt 5, 3) := by decide +kernel
theorem dM_state_76 : decode kM_state 76 = .ok (.iconst 1, 1) := by decide +kernel
theorem dM_state_77 : decode kM_state 77 = .ok (.ireturn, 1) := by decide +kernel
theorem dM_state_78 : decode kM_state 78 = .ok (.aload_n 0, 1) := by decide +kernel
theorem dM_state_79 : decode kM_state 79 = .ok (.getfield 7, 3) := by decide +kernel
theorem dM_state_82 : decode kM_state 82 = .ok (.iload_n 1, 1) := by decide +kernel
theorem dM_state_83 : decode kM_state 83 = .ok (.bipush 13, 2) := by decide +kernel
theorem dM_state_85 : decode kM_state 85 = .ok (.iadd, 1) := by decide +kernel
theorem dM_state_86 : decode kM_state 86 = .ok (.iaload, 1) := by decide +kernel
theorem dM_state_87 : decode kM_state 87 = .ok (.istore_n 2, 1) := by decide +kernel
theorem dM_state_88 : decode kM_state 88 = .ok (.iload_n 2, 1) := by decide +kernel
theorem dM_state_89 : decode kM_state 89 = .ok (.bipush 6, 2) := by decide +kernel
theorem dM_state_91 : decode kM_state 91 = .ok (.if_icmp .le 5, 3) := by decide +kernel
theorem dM_state_94 : decode kM_state 94 = .ok (.iconst 0, 1) := by decide +kernel
theorem dM_state_95 : decode kM_state 95 = .ok (.ireturn, 1) := by decide +kernel
theorem dM_state_96 : decode kM_state 96 = .ok (.iconst 0, 1) := by decide +kernel
theorem dM_state_97 : decode kM_state 97 = .ok (.istore_n 3, 1) := by decide +kernel
theorem dM_state_98 : decode kM_state 98 = .ok (.iload_n 3, 1) := by decide +kernel
theorem dM_state_99 : decode kM_state 99 = .ok (.iload_n 2, 1) := by decide +kernel
theorem dM_state_100 : decode kM_state 100 = .ok (.if_icmp .ge 40, 3) := by decide +kernel
theorem dM_state_103 : decode kM_state 103 = .ok (.iload_n 1, 1) := by decide +kernel
theorem dM_state_104 : decode kM_state 104 = .ok (.bipush 14, 2) := by decide +kernel
theorem dM_state_106 : decode kM_state 106 = .ok (.iadd, 1) := by decide +kernel
theorem dM_state_107 : decode kM_state 107 = .ok (.iload_n 3, 1) := by decide +kernel
theorem dM_state_108 : decode kM_state 108 = .ok (.iadd, 1) := by decide +kernel
theorem dM_state_109 : decode kM_state 109 = .ok (.aload_n 0, 1) := by decide +kernel
theorem dM_state_110 : decode kM_state 110 = .ok (.getfield 132, 3) := by decide +kernel
theorem dM_state_113 : decode kM_state 113 = .ok (.if_icmp .ge 21, 3) := by decide +kernel
theorem dM_state_116 : decode kM_state 116 = .ok (.aload_n 0, 1) := by decide +kernel
theorem dM_state_117 : decode kM_state 117 = .ok (.getfield 7, 3) := by decide +kernel
theorem dM_state_120 : decode kM_state 120 = .ok (.iload_n 1, 1) := by decide +kernel
theorem dM_state_121 : decode kM_state 121 = .ok (.bipush 14, 2) := by decide +kernel
theorem dM_state_123 : decode kM_state 123 = .ok (.iadd, 1) := by decide +kernel
theorem dM_state_124 : decode kM_state 124 = .ok (.iload_n 3, 1) := by decide +kernel
theorem dM_state_125 : decode kM_state 125 = .ok (.iadd, 1) := by decide +kernel
theorem dM_state_126 : decode kM_state 126 = .ok (.iaload, 1) := by decide +kernel
theorem dM_state_127 : decode kM_state 127 = .ok (.bipush 15, 2) := by decide +kernel
theorem dM_state_129 : decode kM_state 129 = .ok (.if_icmp .le 5, 3) := by decide +kernel
theorem dM_state_132 : decode kM_state 132 = .ok (.iconst 0, 1) := by decide +kernel
theorem dM_state_133 : decode kM_state 133 = .ok (.ireturn, 1) := by decide +kernel
theorem dM_state_134 : decode kM_state 134 = .ok (.iinc 3 1, 3) := by decide +kernel
theorem dM_state_137 : decode kM_state 137 = .ok (.goto (-39), 3) := by decide +kernel
theorem dM_state_140 : decode kM_state 140 = .ok (.iload_n 1, 1) := by decide +kernel
theorem dM_state_141 : decode kM_state 141 = .ok (.bipush 14, 2) := by decide +kernel
theorem dM_state_143 : decode kM_state 143 = .ok (.iadd, 1) := by decide +kernel
theorem dM_state_144 : decode kM_state 144 = .ok (.iload_n 2, 1) := by decide +kernel
theorem dM_state_145 : decode kM_state 145 = .ok (.iadd, 1) := by decide +kernel
theorem dM_state_146 : decode kM_state 146 = .ok (.aload_n 0, 1) := by decide +kernel
theorem dM_state_147 : decode kM_state 147 = .ok (.getfield 132, 3) := by decide +kernel
theorem dM_state_150 : decode kM_state 150 = .ok (.if_icmp .gt 17, 3) := by decide +kernel
theorem dM_state_153 : decode kM_state 153 = .ok (.iload_n 1, 1) := by decide +kernel
theorem dM_state_154 : decode kM_state 154 = .ok (.aload_n 0, 1) := by decide +kernel
theorem dM_state_155 : decode kM_state 155 = .ok (.iload_n 1, 1) := by decide +kernel
theorem dM_state_156 : decode kM_state 156 = .ok (.invokevirtual 145, 3) := by decide +kernel
theorem dM_state_159 : decode kM_state 159 = .ok (.iadd, 1) := by decide +kernel
theorem dM_state_160 : decode kM_state 160 = .ok (.aload_n 0, 1) := by decide +kernel
theorem dM_state_161 : decode kM_state 161 = .ok (.getfield 132, 3) := by decide +kernel
theorem dM_state_164 : decode kM_state 164 = .ok (.if_icmp .le 5, 3) := by decide +kernel
theorem dM_state_167 : decode kM_state 167 = .ok (.iconst 1, 1) := by decide +kernel
theorem dM_state_168 : decode kM_state 168 = .ok (.ireturn, 1) := by decide +kernel
theorem dM_state_169 : decode kM_state 169 = .ok (.aload_n 0, 1) := by decide +kernel
theorem dM_state_170 : decode kM_state 170 = .ok (.iload_n 1, 1) := by decide +kernel
theorem dM_state_171 : decode kM_state 171 = .ok (.aload_n 0, 1) := by decide +kernel
theorem dM_state_172 : decode kM_state 172 = .ok (.iload_n 1, 1) := by decide +kernel
theorem dM_state_173 : decode kM_state 173 = .ok (.invokevirtual 145, 3) := by decide +kernel
theorem dM_state_176 : decode kM_state 176 = .ok (.invokevirtual 148, 3) := by decide +kernel
theorem dM_state_179 : decode kM_state 179 = .ok (.istore_n 3, 1) := by decide +kernel
theorem dM_state_180 : decode kM_state 180 = .ok (.iconst 0, 1) := by decide +kernel
theorem dM_state_181 : decode kM_state 181 = .ok (.istore 4, 2) := by decide +kernel
theorem dM_state_183 : decode kM_state 183 = .ok (.iload 4, 2) := by decide +kernel
theorem dM_state_185 : decode kM_state 185 = .ok (.iconst 4, 1) := by decide +kernel
theorem dM_state_186 : decode kM_state 186 = .ok (.if_icmp .ge 37, 3) := by decide +kernel
theorem dM_state_189 : decode kM_state 189 = .ok (.aload_n 0, 1) := by decide +kernel
theorem dM_state_190 : decode kM_state 190 = .ok (.getfield 7, 3) := by decide +kernel
theorem dM_state_193 : decode kM_state 193 = .ok (.iload_n 1, 1) := by decide +kernel
theorem dM_state_194 : decode kM_state 194 = .ok (.bipush 9, 2) := by decide +kernel
theorem dM_state_196 : decode kM_state 196 = .ok (.iadd, 1) := by decide +kernel
theorem dM_state_197 : decode kM_state 197 = .ok (.iload 4, 2) := by decide +kernel
theorem dM_state_199 : decode kM_state 199 = .ok (.iadd, 1) := by decide +kernel
theorem dM_state_200 : decode kM_state 200 = .ok (.iaload, 1) := by decide +kernel
theorem dM_state_201 : decode kM_state 201 = .ok (.iload_n 3, 1) := by decide +kernel
theorem dM_state_202 : decode kM_state 202 = .ok (.bipush 8, 2) := by decide +kernel
theorem dM_state_204 : decode kM_state 204 = .ok (.iload 4, 2) := by decide +kernel
theorem dM_state_206 : decode kM_state 206 = .ok (.imul, 1) := by decide +kernel
theorem dM_state_207 : decode kM_state 207 = .ok (.iushr, 1) := by decide +kernel
theorem dM_state_208 : decode kM_state 208 = .ok (.sipush 255, 3) := by decide +kernel
theorem dM_state_211 : decode kM_state 211 = .ok (.iand, 1) := by decide +kernel
theorem dM_state_212 : decode kM_state 212 = .ok (.if_icmp .eq 5, 3) := by decide +kernel
theorem dM_state_215 : decode kM_state 215 = .ok (.iconst 0, 1) := by decide +kernel
theorem dM_state_216 : decode kM_state 216 = .ok (.ireturn, 1) := by decide +kernel
theorem dM_state_217 : decode kM_state 217 = .ok (.iinc 4 1, 3) := by decide +kernel
theorem dM_state_220 : decode kM_state 220 = .ok (.goto (-37), 3) := by decide +kernel
theorem dM_state_223 : decode kM_state 223 = .ok (.iconst 2, 1) := by decide +kernel
theorem dM_state_224 : decode kM_state 224 = .ok (.ireturn, 1) := by decide +kernel
def bl_M_state_183 (θ : TH) (a0_183 : Nat) (x1_183 : Int32) (x3_183 : Int32) (K : Int32 → VT → UT → Prop) (kb183 : Int32 → VT → UT → Prop) (x4_183 : Int32) (V : VT) (U : UT) : Prop := (((4 : Int32) ≤ x4_183 → K (2 : Int32) V U) ∧ (¬ (4 : Int32) ≤ x4_183 → isO θ a0_183 12 ∧ (U a0_183 0) ≠ 0 ∧ ∃ n_54, isA θ (U a0_183 0) 0 n_54 ∧ vp_in ((x1_183 + (9 : Int32)) + x4_183) n_54 ∧ (((V (U a0_183 0) ((x1_183 + (9 : Int32)) + x4_183).toNatClampNeg) = ((x3_183.toUInt32 >>> (((8 : Int32) * x4_183).toUInt32 &&& Int32.toUInt32 31)).toInt32 &&& (255 : Int32)) → ∀ y_58 : Int32, y_58 = x4_183 + (1 : Int32) → kb183 y_58 V U) ∧ (¬ (V (U a0_183 0) ((x1_183 + (9 : Int32)) + x4_183).toNatClampNeg) = ((x3_183.toUInt32 >>> (((8 : Int32) * x4_183).toUInt32 &&& Int32.toUInt32 31)).toInt32 &&& (255 : Int32)) → K (0 : Int32) V U))))
def wl_M_state_183 (θ : TH) (a0_183 : Nat) (x1_183 : Int32) (x3_183 : Int32) (K : Int32 → VT → UT → Prop) : Nat → Int32 → VT → UT → Prop
  | 0, _, _, _ => False
  | n + 1, x4_183, V, U => bl_M_state_183 θ a0_183 x1_183 x3_183 K (wl_M_state_183 θ a0_183 x1_183 x3_183 K n) x4_183 V U
def bl_M_state_98 (θ : TH) (a0_98 : Nat) (x1_98 : Int32) (x2_98 : Int32) (K : Int32 → VT → UT → Prop) (kb98 : Int32 → VT → UT → Prop) (x3_98 : Int32) (V : VT) (U : UT) : Prop := ((x2_98 ≤ x3_98 → isO θ a0_98 12 ∧ (((V a0_98 1) < ((x1_98 + (14 : Int32)) + x2_98) → K (1 : Int32) V U) ∧ (¬ (V a0_98 1) < ((x1_98 + (14 : Int32)) + x2_98) → wp_M_pageLength θ a0_98 x1_98 V U (fun r_34 V_32 U_33 => (((x1_98 + r_34) ≤ (V_32 a0_98 1) → wp_M_pageLength θ a0_98 x1_98 V_32 U_33 (fun r_38 V_36 U_37 => wp_M_check θ a0_98 x1_98 r_38 V_36 U_37 (fun r_41 V_39 U_40 => ∃ n, wl_M_state_183 θ a0_98 x1_98 r_41 K n (0 : Int32) V_39 U_40))) ∧ (¬ (x1_98 + r_34) ≤ (V_32 a0_98 1) → K (1 : Int32) V_32 U_33)))))) ∧ (¬ x2_98 ≤ x3_98 → isO θ a0_98 12 ∧ (((V a0_98 1) ≤ ((x1_98 + (14 : Int32)) + x3_98) → ∀ y_44 : Int32, y_44 = x3_98 + (1 : Int32) → kb98 y_44 V U) ∧ (¬ (V a0_98 1) ≤ ((x1_98 + (14 : Int32)) + x3_98) → (U a0_98 0) ≠ 0 ∧ ∃ n_46, isA θ (U a0_98 0) 0 n_46 ∧ vp_in ((x1_98 + (14 : Int32)) + x3_98) n_46 ∧ (((V (U a0_98 0) ((x1_98 + (14 : Int32)) + x3_98).toNatClampNeg) ≤ (15 : Int32) → ∀ y_50 : Int32, y_50 = x3_98 + (1 : Int32) → kb98 y_50 V U) ∧ (¬ (V (U a0_98 0) ((x1_98 + (14 : Int32)) + x3_98).toNatClampNeg) ≤ (15 : Int32) → K (0 : Int32) V U))))))
def wl_M_state_98 (θ : TH) (a0_98 : Nat) (x1_98 : Int32) (x2_98 : Int32) (K : Int32 → VT → UT → Prop) : Nat → Int32 → VT → UT → Prop
  | 0, _, _, _ => False
  | n + 1, x3_98, V, U => bl_M_state_98 θ a0_98 x1_98 x2_98 K (wl_M_state_98 θ a0_98 x1_98 x2_98 K n) x3_98 V U
def wb_M_state_65 (θ : TH) (a0_65 : Nat) (x1_65 : Int32) (K : Int32 → VT → UT → Prop) (V : VT) (U : UT) : Prop := isO θ a0_65 12 ∧ (((x1_65 + (13 : Int32)) < (V a0_65 1) → (U a0_65 0) ≠ 0 ∧ ∃ n_24, isA θ (U a0_65 0) 0 n_24 ∧ vp_in (x1_65 + (13 : Int32)) n_24 ∧ ∀ y_27 : Int32, y_27 = (V (U a0_65 0) (x1_65 + (13 : Int32)).toNatClampNeg) → ((y_27 ≤ (6 : Int32) → ∃ n, wl_M_state_98 θ a0_65 x1_65 y_27 K n (0 : Int32) V U) ∧ (¬ y_27 ≤ (6 : Int32) → K (0 : Int32) V U))) ∧ (¬ (x1_65 + (13 : Int32)) < (V a0_65 1) → K (1 : Int32) V U))
def bl_M_state_2 (θ : TH) (a0_2 : Nat) (x1_2 : Int32) (K : Int32 → VT → UT → Prop) (kb2 : Int32 → VT → UT → Prop) (x2_2 : Int32) (V : VT) (U : UT) : Prop := (((4 : Int32) ≤ x2_2 → isO θ a0_2 12 ∧ (((V a0_2 1) ≤ (x1_2 + (4 : Int32)) → wb_M_state_65 θ a0_2 x1_2 K V U) ∧ (¬ (V a0_2 1) ≤ (x1_2 + (4 : Int32)) → (U a0_2 0) ≠ 0 ∧ ∃ n_5, isA θ (U a0_2 0) 0 n_5 ∧ vp_in (x1_2 + (4 : Int32)) n_5 ∧ (((V (U a0_2 0) (x1_2 + (4 : Int32)).toNatClampNeg) ≤ (7 : Int32) → wb_M_state_65 θ a0_2 x1_2 K V U) ∧ (¬ (V (U a0_2 0) (x1_2 + (4 : Int32)).toNatClampNeg) ≤ (7 : Int32) → K (0 : Int32) V U))))) ∧ (¬ (4 : Int32) ≤ x2_2 → isO θ a0_2 12 ∧ (((V a0_2 1) ≤ (x1_2 + x2_2) → ∀ y_11 : Int32, y_11 = x2_2 + (1 : Int32) → kb2 y_11 V U) ∧ (¬ (V a0_2 1) ≤ (x1_2 + x2_2) → (U a0_2 0) ≠ 0 ∧ ∃ n_13, isA θ (U a0_2 0) 0 n_13 ∧ vp_in (x1_2 + x2_2) n_13 ∧ wp_M_magic θ x2_2 V U (fun r_18 V_16 U_17 => (((V (U a0_2 0) (x1_2 + x2_2).toNatClampNeg) = r_18 → ∀ y_20 : Int32, y_20 = x2_2 + (1 : Int32) → kb2 y_20 V_16 U_17) ∧ (¬ (V (U a0_2 0) (x1_2 + x2_2).toNatClampNeg) = r_18 → K (0 : Int32) V_16 U_17)))))))
def wl_M_state_2 (θ : TH) (a0_2 : Nat) (x1_2 : Int32) (K : Int32 → VT → UT → Prop) : Nat → Int32 → VT → UT → Prop
  | 0, _, _, _ => False
  | n + 1, x2_2, V, U => bl_M_state_2 θ a0_2 x1_2 K (wl_M_state_2 θ a0_2 x1_2 K n) x2_2 V U
def wp_M_state (θ : TH) (a0 : Nat) (x1 : Int32) (V : VT) (U : UT) (K : Int32 → VT → UT → Prop) : Prop := ∃ n, wl_M_state_2 θ a0 x1 K n (0 : Int32) V U
set_option maxRecDepth 100000 in
set_option maxHeartbeats 4000000 in
theorem c_M_state (l : Launch) (θ : TH) (a0 : Nat) (x1 : Int32) (V : VT) (U : UT) (K : Int32 → VT → UT → Prop) (hw : wp_M_state θ a0 x1 V U K) : CMi l yM_state kM_state 5 (some .int) rmM_state θ [.ref a0, .int x1] V U K := by
  refine g_met nRM (by decide +kernel) rfl (Nat.le_of_ble_eq_true rfl) (fun p e s m args below meth c ls hC hr hlk hwo hl => ?_)
  have hx := hC.1
  have hb := hC.2.1
  have hS : Sx θ s s.heap [] := va_S.rf
  have hl : lv_has ls 5 [(0, .ref a0), (1, .int x1)] := hl
  have L183 : ∀ (a0_183 : Nat) (x1_183 : Int32) (x3_183 : Int32) (n183 : Nat) (x4_183 : Int32) (V : VT) (U : UT) (H : Heap) (locs : List Loc) (ls : Array Slot), wl_M_state_183 θ a0_183 x1_183 x3_183 K n183 x4_183 V U → wo θ V U H → Sx θ s H locs → lv_has ls 5 [(0, .ref a0_183), (1, .int x1_183), (3, .int x3_183), (4, .int x4_183)] → W p l e rmM_state s m args below meth c H locs 0 0 (MQ below (QI θ K) args s 0 0 (aT θ)) (F0 m 183 ls []) := by
    intro a0_183 x1_183 x3_183 n183
    induction n183 with
    | zero => intro x4_183 V U H locs ls hw hwo hS hl; exact (show False from hw).elim
    | succ n183 ih183 =>
      intro x4_183 V U H locs ls hw hwo hS hl
      replace hw : bl_M_state_183 θ a0_183 x1_183 x3_183 K (wl_M_state_183 θ a0_183 x1_183 x3_183 K n183) x4_183 V U := hw
      unfold bl_M_state_183 at hw
      refine lv_iload hx hb dM_state_183 (lv_at hl 3 rfl) ?_
      refine lv_iconst (v := 4) hx hb dM_state_185 (by decide) ?_
      refine lv_icmp_ge (tgt := 223) hx hb dM_state_186 (by decide) (fun hc_51 => ?_) (fun hc_51 => ?_)
      · replace hw := hw.1 hc_51
        refine lv_iconst (v := 2) hx hb dM_state_223 (by decide) ?_
        exact g_iret hC hr hlk hw hwo hS dM_state_224
      · replace hw := hw.2 hc_51
        refine lv_aload_n hx hb dM_state_189 rfl (lv_at hl 0 rfl) ?_
        obtain ⟨ho_52, hw⟩ := hw
        obtain ⟨hz_53, hw⟩ := hw
        refine g_getR hC fkM_7 rfl hwo ho_52 hz_53 dM_state_190 ?_
        refine lv_iload_n hx hb dM_state_193 rfl (lv_at hl 1 rfl) ?_
        refine lv_bipush (v := 9) hx hb dM_state_194 (by decide) ?_
        refine lv_iadd hx hb dM_state_196 ?_
        refine lv_iload hx hb dM_state_197 (lv_at hl 3 rfl) ?_
        refine lv_iadd hx hb dM_state_199 ?_
        obtain ⟨n_54, ha_55, hw⟩ := hw
        obtain ⟨hi_56, hw⟩ := hw
        refine g_iald hC hwo ha_55 hi_56 dM_state_200 ?_
        refine lv_iload_n hx hb dM_state_201 rfl (lv_at hl 2 rfl) ?_
        refine lv_bipush (v := 8) hx hb dM_state_202 (by decide) ?_
        refine lv_iload hx hb dM_state_204 (lv_at hl 3 rfl) ?_
        refine lv_imul hx hb dM_state_206 ?_
        refine lv_iushr hx hb dM_state_207 rfl ?_
        refine lv_sipush (v := 255) hx hb dM_state_208 (by decide) ?_
        refine lv_iand hx hb dM_state_211 ?_
        refine lv_icmp_eq (tgt := 217) hx hb dM_state_212 (by decide) (fun hc_57 => ?_) (fun hc_57 => ?_)
        · replace hw := hw.1 hc_57
          obtain ⟨y_58, ey_58⟩ : ∃ z : Int32, z = x4_183 + (1 : Int32) := ⟨_, rfl⟩
          replace hw := hw y_58 ey_58
          refine lv_iinc (k := 3) (v := y_58) (lv' := [(4, .int y_58), (0, .ref a0_183), (1, .int x1_183), (3, .int x3_183)]) hx hb dM_state_217 hl rfl (by rw [ey_58]; rfl) (by decide) rfl (fun ls hl => ?_)
          refine lv_goto (tgt := 183) hx hb dM_state_220 (by decide) ?_
          exact ih183 _ _ _ _ _ _ hw hwo hS (lv_sub hl [1, 2, 3, 0] rfl)
        · replace hw := hw.2 hc_57
          refine lv_iconst (v := 0) hx hb dM_state_215 (by decide) ?_
          exact g_iret hC hr hlk hw hwo hS dM_state_216
  have L98 : ∀ (a0_98 : Nat) (x1_98 : Int32) (x2_98 : Int32) (n98 : Nat) (x3_98 : Int32) (V : VT) (U : UT) (H : Heap) (locs : List Loc) (ls : Array Slot), wl_M_state_98 θ a0_98 x1_98 x2_98 K n98 x3_98 V U → wo θ V U H → Sx θ s H locs → lv_has ls 5 [(0, .ref a0_98), (1, .int x1_98), (2, .int x2_98), (3, .int x3_98)] → W p l e rmM_state s m args below meth c H locs 0 0 (MQ below (QI θ K) args s 0 0 (aT θ)) (F0 m 98 ls []) := by
    intro a0_98 x1_98 x2_98 n98
    induction n98 with
    | zero => intro x3_98 V U H locs ls hw hwo hS hl; exact (show False from hw).elim
    | succ n98 ih98 =>
      intro x3_98 V U H locs ls hw hwo hS hl
      replace hw : bl_M_state_98 θ a0_98 x1_98 x2_98 K (wl_M_state_98 θ a0_98 x1_98 x2_98 K n98) x3_98 V U := hw
      unfold bl_M_state_98 at hw
      refine lv_iload_n hx hb dM_state_98 rfl (lv_at hl 3 rfl) ?_
      refine lv_iload_n hx hb dM_state_99 rfl (lv_at hl 2 rfl) ?_
      refine lv_icmp_ge (tgt := 140) hx hb dM_state_100 (by decide) (fun hc_29 => ?_) (fun hc_29 => ?_)
      · replace hw := hw.1 hc_29
        refine lv_iload_n hx hb dM_state_140 rfl (lv_at hl 1 rfl) ?_
        refine lv_bipush (v := 14) hx hb dM_state_141 (by decide) ?_
        refine lv_iadd hx hb dM_state_143 ?_
        refine lv_iload_n hx hb dM_state_144 rfl (lv_at hl 2 rfl) ?_
        refine lv_iadd hx hb dM_state_145 ?_
        refine lv_aload_n hx hb dM_state_146 rfl (lv_at hl 0 rfl) ?_
        obtain ⟨ho_30, hw⟩ := hw
        refine g_getI hC fkM_132 rfl hwo ho_30 dM_state_147 ?_
        refine lv_icmp_gt (tgt := 167) hx hb dM_state_150 (by decide) (fun hc_31 => ?_) (fun hc_31 => ?_)
        · replace hw := hw.1 hc_31
          refine lv_iconst (v := 1) hx hb dM_state_167 (by decide) ?_
          exact g_iret hC hr hlk hw hwo hS dM_state_168
        · replace hw := hw.2 hc_31
          refine lv_iload_n hx hb dM_state_153 rfl (lv_at hl 1 rfl) ?_
          refine lv_aload_n hx hb dM_state_154 rfl (lv_at hl 0 rfl) ?_
          refine lv_iload_n hx hb dM_state_155 rfl (lv_at hl 1 rfl) ?_
          refine g_Vi (rest := [.int x1_98]) hC (c_M_pageLength l θ _ _ _ _ _ hw) mi_M_pageLength mlM_145 mv_M_pageLength ci_12 ho_30 hwo hS ⟨rfl, rfl⟩ ⟨by decide, by decide⟩ rfl hl.1 rfl (Nat.le_of_ble_eq_true rfl) dM_state_156 (fun r_34 V_32 U_33 hw H locs hwo hS => ?_)
          refine lv_iadd hx hb dM_state_159 ?_
          refine lv_aload_n hx hb dM_state_160 rfl (lv_at hl 0 rfl) ?_
          refine g_getI hC fkM_132 rfl hwo ho_30 dM_state_161 ?_
          refine lv_icmp_le (tgt := 169) hx hb dM_state_164 (by decide) (fun hc_35 => ?_) (fun hc_35 => ?_)
          · replace hw := hw.1 hc_35
            refine lv_aload_n hx hb dM_state_169 rfl (lv_at hl 0 rfl) ?_
            refine lv_iload_n hx hb dM_state_170 rfl (lv_at hl 1 rfl) ?_
            refine lv_aload_n hx hb dM_state_171 rfl (lv_at hl 0 rfl) ?_
            refine lv_iload_n hx hb dM_state_172 rfl (lv_at hl 1 rfl) ?_
            refine g_Vi (rest := [.int x1_98, .ref a0_98]) hC (c_M_pageLength l θ _ _ _ _ _ hw) mi_M_pageLength mlM_145 mv_M_pageLength ci_12 ho_30 hwo hS ⟨rfl, rfl⟩ ⟨by decide, by decide⟩ rfl hl.1 rfl (Nat.le_of_ble_eq_true rfl) dM_state_173 (fun r_38 V_36 U_37 hw H locs hwo hS => ?_)
            refine g_Vi (rest := []) hC (c_M_check l θ _ _ _ _ _ _ hw) mi_M_check mlM_148 mv_M_check ci_12 ho_30 hwo hS ⟨rfl, rfl⟩ ⟨by decide, by decide⟩ rfl hl.1 rfl (Nat.le_of_ble_eq_true rfl) dM_state_176 (fun r_41 V_39 U_40 hw H locs hwo hS => ?_)
            refine lv_istore_n (i := 3) (lv' := [(3, .int r_41), (0, .ref a0_98), (1, .int x1_98), (2, .int x2_98)]) hx hb dM_state_179 rfl hl (by decide) rfl (fun ls hl => ?_)
            refine lv_iconst (v := 0) hx hb dM_state_180 (by decide) ?_
            refine lv_istore (i := 4) (lv' := [(4, .int (0 : Int32)), (3, .int r_41), (0, .ref a0_98), (1, .int x1_98), (2, .int x2_98)]) hx hb dM_state_181 hl (by decide) rfl (fun ls hl => ?_)
            obtain ⟨n, hw⟩ := hw
            exact L183 _ _ _ n _ _ _ _ _ _ hw hwo hS (lv_sub hl [2, 3, 1, 0] rfl)
          · replace hw := hw.2 hc_35
            refine lv_iconst (v := 1) hx hb dM_state_167 (by decide) ?_
            exact g_iret hC hr hlk hw hwo hS dM_state_168
      · replace hw := hw.2 hc_29
        refine lv_iload_n hx hb dM_state_103 rfl (lv_at hl 1 rfl) ?_
        refine lv_bipush (v := 14) hx hb dM_state_104 (by decide) ?_
        refine lv_iadd hx hb dM_state_106 ?_
        refine lv_iload_n hx hb dM_state_107 rfl (lv_at hl 3 rfl) ?_
        refine lv_iadd hx hb dM_state_108 ?_
        refine lv_aload_n hx hb dM_state_109 rfl (lv_at hl 0 rfl) ?_
        obtain ⟨ho_42, hw⟩ := hw
        refine g_getI hC fkM_132 rfl hwo ho_42 dM_state_110 ?_
        refine lv_icmp_ge (tgt := 134) hx hb dM_state_113 (by decide) (fun hc_43 => ?_) (fun hc_43 => ?_)
        · replace hw := hw.1 hc_43
          obtain ⟨y_44, ey_44⟩ : ∃ z : Int32, z = x3_98 + (1 : Int32) := ⟨_, rfl⟩
          replace hw := hw y_44 ey_44
          refine lv_iinc (k := 3) (v := y_44) (lv' := [(3, .int y_44), (0, .ref a0_98), (1, .int x1_98), (2, .int x2_98)]) hx hb dM_state_134 hl rfl (by rw [ey_44]; rfl) (by decide) rfl (fun ls hl => ?_)
          refine lv_goto (tgt := 98) hx hb dM_state_137 (by decide) ?_
          exact ih98 _ _ _ _ _ _ hw hwo hS (lv_sub hl [1, 2, 3, 0] rfl)
        · replace hw := hw.2 hc_43
          refine lv_aload_n hx hb dM_state_116 rfl (lv_at hl 0 rfl) ?_
          obtain ⟨hz_45, hw⟩ := hw
          refine g_getR hC fkM_7 rfl hwo ho_42 hz_45 dM_state_117 ?_
          refine lv_iload_n hx hb dM_state_120 rfl (lv_at hl 1 rfl) ?_
          refine lv_bipush (v := 14) hx hb dM_state_121 (by decide) ?_
          refine lv_iadd hx hb dM_state_123 ?_
          refine lv_iload_n hx hb dM_state_124 rfl (lv_at hl 3 rfl) ?_
          refine lv_iadd hx hb dM_state_125 ?_
          obtain ⟨n_46, ha_47, hw⟩ := hw
          obtain ⟨hi_48, hw⟩ := hw
          refine g_iald hC hwo ha_47 hi_48 dM_state_126 ?_
          refine lv_bipush (v := 15) hx hb dM_state_127 (by decide) ?_
          refine lv_icmp_le (tgt := 134) hx hb dM_state_129 (by decide) (fun hc_49 => ?_) (fun hc_49 => ?_)
          · replace hw := hw.1 hc_49
            obtain ⟨y_50, ey_50⟩ : ∃ z : Int32, z = x3_98 + (1 : Int32) := ⟨_, rfl⟩
            replace hw := hw y_50 ey_50
            refine lv_iinc (k := 3) (v := y_50) (lv' := [(3, .int y_50), (0, .ref a0_98), (1, .int x1_98), (2, .int x2_98)]) hx hb dM_state_134 hl rfl (by rw [ey_50]; rfl) (by decide) rfl (fun ls hl => ?_)
            refine lv_goto (tgt := 98) hx hb dM_state_137 (by decide) ?_
            exact ih98 _ _ _ _ _ _ hw hwo hS (lv_sub hl [1, 2, 3, 0] rfl)
          · replace hw := hw.2 hc_49
            refine lv_iconst (v := 0) hx hb dM_state_132 (by decide) ?_
            exact g_iret hC hr hlk hw hwo hS dM_state_133
  have J65 : ∀ (a0_65 : Nat) (x1_65 : Int32) (V : VT) (U : UT) (H : Heap) (locs : List Loc) (ls : Array Slot), wb_M_state_65 θ a0_65 x1_65 K V U → wo θ V U H → Sx θ s H locs → lv_has ls 5 [(0, .ref a0_65), (1, .int x1_65)] → W p l e rmM_state s m args below meth c H locs 0 0 (MQ below (QI θ K) args s 0 0 (aT θ)) (F0 m 65 ls []) := by
    intro a0_65 x1_65 V U H locs ls hw hwo hS hl
    unfold wb_M_state_65 at hw
    refine lv_iload_n hx hb dM_state_65 rfl (lv_at hl 1 rfl) ?_
    refine lv_bipush (v := 13) hx hb dM_state_66 (by decide) ?_
    refine lv_iadd hx hb dM_state_68 ?_
    refine lv_aload_n hx hb dM_state_69 rfl (lv_at hl 0 rfl) ?_
    obtain ⟨ho_21, hw⟩ := hw
    refine g_getI hC fkM_132 rfl hwo ho_21 dM_state_70 ?_
    refine lv_icmp_lt (tgt := 78) hx hb dM_state_73 (by decide) (fun hc_22 => ?_) (fun hc_22 => ?_)
    · replace hw := hw.1 hc_22
      refine lv_aload_n hx hb dM_state_78 rfl (lv_at hl 0 rfl) ?_
      obtain ⟨hz_23, hw⟩ := hw
      refine g_getR hC fkM_7 rfl hwo ho_21 hz_23 dM_state_79 ?_
      refine lv_iload_n hx hb dM_state_82 rfl (lv_at hl 1 rfl) ?_
      refine lv_bipush (v := 13) hx hb dM_state_83 (by decide) ?_
      refine lv_iadd hx hb dM_state_85 ?_
      obtain ⟨n_24, ha_25, hw⟩ := hw
      obtain ⟨hi_26, hw⟩ := hw
      refine g_iald hC hwo ha_25 hi_26 dM_state_86 ?_
      refine lv_topi (fun y_27 ey_27 => ?_)
      replace hw := hw y_27 ey_27
      refine lv_istore_n (i := 2) (lv' := [(2, .int y_27), (0, .ref a0_65), (1, .int x1_65)]) hx hb dM_state_87 rfl hl (by decide) rfl (fun ls hl => ?_)
      refine lv_iload_n hx hb dM_state_88 rfl (lv_at hl 0 rfl) ?_
      refine lv_bipush (v := 6) hx hb dM_state_89 (by decide) ?_
      refine lv_icmp_le (tgt := 96) hx hb dM_state_91 (by decide) (fun hc_28 => ?_) (fun hc_28 => ?_)
      · replace hw := hw.1 hc_28
        refine lv_iconst (v := 0) hx hb dM_state_96 (by decide) ?_
        refine lv_istore_n (i := 3) (lv' := [(3, .int (0 : Int32)), (2, .int y_27), (0, .ref a0_65), (1, .int x1_65)]) hx hb dM_state_97 rfl hl (by decide) rfl (fun ls hl => ?_)
        obtain ⟨n, hw⟩ := hw
        exact L98 _ _ _ n _ _ _ _ _ _ hw hwo hS (lv_sub hl [2, 3, 1, 0] rfl)
      · replace hw := hw.2 hc_28
        refine lv_iconst (v := 0) hx hb dM_state_94 (by decide) ?_
        exact g_iret hC hr hlk hw hwo hS dM_state_95
    · replace hw := hw.2 hc_22
      refine lv_iconst (v := 1) hx hb dM_state_76 (by decide) ?_
      exact g_iret hC hr hlk hw hwo hS dM_state_77
  have L2 : ∀ (a0_2 : Nat) (x1_2 : Int32) (n2 : Nat) (x2_2 : Int32) (V : VT) (U : UT) (H : Heap) (locs : List Loc) (ls : Array Slot), wl_M_state_2 θ a0_2 x1_2 K n2 x2_2 V U → wo θ V U H → Sx θ s H locs → lv_has ls 5 [(0, .ref a0_2), (1, .int x1_2), (2, .int x2_2)] → W p l e rmM_state s m args below meth c H locs 0 0 (MQ below (QI θ K) args s 0 0 (aT θ)) (F0 m 2 ls []) := by
    intro a0_2 x1_2 n2
    induction n2 with
    | zero => intro x2_2 V U H locs ls hw hwo hS hl; exact (show False from hw).elim
    | succ n2 ih2 =>
      intro x2_2 V U H locs ls hw hwo hS hl
      replace hw : bl_M_state_2 θ a0_2 x1_2 K (wl_M_state_2 θ a0_2 x1_2 K n2) x2_2 V U := hw
      unfold bl_M_state_2 at hw
      refine lv_iload_n hx hb dM_state_2 rfl (lv_at hl 2 rfl) ?_
      refine lv_iconst (v := 4) hx hb dM_state_3 (by decide) ?_
      refine lv_icmp_ge (tgt := 40) hx hb dM_state_4 (by decide) (fun hc_1 => ?_) (fun hc_1 => ?_)
      · replace hw := hw.1 hc_1
        refine lv_iload_n hx hb dM_state_40 rfl (lv_at hl 1 rfl) ?_
        refine lv_iconst (v := 4) hx hb dM_state_41 (by decide) ?_
        refine lv_iadd hx hb dM_state_42 ?_
        refine lv_aload_n hx hb dM_state_43 rfl (lv_at hl 0 rfl) ?_
        obtain ⟨ho_2, hw⟩ := hw
        refine g_getI hC fkM_132 rfl hwo ho_2 dM_state_44 ?_
        refine lv_icmp_ge (tgt := 65) hx hb dM_state_47 (by decide) (fun hc_3 => ?_) (fun hc_3 => ?_)
        · replace hw := hw.1 hc_3
          exact J65 _ _ _ _ _ _ _ hw hwo hS (lv_sub hl [0, 1] rfl)
        · replace hw := hw.2 hc_3
          refine lv_aload_n hx hb dM_state_50 rfl (lv_at hl 0 rfl) ?_
          obtain ⟨hz_4, hw⟩ := hw
          refine g_getR hC fkM_7 rfl hwo ho_2 hz_4 dM_state_51 ?_
          refine lv_iload_n hx hb dM_state_54 rfl (lv_at hl 1 rfl) ?_
          refine lv_iconst (v := 4) hx hb dM_state_55 (by decide) ?_
          refine lv_iadd hx hb dM_state_56 ?_
          obtain ⟨n_5, ha_6, hw⟩ := hw
          obtain ⟨hi_7, hw⟩ := hw
          refine g_iald hC hwo ha_6 hi_7 dM_state_57 ?_
          refine lv_bipush (v := 7) hx hb dM_state_58 (by decide) ?_
          refine lv_icmp_le (tgt := 65) hx hb dM_state_60 (by decide) (fun hc_8 => ?_) (fun hc_8 => ?_)
          · replace hw := hw.1 hc_8
            exact J65 _ _ _ _ _ _ _ hw hwo hS (lv_sub hl [0, 1] rfl)
          · replace hw := hw.2 hc_8
            refine lv_iconst (v := 0) hx hb dM_state_63 (by decide) ?_
            exact g_iret hC hr hlk hw hwo hS dM_state_64
      · replace hw := hw.2 hc_1
        refine lv_iload_n hx hb dM_state_7 rfl (lv_at hl 1 rfl) ?_
        refine lv_iload_n hx hb dM_state_8 rfl (lv_at hl 2 rfl) ?_
        refine lv_iadd hx hb dM_state_9 ?_
        refine lv_aload_n hx hb dM_state_10 rfl (lv_at hl 0 rfl) ?_
        obtain ⟨ho_9, hw⟩ := hw
        refine g_getI hC fkM_132 rfl hwo ho_9 dM_state_11 ?_
        refine lv_icmp_ge (tgt := 34) hx hb dM_state_14 (by decide) (fun hc_10 => ?_) (fun hc_10 => ?_)
        · replace hw := hw.1 hc_10
          obtain ⟨y_11, ey_11⟩ : ∃ z : Int32, z = x2_2 + (1 : Int32) := ⟨_, rfl⟩
          replace hw := hw y_11 ey_11
          refine lv_iinc (k := 2) (v := y_11) (lv' := [(2, .int y_11), (0, .ref a0_2), (1, .int x1_2)]) hx hb dM_state_34 hl rfl (by rw [ey_11]; rfl) (by decide) rfl (fun ls hl => ?_)
          refine lv_goto (tgt := 2) hx hb dM_state_37 (by decide) ?_
          exact ih2 _ _ _ _ _ _ hw hwo hS (lv_sub hl [1, 2, 0] rfl)
        · replace hw := hw.2 hc_10
          refine lv_aload_n hx hb dM_state_17 rfl (lv_at hl 0 rfl) ?_
          obtain ⟨hz_12, hw⟩ := hw
          refine g_getR hC fkM_7 rfl hwo ho_9 hz_12 dM_state_18 ?_
          refine lv_iload_n hx hb dM_state_21 rfl (lv_at hl 1 rfl) ?_
          refine lv_iload_n hx hb dM_state_22 rfl (lv_at hl 2 rfl) ?_
          refine lv_iadd hx hb dM_state_23 ?_
          obtain ⟨n_13, ha_14, hw⟩ := hw
          obtain ⟨hi_15, hw⟩ := hw
          refine g_iald hC hwo ha_14 hi_15 dM_state_24 ?_
          refine lv_iload_n hx hb dM_state_25 rfl (lv_at hl 2 rfl) ?_
          refine g_Si (rest := [.int (V (U a0_2 0) (x1_2 + x2_2).toNatClampNeg)]) hC (c_M_magic l θ _ _ _ _ hw) mi_M_magic mlM_141 ms_M_magic hwo hS ⟨rfl, rfl⟩ ⟨by decide, by decide⟩ rfl hl.1 rfl (Nat.le_of_ble_eq_true rfl) dM_state_26 (fun r_18 V_16 U_17 hw H locs hwo hS => ?_)
          refine lv_icmp_eq (tgt := 34) hx hb dM_state_29 (by decide) (fun hc_19 => ?_) (fun hc_19 => ?_)
          · replace hw := hw.1 hc_19
            obtain ⟨y_20, ey_20⟩ : ∃ z : Int32, z = x2_2 + (1 : Int32) := ⟨_, rfl⟩
            replace hw := hw y_20 ey_20
            refine lv_iinc (k := 2) (v := y_20) (lv' := [(2, .int y_20), (0, .ref a0_2), (1, .int x1_2)]) hx hb dM_state_34 hl rfl (by rw [ey_20]; rfl) (by decide) rfl (fun ls hl => ?_)
            refine lv_goto (tgt := 2) hx hb dM_state_37 (by decide) ?_
            exact ih2 _ _ _ _ _ _ hw hwo hS (lv_sub hl [1, 2, 0] rfl)
          · replace hw := hw.2 hc_19
            refine lv_iconst (v := 0) hx hb dM_state_32 (by decide) ?_
            exact g_iret hC hr hlk hw hwo hS dM_state_33
  unfold wp_M_state at hw
  refine lv_iconst (v := 0) hx hb dM_state_0 (by decide) ?_
  refine lv_istore_n (i := 2) (lv' := [(2, .int (0 : Int32)), (0, .ref a0), (1, .int x1)]) hx hb dM_state_1 rfl hl (by decide) rfl (fun ls hl => ?_)
  obtain ⟨n, hw⟩ := hw
  exact L2 _ _ n _ _ _ _ _ _ hw hwo hS (lv_sub hl [1, 2, 0] rfl)
theorem dM_add_0 : decode kM_add 0 = .ok (.iload_n 3, 1) := by decide +kernel
theorem dM_add_1 : decode kM_add 1 = .ok (.iconst 1, 1) := by decide +kernel
theorem dM_add_2 : decode kM_add 2 = .ok (.if_icmp .lt 20, 3) := by decide +kernel
theorem dM_add_5 : decode kM_add 5 = .ok (.iload_n 3, 1) := by decide +kernel
theorem dM_add_6 : decode kM_add 6 = .ok (.bipush 8, 2) := by decide +kernel
theorem dM_add_8 : decode kM_add 8 = .ok (.if_icmp .gt 14, 3) := by decide +kernel
theorem dM_add_11 : decode kM_add 11 = .ok (.aload_n 0, 1) := by decide +kernel
theorem dM_add_12 : decode kM_add 12 = .ok (.getfield 152, 3) := by decide +kernel
theorem dM_add_15 : decode kM_add 15 = .ok (.iload_n 3, 1) := by decide +kernel
theorem dM_add_16 : decode kM_add 16 = .ok (.iadd, 1) := by decide +kernel
theorem dM_add_17 : decode kM_add 17 = .ok (.bipush 64, 2) := by decide +kernel
theorem dM_add_19 : decode kM_add 19 = .ok (.if_icmp .le 5, 3) := by decide +kernel
theorem dM_add_22 : decode kM_add 22 = .ok (.iconst (-1), 1) := by decide +kernel
theorem dM_add_23 : decode kM_add 23 = .ok (.ireturn, 1) := by decide +kernel
theorem dM_add_24 : decode kM_add 24 = .ok (.iconst 0, 1) := by decide +kernel
theorem dM_add_25 : decode kM_add 25 = .ok (.istore 4, 2) := by decide +kernel
theorem dM_add_27 : decode kM_add 27 = .ok (.iload 4, 2) := by decide +kernel
theorem dM_add_29 : decode kM_add 29 = .ok (.iload_n 3, 1) := by decide +kernel
theorem dM_add_30 : decode kM_add 30 = .ok (.if_icmp .ge 40, 3) := by decide +kernel
theorem dM_add_33 : decode kM_add 33 = .ok (.aload_n 0, 1) := by decide +kernel
theorem dM_add_34 : decode kM_add 34 = .ok (.getfield 13, 3) := by decide +kernel
theorem dM_add_37 : decode kM_add 37 = .ok (.aload_n 0, 1) := by decide +kernel
theorem dM_add_38 : decode kM_add 38 = .ok (.getfield 152, 3) := by decide +kernel
theorem dM_add_41 : decode kM_add 41 = .ok (.lload_n 1, 1) := by decide +kernel
theorem dM_add_42 : decode kM_add 42 = .ok (.bipush 8, 2) := by decide +kernel
theorem dM_add_44 : decode kM_add 44 = .ok (.iload 4, 2) := by decide +kernel
theorem dM_add_46 : decode kM_add 46 = .ok (.imul, 1) := by decide +kernel
theorem dM_add_47 : decode kM_add 47 = .ok (.lshr, 1) := by decide +kernel
theorem dM_add_48 : decode kM_add 48 = .ok (.ldc2_w 135, 3) := by decide +kernel
theorem dM_add_51 : decode kM_add 51 = .ok (.land, 1) := by decide +kernel
theorem dM_add_52 : decode kM_add 52 = .ok (.l2i, 1) := by decide +kernel
theorem dM_add_53 : decode kM_add 53 = .ok (.iastore, 1) := by decide +kernel
theorem dM_add_54 : decode kM_add 54 = .ok (.aload_n 0, 1) := by decide +kernel
theorem dM_add_55 : decode kM_add 55 = .ok (.dup, 1) := by decide +kernel
theorem dM_add_56 : decode kM_add 56 = .ok (.getfield 152, 3) := by decide +kernel
theorem dM_add_59 : decode kM_add 59 = .ok (.iconst 1, 1) := by decide +kernel
theorem dM_add_60 : decode kM_add 60 = .ok (.iadd, 1) := by decide +kernel
theorem dM_add_61 : decode kM_add 61 = .ok (.putfield 152, 3) := by decide +kernel
theorem dM_add_64 : decode kM_add 64 = .ok (.iinc 4 1, 3) := by decide +kernel
theorem dM_add_67 : decode kM_add 67 = .ok (.goto (-40), 3) := by decide +kernel
theorem dM_add_70 : decode kM_add 70 = .ok (.aload_n 0, 1) := by decide +kernel
theorem dM_add_71 : decode kM_add 71 = .ok (.getfield 152, 3) := by decide +kernel
theorem dM_add_74 : decode kM_add 74 = .ok (.ireturn, 1) := by decide +kernel
def bl_M_add_27 (θ : TH) (a0_27 : Nat) (w1_27 : Int64) (x3_27 : Int32) (K : Int32 → VT → UT → Prop) (kb27 : Int32 → VT → UT → Prop) (x4_27 : Int32) (V : VT) (U : UT) : Prop := ((x3_27 ≤ x4_27 → isO θ a0_27 12 ∧ K (V a0_27 4) V U) ∧ (¬ x3_27 ≤ x4_27 → isO θ a0_27 12 ∧ (U a0_27 3) ≠ 0 ∧ ∃ n_9, isA θ (U a0_27 3) 0 n_9 ∧ vp_in (V a0_27 4) n_9 ∧ ∀ V_12 : VT, V_12 = up2 V (U a0_27 3) (V a0_27 4).toNatClampNeg ((w1_27 >>> (((8 : Int32) * x4_27).toInt64 &&& 63)) &&& (255 : Int64)).toInt32 → ∀ V_13 : VT, V_13 = up2 V_12 a0_27 4 ((V_12 a0_27 4) + (1 : Int32)) → ∀ y_14 : Int32, y_14 = x4_27 + (1 : Int32) → kb27 y_14 V_13 U))
def wl_M_add_27 (θ : TH) (a0_27 : Nat) (w1_27 : Int64) (x3_27 : Int32) (K : Int32 → VT → UT → Prop) : Nat → Int32 → VT → UT → Prop
  | 0, _, _, _ => False
  | n + 1, x4_27, V, U => bl_M_add_27 θ a0_27 w1_27 x3_27 K (wl_M_add_27 θ a0_27 w1_27 x3_27 K n) x4_27 V U
def wp_M_add (θ : TH) (a0 : Nat) (w1 : Int64) (x3 : Int32) (V : VT) (U : UT) (K : Int32 → VT → UT → Prop) : Prop := ((x3 < (1 : Int32) → K (-1 : Int32) V U) ∧ (¬ x3 < (1 : Int32) → (((8 : Int32) < x3 → K (-1 : Int32) V U) ∧ (¬ (8 : Int32) < x3 → isO θ a0 12 ∧ ((((V a0 4) + x3) ≤ (64 : Int32) → ∃ n, wl_M_add_27 θ a0 w1 x3 K n (0 : Int32) V U) ∧ (¬ ((V a0 4) + x3) ≤ (64 : Int32) → K (-1 : Int32) V U))))))
set_option maxRecDepth 100000 in
set_option maxHeartbeats 4000000 in
theorem c_M_add (l : Launch) (θ : TH) (a0 : Nat) (w1 : Int64) (x3 : Int32) (V : VT) (U : UT) (K : Int32 → VT → UT → Prop) (hw : wp_M_add θ a0 w1 x3 V U K) : CMi l yM_add kM_add 5 (some .int) rmM_add θ [.ref a0, .long w1, .int x3] V U K := by
  refine g_met nRM (by decide +kernel) rfl (Nat.le_of_ble_eq_true rfl) (fun p e s m args below meth c ls hC hr hlk hwo hl => ?_)
  have hx := hC.1
  have hb := hC.2.1
  have hS : Sx θ s s.heap [] := va_S.rf
  have hl : lv_has ls 5 [(0, .ref a0), (1, .long w1), (3, .int x3)] := hl
  have L27 : ∀ (a0_27 : Nat) (w1_27 : Int64) (x3_27 : Int32) (n27 : Nat) (x4_27 : Int32) (V : VT) (U : UT) (H : Heap) (locs : List Loc) (ls : Array Slot), wl_M_add_27 θ a0_27 w1_27 x3_27 K n27 x4_27 V U → wo θ V U H → Sx θ s H locs → lv_has ls 5 [(0, .ref a0_27), (1, .long w1_27), (3, .int x3_27), (4, .int x4_27)] → W p l e rmM_add s m args below meth c H locs 0 0 (MQ below (QI θ K) args s 0 0 (aT θ)) (F0 m 27 ls []) := by
    intro a0_27 w1_27 x3_27 n27
    induction n27 with
    | zero => intro x4_27 V U H locs ls hw hwo hS hl; exact (show False from hw).elim
    | succ n27 ih27 =>
      intro x4_27 V U H locs ls hw hwo hS hl
      replace hw : bl_M_add_27 θ a0_27 w1_27 x3_27 K (wl_M_add_27 θ a0_27 w1_27 x3_27 K n27) x4_27 V U := hw
      unfold bl_M_add_27 at hw
      refine lv_iload hx hb dM_add_27 (lv_at hl 3 rfl) ?_
      refine lv_iload_n hx hb dM_add_29 rfl (lv_at hl 2 rfl) ?_
      refine lv_icmp_ge (tgt := 70) hx hb dM_add_30 (by decide) (fun hc_5 => ?_) (fun hc_5 => ?_)
      · replace hw := hw.1 hc_5
        refine lv_aload_n hx hb dM_add_70 rfl (lv_at hl 0 rfl) ?_
        obtain ⟨ho_6, hw⟩ := hw
        refine g_getI hC fkM_152 rfl hwo ho_6 dM_add_71 ?_
        exact g_iret hC hr hlk hw hwo hS dM_add_74
      · replace hw := hw.2 hc_5
        refine lv_aload_n hx hb dM_add_33 rfl (lv_at hl 0 rfl) ?_
        obtain ⟨ho_7, hw⟩ := hw
        obtain ⟨hz_8, hw⟩ := hw
        refine g_getR hC fkM_13 rfl hwo ho_7 hz_8 dM_add_34 ?_
        refine lv_aload_n hx hb dM_add_37 rfl (lv_at hl 0 rfl) ?_
        refine g_getI hC fkM_152 rfl hwo ho_7 dM_add_38 ?_
        refine lv_lload_n hx hb dM_add_41 rfl (lv_at hl 1 rfl) ?_
        refine lv_bipush (v := 8) hx hb dM_add_42 (by decide) ?_
        refine lv_iload hx hb dM_add_44 (lv_at hl 3 rfl) ?_
        refine lv_imul hx hb dM_add_46 ?_
        refine lv_lshr hx hb dM_add_47 rfl ?_
        refine lv_ldc2 hx hb hC.2.2.2.1 (hC.2.2.2.2.1 _ kcM_135) dM_add_48 ?_
        refine lv_land hx hb dM_add_51 ?_
        refine lv_l2i hx hb dM_add_52 rfl ?_
        obtain ⟨n_9, ha_10, hw⟩ := hw
        obtain ⟨hi_11, hw⟩ := hw
        refine g_iast hC hwo hS ha_10 hi_11 dM_add_53 (fun V_12 eV_12 H locs hwo hS => ?_)
        replace hw := hw V_12 eV_12
        refine lv_aload_n hx hb dM_add_54 rfl (lv_at hl 0 rfl) ?_
        refine lv_dup hx hb dM_add_55 rfl ?_
        refine g_getI hC fkM_152 rfl hwo ho_7 dM_add_56 ?_
        refine lv_iconst (v := 1) hx hb dM_add_59 (by decide) ?_
        refine lv_iadd hx hb dM_add_60 ?_
        refine g_putI hC fkM_152 rfl hwo hS ho_7 dM_add_61 (fun V_13 eV_13 H locs hwo hS => ?_)
        replace hw := hw V_13 eV_13
        obtain ⟨y_14, ey_14⟩ : ∃ z : Int32, z = x4_27 + (1 : Int32) := ⟨_, rfl⟩
        replace hw := hw y_14 ey_14
        refine lv_iinc (k := 3) (v := y_14) (lv' := [(4, .int y_14), (0, .ref a0_27), (1, .long w1_27), (3, .int x3_27)]) hx hb dM_add_64 hl rfl (by rw [ey_14]; rfl) (by decide) rfl (fun ls hl => ?_)
        refine lv_goto (tgt := 27) hx hb dM_add_67 (by decide) ?_
        exact ih27 _ _ _ _ _ _ hw hwo hS (lv_sub hl [1, 2, 3, 0] rfl)
  unfold wp_M_add at hw
  refine lv_iload_n hx hb dM_add_0 rfl (lv_at hl 2 rfl) ?_
  refine lv_iconst (v := 1) hx hb dM_add_1 (by decide) ?_
  refine lv_icmp_lt (tgt := 22) hx hb dM_add_2 (by decide) (fun hc_1 => ?_) (fun hc_1 => ?_)
  · replace hw := hw.1 hc_1
    refine lv_iconst (v := -1) hx hb dM_add_22 (by decide) ?_
    exact g_iret hC hr hlk hw hwo hS dM_add_23
  · replace hw := hw.2 hc_1
    refine lv_iload_n hx hb dM_add_5 rfl (lv_at hl 2 rfl) ?_
    refine lv_bipush (v := 8) hx hb dM_add_6 (by decide) ?_
    refine lv_icmp_gt (tgt := 22) hx hb dM_add_8 (by decide) (fun hc_2 => ?_) (fun hc_2 => ?_)
    · replace hw := hw.1 hc_2
      refine lv_iconst (v := -1) hx hb dM_add_22 (by decide) ?_
      exact g_iret hC hr hlk hw hwo hS dM_add_23
    · replace hw := hw.2 hc_2
      refine lv_aload_n hx hb dM_add_11 rfl (lv_at hl 0 rfl) ?_
      obtain ⟨ho_3, hw⟩ := hw
      refine g_getI hC fkM_152 rfl hwo ho_3 dM_add_12 ?_
      refine lv_iload_n hx hb dM_add_15 rfl (lv_at hl 2 rfl) ?_
      refine lv_iadd hx hb dM_add_16 ?_
      refine lv_bipush (v := 64) hx hb dM_add_17 (by decide) ?_
      refine lv_icmp_le (tgt := 24) hx hb dM_add_19 (by decide) (fun hc_4 => ?_) (fun hc_4 => ?_)
      · replace hw := hw.1 hc_4
        refine lv_iconst (v := 0) hx hb dM_add_24 (by decide) ?_
        refine lv_istore (i := 4) (lv' := [(4, .int (0 : Int32)), (0, .ref a0), (1, .long w1), (3, .int x3)]) hx hb dM_add_25 hl (by decide) rfl (fun ls hl => ?_)
        obtain ⟨n, hw⟩ := hw
        exact L27 _ _ _ n _ _ _ _ _ _ hw hwo hS (lv_sub hl [1, 2, 3, 0] rfl)
      · replace hw := hw.2 hc_4
        refine lv_iconst (v := -1) hx hb dM_add_22 (by decide) ?_
        exact g_iret hC hr hlk hw hwo hS dM_add_23
theorem dM_noStream_0 : decode kM_noStream 0 = .ok (.iload_n 1, 1) := by decide +kernel
theorem dM_noStream_1 : decode kM_noStream 1 = .ok (.ifCond .lt 17, 3) := by decide +kernel
theorem dM_noStream_4 : decode kM_noStream 4 = .ok (.iload_n 1, 1) := by decide +kernel
theorem dM_noStream_5 : decode kM_noStream 5 = .ok (.iconst 3, 1) := by decide +kernel
theorem dM_noStream_6 : decode kM_noStream 6 = .ok (.if_icmp .gt 12, 3) := by decide +kernel
theorem dM_noStream_9 : decode kM_noStream 9 = .ok (.aload_n 0, 1) := by decide +kernel
theorem dM_noStream_10 : decode kM_noStream 10 = .ok (.getfield 34, 3) := by decide +kernel
theorem dM_noStream_13 : decode kM_noStream 13 = .ok (.iload_n 1, 1) := by decide +kernel
theorem dM_noStream_14 : decode kM_noStream 14 = .ok (.baload, 1) := by decide +kernel
theorem dM_noStream_15 : decode kM_noStream 15 = .ok (.ifCond .eq 7, 3) := by decide +kernel
theorem dM_noStream_18 : decode kM_noStream 18 = .ok (.iconst 1, 1) := by decide +kernel
theorem dM_noStream_19 : decode kM_noStream 19 = .ok (.goto 4, 3) := by decide +kernel
theorem dM_noStream_22 : decode kM_noStream 22 = .ok (.iconst 0, 1) := by decide +kernel
theorem dM_noStream_23 : decode kM_noStream 23 = .ok (.ireturn, 1) := by decide +kernel
def wb_M_noStream_18 (θ : TH) (K : Int32 → VT → UT → Prop) (V : VT) (U : UT) : Prop := K (1 : Int32) V U
def wp_M_noStream (θ : TH) (a0 : Nat) (x1 : Int32) (V : VT) (U : UT) (K : Int32 → VT → UT → Prop) : Prop := ((x1 < 0 → wb_M_noStream_18 θ K V U) ∧ (¬ x1 < 0 → (((3 : Int32) < x1 → wb_M_noStream_18 θ K V U) ∧ (¬ (3 : Int32) < x1 → isO θ a0 12 ∧ (U a0 11) ≠ 0 ∧ ∃ n_5, isA θ (U a0 11) 1 n_5 ∧ vp_in x1 n_5 ∧ (((V (U a0 11) x1.toNatClampNeg) = 0 → K (0 : Int32) V U) ∧ (¬ (V (U a0 11) x1.toNatClampNeg) = 0 → wb_M_noStream_18 θ K V U))))))
set_option maxRecDepth 100000 in
set_option maxHeartbeats 4000000 in
theorem c_M_noStream (l : Launch) (θ : TH) (a0 : Nat) (x1 : Int32) (V : VT) (U : UT) (K : Int32 → VT → UT → Prop) (hw : wp_M_noStream θ a0 x1 V U K) : CMi l yM_noStream kM_noStream 2 (some .boolean) rmM_noStream θ [.ref a0, .int x1] V U K := by
  refine g_met nRM (by decide +kernel) rfl (Nat.le_of_ble_eq_true rfl) (fun p e s m args below meth c ls hC hr hlk hwo hl => ?_)
  have hx := hC.1
  have hb := hC.2.1
  have hS : Sx θ s s.heap [] := va_S.rf
  have hl : lv_has ls 2 [(0, .ref a0), (1, .int x1)] := hl
  have J18 : ∀ (V : VT) (U : UT) (H : Heap) (locs : List Loc) (ls : Array Slot), wb_M_noStream_18 θ K V U → wo θ V U H → Sx θ s H locs → lv_has ls 2 [] → W p l e rmM_noStream s m args below meth c H locs 0 0 (MQ below (QI θ K) args s 0 0 (aT θ)) (F0 m 18 ls []) := by
    intro V U H locs ls hw hwo hS hl
    unfold wb_M_noStream_18 at hw
    refine lv_iconst (v := 1) hx hb dM_noStream_18 (by decide) ?_
    refine lv_goto (tgt := 23) hx hb dM_noStream_19 (by decide) ?_
    exact g_zret hC hr hlk (Or.inr rfl) hw hwo hS dM_noStream_23
  unfold wp_M_noStream at hw
  refine lv_iload_n hx hb dM_noStream_0 rfl (lv_at hl 1 rfl) ?_
  refine lv_if_lt (tgt := 18) hx hb dM_noStream_1 (by decide) (fun hc_1 => ?_) (fun hc_1 => ?_)
  · replace hw := hw.1 hc_1
    exact J18 _ _ _ _ _ hw hwo hS (lv_sub hl [] rfl)
  · replace hw := hw.2 hc_1
    refine lv_iload_n hx hb dM_noStream_4 rfl (lv_at hl 1 rfl) ?_
    refine lv_iconst (v := 3) hx hb dM_noStream_5 (by decide) ?_
    refine lv_icmp_gt (tgt := 18) hx hb dM_noStream_6 (by decide) (fun hc_2 => ?_) (fun hc_2 => ?_)
    · replace hw := hw.1 hc_2
      exact J18 _ _ _ _ _ hw hwo hS (lv_sub hl [] rfl)
    · replace hw := hw.2 hc_2
      refine lv_aload_n hx hb dM_noStream_9 rfl (lv_at hl 0 rfl) ?_
      obtain ⟨ho_3, hw⟩ := hw
      obtain ⟨hz_4, hw⟩ := hw
      refine g_getR hC fkM_34 rfl hwo ho_3 hz_4 dM_noStream_10 ?_
      refine lv_iload_n hx hb dM_noStream_13 rfl (lv_at hl 1 rfl) ?_
      obtain ⟨n_5, ha_6, hw⟩ := hw
      obtain ⟨hi_7, hw⟩ := hw
      refine g_zald hC hwo ha_6 hi_7 dM_noStream_14 ?_
      refine lv_if_eq (tgt := 22) hx hb dM_noStream_15 (by decide) (fun hc_8 => ?_) (fun hc_8 => ?_)
      · replace hw := hw.1 hc_8
        refine lv_iconst (v := 0) hx hb dM_noStream_22 (by decide) ?_
        exact g_zret hC hr hlk (Or.inl rfl) hw hwo hS dM_noStream_23
      · replace hw := hw.2 hc_8
        exact J18 _ _ _ _ _ hw hwo hS (lv_sub hl [] rfl)
theorem dM_put_0 : decode kM_put 0 = .ok (.aload_n 0, 1) := by decide +kernel
theorem dM_put_1 : decode kM_put 1 = .ok (.getfield 7, 3) := by decide +kernel
theorem dM_put_4 : decode kM_put 4 = .ok (.aload_n 0, 1) := by decide +kernel
theorem dM_put_5 : decode kM_put 5 = .ok (.getfield 132, 3) := by decide +kernel
theorem dM_put_8 : decode kM_put 8 = .ok (.iload_n 1, 1) := by decide +kernel
theorem dM_put_9 : decode kM_put 9 = .ok (.sipush 255, 3) := by decide +kernel
theorem dM_put_12 : decode kM_put 12 = .ok (.iand, 1) := by decide +kernel
theorem dM_put_13 : decode kM_put 13 = .ok (.iastore, 1) := by decide +kernel
theorem dM_put_14 : decode kM_put 14 = .ok (.aload_n 0, 1) := by decide +kernel
theorem dM_put_15 : decode kM_put 15 = .ok (.dup, 1) := by decide +kernel
theorem dM_put_16 : decode kM_put 16 = .ok (.getfield 132, 3) := by decide +kernel
theorem dM_put_19 : decode kM_put 19 = .ok (.iconst 1, 1) := by decide +kernel
theorem dM_put_20 : decode kM_put 20 = .ok (.iadd, 1) := by decide +kernel
theorem dM_put_21 : decode kM_put 21 = .ok (.putfield 132, 3) := by decide +kernel
theorem dM_put_24 : decode kM_put 24 = .ok (.return_, 1) := by decide +kernel
def wp_M_put (θ : TH) (a0 : Nat) (x1 : Int32) (V : VT) (U : UT) (K : VT → UT → Prop) : Prop := isO θ a0 12 ∧ (U a0 0) ≠ 0 ∧ ∃ n_3, isA θ (U a0 0) 0 n_3 ∧ vp_in (V a0 1) n_3 ∧ ∀ V_6 : VT, V_6 = up2 V (U a0 0) (V a0 1).toNatClampNeg (x1 &&& (255 : Int32)) → ∀ V_7 : VT, V_7 = up2 V_6 a0 1 ((V_6 a0 1) + (1 : Int32)) → K V_7 U
set_option maxRecDepth 100000 in
set_option maxHeartbeats 4000000 in
theorem c_M_put (l : Launch) (θ : TH) (a0 : Nat) (x1 : Int32) (V : VT) (U : UT) (K : VT → UT → Prop) (hw : wp_M_put θ a0 x1 V U K) : CMv l yM_put kM_put 2 none rmM_put θ [.ref a0, .int x1] V U K := by
  refine g_met nRM (by decide +kernel) rfl (Nat.le_of_ble_eq_true rfl) (fun p e s m args below meth c ls hC hr hlk hwo hl => ?_)
  have hx := hC.1
  have hb := hC.2.1
  have hS : Sx θ s s.heap [] := va_S.rf
  have hl : lv_has ls 2 [(0, .ref a0), (1, .int x1)] := hl
  unfold wp_M_put at hw
  refine lv_aload_n hx hb dM_put_0 rfl (lv_at hl 0 rfl) ?_
  obtain ⟨ho_1, hw⟩ := hw
  obtain ⟨hz_2, hw⟩ := hw
  refine g_getR hC fkM_7 rfl hwo ho_1 hz_2 dM_put_1 ?_
  refine lv_aload_n hx hb dM_put_4 rfl (lv_at hl 0 rfl) ?_
  refine g_getI hC fkM_132 rfl hwo ho_1 dM_put_5 ?_
  refine lv_iload_n hx hb dM_put_8 rfl (lv_at hl 1 rfl) ?_
  refine lv_sipush (v := 255) hx hb dM_put_9 (by decide) ?_
  refine lv_iand hx hb dM_put_12 ?_
  obtain ⟨n_3, ha_4, hw⟩ := hw
  obtain ⟨hi_5, hw⟩ := hw
  refine g_iast hC hwo hS ha_4 hi_5 dM_put_13 (fun V_6 eV_6 H locs hwo hS => ?_)
  replace hw := hw V_6 eV_6
  refine lv_aload_n hx hb dM_put_14 rfl (lv_at hl 0 rfl) ?_
  refine lv_dup hx hb dM_put_15 rfl ?_
  refine g_getI hC fkM_132 rfl hwo ho_1 dM_put_16 ?_
  refine lv_iconst (v := 1) hx hb dM_put_19 (by decide) ?_
  refine lv_iadd hx hb dM_put_20 ?_
  refine g_putI hC fkM_132 rfl hwo hS ho_1 dM_put_21 (fun V_7 eV_7 H locs hwo hS => ?_)
  replace hw := hw V_7 eV_7
  exact g_vret hC hr hlk hw hwo hS dM_put_24
theorem dM_forget_0 : decode kM_forget 0 = .ok (.iconst 0, 1) := by decide +kernel
theorem dM_forget_1 : decode kM_forget 1 = .ok (.istore 4, 2) := by decide +kernel
theorem dM_forget_3 : decode kM_forget 3 = .ok (.iload 4, 2) := by decide +kernel
theorem dM_forget_5 : decode kM_forget 5 = .ok (.iload_n 2, 1) := by decide +kernel
theorem dM_forget_6 : decode kM_forget 6 = .ok (.iadd, 1) := by decide +kernel
theorem dM_forget_7 : decode kM_forget 7 = .ok (.iload_n 3, 1) := by decide +kernel
theorem dM_forget_8 : decode kM_forget 8 = .ok (.if_icmp .ge 117, 3) := by decide +kernel
theorem dM_forget_11 : decode kM_forget 11 = .ok (.aload_n 0, 1) := by decide +kernel
theorem dM_forget_12 : decode kM_forget 12 = .ok (.getfield 16, 3) := by decide +kernel
theorem dM_forget_15 : decode kM_forget 15 = .ok (.iload_n 1, 1) := by decide +kernel
theorem dM_forget_16 : decode kM_forget 16 = .ok (.iload 4, 2) := by decide +kernel
theorem dM_forget_18 : decode kM_forget 18 = .ok (.iadd, 1) := by decide +kernel
theorem dM_forget_19 : decode kM_forget 19 = .ok (.aload_n 0, 1) := by decide +kernel
theorem dM_forget_20 : decode kM_forget 20 = .ok (.getfield 16, 3) := by decide +kernel
theorem dM_forget_23 : decode kM_forget 23 = .ok (.iload_n 1, 1) := by decide +kernel
theorem dM_forget_24 : decode kM_forget 24 = .ok (.iload 4, 2) := by decide +kernel
theorem dM_forget_26 : decode kM_forget 26 = .ok (.iadd, 1) := by decide +kernel
theorem dM_forget_27 : decode kM_forget 27 = .ok (.iload_n 2, 1) := by decide +kernel
theorem dM_forget_28 : decode kM_forget 28 = .ok (.iadd, 1) := by decide +kernel
theorem dM_forget_29 : decode kM_forget 29 = .ok (.iaload, 1) := by decide +kernel
theorem dM_forget_30 : decode kM_forget 30 = .ok (.iastore, 1) := by decide +kernel
theorem dM_forget_31 : decode kM_forget 31 = .ok (.aload_n 0, 1) := by decide +kernel
theorem dM_forget_32 : decode kM_forget 32 = .ok (.getfield 19, 3) := by decide +kernel
theorem dM_forget_35 : decode kM_forget 35 = .ok (.iload_n 1, 1) := by decide +kernel
theorem dM_forget_36 : decode kM_forget 36 = .ok (.iload 4, 2) := by decide +kernel
theorem dM_forget_38 : decode kM_forget 38 = .ok (.iadd, 1) := by decide +kernel
theorem dM_forget_39 : decode kM_forget 39 = .ok (.aload_n 0, 1) := by decide +kernel
theorem dM_forget_40 : decode kM_forget 40 = .ok (.getfield 19, 3) := by decide +kernel
theorem dM_forget_43 : decode kM_forget 43 = .ok (.iload_n 1, 1) := by decide +kernel
theorem dM_forget_44 : decode kM_forget 44 = .ok (.iload 4, 2) := by decide +kernel
theorem dM_forget_46 : decode kM_forget 46 = .ok (.iadd, 1) := by decide +kernel
theorem dM_forget_47 : decode kM_forget 47 = .ok (.iload_n 2, 1) := by decide +kernel
theorem dM_forget_48 : decode kM_forget 48 = .ok (.iadd, 1) := by decide +kernel
theorem dM_forget_49 : decode kM_forget 49 = .ok (.iaload, 1) := by decide +kernel
theorem dM_forget_50 : decode kM_forget 50 = .ok (.iastore, 1) := by decide +kernel
theorem dM_forget_51 : decode kM_forget 51 = .ok (.aload_n 0, 1) := by decide +kernel
theorem dM_forget_52 : decode kM_forget 52 = .ok (.getfield 22, 3) := by decide +kernel
theorem dM_forget_55 : decode kM_forget 55 = .ok (.iload_n 1, 1) := by decide +kernel
theorem dM_forget_56 : decode kM_forget 56 = .ok (.iload 4, 2) := by decide +kernel
theorem dM_forget_58 : decode kM_forget 58 = .ok (.iadd, 1) := by decide +kernel
theorem dM_forget_59 : decode kM_forget 59 = .ok (.aload_n 0, 1) := by decide +kernel
theorem dM_forget_60 : decode kM_forget 60 = .ok (.getfield 22, 3) := by decide +kernel
theorem dM_forget_63 : decode kM_forget 63 = .ok (.iload_n 1, 1) := by decide +kernel
theorem dM_forget_64 : decode kM_forget 64 = .ok (.iload 4, 2) := by decide +kernel
theorem dM_forget_66 : decode kM_forget 66 = .ok (.iadd, 1) := by decide +kernel
theorem dM_forget_67 : decode kM_forget 67 = .ok (.iload_n 2, 1) := by decide +kernel
theorem dM_forget_68 : decode kM_forget 68 = .ok (.iadd, 1) := by decide +kernel
theorem dM_forget_69 : decode kM_forget 69 = .ok (.iaload, 1) := by decide +kernel
theorem dM_forget_70 : decode kM_forget 70 = .ok (.iastore, 1) := by decide +kernel
theorem dM_forget_71 : decode kM_forget 71 = .ok (.iconst 0, 1) := by decide +kernel
theorem dM_forget_72 : decode kM_forget 72 = .ok (.istore 5, 2) := by decide +kernel
theorem dM_forget_74 : decode kM_forget 74 = .ok (.iload 5, 2) := by decide +kernel
theorem dM_forget_76 : decode kM_forget 76 = .ok (.bipush 15, 2) := by decide +kernel
theorem dM_forget_78 : decode kM_forget 78 = .ok (.if_icmp .ge 41, 3) := by decide +kernel
theorem dM_forget_81 : decode kM_forget 81 = .ok (.aload_n 0, 1) := by decide +kernel
theorem dM_forget_82 : decode kM_forget 82 = .ok (.getfield 25, 3) := by decide +kernel
theorem dM_forget_85 : decode kM_forget 85 = .ok (.bipush 15, 2) := by decide +kernel
theorem dM_forget_87 : decode kM_forget 87 = .ok (.iload_n 1, 1) := by decide +kernel
theorem dM_forget_88 : decode kM_forget 88 = .ok (.iload 4, 2) := by decide +kernel
theorem dM_forget_90 : decode kM_forget 90 = .ok (.iadd, 1) := by decide +kernel
theorem dM_forget_91 : decode kM_forget 91 = .ok (.imul, 1) := by decide +kernel
theorem dM_forget_92 : decode kM_forget 92 = .ok (.iload 5, 2) := by decide +kernel
theorem dM_forget_94 : decode kM_forget 94 = .ok (.iadd, 1) := by decide +kernel
theorem dM_forget_95 : decode kM_forget 95 = .ok (.aload_n 0, 1) := by decide +kernel
theorem dM_forget_96 : decode kM_forget 96 = .ok (.getfield 25, 3) := by decide +kernel
theorem dM_forget_99 : decode kM_forget 99 = .ok (.bipush 15, 2) := by decide +kernel
theorem dM_forget_101 : decode kM_forget 101 = .ok (.iload_n 1, 1) := by decide +kernel
theorem dM_forget_102 : decode kM_forget 102 = .ok (.iload 4, 2) := by decide +kernel
theorem dM_forget_104 : decode kM_forget 104 = .ok (.iadd, 1) := by decide +kernel
theorem dM_forget_105 : decode kM_forget 105 = .ok (.iload_n 2, 1) := by decide +kernel
theorem dM_forget_106 : decode kM_forget 106 = .ok (.iadd, 1) := by decide +kernel
theorem dM_forget_107 : decode kM_forget 107 = .ok (.imul, 1) := by decide +kernel
theorem dM_forget_108 : decode kM_forget 108 = .ok (.iload 5, 2) := by decide +kernel
theorem dM_forget_110 : decode kM_forget 110 = .ok (.iadd, 1) := by decide +kernel
theorem dM_forget_111 : decode kM_forget 111 = .ok (.iaload, 1) := by decide +kernel
theorem dM_forget_112 : decode kM_forget 112 = .ok (.iastore, 1) := by decide +kernel
theorem dM_forget_113 : decode kM_forget 113 = .ok (.iinc 5 1, 3) := by decide +kernel
theorem dM_forget_116 : decode kM_forget 116 = .ok (.goto (-42), 3) := by decide +kernel
theorem dM_forget_119 : decode kM_forget 119 = .ok (.iinc 4 1, 3) := by decide +kernel
theorem dM_forget_122 : decode kM_forget 122 = .ok (.goto (-119), 3) := by decide +kernel
theorem dM_forget_125 : decode kM_forget 125 = .ok (.return_, 1) := by decide +kernel
def bl_M_forget_74 (θ : TH) (a0_3 : Nat) (x1_3 : Int32) (x2_3 : Int32) (x3_3 : Int32) (x4_74 : Int32) (kb3 : Int32 → VT → UT → Prop) (K : VT → UT → Prop) (kb74 : Int32 → VT → UT → Prop) (x5_74 : Int32) (V : VT) (U : UT) : Prop := (((15 : Int32) ≤ x5_74 → ∀ y_22 : Int32, y_22 = x4_74 + (1 : Int32) → kb3 y_22 V U) ∧ (¬ (15 : Int32) ≤ x5_74 → isO θ a0_3 12 ∧ (U a0_3 8) ≠ 0 ∧ ∃ n_25, isA θ (U a0_3 8) 0 n_25 ∧ vp_in (((15 : Int32) * ((x1_3 + x4_74) + x2_3)) + x5_74) n_25 ∧ vp_in (((15 : Int32) * (x1_3 + x4_74)) + x5_74) n_25 ∧ ∀ V_29 : VT, V_29 = up2 V (U a0_3 8) (((15 : Int32) * (x1_3 + x4_74)) + x5_74).toNatClampNeg (V (U a0_3 8) (((15 : Int32) * ((x1_3 + x4_74) + x2_3)) + x5_74).toNatClampNeg) → ∀ y_30 : Int32, y_30 = x5_74 + (1 : Int32) → kb74 y_30 V_29 U))
def wl_M_forget_74 (θ : TH) (a0_3 : Nat) (x1_3 : Int32) (x2_3 : Int32) (x3_3 : Int32) (x4_74 : Int32) (kb3 : Int32 → VT → UT → Prop) (K : VT → UT → Prop) : Nat → Int32 → VT → UT → Prop
  | 0, _, _, _ => False
  | n + 1, x5_74, V, U => bl_M_forget_74 θ a0_3 x1_3 x2_3 x3_3 x4_74 kb3 K (wl_M_forget_74 θ a0_3 x1_3 x2_3 x3_3 x4_74 kb3 K n) x5_74 V U
def bl_M_forget_3 (θ : TH) (a0_3 : Nat) (x1_3 : Int32) (x2_3 : Int32) (x3_3 : Int32) (K : VT → UT → Prop) (kb3 : Int32 → VT → UT → Prop) (x4_3 : Int32) (V : VT) (U : UT) : Prop := ((x3_3 ≤ (x4_3 + x2_3) → K V U) ∧ (¬ x3_3 ≤ (x4_3 + x2_3) → isO θ a0_3 12 ∧ (U a0_3 5) ≠ 0 ∧ ∃ n_4, isA θ (U a0_3 5) 0 n_4 ∧ vp_in ((x1_3 + x4_3) + x2_3) n_4 ∧ vp_in (x1_3 + x4_3) n_4 ∧ ∀ V_8 : VT, V_8 = up2 V (U a0_3 5) (x1_3 + x4_3).toNatClampNeg (V (U a0_3 5) ((x1_3 + x4_3) + x2_3).toNatClampNeg) → (U a0_3 6) ≠ 0 ∧ ∃ n_10, isA θ (U a0_3 6) 0 n_10 ∧ vp_in ((x1_3 + x4_3) + x2_3) n_10 ∧ vp_in (x1_3 + x4_3) n_10 ∧ ∀ V_14 : VT, V_14 = up2 V_8 (U a0_3 6) (x1_3 + x4_3).toNatClampNeg (V_8 (U a0_3 6) ((x1_3 + x4_3) + x2_3).toNatClampNeg) → (U a0_3 7) ≠ 0 ∧ ∃ n_16, isA θ (U a0_3 7) 0 n_16 ∧ vp_in ((x1_3 + x4_3) + x2_3) n_16 ∧ vp_in (x1_3 + x4_3) n_16 ∧ ∀ V_20 : VT, V_20 = up2 V_14 (U a0_3 7) (x1_3 + x4_3).toNatClampNeg (V_14 (U a0_3 7) ((x1_3 + x4_3) + x2_3).toNatClampNeg) → ∃ n, wl_M_forget_74 θ a0_3 x1_3 x2_3 x3_3 x4_3 kb3 K n (0 : Int32) V_20 U))
def wl_M_forget_3 (θ : TH) (a0_3 : Nat) (x1_3 : Int32) (x2_3 : Int32) (x3_3 : Int32) (K : VT → UT → Prop) : Nat → Int32 → VT → UT → Prop
  | 0, _, _, _ => False
  | n + 1, x4_3, V, U => bl_M_forget_3 θ a0_3 x1_3 x2_3 x3_3 K (wl_M_forget_3 θ a0_3 x1_3 x2_3 x3_3 K n) x4_3 V U
def wp_M_forget (θ : TH) (a0 : Nat) (x1 : Int32) (x2 : Int32) (x3 : Int32) (V : VT) (U : UT) (K : VT → UT → Prop) : Prop := ∃ n, wl_M_forget_3 θ a0 x1 x2 x3 K n (0 : Int32) V U
set_option maxRecDepth 100000 in
set_option maxHeartbeats 4000000 in
theorem c_M_forget (l : Launch) (θ : TH) (a0 : Nat) (x1 : Int32) (x2 : Int32) (x3 : Int32) (V : VT) (U : UT) (K : VT → UT → Prop) (hw : wp_M_forget θ a0 x1 x2 x3 V U K) : CMv l yM_forget kM_forget 6 none rmM_forget θ [.ref a0, .int x1, .int x2, .int x3] V U K := by
  refine g_met nRM (by decide +kernel) rfl (Nat.le_of_ble_eq_true rfl) (fun p e s m args below meth c ls hC hr hlk hwo hl => ?_)
  have hx := hC.1
  have hb := hC.2.1
  have hS : Sx θ s s.heap [] := va_S.rf
  have hl : lv_has ls 6 [(0, .ref a0), (1, .int x1), (2, .int x2), (3, .int x3)] := hl
  have L3 : ∀ (a0_3 : Nat) (x1_3 : Int32) (x2_3 : Int32) (x3_3 : Int32) (n3 : Nat) (x4_3 : Int32) (V : VT) (U : UT) (H : Heap) (locs : List Loc) (ls : Array Slot), wl_M_forget_3 θ a0_3 x1_3 x2_3 x3_3 K n3 x4_3 V U → wo θ V U H → Sx θ s H locs → lv_has ls 6 [(0, .ref a0_3), (1, .int x1_3), (2, .int x2_3), (3, .int x3_3), (4, .int x4_3)] → W p l e rmM_forget s m args below meth c H locs 0 0 (MQ below (QV θ K) args s 0 0 (aT θ)) (F0 m 3 ls []) := by
    intro a0_3 x1_3 x2_3 x3_3 n3
    induction n3 with
    | zero => intro x4_3 V U H locs ls hw hwo hS hl; exact (show False from hw).elim
    | succ n3 ih3 =>
      have L74 : ∀ (x4_74 : Int32) (n74 : Nat) (x5_74 : Int32) (V : VT) (U : UT) (H : Heap) (locs : List Loc) (ls : Array Slot), wl_M_forget_74 θ a0_3 x1_3 x2_3 x3_3 x4_74 (wl_M_forget_3 θ a0_3 x1_3 x2_3 x3_3 K n3) K n74 x5_74 V U → wo θ V U H → Sx θ s H locs → lv_has ls 6 [(0, .ref a0_3), (1, .int x1_3), (2, .int x2_3), (3, .int x3_3), (4, .int x4_74), (5, .int x5_74)] → W p l e rmM_forget s m args below meth c H locs 0 0 (MQ below (QV θ K) args s 0 0 (aT θ)) (F0 m 74 ls []) := by
        intro x4_74 n74
        induction n74 with
        | zero => intro x5_74 V U H locs ls hw hwo hS hl; exact (show False from hw).elim
        | succ n74 ih74 =>
          intro x5_74 V U H locs ls hw hwo hS hl
          replace hw : bl_M_forget_74 θ a0_3 x1_3 x2_3 x3_3 x4_74 (wl_M_forget_3 θ a0_3 x1_3 x2_3 x3_3 K n3) K (wl_M_forget_74 θ a0_3 x1_3 x2_3 x3_3 x4_74 (wl_M_forget_3 θ a0_3 x1_3 x2_3 x3_3 K n3) K n74) x5_74 V U := hw
          unfold bl_M_forget_74 at hw
          refine lv_iload hx hb dM_forget_74 (lv_at hl 5 rfl) ?_
          refine lv_bipush (v := 15) hx hb dM_forget_76 (by decide) ?_
          refine lv_icmp_ge (tgt := 119) hx hb dM_forget_78 (by decide) (fun hc_21 => ?_) (fun hc_21 => ?_)
          · replace hw := hw.1 hc_21
            obtain ⟨y_22, ey_22⟩ : ∃ z : Int32, z = x4_74 + (1 : Int32) := ⟨_, rfl⟩
            replace hw := hw y_22 ey_22
            refine lv_iinc (k := 4) (v := y_22) (lv' := [(4, .int y_22), (0, .ref a0_3), (1, .int x1_3), (2, .int x2_3), (3, .int x3_3), (5, .int x5_74)]) hx hb dM_forget_119 hl rfl (by rw [ey_22]; rfl) (by decide) rfl (fun ls hl => ?_)
            refine lv_goto (tgt := 3) hx hb dM_forget_122 (by decide) ?_
            exact ih3 _ _ _ _ _ _ hw hwo hS (lv_sub hl [1, 2, 3, 4, 0] rfl)
          · replace hw := hw.2 hc_21
            refine lv_aload_n hx hb dM_forget_81 rfl (lv_at hl 0 rfl) ?_
            obtain ⟨ho_23, hw⟩ := hw
            obtain ⟨hz_24, hw⟩ := hw
            refine g_getR hC fkM_25 rfl hwo ho_23 hz_24 dM_forget_82 ?_
            refine lv_bipush (v := 15) hx hb dM_forget_85 (by decide) ?_
            refine lv_iload_n hx hb dM_forget_87 rfl (lv_at hl 1 rfl) ?_
            refine lv_iload hx hb dM_forget_88 (lv_at hl 4 rfl) ?_
            refine lv_iadd hx hb dM_forget_90 ?_
            refine lv_imul hx hb dM_forget_91 ?_
            refine lv_iload hx hb dM_forget_92 (lv_at hl 5 rfl) ?_
            refine lv_iadd hx hb dM_forget_94 ?_
            refine lv_aload_n hx hb dM_forget_95 rfl (lv_at hl 0 rfl) ?_
            refine g_getR hC fkM_25 rfl hwo ho_23 hz_24 dM_forget_96 ?_
            refine lv_bipush (v := 15) hx hb dM_forget_99 (by decide) ?_
            refine lv_iload_n hx hb dM_forget_101 rfl (lv_at hl 1 rfl) ?_
            refine lv_iload hx hb dM_forget_102 (lv_at hl 4 rfl) ?_
            refine lv_iadd hx hb dM_forget_104 ?_
            refine lv_iload_n hx hb dM_forget_105 rfl (lv_at hl 2 rfl) ?_
            refine lv_iadd hx hb dM_forget_106 ?_
            refine lv_imul hx hb dM_forget_107 ?_
            refine lv_iload hx hb dM_forget_108 (lv_at hl 5 rfl) ?_
            refine lv_iadd hx hb dM_forget_110 ?_
            obtain ⟨n_25, ha_26, hw⟩ := hw
            obtain ⟨hi_27, hw⟩ := hw
            refine g_iald hC hwo ha_26 hi_27 dM_forget_111 ?_
            obtain ⟨hi_28, hw⟩ := hw
            refine g_iast hC hwo hS ha_26 hi_28 dM_forget_112 (fun V_29 eV_29 H locs hwo hS => ?_)
            replace hw := hw V_29 eV_29
            obtain ⟨y_30, ey_30⟩ : ∃ z : Int32, z = x5_74 + (1 : Int32) := ⟨_, rfl⟩
            replace hw := hw y_30 ey_30
            refine lv_iinc (k := 5) (v := y_30) (lv' := [(5, .int y_30), (0, .ref a0_3), (1, .int x1_3), (2, .int x2_3), (3, .int x3_3), (4, .int x4_74)]) hx hb dM_forget_113 hl rfl (by rw [ey_30]; rfl) (by decide) rfl (fun ls hl => ?_)
            refine lv_goto (tgt := 74) hx hb dM_forget_116 (by decide) ?_
            exact ih74 _ _ _ _ _ _ hw hwo hS (lv_sub hl [1, 2, 3, 4, 5, 0] rfl)
      intro x4_3 V U H locs ls hw hwo hS hl
      replace hw : bl_M_forget_3 θ a0_3 x1_3 x2_3 x3_3 K (wl_M_forget_3 θ a0_3 x1_3 x2_3 x3_3 K n3) x4_3 V U := hw
      unfold bl_M_forget_3 at hw
      refine lv_iload hx hb dM_forget_3 (lv_at hl 4 rfl) ?_
      refine lv_iload_n hx hb dM_forget_5 rfl (lv_at hl 2 rfl) ?_
      refine lv_iadd hx hb dM_forget_6 ?_
      refine lv_iload_n hx hb dM_forget_7 rfl (lv_at hl 3 rfl) ?_
      refine lv_icmp_ge (tgt := 125) hx hb dM_forget_8 (by decide) (fun hc_1 => ?_) (fun hc_1 => ?_)
      · replace hw := hw.1 hc_1
        exact g_vret hC hr hlk hw hwo hS dM_forget_125
      · replace hw := hw.2 hc_1
        refine lv_aload_n hx hb dM_forget_11 rfl (lv_at hl 0 rfl) ?_
        obtain ⟨ho_2, hw⟩ := hw
        obtain ⟨hz_3, hw⟩ := hw
        refine g_getR hC fkM_16 rfl hwo ho_2 hz_3 dM_forget_12 ?_
        refine lv_iload_n hx hb dM_forget_15 rfl (lv_at hl 1 rfl) ?_
        refine lv_iload hx hb dM_forget_16 (lv_at hl 4 rfl) ?_
        refine lv_iadd hx hb dM_forget_18 ?_
        refine lv_aload_n hx hb dM_forget_19 rfl (lv_at hl 0 rfl) ?_
        refine g_getR hC fkM_16 rfl hwo ho_2 hz_3 dM_forget_20 ?_
        refine lv_iload_n hx hb dM_forget_23 rfl (lv_at hl 1 rfl) ?_
        refine lv_iload hx hb dM_forget_24 (lv_at hl 4 rfl) ?_
        refine lv_iadd hx hb dM_forget_26 ?_
        refine lv_iload_n hx hb dM_forget_27 rfl (lv_at hl 2 rfl) ?_
        refine lv_iadd hx hb dM_forget_28 ?_
        obtain ⟨n_4, ha_5, hw⟩ := hw
        obtain ⟨hi_6, hw⟩ := hw
        refine g_iald hC hwo ha_5 hi_6 dM_forget_29 ?_
        obtain ⟨hi_7, hw⟩ := hw
        refine g_iast hC hwo hS ha_5 hi_7 dM_forget_30 (fun V_8 eV_8 H locs hwo hS => ?_)
        replace hw := hw V_8 eV_8
        refine lv_aload_n hx hb dM_forget_31 rfl (lv_at hl 0 rfl) ?_
        obtain ⟨hz_9, hw⟩ := hw
        refine g_getR hC fkM_19 rfl hwo ho_2 hz_9 dM_forget_32 ?_
        refine lv_iload_n hx hb dM_forget_35 rfl (lv_at hl 1 rfl) ?_
        refine lv_iload hx hb dM_forget_36 (lv_at hl 4 rfl) ?_
        refine lv_iadd hx hb dM_forget_38 ?_
        refine lv_aload_n hx hb dM_forget_39 rfl (lv_at hl 0 rfl) ?_
        refine g_getR hC fkM_19 rfl hwo ho_2 hz_9 dM_forget_40 ?_
        refine lv_iload_n hx hb dM_forget_43 rfl (lv_at hl 1 rfl) ?_
        refine lv_iload hx hb dM_forget_44 (lv_at hl 4 rfl) ?_
        refine lv_iadd hx hb dM_forget_46 ?_
        refine lv_iload_n hx hb dM_forget_47 rfl (lv_at hl 2 rfl) ?_
        refine lv_iadd hx hb dM_forget_48 ?_
        obtain ⟨n_10, ha_11, hw⟩ := hw
        obtain ⟨hi_12, hw⟩ := hw
        refine g_iald hC hwo ha_11 hi_12 dM_forget_49 ?_
        obtain ⟨hi_13, hw⟩ := hw
        refine g_iast hC hwo hS ha_11 hi_13 dM_forget_50 (fun V_14 eV_14 H locs hwo hS => ?_)
        replace hw := hw V_14 eV_14
        refine lv_aload_n hx hb dM_forget_51 rfl (lv_at hl 0 rfl) ?_
        obtain ⟨hz_15, hw⟩ := hw
        refine g_getR hC fkM_22 rfl hwo ho_2 hz_15 dM_forget_52 ?_
        refine lv_iload_n hx hb dM_forget_55 rfl (lv_at hl 1 rfl) ?_
        refine lv_iload hx hb dM_forget_56 (lv_at hl 4 rfl) ?_
        refine lv_iadd hx hb dM_forget_58 ?_
        refine lv_aload_n hx hb dM_forget_59 rfl (lv_at hl 0 rfl) ?_
        refine g_getR hC fkM_22 rfl hwo ho_2 hz_15 dM_forget_60 ?_
        refine lv_iload_n hx hb dM_forget_63 rfl (lv_at hl 1 rfl) ?_
        refine lv_iload hx hb dM_forget_64 (lv_at hl 4 rfl) ?_
        refine lv_iadd hx hb dM_forget_66 ?_
        refine lv_iload_n hx hb dM_forget_67 rfl (lv_at hl 2 rfl) ?_
        refine lv_iadd hx hb dM_forget_68 ?_
        obtain ⟨n_16, ha_17, hw⟩ := hw
        obtain ⟨hi_18, hw⟩ := hw
        refine g_iald hC hwo ha_17 hi_18 dM_forget_69 ?_
        obtain ⟨hi_19, hw⟩ := hw
        refine g_iast hC hwo hS ha_17 hi_19 dM_forget_70 (fun V_20 eV_20 H locs hwo hS => ?_)
        replace hw := hw V_20 eV_20
        refine lv_iconst (v := 0) hx hb dM_forget_71 (by decide) ?_
        refine lv_istore (i := 5) (lv' := [(5, .int (0 : Int32)), (0, .ref a0_3), (1, .int x1_3), (2, .int x2_3), (3, .int x3_3), (4, .int x4_3)]) hx hb dM_forget_72 hl (by decide) rfl (fun ls hl => ?_)
        obtain ⟨n, hw⟩ := hw
        exact L74 _ n _ _ _ _ _ _ hw hwo hS (lv_sub hl [1, 2, 3, 4, 5, 0] rfl)
  unfold wp_M_forget at hw
  refine lv_iconst (v := 0) hx hb dM_forget_0 (by decide) ?_
  refine lv_istore (i := 4) (lv' := [(4, .int (0 : Int32)), (0, .ref a0), (1, .int x1), (2, .int x2), (3, .int x3)]) hx hb dM_forget_1 hl (by decide) rfl (fun ls hl => ?_)
  obtain ⟨n, hw⟩ := hw
  exact L3 _ _ _ _ n _ _ _ _ _ _ hw hwo hS (lv_sub hl [1, 2, 3, 4, 0] rfl)
theorem dM_page_0 : decode kM_page 0 = .ok (.aload_n 0, 1) := by decide +kernel
theorem dM_page_1 : decode kM_page 1 = .ok (.getfield 132, 3) := by decide +kernel
theorem dM_page_4 : decode kM_page 4 = .ok (.istore 4, 2) := by decide +kernel
theorem dM_page_6 : decode kM_page 6 = .ok (.bipush 16, 2) := by decide +kernel
theorem dM_page_8 : decode kM_page 8 = .ok (.iload_n 1, 1) := by decide +kernel
theorem dM_page_9 : decode kM_page 9 = .ok (.imul, 1) := by decide +kernel
theorem dM_page_10 : decode kM_page 10 = .ok (.istore 5, 2) := by decide +kernel
theorem dM_page_12 : decode kM_page 12 = .ok (.ldc 164, 2) := by decide +kernel
theorem dM_page_14 : decode kM_page 14 = .ok (.istore 6, 2) := by decide +kernel
theorem dM_page_16 : decode kM_page 16 = .ok (.iconst 0, 1) := by decide +kernel
theorem dM_page_17 : decode kM_page 17 = .ok (.istore 7, 2) := by decide +kernel
theorem dM_page_19 : decode kM_page 19 = .ok (.iload 7, 2) := by decide +kernel
theorem dM_page_21 : decode kM_page 21 = .ok (.iload_n 2, 1) := by decide +kernel
theorem dM_page_22 : decode kM_page 22 = .ok (.if_icmp .ge 39, 3) := by decide +kernel
theorem dM_page_25 : decode kM_page 25 = .ok (.aload_n 0, 1) := by decide +kernel
theorem dM_page_26 : decode kM_page 26 = .ok (.getfield 22, 3) := by decide +kernel
theorem dM_page_29 : decode kM_page 29 = .ok (.iload 5, 2) := by decide +kernel
theorem dM_page_31 : decode kM_page 31 = .ok (.iload 7, 2) := by decide +kernel
theorem dM_page_33 : decode kM_page 33 = .ok (.iadd, 1) := by decide +kernel
theorem dM_page_34 : decode kM_page 34 = .ok (.iaload, 1) := by decide +kernel
theorem dM_page_35 : decode kM_page 35 = .ok (.ifCond .lt 16, 3) := by decide +kernel
theorem dM_page_38 : decode kM_page 38 = .ok (.aload_n 0, 1) := by decide +kernel
theorem dM_page_39 : decode kM_page 39 = .ok (.getfield 22, 3) := by decide +kernel
theorem dM_page_42 : decode kM_page 42 = .ok (.iload 5, 2) := by decide +kernel
theorem dM_page_44 : decode kM_page 44 = .ok (.iload 7, 2) := by decide +kernel
theorem dM_page_46 : decode kM_page 46 = .ok (.iadd, 1) := by decide +kernel
theorem dM_page_47 : decode kM_page 47 = .ok (.iaload, 1) := by decide +kernel
theorem dM_page_48 : decode kM_page 48 = .ok (.goto 5, 3) := by decide +kernel
theorem dM_page_51 : decode kM_page 51 = .ok (.iload 6, 2) := by decide +kernel
theorem dM_page_53 : decode kM_page 53 = .ok (.istore 6, 2) := by decide +kernel
theorem dM_page_55 : decode kM_page 55 = .ok (.iinc 7 1, 3) := by decide +kernel
theorem dM_page_58 : decode kM_page 58 = .ok (.goto (-39), 3) := by decide +kernel
theorem dM_page_61 : decode kM_page 61 = .ok (.iconst 0, 1) := by decide +kernel
theorem dM_page_62 : decode kM_page 62 = .ok (.istore 7, 2) := by decide +kernel
theorem dM_page_64 : decode kM_page 64 = .ok (.iload 7, 2) := by decide +kernel
theorem dM_page_66 : decode kM_page 66 = .ok (.iconst 4, 1) := by decide +kernel
theorem dM_page_67 : decode kM_page 67 = .ok (.if_icmp .ge 18, 3) := by decide +kernel
theorem dM_page_70 : decode kM_page 70 = .ok (.aload_n 0, 1) := by decide +kernel
theorem dM_page_71 : decode kM_page 71 = .ok (.iload 7, 2) := by decide +kernel
theorem dM_page_73 : decode kM_page 73 = .ok (.invokestatic 141, 3) := by decide +kernel
theorem dM_page_76 : decode kM_page 76 = .ok (.invokevirtual 165, 3) := by decide +kernel
theorem dM_page_79 : decode kM_page 79 = .ok (.iinc 7 1, 3) := by decide +kernel
theorem dM_page_82 : decode kM_page 82 = .ok (.goto (-18), 3) := by decide +kernel
theorem dM_page_85 : decode kM_page 85 = .ok (.aload_n 0, 1) := by decide +kernel
theorem dM_page_86 : decode kM_page 86 = .ok (.iload_n 2, 1) := by decide +kernel
theorem dM_page_87 : decode kM_page 87 = .ok (.ifCond .le 17, 3) := by decide +kernel
theorem dM_page_90 : decode kM_page 90 = .ok (.aload_n 0, 1) := by decide +kernel
theorem dM_page_91 : decode kM_page 91 = .ok (.getfield 19, 3) := by decide +kernel
theorem dM_page_94 : decode kM_page 94 = .ok (.iload 5, 2) := by decide +kernel
theorem dM_page_96 : decode kM_page 96 = .ok (.iaload, 1) := by decide +kernel
theorem dM_page_97 : decode kM_page 97 = .ok (.ifCond .ne 7, 3) := by decide +kernel
theorem dM_page_100 : decode kM_page 100 = .ok (.iconst 1, 1) := by decide +kernel
theorem dM_page_101 : decode kM_page 101 = .ok (.goto 4, 3) := by decide +kernel
theorem dM_page_104 : decode kM_page 104 = .ok (.iconst 0, 1) := by decide +kernel
theorem dM_page_105 : decode kM_page 105 = .ok (.aload_n 0, 1) := by decide +kernel
theorem dM_page_106 : decode kM_page 106 = .ok (.getfield 31, 3) := by decide +kernel
theorem dM_page_109 : decode kM_page 109 = .ok (.iload_n 1, 1) := by decide +kernel
theorem dM_page_110 : decode kM_page 110 = .ok (.iaload, 1) := by decide +kernel
theorem dM_page_111 : decode kM_page 111 = .ok (.ifCond .ne 7, 3) := by decide +kernel
theorem dM_page_114 : decode kM_page 114 = .ok (.iconst 2, 1) := by decide +kernel
theorem dM_page_115 : decode kM_page 115 = .ok (.goto 4, 3) := by decide +kernel
theorem dM_page_118 : decode kM_page 118 = .ok (.iconst 0, 1) := by decide +kernel
theorem dM_page_119 : decode kM_page 119 = .ok (.iadd, 1) := by decide +kernel
theorem dM_page_120 : decode kM_page 120 = .ok (.iload_n 3, 1) := by decide +kernel
theorem dM_page_121 : decode kM_page 121 = .ok (.ifCond .eq 7, 3) := by decide +kernel
theorem dM_page_124 : decode kM_page 124 = .ok (.iconst 4, 1) := by decide +kernel
theorem dM_page_125 : decode kM_page 125 = .ok (.goto 4, 3) := by decide +kernel
theorem dM_page_128 : decode kM_page 128 = .ok (.iconst 0, 1) := by decide +kernel
theorem dM_page_129 : decode kM_page 129 = .ok (.iadd, 1) := by decide +kernel
theorem dM_page_130 : decode kM_page 130 = .ok (.invokevirtual 165, 3) := by decide +kernel
theorem dM_page_133 : decode kM_page 133 = .ok (.aload_n 0, 1) := by decide +kernel
theorem dM_page_134 : decode kM_page 134 = .ok (.iload_n 1, 1) := by decide +kernel
theorem dM_page_135 : decode kM_page 135 = .ok (.invokevirtual 165, 3) := by decide +kernel
theorem dM_page_138 : decode kM_page 138 = .ok (.aload_n 0, 1) := by decide +kernel
theorem dM_page_139 : decode kM_page 139 = .ok (.aload_n 0, 1) := by decide +kernel
theorem dM_page_140 : decode kM_page 140 = .ok (.getfield 31, 3) := by decide +kernel
theorem dM_page_143 : decode kM_page 143 = .ok (.iload_n 1, 1) := by decide +kernel
theorem dM_page_144 : decode kM_page 144 = .ok (.iaload, 1) := by decide +kernel
theorem dM_page_145 : decode kM_page 145 = .ok (.invokevirtual 165, 3) := by decide +kernel
theorem dM_page_148 : decode kM_page 148 = .ok (.aload_n 0, 1) := by decide +kernel
theorem dM_page_149 : decode kM_page 149 = .ok (.iload 6, 2) := by decide +kernel
theorem dM_page_151 : decode kM_page 151 = .ok (.invokevirtual 165, 3) := by decide +kernel
theorem dM_page_154 : decode kM_page 154 = .ok (.aload_n 0, 1) := by decide +kernel
theorem dM_page_155 : decode kM_page 155 = .ok (.iload 6, 2) := by decide +kernel
theorem dM_page_157 : decode kM_page 157 = .ok (.bipush 8, 2) := by decide +kernel
theorem dM_page_159 : decode kM_page 159 = .ok (.ishr, 1) := by decide +kernel
theorem dM_page_160 : decode kM_page 160 = .ok (.invokevirtual 165, 3) := by decide +kernel
theorem dM_page_163 : decode kM_page 163 = .ok (.aload_n 0, 1) := by decide +kernel
theorem dM_page_164 : decode kM_page 164 = .ok (.dup, 1) := by decide +kernel
theorem dM_page_165 : decode kM_page 165 = .ok (.getfield 132, 3) := by decide +kernel
theorem dM_page_168 : decode kM_page 168 = .ok (.iconst 4, 1) := by decide +kernel
theorem dM_page_169 : decode kM_page 169 = .ok (.iadd, 1) := by decide +kernel
theorem dM_page_170 : decode kM_page 170 = .ok (.putfield 132, 3) := by decide +kernel
theorem dM_page_173 : decode kM_page 173 = .ok (.aload_n 0, 1) := by decide +kernel
theorem dM_page_174 : decode kM_page 174 = .ok (.iload_n 2, 1) := by decide +kernel
theorem dM_page_175 : decode kM_page 175 = .ok (.invokevirtual 165, 3) := by decide +kernel
theorem dM_page_178 : decode kM_page 178 = .ok (.iconst 0, 1) := by decide +kernel
theorem dM_page_179 : decode kM_page 179 = .ok (.istore 7, 2) := by decide +kernel
theorem dM_page_181 : decode kM_page 181 = .ok (.iload 7, 2) := by decide +kernel
theorem dM_page_183 : decode kM_page 183 = .ok (.iload_n 2, 1) := by decide +kernel
theorem dM_page_184 : decode kM_page 184 = .ok (.if_icmp .ge 23, 3) := by decide +kernel
theorem dM_page_187 : decode kM_page 187 = .ok (.aload_n 0, 1) := by decide +kernel
theorem dM_page_188 : decode kM_page 188 = .ok (.aload_n 0, 1) := by decide +kernel
theorem dM_page_189 : decode kM_page 189 = .ok (.getfield 16, 3) := by decide +kernel
theorem dM_page_192 : decode kM_page 192 = .ok (.iload 5, 2) := by decide +kernel
theorem dM_page_194 : decode kM_page 194 = .ok (.iload 7, 2) := by decide +kernel
theorem dM_page_196 : decode kM_page 196 = .ok (.iadd, 1) := by decide +kernel
theorem dM_page_197 : decode kM_page 197 = .ok (.iaload, 1) := by decide +kernel
theorem dM_page_198 : decode kM_page 198 = .ok (.invokevirtual 165, 3) := by decide +kernel
theorem dM_page_201 : decode kM_page 201 = .ok (.iinc 7 1, 3) := by decide +kernel
theorem dM_page_204 : decode kM_page 204 = .ok (.goto (-23), 3) := by decide +kernel
theorem dM_page_207 : decode kM_page 207 = .ok (.iconst 0, 1) := by decide +kernel
theorem dM_page_208 : decode kM_page 208 = .ok (.istore 7, 2) := by decide +kernel
theorem dM_page_210 : decode kM_page 210 = .ok (.iload 7, 2) := by decide +kernel
theorem dM_page_212 : decode kM_page 212 = .ok (.iload_n 2, 1) := by decide +kernel
theorem dM_page_213 : decode kM_page 213 = .ok (.if_icmp .ge 53, 3) := by decide +kernel
theorem dM_page_216 : decode kM_page 216 = .ok (.iconst 0, 1) := by decide +kernel
theorem dM_page_217 : decode kM_page 217 = .ok (.istore 8, 2) := by decide +kernel
theorem dM_page_219 : decode kM_page 219 = .ok (.iload 8, 2) := by decide +kernel
theorem dM_page_221 : decode kM_page 221 = .ok (.aload_n 0, 1) := by decide +kernel
theorem dM_page_222 : decode kM_page 222 = .ok (.getfield 16, 3) := by decide +kernel
theorem dM_page_225 : decode kM_page 225 = .ok (.iload 5, 2) := by decide +kernel
theorem dM_page_227 : decode kM_page 227 = .ok (.iload 7, 2) := by decide +kernel
theorem dM_page_229 : decode kM_page 229 = .ok (.iadd, 1) := by decide +kernel
theorem dM_page_230 : decode kM_page 230 = .ok (.iaload, 1) := by decide +kernel
theorem dM_page_231 : decode kM_page 231 = .ok (.if_icmp .ge 29, 3) := by decide +kernel
theorem dM_page_234 : decode kM_page 234 = .ok (.aload_n 0, 1) := by decide +kernel
theorem dM_page_235 : decode kM_page 235 = .ok (.aload_n 0, 1) := by decide +kernel
theorem dM_page_236 : decode kM_page 236 = .ok (.getfield 25, 3) := by decide +kernel
theorem dM_page_239 : decode kM_page 239 = .ok (.bipush 15, 2) := by decide +kernel
theorem dM_page_241 : decode kM_page 241 = .ok (.iload 5, 2) := by decide +kernel
theorem dM_page_243 : decode kM_page 243 = .ok (.iload 7, 2) := by decide +kernel
theorem dM_page_245 : decode kM_page 245 = .ok (.iadd, 1) := by decide +kernel
theorem dM_page_246 : decode kM_page 246 = .ok (.imul, 1) := by decide +kernel
theorem dM_page_247 : decode kM_page 247 = .ok (.iload 8, 2) := by decide +kernel
theorem dM_page_249 : decode kM_page 249 = .ok (.iadd, 1) := by decide +kernel
theorem dM_page_250 : decode kM_page 250 = .ok (.iaload, 1) := by decide +kernel
theorem dM_page_251 : decode kM_page 251 = .ok (.invokevirtual 165, 3) := by decide +kernel
theorem dM_page_254 : decode kM_page 254 = .ok (.iinc 8 1, 3) := by decide +kernel
theorem dM_page_257 : decode kM_page 257 = .ok (.goto (-38), 3) := by decide +kernel
theorem dM_page_260 : decode kM_page 260 = .ok (.iinc 7 1, 3) := by decide +kernel
theorem dM_page_263 : decode kM_page 263 = .ok (.goto (-53), 3) := by decide +kernel
theorem dM_page_266 : decode kM_page 266 = .ok (.aload_n 0, 1) := by decide +kernel
theorem dM_page_267 : decode kM_page 267 = .ok (.iload 4, 2) := by decide +kernel
theorem dM_page_269 : decode kM_page 269 = .ok (.aload_n 0, 1) := by decide +kernel
theorem dM_page_270 : decode kM_page 270 = .ok (.getfield 132, 3) := by decide +kernel
theorem dM_page_273 : decode kM_page 273 = .ok (.iload 4, 2) := by decide +kernel
theorem dM_page_275 : decode kM_page 275 = .ok (.isub, 1) := by decide +kernel
theorem dM_page_276 : decode kM_page 276 = .ok (.invokevirtual 148, 3) := by decide +kernel
theorem dM_page_279 : decode kM_page 279 = .ok (.istore 7, 2) := by decide +kernel
theorem dM_page_281 : decode kM_page 281 = .ok (.iconst 0, 1) := by decide +kernel
theorem dM_page_282 : decode kM_page 282 = .ok (.istore 8, 2) := by decide +kernel
theorem dM_page_284 : decode kM_page 284 = .ok (.iload 8, 2) := by decide +kernel
theorem dM_page_286 : decode kM_page 286 = .ok (.iconst 4, 1) := by decide +kernel
theorem dM_page_287 : decode kM_page 287 = .ok (.if_icmp .ge 34, 3) := by decide +kernel
theorem dM_page_290 : decode kM_page 290 = .ok (.aload_n 0, 1) := by decide +kernel
theorem dM_page_291 : decode kM_page 291 = .ok (.getfield 7, 3) := by decide +kernel
theorem dM_page_294 : decode kM_page 294 = .ok (.iload 4, 2) := by decide +kernel
theorem dM_page_296 : decode kM_page 296 = .ok (.bipush 9, 2) := by decide +kernel
theorem dM_page_298 : decode kM_page 298 = .ok (.iadd, 1) := by decide +kernel
theorem dM_page_299 : decode kM_page 299 = .ok (.iload 8, 2) := by decide +kernel
theorem dM_page_301 : decode kM_page 301 = .ok (.iadd, 1) := by decide +kernel
theorem dM_page_302 : decode kM_page 302 = .ok (.iload 7, 2) := by decide +kernel
theorem dM_page_304 : decode kM_page 304 = .ok (.bipush 8, 2) := by decide +kernel
theorem dM_page_306 : decode kM_page 306 = .ok (.iload 8, 2) := by decide +kernel
theorem dM_page_308 : decode kM_page 308 = .ok (.imul, 1) := by decide +kernel
theorem dM_page_309 : decode kM_page 309 = .ok (.iushr, 1) := by decide +kernel
theorem dM_page_310 : decode kM_page 310 = .ok (.sipush 255, 3) := by decide +kernel
theorem dM_page_313 : decode kM_page 313 = .ok (.iand, 1) := by decide +kernel
theorem dM_page_314 : decode kM_page 314 = .ok (.iastore, 1) := by decide +kernel
theorem dM_page_315 : decode kM_page 315 = .ok (.iinc 8 1, 3) := by decide +kernel
theorem dM_page_318 : decode kM_page 318 = .ok (.goto (-34), 3) := by decide +kernel
theorem dM_page_321 : decode kM_page 321 = .ok (.aload_n 0, 1) := by decide +kernel
theorem dM_page_322 : decode kM_page 322 = .ok (.getfield 31, 3) := by decide +kernel
theorem dM_page_325 : decode kM_page 325 = .ok (.iload_n 1, 1) := by decide +kernel
theorem dM_page_326 : decode kM_page 326 = .ok (.dup2, 1) := by decide +kernel
theorem dM_page_327 : decode kM_page 327 = .ok (.iaload, 1) := by decide +kernel
theorem dM_page_328 : decode kM_page 328 = .ok (.iconst 1, 1) := by decide +kernel
theorem dM_page_329 : decode kM_page 329 = .ok (.iadd, 1) := by decide +kernel
theorem dM_page_330 : decode kM_page 330 = .ok (.iastore, 1) := by decide +kernel
theorem dM_page_331 : decode kM_page 331 = .ok (.aload_n 0, 1) := by decide +kernel
theorem dM_page_332 : decode kM_page 332 = .ok (.iload 5, 2) := by decide +kernel
theorem dM_page_334 : decode kM_page 334 = .ok (.iload_n 2, 1) := by decide +kernel
theorem dM_page_335 : decode kM_page 335 = .ok (.aload_n 0, 1) := by decide +kernel
theorem dM_page_336 : decode kM_page 336 = .ok (.getfield 28, 3) := by decide +kernel
theorem dM_page_339 : decode kM_page 339 = .ok (.iload_n 1, 1) := by decide +kernel
theorem dM_page_340 : decode kM_page 340 = .ok (.iaload, 1) := by decide +kernel
theorem dM_page_341 : decode kM_page 341 = .ok (.invokevirtual 169, 3) := by decide +kernel
theorem dM_page_344 : decode kM_page 344 = .ok (.aload_n 0, 1) := by decide +kernel
theorem dM_page_345 : decode kM_page 345 = .ok (.getfield 28, 3) := by decide +kernel
theorem dM_page_348 : decode kM_page 348 = .ok (.iload_n 1, 1) := by decide +kernel
theorem dM_page_349 : decode kM_page 349 = .ok (.dup2, 1) := by decide +kernel
theorem dM_page_350 : decode kM_page 350 = .ok (.iaload, 1) := by decide +kernel
theorem dM_page_351 : decode kM_page 351 = .ok (.iload_n 2, 1) := by decide +kernel
theorem dM_page_352 : decode kM_page 352 = .ok (.isub, 1) := by decide +kernel
theorem dM_page_353 : decode kM_page 353 = .ok (.iastore, 1) := by decide +kernel
theorem dM_page_354 : decode kM_page 354 = .ok (.return_, 1) := by decide +kernel
def bl_M_page_284 (θ : TH) (a0_284 : Nat) (x1_284 : Int32) (x2_284 : Int32) (x4_284 : Int32) (x5_284 : Int32) (x7_284 : Int32) (K : VT → UT → Prop) (kb284 : Int32 → VT → UT → Prop) (x8_284 : Int32) (V : VT) (U : UT) : Prop := (((4 : Int32) ≤ x8_284 → isO θ a0_284 12 ∧ (U a0_284 10) ≠ 0 ∧ ∃ n_72, isA θ (U a0_284 10) 0 n_72 ∧ vp_in x1_284 n_72 ∧ ∀ V_75 : VT, V_75 = up2 V (U a0_284 10) x1_284.toNatClampNeg ((V (U a0_284 10) x1_284.toNatClampNeg) + (1 : Int32)) → (U a0_284 9) ≠ 0 ∧ ∃ n_77, isA θ (U a0_284 9) 0 n_77 ∧ vp_in x1_284 n_77 ∧ wp_M_forget θ a0_284 x5_284 x2_284 (V_75 (U a0_284 9) x1_284.toNatClampNeg) V_75 U (fun V_80 U_81 => (U_81 a0_284 9) ≠ 0 ∧ ∃ n_83, isA θ (U_81 a0_284 9) 0 n_83 ∧ vp_in x1_284 n_83 ∧ ∀ V_86 : VT, V_86 = up2 V_80 (U_81 a0_284 9) x1_284.toNatClampNeg ((V_80 (U_81 a0_284 9) x1_284.toNatClampNeg) - x2_284) → K V_86 U_81)) ∧ (¬ (4 : Int32) ≤ x8_284 → isO θ a0_284 12 ∧ (U a0_284 0) ≠ 0 ∧ ∃ n_89, isA θ (U a0_284 0) 0 n_89 ∧ vp_in ((x4_284 + (9 : Int32)) + x8_284) n_89 ∧ ∀ V_92 : VT, V_92 = up2 V (U a0_284 0) ((x4_284 + (9 : Int32)) + x8_284).toNatClampNeg ((x7_284.toUInt32 >>> (((8 : Int32) * x8_284).toUInt32 &&& Int32.toUInt32 31)).toInt32 &&& (255 : Int32)) → ∀ y_93 : Int32, y_93 = x8_284 + (1 : Int32) → kb284 y_93 V_92 U))
def wl_M_page_284 (θ : TH) (a0_284 : Nat) (x1_284 : Int32) (x2_284 : Int32) (x4_284 : Int32) (x5_284 : Int32) (x7_284 : Int32) (K : VT → UT → Prop) : Nat → Int32 → VT → UT → Prop
  | 0, _, _, _ => False
  | n + 1, x8_284, V, U => bl_M_page_284 θ a0_284 x1_284 x2_284 x4_284 x5_284 x7_284 K (wl_M_page_284 θ a0_284 x1_284 x2_284 x4_284 x5_284 x7_284 K n) x8_284 V U
def bl_M_page_219 (θ : TH) (a0_210 : Nat) (x1_210 : Int32) (x2_210 : Int32) (x4_210 : Int32) (x5_210 : Int32) (x7_219 : Int32) (kb210 : Int32 → VT → UT → Prop) (K : VT → UT → Prop) (kb219 : Int32 → VT → UT → Prop) (x8_219 : Int32) (V : VT) (U : UT) : Prop := isO θ a0_210 12 ∧ (U a0_210 5) ≠ 0 ∧ ∃ n_96, isA θ (U a0_210 5) 0 n_96 ∧ vp_in (x5_210 + x7_219) n_96 ∧ (((V (U a0_210 5) (x5_210 + x7_219).toNatClampNeg) ≤ x8_219 → ∀ y_100 : Int32, y_100 = x7_219 + (1 : Int32) → kb210 y_100 V U) ∧ (¬ (V (U a0_210 5) (x5_210 + x7_219).toNatClampNeg) ≤ x8_219 → (U a0_210 8) ≠ 0 ∧ ∃ n_102, isA θ (U a0_210 8) 0 n_102 ∧ vp_in (((15 : Int32) * (x5_210 + x7_219)) + x8_219) n_102 ∧ wp_M_put θ a0_210 (V (U a0_210 8) (((15 : Int32) * (x5_210 + x7_219)) + x8_219).toNatClampNeg) V U (fun V_105 U_106 => ∀ y_107 : Int32, y_107 = x8_219 + (1 : Int32) → kb219 y_107 V_105 U_106)))
def wl_M_page_219 (θ : TH) (a0_210 : Nat) (x1_210 : Int32) (x2_210 : Int32) (x4_210 : Int32) (x5_210 : Int32) (x7_219 : Int32) (kb210 : Int32 → VT → UT → Prop) (K : VT → UT → Prop) : Nat → Int32 → VT → UT → Prop
  | 0, _, _, _ => False
  | n + 1, x8_219, V, U => bl_M_page_219 θ a0_210 x1_210 x2_210 x4_210 x5_210 x7_219 kb210 K (wl_M_page_219 θ a0_210 x1_210 x2_210 x4_210 x5_210 x7_219 kb210 K n) x8_219 V U
def bl_M_page_210 (θ : TH) (a0_210 : Nat) (x1_210 : Int32) (x2_210 : Int32) (x4_210 : Int32) (x5_210 : Int32) (K : VT → UT → Prop) (kb210 : Int32 → VT → UT → Prop) (x7_210 : Int32) (V : VT) (U : UT) : Prop := ((x2_210 ≤ x7_210 → isO θ a0_210 12 ∧ wp_M_check θ a0_210 x4_210 ((V a0_210 1) - x4_210) V U (fun r_68 V_66 U_67 => ∃ n, wl_M_page_284 θ a0_210 x1_210 x2_210 x4_210 x5_210 r_68 K n (0 : Int32) V_66 U_67)) ∧ (¬ x2_210 ≤ x7_210 → ∃ n, wl_M_page_219 θ a0_210 x1_210 x2_210 x4_210 x5_210 x7_210 kb210 K n (0 : Int32) V U))
def wl_M_page_210 (θ : TH) (a0_210 : Nat) (x1_210 : Int32) (x2_210 : Int32) (x4_210 : Int32) (x5_210 : Int32) (K : VT → UT → Prop) : Nat → Int32 → VT → UT → Prop
  | 0, _, _, _ => False
  | n + 1, x7_210, V, U => bl_M_page_210 θ a0_210 x1_210 x2_210 x4_210 x5_210 K (wl_M_page_210 θ a0_210 x1_210 x2_210 x4_210 x5_210 K n) x7_210 V U
def bl_M_page_181 (θ : TH) (a0_181 : Nat) (x1_181 : Int32) (x2_181 : Int32) (x4_181 : Int32) (x5_181 : Int32) (K : VT → UT → Prop) (kb181 : Int32 → VT → UT → Prop) (x7_181 : Int32) (V : VT) (U : UT) : Prop := ((x2_181 ≤ x7_181 → ∃ n, wl_M_page_210 θ a0_181 x1_181 x2_181 x4_181 x5_181 K n (0 : Int32) V U) ∧ (¬ x2_181 ≤ x7_181 → isO θ a0_181 12 ∧ (U a0_181 5) ≠ 0 ∧ ∃ n_58, isA θ (U a0_181 5) 0 n_58 ∧ vp_in (x5_181 + x7_181) n_58 ∧ wp_M_put θ a0_181 (V (U a0_181 5) (x5_181 + x7_181).toNatClampNeg) V U (fun V_61 U_62 => ∀ y_63 : Int32, y_63 = x7_181 + (1 : Int32) → kb181 y_63 V_61 U_62)))
def wl_M_page_181 (θ : TH) (a0_181 : Nat) (x1_181 : Int32) (x2_181 : Int32) (x4_181 : Int32) (x5_181 : Int32) (K : VT → UT → Prop) : Nat → Int32 → VT → UT → Prop
  | 0, _, _, _ => False
  | n + 1, x7_181, V, U => bl_M_page_181 θ a0_181 x1_181 x2_181 x4_181 x5_181 K (wl_M_page_181 θ a0_181 x1_181 x2_181 x4_181 x5_181 K n) x7_181 V U
def wb_M_page_129 (θ : TH) (a0_129 : Nat) (x1_129 : Int32) (x2_129 : Int32) (x4_129 : Int32) (x5_129 : Int32) (x6_129 : Int32) (z0_129 : Int32) (z1_129 : Int32) (z2_129 : Nat) (K : VT → UT → Prop) (V : VT) (U : UT) : Prop := isO θ z2_129 12 ∧ wp_M_put θ z2_129 (z1_129 + z0_129) V U (fun V_36 U_37 => isO θ a0_129 12 ∧ wp_M_put θ a0_129 x1_129 V_36 U_37 (fun V_39 U_40 => (U_40 a0_129 10) ≠ 0 ∧ ∃ n_43, isA θ (U_40 a0_129 10) 0 n_43 ∧ vp_in x1_129 n_43 ∧ wp_M_put θ a0_129 (V_39 (U_40 a0_129 10) x1_129.toNatClampNeg) V_39 U_40 (fun V_46 U_47 => wp_M_put θ a0_129 x6_129 V_46 U_47 (fun V_48 U_49 => wp_M_put θ a0_129 (x6_129 >>> ((8 : Int32) &&& 31)) V_48 U_49 (fun V_50 U_51 => ∀ V_52 : VT, V_52 = up2 V_50 a0_129 1 ((V_50 a0_129 1) + (4 : Int32)) → wp_M_put θ a0_129 x2_129 V_52 U_51 (fun V_53 U_54 => ∃ n, wl_M_page_181 θ a0_129 x1_129 x2_129 x4_129 x5_129 K n (0 : Int32) V_53 U_54))))))
def wb_M_page_119 (θ : TH) (a0_119 : Nat) (x1_119 : Int32) (x2_119 : Int32) (x3_119 : Int32) (x4_119 : Int32) (x5_119 : Int32) (x6_119 : Int32) (z0_119 : Int32) (z1_119 : Int32) (z2_119 : Nat) (K : VT → UT → Prop) (V : VT) (U : UT) : Prop := ((x3_119 = 0 → wb_M_page_129 θ a0_119 x1_119 x2_119 x4_119 x5_119 x6_119 (0 : Int32) (z1_119 + z0_119) z2_119 K V U) ∧ (¬ x3_119 = 0 → wb_M_page_129 θ a0_119 x1_119 x2_119 x4_119 x5_119 x6_119 (4 : Int32) (z1_119 + z0_119) z2_119 K V U))
def wb_M_page_105 (θ : TH) (a0_105 : Nat) (x1_105 : Int32) (x2_105 : Int32) (x3_105 : Int32) (x4_105 : Int32) (x5_105 : Int32) (x6_105 : Int32) (z0_105 : Int32) (z1_105 : Nat) (K : VT → UT → Prop) (V : VT) (U : UT) : Prop := isO θ a0_105 12 ∧ (U a0_105 10) ≠ 0 ∧ ∃ n_31, isA θ (U a0_105 10) 0 n_31 ∧ vp_in x1_105 n_31 ∧ ((¬ (V (U a0_105 10) x1_105.toNatClampNeg) = 0 → wb_M_page_119 θ a0_105 x1_105 x2_105 x3_105 x4_105 x5_105 x6_105 (0 : Int32) z0_105 z1_105 K V U) ∧ ((V (U a0_105 10) x1_105.toNatClampNeg) = 0 → wb_M_page_119 θ a0_105 x1_105 x2_105 x3_105 x4_105 x5_105 x6_105 (2 : Int32) z0_105 z1_105 K V U))
def wb_M_page_104 (θ : TH) (a0_104 : Nat) (x1_104 : Int32) (x2_104 : Int32) (x3_104 : Int32) (x4_104 : Int32) (x5_104 : Int32) (x6_104 : Int32) (z0_104 : Nat) (K : VT → UT → Prop) (V : VT) (U : UT) : Prop := wb_M_page_105 θ a0_104 x1_104 x2_104 x3_104 x4_104 x5_104 x6_104 (0 : Int32) z0_104 K V U
def bl_M_page_64 (θ : TH) (a0_64 : Nat) (x1_64 : Int32) (x2_64 : Int32) (x3_64 : Int32) (x4_64 : Int32) (x5_64 : Int32) (x6_64 : Int32) (K : VT → UT → Prop) (kb64 : Int32 → VT → UT → Prop) (x7_64 : Int32) (V : VT) (U : UT) : Prop := (((4 : Int32) ≤ x7_64 → ((x2_64 ≤ 0 → wb_M_page_104 θ a0_64 x1_64 x2_64 x3_64 x4_64 x5_64 x6_64 a0_64 K V U) ∧ (¬ x2_64 ≤ 0 → isO θ a0_64 12 ∧ (U a0_64 6) ≠ 0 ∧ ∃ n_18, isA θ (U a0_64 6) 0 n_18 ∧ vp_in x5_64 n_18 ∧ ((¬ (V (U a0_64 6) x5_64.toNatClampNeg) = 0 → wb_M_page_104 θ a0_64 x1_64 x2_64 x3_64 x4_64 x5_64 x6_64 a0_64 K V U) ∧ ((V (U a0_64 6) x5_64.toNatClampNeg) = 0 → wb_M_page_105 θ a0_64 x1_64 x2_64 x3_64 x4_64 x5_64 x6_64 (1 : Int32) a0_64 K V U))))) ∧ (¬ (4 : Int32) ≤ x7_64 → wp_M_magic θ x7_64 V U (fun r_24 V_22 U_23 => isO θ a0_64 12 ∧ wp_M_put θ a0_64 r_24 V_22 U_23 (fun V_25 U_26 => ∀ y_28 : Int32, y_28 = x7_64 + (1 : Int32) → kb64 y_28 V_25 U_26))))
def wl_M_page_64 (θ : TH) (a0_64 : Nat) (x1_64 : Int32) (x2_64 : Int32) (x3_64 : Int32) (x4_64 : Int32) (x5_64 : Int32) (x6_64 : Int32) (K : VT → UT → Prop) : Nat → Int32 → VT → UT → Prop
  | 0, _, _, _ => False
  | n + 1, x7_64, V, U => bl_M_page_64 θ a0_64 x1_64 x2_64 x3_64 x4_64 x5_64 x6_64 K (wl_M_page_64 θ a0_64 x1_64 x2_64 x3_64 x4_64 x5_64 x6_64 K n) x7_64 V U
def bl_M_page_19 (θ : TH) (a0_19 : Nat) (x1_19 : Int32) (x2_19 : Int32) (x3_19 : Int32) (x4_19 : Int32) (x5_19 : Int32) (K : VT → UT → Prop) (kb19 : Int32 → Int32 → VT → UT → Prop) (x6_19 : Int32) (x7_19 : Int32) (V : VT) (U : UT) : Prop := ((x2_19 ≤ x7_19 → ∃ n, wl_M_page_64 θ a0_19 x1_19 x2_19 x3_19 x4_19 x5_19 x6_19 K n (0 : Int32) V U) ∧ (¬ x2_19 ≤ x7_19 → isO θ a0_19 12 ∧ (U a0_19 7) ≠ 0 ∧ ∃ n_7, isA θ (U a0_19 7) 0 n_7 ∧ vp_in (x5_19 + x7_19) n_7 ∧ (((V (U a0_19 7) (x5_19 + x7_19).toNatClampNeg) < 0 → ∀ y_11 : Int32, y_11 = x7_19 + (1 : Int32) → kb19 x6_19 y_11 V U) ∧ (¬ (V (U a0_19 7) (x5_19 + x7_19).toNatClampNeg) < 0 → ∀ y_12 : Int32, y_12 = (V (U a0_19 7) (x5_19 + x7_19).toNatClampNeg) → ∀ y_13 : Int32, y_13 = x7_19 + (1 : Int32) → kb19 y_12 y_13 V U))))
def wl_M_page_19 (θ : TH) (a0_19 : Nat) (x1_19 : Int32) (x2_19 : Int32) (x3_19 : Int32) (x4_19 : Int32) (x5_19 : Int32) (K : VT → UT → Prop) : Nat → Int32 → Int32 → VT → UT → Prop
  | 0, _, _, _, _ => False
  | n + 1, x6_19, x7_19, V, U => bl_M_page_19 θ a0_19 x1_19 x2_19 x3_19 x4_19 x5_19 K (wl_M_page_19 θ a0_19 x1_19 x2_19 x3_19 x4_19 x5_19 K n) x6_19 x7_19 V U
def wp_M_page (θ : TH) (a0 : Nat) (x1 : Int32) (x2 : Int32) (x3 : Int32) (V : VT) (U : UT) (K : VT → UT → Prop) : Prop := isO θ a0 12 ∧ ∀ y_2 : Int32, y_2 = (V a0 1) → ∀ y_3 : Int32, y_3 = ((16 : Int32) * x1) → ∃ n, wl_M_page_19 θ a0 x1 x2 x3 y_2 y_3 K n (65535 : Int32) (0 : Int32) V U
set_option maxRecDepth 100000 in
set_option maxHeartbeats 4000000 in
theorem c_M_page (l : Launch) (θ : TH) (a0 : Nat) (x1 : Int32) (x2 : Int32) (x3 : Int32) (V : VT) (U : UT) (K : VT → UT → Prop) (hw : wp_M_page θ a0 x1 x2 x3 V U K) : CMv l yM_page kM_page 9 none rmM_page θ [.ref a0, .int x1, .int x2, .int x3] V U K := by
  refine g_met nRM (by decide +kernel) rfl (Nat.le_of_ble_eq_true rfl) (fun p e s m args below meth c ls hC hr hlk hwo hl => ?_)
  have hx := hC.1
  have hb := hC.2.1
  have hS : Sx θ s s.heap [] := va_S.rf
  have hl : lv_has ls 9 [(0, .ref a0), (1, .int x1), (2, .int x2), (3, .int x3)] := hl
  have L284 : ∀ (a0_284 : Nat) (x1_284 : Int32) (x2_284 : Int32) (x4_284 : Int32) (x5_284 : Int32) (x7_284 : Int32) (n284 : Nat) (x8_284 : Int32) (V : VT) (U : UT) (H : Heap) (locs : List Loc) (ls : Array Slot), wl_M_page_284 θ a0_284 x1_284 x2_284 x4_284 x5_284 x7_284 K n284 x8_284 V U → wo θ V U H → Sx θ s H locs → lv_has ls 9 [(0, .ref a0_284), (1, .int x1_284), (2, .int x2_284), (4, .int x4_284), (5, .int x5_284), (7, .int x7_284), (8, .int x8_284)] → W p l e rmM_page s m args below meth c H locs 0 0 (MQ below (QV θ K) args s 0 0 (aT θ)) (F0 m 284 ls []) := by
    intro a0_284 x1_284 x2_284 x4_284 x5_284 x7_284 n284
    induction n284 with
    | zero => intro x8_284 V U H locs ls hw hwo hS hl; exact (show False from hw).elim
    | succ n284 ih284 =>
      intro x8_284 V U H locs ls hw hwo hS hl
      replace hw : bl_M_page_284 θ a0_284 x1_284 x2_284 x4_284 x5_284 x7_284 K (wl_M_page_284 θ a0_284 x1_284 x2_284 x4_284 x5_284 x7_284 K n284) x8_284 V U := hw
      unfold bl_M_page_284 at hw
      refine lv_iload hx hb dM_page_284 (lv_at hl 6 rfl) ?_
      refine lv_iconst (v := 4) hx hb dM_page_286 (by decide) ?_
      refine lv_icmp_ge (tgt := 321) hx hb dM_page_287 (by decide) (fun hc_69 => ?_) (fun hc_69 => ?_)
      · replace hw := hw.1 hc_69
        refine lv_aload_n hx hb dM_page_321 rfl (lv_at hl 0 rfl) ?_
        obtain ⟨ho_70, hw⟩ := hw
        obtain ⟨hz_71, hw⟩ := hw
        refine g_getR hC fkM_31 rfl hwo ho_70 hz_71 dM_page_322 ?_
        refine lv_iload_n hx hb dM_page_325 rfl (lv_at hl 1 rfl) ?_
        refine lv_dup2_11 hx hb dM_page_326 rfl rfl ?_
        obtain ⟨n_72, ha_73, hw⟩ := hw
        obtain ⟨hi_74, hw⟩ := hw
        refine g_iald hC hwo ha_73 hi_74 dM_page_327 ?_
        refine lv_iconst (v := 1) hx hb dM_page_328 (by decide) ?_
        refine lv_iadd hx hb dM_page_329 ?_
        refine g_iast hC hwo hS ha_73 hi_74 dM_page_330 (fun V_75 eV_75 H locs hwo hS => ?_)
        replace hw := hw V_75 eV_75
        refine lv_aload_n hx hb dM_page_331 rfl (lv_at hl 0 rfl) ?_
        refine lv_iload hx hb dM_page_332 (lv_at hl 4 rfl) ?_
        refine lv_iload_n hx hb dM_page_334 rfl (lv_at hl 2 rfl) ?_
        refine lv_aload_n hx hb dM_page_335 rfl (lv_at hl 0 rfl) ?_
        obtain ⟨hz_76, hw⟩ := hw
        refine g_getR hC fkM_28 rfl hwo ho_70 hz_76 dM_page_336 ?_
        refine lv_iload_n hx hb dM_page_339 rfl (lv_at hl 1 rfl) ?_
        obtain ⟨n_77, ha_78, hw⟩ := hw
        obtain ⟨hi_79, hw⟩ := hw
        refine g_iald hC hwo ha_78 hi_79 dM_page_340 ?_
        refine g_Vv (rest := []) hC (c_M_forget l θ _ _ _ _ _ _ _ hw) mi_M_forget mlM_169 mv_M_forget ci_12 ho_70 hwo hS ⟨rfl, rfl⟩ ⟨by decide, by decide⟩ rfl hl.1 rfl (Nat.le_of_ble_eq_true rfl) dM_page_341 (fun V_80 U_81 hw H locs hwo hS => ?_)
        refine lv_aload_n hx hb dM_page_344 rfl (lv_at hl 0 rfl) ?_
        obtain ⟨hz_82, hw⟩ := hw
        refine g_getR hC fkM_28 rfl hwo ho_70 hz_82 dM_page_345 ?_
        refine lv_iload_n hx hb dM_page_348 rfl (lv_at hl 1 rfl) ?_
        refine lv_dup2_11 hx hb dM_page_349 rfl rfl ?_
        obtain ⟨n_83, ha_84, hw⟩ := hw
        obtain ⟨hi_85, hw⟩ := hw
        refine g_iald hC hwo ha_84 hi_85 dM_page_350 ?_
        refine lv_iload_n hx hb dM_page_351 rfl (lv_at hl 2 rfl) ?_
        refine lv_isub hx hb dM_page_352 ?_
        refine g_iast hC hwo hS ha_84 hi_85 dM_page_353 (fun V_86 eV_86 H locs hwo hS => ?_)
        replace hw := hw V_86 eV_86
        exact g_vret hC hr hlk hw hwo hS dM_page_354
      · replace hw := hw.2 hc_69
        refine lv_aload_n hx hb dM_page_290 rfl (lv_at hl 0 rfl) ?_
        obtain ⟨ho_87, hw⟩ := hw
        obtain ⟨hz_88, hw⟩ := hw
        refine g_getR hC fkM_7 rfl hwo ho_87 hz_88 dM_page_291 ?_
        refine lv_iload hx hb dM_page_294 (lv_at hl 3 rfl) ?_
        refine lv_bipush (v := 9) hx hb dM_page_296 (by decide) ?_
        refine lv_iadd hx hb dM_page_298 ?_
        refine lv_iload hx hb dM_page_299 (lv_at hl 6 rfl) ?_
        refine lv_iadd hx hb dM_page_301 ?_
        refine lv_iload hx hb dM_page_302 (lv_at hl 5 rfl) ?_
        refine lv_bipush (v := 8) hx hb dM_page_304 (by decide) ?_
        refine lv_iload hx hb dM_page_306 (lv_at hl 6 rfl) ?_
        refine lv_imul hx hb dM_page_308 ?_
        refine lv_iushr hx hb dM_page_309 rfl ?_
        refine lv_sipush (v := 255) hx hb dM_page_310 (by decide) ?_
        refine lv_iand hx hb dM_page_313 ?_
        obtain ⟨n_89, ha_90, hw⟩ := hw
        obtain ⟨hi_91, hw⟩ := hw
        refine g_iast hC hwo hS ha_90 hi_91 dM_page_314 (fun V_92 eV_92 H locs hwo hS => ?_)
        replace hw := hw V_92 eV_92
        obtain ⟨y_93, ey_93⟩ : ∃ z : Int32, z = x8_284 + (1 : Int32) := ⟨_, rfl⟩
        replace hw := hw y_93 ey_93
        refine lv_iinc (k := 6) (v := y_93) (lv' := [(8, .int y_93), (0, .ref a0_284), (1, .int x1_284), (2, .int x2_284), (4, .int x4_284), (5, .int x5_284), (7, .int x7_284)]) hx hb dM_page_315 hl rfl (by rw [ey_93]; rfl) (by decide) rfl (fun ls hl => ?_)
        refine lv_goto (tgt := 284) hx hb dM_page_318 (by decide) ?_
        exact ih284 _ _ _ _ _ _ hw hwo hS (lv_sub hl [1, 2, 3, 4, 5, 6, 0] rfl)
  have L210 : ∀ (a0_210 : Nat) (x1_210 : Int32) (x2_210 : Int32) (x4_210 : Int32) (x5_210 : Int32) (n210 : Nat) (x7_210 : Int32) (V : VT) (U : UT) (H : Heap) (locs : List Loc) (ls : Array Slot), wl_M_page_210 θ a0_210 x1_210 x2_210 x4_210 x5_210 K n210 x7_210 V U → wo θ V U H → Sx θ s H locs → lv_has ls 9 [(0, .ref a0_210), (1, .int x1_210), (2, .int x2_210), (4, .int x4_210), (5, .int x5_210), (7, .int x7_210)] → W p l e rmM_page s m args below meth c H locs 0 0 (MQ below (QV θ K) args s 0 0 (aT θ)) (F0 m 210 ls []) := by
    intro a0_210 x1_210 x2_210 x4_210 x5_210 n210
    induction n210 with
    | zero => intro x7_210 V U H locs ls hw hwo hS hl; exact (show False from hw).elim
    | succ n210 ih210 =>
      have L219 : ∀ (x7_219 : Int32) (n219 : Nat) (x8_219 : Int32) (V : VT) (U : UT) (H : Heap) (locs : List Loc) (ls : Array Slot), wl_M_page_219 θ a0_210 x1_210 x2_210 x4_210 x5_210 x7_219 (wl_M_page_210 θ a0_210 x1_210 x2_210 x4_210 x5_210 K n210) K n219 x8_219 V U → wo θ V U H → Sx θ s H locs → lv_has ls 9 [(0, .ref a0_210), (1, .int x1_210), (2, .int x2_210), (4, .int x4_210), (5, .int x5_210), (7, .int x7_219), (8, .int x8_219)] → W p l e rmM_page s m args below meth c H locs 0 0 (MQ below (QV θ K) args s 0 0 (aT θ)) (F0 m 219 ls []) := by
        intro x7_219 n219
        induction n219 with
        | zero => intro x8_219 V U H locs ls hw hwo hS hl; exact (show False from hw).elim
        | succ n219 ih219 =>
          intro x8_219 V U H locs ls hw hwo hS hl
          replace hw : bl_M_page_219 θ a0_210 x1_210 x2_210 x4_210 x5_210 x7_219 (wl_M_page_210 θ a0_210 x1_210 x2_210 x4_210 x5_210 K n210) K (wl_M_page_219 θ a0_210 x1_210 x2_210 x4_210 x5_210 x7_219 (wl_M_page_210 θ a0_210 x1_210 x2_210 x4_210 x5_210 K n210) K n219) x8_219 V U := hw
          unfold bl_M_page_219 at hw
          refine lv_iload hx hb dM_page_219 (lv_at hl 6 rfl) ?_
          refine lv_aload_n hx hb dM_page_221 rfl (lv_at hl 0 rfl) ?_
          obtain ⟨ho_94, hw⟩ := hw
          obtain ⟨hz_95, hw⟩ := hw
          refine g_getR hC fkM_16 rfl hwo ho_94 hz_95 dM_page_222 ?_
          refine lv_iload hx hb dM_page_225 (lv_at hl 4 rfl) ?_
          refine lv_iload hx hb dM_page_227 (lv_at hl 5 rfl) ?_
          refine lv_iadd hx hb dM_page_229 ?_
          obtain ⟨n_96, ha_97, hw⟩ := hw
          obtain ⟨hi_98, hw⟩ := hw
          refine g_iald hC hwo ha_97 hi_98 dM_page_230 ?_
          refine lv_icmp_ge (tgt := 260) hx hb dM_page_231 (by decide) (fun hc_99 => ?_) (fun hc_99 => ?_)
          · replace hw := hw.1 hc_99
            obtain ⟨y_100, ey_100⟩ : ∃ z : Int32, z = x7_219 + (1 : Int32) := ⟨_, rfl⟩
            replace hw := hw y_100 ey_100
            refine lv_iinc (k := 5) (v := y_100) (lv' := [(7, .int y_100), (0, .ref a0_210), (1, .int x1_210), (2, .int x2_210), (4, .int x4_210), (5, .int x5_210), (8, .int x8_219)]) hx hb dM_page_260 hl rfl (by rw [ey_100]; rfl) (by decide) rfl (fun ls hl => ?_)
            refine lv_goto (tgt := 210) hx hb dM_page_263 (by decide) ?_
            exact ih210 _ _ _ _ _ _ hw hwo hS (lv_sub hl [1, 2, 3, 4, 5, 0] rfl)
          · replace hw := hw.2 hc_99
            refine lv_aload_n hx hb dM_page_234 rfl (lv_at hl 0 rfl) ?_
            refine lv_aload_n hx hb dM_page_235 rfl (lv_at hl 0 rfl) ?_
            obtain ⟨hz_101, hw⟩ := hw
            refine g_getR hC fkM_25 rfl hwo ho_94 hz_101 dM_page_236 ?_
            refine lv_bipush (v := 15) hx hb dM_page_239 (by decide) ?_
            refine lv_iload hx hb dM_page_241 (lv_at hl 4 rfl) ?_
            refine lv_iload hx hb dM_page_243 (lv_at hl 5 rfl) ?_
            refine lv_iadd hx hb dM_page_245 ?_
            refine lv_imul hx hb dM_page_246 ?_
            refine lv_iload hx hb dM_page_247 (lv_at hl 6 rfl) ?_
            refine lv_iadd hx hb dM_page_249 ?_
            obtain ⟨n_102, ha_103, hw⟩ := hw
            obtain ⟨hi_104, hw⟩ := hw
            refine g_iald hC hwo ha_103 hi_104 dM_page_250 ?_
            refine g_Vv (rest := []) hC (c_M_put l θ _ _ _ _ _ hw) mi_M_put mlM_165 mv_M_put ci_12 ho_94 hwo hS ⟨rfl, rfl⟩ ⟨by decide, by decide⟩ rfl hl.1 rfl (Nat.le_of_ble_eq_true rfl) dM_page_251 (fun V_105 U_106 hw H locs hwo hS => ?_)
            obtain ⟨y_107, ey_107⟩ : ∃ z : Int32, z = x8_219 + (1 : Int32) := ⟨_, rfl⟩
            replace hw := hw y_107 ey_107
            refine lv_iinc (k := 6) (v := y_107) (lv' := [(8, .int y_107), (0, .ref a0_210), (1, .int x1_210), (2, .int x2_210), (4, .int x4_210), (5, .int x5_210), (7, .int x7_219)]) hx hb dM_page_254 hl rfl (by rw [ey_107]; rfl) (by decide) rfl (fun ls hl => ?_)
            refine lv_goto (tgt := 219) hx hb dM_page_257 (by decide) ?_
            exact ih219 _ _ _ _ _ _ hw hwo hS (lv_sub hl [1, 2, 3, 4, 5, 6, 0] rfl)
      intro x7_210 V U H locs ls hw hwo hS hl
      replace hw : bl_M_page_210 θ a0_210 x1_210 x2_210 x4_210 x5_210 K (wl_M_page_210 θ a0_210 x1_210 x2_210 x4_210 x5_210 K n210) x7_210 V U := hw
      unfold bl_M_page_210 at hw
      refine lv_iload hx hb dM_page_210 (lv_at hl 5 rfl) ?_
      refine lv_iload_n hx hb dM_page_212 rfl (lv_at hl 2 rfl) ?_
      refine lv_icmp_ge (tgt := 266) hx hb dM_page_213 (by decide) (fun hc_64 => ?_) (fun hc_64 => ?_)
      · replace hw := hw.1 hc_64
        refine lv_aload_n hx hb dM_page_266 rfl (lv_at hl 0 rfl) ?_
        refine lv_iload hx hb dM_page_267 (lv_at hl 3 rfl) ?_
        refine lv_aload_n hx hb dM_page_269 rfl (lv_at hl 0 rfl) ?_
        obtain ⟨ho_65, hw⟩ := hw
        refine g_getI hC fkM_132 rfl hwo ho_65 dM_page_270 ?_
        refine lv_iload hx hb dM_page_273 (lv_at hl 3 rfl) ?_
        refine lv_isub hx hb dM_page_275 ?_
        refine g_Vi (rest := []) hC (c_M_check l θ _ _ _ _ _ _ hw) mi_M_check mlM_148 mv_M_check ci_12 ho_65 hwo hS ⟨rfl, rfl⟩ ⟨by decide, by decide⟩ rfl hl.1 rfl (Nat.le_of_ble_eq_true rfl) dM_page_276 (fun r_68 V_66 U_67 hw H locs hwo hS => ?_)
        refine lv_istore (i := 7) (lv' := [(7, .int r_68), (0, .ref a0_210), (1, .int x1_210), (2, .int x2_210), (4, .int x4_210), (5, .int x5_210)]) hx hb dM_page_279 hl (by decide) rfl (fun ls hl => ?_)
        refine lv_iconst (v := 0) hx hb dM_page_281 (by decide) ?_
        refine lv_istore (i := 8) (lv' := [(8, .int (0 : Int32)), (7, .int r_68), (0, .ref a0_210), (1, .int x1_210), (2, .int x2_210), (4, .int x4_210), (5, .int x5_210)]) hx hb dM_page_282 hl (by decide) rfl (fun ls hl => ?_)
        obtain ⟨n, hw⟩ := hw
        exact L284 _ _ _ _ _ _ n _ _ _ _ _ _ hw hwo hS (lv_sub hl [2, 3, 4, 5, 6, 1, 0] rfl)
      · replace hw := hw.2 hc_64
        refine lv_iconst (v := 0) hx hb dM_page_216 (by decide) ?_
        refine lv_istore (i := 8) (lv' := [(8, .int (0 : Int32)), (0, .ref a0_210), (1, .int x1_210), (2, .int x2_210), (4, .int x4_210), (5, .int x5_210), (7, .int x7_210)]) hx hb dM_page_217 hl (by decide) rfl (fun ls hl => ?_)
        obtain ⟨n, hw⟩ := hw
        exact L219 _ n _ _ _ _ _ _ hw hwo hS (lv_sub hl [1, 2, 3, 4, 5, 6, 0] rfl)
  have L181 : ∀ (a0_181 : Nat) (x1_181 : Int32) (x2_181 : Int32) (x4_181 : Int32) (x5_181 : Int32) (n181 : Nat) (x7_181 : Int32) (V : VT) (U : UT) (H : Heap) (locs : List Loc) (ls : Array Slot), wl_M_page_181 θ a0_181 x1_181 x2_181 x4_181 x5_181 K n181 x7_181 V U → wo θ V U H → Sx θ s H locs → lv_has ls 9 [(0, .ref a0_181), (1, .int x1_181), (2, .int x2_181), (4, .int x4_181), (5, .int x5_181), (7, .int x7_181)] → W p l e rmM_page s m args below meth c H locs 0 0 (MQ below (QV θ K) args s 0 0 (aT θ)) (F0 m 181 ls []) := by
    intro a0_181 x1_181 x2_181 x4_181 x5_181 n181
    induction n181 with
    | zero => intro x7_181 V U H locs ls hw hwo hS hl; exact (show False from hw).elim
    | succ n181 ih181 =>
      intro x7_181 V U H locs ls hw hwo hS hl
      replace hw : bl_M_page_181 θ a0_181 x1_181 x2_181 x4_181 x5_181 K (wl_M_page_181 θ a0_181 x1_181 x2_181 x4_181 x5_181 K n181) x7_181 V U := hw
      unfold bl_M_page_181 at hw
      refine lv_iload hx hb dM_page_181 (lv_at hl 5 rfl) ?_
      refine lv_iload_n hx hb dM_page_183 rfl (lv_at hl 2 rfl) ?_
      refine lv_icmp_ge (tgt := 207) hx hb dM_page_184 (by decide) (fun hc_55 => ?_) (fun hc_55 => ?_)
      · replace hw := hw.1 hc_55
        refine lv_iconst (v := 0) hx hb dM_page_207 (by decide) ?_
        refine lv_istore (i := 7) (lv' := [(7, .int (0 : Int32)), (0, .ref a0_181), (1, .int x1_181), (2, .int x2_181), (4, .int x4_181), (5, .int x5_181)]) hx hb dM_page_208 hl (by decide) rfl (fun ls hl => ?_)
        obtain ⟨n, hw⟩ := hw
        exact L210 _ _ _ _ _ n _ _ _ _ _ _ hw hwo hS (lv_sub hl [1, 2, 3, 4, 5, 0] rfl)
      · replace hw := hw.2 hc_55
        refine lv_aload_n hx hb dM_page_187 rfl (lv_at hl 0 rfl) ?_
        refine lv_aload_n hx hb dM_page_188 rfl (lv_at hl 0 rfl) ?_
        obtain ⟨ho_56, hw⟩ := hw
        obtain ⟨hz_57, hw⟩ := hw
        refine g_getR hC fkM_16 rfl hwo ho_56 hz_57 dM_page_189 ?_
        refine lv_iload hx hb dM_page_192 (lv_at hl 4 rfl) ?_
        refine lv_iload hx hb dM_page_194 (lv_at hl 5 rfl) ?_
        refine lv_iadd hx hb dM_page_196 ?_
        obtain ⟨n_58, ha_59, hw⟩ := hw
        obtain ⟨hi_60, hw⟩ := hw
        refine g_iald hC hwo ha_59 hi_60 dM_page_197 ?_
        refine g_Vv (rest := []) hC (c_M_put l θ _ _ _ _ _ hw) mi_M_put mlM_165 mv_M_put ci_12 ho_56 hwo hS ⟨rfl, rfl⟩ ⟨by decide, by decide⟩ rfl hl.1 rfl (Nat.le_of_ble_eq_true rfl) dM_page_198 (fun V_61 U_62 hw H locs hwo hS => ?_)
        obtain ⟨y_63, ey_63⟩ : ∃ z : Int32, z = x7_181 + (1 : Int32) := ⟨_, rfl⟩
        replace hw := hw y_63 ey_63
        refine lv_iinc (k := 5) (v := y_63) (lv' := [(7, .int y_63), (0, .ref a0_181), (1, .int x1_181), (2, .int x2_181), (4, .int x4_181), (5, .int x5_181)]) hx hb dM_page_201 hl rfl (by rw [ey_63]; rfl) (by decide) rfl (fun ls hl => ?_)
        refine lv_goto (tgt := 181) hx hb dM_page_204 (by decide) ?_
        exact ih181 _ _ _ _ _ _ hw hwo hS (lv_sub hl [1, 2, 3, 4, 5, 0] rfl)
  have J129 : ∀ (a0_129 : Nat) (x1_129 : Int32) (x2_129 : Int32) (x4_129 : Int32) (x5_129 : Int32) (x6_129 : Int32) (z0_129 : Int32) (z1_129 : Int32) (z2_129 : Nat) (V : VT) (U : UT) (H : Heap) (locs : List Loc) (ls : Array Slot), wb_M_page_129 θ a0_129 x1_129 x2_129 x4_129 x5_129 x6_129 z0_129 z1_129 z2_129 K V U → wo θ V U H → Sx θ s H locs → lv_has ls 9 [(0, .ref a0_129), (1, .int x1_129), (2, .int x2_129), (4, .int x4_129), (5, .int x5_129), (6, .int x6_129)] → W p l e rmM_page s m args below meth c H locs 0 0 (MQ below (QV θ K) args s 0 0 (aT θ)) (F0 m 129 ls [.int z0_129, .int z1_129, .ref z2_129]) := by
    intro a0_129 x1_129 x2_129 x4_129 x5_129 x6_129 z0_129 z1_129 z2_129 V U H locs ls hw hwo hS hl
    unfold wb_M_page_129 at hw
    refine lv_iadd hx hb dM_page_129 ?_
    obtain ⟨ho_38, hw⟩ := hw
    refine g_Vv (rest := []) hC (c_M_put l θ _ _ _ _ _ hw) mi_M_put mlM_165 mv_M_put ci_12 ho_38 hwo hS ⟨rfl, rfl⟩ ⟨by decide, by decide⟩ rfl hl.1 rfl (Nat.le_of_ble_eq_true rfl) dM_page_130 (fun V_36 U_37 hw H locs hwo hS => ?_)
    refine lv_aload_n hx hb dM_page_133 rfl (lv_at hl 0 rfl) ?_
    refine lv_iload_n hx hb dM_page_134 rfl (lv_at hl 1 rfl) ?_
    obtain ⟨ho_41, hw⟩ := hw
    refine g_Vv (rest := []) hC (c_M_put l θ _ _ _ _ _ hw) mi_M_put mlM_165 mv_M_put ci_12 ho_41 hwo hS ⟨rfl, rfl⟩ ⟨by decide, by decide⟩ rfl hl.1 rfl (Nat.le_of_ble_eq_true rfl) dM_page_135 (fun V_39 U_40 hw H locs hwo hS => ?_)
    refine lv_aload_n hx hb dM_page_138 rfl (lv_at hl 0 rfl) ?_
    refine lv_aload_n hx hb dM_page_139 rfl (lv_at hl 0 rfl) ?_
    obtain ⟨hz_42, hw⟩ := hw
    refine g_getR hC fkM_31 rfl hwo ho_41 hz_42 dM_page_140 ?_
    refine lv_iload_n hx hb dM_page_143 rfl (lv_at hl 1 rfl) ?_
    obtain ⟨n_43, ha_44, hw⟩ := hw
    obtain ⟨hi_45, hw⟩ := hw
    refine g_iald hC hwo ha_44 hi_45 dM_page_144 ?_
    refine g_Vv (rest := []) hC (c_M_put l θ _ _ _ _ _ hw) mi_M_put mlM_165 mv_M_put ci_12 ho_41 hwo hS ⟨rfl, rfl⟩ ⟨by decide, by decide⟩ rfl hl.1 rfl (Nat.le_of_ble_eq_true rfl) dM_page_145 (fun V_46 U_47 hw H locs hwo hS => ?_)
    refine lv_aload_n hx hb dM_page_148 rfl (lv_at hl 0 rfl) ?_
    refine lv_iload hx hb dM_page_149 (lv_at hl 5 rfl) ?_
    refine g_Vv (rest := []) hC (c_M_put l θ _ _ _ _ _ hw) mi_M_put mlM_165 mv_M_put ci_12 ho_41 hwo hS ⟨rfl, rfl⟩ ⟨by decide, by decide⟩ rfl hl.1 rfl (Nat.le_of_ble_eq_true rfl) dM_page_151 (fun V_48 U_49 hw H locs hwo hS => ?_)
    refine lv_aload_n hx hb dM_page_154 rfl (lv_at hl 0 rfl) ?_
    refine lv_iload hx hb dM_page_155 (lv_at hl 5 rfl) ?_
    refine lv_bipush (v := 8) hx hb dM_page_157 (by decide) ?_
    refine lv_ishr hx hb dM_page_159 ?_
    refine g_Vv (rest := []) hC (c_M_put l θ _ _ _ _ _ hw) mi_M_put mlM_165 mv_M_put ci_12 ho_41 hwo hS ⟨rfl, rfl⟩ ⟨by decide, by decide⟩ rfl hl.1 rfl (Nat.le_of_ble_eq_true rfl) dM_page_160 (fun V_50 U_51 hw H locs hwo hS => ?_)
    refine lv_aload_n hx hb dM_page_163 rfl (lv_at hl 0 rfl) ?_
    refine lv_dup hx hb dM_page_164 rfl ?_
    refine g_getI hC fkM_132 rfl hwo ho_41 dM_page_165 ?_
    refine lv_iconst (v := 4) hx hb dM_page_168 (by decide) ?_
    refine lv_iadd hx hb dM_page_169 ?_
    refine g_putI hC fkM_132 rfl hwo hS ho_41 dM_page_170 (fun V_52 eV_52 H locs hwo hS => ?_)
    replace hw := hw V_52 eV_52
    refine lv_aload_n hx hb dM_page_173 rfl (lv_at hl 0 rfl) ?_
    refine lv_iload_n hx hb dM_page_174 rfl (lv_at hl 2 rfl) ?_
    refine g_Vv (rest := []) hC (c_M_put l θ _ _ _ _ _ hw) mi_M_put mlM_165 mv_M_put ci_12 ho_41 hwo hS ⟨rfl, rfl⟩ ⟨by decide, by decide⟩ rfl hl.1 rfl (Nat.le_of_ble_eq_true rfl) dM_page_175 (fun V_53 U_54 hw H locs hwo hS => ?_)
    refine lv_iconst (v := 0) hx hb dM_page_178 (by decide) ?_
    refine lv_istore (i := 7) (lv' := [(7, .int (0 : Int32)), (0, .ref a0_129), (1, .int x1_129), (2, .int x2_129), (4, .int x4_129), (5, .int x5_129), (6, .int x6_129)]) hx hb dM_page_179 hl (by decide) rfl (fun ls hl => ?_)
    obtain ⟨n, hw⟩ := hw
    exact L181 _ _ _ _ _ n _ _ _ _ _ _ hw hwo hS (lv_sub hl [1, 2, 3, 4, 5, 0] rfl)
  have J119 : ∀ (a0_119 : Nat) (x1_119 : Int32) (x2_119 : Int32) (x3_119 : Int32) (x4_119 : Int32) (x5_119 : Int32) (x6_119 : Int32) (z0_119 : Int32) (z1_119 : Int32) (z2_119 : Nat) (V : VT) (U : UT) (H : Heap) (locs : List Loc) (ls : Array Slot), wb_M_page_119 θ a0_119 x1_119 x2_119 x3_119 x4_119 x5_119 x6_119 z0_119 z1_119 z2_119 K V U → wo θ V U H → Sx θ s H locs → lv_has ls 9 [(0, .ref a0_119), (1, .int x1_119), (2, .int x2_119), (3, .int x3_119), (4, .int x4_119), (5, .int x5_119), (6, .int x6_119)] → W p l e rmM_page s m args below meth c H locs 0 0 (MQ below (QV θ K) args s 0 0 (aT θ)) (F0 m 119 ls [.int z0_119, .int z1_119, .ref z2_119]) := by
    intro a0_119 x1_119 x2_119 x3_119 x4_119 x5_119 x6_119 z0_119 z1_119 z2_119 V U H locs ls hw hwo hS hl
    unfold wb_M_page_119 at hw
    refine lv_iadd hx hb dM_page_119 ?_
    refine lv_iload_n hx hb dM_page_120 rfl (lv_at hl 3 rfl) ?_
    refine lv_if_eq (tgt := 128) hx hb dM_page_121 (by decide) (fun hc_35 => ?_) (fun hc_35 => ?_)
    · replace hw := hw.1 hc_35
      refine lv_iconst (v := 0) hx hb dM_page_128 (by decide) ?_
      exact J129 _ _ _ _ _ _ _ _ _ _ _ _ _ _ hw hwo hS (lv_sub hl [0, 1, 2, 4, 5, 6] rfl)
    · replace hw := hw.2 hc_35
      refine lv_iconst (v := 4) hx hb dM_page_124 (by decide) ?_
      refine lv_goto (tgt := 129) hx hb dM_page_125 (by decide) ?_
      exact J129 _ _ _ _ _ _ _ _ _ _ _ _ _ _ hw hwo hS (lv_sub hl [0, 1, 2, 4, 5, 6] rfl)
  have J105 : ∀ (a0_105 : Nat) (x1_105 : Int32) (x2_105 : Int32) (x3_105 : Int32) (x4_105 : Int32) (x5_105 : Int32) (x6_105 : Int32) (z0_105 : Int32) (z1_105 : Nat) (V : VT) (U : UT) (H : Heap) (locs : List Loc) (ls : Array Slot), wb_M_page_105 θ a0_105 x1_105 x2_105 x3_105 x4_105 x5_105 x6_105 z0_105 z1_105 K V U → wo θ V U H → Sx θ s H locs → lv_has ls 9 [(0, .ref a0_105), (1, .int x1_105), (2, .int x2_105), (3, .int x3_105), (4, .int x4_105), (5, .int x5_105), (6, .int x6_105)] → W p l e rmM_page s m args below meth c H locs 0 0 (MQ below (QV θ K) args s 0 0 (aT θ)) (F0 m 105 ls [.int z0_105, .ref z1_105]) := by
    intro a0_105 x1_105 x2_105 x3_105 x4_105 x5_105 x6_105 z0_105 z1_105 V U H locs ls hw hwo hS hl
    unfold wb_M_page_105 at hw
    refine lv_aload_n hx hb dM_page_105 rfl (lv_at hl 0 rfl) ?_
    obtain ⟨ho_29, hw⟩ := hw
    obtain ⟨hz_30, hw⟩ := hw
    refine g_getR hC fkM_31 rfl hwo ho_29 hz_30 dM_page_106 ?_
    refine lv_iload_n hx hb dM_page_109 rfl (lv_at hl 1 rfl) ?_
    obtain ⟨n_31, ha_32, hw⟩ := hw
    obtain ⟨hi_33, hw⟩ := hw
    refine g_iald hC hwo ha_32 hi_33 dM_page_110 ?_
    refine lv_if_ne (tgt := 118) hx hb dM_page_111 (by decide) (fun hc_34 => ?_) (fun hc_34 => ?_)
    · replace hw := hw.1 hc_34
      refine lv_iconst (v := 0) hx hb dM_page_118 (by decide) ?_
      exact J119 _ _ _ _ _ _ _ _ _ _ _ _ _ _ _ hw hwo hS (lv_sub hl [0, 1, 2, 3, 4, 5, 6] rfl)
    · replace hw := hw.2 hc_34
      refine lv_iconst (v := 2) hx hb dM_page_114 (by decide) ?_
      refine lv_goto (tgt := 119) hx hb dM_page_115 (by decide) ?_
      exact J119 _ _ _ _ _ _ _ _ _ _ _ _ _ _ _ hw hwo hS (lv_sub hl [0, 1, 2, 3, 4, 5, 6] rfl)
  have J104 : ∀ (a0_104 : Nat) (x1_104 : Int32) (x2_104 : Int32) (x3_104 : Int32) (x4_104 : Int32) (x5_104 : Int32) (x6_104 : Int32) (z0_104 : Nat) (V : VT) (U : UT) (H : Heap) (locs : List Loc) (ls : Array Slot), wb_M_page_104 θ a0_104 x1_104 x2_104 x3_104 x4_104 x5_104 x6_104 z0_104 K V U → wo θ V U H → Sx θ s H locs → lv_has ls 9 [(0, .ref a0_104), (1, .int x1_104), (2, .int x2_104), (3, .int x3_104), (4, .int x4_104), (5, .int x5_104), (6, .int x6_104)] → W p l e rmM_page s m args below meth c H locs 0 0 (MQ below (QV θ K) args s 0 0 (aT θ)) (F0 m 104 ls [.ref z0_104]) := by
    intro a0_104 x1_104 x2_104 x3_104 x4_104 x5_104 x6_104 z0_104 V U H locs ls hw hwo hS hl
    unfold wb_M_page_104 at hw
    refine lv_iconst (v := 0) hx hb dM_page_104 (by decide) ?_
    exact J105 _ _ _ _ _ _ _ _ _ _ _ _ _ _ hw hwo hS (lv_sub hl [0, 1, 2, 3, 4, 5, 6] rfl)
  have L64 : ∀ (a0_64 : Nat) (x1_64 : Int32) (x2_64 : Int32) (x3_64 : Int32) (x4_64 : Int32) (x5_64 : Int32) (x6_64 : Int32) (n64 : Nat) (x7_64 : Int32) (V : VT) (U : UT) (H : Heap) (locs : List Loc) (ls : Array Slot), wl_M_page_64 θ a0_64 x1_64 x2_64 x3_64 x4_64 x5_64 x6_64 K n64 x7_64 V U → wo θ V U H → Sx θ s H locs → lv_has ls 9 [(0, .ref a0_64), (1, .int x1_64), (2, .int x2_64), (3, .int x3_64), (4, .int x4_64), (5, .int x5_64), (6, .int x6_64), (7, .int x7_64)] → W p l e rmM_page s m args below meth c H locs 0 0 (MQ below (QV θ K) args s 0 0 (aT θ)) (F0 m 64 ls []) := by
    intro a0_64 x1_64 x2_64 x3_64 x4_64 x5_64 x6_64 n64
    induction n64 with
    | zero => intro x7_64 V U H locs ls hw hwo hS hl; exact (show False from hw).elim
    | succ n64 ih64 =>
      intro x7_64 V U H locs ls hw hwo hS hl
      replace hw : bl_M_page_64 θ a0_64 x1_64 x2_64 x3_64 x4_64 x5_64 x6_64 K (wl_M_page_64 θ a0_64 x1_64 x2_64 x3_64 x4_64 x5_64 x6_64 K n64) x7_64 V U := hw
      unfold bl_M_page_64 at hw
      refine lv_iload hx hb dM_page_64 (lv_at hl 7 rfl) ?_
      refine lv_iconst (v := 4) hx hb dM_page_66 (by decide) ?_
      refine lv_icmp_ge (tgt := 85) hx hb dM_page_67 (by decide) (fun hc_14 => ?_) (fun hc_14 => ?_)
      · replace hw := hw.1 hc_14
        refine lv_aload_n hx hb dM_page_85 rfl (lv_at hl 0 rfl) ?_
        refine lv_iload_n hx hb dM_page_86 rfl (lv_at hl 2 rfl) ?_
        refine lv_if_le (tgt := 104) hx hb dM_page_87 (by decide) (fun hc_15 => ?_) (fun hc_15 => ?_)
        · replace hw := hw.1 hc_15
          exact J104 _ _ _ _ _ _ _ _ _ _ _ _ _ hw hwo hS (lv_sub hl [0, 1, 2, 3, 4, 5, 6] rfl)
        · replace hw := hw.2 hc_15
          refine lv_aload_n hx hb dM_page_90 rfl (lv_at hl 0 rfl) ?_
          obtain ⟨ho_16, hw⟩ := hw
          obtain ⟨hz_17, hw⟩ := hw
          refine g_getR hC fkM_19 rfl hwo ho_16 hz_17 dM_page_91 ?_
          refine lv_iload hx hb dM_page_94 (lv_at hl 5 rfl) ?_
          obtain ⟨n_18, ha_19, hw⟩ := hw
          obtain ⟨hi_20, hw⟩ := hw
          refine g_iald hC hwo ha_19 hi_20 dM_page_96 ?_
          refine lv_if_ne (tgt := 104) hx hb dM_page_97 (by decide) (fun hc_21 => ?_) (fun hc_21 => ?_)
          · replace hw := hw.1 hc_21
            exact J104 _ _ _ _ _ _ _ _ _ _ _ _ _ hw hwo hS (lv_sub hl [0, 1, 2, 3, 4, 5, 6] rfl)
          · replace hw := hw.2 hc_21
            refine lv_iconst (v := 1) hx hb dM_page_100 (by decide) ?_
            refine lv_goto (tgt := 105) hx hb dM_page_101 (by decide) ?_
            exact J105 _ _ _ _ _ _ _ _ _ _ _ _ _ _ hw hwo hS (lv_sub hl [0, 1, 2, 3, 4, 5, 6] rfl)
      · replace hw := hw.2 hc_14
        refine lv_aload_n hx hb dM_page_70 rfl (lv_at hl 0 rfl) ?_
        refine lv_iload hx hb dM_page_71 (lv_at hl 7 rfl) ?_
        refine g_Si (rest := [.ref a0_64]) hC (c_M_magic l θ _ _ _ _ hw) mi_M_magic mlM_141 ms_M_magic hwo hS ⟨rfl, rfl⟩ ⟨by decide, by decide⟩ rfl hl.1 rfl (Nat.le_of_ble_eq_true rfl) dM_page_73 (fun r_24 V_22 U_23 hw H locs hwo hS => ?_)
        obtain ⟨ho_27, hw⟩ := hw
        refine g_Vv (rest := []) hC (c_M_put l θ _ _ _ _ _ hw) mi_M_put mlM_165 mv_M_put ci_12 ho_27 hwo hS ⟨rfl, rfl⟩ ⟨by decide, by decide⟩ rfl hl.1 rfl (Nat.le_of_ble_eq_true rfl) dM_page_76 (fun V_25 U_26 hw H locs hwo hS => ?_)
        obtain ⟨y_28, ey_28⟩ : ∃ z : Int32, z = x7_64 + (1 : Int32) := ⟨_, rfl⟩
        replace hw := hw y_28 ey_28
        refine lv_iinc (k := 7) (v := y_28) (lv' := [(7, .int y_28), (0, .ref a0_64), (1, .int x1_64), (2, .int x2_64), (3, .int x3_64), (4, .int x4_64), (5, .int x5_64), (6, .int x6_64)]) hx hb dM_page_79 hl rfl (by rw [ey_28]; rfl) (by decide) rfl (fun ls hl => ?_)
        refine lv_goto (tgt := 64) hx hb dM_page_82 (by decide) ?_
        exact ih64 _ _ _ _ _ _ hw hwo hS (lv_sub hl [1, 2, 3, 4, 5, 6, 7, 0] rfl)
  have L19 : ∀ (a0_19 : Nat) (x1_19 : Int32) (x2_19 : Int32) (x3_19 : Int32) (x4_19 : Int32) (x5_19 : Int32) (n19 : Nat) (x6_19 : Int32) (x7_19 : Int32) (V : VT) (U : UT) (H : Heap) (locs : List Loc) (ls : Array Slot), wl_M_page_19 θ a0_19 x1_19 x2_19 x3_19 x4_19 x5_19 K n19 x6_19 x7_19 V U → wo θ V U H → Sx θ s H locs → lv_has ls 9 [(0, .ref a0_19), (1, .int x1_19), (2, .int x2_19), (3, .int x3_19), (4, .int x4_19), (5, .int x5_19), (6, .int x6_19), (7, .int x7_19)] → W p l e rmM_page s m args below meth c H locs 0 0 (MQ below (QV θ K) args s 0 0 (aT θ)) (F0 m 19 ls []) := by
    intro a0_19 x1_19 x2_19 x3_19 x4_19 x5_19 n19
    induction n19 with
    | zero => intro x6_19 x7_19 V U H locs ls hw hwo hS hl; exact (show False from hw).elim
    | succ n19 ih19 =>
      intro x6_19 x7_19 V U H locs ls hw hwo hS hl
      replace hw : bl_M_page_19 θ a0_19 x1_19 x2_19 x3_19 x4_19 x5_19 K (wl_M_page_19 θ a0_19 x1_19 x2_19 x3_19 x4_19 x5_19 K n19) x6_19 x7_19 V U := hw
      unfold bl_M_page_19 at hw
      refine lv_iload hx hb dM_page_19 (lv_at hl 7 rfl) ?_
      refine lv_iload_n hx hb dM_page_21 rfl (lv_at hl 2 rfl) ?_
      refine lv_icmp_ge (tgt := 61) hx hb dM_page_22 (by decide) (fun hc_4 => ?_) (fun hc_4 => ?_)
      · replace hw := hw.1 hc_4
        refine lv_iconst (v := 0) hx hb dM_page_61 (by decide) ?_
        refine lv_istore (i := 7) (lv' := [(7, .int (0 : Int32)), (0, .ref a0_19), (1, .int x1_19), (2, .int x2_19), (3, .int x3_19), (4, .int x4_19), (5, .int x5_19), (6, .int x6_19)]) hx hb dM_page_62 hl (by decide) rfl (fun ls hl => ?_)
        obtain ⟨n, hw⟩ := hw
        exact L64 _ _ _ _ _ _ _ n _ _ _ _ _ _ hw hwo hS (lv_sub hl [1, 2, 3, 4, 5, 6, 7, 0] rfl)
      · replace hw := hw.2 hc_4
        refine lv_aload_n hx hb dM_page_25 rfl (lv_at hl 0 rfl) ?_
        obtain ⟨ho_5, hw⟩ := hw
        obtain ⟨hz_6, hw⟩ := hw
        refine g_getR hC fkM_22 rfl hwo ho_5 hz_6 dM_page_26 ?_
        refine lv_iload hx hb dM_page_29 (lv_at hl 5 rfl) ?_
        refine lv_iload hx hb dM_page_31 (lv_at hl 7 rfl) ?_
        refine lv_iadd hx hb dM_page_33 ?_
        obtain ⟨n_7, ha_8, hw⟩ := hw
        obtain ⟨hi_9, hw⟩ := hw
        refine g_iald hC hwo ha_8 hi_9 dM_page_34 ?_
        refine lv_if_lt (tgt := 51) hx hb dM_page_35 (by decide) (fun hc_10 => ?_) (fun hc_10 => ?_)
        · replace hw := hw.1 hc_10
          refine lv_iload hx hb dM_page_51 (lv_at hl 6 rfl) ?_
          refine lv_istore (i := 6) (lv' := [(6, .int x6_19), (0, .ref a0_19), (1, .int x1_19), (2, .int x2_19), (3, .int x3_19), (4, .int x4_19), (5, .int x5_19), (7, .int x7_19)]) hx hb dM_page_53 hl (by decide) rfl (fun ls hl => ?_)
          obtain ⟨y_11, ey_11⟩ : ∃ z : Int32, z = x7_19 + (1 : Int32) := ⟨_, rfl⟩
          replace hw := hw y_11 ey_11
          refine lv_iinc (k := 7) (v := y_11) (lv' := [(7, .int y_11), (6, .int x6_19), (0, .ref a0_19), (1, .int x1_19), (2, .int x2_19), (3, .int x3_19), (4, .int x4_19), (5, .int x5_19)]) hx hb dM_page_55 hl rfl (by rw [ey_11]; rfl) (by decide) rfl (fun ls hl => ?_)
          refine lv_goto (tgt := 19) hx hb dM_page_58 (by decide) ?_
          exact ih19 _ _ _ _ _ _ _ hw hwo hS (lv_sub hl [2, 3, 4, 5, 6, 7, 1, 0] rfl)
        · replace hw := hw.2 hc_10
          refine lv_aload_n hx hb dM_page_38 rfl (lv_at hl 0 rfl) ?_
          refine g_getR hC fkM_22 rfl hwo ho_5 hz_6 dM_page_39 ?_
          refine lv_iload hx hb dM_page_42 (lv_at hl 5 rfl) ?_
          refine lv_iload hx hb dM_page_44 (lv_at hl 7 rfl) ?_
          refine lv_iadd hx hb dM_page_46 ?_
          refine g_iald hC hwo ha_8 hi_9 dM_page_47 ?_
          refine lv_goto (tgt := 53) hx hb dM_page_48 (by decide) ?_
          refine lv_topi (fun y_12 ey_12 => ?_)
          replace hw := hw y_12 ey_12
          refine lv_istore (i := 6) (lv' := [(6, .int y_12), (0, .ref a0_19), (1, .int x1_19), (2, .int x2_19), (3, .int x3_19), (4, .int x4_19), (5, .int x5_19), (7, .int x7_19)]) hx hb dM_page_53 hl (by decide) rfl (fun ls hl => ?_)
          obtain ⟨y_13, ey_13⟩ : ∃ z : Int32, z = x7_19 + (1 : Int32) := ⟨_, rfl⟩
          replace hw := hw y_13 ey_13
          refine lv_iinc (k := 7) (v := y_13) (lv' := [(7, .int y_13), (6, .int y_12), (0, .ref a0_19), (1, .int x1_19), (2, .int x2_19), (3, .int x3_19), (4, .int x4_19), (5, .int x5_19)]) hx hb dM_page_55 hl rfl (by rw [ey_13]; rfl) (by decide) rfl (fun ls hl => ?_)
          refine lv_goto (tgt := 19) hx hb dM_page_58 (by decide) ?_
          exact ih19 _ _ _ _ _ _ _ hw hwo hS (lv_sub hl [2, 3, 4, 5, 6, 7, 1, 0] rfl)
  unfold wp_M_page at hw
  refine lv_aload_n hx hb dM_page_0 rfl (lv_at hl 0 rfl) ?_
  obtain ⟨ho_1, hw⟩ := hw
  refine g_getI hC fkM_132 rfl hwo ho_1 dM_page_1 ?_
  refine lv_topi (fun y_2 ey_2 => ?_)
  replace hw := hw y_2 ey_2
  refine lv_istore (i := 4) (lv' := [(4, .int y_2), (0, .ref a0), (1, .int x1), (2, .int x2), (3, .int x3)]) hx hb dM_page_4 hl (by decide) rfl (fun ls hl => ?_)
  refine lv_bipush (v := 16) hx hb dM_page_6 (by decide) ?_
  refine lv_iload_n hx hb dM_page_8 rfl (lv_at hl 2 rfl) ?_
  refine lv_imul hx hb dM_page_9 ?_
  refine lv_topi (fun y_3 ey_3 => ?_)
  replace hw := hw y_3 ey_3
  refine lv_istore (i := 5) (lv' := [(5, .int y_3), (4, .int y_2), (0, .ref a0), (1, .int x1), (2, .int x2), (3, .int x3)]) hx hb dM_page_10 hl (by decide) rfl (fun ls hl => ?_)
  refine lv_ldc hx hb hC.2.2.2.1 (hC.2.2.2.2.1 _ kcM_164) dM_page_12 ?_
  refine lv_istore (i := 6) (lv' := [(6, .int (65535 : Int32)), (5, .int y_3), (4, .int y_2), (0, .ref a0), (1, .int x1), (2, .int x2), (3, .int x3)]) hx hb dM_page_14 hl (by decide) rfl (fun ls hl => ?_)
  refine lv_iconst (v := 0) hx hb dM_page_16 (by decide) ?_
  refine lv_istore (i := 7) (lv' := [(7, .int (0 : Int32)), (6, .int (65535 : Int32)), (5, .int y_3), (4, .int y_2), (0, .ref a0), (1, .int x1), (2, .int x2), (3, .int x3)]) hx hb dM_page_17 hl (by decide) rfl (fun ls hl => ?_)
  obtain ⟨n, hw⟩ := hw
  exact L19 _ _ _ _ _ _ n _ _ _ _ _ _ _ hw hwo hS (lv_sub hl [4, 5, 6, 7, 3, 2, 1, 0] rfl)
