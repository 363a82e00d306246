theorem dD_codewordOf_0 : decode kD_codewordOf 0 = .ok (.iload_n 1, 1) := by decide +kernel
theorem dD_codewordOf_1 : decode kD_codewordOf 1 = .ok (.ifCond .lt 28, 3) := by decide +kernel
theorem dD_codewordOf_4 : decode kD_codewordOf 4 = .ok (.iload_n 1, 1) := by decide +kernel
theorem dD_codewordOf_5 : decode kD_codewordOf 5 = .ok (.aload_n 0, 1) := by decide +kernel
theorem dD_codewordOf_6 : decode kD_codewordOf 6 = .ok (.getfield 50, 3) := by decide +kernel
theorem dD_codewordOf_9 : decode kD_codewordOf 9 = .ok (.if_icmp .ge 20, 3) := by decide +kernel
theorem dD_codewordOf_12 : decode kD_codewordOf 12 = .ok (.iload_n 2, 1) := by decide +kernel
theorem dD_codewordOf_13 : decode kD_codewordOf 13 = .ok (.ifCond .lt 16, 3) := by decide +kernel
theorem dD_codewordOf_16 : decode kD_codewordOf 16 = .ok (.iload_n 2, 1) := by decide +kernel
theorem dD_codewordOf_17 : decode kD_codewordOf 17 = .ok (.aload_n 0, 1) := by decide +kernel
theorem dD_codewordOf_18 : decode kD_codewordOf 18 = .ok (.getfield 11, 3) := by decide +kernel
theorem dD_codewordOf_21 : decode kD_codewordOf 21 = .ok (.iload_n 1, 1) := by decide +kernel
theorem dD_codewordOf_22 : decode kD_codewordOf 22 = .ok (.aaload, 1) := by decide +kernel
theorem dD_codewordOf_23 : decode kD_codewordOf 23 = .ok (.getfield 54, 3) := by decide +kernel
theorem dD_codewordOf_26 : decode kD_codewordOf 26 = .ok (.if_icmp .lt 5, 3) := by decide +kernel
theorem dD_codewordOf_29 : decode kD_codewordOf 29 = .ok (.iconst (-1), 1) := by decide +kernel
theorem dD_codewordOf_30 : decode kD_codewordOf 30 = .ok (.ireturn, 1) := by decide +kernel
theorem dD_codewordOf_31 : decode kD_codewordOf 31 = .ok (.aload_n 0, 1) := by decide +kernel
theorem dD_codewordOf_32 : decode kD_codewordOf 32 = .ok (.getfield 11, 3) := by decide +kernel
theorem dD_codewordOf_35 : decode kD_codewordOf 35 = .ok (.iload_n 1, 1) := by decide +kernel
theorem dD_codewordOf_36 : decode kD_codewordOf 36 = .ok (.aaload, 1) := by decide +kernel
theorem dD_codewordOf_37 : decode kD_codewordOf 37 = .ok (.getfield 57, 3) := by decide +kernel
theorem dD_codewordOf_40 : decode kD_codewordOf 40 = .ok (.iload_n 2, 1) := by decide +kernel
theorem dD_codewordOf_41 : decode kD_codewordOf 41 = .ok (.iaload, 1) := by decide +kernel
theorem dD_codewordOf_42 : decode kD_codewordOf 42 = .ok (.ireturn, 1) := by decide +kernel
def wp_D_codewordOf (θ : TH) (a0 : Nat) (x1 : Int32) (x2 : Int32) (V : VT) (U : UT) (K : Int32 → VT → UT → Prop) : Prop := ((x1 < 0 → K (-1 : Int32) V U) ∧ (¬ x1 < 0 → isO θ a0 11 ∧ (((V a0 2) ≤ x1 → K (-1 : Int32) V U) ∧ (¬ (V a0 2) ≤ x1 → ((x2 < 0 → K (-1 : Int32) V U) ∧ (¬ x2 < 0 → (U a0 1) ≠ 0 ∧ ∃ n_6, isR θ (U a0 1) 5 n_6 ∧ vp_in x1 n_6 ∧ (U (U a0 1) x1.toNatClampNeg) ≠ 0 ∧ isO θ (U (U a0 1) x1.toNatClampNeg) 8 ∧ ((x2 < (V (U (U a0 1) x1.toNatClampNeg) 0) → (U (U (U a0 1) x1.toNatClampNeg) 3) ≠ 0 ∧ ∃ n_13, isA θ (U (U (U a0 1) x1.toNatClampNeg) 3) 0 n_13 ∧ vp_in x2 n_13 ∧ K (V (U (U (U a0 1) x1.toNatClampNeg) 3) x2.toNatClampNeg) V U) ∧ (¬ x2 < (V (U (U a0 1) x1.toNatClampNeg) 0) → K (-1 : Int32) V U))))))))
set_option maxRecDepth 100000 in
set_option maxHeartbeats 4000000 in
theorem c_D_codewordOf (l : Launch) (θ : TH) (a0 : Nat) (x1 : Int32) (x2 : Int32) (V : VT) (U : UT) (K : Int32 → VT → UT → Prop) (hw : wp_D_codewordOf θ a0 x1 x2 V U K) : CMi l yD_codewordOf kD_codewordOf 3 (some .int) rmD_codewordOf θ [.ref a0, .int x1, .int x2] V U K := by
  refine g_met nRD (by decide +kernel) rfl (Nat.le_of_ble_eq_true rfl) (fun p e s m args below meth c ls hC hr hlk hwo hl => ?_)
  have hx := hC.1
  have hb := hC.2.1
  have hS : Sx θ s s.heap [] := va_S.rf
  have hl : lv_has ls 3 [(0, .ref a0), (1, .int x1), (2, .int x2)] := hl
  unfold wp_D_codewordOf at hw
  refine lv_iload_n hx hb dD_codewordOf_0 rfl (lv_at hl 1 rfl) ?_
  refine lv_if_lt (tgt := 29) hx hb dD_codewordOf_1 (by decide) (fun hc_1 => ?_) (fun hc_1 => ?_)
  · replace hw := hw.1 hc_1
    refine lv_iconst (v := -1) hx hb dD_codewordOf_29 (by decide) ?_
    exact g_iret hC hr hlk hw hwo hS dD_codewordOf_30
  · replace hw := hw.2 hc_1
    refine lv_iload_n hx hb dD_codewordOf_4 rfl (lv_at hl 1 rfl) ?_
    refine lv_aload_n hx hb dD_codewordOf_5 rfl (lv_at hl 0 rfl) ?_
    obtain ⟨ho_2, hw⟩ := hw
    refine g_getI hC fkD_50 rfl hwo ho_2 dD_codewordOf_6 ?_
    refine lv_icmp_ge (tgt := 29) hx hb dD_codewordOf_9 (by decide) (fun hc_3 => ?_) (fun hc_3 => ?_)
    · replace hw := hw.1 hc_3
      refine lv_iconst (v := -1) hx hb dD_codewordOf_29 (by decide) ?_
      exact g_iret hC hr hlk hw hwo hS dD_codewordOf_30
    · replace hw := hw.2 hc_3
      refine lv_iload_n hx hb dD_codewordOf_12 rfl (lv_at hl 2 rfl) ?_
      refine lv_if_lt (tgt := 29) hx hb dD_codewordOf_13 (by decide) (fun hc_4 => ?_) (fun hc_4 => ?_)
      · replace hw := hw.1 hc_4
        refine lv_iconst (v := -1) hx hb dD_codewordOf_29 (by decide) ?_
        exact g_iret hC hr hlk hw hwo hS dD_codewordOf_30
      · replace hw := hw.2 hc_4
        refine lv_iload_n hx hb dD_codewordOf_16 rfl (lv_at hl 2 rfl) ?_
        refine lv_aload_n hx hb dD_codewordOf_17 rfl (lv_at hl 0 rfl) ?_
        obtain ⟨hz_5, hw⟩ := hw
        refine g_getR hC fkD_11 rfl hwo ho_2 hz_5 dD_codewordOf_18 ?_
        refine lv_iload_n hx hb dD_codewordOf_21 rfl (lv_at hl 1 rfl) ?_
        obtain ⟨n_6, ha_7, hw⟩ := hw
        obtain ⟨hi_8, hw⟩ := hw
        obtain ⟨hz_9, hw⟩ := hw
        refine g_aald hC hwo (t := 5) (by decide) rfl ha_7 hi_8 hz_9 dD_codewordOf_22 ?_
        obtain ⟨ho_10, hw⟩ := hw
        refine g_getI hC fkD_54 rfl hwo ho_10 dD_codewordOf_23 ?_
        refine lv_icmp_lt (tgt := 31) hx hb dD_codewordOf_26 (by decide) (fun hc_11 => ?_) (fun hc_11 => ?_)
        · replace hw := hw.1 hc_11
          refine lv_aload_n hx hb dD_codewordOf_31 rfl (lv_at hl 0 rfl) ?_
          refine g_getR hC fkD_11 rfl hwo ho_2 hz_5 dD_codewordOf_32 ?_
          refine lv_iload_n hx hb dD_codewordOf_35 rfl (lv_at hl 1 rfl) ?_
          refine g_aald hC hwo (t := 5) (by decide) rfl ha_7 hi_8 hz_9 dD_codewordOf_36 ?_
          obtain ⟨hz_12, hw⟩ := hw
          refine g_getR hC fkD_57 rfl hwo ho_10 hz_12 dD_codewordOf_37 ?_
          refine lv_iload_n hx hb dD_codewordOf_40 rfl (lv_at hl 2 rfl) ?_
          obtain ⟨n_13, ha_14, hw⟩ := hw
          obtain ⟨hi_15, hw⟩ := hw
          refine g_iald hC hwo ha_14 hi_15 dD_codewordOf_41 ?_
          exact g_iret hC hr hlk hw hwo hS dD_codewordOf_42
        · replace hw := hw.2 hc_11
          refine lv_iconst (v := -1) hx hb dD_codewordOf_29 (by decide) ?_
          exact g_iret hC hr hlk hw hwo hS dD_codewordOf_30
theorem dD_hasPlace_0 : decode kD_hasPlace 0 = .ok (.iload_n 1, 1) := by decide +kernel
theorem dD_hasPlace_1 : decode kD_hasPlace 1 = .ok (.ifCond .lt 15, 3) := by decide +kernel
theorem dD_hasPlace_4 : decode kD_hasPlace 4 = .ok (.iload_n 1, 1) := by decide +kernel
theorem dD_hasPlace_5 : decode kD_hasPlace 5 = .ok (.aload_n 0, 1) := by decide +kernel
theorem dD_hasPlace_6 : decode kD_hasPlace 6 = .ok (.getfield 61, 3) := by decide +kernel
theorem dD_hasPlace_9 : decode kD_hasPlace 9 = .ok (.if_icmp .ge 7, 3) := by decide +kernel
theorem dD_hasPlace_12 : decode kD_hasPlace 12 = .ok (.iconst 1, 1) := by decide +kernel
theorem dD_hasPlace_13 : decode kD_hasPlace 13 = .ok (.goto 4, 3) := by decide +kernel
theorem dD_hasPlace_16 : decode kD_hasPlace 16 = .ok (.iconst 0, 1) := by decide +kernel
theorem dD_hasPlace_17 : decode kD_hasPlace 17 = .ok (.istore_n 3, 1) := by decide +kernel
theorem dD_hasPlace_18 : decode kD_hasPlace 18 = .ok (.iload_n 3, 1) := by decide +kernel
theorem dD_hasPlace_19 : decode kD_hasPlace 19 = .ok (.ifCond .eq 21, 3) := by decide +kernel
theorem dD_hasPlace_22 : decode kD_hasPlace 22 = .ok (.iload_n 2, 1) := by decide +kernel
theorem dD_hasPlace_23 : decode kD_hasPlace 23 = .ok (.ifCond .lt 17, 3) := by decide +kernel
theorem dD_hasPlace_26 : decode kD_hasPlace 26 = .ok (.iload_n 2, 1) := by decide +kernel
theorem dD_hasPlace_27 : decode kD_hasPlace 27 = .ok (.aload_n 0, 1) := by decide +kernel
theorem dD_hasPlace_28 : decode kD_hasPlace 28 = .ok (.getfield 64, 3) := by decide +kernel
theorem dD_hasPlace_31 : decode kD_hasPlace 31 = .ok (.iconst 2, 1) := by decide +kernel
theorem dD_hasPlace_32 : decode kD_hasPlace 32 = .ok (.idiv, 1) := by decide +kernel
theorem dD_hasPlace_33 : decode kD_hasPlace 33 = .ok (.if_icmp .ge 7, 3) := by decide +kernel
theorem dD_hasPlace_36 : decode kD_hasPlace 36 = .ok (.iconst 1, 1) := by decide +kernel
theorem dD_hasPlace_37 : decode kD_hasPlace 37 = .ok (.goto 4, 3) := by decide +kernel
theorem dD_hasPlace_40 : decode kD_hasPlace 40 = .ok (.iconst 0, 1) := by decide +kernel
theorem dD_hasPlace_41 : decode kD_hasPlace 41 = .ok (.ireturn, 1) := by decide +kernel
def wb_D_hasPlace_40 (θ : TH) (K : Int32 → VT → UT → Prop) (V : VT) (U : UT) : Prop := K (0 : Int32) V U
def wb_D_hasPlace_17 (θ : TH) (a0_17 : Nat) (x2_17 : Int32) (z0_17 : Int32) (K : Int32 → VT → UT → Prop) (V : VT) (U : UT) : Prop := ((z0_17 = 0 → wb_D_hasPlace_40 θ K V U) ∧ (¬ z0_17 = 0 → ((x2_17 < 0 → wb_D_hasPlace_40 θ K V U) ∧ (¬ x2_17 < 0 → isO θ a0_17 11 ∧ ¬ (2 : Int32) = 0 ∧ ((((V a0_17 11) / (2 : Int32)) ≤ x2_17 → wb_D_hasPlace_40 θ K V U) ∧ (¬ ((V a0_17 11) / (2 : Int32)) ≤ x2_17 → K (1 : Int32) V U))))))
def wb_D_hasPlace_16 (θ : TH) (a0_16 : Nat) (x2_16 : Int32) (K : Int32 → VT → UT → Prop) (V : VT) (U : UT) : Prop := wb_D_hasPlace_17 θ a0_16 x2_16 (0 : Int32) K V U
def wp_D_hasPlace (θ : TH) (a0 : Nat) (x1 : Int32) (x2 : Int32) (V : VT) (U : UT) (K : Int32 → VT → UT → Prop) : Prop := ((x1 < 0 → wb_D_hasPlace_16 θ a0 x2 K V U) ∧ (¬ x1 < 0 → isO θ a0 11 ∧ (((V a0 3) ≤ x1 → wb_D_hasPlace_16 θ a0 x2 K V U) ∧ (¬ (V a0 3) ≤ x1 → wb_D_hasPlace_17 θ a0 x2 (1 : Int32) K V U))))
set_option maxRecDepth 100000 in
set_option maxHeartbeats 4000000 in
theorem c_D_hasPlace (l : Launch) (θ : TH) (a0 : Nat) (x1 : Int32) (x2 : Int32) (V : VT) (U : UT) (K : Int32 → VT → UT → Prop) (hw : wp_D_hasPlace θ a0 x1 x2 V U K) : CMi l yD_hasPlace kD_hasPlace 4 (some .boolean) rmD_hasPlace θ [.ref a0, .int x1, .int x2] V U K := by
  refine g_met nRD (by decide +kernel) rfl (Nat.le_of_ble_eq_true rfl) (fun p e s m args below meth c ls hC hr hlk hwo hl => ?_)
  have hx := hC.1
  have hb := hC.2.1
  have hS : Sx θ s s.heap [] := va_S.rf
  have hl : lv_has ls 4 [(0, .ref a0), (1, .int x1), (2, .int x2)] := hl
  have J40 : ∀ (V : VT) (U : UT) (H : Heap) (locs : List Loc) (ls : Array Slot), wb_D_hasPlace_40 θ K V U → wo θ V U H → Sx θ s H locs → lv_has ls 4 [] → W p l e rmD_hasPlace s m args below meth c H locs 0 0 (MQ below (QI θ K) args s 0 0 (aT θ)) (F0 m 40 ls []) := by
    intro V U H locs ls hw hwo hS hl
    unfold wb_D_hasPlace_40 at hw
    refine lv_iconst (v := 0) hx hb dD_hasPlace_40 (by decide) ?_
    exact g_zret hC hr hlk (Or.inl rfl) hw hwo hS dD_hasPlace_41
  have J17 : ∀ (a0_17 : Nat) (x2_17 : Int32) (z0_17 : Int32) (V : VT) (U : UT) (H : Heap) (locs : List Loc) (ls : Array Slot), wb_D_hasPlace_17 θ a0_17 x2_17 z0_17 K V U → wo θ V U H → Sx θ s H locs → lv_has ls 4 [(0, .ref a0_17), (2, .int x2_17)] → W p l e rmD_hasPlace s m args below meth c H locs 0 0 (MQ below (QI θ K) args s 0 0 (aT θ)) (F0 m 17 ls [.int z0_17]) := by
    intro a0_17 x2_17 z0_17 V U H locs ls hw hwo hS hl
    unfold wb_D_hasPlace_17 at hw
    refine lv_istore_n (i := 3) (lv' := [(3, .int z0_17), (0, .ref a0_17), (2, .int x2_17)]) hx hb dD_hasPlace_17 rfl hl (by decide) rfl (fun ls hl => ?_)
    refine lv_iload_n hx hb dD_hasPlace_18 rfl (lv_at hl 0 rfl) ?_
    refine lv_if_eq (tgt := 40) hx hb dD_hasPlace_19 (by decide) (fun hc_4 => ?_) (fun hc_4 => ?_)
    · replace hw := hw.1 hc_4
      exact J40 _ _ _ _ _ hw hwo hS (lv_sub hl [] rfl)
    · replace hw := hw.2 hc_4
      refine lv_iload_n hx hb dD_hasPlace_22 rfl (lv_at hl 2 rfl) ?_
      refine lv_if_lt (tgt := 40) hx hb dD_hasPlace_23 (by decide) (fun hc_5 => ?_) (fun hc_5 => ?_)
      · replace hw := hw.1 hc_5
        exact J40 _ _ _ _ _ hw hwo hS (lv_sub hl [] rfl)
      · replace hw := hw.2 hc_5
        refine lv_iload_n hx hb dD_hasPlace_26 rfl (lv_at hl 2 rfl) ?_
        refine lv_aload_n hx hb dD_hasPlace_27 rfl (lv_at hl 1 rfl) ?_
        obtain ⟨ho_6, hw⟩ := hw
        refine g_getI hC fkD_64 rfl hwo ho_6 dD_hasPlace_28 ?_
        refine lv_iconst (v := 2) hx hb dD_hasPlace_31 (by decide) ?_
        obtain ⟨hd_7, hw⟩ := hw
        refine lv_idiv hx hb dD_hasPlace_32 hd_7 ?_
        refine lv_icmp_ge (tgt := 40) hx hb dD_hasPlace_33 (by decide) (fun hc_8 => ?_) (fun hc_8 => ?_)
        · replace hw := hw.1 hc_8
          exact J40 _ _ _ _ _ hw hwo hS (lv_sub hl [] rfl)
        · replace hw := hw.2 hc_8
          refine lv_iconst (v := 1) hx hb dD_hasPlace_36 (by decide) ?_
          refine lv_goto (tgt := 41) hx hb dD_hasPlace_37 (by decide) ?_
          exact g_zret hC hr hlk (Or.inr rfl) hw hwo hS dD_hasPlace_41
  have J16 : ∀ (a0_16 : Nat) (x2_16 : Int32) (V : VT) (U : UT) (H : Heap) (locs : List Loc) (ls : Array Slot), wb_D_hasPlace_16 θ a0_16 x2_16 K V U → wo θ V U H → Sx θ s H locs → lv_has ls 4 [(0, .ref a0_16), (2, .int x2_16)] → W p l e rmD_hasPlace s m args below meth c H locs 0 0 (MQ below (QI θ K) args s 0 0 (aT θ)) (F0 m 16 ls []) := by
    intro a0_16 x2_16 V U H locs ls hw hwo hS hl
    unfold wb_D_hasPlace_16 at hw
    refine lv_iconst (v := 0) hx hb dD_hasPlace_16 (by decide) ?_
    exact J17 _ _ _ _ _ _ _ _ hw hwo hS (lv_sub hl [0, 1] rfl)
  unfold wp_D_hasPlace at hw
  refine lv_iload_n hx hb dD_hasPlace_0 rfl (lv_at hl 1 rfl) ?_
  refine lv_if_lt (tgt := 16) hx hb dD_hasPlace_1 (by decide) (fun hc_1 => ?_) (fun hc_1 => ?_)
  · replace hw := hw.1 hc_1
    exact J16 _ _ _ _ _ _ _ hw hwo hS (lv_sub hl [0, 2] rfl)
  · replace hw := hw.2 hc_1
    refine lv_iload_n hx hb dD_hasPlace_4 rfl (lv_at hl 1 rfl) ?_
    refine lv_aload_n hx hb dD_hasPlace_5 rfl (lv_at hl 0 rfl) ?_
    obtain ⟨ho_2, hw⟩ := hw
    refine g_getI hC fkD_61 rfl hwo ho_2 dD_hasPlace_6 ?_
    refine lv_icmp_ge (tgt := 16) hx hb dD_hasPlace_9 (by decide) (fun hc_3 => ?_) (fun hc_3 => ?_)
    · replace hw := hw.1 hc_3
      exact J16 _ _ _ _ _ _ _ hw hwo hS (lv_sub hl [0, 2] rfl)
    · replace hw := hw.2 hc_3
      refine lv_iconst (v := 1) hx hb dD_hasPlace_12 (by decide) ?_
      refine lv_goto (tgt := 17) hx hb dD_hasPlace_13 (by decide) ?_
      exact J17 _ _ _ _ _ _ _ _ hw hwo hS (lv_sub hl [0, 2] rfl)
theorem dD_unjoin_0 : decode kD_unjoin 0 = .ok (.iconst 0, 1) := by decide +kernel
theorem dD_unjoin_1 : decode kD_unjoin 1 = .ok (.istore_n 2, 1) := by decide +kernel
theorem dD_unjoin_2 : decode kD_unjoin 2 = .ok (.iload_n 2, 1) := by decide +kernel
theorem dD_unjoin_3 : decode kD_unjoin 3 = .ok (.iload_n 1, 1) := by decide +kernel
theorem dD_unjoin_4 : decode kD_unjoin 4 = .ok (.if_icmp .ge 91, 3) := by decide +kernel
theorem dD_unjoin_7 : decode kD_unjoin 7 = .ok (.aload_n 0, 1) := by decide +kernel
theorem dD_unjoin_8 : decode kD_unjoin 8 = .ok (.getfield 42, 3) := by decide +kernel
theorem dD_unjoin_11 : decode kD_unjoin 11 = .ok (.iconst 0, 1) := by decide +kernel
theorem dD_unjoin_12 : decode kD_unjoin 12 = .ok (.aaload, 1) := by decide +kernel
theorem dD_unjoin_13 : decode kD_unjoin 13 = .ok (.iload_n 2, 1) := by decide +kernel
theorem dD_unjoin_14 : decode kD_unjoin 14 = .ok (.iaload, 1) := by decide +kernel
theorem dD_unjoin_15 : decode kD_unjoin 15 = .ok (.istore_n 3, 1) := by decide +kernel
theorem dD_unjoin_16 : decode kD_unjoin 16 = .ok (.aload_n 0, 1) := by decide +kernel
theorem dD_unjoin_17 : decode kD_unjoin 17 = .ok (.getfield 42, 3) := by decide +kernel
theorem dD_unjoin_20 : decode kD_unjoin 20 = .ok (.iconst 1, 1) := by decide +kernel
theorem dD_unjoin_21 : decode kD_unjoin 21 = .ok (.aaload, 1) := by decide +kernel
theorem dD_unjoin_22 : decode kD_unjoin 22 = .ok (.iload_n 2, 1) := by decide +kernel
theorem dD_unjoin_23 : decode kD_unjoin 23 = .ok (.iaload, 1) := by decide +kernel
theorem dD_unjoin_24 : decode kD_unjoin 24 = .ok (.istore 4, 2) := by decide +kernel
theorem dD_unjoin_26 : decode kD_unjoin 26 = .ok (.iload 4, 2) := by decide +kernel
theorem dD_unjoin_28 : decode kD_unjoin 28 = .ok (.ifCond .le 29, 3) := by decide +kernel
theorem dD_unjoin_31 : decode kD_unjoin 31 = .ok (.aload_n 0, 1) := by decide +kernel
theorem dD_unjoin_32 : decode kD_unjoin 32 = .ok (.getfield 42, 3) := by decide +kernel
theorem dD_unjoin_35 : decode kD_unjoin 35 = .ok (.iconst 1, 1) := by decide +kernel
theorem dD_unjoin_36 : decode kD_unjoin 36 = .ok (.aaload, 1) := by decide +kernel
theorem dD_unjoin_37 : decode kD_unjoin 37 = .ok (.iload_n 2, 1) := by decide +kernel
theorem dD_unjoin_38 : decode kD_unjoin 38 = .ok (.iload_n 3, 1) := by decide +kernel
theorem dD_unjoin_39 : decode kD_unjoin 39 = .ok (.ifCond .le 10, 3) := by decide +kernel
theorem dD_unjoin_42 : decode kD_unjoin 42 = .ok (.iload_n 3, 1) := by decide +kernel
theorem dD_unjoin_43 : decode kD_unjoin 43 = .ok (.iload 4, 2) := by decide +kernel
theorem dD_unjoin_45 : decode kD_unjoin 45 = .ok (.isub, 1) := by decide +kernel
theorem dD_unjoin_46 : decode kD_unjoin 46 = .ok (.goto 7, 3) := by decide +kernel
theorem dD_unjoin_49 : decode kD_unjoin 49 = .ok (.iload_n 3, 1) := by decide +kernel
theorem dD_unjoin_50 : decode kD_unjoin 50 = .ok (.iload 4, 2) := by decide +kernel
theorem dD_unjoin_52 : decode kD_unjoin 52 = .ok (.iadd, 1) := by decide +kernel
theorem dD_unjoin_53 : decode kD_unjoin 53 = .ok (.iastore, 1) := by decide +kernel
theorem dD_unjoin_54 : decode kD_unjoin 54 = .ok (.goto 35, 3) := by decide +kernel
theorem dD_unjoin_57 : decode kD_unjoin 57 = .ok (.aload_n 0, 1) := by decide +kernel
theorem dD_unjoin_58 : decode kD_unjoin 58 = .ok (.getfield 42, 3) := by decide +kernel
theorem dD_unjoin_61 : decode kD_unjoin 61 = .ok (.iconst 0, 1) := by decide +kernel
theorem dD_unjoin_62 : decode kD_unjoin 62 = .ok (.aaload, 1) := by decide +kernel
theorem dD_unjoin_63 : decode kD_unjoin 63 = .ok (.iload_n 2, 1) := by decide +kernel
theorem dD_unjoin_64 : decode kD_unjoin 64 = .ok (.iload_n 3, 1) := by decide +kernel
theorem dD_unjoin_65 : decode kD_unjoin 65 = .ok (.ifCond .le 10, 3) := by decide +kernel
theorem dD_unjoin_68 : decode kD_unjoin 68 = .ok (.iload_n 3, 1) := by decide +kernel
theorem dD_unjoin_69 : decode kD_unjoin 69 = .ok (.iload 4, 2) := by decide +kernel
theorem dD_unjoin_71 : decode kD_unjoin 71 = .ok (.iadd, 1) := by decide +kernel
theorem dD_unjoin_72 : decode kD_unjoin 72 = .ok (.goto 7, 3) := by decide +kernel
theorem dD_unjoin_75 : decode kD_unjoin 75 = .ok (.iload_n 3, 1) := by decide +kernel
theorem dD_unjoin_76 : decode kD_unjoin 76 = .ok (.iload 4, 2) := by decide +kernel
theorem dD_unjoin_78 : decode kD_unjoin 78 = .ok (.isub, 1) := by decide +kernel
theorem dD_unjoin_79 : decode kD_unjoin 79 = .ok (.iastore, 1) := by decide +kernel
theorem dD_unjoin_80 : decode kD_unjoin 80 = .ok (.aload_n 0, 1) := by decide +kernel
theorem dD_unjoin_81 : decode kD_unjoin 81 = .ok (.getfield 42, 3) := by decide +kernel
theorem dD_unjoin_84 : decode kD_unjoin 84 = .ok (.iconst 1, 1) := by decide +kernel
theorem dD_unjoin_85 : decode kD_unjoin 85 = .ok (.aaload, 1) := by decide +kernel
theorem dD_unjoin_86 : decode kD_unjoin 86 = .ok (.iload_n 2, 1) := by decide +kernel
theorem dD_unjoin_87 : decode kD_unjoin 87 = .ok (.iload_n 3, 1) := by decide +kernel
theorem dD_unjoin_88 : decode kD_unjoin 88 = .ok (.iastore, 1) := by decide +kernel
theorem dD_unjoin_89 : decode kD_unjoin 89 = .ok (.iinc 2 1, 3) := by decide +kernel
theorem dD_unjoin_92 : decode kD_unjoin 92 = .ok (.goto (-90), 3) := by decide +kernel
theorem dD_unjoin_95 : decode kD_unjoin 95 = .ok (.return_, 1) := by decide +kernel
def wb_D_unjoin_79 (θ : TH) (a0_2 : Nat) (x1_2 : Int32) (x2_79 : Int32) (x3_79 : Int32) (z0_79 : Int32) (z1_79 : Int32) (z2_79 : Nat) (kb2 : Int32 → VT → UT → Prop) (K : VT → UT → Prop) (V : VT) (U : UT) : Prop := ∃ n_21, isA θ z2_79 0 n_21 ∧ vp_in z1_79 n_21 ∧ ∀ V_24 : VT, V_24 = up2 V z2_79 z1_79.toNatClampNeg z0_79 → isO θ a0_2 11 ∧ (U a0_2 14) ≠ 0 ∧ ∃ n_27, isR θ (U a0_2 14) 6 n_27 ∧ vp_in (1 : Int32) n_27 ∧ (U (U a0_2 14) (1 : Int32).toNatClampNeg) ≠ 0 ∧ ∃ n_31, isA θ (U (U a0_2 14) (1 : Int32).toNatClampNeg) 0 n_31 ∧ vp_in x2_79 n_31 ∧ ∀ V_34 : VT, V_34 = up2 V_24 (U (U a0_2 14) (1 : Int32).toNatClampNeg) x2_79.toNatClampNeg x3_79 → ∀ y_35 : Int32, y_35 = x2_79 + (1 : Int32) → kb2 y_35 V_34 U
def wb_D_unjoin_53 (θ : TH) (a0_2 : Nat) (x1_2 : Int32) (x2_53 : Int32) (z0_53 : Int32) (z1_53 : Int32) (z2_53 : Nat) (kb2 : Int32 → VT → UT → Prop) (K : VT → UT → Prop) (V : VT) (U : UT) : Prop := ∃ n_36, isA θ z2_53 0 n_36 ∧ vp_in z1_53 n_36 ∧ ∀ V_39 : VT, V_39 = up2 V z2_53 z1_53.toNatClampNeg z0_53 → ∀ y_40 : Int32, y_40 = x2_53 + (1 : Int32) → kb2 y_40 V_39 U
def bl_D_unjoin_2 (θ : TH) (a0_2 : Nat) (x1_2 : Int32) (K : VT → UT → Prop) (kb2 : Int32 → VT → UT → Prop) (x2_2 : Int32) (V : VT) (U : UT) : Prop := ((x1_2 ≤ x2_2 → K V U) ∧ (¬ x1_2 ≤ x2_2 → isO θ a0_2 11 ∧ (U a0_2 14) ≠ 0 ∧ ∃ n_4, isR θ (U a0_2 14) 6 n_4 ∧ vp_in (0 : Int32) n_4 ∧ (U (U a0_2 14) (0 : Int32).toNatClampNeg) ≠ 0 ∧ ∃ n_8, isA θ (U (U a0_2 14) (0 : Int32).toNatClampNeg) 0 n_8 ∧ vp_in x2_2 n_8 ∧ ∀ y_11 : Int32, y_11 = (V (U (U a0_2 14) (0 : Int32).toNatClampNeg) x2_2.toNatClampNeg) → vp_in (1 : Int32) n_4 ∧ (U (U a0_2 14) (1 : Int32).toNatClampNeg) ≠ 0 ∧ ∃ n_14, isA θ (U (U a0_2 14) (1 : Int32).toNatClampNeg) 0 n_14 ∧ vp_in x2_2 n_14 ∧ ∀ y_17 : Int32, y_17 = (V (U (U a0_2 14) (1 : Int32).toNatClampNeg) x2_2.toNatClampNeg) → ((y_17 ≤ 0 → ((y_11 ≤ 0 → wb_D_unjoin_79 θ a0_2 x1_2 x2_2 y_11 (y_11 - y_17) x2_2 (U (U a0_2 14) (0 : Int32).toNatClampNeg) kb2 K V U) ∧ (¬ y_11 ≤ 0 → wb_D_unjoin_79 θ a0_2 x1_2 x2_2 y_11 (y_11 + y_17) x2_2 (U (U a0_2 14) (0 : Int32).toNatClampNeg) kb2 K V U))) ∧ (¬ y_17 ≤ 0 → ((y_11 ≤ 0 → wb_D_unjoin_53 θ a0_2 x1_2 x2_2 (y_11 + y_17) x2_2 (U (U a0_2 14) (1 : Int32).toNatClampNeg) kb2 K V U) ∧ (¬ y_11 ≤ 0 → wb_D_unjoin_53 θ a0_2 x1_2 x2_2 (y_11 - y_17) x2_2 (U (U a0_2 14) (1 : Int32).toNatClampNeg) kb2 K V U))))))
def wl_D_unjoin_2 (θ : TH) (a0_2 : Nat) (x1_2 : Int32) (K : VT → UT → Prop) : Nat → Int32 → VT → UT → Prop
  | 0, _, _, _ => False
  | n + 1, x2_2, V, U => bl_D_unjoin_2 θ a0_2 x1_2 K (wl_D_unjoin_2 θ a0_2 x1_2 K n) x2_2 V U
def wp_D_unjoin (θ : TH) (a0 : Nat) (x1 : Int32) (V : VT) (U : UT) (K : VT → UT → Prop) : Prop := ∃ n, wl_D_unjoin_2 θ a0 x1 K n (0 : Int32) V U
set_option maxRecDepth 100000 in
set_option maxHeartbeats 4000000 in
theorem c_D_unjoin (l : Launch) (θ : TH) (a0 : Nat) (x1 : Int32) (V : VT) (U : UT) (K : VT → UT → Prop) (hw : wp_D_unjoin θ a0 x1 V U K) : CMv l yD_unjoin kD_unjoin 5 none rmD_unjoin θ [.ref a0, .int x1] V U K := by
  refine g_met nRD (by decide +kernel) rfl (Nat.le_of_ble_eq_true rfl) (fun p e s m args below meth c ls hC hr hlk hwo hl => ?_)
  have hx := hC.1
  have hb := hC.2.1
  have hS : Sx θ s s.heap [] := va_S.rf
  have hl : lv_has ls 5 [(0, .ref a0), (1, .int x1)] := hl
  have L2 : ∀ (a0_2 : Nat) (x1_2 : Int32) (n2 : Nat) (x2_2 : Int32) (V : VT) (U : UT) (H : Heap) (locs : List Loc) (ls : Array Slot), wl_D_unjoin_2 θ a0_2 x1_2 K n2 x2_2 V U → wo θ V U H → Sx θ s H locs → lv_has ls 5 [(0, .ref a0_2), (1, .int x1_2), (2, .int x2_2)] → W p l e rmD_unjoin s m args below meth c H locs 0 0 (MQ below (QV θ K) args s 0 0 (aT θ)) (F0 m 2 ls []) := by
    intro a0_2 x1_2 n2
    induction n2 with
    | zero => intro x2_2 V U H locs ls hw hwo hS hl; exact (show False from hw).elim
    | succ n2 ih2 =>
      have J79 : ∀ (x2_79 : Int32) (x3_79 : Int32) (z0_79 : Int32) (z1_79 : Int32) (z2_79 : Nat) (V : VT) (U : UT) (H : Heap) (locs : List Loc) (ls : Array Slot), wb_D_unjoin_79 θ a0_2 x1_2 x2_79 x3_79 z0_79 z1_79 z2_79 (wl_D_unjoin_2 θ a0_2 x1_2 K n2) K V U → wo θ V U H → Sx θ s H locs → lv_has ls 5 [(0, .ref a0_2), (1, .int x1_2), (2, .int x2_79), (3, .int x3_79)] → W p l e rmD_unjoin s m args below meth c H locs 0 0 (MQ below (QV θ K) args s 0 0 (aT θ)) (F0 m 79 ls [.int z0_79, .int z1_79, .ref z2_79]) := by
        intro x2_79 x3_79 z0_79 z1_79 z2_79 V U H locs ls hw hwo hS hl
        unfold wb_D_unjoin_79 at hw
        obtain ⟨n_21, ha_22, hw⟩ := hw
        obtain ⟨hi_23, hw⟩ := hw
        refine g_iast hC hwo hS ha_22 hi_23 dD_unjoin_79 (fun V_24 eV_24 H locs hwo hS => ?_)
        replace hw := hw V_24 eV_24
        refine lv_aload_n hx hb dD_unjoin_80 rfl (lv_at hl 0 rfl) ?_
        obtain ⟨ho_25, hw⟩ := hw
        obtain ⟨hz_26, hw⟩ := hw
        refine g_getR hC fkD_42 rfl hwo ho_25 hz_26 dD_unjoin_81 ?_
        refine lv_iconst (v := 1) hx hb dD_unjoin_84 (by decide) ?_
        obtain ⟨n_27, ha_28, hw⟩ := hw
        obtain ⟨hi_29, hw⟩ := hw
        obtain ⟨hz_30, hw⟩ := hw
        refine g_aald hC hwo (t := 6) (by decide) rfl ha_28 hi_29 hz_30 dD_unjoin_85 ?_
        refine lv_iload_n hx hb dD_unjoin_86 rfl (lv_at hl 2 rfl) ?_
        refine lv_iload_n hx hb dD_unjoin_87 rfl (lv_at hl 3 rfl) ?_
        obtain ⟨n_31, ha_32, hw⟩ := hw
        obtain ⟨hi_33, hw⟩ := hw
        refine g_iast hC hwo hS ha_32 hi_33 dD_unjoin_88 (fun V_34 eV_34 H locs hwo hS => ?_)
        replace hw := hw V_34 eV_34
        obtain ⟨y_35, ey_35⟩ : ∃ z : Int32, z = x2_79 + (1 : Int32) := ⟨_, rfl⟩
        replace hw := hw y_35 ey_35
        refine lv_iinc (k := 2) (v := y_35) (lv' := [(2, .int y_35), (0, .ref a0_2), (1, .int x1_2), (3, .int x3_79)]) hx hb dD_unjoin_89 hl rfl (by rw [ey_35]; rfl) (by decide) rfl (fun ls hl => ?_)
        refine lv_goto (tgt := 2) hx hb dD_unjoin_92 (by decide) ?_
        exact ih2 _ _ _ _ _ _ hw hwo hS (lv_sub hl [1, 2, 0] rfl)
      have J53 : ∀ (x2_53 : Int32) (z0_53 : Int32) (z1_53 : Int32) (z2_53 : Nat) (V : VT) (U : UT) (H : Heap) (locs : List Loc) (ls : Array Slot), wb_D_unjoin_53 θ a0_2 x1_2 x2_53 z0_53 z1_53 z2_53 (wl_D_unjoin_2 θ a0_2 x1_2 K n2) K V U → wo θ V U H → Sx θ s H locs → lv_has ls 5 [(0, .ref a0_2), (1, .int x1_2), (2, .int x2_53)] → W p l e rmD_unjoin s m args below meth c H locs 0 0 (MQ below (QV θ K) args s 0 0 (aT θ)) (F0 m 53 ls [.int z0_53, .int z1_53, .ref z2_53]) := by
        intro x2_53 z0_53 z1_53 z2_53 V U H locs ls hw hwo hS hl
        unfold wb_D_unjoin_53 at hw
        obtain ⟨n_36, ha_37, hw⟩ := hw
        obtain ⟨hi_38, hw⟩ := hw
        refine g_iast hC hwo hS ha_37 hi_38 dD_unjoin_53 (fun V_39 eV_39 H locs hwo hS => ?_)
        replace hw := hw V_39 eV_39
        refine lv_goto (tgt := 89) hx hb dD_unjoin_54 (by decide) ?_
        obtain ⟨y_40, ey_40⟩ : ∃ z : Int32, z = x2_53 + (1 : Int32) := ⟨_, rfl⟩
        replace hw := hw y_40 ey_40
        refine lv_iinc (k := 2) (v := y_40) (lv' := [(2, .int y_40), (0, .ref a0_2), (1, .int x1_2)]) hx hb dD_unjoin_89 hl rfl (by rw [ey_40]; rfl) (by decide) rfl (fun ls hl => ?_)
        refine lv_goto (tgt := 2) hx hb dD_unjoin_92 (by decide) ?_
        exact ih2 _ _ _ _ _ _ hw hwo hS (lv_sub hl [1, 2, 0] rfl)
      intro x2_2 V U H locs ls hw hwo hS hl
      replace hw : bl_D_unjoin_2 θ a0_2 x1_2 K (wl_D_unjoin_2 θ a0_2 x1_2 K n2) x2_2 V U := hw
      unfold bl_D_unjoin_2 at hw
      refine lv_iload_n hx hb dD_unjoin_2 rfl (lv_at hl 2 rfl) ?_
      refine lv_iload_n hx hb dD_unjoin_3 rfl (lv_at hl 1 rfl) ?_
      refine lv_icmp_ge (tgt := 95) hx hb dD_unjoin_4 (by decide) (fun hc_1 => ?_) (fun hc_1 => ?_)
      · replace hw := hw.1 hc_1
        exact g_vret hC hr hlk hw hwo hS dD_unjoin_95
      · replace hw := hw.2 hc_1
        refine lv_aload_n hx hb dD_unjoin_7 rfl (lv_at hl 0 rfl) ?_
        obtain ⟨ho_2, hw⟩ := hw
        obtain ⟨hz_3, hw⟩ := hw
        refine g_getR hC fkD_42 rfl hwo ho_2 hz_3 dD_unjoin_8 ?_
        refine lv_iconst (v := 0) hx hb dD_unjoin_11 (by decide) ?_
        obtain ⟨n_4, ha_5, hw⟩ := hw
        obtain ⟨hi_6, hw⟩ := hw
        obtain ⟨hz_7, hw⟩ := hw
        refine g_aald hC hwo (t := 6) (by decide) rfl ha_5 hi_6 hz_7 dD_unjoin_12 ?_
        refine lv_iload_n hx hb dD_unjoin_13 rfl (lv_at hl 2 rfl) ?_
        obtain ⟨n_8, ha_9, hw⟩ := hw
        obtain ⟨hi_10, hw⟩ := hw
        refine g_iald hC hwo ha_9 hi_10 dD_unjoin_14 ?_
        refine lv_topi (fun y_11 ey_11 => ?_)
        replace hw := hw y_11 ey_11
        refine lv_istore_n (i := 3) (lv' := [(3, .int y_11), (0, .ref a0_2), (1, .int x1_2), (2, .int x2_2)]) hx hb dD_unjoin_15 rfl hl (by decide) rfl (fun ls hl => ?_)
        refine lv_aload_n hx hb dD_unjoin_16 rfl (lv_at hl 1 rfl) ?_
        refine g_getR hC fkD_42 rfl hwo ho_2 hz_3 dD_unjoin_17 ?_
        refine lv_iconst (v := 1) hx hb dD_unjoin_20 (by decide) ?_
        obtain ⟨hi_12, hw⟩ := hw
        obtain ⟨hz_13, hw⟩ := hw
        refine g_aald hC hwo (t := 6) (by decide) rfl ha_5 hi_12 hz_13 dD_unjoin_21 ?_
        refine lv_iload_n hx hb dD_unjoin_22 rfl (lv_at hl 3 rfl) ?_
        obtain ⟨n_14, ha_15, hw⟩ := hw
        obtain ⟨hi_16, hw⟩ := hw
        refine g_iald hC hwo ha_15 hi_16 dD_unjoin_23 ?_
        refine lv_topi (fun y_17 ey_17 => ?_)
        replace hw := hw y_17 ey_17
        refine lv_istore (i := 4) (lv' := [(4, .int y_17), (3, .int y_11), (0, .ref a0_2), (1, .int x1_2), (2, .int x2_2)]) hx hb dD_unjoin_24 hl (by decide) rfl (fun ls hl => ?_)
        refine lv_iload hx hb dD_unjoin_26 (lv_at hl 0 rfl) ?_
        refine lv_if_le (tgt := 57) hx hb dD_unjoin_28 (by decide) (fun hc_18 => ?_) (fun hc_18 => ?_)
        · replace hw := hw.1 hc_18
          refine lv_aload_n hx hb dD_unjoin_57 rfl (lv_at hl 2 rfl) ?_
          refine g_getR hC fkD_42 rfl hwo ho_2 hz_3 dD_unjoin_58 ?_
          refine lv_iconst (v := 0) hx hb dD_unjoin_61 (by decide) ?_
          refine g_aald hC hwo (t := 6) (by decide) rfl ha_5 hi_6 hz_7 dD_unjoin_62 ?_
          refine lv_iload_n hx hb dD_unjoin_63 rfl (lv_at hl 4 rfl) ?_
          refine lv_iload_n hx hb dD_unjoin_64 rfl (lv_at hl 1 rfl) ?_
          refine lv_if_le (tgt := 75) hx hb dD_unjoin_65 (by decide) (fun hc_19 => ?_) (fun hc_19 => ?_)
          · replace hw := hw.1 hc_19
            refine lv_iload_n hx hb dD_unjoin_75 rfl (lv_at hl 1 rfl) ?_
            refine lv_iload hx hb dD_unjoin_76 (lv_at hl 0 rfl) ?_
            refine lv_isub hx hb dD_unjoin_78 ?_
            exact J79 _ _ _ _ _ _ _ _ _ _ hw hwo hS (lv_sub hl [2, 3, 4, 1] rfl)
          · replace hw := hw.2 hc_19
            refine lv_iload_n hx hb dD_unjoin_68 rfl (lv_at hl 1 rfl) ?_
            refine lv_iload hx hb dD_unjoin_69 (lv_at hl 0 rfl) ?_
            refine lv_iadd hx hb dD_unjoin_71 ?_
            refine lv_goto (tgt := 79) hx hb dD_unjoin_72 (by decide) ?_
            exact J79 _ _ _ _ _ _ _ _ _ _ hw hwo hS (lv_sub hl [2, 3, 4, 1] rfl)
        · replace hw := hw.2 hc_18
          refine lv_aload_n hx hb dD_unjoin_31 rfl (lv_at hl 2 rfl) ?_
          refine g_getR hC fkD_42 rfl hwo ho_2 hz_3 dD_unjoin_32 ?_
          refine lv_iconst (v := 1) hx hb dD_unjoin_35 (by decide) ?_
          refine g_aald hC hwo (t := 6) (by decide) rfl ha_5 hi_12 hz_13 dD_unjoin_36 ?_
          refine lv_iload_n hx hb dD_unjoin_37 rfl (lv_at hl 4 rfl) ?_
          refine lv_iload_n hx hb dD_unjoin_38 rfl (lv_at hl 1 rfl) ?_
          refine lv_if_le (tgt := 49) hx hb dD_unjoin_39 (by decide) (fun hc_20 => ?_) (fun hc_20 => ?_)
          · replace hw := hw.1 hc_20
            refine lv_iload_n hx hb dD_unjoin_49 rfl (lv_at hl 1 rfl) ?_
            refine lv_iload hx hb dD_unjoin_50 (lv_at hl 0 rfl) ?_
            refine lv_iadd hx hb dD_unjoin_52 ?_
            exact J53 _ _ _ _ _ _ _ _ _ hw hwo hS (lv_sub hl [2, 3, 4] rfl)
          · replace hw := hw.2 hc_20
            refine lv_iload_n hx hb dD_unjoin_42 rfl (lv_at hl 1 rfl) ?_
            refine lv_iload hx hb dD_unjoin_43 (lv_at hl 0 rfl) ?_
            refine lv_isub hx hb dD_unjoin_45 ?_
            refine lv_goto (tgt := 53) hx hb dD_unjoin_46 (by decide) ?_
            exact J53 _ _ _ _ _ _ _ _ _ hw hwo hS (lv_sub hl [2, 3, 4] rfl)
  unfold wp_D_unjoin at hw
  refine lv_iconst (v := 0) hx hb dD_unjoin_0 (by decide) ?_
  refine lv_istore_n (i := 2) (lv' := [(2, .int (0 : Int32)), (0, .ref a0), (1, .int x1)]) hx hb dD_unjoin_1 rfl hl (by decide) rfl (fun ls hl => ?_)
  obtain ⟨n, hw⟩ := hw
  exact L2 _ _ n _ _ _ _ _ _ hw hwo hS (lv_sub hl [1, 2, 0] rfl)
theorem dD_countSamples_0 : decode kD_countSamples 0 = .ok (.iload_n 1, 1) := by decide +kernel
theorem dD_countSamples_1 : decode kD_countSamples 1 = .ok (.ifCond .le 22, 3) := by decide +kernel
theorem dD_countSamples_4 : decode kD_countSamples 4 = .ok (.aload_n 0, 1) := by decide +kernel
theorem dD_countSamples_5 : decode kD_countSamples 5 = .ok (.dup, 1) := by decide +kernel
theorem dD_countSamples_6 : decode kD_countSamples 6 = .ok (.getfield 108, 3) := by decide +kernel
theorem dD_countSamples_9 : decode kD_countSamples 9 = .ok (.iload_n 1, 1) := by decide +kernel
theorem dD_countSamples_10 : decode kD_countSamples 10 = .ok (.iconst 4, 1) := by decide +kernel
theorem dD_countSamples_11 : decode kD_countSamples 11 = .ok (.idiv, 1) := by decide +kernel
theorem dD_countSamples_12 : decode kD_countSamples 12 = .ok (.aload_n 0, 1) := by decide +kernel
theorem dD_countSamples_13 : decode kD_countSamples 13 = .ok (.getfield 64, 3) := by decide +kernel
theorem dD_countSamples_16 : decode kD_countSamples 16 = .ok (.iconst 4, 1) := by decide +kernel
theorem dD_countSamples_17 : decode kD_countSamples 17 = .ok (.idiv, 1) := by decide +kernel
theorem dD_countSamples_18 : decode kD_countSamples 18 = .ok (.iadd, 1) := by decide +kernel
theorem dD_countSamples_19 : decode kD_countSamples 19 = .ok (.iadd, 1) := by decide +kernel
theorem dD_countSamples_20 : decode kD_countSamples 20 = .ok (.putfield 108, 3) := by decide +kernel
theorem dD_countSamples_23 : decode kD_countSamples 23 = .ok (.aload_n 0, 1) := by decide +kernel
theorem dD_countSamples_24 : decode kD_countSamples 24 = .ok (.getfield 45, 3) := by decide +kernel
theorem dD_countSamples_27 : decode kD_countSamples 27 = .ok (.getfield 147, 3) := by decide +kernel
theorem dD_countSamples_30 : decode kD_countSamples 30 = .ok (.ifCond .eq 40, 3) := by decide +kernel
theorem dD_countSamples_33 : decode kD_countSamples 33 = .ok (.aload_n 0, 1) := by decide +kernel
theorem dD_countSamples_34 : decode kD_countSamples 34 = .ok (.getfield 45, 3) := by decide +kernel
theorem dD_countSamples_37 : decode kD_countSamples 37 = .ok (.getfield 150, 3) := by decide +kernel
theorem dD_countSamples_40 : decode kD_countSamples 40 = .ok (.ldc 153, 2) := by decide +kernel
theorem dD_countSamples_42 : decode kD_countSamples 42 = .ok (.if_icmp .eq 28, 3) := by decide +kernel
theorem dD_countSamples_45 : decode kD_countSamples 45 = .ok (.aload_n 0, 1) := by decide +kernel
theorem dD_countSamples_46 : decode kD_countSamples 46 = .ok (.getfield 45, 3) := by decide +kernel
theorem dD_countSamples_49 : decode kD_countSamples 49 = .ok (.getfield 150, 3) := by decide +kernel
theorem dD_countSamples_52 : decode kD_countSamples 52 = .ok (.aload_n 0, 1) := by decide +kernel
theorem dD_countSamples_53 : decode kD_countSamples 53 = .ok (.getfield 108, 3) := by decide +kernel
theorem dD_countSamples_56 : decode kD_countSamples 56 = .ok (.if_icmp .ge 14, 3) := by decide +kernel
theorem dD_countSamples_59 : decode kD_countSamples 59 = .ok (.aload_n 0, 1) := by decide +kernel
theorem dD_countSamples_60 : decode kD_countSamples 60 = .ok (.aload_n 0, 1) := by decide +kernel
theorem dD_countSamples_61 : decode kD_countSamples 61 = .ok (.getfield 45, 3) := by decide +kernel
theorem dD_countSamples_64 : decode kD_countSamples 64 = .ok (.getfield 150, 3) := by decide +kernel
theorem dD_countSamples_67 : decode kD_countSamples 67 = .ok (.putfield 108, 3) := by decide +kernel
theorem dD_countSamples_70 : decode kD_countSamples 70 = .ok (.return_, 1) := by decide +kernel
def wb_D_countSamples_23 (θ : TH) (a0_23 : Nat) (K : VT → UT → Prop) (V : VT) (U : UT) : Prop := isO θ a0_23 11 ∧ (U a0_23 0) ≠ 0 ∧ isO θ (U a0_23 0) 7 ∧ (((V (U a0_23 0) 4) = 0 → K V U) ∧ (¬ (V (U a0_23 0) 4) = 0 → (((V (U a0_23 0) 3) = (65535 : Int32) → K V U) ∧ (¬ (V (U a0_23 0) 3) = (65535 : Int32) → (((V a0_23 15) ≤ (V (U a0_23 0) 3) → K V U) ∧ (¬ (V a0_23 15) ≤ (V (U a0_23 0) 3) → ∀ V_11 : VT, V_11 = up2 V a0_23 15 (V (U a0_23 0) 3) → K V_11 U))))))
def wp_D_countSamples (θ : TH) (a0 : Nat) (x1 : Int32) (V : VT) (U : UT) (K : VT → UT → Prop) : Prop := ((x1 ≤ 0 → wb_D_countSamples_23 θ a0 K V U) ∧ (¬ x1 ≤ 0 → isO θ a0 11 ∧ ¬ (4 : Int32) = 0 ∧ ∀ V_4 : VT, V_4 = up2 V a0 15 ((V a0 15) + ((x1 / (4 : Int32)) + ((V a0 11) / (4 : Int32)))) → wb_D_countSamples_23 θ a0 K V_4 U))
set_option maxRecDepth 100000 in
set_option maxHeartbeats 4000000 in
theorem c_D_countSamples (l : Launch) (θ : TH) (a0 : Nat) (x1 : Int32) (V : VT) (U : UT) (K : VT → UT → Prop) (hw : wp_D_countSamples θ a0 x1 V U K) : CMv l yD_countSamples kD_countSamples 2 none rmD_countSamples θ [.ref a0, .int x1] V U K := by
  refine g_met nRD (by decide +kernel) rfl (Nat.le_of_ble_eq_true rfl) (fun p e s m args below meth c ls hC hr hlk hwo hl => ?_)
  have hx := hC.1
  have hb := hC.2.1
  have hS : Sx θ s s.heap [] := va_S.rf
  have hl : lv_has ls 2 [(0, .ref a0), (1, .int x1)] := hl
  have J23 : ∀ (a0_23 : Nat) (V : VT) (U : UT) (H : Heap) (locs : List Loc) (ls : Array Slot), wb_D_countSamples_23 θ a0_23 K V U → wo θ V U H → Sx θ s H locs → lv_has ls 2 [(0, .ref a0_23)] → W p l e rmD_countSamples s m args below meth c H locs 0 0 (MQ below (QV θ K) args s 0 0 (aT θ)) (F0 m 23 ls []) := by
    intro a0_23 V U H locs ls hw hwo hS hl
    unfold wb_D_countSamples_23 at hw
    refine lv_aload_n hx hb dD_countSamples_23 rfl (lv_at hl 0 rfl) ?_
    obtain ⟨ho_5, hw⟩ := hw
    obtain ⟨hz_6, hw⟩ := hw
    refine g_getR hC fkD_45 rfl hwo ho_5 hz_6 dD_countSamples_24 ?_
    obtain ⟨ho_7, hw⟩ := hw
    refine g_getI hC fkD_147 rfl hwo ho_7 dD_countSamples_27 ?_
    refine lv_if_eq (tgt := 70) hx hb dD_countSamples_30 (by decide) (fun hc_8 => ?_) (fun hc_8 => ?_)
    · replace hw := hw.1 hc_8
      exact g_vret hC hr hlk hw hwo hS dD_countSamples_70
    · replace hw := hw.2 hc_8
      refine lv_aload_n hx hb dD_countSamples_33 rfl (lv_at hl 0 rfl) ?_
      refine g_getR hC fkD_45 rfl hwo ho_5 hz_6 dD_countSamples_34 ?_
      refine g_getI hC fkD_150 rfl hwo ho_7 dD_countSamples_37 ?_
      refine lv_ldc hx hb hC.2.2.2.1 (hC.2.2.2.2.1 _ kcD_153) dD_countSamples_40 ?_
      refine lv_icmp_eq (tgt := 70) hx hb dD_countSamples_42 (by decide) (fun hc_9 => ?_) (fun hc_9 => ?_)
      · replace hw := hw.1 hc_9
        exact g_vret hC hr hlk hw hwo hS dD_countSamples_70
      · replace hw := hw.2 hc_9
        refine lv_aload_n hx hb dD_countSamples_45 rfl (lv_at hl 0 rfl) ?_
        refine g_getR hC fkD_45 rfl hwo ho_5 hz_6 dD_countSamples_46 ?_
        refine g_getI hC fkD_150 rfl hwo ho_7 dD_countSamples_49 ?_
        refine lv_aload_n hx hb dD_countSamples_52 rfl (lv_at hl 0 rfl) ?_
        refine g_getI hC fkD_108 rfl hwo ho_5 dD_countSamples_53 ?_
        refine lv_icmp_ge (tgt := 70) hx hb dD_countSamples_56 (by decide) (fun hc_10 => ?_) (fun hc_10 => ?_)
        · replace hw := hw.1 hc_10
          exact g_vret hC hr hlk hw hwo hS dD_countSamples_70
        · replace hw := hw.2 hc_10
          refine lv_aload_n hx hb dD_countSamples_59 rfl (lv_at hl 0 rfl) ?_
          refine lv_aload_n hx hb dD_countSamples_60 rfl (lv_at hl 0 rfl) ?_
          refine g_getR hC fkD_45 rfl hwo ho_5 hz_6 dD_countSamples_61 ?_
          refine g_getI hC fkD_150 rfl hwo ho_7 dD_countSamples_64 ?_
          refine g_putI hC fkD_108 rfl hwo hS ho_5 dD_countSamples_67 (fun V_11 eV_11 H locs hwo hS => ?_)
          replace hw := hw V_11 eV_11
          exact g_vret hC hr hlk hw hwo hS dD_countSamples_70
  unfold wp_D_countSamples at hw
  refine lv_iload_n hx hb dD_countSamples_0 rfl (lv_at hl 1 rfl) ?_
  refine lv_if_le (tgt := 23) hx hb dD_countSamples_1 (by decide) (fun hc_1 => ?_) (fun hc_1 => ?_)
  · replace hw := hw.1 hc_1
    exact J23 _ _ _ _ _ _ hw hwo hS (lv_sub hl [0] rfl)
  · replace hw := hw.2 hc_1
    refine lv_aload_n hx hb dD_countSamples_4 rfl (lv_at hl 0 rfl) ?_
    refine lv_dup hx hb dD_countSamples_5 rfl ?_
    obtain ⟨ho_2, hw⟩ := hw
    refine g_getI hC fkD_108 rfl hwo ho_2 dD_countSamples_6 ?_
    refine lv_iload_n hx hb dD_countSamples_9 rfl (lv_at hl 1 rfl) ?_
    refine lv_iconst (v := 4) hx hb dD_countSamples_10 (by decide) ?_
    obtain ⟨hd_3, hw⟩ := hw
    refine lv_idiv hx hb dD_countSamples_11 hd_3 ?_
    refine lv_aload_n hx hb dD_countSamples_12 rfl (lv_at hl 0 rfl) ?_
    refine g_getI hC fkD_64 rfl hwo ho_2 dD_countSamples_13 ?_
    refine lv_iconst (v := 4) hx hb dD_countSamples_16 (by decide) ?_
    refine lv_idiv hx hb dD_countSamples_17 hd_3 ?_
    refine lv_iadd hx hb dD_countSamples_18 ?_
    refine lv_iadd hx hb dD_countSamples_19 ?_
    refine g_putI hC fkD_108 rfl hwo hS ho_2 dD_countSamples_20 (fun V_4 eV_4 H locs hwo hS => ?_)
    replace hw := hw V_4 eV_4
    exact J23 _ _ _ _ _ _ hw hwo hS (lv_sub hl [0] rfl)
theorem dD_decodeSound_0 : decode kD_decodeSound 0 = .ok (.aload_n 0, 1) := by decide +kernel
theorem dD_decodeSound_1 : decode kD_decodeSound 1 = .ok (.getfield 45, 3) := by decide +kernel
theorem dD_decodeSound_4 : decode kD_decodeSound 4 = .ok (.invokevirtual 75, 3) := by decide +kernel
theorem dD_decodeSound_7 : decode kD_decodeSound 7 = .ok (.ifCond .eq 18, 3) := by decide +kernel
theorem dD_decodeSound_10 : decode kD_decodeSound 10 = .ok (.iconst 1, 1) := by decide +kernel
theorem dD_decodeSound_11 : decode kD_decodeSound 11 = .ok (.aload_n 0, 1) := by decide +kernel
theorem dD_decodeSound_12 : decode kD_decodeSound 12 = .ok (.getfield 45, 3) := by decide +kernel
theorem dD_decodeSound_15 : decode kD_decodeSound 15 = .ok (.iconst 2, 1) := by decide +kernel
theorem dD_decodeSound_16 : decode kD_decodeSound 16 = .ok (.invokevirtual 82, 3) := by decide +kernel
theorem dD_decodeSound_19 : decode kD_decodeSound 19 = .ok (.iconst 1, 1) := by decide +kernel
theorem dD_decodeSound_20 : decode kD_decodeSound 20 = .ok (.ishl, 1) := by decide +kernel
theorem dD_decodeSound_21 : decode kD_decodeSound 21 = .ok (.ior, 1) := by decide +kernel
theorem dD_decodeSound_22 : decode kD_decodeSound 22 = .ok (.goto 4, 3) := by decide +kernel
theorem dD_decodeSound_25 : decode kD_decodeSound 25 = .ok (.iconst 0, 1) := by decide +kernel
theorem dD_decodeSound_26 : decode kD_decodeSound 26 = .ok (.istore_n 1, 1) := by decide +kernel
theorem dD_decodeSound_27 : decode kD_decodeSound 27 = .ok (.aload_n 0, 1) := by decide +kernel
theorem dD_decodeSound_28 : decode kD_decodeSound 28 = .ok (.getfield 105, 3) := by decide +kernel
theorem dD_decodeSound_31 : decode kD_decodeSound 31 = .ok (.ifCond .eq 13, 3) := by decide +kernel
theorem dD_decodeSound_34 : decode kD_decodeSound 34 = .ok (.aload_n 0, 1) := by decide +kernel
theorem dD_decodeSound_35 : decode kD_decodeSound 35 = .ok (.getfield 45, 3) := by decide +kernel
theorem dD_decodeSound_38 : decode kD_decodeSound 38 = .ok (.getfield 95, 3) := by decide +kernel
theorem dD_decodeSound_41 : decode kD_decodeSound 41 = .ok (.ifCond .eq 5, 3) := by decide +kernel
theorem dD_decodeSound_44 : decode kD_decodeSound 44 = .ok (.iconst 0, 1) := by decide +kernel
theorem dD_decodeSound_45 : decode kD_decodeSound 45 = .ok (.ireturn, 1) := by decide +kernel
theorem dD_decodeSound_46 : decode kD_decodeSound 46 = .ok (.aload_n 0, 1) := by decide +kernel
theorem dD_decodeSound_47 : decode kD_decodeSound 47 = .ok (.getfield 64, 3) := by decide +kernel
theorem dD_decodeSound_50 : decode kD_decodeSound 50 = .ok (.istore_n 2, 1) := by decide +kernel
theorem dD_decodeSound_51 : decode kD_decodeSound 51 = .ok (.aload_n 0, 1) := by decide +kernel
theorem dD_decodeSound_52 : decode kD_decodeSound 52 = .ok (.iload_n 1, 1) := by decide +kernel
theorem dD_decodeSound_53 : decode kD_decodeSound 53 = .ok (.ifCond .ne 10, 3) := by decide +kernel
theorem dD_decodeSound_56 : decode kD_decodeSound 56 = .ok (.aload_n 0, 1) := by decide +kernel
theorem dD_decodeSound_57 : decode kD_decodeSound 57 = .ok (.getfield 99, 3) := by decide +kernel
theorem dD_decodeSound_60 : decode kD_decodeSound 60 = .ok (.goto 7, 3) := by decide +kernel
theorem dD_decodeSound_63 : decode kD_decodeSound 63 = .ok (.aload_n 0, 1) := by decide +kernel
theorem dD_decodeSound_64 : decode kD_decodeSound 64 = .ok (.getfield 102, 3) := by decide +kernel
theorem dD_decodeSound_67 : decode kD_decodeSound 67 = .ok (.putfield 64, 3) := by decide +kernel
theorem dD_decodeSound_70 : decode kD_decodeSound 70 = .ok (.aload_n 0, 1) := by decide +kernel
theorem dD_decodeSound_71 : decode kD_decodeSound 71 = .ok (.getfield 64, 3) := by decide +kernel
theorem dD_decodeSound_74 : decode kD_decodeSound 74 = .ok (.iconst 2, 1) := by decide +kernel
theorem dD_decodeSound_75 : decode kD_decodeSound 75 = .ok (.idiv, 1) := by decide +kernel
theorem dD_decodeSound_76 : decode kD_decodeSound 76 = .ok (.istore_n 3, 1) := by decide +kernel
theorem dD_decodeSound_77 : decode kD_decodeSound 77 = .ok (.iconst 0, 1) := by decide +kernel
theorem dD_decodeSound_78 : decode kD_decodeSound 78 = .ok (.istore 4, 2) := by decide +kernel
theorem dD_decodeSound_80 : decode kD_decodeSound 80 = .ok (.iconst 0, 1) := by decide +kernel
theorem dD_decodeSound_81 : decode kD_decodeSound 81 = .ok (.istore 5, 2) := by decide +kernel
theorem dD_decodeSound_83 : decode kD_decodeSound 83 = .ok (.iload 5, 2) := by decide +kernel
theorem dD_decodeSound_85 : decode kD_decodeSound 85 = .ok (.aload_n 0, 1) := by decide +kernel
theorem dD_decodeSound_86 : decode kD_decodeSound 86 = .ok (.getfield 61, 3) := by decide +kernel
theorem dD_decodeSound_89 : decode kD_decodeSound 89 = .ok (.if_icmp .ge 74, 3) := by decide +kernel
theorem dD_decodeSound_92 : decode kD_decodeSound 92 = .ok (.aload_n 0, 1) := by decide +kernel
theorem dD_decodeSound_93 : decode kD_decodeSound 93 = .ok (.getfield 39, 3) := by decide +kernel
theorem dD_decodeSound_96 : decode kD_decodeSound 96 = .ok (.iload 5, 2) := by decide +kernel
theorem dD_decodeSound_98 : decode kD_decodeSound 98 = .ok (.aaload, 1) := by decide +kernel
theorem dD_decodeSound_99 : decode kD_decodeSound 99 = .ok (.iconst 0, 1) := by decide +kernel
theorem dD_decodeSound_100 : decode kD_decodeSound 100 = .ok (.invokestatic 121, 3) := by decide +kernel
theorem dD_decodeSound_103 : decode kD_decodeSound 103 = .ok (.aload_n 0, 1) := by decide +kernel
theorem dD_decodeSound_104 : decode kD_decodeSound 104 = .ok (.getfield 42, 3) := by decide +kernel
theorem dD_decodeSound_107 : decode kD_decodeSound 107 = .ok (.iload 5, 2) := by decide +kernel
theorem dD_decodeSound_109 : decode kD_decodeSound 109 = .ok (.aaload, 1) := by decide +kernel
theorem dD_decodeSound_110 : decode kD_decodeSound 110 = .ok (.iconst 0, 1) := by decide +kernel
theorem dD_decodeSound_111 : decode kD_decodeSound 111 = .ok (.invokestatic 121, 3) := by decide +kernel
theorem dD_decodeSound_114 : decode kD_decodeSound 114 = .ok (.aload_n 0, 1) := by decide +kernel
theorem dD_decodeSound_115 : decode kD_decodeSound 115 = .ok (.getfield 20, 3) := by decide +kernel
theorem dD_decodeSound_118 : decode kD_decodeSound 118 = .ok (.aload_n 0, 1) := by decide +kernel
theorem dD_decodeSound_119 : decode kD_decodeSound 119 = .ok (.getfield 45, 3) := by decide +kernel
theorem dD_decodeSound_122 : decode kD_decodeSound 122 = .ok (.aload_n 0, 1) := by decide +kernel
theorem dD_decodeSound_123 : decode kD_decodeSound 123 = .ok (.getfield 11, 3) := by decide +kernel
theorem dD_decodeSound_126 : decode kD_decodeSound 126 = .ok (.aload_n 0, 1) := by decide +kernel
theorem dD_decodeSound_127 : decode kD_decodeSound 127 = .ok (.getfield 39, 3) := by decide +kernel
theorem dD_decodeSound_130 : decode kD_decodeSound 130 = .ok (.iload 5, 2) := by decide +kernel
theorem dD_decodeSound_132 : decode kD_decodeSound 132 = .ok (.aaload, 1) := by decide +kernel
theorem dD_decodeSound_133 : decode kD_decodeSound 133 = .ok (.iload_n 3, 1) := by decide +kernel
theorem dD_decodeSound_134 : decode kD_decodeSound 134 = .ok (.invokevirtual 127, 3) := by decide +kernel
theorem dD_decodeSound_137 : decode kD_decodeSound 137 = .ok (.istore 6, 2) := by decide +kernel
theorem dD_decodeSound_139 : decode kD_decodeSound 139 = .ok (.iload 4, 2) := by decide +kernel
theorem dD_decodeSound_141 : decode kD_decodeSound 141 = .ok (.iload 6, 2) := by decide +kernel
theorem dD_decodeSound_143 : decode kD_decodeSound 143 = .ok (.ifCond .eq 10, 3) := by decide +kernel
theorem dD_decodeSound_146 : decode kD_decodeSound 146 = .ok (.iconst 1, 1) := by decide +kernel
theorem dD_decodeSound_147 : decode kD_decodeSound 147 = .ok (.iload 5, 2) := by decide +kernel
theorem dD_decodeSound_149 : decode kD_decodeSound 149 = .ok (.ishl, 1) := by decide +kernel
theorem dD_decodeSound_150 : decode kD_decodeSound 150 = .ok (.goto 4, 3) := by decide +kernel
theorem dD_decodeSound_153 : decode kD_decodeSound 153 = .ok (.iconst 0, 1) := by decide +kernel
theorem dD_decodeSound_154 : decode kD_decodeSound 154 = .ok (.ior, 1) := by decide +kernel
theorem dD_decodeSound_155 : decode kD_decodeSound 155 = .ok (.istore 4, 2) := by decide +kernel
theorem dD_decodeSound_157 : decode kD_decodeSound 157 = .ok (.iinc 5 1, 3) := by decide +kernel
theorem dD_decodeSound_160 : decode kD_decodeSound 160 = .ok (.goto (-77), 3) := by decide +kernel
theorem dD_decodeSound_163 : decode kD_decodeSound 163 = .ok (.aload_n 0, 1) := by decide +kernel
theorem dD_decodeSound_164 : decode kD_decodeSound 164 = .ok (.getfield 27, 3) := by decide +kernel
theorem dD_decodeSound_167 : decode kD_decodeSound 167 = .ok (.aload_n 0, 1) := by decide +kernel
theorem dD_decodeSound_168 : decode kD_decodeSound 168 = .ok (.getfield 45, 3) := by decide +kernel
theorem dD_decodeSound_171 : decode kD_decodeSound 171 = .ok (.aload_n 0, 1) := by decide +kernel
theorem dD_decodeSound_172 : decode kD_decodeSound 172 = .ok (.getfield 11, 3) := by decide +kernel
theorem dD_decodeSound_175 : decode kD_decodeSound 175 = .ok (.iload 4, 2) := by decide +kernel
theorem dD_decodeSound_177 : decode kD_decodeSound 177 = .ok (.aload_n 0, 1) := by decide +kernel
theorem dD_decodeSound_178 : decode kD_decodeSound 178 = .ok (.getfield 42, 3) := by decide +kernel
theorem dD_decodeSound_181 : decode kD_decodeSound 181 = .ok (.iload_n 3, 1) := by decide +kernel
theorem dD_decodeSound_182 : decode kD_decodeSound 182 = .ok (.invokevirtual 131, 3) := by decide +kernel
theorem dD_decodeSound_185 : decode kD_decodeSound 185 = .ok (.aload_n 0, 1) := by decide +kernel
theorem dD_decodeSound_186 : decode kD_decodeSound 186 = .ok (.getfield 27, 3) := by decide +kernel
theorem dD_decodeSound_189 : decode kD_decodeSound 189 = .ok (.getfield 134, 3) := by decide +kernel
theorem dD_decodeSound_192 : decode kD_decodeSound 192 = .ok (.ifCond .eq 8, 3) := by decide +kernel
theorem dD_decodeSound_195 : decode kD_decodeSound 195 = .ok (.aload_n 0, 1) := by decide +kernel
theorem dD_decodeSound_196 : decode kD_decodeSound 196 = .ok (.iload_n 3, 1) := by decide +kernel
theorem dD_decodeSound_197 : decode kD_decodeSound 197 = .ok (.invokevirtual 137, 3) := by decide +kernel
theorem dD_decodeSound_200 : decode kD_decodeSound 200 = .ok (.aload_n 0, 1) := by decide +kernel
theorem dD_decodeSound_201 : decode kD_decodeSound 201 = .ok (.iload_n 1, 1) := by decide +kernel
theorem dD_decodeSound_202 : decode kD_decodeSound 202 = .ok (.iload 4, 2) := by decide +kernel
theorem dD_decodeSound_204 : decode kD_decodeSound 204 = .ok (.iconst 3, 1) := by decide +kernel
theorem dD_decodeSound_205 : decode kD_decodeSound 205 = .ok (.ishl, 1) := by decide +kernel
theorem dD_decodeSound_206 : decode kD_decodeSound 206 = .ok (.ior, 1) := by decide +kernel
theorem dD_decodeSound_207 : decode kD_decodeSound 207 = .ok (.aload_n 0, 1) := by decide +kernel
theorem dD_decodeSound_208 : decode kD_decodeSound 208 = .ok (.getfield 45, 3) := by decide +kernel
theorem dD_decodeSound_211 : decode kD_decodeSound 211 = .ok (.getfield 95, 3) := by decide +kernel
theorem dD_decodeSound_214 : decode kD_decodeSound 214 = .ok (.ifCond .eq 8, 3) := by decide +kernel
theorem dD_decodeSound_217 : decode kD_decodeSound 217 = .ok (.bipush 32, 2) := by decide +kernel
theorem dD_decodeSound_219 : decode kD_decodeSound 219 = .ok (.goto 4, 3) := by decide +kernel
theorem dD_decodeSound_222 : decode kD_decodeSound 222 = .ok (.iconst 0, 1) := by decide +kernel
theorem dD_decodeSound_223 : decode kD_decodeSound 223 = .ok (.ior, 1) := by decide +kernel
theorem dD_decodeSound_224 : decode kD_decodeSound 224 = .ok (.putfield 141, 3) := by decide +kernel
theorem dD_decodeSound_227 : decode kD_decodeSound 227 = .ok (.aload_n 0, 1) := by decide +kernel
theorem dD_decodeSound_228 : decode kD_decodeSound 228 = .ok (.iload_n 2, 1) := by decide +kernel
theorem dD_decodeSound_229 : decode kD_decodeSound 229 = .ok (.invokevirtual 144, 3) := by decide +kernel
theorem dD_decodeSound_232 : decode kD_decodeSound 232 = .ok (.iconst 1, 1) := by decide +kernel
theorem dD_decodeSound_233 : decode kD_decodeSound 233 = .ok (.ireturn, 1) := by decide +kernel
def wb_D_decodeSound_223 (θ : TH) (a0_223 : Nat) (x2_223 : Int32) (z0_223 : Int32) (z1_223 : Int32) (z2_223 : Nat) (K : Int32 → VT → UT → Prop) (V : VT) (U : UT) : Prop := isO θ z2_223 11 ∧ ∀ V_75 : VT, V_75 = up2 V z2_223 12 (z1_223 ||| z0_223) → isO θ a0_223 11 ∧ wp_D_countSamples θ a0_223 x2_223 V_75 U (fun V_76 U_77 => K (1 : Int32) V_76 U_77)
def wb_D_decodeSound_200 (θ : TH) (a0_200 : Nat) (x1_200 : Int32) (x2_200 : Int32) (x4_200 : Int32) (K : Int32 → VT → UT → Prop) (V : VT) (U : UT) : Prop := isO θ a0_200 11 ∧ (U a0_200 0) ≠ 0 ∧ isO θ (U a0_200 0) 7 ∧ (((V (U a0_200 0) 6) = 0 → wb_D_decodeSound_223 θ a0_200 x2_200 (0 : Int32) (x1_200 ||| (x4_200 <<< ((3 : Int32) &&& 31))) a0_200 K V U) ∧ (¬ (V (U a0_200 0) 6) = 0 → wb_D_decodeSound_223 θ a0_200 x2_200 (32 : Int32) (x1_200 ||| (x4_200 <<< ((3 : Int32) &&& 31))) a0_200 K V U))
def bl_D_decodeSound_83 (θ : TH) (a0_83 : Nat) (x1_83 : Int32) (x2_83 : Int32) (x3_83 : Int32) (K : Int32 → VT → UT → Prop) (kb83 : Int32 → Int32 → VT → UT → Prop) (x4_83 : Int32) (x5_83 : Int32) (V : VT) (U : UT) : Prop := isO θ a0_83 11 ∧ (((V a0_83 3) ≤ x5_83 → (U a0_83 8) ≠ 0 ∧ (U a0_83 0) ≠ 0 ∧ (U a0_83 1) ≠ 0 ∧ (U a0_83 14) ≠ 0 ∧ isO θ (U a0_83 8) 10 ∧ wp_P_decode θ (U a0_83 8) (U a0_83 0) (U a0_83 1) x4_83 (U a0_83 14) x3_83 V U (fun V_31 U_32 => (U_32 a0_83 8) ≠ 0 ∧ isO θ (U_32 a0_83 8) 10 ∧ (((V_31 (U_32 a0_83 8) 8) = 0 → wb_D_decodeSound_200 θ a0_83 x1_83 x2_83 x4_83 K V_31 U_32) ∧ (¬ (V_31 (U_32 a0_83 8) 8) = 0 → wp_D_unjoin θ a0_83 x3_83 V_31 U_32 (fun V_37 U_38 => wb_D_decodeSound_200 θ a0_83 x1_83 x2_83 x4_83 K V_37 U_38))))) ∧ (¬ (V a0_83 3) ≤ x5_83 → (U a0_83 13) ≠ 0 ∧ ∃ n_40, isR θ (U a0_83 13) 6 n_40 ∧ vp_in x5_83 n_40 ∧ (U (U a0_83 13) x5_83.toNatClampNeg) ≠ 0 ∧ wp_A_fill θ (U (U a0_83 13) x5_83.toNatClampNeg) (0 : Int32) V U (fun V_44 U_45 => (U_45 a0_83 14) ≠ 0 ∧ ∃ n_47, isR θ (U_45 a0_83 14) 6 n_47 ∧ vp_in x5_83 n_47 ∧ (U_45 (U_45 a0_83 14) x5_83.toNatClampNeg) ≠ 0 ∧ wp_A_fill θ (U_45 (U_45 a0_83 14) x5_83.toNatClampNeg) (0 : Int32) V_44 U_45 (fun V_51 U_52 => (U_52 a0_83 7) ≠ 0 ∧ (U_52 a0_83 0) ≠ 0 ∧ (U_52 a0_83 1) ≠ 0 ∧ (U_52 a0_83 13) ≠ 0 ∧ ∃ n_57, isR θ (U_52 a0_83 13) 6 n_57 ∧ vp_in x5_83 n_57 ∧ (U_52 (U_52 a0_83 13) x5_83.toNatClampNeg) ≠ 0 ∧ isO θ (U_52 a0_83 7) 9 ∧ wp_C_decode θ (U_52 a0_83 7) (U_52 a0_83 0) (U_52 a0_83 1) (U_52 (U_52 a0_83 13) x5_83.toNatClampNeg) x3_83 V_51 U_52 (fun r_64 V_61 U_62 => ((r_64 = 0 → ∀ y_66 : Int32, y_66 = (x4_83 ||| (0 : Int32)) → ∀ y_67 : Int32, y_67 = x5_83 + (1 : Int32) → kb83 y_66 y_67 V_61 U_62) ∧ (¬ r_64 = 0 → ∀ y_68 : Int32, y_68 = (x4_83 ||| ((1 : Int32) <<< (x5_83 &&& 31))) → ∀ y_69 : Int32, y_69 = x5_83 + (1 : Int32) → kb83 y_68 y_69 V_61 U_62)))))))
def wl_D_decodeSound_83 (θ : TH) (a0_83 : Nat) (x1_83 : Int32) (x2_83 : Int32) (x3_83 : Int32) (K : Int32 → VT → UT → Prop) : Nat → Int32 → Int32 → VT → UT → Prop
  | 0, _, _, _, _ => False
  | n + 1, x4_83, x5_83, V, U => bl_D_decodeSound_83 θ a0_83 x1_83 x2_83 x3_83 K (wl_D_decodeSound_83 θ a0_83 x1_83 x2_83 x3_83 K n) x4_83 x5_83 V U
def wb_D_decodeSound_67 (θ : TH) (a0_67 : Nat) (x1_67 : Int32) (x2_67 : Int32) (z0_67 : Int32) (z1_67 : Nat) (K : Int32 → VT → UT → Prop) (V : VT) (U : UT) : Prop := isO θ z1_67 11 ∧ ∀ V_21 : VT, V_21 = up2 V z1_67 11 z0_67 → isO θ a0_67 11 ∧ ¬ (2 : Int32) = 0 ∧ ∀ y_24 : Int32, y_24 = ((V_21 a0_67 11) / (2 : Int32)) → ∃ n, wl_D_decodeSound_83 θ a0_67 x1_67 x2_67 y_24 K n (0 : Int32) (0 : Int32) V_21 U
def wb_D_decodeSound_26 (θ : TH) (a0_26 : Nat) (z0_26 : Int32) (K : Int32 → VT → UT → Prop) (V : VT) (U : UT) : Prop := isO θ a0_26 11 ∧ (((V a0_26 6) = 0 → K (0 : Int32) V U) ∧ (¬ (V a0_26 6) = 0 → (U a0_26 0) ≠ 0 ∧ isO θ (U a0_26 0) 7 ∧ (((V (U a0_26 0) 6) = 0 → ∀ y_18 : Int32, y_18 = (V a0_26 11) → ((¬ z0_26 = 0 → wb_D_decodeSound_67 θ a0_26 z0_26 y_18 (V a0_26 5) a0_26 K V U) ∧ (z0_26 = 0 → wb_D_decodeSound_67 θ a0_26 z0_26 y_18 (V a0_26 4) a0_26 K V U))) ∧ (¬ (V (U a0_26 0) 6) = 0 → K (0 : Int32) V U))))
def wp_D_decodeSound (θ : TH) (a0 : Nat) (V : VT) (U : UT) (K : Int32 → VT → UT → Prop) : Prop := isO θ a0 11 ∧ (U a0 0) ≠ 0 ∧ isO θ (U a0 0) 7 ∧ wp_H_readFlag θ (U a0 0) V U (fun r_6 V_3 U_4 => ((r_6 = 0 → wb_D_decodeSound_26 θ a0 (0 : Int32) K V_3 U_4) ∧ (¬ r_6 = 0 → (U_4 a0 0) ≠ 0 ∧ isO θ (U_4 a0 0) 7 ∧ wp_H_read θ (U_4 a0 0) (2 : Int32) V_3 U_4 (fun r_12 V_9 U_10 => wb_D_decodeSound_26 θ a0 ((1 : Int32) ||| (r_12 <<< ((1 : Int32) &&& 31))) K V_9 U_10))))
set_option maxRecDepth 100000 in
set_option maxHeartbeats 4000000 in
theorem c_D_decodeSound (l : Launch) (θ : TH) (a0 : Nat) (V : VT) (U : UT) (K : Int32 → VT → UT → Prop) (hw : wp_D_decodeSound θ a0 V U K) : CMi l yD_decodeSound kD_decodeSound 7 (some .boolean) rmD_decodeSound θ [.ref a0] V U K := by
  refine g_met nRD (by decide +kernel) rfl (Nat.le_of_ble_eq_true rfl) (fun p e s m args below meth c ls hC hr hlk hwo hl => ?_)
  have hx := hC.1
  have hb := hC.2.1
  have hS : Sx θ s s.heap [] := va_S.rf
  have hl : lv_has ls 7 [(0, .ref a0)] := hl
  have J223 : ∀ (a0_223 : Nat) (x2_223 : Int32) (z0_223 : Int32) (z1_223 : Int32) (z2_223 : Nat) (V : VT) (U : UT) (H : Heap) (locs : List Loc) (ls : Array Slot), wb_D_decodeSound_223 θ a0_223 x2_223 z0_223 z1_223 z2_223 K V U → wo θ V U H → Sx θ s H locs → lv_has ls 7 [(0, .ref a0_223), (2, .int x2_223)] → W p l e rmD_decodeSound s m args below meth c H locs 0 0 (MQ below (QI θ K) args s 0 0 (aT θ)) (F0 m 223 ls [.int z0_223, .int z1_223, .ref z2_223]) := by
    intro a0_223 x2_223 z0_223 z1_223 z2_223 V U H locs ls hw hwo hS hl
    unfold wb_D_decodeSound_223 at hw
    refine lv_ior hx hb dD_decodeSound_223 ?_
    obtain ⟨ho_74, hw⟩ := hw
    refine g_putI hC fkD_141 rfl hwo hS ho_74 dD_decodeSound_224 (fun V_75 eV_75 H locs hwo hS => ?_)
    replace hw := hw V_75 eV_75
    refine lv_aload_n hx hb dD_decodeSound_227 rfl (lv_at hl 0 rfl) ?_
    refine lv_iload_n hx hb dD_decodeSound_228 rfl (lv_at hl 1 rfl) ?_
    obtain ⟨ho_78, hw⟩ := hw
    refine g_Vv (rest := []) hC (c_D_countSamples l θ _ _ _ _ _ hw) mi_D_countSamples mlD_144 mv_D_countSamples ci_11 ho_78 hwo hS ⟨rfl, rfl⟩ ⟨by decide, by decide⟩ rfl hl.1 rfl (Nat.le_of_ble_eq_true rfl) dD_decodeSound_229 (fun V_76 U_77 hw H locs hwo hS => ?_)
    refine lv_iconst (v := 1) hx hb dD_decodeSound_232 (by decide) ?_
    exact g_zret hC hr hlk (Or.inr rfl) hw hwo hS dD_decodeSound_233
  have J200 : ∀ (a0_200 : Nat) (x1_200 : Int32) (x2_200 : Int32) (x4_200 : Int32) (V : VT) (U : UT) (H : Heap) (locs : List Loc) (ls : Array Slot), wb_D_decodeSound_200 θ a0_200 x1_200 x2_200 x4_200 K V U → wo θ V U H → Sx θ s H locs → lv_has ls 7 [(0, .ref a0_200), (1, .int x1_200), (2, .int x2_200), (4, .int x4_200)] → W p l e rmD_decodeSound s m args below meth c H locs 0 0 (MQ below (QI θ K) args s 0 0 (aT θ)) (F0 m 200 ls []) := by
    intro a0_200 x1_200 x2_200 x4_200 V U H locs ls hw hwo hS hl
    unfold wb_D_decodeSound_200 at hw
    refine lv_aload_n hx hb dD_decodeSound_200 rfl (lv_at hl 0 rfl) ?_
    refine lv_iload_n hx hb dD_decodeSound_201 rfl (lv_at hl 1 rfl) ?_
    refine lv_iload hx hb dD_decodeSound_202 (lv_at hl 3 rfl) ?_
    refine lv_iconst (v := 3) hx hb dD_decodeSound_204 (by decide) ?_
    refine lv_ishl hx hb dD_decodeSound_205 ?_
    refine lv_ior hx hb dD_decodeSound_206 ?_
    refine lv_aload_n hx hb dD_decodeSound_207 rfl (lv_at hl 0 rfl) ?_
    obtain ⟨ho_70, hw⟩ := hw
    obtain ⟨hz_71, hw⟩ := hw
    refine g_getR hC fkD_45 rfl hwo ho_70 hz_71 dD_decodeSound_208 ?_
    obtain ⟨ho_72, hw⟩ := hw
    refine g_getI hC fkD_95 rfl hwo ho_72 dD_decodeSound_211 ?_
    refine lv_if_eq (tgt := 222) hx hb dD_decodeSound_214 (by decide) (fun hc_73 => ?_) (fun hc_73 => ?_)
    · replace hw := hw.1 hc_73
      refine lv_iconst (v := 0) hx hb dD_decodeSound_222 (by decide) ?_
      exact J223 _ _ _ _ _ _ _ _ _ _ hw hwo hS (lv_sub hl [0, 2] rfl)
    · replace hw := hw.2 hc_73
      refine lv_bipush (v := 32) hx hb dD_decodeSound_217 (by decide) ?_
      refine lv_goto (tgt := 223) hx hb dD_decodeSound_219 (by decide) ?_
      exact J223 _ _ _ _ _ _ _ _ _ _ hw hwo hS (lv_sub hl [0, 2] rfl)
  have L83 : ∀ (a0_83 : Nat) (x1_83 : Int32) (x2_83 : Int32) (x3_83 : Int32) (n83 : Nat) (x4_83 : Int32) (x5_83 : Int32) (V : VT) (U : UT) (H : Heap) (locs : List Loc) (ls : Array Slot), wl_D_decodeSound_83 θ a0_83 x1_83 x2_83 x3_83 K n83 x4_83 x5_83 V U → wo θ V U H → Sx θ s H locs → lv_has ls 7 [(0, .ref a0_83), (1, .int x1_83), (2, .int x2_83), (3, .int x3_83), (4, .int x4_83), (5, .int x5_83)] → W p l e rmD_decodeSound s m args below meth c H locs 0 0 (MQ below (QI θ K) args s 0 0 (aT θ)) (F0 m 83 ls []) := by
    intro a0_83 x1_83 x2_83 x3_83 n83
    induction n83 with
    | zero => intro x4_83 x5_83 V U H locs ls hw hwo hS hl; exact (show False from hw).elim
    | succ n83 ih83 =>
      intro x4_83 x5_83 V U H locs ls hw hwo hS hl
      replace hw : bl_D_decodeSound_83 θ a0_83 x1_83 x2_83 x3_83 K (wl_D_decodeSound_83 θ a0_83 x1_83 x2_83 x3_83 K n83) x4_83 x5_83 V U := hw
      unfold bl_D_decodeSound_83 at hw
      refine lv_iload hx hb dD_decodeSound_83 (lv_at hl 5 rfl) ?_
      refine lv_aload_n hx hb dD_decodeSound_85 rfl (lv_at hl 0 rfl) ?_
      obtain ⟨ho_25, hw⟩ := hw
      refine g_getI hC fkD_61 rfl hwo ho_25 dD_decodeSound_86 ?_
      refine lv_icmp_ge (tgt := 163) hx hb dD_decodeSound_89 (by decide) (fun hc_26 => ?_) (fun hc_26 => ?_)
      · replace hw := hw.1 hc_26
        refine lv_aload_n hx hb dD_decodeSound_163 rfl (lv_at hl 0 rfl) ?_
        obtain ⟨hz_27, hw⟩ := hw
        refine g_getR hC fkD_27 rfl hwo ho_25 hz_27 dD_decodeSound_164 ?_
        refine lv_aload_n hx hb dD_decodeSound_167 rfl (lv_at hl 0 rfl) ?_
        obtain ⟨hz_28, hw⟩ := hw
        refine g_getR hC fkD_45 rfl hwo ho_25 hz_28 dD_decodeSound_168 ?_
        refine lv_aload_n hx hb dD_decodeSound_171 rfl (lv_at hl 0 rfl) ?_
        obtain ⟨hz_29, hw⟩ := hw
        refine g_getR hC fkD_11 rfl hwo ho_25 hz_29 dD_decodeSound_172 ?_
        refine lv_iload hx hb dD_decodeSound_175 (lv_at hl 4 rfl) ?_
        refine lv_aload_n hx hb dD_decodeSound_177 rfl (lv_at hl 0 rfl) ?_
        obtain ⟨hz_30, hw⟩ := hw
        refine g_getR hC fkD_42 rfl hwo ho_25 hz_30 dD_decodeSound_178 ?_
        refine lv_iload_n hx hb dD_decodeSound_181 rfl (lv_at hl 3 rfl) ?_
        obtain ⟨ho_33, hw⟩ := hw
        refine g_Vv (rest := []) hC (c_P_decode l θ _ _ _ _ _ _ _ _ _ hw) mi_P_decode mlD_131 mv_P_decode ci_10 ho_33 hwo hS ⟨rfl, rfl⟩ ⟨by decide, by decide⟩ rfl hl.1 rfl (Nat.le_of_ble_eq_true rfl) dD_decodeSound_182 (fun V_31 U_32 hw H locs hwo hS => ?_)
        refine lv_aload_n hx hb dD_decodeSound_185 rfl (lv_at hl 0 rfl) ?_
        obtain ⟨hz_34, hw⟩ := hw
        refine g_getR hC fkD_27 rfl hwo ho_25 hz_34 dD_decodeSound_186 ?_
        obtain ⟨ho_35, hw⟩ := hw
        refine g_getI hC fkD_134 rfl hwo ho_35 dD_decodeSound_189 ?_
        refine lv_if_eq (tgt := 200) hx hb dD_decodeSound_192 (by decide) (fun hc_36 => ?_) (fun hc_36 => ?_)
        · replace hw := hw.1 hc_36
          exact J200 _ _ _ _ _ _ _ _ _ hw hwo hS (lv_sub hl [0, 1, 2, 4] rfl)
        · replace hw := hw.2 hc_36
          refine lv_aload_n hx hb dD_decodeSound_195 rfl (lv_at hl 0 rfl) ?_
          refine lv_iload_n hx hb dD_decodeSound_196 rfl (lv_at hl 3 rfl) ?_
          refine g_Vv (rest := []) hC (c_D_unjoin l θ _ _ _ _ _ hw) mi_D_unjoin mlD_137 mv_D_unjoin ci_11 ho_25 hwo hS ⟨rfl, rfl⟩ ⟨by decide, by decide⟩ rfl hl.1 rfl (Nat.le_of_ble_eq_true rfl) dD_decodeSound_197 (fun V_37 U_38 hw H locs hwo hS => ?_)
          exact J200 _ _ _ _ _ _ _ _ _ hw hwo hS (lv_sub hl [0, 1, 2, 4] rfl)
      · replace hw := hw.2 hc_26
        refine lv_aload_n hx hb dD_decodeSound_92 rfl (lv_at hl 0 rfl) ?_
        obtain ⟨hz_39, hw⟩ := hw
        refine g_getR hC fkD_39 rfl hwo ho_25 hz_39 dD_decodeSound_93 ?_
        refine lv_iload hx hb dD_decodeSound_96 (lv_at hl 5 rfl) ?_
        obtain ⟨n_40, ha_41, hw⟩ := hw
        obtain ⟨hi_42, hw⟩ := hw
        obtain ⟨hz_43, hw⟩ := hw
        refine g_aald hC hwo (t := 6) (by decide) rfl ha_41 hi_42 hz_43 dD_decodeSound_98 ?_
        refine lv_iconst (v := 0) hx hb dD_decodeSound_99 (by decide) ?_
        refine g_Sv (rest := []) hC (c_A_fill l θ _ _ _ _ _ hw) mi_A_fill mlD_121 ms_A_fill hwo hS ⟨rfl, rfl⟩ ⟨by decide, by decide⟩ rfl hl.1 rfl (Nat.le_of_ble_eq_true rfl) dD_decodeSound_100 (fun V_44 U_45 hw H locs hwo hS => ?_)
        refine lv_aload_n hx hb dD_decodeSound_103 rfl (lv_at hl 0 rfl) ?_
        obtain ⟨hz_46, hw⟩ := hw
        refine g_getR hC fkD_42 rfl hwo ho_25 hz_46 dD_decodeSound_104 ?_
        refine lv_iload hx hb dD_decodeSound_107 (lv_at hl 5 rfl) ?_
        obtain ⟨n_47, ha_48, hw⟩ := hw
        obtain ⟨hi_49, hw⟩ := hw
        obtain ⟨hz_50, hw⟩ := hw
        refine g_aald hC hwo (t := 6) (by decide) rfl ha_48 hi_49 hz_50 dD_decodeSound_109 ?_
        refine lv_iconst (v := 0) hx hb dD_decodeSound_110 (by decide) ?_
        refine g_Sv (rest := []) hC (c_A_fill l θ _ _ _ _ _ hw) mi_A_fill mlD_121 ms_A_fill hwo hS ⟨rfl, rfl⟩ ⟨by decide, by decide⟩ rfl hl.1 rfl (Nat.le_of_ble_eq_true rfl) dD_decodeSound_111 (fun V_51 U_52 hw H locs hwo hS => ?_)
        refine lv_aload_n hx hb dD_decodeSound_114 rfl (lv_at hl 0 rfl) ?_
        obtain ⟨hz_53, hw⟩ := hw
        refine g_getR hC fkD_20 rfl hwo ho_25 hz_53 dD_decodeSound_115 ?_
        refine lv_aload_n hx hb dD_decodeSound_118 rfl (lv_at hl 0 rfl) ?_
        obtain ⟨hz_54, hw⟩ := hw
        refine g_getR hC fkD_45 rfl hwo ho_25 hz_54 dD_decodeSound_119 ?_
        refine lv_aload_n hx hb dD_decodeSound_122 rfl (lv_at hl 0 rfl) ?_
        obtain ⟨hz_55, hw⟩ := hw
        refine g_getR hC fkD_11 rfl hwo ho_25 hz_55 dD_decodeSound_123 ?_
        refine lv_aload_n hx hb dD_decodeSound_126 rfl (lv_at hl 0 rfl) ?_
        obtain ⟨hz_56, hw⟩ := hw
        refine g_getR hC fkD_39 rfl hwo ho_25 hz_56 dD_decodeSound_127 ?_
        refine lv_iload hx hb dD_decodeSound_130 (lv_at hl 5 rfl) ?_
        obtain ⟨n_57, ha_58, hw⟩ := hw
        obtain ⟨hi_59, hw⟩ := hw
        obtain ⟨hz_60, hw⟩ := hw
        refine g_aald hC hwo (t := 6) (by decide) rfl ha_58 hi_59 hz_60 dD_decodeSound_132 ?_
        refine lv_iload_n hx hb dD_decodeSound_133 rfl (lv_at hl 3 rfl) ?_
        obtain ⟨ho_63, hw⟩ := hw
        refine g_Vi (rest := []) hC (c_C_decode l θ _ _ _ _ _ _ _ _ hw) mi_C_decode mlD_127 mv_C_decode ci_9 ho_63 hwo hS ⟨rfl, rfl⟩ ⟨by decide, by decide⟩ rfl hl.1 rfl (Nat.le_of_ble_eq_true rfl) dD_decodeSound_134 (fun r_64 V_61 U_62 hw H locs hwo hS => ?_)
        refine lv_istore (i := 6) (lv' := [(6, .int r_64), (0, .ref a0_83), (1, .int x1_83), (2, .int x2_83), (3, .int x3_83), (4, .int x4_83), (5, .int x5_83)]) hx hb dD_decodeSound_137 hl (by decide) rfl (fun ls hl => ?_)
        refine lv_iload hx hb dD_decodeSound_139 (lv_at hl 5 rfl) ?_
        refine lv_iload hx hb dD_decodeSound_141 (lv_at hl 0 rfl) ?_
        refine lv_if_eq (tgt := 153) hx hb dD_decodeSound_143 (by decide) (fun hc_65 => ?_) (fun hc_65 => ?_)
        · replace hw := hw.1 hc_65
          refine lv_iconst (v := 0) hx hb dD_decodeSound_153 (by decide) ?_
          refine lv_ior hx hb dD_decodeSound_154 ?_
          refine lv_topi (fun y_66 ey_66 => ?_)
          replace hw := hw y_66 ey_66
          refine lv_istore (i := 4) (lv' := [(4, .int y_66), (6, .int r_64), (0, .ref a0_83), (1, .int x1_83), (2, .int x2_83), (3, .int x3_83), (5, .int x5_83)]) hx hb dD_decodeSound_155 hl (by decide) rfl (fun ls hl => ?_)
          obtain ⟨y_67, ey_67⟩ : ∃ z : Int32, z = x5_83 + (1 : Int32) := ⟨_, rfl⟩
          replace hw := hw y_67 ey_67
          refine lv_iinc (k := 6) (v := y_67) (lv' := [(5, .int y_67), (4, .int y_66), (6, .int r_64), (0, .ref a0_83), (1, .int x1_83), (2, .int x2_83), (3, .int x3_83)]) hx hb dD_decodeSound_157 hl rfl (by rw [ey_67]; rfl) (by decide) rfl (fun ls hl => ?_)
          refine lv_goto (tgt := 83) hx hb dD_decodeSound_160 (by decide) ?_
          exact ih83 _ _ _ _ _ _ _ hw hwo hS (lv_sub hl [3, 4, 5, 6, 1, 0] rfl)
        · replace hw := hw.2 hc_65
          refine lv_iconst (v := 1) hx hb dD_decodeSound_146 (by decide) ?_
          refine lv_iload hx hb dD_decodeSound_147 (lv_at hl 6 rfl) ?_
          refine lv_ishl hx hb dD_decodeSound_149 ?_
          refine lv_goto (tgt := 154) hx hb dD_decodeSound_150 (by decide) ?_
          refine lv_ior hx hb dD_decodeSound_154 ?_
          refine lv_topi (fun y_68 ey_68 => ?_)
          replace hw := hw y_68 ey_68
          refine lv_istore (i := 4) (lv' := [(4, .int y_68), (6, .int r_64), (0, .ref a0_83), (1, .int x1_83), (2, .int x2_83), (3, .int x3_83), (5, .int x5_83)]) hx hb dD_decodeSound_155 hl (by decide) rfl (fun ls hl => ?_)
          obtain ⟨y_69, ey_69⟩ : ∃ z : Int32, z = x5_83 + (1 : Int32) := ⟨_, rfl⟩
          replace hw := hw y_69 ey_69
          refine lv_iinc (k := 6) (v := y_69) (lv' := [(5, .int y_69), (4, .int y_68), (6, .int r_64), (0, .ref a0_83), (1, .int x1_83), (2, .int x2_83), (3, .int x3_83)]) hx hb dD_decodeSound_157 hl rfl (by rw [ey_69]; rfl) (by decide) rfl (fun ls hl => ?_)
          refine lv_goto (tgt := 83) hx hb dD_decodeSound_160 (by decide) ?_
          exact ih83 _ _ _ _ _ _ _ hw hwo hS (lv_sub hl [3, 4, 5, 6, 1, 0] rfl)
  have J67 : ∀ (a0_67 : Nat) (x1_67 : Int32) (x2_67 : Int32) (z0_67 : Int32) (z1_67 : Nat) (V : VT) (U : UT) (H : Heap) (locs : List Loc) (ls : Array Slot), wb_D_decodeSound_67 θ a0_67 x1_67 x2_67 z0_67 z1_67 K V U → wo θ V U H → Sx θ s H locs → lv_has ls 7 [(0, .ref a0_67), (1, .int x1_67), (2, .int x2_67)] → W p l e rmD_decodeSound s m args below meth c H locs 0 0 (MQ below (QI θ K) args s 0 0 (aT θ)) (F0 m 67 ls [.int z0_67, .ref z1_67]) := by
    intro a0_67 x1_67 x2_67 z0_67 z1_67 V U H locs ls hw hwo hS hl
    unfold wb_D_decodeSound_67 at hw
    obtain ⟨ho_20, hw⟩ := hw
    refine g_putI hC fkD_64 rfl hwo hS ho_20 dD_decodeSound_67 (fun V_21 eV_21 H locs hwo hS => ?_)
    replace hw := hw V_21 eV_21
    refine lv_aload_n hx hb dD_decodeSound_70 rfl (lv_at hl 0 rfl) ?_
    obtain ⟨ho_22, hw⟩ := hw
    refine g_getI hC fkD_64 rfl hwo ho_22 dD_decodeSound_71 ?_
    refine lv_iconst (v := 2) hx hb dD_decodeSound_74 (by decide) ?_
    obtain ⟨hd_23, hw⟩ := hw
    refine lv_idiv hx hb dD_decodeSound_75 hd_23 ?_
    refine lv_topi (fun y_24 ey_24 => ?_)
    replace hw := hw y_24 ey_24
    refine lv_istore_n (i := 3) (lv' := [(3, .int y_24), (0, .ref a0_67), (1, .int x1_67), (2, .int x2_67)]) hx hb dD_decodeSound_76 rfl hl (by decide) rfl (fun ls hl => ?_)
    refine lv_iconst (v := 0) hx hb dD_decodeSound_77 (by decide) ?_
    refine lv_istore (i := 4) (lv' := [(4, .int (0 : Int32)), (3, .int y_24), (0, .ref a0_67), (1, .int x1_67), (2, .int x2_67)]) hx hb dD_decodeSound_78 hl (by decide) rfl (fun ls hl => ?_)
    refine lv_iconst (v := 0) hx hb dD_decodeSound_80 (by decide) ?_
    refine lv_istore (i := 5) (lv' := [(5, .int (0 : Int32)), (4, .int (0 : Int32)), (3, .int y_24), (0, .ref a0_67), (1, .int x1_67), (2, .int x2_67)]) hx hb dD_decodeSound_81 hl (by decide) rfl (fun ls hl => ?_)
    obtain ⟨n, hw⟩ := hw
    exact L83 _ _ _ _ n _ _ _ _ _ _ _ hw hwo hS (lv_sub hl [3, 4, 5, 2, 1, 0] rfl)
  have J26 : ∀ (a0_26 : Nat) (z0_26 : Int32) (V : VT) (U : UT) (H : Heap) (locs : List Loc) (ls : Array Slot), wb_D_decodeSound_26 θ a0_26 z0_26 K V U → wo θ V U H → Sx θ s H locs → lv_has ls 7 [(0, .ref a0_26)] → W p l e rmD_decodeSound s m args below meth c H locs 0 0 (MQ below (QI θ K) args s 0 0 (aT θ)) (F0 m 26 ls [.int z0_26]) := by
    intro a0_26 z0_26 V U H locs ls hw hwo hS hl
    unfold wb_D_decodeSound_26 at hw
    refine lv_istore_n (i := 1) (lv' := [(1, .int z0_26), (0, .ref a0_26)]) hx hb dD_decodeSound_26 rfl hl (by decide) rfl (fun ls hl => ?_)
    refine lv_aload_n hx hb dD_decodeSound_27 rfl (lv_at hl 1 rfl) ?_
    obtain ⟨ho_13, hw⟩ := hw
    refine g_getI hC fkD_105 rfl hwo ho_13 dD_decodeSound_28 ?_
    refine lv_if_eq (tgt := 44) hx hb dD_decodeSound_31 (by decide) (fun hc_14 => ?_) (fun hc_14 => ?_)
    · replace hw := hw.1 hc_14
      refine lv_iconst (v := 0) hx hb dD_decodeSound_44 (by decide) ?_
      exact g_zret hC hr hlk (Or.inl rfl) hw hwo hS dD_decodeSound_45
    · replace hw := hw.2 hc_14
      refine lv_aload_n hx hb dD_decodeSound_34 rfl (lv_at hl 1 rfl) ?_
      obtain ⟨hz_15, hw⟩ := hw
      refine g_getR hC fkD_45 rfl hwo ho_13 hz_15 dD_decodeSound_35 ?_
      obtain ⟨ho_16, hw⟩ := hw
      refine g_getI hC fkD_95 rfl hwo ho_16 dD_decodeSound_38 ?_
      refine lv_if_eq (tgt := 46) hx hb dD_decodeSound_41 (by decide) (fun hc_17 => ?_) (fun hc_17 => ?_)
      · replace hw := hw.1 hc_17
        refine lv_aload_n hx hb dD_decodeSound_46 rfl (lv_at hl 1 rfl) ?_
        refine g_getI hC fkD_64 rfl hwo ho_13 dD_decodeSound_47 ?_
        refine lv_topi (fun y_18 ey_18 => ?_)
        replace hw := hw y_18 ey_18
        refine lv_istore_n (i := 2) (lv' := [(2, .int y_18), (1, .int z0_26), (0, .ref a0_26)]) hx hb dD_decodeSound_50 rfl hl (by decide) rfl (fun ls hl => ?_)
        refine lv_aload_n hx hb dD_decodeSound_51 rfl (lv_at hl 2 rfl) ?_
        refine lv_iload_n hx hb dD_decodeSound_52 rfl (lv_at hl 1 rfl) ?_
        refine lv_if_ne (tgt := 63) hx hb dD_decodeSound_53 (by decide) (fun hc_19 => ?_) (fun hc_19 => ?_)
        · replace hw := hw.1 hc_19
          refine lv_aload_n hx hb dD_decodeSound_63 rfl (lv_at hl 2 rfl) ?_
          refine g_getI hC fkD_102 rfl hwo ho_13 dD_decodeSound_64 ?_
          exact J67 _ _ _ _ _ _ _ _ _ _ hw hwo hS (lv_sub hl [2, 1, 0] rfl)
        · replace hw := hw.2 hc_19
          refine lv_aload_n hx hb dD_decodeSound_56 rfl (lv_at hl 2 rfl) ?_
          refine g_getI hC fkD_99 rfl hwo ho_13 dD_decodeSound_57 ?_
          refine lv_goto (tgt := 67) hx hb dD_decodeSound_60 (by decide) ?_
          exact J67 _ _ _ _ _ _ _ _ _ _ hw hwo hS (lv_sub hl [2, 1, 0] rfl)
      · replace hw := hw.2 hc_17
        refine lv_iconst (v := 0) hx hb dD_decodeSound_44 (by decide) ?_
        exact g_zret hC hr hlk (Or.inl rfl) hw hwo hS dD_decodeSound_45
  unfold wp_D_decodeSound at hw
  refine lv_aload_n hx hb dD_decodeSound_0 rfl (lv_at hl 0 rfl) ?_
  obtain ⟨ho_1, hw⟩ := hw
  obtain ⟨hz_2, hw⟩ := hw
  refine g_getR hC fkD_45 rfl hwo ho_1 hz_2 dD_decodeSound_1 ?_
  obtain ⟨ho_5, hw⟩ := hw
  refine g_Vi (rest := []) hC (c_H_readFlag l θ _ _ _ _ hw) mi_H_readFlag mlD_75 mv_H_readFlag ci_7 ho_5 hwo hS ⟨rfl, rfl⟩ ⟨by decide, by decide⟩ rfl hl.1 rfl (Nat.le_of_ble_eq_true rfl) dD_decodeSound_4 (fun r_6 V_3 U_4 hw H locs hwo hS => ?_)
  refine lv_if_eq (tgt := 25) hx hb dD_decodeSound_7 (by decide) (fun hc_7 => ?_) (fun hc_7 => ?_)
  · replace hw := hw.1 hc_7
    refine lv_iconst (v := 0) hx hb dD_decodeSound_25 (by decide) ?_
    exact J26 _ _ _ _ _ _ _ hw hwo hS (lv_sub hl [0] rfl)
  · replace hw := hw.2 hc_7
    refine lv_iconst (v := 1) hx hb dD_decodeSound_10 (by decide) ?_
    refine lv_aload_n hx hb dD_decodeSound_11 rfl (lv_at hl 0 rfl) ?_
    obtain ⟨hz_8, hw⟩ := hw
    refine g_getR hC fkD_45 rfl hwo ho_1 hz_8 dD_decodeSound_12 ?_
    refine lv_iconst (v := 2) hx hb dD_decodeSound_15 (by decide) ?_
    obtain ⟨ho_11, hw⟩ := hw
    refine g_Vi (rest := [.int (1 : Int32)]) hC (c_H_read l θ _ _ _ _ _ hw) mi_H_read mlD_82 mv_H_read ci_7 ho_11 hwo hS ⟨rfl, rfl⟩ ⟨by decide, by decide⟩ rfl hl.1 rfl (Nat.le_of_ble_eq_true rfl) dD_decodeSound_16 (fun r_12 V_9 U_10 hw H locs hwo hS => ?_)
    refine lv_iconst (v := 1) hx hb dD_decodeSound_19 (by decide) ?_
    refine lv_ishl hx hb dD_decodeSound_20 ?_
    refine lv_ior hx hb dD_decodeSound_21 ?_
    refine lv_goto (tgt := 26) hx hb dD_decodeSound_22 (by decide) ?_
    exact J26 _ _ _ _ _ _ _ hw hwo hS (lv_sub hl [0] rfl)
theorem dD_decodeFormat_0 : decode kD_decodeFormat 0 = .ok (.aload_n 0, 1) := by decide +kernel
theorem dD_decodeFormat_1 : decode kD_decodeFormat 1 = .ok (.getfield 45, 3) := by decide +kernel
theorem dD_decodeFormat_4 : decode kD_decodeFormat 4 = .ok (.iconst 1, 1) := by decide +kernel
theorem dD_decodeFormat_5 : decode kD_decodeFormat 5 = .ok (.invokevirtual 82, 3) := by decide +kernel
theorem dD_decodeFormat_8 : decode kD_decodeFormat 8 = .ok (.iconst 1, 1) := by decide +kernel
theorem dD_decodeFormat_9 : decode kD_decodeFormat 9 = .ok (.iadd, 1) := by decide +kernel
theorem dD_decodeFormat_10 : decode kD_decodeFormat 10 = .ok (.istore_n 1, 1) := by decide +kernel
theorem dD_decodeFormat_11 : decode kD_decodeFormat 11 = .ok (.aload_n 0, 1) := by decide +kernel
theorem dD_decodeFormat_12 : decode kD_decodeFormat 12 = .ok (.getfield 45, 3) := by decide +kernel
theorem dD_decodeFormat_15 : decode kD_decodeFormat 15 = .ok (.iconst 2, 1) := by decide +kernel
theorem dD_decodeFormat_16 : decode kD_decodeFormat 16 = .ok (.invokevirtual 82, 3) := by decide +kernel
theorem dD_decodeFormat_19 : decode kD_decodeFormat 19 = .ok (.istore_n 2, 1) := by decide +kernel
theorem dD_decodeFormat_20 : decode kD_decodeFormat 20 = .ok (.aload_n 0, 1) := by decide +kernel
theorem dD_decodeFormat_21 : decode kD_decodeFormat 21 = .ok (.getfield 45, 3) := by decide +kernel
theorem dD_decodeFormat_24 : decode kD_decodeFormat 24 = .ok (.iconst 2, 1) := by decide +kernel
theorem dD_decodeFormat_25 : decode kD_decodeFormat 25 = .ok (.invokevirtual 82, 3) := by decide +kernel
theorem dD_decodeFormat_28 : decode kD_decodeFormat 28 = .ok (.istore_n 3, 1) := by decide +kernel
theorem dD_decodeFormat_29 : decode kD_decodeFormat 29 = .ok (.aload_n 0, 1) := by decide +kernel
theorem dD_decodeFormat_30 : decode kD_decodeFormat 30 = .ok (.getfield 45, 3) := by decide +kernel
theorem dD_decodeFormat_33 : decode kD_decodeFormat 33 = .ok (.getfield 95, 3) := by decide +kernel
theorem dD_decodeFormat_36 : decode kD_decodeFormat 36 = .ok (.ifCond .ne 8, 3) := by decide +kernel
theorem dD_decodeFormat_39 : decode kD_decodeFormat 39 = .ok (.iload_n 2, 1) := by decide +kernel
theorem dD_decodeFormat_40 : decode kD_decodeFormat 40 = .ok (.iload_n 3, 1) := by decide +kernel
theorem dD_decodeFormat_41 : decode kD_decodeFormat 41 = .ok (.if_icmp .le 5, 3) := by decide +kernel
theorem dD_decodeFormat_44 : decode kD_decodeFormat 44 = .ok (.iconst 0, 1) := by decide +kernel
theorem dD_decodeFormat_45 : decode kD_decodeFormat 45 = .ok (.ireturn, 1) := by decide +kernel
theorem dD_decodeFormat_46 : decode kD_decodeFormat 46 = .ok (.aload_n 0, 1) := by decide +kernel
theorem dD_decodeFormat_47 : decode kD_decodeFormat 47 = .ok (.iload_n 1, 1) := by decide +kernel
theorem dD_decodeFormat_48 : decode kD_decodeFormat 48 = .ok (.putfield 61, 3) := by decide +kernel
theorem dD_decodeFormat_51 : decode kD_decodeFormat 51 = .ok (.aload_n 0, 1) := by decide +kernel
theorem dD_decodeFormat_52 : decode kD_decodeFormat 52 = .ok (.bipush 8, 2) := by decide +kernel
theorem dD_decodeFormat_54 : decode kD_decodeFormat 54 = .ok (.iload_n 2, 1) := by decide +kernel
theorem dD_decodeFormat_55 : decode kD_decodeFormat 55 = .ok (.ishl, 1) := by decide +kernel
theorem dD_decodeFormat_56 : decode kD_decodeFormat 56 = .ok (.putfield 99, 3) := by decide +kernel
theorem dD_decodeFormat_59 : decode kD_decodeFormat 59 = .ok (.aload_n 0, 1) := by decide +kernel
theorem dD_decodeFormat_60 : decode kD_decodeFormat 60 = .ok (.bipush 8, 2) := by decide +kernel
theorem dD_decodeFormat_62 : decode kD_decodeFormat 62 = .ok (.iload_n 3, 1) := by decide +kernel
theorem dD_decodeFormat_63 : decode kD_decodeFormat 63 = .ok (.ishl, 1) := by decide +kernel
theorem dD_decodeFormat_64 : decode kD_decodeFormat 64 = .ok (.putfield 102, 3) := by decide +kernel
theorem dD_decodeFormat_67 : decode kD_decodeFormat 67 = .ok (.aload_n 0, 1) := by decide +kernel
theorem dD_decodeFormat_68 : decode kD_decodeFormat 68 = .ok (.iconst 0, 1) := by decide +kernel
theorem dD_decodeFormat_69 : decode kD_decodeFormat 69 = .ok (.putfield 105, 3) := by decide +kernel
theorem dD_decodeFormat_72 : decode kD_decodeFormat 72 = .ok (.aload_n 0, 1) := by decide +kernel
theorem dD_decodeFormat_73 : decode kD_decodeFormat 73 = .ok (.iconst 0, 1) := by decide +kernel
theorem dD_decodeFormat_74 : decode kD_decodeFormat 74 = .ok (.putfield 64, 3) := by decide +kernel
theorem dD_decodeFormat_77 : decode kD_decodeFormat 77 = .ok (.aload_n 0, 1) := by decide +kernel
theorem dD_decodeFormat_78 : decode kD_decodeFormat 78 = .ok (.iconst 0, 1) := by decide +kernel
theorem dD_decodeFormat_79 : decode kD_decodeFormat 79 = .ok (.putfield 108, 3) := by decide +kernel
theorem dD_decodeFormat_82 : decode kD_decodeFormat 82 = .ok (.iconst 1, 1) := by decide +kernel
theorem dD_decodeFormat_83 : decode kD_decodeFormat 83 = .ok (.ireturn, 1) := by decide +kernel
def wp_D_decodeFormat (θ : TH) (a0 : Nat) (V : VT) (U : UT) (K : Int32 → VT → UT → Prop) : Prop := isO θ a0 11 ∧ (U a0 0) ≠ 0 ∧ isO θ (U a0 0) 7 ∧ wp_H_read θ (U a0 0) (1 : Int32) V U (fun r_6 V_3 U_4 => ∀ y_7 : Int32, y_7 = (r_6 + (1 : Int32)) → (U_4 a0 0) ≠ 0 ∧ isO θ (U_4 a0 0) 7 ∧ wp_H_read θ (U_4 a0 0) (2 : Int32) V_3 U_4 (fun r_12 V_9 U_10 => (U_10 a0 0) ≠ 0 ∧ isO θ (U_10 a0 0) 7 ∧ wp_H_read θ (U_10 a0 0) (2 : Int32) V_9 U_10 (fun r_17 V_14 U_15 => (U_15 a0 0) ≠ 0 ∧ isO θ (U_15 a0 0) 7 ∧ ((¬ (V_14 (U_15 a0 0) 6) = 0 → K (0 : Int32) V_14 U_15) ∧ ((V_14 (U_15 a0 0) 6) = 0 → ((r_12 ≤ r_17 → ∀ V_22 : VT, V_22 = up2 V_14 a0 3 y_7 → ∀ V_23 : VT, V_23 = up2 V_22 a0 4 ((8 : Int32) <<< (r_12 &&& 31)) → ∀ V_24 : VT, V_24 = up2 V_23 a0 5 ((8 : Int32) <<< (r_17 &&& 31)) → ∀ V_25 : VT, V_25 = up2 V_24 a0 6 (0 : Int32) → ∀ V_26 : VT, V_26 = up2 V_25 a0 11 (0 : Int32) → ∀ V_27 : VT, V_27 = up2 V_26 a0 15 (0 : Int32) → K (1 : Int32) V_27 U_15) ∧ (¬ r_12 ≤ r_17 → K (0 : Int32) V_14 U_15)))))))
set_option maxRecDepth 100000 in
set_option maxHeartbeats 4000000 in
theorem c_D_decodeFormat (l : Launch) (θ : TH) (a0 : Nat) (V : VT) (U : UT) (K : Int32 → VT → UT → Prop) (hw : wp_D_decodeFormat θ a0 V U K) : CMi l yD_decodeFormat kD_decodeFormat 4 (some .boolean) rmD_decodeFormat θ [.ref a0] V U K := by
  refine g_met nRD (by decide +kernel) rfl (Nat.le_of_ble_eq_true rfl) (fun p e s m args below meth c ls hC hr hlk hwo hl => ?_)
  have hx := hC.1
  have hb := hC.2.1
  have hS : Sx θ s s.heap [] := va_S.rf
  have hl : lv_has ls 4 [(0, .ref a0)] := hl
  unfold wp_D_decodeFormat at hw
  refine lv_aload_n hx hb dD_decodeFormat_0 rfl (lv_at hl 0 rfl) ?_
  obtain ⟨ho_1, hw⟩ := hw
  obtain ⟨hz_2, hw⟩ := hw
  refine g_getR hC fkD_45 rfl hwo ho_1 hz_2 dD_decodeFormat_1 ?_
  refine lv_iconst (v := 1) hx hb dD_decodeFormat_4 (by decide) ?_
  obtain ⟨ho_5, hw⟩ := hw
  refine g_Vi (rest := []) hC (c_H_read l θ _ _ _ _ _ hw) mi_H_read mlD_82 mv_H_read ci_7 ho_5 hwo hS ⟨rfl, rfl⟩ ⟨by decide, by decide⟩ rfl hl.1 rfl (Nat.le_of_ble_eq_true rfl) dD_decodeFormat_5 (fun r_6 V_3 U_4 hw H locs hwo hS => ?_)
  refine lv_iconst (v := 1) hx hb dD_decodeFormat_8 (by decide) ?_
  refine lv_iadd hx hb dD_decodeFormat_9 ?_
  refine lv_topi (fun y_7 ey_7 => ?_)
  replace hw := hw y_7 ey_7
  refine lv_istore_n (i := 1) (lv' := [(1, .int y_7), (0, .ref a0)]) hx hb dD_decodeFormat_10 rfl hl (by decide) rfl (fun ls hl => ?_)
  refine lv_aload_n hx hb dD_decodeFormat_11 rfl (lv_at hl 1 rfl) ?_
  obtain ⟨hz_8, hw⟩ := hw
  refine g_getR hC fkD_45 rfl hwo ho_1 hz_8 dD_decodeFormat_12 ?_
  refine lv_iconst (v := 2) hx hb dD_decodeFormat_15 (by decide) ?_
  obtain ⟨ho_11, hw⟩ := hw
  refine g_Vi (rest := []) hC (c_H_read l θ _ _ _ _ _ hw) mi_H_read mlD_82 mv_H_read ci_7 ho_11 hwo hS ⟨rfl, rfl⟩ ⟨by decide, by decide⟩ rfl hl.1 rfl (Nat.le_of_ble_eq_true rfl) dD_decodeFormat_16 (fun r_12 V_9 U_10 hw H locs hwo hS => ?_)
  refine lv_istore_n (i := 2) (lv' := [(2, .int r_12), (1, .int y_7), (0, .ref a0)]) hx hb dD_decodeFormat_19 rfl hl (by decide) rfl (fun ls hl => ?_)
  refine lv_aload_n hx hb dD_decodeFormat_20 rfl (lv_at hl 2 rfl) ?_
  obtain ⟨hz_13, hw⟩ := hw
  refine g_getR hC fkD_45 rfl hwo ho_1 hz_13 dD_decodeFormat_21 ?_
  refine lv_iconst (v := 2) hx hb dD_decodeFormat_24 (by decide) ?_
  obtain ⟨ho_16, hw⟩ := hw
  refine g_Vi (rest := []) hC (c_H_read l θ _ _ _ _ _ hw) mi_H_read mlD_82 mv_H_read ci_7 ho_16 hwo hS ⟨rfl, rfl⟩ ⟨by decide, by decide⟩ rfl hl.1 rfl (Nat.le_of_ble_eq_true rfl) dD_decodeFormat_25 (fun r_17 V_14 U_15 hw H locs hwo hS => ?_)
  refine lv_istore_n (i := 3) (lv' := [(3, .int r_17), (2, .int r_12), (1, .int y_7), (0, .ref a0)]) hx hb dD_decodeFormat_28 rfl hl (by decide) rfl (fun ls hl => ?_)
  refine lv_aload_n hx hb dD_decodeFormat_29 rfl (lv_at hl 3 rfl) ?_
  obtain ⟨hz_18, hw⟩ := hw
  refine g_getR hC fkD_45 rfl hwo ho_1 hz_18 dD_decodeFormat_30 ?_
  obtain ⟨ho_19, hw⟩ := hw
  refine g_getI hC fkD_95 rfl hwo ho_19 dD_decodeFormat_33 ?_
  refine lv_if_ne (tgt := 44) hx hb dD_decodeFormat_36 (by decide) (fun hc_20 => ?_) (fun hc_20 => ?_)
  · replace hw := hw.1 hc_20
    refine lv_iconst (v := 0) hx hb dD_decodeFormat_44 (by decide) ?_
    exact g_zret hC hr hlk (Or.inl rfl) hw hwo hS dD_decodeFormat_45
  · replace hw := hw.2 hc_20
    refine lv_iload_n hx hb dD_decodeFormat_39 rfl (lv_at hl 1 rfl) ?_
    refine lv_iload_n hx hb dD_decodeFormat_40 rfl (lv_at hl 0 rfl) ?_
    refine lv_icmp_le (tgt := 46) hx hb dD_decodeFormat_41 (by decide) (fun hc_21 => ?_) (fun hc_21 => ?_)
    · replace hw := hw.1 hc_21
      refine lv_aload_n hx hb dD_decodeFormat_46 rfl (lv_at hl 3 rfl) ?_
      refine lv_iload_n hx hb dD_decodeFormat_47 rfl (lv_at hl 2 rfl) ?_
      refine g_putI hC fkD_61 rfl hwo hS ho_1 dD_decodeFormat_48 (fun V_22 eV_22 H locs hwo hS => ?_)
      replace hw := hw V_22 eV_22
      refine lv_aload_n hx hb dD_decodeFormat_51 rfl (lv_at hl 3 rfl) ?_
      refine lv_bipush (v := 8) hx hb dD_decodeFormat_52 (by decide) ?_
      refine lv_iload_n hx hb dD_decodeFormat_54 rfl (lv_at hl 1 rfl) ?_
      refine lv_ishl hx hb dD_decodeFormat_55 ?_
      refine g_putI hC fkD_99 rfl hwo hS ho_1 dD_decodeFormat_56 (fun V_23 eV_23 H locs hwo hS => ?_)
      replace hw := hw V_23 eV_23
      refine lv_aload_n hx hb dD_decodeFormat_59 rfl (lv_at hl 3 rfl) ?_
      refine lv_bipush (v := 8) hx hb dD_decodeFormat_60 (by decide) ?_
      refine lv_iload_n hx hb dD_decodeFormat_62 rfl (lv_at hl 0 rfl) ?_
      refine lv_ishl hx hb dD_decodeFormat_63 ?_
      refine g_putI hC fkD_102 rfl hwo hS ho_1 dD_decodeFormat_64 (fun V_24 eV_24 H locs hwo hS => ?_)
      replace hw := hw V_24 eV_24
      refine lv_aload_n hx hb dD_decodeFormat_67 rfl (lv_at hl 3 rfl) ?_
      refine lv_iconst (v := 0) hx hb dD_decodeFormat_68 (by decide) ?_
      refine g_putZ hC fkD_105 rfl hwo hS ho_1 (Or.inl rfl) dD_decodeFormat_69 (fun V_25 eV_25 H locs hwo hS => ?_)
      replace hw := hw V_25 eV_25
      refine lv_aload_n hx hb dD_decodeFormat_72 rfl (lv_at hl 3 rfl) ?_
      refine lv_iconst (v := 0) hx hb dD_decodeFormat_73 (by decide) ?_
      refine g_putI hC fkD_64 rfl hwo hS ho_1 dD_decodeFormat_74 (fun V_26 eV_26 H locs hwo hS => ?_)
      replace hw := hw V_26 eV_26
      refine lv_aload_n hx hb dD_decodeFormat_77 rfl (lv_at hl 3 rfl) ?_
      refine lv_iconst (v := 0) hx hb dD_decodeFormat_78 (by decide) ?_
      refine g_putI hC fkD_108 rfl hwo hS ho_1 dD_decodeFormat_79 (fun V_27 eV_27 H locs hwo hS => ?_)
      replace hw := hw V_27 eV_27
      refine lv_iconst (v := 1) hx hb dD_decodeFormat_82 (by decide) ?_
      exact g_zret hC hr hlk (Or.inr rfl) hw hwo hS dD_decodeFormat_83
    · replace hw := hw.2 hc_21
      refine lv_iconst (v := 0) hx hb dD_decodeFormat_44 (by decide) ?_
      exact g_zret hC hr hlk (Or.inl rfl) hw hwo hS dD_decodeFormat_45
theorem dD_decodeBook_0 : decode kD_decodeBook 0 = .ok (.aload_n 0, 1) := by decide +kernel
theorem dD_decodeBook_1 : decode kD_decodeBook 1 = .ok (.getfield 50, 3) := by decide +kernel
theorem dD_decodeBook_4 : decode kD_decodeBook 4 = .ok (.iconst 4, 1) := by decide +kernel
theorem dD_decodeBook_5 : decode kD_decodeBook 5 = .ok (.if_icmp .ge 22, 3) := by decide +kernel
theorem dD_decodeBook_8 : decode kD_decodeBook 8 = .ok (.aload_n 0, 1) := by decide +kernel
theorem dD_decodeBook_9 : decode kD_decodeBook 9 = .ok (.getfield 11, 3) := by decide +kernel
theorem dD_decodeBook_12 : decode kD_decodeBook 12 = .ok (.aload_n 0, 1) := by decide +kernel
theorem dD_decodeBook_13 : decode kD_decodeBook 13 = .ok (.getfield 50, 3) := by decide +kernel
theorem dD_decodeBook_16 : decode kD_decodeBook 16 = .ok (.aaload, 1) := by decide +kernel
theorem dD_decodeBook_17 : decode kD_decodeBook 17 = .ok (.aload_n 0, 1) := by decide +kernel
theorem dD_decodeBook_18 : decode kD_decodeBook 18 = .ok (.getfield 45, 3) := by decide +kernel
theorem dD_decodeBook_21 : decode kD_decodeBook 21 = .ok (.invokevirtual 111, 3) := by decide +kernel
theorem dD_decodeBook_24 : decode kD_decodeBook 24 = .ok (.ifCond .ne 5, 3) := by decide +kernel
theorem dD_decodeBook_27 : decode kD_decodeBook 27 = .ok (.iconst 0, 1) := by decide +kernel
theorem dD_decodeBook_28 : decode kD_decodeBook 28 = .ok (.ireturn, 1) := by decide +kernel
theorem dD_decodeBook_29 : decode kD_decodeBook 29 = .ok (.aload_n 0, 1) := by decide +kernel
theorem dD_decodeBook_30 : decode kD_decodeBook 30 = .ok (.dup, 1) := by decide +kernel
theorem dD_decodeBook_31 : decode kD_decodeBook 31 = .ok (.getfield 50, 3) := by decide +kernel
theorem dD_decodeBook_34 : decode kD_decodeBook 34 = .ok (.iconst 1, 1) := by decide +kernel
theorem dD_decodeBook_35 : decode kD_decodeBook 35 = .ok (.iadd, 1) := by decide +kernel
theorem dD_decodeBook_36 : decode kD_decodeBook 36 = .ok (.putfield 50, 3) := by decide +kernel
theorem dD_decodeBook_39 : decode kD_decodeBook 39 = .ok (.iconst 1, 1) := by decide +kernel
theorem dD_decodeBook_40 : decode kD_decodeBook 40 = .ok (.ireturn, 1) := by decide +kernel
def wp_D_decodeBook (θ : TH) (a0 : Nat) (V : VT) (U : UT) (K : Int32 → VT → UT → Prop) : Prop := isO θ a0 11 ∧ (((4 : Int32) ≤ (V a0 2) → K (0 : Int32) V U) ∧ (¬ (4 : Int32) ≤ (V a0 2) → (U a0 1) ≠ 0 ∧ ∃ n_4, isR θ (U a0 1) 5 n_4 ∧ vp_in (V a0 2) n_4 ∧ (U (U a0 1) (V a0 2).toNatClampNeg) ≠ 0 ∧ (U a0 0) ≠ 0 ∧ isO θ (U (U a0 1) (V a0 2).toNatClampNeg) 8 ∧ wp_B_load θ (U (U a0 1) (V a0 2).toNatClampNeg) (U a0 0) V U (fun r_12 V_9 U_10 => ((¬ r_12 = 0 → ∀ V_14 : VT, V_14 = up2 V_9 a0 2 ((V_9 a0 2) + (1 : Int32)) → K (1 : Int32) V_14 U_10) ∧ (r_12 = 0 → K (0 : Int32) V_9 U_10)))))
set_option maxRecDepth 100000 in
set_option maxHeartbeats 4000000 in
theorem c_D_decodeBook (l : Launch) (θ : TH) (a0 : Nat) (V : VT) (U : UT) (K : Int32 → VT → UT → Prop) (hw : wp_D_decodeBook θ a0 V U K) : CMi l yD_decodeBook kD_decodeBook 1 (some .boolean) rmD_decodeBook θ [.ref a0] V U K := by
  refine g_met nRD (by decide +kernel) rfl (Nat.le_of_ble_eq_true rfl) (fun p e s m args below meth c ls hC hr hlk hwo hl => ?_)
  have hx := hC.1
  have hb := hC.2.1
  have hS : Sx θ s s.heap [] := va_S.rf
  have hl : lv_has ls 1 [(0, .ref a0)] := hl
  unfold wp_D_decodeBook at hw
  refine lv_aload_n hx hb dD_decodeBook_0 rfl (lv_at hl 0 rfl) ?_
  obtain ⟨ho_1, hw⟩ := hw
  refine g_getI hC fkD_50 rfl hwo ho_1 dD_decodeBook_1 ?_
  refine lv_iconst (v := 4) hx hb dD_decodeBook_4 (by decide) ?_
  refine lv_icmp_ge (tgt := 27) hx hb dD_decodeBook_5 (by decide) (fun hc_2 => ?_) (fun hc_2 => ?_)
  · replace hw := hw.1 hc_2
    refine lv_iconst (v := 0) hx hb dD_decodeBook_27 (by decide) ?_
    exact g_zret hC hr hlk (Or.inl rfl) hw hwo hS dD_decodeBook_28
  · replace hw := hw.2 hc_2
    refine lv_aload_n hx hb dD_decodeBook_8 rfl (lv_at hl 0 rfl) ?_
    obtain ⟨hz_3, hw⟩ := hw
    refine g_getR hC fkD_11 rfl hwo ho_1 hz_3 dD_decodeBook_9 ?_
    refine lv_aload_n hx hb dD_decodeBook_12 rfl (lv_at hl 0 rfl) ?_
    refine g_getI hC fkD_50 rfl hwo ho_1 dD_decodeBook_13 ?_
    obtain ⟨n_4, ha_5, hw⟩ := hw
    obtain ⟨hi_6, hw⟩ := hw
    obtain ⟨hz_7, hw⟩ := hw
    refine g_aald hC hwo (t := 5) (by decide) rfl ha_5 hi_6 hz_7 dD_decodeBook_16 ?_
    refine lv_aload_n hx hb dD_decodeBook_17 rfl (lv_at hl 0 rfl) ?_
    obtain ⟨hz_8, hw⟩ := hw
    refine g_getR hC fkD_45 rfl hwo ho_1 hz_8 dD_decodeBook_18 ?_
    obtain ⟨ho_11, hw⟩ := hw
    refine g_Vi (rest := []) hC (c_B_load l θ _ _ _ _ _ hw) mi_B_load mlD_111 mv_B_load ci_8 ho_11 hwo hS ⟨rfl, rfl⟩ ⟨by decide, by decide⟩ rfl hl.1 rfl (Nat.le_of_ble_eq_true rfl) dD_decodeBook_21 (fun r_12 V_9 U_10 hw H locs hwo hS => ?_)
    refine lv_if_ne (tgt := 29) hx hb dD_decodeBook_24 (by decide) (fun hc_13 => ?_) (fun hc_13 => ?_)
    · replace hw := hw.1 hc_13
      refine lv_aload_n hx hb dD_decodeBook_29 rfl (lv_at hl 0 rfl) ?_
      refine lv_dup hx hb dD_decodeBook_30 rfl ?_
      refine g_getI hC fkD_50 rfl hwo ho_1 dD_decodeBook_31 ?_
      refine lv_iconst (v := 1) hx hb dD_decodeBook_34 (by decide) ?_
      refine lv_iadd hx hb dD_decodeBook_35 ?_
      refine g_putI hC fkD_50 rfl hwo hS ho_1 dD_decodeBook_36 (fun V_14 eV_14 H locs hwo hS => ?_)
      replace hw := hw V_14 eV_14
      refine lv_iconst (v := 1) hx hb dD_decodeBook_39 (by decide) ?_
      exact g_zret hC hr hlk (Or.inr rfl) hw hwo hS dD_decodeBook_40
    · replace hw := hw.2 hc_13
      refine lv_iconst (v := 0) hx hb dD_decodeBook_27 (by decide) ?_
      exact g_zret hC hr hlk (Or.inl rfl) hw hwo hS dD_decodeBook_28
theorem dD_decodeSetup_0 : decode kD_decodeSetup 0 = .ok (.aload_n 0, 1) := by decide +kernel
theorem dD_decodeSetup_1 : decode kD_decodeSetup 1 = .ok (.getfield 61, 3) := by decide +kernel
theorem dD_decodeSetup_4 : decode kD_decodeSetup 4 = .ok (.ifCond .eq 21, 3) := by decide +kernel
theorem dD_decodeSetup_7 : decode kD_decodeSetup 7 = .ok (.aload_n 0, 1) := by decide +kernel
theorem dD_decodeSetup_8 : decode kD_decodeSetup 8 = .ok (.getfield 31, 3) := by decide +kernel
theorem dD_decodeSetup_11 : decode kD_decodeSetup 11 = .ok (.aload_n 0, 1) := by decide +kernel
theorem dD_decodeSetup_12 : decode kD_decodeSetup 12 = .ok (.getfield 45, 3) := by decide +kernel
theorem dD_decodeSetup_15 : decode kD_decodeSetup 15 = .ok (.aload_n 0, 1) := by decide +kernel
theorem dD_decodeSetup_16 : decode kD_decodeSetup 16 = .ok (.getfield 50, 3) := by decide +kernel
theorem dD_decodeSetup_19 : decode kD_decodeSetup 19 = .ok (.invokevirtual 115, 3) := by decide +kernel
theorem dD_decodeSetup_22 : decode kD_decodeSetup 22 = .ok (.ifCond .ne 5, 3) := by decide +kernel
theorem dD_decodeSetup_25 : decode kD_decodeSetup 25 = .ok (.iconst 0, 1) := by decide +kernel
theorem dD_decodeSetup_26 : decode kD_decodeSetup 26 = .ok (.ireturn, 1) := by decide +kernel
theorem dD_decodeSetup_27 : decode kD_decodeSetup 27 = .ok (.aload_n 0, 1) := by decide +kernel
theorem dD_decodeSetup_28 : decode kD_decodeSetup 28 = .ok (.getfield 34, 3) := by decide +kernel
theorem dD_decodeSetup_31 : decode kD_decodeSetup 31 = .ok (.aload_n 0, 1) := by decide +kernel
theorem dD_decodeSetup_32 : decode kD_decodeSetup 32 = .ok (.getfield 45, 3) := by decide +kernel
theorem dD_decodeSetup_35 : decode kD_decodeSetup 35 = .ok (.aload_n 0, 1) := by decide +kernel
theorem dD_decodeSetup_36 : decode kD_decodeSetup 36 = .ok (.getfield 11, 3) := by decide +kernel
theorem dD_decodeSetup_39 : decode kD_decodeSetup 39 = .ok (.aload_n 0, 1) := by decide +kernel
theorem dD_decodeSetup_40 : decode kD_decodeSetup 40 = .ok (.getfield 50, 3) := by decide +kernel
theorem dD_decodeSetup_43 : decode kD_decodeSetup 43 = .ok (.aload_n 0, 1) := by decide +kernel
theorem dD_decodeSetup_44 : decode kD_decodeSetup 44 = .ok (.getfield 61, 3) := by decide +kernel
theorem dD_decodeSetup_47 : decode kD_decodeSetup 47 = .ok (.invokevirtual 118, 3) := by decide +kernel
theorem dD_decodeSetup_50 : decode kD_decodeSetup 50 = .ok (.ifCond .eq 13, 3) := by decide +kernel
theorem dD_decodeSetup_53 : decode kD_decodeSetup 53 = .ok (.aload_n 0, 1) := by decide +kernel
theorem dD_decodeSetup_54 : decode kD_decodeSetup 54 = .ok (.getfield 45, 3) := by decide +kernel
theorem dD_decodeSetup_57 : decode kD_decodeSetup 57 = .ok (.getfield 95, 3) := by decide +kernel
theorem dD_decodeSetup_60 : decode kD_decodeSetup 60 = .ok (.ifCond .eq 5, 3) := by decide +kernel
theorem dD_decodeSetup_63 : decode kD_decodeSetup 63 = .ok (.iconst 0, 1) := by decide +kernel
theorem dD_decodeSetup_64 : decode kD_decodeSetup 64 = .ok (.ireturn, 1) := by decide +kernel
theorem dD_decodeSetup_65 : decode kD_decodeSetup 65 = .ok (.aload_n 0, 1) := by decide +kernel
theorem dD_decodeSetup_66 : decode kD_decodeSetup 66 = .ok (.getfield 20, 3) := by decide +kernel
theorem dD_decodeSetup_69 : decode kD_decodeSetup 69 = .ok (.astore_n 1, 1) := by decide +kernel
theorem dD_decodeSetup_70 : decode kD_decodeSetup 70 = .ok (.aload_n 0, 1) := by decide +kernel
theorem dD_decodeSetup_71 : decode kD_decodeSetup 71 = .ok (.aload_n 0, 1) := by decide +kernel
theorem dD_decodeSetup_72 : decode kD_decodeSetup 72 = .ok (.getfield 31, 3) := by decide +kernel
theorem dD_decodeSetup_75 : decode kD_decodeSetup 75 = .ok (.putfield 20, 3) := by decide +kernel
theorem dD_decodeSetup_78 : decode kD_decodeSetup 78 = .ok (.aload_n 0, 1) := by decide +kernel
theorem dD_decodeSetup_79 : decode kD_decodeSetup 79 = .ok (.aload_n 1, 1) := by decide +kernel
theorem dD_decodeSetup_80 : decode kD_decodeSetup 80 = .ok (.putfield 31, 3) := by decide +kernel
theorem dD_decodeSetup_83 : decode kD_decodeSetup 83 = .ok (.aload_n 0, 1) := by decide +kernel
theorem dD_decodeSetup_84 : decode kD_decodeSetup 84 = .ok (.getfield 27, 3) := by decide +kernel
theorem dD_decodeSetup_87 : decode kD_decodeSetup 87 = .ok (.astore_n 2, 1) := by decide +kernel
theorem dD_decodeSetup_88 : decode kD_decodeSetup 88 = .ok (.aload_n 0, 1) := by decide +kernel
theorem dD_decodeSetup_89 : decode kD_decodeSetup 89 = .ok (.aload_n 0, 1) := by decide +kernel
theorem dD_decodeSetup_90 : decode kD_decodeSetup 90 = .ok (.getfield 34, 3) := by decide +kernel
theorem dD_decodeSetup_93 : decode kD_decodeSetup 93 = .ok (.putfield 27, 3) := by decide +kernel
theorem dD_decodeSetup_96 : decode kD_decodeSetup 96 = .ok (.aload_n 0, 1) := by decide +kernel
theorem dD_decodeSetup_97 : decode kD_decodeSetup 97 = .ok (.aload_n 2, 1) := by decide +kernel
theorem dD_decodeSetup_98 : decode kD_decodeSetup 98 = .ok (.putfield 34, 3) := by decide +kernel
theorem dD_decodeSetup_101 : decode kD_decodeSetup 101 = .ok (.aload_n 0, 1) := by decide +kernel
theorem dD_decodeSetup_102 : decode kD_decodeSetup 102 = .ok (.iconst 1, 1) := by decide +kernel
theorem dD_decodeSetup_103 : decode kD_decodeSetup 103 = .ok (.putfield 105, 3) := by decide +kernel
theorem dD_decodeSetup_106 : decode kD_decodeSetup 106 = .ok (.iconst 1, 1) := by decide +kernel
theorem dD_decodeSetup_107 : decode kD_decodeSetup 107 = .ok (.ireturn, 1) := by decide +kernel
def wp_D_decodeSetup (θ : TH) (a0 : Nat) (V : VT) (U : UT) (K : Int32 → VT → UT → Prop) : Prop := isO θ a0 11 ∧ (((V a0 3) = 0 → K (0 : Int32) V U) ∧ (¬ (V a0 3) = 0 → (U a0 9) ≠ 0 ∧ (U a0 0) ≠ 0 ∧ isO θ (U a0 9) 9 ∧ wp_C_load θ (U a0 9) (U a0 0) (V a0 2) V U (fun r_8 V_5 U_6 => ((¬ r_8 = 0 → (U_6 a0 10) ≠ 0 ∧ (U_6 a0 0) ≠ 0 ∧ (U_6 a0 1) ≠ 0 ∧ isO θ (U_6 a0 10) 10 ∧ wp_P_load θ (U_6 a0 10) (U_6 a0 0) (U_6 a0 1) (V_5 a0 2) (V_5 a0 3) V_5 U_6 (fun r_16 V_13 U_14 => ((r_16 = 0 → K (0 : Int32) V_13 U_14) ∧ (¬ r_16 = 0 → (U_14 a0 0) ≠ 0 ∧ isO θ (U_14 a0 0) 7 ∧ (((V_13 (U_14 a0 0) 6) = 0 → (U_14 a0 7) ≠ 0 ∧ ∀ a_22 : Nat, a_22 = (U_14 a0 7) → (U_14 a0 9) ≠ 0 ∧ ∀ U_24 : UT, U_24 = up2 U_14 a0 7 (U_14 a0 9) → a_22 ≠ 0 ∧ ∀ U_26 : UT, U_26 = up2 U_24 a0 9 a_22 → (U_26 a0 8) ≠ 0 ∧ ∀ a_28 : Nat, a_28 = (U_26 a0 8) → (U_26 a0 10) ≠ 0 ∧ ∀ U_30 : UT, U_30 = up2 U_26 a0 8 (U_26 a0 10) → a_28 ≠ 0 ∧ ∀ U_32 : UT, U_32 = up2 U_30 a0 10 a_28 → ∀ V_33 : VT, V_33 = up2 V_13 a0 6 (1 : Int32) → K (1 : Int32) V_33 U_32) ∧ (¬ (V_13 (U_14 a0 0) 6) = 0 → K (0 : Int32) V_13 U_14)))))) ∧ (r_8 = 0 → K (0 : Int32) V_5 U_6)))))
set_option maxRecDepth 100000 in
set_option maxHeartbeats 4000000 in
theorem c_D_decodeSetup (l : Launch) (θ : TH) (a0 : Nat) (V : VT) (U : UT) (K : Int32 → VT → UT → Prop) (hw : wp_D_decodeSetup θ a0 V U K) : CMi l yD_decodeSetup kD_decodeSetup 3 (some .boolean) rmD_decodeSetup θ [.ref a0] V U K := by
  refine g_met nRD (by decide +kernel) rfl (Nat.le_of_ble_eq_true rfl) (fun p e s m args below meth c ls hC hr hlk hwo hl => ?_)
  have hx := hC.1
  have hb := hC.2.1
  have hS : Sx θ s s.heap [] := va_S.rf
  have hl : lv_has ls 3 [(0, .ref a0)] := hl
  unfold wp_D_decodeSetup at hw
  refine lv_aload_n hx hb dD_decodeSetup_0 rfl (lv_at hl 0 rfl) ?_
  obtain ⟨ho_1, hw⟩ := hw
  refine g_getI hC fkD_61 rfl hwo ho_1 dD_decodeSetup_1 ?_
  refine lv_if_eq (tgt := 25) hx hb dD_decodeSetup_4 (by decide) (fun hc_2 => ?_) (fun hc_2 => ?_)
  · replace hw := hw.1 hc_2
    refine lv_iconst (v := 0) hx hb dD_decodeSetup_25 (by decide) ?_
    exact g_zret hC hr hlk (Or.inl rfl) hw hwo hS dD_decodeSetup_26
  · replace hw := hw.2 hc_2
    refine lv_aload_n hx hb dD_decodeSetup_7 rfl (lv_at hl 0 rfl) ?_
    obtain ⟨hz_3, hw⟩ := hw
    refine g_getR hC fkD_31 rfl hwo ho_1 hz_3 dD_decodeSetup_8 ?_
    refine lv_aload_n hx hb dD_decodeSetup_11 rfl (lv_at hl 0 rfl) ?_
    obtain ⟨hz_4, hw⟩ := hw
    refine g_getR hC fkD_45 rfl hwo ho_1 hz_4 dD_decodeSetup_12 ?_
    refine lv_aload_n hx hb dD_decodeSetup_15 rfl (lv_at hl 0 rfl) ?_
    refine g_getI hC fkD_50 rfl hwo ho_1 dD_decodeSetup_16 ?_
    obtain ⟨ho_7, hw⟩ := hw
    refine g_Vi (rest := []) hC (c_C_load l θ _ _ _ _ _ _ hw) mi_C_load mlD_115 mv_C_load ci_9 ho_7 hwo hS ⟨rfl, rfl⟩ ⟨by decide, by decide⟩ rfl hl.1 rfl (Nat.le_of_ble_eq_true rfl) dD_decodeSetup_19 (fun r_8 V_5 U_6 hw H locs hwo hS => ?_)
    refine lv_if_ne (tgt := 27) hx hb dD_decodeSetup_22 (by decide) (fun hc_9 => ?_) (fun hc_9 => ?_)
    · replace hw := hw.1 hc_9
      refine lv_aload_n hx hb dD_decodeSetup_27 rfl (lv_at hl 0 rfl) ?_
      obtain ⟨hz_10, hw⟩ := hw
      refine g_getR hC fkD_34 rfl hwo ho_1 hz_10 dD_decodeSetup_28 ?_
      refine lv_aload_n hx hb dD_decodeSetup_31 rfl (lv_at hl 0 rfl) ?_
      obtain ⟨hz_11, hw⟩ := hw
      refine g_getR hC fkD_45 rfl hwo ho_1 hz_11 dD_decodeSetup_32 ?_
      refine lv_aload_n hx hb dD_decodeSetup_35 rfl (lv_at hl 0 rfl) ?_
      obtain ⟨hz_12, hw⟩ := hw
      refine g_getR hC fkD_11 rfl hwo ho_1 hz_12 dD_decodeSetup_36 ?_
      refine lv_aload_n hx hb dD_decodeSetup_39 rfl (lv_at hl 0 rfl) ?_
      refine g_getI hC fkD_50 rfl hwo ho_1 dD_decodeSetup_40 ?_
      refine lv_aload_n hx hb dD_decodeSetup_43 rfl (lv_at hl 0 rfl) ?_
      refine g_getI hC fkD_61 rfl hwo ho_1 dD_decodeSetup_44 ?_
      obtain ⟨ho_15, hw⟩ := hw
      refine g_Vi (rest := []) hC (c_P_load l θ _ _ _ _ _ _ _ _ hw) mi_P_load mlD_118 mv_P_load ci_10 ho_15 hwo hS ⟨rfl, rfl⟩ ⟨by decide, by decide⟩ rfl hl.1 rfl (Nat.le_of_ble_eq_true rfl) dD_decodeSetup_47 (fun r_16 V_13 U_14 hw H locs hwo hS => ?_)
      refine lv_if_eq (tgt := 63) hx hb dD_decodeSetup_50 (by decide) (fun hc_17 => ?_) (fun hc_17 => ?_)
      · replace hw := hw.1 hc_17
        refine lv_iconst (v := 0) hx hb dD_decodeSetup_63 (by decide) ?_
        exact g_zret hC hr hlk (Or.inl rfl) hw hwo hS dD_decodeSetup_64
      · replace hw := hw.2 hc_17
        refine lv_aload_n hx hb dD_decodeSetup_53 rfl (lv_at hl 0 rfl) ?_
        obtain ⟨hz_18, hw⟩ := hw
        refine g_getR hC fkD_45 rfl hwo ho_1 hz_18 dD_decodeSetup_54 ?_
        obtain ⟨ho_19, hw⟩ := hw
        refine g_getI hC fkD_95 rfl hwo ho_19 dD_decodeSetup_57 ?_
        refine lv_if_eq (tgt := 65) hx hb dD_decodeSetup_60 (by decide) (fun hc_20 => ?_) (fun hc_20 => ?_)
        · replace hw := hw.1 hc_20
          refine lv_aload_n hx hb dD_decodeSetup_65 rfl (lv_at hl 0 rfl) ?_
          obtain ⟨hz_21, hw⟩ := hw
          refine g_getR hC fkD_20 rfl hwo ho_1 hz_21 dD_decodeSetup_66 ?_
          refine g_topr (fun a_22 ea_22 => ?_)
          replace hw := hw a_22 ea_22
          refine lv_astore_n (i := 1) (lv' := [(1, .ref a_22), (0, .ref a0)]) hx hb dD_decodeSetup_69 rfl hl (by decide) rfl (fun ls hl => ?_)
          refine lv_aload_n hx hb dD_decodeSetup_70 rfl (lv_at hl 1 rfl) ?_
          refine lv_aload_n hx hb dD_decodeSetup_71 rfl (lv_at hl 1 rfl) ?_
          obtain ⟨hz_23, hw⟩ := hw
          refine g_getR hC fkD_31 rfl hwo ho_1 hz_23 dD_decodeSetup_72 ?_
          refine g_putR hC fkD_20 rfl hwo hS ho_1 hz_23 dD_decodeSetup_75 (fun U_24 eU_24 H locs hwo hS => ?_)
          replace hw := hw U_24 eU_24
          refine lv_aload_n hx hb dD_decodeSetup_78 rfl (lv_at hl 1 rfl) ?_
          refine lv_aload_n hx hb dD_decodeSetup_79 rfl (lv_at hl 0 rfl) ?_
          obtain ⟨hz_25, hw⟩ := hw
          refine g_putR hC fkD_31 rfl hwo hS ho_1 hz_25 dD_decodeSetup_80 (fun U_26 eU_26 H locs hwo hS => ?_)
          replace hw := hw U_26 eU_26
          refine lv_aload_n hx hb dD_decodeSetup_83 rfl (lv_at hl 1 rfl) ?_
          obtain ⟨hz_27, hw⟩ := hw
          refine g_getR hC fkD_27 rfl hwo ho_1 hz_27 dD_decodeSetup_84 ?_
          refine g_topr (fun a_28 ea_28 => ?_)
          replace hw := hw a_28 ea_28
          refine lv_astore_n (i := 2) (lv' := [(2, .ref a_28), (1, .ref a_22), (0, .ref a0)]) hx hb dD_decodeSetup_87 rfl hl (by decide) rfl (fun ls hl => ?_)
          refine lv_aload_n hx hb dD_decodeSetup_88 rfl (lv_at hl 2 rfl) ?_
          refine lv_aload_n hx hb dD_decodeSetup_89 rfl (lv_at hl 2 rfl) ?_
          obtain ⟨hz_29, hw⟩ := hw
          refine g_getR hC fkD_34 rfl hwo ho_1 hz_29 dD_decodeSetup_90 ?_
          refine g_putR hC fkD_27 rfl hwo hS ho_1 hz_29 dD_decodeSetup_93 (fun U_30 eU_30 H locs hwo hS => ?_)
          replace hw := hw U_30 eU_30
          refine lv_aload_n hx hb dD_decodeSetup_96 rfl (lv_at hl 2 rfl) ?_
          refine lv_aload_n hx hb dD_decodeSetup_97 rfl (lv_at hl 0 rfl) ?_
          obtain ⟨hz_31, hw⟩ := hw
          refine g_putR hC fkD_34 rfl hwo hS ho_1 hz_31 dD_decodeSetup_98 (fun U_32 eU_32 H locs hwo hS => ?_)
          replace hw := hw U_32 eU_32
          refine lv_aload_n hx hb dD_decodeSetup_101 rfl (lv_at hl 2 rfl) ?_
          refine lv_iconst (v := 1) hx hb dD_decodeSetup_102 (by decide) ?_
          refine g_putZ hC fkD_105 rfl hwo hS ho_1 (Or.inr rfl) dD_decodeSetup_103 (fun V_33 eV_33 H locs hwo hS => ?_)
          replace hw := hw V_33 eV_33
          refine lv_iconst (v := 1) hx hb dD_decodeSetup_106 (by decide) ?_
          exact g_zret hC hr hlk (Or.inr rfl) hw hwo hS dD_decodeSetup_107
        · replace hw := hw.2 hc_20
          refine lv_iconst (v := 0) hx hb dD_decodeSetup_63 (by decide) ?_
          exact g_zret hC hr hlk (Or.inl rfl) hw hwo hS dD_decodeSetup_64
    · replace hw := hw.2 hc_9
      refine lv_iconst (v := 0) hx hb dD_decodeSetup_25 (by decide) ?_
      exact g_zret hC hr hlk (Or.inl rfl) hw hwo hS dD_decodeSetup_26
theorem dD_decode_0 : decode kD_decode 0 = .ok (.aload_n 0, 1) := by decide +kernel
theorem dD_decode_1 : decode kD_decode 1 = .ok (.getfield 45, 3) := by decide +kernel
theorem dD_decode_4 : decode kD_decode 4 = .ok (.invokevirtual 67, 3) := by decide +kernel
theorem dD_decode_7 : decode kD_decode 7 = .ok (.aload_n 0, 1) := by decide +kernel
theorem dD_decode_8 : decode kD_decode 8 = .ok (.getfield 45, 3) := by decide +kernel
theorem dD_decode_11 : decode kD_decode 11 = .ok (.getfield 72, 3) := by decide +kernel
theorem dD_decode_14 : decode kD_decode 14 = .ok (.ifCond .ne 5, 3) := by decide +kernel
theorem dD_decode_17 : decode kD_decode 17 = .ok (.iconst 0, 1) := by decide +kernel
theorem dD_decode_18 : decode kD_decode 18 = .ok (.ireturn, 1) := by decide +kernel
theorem dD_decode_19 : decode kD_decode 19 = .ok (.aload_n 0, 1) := by decide +kernel
theorem dD_decode_20 : decode kD_decode 20 = .ok (.getfield 45, 3) := by decide +kernel
theorem dD_decode_23 : decode kD_decode 23 = .ok (.invokevirtual 75, 3) := by decide +kernel
theorem dD_decode_26 : decode kD_decode 26 = .ok (.ifCond .ne 16, 3) := by decide +kernel
theorem dD_decode_29 : decode kD_decode 29 = .ok (.aload_n 0, 1) := by decide +kernel
theorem dD_decode_30 : decode kD_decode 30 = .ok (.invokevirtual 79, 3) := by decide +kernel
theorem dD_decode_33 : decode kD_decode 33 = .ok (.ifCond .eq 7, 3) := by decide +kernel
theorem dD_decode_36 : decode kD_decode 36 = .ok (.iconst 2, 1) := by decide +kernel
theorem dD_decode_37 : decode kD_decode 37 = .ok (.goto 4, 3) := by decide +kernel
theorem dD_decode_40 : decode kD_decode 40 = .ok (.iconst 0, 1) := by decide +kernel
theorem dD_decode_41 : decode kD_decode 41 = .ok (.ireturn, 1) := by decide +kernel
theorem dD_decode_42 : decode kD_decode 42 = .ok (.aload_n 0, 1) := by decide +kernel
theorem dD_decode_43 : decode kD_decode 43 = .ok (.getfield 45, 3) := by decide +kernel
theorem dD_decode_46 : decode kD_decode 46 = .ok (.bipush 7, 2) := by decide +kernel
theorem dD_decode_48 : decode kD_decode 48 = .ok (.invokevirtual 82, 3) := by decide +kernel
theorem dD_decode_51 : decode kD_decode 51 = .ok (.iconst 1, 1) := by decide +kernel
theorem dD_decode_52 : decode kD_decode 52 = .ok (.ishl, 1) := by decide +kernel
theorem dD_decode_53 : decode kD_decode 53 = .ok (.iconst 1, 1) := by decide +kernel
theorem dD_decode_54 : decode kD_decode 54 = .ok (.ior, 1) := by decide +kernel
theorem dD_decode_55 : decode kD_decode 55 = .ok (.istore_n 1, 1) := by decide +kernel
theorem dD_decode_56 : decode kD_decode 56 = .ok (.iload_n 1, 1) := by decide +kernel
theorem dD_decode_57 : decode kD_decode 57 = .ok (.tableswitch 74 1 5 #[35, 74, 48, 74, 61], 35) := by decide +kernel
theorem dD_decode_92 : decode kD_decode 92 = .ok (.aload_n 0, 1) := by decide +kernel
theorem dD_decode_93 : decode kD_decode 93 = .ok (.invokevirtual 86, 3) := by decide +kernel
theorem dD_decode_96 : decode kD_decode 96 = .ok (.ifCond .eq 7, 3) := by decide +kernel
theorem dD_decode_99 : decode kD_decode 99 = .ok (.iconst 1, 1) := by decide +kernel
theorem dD_decode_100 : decode kD_decode 100 = .ok (.goto 4, 3) := by decide +kernel
theorem dD_decode_103 : decode kD_decode 103 = .ok (.iconst 0, 1) := by decide +kernel
theorem dD_decode_104 : decode kD_decode 104 = .ok (.ireturn, 1) := by decide +kernel
theorem dD_decode_105 : decode kD_decode 105 = .ok (.aload_n 0, 1) := by decide +kernel
theorem dD_decode_106 : decode kD_decode 106 = .ok (.invokevirtual 89, 3) := by decide +kernel
theorem dD_decode_109 : decode kD_decode 109 = .ok (.ifCond .eq 7, 3) := by decide +kernel
theorem dD_decode_112 : decode kD_decode 112 = .ok (.iconst 3, 1) := by decide +kernel
theorem dD_decode_113 : decode kD_decode 113 = .ok (.goto 4, 3) := by decide +kernel
theorem dD_decode_116 : decode kD_decode 116 = .ok (.iconst 0, 1) := by decide +kernel
theorem dD_decode_117 : decode kD_decode 117 = .ok (.ireturn, 1) := by decide +kernel
theorem dD_decode_118 : decode kD_decode 118 = .ok (.aload_n 0, 1) := by decide +kernel
theorem dD_decode_119 : decode kD_decode 119 = .ok (.invokevirtual 92, 3) := by decide +kernel
theorem dD_decode_122 : decode kD_decode 122 = .ok (.ifCond .eq 7, 3) := by decide +kernel
theorem dD_decode_125 : decode kD_decode 125 = .ok (.iconst 5, 1) := by decide +kernel
theorem dD_decode_126 : decode kD_decode 126 = .ok (.goto 4, 3) := by decide +kernel
theorem dD_decode_129 : decode kD_decode 129 = .ok (.iconst 0, 1) := by decide +kernel
theorem dD_decode_130 : decode kD_decode 130 = .ok (.ireturn, 1) := by decide +kernel
theorem dD_decode_131 : decode kD_decode 131 = .ok (.iconst 0, 1) := by decide +kernel
theorem dD_decode_132 : decode kD_decode 132 = .ok (.ireturn, 1) := by decide +kernel
def wp_D_decode (θ : TH) (a0 : Nat) (V : VT) (U : UT) (K : Int32 → VT → UT → Prop) : Prop := isO θ a0 11 ∧ (U a0 0) ≠ 0 ∧ isO θ (U a0 0) 7 ∧ wp_H_rewind θ (U a0 0) V U (fun V_3 U_4 => (U_4 a0 0) ≠ 0 ∧ isO θ (U_4 a0 0) 7 ∧ ((¬ (V_3 (U_4 a0 0) 2) = 0 → wp_H_readFlag θ (U_4 a0 0) V_3 U_4 (fun r_11 V_9 U_10 => ((¬ r_11 = 0 → (U_10 a0 0) ≠ 0 ∧ isO θ (U_10 a0 0) 7 ∧ wp_H_read θ (U_10 a0 0) (7 : Int32) V_9 U_10 (fun r_17 V_14 U_15 => ∀ y_18 : Int32, y_18 = ((r_17 <<< ((1 : Int32) &&& 31)) ||| (1 : Int32)) → ((y_18 = (1 : Int32) → wp_D_decodeFormat θ a0 V_14 U_15 (fun r_21 V_19 U_20 => ((r_21 = 0 → K (0 : Int32) V_19 U_20) ∧ (¬ r_21 = 0 → K (1 : Int32) V_19 U_20)))) ∧ (y_18 = (3 : Int32) → wp_D_decodeBook θ a0 V_14 U_15 (fun r_25 V_23 U_24 => ((r_25 = 0 → K (0 : Int32) V_23 U_24) ∧ (¬ r_25 = 0 → K (3 : Int32) V_23 U_24)))) ∧ (y_18 = (5 : Int32) → wp_D_decodeSetup θ a0 V_14 U_15 (fun r_29 V_27 U_28 => ((r_29 = 0 → K (0 : Int32) V_27 U_28) ∧ (¬ r_29 = 0 → K (5 : Int32) V_27 U_28)))) ∧ (¬ y_18 = (1 : Int32) → ¬ y_18 = (3 : Int32) → ¬ y_18 = (5 : Int32) → K (0 : Int32) V_14 U_15)))) ∧ (r_11 = 0 → wp_D_decodeSound θ a0 V_9 U_10 (fun r_33 V_31 U_32 => ((r_33 = 0 → K (0 : Int32) V_31 U_32) ∧ (¬ r_33 = 0 → K (2 : Int32) V_31 U_32))))))) ∧ ((V_3 (U_4 a0 0) 2) = 0 → K (0 : Int32) V_3 U_4)))
set_option maxRecDepth 100000 in
set_option maxHeartbeats 4000000 in
theorem c_D_decode (l : Launch) (θ : TH) (a0 : Nat) (V : VT) (U : UT) (K : Int32 → VT → UT → Prop) (hw : wp_D_decode θ a0 V U K) : CMi l yD_decode kD_decode 2 (some .int) rmD_decode θ [.ref a0] V U K := by
  refine g_met nRD (by decide +kernel) rfl (Nat.le_of_ble_eq_true rfl) (fun p e s m args below meth c ls hC hr hlk hwo hl => ?_)
  have hx := hC.1
  have hb := hC.2.1
  have hS : Sx θ s s.heap [] := va_S.rf
  have hl : lv_has ls 2 [(0, .ref a0)] := hl
  unfold wp_D_decode at hw
  refine lv_aload_n hx hb dD_decode_0 rfl (lv_at hl 0 rfl) ?_
  obtain ⟨ho_1, hw⟩ := hw
  obtain ⟨hz_2, hw⟩ := hw
  refine g_getR hC fkD_45 rfl hwo ho_1 hz_2 dD_decode_1 ?_
  obtain ⟨ho_5, hw⟩ := hw
  refine g_Vv (rest := []) hC (c_H_rewind l θ _ _ _ _ hw) mi_H_rewind mlD_67 mv_H_rewind ci_7 ho_5 hwo hS ⟨rfl, rfl⟩ ⟨by decide, by decide⟩ rfl hl.1 rfl (Nat.le_of_ble_eq_true rfl) dD_decode_4 (fun V_3 U_4 hw H locs hwo hS => ?_)
  refine lv_aload_n hx hb dD_decode_7 rfl (lv_at hl 0 rfl) ?_
  obtain ⟨hz_6, hw⟩ := hw
  refine g_getR hC fkD_45 rfl hwo ho_1 hz_6 dD_decode_8 ?_
  obtain ⟨ho_7, hw⟩ := hw
  refine g_getI hC fkD_72 rfl hwo ho_7 dD_decode_11 ?_
  refine lv_if_ne (tgt := 19) hx hb dD_decode_14 (by decide) (fun hc_8 => ?_) (fun hc_8 => ?_)
  · replace hw := hw.1 hc_8
    refine lv_aload_n hx hb dD_decode_19 rfl (lv_at hl 0 rfl) ?_
    refine g_getR hC fkD_45 rfl hwo ho_1 hz_6 dD_decode_20 ?_
    refine g_Vi (rest := []) hC (c_H_readFlag l θ _ _ _ _ hw) mi_H_readFlag mlD_75 mv_H_readFlag ci_7 ho_7 hwo hS ⟨rfl, rfl⟩ ⟨by decide, by decide⟩ rfl hl.1 rfl (Nat.le_of_ble_eq_true rfl) dD_decode_23 (fun r_11 V_9 U_10 hw H locs hwo hS => ?_)
    refine lv_if_ne (tgt := 42) hx hb dD_decode_26 (by decide) (fun hc_12 => ?_) (fun hc_12 => ?_)
    · replace hw := hw.1 hc_12
      refine lv_aload_n hx hb dD_decode_42 rfl (lv_at hl 0 rfl) ?_
      obtain ⟨hz_13, hw⟩ := hw
      refine g_getR hC fkD_45 rfl hwo ho_1 hz_13 dD_decode_43 ?_
      refine lv_bipush (v := 7) hx hb dD_decode_46 (by decide) ?_
      obtain ⟨ho_16, hw⟩ := hw
      refine g_Vi (rest := []) hC (c_H_read l θ _ _ _ _ _ hw) mi_H_read mlD_82 mv_H_read ci_7 ho_16 hwo hS ⟨rfl, rfl⟩ ⟨by decide, by decide⟩ rfl hl.1 rfl (Nat.le_of_ble_eq_true rfl) dD_decode_48 (fun r_17 V_14 U_15 hw H locs hwo hS => ?_)
      refine lv_iconst (v := 1) hx hb dD_decode_51 (by decide) ?_
      refine lv_ishl hx hb dD_decode_52 ?_
      refine lv_iconst (v := 1) hx hb dD_decode_53 (by decide) ?_
      refine lv_ior hx hb dD_decode_54 ?_
      refine lv_topi (fun y_18 ey_18 => ?_)
      replace hw := hw y_18 ey_18
      refine lv_istore_n (i := 1) (lv' := [(1, .int y_18), (0, .ref a0)]) hx hb dD_decode_55 rfl hl (by decide) rfl (fun ls hl => ?_)
      refine lv_iload_n hx hb dD_decode_56 rfl (lv_at hl 0 rfl) ?_
      refine g_sw hC dD_decode_57 rfl 131 (by decide) (fun ho => ?_) (fun j off hj hq tgt ht _ => ?_) (fun j off hj => ?_)
      · replace hw := hw.2.2.2 (sw_ne ho (k := 1) (by decide) (by decide)) (sw_ne ho (k := 3) (by decide) (by decide)) (sw_ne ho (k := 5) (by decide) (by decide))
        refine lv_iconst (v := 0) hx hb dD_decode_131 (by decide) ?_
        exact g_iret hC hr hlk hw hwo hS dD_decode_132
      · rcases j with _ | _ | _ | _ | _ | j
        · have h9 : (35 : Int) = off := Option.some.inj hj
          subst h9
          have h9 : tgt = 92 := Int.ofNat.inj (ht.symm.trans (by decide))
          subst h9
          have hq : y_18 = (1 : Int32) := sw_eq hq (by decide)
          replace hw := hw.1 hq
          refine lv_aload_n hx hb dD_decode_92 rfl (lv_at hl 1 rfl) ?_
          refine g_Vi (rest := []) hC (c_D_decodeFormat l θ _ _ _ _ hw) mi_D_decodeFormat mlD_86 mv_D_decodeFormat ci_11 ho_1 hwo hS ⟨rfl, rfl⟩ ⟨by decide, by decide⟩ rfl hl.1 rfl (Nat.le_of_ble_eq_true rfl) dD_decode_93 (fun r_21 V_19 U_20 hw H locs hwo hS => ?_)
          refine lv_if_eq (tgt := 103) hx hb dD_decode_96 (by decide) (fun hc_22 => ?_) (fun hc_22 => ?_)
          · replace hw := hw.1 hc_22
            refine lv_iconst (v := 0) hx hb dD_decode_103 (by decide) ?_
            exact g_iret hC hr hlk hw hwo hS dD_decode_104
          · replace hw := hw.2 hc_22
            refine lv_iconst (v := 1) hx hb dD_decode_99 (by decide) ?_
            refine lv_goto (tgt := 104) hx hb dD_decode_100 (by decide) ?_
            exact g_iret hC hr hlk hw hwo hS dD_decode_104
        · have h9 : (74 : Int) = off := Option.some.inj hj
          subst h9
          have h9 : tgt = 131 := Int.ofNat.inj (ht.symm.trans (by decide))
          subst h9
          have hq : y_18 = (2 : Int32) := sw_eq hq (by decide)
          replace hw := hw.2.2.2 (fun e => absurd (e.symm.trans hq) (by decide)) (fun e => absurd (e.symm.trans hq) (by decide)) (fun e => absurd (e.symm.trans hq) (by decide))
          refine lv_iconst (v := 0) hx hb dD_decode_131 (by decide) ?_
          exact g_iret hC hr hlk hw hwo hS dD_decode_132
        · have h9 : (48 : Int) = off := Option.some.inj hj
          subst h9
          have h9 : tgt = 105 := Int.ofNat.inj (ht.symm.trans (by decide))
          subst h9
          have hq : y_18 = (3 : Int32) := sw_eq hq (by decide)
          replace hw := hw.2.1 hq
          refine lv_aload_n hx hb dD_decode_105 rfl (lv_at hl 1 rfl) ?_
          refine g_Vi (rest := []) hC (c_D_decodeBook l θ _ _ _ _ hw) mi_D_decodeBook mlD_89 mv_D_decodeBook ci_11 ho_1 hwo hS ⟨rfl, rfl⟩ ⟨by decide, by decide⟩ rfl hl.1 rfl (Nat.le_of_ble_eq_true rfl) dD_decode_106 (fun r_25 V_23 U_24 hw H locs hwo hS => ?_)
          refine lv_if_eq (tgt := 116) hx hb dD_decode_109 (by decide) (fun hc_26 => ?_) (fun hc_26 => ?_)
          · replace hw := hw.1 hc_26
            refine lv_iconst (v := 0) hx hb dD_decode_116 (by decide) ?_
            exact g_iret hC hr hlk hw hwo hS dD_decode_117
          · replace hw := hw.2 hc_26
            refine lv_iconst (v := 3) hx hb dD_decode_112 (by decide) ?_
            refine lv_goto (tgt := 117) hx hb dD_decode_113 (by decide) ?_
            exact g_iret hC hr hlk hw hwo hS dD_decode_117
        · have h9 : (74 : Int) = off := Option.some.inj hj
          subst h9
          have h9 : tgt = 131 := Int.ofNat.inj (ht.symm.trans (by decide))
          subst h9
          have hq : y_18 = (4 : Int32) := sw_eq hq (by decide)
          replace hw := hw.2.2.2 (fun e => absurd (e.symm.trans hq) (by decide)) (fun e => absurd (e.symm.trans hq) (by decide)) (fun e => absurd (e.symm.trans hq) (by decide))
          refine lv_iconst (v := 0) hx hb dD_decode_131 (by decide) ?_
          exact g_iret hC hr hlk hw hwo hS dD_decode_132
        · have h9 : (61 : Int) = off := Option.some.inj hj
          subst h9
          have h9 : tgt = 118 := Int.ofNat.inj (ht.symm.trans (by decide))
          subst h9
          have hq : y_18 = (5 : Int32) := sw_eq hq (by decide)
          replace hw := hw.2.2.1 hq
          refine lv_aload_n hx hb dD_decode_118 rfl (lv_at hl 1 rfl) ?_
          refine g_Vi (rest := []) hC (c_D_decodeSetup l θ _ _ _ _ hw) mi_D_decodeSetup mlD_92 mv_D_decodeSetup ci_11 ho_1 hwo hS ⟨rfl, rfl⟩ ⟨by decide, by decide⟩ rfl hl.1 rfl (Nat.le_of_ble_eq_true rfl) dD_decode_119 (fun r_29 V_27 U_28 hw H locs hwo hS => ?_)
          refine lv_if_eq (tgt := 129) hx hb dD_decode_122 (by decide) (fun hc_30 => ?_) (fun hc_30 => ?_)
          · replace hw := hw.1 hc_30
            refine lv_iconst (v := 0) hx hb dD_decode_129 (by decide) ?_
            exact g_iret hC hr hlk hw hwo hS dD_decode_130
          · replace hw := hw.2 hc_30
            refine lv_iconst (v := 5) hx hb dD_decode_125 (by decide) ?_
            refine lv_goto (tgt := 130) hx hb dD_decode_126 (by decide) ?_
            exact g_iret hC hr hlk hw hwo hS dD_decode_130
        · simp at hj
      · rcases j with _ | _ | _ | _ | _ | j
        all_goals first | (cases hj; decide) | simp at hj
    · replace hw := hw.2 hc_12
      refine lv_aload_n hx hb dD_decode_29 rfl (lv_at hl 0 rfl) ?_
      refine g_Vi (rest := []) hC (c_D_decodeSound l θ _ _ _ _ hw) mi_D_decodeSound mlD_79 mv_D_decodeSound ci_11 ho_1 hwo hS ⟨rfl, rfl⟩ ⟨by decide, by decide⟩ rfl hl.1 rfl (Nat.le_of_ble_eq_true rfl) dD_decode_30 (fun r_33 V_31 U_32 hw H locs hwo hS => ?_)
      refine lv_if_eq (tgt := 40) hx hb dD_decode_33 (by decide) (fun hc_34 => ?_) (fun hc_34 => ?_)
      · replace hw := hw.1 hc_34
        refine lv_iconst (v := 0) hx hb dD_decode_40 (by decide) ?_
        exact g_iret hC hr hlk hw hwo hS dD_decode_41
      · replace hw := hw.2 hc_34
        refine lv_iconst (v := 2) hx hb dD_decode_36 (by decide) ?_
        refine lv_goto (tgt := 41) hx hb dD_decode_37 (by decide) ?_
        exact g_iret hC hr hlk hw hwo hS dD_decode_41
  · replace hw := hw.2 hc_8
    refine lv_iconst (v := 0) hx hb dD_decode_17 (by decide) ?_
    exact g_iret hC hr hlk hw hwo hS dD_decode_18
