theorem dA_fill_0 : decode kA_fill 0 = .ok (.iconst 0, 1) := by decide +kernel
theorem dA_fill_1 : decode kA_fill 1 = .ok (.istore_n 2, 1) := by decide +kernel
theorem dA_fill_2 : decode kA_fill 2 = .ok (.aload_n 0, 1) := by decide +kernel
theorem dA_fill_3 : decode kA_fill 3 = .ok (.arraylength, 1) := by decide +kernel
theorem dA_fill_4 : decode kA_fill 4 = .ok (.istore_n 3, 1) := by decide +kernel
theorem dA_fill_5 : decode kA_fill 5 = .ok (.iload_n 2, 1) := by decide +kernel
theorem dA_fill_6 : decode kA_fill 6 = .ok (.iload_n 3, 1) := by decide +kernel
theorem dA_fill_7 : decode kA_fill 7 = .ok (.if_icmp .ge 13, 3) := by decide +kernel
theorem dA_fill_10 : decode kA_fill 10 = .ok (.aload_n 0, 1) := by decide +kernel
theorem dA_fill_11 : decode kA_fill 11 = .ok (.iload_n 2, 1) := by decide +kernel
theorem dA_fill_12 : decode kA_fill 12 = .ok (.iload_n 1, 1) := by decide +kernel
theorem dA_fill_13 : decode kA_fill 13 = .ok (.iastore, 1) := by decide +kernel
theorem dA_fill_14 : decode kA_fill 14 = .ok (.iinc 2 1, 3) := by decide +kernel
theorem dA_fill_17 : decode kA_fill 17 = .ok (.goto (-12), 3) := by decide +kernel
theorem dA_fill_20 : decode kA_fill 20 = .ok (.return_, 1) := by decide +kernel
def bl_A_fill_5 (θ : TH) (a0_5 : Nat) (x1_5 : Int32) (x3_5 : Int32) (K : VT → UT → Prop) (kb5 : Int32 → VT → UT → Prop) (x2_5 : Int32) (V : VT) (U : UT) : Prop := ((x3_5 ≤ x2_5 → K V U) ∧ (¬ x3_5 ≤ x2_5 → ∃ n_5, isA θ a0_5 0 n_5 ∧ vp_in x2_5 n_5 ∧ ∀ V_8 : VT, V_8 = up2 V a0_5 x2_5.toNatClampNeg x1_5 → ∀ y_9 : Int32, y_9 = x2_5 + (1 : Int32) → kb5 y_9 V_8 U))
def wl_A_fill_5 (θ : TH) (a0_5 : Nat) (x1_5 : Int32) (x3_5 : Int32) (K : VT → UT → Prop) : Nat → Int32 → VT → UT → Prop
  | 0, _, _, _ => False
  | n + 1, x2_5, V, U => bl_A_fill_5 θ a0_5 x1_5 x3_5 K (wl_A_fill_5 θ a0_5 x1_5 x3_5 K n) x2_5 V U
def wp_A_fill (θ : TH) (a0 : Nat) (x1 : Int32) (V : VT) (U : UT) (K : VT → UT → Prop) : Prop := ∃ n_1, isA θ a0 0 n_1 ∧ ∀ y_3 : Int32, y_3 = (nI n_1) → ∃ n, wl_A_fill_5 θ a0 x1 y_3 K n (0 : Int32) V U
set_option maxRecDepth 100000 in
set_option maxHeartbeats 4000000 in
theorem c_A_fill (l : Launch) (θ : TH) (a0 : Nat) (x1 : Int32) (V : VT) (U : UT) (K : VT → UT → Prop) (hw : wp_A_fill θ a0 x1 V U K) : CMv l yA_fill kA_fill 4 none rmA_fill θ [.ref a0, .int x1] V U K := by
  refine g_met nRA (by decide +kernel) rfl (Nat.le_of_ble_eq_true rfl) (fun p e s m args below meth c ls hC hr hlk hwo hl => ?_)
  have hx := hC.1
  have hb := hC.2.1
  have hS : Sx θ s s.heap [] := va_S.rf
  have hl : lv_has ls 4 [(0, .ref a0), (1, .int x1)] := hl
  have L5 : ∀ (a0_5 : Nat) (x1_5 : Int32) (x3_5 : Int32) (n5 : Nat) (x2_5 : Int32) (V : VT) (U : UT) (H : Heap) (locs : List Loc) (ls : Array Slot), wl_A_fill_5 θ a0_5 x1_5 x3_5 K n5 x2_5 V U → wo θ V U H → Sx θ s H locs → lv_has ls 4 [(0, .ref a0_5), (1, .int x1_5), (2, .int x2_5), (3, .int x3_5)] → W p l e rmA_fill s m args below meth c H locs 0 0 (MQ below (QV θ K) args s 0 0 (aT θ)) (F0 m 5 ls []) := by
    intro a0_5 x1_5 x3_5 n5
    induction n5 with
    | zero => intro x2_5 V U H locs ls hw hwo hS hl; exact (show False from hw).elim
    | succ n5 ih5 =>
      intro x2_5 V U H locs ls hw hwo hS hl
      replace hw : bl_A_fill_5 θ a0_5 x1_5 x3_5 K (wl_A_fill_5 θ a0_5 x1_5 x3_5 K n5) x2_5 V U := hw
      unfold bl_A_fill_5 at hw
      refine lv_iload_n hx hb dA_fill_5 rfl (lv_at hl 2 rfl) ?_
      refine lv_iload_n hx hb dA_fill_6 rfl (lv_at hl 3 rfl) ?_
      refine lv_icmp_ge (tgt := 20) hx hb dA_fill_7 (by decide) (fun hc_4 => ?_) (fun hc_4 => ?_)
      · replace hw := hw.1 hc_4
        exact g_vret hC hr hlk hw hwo hS dA_fill_20
      · replace hw := hw.2 hc_4
        refine lv_aload_n hx hb dA_fill_10 rfl (lv_at hl 0 rfl) ?_
        refine lv_iload_n hx hb dA_fill_11 rfl (lv_at hl 2 rfl) ?_
        refine lv_iload_n hx hb dA_fill_12 rfl (lv_at hl 1 rfl) ?_
        obtain ⟨n_5, ha_6, hw⟩ := hw
        obtain ⟨hi_7, hw⟩ := hw
        refine g_iast hC hwo hS ha_6 hi_7 dA_fill_13 (fun V_8 eV_8 H locs hwo hS => ?_)
        replace hw := hw V_8 eV_8
        obtain ⟨y_9, ey_9⟩ : ∃ z : Int32, z = x2_5 + (1 : Int32) := ⟨_, rfl⟩
        replace hw := hw y_9 ey_9
        refine lv_iinc (k := 2) (v := y_9) (lv' := [(2, .int y_9), (0, .ref a0_5), (1, .int x1_5), (3, .int x3_5)]) hx hb dA_fill_14 hl rfl (by rw [ey_9]; rfl) (by decide) rfl (fun ls hl => ?_)
        refine lv_goto (tgt := 5) hx hb dA_fill_17 (by decide) ?_
        exact ih5 _ _ _ _ _ _ hw hwo hS (lv_sub hl [1, 2, 0, 3] rfl)
  unfold wp_A_fill at hw
  refine lv_iconst (v := 0) hx hb dA_fill_0 (by decide) ?_
  refine lv_istore_n (i := 2) (lv' := [(2, .int (0 : Int32)), (0, .ref a0), (1, .int x1)]) hx hb dA_fill_1 rfl hl (by decide) rfl (fun ls hl => ?_)
  refine lv_aload_n hx hb dA_fill_2 rfl (lv_at hl 1 rfl) ?_
  obtain ⟨n_1, ha_2, hw⟩ := hw
  refine g_ilen hC hwo (t := 0) (by decide) ha_2 dA_fill_3 ?_
  refine lv_topi (fun y_3 ey_3 => ?_)
  replace hw := hw y_3 ey_3
  refine lv_istore_n (i := 3) (lv' := [(3, .int y_3), (2, .int (0 : Int32)), (0, .ref a0), (1, .int x1)]) hx hb dA_fill_4 rfl hl (by decide) rfl (fun ls hl => ?_)
  obtain ⟨n, hw⟩ := hw
  exact L5 _ _ _ n _ _ _ _ _ _ hw hwo hS (lv_sub hl [2, 3, 1, 0] rfl)
theorem dW_hasRoom_0 : decode kW_hasRoom 0 = .ok (.iload_n 1, 1) := by decide +kernel
theorem dW_hasRoom_1 : decode kW_hasRoom 1 = .ok (.sipush 1000, 3) := by decide +kernel
theorem dW_hasRoom_4 : decode kW_hasRoom 4 = .ok (.aload_n 0, 1) := by decide +kernel
theorem dW_hasRoom_5 : decode kW_hasRoom 5 = .ok (.getfield 15, 3) := by decide +kernel
theorem dW_hasRoom_8 : decode kW_hasRoom 8 = .ok (.isub, 1) := by decide +kernel
theorem dW_hasRoom_9 : decode kW_hasRoom 9 = .ok (.if_icmp .gt 7, 3) := by decide +kernel
theorem dW_hasRoom_12 : decode kW_hasRoom 12 = .ok (.iconst 1, 1) := by decide +kernel
theorem dW_hasRoom_13 : decode kW_hasRoom 13 = .ok (.goto 4, 3) := by decide +kernel
theorem dW_hasRoom_16 : decode kW_hasRoom 16 = .ok (.iconst 0, 1) := by decide +kernel
theorem dW_hasRoom_17 : decode kW_hasRoom 17 = .ok (.ireturn, 1) := by decide +kernel
def wp_W_hasRoom (θ : TH) (a0 : Nat) (x1 : Int32) (V : VT) (U : UT) (K : Int32 → VT → UT → Prop) : Prop := isO θ a0 1 ∧ ((((1000 : Int32) - (V a0 1)) < x1 → K (0 : Int32) V U) ∧ (¬ ((1000 : Int32) - (V a0 1)) < x1 → K (1 : Int32) V U))
set_option maxRecDepth 100000 in
set_option maxHeartbeats 4000000 in
theorem c_W_hasRoom (l : Launch) (θ : TH) (a0 : Nat) (x1 : Int32) (V : VT) (U : UT) (K : Int32 → VT → UT → Prop) (hw : wp_W_hasRoom θ a0 x1 V U K) : CMi l yW_hasRoom kW_hasRoom 2 (some .boolean) rmW_hasRoom θ [.ref a0, .int x1] V U K := by
  refine g_met nRW (by decide +kernel) rfl (Nat.le_of_ble_eq_true rfl) (fun p e s m args below meth c ls hC hr hlk hwo hl => ?_)
  have hx := hC.1
  have hb := hC.2.1
  have hS : Sx θ s s.heap [] := va_S.rf
  have hl : lv_has ls 2 [(0, .ref a0), (1, .int x1)] := hl
  unfold wp_W_hasRoom at hw
  refine lv_iload_n hx hb dW_hasRoom_0 rfl (lv_at hl 1 rfl) ?_
  refine lv_sipush (v := 1000) hx hb dW_hasRoom_1 (by decide) ?_
  refine lv_aload_n hx hb dW_hasRoom_4 rfl (lv_at hl 0 rfl) ?_
  obtain ⟨ho_1, hw⟩ := hw
  refine g_getI hC fkW_15 rfl hwo ho_1 dW_hasRoom_5 ?_
  refine lv_isub hx hb dW_hasRoom_8 ?_
  refine lv_icmp_gt (tgt := 16) hx hb dW_hasRoom_9 (by decide) (fun hc_2 => ?_) (fun hc_2 => ?_)
  · replace hw := hw.1 hc_2
    refine lv_iconst (v := 0) hx hb dW_hasRoom_16 (by decide) ?_
    exact g_zret hC hr hlk (Or.inl rfl) hw hwo hS dW_hasRoom_17
  · replace hw := hw.2 hc_2
    refine lv_iconst (v := 1) hx hb dW_hasRoom_12 (by decide) ?_
    refine lv_goto (tgt := 17) hx hb dW_hasRoom_13 (by decide) ?_
    exact g_zret hC hr hlk (Or.inr rfl) hw hwo hS dW_hasRoom_17
theorem dW_append_0 : decode kW_append 0 = .ok (.aload_n 0, 1) := by decide +kernel
theorem dW_append_1 : decode kW_append 1 = .ok (.getfield 15, 3) := by decide +kernel
theorem dW_append_4 : decode kW_append 4 = .ok (.sipush 1000, 3) := by decide +kernel
theorem dW_append_7 : decode kW_append 7 = .ok (.if_icmp .ge 27, 3) := by decide +kernel
theorem dW_append_10 : decode kW_append 10 = .ok (.aload_n 0, 1) := by decide +kernel
theorem dW_append_11 : decode kW_append 11 = .ok (.getfield 9, 3) := by decide +kernel
theorem dW_append_14 : decode kW_append 14 = .ok (.aload_n 0, 1) := by decide +kernel
theorem dW_append_15 : decode kW_append 15 = .ok (.getfield 15, 3) := by decide +kernel
theorem dW_append_18 : decode kW_append 18 = .ok (.iload_n 1, 1) := by decide +kernel
theorem dW_append_19 : decode kW_append 19 = .ok (.sipush 255, 3) := by decide +kernel
theorem dW_append_22 : decode kW_append 22 = .ok (.iand, 1) := by decide +kernel
theorem dW_append_23 : decode kW_append 23 = .ok (.iastore, 1) := by decide +kernel
theorem dW_append_24 : decode kW_append 24 = .ok (.aload_n 0, 1) := by decide +kernel
theorem dW_append_25 : decode kW_append 25 = .ok (.dup, 1) := by decide +kernel
theorem dW_append_26 : decode kW_append 26 = .ok (.getfield 15, 3) := by decide +kernel
theorem dW_append_29 : decode kW_append 29 = .ok (.iconst 1, 1) := by decide +kernel
theorem dW_append_30 : decode kW_append 30 = .ok (.iadd, 1) := by decide +kernel
theorem dW_append_31 : decode kW_append 31 = .ok (.putfield 15, 3) := by decide +kernel
theorem dW_append_34 : decode kW_append 34 = .ok (.return_, 1) := by decide +kernel
def wp_W_append (θ : TH) (a0 : Nat) (x1 : Int32) (V : VT) (U : UT) (K : VT → UT → Prop) : Prop := isO θ a0 1 ∧ (((1000 : Int32) ≤ (V a0 1) → K V U) ∧ (¬ (1000 : Int32) ≤ (V a0 1) → (U a0 0) ≠ 0 ∧ ∃ n_4, isA θ (U a0 0) 0 n_4 ∧ vp_in (V a0 1) n_4 ∧ ∀ V_7 : VT, V_7 = up2 V (U a0 0) (V a0 1).toNatClampNeg (x1 &&& (255 : Int32)) → ∀ V_8 : VT, V_8 = up2 V_7 a0 1 ((V_7 a0 1) + (1 : Int32)) → K V_8 U))
set_option maxRecDepth 100000 in
set_option maxHeartbeats 4000000 in
theorem c_W_append (l : Launch) (θ : TH) (a0 : Nat) (x1 : Int32) (V : VT) (U : UT) (K : VT → UT → Prop) (hw : wp_W_append θ a0 x1 V U K) : CMv l yW_append kW_append 2 none rmW_append θ [.ref a0, .int x1] V U K := by
  refine g_met nRW (by decide +kernel) rfl (Nat.le_of_ble_eq_true rfl) (fun p e s m args below meth c ls hC hr hlk hwo hl => ?_)
  have hx := hC.1
  have hb := hC.2.1
  have hS : Sx θ s s.heap [] := va_S.rf
  have hl : lv_has ls 2 [(0, .ref a0), (1, .int x1)] := hl
  unfold wp_W_append at hw
  refine lv_aload_n hx hb dW_append_0 rfl (lv_at hl 0 rfl) ?_
  obtain ⟨ho_1, hw⟩ := hw
  refine g_getI hC fkW_15 rfl hwo ho_1 dW_append_1 ?_
  refine lv_sipush (v := 1000) hx hb dW_append_4 (by decide) ?_
  refine lv_icmp_ge (tgt := 34) hx hb dW_append_7 (by decide) (fun hc_2 => ?_) (fun hc_2 => ?_)
  · replace hw := hw.1 hc_2
    exact g_vret hC hr hlk hw hwo hS dW_append_34
  · replace hw := hw.2 hc_2
    refine lv_aload_n hx hb dW_append_10 rfl (lv_at hl 0 rfl) ?_
    obtain ⟨hz_3, hw⟩ := hw
    refine g_getR hC fkW_9 rfl hwo ho_1 hz_3 dW_append_11 ?_
    refine lv_aload_n hx hb dW_append_14 rfl (lv_at hl 0 rfl) ?_
    refine g_getI hC fkW_15 rfl hwo ho_1 dW_append_15 ?_
    refine lv_iload_n hx hb dW_append_18 rfl (lv_at hl 1 rfl) ?_
    refine lv_sipush (v := 255) hx hb dW_append_19 (by decide) ?_
    refine lv_iand hx hb dW_append_22 ?_
    obtain ⟨n_4, ha_5, hw⟩ := hw
    obtain ⟨hi_6, hw⟩ := hw
    refine g_iast hC hwo hS ha_5 hi_6 dW_append_23 (fun V_7 eV_7 H locs hwo hS => ?_)
    replace hw := hw V_7 eV_7
    refine lv_aload_n hx hb dW_append_24 rfl (lv_at hl 0 rfl) ?_
    refine lv_dup hx hb dW_append_25 rfl ?_
    refine g_getI hC fkW_15 rfl hwo ho_1 dW_append_26 ?_
    refine lv_iconst (v := 1) hx hb dW_append_29 (by decide) ?_
    refine lv_iadd hx hb dW_append_30 ?_
    refine g_putI hC fkW_15 rfl hwo hS ho_1 dW_append_31 (fun V_8 eV_8 H locs hwo hS => ?_)
    replace hw := hw V_8 eV_8
    exact g_vret hC hr hlk hw hwo hS dW_append_34
theorem dW_at_0 : decode kW_at 0 = .ok (.iload_n 1, 1) := by decide +kernel
theorem dW_at_1 : decode kW_at 1 = .ok (.ifCond .lt 20, 3) := by decide +kernel
theorem dW_at_4 : decode kW_at 4 = .ok (.iload_n 1, 1) := by decide +kernel
theorem dW_at_5 : decode kW_at 5 = .ok (.aload_n 0, 1) := by decide +kernel
theorem dW_at_6 : decode kW_at 6 = .ok (.getfield 15, 3) := by decide +kernel
theorem dW_at_9 : decode kW_at 9 = .ok (.if_icmp .ge 12, 3) := by decide +kernel
theorem dW_at_12 : decode kW_at 12 = .ok (.aload_n 0, 1) := by decide +kernel
theorem dW_at_13 : decode kW_at 13 = .ok (.getfield 9, 3) := by decide +kernel
theorem dW_at_16 : decode kW_at 16 = .ok (.iload_n 1, 1) := by decide +kernel
theorem dW_at_17 : decode kW_at 17 = .ok (.iaload, 1) := by decide +kernel
theorem dW_at_18 : decode kW_at 18 = .ok (.goto 4, 3) := by decide +kernel
theorem dW_at_21 : decode kW_at 21 = .ok (.iconst (-1), 1) := by decide +kernel
theorem dW_at_22 : decode kW_at 22 = .ok (.ireturn, 1) := by decide +kernel
def wb_W_at_21 (θ : TH) (K : Int32 → VT → UT → Prop) (V : VT) (U : UT) : Prop := K (-1 : Int32) V U
def wp_W_at (θ : TH) (a0 : Nat) (x1 : Int32) (V : VT) (U : UT) (K : Int32 → VT → UT → Prop) : Prop := ((x1 < 0 → wb_W_at_21 θ K V U) ∧ (¬ x1 < 0 → isO θ a0 1 ∧ (((V a0 1) ≤ x1 → wb_W_at_21 θ K V U) ∧ (¬ (V a0 1) ≤ x1 → (U a0 0) ≠ 0 ∧ ∃ n_5, isA θ (U a0 0) 0 n_5 ∧ vp_in x1 n_5 ∧ K (V (U a0 0) x1.toNatClampNeg) V U))))
set_option maxRecDepth 100000 in
set_option maxHeartbeats 4000000 in
theorem c_W_at (l : Launch) (θ : TH) (a0 : Nat) (x1 : Int32) (V : VT) (U : UT) (K : Int32 → VT → UT → Prop) (hw : wp_W_at θ a0 x1 V U K) : CMi l yW_at kW_at 2 (some .int) rmW_at θ [.ref a0, .int x1] V U K := by
  refine g_met nRW (by decide +kernel) rfl (Nat.le_of_ble_eq_true rfl) (fun p e s m args below meth c ls hC hr hlk hwo hl => ?_)
  have hx := hC.1
  have hb := hC.2.1
  have hS : Sx θ s s.heap [] := va_S.rf
  have hl : lv_has ls 2 [(0, .ref a0), (1, .int x1)] := hl
  have J21 : ∀ (V : VT) (U : UT) (H : Heap) (locs : List Loc) (ls : Array Slot), wb_W_at_21 θ K V U → wo θ V U H → Sx θ s H locs → lv_has ls 2 [] → W p l e rmW_at s m args below meth c H locs 0 0 (MQ below (QI θ K) args s 0 0 (aT θ)) (F0 m 21 ls []) := by
    intro V U H locs ls hw hwo hS hl
    unfold wb_W_at_21 at hw
    refine lv_iconst (v := -1) hx hb dW_at_21 (by decide) ?_
    exact g_iret hC hr hlk hw hwo hS dW_at_22
  unfold wp_W_at at hw
  refine lv_iload_n hx hb dW_at_0 rfl (lv_at hl 1 rfl) ?_
  refine lv_if_lt (tgt := 21) hx hb dW_at_1 (by decide) (fun hc_1 => ?_) (fun hc_1 => ?_)
  · replace hw := hw.1 hc_1
    exact J21 _ _ _ _ _ hw hwo hS (lv_sub hl [] rfl)
  · replace hw := hw.2 hc_1
    refine lv_iload_n hx hb dW_at_4 rfl (lv_at hl 1 rfl) ?_
    refine lv_aload_n hx hb dW_at_5 rfl (lv_at hl 0 rfl) ?_
    obtain ⟨ho_2, hw⟩ := hw
    refine g_getI hC fkW_15 rfl hwo ho_2 dW_at_6 ?_
    refine lv_icmp_ge (tgt := 21) hx hb dW_at_9 (by decide) (fun hc_3 => ?_) (fun hc_3 => ?_)
    · replace hw := hw.1 hc_3
      exact J21 _ _ _ _ _ hw hwo hS (lv_sub hl [] rfl)
    · replace hw := hw.2 hc_3
      refine lv_aload_n hx hb dW_at_12 rfl (lv_at hl 0 rfl) ?_
      obtain ⟨hz_4, hw⟩ := hw
      refine g_getR hC fkW_9 rfl hwo ho_2 hz_4 dW_at_13 ?_
      refine lv_iload_n hx hb dW_at_16 rfl (lv_at hl 1 rfl) ?_
      obtain ⟨n_5, ha_6, hw⟩ := hw
      obtain ⟨hi_7, hw⟩ := hw
      refine g_iald hC hwo ha_6 hi_7 dW_at_17 ?_
      refine lv_goto (tgt := 22) hx hb dW_at_18 (by decide) ?_
      exact g_iret hC hr hlk hw hwo hS dW_at_22
theorem dW_change_0 : decode kW_change 0 = .ok (.iload_n 1, 1) := by decide +kernel
theorem dW_change_1 : decode kW_change 1 = .ok (.aload_n 0, 1) := by decide +kernel
theorem dW_change_2 : decode kW_change 2 = .ok (.getfield 19, 3) := by decide +kernel
theorem dW_change_5 : decode kW_change 5 = .ok (.if_icmp .lt 23, 3) := by decide +kernel
theorem dW_change_8 : decode kW_change 8 = .ok (.iload_n 1, 1) := by decide +kernel
theorem dW_change_9 : decode kW_change 9 = .ok (.aload_n 0, 1) := by decide +kernel
theorem dW_change_10 : decode kW_change 10 = .ok (.getfield 15, 3) := by decide +kernel
theorem dW_change_13 : decode kW_change 13 = .ok (.if_icmp .ge 15, 3) := by decide +kernel
theorem dW_change_16 : decode kW_change 16 = .ok (.iload_n 2, 1) := by decide +kernel
theorem dW_change_17 : decode kW_change 17 = .ok (.iconst 1, 1) := by decide +kernel
theorem dW_change_18 : decode kW_change 18 = .ok (.if_icmp .lt 10, 3) := by decide +kernel
theorem dW_change_21 : decode kW_change 21 = .ok (.iload_n 2, 1) := by decide +kernel
theorem dW_change_22 : decode kW_change 22 = .ok (.sipush 255, 3) := by decide +kernel
theorem dW_change_25 : decode kW_change 25 = .ok (.if_icmp .le 5, 3) := by decide +kernel
theorem dW_change_28 : decode kW_change 28 = .ok (.iconst 0, 1) := by decide +kernel
theorem dW_change_29 : decode kW_change 29 = .ok (.ireturn, 1) := by decide +kernel
theorem dW_change_30 : decode kW_change 30 = .ok (.aload_n 0, 1) := by decide +kernel
theorem dW_change_31 : decode kW_change 31 = .ok (.getfield 9, 3) := by decide +kernel
theorem dW_change_34 : decode kW_change 34 = .ok (.iload_n 1, 1) := by decide +kernel
theorem dW_change_35 : decode kW_change 35 = .ok (.dup2, 1) := by decide +kernel
theorem dW_change_36 : decode kW_change 36 = .ok (.iaload, 1) := by decide +kernel
theorem dW_change_37 : decode kW_change 37 = .ok (.iload_n 2, 1) := by decide +kernel
theorem dW_change_38 : decode kW_change 38 = .ok (.ixor, 1) := by decide +kernel
theorem dW_change_39 : decode kW_change 39 = .ok (.iastore, 1) := by decide +kernel
theorem dW_change_40 : decode kW_change 40 = .ok (.iconst 1, 1) := by decide +kernel
theorem dW_change_41 : decode kW_change 41 = .ok (.ireturn, 1) := by decide +kernel
def wp_W_change (θ : TH) (a0 : Nat) (x1 : Int32) (x2 : Int32) (V : VT) (U : UT) (K : Int32 → VT → UT → Prop) : Prop := isO θ a0 1 ∧ ((x1 < (V a0 2) → K (0 : Int32) V U) ∧ (¬ x1 < (V a0 2) → (((V a0 1) ≤ x1 → K (0 : Int32) V U) ∧ (¬ (V a0 1) ≤ x1 → ((x2 < (1 : Int32) → K (0 : Int32) V U) ∧ (¬ x2 < (1 : Int32) → ((x2 ≤ (255 : Int32) → (U a0 0) ≠ 0 ∧ ∃ n_7, isA θ (U a0 0) 0 n_7 ∧ vp_in x1 n_7 ∧ ∀ V_10 : VT, V_10 = up2 V (U a0 0) x1.toNatClampNeg ((V (U a0 0) x1.toNatClampNeg) ^^^ x2) → K (1 : Int32) V_10 U) ∧ (¬ x2 ≤ (255 : Int32) → K (0 : Int32) V U))))))))
set_option maxRecDepth 100000 in
set_option maxHeartbeats 4000000 in
theorem c_W_change (l : Launch) (θ : TH) (a0 : Nat) (x1 : Int32) (x2 : Int32) (V : VT) (U : UT) (K : Int32 → VT → UT → Prop) (hw : wp_W_change θ a0 x1 x2 V U K) : CMi l yW_change kW_change 3 (some .boolean) rmW_change θ [.ref a0, .int x1, .int x2] V U K := by
  refine g_met nRW (by decide +kernel) rfl (Nat.le_of_ble_eq_true rfl) (fun p e s m args below meth c ls hC hr hlk hwo hl => ?_)
  have hx := hC.1
  have hb := hC.2.1
  have hS : Sx θ s s.heap [] := va_S.rf
  have hl : lv_has ls 3 [(0, .ref a0), (1, .int x1), (2, .int x2)] := hl
  unfold wp_W_change at hw
  refine lv_iload_n hx hb dW_change_0 rfl (lv_at hl 1 rfl) ?_
  refine lv_aload_n hx hb dW_change_1 rfl (lv_at hl 0 rfl) ?_
  obtain ⟨ho_1, hw⟩ := hw
  refine g_getI hC fkW_19 rfl hwo ho_1 dW_change_2 ?_
  refine lv_icmp_lt (tgt := 28) hx hb dW_change_5 (by decide) (fun hc_2 => ?_) (fun hc_2 => ?_)
  · replace hw := hw.1 hc_2
    refine lv_iconst (v := 0) hx hb dW_change_28 (by decide) ?_
    exact g_zret hC hr hlk (Or.inl rfl) hw hwo hS dW_change_29
  · replace hw := hw.2 hc_2
    refine lv_iload_n hx hb dW_change_8 rfl (lv_at hl 1 rfl) ?_
    refine lv_aload_n hx hb dW_change_9 rfl (lv_at hl 0 rfl) ?_
    refine g_getI hC fkW_15 rfl hwo ho_1 dW_change_10 ?_
    refine lv_icmp_ge (tgt := 28) hx hb dW_change_13 (by decide) (fun hc_3 => ?_) (fun hc_3 => ?_)
    · replace hw := hw.1 hc_3
      refine lv_iconst (v := 0) hx hb dW_change_28 (by decide) ?_
      exact g_zret hC hr hlk (Or.inl rfl) hw hwo hS dW_change_29
    · replace hw := hw.2 hc_3
      refine lv_iload_n hx hb dW_change_16 rfl (lv_at hl 2 rfl) ?_
      refine lv_iconst (v := 1) hx hb dW_change_17 (by decide) ?_
      refine lv_icmp_lt (tgt := 28) hx hb dW_change_18 (by decide) (fun hc_4 => ?_) (fun hc_4 => ?_)
      · replace hw := hw.1 hc_4
        refine lv_iconst (v := 0) hx hb dW_change_28 (by decide) ?_
        exact g_zret hC hr hlk (Or.inl rfl) hw hwo hS dW_change_29
      · replace hw := hw.2 hc_4
        refine lv_iload_n hx hb dW_change_21 rfl (lv_at hl 2 rfl) ?_
        refine lv_sipush (v := 255) hx hb dW_change_22 (by decide) ?_
        refine lv_icmp_le (tgt := 30) hx hb dW_change_25 (by decide) (fun hc_5 => ?_) (fun hc_5 => ?_)
        · replace hw := hw.1 hc_5
          refine lv_aload_n hx hb dW_change_30 rfl (lv_at hl 0 rfl) ?_
          obtain ⟨hz_6, hw⟩ := hw
          refine g_getR hC fkW_9 rfl hwo ho_1 hz_6 dW_change_31 ?_
          refine lv_iload_n hx hb dW_change_34 rfl (lv_at hl 1 rfl) ?_
          refine lv_dup2_11 hx hb dW_change_35 rfl rfl ?_
          obtain ⟨n_7, ha_8, hw⟩ := hw
          obtain ⟨hi_9, hw⟩ := hw
          refine g_iald hC hwo ha_8 hi_9 dW_change_36 ?_
          refine lv_iload_n hx hb dW_change_37 rfl (lv_at hl 2 rfl) ?_
          refine lv_ixor hx hb dW_change_38 ?_
          refine g_iast hC hwo hS ha_8 hi_9 dW_change_39 (fun V_10 eV_10 H locs hwo hS => ?_)
          replace hw := hw V_10 eV_10
          refine lv_iconst (v := 1) hx hb dW_change_40 (by decide) ?_
          exact g_zret hC hr hlk (Or.inr rfl) hw hwo hS dW_change_41
        · replace hw := hw.2 hc_5
          refine lv_iconst (v := 0) hx hb dW_change_28 (by decide) ?_
          exact g_zret hC hr hlk (Or.inl rfl) hw hwo hS dW_change_29
theorem dW_takeOut_0 : decode kW_takeOut 0 = .ok (.iload_n 1, 1) := by decide +kernel
theorem dW_takeOut_1 : decode kW_takeOut 1 = .ok (.aload_n 0, 1) := by decide +kernel
theorem dW_takeOut_2 : decode kW_takeOut 2 = .ok (.getfield 19, 3) := by decide +kernel
theorem dW_takeOut_5 : decode kW_takeOut 5 = .ok (.if_icmp .lt 26, 3) := by decide +kernel
theorem dW_takeOut_8 : decode kW_takeOut 8 = .ok (.iload_n 1, 1) := by decide +kernel
theorem dW_takeOut_9 : decode kW_takeOut 9 = .ok (.aload_n 0, 1) := by decide +kernel
theorem dW_takeOut_10 : decode kW_takeOut 10 = .ok (.getfield 15, 3) := by decide +kernel
theorem dW_takeOut_13 : decode kW_takeOut 13 = .ok (.if_icmp .ge 18, 3) := by decide +kernel
theorem dW_takeOut_16 : decode kW_takeOut 16 = .ok (.iload_n 2, 1) := by decide +kernel
theorem dW_takeOut_17 : decode kW_takeOut 17 = .ok (.iconst 1, 1) := by decide +kernel
theorem dW_takeOut_18 : decode kW_takeOut 18 = .ok (.if_icmp .lt 13, 3) := by decide +kernel
theorem dW_takeOut_21 : decode kW_takeOut 21 = .ok (.iload_n 2, 1) := by decide +kernel
theorem dW_takeOut_22 : decode kW_takeOut 22 = .ok (.aload_n 0, 1) := by decide +kernel
theorem dW_takeOut_23 : decode kW_takeOut 23 = .ok (.getfield 15, 3) := by decide +kernel
theorem dW_takeOut_26 : decode kW_takeOut 26 = .ok (.iload_n 1, 1) := by decide +kernel
theorem dW_takeOut_27 : decode kW_takeOut 27 = .ok (.isub, 1) := by decide +kernel
theorem dW_takeOut_28 : decode kW_takeOut 28 = .ok (.if_icmp .le 5, 3) := by decide +kernel
theorem dW_takeOut_31 : decode kW_takeOut 31 = .ok (.iconst 0, 1) := by decide +kernel
theorem dW_takeOut_32 : decode kW_takeOut 32 = .ok (.ireturn, 1) := by decide +kernel
theorem dW_takeOut_33 : decode kW_takeOut 33 = .ok (.aload_n 0, 1) := by decide +kernel
theorem dW_takeOut_34 : decode kW_takeOut 34 = .ok (.getfield 9, 3) := by decide +kernel
theorem dW_takeOut_37 : decode kW_takeOut 37 = .ok (.iload_n 1, 1) := by decide +kernel
theorem dW_takeOut_38 : decode kW_takeOut 38 = .ok (.iload_n 2, 1) := by decide +kernel
theorem dW_takeOut_39 : decode kW_takeOut 39 = .ok (.iadd, 1) := by decide +kernel
theorem dW_takeOut_40 : decode kW_takeOut 40 = .ok (.aload_n 0, 1) := by decide +kernel
theorem dW_takeOut_41 : decode kW_takeOut 41 = .ok (.getfield 9, 3) := by decide +kernel
theorem dW_takeOut_44 : decode kW_takeOut 44 = .ok (.iload_n 1, 1) := by decide +kernel
theorem dW_takeOut_45 : decode kW_takeOut 45 = .ok (.aload_n 0, 1) := by decide +kernel
theorem dW_takeOut_46 : decode kW_takeOut 46 = .ok (.getfield 15, 3) := by decide +kernel
theorem dW_takeOut_49 : decode kW_takeOut 49 = .ok (.iload_n 1, 1) := by decide +kernel
theorem dW_takeOut_50 : decode kW_takeOut 50 = .ok (.isub, 1) := by decide +kernel
theorem dW_takeOut_51 : decode kW_takeOut 51 = .ok (.iload_n 2, 1) := by decide +kernel
theorem dW_takeOut_52 : decode kW_takeOut 52 = .ok (.isub, 1) := by decide +kernel
theorem dW_takeOut_53 : decode kW_takeOut 53 = .ok (.invokestatic 22, 3) := by decide +kernel
theorem dW_takeOut_56 : decode kW_takeOut 56 = .ok (.aload_n 0, 1) := by decide +kernel
theorem dW_takeOut_57 : decode kW_takeOut 57 = .ok (.dup, 1) := by decide +kernel
theorem dW_takeOut_58 : decode kW_takeOut 58 = .ok (.getfield 15, 3) := by decide +kernel
theorem dW_takeOut_61 : decode kW_takeOut 61 = .ok (.iload_n 2, 1) := by decide +kernel
theorem dW_takeOut_62 : decode kW_takeOut 62 = .ok (.isub, 1) := by decide +kernel
theorem dW_takeOut_63 : decode kW_takeOut 63 = .ok (.putfield 15, 3) := by decide +kernel
theorem dW_takeOut_66 : decode kW_takeOut 66 = .ok (.iconst 1, 1) := by decide +kernel
theorem dW_takeOut_67 : decode kW_takeOut 67 = .ok (.ireturn, 1) := by decide +kernel
def wp_W_takeOut (θ : TH) (a0 : Nat) (x1 : Int32) (x2 : Int32) (V : VT) (U : UT) (K : Int32 → VT → UT → Prop) : Prop := isO θ a0 1 ∧ ((x1 < (V a0 2) → K (0 : Int32) V U) ∧ (¬ x1 < (V a0 2) → (((V a0 1) ≤ x1 → K (0 : Int32) V U) ∧ (¬ (V a0 1) ≤ x1 → ((x2 < (1 : Int32) → K (0 : Int32) V U) ∧ (¬ x2 < (1 : Int32) → ((x2 ≤ ((V a0 1) - x1) → (U a0 0) ≠ 0 ∧ ∃ n_7, isA θ (U a0 0) 0 n_7 ∧ ¬ (x1 + x2) < 0 ∧ ¬ x1 < 0 ∧ ¬ (((V a0 1) - x1) - x2) < 0 ∧ (x1 + x2).toNatClampNeg + (((V a0 1) - x1) - x2).toNatClampNeg ≤ n_7 ∧ x1.toNatClampNeg + (((V a0 1) - x1) - x2).toNatClampNeg ≤ n_7 ∧ ∀ V_14 : VT, V_14 = (fun q => if q = (U a0 0) then va_cpy (V (U a0 0)) (V (U a0 0)) (x1 + x2).toNatClampNeg x1.toNatClampNeg (((V a0 1) - x1) - x2).toNatClampNeg else V q) → ∀ V_15 : VT, V_15 = up2 V_14 a0 1 ((V_14 a0 1) - x2) → K (1 : Int32) V_15 U) ∧ (¬ x2 ≤ ((V a0 1) - x1) → K (0 : Int32) V U))))))))
set_option maxRecDepth 100000 in
set_option maxHeartbeats 4000000 in
theorem c_W_takeOut (l : Launch) (θ : TH) (a0 : Nat) (x1 : Int32) (x2 : Int32) (V : VT) (U : UT) (K : Int32 → VT → UT → Prop) (hw : wp_W_takeOut θ a0 x1 x2 V U K) : CMi l yW_takeOut kW_takeOut 3 (some .boolean) rmW_takeOut θ [.ref a0, .int x1, .int x2] V U K := by
  refine g_met nRW (by decide +kernel) rfl (Nat.le_of_ble_eq_true rfl) (fun p e s m args below meth c ls hC hr hlk hwo hl => ?_)
  have hx := hC.1
  have hb := hC.2.1
  have hS : Sx θ s s.heap [] := va_S.rf
  have hl : lv_has ls 3 [(0, .ref a0), (1, .int x1), (2, .int x2)] := hl
  unfold wp_W_takeOut at hw
  refine lv_iload_n hx hb dW_takeOut_0 rfl (lv_at hl 1 rfl) ?_
  refine lv_aload_n hx hb dW_takeOut_1 rfl (lv_at hl 0 rfl) ?_
  obtain ⟨ho_1, hw⟩ := hw
  refine g_getI hC fkW_19 rfl hwo ho_1 dW_takeOut_2 ?_
  refine lv_icmp_lt (tgt := 31) hx hb dW_takeOut_5 (by decide) (fun hc_2 => ?_) (fun hc_2 => ?_)
  · replace hw := hw.1 hc_2
    refine lv_iconst (v := 0) hx hb dW_takeOut_31 (by decide) ?_
    exact g_zret hC hr hlk (Or.inl rfl) hw hwo hS dW_takeOut_32
  · replace hw := hw.2 hc_2
    refine lv_iload_n hx hb dW_takeOut_8 rfl (lv_at hl 1 rfl) ?_
    refine lv_aload_n hx hb dW_takeOut_9 rfl (lv_at hl 0 rfl) ?_
    refine g_getI hC fkW_15 rfl hwo ho_1 dW_takeOut_10 ?_
    refine lv_icmp_ge (tgt := 31) hx hb dW_takeOut_13 (by decide) (fun hc_3 => ?_) (fun hc_3 => ?_)
    · replace hw := hw.1 hc_3
      refine lv_iconst (v := 0) hx hb dW_takeOut_31 (by decide) ?_
      exact g_zret hC hr hlk (Or.inl rfl) hw hwo hS dW_takeOut_32
    · replace hw := hw.2 hc_3
      refine lv_iload_n hx hb dW_takeOut_16 rfl (lv_at hl 2 rfl) ?_
      refine lv_iconst (v := 1) hx hb dW_takeOut_17 (by decide) ?_
      refine lv_icmp_lt (tgt := 31) hx hb dW_takeOut_18 (by decide) (fun hc_4 => ?_) (fun hc_4 => ?_)
      · replace hw := hw.1 hc_4
        refine lv_iconst (v := 0) hx hb dW_takeOut_31 (by decide) ?_
        exact g_zret hC hr hlk (Or.inl rfl) hw hwo hS dW_takeOut_32
      · replace hw := hw.2 hc_4
        refine lv_iload_n hx hb dW_takeOut_21 rfl (lv_at hl 2 rfl) ?_
        refine lv_aload_n hx hb dW_takeOut_22 rfl (lv_at hl 0 rfl) ?_
        refine g_getI hC fkW_15 rfl hwo ho_1 dW_takeOut_23 ?_
        refine lv_iload_n hx hb dW_takeOut_26 rfl (lv_at hl 1 rfl) ?_
        refine lv_isub hx hb dW_takeOut_27 ?_
        refine lv_icmp_le (tgt := 33) hx hb dW_takeOut_28 (by decide) (fun hc_5 => ?_) (fun hc_5 => ?_)
        · replace hw := hw.1 hc_5
          refine lv_aload_n hx hb dW_takeOut_33 rfl (lv_at hl 0 rfl) ?_
          obtain ⟨hz_6, hw⟩ := hw
          refine g_getR hC fkW_9 rfl hwo ho_1 hz_6 dW_takeOut_34 ?_
          refine lv_iload_n hx hb dW_takeOut_37 rfl (lv_at hl 1 rfl) ?_
          refine lv_iload_n hx hb dW_takeOut_38 rfl (lv_at hl 2 rfl) ?_
          refine lv_iadd hx hb dW_takeOut_39 ?_
          refine lv_aload_n hx hb dW_takeOut_40 rfl (lv_at hl 0 rfl) ?_
          refine g_getR hC fkW_9 rfl hwo ho_1 hz_6 dW_takeOut_41 ?_
          refine lv_iload_n hx hb dW_takeOut_44 rfl (lv_at hl 1 rfl) ?_
          refine lv_aload_n hx hb dW_takeOut_45 rfl (lv_at hl 0 rfl) ?_
          refine g_getI hC fkW_15 rfl hwo ho_1 dW_takeOut_46 ?_
          refine lv_iload_n hx hb dW_takeOut_49 rfl (lv_at hl 1 rfl) ?_
          refine lv_isub hx hb dW_takeOut_50 ?_
          refine lv_iload_n hx hb dW_takeOut_51 rfl (lv_at hl 2 rfl) ?_
          refine lv_isub hx hb dW_takeOut_52 ?_
          obtain ⟨n_7, ha_8, hw⟩ := hw
          obtain ⟨hp_9, hw⟩ := hw
          obtain ⟨hp_10, hw⟩ := hw
          obtain ⟨hp_11, hw⟩ := hw
          obtain ⟨hp_12, hw⟩ := hw
          obtain ⟨hp_13, hw⟩ := hw
          refine g_copy hC hl.1 lkW_22 ka_copy hwo hS ha_8 ha_8 hp_9 hp_10 hp_11 hp_12 hp_13 (by decide) (Nat.le_of_ble_eq_true rfl) dW_takeOut_53 (fun V_14 eV_14 H locs hwo hS => ?_)
          replace hw := hw V_14 eV_14
          refine lv_aload_n hx hb dW_takeOut_56 rfl (lv_at hl 0 rfl) ?_
          refine lv_dup hx hb dW_takeOut_57 rfl ?_
          refine g_getI hC fkW_15 rfl hwo ho_1 dW_takeOut_58 ?_
          refine lv_iload_n hx hb dW_takeOut_61 rfl (lv_at hl 2 rfl) ?_
          refine lv_isub hx hb dW_takeOut_62 ?_
          refine g_putI hC fkW_15 rfl hwo hS ho_1 dW_takeOut_63 (fun V_15 eV_15 H locs hwo hS => ?_)
          replace hw := hw V_15 eV_15
          refine lv_iconst (v := 1) hx hb dW_takeOut_66 (by decide) ?_
          exact g_zret hC hr hlk (Or.inr rfl) hw hwo hS dW_takeOut_67
        · replace hw := hw.2 hc_5
          refine lv_iconst (v := 0) hx hb dW_takeOut_31 (by decide) ?_
          exact g_zret hC hr hlk (Or.inl rfl) hw hwo hS dW_takeOut_32
theorem dW_canBeHead_0 : decode kW_canBeHead 0 = .ok (.iconst 0, 1) := by decide +kernel
theorem dW_canBeHead_1 : decode kW_canBeHead 1 = .ok (.istore_n 2, 1) := by decide +kernel
theorem dW_canBeHead_2 : decode kW_canBeHead 2 = .ok (.iload_n 2, 1) := by decide +kernel
theorem dW_canBeHead_3 : decode kW_canBeHead 3 = .ok (.getstatic 43, 3) := by decide +kernel
theorem dW_canBeHead_6 : decode kW_canBeHead 6 = .ok (.arraylength, 1) := by decide +kernel
theorem dW_canBeHead_7 : decode kW_canBeHead 7 = .ok (.if_icmp .ge 33, 3) := by decide +kernel
theorem dW_canBeHead_10 : decode kW_canBeHead 10 = .ok (.aload_n 0, 1) := by decide +kernel
theorem dW_canBeHead_11 : decode kW_canBeHead 11 = .ok (.iload_n 1, 1) := by decide +kernel
theorem dW_canBeHead_12 : decode kW_canBeHead 12 = .ok (.iload_n 2, 1) := by decide +kernel
theorem dW_canBeHead_13 : decode kW_canBeHead 13 = .ok (.iadd, 1) := by decide +kernel
theorem dW_canBeHead_14 : decode kW_canBeHead 14 = .ok (.invokevirtual 32, 3) := by decide +kernel
theorem dW_canBeHead_17 : decode kW_canBeHead 17 = .ok (.istore_n 3, 1) := by decide +kernel
theorem dW_canBeHead_18 : decode kW_canBeHead 18 = .ok (.iload_n 3, 1) := by decide +kernel
theorem dW_canBeHead_19 : decode kW_canBeHead 19 = .ok (.iconst (-1), 1) := by decide +kernel
theorem dW_canBeHead_20 : decode kW_canBeHead 20 = .ok (.if_icmp .eq 14, 3) := by decide +kernel
theorem dW_canBeHead_23 : decode kW_canBeHead 23 = .ok (.iload_n 3, 1) := by decide +kernel
theorem dW_canBeHead_24 : decode kW_canBeHead 24 = .ok (.getstatic 43, 3) := by decide +kernel
theorem dW_canBeHead_27 : decode kW_canBeHead 27 = .ok (.iload_n 2, 1) := by decide +kernel
theorem dW_canBeHead_28 : decode kW_canBeHead 28 = .ok (.iaload, 1) := by decide +kernel
theorem dW_canBeHead_29 : decode kW_canBeHead 29 = .ok (.if_icmp .eq 5, 3) := by decide +kernel
theorem dW_canBeHead_32 : decode kW_canBeHead 32 = .ok (.iconst 0, 1) := by decide +kernel
theorem dW_canBeHead_33 : decode kW_canBeHead 33 = .ok (.ireturn, 1) := by decide +kernel
theorem dW_canBeHead_34 : decode kW_canBeHead 34 = .ok (.iinc 2 1, 3) := by decide +kernel
theorem dW_canBeHead_37 : decode kW_canBeHead 37 = .ok (.goto (-35), 3) := by decide +kernel
theorem dW_canBeHead_40 : decode kW_canBeHead 40 = .ok (.aload_n 0, 1) := by decide +kernel
theorem dW_canBeHead_41 : decode kW_canBeHead 41 = .ok (.iload_n 1, 1) := by decide +kernel
theorem dW_canBeHead_42 : decode kW_canBeHead 42 = .ok (.iconst 4, 1) := by decide +kernel
theorem dW_canBeHead_43 : decode kW_canBeHead 43 = .ok (.iadd, 1) := by decide +kernel
theorem dW_canBeHead_44 : decode kW_canBeHead 44 = .ok (.invokevirtual 32, 3) := by decide +kernel
theorem dW_canBeHead_47 : decode kW_canBeHead 47 = .ok (.bipush 7, 2) := by decide +kernel
theorem dW_canBeHead_49 : decode kW_canBeHead 49 = .ok (.if_icmp .gt 20, 3) := by decide +kernel
theorem dW_canBeHead_52 : decode kW_canBeHead 52 = .ok (.aload_n 0, 1) := by decide +kernel
theorem dW_canBeHead_53 : decode kW_canBeHead 53 = .ok (.iload_n 1, 1) := by decide +kernel
theorem dW_canBeHead_54 : decode kW_canBeHead 54 = .ok (.bipush 13, 2) := by decide +kernel
theorem dW_canBeHead_56 : decode kW_canBeHead 56 = .ok (.iadd, 1) := by decide +kernel
theorem dW_canBeHead_57 : decode kW_canBeHead 57 = .ok (.invokevirtual 32, 3) := by decide +kernel
theorem dW_canBeHead_60 : decode kW_canBeHead 60 = .ok (.bipush 6, 2) := by decide +kernel
theorem dW_canBeHead_62 : decode kW_canBeHead 62 = .ok (.if_icmp .gt 7, 3) := by decide +kernel
theorem dW_canBeHead_65 : decode kW_canBeHead 65 = .ok (.iconst 1, 1) := by decide +kernel
theorem dW_canBeHead_66 : decode kW_canBeHead 66 = .ok (.goto 4, 3) := by decide +kernel
theorem dW_canBeHead_69 : decode kW_canBeHead 69 = .ok (.iconst 0, 1) := by decide +kernel
theorem dW_canBeHead_70 : decode kW_canBeHead 70 = .ok (.ireturn, 1) := by decide +kernel
def wb_W_canBeHead_69 (θ : TH) (K : Int32 → VT → UT → Prop) (V : VT) (U : UT) : Prop := K (0 : Int32) V U
def bl_W_canBeHead_2 (θ : TH) (a0_2 : Nat) (x1_2 : Int32) (K : Int32 → VT → UT → Prop) (kb2 : Int32 → VT → UT → Prop) (x2_2 : Int32) (V : VT) (U : UT) : Prop := (((4 : Int32) ≤ x2_2 → isO θ a0_2 1 ∧ wp_W_at θ a0_2 (x1_2 + (4 : Int32)) V U (fun r_5 V_2 U_3 => (((7 : Int32) < r_5 → wb_W_canBeHead_69 θ K V_2 U_3) ∧ (¬ (7 : Int32) < r_5 → wp_W_at θ a0_2 (x1_2 + (13 : Int32)) V_2 U_3 (fun r_9 V_7 U_8 => (((6 : Int32) < r_9 → wb_W_canBeHead_69 θ K V_7 U_8) ∧ (¬ (6 : Int32) < r_9 → K (1 : Int32) V_7 U_8))))))) ∧ (¬ (4 : Int32) ≤ x2_2 → isO θ a0_2 1 ∧ wp_W_at θ a0_2 (x1_2 + x2_2) V U (fun r_14 V_11 U_12 => ((r_14 = (-1 : Int32) → ∀ y_16 : Int32, y_16 = x2_2 + (1 : Int32) → kb2 y_16 V_11 U_12) ∧ (¬ r_14 = (-1 : Int32) → vp_in x2_2 (sLen 0) ∧ ((r_14 = (sV 0 x2_2.toNatClampNeg) → ∀ y_19 : Int32, y_19 = x2_2 + (1 : Int32) → kb2 y_19 V_11 U_12) ∧ (¬ r_14 = (sV 0 x2_2.toNatClampNeg) → K (0 : Int32) V_11 U_12)))))))
def wl_W_canBeHead_2 (θ : TH) (a0_2 : Nat) (x1_2 : Int32) (K : Int32 → VT → UT → Prop) : Nat → Int32 → VT → UT → Prop
  | 0, _, _, _ => False
  | n + 1, x2_2, V, U => bl_W_canBeHead_2 θ a0_2 x1_2 K (wl_W_canBeHead_2 θ a0_2 x1_2 K n) x2_2 V U
def wp_W_canBeHead (θ : TH) (a0 : Nat) (x1 : Int32) (V : VT) (U : UT) (K : Int32 → VT → UT → Prop) : Prop := ∃ n, wl_W_canBeHead_2 θ a0 x1 K n (0 : Int32) V U
set_option maxRecDepth 100000 in
set_option maxHeartbeats 4000000 in
theorem c_W_canBeHead (l : Launch) (θ : TH) (a0 : Nat) (x1 : Int32) (V : VT) (U : UT) (K : Int32 → VT → UT → Prop) (hw : wp_W_canBeHead θ a0 x1 V U K) : CMi l yW_canBeHead kW_canBeHead 4 (some .boolean) rmW_canBeHead θ [.ref a0, .int x1] V U K := by
  refine g_met nRW (by decide +kernel) rfl (Nat.le_of_ble_eq_true rfl) (fun p e s m args below meth c ls hC hr hlk hwo hl => ?_)
  have hx := hC.1
  have hb := hC.2.1
  have hS : Sx θ s s.heap [] := va_S.rf
  have hl : lv_has ls 4 [(0, .ref a0), (1, .int x1)] := hl
  have J69 : ∀ (V : VT) (U : UT) (H : Heap) (locs : List Loc) (ls : Array Slot), wb_W_canBeHead_69 θ K V U → wo θ V U H → Sx θ s H locs → lv_has ls 4 [] → W p l e rmW_canBeHead s m args below meth c H locs 0 0 (MQ below (QI θ K) args s 0 0 (aT θ)) (F0 m 69 ls []) := by
    intro V U H locs ls hw hwo hS hl
    unfold wb_W_canBeHead_69 at hw
    refine lv_iconst (v := 0) hx hb dW_canBeHead_69 (by decide) ?_
    exact g_zret hC hr hlk (Or.inl rfl) hw hwo hS dW_canBeHead_70
  have L2 : ∀ (a0_2 : Nat) (x1_2 : Int32) (n2 : Nat) (x2_2 : Int32) (V : VT) (U : UT) (H : Heap) (locs : List Loc) (ls : Array Slot), wl_W_canBeHead_2 θ a0_2 x1_2 K n2 x2_2 V U → wo θ V U H → Sx θ s H locs → lv_has ls 4 [(0, .ref a0_2), (1, .int x1_2), (2, .int x2_2)] → W p l e rmW_canBeHead s m args below meth c H locs 0 0 (MQ below (QI θ K) args s 0 0 (aT θ)) (F0 m 2 ls []) := by
    intro a0_2 x1_2 n2
    induction n2 with
    | zero => intro x2_2 V U H locs ls hw hwo hS hl; exact (show False from hw).elim
    | succ n2 ih2 =>
      intro x2_2 V U H locs ls hw hwo hS hl
      replace hw : bl_W_canBeHead_2 θ a0_2 x1_2 K (wl_W_canBeHead_2 θ a0_2 x1_2 K n2) x2_2 V U := hw
      unfold bl_W_canBeHead_2 at hw
      refine lv_iload_n hx hb dW_canBeHead_2 rfl (lv_at hl 2 rfl) ?_
      refine g_gets (j := 0) hC hS (by decide) skW_43 dW_canBeHead_3 ?_
      refine g_tlen (j := 0) (v := 4) hC hS (by decide) (by decide) dW_canBeHead_6 ?_
      refine lv_icmp_ge (tgt := 40) hx hb dW_canBeHead_7 (by decide) (fun hc_1 => ?_) (fun hc_1 => ?_)
      · replace hw := hw.1 hc_1
        refine lv_aload_n hx hb dW_canBeHead_40 rfl (lv_at hl 0 rfl) ?_
        refine lv_iload_n hx hb dW_canBeHead_41 rfl (lv_at hl 1 rfl) ?_
        refine lv_iconst (v := 4) hx hb dW_canBeHead_42 (by decide) ?_
        refine lv_iadd hx hb dW_canBeHead_43 ?_
        obtain ⟨ho_4, hw⟩ := hw
        refine g_Vi (rest := []) hC (c_W_at l θ _ _ _ _ _ hw) mi_W_at mlW_32 mv_W_at ci_1 ho_4 hwo hS ⟨rfl, rfl⟩ ⟨by decide, by decide⟩ rfl hl.1 rfl (Nat.le_of_ble_eq_true rfl) dW_canBeHead_44 (fun r_5 V_2 U_3 hw H locs hwo hS => ?_)
        refine lv_bipush (v := 7) hx hb dW_canBeHead_47 (by decide) ?_
        refine lv_icmp_gt (tgt := 69) hx hb dW_canBeHead_49 (by decide) (fun hc_6 => ?_) (fun hc_6 => ?_)
        · replace hw := hw.1 hc_6
          exact J69 _ _ _ _ _ hw hwo hS (lv_sub hl [] rfl)
        · replace hw := hw.2 hc_6
          refine lv_aload_n hx hb dW_canBeHead_52 rfl (lv_at hl 0 rfl) ?_
          refine lv_iload_n hx hb dW_canBeHead_53 rfl (lv_at hl 1 rfl) ?_
          refine lv_bipush (v := 13) hx hb dW_canBeHead_54 (by decide) ?_
          refine lv_iadd hx hb dW_canBeHead_56 ?_
          refine g_Vi (rest := []) hC (c_W_at l θ _ _ _ _ _ hw) mi_W_at mlW_32 mv_W_at ci_1 ho_4 hwo hS ⟨rfl, rfl⟩ ⟨by decide, by decide⟩ rfl hl.1 rfl (Nat.le_of_ble_eq_true rfl) dW_canBeHead_57 (fun r_9 V_7 U_8 hw H locs hwo hS => ?_)
          refine lv_bipush (v := 6) hx hb dW_canBeHead_60 (by decide) ?_
          refine lv_icmp_gt (tgt := 69) hx hb dW_canBeHead_62 (by decide) (fun hc_10 => ?_) (fun hc_10 => ?_)
          · replace hw := hw.1 hc_10
            exact J69 _ _ _ _ _ hw hwo hS (lv_sub hl [] rfl)
          · replace hw := hw.2 hc_10
            refine lv_iconst (v := 1) hx hb dW_canBeHead_65 (by decide) ?_
            refine lv_goto (tgt := 70) hx hb dW_canBeHead_66 (by decide) ?_
            exact g_zret hC hr hlk (Or.inr rfl) hw hwo hS dW_canBeHead_70
      · replace hw := hw.2 hc_1
        refine lv_aload_n hx hb dW_canBeHead_10 rfl (lv_at hl 0 rfl) ?_
        refine lv_iload_n hx hb dW_canBeHead_11 rfl (lv_at hl 1 rfl) ?_
        refine lv_iload_n hx hb dW_canBeHead_12 rfl (lv_at hl 2 rfl) ?_
        refine lv_iadd hx hb dW_canBeHead_13 ?_
        obtain ⟨ho_13, hw⟩ := hw
        refine g_Vi (rest := []) hC (c_W_at l θ _ _ _ _ _ hw) mi_W_at mlW_32 mv_W_at ci_1 ho_13 hwo hS ⟨rfl, rfl⟩ ⟨by decide, by decide⟩ rfl hl.1 rfl (Nat.le_of_ble_eq_true rfl) dW_canBeHead_14 (fun r_14 V_11 U_12 hw H locs hwo hS => ?_)
        refine lv_istore_n (i := 3) (lv' := [(3, .int r_14), (0, .ref a0_2), (1, .int x1_2), (2, .int x2_2)]) hx hb dW_canBeHead_17 rfl hl (by decide) rfl (fun ls hl => ?_)
        refine lv_iload_n hx hb dW_canBeHead_18 rfl (lv_at hl 0 rfl) ?_
        refine lv_iconst (v := -1) hx hb dW_canBeHead_19 (by decide) ?_
        refine lv_icmp_eq (tgt := 34) hx hb dW_canBeHead_20 (by decide) (fun hc_15 => ?_) (fun hc_15 => ?_)
        · replace hw := hw.1 hc_15
          obtain ⟨y_16, ey_16⟩ : ∃ z : Int32, z = x2_2 + (1 : Int32) := ⟨_, rfl⟩
          replace hw := hw y_16 ey_16
          refine lv_iinc (k := 3) (v := y_16) (lv' := [(2, .int y_16), (3, .int r_14), (0, .ref a0_2), (1, .int x1_2)]) hx hb dW_canBeHead_34 hl rfl (by rw [ey_16]; rfl) (by decide) rfl (fun ls hl => ?_)
          refine lv_goto (tgt := 2) hx hb dW_canBeHead_37 (by decide) ?_
          exact ih2 _ _ _ _ _ _ hw hwo hS (lv_sub hl [2, 3, 0] rfl)
        · replace hw := hw.2 hc_15
          refine lv_iload_n hx hb dW_canBeHead_23 rfl (lv_at hl 0 rfl) ?_
          refine g_gets (j := 0) hC hS (by decide) skW_43 dW_canBeHead_24 ?_
          refine lv_iload_n hx hb dW_canBeHead_27 rfl (lv_at hl 3 rfl) ?_
          obtain ⟨hi_17, hw⟩ := hw
          refine g_tald (j := 0) hC hS (by decide) hi_17 dW_canBeHead_28 ?_
          refine lv_icmp_eq (tgt := 34) hx hb dW_canBeHead_29 (by decide) (fun hc_18 => ?_) (fun hc_18 => ?_)
          · replace hw := hw.1 hc_18
            obtain ⟨y_19, ey_19⟩ : ∃ z : Int32, z = x2_2 + (1 : Int32) := ⟨_, rfl⟩
            replace hw := hw y_19 ey_19
            refine lv_iinc (k := 3) (v := y_19) (lv' := [(2, .int y_19), (3, .int r_14), (0, .ref a0_2), (1, .int x1_2)]) hx hb dW_canBeHead_34 hl rfl (by rw [ey_19]; rfl) (by decide) rfl (fun ls hl => ?_)
            refine lv_goto (tgt := 2) hx hb dW_canBeHead_37 (by decide) ?_
            exact ih2 _ _ _ _ _ _ hw hwo hS (lv_sub hl [2, 3, 0] rfl)
          · replace hw := hw.2 hc_18
            refine lv_iconst (v := 0) hx hb dW_canBeHead_32 (by decide) ?_
            exact g_zret hC hr hlk (Or.inl rfl) hw hwo hS dW_canBeHead_33
  unfold wp_W_canBeHead at hw
  refine lv_iconst (v := 0) hx hb dW_canBeHead_0 (by decide) ?_
  refine lv_istore_n (i := 2) (lv' := [(2, .int (0 : Int32)), (0, .ref a0), (1, .int x1)]) hx hb dW_canBeHead_1 rfl hl (by decide) rfl (fun ls hl => ?_)
  obtain ⟨n, hw⟩ := hw
  exact L2 _ _ n _ _ _ _ _ _ hw hwo hS (lv_sub hl [1, 2, 0] rfl)
theorem dW_checkOf_0 : decode kW_checkOf 0 = .ok (.iconst 0, 1) := by decide +kernel
theorem dW_checkOf_1 : decode kW_checkOf 1 = .ok (.istore_n 3, 1) := by decide +kernel
theorem dW_checkOf_2 : decode kW_checkOf 2 = .ok (.iconst 0, 1) := by decide +kernel
theorem dW_checkOf_3 : decode kW_checkOf 3 = .ok (.istore 4, 2) := by decide +kernel
theorem dW_checkOf_5 : decode kW_checkOf 5 = .ok (.iload 4, 2) := by decide +kernel
theorem dW_checkOf_7 : decode kW_checkOf 7 = .ok (.iload_n 2, 1) := by decide +kernel
theorem dW_checkOf_8 : decode kW_checkOf 8 = .ok (.if_icmp .ge 103, 3) := by decide +kernel
theorem dW_checkOf_11 : decode kW_checkOf 11 = .ok (.iload 4, 2) := by decide +kernel
theorem dW_checkOf_13 : decode kW_checkOf 13 = .ok (.bipush 9, 2) := by decide +kernel
theorem dW_checkOf_15 : decode kW_checkOf 15 = .ok (.if_icmp .lt 14, 3) := by decide +kernel
theorem dW_checkOf_18 : decode kW_checkOf 18 = .ok (.iload 4, 2) := by decide +kernel
theorem dW_checkOf_20 : decode kW_checkOf 20 = .ok (.bipush 13, 2) := by decide +kernel
theorem dW_checkOf_22 : decode kW_checkOf 22 = .ok (.if_icmp .ge 7, 3) := by decide +kernel
theorem dW_checkOf_25 : decode kW_checkOf 25 = .ok (.iconst 1, 1) := by decide +kernel
theorem dW_checkOf_26 : decode kW_checkOf 26 = .ok (.goto 4, 3) := by decide +kernel
theorem dW_checkOf_29 : decode kW_checkOf 29 = .ok (.iconst 0, 1) := by decide +kernel
theorem dW_checkOf_30 : decode kW_checkOf 30 = .ok (.istore 5, 2) := by decide +kernel
theorem dW_checkOf_32 : decode kW_checkOf 32 = .ok (.iload 5, 2) := by decide +kernel
theorem dW_checkOf_34 : decode kW_checkOf 34 = .ok (.ifCond .eq 7, 3) := by decide +kernel
theorem dW_checkOf_37 : decode kW_checkOf 37 = .ok (.iconst 0, 1) := by decide +kernel
theorem dW_checkOf_38 : decode kW_checkOf 38 = .ok (.goto 11, 3) := by decide +kernel
theorem dW_checkOf_41 : decode kW_checkOf 41 = .ok (.aload_n 0, 1) := by decide +kernel
theorem dW_checkOf_42 : decode kW_checkOf 42 = .ok (.iload_n 1, 1) := by decide +kernel
theorem dW_checkOf_43 : decode kW_checkOf 43 = .ok (.iload 4, 2) := by decide +kernel
theorem dW_checkOf_45 : decode kW_checkOf 45 = .ok (.iadd, 1) := by decide +kernel
theorem dW_checkOf_46 : decode kW_checkOf 46 = .ok (.invokevirtual 32, 3) := by decide +kernel
theorem dW_checkOf_49 : decode kW_checkOf 49 = .ok (.istore 6, 2) := by decide +kernel
theorem dW_checkOf_51 : decode kW_checkOf 51 = .ok (.bipush 7, 2) := by decide +kernel
theorem dW_checkOf_53 : decode kW_checkOf 53 = .ok (.istore 7, 2) := by decide +kernel
theorem dW_checkOf_55 : decode kW_checkOf 55 = .ok (.iload 7, 2) := by decide +kernel
theorem dW_checkOf_57 : decode kW_checkOf 57 = .ok (.ifCond .lt 48, 3) := by decide +kernel
theorem dW_checkOf_60 : decode kW_checkOf 60 = .ok (.iload_n 3, 1) := by decide +kernel
theorem dW_checkOf_61 : decode kW_checkOf 61 = .ok (.bipush 31, 2) := by decide +kernel
theorem dW_checkOf_63 : decode kW_checkOf 63 = .ok (.iushr, 1) := by decide +kernel
theorem dW_checkOf_64 : decode kW_checkOf 64 = .ok (.iload 6, 2) := by decide +kernel
theorem dW_checkOf_66 : decode kW_checkOf 66 = .ok (.iload 7, 2) := by decide +kernel
theorem dW_checkOf_68 : decode kW_checkOf 68 = .ok (.ishr, 1) := by decide +kernel
theorem dW_checkOf_69 : decode kW_checkOf 69 = .ok (.iconst 1, 1) := by decide +kernel
theorem dW_checkOf_70 : decode kW_checkOf 70 = .ok (.iand, 1) := by decide +kernel
theorem dW_checkOf_71 : decode kW_checkOf 71 = .ok (.if_icmp .eq 7, 3) := by decide +kernel
theorem dW_checkOf_74 : decode kW_checkOf 74 = .ok (.iconst 1, 1) := by decide +kernel
theorem dW_checkOf_75 : decode kW_checkOf 75 = .ok (.goto 4, 3) := by decide +kernel
theorem dW_checkOf_78 : decode kW_checkOf 78 = .ok (.iconst 0, 1) := by decide +kernel
theorem dW_checkOf_79 : decode kW_checkOf 79 = .ok (.istore 8, 2) := by decide +kernel
theorem dW_checkOf_81 : decode kW_checkOf 81 = .ok (.iload 8, 2) := by decide +kernel
theorem dW_checkOf_83 : decode kW_checkOf 83 = .ok (.ifCond .eq 12, 3) := by decide +kernel
theorem dW_checkOf_86 : decode kW_checkOf 86 = .ok (.iload_n 3, 1) := by decide +kernel
theorem dW_checkOf_87 : decode kW_checkOf 87 = .ok (.iconst 1, 1) := by decide +kernel
theorem dW_checkOf_88 : decode kW_checkOf 88 = .ok (.ishl, 1) := by decide +kernel
theorem dW_checkOf_89 : decode kW_checkOf 89 = .ok (.ldc 46, 2) := by decide +kernel
theorem dW_checkOf_91 : decode kW_checkOf 91 = .ok (.ixor, 1) := by decide +kernel
theorem dW_checkOf_92 : decode kW_checkOf 92 = .ok (.goto 6, 3) := by decide +kernel
theorem dW_checkOf_95 : decode kW_checkOf 95 = .ok (.iload_n 3, 1) := by decide +kernel
theorem dW_checkOf_96 : decode kW_checkOf 96 = .ok (.iconst 1, 1) := by decide +kernel
theorem dW_checkOf_97 : decode kW_checkOf 97 = .ok (.ishl, 1) := by decide +kernel
theorem dW_checkOf_98 : decode kW_checkOf 98 = .ok (.istore_n 3, 1) := by decide +kernel
theorem dW_checkOf_99 : decode kW_checkOf 99 = .ok (.iinc 7 (-1), 3) := by decide +kernel
theorem dW_checkOf_102 : decode kW_checkOf 102 = .ok (.goto (-47), 3) := by decide +kernel
theorem dW_checkOf_105 : decode kW_checkOf 105 = .ok (.iinc 4 1, 3) := by decide +kernel
theorem dW_checkOf_108 : decode kW_checkOf 108 = .ok (.goto (-103), 3) := by decide +kernel
theorem dW_checkOf_111 : decode kW_checkOf 111 = .ok (.iload_n 3, 1) := by decide +kernel
theorem dW_checkOf_112 : decode kW_checkOf 112 = .ok (.ireturn, 1) := by decide +kernel
def wb_W_checkOf_79 (θ : TH) (a0_5 : Nat) (x1_5 : Int32) (x2_5 : Int32) (x3_79 : Int32) (x4_55 : Int32) (x6_55 : Int32) (x7_79 : Int32) (z0_79 : Int32) (kb5 : Int32 → Int32 → VT → UT → Prop) (kb55 : Int32 → Int32 → VT → UT → Prop) (K : Int32 → VT → UT → Prop) (V : VT) (U : UT) : Prop := ((z0_79 = 0 → ∀ y_13 : Int32, y_13 = (x3_79 <<< ((1 : Int32) &&& 31)) → ∀ y_14 : Int32, y_14 = x7_79 + (-1 : Int32) → kb55 y_13 y_14 V U) ∧ (¬ z0_79 = 0 → ∀ y_15 : Int32, y_15 = ((x3_79 <<< ((1 : Int32) &&& 31)) ^^^ (79764919 : Int32)) → ∀ y_16 : Int32, y_16 = x7_79 + (-1 : Int32) → kb55 y_15 y_16 V U))
def bl_W_checkOf_55 (θ : TH) (a0_5 : Nat) (x1_5 : Int32) (x2_5 : Int32) (x4_55 : Int32) (x6_55 : Int32) (kb5 : Int32 → Int32 → VT → UT → Prop) (K : Int32 → VT → UT → Prop) (kb55 : Int32 → Int32 → VT → UT → Prop) (x3_55 : Int32) (x7_55 : Int32) (V : VT) (U : UT) : Prop := ((x7_55 < 0 → ∀ y_10 : Int32, y_10 = x4_55 + (1 : Int32) → kb5 x3_55 y_10 V U) ∧ (¬ x7_55 < 0 → (((x3_55.toUInt32 >>> ((31 : Int32).toUInt32 &&& Int32.toUInt32 31)).toInt32 = ((x6_55 >>> (x7_55 &&& 31)) &&& (1 : Int32)) → wb_W_checkOf_79 θ a0_5 x1_5 x2_5 x3_55 x4_55 x6_55 x7_55 (0 : Int32) kb5 kb55 K V U) ∧ (¬ (x3_55.toUInt32 >>> ((31 : Int32).toUInt32 &&& Int32.toUInt32 31)).toInt32 = ((x6_55 >>> (x7_55 &&& 31)) &&& (1 : Int32)) → wb_W_checkOf_79 θ a0_5 x1_5 x2_5 x3_55 x4_55 x6_55 x7_55 (1 : Int32) kb5 kb55 K V U))))
def wl_W_checkOf_55 (θ : TH) (a0_5 : Nat) (x1_5 : Int32) (x2_5 : Int32) (x4_55 : Int32) (x6_55 : Int32) (kb5 : Int32 → Int32 → VT → UT → Prop) (K : Int32 → VT → UT → Prop) : Nat → Int32 → Int32 → VT → UT → Prop
  | 0, _, _, _, _ => False
  | n + 1, x3_55, x7_55, V, U => bl_W_checkOf_55 θ a0_5 x1_5 x2_5 x4_55 x6_55 kb5 K (wl_W_checkOf_55 θ a0_5 x1_5 x2_5 x4_55 x6_55 kb5 K n) x3_55 x7_55 V U
def wb_W_checkOf_30 (θ : TH) (a0_5 : Nat) (x1_5 : Int32) (x2_5 : Int32) (x3_30 : Int32) (x4_30 : Int32) (z0_30 : Int32) (kb5 : Int32 → Int32 → VT → UT → Prop) (K : Int32 → VT → UT → Prop) (V : VT) (U : UT) : Prop := ((z0_30 = 0 → isO θ a0_5 1 ∧ wp_W_at θ a0_5 (x1_5 + x4_30) V U (fun r_8 V_5 U_6 => ∃ n, wl_W_checkOf_55 θ a0_5 x1_5 x2_5 x4_30 r_8 kb5 K n x3_30 (7 : Int32) V_5 U_6)) ∧ (¬ z0_30 = 0 → ∃ n, wl_W_checkOf_55 θ a0_5 x1_5 x2_5 x4_30 (0 : Int32) kb5 K n x3_30 (7 : Int32) V U))
def wb_W_checkOf_29 (θ : TH) (a0_5 : Nat) (x1_5 : Int32) (x2_5 : Int32) (x3_29 : Int32) (x4_29 : Int32) (kb5 : Int32 → Int32 → VT → UT → Prop) (K : Int32 → VT → UT → Prop) (V : VT) (U : UT) : Prop := wb_W_checkOf_30 θ a0_5 x1_5 x2_5 x3_29 x4_29 (0 : Int32) kb5 K V U
def bl_W_checkOf_5 (θ : TH) (a0_5 : Nat) (x1_5 : Int32) (x2_5 : Int32) (K : Int32 → VT → UT → Prop) (kb5 : Int32 → Int32 → VT → UT → Prop) (x3_5 : Int32) (x4_5 : Int32) (V : VT) (U : UT) : Prop := ((x2_5 ≤ x4_5 → K x3_5 V U) ∧ (¬ x2_5 ≤ x4_5 → ((x4_5 < (9 : Int32) → wb_W_checkOf_29 θ a0_5 x1_5 x2_5 x3_5 x4_5 kb5 K V U) ∧ (¬ x4_5 < (9 : Int32) → (((13 : Int32) ≤ x4_5 → wb_W_checkOf_29 θ a0_5 x1_5 x2_5 x3_5 x4_5 kb5 K V U) ∧ (¬ (13 : Int32) ≤ x4_5 → wb_W_checkOf_30 θ a0_5 x1_5 x2_5 x3_5 x4_5 (1 : Int32) kb5 K V U))))))
def wl_W_checkOf_5 (θ : TH) (a0_5 : Nat) (x1_5 : Int32) (x2_5 : Int32) (K : Int32 → VT → UT → Prop) : Nat → Int32 → Int32 → VT → UT → Prop
  | 0, _, _, _, _ => False
  | n + 1, x3_5, x4_5, V, U => bl_W_checkOf_5 θ a0_5 x1_5 x2_5 K (wl_W_checkOf_5 θ a0_5 x1_5 x2_5 K n) x3_5 x4_5 V U
def wp_W_checkOf (θ : TH) (a0 : Nat) (x1 : Int32) (x2 : Int32) (V : VT) (U : UT) (K : Int32 → VT → UT → Prop) : Prop := ∃ n, wl_W_checkOf_5 θ a0 x1 x2 K n (0 : Int32) (0 : Int32) V U
set_option maxRecDepth 100000 in
set_option maxHeartbeats 4000000 in
theorem c_W_checkOf (l : Launch) (θ : TH) (a0 : Nat) (x1 : Int32) (x2 : Int32) (V : VT) (U : UT) (K : Int32 → VT → UT → Prop) (hw : wp_W_checkOf θ a0 x1 x2 V U K) : CMi l yW_checkOf kW_checkOf 9 (some .int) rmW_checkOf θ [.ref a0, .int x1, .int x2] V U K := by
  refine g_met nRW (by decide +kernel) rfl (Nat.le_of_ble_eq_true rfl) (fun p e s m args below meth c ls hC hr hlk hwo hl => ?_)
  have hx := hC.1
  have hb := hC.2.1
  have hS : Sx θ s s.heap [] := va_S.rf
  have hl : lv_has ls 9 [(0, .ref a0), (1, .int x1), (2, .int x2)] := hl
  have L5 : ∀ (a0_5 : Nat) (x1_5 : Int32) (x2_5 : Int32) (n5 : Nat) (x3_5 : Int32) (x4_5 : Int32) (V : VT) (U : UT) (H : Heap) (locs : List Loc) (ls : Array Slot), wl_W_checkOf_5 θ a0_5 x1_5 x2_5 K n5 x3_5 x4_5 V U → wo θ V U H → Sx θ s H locs → lv_has ls 9 [(0, .ref a0_5), (1, .int x1_5), (2, .int x2_5), (3, .int x3_5), (4, .int x4_5)] → W p l e rmW_checkOf s m args below meth c H locs 0 0 (MQ below (QI θ K) args s 0 0 (aT θ)) (F0 m 5 ls []) := by
    intro a0_5 x1_5 x2_5 n5
    induction n5 with
    | zero => intro x3_5 x4_5 V U H locs ls hw hwo hS hl; exact (show False from hw).elim
    | succ n5 ih5 =>
      have L55 : ∀ (x4_55 : Int32) (x6_55 : Int32) (n55 : Nat) (x3_55 : Int32) (x7_55 : Int32) (V : VT) (U : UT) (H : Heap) (locs : List Loc) (ls : Array Slot), wl_W_checkOf_55 θ a0_5 x1_5 x2_5 x4_55 x6_55 (wl_W_checkOf_5 θ a0_5 x1_5 x2_5 K n5) K n55 x3_55 x7_55 V U → wo θ V U H → Sx θ s H locs → lv_has ls 9 [(0, .ref a0_5), (1, .int x1_5), (2, .int x2_5), (3, .int x3_55), (4, .int x4_55), (6, .int x6_55), (7, .int x7_55)] → W p l e rmW_checkOf s m args below meth c H locs 0 0 (MQ below (QI θ K) args s 0 0 (aT θ)) (F0 m 55 ls []) := by
        intro x4_55 x6_55 n55
        induction n55 with
        | zero => intro x3_55 x7_55 V U H locs ls hw hwo hS hl; exact (show False from hw).elim
        | succ n55 ih55 =>
          have J79 : ∀ (x3_79 : Int32) (x7_79 : Int32) (z0_79 : Int32) (V : VT) (U : UT) (H : Heap) (locs : List Loc) (ls : Array Slot), wb_W_checkOf_79 θ a0_5 x1_5 x2_5 x3_79 x4_55 x6_55 x7_79 z0_79 (wl_W_checkOf_5 θ a0_5 x1_5 x2_5 K n5) (wl_W_checkOf_55 θ a0_5 x1_5 x2_5 x4_55 x6_55 (wl_W_checkOf_5 θ a0_5 x1_5 x2_5 K n5) K n55) K V U → wo θ V U H → Sx θ s H locs → lv_has ls 9 [(0, .ref a0_5), (1, .int x1_5), (2, .int x2_5), (3, .int x3_79), (4, .int x4_55), (6, .int x6_55), (7, .int x7_79)] → W p l e rmW_checkOf s m args below meth c H locs 0 0 (MQ below (QI θ K) args s 0 0 (aT θ)) (F0 m 79 ls [.int z0_79]) := by
            intro x3_79 x7_79 z0_79 V U H locs ls hw hwo hS hl
            unfold wb_W_checkOf_79 at hw
            refine lv_istore (i := 8) (lv' := [(8, .int z0_79), (0, .ref a0_5), (1, .int x1_5), (2, .int x2_5), (3, .int x3_79), (4, .int x4_55), (6, .int x6_55), (7, .int x7_79)]) hx hb dW_checkOf_79 hl (by decide) rfl (fun ls hl => ?_)
            refine lv_iload hx hb dW_checkOf_81 (lv_at hl 0 rfl) ?_
            refine lv_if_eq (tgt := 95) hx hb dW_checkOf_83 (by decide) (fun hc_12 => ?_) (fun hc_12 => ?_)
            · replace hw := hw.1 hc_12
              refine lv_iload_n hx hb dW_checkOf_95 rfl (lv_at hl 4 rfl) ?_
              refine lv_iconst (v := 1) hx hb dW_checkOf_96 (by decide) ?_
              refine lv_ishl hx hb dW_checkOf_97 ?_
              refine lv_topi (fun y_13 ey_13 => ?_)
              replace hw := hw y_13 ey_13
              refine lv_istore_n (i := 3) (lv' := [(3, .int y_13), (8, .int z0_79), (0, .ref a0_5), (1, .int x1_5), (2, .int x2_5), (4, .int x4_55), (6, .int x6_55), (7, .int x7_79)]) hx hb dW_checkOf_98 rfl hl (by decide) rfl (fun ls hl => ?_)
              obtain ⟨y_14, ey_14⟩ : ∃ z : Int32, z = x7_79 + (-1 : Int32) := ⟨_, rfl⟩
              replace hw := hw y_14 ey_14
              refine lv_iinc (k := 7) (v := y_14) (lv' := [(7, .int y_14), (3, .int y_13), (8, .int z0_79), (0, .ref a0_5), (1, .int x1_5), (2, .int x2_5), (4, .int x4_55), (6, .int x6_55)]) hx hb dW_checkOf_99 hl rfl (by rw [ey_14]; rfl) (by decide) rfl (fun ls hl => ?_)
              refine lv_goto (tgt := 55) hx hb dW_checkOf_102 (by decide) ?_
              exact ih55 _ _ _ _ _ _ _ hw hwo hS (lv_sub hl [3, 4, 5, 1, 6, 7, 0] rfl)
            · replace hw := hw.2 hc_12
              refine lv_iload_n hx hb dW_checkOf_86 rfl (lv_at hl 4 rfl) ?_
              refine lv_iconst (v := 1) hx hb dW_checkOf_87 (by decide) ?_
              refine lv_ishl hx hb dW_checkOf_88 ?_
              refine lv_ldc hx hb hC.2.2.2.1 (hC.2.2.2.2.1 _ kcW_46) dW_checkOf_89 ?_
              refine lv_ixor hx hb dW_checkOf_91 ?_
              refine lv_goto (tgt := 98) hx hb dW_checkOf_92 (by decide) ?_
              refine lv_topi (fun y_15 ey_15 => ?_)
              replace hw := hw y_15 ey_15
              refine lv_istore_n (i := 3) (lv' := [(3, .int y_15), (8, .int z0_79), (0, .ref a0_5), (1, .int x1_5), (2, .int x2_5), (4, .int x4_55), (6, .int x6_55), (7, .int x7_79)]) hx hb dW_checkOf_98 rfl hl (by decide) rfl (fun ls hl => ?_)
              obtain ⟨y_16, ey_16⟩ : ∃ z : Int32, z = x7_79 + (-1 : Int32) := ⟨_, rfl⟩
              replace hw := hw y_16 ey_16
              refine lv_iinc (k := 7) (v := y_16) (lv' := [(7, .int y_16), (3, .int y_15), (8, .int z0_79), (0, .ref a0_5), (1, .int x1_5), (2, .int x2_5), (4, .int x4_55), (6, .int x6_55)]) hx hb dW_checkOf_99 hl rfl (by rw [ey_16]; rfl) (by decide) rfl (fun ls hl => ?_)
              refine lv_goto (tgt := 55) hx hb dW_checkOf_102 (by decide) ?_
              exact ih55 _ _ _ _ _ _ _ hw hwo hS (lv_sub hl [3, 4, 5, 1, 6, 7, 0] rfl)
          intro x3_55 x7_55 V U H locs ls hw hwo hS hl
          replace hw : bl_W_checkOf_55 θ a0_5 x1_5 x2_5 x4_55 x6_55 (wl_W_checkOf_5 θ a0_5 x1_5 x2_5 K n5) K (wl_W_checkOf_55 θ a0_5 x1_5 x2_5 x4_55 x6_55 (wl_W_checkOf_5 θ a0_5 x1_5 x2_5 K n5) K n55) x3_55 x7_55 V U := hw
          unfold bl_W_checkOf_55 at hw
          refine lv_iload hx hb dW_checkOf_55 (lv_at hl 6 rfl) ?_
          refine lv_if_lt (tgt := 105) hx hb dW_checkOf_57 (by decide) (fun hc_9 => ?_) (fun hc_9 => ?_)
          · replace hw := hw.1 hc_9
            obtain ⟨y_10, ey_10⟩ : ∃ z : Int32, z = x4_55 + (1 : Int32) := ⟨_, rfl⟩
            replace hw := hw y_10 ey_10
            refine lv_iinc (k := 4) (v := y_10) (lv' := [(4, .int y_10), (0, .ref a0_5), (1, .int x1_5), (2, .int x2_5), (3, .int x3_55), (6, .int x6_55), (7, .int x7_55)]) hx hb dW_checkOf_105 hl rfl (by rw [ey_10]; rfl) (by decide) rfl (fun ls hl => ?_)
            refine lv_goto (tgt := 5) hx hb dW_checkOf_108 (by decide) ?_
            exact ih5 _ _ _ _ _ _ _ hw hwo hS (lv_sub hl [1, 2, 3, 4, 0] rfl)
          · replace hw := hw.2 hc_9
            refine lv_iload_n hx hb dW_checkOf_60 rfl (lv_at hl 3 rfl) ?_
            refine lv_bipush (v := 31) hx hb dW_checkOf_61 (by decide) ?_
            refine lv_iushr hx hb dW_checkOf_63 rfl ?_
            refine lv_iload hx hb dW_checkOf_64 (lv_at hl 5 rfl) ?_
            refine lv_iload hx hb dW_checkOf_66 (lv_at hl 6 rfl) ?_
            refine lv_ishr hx hb dW_checkOf_68 ?_
            refine lv_iconst (v := 1) hx hb dW_checkOf_69 (by decide) ?_
            refine lv_iand hx hb dW_checkOf_70 ?_
            refine lv_icmp_eq (tgt := 78) hx hb dW_checkOf_71 (by decide) (fun hc_11 => ?_) (fun hc_11 => ?_)
            · replace hw := hw.1 hc_11
              refine lv_iconst (v := 0) hx hb dW_checkOf_78 (by decide) ?_
              exact J79 _ _ _ _ _ _ _ _ hw hwo hS (lv_sub hl [0, 1, 2, 3, 4, 5, 6] rfl)
            · replace hw := hw.2 hc_11
              refine lv_iconst (v := 1) hx hb dW_checkOf_74 (by decide) ?_
              refine lv_goto (tgt := 79) hx hb dW_checkOf_75 (by decide) ?_
              exact J79 _ _ _ _ _ _ _ _ hw hwo hS (lv_sub hl [0, 1, 2, 3, 4, 5, 6] rfl)
      have J30 : ∀ (x3_30 : Int32) (x4_30 : Int32) (z0_30 : Int32) (V : VT) (U : UT) (H : Heap) (locs : List Loc) (ls : Array Slot), wb_W_checkOf_30 θ a0_5 x1_5 x2_5 x3_30 x4_30 z0_30 (wl_W_checkOf_5 θ a0_5 x1_5 x2_5 K n5) K V U → wo θ V U H → Sx θ s H locs → lv_has ls 9 [(0, .ref a0_5), (1, .int x1_5), (2, .int x2_5), (3, .int x3_30), (4, .int x4_30)] → W p l e rmW_checkOf s m args below meth c H locs 0 0 (MQ below (QI θ K) args s 0 0 (aT θ)) (F0 m 30 ls [.int z0_30]) := by
        intro x3_30 x4_30 z0_30 V U H locs ls hw hwo hS hl
        unfold wb_W_checkOf_30 at hw
        refine lv_istore (i := 5) (lv' := [(5, .int z0_30), (0, .ref a0_5), (1, .int x1_5), (2, .int x2_5), (3, .int x3_30), (4, .int x4_30)]) hx hb dW_checkOf_30 hl (by decide) rfl (fun ls hl => ?_)
        refine lv_iload hx hb dW_checkOf_32 (lv_at hl 0 rfl) ?_
        refine lv_if_eq (tgt := 41) hx hb dW_checkOf_34 (by decide) (fun hc_4 => ?_) (fun hc_4 => ?_)
        · replace hw := hw.1 hc_4
          refine lv_aload_n hx hb dW_checkOf_41 rfl (lv_at hl 1 rfl) ?_
          refine lv_iload_n hx hb dW_checkOf_42 rfl (lv_at hl 2 rfl) ?_
          refine lv_iload hx hb dW_checkOf_43 (lv_at hl 5 rfl) ?_
          refine lv_iadd hx hb dW_checkOf_45 ?_
          obtain ⟨ho_7, hw⟩ := hw
          refine g_Vi (rest := []) hC (c_W_at l θ _ _ _ _ _ hw) mi_W_at mlW_32 mv_W_at ci_1 ho_7 hwo hS ⟨rfl, rfl⟩ ⟨by decide, by decide⟩ rfl hl.1 rfl (Nat.le_of_ble_eq_true rfl) dW_checkOf_46 (fun r_8 V_5 U_6 hw H locs hwo hS => ?_)
          refine lv_istore (i := 6) (lv' := [(6, .int r_8), (5, .int z0_30), (0, .ref a0_5), (1, .int x1_5), (2, .int x2_5), (3, .int x3_30), (4, .int x4_30)]) hx hb dW_checkOf_49 hl (by decide) rfl (fun ls hl => ?_)
          refine lv_bipush (v := 7) hx hb dW_checkOf_51 (by decide) ?_
          refine lv_istore (i := 7) (lv' := [(7, .int (7 : Int32)), (6, .int r_8), (5, .int z0_30), (0, .ref a0_5), (1, .int x1_5), (2, .int x2_5), (3, .int x3_30), (4, .int x4_30)]) hx hb dW_checkOf_53 hl (by decide) rfl (fun ls hl => ?_)
          obtain ⟨n, hw⟩ := hw
          exact L55 _ _ n _ _ _ _ _ _ _ hw hwo hS (lv_sub hl [3, 4, 5, 6, 7, 1, 0] rfl)
        · replace hw := hw.2 hc_4
          refine lv_iconst (v := 0) hx hb dW_checkOf_37 (by decide) ?_
          refine lv_goto (tgt := 49) hx hb dW_checkOf_38 (by decide) ?_
          refine lv_istore (i := 6) (lv' := [(6, .int (0 : Int32)), (5, .int z0_30), (0, .ref a0_5), (1, .int x1_5), (2, .int x2_5), (3, .int x3_30), (4, .int x4_30)]) hx hb dW_checkOf_49 hl (by decide) rfl (fun ls hl => ?_)
          refine lv_bipush (v := 7) hx hb dW_checkOf_51 (by decide) ?_
          refine lv_istore (i := 7) (lv' := [(7, .int (7 : Int32)), (6, .int (0 : Int32)), (5, .int z0_30), (0, .ref a0_5), (1, .int x1_5), (2, .int x2_5), (3, .int x3_30), (4, .int x4_30)]) hx hb dW_checkOf_53 hl (by decide) rfl (fun ls hl => ?_)
          obtain ⟨n, hw⟩ := hw
          exact L55 _ _ n _ _ _ _ _ _ _ hw hwo hS (lv_sub hl [3, 4, 5, 6, 7, 1, 0] rfl)
      have J29 : ∀ (x3_29 : Int32) (x4_29 : Int32) (V : VT) (U : UT) (H : Heap) (locs : List Loc) (ls : Array Slot), wb_W_checkOf_29 θ a0_5 x1_5 x2_5 x3_29 x4_29 (wl_W_checkOf_5 θ a0_5 x1_5 x2_5 K n5) K V U → wo θ V U H → Sx θ s H locs → lv_has ls 9 [(0, .ref a0_5), (1, .int x1_5), (2, .int x2_5), (3, .int x3_29), (4, .int x4_29)] → W p l e rmW_checkOf s m args below meth c H locs 0 0 (MQ below (QI θ K) args s 0 0 (aT θ)) (F0 m 29 ls []) := by
        intro x3_29 x4_29 V U H locs ls hw hwo hS hl
        unfold wb_W_checkOf_29 at hw
        refine lv_iconst (v := 0) hx hb dW_checkOf_29 (by decide) ?_
        exact J30 _ _ _ _ _ _ _ _ hw hwo hS (lv_sub hl [0, 1, 2, 3, 4] rfl)
      intro x3_5 x4_5 V U H locs ls hw hwo hS hl
      replace hw : bl_W_checkOf_5 θ a0_5 x1_5 x2_5 K (wl_W_checkOf_5 θ a0_5 x1_5 x2_5 K n5) x3_5 x4_5 V U := hw
      unfold bl_W_checkOf_5 at hw
      refine lv_iload hx hb dW_checkOf_5 (lv_at hl 4 rfl) ?_
      refine lv_iload_n hx hb dW_checkOf_7 rfl (lv_at hl 2 rfl) ?_
      refine lv_icmp_ge (tgt := 111) hx hb dW_checkOf_8 (by decide) (fun hc_1 => ?_) (fun hc_1 => ?_)
      · replace hw := hw.1 hc_1
        refine lv_iload_n hx hb dW_checkOf_111 rfl (lv_at hl 3 rfl) ?_
        exact g_iret hC hr hlk hw hwo hS dW_checkOf_112
      · replace hw := hw.2 hc_1
        refine lv_iload hx hb dW_checkOf_11 (lv_at hl 4 rfl) ?_
        refine lv_bipush (v := 9) hx hb dW_checkOf_13 (by decide) ?_
        refine lv_icmp_lt (tgt := 29) hx hb dW_checkOf_15 (by decide) (fun hc_2 => ?_) (fun hc_2 => ?_)
        · replace hw := hw.1 hc_2
          exact J29 _ _ _ _ _ _ _ hw hwo hS (lv_sub hl [0, 1, 2, 3, 4] rfl)
        · replace hw := hw.2 hc_2
          refine lv_iload hx hb dW_checkOf_18 (lv_at hl 4 rfl) ?_
          refine lv_bipush (v := 13) hx hb dW_checkOf_20 (by decide) ?_
          refine lv_icmp_ge (tgt := 29) hx hb dW_checkOf_22 (by decide) (fun hc_3 => ?_) (fun hc_3 => ?_)
          · replace hw := hw.1 hc_3
            exact J29 _ _ _ _ _ _ _ hw hwo hS (lv_sub hl [0, 1, 2, 3, 4] rfl)
          · replace hw := hw.2 hc_3
            refine lv_iconst (v := 1) hx hb dW_checkOf_25 (by decide) ?_
            refine lv_goto (tgt := 30) hx hb dW_checkOf_26 (by decide) ?_
            exact J30 _ _ _ _ _ _ _ _ hw hwo hS (lv_sub hl [0, 1, 2, 3, 4] rfl)
  unfold wp_W_checkOf at hw
  refine lv_iconst (v := 0) hx hb dW_checkOf_0 (by decide) ?_
  refine lv_istore_n (i := 3) (lv' := [(3, .int (0 : Int32)), (0, .ref a0), (1, .int x1), (2, .int x2)]) hx hb dW_checkOf_1 rfl hl (by decide) rfl (fun ls hl => ?_)
  refine lv_iconst (v := 0) hx hb dW_checkOf_2 (by decide) ?_
  refine lv_istore (i := 4) (lv' := [(4, .int (0 : Int32)), (3, .int (0 : Int32)), (0, .ref a0), (1, .int x1), (2, .int x2)]) hx hb dW_checkOf_3 hl (by decide) rfl (fun ls hl => ?_)
  obtain ⟨n, hw⟩ := hw
  exact L5 _ _ _ n _ _ _ _ _ _ _ hw hwo hS (lv_sub hl [2, 3, 4, 1, 0] rfl)
theorem dW_checkAt_0 : decode kW_checkAt 0 = .ok (.iconst 0, 1) := by decide +kernel
theorem dW_checkAt_1 : decode kW_checkAt 1 = .ok (.istore_n 2, 1) := by decide +kernel
theorem dW_checkAt_2 : decode kW_checkAt 2 = .ok (.iconst 3, 1) := by decide +kernel
theorem dW_checkAt_3 : decode kW_checkAt 3 = .ok (.istore_n 3, 1) := by decide +kernel
theorem dW_checkAt_4 : decode kW_checkAt 4 = .ok (.iload_n 3, 1) := by decide +kernel
theorem dW_checkAt_5 : decode kW_checkAt 5 = .ok (.ifCond .lt 25, 3) := by decide +kernel
theorem dW_checkAt_8 : decode kW_checkAt 8 = .ok (.iload_n 2, 1) := by decide +kernel
theorem dW_checkAt_9 : decode kW_checkAt 9 = .ok (.bipush 8, 2) := by decide +kernel
theorem dW_checkAt_11 : decode kW_checkAt 11 = .ok (.ishl, 1) := by decide +kernel
theorem dW_checkAt_12 : decode kW_checkAt 12 = .ok (.aload_n 0, 1) := by decide +kernel
theorem dW_checkAt_13 : decode kW_checkAt 13 = .ok (.iload_n 1, 1) := by decide +kernel
theorem dW_checkAt_14 : decode kW_checkAt 14 = .ok (.bipush 9, 2) := by decide +kernel
theorem dW_checkAt_16 : decode kW_checkAt 16 = .ok (.iadd, 1) := by decide +kernel
theorem dW_checkAt_17 : decode kW_checkAt 17 = .ok (.iload_n 3, 1) := by decide +kernel
theorem dW_checkAt_18 : decode kW_checkAt 18 = .ok (.iadd, 1) := by decide +kernel
theorem dW_checkAt_19 : decode kW_checkAt 19 = .ok (.invokevirtual 32, 3) := by decide +kernel
theorem dW_checkAt_22 : decode kW_checkAt 22 = .ok (.ior, 1) := by decide +kernel
theorem dW_checkAt_23 : decode kW_checkAt 23 = .ok (.istore_n 2, 1) := by decide +kernel
theorem dW_checkAt_24 : decode kW_checkAt 24 = .ok (.iinc 3 (-1), 3) := by decide +kernel
theorem dW_checkAt_27 : decode kW_checkAt 27 = .ok (.goto (-23), 3) := by decide +kernel
theorem dW_checkAt_30 : decode kW_checkAt 30 = .ok (.iload_n 2, 1) := by decide +kernel
theorem dW_checkAt_31 : decode kW_checkAt 31 = .ok (.ireturn, 1) := by decide +kernel
def bl_W_checkAt_4 (θ : TH) (a0_4 : Nat) (x1_4 : Int32) (K : Int32 → VT → UT → Prop) (kb4 : Int32 → Int32 → VT → UT → Prop) (x2_4 : Int32) (x3_4 : Int32) (V : VT) (U : UT) : Prop := ((x3_4 < 0 → K x2_4 V U) ∧ (¬ x3_4 < 0 → isO θ a0_4 1 ∧ wp_W_at θ a0_4 ((x1_4 + (9 : Int32)) + x3_4) V U (fun r_5 V_2 U_3 => ∀ y_6 : Int32, y_6 = ((x2_4 <<< ((8 : Int32) &&& 31)) ||| r_5) → ∀ y_7 : Int32, y_7 = x3_4 + (-1 : Int32) → kb4 y_6 y_7 V_2 U_3)))
def wl_W_checkAt_4 (θ : TH) (a0_4 : Nat) (x1_4 : Int32) (K : Int32 → VT → UT → Prop) : Nat → Int32 → Int32 → VT → UT → Prop
  | 0, _, _, _, _ => False
  | n + 1, x2_4, x3_4, V, U => bl_W_checkAt_4 θ a0_4 x1_4 K (wl_W_checkAt_4 θ a0_4 x1_4 K n) x2_4 x3_4 V U
def wp_W_checkAt (θ : TH) (a0 : Nat) (x1 : Int32) (V : VT) (U : UT) (K : Int32 → VT → UT → Prop) : Prop := ∃ n, wl_W_checkAt_4 θ a0 x1 K n (0 : Int32) (3 : Int32) V U
set_option maxRecDepth 100000 in
set_option maxHeartbeats 4000000 in
theorem c_W_checkAt (l : Launch) (θ : TH) (a0 : Nat) (x1 : Int32) (V : VT) (U : UT) (K : Int32 → VT → UT → Prop) (hw : wp_W_checkAt θ a0 x1 V U K) : CMi l yW_checkAt kW_checkAt 4 (some .int) rmW_checkAt θ [.ref a0, .int x1] V U K := by
  refine g_met nRW (by decide +kernel) rfl (Nat.le_of_ble_eq_true rfl) (fun p e s m args below meth c ls hC hr hlk hwo hl => ?_)
  have hx := hC.1
  have hb := hC.2.1
  have hS : Sx θ s s.heap [] := va_S.rf
  have hl : lv_has ls 4 [(0, .ref a0), (1, .int x1)] := hl
  have L4 : ∀ (a0_4 : Nat) (x1_4 : Int32) (n4 : Nat) (x2_4 : Int32) (x3_4 : Int32) (V : VT) (U : UT) (H : Heap) (locs : List Loc) (ls : Array Slot), wl_W_checkAt_4 θ a0_4 x1_4 K n4 x2_4 x3_4 V U → wo θ V U H → Sx θ s H locs → lv_has ls 4 [(0, .ref a0_4), (1, .int x1_4), (2, .int x2_4), (3, .int x3_4)] → W p l e rmW_checkAt s m args below meth c H locs 0 0 (MQ below (QI θ K) args s 0 0 (aT θ)) (F0 m 4 ls []) := by
    intro a0_4 x1_4 n4
    induction n4 with
    | zero => intro x2_4 x3_4 V U H locs ls hw hwo hS hl; exact (show False from hw).elim
    | succ n4 ih4 =>
      intro x2_4 x3_4 V U H locs ls hw hwo hS hl
      replace hw : bl_W_checkAt_4 θ a0_4 x1_4 K (wl_W_checkAt_4 θ a0_4 x1_4 K n4) x2_4 x3_4 V U := hw
      unfold bl_W_checkAt_4 at hw
      refine lv_iload_n hx hb dW_checkAt_4 rfl (lv_at hl 3 rfl) ?_
      refine lv_if_lt (tgt := 30) hx hb dW_checkAt_5 (by decide) (fun hc_1 => ?_) (fun hc_1 => ?_)
      · replace hw := hw.1 hc_1
        refine lv_iload_n hx hb dW_checkAt_30 rfl (lv_at hl 2 rfl) ?_
        exact g_iret hC hr hlk hw hwo hS dW_checkAt_31
      · replace hw := hw.2 hc_1
        refine lv_iload_n hx hb dW_checkAt_8 rfl (lv_at hl 2 rfl) ?_
        refine lv_bipush (v := 8) hx hb dW_checkAt_9 (by decide) ?_
        refine lv_ishl hx hb dW_checkAt_11 ?_
        refine lv_aload_n hx hb dW_checkAt_12 rfl (lv_at hl 0 rfl) ?_
        refine lv_iload_n hx hb dW_checkAt_13 rfl (lv_at hl 1 rfl) ?_
        refine lv_bipush (v := 9) hx hb dW_checkAt_14 (by decide) ?_
        refine lv_iadd hx hb dW_checkAt_16 ?_
        refine lv_iload_n hx hb dW_checkAt_17 rfl (lv_at hl 3 rfl) ?_
        refine lv_iadd hx hb dW_checkAt_18 ?_
        obtain ⟨ho_4, hw⟩ := hw
        refine g_Vi (rest := [.int (x2_4 <<< ((8 : Int32) &&& 31))]) hC (c_W_at l θ _ _ _ _ _ hw) mi_W_at mlW_32 mv_W_at ci_1 ho_4 hwo hS ⟨rfl, rfl⟩ ⟨by decide, by decide⟩ rfl hl.1 rfl (Nat.le_of_ble_eq_true rfl) dW_checkAt_19 (fun r_5 V_2 U_3 hw H locs hwo hS => ?_)
        refine lv_ior hx hb dW_checkAt_22 ?_
        refine lv_topi (fun y_6 ey_6 => ?_)
        replace hw := hw y_6 ey_6
        refine lv_istore_n (i := 2) (lv' := [(2, .int y_6), (0, .ref a0_4), (1, .int x1_4), (3, .int x3_4)]) hx hb dW_checkAt_23 rfl hl (by decide) rfl (fun ls hl => ?_)
        obtain ⟨y_7, ey_7⟩ : ∃ z : Int32, z = x3_4 + (-1 : Int32) := ⟨_, rfl⟩
        replace hw := hw y_7 ey_7
        refine lv_iinc (k := 3) (v := y_7) (lv' := [(3, .int y_7), (2, .int y_6), (0, .ref a0_4), (1, .int x1_4)]) hx hb dW_checkAt_24 hl rfl (by rw [ey_7]; rfl) (by decide) rfl (fun ls hl => ?_)
        refine lv_goto (tgt := 4) hx hb dW_checkAt_27 (by decide) ?_
        exact ih4 _ _ _ _ _ _ _ hw hwo hS (lv_sub hl [2, 3, 1, 0] rfl)
  unfold wp_W_checkAt at hw
  refine lv_iconst (v := 0) hx hb dW_checkAt_0 (by decide) ?_
  refine lv_istore_n (i := 2) (lv' := [(2, .int (0 : Int32)), (0, .ref a0), (1, .int x1)]) hx hb dW_checkAt_1 rfl hl (by decide) rfl (fun ls hl => ?_)
  refine lv_iconst (v := 3) hx hb dW_checkAt_2 (by decide) ?_
  refine lv_istore_n (i := 3) (lv' := [(3, .int (3 : Int32)), (2, .int (0 : Int32)), (0, .ref a0), (1, .int x1)]) hx hb dW_checkAt_3 rfl hl (by decide) rfl (fun ls hl => ?_)
  obtain ⟨n, hw⟩ := hw
  exact L4 _ _ n _ _ _ _ _ _ _ hw hwo hS (lv_sub hl [2, 3, 1, 0] rfl)
theorem dW_pageAt_0 : decode kW_pageAt 0 = .ok (.aload_n 0, 1) := by decide +kernel
theorem dW_pageAt_1 : decode kW_pageAt 1 = .ok (.iload_n 1, 1) := by decide +kernel
theorem dW_pageAt_2 : decode kW_pageAt 2 = .ok (.invokevirtual 28, 3) := by decide +kernel
theorem dW_pageAt_5 : decode kW_pageAt 5 = .ok (.ifCond .ne 5, 3) := by decide +kernel
theorem dW_pageAt_8 : decode kW_pageAt 8 = .ok (.iconst (-1), 1) := by decide +kernel
theorem dW_pageAt_9 : decode kW_pageAt 9 = .ok (.ireturn, 1) := by decide +kernel
theorem dW_pageAt_10 : decode kW_pageAt 10 = .ok (.aload_n 0, 1) := by decide +kernel
theorem dW_pageAt_11 : decode kW_pageAt 11 = .ok (.iload_n 1, 1) := by decide +kernel
theorem dW_pageAt_12 : decode kW_pageAt 12 = .ok (.bipush 13, 2) := by decide +kernel
theorem dW_pageAt_14 : decode kW_pageAt 14 = .ok (.iadd, 1) := by decide +kernel
theorem dW_pageAt_15 : decode kW_pageAt 15 = .ok (.invokevirtual 32, 3) := by decide +kernel
theorem dW_pageAt_18 : decode kW_pageAt 18 = .ok (.istore_n 2, 1) := by decide +kernel
theorem dW_pageAt_19 : decode kW_pageAt 19 = .ok (.iload_n 2, 1) := by decide +kernel
theorem dW_pageAt_20 : decode kW_pageAt 20 = .ok (.iconst (-1), 1) := by decide +kernel
theorem dW_pageAt_21 : decode kW_pageAt 21 = .ok (.if_icmp .ne 5, 3) := by decide +kernel
theorem dW_pageAt_24 : decode kW_pageAt 24 = .ok (.iconst 0, 1) := by decide +kernel
theorem dW_pageAt_25 : decode kW_pageAt 25 = .ok (.ireturn, 1) := by decide +kernel
theorem dW_pageAt_26 : decode kW_pageAt 26 = .ok (.bipush 14, 2) := by decide +kernel
theorem dW_pageAt_28 : decode kW_pageAt 28 = .ok (.iload_n 2, 1) := by decide +kernel
theorem dW_pageAt_29 : decode kW_pageAt 29 = .ok (.iadd, 1) := by decide +kernel
theorem dW_pageAt_30 : decode kW_pageAt 30 = .ok (.istore_n 3, 1) := by decide +kernel
theorem dW_pageAt_31 : decode kW_pageAt 31 = .ok (.iconst 0, 1) := by decide +kernel
theorem dW_pageAt_32 : decode kW_pageAt 32 = .ok (.istore 4, 2) := by decide +kernel
theorem dW_pageAt_34 : decode kW_pageAt 34 = .ok (.iload 4, 2) := by decide +kernel
theorem dW_pageAt_36 : decode kW_pageAt 36 = .ok (.iload_n 2, 1) := by decide +kernel
theorem dW_pageAt_37 : decode kW_pageAt 37 = .ok (.if_icmp .ge 44, 3) := by decide +kernel
theorem dW_pageAt_40 : decode kW_pageAt 40 = .ok (.aload_n 0, 1) := by decide +kernel
theorem dW_pageAt_41 : decode kW_pageAt 41 = .ok (.iload_n 1, 1) := by decide +kernel
theorem dW_pageAt_42 : decode kW_pageAt 42 = .ok (.bipush 14, 2) := by decide +kernel
theorem dW_pageAt_44 : decode kW_pageAt 44 = .ok (.iadd, 1) := by decide +kernel
theorem dW_pageAt_45 : decode kW_pageAt 45 = .ok (.iload 4, 2) := by decide +kernel
theorem dW_pageAt_47 : decode kW_pageAt 47 = .ok (.iadd, 1) := by decide +kernel
theorem dW_pageAt_48 : decode kW_pageAt 48 = .ok (.invokevirtual 32, 3) := by decide +kernel
theorem dW_pageAt_51 : decode kW_pageAt 51 = .ok (.istore 5, 2) := by decide +kernel
theorem dW_pageAt_53 : decode kW_pageAt 53 = .ok (.iload 5, 2) := by decide +kernel
theorem dW_pageAt_55 : decode kW_pageAt 55 = .ok (.iconst (-1), 1) := by decide +kernel
theorem dW_pageAt_56 : decode kW_pageAt 56 = .ok (.if_icmp .ne 5, 3) := by decide +kernel
theorem dW_pageAt_59 : decode kW_pageAt 59 = .ok (.iconst 0, 1) := by decide +kernel
theorem dW_pageAt_60 : decode kW_pageAt 60 = .ok (.ireturn, 1) := by decide +kernel
theorem dW_pageAt_61 : decode kW_pageAt 61 = .ok (.iload 5, 2) := by decide +kernel
theorem dW_pageAt_63 : decode kW_pageAt 63 = .ok (.bipush 15, 2) := by decide +kernel
theorem dW_pageAt_65 : decode kW_pageAt 65 = .ok (.if_icmp .le 5, 3) := by decide +kernel
theorem dW_pageAt_68 : decode kW_pageAt 68 = .ok (.iconst (-1), 1) := by decide +kernel
theorem dW_pageAt_69 : decode kW_pageAt 69 = .ok (.ireturn, 1) := by decide +kernel
theorem dW_pageAt_70 : decode kW_pageAt 70 = .ok (.iload_n 3, 1) := by decide +kernel
theorem dW_pageAt_71 : decode kW_pageAt 71 = .ok (.iload 5, 2) := by decide +kernel
theorem dW_pageAt_73 : decode kW_pageAt 73 = .ok (.iadd, 1) := by decide +kernel
theorem dW_pageAt_74 : decode kW_pageAt 74 = .ok (.istore_n 3, 1) := by decide +kernel
theorem dW_pageAt_75 : decode kW_pageAt 75 = .ok (.iinc 4 1, 3) := by decide +kernel
theorem dW_pageAt_78 : decode kW_pageAt 78 = .ok (.goto (-44), 3) := by decide +kernel
theorem dW_pageAt_81 : decode kW_pageAt 81 = .ok (.iload_n 3, 1) := by decide +kernel
theorem dW_pageAt_82 : decode kW_pageAt 82 = .ok (.aload_n 0, 1) := by decide +kernel
theorem dW_pageAt_83 : decode kW_pageAt 83 = .ok (.getfield 15, 3) := by decide +kernel
theorem dW_pageAt_86 : decode kW_pageAt 86 = .ok (.iload_n 1, 1) := by decide +kernel
theorem dW_pageAt_87 : decode kW_pageAt 87 = .ok (.isub, 1) := by decide +kernel
theorem dW_pageAt_88 : decode kW_pageAt 88 = .ok (.if_icmp .le 5, 3) := by decide +kernel
theorem dW_pageAt_91 : decode kW_pageAt 91 = .ok (.iconst 0, 1) := by decide +kernel
theorem dW_pageAt_92 : decode kW_pageAt 92 = .ok (.ireturn, 1) := by decide +kernel
theorem dW_pageAt_93 : decode kW_pageAt 93 = .ok (.aload_n 0, 1) := by decide +kernel
theorem dW_pageAt_94 : decode kW_pageAt 94 = .ok (.iload_n 1, 1) := by decide +kernel
theorem dW_pageAt_95 : decode kW_pageAt 95 = .ok (.iload_n 3, 1) := by decide +kernel
theorem dW_pageAt_96 : decode kW_pageAt 96 = .ok (.invokevirtual 36, 3) := by decide +kernel
theorem dW_pageAt_99 : decode kW_pageAt 99 = .ok (.aload_n 0, 1) := by decide +kernel
theorem dW_pageAt_100 : decode kW_pageAt 100 = .ok (.iload_n 1, 1) := by decide +kernel
theorem dW_pageAt_101 : decode kW_pageAt 101 = .ok (.invokevirtual 40, 3) := by decide +kernel
theorem dW_pageAt_104 : decode kW_pageAt 104 = .ok (.if_icmp .ne 7, 3) := by decide +kernel
theorem dW_pageAt_107 : decode kW_pageAt 107 = .ok (.iload_n 3, 1) := by decide +kernel
theorem dW_pageAt_108 : decode kW_pageAt 108 = .ok (.goto 4, 3) := by decide +kernel
theorem dW_pageAt_111 : decode kW_pageAt 111 = .ok (.iconst (-1), 1) := by decide +kernel
theorem dW_pageAt_112 : decode kW_pageAt 112 = .ok (.ireturn, 1) := by decide +kernel
def bl_W_pageAt_34 (θ : TH) (a0_34 : Nat) (x1_34 : Int32) (x2_34 : Int32) (K : Int32 → VT → UT → Prop) (kb34 : Int32 → Int32 → VT → UT → Prop) (x3_34 : Int32) (x4_34 : Int32) (V : VT) (U : UT) : Prop := ((x2_34 ≤ x4_34 → isO θ a0_34 1 ∧ ((x3_34 ≤ ((V a0_34 1) - x1_34) → wp_W_checkOf θ a0_34 x1_34 x3_34 V U (fun r_16 V_14 U_15 => wp_W_checkAt θ a0_34 x1_34 V_14 U_15 (fun r_19 V_17 U_18 => ((¬ r_16 = r_19 → K (-1 : Int32) V_17 U_18) ∧ (r_16 = r_19 → K x3_34 V_17 U_18))))) ∧ (¬ x3_34 ≤ ((V a0_34 1) - x1_34) → K (0 : Int32) V U))) ∧ (¬ x2_34 ≤ x4_34 → isO θ a0_34 1 ∧ wp_W_at θ a0_34 ((x1_34 + (14 : Int32)) + x4_34) V U (fun r_24 V_21 U_22 => ((¬ r_24 = (-1 : Int32) → ((r_24 ≤ (15 : Int32) → ∀ y_27 : Int32, y_27 = (x3_34 + r_24) → ∀ y_28 : Int32, y_28 = x4_34 + (1 : Int32) → kb34 y_27 y_28 V_21 U_22) ∧ (¬ r_24 ≤ (15 : Int32) → K (-1 : Int32) V_21 U_22))) ∧ (r_24 = (-1 : Int32) → K (0 : Int32) V_21 U_22)))))
def wl_W_pageAt_34 (θ : TH) (a0_34 : Nat) (x1_34 : Int32) (x2_34 : Int32) (K : Int32 → VT → UT → Prop) : Nat → Int32 → Int32 → VT → UT → Prop
  | 0, _, _, _, _ => False
  | n + 1, x3_34, x4_34, V, U => bl_W_pageAt_34 θ a0_34 x1_34 x2_34 K (wl_W_pageAt_34 θ a0_34 x1_34 x2_34 K n) x3_34 x4_34 V U
def wp_W_pageAt (θ : TH) (a0 : Nat) (x1 : Int32) (V : VT) (U : UT) (K : Int32 → VT → UT → Prop) : Prop := isO θ a0 1 ∧ wp_W_canBeHead θ a0 x1 V U (fun r_4 V_1 U_2 => ((¬ r_4 = 0 → wp_W_at θ a0 (x1 + (13 : Int32)) V_1 U_2 (fun r_8 V_6 U_7 => ((¬ r_8 = (-1 : Int32) → ∀ y_10 : Int32, y_10 = ((14 : Int32) + r_8) → ∃ n, wl_W_pageAt_34 θ a0 x1 r_8 K n y_10 (0 : Int32) V_6 U_7) ∧ (r_8 = (-1 : Int32) → K (0 : Int32) V_6 U_7)))) ∧ (r_4 = 0 → K (-1 : Int32) V_1 U_2)))
set_option maxRecDepth 100000 in
set_option maxHeartbeats 4000000 in
theorem c_W_pageAt (l : Launch) (θ : TH) (a0 : Nat) (x1 : Int32) (V : VT) (U : UT) (K : Int32 → VT → UT → Prop) (hw : wp_W_pageAt θ a0 x1 V U K) : CMi l yW_pageAt kW_pageAt 6 (some .int) rmW_pageAt θ [.ref a0, .int x1] V U K := by
  refine g_met nRW (by decide +kernel) rfl (Nat.le_of_ble_eq_true rfl) (fun p e s m args below meth c ls hC hr hlk hwo hl => ?_)
  have hx := hC.1
  have hb := hC.2.1
  have hS : Sx θ s s.heap [] := va_S.rf
  have hl : lv_has ls 6 [(0, .ref a0), (1, .int x1)] := hl
  have L34 : ∀ (a0_34 : Nat) (x1_34 : Int32) (x2_34 : Int32) (n34 : Nat) (x3_34 : Int32) (x4_34 : Int32) (V : VT) (U : UT) (H : Heap) (locs : List Loc) (ls : Array Slot), wl_W_pageAt_34 θ a0_34 x1_34 x2_34 K n34 x3_34 x4_34 V U → wo θ V U H → Sx θ s H locs → lv_has ls 6 [(0, .ref a0_34), (1, .int x1_34), (2, .int x2_34), (3, .int x3_34), (4, .int x4_34)] → W p l e rmW_pageAt s m args below meth c H locs 0 0 (MQ below (QI θ K) args s 0 0 (aT θ)) (F0 m 34 ls []) := by
    intro a0_34 x1_34 x2_34 n34
    induction n34 with
    | zero => intro x3_34 x4_34 V U H locs ls hw hwo hS hl; exact (show False from hw).elim
    | succ n34 ih34 =>
      intro x3_34 x4_34 V U H locs ls hw hwo hS hl
      replace hw : bl_W_pageAt_34 θ a0_34 x1_34 x2_34 K (wl_W_pageAt_34 θ a0_34 x1_34 x2_34 K n34) x3_34 x4_34 V U := hw
      unfold bl_W_pageAt_34 at hw
      refine lv_iload hx hb dW_pageAt_34 (lv_at hl 4 rfl) ?_
      refine lv_iload_n hx hb dW_pageAt_36 rfl (lv_at hl 2 rfl) ?_
      refine lv_icmp_ge (tgt := 81) hx hb dW_pageAt_37 (by decide) (fun hc_11 => ?_) (fun hc_11 => ?_)
      · replace hw := hw.1 hc_11
        refine lv_iload_n hx hb dW_pageAt_81 rfl (lv_at hl 3 rfl) ?_
        refine lv_aload_n hx hb dW_pageAt_82 rfl (lv_at hl 0 rfl) ?_
        obtain ⟨ho_12, hw⟩ := hw
        refine g_getI hC fkW_15 rfl hwo ho_12 dW_pageAt_83 ?_
        refine lv_iload_n hx hb dW_pageAt_86 rfl (lv_at hl 1 rfl) ?_
        refine lv_isub hx hb dW_pageAt_87 ?_
        refine lv_icmp_le (tgt := 93) hx hb dW_pageAt_88 (by decide) (fun hc_13 => ?_) (fun hc_13 => ?_)
        · replace hw := hw.1 hc_13
          refine lv_aload_n hx hb dW_pageAt_93 rfl (lv_at hl 0 rfl) ?_
          refine lv_iload_n hx hb dW_pageAt_94 rfl (lv_at hl 1 rfl) ?_
          refine lv_iload_n hx hb dW_pageAt_95 rfl (lv_at hl 3 rfl) ?_
          refine g_Vi (rest := []) hC (c_W_checkOf l θ _ _ _ _ _ _ hw) mi_W_checkOf mlW_36 mv_W_checkOf ci_1 ho_12 hwo hS ⟨rfl, rfl⟩ ⟨by decide, by decide⟩ rfl hl.1 rfl (Nat.le_of_ble_eq_true rfl) dW_pageAt_96 (fun r_16 V_14 U_15 hw H locs hwo hS => ?_)
          refine lv_aload_n hx hb dW_pageAt_99 rfl (lv_at hl 0 rfl) ?_
          refine lv_iload_n hx hb dW_pageAt_100 rfl (lv_at hl 1 rfl) ?_
          refine g_Vi (rest := [.int r_16]) hC (c_W_checkAt l θ _ _ _ _ _ hw) mi_W_checkAt mlW_40 mv_W_checkAt ci_1 ho_12 hwo hS ⟨rfl, rfl⟩ ⟨by decide, by decide⟩ rfl hl.1 rfl (Nat.le_of_ble_eq_true rfl) dW_pageAt_101 (fun r_19 V_17 U_18 hw H locs hwo hS => ?_)
          refine lv_icmp_ne (tgt := 111) hx hb dW_pageAt_104 (by decide) (fun hc_20 => ?_) (fun hc_20 => ?_)
          · replace hw := hw.1 hc_20
            refine lv_iconst (v := -1) hx hb dW_pageAt_111 (by decide) ?_
            exact g_iret hC hr hlk hw hwo hS dW_pageAt_112
          · replace hw := hw.2 hc_20
            refine lv_iload_n hx hb dW_pageAt_107 rfl (lv_at hl 3 rfl) ?_
            refine lv_goto (tgt := 112) hx hb dW_pageAt_108 (by decide) ?_
            exact g_iret hC hr hlk hw hwo hS dW_pageAt_112
        · replace hw := hw.2 hc_13
          refine lv_iconst (v := 0) hx hb dW_pageAt_91 (by decide) ?_
          exact g_iret hC hr hlk hw hwo hS dW_pageAt_92
      · replace hw := hw.2 hc_11
        refine lv_aload_n hx hb dW_pageAt_40 rfl (lv_at hl 0 rfl) ?_
        refine lv_iload_n hx hb dW_pageAt_41 rfl (lv_at hl 1 rfl) ?_
        refine lv_bipush (v := 14) hx hb dW_pageAt_42 (by decide) ?_
        refine lv_iadd hx hb dW_pageAt_44 ?_
        refine lv_iload hx hb dW_pageAt_45 (lv_at hl 4 rfl) ?_
        refine lv_iadd hx hb dW_pageAt_47 ?_
        obtain ⟨ho_23, hw⟩ := hw
        refine g_Vi (rest := []) hC (c_W_at l θ _ _ _ _ _ hw) mi_W_at mlW_32 mv_W_at ci_1 ho_23 hwo hS ⟨rfl, rfl⟩ ⟨by decide, by decide⟩ rfl hl.1 rfl (Nat.le_of_ble_eq_true rfl) dW_pageAt_48 (fun r_24 V_21 U_22 hw H locs hwo hS => ?_)
        refine lv_istore (i := 5) (lv' := [(5, .int r_24), (0, .ref a0_34), (1, .int x1_34), (2, .int x2_34), (3, .int x3_34), (4, .int x4_34)]) hx hb dW_pageAt_51 hl (by decide) rfl (fun ls hl => ?_)
        refine lv_iload hx hb dW_pageAt_53 (lv_at hl 0 rfl) ?_
        refine lv_iconst (v := -1) hx hb dW_pageAt_55 (by decide) ?_
        refine lv_icmp_ne (tgt := 61) hx hb dW_pageAt_56 (by decide) (fun hc_25 => ?_) (fun hc_25 => ?_)
        · replace hw := hw.1 hc_25
          refine lv_iload hx hb dW_pageAt_61 (lv_at hl 0 rfl) ?_
          refine lv_bipush (v := 15) hx hb dW_pageAt_63 (by decide) ?_
          refine lv_icmp_le (tgt := 70) hx hb dW_pageAt_65 (by decide) (fun hc_26 => ?_) (fun hc_26 => ?_)
          · replace hw := hw.1 hc_26
            refine lv_iload_n hx hb dW_pageAt_70 rfl (lv_at hl 4 rfl) ?_
            refine lv_iload hx hb dW_pageAt_71 (lv_at hl 0 rfl) ?_
            refine lv_iadd hx hb dW_pageAt_73 ?_
            refine lv_topi (fun y_27 ey_27 => ?_)
            replace hw := hw y_27 ey_27
            refine lv_istore_n (i := 3) (lv' := [(3, .int y_27), (5, .int r_24), (0, .ref a0_34), (1, .int x1_34), (2, .int x2_34), (4, .int x4_34)]) hx hb dW_pageAt_74 rfl hl (by decide) rfl (fun ls hl => ?_)
            obtain ⟨y_28, ey_28⟩ : ∃ z : Int32, z = x4_34 + (1 : Int32) := ⟨_, rfl⟩
            replace hw := hw y_28 ey_28
            refine lv_iinc (k := 5) (v := y_28) (lv' := [(4, .int y_28), (3, .int y_27), (5, .int r_24), (0, .ref a0_34), (1, .int x1_34), (2, .int x2_34)]) hx hb dW_pageAt_75 hl rfl (by rw [ey_28]; rfl) (by decide) rfl (fun ls hl => ?_)
            refine lv_goto (tgt := 34) hx hb dW_pageAt_78 (by decide) ?_
            exact ih34 _ _ _ _ _ _ _ hw hwo hS (lv_sub hl [3, 4, 5, 1, 0] rfl)
          · replace hw := hw.2 hc_26
            refine lv_iconst (v := -1) hx hb dW_pageAt_68 (by decide) ?_
            exact g_iret hC hr hlk hw hwo hS dW_pageAt_69
        · replace hw := hw.2 hc_25
          refine lv_iconst (v := 0) hx hb dW_pageAt_59 (by decide) ?_
          exact g_iret hC hr hlk hw hwo hS dW_pageAt_60
  unfold wp_W_pageAt at hw
  refine lv_aload_n hx hb dW_pageAt_0 rfl (lv_at hl 0 rfl) ?_
  refine lv_iload_n hx hb dW_pageAt_1 rfl (lv_at hl 1 rfl) ?_
  obtain ⟨ho_3, hw⟩ := hw
  refine g_Vi (rest := []) hC (c_W_canBeHead l θ _ _ _ _ _ hw) mi_W_canBeHead mlW_28 mv_W_canBeHead ci_1 ho_3 hwo hS ⟨rfl, rfl⟩ ⟨by decide, by decide⟩ rfl hl.1 rfl (Nat.le_of_ble_eq_true rfl) dW_pageAt_2 (fun r_4 V_1 U_2 hw H locs hwo hS => ?_)
  refine lv_if_ne (tgt := 10) hx hb dW_pageAt_5 (by decide) (fun hc_5 => ?_) (fun hc_5 => ?_)
  · replace hw := hw.1 hc_5
    refine lv_aload_n hx hb dW_pageAt_10 rfl (lv_at hl 0 rfl) ?_
    refine lv_iload_n hx hb dW_pageAt_11 rfl (lv_at hl 1 rfl) ?_
    refine lv_bipush (v := 13) hx hb dW_pageAt_12 (by decide) ?_
    refine lv_iadd hx hb dW_pageAt_14 ?_
    refine g_Vi (rest := []) hC (c_W_at l θ _ _ _ _ _ hw) mi_W_at mlW_32 mv_W_at ci_1 ho_3 hwo hS ⟨rfl, rfl⟩ ⟨by decide, by decide⟩ rfl hl.1 rfl (Nat.le_of_ble_eq_true rfl) dW_pageAt_15 (fun r_8 V_6 U_7 hw H locs hwo hS => ?_)
    refine lv_istore_n (i := 2) (lv' := [(2, .int r_8), (0, .ref a0), (1, .int x1)]) hx hb dW_pageAt_18 rfl hl (by decide) rfl (fun ls hl => ?_)
    refine lv_iload_n hx hb dW_pageAt_19 rfl (lv_at hl 0 rfl) ?_
    refine lv_iconst (v := -1) hx hb dW_pageAt_20 (by decide) ?_
    refine lv_icmp_ne (tgt := 26) hx hb dW_pageAt_21 (by decide) (fun hc_9 => ?_) (fun hc_9 => ?_)
    · replace hw := hw.1 hc_9
      refine lv_bipush (v := 14) hx hb dW_pageAt_26 (by decide) ?_
      refine lv_iload_n hx hb dW_pageAt_28 rfl (lv_at hl 0 rfl) ?_
      refine lv_iadd hx hb dW_pageAt_29 ?_
      refine lv_topi (fun y_10 ey_10 => ?_)
      replace hw := hw y_10 ey_10
      refine lv_istore_n (i := 3) (lv' := [(3, .int y_10), (2, .int r_8), (0, .ref a0), (1, .int x1)]) hx hb dW_pageAt_30 rfl hl (by decide) rfl (fun ls hl => ?_)
      refine lv_iconst (v := 0) hx hb dW_pageAt_31 (by decide) ?_
      refine lv_istore (i := 4) (lv' := [(4, .int (0 : Int32)), (3, .int y_10), (2, .int r_8), (0, .ref a0), (1, .int x1)]) hx hb dW_pageAt_32 hl (by decide) rfl (fun ls hl => ?_)
      obtain ⟨n, hw⟩ := hw
      exact L34 _ _ _ n _ _ _ _ _ _ _ hw hwo hS (lv_sub hl [3, 4, 2, 1, 0] rfl)
    · replace hw := hw.2 hc_9
      refine lv_iconst (v := 0) hx hb dW_pageAt_24 (by decide) ?_
      exact g_iret hC hr hlk hw hwo hS dW_pageAt_25
  · replace hw := hw.2 hc_5
    refine lv_iconst (v := -1) hx hb dW_pageAt_8 (by decide) ?_
    exact g_iret hC hr hlk hw hwo hS dW_pageAt_9
theorem dW_seal_0 : decode kW_seal 0 = .ok (.iload_n 1, 1) := by decide +kernel
theorem dW_seal_1 : decode kW_seal 1 = .ok (.ifCond .lt 14, 3) := by decide +kernel
theorem dW_seal_4 : decode kW_seal 4 = .ok (.aload_n 0, 1) := by decide +kernel
theorem dW_seal_5 : decode kW_seal 5 = .ok (.getfield 15, 3) := by decide +kernel
theorem dW_seal_8 : decode kW_seal 8 = .ok (.iload_n 1, 1) := by decide +kernel
theorem dW_seal_9 : decode kW_seal 9 = .ok (.isub, 1) := by decide +kernel
theorem dW_seal_10 : decode kW_seal 10 = .ok (.bipush 14, 2) := by decide +kernel
theorem dW_seal_12 : decode kW_seal 12 = .ok (.if_icmp .ge 4, 3) := by decide +kernel
theorem dW_seal_15 : decode kW_seal 15 = .ok (.return_, 1) := by decide +kernel
theorem dW_seal_16 : decode kW_seal 16 = .ok (.aload_n 0, 1) := by decide +kernel
theorem dW_seal_17 : decode kW_seal 17 = .ok (.iload_n 1, 1) := by decide +kernel
theorem dW_seal_18 : decode kW_seal 18 = .ok (.aload_n 0, 1) := by decide +kernel
theorem dW_seal_19 : decode kW_seal 19 = .ok (.getfield 15, 3) := by decide +kernel
theorem dW_seal_22 : decode kW_seal 22 = .ok (.iload_n 1, 1) := by decide +kernel
theorem dW_seal_23 : decode kW_seal 23 = .ok (.isub, 1) := by decide +kernel
theorem dW_seal_24 : decode kW_seal 24 = .ok (.invokevirtual 36, 3) := by decide +kernel
theorem dW_seal_27 : decode kW_seal 27 = .ok (.istore_n 2, 1) := by decide +kernel
theorem dW_seal_28 : decode kW_seal 28 = .ok (.iconst 0, 1) := by decide +kernel
theorem dW_seal_29 : decode kW_seal 29 = .ok (.istore_n 3, 1) := by decide +kernel
theorem dW_seal_30 : decode kW_seal 30 = .ok (.iload_n 3, 1) := by decide +kernel
theorem dW_seal_31 : decode kW_seal 31 = .ok (.iconst 4, 1) := by decide +kernel
theorem dW_seal_32 : decode kW_seal 32 = .ok (.if_icmp .ge 30, 3) := by decide +kernel
theorem dW_seal_35 : decode kW_seal 35 = .ok (.aload_n 0, 1) := by decide +kernel
theorem dW_seal_36 : decode kW_seal 36 = .ok (.getfield 9, 3) := by decide +kernel
theorem dW_seal_39 : decode kW_seal 39 = .ok (.iload_n 1, 1) := by decide +kernel
theorem dW_seal_40 : decode kW_seal 40 = .ok (.bipush 9, 2) := by decide +kernel
theorem dW_seal_42 : decode kW_seal 42 = .ok (.iadd, 1) := by decide +kernel
theorem dW_seal_43 : decode kW_seal 43 = .ok (.iload_n 3, 1) := by decide +kernel
theorem dW_seal_44 : decode kW_seal 44 = .ok (.iadd, 1) := by decide +kernel
theorem dW_seal_45 : decode kW_seal 45 = .ok (.iload_n 2, 1) := by decide +kernel
theorem dW_seal_46 : decode kW_seal 46 = .ok (.bipush 8, 2) := by decide +kernel
theorem dW_seal_48 : decode kW_seal 48 = .ok (.iload_n 3, 1) := by decide +kernel
theorem dW_seal_49 : decode kW_seal 49 = .ok (.imul, 1) := by decide +kernel
theorem dW_seal_50 : decode kW_seal 50 = .ok (.iushr, 1) := by decide +kernel
theorem dW_seal_51 : decode kW_seal 51 = .ok (.sipush 255, 3) := by decide +kernel
theorem dW_seal_54 : decode kW_seal 54 = .ok (.iand, 1) := by decide +kernel
theorem dW_seal_55 : decode kW_seal 55 = .ok (.iastore, 1) := by decide +kernel
theorem dW_seal_56 : decode kW_seal 56 = .ok (.iinc 3 1, 3) := by decide +kernel
theorem dW_seal_59 : decode kW_seal 59 = .ok (.goto (-29), 3) := by decide +kernel
theorem dW_seal_62 : decode kW_seal 62 = .ok (.return_, 1) := by decide +kernel
def bl_W_seal_30 (θ : TH) (a0_30 : Nat) (x1_30 : Int32) (x2_30 : Int32) (K : VT → UT → Prop) (kb30 : Int32 → VT → UT → Prop) (x3_30 : Int32) (V : VT) (U : UT) : Prop := (((4 : Int32) ≤ x3_30 → K V U) ∧ (¬ (4 : Int32) ≤ x3_30 → isO θ a0_30 1 ∧ (U a0_30 0) ≠ 0 ∧ ∃ n_10, isA θ (U a0_30 0) 0 n_10 ∧ vp_in ((x1_30 + (9 : Int32)) + x3_30) n_10 ∧ ∀ V_13 : VT, V_13 = up2 V (U a0_30 0) ((x1_30 + (9 : Int32)) + x3_30).toNatClampNeg ((x2_30.toUInt32 >>> (((8 : Int32) * x3_30).toUInt32 &&& Int32.toUInt32 31)).toInt32 &&& (255 : Int32)) → ∀ y_14 : Int32, y_14 = x3_30 + (1 : Int32) → kb30 y_14 V_13 U))
def wl_W_seal_30 (θ : TH) (a0_30 : Nat) (x1_30 : Int32) (x2_30 : Int32) (K : VT → UT → Prop) : Nat → Int32 → VT → UT → Prop
  | 0, _, _, _ => False
  | n + 1, x3_30, V, U => bl_W_seal_30 θ a0_30 x1_30 x2_30 K (wl_W_seal_30 θ a0_30 x1_30 x2_30 K n) x3_30 V U
def wp_W_seal (θ : TH) (a0 : Nat) (x1 : Int32) (V : VT) (U : UT) (K : VT → UT → Prop) : Prop := ((x1 < 0 → K V U) ∧ (¬ x1 < 0 → isO θ a0 1 ∧ (((14 : Int32) ≤ ((V a0 1) - x1) → wp_W_checkOf θ a0 x1 ((V a0 1) - x1) V U (fun r_6 V_4 U_5 => ∃ n, wl_W_seal_30 θ a0 x1 r_6 K n (0 : Int32) V_4 U_5)) ∧ (¬ (14 : Int32) ≤ ((V a0 1) - x1) → K V U))))
set_option maxRecDepth 100000 in
set_option maxHeartbeats 4000000 in
theorem c_W_seal (l : Launch) (θ : TH) (a0 : Nat) (x1 : Int32) (V : VT) (U : UT) (K : VT → UT → Prop) (hw : wp_W_seal θ a0 x1 V U K) : CMv l yW_seal kW_seal 4 none rmW_seal θ [.ref a0, .int x1] V U K := by
  refine g_met nRW (by decide +kernel) rfl (Nat.le_of_ble_eq_true rfl) (fun p e s m args below meth c ls hC hr hlk hwo hl => ?_)
  have hx := hC.1
  have hb := hC.2.1
  have hS : Sx θ s s.heap [] := va_S.rf
  have hl : lv_has ls 4 [(0, .ref a0), (1, .int x1)] := hl
  have L30 : ∀ (a0_30 : Nat) (x1_30 : Int32) (x2_30 : Int32) (n30 : Nat) (x3_30 : Int32) (V : VT) (U : UT) (H : Heap) (locs : List Loc) (ls : Array Slot), wl_W_seal_30 θ a0_30 x1_30 x2_30 K n30 x3_30 V U → wo θ V U H → Sx θ s H locs → lv_has ls 4 [(0, .ref a0_30), (1, .int x1_30), (2, .int x2_30), (3, .int x3_30)] → W p l e rmW_seal s m args below meth c H locs 0 0 (MQ below (QV θ K) args s 0 0 (aT θ)) (F0 m 30 ls []) := by
    intro a0_30 x1_30 x2_30 n30
    induction n30 with
    | zero => intro x3_30 V U H locs ls hw hwo hS hl; exact (show False from hw).elim
    | succ n30 ih30 =>
      intro x3_30 V U H locs ls hw hwo hS hl
      replace hw : bl_W_seal_30 θ a0_30 x1_30 x2_30 K (wl_W_seal_30 θ a0_30 x1_30 x2_30 K n30) x3_30 V U := hw
      unfold bl_W_seal_30 at hw
      refine lv_iload_n hx hb dW_seal_30 rfl (lv_at hl 3 rfl) ?_
      refine lv_iconst (v := 4) hx hb dW_seal_31 (by decide) ?_
      refine lv_icmp_ge (tgt := 62) hx hb dW_seal_32 (by decide) (fun hc_7 => ?_) (fun hc_7 => ?_)
      · replace hw := hw.1 hc_7
        exact g_vret hC hr hlk hw hwo hS dW_seal_62
      · replace hw := hw.2 hc_7
        refine lv_aload_n hx hb dW_seal_35 rfl (lv_at hl 0 rfl) ?_
        obtain ⟨ho_8, hw⟩ := hw
        obtain ⟨hz_9, hw⟩ := hw
        refine g_getR hC fkW_9 rfl hwo ho_8 hz_9 dW_seal_36 ?_
        refine lv_iload_n hx hb dW_seal_39 rfl (lv_at hl 1 rfl) ?_
        refine lv_bipush (v := 9) hx hb dW_seal_40 (by decide) ?_
        refine lv_iadd hx hb dW_seal_42 ?_
        refine lv_iload_n hx hb dW_seal_43 rfl (lv_at hl 3 rfl) ?_
        refine lv_iadd hx hb dW_seal_44 ?_
        refine lv_iload_n hx hb dW_seal_45 rfl (lv_at hl 2 rfl) ?_
        refine lv_bipush (v := 8) hx hb dW_seal_46 (by decide) ?_
        refine lv_iload_n hx hb dW_seal_48 rfl (lv_at hl 3 rfl) ?_
        refine lv_imul hx hb dW_seal_49 ?_
        refine lv_iushr hx hb dW_seal_50 rfl ?_
        refine lv_sipush (v := 255) hx hb dW_seal_51 (by decide) ?_
        refine lv_iand hx hb dW_seal_54 ?_
        obtain ⟨n_10, ha_11, hw⟩ := hw
        obtain ⟨hi_12, hw⟩ := hw
        refine g_iast hC hwo hS ha_11 hi_12 dW_seal_55 (fun V_13 eV_13 H locs hwo hS => ?_)
        replace hw := hw V_13 eV_13
        obtain ⟨y_14, ey_14⟩ : ∃ z : Int32, z = x3_30 + (1 : Int32) := ⟨_, rfl⟩
        replace hw := hw y_14 ey_14
        refine lv_iinc (k := 3) (v := y_14) (lv' := [(3, .int y_14), (0, .ref a0_30), (1, .int x1_30), (2, .int x2_30)]) hx hb dW_seal_56 hl rfl (by rw [ey_14]; rfl) (by decide) rfl (fun ls hl => ?_)
        refine lv_goto (tgt := 30) hx hb dW_seal_59 (by decide) ?_
        exact ih30 _ _ _ _ _ _ hw hwo hS (lv_sub hl [1, 2, 3, 0] rfl)
  unfold wp_W_seal at hw
  refine lv_iload_n hx hb dW_seal_0 rfl (lv_at hl 1 rfl) ?_
  refine lv_if_lt (tgt := 15) hx hb dW_seal_1 (by decide) (fun hc_1 => ?_) (fun hc_1 => ?_)
  · replace hw := hw.1 hc_1
    exact g_vret hC hr hlk hw hwo hS dW_seal_15
  · replace hw := hw.2 hc_1
    refine lv_aload_n hx hb dW_seal_4 rfl (lv_at hl 0 rfl) ?_
    obtain ⟨ho_2, hw⟩ := hw
    refine g_getI hC fkW_15 rfl hwo ho_2 dW_seal_5 ?_
    refine lv_iload_n hx hb dW_seal_8 rfl (lv_at hl 1 rfl) ?_
    refine lv_isub hx hb dW_seal_9 ?_
    refine lv_bipush (v := 14) hx hb dW_seal_10 (by decide) ?_
    refine lv_icmp_ge (tgt := 16) hx hb dW_seal_12 (by decide) (fun hc_3 => ?_) (fun hc_3 => ?_)
    · replace hw := hw.1 hc_3
      refine lv_aload_n hx hb dW_seal_16 rfl (lv_at hl 0 rfl) ?_
      refine lv_iload_n hx hb dW_seal_17 rfl (lv_at hl 1 rfl) ?_
      refine lv_aload_n hx hb dW_seal_18 rfl (lv_at hl 0 rfl) ?_
      refine g_getI hC fkW_15 rfl hwo ho_2 dW_seal_19 ?_
      refine lv_iload_n hx hb dW_seal_22 rfl (lv_at hl 1 rfl) ?_
      refine lv_isub hx hb dW_seal_23 ?_
      refine g_Vi (rest := []) hC (c_W_checkOf l θ _ _ _ _ _ _ hw) mi_W_checkOf mlW_36 mv_W_checkOf ci_1 ho_2 hwo hS ⟨rfl, rfl⟩ ⟨by decide, by decide⟩ rfl hl.1 rfl (Nat.le_of_ble_eq_true rfl) dW_seal_24 (fun r_6 V_4 U_5 hw H locs hwo hS => ?_)
      refine lv_istore_n (i := 2) (lv' := [(2, .int r_6), (0, .ref a0), (1, .int x1)]) hx hb dW_seal_27 rfl hl (by decide) rfl (fun ls hl => ?_)
      refine lv_iconst (v := 0) hx hb dW_seal_28 (by decide) ?_
      refine lv_istore_n (i := 3) (lv' := [(3, .int (0 : Int32)), (2, .int r_6), (0, .ref a0), (1, .int x1)]) hx hb dW_seal_29 rfl hl (by decide) rfl (fun ls hl => ?_)
      obtain ⟨n, hw⟩ := hw
      exact L30 _ _ _ n _ _ _ _ _ _ hw hwo hS (lv_sub hl [2, 3, 1, 0] rfl)
    · replace hw := hw.2 hc_3
      exact g_vret hC hr hlk hw hwo hS dW_seal_15
