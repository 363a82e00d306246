theorem dM_value_0 : decode kM_value 0 = .ok (.aload_n 0, 1) := by decide +kernel
theorem dM_value_1 : decode kM_value 1 = .ok (.iload_n 1, 1) := by decide +kernel
theorem dM_value_2 : decode kM_value 2 = .ok (.iload_n 2, 1) := by decide +kernel
theorem dM_value_3 : decode kM_value 3 = .ok (.invokevirtual 376, 3) := by decide +kernel
theorem dM_value_6 : decode kM_value 6 = .ok (.ifCond .eq 7, 3) := by decide +kernel
theorem dM_value_9 : decode kM_value 9 = .ok (.iconst 0, 1) := by decide +kernel
theorem dM_value_10 : decode kM_value 10 = .ok (.goto 14, 3) := by decide +kernel
theorem dM_value_13 : decode kM_value 13 = .ok (.aload_n 0, 1) := by decide +kernel
theorem dM_value_14 : decode kM_value 14 = .ok (.getfield 114, 3) := by decide +kernel
theorem dM_value_17 : decode kM_value 17 = .ok (.bipush 32, 2) := by decide +kernel
theorem dM_value_19 : decode kM_value 19 = .ok (.iload_n 1, 1) := by decide +kernel
theorem dM_value_20 : decode kM_value 20 = .ok (.imul, 1) := by decide +kernel
theorem dM_value_21 : decode kM_value 21 = .ok (.iload_n 2, 1) := by decide +kernel
theorem dM_value_22 : decode kM_value 22 = .ok (.iadd, 1) := by decide +kernel
theorem dM_value_23 : decode kM_value 23 = .ok (.iaload, 1) := by decide +kernel
theorem dM_value_24 : decode kM_value 24 = .ok (.ireturn, 1) := by decide +kernel
def wp_M_value (θ : TH) (a0 : Nat) (x1 : Int32) (x2 : Int32) (V : VT) (U : UT) (K : Int32 → VT → UT → Prop) : Prop := isO θ a0 12 ∧ wp_M_noPlace θ a0 x1 x2 V U (fun r_4 V_1 U_2 => ((r_4 = 0 → (U_2 a0 61) ≠ 0 ∧ ∃ n_7, isA θ (U_2 a0 61) 0 n_7 ∧ vp_in (((32 : Int32) * x1) + x2) n_7 ∧ K (V_1 (U_2 a0 61) (((32 : Int32) * x1) + x2).toNatClampNeg) V_1 U_2) ∧ (¬ r_4 = 0 → K (0 : Int32) V_1 U_2)))
set_option maxRecDepth 100000 in
set_option maxHeartbeats 4000000 in
theorem c_M_value (l : Launch) (θ : TH) (a0 : Nat) (x1 : Int32) (x2 : Int32) (V : VT) (U : UT) (K : Int32 → VT → UT → Prop) (hw : wp_M_value θ a0 x1 x2 V U K) : CMi l yM_value kM_value 3 (some .int) rmM_value θ [.ref a0, .int x1, .int x2] V U K := by
  refine g_met nRM (by decide +kernel) rfl (Nat.le_of_ble_eq_true rfl) (fun p e s m args below meth c ls hC hr hlk hwo hl => ?_)
  have hx := hC.1
  have hb := hC.2.1
  have hS : Sx θ s s.heap [] := va_S.rf
  have hl : lv_has ls 3 [(0, .ref a0), (1, .int x1), (2, .int x2)] := hl
  unfold wp_M_value at hw
  refine lv_aload_n hx hb dM_value_0 rfl (lv_at hl 0 rfl) ?_
  refine lv_iload_n hx hb dM_value_1 rfl (lv_at hl 1 rfl) ?_
  refine lv_iload_n hx hb dM_value_2 rfl (lv_at hl 2 rfl) ?_
  obtain ⟨ho_3, hw⟩ := hw
  refine g_Vi (rest := []) hC (c_M_noPlace l θ _ _ _ _ _ _ hw) mi_M_noPlace mlM_376 mv_M_noPlace ci_12 ho_3 hwo hS ⟨rfl, rfl⟩ ⟨by decide, by decide⟩ rfl hl.1 rfl (Nat.le_of_ble_eq_true rfl) dM_value_3 (fun r_4 V_1 U_2 hw H locs hwo hS => ?_)
  refine lv_if_eq (tgt := 13) hx hb dM_value_6 (by decide) (fun hc_5 => ?_) (fun hc_5 => ?_)
  · replace hw := hw.1 hc_5
    refine lv_aload_n hx hb dM_value_13 rfl (lv_at hl 0 rfl) ?_
    obtain ⟨hz_6, hw⟩ := hw
    refine g_getR hC fkM_114 rfl hwo ho_3 hz_6 dM_value_14 ?_
    refine lv_bipush (v := 32) hx hb dM_value_17 (by decide) ?_
    refine lv_iload_n hx hb dM_value_19 rfl (lv_at hl 1 rfl) ?_
    refine lv_imul hx hb dM_value_20 ?_
    refine lv_iload_n hx hb dM_value_21 rfl (lv_at hl 2 rfl) ?_
    refine lv_iadd hx hb dM_value_22 ?_
    obtain ⟨n_7, ha_8, hw⟩ := hw
    obtain ⟨hi_9, hw⟩ := hw
    refine g_iald hC hwo ha_8 hi_9 dM_value_23 ?_
    exact g_iret hC hr hlk hw hwo hS dM_value_24
  · replace hw := hw.2 hc_5
    refine lv_iconst (v := 0) hx hb dM_value_9 (by decide) ?_
    refine lv_goto (tgt := 24) hx hb dM_value_10 (by decide) ?_
    exact g_iret hC hr hlk hw hwo hS dM_value_24
theorem dM_samples_0 : decode kM_samples 0 = .ok (.aload_n 0, 1) := by decide +kernel
theorem dM_samples_1 : decode kM_samples 1 = .ok (.getfield 277, 3) := by decide +kernel
theorem dM_samples_4 : decode kM_samples 4 = .ok (.ireturn, 1) := by decide +kernel
def wp_M_samples (θ : TH) (a0 : Nat) (V : VT) (U : UT) (K : Int32 → VT → UT → Prop) : Prop := isO θ a0 12 ∧ K (V a0 68) V U
set_option maxRecDepth 100000 in
set_option maxHeartbeats 4000000 in
theorem c_M_samples (l : Launch) (θ : TH) (a0 : Nat) (V : VT) (U : UT) (K : Int32 → VT → UT → Prop) (hw : wp_M_samples θ a0 V U K) : CMi l yM_samples kM_samples 1 (some .int) rmM_samples θ [.ref a0] V U K := by
  refine g_met nRM (by decide +kernel) rfl (Nat.le_of_ble_eq_true rfl) (fun p e s m args below meth c ls hC hr hlk hwo hl => ?_)
  have hx := hC.1
  have hb := hC.2.1
  have hS : Sx θ s s.heap [] := va_S.rf
  have hl : lv_has ls 1 [(0, .ref a0)] := hl
  unfold wp_M_samples at hw
  refine lv_aload_n hx hb dM_samples_0 rfl (lv_at hl 0 rfl) ?_
  obtain ⟨ho_1, hw⟩ := hw
  refine g_getI hC fkM_277 rfl hwo ho_1 dM_samples_1 ?_
  exact g_iret hC hr hlk hw hwo hS dM_samples_4
