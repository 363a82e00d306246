theorem dR_give_0 : decode kR_give 0 = .ok (.aload_n 0, 1) := by decide +kernel
theorem dR_give_1 : decode kR_give 1 = .ok (.getfield 19, 3) := by decide +kernel
theorem dR_give_4 : decode kR_give 4 = .ok (.aload_n 0, 1) := by decide +kernel
theorem dR_give_5 : decode kR_give 5 = .ok (.getfield 37, 3) := by decide +kernel
theorem dR_give_8 : decode kR_give 8 = .ok (.aaload, 1) := by decide +kernel
theorem dR_give_9 : decode kR_give 9 = .ok (.astore_n 1, 1) := by decide +kernel
theorem dR_give_10 : decode kR_give 10 = .ok (.aload_n 0, 1) := by decide +kernel
theorem dR_give_11 : decode kR_give 11 = .ok (.dup, 1) := by decide +kernel
theorem dR_give_12 : decode kR_give 12 = .ok (.getfield 37, 3) := by decide +kernel
theorem dR_give_15 : decode kR_give 15 = .ok (.iconst 1, 1) := by decide +kernel
theorem dR_give_16 : decode kR_give 16 = .ok (.iadd, 1) := by decide +kernel
theorem dR_give_17 : decode kR_give 17 = .ok (.putfield 37, 3) := by decide +kernel
theorem dR_give_20 : decode kR_give 20 = .ok (.aload_n 0, 1) := by decide +kernel
theorem dR_give_21 : decode kR_give 21 = .ok (.getfield 24, 3) := by decide +kernel
theorem dR_give_24 : decode kR_give 24 = .ok (.aload_n 1, 1) := by decide +kernel
theorem dR_give_25 : decode kR_give 25 = .ok (.getfield 64, 3) := by decide +kernel
theorem dR_give_28 : decode kR_give 28 = .ok (.aload_n 1, 1) := by decide +kernel
theorem dR_give_29 : decode kR_give 29 = .ok (.getfield 67, 3) := by decide +kernel
theorem dR_give_32 : decode kR_give 32 = .ok (.aload_n 1, 1) := by decide +kernel
theorem dR_give_33 : decode kR_give 33 = .ok (.getfield 70, 3) := by decide +kernel
theorem dR_give_36 : decode kR_give 36 = .ok (.invokevirtual 73, 3) := by decide +kernel
theorem dR_give_39 : decode kR_give 39 = .ok (.aload_n 0, 1) := by decide +kernel
theorem dR_give_40 : decode kR_give 40 = .ok (.getfield 24, 3) := by decide +kernel
theorem dR_give_43 : decode kR_give 43 = .ok (.aload_n 1, 1) := by decide +kernel
theorem dR_give_44 : decode kR_give 44 = .ok (.getfield 77, 3) := by decide +kernel
theorem dR_give_47 : decode kR_give 47 = .ok (.putfield 77, 3) := by decide +kernel
theorem dR_give_50 : decode kR_give 50 = .ok (.aload_n 1, 1) := by decide +kernel
theorem dR_give_51 : decode kR_give 51 = .ok (.getfield 64, 3) := by decide +kernel
theorem dR_give_54 : decode kR_give 54 = .ok (.iconst 3, 1) := by decide +kernel
theorem dR_give_55 : decode kR_give 55 = .ok (.if_icmp .ne 15, 3) := by decide +kernel
theorem dR_give_58 : decode kR_give 58 = .ok (.aload_n 0, 1) := by decide +kernel
theorem dR_give_59 : decode kR_give 59 = .ok (.getfield 32, 3) := by decide +kernel
theorem dR_give_62 : decode kR_give 62 = .ok (.aload_n 0, 1) := by decide +kernel
theorem dR_give_63 : decode kR_give 63 = .ok (.getfield 28, 3) := by decide +kernel
theorem dR_give_66 : decode kR_give 66 = .ok (.aload_n 1, 1) := by decide +kernel
theorem dR_give_67 : decode kR_give 67 = .ok (.invokevirtual 80, 3) := by decide +kernel
theorem dR_give_70 : decode kR_give 70 = .ok (.aload_n 1, 1) := by decide +kernel
theorem dR_give_71 : decode kR_give 71 = .ok (.getfield 64, 3) := by decide +kernel
theorem dR_give_74 : decode kR_give 74 = .ok (.ireturn, 1) := by decide +kernel
def wp_R_give (θ : TH) (a0 : Nat) (V : VT) (U : UT) (K : Int32 → VT → UT → Prop) : Prop := isO θ a0 6 ∧ (U a0 3) ≠ 0 ∧ ∃ n_3, isR θ (U a0 3) 4 n_3 ∧ vp_in (V a0 5) n_3 ∧ (U (U a0 3) (V a0 5).toNatClampNeg) ≠ 0 ∧ ∀ a_7 : Nat, a_7 = (U (U a0 3) (V a0 5).toNatClampNeg) → ∀ V_8 : VT, V_8 = up2 V a0 5 ((V a0 5) + (1 : Int32)) → (U a0 6) ≠ 0 ∧ isO θ a_7 5 ∧ isO θ (U a0 6) 5 ∧ wp_E_set θ (U a0 6) (V_8 a_7 0) (V_8 a_7 1) (V_8 a_7 2) V_8 U (fun V_11 U_12 => (U_12 a0 6) ≠ 0 ∧ isO θ (U_12 a0 6) 5 ∧ ∀ V_16 : VT, V_16 = up2 V_11 (U_12 a0 6) 3 (V_11 a_7 3) → ((¬ (V_16 a_7 0) = (3 : Int32) → K (V_16 a_7 0) V_16 U_12) ∧ ((V_16 a_7 0) = (3 : Int32) → (U_12 a0 1) ≠ 0 ∧ (U_12 a0 0) ≠ 0 ∧ isO θ (U_12 a0 1) 7 ∧ wp_H_load θ (U_12 a0 1) (U_12 a0 0) a_7 V_16 U_12 (fun V_20 U_21 => K (V_20 a_7 0) V_20 U_21))))
set_option maxRecDepth 100000 in
set_option maxHeartbeats 4000000 in
theorem c_R_give (l : Launch) (θ : TH) (a0 : Nat) (V : VT) (U : UT) (K : Int32 → VT → UT → Prop) (hw : wp_R_give θ a0 V U K) : CMi l yR_give kR_give 2 (some .int) rmR_give θ [.ref a0] V U K := by
  refine g_met nRR (by decide +kernel) rfl (Nat.le_of_ble_eq_true rfl) (fun p e s m args below meth c ls hC hr hlk hwo hl => ?_)
  have hx := hC.1
  have hb := hC.2.1
  have hS : Sx θ s s.heap [] := va_S.rf
  have hl : lv_has ls 2 [(0, .ref a0)] := hl
  unfold wp_R_give at hw
  refine lv_aload_n hx hb dR_give_0 rfl (lv_at hl 0 rfl) ?_
  obtain ⟨ho_1, hw⟩ := hw
  obtain ⟨hz_2, hw⟩ := hw
  refine g_getR hC fkR_19 rfl hwo ho_1 hz_2 dR_give_1 ?_
  refine lv_aload_n hx hb dR_give_4 rfl (lv_at hl 0 rfl) ?_
  refine g_getI hC fkR_37 rfl hwo ho_1 dR_give_5 ?_
  obtain ⟨n_3, ha_4, hw⟩ := hw
  obtain ⟨hi_5, hw⟩ := hw
  obtain ⟨hz_6, hw⟩ := hw
  refine g_aald hC hwo (t := 4) (by decide) rfl ha_4 hi_5 hz_6 dR_give_8 ?_
  refine g_topr (fun a_7 ea_7 => ?_)
  replace hw := hw a_7 ea_7
  refine lv_astore_n (i := 1) (lv' := [(1, .ref a_7), (0, .ref a0)]) hx hb dR_give_9 rfl hl (by decide) rfl (fun ls hl => ?_)
  refine lv_aload_n hx hb dR_give_10 rfl (lv_at hl 1 rfl) ?_
  refine lv_dup hx hb dR_give_11 rfl ?_
  refine g_getI hC fkR_37 rfl hwo ho_1 dR_give_12 ?_
  refine lv_iconst (v := 1) hx hb dR_give_15 (by decide) ?_
  refine lv_iadd hx hb dR_give_16 ?_
  refine g_putI hC fkR_37 rfl hwo hS ho_1 dR_give_17 (fun V_8 eV_8 H locs hwo hS => ?_)
  replace hw := hw V_8 eV_8
  refine lv_aload_n hx hb dR_give_20 rfl (lv_at hl 1 rfl) ?_
  obtain ⟨hz_9, hw⟩ := hw
  refine g_getR hC fkR_24 rfl hwo ho_1 hz_9 dR_give_21 ?_
  refine lv_aload_n hx hb dR_give_24 rfl (lv_at hl 0 rfl) ?_
  obtain ⟨ho_10, hw⟩ := hw
  refine g_getI hC fkR_64 rfl hwo ho_10 dR_give_25 ?_
  refine lv_aload_n hx hb dR_give_28 rfl (lv_at hl 0 rfl) ?_
  refine g_getI hC fkR_67 rfl hwo ho_10 dR_give_29 ?_
  refine lv_aload_n hx hb dR_give_32 rfl (lv_at hl 0 rfl) ?_
  refine g_getI hC fkR_70 rfl hwo ho_10 dR_give_33 ?_
  obtain ⟨ho_13, hw⟩ := hw
  refine g_Vv (rest := []) hC (c_E_set l θ _ _ _ _ _ _ _ hw) mi_E_set mlR_73 mv_E_set ci_5 ho_13 hwo hS ⟨rfl, rfl⟩ ⟨by decide, by decide⟩ rfl hl.1 rfl (Nat.le_of_ble_eq_true rfl) dR_give_36 (fun V_11 U_12 hw H locs hwo hS => ?_)
  refine lv_aload_n hx hb dR_give_39 rfl (lv_at hl 1 rfl) ?_
  obtain ⟨hz_14, hw⟩ := hw
  refine g_getR hC fkR_24 rfl hwo ho_1 hz_14 dR_give_40 ?_
  refine lv_aload_n hx hb dR_give_43 rfl (lv_at hl 0 rfl) ?_
  refine g_getI hC fkR_77 rfl hwo ho_10 dR_give_44 ?_
  obtain ⟨ho_15, hw⟩ := hw
  refine g_putI hC fkR_77 rfl hwo hS ho_15 dR_give_47 (fun V_16 eV_16 H locs hwo hS => ?_)
  replace hw := hw V_16 eV_16
  refine lv_aload_n hx hb dR_give_50 rfl (lv_at hl 0 rfl) ?_
  refine g_getI hC fkR_64 rfl hwo ho_10 dR_give_51 ?_
  refine lv_iconst (v := 3) hx hb dR_give_54 (by decide) ?_
  refine lv_icmp_ne (tgt := 70) hx hb dR_give_55 (by decide) (fun hc_17 => ?_) (fun hc_17 => ?_)
  · replace hw := hw.1 hc_17
    refine lv_aload_n hx hb dR_give_70 rfl (lv_at hl 0 rfl) ?_
    refine g_getI hC fkR_64 rfl hwo ho_10 dR_give_71 ?_
    exact g_iret hC hr hlk hw hwo hS dR_give_74
  · replace hw := hw.2 hc_17
    refine lv_aload_n hx hb dR_give_58 rfl (lv_at hl 1 rfl) ?_
    obtain ⟨hz_18, hw⟩ := hw
    refine g_getR hC fkR_32 rfl hwo ho_1 hz_18 dR_give_59 ?_
    refine lv_aload_n hx hb dR_give_62 rfl (lv_at hl 1 rfl) ?_
    obtain ⟨hz_19, hw⟩ := hw
    refine g_getR hC fkR_28 rfl hwo ho_1 hz_19 dR_give_63 ?_
    refine lv_aload_n hx hb dR_give_66 rfl (lv_at hl 0 rfl) ?_
    obtain ⟨ho_22, hw⟩ := hw
    refine g_Vv (rest := []) hC (c_H_load l θ _ _ _ _ _ _ hw) mi_H_load mlR_80 mv_H_load ci_7 ho_22 hwo hS ⟨rfl, rfl⟩ ⟨by decide, by decide⟩ rfl hl.1 rfl (Nat.le_of_ble_eq_true rfl) dR_give_67 (fun V_20 U_21 hw H locs hwo hS => ?_)
    refine lv_aload_n hx hb dR_give_70 rfl (lv_at hl 0 rfl) ?_
    refine g_getI hC fkR_64 rfl hwo ho_10 dR_give_71 ?_
    exact g_iret hC hr hlk hw hwo hS dR_give_74
theorem dR_skip_0 : decode kR_skip 0 = .ok (.aload_n 0, 1) := by decide +kernel
theorem dR_skip_1 : decode kR_skip 1 = .ok (.getfield 28, 3) := by decide +kernel
theorem dR_skip_4 : decode kR_skip 4 = .ok (.getfield 48, 3) := by decide +kernel
theorem dR_skip_7 : decode kR_skip 7 = .ok (.iconst 1, 1) := by decide +kernel
theorem dR_skip_8 : decode kR_skip 8 = .ok (.iadd, 1) := by decide +kernel
theorem dR_skip_9 : decode kR_skip 9 = .ok (.istore_n 1, 1) := by decide +kernel
theorem dR_skip_10 : decode kR_skip 10 = .ok (.iload_n 1, 1) := by decide +kernel
theorem dR_skip_11 : decode kR_skip 11 = .ok (.aload_n 0, 1) := by decide +kernel
theorem dR_skip_12 : decode kR_skip 12 = .ok (.getfield 28, 3) := by decide +kernel
theorem dR_skip_15 : decode kR_skip 15 = .ok (.getfield 86, 3) := by decide +kernel
theorem dR_skip_18 : decode kR_skip 18 = .ok (.if_icmp .ge 21, 3) := by decide +kernel
theorem dR_skip_21 : decode kR_skip 21 = .ok (.aload_n 0, 1) := by decide +kernel
theorem dR_skip_22 : decode kR_skip 22 = .ok (.getfield 28, 3) := by decide +kernel
theorem dR_skip_25 : decode kR_skip 25 = .ok (.iload_n 1, 1) := by decide +kernel
theorem dR_skip_26 : decode kR_skip 26 = .ok (.invokevirtual 53, 3) := by decide +kernel
theorem dR_skip_29 : decode kR_skip 29 = .ok (.iconst (-1), 1) := by decide +kernel
theorem dR_skip_30 : decode kR_skip 30 = .ok (.if_icmp .ne 9, 3) := by decide +kernel
theorem dR_skip_33 : decode kR_skip 33 = .ok (.iinc 1 1, 3) := by decide +kernel
theorem dR_skip_36 : decode kR_skip 36 = .ok (.goto (-26), 3) := by decide +kernel
theorem dR_skip_39 : decode kR_skip 39 = .ok (.aload_n 0, 1) := by decide +kernel
theorem dR_skip_40 : decode kR_skip 40 = .ok (.getfield 24, 3) := by decide +kernel
theorem dR_skip_43 : decode kR_skip 43 = .ok (.iconst 1, 1) := by decide +kernel
theorem dR_skip_44 : decode kR_skip 44 = .ok (.iload_n 1, 1) := by decide +kernel
theorem dR_skip_45 : decode kR_skip 45 = .ok (.aload_n 0, 1) := by decide +kernel
theorem dR_skip_46 : decode kR_skip 46 = .ok (.getfield 28, 3) := by decide +kernel
theorem dR_skip_49 : decode kR_skip 49 = .ok (.getfield 48, 3) := by decide +kernel
theorem dR_skip_52 : decode kR_skip 52 = .ok (.isub, 1) := by decide +kernel
theorem dR_skip_53 : decode kR_skip 53 = .ok (.iconst (-1), 1) := by decide +kernel
theorem dR_skip_54 : decode kR_skip 54 = .ok (.invokevirtual 73, 3) := by decide +kernel
theorem dR_skip_57 : decode kR_skip 57 = .ok (.aload_n 0, 1) := by decide +kernel
theorem dR_skip_58 : decode kR_skip 58 = .ok (.getfield 28, 3) := by decide +kernel
theorem dR_skip_61 : decode kR_skip 61 = .ok (.iload_n 1, 1) := by decide +kernel
theorem dR_skip_62 : decode kR_skip 62 = .ok (.putfield 48, 3) := by decide +kernel
theorem dR_skip_65 : decode kR_skip 65 = .ok (.iconst 1, 1) := by decide +kernel
theorem dR_skip_66 : decode kR_skip 66 = .ok (.ireturn, 1) := by decide +kernel
def wb_R_skip_39 (θ : TH) (a0_39 : Nat) (x1_39 : Int32) (K : Int32 → VT → UT → Prop) (V : VT) (U : UT) : Prop := isO θ a0_39 6 ∧ (U a0_39 6) ≠ 0 ∧ (U a0_39 0) ≠ 0 ∧ isO θ (U a0_39 0) 1 ∧ isO θ (U a0_39 6) 5 ∧ wp_E_set θ (U a0_39 6) (1 : Int32) (x1_39 - (V (U a0_39 0) 2)) (-1 : Int32) V U (fun V_18 U_19 => (U_19 a0_39 0) ≠ 0 ∧ isO θ (U_19 a0_39 0) 1 ∧ ∀ V_23 : VT, V_23 = up2 V_18 (U_19 a0_39 0) 2 x1_39 → K (1 : Int32) V_23 U_19)
def bl_R_skip_10 (θ : TH) (a0_10 : Nat) (K : Int32 → VT → UT → Prop) (kb10 : Int32 → VT → UT → Prop) (x1_10 : Int32) (V : VT) (U : UT) : Prop := isO θ a0_10 6 ∧ (U a0_10 0) ≠ 0 ∧ isO θ (U a0_10 0) 1 ∧ (((V (U a0_10 0) 1) ≤ x1_10 → wb_R_skip_39 θ a0_10 x1_10 K V U) ∧ (¬ (V (U a0_10 0) 1) ≤ x1_10 → wp_W_pageAt θ (U a0_10 0) x1_10 V U (fun r_11 V_9 U_10 => ((¬ r_11 = (-1 : Int32) → wb_R_skip_39 θ a0_10 x1_10 K V_9 U_10) ∧ (r_11 = (-1 : Int32) → ∀ y_13 : Int32, y_13 = x1_10 + (1 : Int32) → kb10 y_13 V_9 U_10)))))
def wl_R_skip_10 (θ : TH) (a0_10 : Nat) (K : Int32 → VT → UT → Prop) : Nat → Int32 → VT → UT → Prop
  | 0, _, _, _ => False
  | n + 1, x1_10, V, U => bl_R_skip_10 θ a0_10 K (wl_R_skip_10 θ a0_10 K n) x1_10 V U
def wp_R_skip (θ : TH) (a0 : Nat) (V : VT) (U : UT) (K : Int32 → VT → UT → Prop) : Prop := isO θ a0 6 ∧ (U a0 0) ≠ 0 ∧ isO θ (U a0 0) 1 ∧ ∀ y_4 : Int32, y_4 = ((V (U a0 0) 2) + (1 : Int32)) → ∃ n, wl_R_skip_10 θ a0 K n y_4 V U
set_option maxRecDepth 100000 in
set_option maxHeartbeats 4000000 in
theorem c_R_skip (l : Launch) (θ : TH) (a0 : Nat) (V : VT) (U : UT) (K : Int32 → VT → UT → Prop) (hw : wp_R_skip θ a0 V U K) : CMi l yR_skip kR_skip 2 (some .int) rmR_skip θ [.ref a0] V U K := by
  refine g_met nRR (by decide +kernel) rfl (Nat.le_of_ble_eq_true rfl) (fun p e s m args below meth c ls hC hr hlk hwo hl => ?_)
  have hx := hC.1
  have hb := hC.2.1
  have hS : Sx θ s s.heap [] := va_S.rf
  have hl : lv_has ls 2 [(0, .ref a0)] := hl
  have J39 : ∀ (a0_39 : Nat) (x1_39 : Int32) (V : VT) (U : UT) (H : Heap) (locs : List Loc) (ls : Array Slot), wb_R_skip_39 θ a0_39 x1_39 K V U → wo θ V U H → Sx θ s H locs → lv_has ls 2 [(0, .ref a0_39), (1, .int x1_39)] → W p l e rmR_skip s m args below meth c H locs 0 0 (MQ below (QI θ K) args s 0 0 (aT θ)) (F0 m 39 ls []) := by
    intro a0_39 x1_39 V U H locs ls hw hwo hS hl
    unfold wb_R_skip_39 at hw
    refine lv_aload_n hx hb dR_skip_39 rfl (lv_at hl 0 rfl) ?_
    obtain ⟨ho_14, hw⟩ := hw
    obtain ⟨hz_15, hw⟩ := hw
    refine g_getR hC fkR_24 rfl hwo ho_14 hz_15 dR_skip_40 ?_
    refine lv_iconst (v := 1) hx hb dR_skip_43 (by decide) ?_
    refine lv_iload_n hx hb dR_skip_44 rfl (lv_at hl 1 rfl) ?_
    refine lv_aload_n hx hb dR_skip_45 rfl (lv_at hl 0 rfl) ?_
    obtain ⟨hz_16, hw⟩ := hw
    refine g_getR hC fkR_28 rfl hwo ho_14 hz_16 dR_skip_46 ?_
    obtain ⟨ho_17, hw⟩ := hw
    refine g_getI hC fkR_48 rfl hwo ho_17 dR_skip_49 ?_
    refine lv_isub hx hb dR_skip_52 ?_
    refine lv_iconst (v := -1) hx hb dR_skip_53 (by decide) ?_
    obtain ⟨ho_20, hw⟩ := hw
    refine g_Vv (rest := []) hC (c_E_set l θ _ _ _ _ _ _ _ hw) mi_E_set mlR_73 mv_E_set ci_5 ho_20 hwo hS ⟨rfl, rfl⟩ ⟨by decide, by decide⟩ rfl hl.1 rfl (Nat.le_of_ble_eq_true rfl) dR_skip_54 (fun V_18 U_19 hw H locs hwo hS => ?_)
    refine lv_aload_n hx hb dR_skip_57 rfl (lv_at hl 0 rfl) ?_
    obtain ⟨hz_21, hw⟩ := hw
    refine g_getR hC fkR_28 rfl hwo ho_14 hz_21 dR_skip_58 ?_
    refine lv_iload_n hx hb dR_skip_61 rfl (lv_at hl 1 rfl) ?_
    obtain ⟨ho_22, hw⟩ := hw
    refine g_putI hC fkR_48 rfl hwo hS ho_22 dR_skip_62 (fun V_23 eV_23 H locs hwo hS => ?_)
    replace hw := hw V_23 eV_23
    refine lv_iconst (v := 1) hx hb dR_skip_65 (by decide) ?_
    exact g_iret hC hr hlk hw hwo hS dR_skip_66
  have L10 : ∀ (a0_10 : Nat) (n10 : Nat) (x1_10 : Int32) (V : VT) (U : UT) (H : Heap) (locs : List Loc) (ls : Array Slot), wl_R_skip_10 θ a0_10 K n10 x1_10 V U → wo θ V U H → Sx θ s H locs → lv_has ls 2 [(0, .ref a0_10), (1, .int x1_10)] → W p l e rmR_skip s m args below meth c H locs 0 0 (MQ below (QI θ K) args s 0 0 (aT θ)) (F0 m 10 ls []) := by
    intro a0_10 n10
    induction n10 with
    | zero => intro x1_10 V U H locs ls hw hwo hS hl; exact (show False from hw).elim
    | succ n10 ih10 =>
      intro x1_10 V U H locs ls hw hwo hS hl
      replace hw : bl_R_skip_10 θ a0_10 K (wl_R_skip_10 θ a0_10 K n10) x1_10 V U := hw
      unfold bl_R_skip_10 at hw
      refine lv_iload_n hx hb dR_skip_10 rfl (lv_at hl 1 rfl) ?_
      refine lv_aload_n hx hb dR_skip_11 rfl (lv_at hl 0 rfl) ?_
      obtain ⟨ho_5, hw⟩ := hw
      obtain ⟨hz_6, hw⟩ := hw
      refine g_getR hC fkR_28 rfl hwo ho_5 hz_6 dR_skip_12 ?_
      obtain ⟨ho_7, hw⟩ := hw
      refine g_getI hC fkR_86 rfl hwo ho_7 dR_skip_15 ?_
      refine lv_icmp_ge (tgt := 39) hx hb dR_skip_18 (by decide) (fun hc_8 => ?_) (fun hc_8 => ?_)
      · replace hw := hw.1 hc_8
        exact J39 _ _ _ _ _ _ _ hw hwo hS (lv_sub hl [0, 1] rfl)
      · replace hw := hw.2 hc_8
        refine lv_aload_n hx hb dR_skip_21 rfl (lv_at hl 0 rfl) ?_
        refine g_getR hC fkR_28 rfl hwo ho_5 hz_6 dR_skip_22 ?_
        refine lv_iload_n hx hb dR_skip_25 rfl (lv_at hl 1 rfl) ?_
        refine g_Vi (rest := []) hC (c_W_pageAt l θ _ _ _ _ _ hw) mi_W_pageAt mlR_53 mv_W_pageAt ci_1 ho_7 hwo hS ⟨rfl, rfl⟩ ⟨by decide, by decide⟩ rfl hl.1 rfl (Nat.le_of_ble_eq_true rfl) dR_skip_26 (fun r_11 V_9 U_10 hw H locs hwo hS => ?_)
        refine lv_iconst (v := -1) hx hb dR_skip_29 (by decide) ?_
        refine lv_icmp_ne (tgt := 39) hx hb dR_skip_30 (by decide) (fun hc_12 => ?_) (fun hc_12 => ?_)
        · replace hw := hw.1 hc_12
          exact J39 _ _ _ _ _ _ _ hw hwo hS (lv_sub hl [0, 1] rfl)
        · replace hw := hw.2 hc_12
          obtain ⟨y_13, ey_13⟩ : ∃ z : Int32, z = x1_10 + (1 : Int32) := ⟨_, rfl⟩
          replace hw := hw y_13 ey_13
          refine lv_iinc (k := 1) (v := y_13) (lv' := [(1, .int y_13), (0, .ref a0_10)]) hx hb dR_skip_33 hl rfl (by rw [ey_13]; rfl) (by decide) rfl (fun ls hl => ?_)
          refine lv_goto (tgt := 10) hx hb dR_skip_36 (by decide) ?_
          exact ih10 _ _ _ _ _ _ hw hwo hS (lv_sub hl [1, 0] rfl)
  unfold wp_R_skip at hw
  refine lv_aload_n hx hb dR_skip_0 rfl (lv_at hl 0 rfl) ?_
  obtain ⟨ho_1, hw⟩ := hw
  obtain ⟨hz_2, hw⟩ := hw
  refine g_getR hC fkR_28 rfl hwo ho_1 hz_2 dR_skip_1 ?_
  obtain ⟨ho_3, hw⟩ := hw
  refine g_getI hC fkR_48 rfl hwo ho_3 dR_skip_4 ?_
  refine lv_iconst (v := 1) hx hb dR_skip_7 (by decide) ?_
  refine lv_iadd hx hb dR_skip_8 ?_
  refine lv_topi (fun y_4 ey_4 => ?_)
  replace hw := hw y_4 ey_4
  refine lv_istore_n (i := 1) (lv' := [(1, .int y_4), (0, .ref a0)]) hx hb dR_skip_9 rfl hl (by decide) rfl (fun ls hl => ?_)
  obtain ⟨n, hw⟩ := hw
  exact L10 _ n _ _ _ _ _ _ hw hwo hS (lv_sub hl [1, 0] rfl)
theorem dR_inboxOf_0 : decode kR_inboxOf 0 = .ok (.aconst_null, 1) := by decide +kernel
theorem dR_inboxOf_1 : decode kR_inboxOf 1 = .ok (.astore_n 2, 1) := by decide +kernel
theorem dR_inboxOf_2 : decode kR_inboxOf 2 = .ok (.iconst 0, 1) := by decide +kernel
theorem dR_inboxOf_3 : decode kR_inboxOf 3 = .ok (.istore_n 3, 1) := by decide +kernel
theorem dR_inboxOf_4 : decode kR_inboxOf 4 = .ok (.iload_n 3, 1) := by decide +kernel
theorem dR_inboxOf_5 : decode kR_inboxOf 5 = .ok (.iconst 3, 1) := by decide +kernel
theorem dR_inboxOf_6 : decode kR_inboxOf 6 = .ok (.if_icmp .ge 43, 3) := by decide +kernel
theorem dR_inboxOf_9 : decode kR_inboxOf 9 = .ok (.aload_n 0, 1) := by decide +kernel
theorem dR_inboxOf_10 : decode kR_inboxOf 10 = .ok (.getfield 13, 3) := by decide +kernel
theorem dR_inboxOf_13 : decode kR_inboxOf 13 = .ok (.iload_n 3, 1) := by decide +kernel
theorem dR_inboxOf_14 : decode kR_inboxOf 14 = .ok (.aaload, 1) := by decide +kernel
theorem dR_inboxOf_15 : decode kR_inboxOf 15 = .ok (.astore 4, 2) := by decide +kernel
theorem dR_inboxOf_17 : decode kR_inboxOf 17 = .ok (.aload 4, 2) := by decide +kernel
theorem dR_inboxOf_19 : decode kR_inboxOf 19 = .ok (.getfield 115, 3) := by decide +kernel
theorem dR_inboxOf_22 : decode kR_inboxOf 22 = .ok (.ifCond .ne 9, 3) := by decide +kernel
theorem dR_inboxOf_25 : decode kR_inboxOf 25 = .ok (.aload 4, 2) := by decide +kernel
theorem dR_inboxOf_27 : decode kR_inboxOf 27 = .ok (.astore_n 2, 1) := by decide +kernel
theorem dR_inboxOf_28 : decode kR_inboxOf 28 = .ok (.goto 15, 3) := by decide +kernel
theorem dR_inboxOf_31 : decode kR_inboxOf 31 = .ok (.aload 4, 2) := by decide +kernel
theorem dR_inboxOf_33 : decode kR_inboxOf 33 = .ok (.getfield 119, 3) := by decide +kernel
theorem dR_inboxOf_36 : decode kR_inboxOf 36 = .ok (.iload_n 1, 1) := by decide +kernel
theorem dR_inboxOf_37 : decode kR_inboxOf 37 = .ok (.if_icmp .ne 6, 3) := by decide +kernel
theorem dR_inboxOf_40 : decode kR_inboxOf 40 = .ok (.aload 4, 2) := by decide +kernel
theorem dR_inboxOf_42 : decode kR_inboxOf 42 = .ok (.areturn, 1) := by decide +kernel
theorem dR_inboxOf_43 : decode kR_inboxOf 43 = .ok (.iinc 3 1, 3) := by decide +kernel
theorem dR_inboxOf_46 : decode kR_inboxOf 46 = .ok (.goto (-42), 3) := by decide +kernel
theorem dR_inboxOf_49 : decode kR_inboxOf 49 = .ok (.aload_n 2, 1) := by decide +kernel
theorem dR_inboxOf_50 : decode kR_inboxOf 50 = .ok (.areturn, 1) := by decide +kernel
def bl_R_inboxOf_4 (θ : TH) (a0_4 : Nat) (x1_4 : Int32) (K : Nat → VT → UT → Prop) (kb4 : Nat → Int32 → VT → UT → Prop) (n2_4 : Nat) (x3_4 : Int32) (V : VT) (U : UT) : Prop := (((3 : Int32) ≤ x3_4 → K n2_4 V U) ∧ (¬ (3 : Int32) ≤ x3_4 → isO θ a0_4 6 ∧ (U a0_4 2) ≠ 0 ∧ ∃ n_4, isR θ (U a0_4 2) 3 n_4 ∧ vp_in x3_4 n_4 ∧ (U (U a0_4 2) x3_4.toNatClampNeg) ≠ 0 ∧ ∀ a_8 : Nat, a_8 = (U (U a0_4 2) x3_4.toNatClampNeg) → isO θ a_8 4 ∧ ((¬ (V a_8 0) = 0 → ((¬ (V a_8 1) = x1_4 → ∀ y_12 : Int32, y_12 = x3_4 + (1 : Int32) → kb4 n2_4 y_12 V U) ∧ ((V a_8 1) = x1_4 → a_8 ≠ 0 ∧ K a_8 V U))) ∧ ((V a_8 0) = 0 → a_8 ≠ 0 ∧ ∀ y_15 : Int32, y_15 = x3_4 + (1 : Int32) → kb4 a_8 y_15 V U))))
def wl_R_inboxOf_4 (θ : TH) (a0_4 : Nat) (x1_4 : Int32) (K : Nat → VT → UT → Prop) : Nat → Nat → Int32 → VT → UT → Prop
  | 0, _, _, _, _ => False
  | n + 1, n2_4, x3_4, V, U => bl_R_inboxOf_4 θ a0_4 x1_4 K (wl_R_inboxOf_4 θ a0_4 x1_4 K n) n2_4 x3_4 V U
def wp_R_inboxOf (θ : TH) (a0 : Nat) (x1 : Int32) (V : VT) (U : UT) (K : Nat → VT → UT → Prop) : Prop := ∃ n, wl_R_inboxOf_4 θ a0 x1 K n 0 (0 : Int32) V U
set_option maxRecDepth 100000 in
set_option maxHeartbeats 4000000 in
theorem c_R_inboxOf (l : Launch) (θ : TH) (a0 : Nat) (x1 : Int32) (V : VT) (U : UT) (K : Nat → VT → UT → Prop) (hw : wp_R_inboxOf θ a0 x1 V U K) : CMr l yR_inboxOf kR_inboxOf 5 (some (.object "LacedSound$Inbox")) rmR_inboxOf θ [.ref a0, .int x1] V U K := by
  refine g_met nRR (by decide +kernel) rfl (Nat.le_of_ble_eq_true rfl) (fun p e s m args below meth c ls hC hr hlk hwo hl => ?_)
  have hx := hC.1
  have hb := hC.2.1
  have hS : Sx θ s s.heap [] := va_S.rf
  have hl : lv_has ls 5 [(0, .ref a0), (1, .int x1)] := hl
  have L4 : ∀ (a0_4 : Nat) (x1_4 : Int32) (n4 : Nat) (n2_4 : Nat) (x3_4 : Int32) (V : VT) (U : UT) (H : Heap) (locs : List Loc) (ls : Array Slot), wl_R_inboxOf_4 θ a0_4 x1_4 K n4 n2_4 x3_4 V U → wo θ V U H → Sx θ s H locs → lv_has ls 5 [(0, .ref a0_4), (1, .int x1_4), (2, vr n2_4), (3, .int x3_4)] → W p l e rmR_inboxOf s m args below meth c H locs 0 0 (MQ below (QR θ K) args s 0 0 (aT θ)) (F0 m 4 ls []) := by
    intro a0_4 x1_4 n4
    induction n4 with
    | zero => intro n2_4 x3_4 V U H locs ls hw hwo hS hl; exact (show False from hw).elim
    | succ n4 ih4 =>
      intro n2_4 x3_4 V U H locs ls hw hwo hS hl
      replace hw : bl_R_inboxOf_4 θ a0_4 x1_4 K (wl_R_inboxOf_4 θ a0_4 x1_4 K n4) n2_4 x3_4 V U := hw
      unfold bl_R_inboxOf_4 at hw
      refine lv_iload_n hx hb dR_inboxOf_4 rfl (lv_at hl 3 rfl) ?_
      refine lv_iconst (v := 3) hx hb dR_inboxOf_5 (by decide) ?_
      refine lv_icmp_ge (tgt := 49) hx hb dR_inboxOf_6 (by decide) (fun hc_1 => ?_) (fun hc_1 => ?_)
      · replace hw := hw.1 hc_1
        refine g_aloadq_n hC dR_inboxOf_49 rfl (lv_at hl 2 rfl) ?_
        exact g_aretN hC hr hlk hw hwo hS dR_inboxOf_50
      · replace hw := hw.2 hc_1
        refine lv_aload_n hx hb dR_inboxOf_9 rfl (lv_at hl 0 rfl) ?_
        obtain ⟨ho_2, hw⟩ := hw
        obtain ⟨hz_3, hw⟩ := hw
        refine g_getR hC fkR_13 rfl hwo ho_2 hz_3 dR_inboxOf_10 ?_
        refine lv_iload_n hx hb dR_inboxOf_13 rfl (lv_at hl 3 rfl) ?_
        obtain ⟨n_4, ha_5, hw⟩ := hw
        obtain ⟨hi_6, hw⟩ := hw
        obtain ⟨hz_7, hw⟩ := hw
        refine g_aald hC hwo (t := 3) (by decide) rfl ha_5 hi_6 hz_7 dR_inboxOf_14 ?_
        refine g_topr (fun a_8 ea_8 => ?_)
        replace hw := hw a_8 ea_8
        refine lv_astore (i := 4) (lv' := [(4, .ref a_8), (0, .ref a0_4), (1, .int x1_4), (2, vr n2_4), (3, .int x3_4)]) hx hb dR_inboxOf_15 hl (by decide) rfl (fun ls hl => ?_)
        refine lv_aload hx hb dR_inboxOf_17 (lv_at hl 0 rfl) ?_
        obtain ⟨ho_9, hw⟩ := hw
        refine g_getI hC fkR_115 rfl hwo ho_9 dR_inboxOf_19 ?_
        refine lv_if_ne (tgt := 31) hx hb dR_inboxOf_22 (by decide) (fun hc_10 => ?_) (fun hc_10 => ?_)
        · replace hw := hw.1 hc_10
          refine lv_aload hx hb dR_inboxOf_31 (lv_at hl 0 rfl) ?_
          refine g_getI hC fkR_119 rfl hwo ho_9 dR_inboxOf_33 ?_
          refine lv_iload_n hx hb dR_inboxOf_36 rfl (lv_at hl 2 rfl) ?_
          refine lv_icmp_ne (tgt := 43) hx hb dR_inboxOf_37 (by decide) (fun hc_11 => ?_) (fun hc_11 => ?_)
          · replace hw := hw.1 hc_11
            obtain ⟨y_12, ey_12⟩ : ∃ z : Int32, z = x3_4 + (1 : Int32) := ⟨_, rfl⟩
            replace hw := hw y_12 ey_12
            refine lv_iinc (k := 4) (v := y_12) (lv' := [(3, .int y_12), (4, .ref a_8), (0, .ref a0_4), (1, .int x1_4), (2, vr n2_4)]) hx hb dR_inboxOf_43 hl rfl (by rw [ey_12]; rfl) (by decide) (by simp [vr_cat]) (fun ls hl => ?_)
            refine lv_goto (tgt := 4) hx hb dR_inboxOf_46 (by decide) ?_
            exact ih4 _ _ _ _ _ _ _ hw hwo hS (lv_sub hl [2, 3, 4, 0] rfl)
          · replace hw := hw.2 hc_11
            refine lv_aload hx hb dR_inboxOf_40 (lv_at hl 0 rfl) ?_
            obtain ⟨hz_13, hw⟩ := hw
            exact g_aret hC hr hlk hz_13 hw hwo hS dR_inboxOf_42
        · replace hw := hw.2 hc_10
          refine lv_aload hx hb dR_inboxOf_25 (lv_at hl 0 rfl) ?_
          obtain ⟨hz_14, hw⟩ := hw
          refine g_tonull hz_14 ?_
          refine g_astoreq_n (lv' := [(2, vr a_8), (4, .ref a_8), (0, .ref a0_4), (1, .int x1_4), (3, .int x3_4)]) hC dR_inboxOf_27 rfl hl (by decide) rfl (fun ls hl => ?_)
          refine lv_goto (tgt := 43) hx hb dR_inboxOf_28 (by decide) ?_
          obtain ⟨y_15, ey_15⟩ : ∃ z : Int32, z = x3_4 + (1 : Int32) := ⟨_, rfl⟩
          replace hw := hw y_15 ey_15
          refine lv_iinc (k := 4) (v := y_15) (lv' := [(3, .int y_15), (2, vr a_8), (4, .ref a_8), (0, .ref a0_4), (1, .int x1_4)]) hx hb dR_inboxOf_43 hl rfl (by rw [ey_15]; rfl) (by decide) (by simp [vr_cat]) (fun ls hl => ?_)
          refine lv_goto (tgt := 4) hx hb dR_inboxOf_46 (by decide) ?_
          exact ih4 _ _ _ _ _ _ _ hw hwo hS (lv_sub hl [3, 4, 1, 0] rfl)
  unfold wp_R_inboxOf at hw
  refine lv_null hx hb dR_inboxOf_0 ?_
  refine g_astoreq_n (lv' := [(2, vr 0), (0, .ref a0), (1, .int x1)]) hC dR_inboxOf_1 rfl hl (by decide) rfl (fun ls hl => ?_)
  refine lv_iconst (v := 0) hx hb dR_inboxOf_2 (by decide) ?_
  refine lv_istore_n (i := 3) (lv' := [(3, .int (0 : Int32)), (2, vr 0), (0, .ref a0), (1, .int x1)]) hx hb dR_inboxOf_3 rfl hl (by decide) (by simp [vr_cat]) (fun ls hl => ?_)
  obtain ⟨n, hw⟩ := hw
  exact L4 _ _ n _ _ _ _ _ _ _ hw hwo hS (lv_sub hl [2, 3, 1, 0] rfl)
theorem dR_makeEvent_0 : decode kR_makeEvent 0 = .ok (.aload_n 0, 1) := by decide +kernel
theorem dR_makeEvent_1 : decode kR_makeEvent 1 = .ok (.getfield 19, 3) := by decide +kernel
theorem dR_makeEvent_4 : decode kR_makeEvent 4 = .ok (.aload_n 0, 1) := by decide +kernel
theorem dR_makeEvent_5 : decode kR_makeEvent 5 = .ok (.getfield 41, 3) := by decide +kernel
theorem dR_makeEvent_8 : decode kR_makeEvent 8 = .ok (.bipush 7, 2) := by decide +kernel
theorem dR_makeEvent_10 : decode kR_makeEvent 10 = .ok (.invokestatic 168, 3) := by decide +kernel
theorem dR_makeEvent_13 : decode kR_makeEvent 13 = .ok (.aaload, 1) := by decide +kernel
theorem dR_makeEvent_14 : decode kR_makeEvent 14 = .ok (.astore 4, 2) := by decide +kernel
theorem dR_makeEvent_16 : decode kR_makeEvent 16 = .ok (.aload 4, 2) := by decide +kernel
theorem dR_makeEvent_18 : decode kR_makeEvent 18 = .ok (.iload_n 1, 1) := by decide +kernel
theorem dR_makeEvent_19 : decode kR_makeEvent 19 = .ok (.iload_n 2, 1) := by decide +kernel
theorem dR_makeEvent_20 : decode kR_makeEvent 20 = .ok (.iload_n 3, 1) := by decide +kernel
theorem dR_makeEvent_21 : decode kR_makeEvent 21 = .ok (.invokevirtual 73, 3) := by decide +kernel
theorem dR_makeEvent_24 : decode kR_makeEvent 24 = .ok (.aload_n 0, 1) := by decide +kernel
theorem dR_makeEvent_25 : decode kR_makeEvent 25 = .ok (.aload_n 0, 1) := by decide +kernel
theorem dR_makeEvent_26 : decode kR_makeEvent 26 = .ok (.getfield 41, 3) := by decide +kernel
theorem dR_makeEvent_29 : decode kR_makeEvent 29 = .ok (.iconst 1, 1) := by decide +kernel
theorem dR_makeEvent_30 : decode kR_makeEvent 30 = .ok (.iadd, 1) := by decide +kernel
theorem dR_makeEvent_31 : decode kR_makeEvent 31 = .ok (.bipush 8, 2) := by decide +kernel
theorem dR_makeEvent_33 : decode kR_makeEvent 33 = .ok (.invokestatic 168, 3) := by decide +kernel
theorem dR_makeEvent_36 : decode kR_makeEvent 36 = .ok (.putfield 41, 3) := by decide +kernel
theorem dR_makeEvent_39 : decode kR_makeEvent 39 = .ok (.aload 4, 2) := by decide +kernel
theorem dR_makeEvent_41 : decode kR_makeEvent 41 = .ok (.areturn, 1) := by decide +kernel
def wp_R_makeEvent (θ : TH) (a0 : Nat) (x1 : Int32) (x2 : Int32) (x3 : Int32) (V : VT) (U : UT) (K : Nat → VT → UT → Prop) : Prop := isO θ a0 6 ∧ (U a0 3) ≠ 0 ∧ ∃ n_3, isR θ (U a0 3) 4 n_3 ∧ vp_in (if (7 : Int32) < (V a0 4) then (7 : Int32) else (V a0 4)) n_3 ∧ (U (U a0 3) (if (7 : Int32) < (V a0 4) then (7 : Int32) else (V a0 4)).toNatClampNeg) ≠ 0 ∧ ∀ a_7 : Nat, a_7 = (U (U a0 3) (if (7 : Int32) < (V a0 4) then (7 : Int32) else (V a0 4)).toNatClampNeg) → isO θ a_7 5 ∧ wp_E_set θ a_7 x1 x2 x3 V U (fun V_8 U_9 => ∀ V_11 : VT, V_11 = up2 V_8 a0 4 (if (8 : Int32) < ((V_8 a0 4) + (1 : Int32)) then (8 : Int32) else ((V_8 a0 4) + (1 : Int32))) → a_7 ≠ 0 ∧ K a_7 V_11 U_9)
set_option maxRecDepth 100000 in
set_option maxHeartbeats 4000000 in
theorem c_R_makeEvent (l : Launch) (θ : TH) (a0 : Nat) (x1 : Int32) (x2 : Int32) (x3 : Int32) (V : VT) (U : UT) (K : Nat → VT → UT → Prop) (hw : wp_R_makeEvent θ a0 x1 x2 x3 V U K) : CMr l yR_makeEvent kR_makeEvent 5 (some (.object "LacedSound$Event")) rmR_makeEvent θ [.ref a0, .int x1, .int x2, .int x3] V U K := by
  refine g_met nRR (by decide +kernel) rfl (Nat.le_of_ble_eq_true rfl) (fun p e s m args below meth c ls hC hr hlk hwo hl => ?_)
  have hx := hC.1
  have hb := hC.2.1
  have hS : Sx θ s s.heap [] := va_S.rf
  have hl : lv_has ls 5 [(0, .ref a0), (1, .int x1), (2, .int x2), (3, .int x3)] := hl
  unfold wp_R_makeEvent at hw
  refine lv_aload_n hx hb dR_makeEvent_0 rfl (lv_at hl 0 rfl) ?_
  obtain ⟨ho_1, hw⟩ := hw
  obtain ⟨hz_2, hw⟩ := hw
  refine g_getR hC fkR_19 rfl hwo ho_1 hz_2 dR_makeEvent_1 ?_
  refine lv_aload_n hx hb dR_makeEvent_4 rfl (lv_at hl 0 rfl) ?_
  refine g_getI hC fkR_41 rfl hwo ho_1 dR_makeEvent_5 ?_
  refine lv_bipush (v := 7) hx hb dR_makeEvent_8 (by decide) ?_
  refine g_min hC hl.1 lkR_168 ka_min (by decide) (Nat.le_of_ble_eq_true rfl) dR_makeEvent_10 ?_
  obtain ⟨n_3, ha_4, hw⟩ := hw
  obtain ⟨hi_5, hw⟩ := hw
  obtain ⟨hz_6, hw⟩ := hw
  refine g_aald hC hwo (t := 4) (by decide) rfl ha_4 hi_5 hz_6 dR_makeEvent_13 ?_
  refine g_topr (fun a_7 ea_7 => ?_)
  replace hw := hw a_7 ea_7
  refine lv_astore (i := 4) (lv' := [(4, .ref a_7), (0, .ref a0), (1, .int x1), (2, .int x2), (3, .int x3)]) hx hb dR_makeEvent_14 hl (by decide) rfl (fun ls hl => ?_)
  refine lv_aload hx hb dR_makeEvent_16 (lv_at hl 0 rfl) ?_
  refine lv_iload_n hx hb dR_makeEvent_18 rfl (lv_at hl 2 rfl) ?_
  refine lv_iload_n hx hb dR_makeEvent_19 rfl (lv_at hl 3 rfl) ?_
  refine lv_iload_n hx hb dR_makeEvent_20 rfl (lv_at hl 4 rfl) ?_
  obtain ⟨ho_10, hw⟩ := hw
  refine g_Vv (rest := []) hC (c_E_set l θ _ _ _ _ _ _ _ hw) mi_E_set mlR_73 mv_E_set ci_5 ho_10 hwo hS ⟨rfl, rfl⟩ ⟨by decide, by decide⟩ rfl hl.1 rfl (Nat.le_of_ble_eq_true rfl) dR_makeEvent_21 (fun V_8 U_9 hw H locs hwo hS => ?_)
  refine lv_aload_n hx hb dR_makeEvent_24 rfl (lv_at hl 1 rfl) ?_
  refine lv_aload_n hx hb dR_makeEvent_25 rfl (lv_at hl 1 rfl) ?_
  refine g_getI hC fkR_41 rfl hwo ho_1 dR_makeEvent_26 ?_
  refine lv_iconst (v := 1) hx hb dR_makeEvent_29 (by decide) ?_
  refine lv_iadd hx hb dR_makeEvent_30 ?_
  refine lv_bipush (v := 8) hx hb dR_makeEvent_31 (by decide) ?_
  refine g_min hC hl.1 lkR_168 ka_min (by decide) (Nat.le_of_ble_eq_true rfl) dR_makeEvent_33 ?_
  refine g_putI hC fkR_41 rfl hwo hS ho_1 dR_makeEvent_36 (fun V_11 eV_11 H locs hwo hS => ?_)
  replace hw := hw V_11 eV_11
  refine lv_aload hx hb dR_makeEvent_39 (lv_at hl 0 rfl) ?_
  obtain ⟨hz_12, hw⟩ := hw
  exact g_aret hC hr hlk hz_12 hw hwo hS dR_makeEvent_41
theorem dR_drop_0 : decode kR_drop 0 = .ok (.aload_n 1, 1) := by decide +kernel
theorem dR_drop_1 : decode kR_drop 1 = .ok (.getfield 126, 3) := by decide +kernel
theorem dR_drop_4 : decode kR_drop 4 = .ok (.getfield 130, 3) := by decide +kernel
theorem dR_drop_7 : decode kR_drop 7 = .ok (.ifCond .le 20, 3) := by decide +kernel
theorem dR_drop_10 : decode kR_drop 10 = .ok (.aload_n 1, 1) := by decide +kernel
theorem dR_drop_11 : decode kR_drop 11 = .ok (.getfield 126, 3) := by decide +kernel
theorem dR_drop_14 : decode kR_drop 14 = .ok (.invokevirtual 165, 3) := by decide +kernel
theorem dR_drop_17 : decode kR_drop 17 = .ok (.aload_n 0, 1) := by decide +kernel
theorem dR_drop_18 : decode kR_drop 18 = .ok (.dup, 1) := by decide +kernel
theorem dR_drop_19 : decode kR_drop 19 = .ok (.getfield 139, 3) := by decide +kernel
theorem dR_drop_22 : decode kR_drop 22 = .ok (.iconst 1, 1) := by decide +kernel
theorem dR_drop_23 : decode kR_drop 23 = .ok (.iadd, 1) := by decide +kernel
theorem dR_drop_24 : decode kR_drop 24 = .ok (.putfield 139, 3) := by decide +kernel
theorem dR_drop_27 : decode kR_drop 27 = .ok (.return_, 1) := by decide +kernel
def wp_R_drop (θ : TH) (a0 : Nat) (a1 : Nat) (V : VT) (U : UT) (K : VT → UT → Prop) : Prop := isO θ a1 4 ∧ (U a1 4) ≠ 0 ∧ isO θ (U a1 4) 3 ∧ (((V (U a1 4) 1) ≤ 0 → K V U) ∧ (¬ (V (U a1 4) 1) ≤ 0 → wp_K_clear θ (U a1 4) V U (fun V_5 U_6 => isO θ a0 6 ∧ ∀ V_8 : VT, V_8 = up2 V_5 a0 7 ((V_5 a0 7) + (1 : Int32)) → K V_8 U_6)))
set_option maxRecDepth 100000 in
set_option maxHeartbeats 4000000 in
theorem c_R_drop (l : Launch) (θ : TH) (a0 : Nat) (a1 : Nat) (V : VT) (U : UT) (K : VT → UT → Prop) (hw : wp_R_drop θ a0 a1 V U K) : CMv l yR_drop kR_drop 2 none rmR_drop θ [.ref a0, .ref a1] V U K := by
  refine g_met nRR (by decide +kernel) rfl (Nat.le_of_ble_eq_true rfl) (fun p e s m args below meth c ls hC hr hlk hwo hl => ?_)
  have hx := hC.1
  have hb := hC.2.1
  have hS : Sx θ s s.heap [] := va_S.rf
  have hl : lv_has ls 2 [(0, .ref a0), (1, .ref a1)] := hl
  unfold wp_R_drop at hw
  refine lv_aload_n hx hb dR_drop_0 rfl (lv_at hl 1 rfl) ?_
  obtain ⟨ho_1, hw⟩ := hw
  obtain ⟨hz_2, hw⟩ := hw
  refine g_getR hC fkR_126 rfl hwo ho_1 hz_2 dR_drop_1 ?_
  obtain ⟨ho_3, hw⟩ := hw
  refine g_getI hC fkR_130 rfl hwo ho_3 dR_drop_4 ?_
  refine lv_if_le (tgt := 27) hx hb dR_drop_7 (by decide) (fun hc_4 => ?_) (fun hc_4 => ?_)
  · replace hw := hw.1 hc_4
    exact g_vret hC hr hlk hw hwo hS dR_drop_27
  · replace hw := hw.2 hc_4
    refine lv_aload_n hx hb dR_drop_10 rfl (lv_at hl 1 rfl) ?_
    refine g_getR hC fkR_126 rfl hwo ho_1 hz_2 dR_drop_11 ?_
    refine g_Vv (rest := []) hC (c_K_clear l θ _ _ _ _ hw) mi_K_clear mlR_165 mv_K_clear ci_3 ho_3 hwo hS ⟨rfl, rfl⟩ ⟨by decide, by decide⟩ rfl hl.1 rfl (Nat.le_of_ble_eq_true rfl) dR_drop_14 (fun V_5 U_6 hw H locs hwo hS => ?_)
    refine lv_aload_n hx hb dR_drop_17 rfl (lv_at hl 0 rfl) ?_
    refine lv_dup hx hb dR_drop_18 rfl ?_
    obtain ⟨ho_7, hw⟩ := hw
    refine g_getI hC fkR_139 rfl hwo ho_7 dR_drop_19 ?_
    refine lv_iconst (v := 1) hx hb dR_drop_22 (by decide) ?_
    refine lv_iadd hx hb dR_drop_23 ?_
    refine g_putI hC fkR_139 rfl hwo hS ho_7 dR_drop_24 (fun V_8 eV_8 H locs hwo hS => ?_)
    replace hw := hw V_8 eV_8
    exact g_vret hC hr hlk hw hwo hS dR_drop_27
theorem dR_enter_0 : decode kR_enter 0 = .ok (.aload_n 1, 1) := by decide +kernel
theorem dR_enter_1 : decode kR_enter 1 = .ok (.getfield 120, 3) := by decide +kernel
theorem dR_enter_4 : decode kR_enter 4 = .ok (.iconst 1, 1) := by decide +kernel
theorem dR_enter_5 : decode kR_enter 5 = .ok (.iadd, 1) := by decide +kernel
theorem dR_enter_6 : decode kR_enter 6 = .ok (.sipush 255, 3) := by decide +kernel
theorem dR_enter_9 : decode kR_enter 9 = .ok (.iand, 1) := by decide +kernel
theorem dR_enter_10 : decode kR_enter 10 = .ok (.istore 5, 2) := by decide +kernel
theorem dR_enter_12 : decode kR_enter 12 = .ok (.aload_n 1, 1) := by decide +kernel
theorem dR_enter_13 : decode kR_enter 13 = .ok (.getfield 115, 3) := by decide +kernel
theorem dR_enter_16 : decode kR_enter 16 = .ok (.ifCond .ne 11, 3) := by decide +kernel
theorem dR_enter_19 : decode kR_enter 19 = .ok (.aload_n 1, 1) := by decide +kernel
theorem dR_enter_20 : decode kR_enter 20 = .ok (.iload_n 2, 1) := by decide +kernel
theorem dR_enter_21 : decode kR_enter 21 = .ok (.invokevirtual 123, 3) := by decide +kernel
theorem dR_enter_24 : decode kR_enter 24 = .ok (.goto 50, 3) := by decide +kernel
theorem dR_enter_27 : decode kR_enter 27 = .ok (.iload_n 3, 1) := by decide +kernel
theorem dR_enter_28 : decode kR_enter 28 = .ok (.iconst 2, 1) := by decide +kernel
theorem dR_enter_29 : decode kR_enter 29 = .ok (.iand, 1) := by decide +kernel
theorem dR_enter_30 : decode kR_enter 30 = .ok (.ifCond .eq 16, 3) := by decide +kernel
theorem dR_enter_33 : decode kR_enter 33 = .ok (.aload_n 0, 1) := by decide +kernel
theorem dR_enter_34 : decode kR_enter 34 = .ok (.aload_n 1, 1) := by decide +kernel
theorem dR_enter_35 : decode kR_enter 35 = .ok (.invokevirtual 108, 3) := by decide +kernel
theorem dR_enter_38 : decode kR_enter 38 = .ok (.aload_n 1, 1) := by decide +kernel
theorem dR_enter_39 : decode kR_enter 39 = .ok (.iconst 0, 1) := by decide +kernel
theorem dR_enter_40 : decode kR_enter 40 = .ok (.putfield 112, 3) := by decide +kernel
theorem dR_enter_43 : decode kR_enter 43 = .ok (.goto 31, 3) := by decide +kernel
theorem dR_enter_46 : decode kR_enter 46 = .ok (.iload 4, 2) := by decide +kernel
theorem dR_enter_48 : decode kR_enter 48 = .ok (.iload 5, 2) := by decide +kernel
theorem dR_enter_50 : decode kR_enter 50 = .ok (.if_icmp .eq 24, 3) := by decide +kernel
theorem dR_enter_53 : decode kR_enter 53 = .ok (.aload_n 0, 1) := by decide +kernel
theorem dR_enter_54 : decode kR_enter 54 = .ok (.iconst 2, 1) := by decide +kernel
theorem dR_enter_55 : decode kR_enter 55 = .ok (.iload 4, 2) := by decide +kernel
theorem dR_enter_57 : decode kR_enter 57 = .ok (.iload 5, 2) := by decide +kernel
theorem dR_enter_59 : decode kR_enter 59 = .ok (.isub, 1) := by decide +kernel
theorem dR_enter_60 : decode kR_enter 60 = .ok (.sipush 255, 3) := by decide +kernel
theorem dR_enter_63 : decode kR_enter 63 = .ok (.iand, 1) := by decide +kernel
theorem dR_enter_64 : decode kR_enter 64 = .ok (.iload_n 2, 1) := by decide +kernel
theorem dR_enter_65 : decode kR_enter 65 = .ok (.invokevirtual 96, 3) := by decide +kernel
theorem dR_enter_68 : decode kR_enter 68 = .ok (.pop, 1) := by decide +kernel
theorem dR_enter_69 : decode kR_enter 69 = .ok (.aload_n 0, 1) := by decide +kernel
theorem dR_enter_70 : decode kR_enter 70 = .ok (.aload_n 1, 1) := by decide +kernel
theorem dR_enter_71 : decode kR_enter 71 = .ok (.invokevirtual 108, 3) := by decide +kernel
theorem dR_enter_74 : decode kR_enter 74 = .ok (.aload_n 1, 1) := by decide +kernel
theorem dR_enter_75 : decode kR_enter 75 = .ok (.iload 4, 2) := by decide +kernel
theorem dR_enter_77 : decode kR_enter 77 = .ok (.putfield 120, 3) := by decide +kernel
theorem dR_enter_80 : decode kR_enter 80 = .ok (.return_, 1) := by decide +kernel
def wp_R_enter (θ : TH) (a0 : Nat) (a1 : Nat) (x2 : Int32) (x3 : Int32) (x4 : Int32) (V : VT) (U : UT) (K : VT → UT → Prop) : Prop := isO θ a1 4 ∧ ∀ y_2 : Int32, y_2 = (((V a1 2) + (1 : Int32)) &&& (255 : Int32)) → ((¬ (V a1 0) = 0 → (((x3 &&& (2 : Int32)) = 0 → ((x4 = y_2 → ∀ V_6 : VT, V_6 = up2 V a1 2 x4 → K V_6 U) ∧ (¬ x4 = y_2 → isO θ a0 6 ∧ wp_R_makeEvent θ a0 (2 : Int32) ((x4 - y_2) &&& (255 : Int32)) x2 V U (fun r_10 V_7 U_8 => r_10 ≠ 0 ∧ wp_R_drop θ a0 a1 V_7 U_8 (fun V_12 U_13 => ∀ V_14 : VT, V_14 = up2 V_12 a1 2 x4 → K V_14 U_13))))) ∧ (¬ (x3 &&& (2 : Int32)) = 0 → isO θ a0 6 ∧ wp_R_drop θ a0 a1 V U (fun V_15 U_16 => ∀ V_18 : VT, V_18 = up2 V_15 a1 3 (0 : Int32) → ∀ V_19 : VT, V_19 = up2 V_18 a1 2 x4 → K V_19 U_16)))) ∧ ((V a1 0) = 0 → wp_I_begin θ a1 x2 V U (fun V_20 U_21 => ∀ V_22 : VT, V_22 = up2 V_20 a1 2 x4 → K V_22 U_21)))
set_option maxRecDepth 100000 in
set_option maxHeartbeats 4000000 in
theorem c_R_enter (l : Launch) (θ : TH) (a0 : Nat) (a1 : Nat) (x2 : Int32) (x3 : Int32) (x4 : Int32) (V : VT) (U : UT) (K : VT → UT → Prop) (hw : wp_R_enter θ a0 a1 x2 x3 x4 V U K) : CMv l yR_enter kR_enter 6 none rmR_enter θ [.ref a0, .ref a1, .int x2, .int x3, .int x4] V U K := by
  refine g_met nRR (by decide +kernel) rfl (Nat.le_of_ble_eq_true rfl) (fun p e s m args below meth c ls hC hr hlk hwo hl => ?_)
  have hx := hC.1
  have hb := hC.2.1
  have hS : Sx θ s s.heap [] := va_S.rf
  have hl : lv_has ls 6 [(0, .ref a0), (1, .ref a1), (2, .int x2), (3, .int x3), (4, .int x4)] := hl
  unfold wp_R_enter at hw
  refine lv_aload_n hx hb dR_enter_0 rfl (lv_at hl 1 rfl) ?_
  obtain ⟨ho_1, hw⟩ := hw
  refine g_getI hC fkR_120 rfl hwo ho_1 dR_enter_1 ?_
  refine lv_iconst (v := 1) hx hb dR_enter_4 (by decide) ?_
  refine lv_iadd hx hb dR_enter_5 ?_
  refine lv_sipush (v := 255) hx hb dR_enter_6 (by decide) ?_
  refine lv_iand hx hb dR_enter_9 ?_
  refine lv_topi (fun y_2 ey_2 => ?_)
  replace hw := hw y_2 ey_2
  refine lv_istore (i := 5) (lv' := [(5, .int y_2), (0, .ref a0), (1, .ref a1), (2, .int x2), (3, .int x3), (4, .int x4)]) hx hb dR_enter_10 hl (by decide) rfl (fun ls hl => ?_)
  refine lv_aload_n hx hb dR_enter_12 rfl (lv_at hl 2 rfl) ?_
  refine g_getI hC fkR_115 rfl hwo ho_1 dR_enter_13 ?_
  refine lv_if_ne (tgt := 27) hx hb dR_enter_16 (by decide) (fun hc_3 => ?_) (fun hc_3 => ?_)
  · replace hw := hw.1 hc_3
    refine lv_iload_n hx hb dR_enter_27 rfl (lv_at hl 4 rfl) ?_
    refine lv_iconst (v := 2) hx hb dR_enter_28 (by decide) ?_
    refine lv_iand hx hb dR_enter_29 ?_
    refine lv_if_eq (tgt := 46) hx hb dR_enter_30 (by decide) (fun hc_4 => ?_) (fun hc_4 => ?_)
    · replace hw := hw.1 hc_4
      refine lv_iload hx hb dR_enter_46 (lv_at hl 5 rfl) ?_
      refine lv_iload hx hb dR_enter_48 (lv_at hl 0 rfl) ?_
      refine lv_icmp_eq (tgt := 74) hx hb dR_enter_50 (by decide) (fun hc_5 => ?_) (fun hc_5 => ?_)
      · replace hw := hw.1 hc_5
        refine lv_aload_n hx hb dR_enter_74 rfl (lv_at hl 2 rfl) ?_
        refine lv_iload hx hb dR_enter_75 (lv_at hl 5 rfl) ?_
        refine g_putI hC fkR_120 rfl hwo hS ho_1 dR_enter_77 (fun V_6 eV_6 H locs hwo hS => ?_)
        replace hw := hw V_6 eV_6
        exact g_vret hC hr hlk hw hwo hS dR_enter_80
      · replace hw := hw.2 hc_5
        refine lv_aload_n hx hb dR_enter_53 rfl (lv_at hl 1 rfl) ?_
        refine lv_iconst (v := 2) hx hb dR_enter_54 (by decide) ?_
        refine lv_iload hx hb dR_enter_55 (lv_at hl 5 rfl) ?_
        refine lv_iload hx hb dR_enter_57 (lv_at hl 0 rfl) ?_
        refine lv_isub hx hb dR_enter_59 ?_
        refine lv_sipush (v := 255) hx hb dR_enter_60 (by decide) ?_
        refine lv_iand hx hb dR_enter_63 ?_
        refine lv_iload_n hx hb dR_enter_64 rfl (lv_at hl 3 rfl) ?_
        obtain ⟨ho_9, hw⟩ := hw
        refine g_Vr (rest := []) hC (c_R_makeEvent l θ _ _ _ _ _ _ _ hw) mi_R_makeEvent mlR_96 mv_R_makeEvent ci_6 ho_9 hwo hS ⟨rfl, rfl⟩ ⟨by decide, by decide⟩ rfl hl.1 rfl (Nat.le_of_ble_eq_true rfl) dR_enter_65 (fun r_10 V_7 U_8 hw H locs hwo hS => ?_)
        obtain ⟨hz_11, hw⟩ := hw
        refine g_nn hz_11 ?_
        refine lv_pop hx hb dR_enter_68 rfl ?_
        refine lv_aload_n hx hb dR_enter_69 rfl (lv_at hl 1 rfl) ?_
        refine lv_aload_n hx hb dR_enter_70 rfl (lv_at hl 2 rfl) ?_
        refine g_Vv (rest := []) hC (c_R_drop l θ _ _ _ _ _ hw) mi_R_drop mlR_108 mv_R_drop ci_6 ho_9 hwo hS ⟨rfl, rfl⟩ ⟨by decide, by decide⟩ rfl hl.1 rfl (Nat.le_of_ble_eq_true rfl) dR_enter_71 (fun V_12 U_13 hw H locs hwo hS => ?_)
        refine lv_aload_n hx hb dR_enter_74 rfl (lv_at hl 2 rfl) ?_
        refine lv_iload hx hb dR_enter_75 (lv_at hl 5 rfl) ?_
        refine g_putI hC fkR_120 rfl hwo hS ho_1 dR_enter_77 (fun V_14 eV_14 H locs hwo hS => ?_)
        replace hw := hw V_14 eV_14
        exact g_vret hC hr hlk hw hwo hS dR_enter_80
    · replace hw := hw.2 hc_4
      refine lv_aload_n hx hb dR_enter_33 rfl (lv_at hl 1 rfl) ?_
      refine lv_aload_n hx hb dR_enter_34 rfl (lv_at hl 2 rfl) ?_
      obtain ⟨ho_17, hw⟩ := hw
      refine g_Vv (rest := []) hC (c_R_drop l θ _ _ _ _ _ hw) mi_R_drop mlR_108 mv_R_drop ci_6 ho_17 hwo hS ⟨rfl, rfl⟩ ⟨by decide, by decide⟩ rfl hl.1 rfl (Nat.le_of_ble_eq_true rfl) dR_enter_35 (fun V_15 U_16 hw H locs hwo hS => ?_)
      refine lv_aload_n hx hb dR_enter_38 rfl (lv_at hl 2 rfl) ?_
      refine lv_iconst (v := 0) hx hb dR_enter_39 (by decide) ?_
      refine g_putI hC fkR_112 rfl hwo hS ho_1 dR_enter_40 (fun V_18 eV_18 H locs hwo hS => ?_)
      replace hw := hw V_18 eV_18
      refine lv_goto (tgt := 74) hx hb dR_enter_43 (by decide) ?_
      refine lv_aload_n hx hb dR_enter_74 rfl (lv_at hl 2 rfl) ?_
      refine lv_iload hx hb dR_enter_75 (lv_at hl 5 rfl) ?_
      refine g_putI hC fkR_120 rfl hwo hS ho_1 dR_enter_77 (fun V_19 eV_19 H locs hwo hS => ?_)
      replace hw := hw V_19 eV_19
      exact g_vret hC hr hlk hw hwo hS dR_enter_80
  · replace hw := hw.2 hc_3
    refine lv_aload_n hx hb dR_enter_19 rfl (lv_at hl 2 rfl) ?_
    refine lv_iload_n hx hb dR_enter_20 rfl (lv_at hl 3 rfl) ?_
    refine g_Vv (rest := []) hC (c_I_begin l θ _ _ _ _ _ hw) mi_I_begin mlR_123 mv_I_begin ci_4 ho_1 hwo hS ⟨rfl, rfl⟩ ⟨by decide, by decide⟩ rfl hl.1 rfl (Nat.le_of_ble_eq_true rfl) dR_enter_21 (fun V_20 U_21 hw H locs hwo hS => ?_)
    refine lv_goto (tgt := 74) hx hb dR_enter_24 (by decide) ?_
    refine lv_aload_n hx hb dR_enter_74 rfl (lv_at hl 2 rfl) ?_
    refine lv_iload hx hb dR_enter_75 (lv_at hl 5 rfl) ?_
    refine g_putI hC fkR_120 rfl hwo hS ho_1 dR_enter_77 (fun V_22 eV_22 H locs hwo hS => ?_)
    replace hw := hw V_22 eV_22
    exact g_vret hC hr hlk hw hwo hS dR_enter_80
theorem dR_afterFirstEnd_0 : decode kR_afterFirstEnd 0 = .ok (.iconst 0, 1) := by decide +kernel
theorem dR_afterFirstEnd_1 : decode kR_afterFirstEnd 1 = .ok (.istore_n 3, 1) := by decide +kernel
theorem dR_afterFirstEnd_2 : decode kR_afterFirstEnd 2 = .ok (.iload_n 3, 1) := by decide +kernel
theorem dR_afterFirstEnd_3 : decode kR_afterFirstEnd 3 = .ok (.iload_n 2, 1) := by decide +kernel
theorem dR_afterFirstEnd_4 : decode kR_afterFirstEnd 4 = .ok (.if_icmp .ge 31, 3) := by decide +kernel
theorem dR_afterFirstEnd_7 : decode kR_afterFirstEnd 7 = .ok (.aload_n 0, 1) := by decide +kernel
theorem dR_afterFirstEnd_8 : decode kR_afterFirstEnd 8 = .ok (.getfield 28, 3) := by decide +kernel
theorem dR_afterFirstEnd_11 : decode kR_afterFirstEnd 11 = .ok (.iload_n 1, 1) := by decide +kernel
theorem dR_afterFirstEnd_12 : decode kR_afterFirstEnd 12 = .ok (.bipush 14, 2) := by decide +kernel
theorem dR_afterFirstEnd_14 : decode kR_afterFirstEnd 14 = .ok (.iadd, 1) := by decide +kernel
theorem dR_afterFirstEnd_15 : decode kR_afterFirstEnd 15 = .ok (.iload_n 3, 1) := by decide +kernel
theorem dR_afterFirstEnd_16 : decode kR_afterFirstEnd 16 = .ok (.iadd, 1) := by decide +kernel
theorem dR_afterFirstEnd_17 : decode kR_afterFirstEnd 17 = .ok (.invokevirtual 89, 3) := by decide +kernel
theorem dR_afterFirstEnd_20 : decode kR_afterFirstEnd 20 = .ok (.bipush 15, 2) := by decide +kernel
theorem dR_afterFirstEnd_22 : decode kR_afterFirstEnd 22 = .ok (.if_icmp .ge 7, 3) := by decide +kernel
theorem dR_afterFirstEnd_25 : decode kR_afterFirstEnd 25 = .ok (.iload_n 3, 1) := by decide +kernel
theorem dR_afterFirstEnd_26 : decode kR_afterFirstEnd 26 = .ok (.iconst 1, 1) := by decide +kernel
theorem dR_afterFirstEnd_27 : decode kR_afterFirstEnd 27 = .ok (.iadd, 1) := by decide +kernel
theorem dR_afterFirstEnd_28 : decode kR_afterFirstEnd 28 = .ok (.ireturn, 1) := by decide +kernel
theorem dR_afterFirstEnd_29 : decode kR_afterFirstEnd 29 = .ok (.iinc 3 1, 3) := by decide +kernel
theorem dR_afterFirstEnd_32 : decode kR_afterFirstEnd 32 = .ok (.goto (-30), 3) := by decide +kernel
theorem dR_afterFirstEnd_35 : decode kR_afterFirstEnd 35 = .ok (.iload_n 2, 1) := by decide +kernel
theorem dR_afterFirstEnd_36 : decode kR_afterFirstEnd 36 = .ok (.ireturn, 1) := by decide +kernel
def bl_R_afterFirstEnd_2 (θ : TH) (a0_2 : Nat) (x1_2 : Int32) (x2_2 : Int32) (K : Int32 → VT → UT → Prop) (kb2 : Int32 → VT → UT → Prop) (x3_2 : Int32) (V : VT) (U : UT) : Prop := ((x2_2 ≤ x3_2 → K x2_2 V U) ∧ (¬ x2_2 ≤ x3_2 → isO θ a0_2 6 ∧ (U a0_2 0) ≠ 0 ∧ isO θ (U a0_2 0) 1 ∧ wp_W_at θ (U a0_2 0) ((x1_2 + (14 : Int32)) + x3_2) V U (fun r_7 V_4 U_5 => (((15 : Int32) ≤ r_7 → ∀ y_9 : Int32, y_9 = x3_2 + (1 : Int32) → kb2 y_9 V_4 U_5) ∧ (¬ (15 : Int32) ≤ r_7 → K (x3_2 + (1 : Int32)) V_4 U_5)))))
def wl_R_afterFirstEnd_2 (θ : TH) (a0_2 : Nat) (x1_2 : Int32) (x2_2 : Int32) (K : Int32 → VT → UT → Prop) : Nat → Int32 → VT → UT → Prop
  | 0, _, _, _ => False
  | n + 1, x3_2, V, U => bl_R_afterFirstEnd_2 θ a0_2 x1_2 x2_2 K (wl_R_afterFirstEnd_2 θ a0_2 x1_2 x2_2 K n) x3_2 V U
def wp_R_afterFirstEnd (θ : TH) (a0 : Nat) (x1 : Int32) (x2 : Int32) (V : VT) (U : UT) (K : Int32 → VT → UT → Prop) : Prop := ∃ n, wl_R_afterFirstEnd_2 θ a0 x1 x2 K n (0 : Int32) V U
set_option maxRecDepth 100000 in
set_option maxHeartbeats 4000000 in
theorem c_R_afterFirstEnd (l : Launch) (θ : TH) (a0 : Nat) (x1 : Int32) (x2 : Int32) (V : VT) (U : UT) (K : Int32 → VT → UT → Prop) (hw : wp_R_afterFirstEnd θ a0 x1 x2 V U K) : CMi l yR_afterFirstEnd kR_afterFirstEnd 4 (some .int) rmR_afterFirstEnd θ [.ref a0, .int x1, .int x2] V U K := by
  refine g_met nRR (by decide +kernel) rfl (Nat.le_of_ble_eq_true rfl) (fun p e s m args below meth c ls hC hr hlk hwo hl => ?_)
  have hx := hC.1
  have hb := hC.2.1
  have hS : Sx θ s s.heap [] := va_S.rf
  have hl : lv_has ls 4 [(0, .ref a0), (1, .int x1), (2, .int x2)] := hl
  have L2 : ∀ (a0_2 : Nat) (x1_2 : Int32) (x2_2 : Int32) (n2 : Nat) (x3_2 : Int32) (V : VT) (U : UT) (H : Heap) (locs : List Loc) (ls : Array Slot), wl_R_afterFirstEnd_2 θ a0_2 x1_2 x2_2 K n2 x3_2 V U → wo θ V U H → Sx θ s H locs → lv_has ls 4 [(0, .ref a0_2), (1, .int x1_2), (2, .int x2_2), (3, .int x3_2)] → W p l e rmR_afterFirstEnd s m args below meth c H locs 0 0 (MQ below (QI θ K) args s 0 0 (aT θ)) (F0 m 2 ls []) := by
    intro a0_2 x1_2 x2_2 n2
    induction n2 with
    | zero => intro x3_2 V U H locs ls hw hwo hS hl; exact (show False from hw).elim
    | succ n2 ih2 =>
      intro x3_2 V U H locs ls hw hwo hS hl
      replace hw : bl_R_afterFirstEnd_2 θ a0_2 x1_2 x2_2 K (wl_R_afterFirstEnd_2 θ a0_2 x1_2 x2_2 K n2) x3_2 V U := hw
      unfold bl_R_afterFirstEnd_2 at hw
      refine lv_iload_n hx hb dR_afterFirstEnd_2 rfl (lv_at hl 3 rfl) ?_
      refine lv_iload_n hx hb dR_afterFirstEnd_3 rfl (lv_at hl 2 rfl) ?_
      refine lv_icmp_ge (tgt := 35) hx hb dR_afterFirstEnd_4 (by decide) (fun hc_1 => ?_) (fun hc_1 => ?_)
      · replace hw := hw.1 hc_1
        refine lv_iload_n hx hb dR_afterFirstEnd_35 rfl (lv_at hl 2 rfl) ?_
        exact g_iret hC hr hlk hw hwo hS dR_afterFirstEnd_36
      · replace hw := hw.2 hc_1
        refine lv_aload_n hx hb dR_afterFirstEnd_7 rfl (lv_at hl 0 rfl) ?_
        obtain ⟨ho_2, hw⟩ := hw
        obtain ⟨hz_3, hw⟩ := hw
        refine g_getR hC fkR_28 rfl hwo ho_2 hz_3 dR_afterFirstEnd_8 ?_
        refine lv_iload_n hx hb dR_afterFirstEnd_11 rfl (lv_at hl 1 rfl) ?_
        refine lv_bipush (v := 14) hx hb dR_afterFirstEnd_12 (by decide) ?_
        refine lv_iadd hx hb dR_afterFirstEnd_14 ?_
        refine lv_iload_n hx hb dR_afterFirstEnd_15 rfl (lv_at hl 3 rfl) ?_
        refine lv_iadd hx hb dR_afterFirstEnd_16 ?_
        obtain ⟨ho_6, hw⟩ := hw
        refine g_Vi (rest := []) hC (c_W_at l θ _ _ _ _ _ hw) mi_W_at mlR_89 mv_W_at ci_1 ho_6 hwo hS ⟨rfl, rfl⟩ ⟨by decide, by decide⟩ rfl hl.1 rfl (Nat.le_of_ble_eq_true rfl) dR_afterFirstEnd_17 (fun r_7 V_4 U_5 hw H locs hwo hS => ?_)
        refine lv_bipush (v := 15) hx hb dR_afterFirstEnd_20 (by decide) ?_
        refine lv_icmp_ge (tgt := 29) hx hb dR_afterFirstEnd_22 (by decide) (fun hc_8 => ?_) (fun hc_8 => ?_)
        · replace hw := hw.1 hc_8
          obtain ⟨y_9, ey_9⟩ : ∃ z : Int32, z = x3_2 + (1 : Int32) := ⟨_, rfl⟩
          replace hw := hw y_9 ey_9
          refine lv_iinc (k := 3) (v := y_9) (lv' := [(3, .int y_9), (0, .ref a0_2), (1, .int x1_2), (2, .int x2_2)]) hx hb dR_afterFirstEnd_29 hl rfl (by rw [ey_9]; rfl) (by decide) rfl (fun ls hl => ?_)
          refine lv_goto (tgt := 2) hx hb dR_afterFirstEnd_32 (by decide) ?_
          exact ih2 _ _ _ _ _ _ hw hwo hS (lv_sub hl [1, 2, 3, 0] rfl)
        · replace hw := hw.2 hc_8
          refine lv_iload_n hx hb dR_afterFirstEnd_25 rfl (lv_at hl 3 rfl) ?_
          refine lv_iconst (v := 1) hx hb dR_afterFirstEnd_26 (by decide) ?_
          refine lv_iadd hx hb dR_afterFirstEnd_27 ?_
          exact g_iret hC hr hlk hw hwo hS dR_afterFirstEnd_28
  unfold wp_R_afterFirstEnd at hw
  refine lv_iconst (v := 0) hx hb dR_afterFirstEnd_0 (by decide) ?_
  refine lv_istore_n (i := 3) (lv' := [(3, .int (0 : Int32)), (0, .ref a0), (1, .int x1), (2, .int x2)]) hx hb dR_afterFirstEnd_1 rfl hl (by decide) rfl (fun ls hl => ?_)
  obtain ⟨n, hw⟩ := hw
  exact L2 _ _ _ n _ _ _ _ _ _ hw hwo hS (lv_sub hl [1, 2, 3, 0] rfl)
theorem dR_lastEndOf_0 : decode kR_lastEndOf 0 = .ok (.iload_n 2, 1) := by decide +kernel
theorem dR_lastEndOf_1 : decode kR_lastEndOf 1 = .ok (.iconst 1, 1) := by decide +kernel
theorem dR_lastEndOf_2 : decode kR_lastEndOf 2 = .ok (.isub, 1) := by decide +kernel
theorem dR_lastEndOf_3 : decode kR_lastEndOf 3 = .ok (.istore_n 3, 1) := by decide +kernel
theorem dR_lastEndOf_4 : decode kR_lastEndOf 4 = .ok (.iload_n 3, 1) := by decide +kernel
theorem dR_lastEndOf_5 : decode kR_lastEndOf 5 = .ok (.ifCond .lt 29, 3) := by decide +kernel
theorem dR_lastEndOf_8 : decode kR_lastEndOf 8 = .ok (.aload_n 0, 1) := by decide +kernel
theorem dR_lastEndOf_9 : decode kR_lastEndOf 9 = .ok (.getfield 28, 3) := by decide +kernel
theorem dR_lastEndOf_12 : decode kR_lastEndOf 12 = .ok (.iload_n 1, 1) := by decide +kernel
theorem dR_lastEndOf_13 : decode kR_lastEndOf 13 = .ok (.bipush 14, 2) := by decide +kernel
theorem dR_lastEndOf_15 : decode kR_lastEndOf 15 = .ok (.iadd, 1) := by decide +kernel
theorem dR_lastEndOf_16 : decode kR_lastEndOf 16 = .ok (.iload_n 3, 1) := by decide +kernel
theorem dR_lastEndOf_17 : decode kR_lastEndOf 17 = .ok (.iadd, 1) := by decide +kernel
theorem dR_lastEndOf_18 : decode kR_lastEndOf 18 = .ok (.invokevirtual 89, 3) := by decide +kernel
theorem dR_lastEndOf_21 : decode kR_lastEndOf 21 = .ok (.bipush 15, 2) := by decide +kernel
theorem dR_lastEndOf_23 : decode kR_lastEndOf 23 = .ok (.if_icmp .ge 5, 3) := by decide +kernel
theorem dR_lastEndOf_26 : decode kR_lastEndOf 26 = .ok (.iload_n 3, 1) := by decide +kernel
theorem dR_lastEndOf_27 : decode kR_lastEndOf 27 = .ok (.ireturn, 1) := by decide +kernel
theorem dR_lastEndOf_28 : decode kR_lastEndOf 28 = .ok (.iinc 3 (-1), 3) := by decide +kernel
theorem dR_lastEndOf_31 : decode kR_lastEndOf 31 = .ok (.goto (-27), 3) := by decide +kernel
theorem dR_lastEndOf_34 : decode kR_lastEndOf 34 = .ok (.iconst (-1), 1) := by decide +kernel
theorem dR_lastEndOf_35 : decode kR_lastEndOf 35 = .ok (.ireturn, 1) := by decide +kernel
def bl_R_lastEndOf_4 (θ : TH) (a0_4 : Nat) (x1_4 : Int32) (K : Int32 → VT → UT → Prop) (kb4 : Int32 → VT → UT → Prop) (x3_4 : Int32) (V : VT) (U : UT) : Prop := ((x3_4 < 0 → K (-1 : Int32) V U) ∧ (¬ x3_4 < 0 → isO θ a0_4 6 ∧ (U a0_4 0) ≠ 0 ∧ isO θ (U a0_4 0) 1 ∧ wp_W_at θ (U a0_4 0) ((x1_4 + (14 : Int32)) + x3_4) V U (fun r_8 V_5 U_6 => (((15 : Int32) ≤ r_8 → ∀ y_10 : Int32, y_10 = x3_4 + (-1 : Int32) → kb4 y_10 V_5 U_6) ∧ (¬ (15 : Int32) ≤ r_8 → K x3_4 V_5 U_6)))))
def wl_R_lastEndOf_4 (θ : TH) (a0_4 : Nat) (x1_4 : Int32) (K : Int32 → VT → UT → Prop) : Nat → Int32 → VT → UT → Prop
  | 0, _, _, _ => False
  | n + 1, x3_4, V, U => bl_R_lastEndOf_4 θ a0_4 x1_4 K (wl_R_lastEndOf_4 θ a0_4 x1_4 K n) x3_4 V U
def wp_R_lastEndOf (θ : TH) (a0 : Nat) (x1 : Int32) (x2 : Int32) (V : VT) (U : UT) (K : Int32 → VT → UT → Prop) : Prop := ∀ y_1 : Int32, y_1 = (x2 - (1 : Int32)) → ∃ n, wl_R_lastEndOf_4 θ a0 x1 K n y_1 V U
set_option maxRecDepth 100000 in
set_option maxHeartbeats 4000000 in
theorem c_R_lastEndOf (l : Launch) (θ : TH) (a0 : Nat) (x1 : Int32) (x2 : Int32) (V : VT) (U : UT) (K : Int32 → VT → UT → Prop) (hw : wp_R_lastEndOf θ a0 x1 x2 V U K) : CMi l yR_lastEndOf kR_lastEndOf 4 (some .int) rmR_lastEndOf θ [.ref a0, .int x1, .int x2] V U K := by
  refine g_met nRR (by decide +kernel) rfl (Nat.le_of_ble_eq_true rfl) (fun p e s m args below meth c ls hC hr hlk hwo hl => ?_)
  have hx := hC.1
  have hb := hC.2.1
  have hS : Sx θ s s.heap [] := va_S.rf
  have hl : lv_has ls 4 [(0, .ref a0), (1, .int x1), (2, .int x2)] := hl
  have L4 : ∀ (a0_4 : Nat) (x1_4 : Int32) (n4 : Nat) (x3_4 : Int32) (V : VT) (U : UT) (H : Heap) (locs : List Loc) (ls : Array Slot), wl_R_lastEndOf_4 θ a0_4 x1_4 K n4 x3_4 V U → wo θ V U H → Sx θ s H locs → lv_has ls 4 [(0, .ref a0_4), (1, .int x1_4), (3, .int x3_4)] → W p l e rmR_lastEndOf s m args below meth c H locs 0 0 (MQ below (QI θ K) args s 0 0 (aT θ)) (F0 m 4 ls []) := by
    intro a0_4 x1_4 n4
    induction n4 with
    | zero => intro x3_4 V U H locs ls hw hwo hS hl; exact (show False from hw).elim
    | succ n4 ih4 =>
      intro x3_4 V U H locs ls hw hwo hS hl
      replace hw : bl_R_lastEndOf_4 θ a0_4 x1_4 K (wl_R_lastEndOf_4 θ a0_4 x1_4 K n4) x3_4 V U := hw
      unfold bl_R_lastEndOf_4 at hw
      refine lv_iload_n hx hb dR_lastEndOf_4 rfl (lv_at hl 2 rfl) ?_
      refine lv_if_lt (tgt := 34) hx hb dR_lastEndOf_5 (by decide) (fun hc_2 => ?_) (fun hc_2 => ?_)
      · replace hw := hw.1 hc_2
        refine lv_iconst (v := -1) hx hb dR_lastEndOf_34 (by decide) ?_
        exact g_iret hC hr hlk hw hwo hS dR_lastEndOf_35
      · replace hw := hw.2 hc_2
        refine lv_aload_n hx hb dR_lastEndOf_8 rfl (lv_at hl 0 rfl) ?_
        obtain ⟨ho_3, hw⟩ := hw
        obtain ⟨hz_4, hw⟩ := hw
        refine g_getR hC fkR_28 rfl hwo ho_3 hz_4 dR_lastEndOf_9 ?_
        refine lv_iload_n hx hb dR_lastEndOf_12 rfl (lv_at hl 1 rfl) ?_
        refine lv_bipush (v := 14) hx hb dR_lastEndOf_13 (by decide) ?_
        refine lv_iadd hx hb dR_lastEndOf_15 ?_
        refine lv_iload_n hx hb dR_lastEndOf_16 rfl (lv_at hl 2 rfl) ?_
        refine lv_iadd hx hb dR_lastEndOf_17 ?_
        obtain ⟨ho_7, hw⟩ := hw
        refine g_Vi (rest := []) hC (c_W_at l θ _ _ _ _ _ hw) mi_W_at mlR_89 mv_W_at ci_1 ho_7 hwo hS ⟨rfl, rfl⟩ ⟨by decide, by decide⟩ rfl hl.1 rfl (Nat.le_of_ble_eq_true rfl) dR_lastEndOf_18 (fun r_8 V_5 U_6 hw H locs hwo hS => ?_)
        refine lv_bipush (v := 15) hx hb dR_lastEndOf_21 (by decide) ?_
        refine lv_icmp_ge (tgt := 28) hx hb dR_lastEndOf_23 (by decide) (fun hc_9 => ?_) (fun hc_9 => ?_)
        · replace hw := hw.1 hc_9
          obtain ⟨y_10, ey_10⟩ : ∃ z : Int32, z = x3_4 + (-1 : Int32) := ⟨_, rfl⟩
          replace hw := hw y_10 ey_10
          refine lv_iinc (k := 2) (v := y_10) (lv' := [(3, .int y_10), (0, .ref a0_4), (1, .int x1_4)]) hx hb dR_lastEndOf_28 hl rfl (by rw [ey_10]; rfl) (by decide) rfl (fun ls hl => ?_)
          refine lv_goto (tgt := 4) hx hb dR_lastEndOf_31 (by decide) ?_
          exact ih4 _ _ _ _ _ _ hw hwo hS (lv_sub hl [1, 2, 0] rfl)
        · replace hw := hw.2 hc_9
          refine lv_iload_n hx hb dR_lastEndOf_26 rfl (lv_at hl 2 rfl) ?_
          exact g_iret hC hr hlk hw hwo hS dR_lastEndOf_27
  unfold wp_R_lastEndOf at hw
  refine lv_iload_n hx hb dR_lastEndOf_0 rfl (lv_at hl 2 rfl) ?_
  refine lv_iconst (v := 1) hx hb dR_lastEndOf_1 (by decide) ?_
  refine lv_isub hx hb dR_lastEndOf_2 ?_
  refine lv_topi (fun y_1 ey_1 => ?_)
  replace hw := hw y_1 ey_1
  refine lv_istore_n (i := 3) (lv' := [(3, .int y_1), (0, .ref a0), (1, .int x1), (2, .int x2)]) hx hb dR_lastEndOf_3 rfl hl (by decide) rfl (fun ls hl => ?_)
  obtain ⟨n, hw⟩ := hw
  exact L4 _ _ n _ _ _ _ _ _ hw hwo hS (lv_sub hl [1, 2, 0] rfl)
theorem dR_finish_0 : decode kR_finish 0 = .ok (.aload_n 1, 1) := by decide +kernel
theorem dR_finish_1 : decode kR_finish 1 = .ok (.getfield 126, 3) := by decide +kernel
theorem dR_finish_4 : decode kR_finish 4 = .ok (.astore_n 3, 1) := by decide +kernel
theorem dR_finish_5 : decode kR_finish 5 = .ok (.aload_n 0, 1) := by decide +kernel
theorem dR_finish_6 : decode kR_finish 6 = .ok (.iconst 3, 1) := by decide +kernel
theorem dR_finish_7 : decode kR_finish 7 = .ok (.aload_n 3, 1) := by decide +kernel
theorem dR_finish_8 : decode kR_finish 8 = .ok (.getfield 153, 3) := by decide +kernel
theorem dR_finish_11 : decode kR_finish 11 = .ok (.aload_n 1, 1) := by decide +kernel
theorem dR_finish_12 : decode kR_finish 12 = .ok (.getfield 119, 3) := by decide +kernel
theorem dR_finish_15 : decode kR_finish 15 = .ok (.invokevirtual 96, 3) := by decide +kernel
theorem dR_finish_18 : decode kR_finish 18 = .ok (.astore 4, 2) := by decide +kernel
theorem dR_finish_20 : decode kR_finish 20 = .ok (.aload 4, 2) := by decide +kernel
theorem dR_finish_22 : decode kR_finish 22 = .ok (.getfield 154, 3) := by decide +kernel
theorem dR_finish_25 : decode kR_finish 25 = .ok (.aload_n 3, 1) := by decide +kernel
theorem dR_finish_26 : decode kR_finish 26 = .ok (.invokevirtual 157, 3) := by decide +kernel
theorem dR_finish_29 : decode kR_finish 29 = .ok (.aload 4, 2) := by decide +kernel
theorem dR_finish_31 : decode kR_finish 31 = .ok (.ldc 161, 2) := by decide +kernel
theorem dR_finish_33 : decode kR_finish 33 = .ok (.putfield 77, 3) := by decide +kernel
theorem dR_finish_36 : decode kR_finish 36 = .ok (.aload 4, 2) := by decide +kernel
theorem dR_finish_38 : decode kR_finish 38 = .ok (.iconst 0, 1) := by decide +kernel
theorem dR_finish_39 : decode kR_finish 39 = .ok (.putfield 162, 3) := by decide +kernel
theorem dR_finish_42 : decode kR_finish 42 = .ok (.iload_n 2, 1) := by decide +kernel
theorem dR_finish_43 : decode kR_finish 43 = .ok (.iconst (-1), 1) := by decide +kernel
theorem dR_finish_44 : decode kR_finish 44 = .ok (.if_icmp .eq 61, 3) := by decide +kernel
theorem dR_finish_47 : decode kR_finish 47 = .ok (.aload 4, 2) := by decide +kernel
theorem dR_finish_49 : decode kR_finish 49 = .ok (.aload_n 0, 1) := by decide +kernel
theorem dR_finish_50 : decode kR_finish 50 = .ok (.getfield 28, 3) := by decide +kernel
theorem dR_finish_53 : decode kR_finish 53 = .ok (.iload_n 2, 1) := by decide +kernel
theorem dR_finish_54 : decode kR_finish 54 = .ok (.bipush 7, 2) := by decide +kernel
theorem dR_finish_56 : decode kR_finish 56 = .ok (.iadd, 1) := by decide +kernel
theorem dR_finish_57 : decode kR_finish 57 = .ok (.invokevirtual 89, 3) := by decide +kernel
theorem dR_finish_60 : decode kR_finish 60 = .ok (.aload_n 0, 1) := by decide +kernel
theorem dR_finish_61 : decode kR_finish 61 = .ok (.getfield 28, 3) := by decide +kernel
theorem dR_finish_64 : decode kR_finish 64 = .ok (.iload_n 2, 1) := by decide +kernel
theorem dR_finish_65 : decode kR_finish 65 = .ok (.bipush 7, 2) := by decide +kernel
theorem dR_finish_67 : decode kR_finish 67 = .ok (.iadd, 1) := by decide +kernel
theorem dR_finish_68 : decode kR_finish 68 = .ok (.iconst 1, 1) := by decide +kernel
theorem dR_finish_69 : decode kR_finish 69 = .ok (.iadd, 1) := by decide +kernel
theorem dR_finish_70 : decode kR_finish 70 = .ok (.invokevirtual 89, 3) := by decide +kernel
theorem dR_finish_73 : decode kR_finish 73 = .ok (.bipush 8, 2) := by decide +kernel
theorem dR_finish_75 : decode kR_finish 75 = .ok (.ishl, 1) := by decide +kernel
theorem dR_finish_76 : decode kR_finish 76 = .ok (.ior, 1) := by decide +kernel
theorem dR_finish_77 : decode kR_finish 77 = .ok (.putfield 77, 3) := by decide +kernel
theorem dR_finish_80 : decode kR_finish 80 = .ok (.aload 4, 2) := by decide +kernel
theorem dR_finish_82 : decode kR_finish 82 = .ok (.aload_n 0, 1) := by decide +kernel
theorem dR_finish_83 : decode kR_finish 83 = .ok (.getfield 28, 3) := by decide +kernel
theorem dR_finish_86 : decode kR_finish 86 = .ok (.iload_n 2, 1) := by decide +kernel
theorem dR_finish_87 : decode kR_finish 87 = .ok (.iconst 4, 1) := by decide +kernel
theorem dR_finish_88 : decode kR_finish 88 = .ok (.iadd, 1) := by decide +kernel
theorem dR_finish_89 : decode kR_finish 89 = .ok (.invokevirtual 89, 3) := by decide +kernel
theorem dR_finish_92 : decode kR_finish 92 = .ok (.iconst 4, 1) := by decide +kernel
theorem dR_finish_93 : decode kR_finish 93 = .ok (.iand, 1) := by decide +kernel
theorem dR_finish_94 : decode kR_finish 94 = .ok (.ifCond .eq 7, 3) := by decide +kernel
theorem dR_finish_97 : decode kR_finish 97 = .ok (.iconst 1, 1) := by decide +kernel
theorem dR_finish_98 : decode kR_finish 98 = .ok (.goto 4, 3) := by decide +kernel
theorem dR_finish_101 : decode kR_finish 101 = .ok (.iconst 0, 1) := by decide +kernel
theorem dR_finish_102 : decode kR_finish 102 = .ok (.putfield 162, 3) := by decide +kernel
theorem dR_finish_105 : decode kR_finish 105 = .ok (.aload_n 3, 1) := by decide +kernel
theorem dR_finish_106 : decode kR_finish 106 = .ok (.invokevirtual 165, 3) := by decide +kernel
theorem dR_finish_109 : decode kR_finish 109 = .ok (.aload_n 1, 1) := by decide +kernel
theorem dR_finish_110 : decode kR_finish 110 = .ok (.dup, 1) := by decide +kernel
theorem dR_finish_111 : decode kR_finish 111 = .ok (.getfield 112, 3) := by decide +kernel
theorem dR_finish_114 : decode kR_finish 114 = .ok (.iconst 1, 1) := by decide +kernel
theorem dR_finish_115 : decode kR_finish 115 = .ok (.iadd, 1) := by decide +kernel
theorem dR_finish_116 : decode kR_finish 116 = .ok (.putfield 112, 3) := by decide +kernel
theorem dR_finish_119 : decode kR_finish 119 = .ok (.return_, 1) := by decide +kernel
def wb_R_finish_105 (θ : TH) (a1_105 : Nat) (a3_105 : Nat) (K : VT → UT → Prop) (V : VT) (U : UT) : Prop := isO θ a3_105 3 ∧ wp_K_clear θ a3_105 V U (fun V_35 U_36 => isO θ a1_105 4 ∧ ∀ V_39 : VT, V_39 = up2 V_35 a1_105 3 ((V_35 a1_105 3) + (1 : Int32)) → K V_39 U_36)
def wb_R_finish_102 (θ : TH) (a1_102 : Nat) (a3_102 : Nat) (z0_102 : Int32) (z1_102 : Nat) (K : VT → UT → Prop) (V : VT) (U : UT) : Prop := isO θ z1_102 5 ∧ isZ z0_102 ∧ ∀ V_42 : VT, V_42 = up2 V z1_102 4 z0_102 → wb_R_finish_105 θ a1_102 a3_102 K V_42 U
def wp_R_finish (θ : TH) (a0 : Nat) (a1 : Nat) (x2 : Int32) (V : VT) (U : UT) (K : VT → UT → Prop) : Prop := isO θ a1 4 ∧ (U a1 4) ≠ 0 ∧ ∀ a_3 : Nat, a_3 = (U a1 4) → isO θ a_3 3 ∧ isO θ a0 6 ∧ wp_R_makeEvent θ a0 (3 : Int32) (V a_3 2) (V a1 1) V U (fun r_8 V_5 U_6 => r_8 ≠ 0 ∧ isO θ r_8 5 ∧ (U_6 r_8 5) ≠ 0 ∧ isO θ (U_6 r_8 5) 3 ∧ wp_K_become θ (U_6 r_8 5) a_3 V_5 U_6 (fun V_12 U_13 => ∀ V_15 : VT, V_15 = up2 V_12 r_8 3 (65535 : Int32) → ∀ V_16 : VT, V_16 = up2 V_15 r_8 4 (0 : Int32) → ((x2 = (-1 : Int32) → wb_R_finish_105 θ a1 a_3 K V_16 U_13) ∧ (¬ x2 = (-1 : Int32) → (U_13 a0 0) ≠ 0 ∧ isO θ (U_13 a0 0) 1 ∧ wp_W_at θ (U_13 a0 0) (x2 + (7 : Int32)) V_16 U_13 (fun r_22 V_19 U_20 => (U_20 a0 0) ≠ 0 ∧ isO θ (U_20 a0 0) 1 ∧ wp_W_at θ (U_20 a0 0) ((x2 + (7 : Int32)) + (1 : Int32)) V_19 U_20 (fun r_27 V_24 U_25 => ∀ V_28 : VT, V_28 = up2 V_24 r_8 3 (r_22 ||| (r_27 <<< ((8 : Int32) &&& 31))) → (U_25 a0 0) ≠ 0 ∧ isO θ (U_25 a0 0) 1 ∧ wp_W_at θ (U_25 a0 0) (x2 + (4 : Int32)) V_28 U_25 (fun r_33 V_30 U_31 => (((r_33 &&& (4 : Int32)) = 0 → wb_R_finish_102 θ a1 a_3 (0 : Int32) r_8 K V_30 U_31) ∧ (¬ (r_33 &&& (4 : Int32)) = 0 → wb_R_finish_102 θ a1 a_3 (1 : Int32) r_8 K V_30 U_31)))))))))
set_option maxRecDepth 100000 in
set_option maxHeartbeats 4000000 in
theorem c_R_finish (l : Launch) (θ : TH) (a0 : Nat) (a1 : Nat) (x2 : Int32) (V : VT) (U : UT) (K : VT → UT → Prop) (hw : wp_R_finish θ a0 a1 x2 V U K) : CMv l yR_finish kR_finish 5 none rmR_finish θ [.ref a0, .ref a1, .int x2] V U K := by
  refine g_met nRR (by decide +kernel) rfl (Nat.le_of_ble_eq_true rfl) (fun p e s m args below meth c ls hC hr hlk hwo hl => ?_)
  have hx := hC.1
  have hb := hC.2.1
  have hS : Sx θ s s.heap [] := va_S.rf
  have hl : lv_has ls 5 [(0, .ref a0), (1, .ref a1), (2, .int x2)] := hl
  have J105 : ∀ (a1_105 : Nat) (a3_105 : Nat) (V : VT) (U : UT) (H : Heap) (locs : List Loc) (ls : Array Slot), wb_R_finish_105 θ a1_105 a3_105 K V U → wo θ V U H → Sx θ s H locs → lv_has ls 5 [(1, .ref a1_105), (3, .ref a3_105)] → W p l e rmR_finish s m args below meth c H locs 0 0 (MQ below (QV θ K) args s 0 0 (aT θ)) (F0 m 105 ls []) := by
    intro a1_105 a3_105 V U H locs ls hw hwo hS hl
    unfold wb_R_finish_105 at hw
    refine lv_aload_n hx hb dR_finish_105 rfl (lv_at hl 1 rfl) ?_
    obtain ⟨ho_37, hw⟩ := hw
    refine g_Vv (rest := []) hC (c_K_clear l θ _ _ _ _ hw) mi_K_clear mlR_165 mv_K_clear ci_3 ho_37 hwo hS ⟨rfl, rfl⟩ ⟨by decide, by decide⟩ rfl hl.1 rfl (Nat.le_of_ble_eq_true rfl) dR_finish_106 (fun V_35 U_36 hw H locs hwo hS => ?_)
    refine lv_aload_n hx hb dR_finish_109 rfl (lv_at hl 0 rfl) ?_
    refine lv_dup hx hb dR_finish_110 rfl ?_
    obtain ⟨ho_38, hw⟩ := hw
    refine g_getI hC fkR_112 rfl hwo ho_38 dR_finish_111 ?_
    refine lv_iconst (v := 1) hx hb dR_finish_114 (by decide) ?_
    refine lv_iadd hx hb dR_finish_115 ?_
    refine g_putI hC fkR_112 rfl hwo hS ho_38 dR_finish_116 (fun V_39 eV_39 H locs hwo hS => ?_)
    replace hw := hw V_39 eV_39
    exact g_vret hC hr hlk hw hwo hS dR_finish_119
  have J102 : ∀ (a1_102 : Nat) (a3_102 : Nat) (z0_102 : Int32) (z1_102 : Nat) (V : VT) (U : UT) (H : Heap) (locs : List Loc) (ls : Array Slot), wb_R_finish_102 θ a1_102 a3_102 z0_102 z1_102 K V U → wo θ V U H → Sx θ s H locs → lv_has ls 5 [(1, .ref a1_102), (3, .ref a3_102)] → W p l e rmR_finish s m args below meth c H locs 0 0 (MQ below (QV θ K) args s 0 0 (aT θ)) (F0 m 102 ls [.int z0_102, .ref z1_102]) := by
    intro a1_102 a3_102 z0_102 z1_102 V U H locs ls hw hwo hS hl
    unfold wb_R_finish_102 at hw
    obtain ⟨ho_40, hw⟩ := hw
    obtain ⟨hb_41, hw⟩ := hw
    refine g_putZ hC fkR_162 rfl hwo hS ho_40 hb_41 dR_finish_102 (fun V_42 eV_42 H locs hwo hS => ?_)
    replace hw := hw V_42 eV_42
    exact J105 _ _ _ _ _ _ _ hw hwo hS (lv_sub hl [0, 1] rfl)
  unfold wp_R_finish at hw
  refine lv_aload_n hx hb dR_finish_0 rfl (lv_at hl 1 rfl) ?_
  obtain ⟨ho_1, hw⟩ := hw
  obtain ⟨hz_2, hw⟩ := hw
  refine g_getR hC fkR_126 rfl hwo ho_1 hz_2 dR_finish_1 ?_
  refine g_topr (fun a_3 ea_3 => ?_)
  replace hw := hw a_3 ea_3
  refine lv_astore_n (i := 3) (lv' := [(3, .ref a_3), (0, .ref a0), (1, .ref a1), (2, .int x2)]) hx hb dR_finish_4 rfl hl (by decide) rfl (fun ls hl => ?_)
  refine lv_aload_n hx hb dR_finish_5 rfl (lv_at hl 1 rfl) ?_
  refine lv_iconst (v := 3) hx hb dR_finish_6 (by decide) ?_
  refine lv_aload_n hx hb dR_finish_7 rfl (lv_at hl 0 rfl) ?_
  obtain ⟨ho_4, hw⟩ := hw
  refine g_getI hC fkR_153 rfl hwo ho_4 dR_finish_8 ?_
  refine lv_aload_n hx hb dR_finish_11 rfl (lv_at hl 2 rfl) ?_
  refine g_getI hC fkR_119 rfl hwo ho_1 dR_finish_12 ?_
  obtain ⟨ho_7, hw⟩ := hw
  refine g_Vr (rest := []) hC (c_R_makeEvent l θ _ _ _ _ _ _ _ hw) mi_R_makeEvent mlR_96 mv_R_makeEvent ci_6 ho_7 hwo hS ⟨rfl, rfl⟩ ⟨by decide, by decide⟩ rfl hl.1 rfl (Nat.le_of_ble_eq_true rfl) dR_finish_15 (fun r_8 V_5 U_6 hw H locs hwo hS => ?_)
  obtain ⟨hz_9, hw⟩ := hw
  refine g_nn hz_9 ?_
  refine lv_astore (i := 4) (lv' := [(4, .ref r_8), (3, .ref a_3), (0, .ref a0), (1, .ref a1), (2, .int x2)]) hx hb dR_finish_18 hl (by decide) rfl (fun ls hl => ?_)
  refine lv_aload hx hb dR_finish_20 (lv_at hl 0 rfl) ?_
  obtain ⟨ho_10, hw⟩ := hw
  obtain ⟨hz_11, hw⟩ := hw
  refine g_getR hC fkR_154 rfl hwo ho_10 hz_11 dR_finish_22 ?_
  refine lv_aload_n hx hb dR_finish_25 rfl (lv_at hl 1 rfl) ?_
  obtain ⟨ho_14, hw⟩ := hw
  refine g_Vv (rest := []) hC (c_K_become l θ _ _ _ _ _ hw) mi_K_become mlR_157 mv_K_become ci_3 ho_14 hwo hS ⟨rfl, rfl⟩ ⟨by decide, by decide⟩ rfl hl.1 rfl (Nat.le_of_ble_eq_true rfl) dR_finish_26 (fun V_12 U_13 hw H locs hwo hS => ?_)
  refine lv_aload hx hb dR_finish_29 (lv_at hl 0 rfl) ?_
  refine lv_ldc hx hb hC.2.2.2.1 (hC.2.2.2.2.1 _ kcR_161) dR_finish_31 ?_
  refine g_putI hC fkR_77 rfl hwo hS ho_10 dR_finish_33 (fun V_15 eV_15 H locs hwo hS => ?_)
  replace hw := hw V_15 eV_15
  refine lv_aload hx hb dR_finish_36 (lv_at hl 0 rfl) ?_
  refine lv_iconst (v := 0) hx hb dR_finish_38 (by decide) ?_
  refine g_putZ hC fkR_162 rfl hwo hS ho_10 (Or.inl rfl) dR_finish_39 (fun V_16 eV_16 H locs hwo hS => ?_)
  replace hw := hw V_16 eV_16
  refine lv_iload_n hx hb dR_finish_42 rfl (lv_at hl 4 rfl) ?_
  refine lv_iconst (v := -1) hx hb dR_finish_43 (by decide) ?_
  refine lv_icmp_eq (tgt := 105) hx hb dR_finish_44 (by decide) (fun hc_17 => ?_) (fun hc_17 => ?_)
  · replace hw := hw.1 hc_17
    exact J105 _ _ _ _ _ _ _ hw hwo hS (lv_sub hl [3, 1] rfl)
  · replace hw := hw.2 hc_17
    refine lv_aload hx hb dR_finish_47 (lv_at hl 0 rfl) ?_
    refine lv_aload_n hx hb dR_finish_49 rfl (lv_at hl 2 rfl) ?_
    obtain ⟨hz_18, hw⟩ := hw
    refine g_getR hC fkR_28 rfl hwo ho_7 hz_18 dR_finish_50 ?_
    refine lv_iload_n hx hb dR_finish_53 rfl (lv_at hl 4 rfl) ?_
    refine lv_bipush (v := 7) hx hb dR_finish_54 (by decide) ?_
    refine lv_iadd hx hb dR_finish_56 ?_
    obtain ⟨ho_21, hw⟩ := hw
    refine g_Vi (rest := [.ref r_8]) hC (c_W_at l θ _ _ _ _ _ hw) mi_W_at mlR_89 mv_W_at ci_1 ho_21 hwo hS ⟨rfl, rfl⟩ ⟨by decide, by decide⟩ rfl hl.1 rfl (Nat.le_of_ble_eq_true rfl) dR_finish_57 (fun r_22 V_19 U_20 hw H locs hwo hS => ?_)
    refine lv_aload_n hx hb dR_finish_60 rfl (lv_at hl 2 rfl) ?_
    obtain ⟨hz_23, hw⟩ := hw
    refine g_getR hC fkR_28 rfl hwo ho_7 hz_23 dR_finish_61 ?_
    refine lv_iload_n hx hb dR_finish_64 rfl (lv_at hl 4 rfl) ?_
    refine lv_bipush (v := 7) hx hb dR_finish_65 (by decide) ?_
    refine lv_iadd hx hb dR_finish_67 ?_
    refine lv_iconst (v := 1) hx hb dR_finish_68 (by decide) ?_
    refine lv_iadd hx hb dR_finish_69 ?_
    obtain ⟨ho_26, hw⟩ := hw
    refine g_Vi (rest := [.int r_22, .ref r_8]) hC (c_W_at l θ _ _ _ _ _ hw) mi_W_at mlR_89 mv_W_at ci_1 ho_26 hwo hS ⟨rfl, rfl⟩ ⟨by decide, by decide⟩ rfl hl.1 rfl (Nat.le_of_ble_eq_true rfl) dR_finish_70 (fun r_27 V_24 U_25 hw H locs hwo hS => ?_)
    refine lv_bipush (v := 8) hx hb dR_finish_73 (by decide) ?_
    refine lv_ishl hx hb dR_finish_75 ?_
    refine lv_ior hx hb dR_finish_76 ?_
    refine g_putI hC fkR_77 rfl hwo hS ho_10 dR_finish_77 (fun V_28 eV_28 H locs hwo hS => ?_)
    replace hw := hw V_28 eV_28
    refine lv_aload hx hb dR_finish_80 (lv_at hl 0 rfl) ?_
    refine lv_aload_n hx hb dR_finish_82 rfl (lv_at hl 2 rfl) ?_
    obtain ⟨hz_29, hw⟩ := hw
    refine g_getR hC fkR_28 rfl hwo ho_7 hz_29 dR_finish_83 ?_
    refine lv_iload_n hx hb dR_finish_86 rfl (lv_at hl 4 rfl) ?_
    refine lv_iconst (v := 4) hx hb dR_finish_87 (by decide) ?_
    refine lv_iadd hx hb dR_finish_88 ?_
    obtain ⟨ho_32, hw⟩ := hw
    refine g_Vi (rest := [.ref r_8]) hC (c_W_at l θ _ _ _ _ _ hw) mi_W_at mlR_89 mv_W_at ci_1 ho_32 hwo hS ⟨rfl, rfl⟩ ⟨by decide, by decide⟩ rfl hl.1 rfl (Nat.le_of_ble_eq_true rfl) dR_finish_89 (fun r_33 V_30 U_31 hw H locs hwo hS => ?_)
    refine lv_iconst (v := 4) hx hb dR_finish_92 (by decide) ?_
    refine lv_iand hx hb dR_finish_93 ?_
    refine lv_if_eq (tgt := 101) hx hb dR_finish_94 (by decide) (fun hc_34 => ?_) (fun hc_34 => ?_)
    · replace hw := hw.1 hc_34
      refine lv_iconst (v := 0) hx hb dR_finish_101 (by decide) ?_
      exact J102 _ _ _ _ _ _ _ _ _ hw hwo hS (lv_sub hl [3, 1] rfl)
    · replace hw := hw.2 hc_34
      refine lv_iconst (v := 1) hx hb dR_finish_97 (by decide) ?_
      refine lv_goto (tgt := 102) hx hb dR_finish_98 (by decide) ?_
      exact J102 _ _ _ _ _ _ _ _ _ hw hwo hS (lv_sub hl [3, 1] rfl)
theorem dR_takeSegments_0 : decode kR_takeSegments 0 = .ok (.aload_n 0, 1) := by decide +kernel
theorem dR_takeSegments_1 : decode kR_takeSegments 1 = .ok (.getfield 28, 3) := by decide +kernel
theorem dR_takeSegments_4 : decode kR_takeSegments 4 = .ok (.iload_n 2, 1) := by decide +kernel
theorem dR_takeSegments_5 : decode kR_takeSegments 5 = .ok (.bipush 13, 2) := by decide +kernel
theorem dR_takeSegments_7 : decode kR_takeSegments 7 = .ok (.iadd, 1) := by decide +kernel
theorem dR_takeSegments_8 : decode kR_takeSegments 8 = .ok (.invokevirtual 89, 3) := by decide +kernel
theorem dR_takeSegments_11 : decode kR_takeSegments 11 = .ok (.istore 4, 2) := by decide +kernel
theorem dR_takeSegments_13 : decode kR_takeSegments 13 = .ok (.iconst 0, 1) := by decide +kernel
theorem dR_takeSegments_14 : decode kR_takeSegments 14 = .ok (.istore 5, 2) := by decide +kernel
theorem dR_takeSegments_16 : decode kR_takeSegments 16 = .ok (.iload_n 3, 1) := by decide +kernel
theorem dR_takeSegments_17 : decode kR_takeSegments 17 = .ok (.iconst 1, 1) := by decide +kernel
theorem dR_takeSegments_18 : decode kR_takeSegments 18 = .ok (.iand, 1) := by decide +kernel
theorem dR_takeSegments_19 : decode kR_takeSegments 19 = .ok (.ifCond .ne 11, 3) := by decide +kernel
theorem dR_takeSegments_22 : decode kR_takeSegments 22 = .ok (.aload_n 0, 1) := by decide +kernel
theorem dR_takeSegments_23 : decode kR_takeSegments 23 = .ok (.aload_n 1, 1) := by decide +kernel
theorem dR_takeSegments_24 : decode kR_takeSegments 24 = .ok (.invokevirtual 108, 3) := by decide +kernel
theorem dR_takeSegments_27 : decode kR_takeSegments 27 = .ok (.goto 37, 3) := by decide +kernel
theorem dR_takeSegments_30 : decode kR_takeSegments 30 = .ok (.aload_n 1, 1) := by decide +kernel
theorem dR_takeSegments_31 : decode kR_takeSegments 31 = .ok (.getfield 126, 3) := by decide +kernel
theorem dR_takeSegments_34 : decode kR_takeSegments 34 = .ok (.getfield 130, 3) := by decide +kernel
theorem dR_takeSegments_37 : decode kR_takeSegments 37 = .ok (.ifCond .ne 27, 3) := by decide +kernel
theorem dR_takeSegments_40 : decode kR_takeSegments 40 = .ok (.iload 4, 2) := by decide +kernel
theorem dR_takeSegments_42 : decode kR_takeSegments 42 = .ok (.ifCond .le 22, 3) := by decide +kernel
theorem dR_takeSegments_45 : decode kR_takeSegments 45 = .ok (.aload_n 0, 1) := by decide +kernel
theorem dR_takeSegments_46 : decode kR_takeSegments 46 = .ok (.iload_n 2, 1) := by decide +kernel
theorem dR_takeSegments_47 : decode kR_takeSegments 47 = .ok (.iload 4, 2) := by decide +kernel
theorem dR_takeSegments_49 : decode kR_takeSegments 49 = .ok (.invokevirtual 135, 3) := by decide +kernel
theorem dR_takeSegments_52 : decode kR_takeSegments 52 = .ok (.istore 5, 2) := by decide +kernel
theorem dR_takeSegments_54 : decode kR_takeSegments 54 = .ok (.aload_n 0, 1) := by decide +kernel
theorem dR_takeSegments_55 : decode kR_takeSegments 55 = .ok (.dup, 1) := by decide +kernel
theorem dR_takeSegments_56 : decode kR_takeSegments 56 = .ok (.getfield 139, 3) := by decide +kernel
theorem dR_takeSegments_59 : decode kR_takeSegments 59 = .ok (.iconst 1, 1) := by decide +kernel
theorem dR_takeSegments_60 : decode kR_takeSegments 60 = .ok (.iadd, 1) := by decide +kernel
theorem dR_takeSegments_61 : decode kR_takeSegments 61 = .ok (.putfield 139, 3) := by decide +kernel
theorem dR_takeSegments_64 : decode kR_takeSegments 64 = .ok (.aload_n 0, 1) := by decide +kernel
theorem dR_takeSegments_65 : decode kR_takeSegments 65 = .ok (.iload_n 2, 1) := by decide +kernel
theorem dR_takeSegments_66 : decode kR_takeSegments 66 = .ok (.iload 4, 2) := by decide +kernel
theorem dR_takeSegments_68 : decode kR_takeSegments 68 = .ok (.invokevirtual 142, 3) := by decide +kernel
theorem dR_takeSegments_71 : decode kR_takeSegments 71 = .ok (.istore 6, 2) := by decide +kernel
theorem dR_takeSegments_73 : decode kR_takeSegments 73 = .ok (.iload_n 2, 1) := by decide +kernel
theorem dR_takeSegments_74 : decode kR_takeSegments 74 = .ok (.bipush 14, 2) := by decide +kernel
theorem dR_takeSegments_76 : decode kR_takeSegments 76 = .ok (.iadd, 1) := by decide +kernel
theorem dR_takeSegments_77 : decode kR_takeSegments 77 = .ok (.iload 4, 2) := by decide +kernel
theorem dR_takeSegments_79 : decode kR_takeSegments 79 = .ok (.iadd, 1) := by decide +kernel
theorem dR_takeSegments_80 : decode kR_takeSegments 80 = .ok (.istore 7, 2) := by decide +kernel
theorem dR_takeSegments_82 : decode kR_takeSegments 82 = .ok (.iconst 0, 1) := by decide +kernel
theorem dR_takeSegments_83 : decode kR_takeSegments 83 = .ok (.istore 8, 2) := by decide +kernel
theorem dR_takeSegments_85 : decode kR_takeSegments 85 = .ok (.iload 8, 2) := by decide +kernel
theorem dR_takeSegments_87 : decode kR_takeSegments 87 = .ok (.iload 4, 2) := by decide +kernel
theorem dR_takeSegments_89 : decode kR_takeSegments 89 = .ok (.if_icmp .ge 74, 3) := by decide +kernel
theorem dR_takeSegments_92 : decode kR_takeSegments 92 = .ok (.aload_n 0, 1) := by decide +kernel
theorem dR_takeSegments_93 : decode kR_takeSegments 93 = .ok (.getfield 28, 3) := by decide +kernel
theorem dR_takeSegments_96 : decode kR_takeSegments 96 = .ok (.iload_n 2, 1) := by decide +kernel
theorem dR_takeSegments_97 : decode kR_takeSegments 97 = .ok (.bipush 14, 2) := by decide +kernel
theorem dR_takeSegments_99 : decode kR_takeSegments 99 = .ok (.iadd, 1) := by decide +kernel
theorem dR_takeSegments_100 : decode kR_takeSegments 100 = .ok (.iload 8, 2) := by decide +kernel
theorem dR_takeSegments_102 : decode kR_takeSegments 102 = .ok (.iadd, 1) := by decide +kernel
theorem dR_takeSegments_103 : decode kR_takeSegments 103 = .ok (.invokevirtual 89, 3) := by decide +kernel
theorem dR_takeSegments_106 : decode kR_takeSegments 106 = .ok (.istore 9, 2) := by decide +kernel
theorem dR_takeSegments_108 : decode kR_takeSegments 108 = .ok (.iload 8, 2) := by decide +kernel
theorem dR_takeSegments_110 : decode kR_takeSegments 110 = .ok (.iload 5, 2) := by decide +kernel
theorem dR_takeSegments_112 : decode kR_takeSegments 112 = .ok (.if_icmp .lt 38, 3) := by decide +kernel
theorem dR_takeSegments_115 : decode kR_takeSegments 115 = .ok (.aload_n 1, 1) := by decide +kernel
theorem dR_takeSegments_116 : decode kR_takeSegments 116 = .ok (.getfield 126, 3) := by decide +kernel
theorem dR_takeSegments_119 : decode kR_takeSegments 119 = .ok (.iload 7, 2) := by decide +kernel
theorem dR_takeSegments_121 : decode kR_takeSegments 121 = .ok (.iload 9, 2) := by decide +kernel
theorem dR_takeSegments_123 : decode kR_takeSegments 123 = .ok (.invokevirtual 145, 3) := by decide +kernel
theorem dR_takeSegments_126 : decode kR_takeSegments 126 = .ok (.iload 9, 2) := by decide +kernel
theorem dR_takeSegments_128 : decode kR_takeSegments 128 = .ok (.bipush 15, 2) := by decide +kernel
theorem dR_takeSegments_130 : decode kR_takeSegments 130 = .ok (.if_icmp .ge 20, 3) := by decide +kernel
theorem dR_takeSegments_133 : decode kR_takeSegments 133 = .ok (.aload_n 0, 1) := by decide +kernel
theorem dR_takeSegments_134 : decode kR_takeSegments 134 = .ok (.aload_n 1, 1) := by decide +kernel
theorem dR_takeSegments_135 : decode kR_takeSegments 135 = .ok (.iload 8, 2) := by decide +kernel
theorem dR_takeSegments_137 : decode kR_takeSegments 137 = .ok (.iload 6, 2) := by decide +kernel
theorem dR_takeSegments_139 : decode kR_takeSegments 139 = .ok (.if_icmp .ne 7, 3) := by decide +kernel
theorem dR_takeSegments_142 : decode kR_takeSegments 142 = .ok (.iload_n 2, 1) := by decide +kernel
theorem dR_takeSegments_143 : decode kR_takeSegments 143 = .ok (.goto 4, 3) := by decide +kernel
theorem dR_takeSegments_146 : decode kR_takeSegments 146 = .ok (.iconst (-1), 1) := by decide +kernel
theorem dR_takeSegments_147 : decode kR_takeSegments 147 = .ok (.invokevirtual 149, 3) := by decide +kernel
theorem dR_takeSegments_150 : decode kR_takeSegments 150 = .ok (.iload 7, 2) := by decide +kernel
theorem dR_takeSegments_152 : decode kR_takeSegments 152 = .ok (.iload 9, 2) := by decide +kernel
theorem dR_takeSegments_154 : decode kR_takeSegments 154 = .ok (.iadd, 1) := by decide +kernel
theorem dR_takeSegments_155 : decode kR_takeSegments 155 = .ok (.istore 7, 2) := by decide +kernel
theorem dR_takeSegments_157 : decode kR_takeSegments 157 = .ok (.iinc 8 1, 3) := by decide +kernel
theorem dR_takeSegments_160 : decode kR_takeSegments 160 = .ok (.goto (-75), 3) := by decide +kernel
theorem dR_takeSegments_163 : decode kR_takeSegments 163 = .ok (.return_, 1) := by decide +kernel
def wb_R_takeSegments_150 (θ : TH) (a0_85 : Nat) (a1_85 : Nat) (x2_85 : Int32) (x4_85 : Int32) (x5_85 : Int32) (x6_85 : Int32) (x7_150 : Int32) (x8_150 : Int32) (x9_150 : Int32) (kb85 : Int32 → Int32 → VT → UT → Prop) (K : VT → UT → Prop) (V : VT) (U : UT) : Prop := ∀ y_39 : Int32, y_39 = (x7_150 + x9_150) → ∀ y_40 : Int32, y_40 = x8_150 + (1 : Int32) → kb85 y_39 y_40 V U
def wb_R_takeSegments_147 (θ : TH) (a0_85 : Nat) (a1_85 : Nat) (x2_85 : Int32) (x4_85 : Int32) (x5_85 : Int32) (x6_85 : Int32) (x7_147 : Int32) (x8_147 : Int32) (x9_147 : Int32) (z0_147 : Int32) (z1_147 : Nat) (z2_147 : Nat) (kb85 : Int32 → Int32 → VT → UT → Prop) (K : VT → UT → Prop) (V : VT) (U : UT) : Prop := isO θ z2_147 6 ∧ wp_R_finish θ z2_147 z1_147 z0_147 V U (fun V_41 U_42 => wb_R_takeSegments_150 θ a0_85 a1_85 x2_85 x4_85 x5_85 x6_85 x7_147 x8_147 x9_147 kb85 K V_41 U_42)
def bl_R_takeSegments_85 (θ : TH) (a0_85 : Nat) (a1_85 : Nat) (x2_85 : Int32) (x4_85 : Int32) (x5_85 : Int32) (x6_85 : Int32) (K : VT → UT → Prop) (kb85 : Int32 → Int32 → VT → UT → Prop) (x7_85 : Int32) (x8_85 : Int32) (V : VT) (U : UT) : Prop := ((x4_85 ≤ x8_85 → K V U) ∧ (¬ x4_85 ≤ x8_85 → isO θ a0_85 6 ∧ (U a0_85 0) ≠ 0 ∧ isO θ (U a0_85 0) 1 ∧ wp_W_at θ (U a0_85 0) ((x2_85 + (14 : Int32)) + x8_85) V U (fun r_30 V_27 U_28 => ((x8_85 < x5_85 → wb_R_takeSegments_150 θ a0_85 a1_85 x2_85 x4_85 x5_85 x6_85 x7_85 x8_85 r_30 kb85 K V_27 U_28) ∧ (¬ x8_85 < x5_85 → isO θ a1_85 4 ∧ (U_28 a1_85 4) ≠ 0 ∧ isO θ (U_28 a1_85 4) 3 ∧ wp_K_extend θ (U_28 a1_85 4) x7_85 r_30 V_27 U_28 (fun V_34 U_35 => (((15 : Int32) ≤ r_30 → wb_R_takeSegments_150 θ a0_85 a1_85 x2_85 x4_85 x5_85 x6_85 x7_85 x8_85 r_30 kb85 K V_34 U_35) ∧ (¬ (15 : Int32) ≤ r_30 → ((¬ x8_85 = x6_85 → wb_R_takeSegments_147 θ a0_85 a1_85 x2_85 x4_85 x5_85 x6_85 x7_85 x8_85 r_30 (-1 : Int32) a1_85 a0_85 kb85 K V_34 U_35) ∧ (x8_85 = x6_85 → wb_R_takeSegments_147 θ a0_85 a1_85 x2_85 x4_85 x5_85 x6_85 x7_85 x8_85 r_30 x2_85 a1_85 a0_85 kb85 K V_34 U_35))))))))))
def wl_R_takeSegments_85 (θ : TH) (a0_85 : Nat) (a1_85 : Nat) (x2_85 : Int32) (x4_85 : Int32) (x5_85 : Int32) (x6_85 : Int32) (K : VT → UT → Prop) : Nat → Int32 → Int32 → VT → UT → Prop
  | 0, _, _, _, _ => False
  | n + 1, x7_85, x8_85, V, U => bl_R_takeSegments_85 θ a0_85 a1_85 x2_85 x4_85 x5_85 x6_85 K (wl_R_takeSegments_85 θ a0_85 a1_85 x2_85 x4_85 x5_85 x6_85 K n) x7_85 x8_85 V U
def wb_R_takeSegments_64 (θ : TH) (a0_64 : Nat) (a1_64 : Nat) (x2_64 : Int32) (x4_64 : Int32) (x5_64 : Int32) (K : VT → UT → Prop) (V : VT) (U : UT) : Prop := isO θ a0_64 6 ∧ wp_R_lastEndOf θ a0_64 x2_64 x4_64 V U (fun r_22 V_19 U_20 => ∀ y_23 : Int32, y_23 = ((x2_64 + (14 : Int32)) + x4_64) → ∃ n, wl_R_takeSegments_85 θ a0_64 a1_64 x2_64 x4_64 x5_64 r_22 K n y_23 (0 : Int32) V_19 U_20)
def wp_R_takeSegments (θ : TH) (a0 : Nat) (a1 : Nat) (x2 : Int32) (x3 : Int32) (V : VT) (U : UT) (K : VT → UT → Prop) : Prop := isO θ a0 6 ∧ (U a0 0) ≠ 0 ∧ isO θ (U a0 0) 1 ∧ wp_W_at θ (U a0 0) (x2 + (13 : Int32)) V U (fun r_6 V_3 U_4 => ((¬ (x3 &&& (1 : Int32)) = 0 → isO θ a1 4 ∧ (U_4 a1 4) ≠ 0 ∧ isO θ (U_4 a1 4) 3 ∧ ((¬ (V_3 (U_4 a1 4) 1) = 0 → wb_R_takeSegments_64 θ a0 a1 x2 r_6 (0 : Int32) K V_3 U_4) ∧ ((V_3 (U_4 a1 4) 1) = 0 → ((r_6 ≤ 0 → wb_R_takeSegments_64 θ a0 a1 x2 r_6 (0 : Int32) K V_3 U_4) ∧ (¬ r_6 ≤ 0 → wp_R_afterFirstEnd θ a0 x2 r_6 V_3 U_4 (fun r_15 V_13 U_14 => ∀ V_16 : VT, V_16 = up2 V_13 a0 7 ((V_13 a0 7) + (1 : Int32)) → wb_R_takeSegments_64 θ a0 a1 x2 r_6 r_15 K V_16 U_14)))))) ∧ ((x3 &&& (1 : Int32)) = 0 → wp_R_drop θ a0 a1 V_3 U_4 (fun V_17 U_18 => wb_R_takeSegments_64 θ a0 a1 x2 r_6 (0 : Int32) K V_17 U_18))))
set_option maxRecDepth 100000 in
set_option maxHeartbeats 4000000 in
theorem c_R_takeSegments (l : Launch) (θ : TH) (a0 : Nat) (a1 : Nat) (x2 : Int32) (x3 : Int32) (V : VT) (U : UT) (K : VT → UT → Prop) (hw : wp_R_takeSegments θ a0 a1 x2 x3 V U K) : CMv l yR_takeSegments kR_takeSegments 10 none rmR_takeSegments θ [.ref a0, .ref a1, .int x2, .int x3] V U K := by
  refine g_met nRR (by decide +kernel) rfl (Nat.le_of_ble_eq_true rfl) (fun p e s m args below meth c ls hC hr hlk hwo hl => ?_)
  have hx := hC.1
  have hb := hC.2.1
  have hS : Sx θ s s.heap [] := va_S.rf
  have hl : lv_has ls 10 [(0, .ref a0), (1, .ref a1), (2, .int x2), (3, .int x3)] := hl
  have L85 : ∀ (a0_85 : Nat) (a1_85 : Nat) (x2_85 : Int32) (x4_85 : Int32) (x5_85 : Int32) (x6_85 : Int32) (n85 : Nat) (x7_85 : Int32) (x8_85 : Int32) (V : VT) (U : UT) (H : Heap) (locs : List Loc) (ls : Array Slot), wl_R_takeSegments_85 θ a0_85 a1_85 x2_85 x4_85 x5_85 x6_85 K n85 x7_85 x8_85 V U → wo θ V U H → Sx θ s H locs → lv_has ls 10 [(0, .ref a0_85), (1, .ref a1_85), (2, .int x2_85), (4, .int x4_85), (5, .int x5_85), (6, .int x6_85), (7, .int x7_85), (8, .int x8_85)] → W p l e rmR_takeSegments s m args below meth c H locs 0 0 (MQ below (QV θ K) args s 0 0 (aT θ)) (F0 m 85 ls []) := by
    intro a0_85 a1_85 x2_85 x4_85 x5_85 x6_85 n85
    induction n85 with
    | zero => intro x7_85 x8_85 V U H locs ls hw hwo hS hl; exact (show False from hw).elim
    | succ n85 ih85 =>
      have J150 : ∀ (x7_150 : Int32) (x8_150 : Int32) (x9_150 : Int32) (V : VT) (U : UT) (H : Heap) (locs : List Loc) (ls : Array Slot), wb_R_takeSegments_150 θ a0_85 a1_85 x2_85 x4_85 x5_85 x6_85 x7_150 x8_150 x9_150 (wl_R_takeSegments_85 θ a0_85 a1_85 x2_85 x4_85 x5_85 x6_85 K n85) K V U → wo θ V U H → Sx θ s H locs → lv_has ls 10 [(0, .ref a0_85), (1, .ref a1_85), (2, .int x2_85), (4, .int x4_85), (5, .int x5_85), (6, .int x6_85), (7, .int x7_150), (8, .int x8_150), (9, .int x9_150)] → W p l e rmR_takeSegments s m args below meth c H locs 0 0 (MQ below (QV θ K) args s 0 0 (aT θ)) (F0 m 150 ls []) := by
        intro x7_150 x8_150 x9_150 V U H locs ls hw hwo hS hl
        unfold wb_R_takeSegments_150 at hw
        refine lv_iload hx hb dR_takeSegments_150 (lv_at hl 6 rfl) ?_
        refine lv_iload hx hb dR_takeSegments_152 (lv_at hl 8 rfl) ?_
        refine lv_iadd hx hb dR_takeSegments_154 ?_
        refine lv_topi (fun y_39 ey_39 => ?_)
        replace hw := hw y_39 ey_39
        refine lv_istore (i := 7) (lv' := [(7, .int y_39), (0, .ref a0_85), (1, .ref a1_85), (2, .int x2_85), (4, .int x4_85), (5, .int x5_85), (6, .int x6_85), (8, .int x8_150), (9, .int x9_150)]) hx hb dR_takeSegments_155 hl (by decide) rfl (fun ls hl => ?_)
        obtain ⟨y_40, ey_40⟩ : ∃ z : Int32, z = x8_150 + (1 : Int32) := ⟨_, rfl⟩
        replace hw := hw y_40 ey_40
        refine lv_iinc (k := 7) (v := y_40) (lv' := [(8, .int y_40), (7, .int y_39), (0, .ref a0_85), (1, .ref a1_85), (2, .int x2_85), (4, .int x4_85), (5, .int x5_85), (6, .int x6_85), (9, .int x9_150)]) hx hb dR_takeSegments_157 hl rfl (by rw [ey_40]; rfl) (by decide) rfl (fun ls hl => ?_)
        refine lv_goto (tgt := 85) hx hb dR_takeSegments_160 (by decide) ?_
        exact ih85 _ _ _ _ _ _ _ hw hwo hS (lv_sub hl [2, 3, 4, 5, 6, 7, 1, 0] rfl)
      have J147 : ∀ (x7_147 : Int32) (x8_147 : Int32) (x9_147 : Int32) (z0_147 : Int32) (z1_147 : Nat) (z2_147 : Nat) (V : VT) (U : UT) (H : Heap) (locs : List Loc) (ls : Array Slot), wb_R_takeSegments_147 θ a0_85 a1_85 x2_85 x4_85 x5_85 x6_85 x7_147 x8_147 x9_147 z0_147 z1_147 z2_147 (wl_R_takeSegments_85 θ a0_85 a1_85 x2_85 x4_85 x5_85 x6_85 K n85) K V U → wo θ V U H → Sx θ s H locs → lv_has ls 10 [(0, .ref a0_85), (1, .ref a1_85), (2, .int x2_85), (4, .int x4_85), (5, .int x5_85), (6, .int x6_85), (7, .int x7_147), (8, .int x8_147), (9, .int x9_147)] → W p l e rmR_takeSegments s m args below meth c H locs 0 0 (MQ below (QV θ K) args s 0 0 (aT θ)) (F0 m 147 ls [.int z0_147, .ref z1_147, .ref z2_147]) := by
        intro x7_147 x8_147 x9_147 z0_147 z1_147 z2_147 V U H locs ls hw hwo hS hl
        unfold wb_R_takeSegments_147 at hw
        obtain ⟨ho_43, hw⟩ := hw
        refine g_Vv (rest := []) hC (c_R_finish l θ _ _ _ _ _ _ hw) mi_R_finish mlR_149 mv_R_finish ci_6 ho_43 hwo hS ⟨rfl, rfl⟩ ⟨by decide, by decide⟩ rfl hl.1 rfl (Nat.le_of_ble_eq_true rfl) dR_takeSegments_147 (fun V_41 U_42 hw H locs hwo hS => ?_)
        exact J150 _ _ _ _ _ _ _ _ hw hwo hS (lv_sub hl [0, 1, 2, 3, 4, 5, 6, 7, 8] rfl)
      intro x7_85 x8_85 V U H locs ls hw hwo hS hl
      replace hw : bl_R_takeSegments_85 θ a0_85 a1_85 x2_85 x4_85 x5_85 x6_85 K (wl_R_takeSegments_85 θ a0_85 a1_85 x2_85 x4_85 x5_85 x6_85 K n85) x7_85 x8_85 V U := hw
      unfold bl_R_takeSegments_85 at hw
      refine lv_iload hx hb dR_takeSegments_85 (lv_at hl 7 rfl) ?_
      refine lv_iload hx hb dR_takeSegments_87 (lv_at hl 3 rfl) ?_
      refine lv_icmp_ge (tgt := 163) hx hb dR_takeSegments_89 (by decide) (fun hc_24 => ?_) (fun hc_24 => ?_)
      · replace hw := hw.1 hc_24
        exact g_vret hC hr hlk hw hwo hS dR_takeSegments_163
      · replace hw := hw.2 hc_24
        refine lv_aload_n hx hb dR_takeSegments_92 rfl (lv_at hl 0 rfl) ?_
        obtain ⟨ho_25, hw⟩ := hw
        obtain ⟨hz_26, hw⟩ := hw
        refine g_getR hC fkR_28 rfl hwo ho_25 hz_26 dR_takeSegments_93 ?_
        refine lv_iload_n hx hb dR_takeSegments_96 rfl (lv_at hl 2 rfl) ?_
        refine lv_bipush (v := 14) hx hb dR_takeSegments_97 (by decide) ?_
        refine lv_iadd hx hb dR_takeSegments_99 ?_
        refine lv_iload hx hb dR_takeSegments_100 (lv_at hl 7 rfl) ?_
        refine lv_iadd hx hb dR_takeSegments_102 ?_
        obtain ⟨ho_29, hw⟩ := hw
        refine g_Vi (rest := []) hC (c_W_at l θ _ _ _ _ _ hw) mi_W_at mlR_89 mv_W_at ci_1 ho_29 hwo hS ⟨rfl, rfl⟩ ⟨by decide, by decide⟩ rfl hl.1 rfl (Nat.le_of_ble_eq_true rfl) dR_takeSegments_103 (fun r_30 V_27 U_28 hw H locs hwo hS => ?_)
        refine lv_istore (i := 9) (lv' := [(9, .int r_30), (0, .ref a0_85), (1, .ref a1_85), (2, .int x2_85), (4, .int x4_85), (5, .int x5_85), (6, .int x6_85), (7, .int x7_85), (8, .int x8_85)]) hx hb dR_takeSegments_106 hl (by decide) rfl (fun ls hl => ?_)
        refine lv_iload hx hb dR_takeSegments_108 (lv_at hl 8 rfl) ?_
        refine lv_iload hx hb dR_takeSegments_110 (lv_at hl 5 rfl) ?_
        refine lv_icmp_lt (tgt := 150) hx hb dR_takeSegments_112 (by decide) (fun hc_31 => ?_) (fun hc_31 => ?_)
        · replace hw := hw.1 hc_31
          exact J150 _ _ _ _ _ _ _ _ hw hwo hS (lv_sub hl [1, 2, 3, 4, 5, 6, 7, 8, 0] rfl)
        · replace hw := hw.2 hc_31
          refine lv_aload_n hx hb dR_takeSegments_115 rfl (lv_at hl 2 rfl) ?_
          obtain ⟨ho_32, hw⟩ := hw
          obtain ⟨hz_33, hw⟩ := hw
          refine g_getR hC fkR_126 rfl hwo ho_32 hz_33 dR_takeSegments_116 ?_
          refine lv_iload hx hb dR_takeSegments_119 (lv_at hl 7 rfl) ?_
          refine lv_iload hx hb dR_takeSegments_121 (lv_at hl 0 rfl) ?_
          obtain ⟨ho_36, hw⟩ := hw
          refine g_Vv (rest := []) hC (c_K_extend l θ _ _ _ _ _ _ hw) mi_K_extend mlR_145 mv_K_extend ci_3 ho_36 hwo hS ⟨rfl, rfl⟩ ⟨by decide, by decide⟩ rfl hl.1 rfl (Nat.le_of_ble_eq_true rfl) dR_takeSegments_123 (fun V_34 U_35 hw H locs hwo hS => ?_)
          refine lv_iload hx hb dR_takeSegments_126 (lv_at hl 0 rfl) ?_
          refine lv_bipush (v := 15) hx hb dR_takeSegments_128 (by decide) ?_
          refine lv_icmp_ge (tgt := 150) hx hb dR_takeSegments_130 (by decide) (fun hc_37 => ?_) (fun hc_37 => ?_)
          · replace hw := hw.1 hc_37
            exact J150 _ _ _ _ _ _ _ _ hw hwo hS (lv_sub hl [1, 2, 3, 4, 5, 6, 7, 8, 0] rfl)
          · replace hw := hw.2 hc_37
            refine lv_aload_n hx hb dR_takeSegments_133 rfl (lv_at hl 1 rfl) ?_
            refine lv_aload_n hx hb dR_takeSegments_134 rfl (lv_at hl 2 rfl) ?_
            refine lv_iload hx hb dR_takeSegments_135 (lv_at hl 8 rfl) ?_
            refine lv_iload hx hb dR_takeSegments_137 (lv_at hl 6 rfl) ?_
            refine lv_icmp_ne (tgt := 146) hx hb dR_takeSegments_139 (by decide) (fun hc_38 => ?_) (fun hc_38 => ?_)
            · replace hw := hw.1 hc_38
              refine lv_iconst (v := -1) hx hb dR_takeSegments_146 (by decide) ?_
              exact J147 _ _ _ _ _ _ _ _ _ _ _ hw hwo hS (lv_sub hl [1, 2, 3, 4, 5, 6, 7, 8, 0] rfl)
            · replace hw := hw.2 hc_38
              refine lv_iload_n hx hb dR_takeSegments_142 rfl (lv_at hl 3 rfl) ?_
              refine lv_goto (tgt := 147) hx hb dR_takeSegments_143 (by decide) ?_
              exact J147 _ _ _ _ _ _ _ _ _ _ _ hw hwo hS (lv_sub hl [1, 2, 3, 4, 5, 6, 7, 8, 0] rfl)
  have J64 : ∀ (a0_64 : Nat) (a1_64 : Nat) (x2_64 : Int32) (x4_64 : Int32) (x5_64 : Int32) (V : VT) (U : UT) (H : Heap) (locs : List Loc) (ls : Array Slot), wb_R_takeSegments_64 θ a0_64 a1_64 x2_64 x4_64 x5_64 K V U → wo θ V U H → Sx θ s H locs → lv_has ls 10 [(0, .ref a0_64), (1, .ref a1_64), (2, .int x2_64), (4, .int x4_64), (5, .int x5_64)] → W p l e rmR_takeSegments s m args below meth c H locs 0 0 (MQ below (QV θ K) args s 0 0 (aT θ)) (F0 m 64 ls []) := by
    intro a0_64 a1_64 x2_64 x4_64 x5_64 V U H locs ls hw hwo hS hl
    unfold wb_R_takeSegments_64 at hw
    refine lv_aload_n hx hb dR_takeSegments_64 rfl (lv_at hl 0 rfl) ?_
    refine lv_iload_n hx hb dR_takeSegments_65 rfl (lv_at hl 2 rfl) ?_
    refine lv_iload hx hb dR_takeSegments_66 (lv_at hl 3 rfl) ?_
    obtain ⟨ho_21, hw⟩ := hw
    refine g_Vi (rest := []) hC (c_R_lastEndOf l θ _ _ _ _ _ _ hw) mi_R_lastEndOf mlR_142 mv_R_lastEndOf ci_6 ho_21 hwo hS ⟨rfl, rfl⟩ ⟨by decide, by decide⟩ rfl hl.1 rfl (Nat.le_of_ble_eq_true rfl) dR_takeSegments_68 (fun r_22 V_19 U_20 hw H locs hwo hS => ?_)
    refine lv_istore (i := 6) (lv' := [(6, .int r_22), (0, .ref a0_64), (1, .ref a1_64), (2, .int x2_64), (4, .int x4_64), (5, .int x5_64)]) hx hb dR_takeSegments_71 hl (by decide) rfl (fun ls hl => ?_)
    refine lv_iload_n hx hb dR_takeSegments_73 rfl (lv_at hl 3 rfl) ?_
    refine lv_bipush (v := 14) hx hb dR_takeSegments_74 (by decide) ?_
    refine lv_iadd hx hb dR_takeSegments_76 ?_
    refine lv_iload hx hb dR_takeSegments_77 (lv_at hl 4 rfl) ?_
    refine lv_iadd hx hb dR_takeSegments_79 ?_
    refine lv_topi (fun y_23 ey_23 => ?_)
    replace hw := hw y_23 ey_23
    refine lv_istore (i := 7) (lv' := [(7, .int y_23), (6, .int r_22), (0, .ref a0_64), (1, .ref a1_64), (2, .int x2_64), (4, .int x4_64), (5, .int x5_64)]) hx hb dR_takeSegments_80 hl (by decide) rfl (fun ls hl => ?_)
    refine lv_iconst (v := 0) hx hb dR_takeSegments_82 (by decide) ?_
    refine lv_istore (i := 8) (lv' := [(8, .int (0 : Int32)), (7, .int y_23), (6, .int r_22), (0, .ref a0_64), (1, .ref a1_64), (2, .int x2_64), (4, .int x4_64), (5, .int x5_64)]) hx hb dR_takeSegments_83 hl (by decide) rfl (fun ls hl => ?_)
    obtain ⟨n, hw⟩ := hw
    exact L85 _ _ _ _ _ _ n _ _ _ _ _ _ _ hw hwo hS (lv_sub hl [3, 4, 5, 6, 7, 2, 1, 0] rfl)
  unfold wp_R_takeSegments at hw
  refine lv_aload_n hx hb dR_takeSegments_0 rfl (lv_at hl 0 rfl) ?_
  obtain ⟨ho_1, hw⟩ := hw
  obtain ⟨hz_2, hw⟩ := hw
  refine g_getR hC fkR_28 rfl hwo ho_1 hz_2 dR_takeSegments_1 ?_
  refine lv_iload_n hx hb dR_takeSegments_4 rfl (lv_at hl 2 rfl) ?_
  refine lv_bipush (v := 13) hx hb dR_takeSegments_5 (by decide) ?_
  refine lv_iadd hx hb dR_takeSegments_7 ?_
  obtain ⟨ho_5, hw⟩ := hw
  refine g_Vi (rest := []) hC (c_W_at l θ _ _ _ _ _ hw) mi_W_at mlR_89 mv_W_at ci_1 ho_5 hwo hS ⟨rfl, rfl⟩ ⟨by decide, by decide⟩ rfl hl.1 rfl (Nat.le_of_ble_eq_true rfl) dR_takeSegments_8 (fun r_6 V_3 U_4 hw H locs hwo hS => ?_)
  refine lv_istore (i := 4) (lv' := [(4, .int r_6), (0, .ref a0), (1, .ref a1), (2, .int x2), (3, .int x3)]) hx hb dR_takeSegments_11 hl (by decide) rfl (fun ls hl => ?_)
  refine lv_iconst (v := 0) hx hb dR_takeSegments_13 (by decide) ?_
  refine lv_istore (i := 5) (lv' := [(5, .int (0 : Int32)), (4, .int r_6), (0, .ref a0), (1, .ref a1), (2, .int x2), (3, .int x3)]) hx hb dR_takeSegments_14 hl (by decide) rfl (fun ls hl => ?_)
  refine lv_iload_n hx hb dR_takeSegments_16 rfl (lv_at hl 5 rfl) ?_
  refine lv_iconst (v := 1) hx hb dR_takeSegments_17 (by decide) ?_
  refine lv_iand hx hb dR_takeSegments_18 ?_
  refine lv_if_ne (tgt := 30) hx hb dR_takeSegments_19 (by decide) (fun hc_7 => ?_) (fun hc_7 => ?_)
  · replace hw := hw.1 hc_7
    refine lv_aload_n hx hb dR_takeSegments_30 rfl (lv_at hl 3 rfl) ?_
    obtain ⟨ho_8, hw⟩ := hw
    obtain ⟨hz_9, hw⟩ := hw
    refine g_getR hC fkR_126 rfl hwo ho_8 hz_9 dR_takeSegments_31 ?_
    obtain ⟨ho_10, hw⟩ := hw
    refine g_getI hC fkR_130 rfl hwo ho_10 dR_takeSegments_34 ?_
    refine lv_if_ne (tgt := 64) hx hb dR_takeSegments_37 (by decide) (fun hc_11 => ?_) (fun hc_11 => ?_)
    · replace hw := hw.1 hc_11
      exact J64 _ _ _ _ _ _ _ _ _ _ hw hwo hS (lv_sub hl [2, 3, 4, 1, 0] rfl)
    · replace hw := hw.2 hc_11
      refine lv_iload hx hb dR_takeSegments_40 (lv_at hl 1 rfl) ?_
      refine lv_if_le (tgt := 64) hx hb dR_takeSegments_42 (by decide) (fun hc_12 => ?_) (fun hc_12 => ?_)
      · replace hw := hw.1 hc_12
        exact J64 _ _ _ _ _ _ _ _ _ _ hw hwo hS (lv_sub hl [2, 3, 4, 1, 0] rfl)
      · replace hw := hw.2 hc_12
        refine lv_aload_n hx hb dR_takeSegments_45 rfl (lv_at hl 2 rfl) ?_
        refine lv_iload_n hx hb dR_takeSegments_46 rfl (lv_at hl 4 rfl) ?_
        refine lv_iload hx hb dR_takeSegments_47 (lv_at hl 1 rfl) ?_
        refine g_Vi (rest := []) hC (c_R_afterFirstEnd l θ _ _ _ _ _ _ hw) mi_R_afterFirstEnd mlR_135 mv_R_afterFirstEnd ci_6 ho_1 hwo hS ⟨rfl, rfl⟩ ⟨by decide, by decide⟩ rfl hl.1 rfl (Nat.le_of_ble_eq_true rfl) dR_takeSegments_49 (fun r_15 V_13 U_14 hw H locs hwo hS => ?_)
        refine lv_istore (i := 5) (lv' := [(5, .int r_15), (4, .int r_6), (0, .ref a0), (1, .ref a1), (2, .int x2), (3, .int x3)]) hx hb dR_takeSegments_52 hl (by decide) rfl (fun ls hl => ?_)
        refine lv_aload_n hx hb dR_takeSegments_54 rfl (lv_at hl 2 rfl) ?_
        refine lv_dup hx hb dR_takeSegments_55 rfl ?_
        refine g_getI hC fkR_139 rfl hwo ho_1 dR_takeSegments_56 ?_
        refine lv_iconst (v := 1) hx hb dR_takeSegments_59 (by decide) ?_
        refine lv_iadd hx hb dR_takeSegments_60 ?_
        refine g_putI hC fkR_139 rfl hwo hS ho_1 dR_takeSegments_61 (fun V_16 eV_16 H locs hwo hS => ?_)
        replace hw := hw V_16 eV_16
        exact J64 _ _ _ _ _ _ _ _ _ _ hw hwo hS (lv_sub hl [2, 3, 4, 1, 0] rfl)
  · replace hw := hw.2 hc_7
    refine lv_aload_n hx hb dR_takeSegments_22 rfl (lv_at hl 2 rfl) ?_
    refine lv_aload_n hx hb dR_takeSegments_23 rfl (lv_at hl 3 rfl) ?_
    refine g_Vv (rest := []) hC (c_R_drop l θ _ _ _ _ _ hw) mi_R_drop mlR_108 mv_R_drop ci_6 ho_1 hwo hS ⟨rfl, rfl⟩ ⟨by decide, by decide⟩ rfl hl.1 rfl (Nat.le_of_ble_eq_true rfl) dR_takeSegments_24 (fun V_17 U_18 hw H locs hwo hS => ?_)
    refine lv_goto (tgt := 64) hx hb dR_takeSegments_27 (by decide) ?_
    exact J64 _ _ _ _ _ _ _ _ _ _ hw hwo hS (lv_sub hl [2, 3, 4, 1, 0] rfl)
theorem dR_readPage_0 : decode kR_readPage 0 = .ok (.aload_n 0, 1) := by decide +kernel
theorem dR_readPage_1 : decode kR_readPage 1 = .ok (.getfield 28, 3) := by decide +kernel
theorem dR_readPage_4 : decode kR_readPage 4 = .ok (.getfield 48, 3) := by decide +kernel
theorem dR_readPage_7 : decode kR_readPage 7 = .ok (.istore_n 2, 1) := by decide +kernel
theorem dR_readPage_8 : decode kR_readPage 8 = .ok (.aload_n 0, 1) := by decide +kernel
theorem dR_readPage_9 : decode kR_readPage 9 = .ok (.getfield 28, 3) := by decide +kernel
theorem dR_readPage_12 : decode kR_readPage 12 = .ok (.iload_n 2, 1) := by decide +kernel
theorem dR_readPage_13 : decode kR_readPage 13 = .ok (.iload_n 1, 1) := by decide +kernel
theorem dR_readPage_14 : decode kR_readPage 14 = .ok (.iadd, 1) := by decide +kernel
theorem dR_readPage_15 : decode kR_readPage 15 = .ok (.putfield 48, 3) := by decide +kernel
theorem dR_readPage_18 : decode kR_readPage 18 = .ok (.aload_n 0, 1) := by decide +kernel
theorem dR_readPage_19 : decode kR_readPage 19 = .ok (.iconst 0, 1) := by decide +kernel
theorem dR_readPage_20 : decode kR_readPage 20 = .ok (.putfield 41, 3) := by decide +kernel
theorem dR_readPage_23 : decode kR_readPage 23 = .ok (.aload_n 0, 1) := by decide +kernel
theorem dR_readPage_24 : decode kR_readPage 24 = .ok (.iconst 0, 1) := by decide +kernel
theorem dR_readPage_25 : decode kR_readPage 25 = .ok (.putfield 37, 3) := by decide +kernel
theorem dR_readPage_28 : decode kR_readPage 28 = .ok (.aload_n 0, 1) := by decide +kernel
theorem dR_readPage_29 : decode kR_readPage 29 = .ok (.getfield 28, 3) := by decide +kernel
theorem dR_readPage_32 : decode kR_readPage 32 = .ok (.iload_n 2, 1) := by decide +kernel
theorem dR_readPage_33 : decode kR_readPage 33 = .ok (.iconst 5, 1) := by decide +kernel
theorem dR_readPage_34 : decode kR_readPage 34 = .ok (.iadd, 1) := by decide +kernel
theorem dR_readPage_35 : decode kR_readPage 35 = .ok (.invokevirtual 89, 3) := by decide +kernel
theorem dR_readPage_38 : decode kR_readPage 38 = .ok (.istore_n 3, 1) := by decide +kernel
theorem dR_readPage_39 : decode kR_readPage 39 = .ok (.aload_n 0, 1) := by decide +kernel
theorem dR_readPage_40 : decode kR_readPage 40 = .ok (.iload_n 3, 1) := by decide +kernel
theorem dR_readPage_41 : decode kR_readPage 41 = .ok (.invokevirtual 92, 3) := by decide +kernel
theorem dR_readPage_44 : decode kR_readPage 44 = .ok (.astore 4, 2) := by decide +kernel
theorem dR_readPage_46 : decode kR_readPage 46 = .ok (.aload 4, 2) := by decide +kernel
theorem dR_readPage_48 : decode kR_readPage 48 = .ok (.ifnonnull 12, 3) := by decide +kernel
theorem dR_readPage_51 : decode kR_readPage 51 = .ok (.aload_n 0, 1) := by decide +kernel
theorem dR_readPage_52 : decode kR_readPage 52 = .ok (.iconst 5, 1) := by decide +kernel
theorem dR_readPage_53 : decode kR_readPage 53 = .ok (.iload_n 1, 1) := by decide +kernel
theorem dR_readPage_54 : decode kR_readPage 54 = .ok (.iload_n 3, 1) := by decide +kernel
theorem dR_readPage_55 : decode kR_readPage 55 = .ok (.invokevirtual 96, 3) := by decide +kernel
theorem dR_readPage_58 : decode kR_readPage 58 = .ok (.pop, 1) := by decide +kernel
theorem dR_readPage_59 : decode kR_readPage 59 = .ok (.return_, 1) := by decide +kernel
theorem dR_readPage_60 : decode kR_readPage 60 = .ok (.aload_n 0, 1) := by decide +kernel
theorem dR_readPage_61 : decode kR_readPage 61 = .ok (.getfield 28, 3) := by decide +kernel
theorem dR_readPage_64 : decode kR_readPage 64 = .ok (.iload_n 2, 1) := by decide +kernel
theorem dR_readPage_65 : decode kR_readPage 65 = .ok (.iconst 4, 1) := by decide +kernel
theorem dR_readPage_66 : decode kR_readPage 66 = .ok (.iadd, 1) := by decide +kernel
theorem dR_readPage_67 : decode kR_readPage 67 = .ok (.invokevirtual 89, 3) := by decide +kernel
theorem dR_readPage_70 : decode kR_readPage 70 = .ok (.istore 5, 2) := by decide +kernel
theorem dR_readPage_72 : decode kR_readPage 72 = .ok (.aload_n 0, 1) := by decide +kernel
theorem dR_readPage_73 : decode kR_readPage 73 = .ok (.aload 4, 2) := by decide +kernel
theorem dR_readPage_75 : decode kR_readPage 75 = .ok (.iload_n 3, 1) := by decide +kernel
theorem dR_readPage_76 : decode kR_readPage 76 = .ok (.iload 5, 2) := by decide +kernel
theorem dR_readPage_78 : decode kR_readPage 78 = .ok (.aload_n 0, 1) := by decide +kernel
theorem dR_readPage_79 : decode kR_readPage 79 = .ok (.getfield 28, 3) := by decide +kernel
theorem dR_readPage_82 : decode kR_readPage 82 = .ok (.iload_n 2, 1) := by decide +kernel
theorem dR_readPage_83 : decode kR_readPage 83 = .ok (.bipush 6, 2) := by decide +kernel
theorem dR_readPage_85 : decode kR_readPage 85 = .ok (.iadd, 1) := by decide +kernel
theorem dR_readPage_86 : decode kR_readPage 86 = .ok (.invokevirtual 89, 3) := by decide +kernel
theorem dR_readPage_89 : decode kR_readPage 89 = .ok (.invokevirtual 100, 3) := by decide +kernel
theorem dR_readPage_92 : decode kR_readPage 92 = .ok (.aload_n 0, 1) := by decide +kernel
theorem dR_readPage_93 : decode kR_readPage 93 = .ok (.aload 4, 2) := by decide +kernel
theorem dR_readPage_95 : decode kR_readPage 95 = .ok (.iload_n 2, 1) := by decide +kernel
theorem dR_readPage_96 : decode kR_readPage 96 = .ok (.iload 5, 2) := by decide +kernel
theorem dR_readPage_98 : decode kR_readPage 98 = .ok (.invokevirtual 104, 3) := by decide +kernel
theorem dR_readPage_101 : decode kR_readPage 101 = .ok (.iload 5, 2) := by decide +kernel
theorem dR_readPage_103 : decode kR_readPage 103 = .ok (.iconst 4, 1) := by decide +kernel
theorem dR_readPage_104 : decode kR_readPage 104 = .ok (.iand, 1) := by decide +kernel
theorem dR_readPage_105 : decode kR_readPage 105 = .ok (.ifCond .eq 27, 3) := by decide +kernel
theorem dR_readPage_108 : decode kR_readPage 108 = .ok (.aload_n 0, 1) := by decide +kernel
theorem dR_readPage_109 : decode kR_readPage 109 = .ok (.aload 4, 2) := by decide +kernel
theorem dR_readPage_111 : decode kR_readPage 111 = .ok (.invokevirtual 108, 3) := by decide +kernel
theorem dR_readPage_114 : decode kR_readPage 114 = .ok (.aload_n 0, 1) := by decide +kernel
theorem dR_readPage_115 : decode kR_readPage 115 = .ok (.iconst 4, 1) := by decide +kernel
theorem dR_readPage_116 : decode kR_readPage 116 = .ok (.aload 4, 2) := by decide +kernel
theorem dR_readPage_118 : decode kR_readPage 118 = .ok (.getfield 112, 3) := by decide +kernel
theorem dR_readPage_121 : decode kR_readPage 121 = .ok (.iload_n 3, 1) := by decide +kernel
theorem dR_readPage_122 : decode kR_readPage 122 = .ok (.invokevirtual 96, 3) := by decide +kernel
theorem dR_readPage_125 : decode kR_readPage 125 = .ok (.pop, 1) := by decide +kernel
theorem dR_readPage_126 : decode kR_readPage 126 = .ok (.aload 4, 2) := by decide +kernel
theorem dR_readPage_128 : decode kR_readPage 128 = .ok (.iconst 0, 1) := by decide +kernel
theorem dR_readPage_129 : decode kR_readPage 129 = .ok (.putfield 115, 3) := by decide +kernel
theorem dR_readPage_132 : decode kR_readPage 132 = .ok (.return_, 1) := by decide +kernel
def wp_R_readPage (θ : TH) (a0 : Nat) (x1 : Int32) (V : VT) (U : UT) (K : VT → UT → Prop) : Prop := isO θ a0 6 ∧ (U a0 0) ≠ 0 ∧ isO θ (U a0 0) 1 ∧ ∀ y_4 : Int32, y_4 = (V (U a0 0) 2) → ∀ V_5 : VT, V_5 = up2 V (U a0 0) 2 (y_4 + x1) → ∀ V_6 : VT, V_6 = up2 V_5 a0 4 (0 : Int32) → ∀ V_7 : VT, V_7 = up2 V_6 a0 5 (0 : Int32) → wp_W_at θ (U a0 0) (y_4 + (5 : Int32)) V_7 U (fun r_10 V_8 U_9 => wp_R_inboxOf θ a0 r_10 V_8 U_9 (fun r_13 V_11 U_12 => ((¬ r_13 = 0 → (U_12 a0 0) ≠ 0 ∧ isO θ (U_12 a0 0) 1 ∧ wp_W_at θ (U_12 a0 0) (y_4 + (4 : Int32)) V_11 U_12 (fun r_19 V_16 U_17 => (U_17 a0 0) ≠ 0 ∧ isO θ (U_17 a0 0) 1 ∧ wp_W_at θ (U_17 a0 0) (y_4 + (6 : Int32)) V_16 U_17 (fun r_24 V_21 U_22 => wp_R_enter θ a0 r_13 r_10 r_19 r_24 V_21 U_22 (fun V_25 U_26 => wp_R_takeSegments θ a0 r_13 y_4 r_19 V_25 U_26 (fun V_27 U_28 => (((r_19 &&& (4 : Int32)) = 0 → K V_27 U_28) ∧ (¬ (r_19 &&& (4 : Int32)) = 0 → wp_R_drop θ a0 r_13 V_27 U_28 (fun V_30 U_31 => isO θ r_13 4 ∧ wp_R_makeEvent θ a0 (4 : Int32) (V_30 r_13 3) r_10 V_30 U_31 (fun r_35 V_33 U_34 => r_35 ≠ 0 ∧ ∀ V_37 : VT, V_37 = up2 V_33 r_13 0 (0 : Int32) → K V_37 U_34))))))))) ∧ (r_13 = 0 → wp_R_makeEvent θ a0 (5 : Int32) x1 r_10 V_11 U_12 (fun r_40 V_38 U_39 => r_40 ≠ 0 ∧ K V_38 U_39)))))
set_option maxRecDepth 100000 in
set_option maxHeartbeats 4000000 in
theorem c_R_readPage (l : Launch) (θ : TH) (a0 : Nat) (x1 : Int32) (V : VT) (U : UT) (K : VT → UT → Prop) (hw : wp_R_readPage θ a0 x1 V U K) : CMv l yR_readPage kR_readPage 6 none rmR_readPage θ [.ref a0, .int x1] V U K := by
  refine g_met nRR (by decide +kernel) rfl (Nat.le_of_ble_eq_true rfl) (fun p e s m args below meth c ls hC hr hlk hwo hl => ?_)
  have hx := hC.1
  have hb := hC.2.1
  have hS : Sx θ s s.heap [] := va_S.rf
  have hl : lv_has ls 6 [(0, .ref a0), (1, .int x1)] := hl
  unfold wp_R_readPage at hw
  refine lv_aload_n hx hb dR_readPage_0 rfl (lv_at hl 0 rfl) ?_
  obtain ⟨ho_1, hw⟩ := hw
  obtain ⟨hz_2, hw⟩ := hw
  refine g_getR hC fkR_28 rfl hwo ho_1 hz_2 dR_readPage_1 ?_
  obtain ⟨ho_3, hw⟩ := hw
  refine g_getI hC fkR_48 rfl hwo ho_3 dR_readPage_4 ?_
  refine lv_topi (fun y_4 ey_4 => ?_)
  replace hw := hw y_4 ey_4
  refine lv_istore_n (i := 2) (lv' := [(2, .int y_4), (0, .ref a0), (1, .int x1)]) hx hb dR_readPage_7 rfl hl (by decide) rfl (fun ls hl => ?_)
  refine lv_aload_n hx hb dR_readPage_8 rfl (lv_at hl 1 rfl) ?_
  refine g_getR hC fkR_28 rfl hwo ho_1 hz_2 dR_readPage_9 ?_
  refine lv_iload_n hx hb dR_readPage_12 rfl (lv_at hl 0 rfl) ?_
  refine lv_iload_n hx hb dR_readPage_13 rfl (lv_at hl 2 rfl) ?_
  refine lv_iadd hx hb dR_readPage_14 ?_
  refine g_putI hC fkR_48 rfl hwo hS ho_3 dR_readPage_15 (fun V_5 eV_5 H locs hwo hS => ?_)
  replace hw := hw V_5 eV_5
  refine lv_aload_n hx hb dR_readPage_18 rfl (lv_at hl 1 rfl) ?_
  refine lv_iconst (v := 0) hx hb dR_readPage_19 (by decide) ?_
  refine g_putI hC fkR_41 rfl hwo hS ho_1 dR_readPage_20 (fun V_6 eV_6 H locs hwo hS => ?_)
  replace hw := hw V_6 eV_6
  refine lv_aload_n hx hb dR_readPage_23 rfl (lv_at hl 1 rfl) ?_
  refine lv_iconst (v := 0) hx hb dR_readPage_24 (by decide) ?_
  refine g_putI hC fkR_37 rfl hwo hS ho_1 dR_readPage_25 (fun V_7 eV_7 H locs hwo hS => ?_)
  replace hw := hw V_7 eV_7
  refine lv_aload_n hx hb dR_readPage_28 rfl (lv_at hl 1 rfl) ?_
  refine g_getR hC fkR_28 rfl hwo ho_1 hz_2 dR_readPage_29 ?_
  refine lv_iload_n hx hb dR_readPage_32 rfl (lv_at hl 0 rfl) ?_
  refine lv_iconst (v := 5) hx hb dR_readPage_33 (by decide) ?_
  refine lv_iadd hx hb dR_readPage_34 ?_
  refine g_Vi (rest := []) hC (c_W_at l θ _ _ _ _ _ hw) mi_W_at mlR_89 mv_W_at ci_1 ho_3 hwo hS ⟨rfl, rfl⟩ ⟨by decide, by decide⟩ rfl hl.1 rfl (Nat.le_of_ble_eq_true rfl) dR_readPage_35 (fun r_10 V_8 U_9 hw H locs hwo hS => ?_)
  refine lv_istore_n (i := 3) (lv' := [(3, .int r_10), (2, .int y_4), (0, .ref a0), (1, .int x1)]) hx hb dR_readPage_38 rfl hl (by decide) rfl (fun ls hl => ?_)
  refine lv_aload_n hx hb dR_readPage_39 rfl (lv_at hl 2 rfl) ?_
  refine lv_iload_n hx hb dR_readPage_40 rfl (lv_at hl 0 rfl) ?_
  refine g_Vr (rest := []) hC (c_R_inboxOf l θ _ _ _ _ _ hw) mi_R_inboxOf mlR_92 mv_R_inboxOf ci_6 ho_1 hwo hS ⟨rfl, rfl⟩ ⟨by decide, by decide⟩ rfl hl.1 rfl (Nat.le_of_ble_eq_true rfl) dR_readPage_41 (fun r_13 V_11 U_12 hw H locs hwo hS => ?_)
  refine g_astoreq (lv' := [(4, vr r_13), (3, .int r_10), (2, .int y_4), (0, .ref a0), (1, .int x1)]) hC dR_readPage_44 hl (by decide) rfl (fun ls hl => ?_)
  refine g_aloadq hC dR_readPage_46 (lv_at hl 0 rfl) ?_
  refine g_ifnonnull hC dR_readPage_48 (tgt := 60) (by decide) (fun hc_14 => ?_) (fun hc_14 => ?_)
  · replace hw := hw.1 hc_14
    refine lv_aload_n hx hb dR_readPage_60 rfl (lv_at hl 3 rfl) ?_
    obtain ⟨hz_15, hw⟩ := hw
    refine g_getR hC fkR_28 rfl hwo ho_1 hz_15 dR_readPage_61 ?_
    refine lv_iload_n hx hb dR_readPage_64 rfl (lv_at hl 2 rfl) ?_
    refine lv_iconst (v := 4) hx hb dR_readPage_65 (by decide) ?_
    refine lv_iadd hx hb dR_readPage_66 ?_
    obtain ⟨ho_18, hw⟩ := hw
    refine g_Vi (rest := []) hC (c_W_at l θ _ _ _ _ _ hw) mi_W_at mlR_89 mv_W_at ci_1 ho_18 hwo hS ⟨rfl, rfl⟩ ⟨by decide, by decide⟩ rfl hl.1 rfl (Nat.le_of_ble_eq_true rfl) dR_readPage_67 (fun r_19 V_16 U_17 hw H locs hwo hS => ?_)
    refine lv_istore (i := 5) (lv' := [(5, .int r_19), (4, vr r_13), (3, .int r_10), (2, .int y_4), (0, .ref a0), (1, .int x1)]) hx hb dR_readPage_70 hl (by decide) (by simp [vr_cat]) (fun ls hl => ?_)
    refine lv_aload_n hx hb dR_readPage_72 rfl (lv_at hl 4 rfl) ?_
    refine lv_aload hx hb dR_readPage_73 (by rw [← vr_pos hc_14]; exact lv_at hl 1 rfl) ?_
    refine lv_iload_n hx hb dR_readPage_75 rfl (lv_at hl 2 rfl) ?_
    refine lv_iload hx hb dR_readPage_76 (lv_at hl 0 rfl) ?_
    refine lv_aload_n hx hb dR_readPage_78 rfl (lv_at hl 4 rfl) ?_
    obtain ⟨hz_20, hw⟩ := hw
    refine g_getR hC fkR_28 rfl hwo ho_1 hz_20 dR_readPage_79 ?_
    refine lv_iload_n hx hb dR_readPage_82 rfl (lv_at hl 3 rfl) ?_
    refine lv_bipush (v := 6) hx hb dR_readPage_83 (by decide) ?_
    refine lv_iadd hx hb dR_readPage_85 ?_
    obtain ⟨ho_23, hw⟩ := hw
    refine g_Vi (rest := [.int r_19, .int r_10, .ref r_13, .ref a0]) hC (c_W_at l θ _ _ _ _ _ hw) mi_W_at mlR_89 mv_W_at ci_1 ho_23 hwo hS ⟨rfl, rfl⟩ ⟨by decide, by decide⟩ rfl hl.1 rfl (Nat.le_of_ble_eq_true rfl) dR_readPage_86 (fun r_24 V_21 U_22 hw H locs hwo hS => ?_)
    refine g_Vv (rest := []) hC (c_R_enter l θ _ _ _ _ _ _ _ _ hw) mi_R_enter mlR_100 mv_R_enter ci_6 ho_1 hwo hS ⟨rfl, rfl⟩ ⟨by decide, by decide⟩ rfl hl.1 rfl (Nat.le_of_ble_eq_true rfl) dR_readPage_89 (fun V_25 U_26 hw H locs hwo hS => ?_)
    refine lv_aload_n hx hb dR_readPage_92 rfl (lv_at hl 4 rfl) ?_
    refine lv_aload hx hb dR_readPage_93 (by rw [← vr_pos hc_14]; exact lv_at hl 1 rfl) ?_
    refine lv_iload_n hx hb dR_readPage_95 rfl (lv_at hl 3 rfl) ?_
    refine lv_iload hx hb dR_readPage_96 (lv_at hl 0 rfl) ?_
    refine g_Vv (rest := []) hC (c_R_takeSegments l θ _ _ _ _ _ _ _ hw) mi_R_takeSegments mlR_104 mv_R_takeSegments ci_6 ho_1 hwo hS ⟨rfl, rfl⟩ ⟨by decide, by decide⟩ rfl hl.1 rfl (Nat.le_of_ble_eq_true rfl) dR_readPage_98 (fun V_27 U_28 hw H locs hwo hS => ?_)
    refine lv_iload hx hb dR_readPage_101 (lv_at hl 0 rfl) ?_
    refine lv_iconst (v := 4) hx hb dR_readPage_103 (by decide) ?_
    refine lv_iand hx hb dR_readPage_104 ?_
    refine lv_if_eq (tgt := 132) hx hb dR_readPage_105 (by decide) (fun hc_29 => ?_) (fun hc_29 => ?_)
    · replace hw := hw.1 hc_29
      exact g_vret hC hr hlk hw hwo hS dR_readPage_132
    · replace hw := hw.2 hc_29
      refine lv_aload_n hx hb dR_readPage_108 rfl (lv_at hl 4 rfl) ?_
      refine lv_aload hx hb dR_readPage_109 (by rw [← vr_pos hc_14]; exact lv_at hl 1 rfl) ?_
      refine g_Vv (rest := []) hC (c_R_drop l θ _ _ _ _ _ hw) mi_R_drop mlR_108 mv_R_drop ci_6 ho_1 hwo hS ⟨rfl, rfl⟩ ⟨by decide, by decide⟩ rfl hl.1 rfl (Nat.le_of_ble_eq_true rfl) dR_readPage_111 (fun V_30 U_31 hw H locs hwo hS => ?_)
      refine lv_aload_n hx hb dR_readPage_114 rfl (lv_at hl 4 rfl) ?_
      refine lv_iconst (v := 4) hx hb dR_readPage_115 (by decide) ?_
      refine lv_aload hx hb dR_readPage_116 (by rw [← vr_pos hc_14]; exact lv_at hl 1 rfl) ?_
      obtain ⟨ho_32, hw⟩ := hw
      refine g_getI hC fkR_112 rfl hwo ho_32 dR_readPage_118 ?_
      refine lv_iload_n hx hb dR_readPage_121 rfl (lv_at hl 2 rfl) ?_
      refine g_Vr (rest := []) hC (c_R_makeEvent l θ _ _ _ _ _ _ _ hw) mi_R_makeEvent mlR_96 mv_R_makeEvent ci_6 ho_1 hwo hS ⟨rfl, rfl⟩ ⟨by decide, by decide⟩ rfl hl.1 rfl (Nat.le_of_ble_eq_true rfl) dR_readPage_122 (fun r_35 V_33 U_34 hw H locs hwo hS => ?_)
      obtain ⟨hz_36, hw⟩ := hw
      refine g_nn hz_36 ?_
      refine lv_pop hx hb dR_readPage_125 rfl ?_
      refine lv_aload hx hb dR_readPage_126 (by rw [← vr_pos hc_14]; exact lv_at hl 1 rfl) ?_
      refine lv_iconst (v := 0) hx hb dR_readPage_128 (by decide) ?_
      refine g_putZ hC fkR_115 rfl hwo hS ho_32 (Or.inl rfl) dR_readPage_129 (fun V_37 eV_37 H locs hwo hS => ?_)
      replace hw := hw V_37 eV_37
      exact g_vret hC hr hlk hw hwo hS dR_readPage_132
  · replace hw := hw.2 hc_14
    refine lv_aload_n hx hb dR_readPage_51 rfl (lv_at hl 3 rfl) ?_
    refine lv_iconst (v := 5) hx hb dR_readPage_52 (by decide) ?_
    refine lv_iload_n hx hb dR_readPage_53 rfl (lv_at hl 4 rfl) ?_
    refine lv_iload_n hx hb dR_readPage_54 rfl (lv_at hl 1 rfl) ?_
    refine g_Vr (rest := []) hC (c_R_makeEvent l θ _ _ _ _ _ _ _ hw) mi_R_makeEvent mlR_96 mv_R_makeEvent ci_6 ho_1 hwo hS ⟨rfl, rfl⟩ ⟨by decide, by decide⟩ rfl hl.1 rfl (Nat.le_of_ble_eq_true rfl) dR_readPage_55 (fun r_40 V_38 U_39 hw H locs hwo hS => ?_)
    obtain ⟨hz_41, hw⟩ := hw
    refine g_nn hz_41 ?_
    refine lv_pop hx hb dR_readPage_58 rfl ?_
    exact g_vret hC hr hlk hw hwo hS dR_readPage_59
theorem dR_advance_0 : decode kR_advance 0 = .ok (.iconst 0, 1) := by decide +kernel
theorem dR_advance_1 : decode kR_advance 1 = .ok (.istore_n 1, 1) := by decide +kernel
theorem dR_advance_2 : decode kR_advance 2 = .ok (.iload_n 1, 1) := by decide +kernel
theorem dR_advance_3 : decode kR_advance 3 = .ok (.sipush 1000, 3) := by decide +kernel
theorem dR_advance_6 : decode kR_advance 6 = .ok (.if_icmp .gt 61, 3) := by decide +kernel
theorem dR_advance_9 : decode kR_advance 9 = .ok (.aload_n 0, 1) := by decide +kernel
theorem dR_advance_10 : decode kR_advance 10 = .ok (.getfield 37, 3) := by decide +kernel
theorem dR_advance_13 : decode kR_advance 13 = .ok (.aload_n 0, 1) := by decide +kernel
theorem dR_advance_14 : decode kR_advance 14 = .ok (.getfield 41, 3) := by decide +kernel
theorem dR_advance_17 : decode kR_advance 17 = .ok (.if_icmp .ge 8, 3) := by decide +kernel
theorem dR_advance_20 : decode kR_advance 20 = .ok (.aload_n 0, 1) := by decide +kernel
theorem dR_advance_21 : decode kR_advance 21 = .ok (.invokevirtual 44, 3) := by decide +kernel
theorem dR_advance_24 : decode kR_advance 24 = .ok (.ireturn, 1) := by decide +kernel
theorem dR_advance_25 : decode kR_advance 25 = .ok (.aload_n 0, 1) := by decide +kernel
theorem dR_advance_26 : decode kR_advance 26 = .ok (.getfield 28, 3) := by decide +kernel
theorem dR_advance_29 : decode kR_advance 29 = .ok (.aload_n 0, 1) := by decide +kernel
theorem dR_advance_30 : decode kR_advance 30 = .ok (.getfield 28, 3) := by decide +kernel
theorem dR_advance_33 : decode kR_advance 33 = .ok (.getfield 48, 3) := by decide +kernel
theorem dR_advance_36 : decode kR_advance 36 = .ok (.invokevirtual 53, 3) := by decide +kernel
theorem dR_advance_39 : decode kR_advance 39 = .ok (.istore_n 2, 1) := by decide +kernel
theorem dR_advance_40 : decode kR_advance 40 = .ok (.iload_n 2, 1) := by decide +kernel
theorem dR_advance_41 : decode kR_advance 41 = .ok (.ifCond .ne 5, 3) := by decide +kernel
theorem dR_advance_44 : decode kR_advance 44 = .ok (.iconst 0, 1) := by decide +kernel
theorem dR_advance_45 : decode kR_advance 45 = .ok (.ireturn, 1) := by decide +kernel
theorem dR_advance_46 : decode kR_advance 46 = .ok (.iload_n 2, 1) := by decide +kernel
theorem dR_advance_47 : decode kR_advance 47 = .ok (.iconst (-1), 1) := by decide +kernel
theorem dR_advance_48 : decode kR_advance 48 = .ok (.if_icmp .ne 8, 3) := by decide +kernel
theorem dR_advance_51 : decode kR_advance 51 = .ok (.aload_n 0, 1) := by decide +kernel
theorem dR_advance_52 : decode kR_advance 52 = .ok (.invokevirtual 57, 3) := by decide +kernel
theorem dR_advance_55 : decode kR_advance 55 = .ok (.ireturn, 1) := by decide +kernel
theorem dR_advance_56 : decode kR_advance 56 = .ok (.aload_n 0, 1) := by decide +kernel
theorem dR_advance_57 : decode kR_advance 57 = .ok (.iload_n 2, 1) := by decide +kernel
theorem dR_advance_58 : decode kR_advance 58 = .ok (.invokevirtual 60, 3) := by decide +kernel
theorem dR_advance_61 : decode kR_advance 61 = .ok (.iinc 1 1, 3) := by decide +kernel
theorem dR_advance_64 : decode kR_advance 64 = .ok (.goto (-62), 3) := by decide +kernel
theorem dR_advance_67 : decode kR_advance 67 = .ok (.iconst 0, 1) := by decide +kernel
theorem dR_advance_68 : decode kR_advance 68 = .ok (.ireturn, 1) := by decide +kernel
def bl_R_advance_2 (θ : TH) (a0_2 : Nat) (K : Int32 → VT → UT → Prop) (kb2 : Int32 → VT → UT → Prop) (x1_2 : Int32) (V : VT) (U : UT) : Prop := (((1000 : Int32) < x1_2 → K (0 : Int32) V U) ∧ (¬ (1000 : Int32) < x1_2 → isO θ a0_2 6 ∧ (((V a0_2 4) ≤ (V a0_2 5) → (U a0_2 0) ≠ 0 ∧ isO θ (U a0_2 0) 1 ∧ wp_W_pageAt θ (U a0_2 0) (V (U a0_2 0) 2) V U (fun r_8 V_6 U_7 => ((¬ r_8 = 0 → ((¬ r_8 = (-1 : Int32) → wp_R_readPage θ a0_2 r_8 V_6 U_7 (fun V_11 U_12 => ∀ y_13 : Int32, y_13 = x1_2 + (1 : Int32) → kb2 y_13 V_11 U_12)) ∧ (r_8 = (-1 : Int32) → wp_R_skip θ a0_2 V_6 U_7 (fun r_16 V_14 U_15 => K r_16 V_14 U_15)))) ∧ (r_8 = 0 → K (0 : Int32) V_6 U_7)))) ∧ (¬ (V a0_2 4) ≤ (V a0_2 5) → wp_R_give θ a0_2 V U (fun r_19 V_17 U_18 => K r_19 V_17 U_18)))))
def wl_R_advance_2 (θ : TH) (a0_2 : Nat) (K : Int32 → VT → UT → Prop) : Nat → Int32 → VT → UT → Prop
  | 0, _, _, _ => False
  | n + 1, x1_2, V, U => bl_R_advance_2 θ a0_2 K (wl_R_advance_2 θ a0_2 K n) x1_2 V U
def wp_R_advance (θ : TH) (a0 : Nat) (V : VT) (U : UT) (K : Int32 → VT → UT → Prop) : Prop := ∃ n, wl_R_advance_2 θ a0 K n (0 : Int32) V U
set_option maxRecDepth 100000 in
set_option maxHeartbeats 4000000 in
theorem c_R_advance (l : Launch) (θ : TH) (a0 : Nat) (V : VT) (U : UT) (K : Int32 → VT → UT → Prop) (hw : wp_R_advance θ a0 V U K) : CMi l yR_advance kR_advance 3 (some .int) rmR_advance θ [.ref a0] V U K := by
  refine g_met nRR (by decide +kernel) rfl (Nat.le_of_ble_eq_true rfl) (fun p e s m args below meth c ls hC hr hlk hwo hl => ?_)
  have hx := hC.1
  have hb := hC.2.1
  have hS : Sx θ s s.heap [] := va_S.rf
  have hl : lv_has ls 3 [(0, .ref a0)] := hl
  have L2 : ∀ (a0_2 : Nat) (n2 : Nat) (x1_2 : Int32) (V : VT) (U : UT) (H : Heap) (locs : List Loc) (ls : Array Slot), wl_R_advance_2 θ a0_2 K n2 x1_2 V U → wo θ V U H → Sx θ s H locs → lv_has ls 3 [(0, .ref a0_2), (1, .int x1_2)] → W p l e rmR_advance s m args below meth c H locs 0 0 (MQ below (QI θ K) args s 0 0 (aT θ)) (F0 m 2 ls []) := by
    intro a0_2 n2
    induction n2 with
    | zero => intro x1_2 V U H locs ls hw hwo hS hl; exact (show False from hw).elim
    | succ n2 ih2 =>
      intro x1_2 V U H locs ls hw hwo hS hl
      replace hw : bl_R_advance_2 θ a0_2 K (wl_R_advance_2 θ a0_2 K n2) x1_2 V U := hw
      unfold bl_R_advance_2 at hw
      refine lv_iload_n hx hb dR_advance_2 rfl (lv_at hl 1 rfl) ?_
      refine lv_sipush (v := 1000) hx hb dR_advance_3 (by decide) ?_
      refine lv_icmp_gt (tgt := 67) hx hb dR_advance_6 (by decide) (fun hc_1 => ?_) (fun hc_1 => ?_)
      · replace hw := hw.1 hc_1
        refine lv_iconst (v := 0) hx hb dR_advance_67 (by decide) ?_
        exact g_iret hC hr hlk hw hwo hS dR_advance_68
      · replace hw := hw.2 hc_1
        refine lv_aload_n hx hb dR_advance_9 rfl (lv_at hl 0 rfl) ?_
        obtain ⟨ho_2, hw⟩ := hw
        refine g_getI hC fkR_37 rfl hwo ho_2 dR_advance_10 ?_
        refine lv_aload_n hx hb dR_advance_13 rfl (lv_at hl 0 rfl) ?_
        refine g_getI hC fkR_41 rfl hwo ho_2 dR_advance_14 ?_
        refine lv_icmp_ge (tgt := 25) hx hb dR_advance_17 (by decide) (fun hc_3 => ?_) (fun hc_3 => ?_)
        · replace hw := hw.1 hc_3
          refine lv_aload_n hx hb dR_advance_25 rfl (lv_at hl 0 rfl) ?_
          obtain ⟨hz_4, hw⟩ := hw
          refine g_getR hC fkR_28 rfl hwo ho_2 hz_4 dR_advance_26 ?_
          refine lv_aload_n hx hb dR_advance_29 rfl (lv_at hl 0 rfl) ?_
          refine g_getR hC fkR_28 rfl hwo ho_2 hz_4 dR_advance_30 ?_
          obtain ⟨ho_5, hw⟩ := hw
          refine g_getI hC fkR_48 rfl hwo ho_5 dR_advance_33 ?_
          refine g_Vi (rest := []) hC (c_W_pageAt l θ _ _ _ _ _ hw) mi_W_pageAt mlR_53 mv_W_pageAt ci_1 ho_5 hwo hS ⟨rfl, rfl⟩ ⟨by decide, by decide⟩ rfl hl.1 rfl (Nat.le_of_ble_eq_true rfl) dR_advance_36 (fun r_8 V_6 U_7 hw H locs hwo hS => ?_)
          refine lv_istore_n (i := 2) (lv' := [(2, .int r_8), (0, .ref a0_2), (1, .int x1_2)]) hx hb dR_advance_39 rfl hl (by decide) rfl (fun ls hl => ?_)
          refine lv_iload_n hx hb dR_advance_40 rfl (lv_at hl 0 rfl) ?_
          refine lv_if_ne (tgt := 46) hx hb dR_advance_41 (by decide) (fun hc_9 => ?_) (fun hc_9 => ?_)
          · replace hw := hw.1 hc_9
            refine lv_iload_n hx hb dR_advance_46 rfl (lv_at hl 0 rfl) ?_
            refine lv_iconst (v := -1) hx hb dR_advance_47 (by decide) ?_
            refine lv_icmp_ne (tgt := 56) hx hb dR_advance_48 (by decide) (fun hc_10 => ?_) (fun hc_10 => ?_)
            · replace hw := hw.1 hc_10
              refine lv_aload_n hx hb dR_advance_56 rfl (lv_at hl 1 rfl) ?_
              refine lv_iload_n hx hb dR_advance_57 rfl (lv_at hl 0 rfl) ?_
              refine g_Vv (rest := []) hC (c_R_readPage l θ _ _ _ _ _ hw) mi_R_readPage mlR_60 mv_R_readPage ci_6 ho_2 hwo hS ⟨rfl, rfl⟩ ⟨by decide, by decide⟩ rfl hl.1 rfl (Nat.le_of_ble_eq_true rfl) dR_advance_58 (fun V_11 U_12 hw H locs hwo hS => ?_)
              obtain ⟨y_13, ey_13⟩ : ∃ z : Int32, z = x1_2 + (1 : Int32) := ⟨_, rfl⟩
              replace hw := hw y_13 ey_13
              refine lv_iinc (k := 2) (v := y_13) (lv' := [(1, .int y_13), (2, .int r_8), (0, .ref a0_2)]) hx hb dR_advance_61 hl rfl (by rw [ey_13]; rfl) (by decide) rfl (fun ls hl => ?_)
              refine lv_goto (tgt := 2) hx hb dR_advance_64 (by decide) ?_
              exact ih2 _ _ _ _ _ _ hw hwo hS (lv_sub hl [2, 0] rfl)
            · replace hw := hw.2 hc_10
              refine lv_aload_n hx hb dR_advance_51 rfl (lv_at hl 1 rfl) ?_
              refine g_Vi (rest := []) hC (c_R_skip l θ _ _ _ _ hw) mi_R_skip mlR_57 mv_R_skip ci_6 ho_2 hwo hS ⟨rfl, rfl⟩ ⟨by decide, by decide⟩ rfl hl.1 rfl (Nat.le_of_ble_eq_true rfl) dR_advance_52 (fun r_16 V_14 U_15 hw H locs hwo hS => ?_)
              exact g_iret hC hr hlk hw hwo hS dR_advance_55
          · replace hw := hw.2 hc_9
            refine lv_iconst (v := 0) hx hb dR_advance_44 (by decide) ?_
            exact g_iret hC hr hlk hw hwo hS dR_advance_45
        · replace hw := hw.2 hc_3
          refine lv_aload_n hx hb dR_advance_20 rfl (lv_at hl 0 rfl) ?_
          refine g_Vi (rest := []) hC (c_R_give l θ _ _ _ _ hw) mi_R_give mlR_44 mv_R_give ci_6 ho_2 hwo hS ⟨rfl, rfl⟩ ⟨by decide, by decide⟩ rfl hl.1 rfl (Nat.le_of_ble_eq_true rfl) dR_advance_21 (fun r_19 V_17 U_18 hw H locs hwo hS => ?_)
          exact g_iret hC hr hlk hw hwo hS dR_advance_24
  unfold wp_R_advance at hw
  refine lv_iconst (v := 0) hx hb dR_advance_0 (by decide) ?_
  refine lv_istore_n (i := 1) (lv' := [(1, .int (0 : Int32)), (0, .ref a0)]) hx hb dR_advance_1 rfl hl (by decide) rfl (fun ls hl => ?_)
  obtain ⟨n, hw⟩ := hw
  exact L2 _ n _ _ _ _ _ _ hw hwo hS (lv_sub hl [1, 0] rfl)
