theorem dK_clear_0 : decode kK_clear 0 = .ok (.aload_n 0, 1) := by decide +kernel
theorem dK_clear_1 : decode kK_clear 1 = .ok (.iconst 0, 1) := by decide +kernel
theorem dK_clear_2 : decode kK_clear 2 = .ok (.putfield 15, 3) := by decide +kernel
theorem dK_clear_5 : decode kK_clear 5 = .ok (.aload_n 0, 1) := by decide +kernel
theorem dK_clear_6 : decode kK_clear 6 = .ok (.iconst 0, 1) := by decide +kernel
theorem dK_clear_7 : decode kK_clear 7 = .ok (.putfield 19, 3) := by decide +kernel
theorem dK_clear_10 : decode kK_clear 10 = .ok (.return_, 1) := by decide +kernel
def wp_K_clear (θ : TH) (a0 : Nat) (V : VT) (U : UT) (K : VT → UT → Prop) : Prop := isO θ a0 3 ∧ ∀ V_2 : VT, V_2 = up2 V a0 1 (0 : Int32) → ∀ V_3 : VT, V_3 = up2 V_2 a0 2 (0 : Int32) → K V_3 U
set_option maxRecDepth 100000 in
set_option maxHeartbeats 4000000 in
theorem c_K_clear (l : Launch) (θ : TH) (a0 : Nat) (V : VT) (U : UT) (K : VT → UT → Prop) (hw : wp_K_clear θ a0 V U K) : CMv l yK_clear kK_clear 1 none rmK_clear θ [.ref a0] V U K := by
  refine g_met nRK (by decide +kernel) rfl (Nat.le_of_ble_eq_true rfl) (fun p e s m args below meth c ls hC hr hlk hwo hl => ?_)
  have hx := hC.1
  have hb := hC.2.1
  have hS : Sx θ s s.heap [] := va_S.rf
  have hl : lv_has ls 1 [(0, .ref a0)] := hl
  unfold wp_K_clear at hw
  refine lv_aload_n hx hb dK_clear_0 rfl (lv_at hl 0 rfl) ?_
  refine lv_iconst (v := 0) hx hb dK_clear_1 (by decide) ?_
  obtain ⟨ho_1, hw⟩ := hw
  refine g_putI hC fkK_15 rfl hwo hS ho_1 dK_clear_2 (fun V_2 eV_2 H locs hwo hS => ?_)
  replace hw := hw V_2 eV_2
  refine lv_aload_n hx hb dK_clear_5 rfl (lv_at hl 0 rfl) ?_
  refine lv_iconst (v := 0) hx hb dK_clear_6 (by decide) ?_
  refine g_putI hC fkK_19 rfl hwo hS ho_1 dK_clear_7 (fun V_3 eV_3 H locs hwo hS => ?_)
  replace hw := hw V_3 eV_3
  exact g_vret hC hr hlk hw hwo hS dK_clear_10
theorem dK_extend_0 : decode kK_extend 0 = .ok (.aload_n 0, 1) := by decide +kernel
theorem dK_extend_1 : decode kK_extend 1 = .ok (.getfield 15, 3) := by decide +kernel
theorem dK_extend_4 : decode kK_extend 4 = .ok (.bipush 64, 2) := by decide +kernel
theorem dK_extend_6 : decode kK_extend 6 = .ok (.if_icmp .ge 33, 3) := by decide +kernel
theorem dK_extend_9 : decode kK_extend 9 = .ok (.aload_n 0, 1) := by decide +kernel
theorem dK_extend_10 : decode kK_extend 10 = .ok (.getfield 11, 3) := by decide +kernel
theorem dK_extend_13 : decode kK_extend 13 = .ok (.aload_n 0, 1) := by decide +kernel
theorem dK_extend_14 : decode kK_extend 14 = .ok (.getfield 15, 3) := by decide +kernel
theorem dK_extend_17 : decode kK_extend 17 = .ok (.iload_n 1, 1) := by decide +kernel
theorem dK_extend_18 : decode kK_extend 18 = .ok (.iastore, 1) := by decide +kernel
theorem dK_extend_19 : decode kK_extend 19 = .ok (.aload_n 0, 1) := by decide +kernel
theorem dK_extend_20 : decode kK_extend 20 = .ok (.dup, 1) := by decide +kernel
theorem dK_extend_21 : decode kK_extend 21 = .ok (.getfield 15, 3) := by decide +kernel
theorem dK_extend_24 : decode kK_extend 24 = .ok (.iconst 1, 1) := by decide +kernel
theorem dK_extend_25 : decode kK_extend 25 = .ok (.iadd, 1) := by decide +kernel
theorem dK_extend_26 : decode kK_extend 26 = .ok (.putfield 15, 3) := by decide +kernel
theorem dK_extend_29 : decode kK_extend 29 = .ok (.aload_n 0, 1) := by decide +kernel
theorem dK_extend_30 : decode kK_extend 30 = .ok (.dup, 1) := by decide +kernel
theorem dK_extend_31 : decode kK_extend 31 = .ok (.getfield 19, 3) := by decide +kernel
theorem dK_extend_34 : decode kK_extend 34 = .ok (.iload_n 2, 1) := by decide +kernel
theorem dK_extend_35 : decode kK_extend 35 = .ok (.iadd, 1) := by decide +kernel
theorem dK_extend_36 : decode kK_extend 36 = .ok (.putfield 19, 3) := by decide +kernel
theorem dK_extend_39 : decode kK_extend 39 = .ok (.return_, 1) := by decide +kernel
def wp_K_extend (θ : TH) (a0 : Nat) (x1 : Int32) (x2 : Int32) (V : VT) (U : UT) (K : VT → UT → Prop) : Prop := isO θ a0 3 ∧ (((64 : Int32) ≤ (V a0 1) → K V U) ∧ (¬ (64 : Int32) ≤ (V a0 1) → (U a0 0) ≠ 0 ∧ ∃ n_4, isA θ (U a0 0) 0 n_4 ∧ vp_in (V a0 1) n_4 ∧ ∀ V_7 : VT, V_7 = up2 V (U a0 0) (V a0 1).toNatClampNeg x1 → ∀ V_8 : VT, V_8 = up2 V_7 a0 1 ((V_7 a0 1) + (1 : Int32)) → ∀ V_9 : VT, V_9 = up2 V_8 a0 2 ((V_8 a0 2) + x2) → K V_9 U))
set_option maxRecDepth 100000 in
set_option maxHeartbeats 4000000 in
theorem c_K_extend (l : Launch) (θ : TH) (a0 : Nat) (x1 : Int32) (x2 : Int32) (V : VT) (U : UT) (K : VT → UT → Prop) (hw : wp_K_extend θ a0 x1 x2 V U K) : CMv l yK_extend kK_extend 3 none rmK_extend θ [.ref a0, .int x1, .int x2] V U K := by
  refine g_met nRK (by decide +kernel) rfl (Nat.le_of_ble_eq_true rfl) (fun p e s m args below meth c ls hC hr hlk hwo hl => ?_)
  have hx := hC.1
  have hb := hC.2.1
  have hS : Sx θ s s.heap [] := va_S.rf
  have hl : lv_has ls 3 [(0, .ref a0), (1, .int x1), (2, .int x2)] := hl
  unfold wp_K_extend at hw
  refine lv_aload_n hx hb dK_extend_0 rfl (lv_at hl 0 rfl) ?_
  obtain ⟨ho_1, hw⟩ := hw
  refine g_getI hC fkK_15 rfl hwo ho_1 dK_extend_1 ?_
  refine lv_bipush (v := 64) hx hb dK_extend_4 (by decide) ?_
  refine lv_icmp_ge (tgt := 39) hx hb dK_extend_6 (by decide) (fun hc_2 => ?_) (fun hc_2 => ?_)
  · replace hw := hw.1 hc_2
    exact g_vret hC hr hlk hw hwo hS dK_extend_39
  · replace hw := hw.2 hc_2
    refine lv_aload_n hx hb dK_extend_9 rfl (lv_at hl 0 rfl) ?_
    obtain ⟨hz_3, hw⟩ := hw
    refine g_getR hC fkK_11 rfl hwo ho_1 hz_3 dK_extend_10 ?_
    refine lv_aload_n hx hb dK_extend_13 rfl (lv_at hl 0 rfl) ?_
    refine g_getI hC fkK_15 rfl hwo ho_1 dK_extend_14 ?_
    refine lv_iload_n hx hb dK_extend_17 rfl (lv_at hl 1 rfl) ?_
    obtain ⟨n_4, ha_5, hw⟩ := hw
    obtain ⟨hi_6, hw⟩ := hw
    refine g_iast hC hwo hS ha_5 hi_6 dK_extend_18 (fun V_7 eV_7 H locs hwo hS => ?_)
    replace hw := hw V_7 eV_7
    refine lv_aload_n hx hb dK_extend_19 rfl (lv_at hl 0 rfl) ?_
    refine lv_dup hx hb dK_extend_20 rfl ?_
    refine g_getI hC fkK_15 rfl hwo ho_1 dK_extend_21 ?_
    refine lv_iconst (v := 1) hx hb dK_extend_24 (by decide) ?_
    refine lv_iadd hx hb dK_extend_25 ?_
    refine g_putI hC fkK_15 rfl hwo hS ho_1 dK_extend_26 (fun V_8 eV_8 H locs hwo hS => ?_)
    replace hw := hw V_8 eV_8
    refine lv_aload_n hx hb dK_extend_29 rfl (lv_at hl 0 rfl) ?_
    refine lv_dup hx hb dK_extend_30 rfl ?_
    refine g_getI hC fkK_19 rfl hwo ho_1 dK_extend_31 ?_
    refine lv_iload_n hx hb dK_extend_34 rfl (lv_at hl 2 rfl) ?_
    refine lv_iadd hx hb dK_extend_35 ?_
    refine g_putI hC fkK_19 rfl hwo hS ho_1 dK_extend_36 (fun V_9 eV_9 H locs hwo hS => ?_)
    replace hw := hw V_9 eV_9
    exact g_vret hC hr hlk hw hwo hS dK_extend_39
theorem dK_become_0 : decode kK_become 0 = .ok (.aload_n 1, 1) := by decide +kernel
theorem dK_become_1 : decode kK_become 1 = .ok (.getfield 11, 3) := by decide +kernel
theorem dK_become_4 : decode kK_become 4 = .ok (.iconst 0, 1) := by decide +kernel
theorem dK_become_5 : decode kK_become 5 = .ok (.aload_n 0, 1) := by decide +kernel
theorem dK_become_6 : decode kK_become 6 = .ok (.getfield 11, 3) := by decide +kernel
theorem dK_become_9 : decode kK_become 9 = .ok (.iconst 0, 1) := by decide +kernel
theorem dK_become_10 : decode kK_become 10 = .ok (.aload_n 1, 1) := by decide +kernel
theorem dK_become_11 : decode kK_become 11 = .ok (.getfield 15, 3) := by decide +kernel
theorem dK_become_14 : decode kK_become 14 = .ok (.invokestatic 22, 3) := by decide +kernel
theorem dK_become_17 : decode kK_become 17 = .ok (.aload_n 0, 1) := by decide +kernel
theorem dK_become_18 : decode kK_become 18 = .ok (.aload_n 1, 1) := by decide +kernel
theorem dK_become_19 : decode kK_become 19 = .ok (.getfield 15, 3) := by decide +kernel
theorem dK_become_22 : decode kK_become 22 = .ok (.putfield 15, 3) := by decide +kernel
theorem dK_become_25 : decode kK_become 25 = .ok (.aload_n 0, 1) := by decide +kernel
theorem dK_become_26 : decode kK_become 26 = .ok (.aload_n 1, 1) := by decide +kernel
theorem dK_become_27 : decode kK_become 27 = .ok (.getfield 19, 3) := by decide +kernel
theorem dK_become_30 : decode kK_become 30 = .ok (.putfield 19, 3) := by decide +kernel
theorem dK_become_33 : decode kK_become 33 = .ok (.return_, 1) := by decide +kernel
def wp_K_become (θ : TH) (a0 : Nat) (a1 : Nat) (V : VT) (U : UT) (K : VT → UT → Prop) : Prop := isO θ a1 3 ∧ (U a1 0) ≠ 0 ∧ isO θ a0 3 ∧ (U a0 0) ≠ 0 ∧ ∃ n_5, isA θ (U a1 0) 0 n_5 ∧ ∃ n_7, isA θ (U a0 0) 0 n_7 ∧ ¬ (0 : Int32) < 0 ∧ ¬ (V a1 1) < 0 ∧ (0 : Int32).toNatClampNeg + (V a1 1).toNatClampNeg ≤ n_5 ∧ (0 : Int32).toNatClampNeg + (V a1 1).toNatClampNeg ≤ n_7 ∧ ∀ V_13 : VT, V_13 = (fun q => if q = (U a0 0) then va_cpy (V (U a1 0)) (V (U a0 0)) (0 : Int32).toNatClampNeg (0 : Int32).toNatClampNeg (V a1 1).toNatClampNeg else V q) → ∀ V_14 : VT, V_14 = up2 V_13 a0 1 (V_13 a1 1) → ∀ V_15 : VT, V_15 = up2 V_14 a0 2 (V_14 a1 2) → K V_15 U
set_option maxRecDepth 100000 in
set_option maxHeartbeats 4000000 in
theorem c_K_become (l : Launch) (θ : TH) (a0 : Nat) (a1 : Nat) (V : VT) (U : UT) (K : VT → UT → Prop) (hw : wp_K_become θ a0 a1 V U K) : CMv l yK_become kK_become 2 none rmK_become θ [.ref a0, .ref a1] V U K := by
  refine g_met nRK (by decide +kernel) rfl (Nat.le_of_ble_eq_true rfl) (fun p e s m args below meth c ls hC hr hlk hwo hl => ?_)
  have hx := hC.1
  have hb := hC.2.1
  have hS : Sx θ s s.heap [] := va_S.rf
  have hl : lv_has ls 2 [(0, .ref a0), (1, .ref a1)] := hl
  unfold wp_K_become at hw
  refine lv_aload_n hx hb dK_become_0 rfl (lv_at hl 1 rfl) ?_
  obtain ⟨ho_1, hw⟩ := hw
  obtain ⟨hz_2, hw⟩ := hw
  refine g_getR hC fkK_11 rfl hwo ho_1 hz_2 dK_become_1 ?_
  refine lv_iconst (v := 0) hx hb dK_become_4 (by decide) ?_
  refine lv_aload_n hx hb dK_become_5 rfl (lv_at hl 0 rfl) ?_
  obtain ⟨ho_3, hw⟩ := hw
  obtain ⟨hz_4, hw⟩ := hw
  refine g_getR hC fkK_11 rfl hwo ho_3 hz_4 dK_become_6 ?_
  refine lv_iconst (v := 0) hx hb dK_become_9 (by decide) ?_
  refine lv_aload_n hx hb dK_become_10 rfl (lv_at hl 1 rfl) ?_
  refine g_getI hC fkK_15 rfl hwo ho_1 dK_become_11 ?_
  obtain ⟨n_5, ha_6, hw⟩ := hw
  obtain ⟨n_7, ha_8, hw⟩ := hw
  obtain ⟨hp_9, hw⟩ := hw
  obtain ⟨hp_10, hw⟩ := hw
  obtain ⟨hp_11, hw⟩ := hw
  obtain ⟨hp_12, hw⟩ := hw
  refine g_copy hC hl.1 lkK_22 ka_copy hwo hS ha_6 ha_8 hp_9 hp_9 hp_10 hp_11 hp_12 (by decide) (Nat.le_of_ble_eq_true rfl) dK_become_14 (fun V_13 eV_13 H locs hwo hS => ?_)
  replace hw := hw V_13 eV_13
  refine lv_aload_n hx hb dK_become_17 rfl (lv_at hl 0 rfl) ?_
  refine lv_aload_n hx hb dK_become_18 rfl (lv_at hl 1 rfl) ?_
  refine g_getI hC fkK_15 rfl hwo ho_1 dK_become_19 ?_
  refine g_putI hC fkK_15 rfl hwo hS ho_3 dK_become_22 (fun V_14 eV_14 H locs hwo hS => ?_)
  replace hw := hw V_14 eV_14
  refine lv_aload_n hx hb dK_become_25 rfl (lv_at hl 0 rfl) ?_
  refine lv_aload_n hx hb dK_become_26 rfl (lv_at hl 1 rfl) ?_
  refine g_getI hC fkK_19 rfl hwo ho_1 dK_become_27 ?_
  refine g_putI hC fkK_19 rfl hwo hS ho_3 dK_become_30 (fun V_15 eV_15 H locs hwo hS => ?_)
  replace hw := hw V_15 eV_15
  exact g_vret hC hr hlk hw hwo hS dK_become_33
theorem dE_set_0 : decode kE_set 0 = .ok (.aload_n 0, 1) := by decide +kernel
theorem dE_set_1 : decode kE_set 1 = .ok (.iload_n 1, 1) := by decide +kernel
theorem dE_set_2 : decode kE_set 2 = .ok (.putfield 9, 3) := by decide +kernel
theorem dE_set_5 : decode kE_set 5 = .ok (.aload_n 0, 1) := by decide +kernel
theorem dE_set_6 : decode kE_set 6 = .ok (.iload_n 2, 1) := by decide +kernel
theorem dE_set_7 : decode kE_set 7 = .ok (.putfield 22, 3) := by decide +kernel
theorem dE_set_10 : decode kE_set 10 = .ok (.aload_n 0, 1) := by decide +kernel
theorem dE_set_11 : decode kE_set 11 = .ok (.iload_n 3, 1) := by decide +kernel
theorem dE_set_12 : decode kE_set 12 = .ok (.putfield 25, 3) := by decide +kernel
theorem dE_set_15 : decode kE_set 15 = .ok (.return_, 1) := by decide +kernel
def wp_E_set (θ : TH) (a0 : Nat) (x1 : Int32) (x2 : Int32) (x3 : Int32) (V : VT) (U : UT) (K : VT → UT → Prop) : Prop := isO θ a0 5 ∧ ∀ V_2 : VT, V_2 = up2 V a0 0 x1 → ∀ V_3 : VT, V_3 = up2 V_2 a0 1 x2 → ∀ V_4 : VT, V_4 = up2 V_3 a0 2 x3 → K V_4 U
set_option maxRecDepth 100000 in
set_option maxHeartbeats 4000000 in
theorem c_E_set (l : Launch) (θ : TH) (a0 : Nat) (x1 : Int32) (x2 : Int32) (x3 : Int32) (V : VT) (U : UT) (K : VT → UT → Prop) (hw : wp_E_set θ a0 x1 x2 x3 V U K) : CMv l yE_set kE_set 4 none rmE_set θ [.ref a0, .int x1, .int x2, .int x3] V U K := by
  refine g_met nRE (by decide +kernel) rfl (Nat.le_of_ble_eq_true rfl) (fun p e s m args below meth c ls hC hr hlk hwo hl => ?_)
  have hx := hC.1
  have hb := hC.2.1
  have hS : Sx θ s s.heap [] := va_S.rf
  have hl : lv_has ls 4 [(0, .ref a0), (1, .int x1), (2, .int x2), (3, .int x3)] := hl
  unfold wp_E_set at hw
  refine lv_aload_n hx hb dE_set_0 rfl (lv_at hl 0 rfl) ?_
  refine lv_iload_n hx hb dE_set_1 rfl (lv_at hl 1 rfl) ?_
  obtain ⟨ho_1, hw⟩ := hw
  refine g_putI hC fkE_9 rfl hwo hS ho_1 dE_set_2 (fun V_2 eV_2 H locs hwo hS => ?_)
  replace hw := hw V_2 eV_2
  refine lv_aload_n hx hb dE_set_5 rfl (lv_at hl 0 rfl) ?_
  refine lv_iload_n hx hb dE_set_6 rfl (lv_at hl 2 rfl) ?_
  refine g_putI hC fkE_22 rfl hwo hS ho_1 dE_set_7 (fun V_3 eV_3 H locs hwo hS => ?_)
  replace hw := hw V_3 eV_3
  refine lv_aload_n hx hb dE_set_10 rfl (lv_at hl 0 rfl) ?_
  refine lv_iload_n hx hb dE_set_11 rfl (lv_at hl 3 rfl) ?_
  refine g_putI hC fkE_25 rfl hwo hS ho_1 dE_set_12 (fun V_4 eV_4 H locs hwo hS => ?_)
  replace hw := hw V_4 eV_4
  exact g_vret hC hr hlk hw hwo hS dE_set_15
theorem dH_load_0 : decode kH_load 0 = .ok (.aload_n 0, 1) := by decide +kernel
theorem dH_load_1 : decode kH_load 1 = .ok (.aload_n 2, 1) := by decide +kernel
theorem dH_load_2 : decode kH_load 2 = .ok (.getfield 15, 3) := by decide +kernel
theorem dH_load_5 : decode kH_load 5 = .ok (.getfield 21, 3) := by decide +kernel
theorem dH_load_8 : decode kH_load 8 = .ok (.sipush 1000, 3) := by decide +kernel
theorem dH_load_11 : decode kH_load 11 = .ok (.invokestatic 27, 3) := by decide +kernel
theorem dH_load_14 : decode kH_load 14 = .ok (.putfield 33, 3) := by decide +kernel
theorem dH_load_17 : decode kH_load 17 = .ok (.iconst 0, 1) := by decide +kernel
theorem dH_load_18 : decode kH_load 18 = .ok (.istore_n 3, 1) := by decide +kernel
theorem dH_load_19 : decode kH_load 19 = .ok (.iload_n 3, 1) := by decide +kernel
theorem dH_load_20 : decode kH_load 20 = .ok (.aload_n 0, 1) := by decide +kernel
theorem dH_load_21 : decode kH_load 21 = .ok (.getfield 33, 3) := by decide +kernel
theorem dH_load_24 : decode kH_load 24 = .ok (.if_icmp .ge 40, 3) := by decide +kernel
theorem dH_load_27 : decode kH_load 27 = .ok (.aload_n 2, 1) := by decide +kernel
theorem dH_load_28 : decode kH_load 28 = .ok (.getfield 15, 3) := by decide +kernel
theorem dH_load_31 : decode kH_load 31 = .ok (.getfield 34, 3) := by decide +kernel
theorem dH_load_34 : decode kH_load 34 = .ok (.iload_n 3, 1) := by decide +kernel
theorem dH_load_35 : decode kH_load 35 = .ok (.bipush 15, 2) := by decide +kernel
theorem dH_load_37 : decode kH_load 37 = .ok (.idiv, 1) := by decide +kernel
theorem dH_load_38 : decode kH_load 38 = .ok (.iaload, 1) := by decide +kernel
theorem dH_load_39 : decode kH_load 39 = .ok (.iload_n 3, 1) := by decide +kernel
theorem dH_load_40 : decode kH_load 40 = .ok (.bipush 15, 2) := by decide +kernel
theorem dH_load_42 : decode kH_load 42 = .ok (.irem, 1) := by decide +kernel
theorem dH_load_43 : decode kH_load 43 = .ok (.iadd, 1) := by decide +kernel
theorem dH_load_44 : decode kH_load 44 = .ok (.istore 4, 2) := by decide +kernel
theorem dH_load_46 : decode kH_load 46 = .ok (.aload_n 0, 1) := by decide +kernel
theorem dH_load_47 : decode kH_load 47 = .ok (.getfield 9, 3) := by decide +kernel
theorem dH_load_50 : decode kH_load 50 = .ok (.iload_n 3, 1) := by decide +kernel
theorem dH_load_51 : decode kH_load 51 = .ok (.aload_n 1, 1) := by decide +kernel
theorem dH_load_52 : decode kH_load 52 = .ok (.iload 4, 2) := by decide +kernel
theorem dH_load_54 : decode kH_load 54 = .ok (.invokevirtual 37, 3) := by decide +kernel
theorem dH_load_57 : decode kH_load 57 = .ok (.iastore, 1) := by decide +kernel
theorem dH_load_58 : decode kH_load 58 = .ok (.iinc 3 1, 3) := by decide +kernel
theorem dH_load_61 : decode kH_load 61 = .ok (.goto (-42), 3) := by decide +kernel
theorem dH_load_64 : decode kH_load 64 = .ok (.aload_n 0, 1) := by decide +kernel
theorem dH_load_65 : decode kH_load 65 = .ok (.aload_n 2, 1) := by decide +kernel
theorem dH_load_66 : decode kH_load 66 = .ok (.getfield 43, 3) := by decide +kernel
theorem dH_load_69 : decode kH_load 69 = .ok (.putfield 46, 3) := by decide +kernel
theorem dH_load_72 : decode kH_load 72 = .ok (.aload_n 0, 1) := by decide +kernel
theorem dH_load_73 : decode kH_load 73 = .ok (.aload_n 2, 1) := by decide +kernel
theorem dH_load_74 : decode kH_load 74 = .ok (.getfield 47, 3) := by decide +kernel
theorem dH_load_77 : decode kH_load 77 = .ok (.putfield 51, 3) := by decide +kernel
theorem dH_load_80 : decode kH_load 80 = .ok (.aload_n 0, 1) := by decide +kernel
theorem dH_load_81 : decode kH_load 81 = .ok (.iconst 1, 1) := by decide +kernel
theorem dH_load_82 : decode kH_load 82 = .ok (.putfield 52, 3) := by decide +kernel
theorem dH_load_85 : decode kH_load 85 = .ok (.return_, 1) := by decide +kernel
def bl_H_load_19 (θ : TH) (a0_19 : Nat) (a1_19 : Nat) (a2_19 : Nat) (K : VT → UT → Prop) (kb19 : Int32 → VT → UT → Prop) (x3_19 : Int32) (V : VT) (U : UT) : Prop := isO θ a0_19 7 ∧ (((V a0_19 2) ≤ x3_19 → isO θ a2_19 5 ∧ ∀ V_9 : VT, V_9 = up2 V a0_19 3 (V a2_19 3) → isZ (V_9 a2_19 4) ∧ ∀ V_11 : VT, V_11 = up2 V_9 a0_19 4 (V_9 a2_19 4) → ∀ V_12 : VT, V_12 = up2 V_11 a0_19 1 (1 : Int32) → K V_12 U) ∧ (¬ (V a0_19 2) ≤ x3_19 → isO θ a2_19 5 ∧ (U a2_19 5) ≠ 0 ∧ isO θ (U a2_19 5) 3 ∧ (U (U a2_19 5) 0) ≠ 0 ∧ ¬ (15 : Int32) = 0 ∧ ∃ n_18, isA θ (U (U a2_19 5) 0) 0 n_18 ∧ vp_in (x3_19 / (15 : Int32)) n_18 ∧ ∀ y_21 : Int32, y_21 = ((V (U (U a2_19 5) 0) (x3_19 / (15 : Int32)).toNatClampNeg) + (x3_19 - x3_19 / (15 : Int32) * (15 : Int32))) → (U a0_19 0) ≠ 0 ∧ isO θ a1_19 1 ∧ wp_W_at θ a1_19 y_21 V U (fun r_26 V_23 U_24 => ∃ n_27, isA θ (U a0_19 0) 0 n_27 ∧ vp_in x3_19 n_27 ∧ ∀ V_30 : VT, V_30 = up2 V_23 (U a0_19 0) x3_19.toNatClampNeg r_26 → ∀ y_31 : Int32, y_31 = x3_19 + (1 : Int32) → kb19 y_31 V_30 U_24)))
def wl_H_load_19 (θ : TH) (a0_19 : Nat) (a1_19 : Nat) (a2_19 : Nat) (K : VT → UT → Prop) : Nat → Int32 → VT → UT → Prop
  | 0, _, _, _ => False
  | n + 1, x3_19, V, U => bl_H_load_19 θ a0_19 a1_19 a2_19 K (wl_H_load_19 θ a0_19 a1_19 a2_19 K n) x3_19 V U
def wp_H_load (θ : TH) (a0 : Nat) (a1 : Nat) (a2 : Nat) (V : VT) (U : UT) (K : VT → UT → Prop) : Prop := isO θ a2 5 ∧ (U a2 5) ≠ 0 ∧ isO θ (U a2 5) 3 ∧ isO θ a0 7 ∧ ∀ V_5 : VT, V_5 = up2 V a0 2 (if (1000 : Int32) < (V (U a2 5) 2) then (1000 : Int32) else (V (U a2 5) 2)) → ∃ n, wl_H_load_19 θ a0 a1 a2 K n (0 : Int32) V_5 U
set_option maxRecDepth 100000 in
set_option maxHeartbeats 4000000 in
theorem c_H_load (l : Launch) (θ : TH) (a0 : Nat) (a1 : Nat) (a2 : Nat) (V : VT) (U : UT) (K : VT → UT → Prop) (hw : wp_H_load θ a0 a1 a2 V U K) : CMv l yH_load kH_load 5 none rmH_load θ [.ref a0, .ref a1, .ref a2] V U K := by
  refine g_met nRH (by decide +kernel) rfl (Nat.le_of_ble_eq_true rfl) (fun p e s m args below meth c ls hC hr hlk hwo hl => ?_)
  have hx := hC.1
  have hb := hC.2.1
  have hS : Sx θ s s.heap [] := va_S.rf
  have hl : lv_has ls 5 [(0, .ref a0), (1, .ref a1), (2, .ref a2)] := hl
  have L19 : ∀ (a0_19 : Nat) (a1_19 : Nat) (a2_19 : Nat) (n19 : Nat) (x3_19 : Int32) (V : VT) (U : UT) (H : Heap) (locs : List Loc) (ls : Array Slot), wl_H_load_19 θ a0_19 a1_19 a2_19 K n19 x3_19 V U → wo θ V U H → Sx θ s H locs → lv_has ls 5 [(0, .ref a0_19), (1, .ref a1_19), (2, .ref a2_19), (3, .int x3_19)] → W p l e rmH_load s m args below meth c H locs 0 0 (MQ below (QV θ K) args s 0 0 (aT θ)) (F0 m 19 ls []) := by
    intro a0_19 a1_19 a2_19 n19
    induction n19 with
    | zero => intro x3_19 V U H locs ls hw hwo hS hl; exact (show False from hw).elim
    | succ n19 ih19 =>
      intro x3_19 V U H locs ls hw hwo hS hl
      replace hw : bl_H_load_19 θ a0_19 a1_19 a2_19 K (wl_H_load_19 θ a0_19 a1_19 a2_19 K n19) x3_19 V U := hw
      unfold bl_H_load_19 at hw
      refine lv_iload_n hx hb dH_load_19 rfl (lv_at hl 3 rfl) ?_
      refine lv_aload_n hx hb dH_load_20 rfl (lv_at hl 0 rfl) ?_
      obtain ⟨ho_6, hw⟩ := hw
      refine g_getI hC fkH_33 rfl hwo ho_6 dH_load_21 ?_
      refine lv_icmp_ge (tgt := 64) hx hb dH_load_24 (by decide) (fun hc_7 => ?_) (fun hc_7 => ?_)
      · replace hw := hw.1 hc_7
        refine lv_aload_n hx hb dH_load_64 rfl (lv_at hl 0 rfl) ?_
        refine lv_aload_n hx hb dH_load_65 rfl (lv_at hl 2 rfl) ?_
        obtain ⟨ho_8, hw⟩ := hw
        refine g_getI hC fkH_43 rfl hwo ho_8 dH_load_66 ?_
        refine g_putI hC fkH_46 rfl hwo hS ho_6 dH_load_69 (fun V_9 eV_9 H locs hwo hS => ?_)
        replace hw := hw V_9 eV_9
        refine lv_aload_n hx hb dH_load_72 rfl (lv_at hl 0 rfl) ?_
        refine lv_aload_n hx hb dH_load_73 rfl (lv_at hl 2 rfl) ?_
        refine g_getI hC fkH_47 rfl hwo ho_8 dH_load_74 ?_
        obtain ⟨hb_10, hw⟩ := hw
        refine g_putZ hC fkH_51 rfl hwo hS ho_6 hb_10 dH_load_77 (fun V_11 eV_11 H locs hwo hS => ?_)
        replace hw := hw V_11 eV_11
        refine lv_aload_n hx hb dH_load_80 rfl (lv_at hl 0 rfl) ?_
        refine lv_iconst (v := 1) hx hb dH_load_81 (by decide) ?_
        refine g_putZ hC fkH_52 rfl hwo hS ho_6 (Or.inr rfl) dH_load_82 (fun V_12 eV_12 H locs hwo hS => ?_)
        replace hw := hw V_12 eV_12
        exact g_vret hC hr hlk hw hwo hS dH_load_85
      · replace hw := hw.2 hc_7
        refine lv_aload_n hx hb dH_load_27 rfl (lv_at hl 2 rfl) ?_
        obtain ⟨ho_13, hw⟩ := hw
        obtain ⟨hz_14, hw⟩ := hw
        refine g_getR hC fkH_15 rfl hwo ho_13 hz_14 dH_load_28 ?_
        obtain ⟨ho_15, hw⟩ := hw
        obtain ⟨hz_16, hw⟩ := hw
        refine g_getR hC fkH_34 rfl hwo ho_15 hz_16 dH_load_31 ?_
        refine lv_iload_n hx hb dH_load_34 rfl (lv_at hl 3 rfl) ?_
        refine lv_bipush (v := 15) hx hb dH_load_35 (by decide) ?_
        obtain ⟨hd_17, hw⟩ := hw
        refine lv_idiv hx hb dH_load_37 hd_17 ?_
        obtain ⟨n_18, ha_19, hw⟩ := hw
        obtain ⟨hi_20, hw⟩ := hw
        refine g_iald hC hwo ha_19 hi_20 dH_load_38 ?_
        refine lv_iload_n hx hb dH_load_39 rfl (lv_at hl 3 rfl) ?_
        refine lv_bipush (v := 15) hx hb dH_load_40 (by decide) ?_
        refine lv_irem hx hb dH_load_42 hd_17 ?_
        refine lv_iadd hx hb dH_load_43 ?_
        refine lv_topi (fun y_21 ey_21 => ?_)
        replace hw := hw y_21 ey_21
        refine lv_istore (i := 4) (lv' := [(4, .int y_21), (0, .ref a0_19), (1, .ref a1_19), (2, .ref a2_19), (3, .int x3_19)]) hx hb dH_load_44 hl (by decide) rfl (fun ls hl => ?_)
        refine lv_aload_n hx hb dH_load_46 rfl (lv_at hl 1 rfl) ?_
        obtain ⟨hz_22, hw⟩ := hw
        refine g_getR hC fkH_9 rfl hwo ho_6 hz_22 dH_load_47 ?_
        refine lv_iload_n hx hb dH_load_50 rfl (lv_at hl 4 rfl) ?_
        refine lv_aload_n hx hb dH_load_51 rfl (lv_at hl 2 rfl) ?_
        refine lv_iload hx hb dH_load_52 (lv_at hl 0 rfl) ?_
        obtain ⟨ho_25, hw⟩ := hw
        refine g_Vi (rest := [.int x3_19, .ref (U a0_19 0)]) hC (c_W_at l θ _ _ _ _ _ hw) mi_W_at mlH_37 mv_W_at ci_1 ho_25 hwo hS ⟨rfl, rfl⟩ ⟨by decide, by decide⟩ rfl hl.1 rfl (Nat.le_of_ble_eq_true rfl) dH_load_54 (fun r_26 V_23 U_24 hw H locs hwo hS => ?_)
        obtain ⟨n_27, ha_28, hw⟩ := hw
        obtain ⟨hi_29, hw⟩ := hw
        refine g_iast hC hwo hS ha_28 hi_29 dH_load_57 (fun V_30 eV_30 H locs hwo hS => ?_)
        replace hw := hw V_30 eV_30
        obtain ⟨y_31, ey_31⟩ : ∃ z : Int32, z = x3_19 + (1 : Int32) := ⟨_, rfl⟩
        replace hw := hw y_31 ey_31
        refine lv_iinc (k := 4) (v := y_31) (lv' := [(3, .int y_31), (4, .int y_21), (0, .ref a0_19), (1, .ref a1_19), (2, .ref a2_19)]) hx hb dH_load_58 hl rfl (by rw [ey_31]; rfl) (by decide) rfl (fun ls hl => ?_)
        refine lv_goto (tgt := 19) hx hb dH_load_61 (by decide) ?_
        exact ih19 _ _ _ _ _ _ hw hwo hS (lv_sub hl [2, 3, 4, 0] rfl)
  unfold wp_H_load at hw
  refine lv_aload_n hx hb dH_load_0 rfl (lv_at hl 0 rfl) ?_
  refine lv_aload_n hx hb dH_load_1 rfl (lv_at hl 2 rfl) ?_
  obtain ⟨ho_1, hw⟩ := hw
  obtain ⟨hz_2, hw⟩ := hw
  refine g_getR hC fkH_15 rfl hwo ho_1 hz_2 dH_load_2 ?_
  obtain ⟨ho_3, hw⟩ := hw
  refine g_getI hC fkH_21 rfl hwo ho_3 dH_load_5 ?_
  refine lv_sipush (v := 1000) hx hb dH_load_8 (by decide) ?_
  refine g_min hC hl.1 lkH_27 ka_min (by decide) (Nat.le_of_ble_eq_true rfl) dH_load_11 ?_
  obtain ⟨ho_4, hw⟩ := hw
  refine g_putI hC fkH_33 rfl hwo hS ho_4 dH_load_14 (fun V_5 eV_5 H locs hwo hS => ?_)
  replace hw := hw V_5 eV_5
  refine lv_iconst (v := 0) hx hb dH_load_17 (by decide) ?_
  refine lv_istore_n (i := 3) (lv' := [(3, .int (0 : Int32)), (0, .ref a0), (1, .ref a1), (2, .ref a2)]) hx hb dH_load_18 rfl hl (by decide) rfl (fun ls hl => ?_)
  obtain ⟨n, hw⟩ := hw
  exact L19 _ _ _ n _ _ _ _ _ _ hw hwo hS (lv_sub hl [1, 2, 3, 0] rfl)
theorem dH_at_0 : decode kH_at 0 = .ok (.aload_n 0, 1) := by decide +kernel
theorem dH_at_1 : decode kH_at 1 = .ok (.getfield 52, 3) := by decide +kernel
theorem dH_at_4 : decode kH_at 4 = .ok (.ifCond .eq 24, 3) := by decide +kernel
theorem dH_at_7 : decode kH_at 7 = .ok (.iload_n 1, 1) := by decide +kernel
theorem dH_at_8 : decode kH_at 8 = .ok (.ifCond .lt 20, 3) := by decide +kernel
theorem dH_at_11 : decode kH_at 11 = .ok (.iload_n 1, 1) := by decide +kernel
theorem dH_at_12 : decode kH_at 12 = .ok (.aload_n 0, 1) := by decide +kernel
theorem dH_at_13 : decode kH_at 13 = .ok (.getfield 33, 3) := by decide +kernel
theorem dH_at_16 : decode kH_at 16 = .ok (.if_icmp .ge 12, 3) := by decide +kernel
theorem dH_at_19 : decode kH_at 19 = .ok (.aload_n 0, 1) := by decide +kernel
theorem dH_at_20 : decode kH_at 20 = .ok (.getfield 9, 3) := by decide +kernel
theorem dH_at_23 : decode kH_at 23 = .ok (.iload_n 1, 1) := by decide +kernel
theorem dH_at_24 : decode kH_at 24 = .ok (.iaload, 1) := by decide +kernel
theorem dH_at_25 : decode kH_at 25 = .ok (.goto 4, 3) := by decide +kernel
theorem dH_at_28 : decode kH_at 28 = .ok (.iconst (-1), 1) := by decide +kernel
theorem dH_at_29 : decode kH_at 29 = .ok (.ireturn, 1) := by decide +kernel
def wb_H_at_28 (θ : TH) (K : Int32 → VT → UT → Prop) (V : VT) (U : UT) : Prop := K (-1 : Int32) V U
def wp_H_at (θ : TH) (a0 : Nat) (x1 : Int32) (V : VT) (U : UT) (K : Int32 → VT → UT → Prop) : Prop := isO θ a0 7 ∧ (((V a0 1) = 0 → wb_H_at_28 θ K V U) ∧ (¬ (V a0 1) = 0 → ((x1 < 0 → wb_H_at_28 θ K V U) ∧ (¬ x1 < 0 → (((V a0 2) ≤ x1 → wb_H_at_28 θ K V U) ∧ (¬ (V a0 2) ≤ x1 → (U a0 0) ≠ 0 ∧ ∃ n_6, isA θ (U a0 0) 0 n_6 ∧ vp_in x1 n_6 ∧ K (V (U a0 0) x1.toNatClampNeg) V U))))))
set_option maxRecDepth 100000 in
set_option maxHeartbeats 4000000 in
theorem c_H_at (l : Launch) (θ : TH) (a0 : Nat) (x1 : Int32) (V : VT) (U : UT) (K : Int32 → VT → UT → Prop) (hw : wp_H_at θ a0 x1 V U K) : CMi l yH_at kH_at 2 (some .int) rmH_at θ [.ref a0, .int x1] V U K := by
  refine g_met nRH (by decide +kernel) rfl (Nat.le_of_ble_eq_true rfl) (fun p e s m args below meth c ls hC hr hlk hwo hl => ?_)
  have hx := hC.1
  have hb := hC.2.1
  have hS : Sx θ s s.heap [] := va_S.rf
  have hl : lv_has ls 2 [(0, .ref a0), (1, .int x1)] := hl
  have J28 : ∀ (V : VT) (U : UT) (H : Heap) (locs : List Loc) (ls : Array Slot), wb_H_at_28 θ K V U → wo θ V U H → Sx θ s H locs → lv_has ls 2 [] → W p l e rmH_at s m args below meth c H locs 0 0 (MQ below (QI θ K) args s 0 0 (aT θ)) (F0 m 28 ls []) := by
    intro V U H locs ls hw hwo hS hl
    unfold wb_H_at_28 at hw
    refine lv_iconst (v := -1) hx hb dH_at_28 (by decide) ?_
    exact g_iret hC hr hlk hw hwo hS dH_at_29
  unfold wp_H_at at hw
  refine lv_aload_n hx hb dH_at_0 rfl (lv_at hl 0 rfl) ?_
  obtain ⟨ho_1, hw⟩ := hw
  refine g_getI hC fkH_52 rfl hwo ho_1 dH_at_1 ?_
  refine lv_if_eq (tgt := 28) hx hb dH_at_4 (by decide) (fun hc_2 => ?_) (fun hc_2 => ?_)
  · replace hw := hw.1 hc_2
    exact J28 _ _ _ _ _ hw hwo hS (lv_sub hl [] rfl)
  · replace hw := hw.2 hc_2
    refine lv_iload_n hx hb dH_at_7 rfl (lv_at hl 1 rfl) ?_
    refine lv_if_lt (tgt := 28) hx hb dH_at_8 (by decide) (fun hc_3 => ?_) (fun hc_3 => ?_)
    · replace hw := hw.1 hc_3
      exact J28 _ _ _ _ _ hw hwo hS (lv_sub hl [] rfl)
    · replace hw := hw.2 hc_3
      refine lv_iload_n hx hb dH_at_11 rfl (lv_at hl 1 rfl) ?_
      refine lv_aload_n hx hb dH_at_12 rfl (lv_at hl 0 rfl) ?_
      refine g_getI hC fkH_33 rfl hwo ho_1 dH_at_13 ?_
      refine lv_icmp_ge (tgt := 28) hx hb dH_at_16 (by decide) (fun hc_4 => ?_) (fun hc_4 => ?_)
      · replace hw := hw.1 hc_4
        exact J28 _ _ _ _ _ hw hwo hS (lv_sub hl [] rfl)
      · replace hw := hw.2 hc_4
        refine lv_aload_n hx hb dH_at_19 rfl (lv_at hl 0 rfl) ?_
        obtain ⟨hz_5, hw⟩ := hw
        refine g_getR hC fkH_9 rfl hwo ho_1 hz_5 dH_at_20 ?_
        refine lv_iload_n hx hb dH_at_23 rfl (lv_at hl 1 rfl) ?_
        obtain ⟨n_6, ha_7, hw⟩ := hw
        obtain ⟨hi_8, hw⟩ := hw
        refine g_iald hC hwo ha_7 hi_8 dH_at_24 ?_
        refine lv_goto (tgt := 29) hx hb dH_at_25 (by decide) ?_
        exact g_iret hC hr hlk hw hwo hS dH_at_29
theorem dH_rewind_0 : decode kH_rewind 0 = .ok (.aload_n 0, 1) := by decide +kernel
theorem dH_rewind_1 : decode kH_rewind 1 = .ok (.iconst 0, 1) := by decide +kernel
theorem dH_rewind_2 : decode kH_rewind 2 = .ok (.putfield 55, 3) := by decide +kernel
theorem dH_rewind_5 : decode kH_rewind 5 = .ok (.aload_n 0, 1) := by decide +kernel
theorem dH_rewind_6 : decode kH_rewind 6 = .ok (.iconst 0, 1) := by decide +kernel
theorem dH_rewind_7 : decode kH_rewind 7 = .ok (.putfield 58, 3) := by decide +kernel
theorem dH_rewind_10 : decode kH_rewind 10 = .ok (.return_, 1) := by decide +kernel
def wp_H_rewind (θ : TH) (a0 : Nat) (V : VT) (U : UT) (K : VT → UT → Prop) : Prop := isO θ a0 7 ∧ ∀ V_2 : VT, V_2 = up2 V a0 5 (0 : Int32) → ∀ V_3 : VT, V_3 = up2 V_2 a0 6 (0 : Int32) → K V_3 U
set_option maxRecDepth 100000 in
set_option maxHeartbeats 4000000 in
theorem c_H_rewind (l : Launch) (θ : TH) (a0 : Nat) (V : VT) (U : UT) (K : VT → UT → Prop) (hw : wp_H_rewind θ a0 V U K) : CMv l yH_rewind kH_rewind 1 none rmH_rewind θ [.ref a0] V U K := by
  refine g_met nRH (by decide +kernel) rfl (Nat.le_of_ble_eq_true rfl) (fun p e s m args below meth c ls hC hr hlk hwo hl => ?_)
  have hx := hC.1
  have hb := hC.2.1
  have hS : Sx θ s s.heap [] := va_S.rf
  have hl : lv_has ls 1 [(0, .ref a0)] := hl
  unfold wp_H_rewind at hw
  refine lv_aload_n hx hb dH_rewind_0 rfl (lv_at hl 0 rfl) ?_
  refine lv_iconst (v := 0) hx hb dH_rewind_1 (by decide) ?_
  obtain ⟨ho_1, hw⟩ := hw
  refine g_putI hC fkH_55 rfl hwo hS ho_1 dH_rewind_2 (fun V_2 eV_2 H locs hwo hS => ?_)
  replace hw := hw V_2 eV_2
  refine lv_aload_n hx hb dH_rewind_5 rfl (lv_at hl 0 rfl) ?_
  refine lv_iconst (v := 0) hx hb dH_rewind_6 (by decide) ?_
  refine g_putZ hC fkH_58 rfl hwo hS ho_1 (Or.inl rfl) dH_rewind_7 (fun V_3 eV_3 H locs hwo hS => ?_)
  replace hw := hw V_3 eV_3
  exact g_vret hC hr hlk hw hwo hS dH_rewind_10
theorem dH_read_0 : decode kH_read 0 = .ok (.aload_n 0, 1) := by decide +kernel
theorem dH_read_1 : decode kH_read 1 = .ok (.getfield 58, 3) := by decide +kernel
theorem dH_read_4 : decode kH_read 4 = .ok (.ifCond .ne 19, 3) := by decide +kernel
theorem dH_read_7 : decode kH_read 7 = .ok (.iload_n 1, 1) := by decide +kernel
theorem dH_read_8 : decode kH_read 8 = .ok (.aload_n 0, 1) := by decide +kernel
theorem dH_read_9 : decode kH_read 9 = .ok (.getfield 33, 3) := by decide +kernel
theorem dH_read_12 : decode kH_read 12 = .ok (.bipush 8, 2) := by decide +kernel
theorem dH_read_14 : decode kH_read 14 = .ok (.imul, 1) := by decide +kernel
theorem dH_read_15 : decode kH_read 15 = .ok (.aload_n 0, 1) := by decide +kernel
theorem dH_read_16 : decode kH_read 16 = .ok (.getfield 55, 3) := by decide +kernel
theorem dH_read_19 : decode kH_read 19 = .ok (.isub, 1) := by decide +kernel
theorem dH_read_20 : decode kH_read 20 = .ok (.if_icmp .le 10, 3) := by decide +kernel
theorem dH_read_23 : decode kH_read 23 = .ok (.aload_n 0, 1) := by decide +kernel
theorem dH_read_24 : decode kH_read 24 = .ok (.iconst 1, 1) := by decide +kernel
theorem dH_read_25 : decode kH_read 25 = .ok (.putfield 58, 3) := by decide +kernel
theorem dH_read_28 : decode kH_read 28 = .ok (.iconst 0, 1) := by decide +kernel
theorem dH_read_29 : decode kH_read 29 = .ok (.ireturn, 1) := by decide +kernel
theorem dH_read_30 : decode kH_read 30 = .ok (.iconst 0, 1) := by decide +kernel
theorem dH_read_31 : decode kH_read 31 = .ok (.istore_n 2, 1) := by decide +kernel
theorem dH_read_32 : decode kH_read 32 = .ok (.iconst 0, 1) := by decide +kernel
theorem dH_read_33 : decode kH_read 33 = .ok (.istore_n 3, 1) := by decide +kernel
theorem dH_read_34 : decode kH_read 34 = .ok (.iload_n 3, 1) := by decide +kernel
theorem dH_read_35 : decode kH_read 35 = .ok (.iload_n 1, 1) := by decide +kernel
theorem dH_read_36 : decode kH_read 36 = .ok (.if_icmp .ge 49, 3) := by decide +kernel
theorem dH_read_39 : decode kH_read 39 = .ok (.aload_n 0, 1) := by decide +kernel
theorem dH_read_40 : decode kH_read 40 = .ok (.getfield 9, 3) := by decide +kernel
theorem dH_read_43 : decode kH_read 43 = .ok (.aload_n 0, 1) := by decide +kernel
theorem dH_read_44 : decode kH_read 44 = .ok (.getfield 55, 3) := by decide +kernel
theorem dH_read_47 : decode kH_read 47 = .ok (.iconst 3, 1) := by decide +kernel
theorem dH_read_48 : decode kH_read 48 = .ok (.ishr, 1) := by decide +kernel
theorem dH_read_49 : decode kH_read 49 = .ok (.iaload, 1) := by decide +kernel
theorem dH_read_50 : decode kH_read 50 = .ok (.aload_n 0, 1) := by decide +kernel
theorem dH_read_51 : decode kH_read 51 = .ok (.getfield 55, 3) := by decide +kernel
theorem dH_read_54 : decode kH_read 54 = .ok (.bipush 7, 2) := by decide +kernel
theorem dH_read_56 : decode kH_read 56 = .ok (.iand, 1) := by decide +kernel
theorem dH_read_57 : decode kH_read 57 = .ok (.ishr, 1) := by decide +kernel
theorem dH_read_58 : decode kH_read 58 = .ok (.iconst 1, 1) := by decide +kernel
theorem dH_read_59 : decode kH_read 59 = .ok (.iand, 1) := by decide +kernel
theorem dH_read_60 : decode kH_read 60 = .ok (.istore 4, 2) := by decide +kernel
theorem dH_read_62 : decode kH_read 62 = .ok (.iload_n 2, 1) := by decide +kernel
theorem dH_read_63 : decode kH_read 63 = .ok (.iload 4, 2) := by decide +kernel
theorem dH_read_65 : decode kH_read 65 = .ok (.iload_n 3, 1) := by decide +kernel
theorem dH_read_66 : decode kH_read 66 = .ok (.ishl, 1) := by decide +kernel
theorem dH_read_67 : decode kH_read 67 = .ok (.ior, 1) := by decide +kernel
theorem dH_read_68 : decode kH_read 68 = .ok (.istore_n 2, 1) := by decide +kernel
theorem dH_read_69 : decode kH_read 69 = .ok (.aload_n 0, 1) := by decide +kernel
theorem dH_read_70 : decode kH_read 70 = .ok (.dup, 1) := by decide +kernel
theorem dH_read_71 : decode kH_read 71 = .ok (.getfield 55, 3) := by decide +kernel
theorem dH_read_74 : decode kH_read 74 = .ok (.iconst 1, 1) := by decide +kernel
theorem dH_read_75 : decode kH_read 75 = .ok (.iadd, 1) := by decide +kernel
theorem dH_read_76 : decode kH_read 76 = .ok (.putfield 55, 3) := by decide +kernel
theorem dH_read_79 : decode kH_read 79 = .ok (.iinc 3 1, 3) := by decide +kernel
theorem dH_read_82 : decode kH_read 82 = .ok (.goto (-48), 3) := by decide +kernel
theorem dH_read_85 : decode kH_read 85 = .ok (.iload_n 2, 1) := by decide +kernel
theorem dH_read_86 : decode kH_read 86 = .ok (.ireturn, 1) := by decide +kernel
def bl_H_read_34 (θ : TH) (a0_34 : Nat) (x1_34 : Int32) (K : Int32 → VT → UT → Prop) (kb34 : Int32 → Int32 → VT → UT → Prop) (x2_34 : Int32) (x3_34 : Int32) (V : VT) (U : UT) : Prop := ((x1_34 ≤ x3_34 → K x2_34 V U) ∧ (¬ x1_34 ≤ x3_34 → isO θ a0_34 7 ∧ (U a0_34 0) ≠ 0 ∧ ∃ n_9, isA θ (U a0_34 0) 0 n_9 ∧ vp_in ((V a0_34 5) >>> ((3 : Int32) &&& 31)) n_9 ∧ ∀ y_12 : Int32, y_12 = (((V (U a0_34 0) ((V a0_34 5) >>> ((3 : Int32) &&& 31)).toNatClampNeg) >>> (((V a0_34 5) &&& (7 : Int32)) &&& 31)) &&& (1 : Int32)) → ∀ y_13 : Int32, y_13 = (x2_34 ||| (y_12 <<< (x3_34 &&& 31))) → ∀ V_14 : VT, V_14 = up2 V a0_34 5 ((V a0_34 5) + (1 : Int32)) → ∀ y_15 : Int32, y_15 = x3_34 + (1 : Int32) → kb34 y_13 y_15 V_14 U))
def wl_H_read_34 (θ : TH) (a0_34 : Nat) (x1_34 : Int32) (K : Int32 → VT → UT → Prop) : Nat → Int32 → Int32 → VT → UT → Prop
  | 0, _, _, _, _ => False
  | n + 1, x2_34, x3_34, V, U => bl_H_read_34 θ a0_34 x1_34 K (wl_H_read_34 θ a0_34 x1_34 K n) x2_34 x3_34 V U
def wp_H_read (θ : TH) (a0 : Nat) (x1 : Int32) (V : VT) (U : UT) (K : Int32 → VT → UT → Prop) : Prop := isO θ a0 7 ∧ ((¬ (V a0 6) = 0 → ∀ V_3 : VT, V_3 = up2 V a0 6 (1 : Int32) → K (0 : Int32) V_3 U) ∧ ((V a0 6) = 0 → ((x1 ≤ (((V a0 2) * (8 : Int32)) - (V a0 5)) → ∃ n, wl_H_read_34 θ a0 x1 K n (0 : Int32) (0 : Int32) V U) ∧ (¬ x1 ≤ (((V a0 2) * (8 : Int32)) - (V a0 5)) → ∀ V_5 : VT, V_5 = up2 V a0 6 (1 : Int32) → K (0 : Int32) V_5 U))))
set_option maxRecDepth 100000 in
set_option maxHeartbeats 4000000 in
theorem c_H_read (l : Launch) (θ : TH) (a0 : Nat) (x1 : Int32) (V : VT) (U : UT) (K : Int32 → VT → UT → Prop) (hw : wp_H_read θ a0 x1 V U K) : CMi l yH_read kH_read 5 (some .int) rmH_read θ [.ref a0, .int x1] V U K := by
  refine g_met nRH (by decide +kernel) rfl (Nat.le_of_ble_eq_true rfl) (fun p e s m args below meth c ls hC hr hlk hwo hl => ?_)
  have hx := hC.1
  have hb := hC.2.1
  have hS : Sx θ s s.heap [] := va_S.rf
  have hl : lv_has ls 5 [(0, .ref a0), (1, .int x1)] := hl
  have L34 : ∀ (a0_34 : Nat) (x1_34 : Int32) (n34 : Nat) (x2_34 : Int32) (x3_34 : Int32) (V : VT) (U : UT) (H : Heap) (locs : List Loc) (ls : Array Slot), wl_H_read_34 θ a0_34 x1_34 K n34 x2_34 x3_34 V U → wo θ V U H → Sx θ s H locs → lv_has ls 5 [(0, .ref a0_34), (1, .int x1_34), (2, .int x2_34), (3, .int x3_34)] → W p l e rmH_read s m args below meth c H locs 0 0 (MQ below (QI θ K) args s 0 0 (aT θ)) (F0 m 34 ls []) := by
    intro a0_34 x1_34 n34
    induction n34 with
    | zero => intro x2_34 x3_34 V U H locs ls hw hwo hS hl; exact (show False from hw).elim
    | succ n34 ih34 =>
      intro x2_34 x3_34 V U H locs ls hw hwo hS hl
      replace hw : bl_H_read_34 θ a0_34 x1_34 K (wl_H_read_34 θ a0_34 x1_34 K n34) x2_34 x3_34 V U := hw
      unfold bl_H_read_34 at hw
      refine lv_iload_n hx hb dH_read_34 rfl (lv_at hl 3 rfl) ?_
      refine lv_iload_n hx hb dH_read_35 rfl (lv_at hl 1 rfl) ?_
      refine lv_icmp_ge (tgt := 85) hx hb dH_read_36 (by decide) (fun hc_6 => ?_) (fun hc_6 => ?_)
      · replace hw := hw.1 hc_6
        refine lv_iload_n hx hb dH_read_85 rfl (lv_at hl 2 rfl) ?_
        exact g_iret hC hr hlk hw hwo hS dH_read_86
      · replace hw := hw.2 hc_6
        refine lv_aload_n hx hb dH_read_39 rfl (lv_at hl 0 rfl) ?_
        obtain ⟨ho_7, hw⟩ := hw
        obtain ⟨hz_8, hw⟩ := hw
        refine g_getR hC fkH_9 rfl hwo ho_7 hz_8 dH_read_40 ?_
        refine lv_aload_n hx hb dH_read_43 rfl (lv_at hl 0 rfl) ?_
        refine g_getI hC fkH_55 rfl hwo ho_7 dH_read_44 ?_
        refine lv_iconst (v := 3) hx hb dH_read_47 (by decide) ?_
        refine lv_ishr hx hb dH_read_48 ?_
        obtain ⟨n_9, ha_10, hw⟩ := hw
        obtain ⟨hi_11, hw⟩ := hw
        refine g_iald hC hwo ha_10 hi_11 dH_read_49 ?_
        refine lv_aload_n hx hb dH_read_50 rfl (lv_at hl 0 rfl) ?_
        refine g_getI hC fkH_55 rfl hwo ho_7 dH_read_51 ?_
        refine lv_bipush (v := 7) hx hb dH_read_54 (by decide) ?_
        refine lv_iand hx hb dH_read_56 ?_
        refine lv_ishr hx hb dH_read_57 ?_
        refine lv_iconst (v := 1) hx hb dH_read_58 (by decide) ?_
        refine lv_iand hx hb dH_read_59 ?_
        refine lv_topi (fun y_12 ey_12 => ?_)
        replace hw := hw y_12 ey_12
        refine lv_istore (i := 4) (lv' := [(4, .int y_12), (0, .ref a0_34), (1, .int x1_34), (2, .int x2_34), (3, .int x3_34)]) hx hb dH_read_60 hl (by decide) rfl (fun ls hl => ?_)
        refine lv_iload_n hx hb dH_read_62 rfl (lv_at hl 3 rfl) ?_
        refine lv_iload hx hb dH_read_63 (lv_at hl 0 rfl) ?_
        refine lv_iload_n hx hb dH_read_65 rfl (lv_at hl 4 rfl) ?_
        refine lv_ishl hx hb dH_read_66 ?_
        refine lv_ior hx hb dH_read_67 ?_
        refine lv_topi (fun y_13 ey_13 => ?_)
        replace hw := hw y_13 ey_13
        refine lv_istore_n (i := 2) (lv' := [(2, .int y_13), (4, .int y_12), (0, .ref a0_34), (1, .int x1_34), (3, .int x3_34)]) hx hb dH_read_68 rfl hl (by decide) rfl (fun ls hl => ?_)
        refine lv_aload_n hx hb dH_read_69 rfl (lv_at hl 2 rfl) ?_
        refine lv_dup hx hb dH_read_70 rfl ?_
        refine g_getI hC fkH_55 rfl hwo ho_7 dH_read_71 ?_
        refine lv_iconst (v := 1) hx hb dH_read_74 (by decide) ?_
        refine lv_iadd hx hb dH_read_75 ?_
        refine g_putI hC fkH_55 rfl hwo hS ho_7 dH_read_76 (fun V_14 eV_14 H locs hwo hS => ?_)
        replace hw := hw V_14 eV_14
        obtain ⟨y_15, ey_15⟩ : ∃ z : Int32, z = x3_34 + (1 : Int32) := ⟨_, rfl⟩
        replace hw := hw y_15 ey_15
        refine lv_iinc (k := 4) (v := y_15) (lv' := [(3, .int y_15), (2, .int y_13), (4, .int y_12), (0, .ref a0_34), (1, .int x1_34)]) hx hb dH_read_79 hl rfl (by rw [ey_15]; rfl) (by decide) rfl (fun ls hl => ?_)
        refine lv_goto (tgt := 34) hx hb dH_read_82 (by decide) ?_
        exact ih34 _ _ _ _ _ _ _ hw hwo hS (lv_sub hl [3, 4, 1, 0] rfl)
  unfold wp_H_read at hw
  refine lv_aload_n hx hb dH_read_0 rfl (lv_at hl 0 rfl) ?_
  obtain ⟨ho_1, hw⟩ := hw
  refine g_getI hC fkH_58 rfl hwo ho_1 dH_read_1 ?_
  refine lv_if_ne (tgt := 23) hx hb dH_read_4 (by decide) (fun hc_2 => ?_) (fun hc_2 => ?_)
  · replace hw := hw.1 hc_2
    refine lv_aload_n hx hb dH_read_23 rfl (lv_at hl 0 rfl) ?_
    refine lv_iconst (v := 1) hx hb dH_read_24 (by decide) ?_
    refine g_putZ hC fkH_58 rfl hwo hS ho_1 (Or.inr rfl) dH_read_25 (fun V_3 eV_3 H locs hwo hS => ?_)
    replace hw := hw V_3 eV_3
    refine lv_iconst (v := 0) hx hb dH_read_28 (by decide) ?_
    exact g_iret hC hr hlk hw hwo hS dH_read_29
  · replace hw := hw.2 hc_2
    refine lv_iload_n hx hb dH_read_7 rfl (lv_at hl 1 rfl) ?_
    refine lv_aload_n hx hb dH_read_8 rfl (lv_at hl 0 rfl) ?_
    refine g_getI hC fkH_33 rfl hwo ho_1 dH_read_9 ?_
    refine lv_bipush (v := 8) hx hb dH_read_12 (by decide) ?_
    refine lv_imul hx hb dH_read_14 ?_
    refine lv_aload_n hx hb dH_read_15 rfl (lv_at hl 0 rfl) ?_
    refine g_getI hC fkH_55 rfl hwo ho_1 dH_read_16 ?_
    refine lv_isub hx hb dH_read_19 ?_
    refine lv_icmp_le (tgt := 30) hx hb dH_read_20 (by decide) (fun hc_4 => ?_) (fun hc_4 => ?_)
    · replace hw := hw.1 hc_4
      refine lv_iconst (v := 0) hx hb dH_read_30 (by decide) ?_
      refine lv_istore_n (i := 2) (lv' := [(2, .int (0 : Int32)), (0, .ref a0), (1, .int x1)]) hx hb dH_read_31 rfl hl (by decide) rfl (fun ls hl => ?_)
      refine lv_iconst (v := 0) hx hb dH_read_32 (by decide) ?_
      refine lv_istore_n (i := 3) (lv' := [(3, .int (0 : Int32)), (2, .int (0 : Int32)), (0, .ref a0), (1, .int x1)]) hx hb dH_read_33 rfl hl (by decide) rfl (fun ls hl => ?_)
      obtain ⟨n, hw⟩ := hw
      exact L34 _ _ n _ _ _ _ _ _ _ hw hwo hS (lv_sub hl [2, 3, 1, 0] rfl)
    · replace hw := hw.2 hc_4
      refine lv_aload_n hx hb dH_read_23 rfl (lv_at hl 0 rfl) ?_
      refine lv_iconst (v := 1) hx hb dH_read_24 (by decide) ?_
      refine g_putZ hC fkH_58 rfl hwo hS ho_1 (Or.inr rfl) dH_read_25 (fun V_5 eV_5 H locs hwo hS => ?_)
      replace hw := hw V_5 eV_5
      refine lv_iconst (v := 0) hx hb dH_read_28 (by decide) ?_
      exact g_iret hC hr hlk hw hwo hS dH_read_29
theorem dH_readFlag_0 : decode kH_readFlag 0 = .ok (.aload_n 0, 1) := by decide +kernel
theorem dH_readFlag_1 : decode kH_readFlag 1 = .ok (.iconst 1, 1) := by decide +kernel
theorem dH_readFlag_2 : decode kH_readFlag 2 = .ok (.invokevirtual 61, 3) := by decide +kernel
theorem dH_readFlag_5 : decode kH_readFlag 5 = .ok (.iconst 1, 1) := by decide +kernel
theorem dH_readFlag_6 : decode kH_readFlag 6 = .ok (.if_icmp .ne 7, 3) := by decide +kernel
theorem dH_readFlag_9 : decode kH_readFlag 9 = .ok (.iconst 1, 1) := by decide +kernel
theorem dH_readFlag_10 : decode kH_readFlag 10 = .ok (.goto 4, 3) := by decide +kernel
theorem dH_readFlag_13 : decode kH_readFlag 13 = .ok (.iconst 0, 1) := by decide +kernel
theorem dH_readFlag_14 : decode kH_readFlag 14 = .ok (.ireturn, 1) := by decide +kernel
def wp_H_readFlag (θ : TH) (a0 : Nat) (V : VT) (U : UT) (K : Int32 → VT → UT → Prop) : Prop := isO θ a0 7 ∧ wp_H_read θ a0 (1 : Int32) V U (fun r_4 V_1 U_2 => ((¬ r_4 = (1 : Int32) → K (0 : Int32) V_1 U_2) ∧ (r_4 = (1 : Int32) → K (1 : Int32) V_1 U_2)))
set_option maxRecDepth 100000 in
set_option maxHeartbeats 4000000 in
theorem c_H_readFlag (l : Launch) (θ : TH) (a0 : Nat) (V : VT) (U : UT) (K : Int32 → VT → UT → Prop) (hw : wp_H_readFlag θ a0 V U K) : CMi l yH_readFlag kH_readFlag 1 (some .boolean) rmH_readFlag θ [.ref a0] V U K := by
  refine g_met nRH (by decide +kernel) rfl (Nat.le_of_ble_eq_true rfl) (fun p e s m args below meth c ls hC hr hlk hwo hl => ?_)
  have hx := hC.1
  have hb := hC.2.1
  have hS : Sx θ s s.heap [] := va_S.rf
  have hl : lv_has ls 1 [(0, .ref a0)] := hl
  unfold wp_H_readFlag at hw
  refine lv_aload_n hx hb dH_readFlag_0 rfl (lv_at hl 0 rfl) ?_
  refine lv_iconst (v := 1) hx hb dH_readFlag_1 (by decide) ?_
  obtain ⟨ho_3, hw⟩ := hw
  refine g_Vi (rest := []) hC (c_H_read l θ _ _ _ _ _ hw) mi_H_read mlH_61 mv_H_read ci_7 ho_3 hwo hS ⟨rfl, rfl⟩ ⟨by decide, by decide⟩ rfl hl.1 rfl (Nat.le_of_ble_eq_true rfl) dH_readFlag_2 (fun r_4 V_1 U_2 hw H locs hwo hS => ?_)
  refine lv_iconst (v := 1) hx hb dH_readFlag_5 (by decide) ?_
  refine lv_icmp_ne (tgt := 13) hx hb dH_readFlag_6 (by decide) (fun hc_5 => ?_) (fun hc_5 => ?_)
  · replace hw := hw.1 hc_5
    refine lv_iconst (v := 0) hx hb dH_readFlag_13 (by decide) ?_
    exact g_zret hC hr hlk (Or.inl rfl) hw hwo hS dH_readFlag_14
  · replace hw := hw.2 hc_5
    refine lv_iconst (v := 1) hx hb dH_readFlag_9 (by decide) ?_
    refine lv_goto (tgt := 14) hx hb dH_readFlag_10 (by decide) ?_
    exact g_zret hC hr hlk (Or.inr rfl) hw hwo hS dH_readFlag_14
theorem dI_begin_0 : decode kI_begin 0 = .ok (.aload_n 0, 1) := by decide +kernel
theorem dI_begin_1 : decode kI_begin 1 = .ok (.iconst 1, 1) := by decide +kernel
theorem dI_begin_2 : decode kI_begin 2 = .ok (.putfield 16, 3) := by decide +kernel
theorem dI_begin_5 : decode kI_begin 5 = .ok (.aload_n 0, 1) := by decide +kernel
theorem dI_begin_6 : decode kI_begin 6 = .ok (.iload_n 1, 1) := by decide +kernel
theorem dI_begin_7 : decode kI_begin 7 = .ok (.putfield 20, 3) := by decide +kernel
theorem dI_begin_10 : decode kI_begin 10 = .ok (.aload_n 0, 1) := by decide +kernel
theorem dI_begin_11 : decode kI_begin 11 = .ok (.iconst 0, 1) := by decide +kernel
theorem dI_begin_12 : decode kI_begin 12 = .ok (.putfield 24, 3) := by decide +kernel
theorem dI_begin_15 : decode kI_begin 15 = .ok (.aload_n 0, 1) := by decide +kernel
theorem dI_begin_16 : decode kI_begin 16 = .ok (.getfield 10, 3) := by decide +kernel
theorem dI_begin_19 : decode kI_begin 19 = .ok (.invokevirtual 27, 3) := by decide +kernel
theorem dI_begin_22 : decode kI_begin 22 = .ok (.return_, 1) := by decide +kernel
def wp_I_begin (θ : TH) (a0 : Nat) (x1 : Int32) (V : VT) (U : UT) (K : VT → UT → Prop) : Prop := isO θ a0 4 ∧ ∀ V_2 : VT, V_2 = up2 V a0 0 (1 : Int32) → ∀ V_3 : VT, V_3 = up2 V_2 a0 1 x1 → ∀ V_4 : VT, V_4 = up2 V_3 a0 3 (0 : Int32) → (U a0 4) ≠ 0 ∧ isO θ (U a0 4) 3 ∧ wp_K_clear θ (U a0 4) V_4 U (fun V_6 U_7 => K V_6 U_7)
set_option maxRecDepth 100000 in
set_option maxHeartbeats 4000000 in
theorem c_I_begin (l : Launch) (θ : TH) (a0 : Nat) (x1 : Int32) (V : VT) (U : UT) (K : VT → UT → Prop) (hw : wp_I_begin θ a0 x1 V U K) : CMv l yI_begin kI_begin 2 none rmI_begin θ [.ref a0, .int x1] V U K := by
  refine g_met nRI (by decide +kernel) rfl (Nat.le_of_ble_eq_true rfl) (fun p e s m args below meth c ls hC hr hlk hwo hl => ?_)
  have hx := hC.1
  have hb := hC.2.1
  have hS : Sx θ s s.heap [] := va_S.rf
  have hl : lv_has ls 2 [(0, .ref a0), (1, .int x1)] := hl
  unfold wp_I_begin at hw
  refine lv_aload_n hx hb dI_begin_0 rfl (lv_at hl 0 rfl) ?_
  refine lv_iconst (v := 1) hx hb dI_begin_1 (by decide) ?_
  obtain ⟨ho_1, hw⟩ := hw
  refine g_putZ hC fkI_16 rfl hwo hS ho_1 (Or.inr rfl) dI_begin_2 (fun V_2 eV_2 H locs hwo hS => ?_)
  replace hw := hw V_2 eV_2
  refine lv_aload_n hx hb dI_begin_5 rfl (lv_at hl 0 rfl) ?_
  refine lv_iload_n hx hb dI_begin_6 rfl (lv_at hl 1 rfl) ?_
  refine g_putI hC fkI_20 rfl hwo hS ho_1 dI_begin_7 (fun V_3 eV_3 H locs hwo hS => ?_)
  replace hw := hw V_3 eV_3
  refine lv_aload_n hx hb dI_begin_10 rfl (lv_at hl 0 rfl) ?_
  refine lv_iconst (v := 0) hx hb dI_begin_11 (by decide) ?_
  refine g_putI hC fkI_24 rfl hwo hS ho_1 dI_begin_12 (fun V_4 eV_4 H locs hwo hS => ?_)
  replace hw := hw V_4 eV_4
  refine lv_aload_n hx hb dI_begin_15 rfl (lv_at hl 0 rfl) ?_
  obtain ⟨hz_5, hw⟩ := hw
  refine g_getR hC fkI_10 rfl hwo ho_1 hz_5 dI_begin_16 ?_
  obtain ⟨ho_8, hw⟩ := hw
  refine g_Vv (rest := []) hC (c_K_clear l θ _ _ _ _ hw) mi_K_clear mlI_27 mv_K_clear ci_3 ho_8 hwo hS ⟨rfl, rfl⟩ ⟨by decide, by decide⟩ rfl hl.1 rfl (Nat.le_of_ble_eq_true rfl) dI_begin_19 (fun V_6 U_7 hw H locs hwo hS => ?_)
  exact g_vret hC hr hlk hw hwo hS dI_begin_22
theorem dO_layOut_0 : decode kO_layOut 0 = .ok (.aload_n 0, 1) := by decide +kernel
theorem dO_layOut_1 : decode kO_layOut 1 = .ok (.getfield 29, 3) := by decide +kernel
theorem dO_layOut_4 : decode kO_layOut 4 = .ok (.istore 4, 2) := by decide +kernel
theorem dO_layOut_6 : decode kO_layOut 6 = .ok (.iconst 0, 1) := by decide +kernel
theorem dO_layOut_7 : decode kO_layOut 7 = .ok (.istore 5, 2) := by decide +kernel
theorem dO_layOut_9 : decode kO_layOut 9 = .ok (.iload 5, 2) := by decide +kernel
theorem dO_layOut_11 : decode kO_layOut 11 = .ok (.iload_n 2, 1) := by decide +kernel
theorem dO_layOut_12 : decode kO_layOut 12 = .ok (.if_icmp .gt 81, 3) := by decide +kernel
theorem dO_layOut_15 : decode kO_layOut 15 = .ok (.iload 4, 2) := by decide +kernel
theorem dO_layOut_17 : decode kO_layOut 17 = .ok (.bipush 10, 2) := by decide +kernel
theorem dO_layOut_19 : decode kO_layOut 19 = .ok (.if_icmp .ge 74, 3) := by decide +kernel
theorem dO_layOut_22 : decode kO_layOut 22 = .ok (.bipush 15, 2) := by decide +kernel
theorem dO_layOut_24 : decode kO_layOut 24 = .ok (.iload_n 2, 1) := by decide +kernel
theorem dO_layOut_25 : decode kO_layOut 25 = .ok (.iload 5, 2) := by decide +kernel
theorem dO_layOut_27 : decode kO_layOut 27 = .ok (.isub, 1) := by decide +kernel
theorem dO_layOut_28 : decode kO_layOut 28 = .ok (.invokestatic 54, 3) := by decide +kernel
theorem dO_layOut_31 : decode kO_layOut 31 = .ok (.istore 6, 2) := by decide +kernel
theorem dO_layOut_33 : decode kO_layOut 33 = .ok (.aload_n 0, 1) := by decide +kernel
theorem dO_layOut_34 : decode kO_layOut 34 = .ok (.getfield 11, 3) := by decide +kernel
theorem dO_layOut_37 : decode kO_layOut 37 = .ok (.iload 4, 2) := by decide +kernel
theorem dO_layOut_39 : decode kO_layOut 39 = .ok (.iload 6, 2) := by decide +kernel
theorem dO_layOut_41 : decode kO_layOut 41 = .ok (.iastore, 1) := by decide +kernel
theorem dO_layOut_42 : decode kO_layOut 42 = .ok (.aload_n 0, 1) := by decide +kernel
theorem dO_layOut_43 : decode kO_layOut 43 = .ok (.getfield 18, 3) := by decide +kernel
theorem dO_layOut_46 : decode kO_layOut 46 = .ok (.iload 4, 2) := by decide +kernel
theorem dO_layOut_48 : decode kO_layOut 48 = .ok (.iload_n 3, 1) := by decide +kernel
theorem dO_layOut_49 : decode kO_layOut 49 = .ok (.iastore, 1) := by decide +kernel
theorem dO_layOut_50 : decode kO_layOut 50 = .ok (.aload_n 0, 1) := by decide +kernel
theorem dO_layOut_51 : decode kO_layOut 51 = .ok (.getfield 21, 3) := by decide +kernel
theorem dO_layOut_54 : decode kO_layOut 54 = .ok (.iload 4, 2) := by decide +kernel
theorem dO_layOut_56 : decode kO_layOut 56 = .ok (.iload 5, 2) := by decide +kernel
theorem dO_layOut_58 : decode kO_layOut 58 = .ok (.ifCond .ne 7, 3) := by decide +kernel
theorem dO_layOut_61 : decode kO_layOut 61 = .ok (.iconst 1, 1) := by decide +kernel
theorem dO_layOut_62 : decode kO_layOut 62 = .ok (.goto 4, 3) := by decide +kernel
theorem dO_layOut_65 : decode kO_layOut 65 = .ok (.iconst 0, 1) := by decide +kernel
theorem dO_layOut_66 : decode kO_layOut 66 = .ok (.bastore, 1) := by decide +kernel
theorem dO_layOut_67 : decode kO_layOut 67 = .ok (.aload_n 1, 1) := by decide +kernel
theorem dO_layOut_68 : decode kO_layOut 68 = .ok (.iload 5, 2) := by decide +kernel
theorem dO_layOut_70 : decode kO_layOut 70 = .ok (.aload_n 0, 1) := by decide +kernel
theorem dO_layOut_71 : decode kO_layOut 71 = .ok (.getfield 15, 3) := by decide +kernel
theorem dO_layOut_74 : decode kO_layOut 74 = .ok (.iload 4, 2) := by decide +kernel
theorem dO_layOut_76 : decode kO_layOut 76 = .ok (.bipush 15, 2) := by decide +kernel
theorem dO_layOut_78 : decode kO_layOut 78 = .ok (.imul, 1) := by decide +kernel
theorem dO_layOut_79 : decode kO_layOut 79 = .ok (.iload 6, 2) := by decide +kernel
theorem dO_layOut_81 : decode kO_layOut 81 = .ok (.invokestatic 60, 3) := by decide +kernel
theorem dO_layOut_84 : decode kO_layOut 84 = .ok (.iinc 4 1, 3) := by decide +kernel
theorem dO_layOut_87 : decode kO_layOut 87 = .ok (.iinc 5 15, 3) := by decide +kernel
theorem dO_layOut_90 : decode kO_layOut 90 = .ok (.goto (-81), 3) := by decide +kernel
theorem dO_layOut_93 : decode kO_layOut 93 = .ok (.return_, 1) := by decide +kernel
def wb_O_layOut_66 (θ : TH) (a0_9 : Nat) (a1_9 : Nat) (x2_9 : Int32) (x3_9 : Int32) (x4_66 : Int32) (x5_66 : Int32) (x6_66 : Int32) (z0_66 : Int32) (z1_66 : Int32) (z2_66 : Nat) (kb9 : Int32 → Int32 → VT → UT → Prop) (K : VT → UT → Prop) (V : VT) (U : UT) : Prop := ∃ n_19, isA θ z2_66 1 n_19 ∧ vp_in z1_66 n_19 ∧ isZ z0_66 ∧ ∀ V_23 : VT, V_23 = up2 V z2_66 z1_66.toNatClampNeg z0_66 → isO θ a0_9 2 ∧ (U a0_9 2) ≠ 0 ∧ ∃ n_26, isA θ a1_9 0 n_26 ∧ ∃ n_28, isA θ (U a0_9 2) 0 n_28 ∧ ¬ x5_66 < 0 ∧ ¬ (x4_66 * (15 : Int32)) < 0 ∧ ¬ x6_66 < 0 ∧ x5_66.toNatClampNeg + x6_66.toNatClampNeg ≤ n_26 ∧ (x4_66 * (15 : Int32)).toNatClampNeg + x6_66.toNatClampNeg ≤ n_28 ∧ ∀ V_35 : VT, V_35 = (fun q => if q = (U a0_9 2) then va_cpy (V_23 a1_9) (V_23 (U a0_9 2)) x5_66.toNatClampNeg (x4_66 * (15 : Int32)).toNatClampNeg x6_66.toNatClampNeg else V_23 q) → ∀ y_36 : Int32, y_36 = x4_66 + (1 : Int32) → ∀ y_37 : Int32, y_37 = x5_66 + (15 : Int32) → kb9 y_36 y_37 V_35 U
def bl_O_layOut_9 (θ : TH) (a0_9 : Nat) (a1_9 : Nat) (x2_9 : Int32) (x3_9 : Int32) (K : VT → UT → Prop) (kb9 : Int32 → Int32 → VT → UT → Prop) (x4_9 : Int32) (x5_9 : Int32) (V : VT) (U : UT) : Prop := ((x2_9 < x5_9 → K V U) ∧ (¬ x2_9 < x5_9 → (((10 : Int32) ≤ x4_9 → K V U) ∧ (¬ (10 : Int32) ≤ x4_9 → ∀ y_5 : Int32, y_5 = (if (x2_9 - x5_9) < (15 : Int32) then (x2_9 - x5_9) else (15 : Int32)) → isO θ a0_9 2 ∧ (U a0_9 1) ≠ 0 ∧ ∃ n_8, isA θ (U a0_9 1) 0 n_8 ∧ vp_in x4_9 n_8 ∧ ∀ V_11 : VT, V_11 = up2 V (U a0_9 1) x4_9.toNatClampNeg y_5 → (U a0_9 3) ≠ 0 ∧ ∃ n_13, isA θ (U a0_9 3) 0 n_13 ∧ vp_in x4_9 n_13 ∧ ∀ V_16 : VT, V_16 = up2 V_11 (U a0_9 3) x4_9.toNatClampNeg x3_9 → (U a0_9 4) ≠ 0 ∧ ((¬ x5_9 = 0 → wb_O_layOut_66 θ a0_9 a1_9 x2_9 x3_9 x4_9 x5_9 y_5 (0 : Int32) x4_9 (U a0_9 4) kb9 K V_16 U) ∧ (x5_9 = 0 → wb_O_layOut_66 θ a0_9 a1_9 x2_9 x3_9 x4_9 x5_9 y_5 (1 : Int32) x4_9 (U a0_9 4) kb9 K V_16 U))))))
def wl_O_layOut_9 (θ : TH) (a0_9 : Nat) (a1_9 : Nat) (x2_9 : Int32) (x3_9 : Int32) (K : VT → UT → Prop) : Nat → Int32 → Int32 → VT → UT → Prop
  | 0, _, _, _, _ => False
  | n + 1, x4_9, x5_9, V, U => bl_O_layOut_9 θ a0_9 a1_9 x2_9 x3_9 K (wl_O_layOut_9 θ a0_9 a1_9 x2_9 x3_9 K n) x4_9 x5_9 V U
def wp_O_layOut (θ : TH) (a0 : Nat) (a1 : Nat) (x2 : Int32) (x3 : Int32) (V : VT) (U : UT) (K : VT → UT → Prop) : Prop := isO θ a0 2 ∧ ∀ y_2 : Int32, y_2 = (V a0 5) → ∃ n, wl_O_layOut_9 θ a0 a1 x2 x3 K n y_2 (0 : Int32) V U
set_option maxRecDepth 100000 in
set_option maxHeartbeats 4000000 in
theorem c_O_layOut (l : Launch) (θ : TH) (a0 : Nat) (a1 : Nat) (x2 : Int32) (x3 : Int32) (V : VT) (U : UT) (K : VT → UT → Prop) (hw : wp_O_layOut θ a0 a1 x2 x3 V U K) : CMv l yO_layOut kO_layOut 7 none rmO_layOut θ [.ref a0, .ref a1, .int x2, .int x3] V U K := by
  refine g_met nRO (by decide +kernel) rfl (Nat.le_of_ble_eq_true rfl) (fun p e s m args below meth c ls hC hr hlk hwo hl => ?_)
  have hx := hC.1
  have hb := hC.2.1
  have hS : Sx θ s s.heap [] := va_S.rf
  have hl : lv_has ls 7 [(0, .ref a0), (1, .ref a1), (2, .int x2), (3, .int x3)] := hl
  have L9 : ∀ (a0_9 : Nat) (a1_9 : Nat) (x2_9 : Int32) (x3_9 : Int32) (n9 : Nat) (x4_9 : Int32) (x5_9 : Int32) (V : VT) (U : UT) (H : Heap) (locs : List Loc) (ls : Array Slot), wl_O_layOut_9 θ a0_9 a1_9 x2_9 x3_9 K n9 x4_9 x5_9 V U → wo θ V U H → Sx θ s H locs → lv_has ls 7 [(0, .ref a0_9), (1, .ref a1_9), (2, .int x2_9), (3, .int x3_9), (4, .int x4_9), (5, .int x5_9)] → W p l e rmO_layOut s m args below meth c H locs 0 0 (MQ below (QV θ K) args s 0 0 (aT θ)) (F0 m 9 ls []) := by
    intro a0_9 a1_9 x2_9 x3_9 n9
    induction n9 with
    | zero => intro x4_9 x5_9 V U H locs ls hw hwo hS hl; exact (show False from hw).elim
    | succ n9 ih9 =>
      have J66 : ∀ (x4_66 : Int32) (x5_66 : Int32) (x6_66 : Int32) (z0_66 : Int32) (z1_66 : Int32) (z2_66 : Nat) (V : VT) (U : UT) (H : Heap) (locs : List Loc) (ls : Array Slot), wb_O_layOut_66 θ a0_9 a1_9 x2_9 x3_9 x4_66 x5_66 x6_66 z0_66 z1_66 z2_66 (wl_O_layOut_9 θ a0_9 a1_9 x2_9 x3_9 K n9) K V U → wo θ V U H → Sx θ s H locs → lv_has ls 7 [(0, .ref a0_9), (1, .ref a1_9), (2, .int x2_9), (3, .int x3_9), (4, .int x4_66), (5, .int x5_66), (6, .int x6_66)] → W p l e rmO_layOut s m args below meth c H locs 0 0 (MQ below (QV θ K) args s 0 0 (aT θ)) (F0 m 66 ls [.int z0_66, .int z1_66, .ref z2_66]) := by
        intro x4_66 x5_66 x6_66 z0_66 z1_66 z2_66 V U H locs ls hw hwo hS hl
        unfold wb_O_layOut_66 at hw
        obtain ⟨n_19, ha_20, hw⟩ := hw
        obtain ⟨hi_21, hw⟩ := hw
        obtain ⟨hb_22, hw⟩ := hw
        refine g_zast hC hwo hS ha_20 hi_21 hb_22 dO_layOut_66 (fun V_23 eV_23 H locs hwo hS => ?_)
        replace hw := hw V_23 eV_23
        refine lv_aload_n hx hb dO_layOut_67 rfl (lv_at hl 1 rfl) ?_
        refine lv_iload hx hb dO_layOut_68 (lv_at hl 5 rfl) ?_
        refine lv_aload_n hx hb dO_layOut_70 rfl (lv_at hl 0 rfl) ?_
        obtain ⟨ho_24, hw⟩ := hw
        obtain ⟨hz_25, hw⟩ := hw
        refine g_getR hC fkO_15 rfl hwo ho_24 hz_25 dO_layOut_71 ?_
        refine lv_iload hx hb dO_layOut_74 (lv_at hl 4 rfl) ?_
        refine lv_bipush (v := 15) hx hb dO_layOut_76 (by decide) ?_
        refine lv_imul hx hb dO_layOut_78 ?_
        refine lv_iload hx hb dO_layOut_79 (lv_at hl 6 rfl) ?_
        obtain ⟨n_26, ha_27, hw⟩ := hw
        obtain ⟨n_28, ha_29, hw⟩ := hw
        obtain ⟨hp_30, hw⟩ := hw
        obtain ⟨hp_31, hw⟩ := hw
        obtain ⟨hp_32, hw⟩ := hw
        obtain ⟨hp_33, hw⟩ := hw
        obtain ⟨hp_34, hw⟩ := hw
        refine g_copy hC hl.1 lkO_60 ka_copy hwo hS ha_27 ha_29 hp_30 hp_31 hp_32 hp_33 hp_34 (by decide) (Nat.le_of_ble_eq_true rfl) dO_layOut_81 (fun V_35 eV_35 H locs hwo hS => ?_)
        replace hw := hw V_35 eV_35
        obtain ⟨y_36, ey_36⟩ : ∃ z : Int32, z = x4_66 + (1 : Int32) := ⟨_, rfl⟩
        replace hw := hw y_36 ey_36
        refine lv_iinc (k := 4) (v := y_36) (lv' := [(4, .int y_36), (0, .ref a0_9), (1, .ref a1_9), (2, .int x2_9), (3, .int x3_9), (5, .int x5_66), (6, .int x6_66)]) hx hb dO_layOut_84 hl rfl (by rw [ey_36]; rfl) (by decide) rfl (fun ls hl => ?_)
        obtain ⟨y_37, ey_37⟩ : ∃ z : Int32, z = x5_66 + (15 : Int32) := ⟨_, rfl⟩
        replace hw := hw y_37 ey_37
        refine lv_iinc (k := 5) (v := y_37) (lv' := [(5, .int y_37), (4, .int y_36), (0, .ref a0_9), (1, .ref a1_9), (2, .int x2_9), (3, .int x3_9), (6, .int x6_66)]) hx hb dO_layOut_87 hl rfl (by rw [ey_37]; rfl) (by decide) rfl (fun ls hl => ?_)
        refine lv_goto (tgt := 9) hx hb dO_layOut_90 (by decide) ?_
        exact ih9 _ _ _ _ _ _ _ hw hwo hS (lv_sub hl [2, 3, 4, 5, 1, 0] rfl)
      intro x4_9 x5_9 V U H locs ls hw hwo hS hl
      replace hw : bl_O_layOut_9 θ a0_9 a1_9 x2_9 x3_9 K (wl_O_layOut_9 θ a0_9 a1_9 x2_9 x3_9 K n9) x4_9 x5_9 V U := hw
      unfold bl_O_layOut_9 at hw
      refine lv_iload hx hb dO_layOut_9 (lv_at hl 5 rfl) ?_
      refine lv_iload_n hx hb dO_layOut_11 rfl (lv_at hl 2 rfl) ?_
      refine lv_icmp_gt (tgt := 93) hx hb dO_layOut_12 (by decide) (fun hc_3 => ?_) (fun hc_3 => ?_)
      · replace hw := hw.1 hc_3
        exact g_vret hC hr hlk hw hwo hS dO_layOut_93
      · replace hw := hw.2 hc_3
        refine lv_iload hx hb dO_layOut_15 (lv_at hl 4 rfl) ?_
        refine lv_bipush (v := 10) hx hb dO_layOut_17 (by decide) ?_
        refine lv_icmp_ge (tgt := 93) hx hb dO_layOut_19 (by decide) (fun hc_4 => ?_) (fun hc_4 => ?_)
        · replace hw := hw.1 hc_4
          exact g_vret hC hr hlk hw hwo hS dO_layOut_93
        · replace hw := hw.2 hc_4
          refine lv_bipush (v := 15) hx hb dO_layOut_22 (by decide) ?_
          refine lv_iload_n hx hb dO_layOut_24 rfl (lv_at hl 2 rfl) ?_
          refine lv_iload hx hb dO_layOut_25 (lv_at hl 5 rfl) ?_
          refine lv_isub hx hb dO_layOut_27 ?_
          refine g_min hC hl.1 lkO_54 ka_min (by decide) (Nat.le_of_ble_eq_true rfl) dO_layOut_28 ?_
          refine lv_topi (fun y_5 ey_5 => ?_)
          replace hw := hw y_5 ey_5
          refine lv_istore (i := 6) (lv' := [(6, .int y_5), (0, .ref a0_9), (1, .ref a1_9), (2, .int x2_9), (3, .int x3_9), (4, .int x4_9), (5, .int x5_9)]) hx hb dO_layOut_31 hl (by decide) rfl (fun ls hl => ?_)
          refine lv_aload_n hx hb dO_layOut_33 rfl (lv_at hl 1 rfl) ?_
          obtain ⟨ho_6, hw⟩ := hw
          obtain ⟨hz_7, hw⟩ := hw
          refine g_getR hC fkO_11 rfl hwo ho_6 hz_7 dO_layOut_34 ?_
          refine lv_iload hx hb dO_layOut_37 (lv_at hl 5 rfl) ?_
          refine lv_iload hx hb dO_layOut_39 (lv_at hl 0 rfl) ?_
          obtain ⟨n_8, ha_9, hw⟩ := hw
          obtain ⟨hi_10, hw⟩ := hw
          refine g_iast hC hwo hS ha_9 hi_10 dO_layOut_41 (fun V_11 eV_11 H locs hwo hS => ?_)
          replace hw := hw V_11 eV_11
          refine lv_aload_n hx hb dO_layOut_42 rfl (lv_at hl 1 rfl) ?_
          obtain ⟨hz_12, hw⟩ := hw
          refine g_getR hC fkO_18 rfl hwo ho_6 hz_12 dO_layOut_43 ?_
          refine lv_iload hx hb dO_layOut_46 (lv_at hl 5 rfl) ?_
          refine lv_iload_n hx hb dO_layOut_48 rfl (lv_at hl 4 rfl) ?_
          obtain ⟨n_13, ha_14, hw⟩ := hw
          obtain ⟨hi_15, hw⟩ := hw
          refine g_iast hC hwo hS ha_14 hi_15 dO_layOut_49 (fun V_16 eV_16 H locs hwo hS => ?_)
          replace hw := hw V_16 eV_16
          refine lv_aload_n hx hb dO_layOut_50 rfl (lv_at hl 1 rfl) ?_
          obtain ⟨hz_17, hw⟩ := hw
          refine g_getR hC fkO_21 rfl hwo ho_6 hz_17 dO_layOut_51 ?_
          refine lv_iload hx hb dO_layOut_54 (lv_at hl 5 rfl) ?_
          refine lv_iload hx hb dO_layOut_56 (lv_at hl 6 rfl) ?_
          refine lv_if_ne (tgt := 65) hx hb dO_layOut_58 (by decide) (fun hc_18 => ?_) (fun hc_18 => ?_)
          · replace hw := hw.1 hc_18
            refine lv_iconst (v := 0) hx hb dO_layOut_65 (by decide) ?_
            exact J66 _ _ _ _ _ _ _ _ _ _ _ hw hwo hS (lv_sub hl [1, 2, 3, 4, 5, 6, 0] rfl)
          · replace hw := hw.2 hc_18
            refine lv_iconst (v := 1) hx hb dO_layOut_61 (by decide) ?_
            refine lv_goto (tgt := 66) hx hb dO_layOut_62 (by decide) ?_
            exact J66 _ _ _ _ _ _ _ _ _ _ _ hw hwo hS (lv_sub hl [1, 2, 3, 4, 5, 6, 0] rfl)
  unfold wp_O_layOut at hw
  refine lv_aload_n hx hb dO_layOut_0 rfl (lv_at hl 0 rfl) ?_
  obtain ⟨ho_1, hw⟩ := hw
  refine g_getI hC fkO_29 rfl hwo ho_1 dO_layOut_1 ?_
  refine lv_topi (fun y_2 ey_2 => ?_)
  replace hw := hw y_2 ey_2
  refine lv_istore (i := 4) (lv' := [(4, .int y_2), (0, .ref a0), (1, .ref a1), (2, .int x2), (3, .int x3)]) hx hb dO_layOut_4 hl (by decide) rfl (fun ls hl => ?_)
  refine lv_iconst (v := 0) hx hb dO_layOut_6 (by decide) ?_
  refine lv_istore (i := 5) (lv' := [(5, .int (0 : Int32)), (4, .int y_2), (0, .ref a0), (1, .ref a1), (2, .int x2), (3, .int x3)]) hx hb dO_layOut_7 hl (by decide) rfl (fun ls hl => ?_)
  obtain ⟨n, hw⟩ := hw
  exact L9 _ _ _ _ n _ _ _ _ _ _ _ hw hwo hS (lv_sub hl [2, 3, 4, 5, 1, 0] rfl)
theorem dO_pageSize_0 : decode kO_pageSize 0 = .ok (.bipush 14, 2) := by decide +kernel
theorem dO_pageSize_2 : decode kO_pageSize 2 = .ok (.iload_n 1, 1) := by decide +kernel
theorem dO_pageSize_3 : decode kO_pageSize 3 = .ok (.iadd, 1) := by decide +kernel
theorem dO_pageSize_4 : decode kO_pageSize 4 = .ok (.istore_n 2, 1) := by decide +kernel
theorem dO_pageSize_5 : decode kO_pageSize 5 = .ok (.iconst 0, 1) := by decide +kernel
theorem dO_pageSize_6 : decode kO_pageSize 6 = .ok (.istore_n 3, 1) := by decide +kernel
theorem dO_pageSize_7 : decode kO_pageSize 7 = .ok (.iload_n 3, 1) := by decide +kernel
theorem dO_pageSize_8 : decode kO_pageSize 8 = .ok (.iload_n 1, 1) := by decide +kernel
theorem dO_pageSize_9 : decode kO_pageSize 9 = .ok (.if_icmp .ge 18, 3) := by decide +kernel
theorem dO_pageSize_12 : decode kO_pageSize 12 = .ok (.iload_n 2, 1) := by decide +kernel
theorem dO_pageSize_13 : decode kO_pageSize 13 = .ok (.aload_n 0, 1) := by decide +kernel
theorem dO_pageSize_14 : decode kO_pageSize 14 = .ok (.getfield 11, 3) := by decide +kernel
theorem dO_pageSize_17 : decode kO_pageSize 17 = .ok (.iload_n 3, 1) := by decide +kernel
theorem dO_pageSize_18 : decode kO_pageSize 18 = .ok (.iaload, 1) := by decide +kernel
theorem dO_pageSize_19 : decode kO_pageSize 19 = .ok (.iadd, 1) := by decide +kernel
theorem dO_pageSize_20 : decode kO_pageSize 20 = .ok (.istore_n 2, 1) := by decide +kernel
theorem dO_pageSize_21 : decode kO_pageSize 21 = .ok (.iinc 3 1, 3) := by decide +kernel
theorem dO_pageSize_24 : decode kO_pageSize 24 = .ok (.goto (-17), 3) := by decide +kernel
theorem dO_pageSize_27 : decode kO_pageSize 27 = .ok (.iload_n 2, 1) := by decide +kernel
theorem dO_pageSize_28 : decode kO_pageSize 28 = .ok (.ireturn, 1) := by decide +kernel
def bl_O_pageSize_7 (θ : TH) (a0_7 : Nat) (x1_7 : Int32) (K : Int32 → VT → UT → Prop) (kb7 : Int32 → Int32 → VT → UT → Prop) (x2_7 : Int32) (x3_7 : Int32) (V : VT) (U : UT) : Prop := ((x1_7 ≤ x3_7 → K x2_7 V U) ∧ (¬ x1_7 ≤ x3_7 → isO θ a0_7 2 ∧ (U a0_7 1) ≠ 0 ∧ ∃ n_5, isA θ (U a0_7 1) 0 n_5 ∧ vp_in x3_7 n_5 ∧ ∀ y_8 : Int32, y_8 = (x2_7 + (V (U a0_7 1) x3_7.toNatClampNeg)) → ∀ y_9 : Int32, y_9 = x3_7 + (1 : Int32) → kb7 y_8 y_9 V U))
def wl_O_pageSize_7 (θ : TH) (a0_7 : Nat) (x1_7 : Int32) (K : Int32 → VT → UT → Prop) : Nat → Int32 → Int32 → VT → UT → Prop
  | 0, _, _, _, _ => False
  | n + 1, x2_7, x3_7, V, U => bl_O_pageSize_7 θ a0_7 x1_7 K (wl_O_pageSize_7 θ a0_7 x1_7 K n) x2_7 x3_7 V U
def wp_O_pageSize (θ : TH) (a0 : Nat) (x1 : Int32) (V : VT) (U : UT) (K : Int32 → VT → UT → Prop) : Prop := ∀ y_1 : Int32, y_1 = ((14 : Int32) + x1) → ∃ n, wl_O_pageSize_7 θ a0 x1 K n y_1 (0 : Int32) V U
set_option maxRecDepth 100000 in
set_option maxHeartbeats 4000000 in
theorem c_O_pageSize (l : Launch) (θ : TH) (a0 : Nat) (x1 : Int32) (V : VT) (U : UT) (K : Int32 → VT → UT → Prop) (hw : wp_O_pageSize θ a0 x1 V U K) : CMi l yO_pageSize kO_pageSize 4 (some .int) rmO_pageSize θ [.ref a0, .int x1] V U K := by
  refine g_met nRO (by decide +kernel) rfl (Nat.le_of_ble_eq_true rfl) (fun p e s m args below meth c ls hC hr hlk hwo hl => ?_)
  have hx := hC.1
  have hb := hC.2.1
  have hS : Sx θ s s.heap [] := va_S.rf
  have hl : lv_has ls 4 [(0, .ref a0), (1, .int x1)] := hl
  have L7 : ∀ (a0_7 : Nat) (x1_7 : Int32) (n7 : Nat) (x2_7 : Int32) (x3_7 : Int32) (V : VT) (U : UT) (H : Heap) (locs : List Loc) (ls : Array Slot), wl_O_pageSize_7 θ a0_7 x1_7 K n7 x2_7 x3_7 V U → wo θ V U H → Sx θ s H locs → lv_has ls 4 [(0, .ref a0_7), (1, .int x1_7), (2, .int x2_7), (3, .int x3_7)] → W p l e rmO_pageSize s m args below meth c H locs 0 0 (MQ below (QI θ K) args s 0 0 (aT θ)) (F0 m 7 ls []) := by
    intro a0_7 x1_7 n7
    induction n7 with
    | zero => intro x2_7 x3_7 V U H locs ls hw hwo hS hl; exact (show False from hw).elim
    | succ n7 ih7 =>
      intro x2_7 x3_7 V U H locs ls hw hwo hS hl
      replace hw : bl_O_pageSize_7 θ a0_7 x1_7 K (wl_O_pageSize_7 θ a0_7 x1_7 K n7) x2_7 x3_7 V U := hw
      unfold bl_O_pageSize_7 at hw
      refine lv_iload_n hx hb dO_pageSize_7 rfl (lv_at hl 3 rfl) ?_
      refine lv_iload_n hx hb dO_pageSize_8 rfl (lv_at hl 1 rfl) ?_
      refine lv_icmp_ge (tgt := 27) hx hb dO_pageSize_9 (by decide) (fun hc_2 => ?_) (fun hc_2 => ?_)
      · replace hw := hw.1 hc_2
        refine lv_iload_n hx hb dO_pageSize_27 rfl (lv_at hl 2 rfl) ?_
        exact g_iret hC hr hlk hw hwo hS dO_pageSize_28
      · replace hw := hw.2 hc_2
        refine lv_iload_n hx hb dO_pageSize_12 rfl (lv_at hl 2 rfl) ?_
        refine lv_aload_n hx hb dO_pageSize_13 rfl (lv_at hl 0 rfl) ?_
        obtain ⟨ho_3, hw⟩ := hw
        obtain ⟨hz_4, hw⟩ := hw
        refine g_getR hC fkO_11 rfl hwo ho_3 hz_4 dO_pageSize_14 ?_
        refine lv_iload_n hx hb dO_pageSize_17 rfl (lv_at hl 3 rfl) ?_
        obtain ⟨n_5, ha_6, hw⟩ := hw
        obtain ⟨hi_7, hw⟩ := hw
        refine g_iald hC hwo ha_6 hi_7 dO_pageSize_18 ?_
        refine lv_iadd hx hb dO_pageSize_19 ?_
        refine lv_topi (fun y_8 ey_8 => ?_)
        replace hw := hw y_8 ey_8
        refine lv_istore_n (i := 2) (lv' := [(2, .int y_8), (0, .ref a0_7), (1, .int x1_7), (3, .int x3_7)]) hx hb dO_pageSize_20 rfl hl (by decide) rfl (fun ls hl => ?_)
        obtain ⟨y_9, ey_9⟩ : ∃ z : Int32, z = x3_7 + (1 : Int32) := ⟨_, rfl⟩
        replace hw := hw y_9 ey_9
        refine lv_iinc (k := 3) (v := y_9) (lv' := [(3, .int y_9), (2, .int y_8), (0, .ref a0_7), (1, .int x1_7)]) hx hb dO_pageSize_21 hl rfl (by rw [ey_9]; rfl) (by decide) rfl (fun ls hl => ?_)
        refine lv_goto (tgt := 7) hx hb dO_pageSize_24 (by decide) ?_
        exact ih7 _ _ _ _ _ _ _ hw hwo hS (lv_sub hl [2, 3, 1, 0] rfl)
  unfold wp_O_pageSize at hw
  refine lv_bipush (v := 14) hx hb dO_pageSize_0 (by decide) ?_
  refine lv_iload_n hx hb dO_pageSize_2 rfl (lv_at hl 1 rfl) ?_
  refine lv_iadd hx hb dO_pageSize_3 ?_
  refine lv_topi (fun y_1 ey_1 => ?_)
  replace hw := hw y_1 ey_1
  refine lv_istore_n (i := 2) (lv' := [(2, .int y_1), (0, .ref a0), (1, .int x1)]) hx hb dO_pageSize_4 rfl hl (by decide) rfl (fun ls hl => ?_)
  refine lv_iconst (v := 0) hx hb dO_pageSize_5 (by decide) ?_
  refine lv_istore_n (i := 3) (lv' := [(3, .int (0 : Int32)), (2, .int y_1), (0, .ref a0), (1, .int x1)]) hx hb dO_pageSize_6 rfl hl (by decide) rfl (fun ls hl => ?_)
  obtain ⟨n, hw⟩ := hw
  exact L7 _ _ n _ _ _ _ _ _ _ hw hwo hS (lv_sub hl [2, 3, 1, 0] rfl)
theorem dO_flagsOf_0 : decode kO_flagsOf 0 = .ok (.iload_n 1, 1) := by decide +kernel
theorem dO_flagsOf_1 : decode kO_flagsOf 1 = .ok (.ifCond .le 16, 3) := by decide +kernel
theorem dO_flagsOf_4 : decode kO_flagsOf 4 = .ok (.aload_n 0, 1) := by decide +kernel
theorem dO_flagsOf_5 : decode kO_flagsOf 5 = .ok (.getfield 21, 3) := by decide +kernel
theorem dO_flagsOf_8 : decode kO_flagsOf 8 = .ok (.iconst 0, 1) := by decide +kernel
theorem dO_flagsOf_9 : decode kO_flagsOf 9 = .ok (.baload, 1) := by decide +kernel
theorem dO_flagsOf_10 : decode kO_flagsOf 10 = .ok (.ifCond .ne 7, 3) := by decide +kernel
theorem dO_flagsOf_13 : decode kO_flagsOf 13 = .ok (.iconst 1, 1) := by decide +kernel
theorem dO_flagsOf_14 : decode kO_flagsOf 14 = .ok (.goto 4, 3) := by decide +kernel
theorem dO_flagsOf_17 : decode kO_flagsOf 17 = .ok (.iconst 0, 1) := by decide +kernel
theorem dO_flagsOf_18 : decode kO_flagsOf 18 = .ok (.istore_n 3, 1) := by decide +kernel
theorem dO_flagsOf_19 : decode kO_flagsOf 19 = .ok (.iload_n 3, 1) := by decide +kernel
theorem dO_flagsOf_20 : decode kO_flagsOf 20 = .ok (.aload_n 0, 1) := by decide +kernel
theorem dO_flagsOf_21 : decode kO_flagsOf 21 = .ok (.getfield 80, 3) := by decide +kernel
theorem dO_flagsOf_24 : decode kO_flagsOf 24 = .ok (.ifCond .ne 7, 3) := by decide +kernel
theorem dO_flagsOf_27 : decode kO_flagsOf 27 = .ok (.iconst 2, 1) := by decide +kernel
theorem dO_flagsOf_28 : decode kO_flagsOf 28 = .ok (.goto 4, 3) := by decide +kernel
theorem dO_flagsOf_31 : decode kO_flagsOf 31 = .ok (.iconst 0, 1) := by decide +kernel
theorem dO_flagsOf_32 : decode kO_flagsOf 32 = .ok (.ior, 1) := by decide +kernel
theorem dO_flagsOf_33 : decode kO_flagsOf 33 = .ok (.istore_n 3, 1) := by decide +kernel
theorem dO_flagsOf_34 : decode kO_flagsOf 34 = .ok (.iload_n 3, 1) := by decide +kernel
theorem dO_flagsOf_35 : decode kO_flagsOf 35 = .ok (.iload_n 2, 1) := by decide +kernel
theorem dO_flagsOf_36 : decode kO_flagsOf 36 = .ok (.ifCond .eq 7, 3) := by decide +kernel
theorem dO_flagsOf_39 : decode kO_flagsOf 39 = .ok (.iconst 4, 1) := by decide +kernel
theorem dO_flagsOf_40 : decode kO_flagsOf 40 = .ok (.goto 4, 3) := by decide +kernel
theorem dO_flagsOf_43 : decode kO_flagsOf 43 = .ok (.iconst 0, 1) := by decide +kernel
theorem dO_flagsOf_44 : decode kO_flagsOf 44 = .ok (.ior, 1) := by decide +kernel
theorem dO_flagsOf_45 : decode kO_flagsOf 45 = .ok (.ireturn, 1) := by decide +kernel
def wb_O_flagsOf_32 (θ : TH) (x2_32 : Int32) (z0_32 : Int32) (z1_32 : Int32) (K : Int32 → VT → UT → Prop) (V : VT) (U : UT) : Prop := ∀ y_10 : Int32, y_10 = (z1_32 ||| z0_32) → ((x2_32 = 0 → K (y_10 ||| (0 : Int32)) V U) ∧ (¬ x2_32 = 0 → K (y_10 ||| (4 : Int32)) V U))
def wb_O_flagsOf_18 (θ : TH) (a0_18 : Nat) (x2_18 : Int32) (z0_18 : Int32) (K : Int32 → VT → UT → Prop) (V : VT) (U : UT) : Prop := isO θ a0_18 2 ∧ ((¬ (V a0_18 6) = 0 → wb_O_flagsOf_32 θ x2_18 (0 : Int32) z0_18 K V U) ∧ ((V a0_18 6) = 0 → wb_O_flagsOf_32 θ x2_18 (2 : Int32) z0_18 K V U))
def wb_O_flagsOf_17 (θ : TH) (a0_17 : Nat) (x2_17 : Int32) (K : Int32 → VT → UT → Prop) (V : VT) (U : UT) : Prop := wb_O_flagsOf_18 θ a0_17 x2_17 (0 : Int32) K V U
def wp_O_flagsOf (θ : TH) (a0 : Nat) (x1 : Int32) (x2 : Int32) (V : VT) (U : UT) (K : Int32 → VT → UT → Prop) : Prop := ((x1 ≤ 0 → wb_O_flagsOf_17 θ a0 x2 K V U) ∧ (¬ x1 ≤ 0 → isO θ a0 2 ∧ (U a0 4) ≠ 0 ∧ ∃ n_4, isA θ (U a0 4) 1 n_4 ∧ vp_in (0 : Int32) n_4 ∧ ((¬ (V (U a0 4) (0 : Int32).toNatClampNeg) = 0 → wb_O_flagsOf_17 θ a0 x2 K V U) ∧ ((V (U a0 4) (0 : Int32).toNatClampNeg) = 0 → wb_O_flagsOf_18 θ a0 x2 (1 : Int32) K V U))))
set_option maxRecDepth 100000 in
set_option maxHeartbeats 4000000 in
theorem c_O_flagsOf (l : Launch) (θ : TH) (a0 : Nat) (x1 : Int32) (x2 : Int32) (V : VT) (U : UT) (K : Int32 → VT → UT → Prop) (hw : wp_O_flagsOf θ a0 x1 x2 V U K) : CMi l yO_flagsOf kO_flagsOf 4 (some .int) rmO_flagsOf θ [.ref a0, .int x1, .int x2] V U K := by
  refine g_met nRO (by decide +kernel) rfl (Nat.le_of_ble_eq_true rfl) (fun p e s m args below meth c ls hC hr hlk hwo hl => ?_)
  have hx := hC.1
  have hb := hC.2.1
  have hS : Sx θ s s.heap [] := va_S.rf
  have hl : lv_has ls 4 [(0, .ref a0), (1, .int x1), (2, .int x2)] := hl
  have J32 : ∀ (x2_32 : Int32) (z0_32 : Int32) (z1_32 : Int32) (V : VT) (U : UT) (H : Heap) (locs : List Loc) (ls : Array Slot), wb_O_flagsOf_32 θ x2_32 z0_32 z1_32 K V U → wo θ V U H → Sx θ s H locs → lv_has ls 4 [(2, .int x2_32)] → W p l e rmO_flagsOf s m args below meth c H locs 0 0 (MQ below (QI θ K) args s 0 0 (aT θ)) (F0 m 32 ls [.int z0_32, .int z1_32]) := by
    intro x2_32 z0_32 z1_32 V U H locs ls hw hwo hS hl
    unfold wb_O_flagsOf_32 at hw
    refine lv_ior hx hb dO_flagsOf_32 ?_
    refine lv_topi (fun y_10 ey_10 => ?_)
    replace hw := hw y_10 ey_10
    refine lv_istore_n (i := 3) (lv' := [(3, .int y_10), (2, .int x2_32)]) hx hb dO_flagsOf_33 rfl hl (by decide) rfl (fun ls hl => ?_)
    refine lv_iload_n hx hb dO_flagsOf_34 rfl (lv_at hl 0 rfl) ?_
    refine lv_iload_n hx hb dO_flagsOf_35 rfl (lv_at hl 1 rfl) ?_
    refine lv_if_eq (tgt := 43) hx hb dO_flagsOf_36 (by decide) (fun hc_11 => ?_) (fun hc_11 => ?_)
    · replace hw := hw.1 hc_11
      refine lv_iconst (v := 0) hx hb dO_flagsOf_43 (by decide) ?_
      refine lv_ior hx hb dO_flagsOf_44 ?_
      exact g_iret hC hr hlk hw hwo hS dO_flagsOf_45
    · replace hw := hw.2 hc_11
      refine lv_iconst (v := 4) hx hb dO_flagsOf_39 (by decide) ?_
      refine lv_goto (tgt := 44) hx hb dO_flagsOf_40 (by decide) ?_
      refine lv_ior hx hb dO_flagsOf_44 ?_
      exact g_iret hC hr hlk hw hwo hS dO_flagsOf_45
  have J18 : ∀ (a0_18 : Nat) (x2_18 : Int32) (z0_18 : Int32) (V : VT) (U : UT) (H : Heap) (locs : List Loc) (ls : Array Slot), wb_O_flagsOf_18 θ a0_18 x2_18 z0_18 K V U → wo θ V U H → Sx θ s H locs → lv_has ls 4 [(0, .ref a0_18), (2, .int x2_18)] → W p l e rmO_flagsOf s m args below meth c H locs 0 0 (MQ below (QI θ K) args s 0 0 (aT θ)) (F0 m 18 ls [.int z0_18]) := by
    intro a0_18 x2_18 z0_18 V U H locs ls hw hwo hS hl
    unfold wb_O_flagsOf_18 at hw
    refine lv_istore_n (i := 3) (lv' := [(3, .int z0_18), (0, .ref a0_18), (2, .int x2_18)]) hx hb dO_flagsOf_18 rfl hl (by decide) rfl (fun ls hl => ?_)
    refine lv_iload_n hx hb dO_flagsOf_19 rfl (lv_at hl 0 rfl) ?_
    refine lv_aload_n hx hb dO_flagsOf_20 rfl (lv_at hl 1 rfl) ?_
    obtain ⟨ho_8, hw⟩ := hw
    refine g_getI hC fkO_80 rfl hwo ho_8 dO_flagsOf_21 ?_
    refine lv_if_ne (tgt := 31) hx hb dO_flagsOf_24 (by decide) (fun hc_9 => ?_) (fun hc_9 => ?_)
    · replace hw := hw.1 hc_9
      refine lv_iconst (v := 0) hx hb dO_flagsOf_31 (by decide) ?_
      exact J32 _ _ _ _ _ _ _ _ hw hwo hS (lv_sub hl [2] rfl)
    · replace hw := hw.2 hc_9
      refine lv_iconst (v := 2) hx hb dO_flagsOf_27 (by decide) ?_
      refine lv_goto (tgt := 32) hx hb dO_flagsOf_28 (by decide) ?_
      exact J32 _ _ _ _ _ _ _ _ hw hwo hS (lv_sub hl [2] rfl)
  have J17 : ∀ (a0_17 : Nat) (x2_17 : Int32) (V : VT) (U : UT) (H : Heap) (locs : List Loc) (ls : Array Slot), wb_O_flagsOf_17 θ a0_17 x2_17 K V U → wo θ V U H → Sx θ s H locs → lv_has ls 4 [(0, .ref a0_17), (2, .int x2_17)] → W p l e rmO_flagsOf s m args below meth c H locs 0 0 (MQ below (QI θ K) args s 0 0 (aT θ)) (F0 m 17 ls []) := by
    intro a0_17 x2_17 V U H locs ls hw hwo hS hl
    unfold wb_O_flagsOf_17 at hw
    refine lv_iconst (v := 0) hx hb dO_flagsOf_17 (by decide) ?_
    exact J18 _ _ _ _ _ _ _ _ hw hwo hS (lv_sub hl [0, 1] rfl)
  unfold wp_O_flagsOf at hw
  refine lv_iload_n hx hb dO_flagsOf_0 rfl (lv_at hl 1 rfl) ?_
  refine lv_if_le (tgt := 17) hx hb dO_flagsOf_1 (by decide) (fun hc_1 => ?_) (fun hc_1 => ?_)
  · replace hw := hw.1 hc_1
    exact J17 _ _ _ _ _ _ _ hw hwo hS (lv_sub hl [0, 2] rfl)
  · replace hw := hw.2 hc_1
    refine lv_aload_n hx hb dO_flagsOf_4 rfl (lv_at hl 0 rfl) ?_
    obtain ⟨ho_2, hw⟩ := hw
    obtain ⟨hz_3, hw⟩ := hw
    refine g_getR hC fkO_21 rfl hwo ho_2 hz_3 dO_flagsOf_5 ?_
    refine lv_iconst (v := 0) hx hb dO_flagsOf_8 (by decide) ?_
    obtain ⟨n_4, ha_5, hw⟩ := hw
    obtain ⟨hi_6, hw⟩ := hw
    refine g_zald hC hwo ha_5 hi_6 dO_flagsOf_9 ?_
    refine lv_if_ne (tgt := 17) hx hb dO_flagsOf_10 (by decide) (fun hc_7 => ?_) (fun hc_7 => ?_)
    · replace hw := hw.1 hc_7
      exact J17 _ _ _ _ _ _ _ hw hwo hS (lv_sub hl [0, 2] rfl)
    · replace hw := hw.2 hc_7
      refine lv_iconst (v := 1) hx hb dO_flagsOf_13 (by decide) ?_
      refine lv_goto (tgt := 18) hx hb dO_flagsOf_14 (by decide) ?_
      exact J18 _ _ _ _ _ _ _ _ hw hwo hS (lv_sub hl [0, 2] rfl)
theorem dO_timeOf_0 : decode kO_timeOf 0 = .ok (.ldc 92, 2) := by decide +kernel
theorem dO_timeOf_2 : decode kO_timeOf 2 = .ok (.istore_n 2, 1) := by decide +kernel
theorem dO_timeOf_3 : decode kO_timeOf 3 = .ok (.iconst 0, 1) := by decide +kernel
theorem dO_timeOf_4 : decode kO_timeOf 4 = .ok (.istore_n 3, 1) := by decide +kernel
theorem dO_timeOf_5 : decode kO_timeOf 5 = .ok (.iload_n 3, 1) := by decide +kernel
theorem dO_timeOf_6 : decode kO_timeOf 6 = .ok (.iload_n 1, 1) := by decide +kernel
theorem dO_timeOf_7 : decode kO_timeOf 7 = .ok (.if_icmp .ge 27, 3) := by decide +kernel
theorem dO_timeOf_10 : decode kO_timeOf 10 = .ok (.aload_n 0, 1) := by decide +kernel
theorem dO_timeOf_11 : decode kO_timeOf 11 = .ok (.getfield 11, 3) := by decide +kernel
theorem dO_timeOf_14 : decode kO_timeOf 14 = .ok (.iload_n 3, 1) := by decide +kernel
theorem dO_timeOf_15 : decode kO_timeOf 15 = .ok (.iaload, 1) := by decide +kernel
theorem dO_timeOf_16 : decode kO_timeOf 16 = .ok (.bipush 15, 2) := by decide +kernel
theorem dO_timeOf_18 : decode kO_timeOf 18 = .ok (.if_icmp .ge 10, 3) := by decide +kernel
theorem dO_timeOf_21 : decode kO_timeOf 21 = .ok (.aload_n 0, 1) := by decide +kernel
theorem dO_timeOf_22 : decode kO_timeOf 22 = .ok (.getfield 18, 3) := by decide +kernel
theorem dO_timeOf_25 : decode kO_timeOf 25 = .ok (.iload_n 3, 1) := by decide +kernel
theorem dO_timeOf_26 : decode kO_timeOf 26 = .ok (.iaload, 1) := by decide +kernel
theorem dO_timeOf_27 : decode kO_timeOf 27 = .ok (.istore_n 2, 1) := by decide +kernel
theorem dO_timeOf_28 : decode kO_timeOf 28 = .ok (.iinc 3 1, 3) := by decide +kernel
theorem dO_timeOf_31 : decode kO_timeOf 31 = .ok (.goto (-26), 3) := by decide +kernel
theorem dO_timeOf_34 : decode kO_timeOf 34 = .ok (.iload_n 2, 1) := by decide +kernel
theorem dO_timeOf_35 : decode kO_timeOf 35 = .ok (.ireturn, 1) := by decide +kernel
def bl_O_timeOf_5 (θ : TH) (a0_5 : Nat) (x1_5 : Int32) (K : Int32 → VT → UT → Prop) (kb5 : Int32 → Int32 → VT → UT → Prop) (x2_5 : Int32) (x3_5 : Int32) (V : VT) (U : UT) : Prop := ((x1_5 ≤ x3_5 → K x2_5 V U) ∧ (¬ x1_5 ≤ x3_5 → isO θ a0_5 2 ∧ (U a0_5 1) ≠ 0 ∧ ∃ n_4, isA θ (U a0_5 1) 0 n_4 ∧ vp_in x3_5 n_4 ∧ (((15 : Int32) ≤ (V (U a0_5 1) x3_5.toNatClampNeg) → ∀ y_8 : Int32, y_8 = x3_5 + (1 : Int32) → kb5 x2_5 y_8 V U) ∧ (¬ (15 : Int32) ≤ (V (U a0_5 1) x3_5.toNatClampNeg) → (U a0_5 3) ≠ 0 ∧ ∃ n_10, isA θ (U a0_5 3) 0 n_10 ∧ vp_in x3_5 n_10 ∧ ∀ y_13 : Int32, y_13 = (V (U a0_5 3) x3_5.toNatClampNeg) → ∀ y_14 : Int32, y_14 = x3_5 + (1 : Int32) → kb5 y_13 y_14 V U))))
def wl_O_timeOf_5 (θ : TH) (a0_5 : Nat) (x1_5 : Int32) (K : Int32 → VT → UT → Prop) : Nat → Int32 → Int32 → VT → UT → Prop
  | 0, _, _, _, _ => False
  | n + 1, x2_5, x3_5, V, U => bl_O_timeOf_5 θ a0_5 x1_5 K (wl_O_timeOf_5 θ a0_5 x1_5 K n) x2_5 x3_5 V U
def wp_O_timeOf (θ : TH) (a0 : Nat) (x1 : Int32) (V : VT) (U : UT) (K : Int32 → VT → UT → Prop) : Prop := ∃ n, wl_O_timeOf_5 θ a0 x1 K n (65535 : Int32) (0 : Int32) V U
set_option maxRecDepth 100000 in
set_option maxHeartbeats 4000000 in
theorem c_O_timeOf (l : Launch) (θ : TH) (a0 : Nat) (x1 : Int32) (V : VT) (U : UT) (K : Int32 → VT → UT → Prop) (hw : wp_O_timeOf θ a0 x1 V U K) : CMi l yO_timeOf kO_timeOf 4 (some .int) rmO_timeOf θ [.ref a0, .int x1] V U K := by
  refine g_met nRO (by decide +kernel) rfl (Nat.le_of_ble_eq_true rfl) (fun p e s m args below meth c ls hC hr hlk hwo hl => ?_)
  have hx := hC.1
  have hb := hC.2.1
  have hS : Sx θ s s.heap [] := va_S.rf
  have hl : lv_has ls 4 [(0, .ref a0), (1, .int x1)] := hl
  have L5 : ∀ (a0_5 : Nat) (x1_5 : Int32) (n5 : Nat) (x2_5 : Int32) (x3_5 : Int32) (V : VT) (U : UT) (H : Heap) (locs : List Loc) (ls : Array Slot), wl_O_timeOf_5 θ a0_5 x1_5 K n5 x2_5 x3_5 V U → wo θ V U H → Sx θ s H locs → lv_has ls 4 [(0, .ref a0_5), (1, .int x1_5), (2, .int x2_5), (3, .int x3_5)] → W p l e rmO_timeOf s m args below meth c H locs 0 0 (MQ below (QI θ K) args s 0 0 (aT θ)) (F0 m 5 ls []) := by
    intro a0_5 x1_5 n5
    induction n5 with
    | zero => intro x2_5 x3_5 V U H locs ls hw hwo hS hl; exact (show False from hw).elim
    | succ n5 ih5 =>
      intro x2_5 x3_5 V U H locs ls hw hwo hS hl
      replace hw : bl_O_timeOf_5 θ a0_5 x1_5 K (wl_O_timeOf_5 θ a0_5 x1_5 K n5) x2_5 x3_5 V U := hw
      unfold bl_O_timeOf_5 at hw
      refine lv_iload_n hx hb dO_timeOf_5 rfl (lv_at hl 3 rfl) ?_
      refine lv_iload_n hx hb dO_timeOf_6 rfl (lv_at hl 1 rfl) ?_
      refine lv_icmp_ge (tgt := 34) hx hb dO_timeOf_7 (by decide) (fun hc_1 => ?_) (fun hc_1 => ?_)
      · replace hw := hw.1 hc_1
        refine lv_iload_n hx hb dO_timeOf_34 rfl (lv_at hl 2 rfl) ?_
        exact g_iret hC hr hlk hw hwo hS dO_timeOf_35
      · replace hw := hw.2 hc_1
        refine lv_aload_n hx hb dO_timeOf_10 rfl (lv_at hl 0 rfl) ?_
        obtain ⟨ho_2, hw⟩ := hw
        obtain ⟨hz_3, hw⟩ := hw
        refine g_getR hC fkO_11 rfl hwo ho_2 hz_3 dO_timeOf_11 ?_
        refine lv_iload_n hx hb dO_timeOf_14 rfl (lv_at hl 3 rfl) ?_
        obtain ⟨n_4, ha_5, hw⟩ := hw
        obtain ⟨hi_6, hw⟩ := hw
        refine g_iald hC hwo ha_5 hi_6 dO_timeOf_15 ?_
        refine lv_bipush (v := 15) hx hb dO_timeOf_16 (by decide) ?_
        refine lv_icmp_ge (tgt := 28) hx hb dO_timeOf_18 (by decide) (fun hc_7 => ?_) (fun hc_7 => ?_)
        · replace hw := hw.1 hc_7
          obtain ⟨y_8, ey_8⟩ : ∃ z : Int32, z = x3_5 + (1 : Int32) := ⟨_, rfl⟩
          replace hw := hw y_8 ey_8
          refine lv_iinc (k := 3) (v := y_8) (lv' := [(3, .int y_8), (0, .ref a0_5), (1, .int x1_5), (2, .int x2_5)]) hx hb dO_timeOf_28 hl rfl (by rw [ey_8]; rfl) (by decide) rfl (fun ls hl => ?_)
          refine lv_goto (tgt := 5) hx hb dO_timeOf_31 (by decide) ?_
          exact ih5 _ _ _ _ _ _ _ hw hwo hS (lv_sub hl [1, 2, 3, 0] rfl)
        · replace hw := hw.2 hc_7
          refine lv_aload_n hx hb dO_timeOf_21 rfl (lv_at hl 0 rfl) ?_
          obtain ⟨hz_9, hw⟩ := hw
          refine g_getR hC fkO_18 rfl hwo ho_2 hz_9 dO_timeOf_22 ?_
          refine lv_iload_n hx hb dO_timeOf_25 rfl (lv_at hl 3 rfl) ?_
          obtain ⟨n_10, ha_11, hw⟩ := hw
          obtain ⟨hi_12, hw⟩ := hw
          refine g_iald hC hwo ha_11 hi_12 dO_timeOf_26 ?_
          refine lv_topi (fun y_13 ey_13 => ?_)
          replace hw := hw y_13 ey_13
          refine lv_istore_n (i := 2) (lv' := [(2, .int y_13), (0, .ref a0_5), (1, .int x1_5), (3, .int x3_5)]) hx hb dO_timeOf_27 rfl hl (by decide) rfl (fun ls hl => ?_)
          obtain ⟨y_14, ey_14⟩ : ∃ z : Int32, z = x3_5 + (1 : Int32) := ⟨_, rfl⟩
          replace hw := hw y_14 ey_14
          refine lv_iinc (k := 3) (v := y_14) (lv' := [(3, .int y_14), (2, .int y_13), (0, .ref a0_5), (1, .int x1_5)]) hx hb dO_timeOf_28 hl rfl (by rw [ey_14]; rfl) (by decide) rfl (fun ls hl => ?_)
          refine lv_goto (tgt := 5) hx hb dO_timeOf_31 (by decide) ?_
          exact ih5 _ _ _ _ _ _ _ hw hwo hS (lv_sub hl [2, 3, 1, 0] rfl)
  unfold wp_O_timeOf at hw
  refine lv_ldc hx hb hC.2.2.2.1 (hC.2.2.2.2.1 _ kcO_92) dO_timeOf_0 ?_
  refine lv_istore_n (i := 2) (lv' := [(2, .int (65535 : Int32)), (0, .ref a0), (1, .int x1)]) hx hb dO_timeOf_2 rfl hl (by decide) rfl (fun ls hl => ?_)
  refine lv_iconst (v := 0) hx hb dO_timeOf_3 (by decide) ?_
  refine lv_istore_n (i := 3) (lv' := [(3, .int (0 : Int32)), (2, .int (65535 : Int32)), (0, .ref a0), (1, .int x1)]) hx hb dO_timeOf_4 rfl hl (by decide) rfl (fun ls hl => ?_)
  obtain ⟨n, hw⟩ := hw
  exact L5 _ _ n _ _ _ _ _ _ _ hw hwo hS (lv_sub hl [2, 3, 1, 0] rfl)
theorem dO_forget_0 : decode kO_forget 0 = .ok (.aload_n 0, 1) := by decide +kernel
theorem dO_forget_1 : decode kO_forget 1 = .ok (.dup, 1) := by decide +kernel
theorem dO_forget_2 : decode kO_forget 2 = .ok (.getfield 29, 3) := by decide +kernel
theorem dO_forget_5 : decode kO_forget 5 = .ok (.iload_n 1, 1) := by decide +kernel
theorem dO_forget_6 : decode kO_forget 6 = .ok (.isub, 1) := by decide +kernel
theorem dO_forget_7 : decode kO_forget 7 = .ok (.putfield 29, 3) := by decide +kernel
theorem dO_forget_10 : decode kO_forget 10 = .ok (.iconst 0, 1) := by decide +kernel
theorem dO_forget_11 : decode kO_forget 11 = .ok (.istore_n 2, 1) := by decide +kernel
theorem dO_forget_12 : decode kO_forget 12 = .ok (.iload_n 2, 1) := by decide +kernel
theorem dO_forget_13 : decode kO_forget 13 = .ok (.aload_n 0, 1) := by decide +kernel
theorem dO_forget_14 : decode kO_forget 14 = .ok (.getfield 29, 3) := by decide +kernel
theorem dO_forget_17 : decode kO_forget 17 = .ok (.if_icmp .ge 51, 3) := by decide +kernel
theorem dO_forget_20 : decode kO_forget 20 = .ok (.aload_n 0, 1) := by decide +kernel
theorem dO_forget_21 : decode kO_forget 21 = .ok (.getfield 11, 3) := by decide +kernel
theorem dO_forget_24 : decode kO_forget 24 = .ok (.iload_n 2, 1) := by decide +kernel
theorem dO_forget_25 : decode kO_forget 25 = .ok (.aload_n 0, 1) := by decide +kernel
theorem dO_forget_26 : decode kO_forget 26 = .ok (.getfield 11, 3) := by decide +kernel
theorem dO_forget_29 : decode kO_forget 29 = .ok (.iload_n 2, 1) := by decide +kernel
theorem dO_forget_30 : decode kO_forget 30 = .ok (.iload_n 1, 1) := by decide +kernel
theorem dO_forget_31 : decode kO_forget 31 = .ok (.iadd, 1) := by decide +kernel
theorem dO_forget_32 : decode kO_forget 32 = .ok (.iaload, 1) := by decide +kernel
theorem dO_forget_33 : decode kO_forget 33 = .ok (.iastore, 1) := by decide +kernel
theorem dO_forget_34 : decode kO_forget 34 = .ok (.aload_n 0, 1) := by decide +kernel
theorem dO_forget_35 : decode kO_forget 35 = .ok (.getfield 18, 3) := by decide +kernel
theorem dO_forget_38 : decode kO_forget 38 = .ok (.iload_n 2, 1) := by decide +kernel
theorem dO_forget_39 : decode kO_forget 39 = .ok (.aload_n 0, 1) := by decide +kernel
theorem dO_forget_40 : decode kO_forget 40 = .ok (.getfield 18, 3) := by decide +kernel
theorem dO_forget_43 : decode kO_forget 43 = .ok (.iload_n 2, 1) := by decide +kernel
theorem dO_forget_44 : decode kO_forget 44 = .ok (.iload_n 1, 1) := by decide +kernel
theorem dO_forget_45 : decode kO_forget 45 = .ok (.iadd, 1) := by decide +kernel
theorem dO_forget_46 : decode kO_forget 46 = .ok (.iaload, 1) := by decide +kernel
theorem dO_forget_47 : decode kO_forget 47 = .ok (.iastore, 1) := by decide +kernel
theorem dO_forget_48 : decode kO_forget 48 = .ok (.aload_n 0, 1) := by decide +kernel
theorem dO_forget_49 : decode kO_forget 49 = .ok (.getfield 21, 3) := by decide +kernel
theorem dO_forget_52 : decode kO_forget 52 = .ok (.iload_n 2, 1) := by decide +kernel
theorem dO_forget_53 : decode kO_forget 53 = .ok (.aload_n 0, 1) := by decide +kernel
theorem dO_forget_54 : decode kO_forget 54 = .ok (.getfield 21, 3) := by decide +kernel
theorem dO_forget_57 : decode kO_forget 57 = .ok (.iload_n 2, 1) := by decide +kernel
theorem dO_forget_58 : decode kO_forget 58 = .ok (.iload_n 1, 1) := by decide +kernel
theorem dO_forget_59 : decode kO_forget 59 = .ok (.iadd, 1) := by decide +kernel
theorem dO_forget_60 : decode kO_forget 60 = .ok (.baload, 1) := by decide +kernel
theorem dO_forget_61 : decode kO_forget 61 = .ok (.bastore, 1) := by decide +kernel
theorem dO_forget_62 : decode kO_forget 62 = .ok (.iinc 2 1, 3) := by decide +kernel
theorem dO_forget_65 : decode kO_forget 65 = .ok (.goto (-53), 3) := by decide +kernel
theorem dO_forget_68 : decode kO_forget 68 = .ok (.aload_n 0, 1) := by decide +kernel
theorem dO_forget_69 : decode kO_forget 69 = .ok (.getfield 15, 3) := by decide +kernel
theorem dO_forget_72 : decode kO_forget 72 = .ok (.iload_n 1, 1) := by decide +kernel
theorem dO_forget_73 : decode kO_forget 73 = .ok (.bipush 15, 2) := by decide +kernel
theorem dO_forget_75 : decode kO_forget 75 = .ok (.imul, 1) := by decide +kernel
theorem dO_forget_76 : decode kO_forget 76 = .ok (.aload_n 0, 1) := by decide +kernel
theorem dO_forget_77 : decode kO_forget 77 = .ok (.getfield 15, 3) := by decide +kernel
theorem dO_forget_80 : decode kO_forget 80 = .ok (.iconst 0, 1) := by decide +kernel
theorem dO_forget_81 : decode kO_forget 81 = .ok (.aload_n 0, 1) := by decide +kernel
theorem dO_forget_82 : decode kO_forget 82 = .ok (.getfield 29, 3) := by decide +kernel
theorem dO_forget_85 : decode kO_forget 85 = .ok (.bipush 15, 2) := by decide +kernel
theorem dO_forget_87 : decode kO_forget 87 = .ok (.imul, 1) := by decide +kernel
theorem dO_forget_88 : decode kO_forget 88 = .ok (.invokestatic 60, 3) := by decide +kernel
theorem dO_forget_91 : decode kO_forget 91 = .ok (.return_, 1) := by decide +kernel
def bl_O_forget_12 (θ : TH) (a0_12 : Nat) (x1_12 : Int32) (K : VT → UT → Prop) (kb12 : Int32 → VT → UT → Prop) (x2_12 : Int32) (V : VT) (U : UT) : Prop := isO θ a0_12 2 ∧ (((V a0_12 5) ≤ x2_12 → (U a0_12 2) ≠ 0 ∧ ∃ n_6, isA θ (U a0_12 2) 0 n_6 ∧ ¬ (x1_12 * (15 : Int32)) < 0 ∧ ¬ (0 : Int32) < 0 ∧ ¬ ((V a0_12 5) * (15 : Int32)) < 0 ∧ (x1_12 * (15 : Int32)).toNatClampNeg + ((V a0_12 5) * (15 : Int32)).toNatClampNeg ≤ n_6 ∧ (0 : Int32).toNatClampNeg + ((V a0_12 5) * (15 : Int32)).toNatClampNeg ≤ n_6 ∧ ∀ V_13 : VT, V_13 = (fun q => if q = (U a0_12 2) then va_cpy (V (U a0_12 2)) (V (U a0_12 2)) (x1_12 * (15 : Int32)).toNatClampNeg (0 : Int32).toNatClampNeg ((V a0_12 5) * (15 : Int32)).toNatClampNeg else V q) → K V_13 U) ∧ (¬ (V a0_12 5) ≤ x2_12 → (U a0_12 1) ≠ 0 ∧ ∃ n_15, isA θ (U a0_12 1) 0 n_15 ∧ vp_in (x2_12 + x1_12) n_15 ∧ vp_in x2_12 n_15 ∧ ∀ V_19 : VT, V_19 = up2 V (U a0_12 1) x2_12.toNatClampNeg (V (U a0_12 1) (x2_12 + x1_12).toNatClampNeg) → (U a0_12 3) ≠ 0 ∧ ∃ n_21, isA θ (U a0_12 3) 0 n_21 ∧ vp_in (x2_12 + x1_12) n_21 ∧ vp_in x2_12 n_21 ∧ ∀ V_25 : VT, V_25 = up2 V_19 (U a0_12 3) x2_12.toNatClampNeg (V_19 (U a0_12 3) (x2_12 + x1_12).toNatClampNeg) → (U a0_12 4) ≠ 0 ∧ ∃ n_27, isA θ (U a0_12 4) 1 n_27 ∧ vp_in (x2_12 + x1_12) n_27 ∧ vp_in x2_12 n_27 ∧ isZ (V_25 (U a0_12 4) (x2_12 + x1_12).toNatClampNeg) ∧ ∀ V_32 : VT, V_32 = up2 V_25 (U a0_12 4) x2_12.toNatClampNeg (V_25 (U a0_12 4) (x2_12 + x1_12).toNatClampNeg) → ∀ y_33 : Int32, y_33 = x2_12 + (1 : Int32) → kb12 y_33 V_32 U))
def wl_O_forget_12 (θ : TH) (a0_12 : Nat) (x1_12 : Int32) (K : VT → UT → Prop) : Nat → Int32 → VT → UT → Prop
  | 0, _, _, _ => False
  | n + 1, x2_12, V, U => bl_O_forget_12 θ a0_12 x1_12 K (wl_O_forget_12 θ a0_12 x1_12 K n) x2_12 V U
def wp_O_forget (θ : TH) (a0 : Nat) (x1 : Int32) (V : VT) (U : UT) (K : VT → UT → Prop) : Prop := isO θ a0 2 ∧ ∀ V_2 : VT, V_2 = up2 V a0 5 ((V a0 5) - x1) → ∃ n, wl_O_forget_12 θ a0 x1 K n (0 : Int32) V_2 U
set_option maxRecDepth 100000 in
set_option maxHeartbeats 4000000 in
theorem c_O_forget (l : Launch) (θ : TH) (a0 : Nat) (x1 : Int32) (V : VT) (U : UT) (K : VT → UT → Prop) (hw : wp_O_forget θ a0 x1 V U K) : CMv l yO_forget kO_forget 3 none rmO_forget θ [.ref a0, .int x1] V U K := by
  refine g_met nRO (by decide +kernel) rfl (Nat.le_of_ble_eq_true rfl) (fun p e s m args below meth c ls hC hr hlk hwo hl => ?_)
  have hx := hC.1
  have hb := hC.2.1
  have hS : Sx θ s s.heap [] := va_S.rf
  have hl : lv_has ls 3 [(0, .ref a0), (1, .int x1)] := hl
  have L12 : ∀ (a0_12 : Nat) (x1_12 : Int32) (n12 : Nat) (x2_12 : Int32) (V : VT) (U : UT) (H : Heap) (locs : List Loc) (ls : Array Slot), wl_O_forget_12 θ a0_12 x1_12 K n12 x2_12 V U → wo θ V U H → Sx θ s H locs → lv_has ls 3 [(0, .ref a0_12), (1, .int x1_12), (2, .int x2_12)] → W p l e rmO_forget s m args below meth c H locs 0 0 (MQ below (QV θ K) args s 0 0 (aT θ)) (F0 m 12 ls []) := by
    intro a0_12 x1_12 n12
    induction n12 with
    | zero => intro x2_12 V U H locs ls hw hwo hS hl; exact (show False from hw).elim
    | succ n12 ih12 =>
      intro x2_12 V U H locs ls hw hwo hS hl
      replace hw : bl_O_forget_12 θ a0_12 x1_12 K (wl_O_forget_12 θ a0_12 x1_12 K n12) x2_12 V U := hw
      unfold bl_O_forget_12 at hw
      refine lv_iload_n hx hb dO_forget_12 rfl (lv_at hl 2 rfl) ?_
      refine lv_aload_n hx hb dO_forget_13 rfl (lv_at hl 0 rfl) ?_
      obtain ⟨ho_3, hw⟩ := hw
      refine g_getI hC fkO_29 rfl hwo ho_3 dO_forget_14 ?_
      refine lv_icmp_ge (tgt := 68) hx hb dO_forget_17 (by decide) (fun hc_4 => ?_) (fun hc_4 => ?_)
      · replace hw := hw.1 hc_4
        refine lv_aload_n hx hb dO_forget_68 rfl (lv_at hl 0 rfl) ?_
        obtain ⟨hz_5, hw⟩ := hw
        refine g_getR hC fkO_15 rfl hwo ho_3 hz_5 dO_forget_69 ?_
        refine lv_iload_n hx hb dO_forget_72 rfl (lv_at hl 1 rfl) ?_
        refine lv_bipush (v := 15) hx hb dO_forget_73 (by decide) ?_
        refine lv_imul hx hb dO_forget_75 ?_
        refine lv_aload_n hx hb dO_forget_76 rfl (lv_at hl 0 rfl) ?_
        refine g_getR hC fkO_15 rfl hwo ho_3 hz_5 dO_forget_77 ?_
        refine lv_iconst (v := 0) hx hb dO_forget_80 (by decide) ?_
        refine lv_aload_n hx hb dO_forget_81 rfl (lv_at hl 0 rfl) ?_
        refine g_getI hC fkO_29 rfl hwo ho_3 dO_forget_82 ?_
        refine lv_bipush (v := 15) hx hb dO_forget_85 (by decide) ?_
        refine lv_imul hx hb dO_forget_87 ?_
        obtain ⟨n_6, ha_7, hw⟩ := hw
        obtain ⟨hp_8, hw⟩ := hw
        obtain ⟨hp_9, hw⟩ := hw
        obtain ⟨hp_10, hw⟩ := hw
        obtain ⟨hp_11, hw⟩ := hw
        obtain ⟨hp_12, hw⟩ := hw
        refine g_copy hC hl.1 lkO_60 ka_copy hwo hS ha_7 ha_7 hp_8 hp_9 hp_10 hp_11 hp_12 (by decide) (Nat.le_of_ble_eq_true rfl) dO_forget_88 (fun V_13 eV_13 H locs hwo hS => ?_)
        replace hw := hw V_13 eV_13
        exact g_vret hC hr hlk hw hwo hS dO_forget_91
      · replace hw := hw.2 hc_4
        refine lv_aload_n hx hb dO_forget_20 rfl (lv_at hl 0 rfl) ?_
        obtain ⟨hz_14, hw⟩ := hw
        refine g_getR hC fkO_11 rfl hwo ho_3 hz_14 dO_forget_21 ?_
        refine lv_iload_n hx hb dO_forget_24 rfl (lv_at hl 2 rfl) ?_
        refine lv_aload_n hx hb dO_forget_25 rfl (lv_at hl 0 rfl) ?_
        refine g_getR hC fkO_11 rfl hwo ho_3 hz_14 dO_forget_26 ?_
        refine lv_iload_n hx hb dO_forget_29 rfl (lv_at hl 2 rfl) ?_
        refine lv_iload_n hx hb dO_forget_30 rfl (lv_at hl 1 rfl) ?_
        refine lv_iadd hx hb dO_forget_31 ?_
        obtain ⟨n_15, ha_16, hw⟩ := hw
        obtain ⟨hi_17, hw⟩ := hw
        refine g_iald hC hwo ha_16 hi_17 dO_forget_32 ?_
        obtain ⟨hi_18, hw⟩ := hw
        refine g_iast hC hwo hS ha_16 hi_18 dO_forget_33 (fun V_19 eV_19 H locs hwo hS => ?_)
        replace hw := hw V_19 eV_19
        refine lv_aload_n hx hb dO_forget_34 rfl (lv_at hl 0 rfl) ?_
        obtain ⟨hz_20, hw⟩ := hw
        refine g_getR hC fkO_18 rfl hwo ho_3 hz_20 dO_forget_35 ?_
        refine lv_iload_n hx hb dO_forget_38 rfl (lv_at hl 2 rfl) ?_
        refine lv_aload_n hx hb dO_forget_39 rfl (lv_at hl 0 rfl) ?_
        refine g_getR hC fkO_18 rfl hwo ho_3 hz_20 dO_forget_40 ?_
        refine lv_iload_n hx hb dO_forget_43 rfl (lv_at hl 2 rfl) ?_
        refine lv_iload_n hx hb dO_forget_44 rfl (lv_at hl 1 rfl) ?_
        refine lv_iadd hx hb dO_forget_45 ?_
        obtain ⟨n_21, ha_22, hw⟩ := hw
        obtain ⟨hi_23, hw⟩ := hw
        refine g_iald hC hwo ha_22 hi_23 dO_forget_46 ?_
        obtain ⟨hi_24, hw⟩ := hw
        refine g_iast hC hwo hS ha_22 hi_24 dO_forget_47 (fun V_25 eV_25 H locs hwo hS => ?_)
        replace hw := hw V_25 eV_25
        refine lv_aload_n hx hb dO_forget_48 rfl (lv_at hl 0 rfl) ?_
        obtain ⟨hz_26, hw⟩ := hw
        refine g_getR hC fkO_21 rfl hwo ho_3 hz_26 dO_forget_49 ?_
        refine lv_iload_n hx hb dO_forget_52 rfl (lv_at hl 2 rfl) ?_
        refine lv_aload_n hx hb dO_forget_53 rfl (lv_at hl 0 rfl) ?_
        refine g_getR hC fkO_21 rfl hwo ho_3 hz_26 dO_forget_54 ?_
        refine lv_iload_n hx hb dO_forget_57 rfl (lv_at hl 2 rfl) ?_
        refine lv_iload_n hx hb dO_forget_58 rfl (lv_at hl 1 rfl) ?_
        refine lv_iadd hx hb dO_forget_59 ?_
        obtain ⟨n_27, ha_28, hw⟩ := hw
        obtain ⟨hi_29, hw⟩ := hw
        refine g_zald hC hwo ha_28 hi_29 dO_forget_60 ?_
        obtain ⟨hi_30, hw⟩ := hw
        obtain ⟨hb_31, hw⟩ := hw
        refine g_zast hC hwo hS ha_28 hi_30 hb_31 dO_forget_61 (fun V_32 eV_32 H locs hwo hS => ?_)
        replace hw := hw V_32 eV_32
        obtain ⟨y_33, ey_33⟩ : ∃ z : Int32, z = x2_12 + (1 : Int32) := ⟨_, rfl⟩
        replace hw := hw y_33 ey_33
        refine lv_iinc (k := 2) (v := y_33) (lv' := [(2, .int y_33), (0, .ref a0_12), (1, .int x1_12)]) hx hb dO_forget_62 hl rfl (by rw [ey_33]; rfl) (by decide) rfl (fun ls hl => ?_)
        refine lv_goto (tgt := 12) hx hb dO_forget_65 (by decide) ?_
        exact ih12 _ _ _ _ _ _ hw hwo hS (lv_sub hl [1, 2, 0] rfl)
  unfold wp_O_forget at hw
  refine lv_aload_n hx hb dO_forget_0 rfl (lv_at hl 0 rfl) ?_
  refine lv_dup hx hb dO_forget_1 rfl ?_
  obtain ⟨ho_1, hw⟩ := hw
  refine g_getI hC fkO_29 rfl hwo ho_1 dO_forget_2 ?_
  refine lv_iload_n hx hb dO_forget_5 rfl (lv_at hl 1 rfl) ?_
  refine lv_isub hx hb dO_forget_6 ?_
  refine g_putI hC fkO_29 rfl hwo hS ho_1 dO_forget_7 (fun V_2 eV_2 H locs hwo hS => ?_)
  replace hw := hw V_2 eV_2
  refine lv_iconst (v := 0) hx hb dO_forget_10 (by decide) ?_
  refine lv_istore_n (i := 2) (lv' := [(2, .int (0 : Int32)), (0, .ref a0), (1, .int x1)]) hx hb dO_forget_11 rfl hl (by decide) rfl (fun ls hl => ?_)
  obtain ⟨n, hw⟩ := hw
  exact L12 _ _ n _ _ _ _ _ _ hw hwo hS (lv_sub hl [1, 2, 0] rfl)
theorem dO_putOut_0 : decode kO_putOut 0 = .ok (.aload_n 1, 1) := by decide +kernel
theorem dO_putOut_1 : decode kO_putOut 1 = .ok (.getfield 66, 3) := by decide +kernel
theorem dO_putOut_4 : decode kO_putOut 4 = .ok (.istore 4, 2) := by decide +kernel
theorem dO_putOut_6 : decode kO_putOut 6 = .ok (.iconst 0, 1) := by decide +kernel
theorem dO_putOut_7 : decode kO_putOut 7 = .ok (.istore 5, 2) := by decide +kernel
theorem dO_putOut_9 : decode kO_putOut 9 = .ok (.iload 5, 2) := by decide +kernel
theorem dO_putOut_11 : decode kO_putOut 11 = .ok (.getstatic 69, 3) := by decide +kernel
theorem dO_putOut_14 : decode kO_putOut 14 = .ok (.arraylength, 1) := by decide +kernel
theorem dO_putOut_15 : decode kO_putOut 15 = .ok (.if_icmp .ge 19, 3) := by decide +kernel
theorem dO_putOut_18 : decode kO_putOut 18 = .ok (.aload_n 1, 1) := by decide +kernel
theorem dO_putOut_19 : decode kO_putOut 19 = .ok (.getstatic 69, 3) := by decide +kernel
theorem dO_putOut_22 : decode kO_putOut 22 = .ok (.iload 5, 2) := by decide +kernel
theorem dO_putOut_24 : decode kO_putOut 24 = .ok (.iaload, 1) := by decide +kernel
theorem dO_putOut_25 : decode kO_putOut 25 = .ok (.invokevirtual 72, 3) := by decide +kernel
theorem dO_putOut_28 : decode kO_putOut 28 = .ok (.iinc 5 1, 3) := by decide +kernel
theorem dO_putOut_31 : decode kO_putOut 31 = .ok (.goto (-22), 3) := by decide +kernel
theorem dO_putOut_34 : decode kO_putOut 34 = .ok (.aload_n 1, 1) := by decide +kernel
theorem dO_putOut_35 : decode kO_putOut 35 = .ok (.aload_n 0, 1) := by decide +kernel
theorem dO_putOut_36 : decode kO_putOut 36 = .ok (.iload_n 2, 1) := by decide +kernel
theorem dO_putOut_37 : decode kO_putOut 37 = .ok (.iload_n 3, 1) := by decide +kernel
theorem dO_putOut_38 : decode kO_putOut 38 = .ok (.invokevirtual 76, 3) := by decide +kernel
theorem dO_putOut_41 : decode kO_putOut 41 = .ok (.invokevirtual 72, 3) := by decide +kernel
theorem dO_putOut_44 : decode kO_putOut 44 = .ok (.aload_n 1, 1) := by decide +kernel
theorem dO_putOut_45 : decode kO_putOut 45 = .ok (.aload_n 0, 1) := by decide +kernel
theorem dO_putOut_46 : decode kO_putOut 46 = .ok (.getfield 25, 3) := by decide +kernel
theorem dO_putOut_49 : decode kO_putOut 49 = .ok (.invokevirtual 72, 3) := by decide +kernel
theorem dO_putOut_52 : decode kO_putOut 52 = .ok (.aload_n 1, 1) := by decide +kernel
theorem dO_putOut_53 : decode kO_putOut 53 = .ok (.aload_n 0, 1) := by decide +kernel
theorem dO_putOut_54 : decode kO_putOut 54 = .ok (.getfield 80, 3) := by decide +kernel
theorem dO_putOut_57 : decode kO_putOut 57 = .ok (.invokevirtual 72, 3) := by decide +kernel
theorem dO_putOut_60 : decode kO_putOut 60 = .ok (.aload_n 0, 1) := by decide +kernel
theorem dO_putOut_61 : decode kO_putOut 61 = .ok (.iload_n 2, 1) := by decide +kernel
theorem dO_putOut_62 : decode kO_putOut 62 = .ok (.invokevirtual 83, 3) := by decide +kernel
theorem dO_putOut_65 : decode kO_putOut 65 = .ok (.istore 5, 2) := by decide +kernel
theorem dO_putOut_67 : decode kO_putOut 67 = .ok (.aload_n 1, 1) := by decide +kernel
theorem dO_putOut_68 : decode kO_putOut 68 = .ok (.iload 5, 2) := by decide +kernel
theorem dO_putOut_70 : decode kO_putOut 70 = .ok (.invokevirtual 72, 3) := by decide +kernel
theorem dO_putOut_73 : decode kO_putOut 73 = .ok (.aload_n 1, 1) := by decide +kernel
theorem dO_putOut_74 : decode kO_putOut 74 = .ok (.iload 5, 2) := by decide +kernel
theorem dO_putOut_76 : decode kO_putOut 76 = .ok (.bipush 8, 2) := by decide +kernel
theorem dO_putOut_78 : decode kO_putOut 78 = .ok (.ishr, 1) := by decide +kernel
theorem dO_putOut_79 : decode kO_putOut 79 = .ok (.invokevirtual 72, 3) := by decide +kernel
theorem dO_putOut_82 : decode kO_putOut 82 = .ok (.bipush 9, 2) := by decide +kernel
theorem dO_putOut_84 : decode kO_putOut 84 = .ok (.istore 6, 2) := by decide +kernel
theorem dO_putOut_86 : decode kO_putOut 86 = .ok (.iload 6, 2) := by decide +kernel
theorem dO_putOut_88 : decode kO_putOut 88 = .ok (.bipush 13, 2) := by decide +kernel
theorem dO_putOut_90 : decode kO_putOut 90 = .ok (.if_icmp .ge 14, 3) := by decide +kernel
theorem dO_putOut_93 : decode kO_putOut 93 = .ok (.aload_n 1, 1) := by decide +kernel
theorem dO_putOut_94 : decode kO_putOut 94 = .ok (.iconst 0, 1) := by decide +kernel
theorem dO_putOut_95 : decode kO_putOut 95 = .ok (.invokevirtual 72, 3) := by decide +kernel
theorem dO_putOut_98 : decode kO_putOut 98 = .ok (.iinc 6 1, 3) := by decide +kernel
theorem dO_putOut_101 : decode kO_putOut 101 = .ok (.goto (-15), 3) := by decide +kernel
theorem dO_putOut_104 : decode kO_putOut 104 = .ok (.aload_n 1, 1) := by decide +kernel
theorem dO_putOut_105 : decode kO_putOut 105 = .ok (.iload_n 2, 1) := by decide +kernel
theorem dO_putOut_106 : decode kO_putOut 106 = .ok (.invokevirtual 72, 3) := by decide +kernel
theorem dO_putOut_109 : decode kO_putOut 109 = .ok (.iconst 0, 1) := by decide +kernel
theorem dO_putOut_110 : decode kO_putOut 110 = .ok (.istore 6, 2) := by decide +kernel
theorem dO_putOut_112 : decode kO_putOut 112 = .ok (.iload 6, 2) := by decide +kernel
theorem dO_putOut_114 : decode kO_putOut 114 = .ok (.iload_n 2, 1) := by decide +kernel
theorem dO_putOut_115 : decode kO_putOut 115 = .ok (.if_icmp .ge 20, 3) := by decide +kernel
theorem dO_putOut_118 : decode kO_putOut 118 = .ok (.aload_n 1, 1) := by decide +kernel
theorem dO_putOut_119 : decode kO_putOut 119 = .ok (.aload_n 0, 1) := by decide +kernel
theorem dO_putOut_120 : decode kO_putOut 120 = .ok (.getfield 11, 3) := by decide +kernel
theorem dO_putOut_123 : decode kO_putOut 123 = .ok (.iload 6, 2) := by decide +kernel
theorem dO_putOut_125 : decode kO_putOut 125 = .ok (.iaload, 1) := by decide +kernel
theorem dO_putOut_126 : decode kO_putOut 126 = .ok (.invokevirtual 72, 3) := by decide +kernel
theorem dO_putOut_129 : decode kO_putOut 129 = .ok (.iinc 6 1, 3) := by decide +kernel
theorem dO_putOut_132 : decode kO_putOut 132 = .ok (.goto (-20), 3) := by decide +kernel
theorem dO_putOut_135 : decode kO_putOut 135 = .ok (.iconst 0, 1) := by decide +kernel
theorem dO_putOut_136 : decode kO_putOut 136 = .ok (.istore 6, 2) := by decide +kernel
theorem dO_putOut_138 : decode kO_putOut 138 = .ok (.iload 6, 2) := by decide +kernel
theorem dO_putOut_140 : decode kO_putOut 140 = .ok (.iload_n 2, 1) := by decide +kernel
theorem dO_putOut_141 : decode kO_putOut 141 = .ok (.if_icmp .ge 47, 3) := by decide +kernel
theorem dO_putOut_144 : decode kO_putOut 144 = .ok (.iconst 0, 1) := by decide +kernel
theorem dO_putOut_145 : decode kO_putOut 145 = .ok (.istore 7, 2) := by decide +kernel
theorem dO_putOut_147 : decode kO_putOut 147 = .ok (.iload 7, 2) := by decide +kernel
theorem dO_putOut_149 : decode kO_putOut 149 = .ok (.aload_n 0, 1) := by decide +kernel
theorem dO_putOut_150 : decode kO_putOut 150 = .ok (.getfield 11, 3) := by decide +kernel
theorem dO_putOut_153 : decode kO_putOut 153 = .ok (.iload 6, 2) := by decide +kernel
theorem dO_putOut_155 : decode kO_putOut 155 = .ok (.iaload, 1) := by decide +kernel
theorem dO_putOut_156 : decode kO_putOut 156 = .ok (.if_icmp .ge 26, 3) := by decide +kernel
theorem dO_putOut_159 : decode kO_putOut 159 = .ok (.aload_n 1, 1) := by decide +kernel
theorem dO_putOut_160 : decode kO_putOut 160 = .ok (.aload_n 0, 1) := by decide +kernel
theorem dO_putOut_161 : decode kO_putOut 161 = .ok (.getfield 15, 3) := by decide +kernel
theorem dO_putOut_164 : decode kO_putOut 164 = .ok (.iload 6, 2) := by decide +kernel
theorem dO_putOut_166 : decode kO_putOut 166 = .ok (.bipush 15, 2) := by decide +kernel
theorem dO_putOut_168 : decode kO_putOut 168 = .ok (.imul, 1) := by decide +kernel
theorem dO_putOut_169 : decode kO_putOut 169 = .ok (.iload 7, 2) := by decide +kernel
theorem dO_putOut_171 : decode kO_putOut 171 = .ok (.iadd, 1) := by decide +kernel
theorem dO_putOut_172 : decode kO_putOut 172 = .ok (.iaload, 1) := by decide +kernel
theorem dO_putOut_173 : decode kO_putOut 173 = .ok (.invokevirtual 72, 3) := by decide +kernel
theorem dO_putOut_176 : decode kO_putOut 176 = .ok (.iinc 7 1, 3) := by decide +kernel
theorem dO_putOut_179 : decode kO_putOut 179 = .ok (.goto (-32), 3) := by decide +kernel
theorem dO_putOut_182 : decode kO_putOut 182 = .ok (.iinc 6 1, 3) := by decide +kernel
theorem dO_putOut_185 : decode kO_putOut 185 = .ok (.goto (-47), 3) := by decide +kernel
theorem dO_putOut_188 : decode kO_putOut 188 = .ok (.aload_n 1, 1) := by decide +kernel
theorem dO_putOut_189 : decode kO_putOut 189 = .ok (.iload 4, 2) := by decide +kernel
theorem dO_putOut_191 : decode kO_putOut 191 = .ok (.invokevirtual 86, 3) := by decide +kernel
theorem dO_putOut_194 : decode kO_putOut 194 = .ok (.aload_n 0, 1) := by decide +kernel
theorem dO_putOut_195 : decode kO_putOut 195 = .ok (.dup, 1) := by decide +kernel
theorem dO_putOut_196 : decode kO_putOut 196 = .ok (.getfield 80, 3) := by decide +kernel
theorem dO_putOut_199 : decode kO_putOut 199 = .ok (.iconst 1, 1) := by decide +kernel
theorem dO_putOut_200 : decode kO_putOut 200 = .ok (.iadd, 1) := by decide +kernel
theorem dO_putOut_201 : decode kO_putOut 201 = .ok (.putfield 80, 3) := by decide +kernel
theorem dO_putOut_204 : decode kO_putOut 204 = .ok (.aload_n 0, 1) := by decide +kernel
theorem dO_putOut_205 : decode kO_putOut 205 = .ok (.iload_n 2, 1) := by decide +kernel
theorem dO_putOut_206 : decode kO_putOut 206 = .ok (.invokevirtual 89, 3) := by decide +kernel
theorem dO_putOut_209 : decode kO_putOut 209 = .ok (.return_, 1) := by decide +kernel
def bl_O_putOut_147 (θ : TH) (a0_138 : Nat) (a1_138 : Nat) (x2_138 : Int32) (x4_138 : Int32) (x6_147 : Int32) (kb138 : Int32 → VT → UT → Prop) (K : VT → UT → Prop) (kb147 : Int32 → VT → UT → Prop) (x7_147 : Int32) (V : VT) (U : UT) : Prop := isO θ a0_138 2 ∧ (U a0_138 1) ≠ 0 ∧ ∃ n_55, isA θ (U a0_138 1) 0 n_55 ∧ vp_in x6_147 n_55 ∧ (((V (U a0_138 1) x6_147.toNatClampNeg) ≤ x7_147 → ∀ y_59 : Int32, y_59 = x6_147 + (1 : Int32) → kb138 y_59 V U) ∧ (¬ (V (U a0_138 1) x6_147.toNatClampNeg) ≤ x7_147 → (U a0_138 2) ≠ 0 ∧ ∃ n_61, isA θ (U a0_138 2) 0 n_61 ∧ vp_in ((x6_147 * (15 : Int32)) + x7_147) n_61 ∧ isO θ a1_138 1 ∧ wp_W_append θ a1_138 (V (U a0_138 2) ((x6_147 * (15 : Int32)) + x7_147).toNatClampNeg) V U (fun V_64 U_65 => ∀ y_67 : Int32, y_67 = x7_147 + (1 : Int32) → kb147 y_67 V_64 U_65)))
def wl_O_putOut_147 (θ : TH) (a0_138 : Nat) (a1_138 : Nat) (x2_138 : Int32) (x4_138 : Int32) (x6_147 : Int32) (kb138 : Int32 → VT → UT → Prop) (K : VT → UT → Prop) : Nat → Int32 → VT → UT → Prop
  | 0, _, _, _ => False
  | n + 1, x7_147, V, U => bl_O_putOut_147 θ a0_138 a1_138 x2_138 x4_138 x6_147 kb138 K (wl_O_putOut_147 θ a0_138 a1_138 x2_138 x4_138 x6_147 kb138 K n) x7_147 V U
def bl_O_putOut_138 (θ : TH) (a0_138 : Nat) (a1_138 : Nat) (x2_138 : Int32) (x4_138 : Int32) (K : VT → UT → Prop) (kb138 : Int32 → VT → UT → Prop) (x6_138 : Int32) (V : VT) (U : UT) : Prop := ((x2_138 ≤ x6_138 → isO θ a1_138 1 ∧ wp_W_seal θ a1_138 x4_138 V U (fun V_46 U_47 => isO θ a0_138 2 ∧ ∀ V_50 : VT, V_50 = up2 V_46 a0_138 6 ((V_46 a0_138 6) + (1 : Int32)) → wp_O_forget θ a0_138 x2_138 V_50 U_47 (fun V_51 U_52 => K V_51 U_52))) ∧ (¬ x2_138 ≤ x6_138 → ∃ n, wl_O_putOut_147 θ a0_138 a1_138 x2_138 x4_138 x6_138 kb138 K n (0 : Int32) V U))
def wl_O_putOut_138 (θ : TH) (a0_138 : Nat) (a1_138 : Nat) (x2_138 : Int32) (x4_138 : Int32) (K : VT → UT → Prop) : Nat → Int32 → VT → UT → Prop
  | 0, _, _, _ => False
  | n + 1, x6_138, V, U => bl_O_putOut_138 θ a0_138 a1_138 x2_138 x4_138 K (wl_O_putOut_138 θ a0_138 a1_138 x2_138 x4_138 K n) x6_138 V U
def bl_O_putOut_112 (θ : TH) (a0_112 : Nat) (a1_112 : Nat) (x2_112 : Int32) (x4_112 : Int32) (K : VT → UT → Prop) (kb112 : Int32 → VT → UT → Prop) (x6_112 : Int32) (V : VT) (U : UT) : Prop := ((x2_112 ≤ x6_112 → ∃ n, wl_O_putOut_138 θ a0_112 a1_112 x2_112 x4_112 K n (0 : Int32) V U) ∧ (¬ x2_112 ≤ x6_112 → isO θ a0_112 2 ∧ (U a0_112 1) ≠ 0 ∧ ∃ n_38, isA θ (U a0_112 1) 0 n_38 ∧ vp_in x6_112 n_38 ∧ isO θ a1_112 1 ∧ wp_W_append θ a1_112 (V (U a0_112 1) x6_112.toNatClampNeg) V U (fun V_41 U_42 => ∀ y_44 : Int32, y_44 = x6_112 + (1 : Int32) → kb112 y_44 V_41 U_42)))
def wl_O_putOut_112 (θ : TH) (a0_112 : Nat) (a1_112 : Nat) (x2_112 : Int32) (x4_112 : Int32) (K : VT → UT → Prop) : Nat → Int32 → VT → UT → Prop
  | 0, _, _, _ => False
  | n + 1, x6_112, V, U => bl_O_putOut_112 θ a0_112 a1_112 x2_112 x4_112 K (wl_O_putOut_112 θ a0_112 a1_112 x2_112 x4_112 K n) x6_112 V U
def bl_O_putOut_86 (θ : TH) (a0_86 : Nat) (a1_86 : Nat) (x2_86 : Int32) (x4_86 : Int32) (K : VT → UT → Prop) (kb86 : Int32 → VT → UT → Prop) (x6_86 : Int32) (V : VT) (U : UT) : Prop := (((13 : Int32) ≤ x6_86 → isO θ a1_86 1 ∧ wp_W_append θ a1_86 x2_86 V U (fun V_28 U_29 => ∃ n, wl_O_putOut_112 θ a0_86 a1_86 x2_86 x4_86 K n (0 : Int32) V_28 U_29)) ∧ (¬ (13 : Int32) ≤ x6_86 → isO θ a1_86 1 ∧ wp_W_append θ a1_86 (0 : Int32) V U (fun V_31 U_32 => ∀ y_34 : Int32, y_34 = x6_86 + (1 : Int32) → kb86 y_34 V_31 U_32)))
def wl_O_putOut_86 (θ : TH) (a0_86 : Nat) (a1_86 : Nat) (x2_86 : Int32) (x4_86 : Int32) (K : VT → UT → Prop) : Nat → Int32 → VT → UT → Prop
  | 0, _, _, _ => False
  | n + 1, x6_86, V, U => bl_O_putOut_86 θ a0_86 a1_86 x2_86 x4_86 K (wl_O_putOut_86 θ a0_86 a1_86 x2_86 x4_86 K n) x6_86 V U
def bl_O_putOut_9 (θ : TH) (a0_9 : Nat) (a1_9 : Nat) (x2_9 : Int32) (x3_9 : Int32) (x4_9 : Int32) (K : VT → UT → Prop) (kb9 : Int32 → VT → UT → Prop) (x5_9 : Int32) (V : VT) (U : UT) : Prop := (((4 : Int32) ≤ x5_9 → isO θ a0_9 2 ∧ wp_O_flagsOf θ a0_9 x2_9 x3_9 V U (fun r_7 V_4 U_5 => isO θ a1_9 1 ∧ wp_W_append θ a1_9 r_7 V_4 U_5 (fun V_8 U_9 => wp_W_append θ a1_9 (V_8 a0_9 0) V_8 U_9 (fun V_11 U_12 => wp_W_append θ a1_9 (V_11 a0_9 6) V_11 U_12 (fun V_13 U_14 => wp_O_timeOf θ a0_9 x2_9 V_13 U_14 (fun r_17 V_15 U_16 => wp_W_append θ a1_9 r_17 V_15 U_16 (fun V_18 U_19 => wp_W_append θ a1_9 (r_17 >>> ((8 : Int32) &&& 31)) V_18 U_19 (fun V_20 U_21 => ∃ n, wl_O_putOut_86 θ a0_9 a1_9 x2_9 x4_9 K n (9 : Int32) V_20 U_21)))))))) ∧ (¬ (4 : Int32) ≤ x5_9 → vp_in x5_9 (sLen 0) ∧ isO θ a1_9 1 ∧ wp_W_append θ a1_9 (sV 0 x5_9.toNatClampNeg) V U (fun V_23 U_24 => ∀ y_26 : Int32, y_26 = x5_9 + (1 : Int32) → kb9 y_26 V_23 U_24)))
def wl_O_putOut_9 (θ : TH) (a0_9 : Nat) (a1_9 : Nat) (x2_9 : Int32) (x3_9 : Int32) (x4_9 : Int32) (K : VT → UT → Prop) : Nat → Int32 → VT → UT → Prop
  | 0, _, _, _ => False
  | n + 1, x5_9, V, U => bl_O_putOut_9 θ a0_9 a1_9 x2_9 x3_9 x4_9 K (wl_O_putOut_9 θ a0_9 a1_9 x2_9 x3_9 x4_9 K n) x5_9 V U
def wp_O_putOut (θ : TH) (a0 : Nat) (a1 : Nat) (x2 : Int32) (x3 : Int32) (V : VT) (U : UT) (K : VT → UT → Prop) : Prop := isO θ a1 1 ∧ ∀ y_2 : Int32, y_2 = (V a1 1) → ∃ n, wl_O_putOut_9 θ a0 a1 x2 x3 y_2 K n (0 : Int32) V U
set_option maxRecDepth 100000 in
set_option maxHeartbeats 4000000 in
theorem c_O_putOut (l : Launch) (θ : TH) (a0 : Nat) (a1 : Nat) (x2 : Int32) (x3 : Int32) (V : VT) (U : UT) (K : VT → UT → Prop) (hw : wp_O_putOut θ a0 a1 x2 x3 V U K) : CMv l yO_putOut kO_putOut 8 none rmO_putOut θ [.ref a0, .ref a1, .int x2, .int x3] V U K := by
  refine g_met nRO (by decide +kernel) rfl (Nat.le_of_ble_eq_true rfl) (fun p e s m args below meth c ls hC hr hlk hwo hl => ?_)
  have hx := hC.1
  have hb := hC.2.1
  have hS : Sx θ s s.heap [] := va_S.rf
  have hl : lv_has ls 8 [(0, .ref a0), (1, .ref a1), (2, .int x2), (3, .int x3)] := hl
  have L138 : ∀ (a0_138 : Nat) (a1_138 : Nat) (x2_138 : Int32) (x4_138 : Int32) (n138 : Nat) (x6_138 : Int32) (V : VT) (U : UT) (H : Heap) (locs : List Loc) (ls : Array Slot), wl_O_putOut_138 θ a0_138 a1_138 x2_138 x4_138 K n138 x6_138 V U → wo θ V U H → Sx θ s H locs → lv_has ls 8 [(0, .ref a0_138), (1, .ref a1_138), (2, .int x2_138), (4, .int x4_138), (6, .int x6_138)] → W p l e rmO_putOut s m args below meth c H locs 0 0 (MQ below (QV θ K) args s 0 0 (aT θ)) (F0 m 138 ls []) := by
    intro a0_138 a1_138 x2_138 x4_138 n138
    induction n138 with
    | zero => intro x6_138 V U H locs ls hw hwo hS hl; exact (show False from hw).elim
    | succ n138 ih138 =>
      have L147 : ∀ (x6_147 : Int32) (n147 : Nat) (x7_147 : Int32) (V : VT) (U : UT) (H : Heap) (locs : List Loc) (ls : Array Slot), wl_O_putOut_147 θ a0_138 a1_138 x2_138 x4_138 x6_147 (wl_O_putOut_138 θ a0_138 a1_138 x2_138 x4_138 K n138) K n147 x7_147 V U → wo θ V U H → Sx θ s H locs → lv_has ls 8 [(0, .ref a0_138), (1, .ref a1_138), (2, .int x2_138), (4, .int x4_138), (6, .int x6_147), (7, .int x7_147)] → W p l e rmO_putOut s m args below meth c H locs 0 0 (MQ below (QV θ K) args s 0 0 (aT θ)) (F0 m 147 ls []) := by
        intro x6_147 n147
        induction n147 with
        | zero => intro x7_147 V U H locs ls hw hwo hS hl; exact (show False from hw).elim
        | succ n147 ih147 =>
          intro x7_147 V U H locs ls hw hwo hS hl
          replace hw : bl_O_putOut_147 θ a0_138 a1_138 x2_138 x4_138 x6_147 (wl_O_putOut_138 θ a0_138 a1_138 x2_138 x4_138 K n138) K (wl_O_putOut_147 θ a0_138 a1_138 x2_138 x4_138 x6_147 (wl_O_putOut_138 θ a0_138 a1_138 x2_138 x4_138 K n138) K n147) x7_147 V U := hw
          unfold bl_O_putOut_147 at hw
          refine lv_iload hx hb dO_putOut_147 (lv_at hl 5 rfl) ?_
          refine lv_aload_n hx hb dO_putOut_149 rfl (lv_at hl 0 rfl) ?_
          obtain ⟨ho_53, hw⟩ := hw
          obtain ⟨hz_54, hw⟩ := hw
          refine g_getR hC fkO_11 rfl hwo ho_53 hz_54 dO_putOut_150 ?_
          refine lv_iload hx hb dO_putOut_153 (lv_at hl 4 rfl) ?_
          obtain ⟨n_55, ha_56, hw⟩ := hw
          obtain ⟨hi_57, hw⟩ := hw
          refine g_iald hC hwo ha_56 hi_57 dO_putOut_155 ?_
          refine lv_icmp_ge (tgt := 182) hx hb dO_putOut_156 (by decide) (fun hc_58 => ?_) (fun hc_58 => ?_)
          · replace hw := hw.1 hc_58
            obtain ⟨y_59, ey_59⟩ : ∃ z : Int32, z = x6_147 + (1 : Int32) := ⟨_, rfl⟩
            replace hw := hw y_59 ey_59
            refine lv_iinc (k := 4) (v := y_59) (lv' := [(6, .int y_59), (0, .ref a0_138), (1, .ref a1_138), (2, .int x2_138), (4, .int x4_138), (7, .int x7_147)]) hx hb dO_putOut_182 hl rfl (by rw [ey_59]; rfl) (by decide) rfl (fun ls hl => ?_)
            refine lv_goto (tgt := 138) hx hb dO_putOut_185 (by decide) ?_
            exact ih138 _ _ _ _ _ _ hw hwo hS (lv_sub hl [1, 2, 3, 4, 0] rfl)
          · replace hw := hw.2 hc_58
            refine lv_aload_n hx hb dO_putOut_159 rfl (lv_at hl 1 rfl) ?_
            refine lv_aload_n hx hb dO_putOut_160 rfl (lv_at hl 0 rfl) ?_
            obtain ⟨hz_60, hw⟩ := hw
            refine g_getR hC fkO_15 rfl hwo ho_53 hz_60 dO_putOut_161 ?_
            refine lv_iload hx hb dO_putOut_164 (lv_at hl 4 rfl) ?_
            refine lv_bipush (v := 15) hx hb dO_putOut_166 (by decide) ?_
            refine lv_imul hx hb dO_putOut_168 ?_
            refine lv_iload hx hb dO_putOut_169 (lv_at hl 5 rfl) ?_
            refine lv_iadd hx hb dO_putOut_171 ?_
            obtain ⟨n_61, ha_62, hw⟩ := hw
            obtain ⟨hi_63, hw⟩ := hw
            refine g_iald hC hwo ha_62 hi_63 dO_putOut_172 ?_
            obtain ⟨ho_66, hw⟩ := hw
            refine g_Vv (rest := []) hC (c_W_append l θ _ _ _ _ _ hw) mi_W_append mlO_72 mv_W_append ci_1 ho_66 hwo hS ⟨rfl, rfl⟩ ⟨by decide, by decide⟩ rfl hl.1 rfl (Nat.le_of_ble_eq_true rfl) dO_putOut_173 (fun V_64 U_65 hw H locs hwo hS => ?_)
            obtain ⟨y_67, ey_67⟩ : ∃ z : Int32, z = x7_147 + (1 : Int32) := ⟨_, rfl⟩
            replace hw := hw y_67 ey_67
            refine lv_iinc (k := 5) (v := y_67) (lv' := [(7, .int y_67), (0, .ref a0_138), (1, .ref a1_138), (2, .int x2_138), (4, .int x4_138), (6, .int x6_147)]) hx hb dO_putOut_176 hl rfl (by rw [ey_67]; rfl) (by decide) rfl (fun ls hl => ?_)
            refine lv_goto (tgt := 147) hx hb dO_putOut_179 (by decide) ?_
            exact ih147 _ _ _ _ _ _ hw hwo hS (lv_sub hl [1, 2, 3, 4, 5, 0] rfl)
      intro x6_138 V U H locs ls hw hwo hS hl
      replace hw : bl_O_putOut_138 θ a0_138 a1_138 x2_138 x4_138 K (wl_O_putOut_138 θ a0_138 a1_138 x2_138 x4_138 K n138) x6_138 V U := hw
      unfold bl_O_putOut_138 at hw
      refine lv_iload hx hb dO_putOut_138 (lv_at hl 4 rfl) ?_
      refine lv_iload_n hx hb dO_putOut_140 rfl (lv_at hl 2 rfl) ?_
      refine lv_icmp_ge (tgt := 188) hx hb dO_putOut_141 (by decide) (fun hc_45 => ?_) (fun hc_45 => ?_)
      · replace hw := hw.1 hc_45
        refine lv_aload_n hx hb dO_putOut_188 rfl (lv_at hl 1 rfl) ?_
        refine lv_iload hx hb dO_putOut_189 (lv_at hl 3 rfl) ?_
        obtain ⟨ho_48, hw⟩ := hw
        refine g_Vv (rest := []) hC (c_W_seal l θ _ _ _ _ _ hw) mi_W_seal mlO_86 mv_W_seal ci_1 ho_48 hwo hS ⟨rfl, rfl⟩ ⟨by decide, by decide⟩ rfl hl.1 rfl (Nat.le_of_ble_eq_true rfl) dO_putOut_191 (fun V_46 U_47 hw H locs hwo hS => ?_)
        refine lv_aload_n hx hb dO_putOut_194 rfl (lv_at hl 0 rfl) ?_
        refine lv_dup hx hb dO_putOut_195 rfl ?_
        obtain ⟨ho_49, hw⟩ := hw
        refine g_getI hC fkO_80 rfl hwo ho_49 dO_putOut_196 ?_
        refine lv_iconst (v := 1) hx hb dO_putOut_199 (by decide) ?_
        refine lv_iadd hx hb dO_putOut_200 ?_
        refine g_putI hC fkO_80 rfl hwo hS ho_49 dO_putOut_201 (fun V_50 eV_50 H locs hwo hS => ?_)
        replace hw := hw V_50 eV_50
        refine lv_aload_n hx hb dO_putOut_204 rfl (lv_at hl 0 rfl) ?_
        refine lv_iload_n hx hb dO_putOut_205 rfl (lv_at hl 2 rfl) ?_
        refine g_Vv (rest := []) hC (c_O_forget l θ _ _ _ _ _ hw) mi_O_forget mlO_89 mv_O_forget ci_2 ho_49 hwo hS ⟨rfl, rfl⟩ ⟨by decide, by decide⟩ rfl hl.1 rfl (Nat.le_of_ble_eq_true rfl) dO_putOut_206 (fun V_51 U_52 hw H locs hwo hS => ?_)
        exact g_vret hC hr hlk hw hwo hS dO_putOut_209
      · replace hw := hw.2 hc_45
        refine lv_iconst (v := 0) hx hb dO_putOut_144 (by decide) ?_
        refine lv_istore (i := 7) (lv' := [(7, .int (0 : Int32)), (0, .ref a0_138), (1, .ref a1_138), (2, .int x2_138), (4, .int x4_138), (6, .int x6_138)]) hx hb dO_putOut_145 hl (by decide) rfl (fun ls hl => ?_)
        obtain ⟨n, hw⟩ := hw
        exact L147 _ n _ _ _ _ _ _ hw hwo hS (lv_sub hl [1, 2, 3, 4, 5, 0] rfl)
  have L112 : ∀ (a0_112 : Nat) (a1_112 : Nat) (x2_112 : Int32) (x4_112 : Int32) (n112 : Nat) (x6_112 : Int32) (V : VT) (U : UT) (H : Heap) (locs : List Loc) (ls : Array Slot), wl_O_putOut_112 θ a0_112 a1_112 x2_112 x4_112 K n112 x6_112 V U → wo θ V U H → Sx θ s H locs → lv_has ls 8 [(0, .ref a0_112), (1, .ref a1_112), (2, .int x2_112), (4, .int x4_112), (6, .int x6_112)] → W p l e rmO_putOut s m args below meth c H locs 0 0 (MQ below (QV θ K) args s 0 0 (aT θ)) (F0 m 112 ls []) := by
    intro a0_112 a1_112 x2_112 x4_112 n112
    induction n112 with
    | zero => intro x6_112 V U H locs ls hw hwo hS hl; exact (show False from hw).elim
    | succ n112 ih112 =>
      intro x6_112 V U H locs ls hw hwo hS hl
      replace hw : bl_O_putOut_112 θ a0_112 a1_112 x2_112 x4_112 K (wl_O_putOut_112 θ a0_112 a1_112 x2_112 x4_112 K n112) x6_112 V U := hw
      unfold bl_O_putOut_112 at hw
      refine lv_iload hx hb dO_putOut_112 (lv_at hl 4 rfl) ?_
      refine lv_iload_n hx hb dO_putOut_114 rfl (lv_at hl 2 rfl) ?_
      refine lv_icmp_ge (tgt := 135) hx hb dO_putOut_115 (by decide) (fun hc_35 => ?_) (fun hc_35 => ?_)
      · replace hw := hw.1 hc_35
        refine lv_iconst (v := 0) hx hb dO_putOut_135 (by decide) ?_
        refine lv_istore (i := 6) (lv' := [(6, .int (0 : Int32)), (0, .ref a0_112), (1, .ref a1_112), (2, .int x2_112), (4, .int x4_112)]) hx hb dO_putOut_136 hl (by decide) rfl (fun ls hl => ?_)
        obtain ⟨n, hw⟩ := hw
        exact L138 _ _ _ _ n _ _ _ _ _ _ hw hwo hS (lv_sub hl [1, 2, 3, 4, 0] rfl)
      · replace hw := hw.2 hc_35
        refine lv_aload_n hx hb dO_putOut_118 rfl (lv_at hl 1 rfl) ?_
        refine lv_aload_n hx hb dO_putOut_119 rfl (lv_at hl 0 rfl) ?_
        obtain ⟨ho_36, hw⟩ := hw
        obtain ⟨hz_37, hw⟩ := hw
        refine g_getR hC fkO_11 rfl hwo ho_36 hz_37 dO_putOut_120 ?_
        refine lv_iload hx hb dO_putOut_123 (lv_at hl 4 rfl) ?_
        obtain ⟨n_38, ha_39, hw⟩ := hw
        obtain ⟨hi_40, hw⟩ := hw
        refine g_iald hC hwo ha_39 hi_40 dO_putOut_125 ?_
        obtain ⟨ho_43, hw⟩ := hw
        refine g_Vv (rest := []) hC (c_W_append l θ _ _ _ _ _ hw) mi_W_append mlO_72 mv_W_append ci_1 ho_43 hwo hS ⟨rfl, rfl⟩ ⟨by decide, by decide⟩ rfl hl.1 rfl (Nat.le_of_ble_eq_true rfl) dO_putOut_126 (fun V_41 U_42 hw H locs hwo hS => ?_)
        obtain ⟨y_44, ey_44⟩ : ∃ z : Int32, z = x6_112 + (1 : Int32) := ⟨_, rfl⟩
        replace hw := hw y_44 ey_44
        refine lv_iinc (k := 4) (v := y_44) (lv' := [(6, .int y_44), (0, .ref a0_112), (1, .ref a1_112), (2, .int x2_112), (4, .int x4_112)]) hx hb dO_putOut_129 hl rfl (by rw [ey_44]; rfl) (by decide) rfl (fun ls hl => ?_)
        refine lv_goto (tgt := 112) hx hb dO_putOut_132 (by decide) ?_
        exact ih112 _ _ _ _ _ _ hw hwo hS (lv_sub hl [1, 2, 3, 4, 0] rfl)
  have L86 : ∀ (a0_86 : Nat) (a1_86 : Nat) (x2_86 : Int32) (x4_86 : Int32) (n86 : Nat) (x6_86 : Int32) (V : VT) (U : UT) (H : Heap) (locs : List Loc) (ls : Array Slot), wl_O_putOut_86 θ a0_86 a1_86 x2_86 x4_86 K n86 x6_86 V U → wo θ V U H → Sx θ s H locs → lv_has ls 8 [(0, .ref a0_86), (1, .ref a1_86), (2, .int x2_86), (4, .int x4_86), (6, .int x6_86)] → W p l e rmO_putOut s m args below meth c H locs 0 0 (MQ below (QV θ K) args s 0 0 (aT θ)) (F0 m 86 ls []) := by
    intro a0_86 a1_86 x2_86 x4_86 n86
    induction n86 with
    | zero => intro x6_86 V U H locs ls hw hwo hS hl; exact (show False from hw).elim
    | succ n86 ih86 =>
      intro x6_86 V U H locs ls hw hwo hS hl
      replace hw : bl_O_putOut_86 θ a0_86 a1_86 x2_86 x4_86 K (wl_O_putOut_86 θ a0_86 a1_86 x2_86 x4_86 K n86) x6_86 V U := hw
      unfold bl_O_putOut_86 at hw
      refine lv_iload hx hb dO_putOut_86 (lv_at hl 4 rfl) ?_
      refine lv_bipush (v := 13) hx hb dO_putOut_88 (by decide) ?_
      refine lv_icmp_ge (tgt := 104) hx hb dO_putOut_90 (by decide) (fun hc_27 => ?_) (fun hc_27 => ?_)
      · replace hw := hw.1 hc_27
        refine lv_aload_n hx hb dO_putOut_104 rfl (lv_at hl 1 rfl) ?_
        refine lv_iload_n hx hb dO_putOut_105 rfl (lv_at hl 2 rfl) ?_
        obtain ⟨ho_30, hw⟩ := hw
        refine g_Vv (rest := []) hC (c_W_append l θ _ _ _ _ _ hw) mi_W_append mlO_72 mv_W_append ci_1 ho_30 hwo hS ⟨rfl, rfl⟩ ⟨by decide, by decide⟩ rfl hl.1 rfl (Nat.le_of_ble_eq_true rfl) dO_putOut_106 (fun V_28 U_29 hw H locs hwo hS => ?_)
        refine lv_iconst (v := 0) hx hb dO_putOut_109 (by decide) ?_
        refine lv_istore (i := 6) (lv' := [(6, .int (0 : Int32)), (0, .ref a0_86), (1, .ref a1_86), (2, .int x2_86), (4, .int x4_86)]) hx hb dO_putOut_110 hl (by decide) rfl (fun ls hl => ?_)
        obtain ⟨n, hw⟩ := hw
        exact L112 _ _ _ _ n _ _ _ _ _ _ hw hwo hS (lv_sub hl [1, 2, 3, 4, 0] rfl)
      · replace hw := hw.2 hc_27
        refine lv_aload_n hx hb dO_putOut_93 rfl (lv_at hl 1 rfl) ?_
        refine lv_iconst (v := 0) hx hb dO_putOut_94 (by decide) ?_
        obtain ⟨ho_33, hw⟩ := hw
        refine g_Vv (rest := []) hC (c_W_append l θ _ _ _ _ _ hw) mi_W_append mlO_72 mv_W_append ci_1 ho_33 hwo hS ⟨rfl, rfl⟩ ⟨by decide, by decide⟩ rfl hl.1 rfl (Nat.le_of_ble_eq_true rfl) dO_putOut_95 (fun V_31 U_32 hw H locs hwo hS => ?_)
        obtain ⟨y_34, ey_34⟩ : ∃ z : Int32, z = x6_86 + (1 : Int32) := ⟨_, rfl⟩
        replace hw := hw y_34 ey_34
        refine lv_iinc (k := 4) (v := y_34) (lv' := [(6, .int y_34), (0, .ref a0_86), (1, .ref a1_86), (2, .int x2_86), (4, .int x4_86)]) hx hb dO_putOut_98 hl rfl (by rw [ey_34]; rfl) (by decide) rfl (fun ls hl => ?_)
        refine lv_goto (tgt := 86) hx hb dO_putOut_101 (by decide) ?_
        exact ih86 _ _ _ _ _ _ hw hwo hS (lv_sub hl [1, 2, 3, 4, 0] rfl)
  have L9 : ∀ (a0_9 : Nat) (a1_9 : Nat) (x2_9 : Int32) (x3_9 : Int32) (x4_9 : Int32) (n9 : Nat) (x5_9 : Int32) (V : VT) (U : UT) (H : Heap) (locs : List Loc) (ls : Array Slot), wl_O_putOut_9 θ a0_9 a1_9 x2_9 x3_9 x4_9 K n9 x5_9 V U → wo θ V U H → Sx θ s H locs → lv_has ls 8 [(0, .ref a0_9), (1, .ref a1_9), (2, .int x2_9), (3, .int x3_9), (4, .int x4_9), (5, .int x5_9)] → W p l e rmO_putOut s m args below meth c H locs 0 0 (MQ below (QV θ K) args s 0 0 (aT θ)) (F0 m 9 ls []) := by
    intro a0_9 a1_9 x2_9 x3_9 x4_9 n9
    induction n9 with
    | zero => intro x5_9 V U H locs ls hw hwo hS hl; exact (show False from hw).elim
    | succ n9 ih9 =>
      intro x5_9 V U H locs ls hw hwo hS hl
      replace hw : bl_O_putOut_9 θ a0_9 a1_9 x2_9 x3_9 x4_9 K (wl_O_putOut_9 θ a0_9 a1_9 x2_9 x3_9 x4_9 K n9) x5_9 V U := hw
      unfold bl_O_putOut_9 at hw
      refine lv_iload hx hb dO_putOut_9 (lv_at hl 5 rfl) ?_
      refine g_gets (j := 0) hC hS (by decide) skO_69 dO_putOut_11 ?_
      refine g_tlen (j := 0) (v := 4) hC hS (by decide) (by decide) dO_putOut_14 ?_
      refine lv_icmp_ge (tgt := 34) hx hb dO_putOut_15 (by decide) (fun hc_3 => ?_) (fun hc_3 => ?_)
      · replace hw := hw.1 hc_3
        refine lv_aload_n hx hb dO_putOut_34 rfl (lv_at hl 1 rfl) ?_
        refine lv_aload_n hx hb dO_putOut_35 rfl (lv_at hl 0 rfl) ?_
        refine lv_iload_n hx hb dO_putOut_36 rfl (lv_at hl 2 rfl) ?_
        refine lv_iload_n hx hb dO_putOut_37 rfl (lv_at hl 3 rfl) ?_
        obtain ⟨ho_6, hw⟩ := hw
        refine g_Vi (rest := [.ref a1_9]) hC (c_O_flagsOf l θ _ _ _ _ _ _ hw) mi_O_flagsOf mlO_76 mv_O_flagsOf ci_2 ho_6 hwo hS ⟨rfl, rfl⟩ ⟨by decide, by decide⟩ rfl hl.1 rfl (Nat.le_of_ble_eq_true rfl) dO_putOut_38 (fun r_7 V_4 U_5 hw H locs hwo hS => ?_)
        obtain ⟨ho_10, hw⟩ := hw
        refine g_Vv (rest := []) hC (c_W_append l θ _ _ _ _ _ hw) mi_W_append mlO_72 mv_W_append ci_1 ho_10 hwo hS ⟨rfl, rfl⟩ ⟨by decide, by decide⟩ rfl hl.1 rfl (Nat.le_of_ble_eq_true rfl) dO_putOut_41 (fun V_8 U_9 hw H locs hwo hS => ?_)
        refine lv_aload_n hx hb dO_putOut_44 rfl (lv_at hl 1 rfl) ?_
        refine lv_aload_n hx hb dO_putOut_45 rfl (lv_at hl 0 rfl) ?_
        refine g_getI hC fkO_25 rfl hwo ho_6 dO_putOut_46 ?_
        refine g_Vv (rest := []) hC (c_W_append l θ _ _ _ _ _ hw) mi_W_append mlO_72 mv_W_append ci_1 ho_10 hwo hS ⟨rfl, rfl⟩ ⟨by decide, by decide⟩ rfl hl.1 rfl (Nat.le_of_ble_eq_true rfl) dO_putOut_49 (fun V_11 U_12 hw H locs hwo hS => ?_)
        refine lv_aload_n hx hb dO_putOut_52 rfl (lv_at hl 1 rfl) ?_
        refine lv_aload_n hx hb dO_putOut_53 rfl (lv_at hl 0 rfl) ?_
        refine g_getI hC fkO_80 rfl hwo ho_6 dO_putOut_54 ?_
        refine g_Vv (rest := []) hC (c_W_append l θ _ _ _ _ _ hw) mi_W_append mlO_72 mv_W_append ci_1 ho_10 hwo hS ⟨rfl, rfl⟩ ⟨by decide, by decide⟩ rfl hl.1 rfl (Nat.le_of_ble_eq_true rfl) dO_putOut_57 (fun V_13 U_14 hw H locs hwo hS => ?_)
        refine lv_aload_n hx hb dO_putOut_60 rfl (lv_at hl 0 rfl) ?_
        refine lv_iload_n hx hb dO_putOut_61 rfl (lv_at hl 2 rfl) ?_
        refine g_Vi (rest := []) hC (c_O_timeOf l θ _ _ _ _ _ hw) mi_O_timeOf mlO_83 mv_O_timeOf ci_2 ho_6 hwo hS ⟨rfl, rfl⟩ ⟨by decide, by decide⟩ rfl hl.1 rfl (Nat.le_of_ble_eq_true rfl) dO_putOut_62 (fun r_17 V_15 U_16 hw H locs hwo hS => ?_)
        refine lv_istore (i := 5) (lv' := [(5, .int r_17), (0, .ref a0_9), (1, .ref a1_9), (2, .int x2_9), (3, .int x3_9), (4, .int x4_9)]) hx hb dO_putOut_65 hl (by decide) rfl (fun ls hl => ?_)
        refine lv_aload_n hx hb dO_putOut_67 rfl (lv_at hl 2 rfl) ?_
        refine lv_iload hx hb dO_putOut_68 (lv_at hl 0 rfl) ?_
        refine g_Vv (rest := []) hC (c_W_append l θ _ _ _ _ _ hw) mi_W_append mlO_72 mv_W_append ci_1 ho_10 hwo hS ⟨rfl, rfl⟩ ⟨by decide, by decide⟩ rfl hl.1 rfl (Nat.le_of_ble_eq_true rfl) dO_putOut_70 (fun V_18 U_19 hw H locs hwo hS => ?_)
        refine lv_aload_n hx hb dO_putOut_73 rfl (lv_at hl 2 rfl) ?_
        refine lv_iload hx hb dO_putOut_74 (lv_at hl 0 rfl) ?_
        refine lv_bipush (v := 8) hx hb dO_putOut_76 (by decide) ?_
        refine lv_ishr hx hb dO_putOut_78 ?_
        refine g_Vv (rest := []) hC (c_W_append l θ _ _ _ _ _ hw) mi_W_append mlO_72 mv_W_append ci_1 ho_10 hwo hS ⟨rfl, rfl⟩ ⟨by decide, by decide⟩ rfl hl.1 rfl (Nat.le_of_ble_eq_true rfl) dO_putOut_79 (fun V_20 U_21 hw H locs hwo hS => ?_)
        refine lv_bipush (v := 9) hx hb dO_putOut_82 (by decide) ?_
        refine lv_istore (i := 6) (lv' := [(6, .int (9 : Int32)), (5, .int r_17), (0, .ref a0_9), (1, .ref a1_9), (2, .int x2_9), (3, .int x3_9), (4, .int x4_9)]) hx hb dO_putOut_84 hl (by decide) rfl (fun ls hl => ?_)
        obtain ⟨n, hw⟩ := hw
        exact L86 _ _ _ _ n _ _ _ _ _ _ hw hwo hS (lv_sub hl [2, 3, 4, 6, 0] rfl)
      · replace hw := hw.2 hc_3
        refine lv_aload_n hx hb dO_putOut_18 rfl (lv_at hl 1 rfl) ?_
        refine g_gets (j := 0) hC hS (by decide) skO_69 dO_putOut_19 ?_
        refine lv_iload hx hb dO_putOut_22 (lv_at hl 5 rfl) ?_
        obtain ⟨hi_22, hw⟩ := hw
        refine g_tald (j := 0) hC hS (by decide) hi_22 dO_putOut_24 ?_
        obtain ⟨ho_25, hw⟩ := hw
        refine g_Vv (rest := []) hC (c_W_append l θ _ _ _ _ _ hw) mi_W_append mlO_72 mv_W_append ci_1 ho_25 hwo hS ⟨rfl, rfl⟩ ⟨by decide, by decide⟩ rfl hl.1 rfl (Nat.le_of_ble_eq_true rfl) dO_putOut_25 (fun V_23 U_24 hw H locs hwo hS => ?_)
        obtain ⟨y_26, ey_26⟩ : ∃ z : Int32, z = x5_9 + (1 : Int32) := ⟨_, rfl⟩
        replace hw := hw y_26 ey_26
        refine lv_iinc (k := 5) (v := y_26) (lv' := [(5, .int y_26), (0, .ref a0_9), (1, .ref a1_9), (2, .int x2_9), (3, .int x3_9), (4, .int x4_9)]) hx hb dO_putOut_28 hl rfl (by rw [ey_26]; rfl) (by decide) rfl (fun ls hl => ?_)
        refine lv_goto (tgt := 9) hx hb dO_putOut_31 (by decide) ?_
        exact ih9 _ _ _ _ _ _ hw hwo hS (lv_sub hl [1, 2, 3, 4, 5, 0] rfl)
  unfold wp_O_putOut at hw
  refine lv_aload_n hx hb dO_putOut_0 rfl (lv_at hl 1 rfl) ?_
  obtain ⟨ho_1, hw⟩ := hw
  refine g_getI hC fkO_66 rfl hwo ho_1 dO_putOut_1 ?_
  refine lv_topi (fun y_2 ey_2 => ?_)
  replace hw := hw y_2 ey_2
  refine lv_istore (i := 4) (lv' := [(4, .int y_2), (0, .ref a0), (1, .ref a1), (2, .int x2), (3, .int x3)]) hx hb dO_putOut_4 hl (by decide) rfl (fun ls hl => ?_)
  refine lv_iconst (v := 0) hx hb dO_putOut_6 (by decide) ?_
  refine lv_istore (i := 5) (lv' := [(5, .int (0 : Int32)), (4, .int y_2), (0, .ref a0), (1, .ref a1), (2, .int x2), (3, .int x3)]) hx hb dO_putOut_7 hl (by decide) rfl (fun ls hl => ?_)
  obtain ⟨n, hw⟩ := hw
  exact L9 _ _ _ _ _ n _ _ _ _ _ _ hw hwo hS (lv_sub hl [2, 3, 4, 5, 1, 0] rfl)
theorem dO_post_0 : decode kO_post 0 = .ok (.aload_n 0, 1) := by decide +kernel
theorem dO_post_1 : decode kO_post 1 = .ok (.getfield 29, 3) := by decide +kernel
theorem dO_post_4 : decode kO_post 4 = .ok (.iload_n 3, 1) := by decide +kernel
theorem dO_post_5 : decode kO_post 5 = .ok (.bipush 15, 2) := by decide +kernel
theorem dO_post_7 : decode kO_post 7 = .ok (.idiv, 1) := by decide +kernel
theorem dO_post_8 : decode kO_post 8 = .ok (.iadd, 1) := by decide +kernel
theorem dO_post_9 : decode kO_post 9 = .ok (.iconst 1, 1) := by decide +kernel
theorem dO_post_10 : decode kO_post 10 = .ok (.iadd, 1) := by decide +kernel
theorem dO_post_11 : decode kO_post 11 = .ok (.istore 5, 2) := by decide +kernel
theorem dO_post_13 : decode kO_post 13 = .ok (.aload_n 0, 1) := by decide +kernel
theorem dO_post_14 : decode kO_post 14 = .ok (.getfield 32, 3) := by decide +kernel
theorem dO_post_17 : decode kO_post 17 = .ok (.ifCond .ne 10, 3) := by decide +kernel
theorem dO_post_20 : decode kO_post 20 = .ok (.iload 5, 2) := by decide +kernel
theorem dO_post_22 : decode kO_post 22 = .ok (.bipush 10, 2) := by decide +kernel
theorem dO_post_24 : decode kO_post 24 = .ok (.if_icmp .le 5, 3) := by decide +kernel
theorem dO_post_27 : decode kO_post 27 = .ok (.iconst (-1), 1) := by decide +kernel
theorem dO_post_28 : decode kO_post 28 = .ok (.ireturn, 1) := by decide +kernel
theorem dO_post_29 : decode kO_post 29 = .ok (.aload_n 0, 1) := by decide +kernel
theorem dO_post_30 : decode kO_post 30 = .ok (.aload_n 2, 1) := by decide +kernel
theorem dO_post_31 : decode kO_post 31 = .ok (.iload_n 3, 1) := by decide +kernel
theorem dO_post_32 : decode kO_post 32 = .ok (.iload 4, 2) := by decide +kernel
theorem dO_post_34 : decode kO_post 34 = .ok (.invokevirtual 36, 3) := by decide +kernel
theorem dO_post_37 : decode kO_post 37 = .ok (.iload 5, 2) := by decide +kernel
theorem dO_post_39 : decode kO_post 39 = .ok (.bipush 6, 2) := by decide +kernel
theorem dO_post_41 : decode kO_post 41 = .ok (.if_icmp .lt 7, 3) := by decide +kernel
theorem dO_post_44 : decode kO_post 44 = .ok (.iconst 1, 1) := by decide +kernel
theorem dO_post_45 : decode kO_post 45 = .ok (.goto 4, 3) := by decide +kernel
theorem dO_post_48 : decode kO_post 48 = .ok (.iconst 0, 1) := by decide +kernel
theorem dO_post_49 : decode kO_post 49 = .ok (.istore 6, 2) := by decide +kernel
theorem dO_post_51 : decode kO_post 51 = .ok (.iload 6, 2) := by decide +kernel
theorem dO_post_53 : decode kO_post 53 = .ok (.ifCond .eq 18, 3) := by decide +kernel
theorem dO_post_56 : decode kO_post 56 = .ok (.aload_n 1, 1) := by decide +kernel
theorem dO_post_57 : decode kO_post 57 = .ok (.aload_n 0, 1) := by decide +kernel
theorem dO_post_58 : decode kO_post 58 = .ok (.bipush 6, 2) := by decide +kernel
theorem dO_post_60 : decode kO_post 60 = .ok (.invokevirtual 40, 3) := by decide +kernel
theorem dO_post_63 : decode kO_post 63 = .ok (.invokevirtual 44, 3) := by decide +kernel
theorem dO_post_66 : decode kO_post 66 = .ok (.ifCond .ne 5, 3) := by decide +kernel
theorem dO_post_69 : decode kO_post 69 = .ok (.iconst (-1), 1) := by decide +kernel
theorem dO_post_70 : decode kO_post 70 = .ok (.ireturn, 1) := by decide +kernel
theorem dO_post_71 : decode kO_post 71 = .ok (.aload_n 0, 1) := by decide +kernel
theorem dO_post_72 : decode kO_post 72 = .ok (.iload 5, 2) := by decide +kernel
theorem dO_post_74 : decode kO_post 74 = .ok (.putfield 29, 3) := by decide +kernel
theorem dO_post_77 : decode kO_post 77 = .ok (.iload 6, 2) := by decide +kernel
theorem dO_post_79 : decode kO_post 79 = .ok (.ifCond .ne 5, 3) := by decide +kernel
theorem dO_post_82 : decode kO_post 82 = .ok (.iconst 0, 1) := by decide +kernel
theorem dO_post_83 : decode kO_post 83 = .ok (.ireturn, 1) := by decide +kernel
theorem dO_post_84 : decode kO_post 84 = .ok (.aload_n 0, 1) := by decide +kernel
theorem dO_post_85 : decode kO_post 85 = .ok (.aload_n 1, 1) := by decide +kernel
theorem dO_post_86 : decode kO_post 86 = .ok (.bipush 6, 2) := by decide +kernel
theorem dO_post_88 : decode kO_post 88 = .ok (.iconst 0, 1) := by decide +kernel
theorem dO_post_89 : decode kO_post 89 = .ok (.invokevirtual 50, 3) := by decide +kernel
theorem dO_post_92 : decode kO_post 92 = .ok (.iconst 1, 1) := by decide +kernel
theorem dO_post_93 : decode kO_post 93 = .ok (.ireturn, 1) := by decide +kernel
def wb_O_post_71 (θ : TH) (a0_71 : Nat) (a1_71 : Nat) (x5_71 : Int32) (x6_71 : Int32) (K : Int32 → VT → UT → Prop) (V : VT) (U : UT) : Prop := isO θ a0_71 2 ∧ ∀ V_20 : VT, V_20 = up2 V a0_71 5 x5_71 → ((¬ x6_71 = 0 → wp_O_putOut θ a0_71 a1_71 (6 : Int32) (0 : Int32) V_20 U (fun V_22 U_23 => K (1 : Int32) V_22 U_23)) ∧ (x6_71 = 0 → K (0 : Int32) V_20 U))
def wb_O_post_49 (θ : TH) (a0_49 : Nat) (a1_49 : Nat) (x5_49 : Int32) (z0_49 : Int32) (K : Int32 → VT → UT → Prop) (V : VT) (U : UT) : Prop := ((z0_49 = 0 → wb_O_post_71 θ a0_49 a1_49 x5_49 z0_49 K V U) ∧ (¬ z0_49 = 0 → isO θ a0_49 2 ∧ wp_O_pageSize θ a0_49 (6 : Int32) V U (fun r_13 V_10 U_11 => isO θ a1_49 1 ∧ wp_W_hasRoom θ a1_49 r_13 V_10 U_11 (fun r_17 V_14 U_15 => ((¬ r_17 = 0 → wb_O_post_71 θ a0_49 a1_49 x5_49 z0_49 K V_14 U_15) ∧ (r_17 = 0 → K (-1 : Int32) V_14 U_15))))))
def wp_O_post (θ : TH) (a0 : Nat) (a1 : Nat) (a2 : Nat) (x3 : Int32) (x4 : Int32) (V : VT) (U : UT) (K : Int32 → VT → UT → Prop) : Prop := isO θ a0 2 ∧ ¬ (15 : Int32) = 0 ∧ ∀ y_3 : Int32, y_3 = (((V a0 5) + (x3 / (15 : Int32))) + (1 : Int32)) → ((¬ (V a0 7) = 0 → K (-1 : Int32) V U) ∧ ((V a0 7) = 0 → ((y_3 ≤ (10 : Int32) → wp_O_layOut θ a0 a2 x3 x4 V U (fun V_6 U_7 => ((y_3 < (6 : Int32) → wb_O_post_49 θ a0 a1 y_3 (0 : Int32) K V_6 U_7) ∧ (¬ y_3 < (6 : Int32) → wb_O_post_49 θ a0 a1 y_3 (1 : Int32) K V_6 U_7)))) ∧ (¬ y_3 ≤ (10 : Int32) → K (-1 : Int32) V U))))
set_option maxRecDepth 100000 in
set_option maxHeartbeats 4000000 in
theorem c_O_post (l : Launch) (θ : TH) (a0 : Nat) (a1 : Nat) (a2 : Nat) (x3 : Int32) (x4 : Int32) (V : VT) (U : UT) (K : Int32 → VT → UT → Prop) (hw : wp_O_post θ a0 a1 a2 x3 x4 V U K) : CMi l yO_post kO_post 7 (some .int) rmO_post θ [.ref a0, .ref a1, .ref a2, .int x3, .int x4] V U K := by
  refine g_met nRO (by decide +kernel) rfl (Nat.le_of_ble_eq_true rfl) (fun p e s m args below meth c ls hC hr hlk hwo hl => ?_)
  have hx := hC.1
  have hb := hC.2.1
  have hS : Sx θ s s.heap [] := va_S.rf
  have hl : lv_has ls 7 [(0, .ref a0), (1, .ref a1), (2, .ref a2), (3, .int x3), (4, .int x4)] := hl
  have J71 : ∀ (a0_71 : Nat) (a1_71 : Nat) (x5_71 : Int32) (x6_71 : Int32) (V : VT) (U : UT) (H : Heap) (locs : List Loc) (ls : Array Slot), wb_O_post_71 θ a0_71 a1_71 x5_71 x6_71 K V U → wo θ V U H → Sx θ s H locs → lv_has ls 7 [(0, .ref a0_71), (1, .ref a1_71), (5, .int x5_71), (6, .int x6_71)] → W p l e rmO_post s m args below meth c H locs 0 0 (MQ below (QI θ K) args s 0 0 (aT θ)) (F0 m 71 ls []) := by
    intro a0_71 a1_71 x5_71 x6_71 V U H locs ls hw hwo hS hl
    unfold wb_O_post_71 at hw
    refine lv_aload_n hx hb dO_post_71 rfl (lv_at hl 0 rfl) ?_
    refine lv_iload hx hb dO_post_72 (lv_at hl 2 rfl) ?_
    obtain ⟨ho_19, hw⟩ := hw
    refine g_putI hC fkO_29 rfl hwo hS ho_19 dO_post_74 (fun V_20 eV_20 H locs hwo hS => ?_)
    replace hw := hw V_20 eV_20
    refine lv_iload hx hb dO_post_77 (lv_at hl 3 rfl) ?_
    refine lv_if_ne (tgt := 84) hx hb dO_post_79 (by decide) (fun hc_21 => ?_) (fun hc_21 => ?_)
    · replace hw := hw.1 hc_21
      refine lv_aload_n hx hb dO_post_84 rfl (lv_at hl 0 rfl) ?_
      refine lv_aload_n hx hb dO_post_85 rfl (lv_at hl 1 rfl) ?_
      refine lv_bipush (v := 6) hx hb dO_post_86 (by decide) ?_
      refine lv_iconst (v := 0) hx hb dO_post_88 (by decide) ?_
      refine g_Vv (rest := []) hC (c_O_putOut l θ _ _ _ _ _ _ _ hw) mi_O_putOut mlO_50 mv_O_putOut ci_2 ho_19 hwo hS ⟨rfl, rfl⟩ ⟨by decide, by decide⟩ rfl hl.1 rfl (Nat.le_of_ble_eq_true rfl) dO_post_89 (fun V_22 U_23 hw H locs hwo hS => ?_)
      refine lv_iconst (v := 1) hx hb dO_post_92 (by decide) ?_
      exact g_iret hC hr hlk hw hwo hS dO_post_93
    · replace hw := hw.2 hc_21
      refine lv_iconst (v := 0) hx hb dO_post_82 (by decide) ?_
      exact g_iret hC hr hlk hw hwo hS dO_post_83
  have J49 : ∀ (a0_49 : Nat) (a1_49 : Nat) (x5_49 : Int32) (z0_49 : Int32) (V : VT) (U : UT) (H : Heap) (locs : List Loc) (ls : Array Slot), wb_O_post_49 θ a0_49 a1_49 x5_49 z0_49 K V U → wo θ V U H → Sx θ s H locs → lv_has ls 7 [(0, .ref a0_49), (1, .ref a1_49), (5, .int x5_49)] → W p l e rmO_post s m args below meth c H locs 0 0 (MQ below (QI θ K) args s 0 0 (aT θ)) (F0 m 49 ls [.int z0_49]) := by
    intro a0_49 a1_49 x5_49 z0_49 V U H locs ls hw hwo hS hl
    unfold wb_O_post_49 at hw
    refine lv_istore (i := 6) (lv' := [(6, .int z0_49), (0, .ref a0_49), (1, .ref a1_49), (5, .int x5_49)]) hx hb dO_post_49 hl (by decide) rfl (fun ls hl => ?_)
    refine lv_iload hx hb dO_post_51 (lv_at hl 0 rfl) ?_
    refine lv_if_eq (tgt := 71) hx hb dO_post_53 (by decide) (fun hc_9 => ?_) (fun hc_9 => ?_)
    · replace hw := hw.1 hc_9
      exact J71 _ _ _ _ _ _ _ _ _ hw hwo hS (lv_sub hl [1, 2, 3, 0] rfl)
    · replace hw := hw.2 hc_9
      refine lv_aload_n hx hb dO_post_56 rfl (lv_at hl 2 rfl) ?_
      refine lv_aload_n hx hb dO_post_57 rfl (lv_at hl 1 rfl) ?_
      refine lv_bipush (v := 6) hx hb dO_post_58 (by decide) ?_
      obtain ⟨ho_12, hw⟩ := hw
      refine g_Vi (rest := [.ref a1_49]) hC (c_O_pageSize l θ _ _ _ _ _ hw) mi_O_pageSize mlO_40 mv_O_pageSize ci_2 ho_12 hwo hS ⟨rfl, rfl⟩ ⟨by decide, by decide⟩ rfl hl.1 rfl (Nat.le_of_ble_eq_true rfl) dO_post_60 (fun r_13 V_10 U_11 hw H locs hwo hS => ?_)
      obtain ⟨ho_16, hw⟩ := hw
      refine g_Vi (rest := []) hC (c_W_hasRoom l θ _ _ _ _ _ hw) mi_W_hasRoom mlO_44 mv_W_hasRoom ci_1 ho_16 hwo hS ⟨rfl, rfl⟩ ⟨by decide, by decide⟩ rfl hl.1 rfl (Nat.le_of_ble_eq_true rfl) dO_post_63 (fun r_17 V_14 U_15 hw H locs hwo hS => ?_)
      refine lv_if_ne (tgt := 71) hx hb dO_post_66 (by decide) (fun hc_18 => ?_) (fun hc_18 => ?_)
      · replace hw := hw.1 hc_18
        exact J71 _ _ _ _ _ _ _ _ _ hw hwo hS (lv_sub hl [1, 2, 3, 0] rfl)
      · replace hw := hw.2 hc_18
        refine lv_iconst (v := -1) hx hb dO_post_69 (by decide) ?_
        exact g_iret hC hr hlk hw hwo hS dO_post_70
  unfold wp_O_post at hw
  refine lv_aload_n hx hb dO_post_0 rfl (lv_at hl 0 rfl) ?_
  obtain ⟨ho_1, hw⟩ := hw
  refine g_getI hC fkO_29 rfl hwo ho_1 dO_post_1 ?_
  refine lv_iload_n hx hb dO_post_4 rfl (lv_at hl 3 rfl) ?_
  refine lv_bipush (v := 15) hx hb dO_post_5 (by decide) ?_
  obtain ⟨hd_2, hw⟩ := hw
  refine lv_idiv hx hb dO_post_7 hd_2 ?_
  refine lv_iadd hx hb dO_post_8 ?_
  refine lv_iconst (v := 1) hx hb dO_post_9 (by decide) ?_
  refine lv_iadd hx hb dO_post_10 ?_
  refine lv_topi (fun y_3 ey_3 => ?_)
  replace hw := hw y_3 ey_3
  refine lv_istore (i := 5) (lv' := [(5, .int y_3), (0, .ref a0), (1, .ref a1), (2, .ref a2), (3, .int x3), (4, .int x4)]) hx hb dO_post_11 hl (by decide) rfl (fun ls hl => ?_)
  refine lv_aload_n hx hb dO_post_13 rfl (lv_at hl 1 rfl) ?_
  refine g_getI hC fkO_32 rfl hwo ho_1 dO_post_14 ?_
  refine lv_if_ne (tgt := 27) hx hb dO_post_17 (by decide) (fun hc_4 => ?_) (fun hc_4 => ?_)
  · replace hw := hw.1 hc_4
    refine lv_iconst (v := -1) hx hb dO_post_27 (by decide) ?_
    exact g_iret hC hr hlk hw hwo hS dO_post_28
  · replace hw := hw.2 hc_4
    refine lv_iload hx hb dO_post_20 (lv_at hl 0 rfl) ?_
    refine lv_bipush (v := 10) hx hb dO_post_22 (by decide) ?_
    refine lv_icmp_le (tgt := 29) hx hb dO_post_24 (by decide) (fun hc_5 => ?_) (fun hc_5 => ?_)
    · replace hw := hw.1 hc_5
      refine lv_aload_n hx hb dO_post_29 rfl (lv_at hl 1 rfl) ?_
      refine lv_aload_n hx hb dO_post_30 rfl (lv_at hl 3 rfl) ?_
      refine lv_iload_n hx hb dO_post_31 rfl (lv_at hl 4 rfl) ?_
      refine lv_iload hx hb dO_post_32 (lv_at hl 5 rfl) ?_
      refine g_Vv (rest := []) hC (c_O_layOut l θ _ _ _ _ _ _ _ hw) mi_O_layOut mlO_36 mv_O_layOut ci_2 ho_1 hwo hS ⟨rfl, rfl⟩ ⟨by decide, by decide⟩ rfl hl.1 rfl (Nat.le_of_ble_eq_true rfl) dO_post_34 (fun V_6 U_7 hw H locs hwo hS => ?_)
      refine lv_iload hx hb dO_post_37 (lv_at hl 0 rfl) ?_
      refine lv_bipush (v := 6) hx hb dO_post_39 (by decide) ?_
      refine lv_icmp_lt (tgt := 48) hx hb dO_post_41 (by decide) (fun hc_8 => ?_) (fun hc_8 => ?_)
      · replace hw := hw.1 hc_8
        refine lv_iconst (v := 0) hx hb dO_post_48 (by decide) ?_
        exact J49 _ _ _ _ _ _ _ _ _ hw hwo hS (lv_sub hl [1, 2, 0] rfl)
      · replace hw := hw.2 hc_8
        refine lv_iconst (v := 1) hx hb dO_post_44 (by decide) ?_
        refine lv_goto (tgt := 49) hx hb dO_post_45 (by decide) ?_
        exact J49 _ _ _ _ _ _ _ _ _ hw hwo hS (lv_sub hl [1, 2, 0] rfl)
    · replace hw := hw.2 hc_5
      refine lv_iconst (v := -1) hx hb dO_post_27 (by decide) ?_
      exact g_iret hC hr hlk hw hwo hS dO_post_28
theorem dO_empty_0 : decode kO_empty 0 = .ok (.aload_n 0, 1) := by decide +kernel
theorem dO_empty_1 : decode kO_empty 1 = .ok (.getfield 29, 3) := by decide +kernel
theorem dO_empty_4 : decode kO_empty 4 = .ok (.istore_n 3, 1) := by decide +kernel
theorem dO_empty_5 : decode kO_empty 5 = .ok (.aload_n 0, 1) := by decide +kernel
theorem dO_empty_6 : decode kO_empty 6 = .ok (.getfield 32, 3) := by decide +kernel
theorem dO_empty_9 : decode kO_empty 9 = .ok (.ifCond .ne 15, 3) := by decide +kernel
theorem dO_empty_12 : decode kO_empty 12 = .ok (.aload_n 1, 1) := by decide +kernel
theorem dO_empty_13 : decode kO_empty 13 = .ok (.aload_n 0, 1) := by decide +kernel
theorem dO_empty_14 : decode kO_empty 14 = .ok (.iload_n 3, 1) := by decide +kernel
theorem dO_empty_15 : decode kO_empty 15 = .ok (.invokevirtual 40, 3) := by decide +kernel
theorem dO_empty_18 : decode kO_empty 18 = .ok (.invokevirtual 44, 3) := by decide +kernel
theorem dO_empty_21 : decode kO_empty 21 = .ok (.ifCond .ne 5, 3) := by decide +kernel
theorem dO_empty_24 : decode kO_empty 24 = .ok (.iconst (-1), 1) := by decide +kernel
theorem dO_empty_25 : decode kO_empty 25 = .ok (.ireturn, 1) := by decide +kernel
theorem dO_empty_26 : decode kO_empty 26 = .ok (.aload_n 0, 1) := by decide +kernel
theorem dO_empty_27 : decode kO_empty 27 = .ok (.aload_n 1, 1) := by decide +kernel
theorem dO_empty_28 : decode kO_empty 28 = .ok (.iload_n 3, 1) := by decide +kernel
theorem dO_empty_29 : decode kO_empty 29 = .ok (.iload_n 2, 1) := by decide +kernel
theorem dO_empty_30 : decode kO_empty 30 = .ok (.invokevirtual 50, 3) := by decide +kernel
theorem dO_empty_33 : decode kO_empty 33 = .ok (.aload_n 0, 1) := by decide +kernel
theorem dO_empty_34 : decode kO_empty 34 = .ok (.iload_n 2, 1) := by decide +kernel
theorem dO_empty_35 : decode kO_empty 35 = .ok (.putfield 32, 3) := by decide +kernel
theorem dO_empty_38 : decode kO_empty 38 = .ok (.iload_n 3, 1) := by decide +kernel
theorem dO_empty_39 : decode kO_empty 39 = .ok (.ireturn, 1) := by decide +kernel
def wp_O_empty (θ : TH) (a0 : Nat) (a1 : Nat) (x2 : Int32) (V : VT) (U : UT) (K : Int32 → VT → UT → Prop) : Prop := isO θ a0 2 ∧ ∀ y_2 : Int32, y_2 = (V a0 5) → ((¬ (V a0 7) = 0 → K (-1 : Int32) V U) ∧ ((V a0 7) = 0 → wp_O_pageSize θ a0 y_2 V U (fun r_6 V_4 U_5 => isO θ a1 1 ∧ wp_W_hasRoom θ a1 r_6 V_4 U_5 (fun r_10 V_7 U_8 => ((¬ r_10 = 0 → wp_O_putOut θ a0 a1 y_2 x2 V_7 U_8 (fun V_12 U_13 => isZ x2 ∧ ∀ V_15 : VT, V_15 = up2 V_12 a0 7 x2 → K y_2 V_15 U_13)) ∧ (r_10 = 0 → K (-1 : Int32) V_7 U_8))))))
set_option maxRecDepth 100000 in
set_option maxHeartbeats 4000000 in
theorem c_O_empty (l : Launch) (θ : TH) (a0 : Nat) (a1 : Nat) (x2 : Int32) (V : VT) (U : UT) (K : Int32 → VT → UT → Prop) (hw : wp_O_empty θ a0 a1 x2 V U K) : CMi l yO_empty kO_empty 4 (some .int) rmO_empty θ [.ref a0, .ref a1, .int x2] V U K := by
  refine g_met nRO (by decide +kernel) rfl (Nat.le_of_ble_eq_true rfl) (fun p e s m args below meth c ls hC hr hlk hwo hl => ?_)
  have hx := hC.1
  have hb := hC.2.1
  have hS : Sx θ s s.heap [] := va_S.rf
  have hl : lv_has ls 4 [(0, .ref a0), (1, .ref a1), (2, .int x2)] := hl
  unfold wp_O_empty at hw
  refine lv_aload_n hx hb dO_empty_0 rfl (lv_at hl 0 rfl) ?_
  obtain ⟨ho_1, hw⟩ := hw
  refine g_getI hC fkO_29 rfl hwo ho_1 dO_empty_1 ?_
  refine lv_topi (fun y_2 ey_2 => ?_)
  replace hw := hw y_2 ey_2
  refine lv_istore_n (i := 3) (lv' := [(3, .int y_2), (0, .ref a0), (1, .ref a1), (2, .int x2)]) hx hb dO_empty_4 rfl hl (by decide) rfl (fun ls hl => ?_)
  refine lv_aload_n hx hb dO_empty_5 rfl (lv_at hl 1 rfl) ?_
  refine g_getI hC fkO_32 rfl hwo ho_1 dO_empty_6 ?_
  refine lv_if_ne (tgt := 24) hx hb dO_empty_9 (by decide) (fun hc_3 => ?_) (fun hc_3 => ?_)
  · replace hw := hw.1 hc_3
    refine lv_iconst (v := -1) hx hb dO_empty_24 (by decide) ?_
    exact g_iret hC hr hlk hw hwo hS dO_empty_25
  · replace hw := hw.2 hc_3
    refine lv_aload_n hx hb dO_empty_12 rfl (lv_at hl 2 rfl) ?_
    refine lv_aload_n hx hb dO_empty_13 rfl (lv_at hl 1 rfl) ?_
    refine lv_iload_n hx hb dO_empty_14 rfl (lv_at hl 0 rfl) ?_
    refine g_Vi (rest := [.ref a1]) hC (c_O_pageSize l θ _ _ _ _ _ hw) mi_O_pageSize mlO_40 mv_O_pageSize ci_2 ho_1 hwo hS ⟨rfl, rfl⟩ ⟨by decide, by decide⟩ rfl hl.1 rfl (Nat.le_of_ble_eq_true rfl) dO_empty_15 (fun r_6 V_4 U_5 hw H locs hwo hS => ?_)
    obtain ⟨ho_9, hw⟩ := hw
    refine g_Vi (rest := []) hC (c_W_hasRoom l θ _ _ _ _ _ hw) mi_W_hasRoom mlO_44 mv_W_hasRoom ci_1 ho_9 hwo hS ⟨rfl, rfl⟩ ⟨by decide, by decide⟩ rfl hl.1 rfl (Nat.le_of_ble_eq_true rfl) dO_empty_18 (fun r_10 V_7 U_8 hw H locs hwo hS => ?_)
    refine lv_if_ne (tgt := 26) hx hb dO_empty_21 (by decide) (fun hc_11 => ?_) (fun hc_11 => ?_)
    · replace hw := hw.1 hc_11
      refine lv_aload_n hx hb dO_empty_26 rfl (lv_at hl 1 rfl) ?_
      refine lv_aload_n hx hb dO_empty_27 rfl (lv_at hl 2 rfl) ?_
      refine lv_iload_n hx hb dO_empty_28 rfl (lv_at hl 0 rfl) ?_
      refine lv_iload_n hx hb dO_empty_29 rfl (lv_at hl 3 rfl) ?_
      refine g_Vv (rest := []) hC (c_O_putOut l θ _ _ _ _ _ _ _ hw) mi_O_putOut mlO_50 mv_O_putOut ci_2 ho_1 hwo hS ⟨rfl, rfl⟩ ⟨by decide, by decide⟩ rfl hl.1 rfl (Nat.le_of_ble_eq_true rfl) dO_empty_30 (fun V_12 U_13 hw H locs hwo hS => ?_)
      refine lv_aload_n hx hb dO_empty_33 rfl (lv_at hl 1 rfl) ?_
      refine lv_iload_n hx hb dO_empty_34 rfl (lv_at hl 3 rfl) ?_
      obtain ⟨hb_14, hw⟩ := hw
      refine g_putZ hC fkO_32 rfl hwo hS ho_1 hb_14 dO_empty_35 (fun V_15 eV_15 H locs hwo hS => ?_)
      replace hw := hw V_15 eV_15
      refine lv_iload_n hx hb dO_empty_38 rfl (lv_at hl 0 rfl) ?_
      exact g_iret hC hr hlk hw hwo hS dO_empty_39
    · replace hw := hw.2 hc_11
      refine lv_iconst (v := -1) hx hb dO_empty_24 (by decide) ?_
      exact g_iret hC hr hlk hw hwo hS dO_empty_25
