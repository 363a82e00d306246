theorem dM_book_0 : decode kM_book 0 = .ok (.aload_n 0, 1) := by decide +kernel
theorem dM_book_1 : decode kM_book 1 = .ok (.getfield 280, 3) := by decide +kernel
theorem dM_book_4 : decode kM_book 4 = .ok (.iconst 4, 1) := by decide +kernel
theorem dM_book_5 : decode kM_book 5 = .ok (.if_icmp .ne 5, 3) := by decide +kernel
theorem dM_book_8 : decode kM_book 8 = .ok (.iconst 0, 1) := by decide +kernel
theorem dM_book_9 : decode kM_book 9 = .ok (.ireturn, 1) := by decide +kernel
theorem dM_book_10 : decode kM_book 10 = .ok (.aload_n 0, 1) := by decide +kernel
theorem dM_book_11 : decode kM_book 11 = .ok (.getfield 80, 3) := by decide +kernel
theorem dM_book_14 : decode kM_book 14 = .ok (.aload_n 0, 1) := by decide +kernel
theorem dM_book_15 : decode kM_book 15 = .ok (.getfield 280, 3) := by decide +kernel
theorem dM_book_18 : decode kM_book 18 = .ok (.aload_n 0, 1) := by decide +kernel
theorem dM_book_19 : decode kM_book 19 = .ok (.iconst 2, 1) := by decide +kernel
theorem dM_book_20 : decode kM_book 20 = .ok (.invokevirtual 249, 3) := by decide +kernel
theorem dM_book_23 : decode kM_book 23 = .ok (.iconst 1, 1) := by decide +kernel
theorem dM_book_24 : decode kM_book 24 = .ok (.iadd, 1) := by decide +kernel
theorem dM_book_25 : decode kM_book 25 = .ok (.iastore, 1) := by decide +kernel
theorem dM_book_26 : decode kM_book 26 = .ok (.aload_n 0, 1) := by decide +kernel
theorem dM_book_27 : decode kM_book 27 = .ok (.getfield 83, 3) := by decide +kernel
theorem dM_book_30 : decode kM_book 30 = .ok (.aload_n 0, 1) := by decide +kernel
theorem dM_book_31 : decode kM_book 31 = .ok (.getfield 280, 3) := by decide +kernel
theorem dM_book_34 : decode kM_book 34 = .ok (.aload_n 0, 1) := by decide +kernel
theorem dM_book_35 : decode kM_book 35 = .ok (.iconst 3, 1) := by decide +kernel
theorem dM_book_36 : decode kM_book 36 = .ok (.invokevirtual 249, 3) := by decide +kernel
theorem dM_book_39 : decode kM_book 39 = .ok (.iconst 1, 1) := by decide +kernel
theorem dM_book_40 : decode kM_book 40 = .ok (.iadd, 1) := by decide +kernel
theorem dM_book_41 : decode kM_book 41 = .ok (.iastore, 1) := by decide +kernel
theorem dM_book_42 : decode kM_book 42 = .ok (.aload_n 0, 1) := by decide +kernel
theorem dM_book_43 : decode kM_book 43 = .ok (.iconst 1, 1) := by decide +kernel
theorem dM_book_44 : decode kM_book 44 = .ok (.invokevirtual 249, 3) := by decide +kernel
theorem dM_book_47 : decode kM_book 47 = .ok (.iconst 1, 1) := by decide +kernel
theorem dM_book_48 : decode kM_book 48 = .ok (.if_icmp .ne 26, 3) := by decide +kernel
theorem dM_book_51 : decode kM_book 51 = .ok (.aload_n 0, 1) := by decide +kernel
theorem dM_book_52 : decode kM_book 52 = .ok (.bipush 8, 2) := by decide +kernel
theorem dM_book_54 : decode kM_book 54 = .ok (.aload_n 0, 1) := by decide +kernel
theorem dM_book_55 : decode kM_book 55 = .ok (.getfield 280, 3) := by decide +kernel
theorem dM_book_58 : decode kM_book 58 = .ok (.imul, 1) := by decide +kernel
theorem dM_book_59 : decode kM_book 59 = .ok (.aload_n 0, 1) := by decide +kernel
theorem dM_book_60 : decode kM_book 60 = .ok (.getfield 83, 3) := by decide +kernel
theorem dM_book_63 : decode kM_book 63 = .ok (.aload_n 0, 1) := by decide +kernel
theorem dM_book_64 : decode kM_book 64 = .ok (.getfield 280, 3) := by decide +kernel
theorem dM_book_67 : decode kM_book 67 = .ok (.iaload, 1) := by decide +kernel
theorem dM_book_68 : decode kM_book 68 = .ok (.invokevirtual 283, 3) := by decide +kernel
theorem dM_book_71 : decode kM_book 71 = .ok (.goto 23, 3) := by decide +kernel
theorem dM_book_74 : decode kM_book 74 = .ok (.aload_n 0, 1) := by decide +kernel
theorem dM_book_75 : decode kM_book 75 = .ok (.bipush 8, 2) := by decide +kernel
theorem dM_book_77 : decode kM_book 77 = .ok (.aload_n 0, 1) := by decide +kernel
theorem dM_book_78 : decode kM_book 78 = .ok (.getfield 280, 3) := by decide +kernel
theorem dM_book_81 : decode kM_book 81 = .ok (.imul, 1) := by decide +kernel
theorem dM_book_82 : decode kM_book 82 = .ok (.aload_n 0, 1) := by decide +kernel
theorem dM_book_83 : decode kM_book 83 = .ok (.getfield 83, 3) := by decide +kernel
theorem dM_book_86 : decode kM_book 86 = .ok (.aload_n 0, 1) := by decide +kernel
theorem dM_book_87 : decode kM_book 87 = .ok (.getfield 280, 3) := by decide +kernel
theorem dM_book_90 : decode kM_book 90 = .ok (.iaload, 1) := by decide +kernel
theorem dM_book_91 : decode kM_book 91 = .ok (.invokevirtual 287, 3) := by decide +kernel
theorem dM_book_94 : decode kM_book 94 = .ok (.istore_n 1, 1) := by decide +kernel
theorem dM_book_95 : decode kM_book 95 = .ok (.iload_n 1, 1) := by decide +kernel
theorem dM_book_96 : decode kM_book 96 = .ok (.ifCond .eq 51, 3) := by decide +kernel
theorem dM_book_99 : decode kM_book 99 = .ok (.aload_n 0, 1) := by decide +kernel
theorem dM_book_100 : decode kM_book 100 = .ok (.getfield 243, 3) := by decide +kernel
theorem dM_book_103 : decode kM_book 103 = .ok (.ifCond .ne 44, 3) := by decide +kernel
theorem dM_book_106 : decode kM_book 106 = .ok (.aload_n 0, 1) := by decide +kernel
theorem dM_book_107 : decode kM_book 107 = .ok (.aload_n 0, 1) := by decide +kernel
theorem dM_book_108 : decode kM_book 108 = .ok (.getfield 280, 3) := by decide +kernel
theorem dM_book_111 : decode kM_book 111 = .ok (.invokevirtual 290, 3) := by decide +kernel
theorem dM_book_114 : decode kM_book 114 = .ok (.ifCond .eq 33, 3) := by decide +kernel
theorem dM_book_117 : decode kM_book 117 = .ok (.aload_n 0, 1) := by decide +kernel
theorem dM_book_118 : decode kM_book 118 = .ok (.getfield 243, 3) := by decide +kernel
theorem dM_book_121 : decode kM_book 121 = .ok (.ifCond .ne 26, 3) := by decide +kernel
theorem dM_book_124 : decode kM_book 124 = .ok (.aload_n 0, 1) := by decide +kernel
theorem dM_book_125 : decode kM_book 125 = .ok (.bipush 8, 2) := by decide +kernel
theorem dM_book_127 : decode kM_book 127 = .ok (.aload_n 0, 1) := by decide +kernel
theorem dM_book_128 : decode kM_book 128 = .ok (.getfield 280, 3) := by decide +kernel
theorem dM_book_131 : decode kM_book 131 = .ok (.imul, 1) := by decide +kernel
theorem dM_book_132 : decode kM_book 132 = .ok (.aload_n 0, 1) := by decide +kernel
theorem dM_book_133 : decode kM_book 133 = .ok (.getfield 83, 3) := by decide +kernel
theorem dM_book_136 : decode kM_book 136 = .ok (.aload_n 0, 1) := by decide +kernel
theorem dM_book_137 : decode kM_book 137 = .ok (.getfield 280, 3) := by decide +kernel
theorem dM_book_140 : decode kM_book 140 = .ok (.iaload, 1) := by decide +kernel
theorem dM_book_141 : decode kM_book 141 = .ok (.invokevirtual 293, 3) := by decide +kernel
theorem dM_book_144 : decode kM_book 144 = .ok (.ifCond .ne 5, 3) := by decide +kernel
theorem dM_book_147 : decode kM_book 147 = .ok (.iconst 0, 1) := by decide +kernel
theorem dM_book_148 : decode kM_book 148 = .ok (.ireturn, 1) := by decide +kernel
theorem dM_book_149 : decode kM_book 149 = .ok (.aload_n 0, 1) := by decide +kernel
theorem dM_book_150 : decode kM_book 150 = .ok (.dup, 1) := by decide +kernel
theorem dM_book_151 : decode kM_book 151 = .ok (.getfield 280, 3) := by decide +kernel
theorem dM_book_154 : decode kM_book 154 = .ok (.iconst 1, 1) := by decide +kernel
theorem dM_book_155 : decode kM_book 155 = .ok (.iadd, 1) := by decide +kernel
theorem dM_book_156 : decode kM_book 156 = .ok (.putfield 280, 3) := by decide +kernel
theorem dM_book_159 : decode kM_book 159 = .ok (.iconst 1, 1) := by decide +kernel
theorem dM_book_160 : decode kM_book 160 = .ok (.ireturn, 1) := by decide +kernel
def wb_M_book_94 (θ : TH) (a0_94 : Nat) (z0_94 : Int32) (K : Int32 → VT → UT → Prop) (V : VT) (U : UT) : Prop := ((z0_94 = 0 → K (0 : Int32) V U) ∧ (¬ z0_94 = 0 → isO θ a0_94 12 ∧ ((¬ (V a0_94 40) = 0 → K (0 : Int32) V U) ∧ ((V a0_94 40) = 0 → wp_M_vectors θ a0_94 (V a0_94 44) V U (fun r_42 V_40 U_41 => ((r_42 = 0 → K (0 : Int32) V_40 U_41) ∧ (¬ r_42 = 0 → ((¬ (V_40 a0_94 40) = 0 → K (0 : Int32) V_40 U_41) ∧ ((V_40 a0_94 40) = 0 → (U_41 a0_94 46) ≠ 0 ∧ ∃ n_46, isA θ (U_41 a0_94 46) 0 n_46 ∧ vp_in (V_40 a0_94 44) n_46 ∧ wp_M_words θ a0_94 ((8 : Int32) * (V_40 a0_94 44)) (V_40 (U_41 a0_94 46) (V_40 a0_94 44).toNatClampNeg) V_40 U_41 (fun r_51 V_49 U_50 => ((¬ r_51 = 0 → ∀ V_53 : VT, V_53 = up2 V_49 a0_94 44 ((V_49 a0_94 44) + (1 : Int32)) → K (1 : Int32) V_53 U_50) ∧ (r_51 = 0 → K (0 : Int32) V_49 U_50))))))))))))
def wp_M_book (θ : TH) (a0 : Nat) (V : VT) (U : UT) (K : Int32 → VT → UT → Prop) : Prop := isO θ a0 12 ∧ ((¬ (V a0 44) = (4 : Int32) → (U a0 45) ≠ 0 ∧ wp_M_read θ a0 (2 : Int32) V U (fun r_6 V_4 U_5 => ∃ n_7, isA θ (U a0 45) 0 n_7 ∧ vp_in (V a0 44) n_7 ∧ ∀ V_10 : VT, V_10 = up2 V_4 (U a0 45) (V a0 44).toNatClampNeg (r_6 + (1 : Int32)) → (U_5 a0 46) ≠ 0 ∧ wp_M_read θ a0 (3 : Int32) V_10 U_5 (fun r_14 V_12 U_13 => ∃ n_15, isA θ (U_5 a0 46) 0 n_15 ∧ vp_in (V_10 a0 44) n_15 ∧ ∀ V_18 : VT, V_18 = up2 V_12 (U_5 a0 46) (V_10 a0 44).toNatClampNeg (r_14 + (1 : Int32)) → wp_M_read θ a0 (1 : Int32) V_18 U_13 (fun r_21 V_19 U_20 => ((¬ r_21 = (1 : Int32) → (U_20 a0 46) ≠ 0 ∧ ∃ n_24, isA θ (U_20 a0 46) 0 n_24 ∧ vp_in (V_19 a0 44) n_24 ∧ wp_M_plainLengths θ a0 ((8 : Int32) * (V_19 a0 44)) (V_19 (U_20 a0 46) (V_19 a0 44).toNatClampNeg) V_19 U_20 (fun r_29 V_27 U_28 => wb_M_book_94 θ a0 r_29 K V_27 U_28)) ∧ (r_21 = (1 : Int32) → (U_20 a0 46) ≠ 0 ∧ ∃ n_31, isA θ (U_20 a0 46) 0 n_31 ∧ vp_in (V_19 a0 44) n_31 ∧ wp_M_ordered θ a0 ((8 : Int32) * (V_19 a0 44)) (V_19 (U_20 a0 46) (V_19 a0 44).toNatClampNeg) V_19 U_20 (fun r_36 V_34 U_35 => wb_M_book_94 θ a0 r_36 K V_34 U_35))))))) ∧ ((V a0 44) = (4 : Int32) → K (0 : Int32) V U))
set_option maxRecDepth 100000 in
set_option maxHeartbeats 4000000 in
theorem c_M_book (l : Launch) (θ : TH) (a0 : Nat) (V : VT) (U : UT) (K : Int32 → VT → UT → Prop) (hw : wp_M_book θ a0 V U K) : CMi l yM_book kM_book 2 (some .boolean) rmM_book θ [.ref a0] V U K := by
  refine g_met nRM (by decide +kernel) rfl (Nat.le_of_ble_eq_true rfl) (fun p e s m args below meth c ls hC hr hlk hwo hl => ?_)
  have hx := hC.1
  have hb := hC.2.1
  have hS : Sx θ s s.heap [] := va_S.rf
  have hl : lv_has ls 2 [(0, .ref a0)] := hl
  have J94 : ∀ (a0_94 : Nat) (z0_94 : Int32) (V : VT) (U : UT) (H : Heap) (locs : List Loc) (ls : Array Slot), wb_M_book_94 θ a0_94 z0_94 K V U → wo θ V U H → Sx θ s H locs → lv_has ls 2 [(0, .ref a0_94)] → W p l e rmM_book s m args below meth c H locs 0 0 (MQ below (QI θ K) args s 0 0 (aT θ)) (F0 m 94 ls [.int z0_94]) := by
    intro a0_94 z0_94 V U H locs ls hw hwo hS hl
    unfold wb_M_book_94 at hw
    refine lv_istore_n (i := 1) (lv' := [(1, .int z0_94), (0, .ref a0_94)]) hx hb dM_book_94 rfl hl (by decide) rfl (fun ls hl => ?_)
    refine lv_iload_n hx hb dM_book_95 rfl (lv_at hl 0 rfl) ?_
    refine lv_if_eq (tgt := 147) hx hb dM_book_96 (by decide) (fun hc_37 => ?_) (fun hc_37 => ?_)
    · replace hw := hw.1 hc_37
      refine lv_iconst (v := 0) hx hb dM_book_147 (by decide) ?_
      exact g_zret hC hr hlk (Or.inl rfl) hw hwo hS dM_book_148
    · replace hw := hw.2 hc_37
      refine lv_aload_n hx hb dM_book_99 rfl (lv_at hl 1 rfl) ?_
      obtain ⟨ho_38, hw⟩ := hw
      refine g_getI hC fkM_243 rfl hwo ho_38 dM_book_100 ?_
      refine lv_if_ne (tgt := 147) hx hb dM_book_103 (by decide) (fun hc_39 => ?_) (fun hc_39 => ?_)
      · replace hw := hw.1 hc_39
        refine lv_iconst (v := 0) hx hb dM_book_147 (by decide) ?_
        exact g_zret hC hr hlk (Or.inl rfl) hw hwo hS dM_book_148
      · replace hw := hw.2 hc_39
        refine lv_aload_n hx hb dM_book_106 rfl (lv_at hl 1 rfl) ?_
        refine lv_aload_n hx hb dM_book_107 rfl (lv_at hl 1 rfl) ?_
        refine g_getI hC fkM_280 rfl hwo ho_38 dM_book_108 ?_
        refine g_Vi (rest := []) hC (c_M_vectors l θ _ _ _ _ _ hw) mi_M_vectors mlM_290 mv_M_vectors ci_12 ho_38 hwo hS ⟨rfl, rfl⟩ ⟨by decide, by decide⟩ rfl hl.1 rfl (Nat.le_of_ble_eq_true rfl) dM_book_111 (fun r_42 V_40 U_41 hw H locs hwo hS => ?_)
        refine lv_if_eq (tgt := 147) hx hb dM_book_114 (by decide) (fun hc_43 => ?_) (fun hc_43 => ?_)
        · replace hw := hw.1 hc_43
          refine lv_iconst (v := 0) hx hb dM_book_147 (by decide) ?_
          exact g_zret hC hr hlk (Or.inl rfl) hw hwo hS dM_book_148
        · replace hw := hw.2 hc_43
          refine lv_aload_n hx hb dM_book_117 rfl (lv_at hl 1 rfl) ?_
          refine g_getI hC fkM_243 rfl hwo ho_38 dM_book_118 ?_
          refine lv_if_ne (tgt := 147) hx hb dM_book_121 (by decide) (fun hc_44 => ?_) (fun hc_44 => ?_)
          · replace hw := hw.1 hc_44
            refine lv_iconst (v := 0) hx hb dM_book_147 (by decide) ?_
            exact g_zret hC hr hlk (Or.inl rfl) hw hwo hS dM_book_148
          · replace hw := hw.2 hc_44
            refine lv_aload_n hx hb dM_book_124 rfl (lv_at hl 1 rfl) ?_
            refine lv_bipush (v := 8) hx hb dM_book_125 (by decide) ?_
            refine lv_aload_n hx hb dM_book_127 rfl (lv_at hl 1 rfl) ?_
            refine g_getI hC fkM_280 rfl hwo ho_38 dM_book_128 ?_
            refine lv_imul hx hb dM_book_131 ?_
            refine lv_aload_n hx hb dM_book_132 rfl (lv_at hl 1 rfl) ?_
            obtain ⟨hz_45, hw⟩ := hw
            refine g_getR hC fkM_83 rfl hwo ho_38 hz_45 dM_book_133 ?_
            refine lv_aload_n hx hb dM_book_136 rfl (lv_at hl 1 rfl) ?_
            refine g_getI hC fkM_280 rfl hwo ho_38 dM_book_137 ?_
            obtain ⟨n_46, ha_47, hw⟩ := hw
            obtain ⟨hi_48, hw⟩ := hw
            refine g_iald hC hwo ha_47 hi_48 dM_book_140 ?_
            refine g_Vi (rest := []) hC (c_M_words l θ _ _ _ _ _ _ hw) mi_M_words mlM_293 mv_M_words ci_12 ho_38 hwo hS ⟨rfl, rfl⟩ ⟨by decide, by decide⟩ rfl hl.1 rfl (Nat.le_of_ble_eq_true rfl) dM_book_141 (fun r_51 V_49 U_50 hw H locs hwo hS => ?_)
            refine lv_if_ne (tgt := 149) hx hb dM_book_144 (by decide) (fun hc_52 => ?_) (fun hc_52 => ?_)
            · replace hw := hw.1 hc_52
              refine lv_aload_n hx hb dM_book_149 rfl (lv_at hl 1 rfl) ?_
              refine lv_dup hx hb dM_book_150 rfl ?_
              refine g_getI hC fkM_280 rfl hwo ho_38 dM_book_151 ?_
              refine lv_iconst (v := 1) hx hb dM_book_154 (by decide) ?_
              refine lv_iadd hx hb dM_book_155 ?_
              refine g_putI hC fkM_280 rfl hwo hS ho_38 dM_book_156 (fun V_53 eV_53 H locs hwo hS => ?_)
              replace hw := hw V_53 eV_53
              refine lv_iconst (v := 1) hx hb dM_book_159 (by decide) ?_
              exact g_zret hC hr hlk (Or.inr rfl) hw hwo hS dM_book_160
            · replace hw := hw.2 hc_52
              refine lv_iconst (v := 0) hx hb dM_book_147 (by decide) ?_
              exact g_zret hC hr hlk (Or.inl rfl) hw hwo hS dM_book_148
  unfold wp_M_book at hw
  refine lv_aload_n hx hb dM_book_0 rfl (lv_at hl 0 rfl) ?_
  obtain ⟨ho_1, hw⟩ := hw
  refine g_getI hC fkM_280 rfl hwo ho_1 dM_book_1 ?_
  refine lv_iconst (v := 4) hx hb dM_book_4 (by decide) ?_
  refine lv_icmp_ne (tgt := 10) hx hb dM_book_5 (by decide) (fun hc_2 => ?_) (fun hc_2 => ?_)
  · replace hw := hw.1 hc_2
    refine lv_aload_n hx hb dM_book_10 rfl (lv_at hl 0 rfl) ?_
    obtain ⟨hz_3, hw⟩ := hw
    refine g_getR hC fkM_80 rfl hwo ho_1 hz_3 dM_book_11 ?_
    refine lv_aload_n hx hb dM_book_14 rfl (lv_at hl 0 rfl) ?_
    refine g_getI hC fkM_280 rfl hwo ho_1 dM_book_15 ?_
    refine lv_aload_n hx hb dM_book_18 rfl (lv_at hl 0 rfl) ?_
    refine lv_iconst (v := 2) hx hb dM_book_19 (by decide) ?_
    refine g_Vi (rest := [.int (V a0 44), .ref (U a0 45)]) hC (c_M_read l θ _ _ _ _ _ hw) mi_M_read mlM_249 mv_M_read ci_12 ho_1 hwo hS ⟨rfl, rfl⟩ ⟨by decide, by decide⟩ rfl hl.1 rfl (Nat.le_of_ble_eq_true rfl) dM_book_20 (fun r_6 V_4 U_5 hw H locs hwo hS => ?_)
    refine lv_iconst (v := 1) hx hb dM_book_23 (by decide) ?_
    refine lv_iadd hx hb dM_book_24 ?_
    obtain ⟨n_7, ha_8, hw⟩ := hw
    obtain ⟨hi_9, hw⟩ := hw
    refine g_iast hC hwo hS ha_8 hi_9 dM_book_25 (fun V_10 eV_10 H locs hwo hS => ?_)
    replace hw := hw V_10 eV_10
    refine lv_aload_n hx hb dM_book_26 rfl (lv_at hl 0 rfl) ?_
    obtain ⟨hz_11, hw⟩ := hw
    refine g_getR hC fkM_83 rfl hwo ho_1 hz_11 dM_book_27 ?_
    refine lv_aload_n hx hb dM_book_30 rfl (lv_at hl 0 rfl) ?_
    refine g_getI hC fkM_280 rfl hwo ho_1 dM_book_31 ?_
    refine lv_aload_n hx hb dM_book_34 rfl (lv_at hl 0 rfl) ?_
    refine lv_iconst (v := 3) hx hb dM_book_35 (by decide) ?_
    refine g_Vi (rest := [.int (V_10 a0 44), .ref (U_5 a0 46)]) hC (c_M_read l θ _ _ _ _ _ hw) mi_M_read mlM_249 mv_M_read ci_12 ho_1 hwo hS ⟨rfl, rfl⟩ ⟨by decide, by decide⟩ rfl hl.1 rfl (Nat.le_of_ble_eq_true rfl) dM_book_36 (fun r_14 V_12 U_13 hw H locs hwo hS => ?_)
    refine lv_iconst (v := 1) hx hb dM_book_39 (by decide) ?_
    refine lv_iadd hx hb dM_book_40 ?_
    obtain ⟨n_15, ha_16, hw⟩ := hw
    obtain ⟨hi_17, hw⟩ := hw
    refine g_iast hC hwo hS ha_16 hi_17 dM_book_41 (fun V_18 eV_18 H locs hwo hS => ?_)
    replace hw := hw V_18 eV_18
    refine lv_aload_n hx hb dM_book_42 rfl (lv_at hl 0 rfl) ?_
    refine lv_iconst (v := 1) hx hb dM_book_43 (by decide) ?_
    refine g_Vi (rest := []) hC (c_M_read l θ _ _ _ _ _ hw) mi_M_read mlM_249 mv_M_read ci_12 ho_1 hwo hS ⟨rfl, rfl⟩ ⟨by decide, by decide⟩ rfl hl.1 rfl (Nat.le_of_ble_eq_true rfl) dM_book_44 (fun r_21 V_19 U_20 hw H locs hwo hS => ?_)
    refine lv_iconst (v := 1) hx hb dM_book_47 (by decide) ?_
    refine lv_icmp_ne (tgt := 74) hx hb dM_book_48 (by decide) (fun hc_22 => ?_) (fun hc_22 => ?_)
    · replace hw := hw.1 hc_22
      refine lv_aload_n hx hb dM_book_74 rfl (lv_at hl 0 rfl) ?_
      refine lv_bipush (v := 8) hx hb dM_book_75 (by decide) ?_
      refine lv_aload_n hx hb dM_book_77 rfl (lv_at hl 0 rfl) ?_
      refine g_getI hC fkM_280 rfl hwo ho_1 dM_book_78 ?_
      refine lv_imul hx hb dM_book_81 ?_
      refine lv_aload_n hx hb dM_book_82 rfl (lv_at hl 0 rfl) ?_
      obtain ⟨hz_23, hw⟩ := hw
      refine g_getR hC fkM_83 rfl hwo ho_1 hz_23 dM_book_83 ?_
      refine lv_aload_n hx hb dM_book_86 rfl (lv_at hl 0 rfl) ?_
      refine g_getI hC fkM_280 rfl hwo ho_1 dM_book_87 ?_
      obtain ⟨n_24, ha_25, hw⟩ := hw
      obtain ⟨hi_26, hw⟩ := hw
      refine g_iald hC hwo ha_25 hi_26 dM_book_90 ?_
      refine g_Vi (rest := []) hC (c_M_plainLengths l θ _ _ _ _ _ _ hw) mi_M_plainLengths mlM_287 mv_M_plainLengths ci_12 ho_1 hwo hS ⟨rfl, rfl⟩ ⟨by decide, by decide⟩ rfl hl.1 rfl (Nat.le_of_ble_eq_true rfl) dM_book_91 (fun r_29 V_27 U_28 hw H locs hwo hS => ?_)
      exact J94 _ _ _ _ _ _ _ hw hwo hS (lv_sub hl [0] rfl)
    · replace hw := hw.2 hc_22
      refine lv_aload_n hx hb dM_book_51 rfl (lv_at hl 0 rfl) ?_
      refine lv_bipush (v := 8) hx hb dM_book_52 (by decide) ?_
      refine lv_aload_n hx hb dM_book_54 rfl (lv_at hl 0 rfl) ?_
      refine g_getI hC fkM_280 rfl hwo ho_1 dM_book_55 ?_
      refine lv_imul hx hb dM_book_58 ?_
      refine lv_aload_n hx hb dM_book_59 rfl (lv_at hl 0 rfl) ?_
      obtain ⟨hz_30, hw⟩ := hw
      refine g_getR hC fkM_83 rfl hwo ho_1 hz_30 dM_book_60 ?_
      refine lv_aload_n hx hb dM_book_63 rfl (lv_at hl 0 rfl) ?_
      refine g_getI hC fkM_280 rfl hwo ho_1 dM_book_64 ?_
      obtain ⟨n_31, ha_32, hw⟩ := hw
      obtain ⟨hi_33, hw⟩ := hw
      refine g_iald hC hwo ha_32 hi_33 dM_book_67 ?_
      refine g_Vi (rest := []) hC (c_M_ordered l θ _ _ _ _ _ _ hw) mi_M_ordered mlM_283 mv_M_ordered ci_12 ho_1 hwo hS ⟨rfl, rfl⟩ ⟨by decide, by decide⟩ rfl hl.1 rfl (Nat.le_of_ble_eq_true rfl) dM_book_68 (fun r_36 V_34 U_35 hw H locs hwo hS => ?_)
      refine lv_goto (tgt := 94) hx hb dM_book_71 (by decide) ?_
      exact J94 _ _ _ _ _ _ _ hw hwo hS (lv_sub hl [0] rfl)
  · replace hw := hw.2 hc_2
    refine lv_iconst (v := 0) hx hb dM_book_8 (by decide) ?_
    exact g_zret hC hr hlk (Or.inl rfl) hw hwo hS dM_book_9
theorem dM_points_0 : decode kM_points 0 = .ok (.aload_n 0, 1) := by decide +kernel
theorem dM_points_1 : decode kM_points 1 = .ok (.iconst 2, 1) := by decide +kernel
theorem dM_points_2 : decode kM_points 2 = .ok (.invokevirtual 249, 3) := by decide +kernel
theorem dM_points_5 : decode kM_points 5 = .ok (.iconst 2, 1) := by decide +kernel
theorem dM_points_6 : decode kM_points 6 = .ok (.iadd, 1) := by decide +kernel
theorem dM_points_7 : decode kM_points 7 = .ok (.istore_n 2, 1) := by decide +kernel
theorem dM_points_8 : decode kM_points 8 = .ok (.iconst 2, 1) := by decide +kernel
theorem dM_points_9 : decode kM_points 9 = .ok (.istore_n 3, 1) := by decide +kernel
theorem dM_points_10 : decode kM_points 10 = .ok (.aload_n 0, 1) := by decide +kernel
theorem dM_points_11 : decode kM_points 11 = .ok (.getfield 101, 3) := by decide +kernel
theorem dM_points_14 : decode kM_points 14 = .ok (.iload_n 1, 1) := by decide +kernel
theorem dM_points_15 : decode kM_points 15 = .ok (.bipush 16, 2) := by decide +kernel
theorem dM_points_17 : decode kM_points 17 = .ok (.iadd, 1) := by decide +kernel
theorem dM_points_18 : decode kM_points 18 = .ok (.iconst 0, 1) := by decide +kernel
theorem dM_points_19 : decode kM_points 19 = .ok (.iastore, 1) := by decide +kernel
theorem dM_points_20 : decode kM_points 20 = .ok (.aload_n 0, 1) := by decide +kernel
theorem dM_points_21 : decode kM_points 21 = .ok (.getfield 101, 3) := by decide +kernel
theorem dM_points_24 : decode kM_points 24 = .ok (.iload_n 1, 1) := by decide +kernel
theorem dM_points_25 : decode kM_points 25 = .ok (.bipush 16, 2) := by decide +kernel
theorem dM_points_27 : decode kM_points 27 = .ok (.iadd, 1) := by decide +kernel
theorem dM_points_28 : decode kM_points 28 = .ok (.iconst 1, 1) := by decide +kernel
theorem dM_points_29 : decode kM_points 29 = .ok (.iadd, 1) := by decide +kernel
theorem dM_points_30 : decode kM_points 30 = .ok (.iconst 1, 1) := by decide +kernel
theorem dM_points_31 : decode kM_points 31 = .ok (.iload_n 2, 1) := by decide +kernel
theorem dM_points_32 : decode kM_points 32 = .ok (.ishl, 1) := by decide +kernel
theorem dM_points_33 : decode kM_points 33 = .ok (.iastore, 1) := by decide +kernel
theorem dM_points_34 : decode kM_points 34 = .ok (.iconst 0, 1) := by decide +kernel
theorem dM_points_35 : decode kM_points 35 = .ok (.istore 4, 2) := by decide +kernel
theorem dM_points_37 : decode kM_points 37 = .ok (.iload 4, 2) := by decide +kernel
theorem dM_points_39 : decode kM_points 39 = .ok (.aload_n 0, 1) := by decide +kernel
theorem dM_points_40 : decode kM_points 40 = .ok (.getfield 101, 3) := by decide +kernel
theorem dM_points_43 : decode kM_points 43 = .ok (.iload_n 1, 1) := by decide +kernel
theorem dM_points_44 : decode kM_points 44 = .ok (.iconst 1, 1) := by decide +kernel
theorem dM_points_45 : decode kM_points 45 = .ok (.iadd, 1) := by decide +kernel
theorem dM_points_46 : decode kM_points 46 = .ok (.iaload, 1) := by decide +kernel
theorem dM_points_47 : decode kM_points 47 = .ok (.if_icmp .ge 66, 3) := by decide +kernel
theorem dM_points_50 : decode kM_points 50 = .ok (.aload_n 0, 1) := by decide +kernel
theorem dM_points_51 : decode kM_points 51 = .ok (.getfield 101, 3) := by decide +kernel
theorem dM_points_54 : decode kM_points 54 = .ok (.iload_n 1, 1) := by decide +kernel
theorem dM_points_55 : decode kM_points 55 = .ok (.iconst 5, 1) := by decide +kernel
theorem dM_points_56 : decode kM_points 56 = .ok (.iadd, 1) := by decide +kernel
theorem dM_points_57 : decode kM_points 57 = .ok (.aload_n 0, 1) := by decide +kernel
theorem dM_points_58 : decode kM_points 58 = .ok (.getfield 101, 3) := by decide +kernel
theorem dM_points_61 : decode kM_points 61 = .ok (.iload_n 1, 1) := by decide +kernel
theorem dM_points_62 : decode kM_points 62 = .ok (.iconst 2, 1) := by decide +kernel
theorem dM_points_63 : decode kM_points 63 = .ok (.iadd, 1) := by decide +kernel
theorem dM_points_64 : decode kM_points 64 = .ok (.iload 4, 2) := by decide +kernel
theorem dM_points_66 : decode kM_points 66 = .ok (.iadd, 1) := by decide +kernel
theorem dM_points_67 : decode kM_points 67 = .ok (.iaload, 1) := by decide +kernel
theorem dM_points_68 : decode kM_points 68 = .ok (.iadd, 1) := by decide +kernel
theorem dM_points_69 : decode kM_points 69 = .ok (.iaload, 1) := by decide +kernel
theorem dM_points_70 : decode kM_points 70 = .ok (.istore 5, 2) := by decide +kernel
theorem dM_points_72 : decode kM_points 72 = .ok (.iconst 0, 1) := by decide +kernel
theorem dM_points_73 : decode kM_points 73 = .ok (.istore 6, 2) := by decide +kernel
theorem dM_points_75 : decode kM_points 75 = .ok (.iload 6, 2) := by decide +kernel
theorem dM_points_77 : decode kM_points 77 = .ok (.iload 5, 2) := by decide +kernel
theorem dM_points_79 : decode kM_points 79 = .ok (.if_icmp .ge 28, 3) := by decide +kernel
theorem dM_points_82 : decode kM_points 82 = .ok (.aload_n 0, 1) := by decide +kernel
theorem dM_points_83 : decode kM_points 83 = .ok (.getfield 101, 3) := by decide +kernel
theorem dM_points_86 : decode kM_points 86 = .ok (.iload_n 1, 1) := by decide +kernel
theorem dM_points_87 : decode kM_points 87 = .ok (.bipush 16, 2) := by decide +kernel
theorem dM_points_89 : decode kM_points 89 = .ok (.iadd, 1) := by decide +kernel
theorem dM_points_90 : decode kM_points 90 = .ok (.iload_n 3, 1) := by decide +kernel
theorem dM_points_91 : decode kM_points 91 = .ok (.iadd, 1) := by decide +kernel
theorem dM_points_92 : decode kM_points 92 = .ok (.aload_n 0, 1) := by decide +kernel
theorem dM_points_93 : decode kM_points 93 = .ok (.iload_n 2, 1) := by decide +kernel
theorem dM_points_94 : decode kM_points 94 = .ok (.invokevirtual 249, 3) := by decide +kernel
theorem dM_points_97 : decode kM_points 97 = .ok (.iastore, 1) := by decide +kernel
theorem dM_points_98 : decode kM_points 98 = .ok (.iinc 3 1, 3) := by decide +kernel
theorem dM_points_101 : decode kM_points 101 = .ok (.iinc 6 1, 3) := by decide +kernel
theorem dM_points_104 : decode kM_points 104 = .ok (.goto (-29), 3) := by decide +kernel
theorem dM_points_107 : decode kM_points 107 = .ok (.iinc 4 1, 3) := by decide +kernel
theorem dM_points_110 : decode kM_points 110 = .ok (.goto (-73), 3) := by decide +kernel
theorem dM_points_113 : decode kM_points 113 = .ok (.aload_n 0, 1) := by decide +kernel
theorem dM_points_114 : decode kM_points 114 = .ok (.getfield 101, 3) := by decide +kernel
theorem dM_points_117 : decode kM_points 117 = .ok (.iload_n 1, 1) := by decide +kernel
theorem dM_points_118 : decode kM_points 118 = .ok (.bipush 15, 2) := by decide +kernel
theorem dM_points_120 : decode kM_points 120 = .ok (.iadd, 1) := by decide +kernel
theorem dM_points_121 : decode kM_points 121 = .ok (.iload_n 3, 1) := by decide +kernel
theorem dM_points_122 : decode kM_points 122 = .ok (.iastore, 1) := by decide +kernel
theorem dM_points_123 : decode kM_points 123 = .ok (.iconst 0, 1) := by decide +kernel
theorem dM_points_124 : decode kM_points 124 = .ok (.istore 4, 2) := by decide +kernel
theorem dM_points_126 : decode kM_points 126 = .ok (.iload 4, 2) := by decide +kernel
theorem dM_points_128 : decode kM_points 128 = .ok (.iload_n 3, 1) := by decide +kernel
theorem dM_points_129 : decode kM_points 129 = .ok (.if_icmp .ge 54, 3) := by decide +kernel
theorem dM_points_132 : decode kM_points 132 = .ok (.iconst 0, 1) := by decide +kernel
theorem dM_points_133 : decode kM_points 133 = .ok (.istore 5, 2) := by decide +kernel
theorem dM_points_135 : decode kM_points 135 = .ok (.iload 5, 2) := by decide +kernel
theorem dM_points_137 : decode kM_points 137 = .ok (.iload 4, 2) := by decide +kernel
theorem dM_points_139 : decode kM_points 139 = .ok (.if_icmp .ge 38, 3) := by decide +kernel
theorem dM_points_142 : decode kM_points 142 = .ok (.aload_n 0, 1) := by decide +kernel
theorem dM_points_143 : decode kM_points 143 = .ok (.getfield 101, 3) := by decide +kernel
theorem dM_points_146 : decode kM_points 146 = .ok (.iload_n 1, 1) := by decide +kernel
theorem dM_points_147 : decode kM_points 147 = .ok (.bipush 16, 2) := by decide +kernel
theorem dM_points_149 : decode kM_points 149 = .ok (.iadd, 1) := by decide +kernel
theorem dM_points_150 : decode kM_points 150 = .ok (.iload 4, 2) := by decide +kernel
theorem dM_points_152 : decode kM_points 152 = .ok (.iadd, 1) := by decide +kernel
theorem dM_points_153 : decode kM_points 153 = .ok (.iaload, 1) := by decide +kernel
theorem dM_points_154 : decode kM_points 154 = .ok (.aload_n 0, 1) := by decide +kernel
theorem dM_points_155 : decode kM_points 155 = .ok (.getfield 101, 3) := by decide +kernel
theorem dM_points_158 : decode kM_points 158 = .ok (.iload_n 1, 1) := by decide +kernel
theorem dM_points_159 : decode kM_points 159 = .ok (.bipush 16, 2) := by decide +kernel
theorem dM_points_161 : decode kM_points 161 = .ok (.iadd, 1) := by decide +kernel
theorem dM_points_162 : decode kM_points 162 = .ok (.iload 5, 2) := by decide +kernel
theorem dM_points_164 : decode kM_points 164 = .ok (.iadd, 1) := by decide +kernel
theorem dM_points_165 : decode kM_points 165 = .ok (.iaload, 1) := by decide +kernel
theorem dM_points_166 : decode kM_points 166 = .ok (.if_icmp .ne 5, 3) := by decide +kernel
theorem dM_points_169 : decode kM_points 169 = .ok (.iconst 0, 1) := by decide +kernel
theorem dM_points_170 : decode kM_points 170 = .ok (.ireturn, 1) := by decide +kernel
theorem dM_points_171 : decode kM_points 171 = .ok (.iinc 5 1, 3) := by decide +kernel
theorem dM_points_174 : decode kM_points 174 = .ok (.goto (-39), 3) := by decide +kernel
theorem dM_points_177 : decode kM_points 177 = .ok (.iinc 4 1, 3) := by decide +kernel
theorem dM_points_180 : decode kM_points 180 = .ok (.goto (-54), 3) := by decide +kernel
theorem dM_points_183 : decode kM_points 183 = .ok (.iconst 1, 1) := by decide +kernel
theorem dM_points_184 : decode kM_points 184 = .ok (.ireturn, 1) := by decide +kernel
def bl_M_points_135 (θ : TH) (a0_126 : Nat) (x1_126 : Int32) (x3_126 : Int32) (x4_135 : Int32) (kb126 : Int32 → VT → UT → Prop) (K : Int32 → VT → UT → Prop) (kb135 : Int32 → VT → UT → Prop) (x5_135 : Int32) (V : VT) (U : UT) : Prop := ((x4_135 ≤ x5_135 → ∀ y_26 : Int32, y_26 = x4_135 + (1 : Int32) → kb126 y_26 V U) ∧ (¬ x4_135 ≤ x5_135 → isO θ a0_126 12 ∧ (U a0_126 52) ≠ 0 ∧ ∃ n_29, isA θ (U a0_126 52) 0 n_29 ∧ vp_in ((x1_126 + (16 : Int32)) + x4_135) n_29 ∧ vp_in ((x1_126 + (16 : Int32)) + x5_135) n_29 ∧ ((¬ (V (U a0_126 52) ((x1_126 + (16 : Int32)) + x4_135).toNatClampNeg) = (V (U a0_126 52) ((x1_126 + (16 : Int32)) + x5_135).toNatClampNeg) → ∀ y_34 : Int32, y_34 = x5_135 + (1 : Int32) → kb135 y_34 V U) ∧ ((V (U a0_126 52) ((x1_126 + (16 : Int32)) + x4_135).toNatClampNeg) = (V (U a0_126 52) ((x1_126 + (16 : Int32)) + x5_135).toNatClampNeg) → K (0 : Int32) V U))))
def wl_M_points_135 (θ : TH) (a0_126 : Nat) (x1_126 : Int32) (x3_126 : Int32) (x4_135 : Int32) (kb126 : Int32 → VT → UT → Prop) (K : Int32 → VT → UT → Prop) : Nat → Int32 → VT → UT → Prop
  | 0, _, _, _ => False
  | n + 1, x5_135, V, U => bl_M_points_135 θ a0_126 x1_126 x3_126 x4_135 kb126 K (wl_M_points_135 θ a0_126 x1_126 x3_126 x4_135 kb126 K n) x5_135 V U
def bl_M_points_126 (θ : TH) (a0_126 : Nat) (x1_126 : Int32) (x3_126 : Int32) (K : Int32 → VT → UT → Prop) (kb126 : Int32 → VT → UT → Prop) (x4_126 : Int32) (V : VT) (U : UT) : Prop := ((x3_126 ≤ x4_126 → K (1 : Int32) V U) ∧ (¬ x3_126 ≤ x4_126 → ∃ n, wl_M_points_135 θ a0_126 x1_126 x3_126 x4_126 kb126 K n (0 : Int32) V U))
def wl_M_points_126 (θ : TH) (a0_126 : Nat) (x1_126 : Int32) (x3_126 : Int32) (K : Int32 → VT → UT → Prop) : Nat → Int32 → VT → UT → Prop
  | 0, _, _, _ => False
  | n + 1, x4_126, V, U => bl_M_points_126 θ a0_126 x1_126 x3_126 K (wl_M_points_126 θ a0_126 x1_126 x3_126 K n) x4_126 V U
def bl_M_points_75 (θ : TH) (a0_37 : Nat) (x1_37 : Int32) (x2_37 : Int32) (x4_75 : Int32) (x5_75 : Int32) (kb37 : Int32 → Int32 → VT → UT → Prop) (K : Int32 → VT → UT → Prop) (kb75 : Int32 → Int32 → VT → UT → Prop) (x3_75 : Int32) (x6_75 : Int32) (V : VT) (U : UT) : Prop := ((x5_75 ≤ x6_75 → ∀ y_36 : Int32, y_36 = x4_75 + (1 : Int32) → kb37 x3_75 y_36 V U) ∧ (¬ x5_75 ≤ x6_75 → isO θ a0_37 12 ∧ (U a0_37 52) ≠ 0 ∧ wp_M_read θ a0_37 x2_37 V U (fun r_41 V_39 U_40 => ∃ n_42, isA θ (U a0_37 52) 0 n_42 ∧ vp_in ((x1_37 + (16 : Int32)) + x3_75) n_42 ∧ ∀ V_45 : VT, V_45 = up2 V_39 (U a0_37 52) ((x1_37 + (16 : Int32)) + x3_75).toNatClampNeg r_41 → ∀ y_46 : Int32, y_46 = x3_75 + (1 : Int32) → ∀ y_47 : Int32, y_47 = x6_75 + (1 : Int32) → kb75 y_46 y_47 V_45 U_40)))
def wl_M_points_75 (θ : TH) (a0_37 : Nat) (x1_37 : Int32) (x2_37 : Int32) (x4_75 : Int32) (x5_75 : Int32) (kb37 : Int32 → Int32 → VT → UT → Prop) (K : Int32 → VT → UT → Prop) : Nat → Int32 → Int32 → VT → UT → Prop
  | 0, _, _, _, _ => False
  | n + 1, x3_75, x6_75, V, U => bl_M_points_75 θ a0_37 x1_37 x2_37 x4_75 x5_75 kb37 K (wl_M_points_75 θ a0_37 x1_37 x2_37 x4_75 x5_75 kb37 K n) x3_75 x6_75 V U
def bl_M_points_37 (θ : TH) (a0_37 : Nat) (x1_37 : Int32) (x2_37 : Int32) (K : Int32 → VT → UT → Prop) (kb37 : Int32 → Int32 → VT → UT → Prop) (x3_37 : Int32) (x4_37 : Int32) (V : VT) (U : UT) : Prop := isO θ a0_37 12 ∧ (U a0_37 52) ≠ 0 ∧ ∃ n_15, isA θ (U a0_37 52) 0 n_15 ∧ vp_in (x1_37 + (1 : Int32)) n_15 ∧ (((V (U a0_37 52) (x1_37 + (1 : Int32)).toNatClampNeg) ≤ x4_37 → vp_in (x1_37 + (15 : Int32)) n_15 ∧ ∀ V_20 : VT, V_20 = up2 V (U a0_37 52) (x1_37 + (15 : Int32)).toNatClampNeg x3_37 → ∃ n, wl_M_points_126 θ a0_37 x1_37 x3_37 K n (0 : Int32) V_20 U) ∧ (¬ (V (U a0_37 52) (x1_37 + (1 : Int32)).toNatClampNeg) ≤ x4_37 → vp_in ((x1_37 + (2 : Int32)) + x4_37) n_15 ∧ vp_in ((x1_37 + (5 : Int32)) + (V (U a0_37 52) ((x1_37 + (2 : Int32)) + x4_37).toNatClampNeg)) n_15 ∧ ∀ y_23 : Int32, y_23 = (V (U a0_37 52) ((x1_37 + (5 : Int32)) + (V (U a0_37 52) ((x1_37 + (2 : Int32)) + x4_37).toNatClampNeg)).toNatClampNeg) → ∃ n, wl_M_points_75 θ a0_37 x1_37 x2_37 x4_37 y_23 kb37 K n x3_37 (0 : Int32) V U))
def wl_M_points_37 (θ : TH) (a0_37 : Nat) (x1_37 : Int32) (x2_37 : Int32) (K : Int32 → VT → UT → Prop) : Nat → Int32 → Int32 → VT → UT → Prop
  | 0, _, _, _, _ => False
  | n + 1, x3_37, x4_37, V, U => bl_M_points_37 θ a0_37 x1_37 x2_37 K (wl_M_points_37 θ a0_37 x1_37 x2_37 K n) x3_37 x4_37 V U
def wp_M_points (θ : TH) (a0 : Nat) (x1 : Int32) (V : VT) (U : UT) (K : Int32 → VT → UT → Prop) : Prop := isO θ a0 12 ∧ wp_M_read θ a0 (2 : Int32) V U (fun r_4 V_1 U_2 => ∀ y_5 : Int32, y_5 = (r_4 + (2 : Int32)) → (U_2 a0 52) ≠ 0 ∧ ∃ n_7, isA θ (U_2 a0 52) 0 n_7 ∧ vp_in (x1 + (16 : Int32)) n_7 ∧ ∀ V_10 : VT, V_10 = up2 V_1 (U_2 a0 52) (x1 + (16 : Int32)).toNatClampNeg (0 : Int32) → vp_in ((x1 + (16 : Int32)) + (1 : Int32)) n_7 ∧ ∀ V_12 : VT, V_12 = up2 V_10 (U_2 a0 52) ((x1 + (16 : Int32)) + (1 : Int32)).toNatClampNeg ((1 : Int32) <<< (y_5 &&& 31)) → ∃ n, wl_M_points_37 θ a0 x1 y_5 K n (2 : Int32) (0 : Int32) V_12 U_2)
set_option maxRecDepth 100000 in
set_option maxHeartbeats 4000000 in
theorem c_M_points (l : Launch) (θ : TH) (a0 : Nat) (x1 : Int32) (V : VT) (U : UT) (K : Int32 → VT → UT → Prop) (hw : wp_M_points θ a0 x1 V U K) : CMi l yM_points kM_points 7 (some .boolean) rmM_points θ [.ref a0, .int x1] V U K := by
  refine g_met nRM (by decide +kernel) rfl (Nat.le_of_ble_eq_true rfl) (fun p e s m args below meth c ls hC hr hlk hwo hl => ?_)
  have hx := hC.1
  have hb := hC.2.1
  have hS : Sx θ s s.heap [] := va_S.rf
  have hl : lv_has ls 7 [(0, .ref a0), (1, .int x1)] := hl
  have L126 : ∀ (a0_126 : Nat) (x1_126 : Int32) (x3_126 : Int32) (n126 : Nat) (x4_126 : Int32) (V : VT) (U : UT) (H : Heap) (locs : List Loc) (ls : Array Slot), wl_M_points_126 θ a0_126 x1_126 x3_126 K n126 x4_126 V U → wo θ V U H → Sx θ s H locs → lv_has ls 7 [(0, .ref a0_126), (1, .int x1_126), (3, .int x3_126), (4, .int x4_126)] → W p l e rmM_points s m args below meth c H locs 0 0 (MQ below (QI θ K) args s 0 0 (aT θ)) (F0 m 126 ls []) := by
    intro a0_126 x1_126 x3_126 n126
    induction n126 with
    | zero => intro x4_126 V U H locs ls hw hwo hS hl; exact (show False from hw).elim
    | succ n126 ih126 =>
      have L135 : ∀ (x4_135 : Int32) (n135 : Nat) (x5_135 : Int32) (V : VT) (U : UT) (H : Heap) (locs : List Loc) (ls : Array Slot), wl_M_points_135 θ a0_126 x1_126 x3_126 x4_135 (wl_M_points_126 θ a0_126 x1_126 x3_126 K n126) K n135 x5_135 V U → wo θ V U H → Sx θ s H locs → lv_has ls 7 [(0, .ref a0_126), (1, .int x1_126), (3, .int x3_126), (4, .int x4_135), (5, .int x5_135)] → W p l e rmM_points s m args below meth c H locs 0 0 (MQ below (QI θ K) args s 0 0 (aT θ)) (F0 m 135 ls []) := by
        intro x4_135 n135
        induction n135 with
        | zero => intro x5_135 V U H locs ls hw hwo hS hl; exact (show False from hw).elim
        | succ n135 ih135 =>
          intro x5_135 V U H locs ls hw hwo hS hl
          replace hw : bl_M_points_135 θ a0_126 x1_126 x3_126 x4_135 (wl_M_points_126 θ a0_126 x1_126 x3_126 K n126) K (wl_M_points_135 θ a0_126 x1_126 x3_126 x4_135 (wl_M_points_126 θ a0_126 x1_126 x3_126 K n126) K n135) x5_135 V U := hw
          unfold bl_M_points_135 at hw
          refine lv_iload hx hb dM_points_135 (lv_at hl 4 rfl) ?_
          refine lv_iload hx hb dM_points_137 (lv_at hl 3 rfl) ?_
          refine lv_icmp_ge (tgt := 177) hx hb dM_points_139 (by decide) (fun hc_25 => ?_) (fun hc_25 => ?_)
          · replace hw := hw.1 hc_25
            obtain ⟨y_26, ey_26⟩ : ∃ z : Int32, z = x4_135 + (1 : Int32) := ⟨_, rfl⟩
            replace hw := hw y_26 ey_26
            refine lv_iinc (k := 3) (v := y_26) (lv' := [(4, .int y_26), (0, .ref a0_126), (1, .int x1_126), (3, .int x3_126), (5, .int x5_135)]) hx hb dM_points_177 hl rfl (by rw [ey_26]; rfl) (by decide) rfl (fun ls hl => ?_)
            refine lv_goto (tgt := 126) hx hb dM_points_180 (by decide) ?_
            exact ih126 _ _ _ _ _ _ hw hwo hS (lv_sub hl [1, 2, 3, 0] rfl)
          · replace hw := hw.2 hc_25
            refine lv_aload_n hx hb dM_points_142 rfl (lv_at hl 0 rfl) ?_
            obtain ⟨ho_27, hw⟩ := hw
            obtain ⟨hz_28, hw⟩ := hw
            refine g_getR hC fkM_101 rfl hwo ho_27 hz_28 dM_points_143 ?_
            refine lv_iload_n hx hb dM_points_146 rfl (lv_at hl 1 rfl) ?_
            refine lv_bipush (v := 16) hx hb dM_points_147 (by decide) ?_
            refine lv_iadd hx hb dM_points_149 ?_
            refine lv_iload hx hb dM_points_150 (lv_at hl 3 rfl) ?_
            refine lv_iadd hx hb dM_points_152 ?_
            obtain ⟨n_29, ha_30, hw⟩ := hw
            obtain ⟨hi_31, hw⟩ := hw
            refine g_iald hC hwo ha_30 hi_31 dM_points_153 ?_
            refine lv_aload_n hx hb dM_points_154 rfl (lv_at hl 0 rfl) ?_
            refine g_getR hC fkM_101 rfl hwo ho_27 hz_28 dM_points_155 ?_
            refine lv_iload_n hx hb dM_points_158 rfl (lv_at hl 1 rfl) ?_
            refine lv_bipush (v := 16) hx hb dM_points_159 (by decide) ?_
            refine lv_iadd hx hb dM_points_161 ?_
            refine lv_iload hx hb dM_points_162 (lv_at hl 4 rfl) ?_
            refine lv_iadd hx hb dM_points_164 ?_
            obtain ⟨hi_32, hw⟩ := hw
            refine g_iald hC hwo ha_30 hi_32 dM_points_165 ?_
            refine lv_icmp_ne (tgt := 171) hx hb dM_points_166 (by decide) (fun hc_33 => ?_) (fun hc_33 => ?_)
            · replace hw := hw.1 hc_33
              obtain ⟨y_34, ey_34⟩ : ∃ z : Int32, z = x5_135 + (1 : Int32) := ⟨_, rfl⟩
              replace hw := hw y_34 ey_34
              refine lv_iinc (k := 4) (v := y_34) (lv' := [(5, .int y_34), (0, .ref a0_126), (1, .int x1_126), (3, .int x3_126), (4, .int x4_135)]) hx hb dM_points_171 hl rfl (by rw [ey_34]; rfl) (by decide) rfl (fun ls hl => ?_)
              refine lv_goto (tgt := 135) hx hb dM_points_174 (by decide) ?_
              exact ih135 _ _ _ _ _ _ hw hwo hS (lv_sub hl [1, 2, 3, 4, 0] rfl)
            · replace hw := hw.2 hc_33
              refine lv_iconst (v := 0) hx hb dM_points_169 (by decide) ?_
              exact g_zret hC hr hlk (Or.inl rfl) hw hwo hS dM_points_170
      intro x4_126 V U H locs ls hw hwo hS hl
      replace hw : bl_M_points_126 θ a0_126 x1_126 x3_126 K (wl_M_points_126 θ a0_126 x1_126 x3_126 K n126) x4_126 V U := hw
      unfold bl_M_points_126 at hw
      refine lv_iload hx hb dM_points_126 (lv_at hl 3 rfl) ?_
      refine lv_iload_n hx hb dM_points_128 rfl (lv_at hl 2 rfl) ?_
      refine lv_icmp_ge (tgt := 183) hx hb dM_points_129 (by decide) (fun hc_24 => ?_) (fun hc_24 => ?_)
      · replace hw := hw.1 hc_24
        refine lv_iconst (v := 1) hx hb dM_points_183 (by decide) ?_
        exact g_zret hC hr hlk (Or.inr rfl) hw hwo hS dM_points_184
      · replace hw := hw.2 hc_24
        refine lv_iconst (v := 0) hx hb dM_points_132 (by decide) ?_
        refine lv_istore (i := 5) (lv' := [(5, .int (0 : Int32)), (0, .ref a0_126), (1, .int x1_126), (3, .int x3_126), (4, .int x4_126)]) hx hb dM_points_133 hl (by decide) rfl (fun ls hl => ?_)
        obtain ⟨n, hw⟩ := hw
        exact L135 _ n _ _ _ _ _ _ hw hwo hS (lv_sub hl [1, 2, 3, 4, 0] rfl)
  have L37 : ∀ (a0_37 : Nat) (x1_37 : Int32) (x2_37 : Int32) (n37 : Nat) (x3_37 : Int32) (x4_37 : Int32) (V : VT) (U : UT) (H : Heap) (locs : List Loc) (ls : Array Slot), wl_M_points_37 θ a0_37 x1_37 x2_37 K n37 x3_37 x4_37 V U → wo θ V U H → Sx θ s H locs → lv_has ls 7 [(0, .ref a0_37), (1, .int x1_37), (2, .int x2_37), (3, .int x3_37), (4, .int x4_37)] → W p l e rmM_points s m args below meth c H locs 0 0 (MQ below (QI θ K) args s 0 0 (aT θ)) (F0 m 37 ls []) := by
    intro a0_37 x1_37 x2_37 n37
    induction n37 with
    | zero => intro x3_37 x4_37 V U H locs ls hw hwo hS hl; exact (show False from hw).elim
    | succ n37 ih37 =>
      have L75 : ∀ (x4_75 : Int32) (x5_75 : Int32) (n75 : Nat) (x3_75 : Int32) (x6_75 : Int32) (V : VT) (U : UT) (H : Heap) (locs : List Loc) (ls : Array Slot), wl_M_points_75 θ a0_37 x1_37 x2_37 x4_75 x5_75 (wl_M_points_37 θ a0_37 x1_37 x2_37 K n37) K n75 x3_75 x6_75 V U → wo θ V U H → Sx θ s H locs → lv_has ls 7 [(0, .ref a0_37), (1, .int x1_37), (2, .int x2_37), (3, .int x3_75), (4, .int x4_75), (5, .int x5_75), (6, .int x6_75)] → W p l e rmM_points s m args below meth c H locs 0 0 (MQ below (QI θ K) args s 0 0 (aT θ)) (F0 m 75 ls []) := by
        intro x4_75 x5_75 n75
        induction n75 with
        | zero => intro x3_75 x6_75 V U H locs ls hw hwo hS hl; exact (show False from hw).elim
        | succ n75 ih75 =>
          intro x3_75 x6_75 V U H locs ls hw hwo hS hl
          replace hw : bl_M_points_75 θ a0_37 x1_37 x2_37 x4_75 x5_75 (wl_M_points_37 θ a0_37 x1_37 x2_37 K n37) K (wl_M_points_75 θ a0_37 x1_37 x2_37 x4_75 x5_75 (wl_M_points_37 θ a0_37 x1_37 x2_37 K n37) K n75) x3_75 x6_75 V U := hw
          unfold bl_M_points_75 at hw
          refine lv_iload hx hb dM_points_75 (lv_at hl 6 rfl) ?_
          refine lv_iload hx hb dM_points_77 (lv_at hl 5 rfl) ?_
          refine lv_icmp_ge (tgt := 107) hx hb dM_points_79 (by decide) (fun hc_35 => ?_) (fun hc_35 => ?_)
          · replace hw := hw.1 hc_35
            obtain ⟨y_36, ey_36⟩ : ∃ z : Int32, z = x4_75 + (1 : Int32) := ⟨_, rfl⟩
            replace hw := hw y_36 ey_36
            refine lv_iinc (k := 4) (v := y_36) (lv' := [(4, .int y_36), (0, .ref a0_37), (1, .int x1_37), (2, .int x2_37), (3, .int x3_75), (5, .int x5_75), (6, .int x6_75)]) hx hb dM_points_107 hl rfl (by rw [ey_36]; rfl) (by decide) rfl (fun ls hl => ?_)
            refine lv_goto (tgt := 37) hx hb dM_points_110 (by decide) ?_
            exact ih37 _ _ _ _ _ _ _ hw hwo hS (lv_sub hl [1, 2, 3, 4, 0] rfl)
          · replace hw := hw.2 hc_35
            refine lv_aload_n hx hb dM_points_82 rfl (lv_at hl 0 rfl) ?_
            obtain ⟨ho_37, hw⟩ := hw
            obtain ⟨hz_38, hw⟩ := hw
            refine g_getR hC fkM_101 rfl hwo ho_37 hz_38 dM_points_83 ?_
            refine lv_iload_n hx hb dM_points_86 rfl (lv_at hl 1 rfl) ?_
            refine lv_bipush (v := 16) hx hb dM_points_87 (by decide) ?_
            refine lv_iadd hx hb dM_points_89 ?_
            refine lv_iload_n hx hb dM_points_90 rfl (lv_at hl 3 rfl) ?_
            refine lv_iadd hx hb dM_points_91 ?_
            refine lv_aload_n hx hb dM_points_92 rfl (lv_at hl 0 rfl) ?_
            refine lv_iload_n hx hb dM_points_93 rfl (lv_at hl 2 rfl) ?_
            refine g_Vi (rest := [.int ((x1_37 + (16 : Int32)) + x3_75), .ref (U a0_37 52)]) hC (c_M_read l θ _ _ _ _ _ hw) mi_M_read mlM_249 mv_M_read ci_12 ho_37 hwo hS ⟨rfl, rfl⟩ ⟨by decide, by decide⟩ rfl hl.1 rfl (Nat.le_of_ble_eq_true rfl) dM_points_94 (fun r_41 V_39 U_40 hw H locs hwo hS => ?_)
            obtain ⟨n_42, ha_43, hw⟩ := hw
            obtain ⟨hi_44, hw⟩ := hw
            refine g_iast hC hwo hS ha_43 hi_44 dM_points_97 (fun V_45 eV_45 H locs hwo hS => ?_)
            replace hw := hw V_45 eV_45
            obtain ⟨y_46, ey_46⟩ : ∃ z : Int32, z = x3_75 + (1 : Int32) := ⟨_, rfl⟩
            replace hw := hw y_46 ey_46
            refine lv_iinc (k := 3) (v := y_46) (lv' := [(3, .int y_46), (0, .ref a0_37), (1, .int x1_37), (2, .int x2_37), (4, .int x4_75), (5, .int x5_75), (6, .int x6_75)]) hx hb dM_points_98 hl rfl (by rw [ey_46]; rfl) (by decide) rfl (fun ls hl => ?_)
            obtain ⟨y_47, ey_47⟩ : ∃ z : Int32, z = x6_75 + (1 : Int32) := ⟨_, rfl⟩
            replace hw := hw y_47 ey_47
            refine lv_iinc (k := 6) (v := y_47) (lv' := [(6, .int y_47), (3, .int y_46), (0, .ref a0_37), (1, .int x1_37), (2, .int x2_37), (4, .int x4_75), (5, .int x5_75)]) hx hb dM_points_101 hl rfl (by rw [ey_47]; rfl) (by decide) rfl (fun ls hl => ?_)
            refine lv_goto (tgt := 75) hx hb dM_points_104 (by decide) ?_
            exact ih75 _ _ _ _ _ _ _ hw hwo hS (lv_sub hl [2, 3, 4, 1, 5, 6, 0] rfl)
      intro x3_37 x4_37 V U H locs ls hw hwo hS hl
      replace hw : bl_M_points_37 θ a0_37 x1_37 x2_37 K (wl_M_points_37 θ a0_37 x1_37 x2_37 K n37) x3_37 x4_37 V U := hw
      unfold bl_M_points_37 at hw
      refine lv_iload hx hb dM_points_37 (lv_at hl 4 rfl) ?_
      refine lv_aload_n hx hb dM_points_39 rfl (lv_at hl 0 rfl) ?_
      obtain ⟨ho_13, hw⟩ := hw
      obtain ⟨hz_14, hw⟩ := hw
      refine g_getR hC fkM_101 rfl hwo ho_13 hz_14 dM_points_40 ?_
      refine lv_iload_n hx hb dM_points_43 rfl (lv_at hl 1 rfl) ?_
      refine lv_iconst (v := 1) hx hb dM_points_44 (by decide) ?_
      refine lv_iadd hx hb dM_points_45 ?_
      obtain ⟨n_15, ha_16, hw⟩ := hw
      obtain ⟨hi_17, hw⟩ := hw
      refine g_iald hC hwo ha_16 hi_17 dM_points_46 ?_
      refine lv_icmp_ge (tgt := 113) hx hb dM_points_47 (by decide) (fun hc_18 => ?_) (fun hc_18 => ?_)
      · replace hw := hw.1 hc_18
        refine lv_aload_n hx hb dM_points_113 rfl (lv_at hl 0 rfl) ?_
        refine g_getR hC fkM_101 rfl hwo ho_13 hz_14 dM_points_114 ?_
        refine lv_iload_n hx hb dM_points_117 rfl (lv_at hl 1 rfl) ?_
        refine lv_bipush (v := 15) hx hb dM_points_118 (by decide) ?_
        refine lv_iadd hx hb dM_points_120 ?_
        refine lv_iload_n hx hb dM_points_121 rfl (lv_at hl 3 rfl) ?_
        obtain ⟨hi_19, hw⟩ := hw
        refine g_iast hC hwo hS ha_16 hi_19 dM_points_122 (fun V_20 eV_20 H locs hwo hS => ?_)
        replace hw := hw V_20 eV_20
        refine lv_iconst (v := 0) hx hb dM_points_123 (by decide) ?_
        refine lv_istore (i := 4) (lv' := [(4, .int (0 : Int32)), (0, .ref a0_37), (1, .int x1_37), (2, .int x2_37), (3, .int x3_37)]) hx hb dM_points_124 hl (by decide) rfl (fun ls hl => ?_)
        obtain ⟨n, hw⟩ := hw
        exact L126 _ _ _ n _ _ _ _ _ _ hw hwo hS (lv_sub hl [1, 2, 4, 0] rfl)
      · replace hw := hw.2 hc_18
        refine lv_aload_n hx hb dM_points_50 rfl (lv_at hl 0 rfl) ?_
        refine g_getR hC fkM_101 rfl hwo ho_13 hz_14 dM_points_51 ?_
        refine lv_iload_n hx hb dM_points_54 rfl (lv_at hl 1 rfl) ?_
        refine lv_iconst (v := 5) hx hb dM_points_55 (by decide) ?_
        refine lv_iadd hx hb dM_points_56 ?_
        refine lv_aload_n hx hb dM_points_57 rfl (lv_at hl 0 rfl) ?_
        refine g_getR hC fkM_101 rfl hwo ho_13 hz_14 dM_points_58 ?_
        refine lv_iload_n hx hb dM_points_61 rfl (lv_at hl 1 rfl) ?_
        refine lv_iconst (v := 2) hx hb dM_points_62 (by decide) ?_
        refine lv_iadd hx hb dM_points_63 ?_
        refine lv_iload hx hb dM_points_64 (lv_at hl 4 rfl) ?_
        refine lv_iadd hx hb dM_points_66 ?_
        obtain ⟨hi_21, hw⟩ := hw
        refine g_iald hC hwo ha_16 hi_21 dM_points_67 ?_
        refine lv_iadd hx hb dM_points_68 ?_
        obtain ⟨hi_22, hw⟩ := hw
        refine g_iald hC hwo ha_16 hi_22 dM_points_69 ?_
        refine lv_topi (fun y_23 ey_23 => ?_)
        replace hw := hw y_23 ey_23
        refine lv_istore (i := 5) (lv' := [(5, .int y_23), (0, .ref a0_37), (1, .int x1_37), (2, .int x2_37), (3, .int x3_37), (4, .int x4_37)]) hx hb dM_points_70 hl (by decide) rfl (fun ls hl => ?_)
        refine lv_iconst (v := 0) hx hb dM_points_72 (by decide) ?_
        refine lv_istore (i := 6) (lv' := [(6, .int (0 : Int32)), (5, .int y_23), (0, .ref a0_37), (1, .int x1_37), (2, .int x2_37), (3, .int x3_37), (4, .int x4_37)]) hx hb dM_points_73 hl (by decide) rfl (fun ls hl => ?_)
        obtain ⟨n, hw⟩ := hw
        exact L75 _ _ n _ _ _ _ _ _ _ hw hwo hS (lv_sub hl [2, 3, 4, 5, 6, 1, 0] rfl)
  unfold wp_M_points at hw
  refine lv_aload_n hx hb dM_points_0 rfl (lv_at hl 0 rfl) ?_
  refine lv_iconst (v := 2) hx hb dM_points_1 (by decide) ?_
  obtain ⟨ho_3, hw⟩ := hw
  refine g_Vi (rest := []) hC (c_M_read l θ _ _ _ _ _ hw) mi_M_read mlM_249 mv_M_read ci_12 ho_3 hwo hS ⟨rfl, rfl⟩ ⟨by decide, by decide⟩ rfl hl.1 rfl (Nat.le_of_ble_eq_true rfl) dM_points_2 (fun r_4 V_1 U_2 hw H locs hwo hS => ?_)
  refine lv_iconst (v := 2) hx hb dM_points_5 (by decide) ?_
  refine lv_iadd hx hb dM_points_6 ?_
  refine lv_topi (fun y_5 ey_5 => ?_)
  replace hw := hw y_5 ey_5
  refine lv_istore_n (i := 2) (lv' := [(2, .int y_5), (0, .ref a0), (1, .int x1)]) hx hb dM_points_7 rfl hl (by decide) rfl (fun ls hl => ?_)
  refine lv_iconst (v := 2) hx hb dM_points_8 (by decide) ?_
  refine lv_istore_n (i := 3) (lv' := [(3, .int (2 : Int32)), (2, .int y_5), (0, .ref a0), (1, .int x1)]) hx hb dM_points_9 rfl hl (by decide) rfl (fun ls hl => ?_)
  refine lv_aload_n hx hb dM_points_10 rfl (lv_at hl 2 rfl) ?_
  obtain ⟨hz_6, hw⟩ := hw
  refine g_getR hC fkM_101 rfl hwo ho_3 hz_6 dM_points_11 ?_
  refine lv_iload_n hx hb dM_points_14 rfl (lv_at hl 3 rfl) ?_
  refine lv_bipush (v := 16) hx hb dM_points_15 (by decide) ?_
  refine lv_iadd hx hb dM_points_17 ?_
  refine lv_iconst (v := 0) hx hb dM_points_18 (by decide) ?_
  obtain ⟨n_7, ha_8, hw⟩ := hw
  obtain ⟨hi_9, hw⟩ := hw
  refine g_iast hC hwo hS ha_8 hi_9 dM_points_19 (fun V_10 eV_10 H locs hwo hS => ?_)
  replace hw := hw V_10 eV_10
  refine lv_aload_n hx hb dM_points_20 rfl (lv_at hl 2 rfl) ?_
  refine g_getR hC fkM_101 rfl hwo ho_3 hz_6 dM_points_21 ?_
  refine lv_iload_n hx hb dM_points_24 rfl (lv_at hl 3 rfl) ?_
  refine lv_bipush (v := 16) hx hb dM_points_25 (by decide) ?_
  refine lv_iadd hx hb dM_points_27 ?_
  refine lv_iconst (v := 1) hx hb dM_points_28 (by decide) ?_
  refine lv_iadd hx hb dM_points_29 ?_
  refine lv_iconst (v := 1) hx hb dM_points_30 (by decide) ?_
  refine lv_iload_n hx hb dM_points_31 rfl (lv_at hl 1 rfl) ?_
  refine lv_ishl hx hb dM_points_32 ?_
  obtain ⟨hi_11, hw⟩ := hw
  refine g_iast hC hwo hS ha_8 hi_11 dM_points_33 (fun V_12 eV_12 H locs hwo hS => ?_)
  replace hw := hw V_12 eV_12
  refine lv_iconst (v := 0) hx hb dM_points_34 (by decide) ?_
  refine lv_istore (i := 4) (lv' := [(4, .int (0 : Int32)), (3, .int (2 : Int32)), (2, .int y_5), (0, .ref a0), (1, .int x1)]) hx hb dM_points_35 hl (by decide) rfl (fun ls hl => ?_)
  obtain ⟨n, hw⟩ := hw
  exact L37 _ _ _ n _ _ _ _ _ _ _ hw hwo hS (lv_sub hl [3, 4, 2, 1, 0] rfl)
theorem dM_curvePart_0 : decode kM_curvePart 0 = .ok (.aload_n 0, 1) := by decide +kernel
theorem dM_curvePart_1 : decode kM_curvePart 1 = .ok (.getfield 101, 3) := by decide +kernel
theorem dM_curvePart_4 : decode kM_curvePart 4 = .ok (.iload_n 1, 1) := by decide +kernel
theorem dM_curvePart_5 : decode kM_curvePart 5 = .ok (.iconst 0, 1) := by decide +kernel
theorem dM_curvePart_6 : decode kM_curvePart 6 = .ok (.iadd, 1) := by decide +kernel
theorem dM_curvePart_7 : decode kM_curvePart 7 = .ok (.aload_n 0, 1) := by decide +kernel
theorem dM_curvePart_8 : decode kM_curvePart 8 = .ok (.iconst 2, 1) := by decide +kernel
theorem dM_curvePart_9 : decode kM_curvePart 9 = .ok (.invokevirtual 249, 3) := by decide +kernel
theorem dM_curvePart_12 : decode kM_curvePart 12 = .ok (.iconst 1, 1) := by decide +kernel
theorem dM_curvePart_13 : decode kM_curvePart 13 = .ok (.iadd, 1) := by decide +kernel
theorem dM_curvePart_14 : decode kM_curvePart 14 = .ok (.iastore, 1) := by decide +kernel
theorem dM_curvePart_15 : decode kM_curvePart 15 = .ok (.aload_n 0, 1) := by decide +kernel
theorem dM_curvePart_16 : decode kM_curvePart 16 = .ok (.iconst 2, 1) := by decide +kernel
theorem dM_curvePart_17 : decode kM_curvePart 17 = .ok (.invokevirtual 249, 3) := by decide +kernel
theorem dM_curvePart_20 : decode kM_curvePart 20 = .ok (.istore_n 2, 1) := by decide +kernel
theorem dM_curvePart_21 : decode kM_curvePart 21 = .ok (.aload_n 0, 1) := by decide +kernel
theorem dM_curvePart_22 : decode kM_curvePart 22 = .ok (.getfield 101, 3) := by decide +kernel
theorem dM_curvePart_25 : decode kM_curvePart 25 = .ok (.iload_n 1, 1) := by decide +kernel
theorem dM_curvePart_26 : decode kM_curvePart 26 = .ok (.iconst 1, 1) := by decide +kernel
theorem dM_curvePart_27 : decode kM_curvePart 27 = .ok (.iadd, 1) := by decide +kernel
theorem dM_curvePart_28 : decode kM_curvePart 28 = .ok (.iload_n 2, 1) := by decide +kernel
theorem dM_curvePart_29 : decode kM_curvePart 29 = .ok (.iastore, 1) := by decide +kernel
theorem dM_curvePart_30 : decode kM_curvePart 30 = .ok (.iconst (-1), 1) := by decide +kernel
theorem dM_curvePart_31 : decode kM_curvePart 31 = .ok (.istore_n 3, 1) := by decide +kernel
theorem dM_curvePart_32 : decode kM_curvePart 32 = .ok (.iconst 0, 1) := by decide +kernel
theorem dM_curvePart_33 : decode kM_curvePart 33 = .ok (.istore 4, 2) := by decide +kernel
theorem dM_curvePart_35 : decode kM_curvePart 35 = .ok (.iload 4, 2) := by decide +kernel
theorem dM_curvePart_37 : decode kM_curvePart 37 = .ok (.iload_n 2, 1) := by decide +kernel
theorem dM_curvePart_38 : decode kM_curvePart 38 = .ok (.if_icmp .ge 42, 3) := by decide +kernel
theorem dM_curvePart_41 : decode kM_curvePart 41 = .ok (.aload_n 0, 1) := by decide +kernel
theorem dM_curvePart_42 : decode kM_curvePart 42 = .ok (.iconst 1, 1) := by decide +kernel
theorem dM_curvePart_43 : decode kM_curvePart 43 = .ok (.invokevirtual 249, 3) := by decide +kernel
theorem dM_curvePart_46 : decode kM_curvePart 46 = .ok (.istore 5, 2) := by decide +kernel
theorem dM_curvePart_48 : decode kM_curvePart 48 = .ok (.aload_n 0, 1) := by decide +kernel
theorem dM_curvePart_49 : decode kM_curvePart 49 = .ok (.getfield 101, 3) := by decide +kernel
theorem dM_curvePart_52 : decode kM_curvePart 52 = .ok (.iload_n 1, 1) := by decide +kernel
theorem dM_curvePart_53 : decode kM_curvePart 53 = .ok (.iconst 2, 1) := by decide +kernel
theorem dM_curvePart_54 : decode kM_curvePart 54 = .ok (.iadd, 1) := by decide +kernel
theorem dM_curvePart_55 : decode kM_curvePart 55 = .ok (.iload 4, 2) := by decide +kernel
theorem dM_curvePart_57 : decode kM_curvePart 57 = .ok (.iadd, 1) := by decide +kernel
theorem dM_curvePart_58 : decode kM_curvePart 58 = .ok (.iload 5, 2) := by decide +kernel
theorem dM_curvePart_60 : decode kM_curvePart 60 = .ok (.iastore, 1) := by decide +kernel
theorem dM_curvePart_61 : decode kM_curvePart 61 = .ok (.iload 5, 2) := by decide +kernel
theorem dM_curvePart_63 : decode kM_curvePart 63 = .ok (.iload_n 3, 1) := by decide +kernel
theorem dM_curvePart_64 : decode kM_curvePart 64 = .ok (.if_icmp .le 8, 3) := by decide +kernel
theorem dM_curvePart_67 : decode kM_curvePart 67 = .ok (.iload 5, 2) := by decide +kernel
theorem dM_curvePart_69 : decode kM_curvePart 69 = .ok (.goto 4, 3) := by decide +kernel
theorem dM_curvePart_72 : decode kM_curvePart 72 = .ok (.iload_n 3, 1) := by decide +kernel
theorem dM_curvePart_73 : decode kM_curvePart 73 = .ok (.istore_n 3, 1) := by decide +kernel
theorem dM_curvePart_74 : decode kM_curvePart 74 = .ok (.iinc 4 1, 3) := by decide +kernel
theorem dM_curvePart_77 : decode kM_curvePart 77 = .ok (.goto (-42), 3) := by decide +kernel
theorem dM_curvePart_80 : decode kM_curvePart 80 = .ok (.iconst 1, 1) := by decide +kernel
theorem dM_curvePart_81 : decode kM_curvePart 81 = .ok (.istore 4, 2) := by decide +kernel
theorem dM_curvePart_83 : decode kM_curvePart 83 = .ok (.iconst 0, 1) := by decide +kernel
theorem dM_curvePart_84 : decode kM_curvePart 84 = .ok (.istore 5, 2) := by decide +kernel
theorem dM_curvePart_86 : decode kM_curvePart 86 = .ok (.iload 5, 2) := by decide +kernel
theorem dM_curvePart_88 : decode kM_curvePart 88 = .ok (.iload_n 3, 1) := by decide +kernel
theorem dM_curvePart_89 : decode kM_curvePart 89 = .ok (.if_icmp .gt 202, 3) := by decide +kernel
theorem dM_curvePart_92 : decode kM_curvePart 92 = .ok (.aload_n 0, 1) := by decide +kernel
theorem dM_curvePart_93 : decode kM_curvePart 93 = .ok (.getfield 101, 3) := by decide +kernel
theorem dM_curvePart_96 : decode kM_curvePart 96 = .ok (.iload_n 1, 1) := by decide +kernel
theorem dM_curvePart_97 : decode kM_curvePart 97 = .ok (.iconst 5, 1) := by decide +kernel
theorem dM_curvePart_98 : decode kM_curvePart 98 = .ok (.iadd, 1) := by decide +kernel
theorem dM_curvePart_99 : decode kM_curvePart 99 = .ok (.iload 5, 2) := by decide +kernel
theorem dM_curvePart_101 : decode kM_curvePart 101 = .ok (.iadd, 1) := by decide +kernel
theorem dM_curvePart_102 : decode kM_curvePart 102 = .ok (.aload_n 0, 1) := by decide +kernel
theorem dM_curvePart_103 : decode kM_curvePart 103 = .ok (.iconst 2, 1) := by decide +kernel
theorem dM_curvePart_104 : decode kM_curvePart 104 = .ok (.invokevirtual 249, 3) := by decide +kernel
theorem dM_curvePart_107 : decode kM_curvePart 107 = .ok (.iconst 1, 1) := by decide +kernel
theorem dM_curvePart_108 : decode kM_curvePart 108 = .ok (.iadd, 1) := by decide +kernel
theorem dM_curvePart_109 : decode kM_curvePart 109 = .ok (.iastore, 1) := by decide +kernel
theorem dM_curvePart_110 : decode kM_curvePart 110 = .ok (.aload_n 0, 1) := by decide +kernel
theorem dM_curvePart_111 : decode kM_curvePart 111 = .ok (.getfield 101, 3) := by decide +kernel
theorem dM_curvePart_114 : decode kM_curvePart 114 = .ok (.iload_n 1, 1) := by decide +kernel
theorem dM_curvePart_115 : decode kM_curvePart 115 = .ok (.bipush 7, 2) := by decide +kernel
theorem dM_curvePart_117 : decode kM_curvePart 117 = .ok (.iadd, 1) := by decide +kernel
theorem dM_curvePart_118 : decode kM_curvePart 118 = .ok (.iload 5, 2) := by decide +kernel
theorem dM_curvePart_120 : decode kM_curvePart 120 = .ok (.iadd, 1) := by decide +kernel
theorem dM_curvePart_121 : decode kM_curvePart 121 = .ok (.aload_n 0, 1) := by decide +kernel
theorem dM_curvePart_122 : decode kM_curvePart 122 = .ok (.iconst 1, 1) := by decide +kernel
theorem dM_curvePart_123 : decode kM_curvePart 123 = .ok (.invokevirtual 249, 3) := by decide +kernel
theorem dM_curvePart_126 : decode kM_curvePart 126 = .ok (.iastore, 1) := by decide +kernel
theorem dM_curvePart_127 : decode kM_curvePart 127 = .ok (.aload_n 0, 1) := by decide +kernel
theorem dM_curvePart_128 : decode kM_curvePart 128 = .ok (.getfield 101, 3) := by decide +kernel
theorem dM_curvePart_131 : decode kM_curvePart 131 = .ok (.iload_n 1, 1) := by decide +kernel
theorem dM_curvePart_132 : decode kM_curvePart 132 = .ok (.bipush 7, 2) := by decide +kernel
theorem dM_curvePart_134 : decode kM_curvePart 134 = .ok (.iadd, 1) := by decide +kernel
theorem dM_curvePart_135 : decode kM_curvePart 135 = .ok (.iload 5, 2) := by decide +kernel
theorem dM_curvePart_137 : decode kM_curvePart 137 = .ok (.iadd, 1) := by decide +kernel
theorem dM_curvePart_138 : decode kM_curvePart 138 = .ok (.iaload, 1) := by decide +kernel
theorem dM_curvePart_139 : decode kM_curvePart 139 = .ok (.iconst 1, 1) := by decide +kernel
theorem dM_curvePart_140 : decode kM_curvePart 140 = .ok (.if_icmp .ne 7, 3) := by decide +kernel
theorem dM_curvePart_143 : decode kM_curvePart 143 = .ok (.iconst 1, 1) := by decide +kernel
theorem dM_curvePart_144 : decode kM_curvePart 144 = .ok (.goto 4, 3) := by decide +kernel
theorem dM_curvePart_147 : decode kM_curvePart 147 = .ok (.iconst 0, 1) := by decide +kernel
theorem dM_curvePart_148 : decode kM_curvePart 148 = .ok (.istore 6, 2) := by decide +kernel
theorem dM_curvePart_150 : decode kM_curvePart 150 = .ok (.aload_n 0, 1) := by decide +kernel
theorem dM_curvePart_151 : decode kM_curvePart 151 = .ok (.getfield 101, 3) := by decide +kernel
theorem dM_curvePart_154 : decode kM_curvePart 154 = .ok (.iload_n 1, 1) := by decide +kernel
theorem dM_curvePart_155 : decode kM_curvePart 155 = .ok (.bipush 9, 2) := by decide +kernel
theorem dM_curvePart_157 : decode kM_curvePart 157 = .ok (.iadd, 1) := by decide +kernel
theorem dM_curvePart_158 : decode kM_curvePart 158 = .ok (.iload 5, 2) := by decide +kernel
theorem dM_curvePart_160 : decode kM_curvePart 160 = .ok (.iadd, 1) := by decide +kernel
theorem dM_curvePart_161 : decode kM_curvePart 161 = .ok (.iload 6, 2) := by decide +kernel
theorem dM_curvePart_163 : decode kM_curvePart 163 = .ok (.ifCond .eq 11, 3) := by decide +kernel
theorem dM_curvePart_166 : decode kM_curvePart 166 = .ok (.aload_n 0, 1) := by decide +kernel
theorem dM_curvePart_167 : decode kM_curvePart 167 = .ok (.iconst 2, 1) := by decide +kernel
theorem dM_curvePart_168 : decode kM_curvePart 168 = .ok (.invokevirtual 249, 3) := by decide +kernel
theorem dM_curvePart_171 : decode kM_curvePart 171 = .ok (.goto 4, 3) := by decide +kernel
theorem dM_curvePart_174 : decode kM_curvePart 174 = .ok (.iconst 0, 1) := by decide +kernel
theorem dM_curvePart_175 : decode kM_curvePart 175 = .ok (.iastore, 1) := by decide +kernel
theorem dM_curvePart_176 : decode kM_curvePart 176 = .ok (.iload 4, 2) := by decide +kernel
theorem dM_curvePart_178 : decode kM_curvePart 178 = .ok (.ifCond .eq 31, 3) := by decide +kernel
theorem dM_curvePart_181 : decode kM_curvePart 181 = .ok (.iload 6, 2) := by decide +kernel
theorem dM_curvePart_183 : decode kM_curvePart 183 = .ok (.ifCond .eq 22, 3) := by decide +kernel
theorem dM_curvePart_186 : decode kM_curvePart 186 = .ok (.aload_n 0, 1) := by decide +kernel
theorem dM_curvePart_187 : decode kM_curvePart 187 = .ok (.getfield 101, 3) := by decide +kernel
theorem dM_curvePart_190 : decode kM_curvePart 190 = .ok (.iload_n 1, 1) := by decide +kernel
theorem dM_curvePart_191 : decode kM_curvePart 191 = .ok (.bipush 9, 2) := by decide +kernel
theorem dM_curvePart_193 : decode kM_curvePart 193 = .ok (.iadd, 1) := by decide +kernel
theorem dM_curvePart_194 : decode kM_curvePart 194 = .ok (.iload 5, 2) := by decide +kernel
theorem dM_curvePart_196 : decode kM_curvePart 196 = .ok (.iadd, 1) := by decide +kernel
theorem dM_curvePart_197 : decode kM_curvePart 197 = .ok (.iaload, 1) := by decide +kernel
theorem dM_curvePart_198 : decode kM_curvePart 198 = .ok (.aload_n 0, 1) := by decide +kernel
theorem dM_curvePart_199 : decode kM_curvePart 199 = .ok (.getfield 280, 3) := by decide +kernel
theorem dM_curvePart_202 : decode kM_curvePart 202 = .ok (.if_icmp .ge 7, 3) := by decide +kernel
theorem dM_curvePart_205 : decode kM_curvePart 205 = .ok (.iconst 1, 1) := by decide +kernel
theorem dM_curvePart_206 : decode kM_curvePart 206 = .ok (.goto 4, 3) := by decide +kernel
theorem dM_curvePart_209 : decode kM_curvePart 209 = .ok (.iconst 0, 1) := by decide +kernel
theorem dM_curvePart_210 : decode kM_curvePart 210 = .ok (.istore 4, 2) := by decide +kernel
theorem dM_curvePart_212 : decode kM_curvePart 212 = .ok (.iconst 0, 1) := by decide +kernel
theorem dM_curvePart_213 : decode kM_curvePart 213 = .ok (.istore 7, 2) := by decide +kernel
theorem dM_curvePart_215 : decode kM_curvePart 215 = .ok (.iload 7, 2) := by decide +kernel
theorem dM_curvePart_217 : decode kM_curvePart 217 = .ok (.iload 6, 2) := by decide +kernel
theorem dM_curvePart_219 : decode kM_curvePart 219 = .ok (.ifCond .eq 7, 3) := by decide +kernel
theorem dM_curvePart_222 : decode kM_curvePart 222 = .ok (.iconst 2, 1) := by decide +kernel
theorem dM_curvePart_223 : decode kM_curvePart 223 = .ok (.goto 4, 3) := by decide +kernel
theorem dM_curvePart_226 : decode kM_curvePart 226 = .ok (.iconst 1, 1) := by decide +kernel
theorem dM_curvePart_227 : decode kM_curvePart 227 = .ok (.if_icmp .ge 58, 3) := by decide +kernel
theorem dM_curvePart_230 : decode kM_curvePart 230 = .ok (.aload_n 0, 1) := by decide +kernel
theorem dM_curvePart_231 : decode kM_curvePart 231 = .ok (.iconst 3, 1) := by decide +kernel
theorem dM_curvePart_232 : decode kM_curvePart 232 = .ok (.invokevirtual 249, 3) := by decide +kernel
theorem dM_curvePart_235 : decode kM_curvePart 235 = .ok (.iconst 1, 1) := by decide +kernel
theorem dM_curvePart_236 : decode kM_curvePart 236 = .ok (.isub, 1) := by decide +kernel
theorem dM_curvePart_237 : decode kM_curvePart 237 = .ok (.istore 8, 2) := by decide +kernel
theorem dM_curvePart_239 : decode kM_curvePart 239 = .ok (.aload_n 0, 1) := by decide +kernel
theorem dM_curvePart_240 : decode kM_curvePart 240 = .ok (.getfield 101, 3) := by decide +kernel
theorem dM_curvePart_243 : decode kM_curvePart 243 = .ok (.iload_n 1, 1) := by decide +kernel
theorem dM_curvePart_244 : decode kM_curvePart 244 = .ok (.bipush 11, 2) := by decide +kernel
theorem dM_curvePart_246 : decode kM_curvePart 246 = .ok (.iadd, 1) := by decide +kernel
theorem dM_curvePart_247 : decode kM_curvePart 247 = .ok (.iconst 2, 1) := by decide +kernel
theorem dM_curvePart_248 : decode kM_curvePart 248 = .ok (.iload 5, 2) := by decide +kernel
theorem dM_curvePart_250 : decode kM_curvePart 250 = .ok (.imul, 1) := by decide +kernel
theorem dM_curvePart_251 : decode kM_curvePart 251 = .ok (.iadd, 1) := by decide +kernel
theorem dM_curvePart_252 : decode kM_curvePart 252 = .ok (.iload 7, 2) := by decide +kernel
theorem dM_curvePart_254 : decode kM_curvePart 254 = .ok (.iadd, 1) := by decide +kernel
theorem dM_curvePart_255 : decode kM_curvePart 255 = .ok (.iload 8, 2) := by decide +kernel
theorem dM_curvePart_257 : decode kM_curvePart 257 = .ok (.iastore, 1) := by decide +kernel
theorem dM_curvePart_258 : decode kM_curvePart 258 = .ok (.iload 4, 2) := by decide +kernel
theorem dM_curvePart_260 : decode kM_curvePart 260 = .ok (.ifCond .eq 16, 3) := by decide +kernel
theorem dM_curvePart_263 : decode kM_curvePart 263 = .ok (.iload 8, 2) := by decide +kernel
theorem dM_curvePart_265 : decode kM_curvePart 265 = .ok (.aload_n 0, 1) := by decide +kernel
theorem dM_curvePart_266 : decode kM_curvePart 266 = .ok (.getfield 280, 3) := by decide +kernel
theorem dM_curvePart_269 : decode kM_curvePart 269 = .ok (.if_icmp .ge 7, 3) := by decide +kernel
theorem dM_curvePart_272 : decode kM_curvePart 272 = .ok (.iconst 1, 1) := by decide +kernel
theorem dM_curvePart_273 : decode kM_curvePart 273 = .ok (.goto 4, 3) := by decide +kernel
theorem dM_curvePart_276 : decode kM_curvePart 276 = .ok (.iconst 0, 1) := by decide +kernel
theorem dM_curvePart_277 : decode kM_curvePart 277 = .ok (.istore 4, 2) := by decide +kernel
theorem dM_curvePart_279 : decode kM_curvePart 279 = .ok (.iinc 7 1, 3) := by decide +kernel
theorem dM_curvePart_282 : decode kM_curvePart 282 = .ok (.goto (-67), 3) := by decide +kernel
theorem dM_curvePart_285 : decode kM_curvePart 285 = .ok (.iinc 5 1, 3) := by decide +kernel
theorem dM_curvePart_288 : decode kM_curvePart 288 = .ok (.goto (-202), 3) := by decide +kernel
theorem dM_curvePart_291 : decode kM_curvePart 291 = .ok (.iload 4, 2) := by decide +kernel
theorem dM_curvePart_293 : decode kM_curvePart 293 = .ok (.ifCond .eq 15, 3) := by decide +kernel
theorem dM_curvePart_296 : decode kM_curvePart 296 = .ok (.aload_n 0, 1) := by decide +kernel
theorem dM_curvePart_297 : decode kM_curvePart 297 = .ok (.iload_n 1, 1) := by decide +kernel
theorem dM_curvePart_298 : decode kM_curvePart 298 = .ok (.invokevirtual 309, 3) := by decide +kernel
theorem dM_curvePart_301 : decode kM_curvePart 301 = .ok (.ifCond .eq 7, 3) := by decide +kernel
theorem dM_curvePart_304 : decode kM_curvePart 304 = .ok (.iconst 1, 1) := by decide +kernel
theorem dM_curvePart_305 : decode kM_curvePart 305 = .ok (.goto 4, 3) := by decide +kernel
theorem dM_curvePart_308 : decode kM_curvePart 308 = .ok (.iconst 0, 1) := by decide +kernel
theorem dM_curvePart_309 : decode kM_curvePart 309 = .ok (.ireturn, 1) := by decide +kernel
def wb_M_curvePart_308 (θ : TH) (K : Int32 → VT → UT → Prop) (V : VT) (U : UT) : Prop := K (0 : Int32) V U
def wb_M_curvePart_276 (θ : TH) (a0_86 : Nat) (x1_86 : Int32) (x3_86 : Int32) (x5_215 : Int32) (x6_215 : Int32) (x7_276 : Int32) (kb86 : Int32 → Int32 → VT → UT → Prop) (kb215 : Int32 → Int32 → VT → UT → Prop) (K : Int32 → VT → UT → Prop) (V : VT) (U : UT) : Prop := ∀ y_94 : Int32, y_94 = x7_276 + (1 : Int32) → kb215 (0 : Int32) y_94 V U
def wb_M_curvePart_227 (θ : TH) (a0_86 : Nat) (x1_86 : Int32) (x3_86 : Int32) (x4_227 : Int32) (x5_215 : Int32) (x6_215 : Int32) (x7_227 : Int32) (z0_227 : Int32) (z1_227 : Int32) (kb86 : Int32 → Int32 → VT → UT → Prop) (kb215 : Int32 → Int32 → VT → UT → Prop) (K : Int32 → VT → UT → Prop) (V : VT) (U : UT) : Prop := ((z0_227 ≤ z1_227 → ∀ y_80 : Int32, y_80 = x5_215 + (1 : Int32) → kb86 x4_227 y_80 V U) ∧ (¬ z0_227 ≤ z1_227 → isO θ a0_86 12 ∧ wp_M_read θ a0_86 (3 : Int32) V U (fun r_84 V_81 U_82 => ∀ y_85 : Int32, y_85 = (r_84 - (1 : Int32)) → (U_82 a0_86 52) ≠ 0 ∧ ∃ n_87, isA θ (U_82 a0_86 52) 0 n_87 ∧ vp_in (((x1_86 + (11 : Int32)) + ((2 : Int32) * x5_215)) + x7_227) n_87 ∧ ∀ V_90 : VT, V_90 = up2 V_81 (U_82 a0_86 52) (((x1_86 + (11 : Int32)) + ((2 : Int32) * x5_215)) + x7_227).toNatClampNeg y_85 → ((x4_227 = 0 → wb_M_curvePart_276 θ a0_86 x1_86 x3_86 x5_215 x6_215 x7_227 kb86 kb215 K V_90 U_82) ∧ (¬ x4_227 = 0 → (((V_90 a0_86 44) ≤ y_85 → wb_M_curvePart_276 θ a0_86 x1_86 x3_86 x5_215 x6_215 x7_227 kb86 kb215 K V_90 U_82) ∧ (¬ (V_90 a0_86 44) ≤ y_85 → ∀ y_93 : Int32, y_93 = x7_227 + (1 : Int32) → kb215 (1 : Int32) y_93 V_90 U_82)))))))
def bl_M_curvePart_215 (θ : TH) (a0_86 : Nat) (x1_86 : Int32) (x3_86 : Int32) (x5_215 : Int32) (x6_215 : Int32) (kb86 : Int32 → Int32 → VT → UT → Prop) (K : Int32 → VT → UT → Prop) (kb215 : Int32 → Int32 → VT → UT → Prop) (x4_215 : Int32) (x7_215 : Int32) (V : VT) (U : UT) : Prop := ((x6_215 = 0 → wb_M_curvePart_227 θ a0_86 x1_86 x3_86 x4_215 x5_215 x6_215 x7_215 (1 : Int32) x7_215 kb86 kb215 K V U) ∧ (¬ x6_215 = 0 → wb_M_curvePart_227 θ a0_86 x1_86 x3_86 x4_215 x5_215 x6_215 x7_215 (2 : Int32) x7_215 kb86 kb215 K V U))
def wl_M_curvePart_215 (θ : TH) (a0_86 : Nat) (x1_86 : Int32) (x3_86 : Int32) (x5_215 : Int32) (x6_215 : Int32) (kb86 : Int32 → Int32 → VT → UT → Prop) (K : Int32 → VT → UT → Prop) : Nat → Int32 → Int32 → VT → UT → Prop
  | 0, _, _, _, _ => False
  | n + 1, x4_215, x7_215, V, U => bl_M_curvePart_215 θ a0_86 x1_86 x3_86 x5_215 x6_215 kb86 K (wl_M_curvePart_215 θ a0_86 x1_86 x3_86 x5_215 x6_215 kb86 K n) x4_215 x7_215 V U
def wb_M_curvePart_209 (θ : TH) (a0_86 : Nat) (x1_86 : Int32) (x3_86 : Int32) (x5_209 : Int32) (x6_209 : Int32) (kb86 : Int32 → Int32 → VT → UT → Prop) (K : Int32 → VT → UT → Prop) (V : VT) (U : UT) : Prop := ∃ n, wl_M_curvePart_215 θ a0_86 x1_86 x3_86 x5_209 x6_209 kb86 K n (0 : Int32) (0 : Int32) V U
def wb_M_curvePart_205 (θ : TH) (a0_86 : Nat) (x1_86 : Int32) (x3_86 : Int32) (x5_205 : Int32) (x6_205 : Int32) (kb86 : Int32 → Int32 → VT → UT → Prop) (K : Int32 → VT → UT → Prop) (V : VT) (U : UT) : Prop := ∃ n, wl_M_curvePart_215 θ a0_86 x1_86 x3_86 x5_205 x6_205 kb86 K n (1 : Int32) (0 : Int32) V U
def wb_M_curvePart_175 (θ : TH) (a0_86 : Nat) (x1_86 : Int32) (x3_86 : Int32) (x4_175 : Int32) (x5_175 : Int32) (x6_175 : Int32) (z0_175 : Int32) (z1_175 : Int32) (z2_175 : Nat) (kb86 : Int32 → Int32 → VT → UT → Prop) (K : Int32 → VT → UT → Prop) (V : VT) (U : UT) : Prop := ∃ n_66, isA θ z2_175 0 n_66 ∧ vp_in z1_175 n_66 ∧ ∀ V_69 : VT, V_69 = up2 V z2_175 z1_175.toNatClampNeg z0_175 → ((x4_175 = 0 → wb_M_curvePart_209 θ a0_86 x1_86 x3_86 x5_175 x6_175 kb86 K V_69 U) ∧ (¬ x4_175 = 0 → ((x6_175 = 0 → wb_M_curvePart_205 θ a0_86 x1_86 x3_86 x5_175 x6_175 kb86 K V_69 U) ∧ (¬ x6_175 = 0 → isO θ a0_86 12 ∧ (U a0_86 52) ≠ 0 ∧ ∃ n_74, isA θ (U a0_86 52) 0 n_74 ∧ vp_in ((x1_86 + (9 : Int32)) + x5_175) n_74 ∧ (((V_69 a0_86 44) ≤ (V_69 (U a0_86 52) ((x1_86 + (9 : Int32)) + x5_175).toNatClampNeg) → wb_M_curvePart_209 θ a0_86 x1_86 x3_86 x5_175 x6_175 kb86 K V_69 U) ∧ (¬ (V_69 a0_86 44) ≤ (V_69 (U a0_86 52) ((x1_86 + (9 : Int32)) + x5_175).toNatClampNeg) → wb_M_curvePart_205 θ a0_86 x1_86 x3_86 x5_175 x6_175 kb86 K V_69 U))))))
def wb_M_curvePart_148 (θ : TH) (a0_86 : Nat) (x1_86 : Int32) (x3_86 : Int32) (x4_148 : Int32) (x5_148 : Int32) (z0_148 : Int32) (kb86 : Int32 → Int32 → VT → UT → Prop) (K : Int32 → VT → UT → Prop) (V : VT) (U : UT) : Prop := isO θ a0_86 12 ∧ (U a0_86 52) ≠ 0 ∧ ((z0_148 = 0 → wb_M_curvePart_175 θ a0_86 x1_86 x3_86 x4_148 x5_148 z0_148 (0 : Int32) ((x1_86 + (9 : Int32)) + x5_148) (U a0_86 52) kb86 K V U) ∧ (¬ z0_148 = 0 → wp_M_read θ a0_86 (2 : Int32) V U (fun r_65 V_63 U_64 => wb_M_curvePart_175 θ a0_86 x1_86 x3_86 x4_148 x5_148 z0_148 r_65 ((x1_86 + (9 : Int32)) + x5_148) (U a0_86 52) kb86 K V_63 U_64)))
def bl_M_curvePart_86 (θ : TH) (a0_86 : Nat) (x1_86 : Int32) (x3_86 : Int32) (K : Int32 → VT → UT → Prop) (kb86 : Int32 → Int32 → VT → UT → Prop) (x4_86 : Int32) (x5_86 : Int32) (V : VT) (U : UT) : Prop := ((x3_86 < x5_86 → ((x4_86 = 0 → wb_M_curvePart_308 θ K V U) ∧ (¬ x4_86 = 0 → isO θ a0_86 12 ∧ wp_M_points θ a0_86 x1_86 V U (fun r_36 V_33 U_34 => ((r_36 = 0 → wb_M_curvePart_308 θ K V_33 U_34) ∧ (¬ r_36 = 0 → K (1 : Int32) V_33 U_34)))))) ∧ (¬ x3_86 < x5_86 → isO θ a0_86 12 ∧ (U a0_86 52) ≠ 0 ∧ wp_M_read θ a0_86 (2 : Int32) V U (fun r_42 V_40 U_41 => ∃ n_43, isA θ (U a0_86 52) 0 n_43 ∧ vp_in ((x1_86 + (5 : Int32)) + x5_86) n_43 ∧ ∀ V_46 : VT, V_46 = up2 V_40 (U a0_86 52) ((x1_86 + (5 : Int32)) + x5_86).toNatClampNeg (r_42 + (1 : Int32)) → (U_41 a0_86 52) ≠ 0 ∧ wp_M_read θ a0_86 (1 : Int32) V_46 U_41 (fun r_50 V_48 U_49 => ∃ n_51, isA θ (U_41 a0_86 52) 0 n_51 ∧ vp_in ((x1_86 + (7 : Int32)) + x5_86) n_51 ∧ ∀ V_54 : VT, V_54 = up2 V_48 (U_41 a0_86 52) ((x1_86 + (7 : Int32)) + x5_86).toNatClampNeg r_50 → (U_49 a0_86 52) ≠ 0 ∧ ∃ n_56, isA θ (U_49 a0_86 52) 0 n_56 ∧ vp_in ((x1_86 + (7 : Int32)) + x5_86) n_56 ∧ ((¬ (V_54 (U_49 a0_86 52) ((x1_86 + (7 : Int32)) + x5_86).toNatClampNeg) = (1 : Int32) → wb_M_curvePart_148 θ a0_86 x1_86 x3_86 x4_86 x5_86 (0 : Int32) kb86 K V_54 U_49) ∧ ((V_54 (U_49 a0_86 52) ((x1_86 + (7 : Int32)) + x5_86).toNatClampNeg) = (1 : Int32) → wb_M_curvePart_148 θ a0_86 x1_86 x3_86 x4_86 x5_86 (1 : Int32) kb86 K V_54 U_49))))))
def wl_M_curvePart_86 (θ : TH) (a0_86 : Nat) (x1_86 : Int32) (x3_86 : Int32) (K : Int32 → VT → UT → Prop) : Nat → Int32 → Int32 → VT → UT → Prop
  | 0, _, _, _, _ => False
  | n + 1, x4_86, x5_86, V, U => bl_M_curvePart_86 θ a0_86 x1_86 x3_86 K (wl_M_curvePart_86 θ a0_86 x1_86 x3_86 K n) x4_86 x5_86 V U
def bl_M_curvePart_35 (θ : TH) (a0_35 : Nat) (x1_35 : Int32) (x2_35 : Int32) (K : Int32 → VT → UT → Prop) (kb35 : Int32 → Int32 → VT → UT → Prop) (x3_35 : Int32) (x4_35 : Int32) (V : VT) (U : UT) : Prop := ((x2_35 ≤ x4_35 → ∃ n, wl_M_curvePart_86 θ a0_35 x1_35 x3_35 K n (1 : Int32) (0 : Int32) V U) ∧ (¬ x2_35 ≤ x4_35 → isO θ a0_35 12 ∧ wp_M_read θ a0_35 (1 : Int32) V U (fun r_22 V_19 U_20 => (U_20 a0_35 52) ≠ 0 ∧ ∃ n_24, isA θ (U_20 a0_35 52) 0 n_24 ∧ vp_in ((x1_35 + (2 : Int32)) + x4_35) n_24 ∧ ∀ V_27 : VT, V_27 = up2 V_19 (U_20 a0_35 52) ((x1_35 + (2 : Int32)) + x4_35).toNatClampNeg r_22 → ((r_22 ≤ x3_35 → ∀ y_29 : Int32, y_29 = x4_35 + (1 : Int32) → kb35 x3_35 y_29 V_27 U_20) ∧ (¬ r_22 ≤ x3_35 → ∀ y_30 : Int32, y_30 = x4_35 + (1 : Int32) → kb35 r_22 y_30 V_27 U_20)))))
def wl_M_curvePart_35 (θ : TH) (a0_35 : Nat) (x1_35 : Int32) (x2_35 : Int32) (K : Int32 → VT → UT → Prop) : Nat → Int32 → Int32 → VT → UT → Prop
  | 0, _, _, _, _ => False
  | n + 1, x3_35, x4_35, V, U => bl_M_curvePart_35 θ a0_35 x1_35 x2_35 K (wl_M_curvePart_35 θ a0_35 x1_35 x2_35 K n) x3_35 x4_35 V U
def wp_M_curvePart (θ : TH) (a0 : Nat) (x1 : Int32) (V : VT) (U : UT) (K : Int32 → VT → UT → Prop) : Prop := isO θ a0 12 ∧ (U a0 52) ≠ 0 ∧ wp_M_read θ a0 (2 : Int32) V U (fun r_5 V_3 U_4 => ∃ n_6, isA θ (U a0 52) 0 n_6 ∧ vp_in (x1 + (0 : Int32)) n_6 ∧ ∀ V_9 : VT, V_9 = up2 V_3 (U a0 52) (x1 + (0 : Int32)).toNatClampNeg (r_5 + (1 : Int32)) → wp_M_read θ a0 (2 : Int32) V_9 U_4 (fun r_12 V_10 U_11 => (U_11 a0 52) ≠ 0 ∧ ∃ n_14, isA θ (U_11 a0 52) 0 n_14 ∧ vp_in (x1 + (1 : Int32)) n_14 ∧ ∀ V_17 : VT, V_17 = up2 V_10 (U_11 a0 52) (x1 + (1 : Int32)).toNatClampNeg r_12 → ∃ n, wl_M_curvePart_35 θ a0 x1 r_12 K n (-1 : Int32) (0 : Int32) V_17 U_11))
set_option maxRecDepth 100000 in
set_option maxHeartbeats 4000000 in
theorem c_M_curvePart (l : Launch) (θ : TH) (a0 : Nat) (x1 : Int32) (V : VT) (U : UT) (K : Int32 → VT → UT → Prop) (hw : wp_M_curvePart θ a0 x1 V U K) : CMi l yM_curvePart kM_curvePart 9 (some .boolean) rmM_curvePart θ [.ref a0, .int x1] V U K := by
  refine g_met nRM (by decide +kernel) rfl (Nat.le_of_ble_eq_true rfl) (fun p e s m args below meth c ls hC hr hlk hwo hl => ?_)
  have hx := hC.1
  have hb := hC.2.1
  have hS : Sx θ s s.heap [] := va_S.rf
  have hl : lv_has ls 9 [(0, .ref a0), (1, .int x1)] := hl
  have J308 : ∀ (V : VT) (U : UT) (H : Heap) (locs : List Loc) (ls : Array Slot), wb_M_curvePart_308 θ K V U → wo θ V U H → Sx θ s H locs → lv_has ls 9 [] → W p l e rmM_curvePart s m args below meth c H locs 0 0 (MQ below (QI θ K) args s 0 0 (aT θ)) (F0 m 308 ls []) := by
    intro V U H locs ls hw hwo hS hl
    unfold wb_M_curvePart_308 at hw
    refine lv_iconst (v := 0) hx hb dM_curvePart_308 (by decide) ?_
    exact g_zret hC hr hlk (Or.inl rfl) hw hwo hS dM_curvePart_309
  have L86 : ∀ (a0_86 : Nat) (x1_86 : Int32) (x3_86 : Int32) (n86 : Nat) (x4_86 : Int32) (x5_86 : Int32) (V : VT) (U : UT) (H : Heap) (locs : List Loc) (ls : Array Slot), wl_M_curvePart_86 θ a0_86 x1_86 x3_86 K n86 x4_86 x5_86 V U → wo θ V U H → Sx θ s H locs → lv_has ls 9 [(0, .ref a0_86), (1, .int x1_86), (3, .int x3_86), (4, .int x4_86), (5, .int x5_86)] → W p l e rmM_curvePart s m args below meth c H locs 0 0 (MQ below (QI θ K) args s 0 0 (aT θ)) (F0 m 86 ls []) := by
    intro a0_86 x1_86 x3_86 n86
    induction n86 with
    | zero => intro x4_86 x5_86 V U H locs ls hw hwo hS hl; exact (show False from hw).elim
    | succ n86 ih86 =>
      have L215 : ∀ (x5_215 : Int32) (x6_215 : Int32) (n215 : Nat) (x4_215 : Int32) (x7_215 : Int32) (V : VT) (U : UT) (H : Heap) (locs : List Loc) (ls : Array Slot), wl_M_curvePart_215 θ a0_86 x1_86 x3_86 x5_215 x6_215 (wl_M_curvePart_86 θ a0_86 x1_86 x3_86 K n86) K n215 x4_215 x7_215 V U → wo θ V U H → Sx θ s H locs → lv_has ls 9 [(0, .ref a0_86), (1, .int x1_86), (3, .int x3_86), (4, .int x4_215), (5, .int x5_215), (6, .int x6_215), (7, .int x7_215)] → W p l e rmM_curvePart s m args below meth c H locs 0 0 (MQ below (QI θ K) args s 0 0 (aT θ)) (F0 m 215 ls []) := by
        intro x5_215 x6_215 n215
        induction n215 with
        | zero => intro x4_215 x7_215 V U H locs ls hw hwo hS hl; exact (show False from hw).elim
        | succ n215 ih215 =>
          have J276 : ∀ (x7_276 : Int32) (V : VT) (U : UT) (H : Heap) (locs : List Loc) (ls : Array Slot), wb_M_curvePart_276 θ a0_86 x1_86 x3_86 x5_215 x6_215 x7_276 (wl_M_curvePart_86 θ a0_86 x1_86 x3_86 K n86) (wl_M_curvePart_215 θ a0_86 x1_86 x3_86 x5_215 x6_215 (wl_M_curvePart_86 θ a0_86 x1_86 x3_86 K n86) K n215) K V U → wo θ V U H → Sx θ s H locs → lv_has ls 9 [(0, .ref a0_86), (1, .int x1_86), (3, .int x3_86), (5, .int x5_215), (6, .int x6_215), (7, .int x7_276)] → W p l e rmM_curvePart s m args below meth c H locs 0 0 (MQ below (QI θ K) args s 0 0 (aT θ)) (F0 m 276 ls []) := by
            intro x7_276 V U H locs ls hw hwo hS hl
            unfold wb_M_curvePart_276 at hw
            refine lv_iconst (v := 0) hx hb dM_curvePart_276 (by decide) ?_
            refine lv_istore (i := 4) (lv' := [(4, .int (0 : Int32)), (0, .ref a0_86), (1, .int x1_86), (3, .int x3_86), (5, .int x5_215), (6, .int x6_215), (7, .int x7_276)]) hx hb dM_curvePart_277 hl (by decide) rfl (fun ls hl => ?_)
            obtain ⟨y_94, ey_94⟩ : ∃ z : Int32, z = x7_276 + (1 : Int32) := ⟨_, rfl⟩
            replace hw := hw y_94 ey_94
            refine lv_iinc (k := 6) (v := y_94) (lv' := [(7, .int y_94), (4, .int (0 : Int32)), (0, .ref a0_86), (1, .int x1_86), (3, .int x3_86), (5, .int x5_215), (6, .int x6_215)]) hx hb dM_curvePart_279 hl rfl (by rw [ey_94]; rfl) (by decide) rfl (fun ls hl => ?_)
            refine lv_goto (tgt := 215) hx hb dM_curvePart_282 (by decide) ?_
            exact ih215 _ _ _ _ _ _ _ hw hwo hS (lv_sub hl [2, 3, 4, 1, 5, 6, 0] rfl)
          have J227 : ∀ (x4_227 : Int32) (x7_227 : Int32) (z0_227 : Int32) (z1_227 : Int32) (V : VT) (U : UT) (H : Heap) (locs : List Loc) (ls : Array Slot), wb_M_curvePart_227 θ a0_86 x1_86 x3_86 x4_227 x5_215 x6_215 x7_227 z0_227 z1_227 (wl_M_curvePart_86 θ a0_86 x1_86 x3_86 K n86) (wl_M_curvePart_215 θ a0_86 x1_86 x3_86 x5_215 x6_215 (wl_M_curvePart_86 θ a0_86 x1_86 x3_86 K n86) K n215) K V U → wo θ V U H → Sx θ s H locs → lv_has ls 9 [(0, .ref a0_86), (1, .int x1_86), (3, .int x3_86), (4, .int x4_227), (5, .int x5_215), (6, .int x6_215), (7, .int x7_227)] → W p l e rmM_curvePart s m args below meth c H locs 0 0 (MQ below (QI θ K) args s 0 0 (aT θ)) (F0 m 227 ls [.int z0_227, .int z1_227]) := by
            intro x4_227 x7_227 z0_227 z1_227 V U H locs ls hw hwo hS hl
            unfold wb_M_curvePart_227 at hw
            refine lv_icmp_ge (tgt := 285) hx hb dM_curvePart_227 (by decide) (fun hc_79 => ?_) (fun hc_79 => ?_)
            · replace hw := hw.1 hc_79
              obtain ⟨y_80, ey_80⟩ : ∃ z : Int32, z = x5_215 + (1 : Int32) := ⟨_, rfl⟩
              replace hw := hw y_80 ey_80
              refine lv_iinc (k := 4) (v := y_80) (lv' := [(5, .int y_80), (0, .ref a0_86), (1, .int x1_86), (3, .int x3_86), (4, .int x4_227), (6, .int x6_215), (7, .int x7_227)]) hx hb dM_curvePart_285 hl rfl (by rw [ey_80]; rfl) (by decide) rfl (fun ls hl => ?_)
              refine lv_goto (tgt := 86) hx hb dM_curvePart_288 (by decide) ?_
              exact ih86 _ _ _ _ _ _ _ hw hwo hS (lv_sub hl [1, 2, 3, 4, 0] rfl)
            · replace hw := hw.2 hc_79
              refine lv_aload_n hx hb dM_curvePart_230 rfl (lv_at hl 0 rfl) ?_
              refine lv_iconst (v := 3) hx hb dM_curvePart_231 (by decide) ?_
              obtain ⟨ho_83, hw⟩ := hw
              refine g_Vi (rest := []) hC (c_M_read l θ _ _ _ _ _ hw) mi_M_read mlM_249 mv_M_read ci_12 ho_83 hwo hS ⟨rfl, rfl⟩ ⟨by decide, by decide⟩ rfl hl.1 rfl (Nat.le_of_ble_eq_true rfl) dM_curvePart_232 (fun r_84 V_81 U_82 hw H locs hwo hS => ?_)
              refine lv_iconst (v := 1) hx hb dM_curvePart_235 (by decide) ?_
              refine lv_isub hx hb dM_curvePart_236 ?_
              refine lv_topi (fun y_85 ey_85 => ?_)
              replace hw := hw y_85 ey_85
              refine lv_istore (i := 8) (lv' := [(8, .int y_85), (0, .ref a0_86), (1, .int x1_86), (3, .int x3_86), (4, .int x4_227), (5, .int x5_215), (6, .int x6_215), (7, .int x7_227)]) hx hb dM_curvePart_237 hl (by decide) rfl (fun ls hl => ?_)
              refine lv_aload_n hx hb dM_curvePart_239 rfl (lv_at hl 1 rfl) ?_
              obtain ⟨hz_86, hw⟩ := hw
              refine g_getR hC fkM_101 rfl hwo ho_83 hz_86 dM_curvePart_240 ?_
              refine lv_iload_n hx hb dM_curvePart_243 rfl (lv_at hl 2 rfl) ?_
              refine lv_bipush (v := 11) hx hb dM_curvePart_244 (by decide) ?_
              refine lv_iadd hx hb dM_curvePart_246 ?_
              refine lv_iconst (v := 2) hx hb dM_curvePart_247 (by decide) ?_
              refine lv_iload hx hb dM_curvePart_248 (lv_at hl 5 rfl) ?_
              refine lv_imul hx hb dM_curvePart_250 ?_
              refine lv_iadd hx hb dM_curvePart_251 ?_
              refine lv_iload hx hb dM_curvePart_252 (lv_at hl 7 rfl) ?_
              refine lv_iadd hx hb dM_curvePart_254 ?_
              refine lv_iload hx hb dM_curvePart_255 (lv_at hl 0 rfl) ?_
              obtain ⟨n_87, ha_88, hw⟩ := hw
              obtain ⟨hi_89, hw⟩ := hw
              refine g_iast hC hwo hS ha_88 hi_89 dM_curvePart_257 (fun V_90 eV_90 H locs hwo hS => ?_)
              replace hw := hw V_90 eV_90
              refine lv_iload hx hb dM_curvePart_258 (lv_at hl 4 rfl) ?_
              refine lv_if_eq (tgt := 276) hx hb dM_curvePart_260 (by decide) (fun hc_91 => ?_) (fun hc_91 => ?_)
              · replace hw := hw.1 hc_91
                exact J276 _ _ _ _ _ _ hw hwo hS (lv_sub hl [1, 2, 3, 5, 6, 7] rfl)
              · replace hw := hw.2 hc_91
                refine lv_iload hx hb dM_curvePart_263 (lv_at hl 0 rfl) ?_
                refine lv_aload_n hx hb dM_curvePart_265 rfl (lv_at hl 1 rfl) ?_
                refine g_getI hC fkM_280 rfl hwo ho_83 dM_curvePart_266 ?_
                refine lv_icmp_ge (tgt := 276) hx hb dM_curvePart_269 (by decide) (fun hc_92 => ?_) (fun hc_92 => ?_)
                · replace hw := hw.1 hc_92
                  exact J276 _ _ _ _ _ _ hw hwo hS (lv_sub hl [1, 2, 3, 5, 6, 7] rfl)
                · replace hw := hw.2 hc_92
                  refine lv_iconst (v := 1) hx hb dM_curvePart_272 (by decide) ?_
                  refine lv_goto (tgt := 277) hx hb dM_curvePart_273 (by decide) ?_
                  refine lv_istore (i := 4) (lv' := [(4, .int (1 : Int32)), (8, .int y_85), (0, .ref a0_86), (1, .int x1_86), (3, .int x3_86), (5, .int x5_215), (6, .int x6_215), (7, .int x7_227)]) hx hb dM_curvePart_277 hl (by decide) rfl (fun ls hl => ?_)
                  obtain ⟨y_93, ey_93⟩ : ∃ z : Int32, z = x7_227 + (1 : Int32) := ⟨_, rfl⟩
                  replace hw := hw y_93 ey_93
                  refine lv_iinc (k := 7) (v := y_93) (lv' := [(7, .int y_93), (4, .int (1 : Int32)), (8, .int y_85), (0, .ref a0_86), (1, .int x1_86), (3, .int x3_86), (5, .int x5_215), (6, .int x6_215)]) hx hb dM_curvePart_279 hl rfl (by rw [ey_93]; rfl) (by decide) rfl (fun ls hl => ?_)
                  refine lv_goto (tgt := 215) hx hb dM_curvePart_282 (by decide) ?_
                  exact ih215 _ _ _ _ _ _ _ hw hwo hS (lv_sub hl [3, 4, 5, 1, 6, 7, 0] rfl)
          intro x4_215 x7_215 V U H locs ls hw hwo hS hl
          replace hw : bl_M_curvePart_215 θ a0_86 x1_86 x3_86 x5_215 x6_215 (wl_M_curvePart_86 θ a0_86 x1_86 x3_86 K n86) K (wl_M_curvePart_215 θ a0_86 x1_86 x3_86 x5_215 x6_215 (wl_M_curvePart_86 θ a0_86 x1_86 x3_86 K n86) K n215) x4_215 x7_215 V U := hw
          unfold bl_M_curvePart_215 at hw
          refine lv_iload hx hb dM_curvePart_215 (lv_at hl 6 rfl) ?_
          refine lv_iload hx hb dM_curvePart_217 (lv_at hl 5 rfl) ?_
          refine lv_if_eq (tgt := 226) hx hb dM_curvePart_219 (by decide) (fun hc_78 => ?_) (fun hc_78 => ?_)
          · replace hw := hw.1 hc_78
            refine lv_iconst (v := 1) hx hb dM_curvePart_226 (by decide) ?_
            exact J227 _ _ _ _ _ _ _ _ _ hw hwo hS (lv_sub hl [0, 1, 2, 3, 4, 5, 6] rfl)
          · replace hw := hw.2 hc_78
            refine lv_iconst (v := 2) hx hb dM_curvePart_222 (by decide) ?_
            refine lv_goto (tgt := 227) hx hb dM_curvePart_223 (by decide) ?_
            exact J227 _ _ _ _ _ _ _ _ _ hw hwo hS (lv_sub hl [0, 1, 2, 3, 4, 5, 6] rfl)
      have J209 : ∀ (x5_209 : Int32) (x6_209 : Int32) (V : VT) (U : UT) (H : Heap) (locs : List Loc) (ls : Array Slot), wb_M_curvePart_209 θ a0_86 x1_86 x3_86 x5_209 x6_209 (wl_M_curvePart_86 θ a0_86 x1_86 x3_86 K n86) K V U → wo θ V U H → Sx θ s H locs → lv_has ls 9 [(0, .ref a0_86), (1, .int x1_86), (3, .int x3_86), (5, .int x5_209), (6, .int x6_209)] → W p l e rmM_curvePart s m args below meth c H locs 0 0 (MQ below (QI θ K) args s 0 0 (aT θ)) (F0 m 209 ls []) := by
        intro x5_209 x6_209 V U H locs ls hw hwo hS hl
        unfold wb_M_curvePart_209 at hw
        refine lv_iconst (v := 0) hx hb dM_curvePart_209 (by decide) ?_
        refine lv_istore (i := 4) (lv' := [(4, .int (0 : Int32)), (0, .ref a0_86), (1, .int x1_86), (3, .int x3_86), (5, .int x5_209), (6, .int x6_209)]) hx hb dM_curvePart_210 hl (by decide) rfl (fun ls hl => ?_)
        refine lv_iconst (v := 0) hx hb dM_curvePart_212 (by decide) ?_
        refine lv_istore (i := 7) (lv' := [(7, .int (0 : Int32)), (4, .int (0 : Int32)), (0, .ref a0_86), (1, .int x1_86), (3, .int x3_86), (5, .int x5_209), (6, .int x6_209)]) hx hb dM_curvePart_213 hl (by decide) rfl (fun ls hl => ?_)
        obtain ⟨n, hw⟩ := hw
        exact L215 _ _ n _ _ _ _ _ _ _ hw hwo hS (lv_sub hl [2, 3, 4, 1, 5, 6, 0] rfl)
      have J205 : ∀ (x5_205 : Int32) (x6_205 : Int32) (V : VT) (U : UT) (H : Heap) (locs : List Loc) (ls : Array Slot), wb_M_curvePart_205 θ a0_86 x1_86 x3_86 x5_205 x6_205 (wl_M_curvePart_86 θ a0_86 x1_86 x3_86 K n86) K V U → wo θ V U H → Sx θ s H locs → lv_has ls 9 [(0, .ref a0_86), (1, .int x1_86), (3, .int x3_86), (5, .int x5_205), (6, .int x6_205)] → W p l e rmM_curvePart s m args below meth c H locs 0 0 (MQ below (QI θ K) args s 0 0 (aT θ)) (F0 m 205 ls []) := by
        intro x5_205 x6_205 V U H locs ls hw hwo hS hl
        unfold wb_M_curvePart_205 at hw
        refine lv_iconst (v := 1) hx hb dM_curvePart_205 (by decide) ?_
        refine lv_goto (tgt := 210) hx hb dM_curvePart_206 (by decide) ?_
        refine lv_istore (i := 4) (lv' := [(4, .int (1 : Int32)), (0, .ref a0_86), (1, .int x1_86), (3, .int x3_86), (5, .int x5_205), (6, .int x6_205)]) hx hb dM_curvePart_210 hl (by decide) rfl (fun ls hl => ?_)
        refine lv_iconst (v := 0) hx hb dM_curvePart_212 (by decide) ?_
        refine lv_istore (i := 7) (lv' := [(7, .int (0 : Int32)), (4, .int (1 : Int32)), (0, .ref a0_86), (1, .int x1_86), (3, .int x3_86), (5, .int x5_205), (6, .int x6_205)]) hx hb dM_curvePart_213 hl (by decide) rfl (fun ls hl => ?_)
        obtain ⟨n, hw⟩ := hw
        exact L215 _ _ n _ _ _ _ _ _ _ hw hwo hS (lv_sub hl [2, 3, 4, 1, 5, 6, 0] rfl)
      have J175 : ∀ (x4_175 : Int32) (x5_175 : Int32) (x6_175 : Int32) (z0_175 : Int32) (z1_175 : Int32) (z2_175 : Nat) (V : VT) (U : UT) (H : Heap) (locs : List Loc) (ls : Array Slot), wb_M_curvePart_175 θ a0_86 x1_86 x3_86 x4_175 x5_175 x6_175 z0_175 z1_175 z2_175 (wl_M_curvePart_86 θ a0_86 x1_86 x3_86 K n86) K V U → wo θ V U H → Sx θ s H locs → lv_has ls 9 [(0, .ref a0_86), (1, .int x1_86), (3, .int x3_86), (4, .int x4_175), (5, .int x5_175), (6, .int x6_175)] → W p l e rmM_curvePart s m args below meth c H locs 0 0 (MQ below (QI θ K) args s 0 0 (aT θ)) (F0 m 175 ls [.int z0_175, .int z1_175, .ref z2_175]) := by
        intro x4_175 x5_175 x6_175 z0_175 z1_175 z2_175 V U H locs ls hw hwo hS hl
        unfold wb_M_curvePart_175 at hw
        obtain ⟨n_66, ha_67, hw⟩ := hw
        obtain ⟨hi_68, hw⟩ := hw
        refine g_iast hC hwo hS ha_67 hi_68 dM_curvePart_175 (fun V_69 eV_69 H locs hwo hS => ?_)
        replace hw := hw V_69 eV_69
        refine lv_iload hx hb dM_curvePart_176 (lv_at hl 3 rfl) ?_
        refine lv_if_eq (tgt := 209) hx hb dM_curvePart_178 (by decide) (fun hc_70 => ?_) (fun hc_70 => ?_)
        · replace hw := hw.1 hc_70
          exact J209 _ _ _ _ _ _ _ hw hwo hS (lv_sub hl [0, 1, 2, 4, 5] rfl)
        · replace hw := hw.2 hc_70
          refine lv_iload hx hb dM_curvePart_181 (lv_at hl 5 rfl) ?_
          refine lv_if_eq (tgt := 205) hx hb dM_curvePart_183 (by decide) (fun hc_71 => ?_) (fun hc_71 => ?_)
          · replace hw := hw.1 hc_71
            exact J205 _ _ _ _ _ _ _ hw hwo hS (lv_sub hl [0, 1, 2, 4, 5] rfl)
          · replace hw := hw.2 hc_71
            refine lv_aload_n hx hb dM_curvePart_186 rfl (lv_at hl 0 rfl) ?_
            obtain ⟨ho_72, hw⟩ := hw
            obtain ⟨hz_73, hw⟩ := hw
            refine g_getR hC fkM_101 rfl hwo ho_72 hz_73 dM_curvePart_187 ?_
            refine lv_iload_n hx hb dM_curvePart_190 rfl (lv_at hl 1 rfl) ?_
            refine lv_bipush (v := 9) hx hb dM_curvePart_191 (by decide) ?_
            refine lv_iadd hx hb dM_curvePart_193 ?_
            refine lv_iload hx hb dM_curvePart_194 (lv_at hl 4 rfl) ?_
            refine lv_iadd hx hb dM_curvePart_196 ?_
            obtain ⟨n_74, ha_75, hw⟩ := hw
            obtain ⟨hi_76, hw⟩ := hw
            refine g_iald hC hwo ha_75 hi_76 dM_curvePart_197 ?_
            refine lv_aload_n hx hb dM_curvePart_198 rfl (lv_at hl 0 rfl) ?_
            refine g_getI hC fkM_280 rfl hwo ho_72 dM_curvePart_199 ?_
            refine lv_icmp_ge (tgt := 209) hx hb dM_curvePart_202 (by decide) (fun hc_77 => ?_) (fun hc_77 => ?_)
            · replace hw := hw.1 hc_77
              exact J209 _ _ _ _ _ _ _ hw hwo hS (lv_sub hl [0, 1, 2, 4, 5] rfl)
            · replace hw := hw.2 hc_77
              exact J205 _ _ _ _ _ _ _ hw hwo hS (lv_sub hl [0, 1, 2, 4, 5] rfl)
      have J148 : ∀ (x4_148 : Int32) (x5_148 : Int32) (z0_148 : Int32) (V : VT) (U : UT) (H : Heap) (locs : List Loc) (ls : Array Slot), wb_M_curvePart_148 θ a0_86 x1_86 x3_86 x4_148 x5_148 z0_148 (wl_M_curvePart_86 θ a0_86 x1_86 x3_86 K n86) K V U → wo θ V U H → Sx θ s H locs → lv_has ls 9 [(0, .ref a0_86), (1, .int x1_86), (3, .int x3_86), (4, .int x4_148), (5, .int x5_148)] → W p l e rmM_curvePart s m args below meth c H locs 0 0 (MQ below (QI θ K) args s 0 0 (aT θ)) (F0 m 148 ls [.int z0_148]) := by
        intro x4_148 x5_148 z0_148 V U H locs ls hw hwo hS hl
        unfold wb_M_curvePart_148 at hw
        refine lv_istore (i := 6) (lv' := [(6, .int z0_148), (0, .ref a0_86), (1, .int x1_86), (3, .int x3_86), (4, .int x4_148), (5, .int x5_148)]) hx hb dM_curvePart_148 hl (by decide) rfl (fun ls hl => ?_)
        refine lv_aload_n hx hb dM_curvePart_150 rfl (lv_at hl 1 rfl) ?_
        obtain ⟨ho_60, hw⟩ := hw
        obtain ⟨hz_61, hw⟩ := hw
        refine g_getR hC fkM_101 rfl hwo ho_60 hz_61 dM_curvePart_151 ?_
        refine lv_iload_n hx hb dM_curvePart_154 rfl (lv_at hl 2 rfl) ?_
        refine lv_bipush (v := 9) hx hb dM_curvePart_155 (by decide) ?_
        refine lv_iadd hx hb dM_curvePart_157 ?_
        refine lv_iload hx hb dM_curvePart_158 (lv_at hl 5 rfl) ?_
        refine lv_iadd hx hb dM_curvePart_160 ?_
        refine lv_iload hx hb dM_curvePart_161 (lv_at hl 0 rfl) ?_
        refine lv_if_eq (tgt := 174) hx hb dM_curvePart_163 (by decide) (fun hc_62 => ?_) (fun hc_62 => ?_)
        · replace hw := hw.1 hc_62
          refine lv_iconst (v := 0) hx hb dM_curvePart_174 (by decide) ?_
          exact J175 _ _ _ _ _ _ _ _ _ _ _ hw hwo hS (lv_sub hl [1, 2, 3, 4, 5, 0] rfl)
        · replace hw := hw.2 hc_62
          refine lv_aload_n hx hb dM_curvePart_166 rfl (lv_at hl 1 rfl) ?_
          refine lv_iconst (v := 2) hx hb dM_curvePart_167 (by decide) ?_
          refine g_Vi (rest := [.int ((x1_86 + (9 : Int32)) + x5_148), .ref (U a0_86 52)]) hC (c_M_read l θ _ _ _ _ _ hw) mi_M_read mlM_249 mv_M_read ci_12 ho_60 hwo hS ⟨rfl, rfl⟩ ⟨by decide, by decide⟩ rfl hl.1 rfl (Nat.le_of_ble_eq_true rfl) dM_curvePart_168 (fun r_65 V_63 U_64 hw H locs hwo hS => ?_)
          refine lv_goto (tgt := 175) hx hb dM_curvePart_171 (by decide) ?_
          exact J175 _ _ _ _ _ _ _ _ _ _ _ hw hwo hS (lv_sub hl [1, 2, 3, 4, 5, 0] rfl)
      intro x4_86 x5_86 V U H locs ls hw hwo hS hl
      replace hw : bl_M_curvePart_86 θ a0_86 x1_86 x3_86 K (wl_M_curvePart_86 θ a0_86 x1_86 x3_86 K n86) x4_86 x5_86 V U := hw
      unfold bl_M_curvePart_86 at hw
      refine lv_iload hx hb dM_curvePart_86 (lv_at hl 4 rfl) ?_
      refine lv_iload_n hx hb dM_curvePart_88 rfl (lv_at hl 2 rfl) ?_
      refine lv_icmp_gt (tgt := 291) hx hb dM_curvePart_89 (by decide) (fun hc_31 => ?_) (fun hc_31 => ?_)
      · replace hw := hw.1 hc_31
        refine lv_iload hx hb dM_curvePart_291 (lv_at hl 3 rfl) ?_
        refine lv_if_eq (tgt := 308) hx hb dM_curvePart_293 (by decide) (fun hc_32 => ?_) (fun hc_32 => ?_)
        · replace hw := hw.1 hc_32
          exact J308 _ _ _ _ _ hw hwo hS (lv_sub hl [] rfl)
        · replace hw := hw.2 hc_32
          refine lv_aload_n hx hb dM_curvePart_296 rfl (lv_at hl 0 rfl) ?_
          refine lv_iload_n hx hb dM_curvePart_297 rfl (lv_at hl 1 rfl) ?_
          obtain ⟨ho_35, hw⟩ := hw
          refine g_Vi (rest := []) hC (c_M_points l θ _ _ _ _ _ hw) mi_M_points mlM_309 mv_M_points ci_12 ho_35 hwo hS ⟨rfl, rfl⟩ ⟨by decide, by decide⟩ rfl hl.1 rfl (Nat.le_of_ble_eq_true rfl) dM_curvePart_298 (fun r_36 V_33 U_34 hw H locs hwo hS => ?_)
          refine lv_if_eq (tgt := 308) hx hb dM_curvePart_301 (by decide) (fun hc_37 => ?_) (fun hc_37 => ?_)
          · replace hw := hw.1 hc_37
            exact J308 _ _ _ _ _ hw hwo hS (lv_sub hl [] rfl)
          · replace hw := hw.2 hc_37
            refine lv_iconst (v := 1) hx hb dM_curvePart_304 (by decide) ?_
            refine lv_goto (tgt := 309) hx hb dM_curvePart_305 (by decide) ?_
            exact g_zret hC hr hlk (Or.inr rfl) hw hwo hS dM_curvePart_309
      · replace hw := hw.2 hc_31
        refine lv_aload_n hx hb dM_curvePart_92 rfl (lv_at hl 0 rfl) ?_
        obtain ⟨ho_38, hw⟩ := hw
        obtain ⟨hz_39, hw⟩ := hw
        refine g_getR hC fkM_101 rfl hwo ho_38 hz_39 dM_curvePart_93 ?_
        refine lv_iload_n hx hb dM_curvePart_96 rfl (lv_at hl 1 rfl) ?_
        refine lv_iconst (v := 5) hx hb dM_curvePart_97 (by decide) ?_
        refine lv_iadd hx hb dM_curvePart_98 ?_
        refine lv_iload hx hb dM_curvePart_99 (lv_at hl 4 rfl) ?_
        refine lv_iadd hx hb dM_curvePart_101 ?_
        refine lv_aload_n hx hb dM_curvePart_102 rfl (lv_at hl 0 rfl) ?_
        refine lv_iconst (v := 2) hx hb dM_curvePart_103 (by decide) ?_
        refine g_Vi (rest := [.int ((x1_86 + (5 : Int32)) + x5_86), .ref (U a0_86 52)]) hC (c_M_read l θ _ _ _ _ _ hw) mi_M_read mlM_249 mv_M_read ci_12 ho_38 hwo hS ⟨rfl, rfl⟩ ⟨by decide, by decide⟩ rfl hl.1 rfl (Nat.le_of_ble_eq_true rfl) dM_curvePart_104 (fun r_42 V_40 U_41 hw H locs hwo hS => ?_)
        refine lv_iconst (v := 1) hx hb dM_curvePart_107 (by decide) ?_
        refine lv_iadd hx hb dM_curvePart_108 ?_
        obtain ⟨n_43, ha_44, hw⟩ := hw
        obtain ⟨hi_45, hw⟩ := hw
        refine g_iast hC hwo hS ha_44 hi_45 dM_curvePart_109 (fun V_46 eV_46 H locs hwo hS => ?_)
        replace hw := hw V_46 eV_46
        refine lv_aload_n hx hb dM_curvePart_110 rfl (lv_at hl 0 rfl) ?_
        obtain ⟨hz_47, hw⟩ := hw
        refine g_getR hC fkM_101 rfl hwo ho_38 hz_47 dM_curvePart_111 ?_
        refine lv_iload_n hx hb dM_curvePart_114 rfl (lv_at hl 1 rfl) ?_
        refine lv_bipush (v := 7) hx hb dM_curvePart_115 (by decide) ?_
        refine lv_iadd hx hb dM_curvePart_117 ?_
        refine lv_iload hx hb dM_curvePart_118 (lv_at hl 4 rfl) ?_
        refine lv_iadd hx hb dM_curvePart_120 ?_
        refine lv_aload_n hx hb dM_curvePart_121 rfl (lv_at hl 0 rfl) ?_
        refine lv_iconst (v := 1) hx hb dM_curvePart_122 (by decide) ?_
        refine g_Vi (rest := [.int ((x1_86 + (7 : Int32)) + x5_86), .ref (U_41 a0_86 52)]) hC (c_M_read l θ _ _ _ _ _ hw) mi_M_read mlM_249 mv_M_read ci_12 ho_38 hwo hS ⟨rfl, rfl⟩ ⟨by decide, by decide⟩ rfl hl.1 rfl (Nat.le_of_ble_eq_true rfl) dM_curvePart_123 (fun r_50 V_48 U_49 hw H locs hwo hS => ?_)
        obtain ⟨n_51, ha_52, hw⟩ := hw
        obtain ⟨hi_53, hw⟩ := hw
        refine g_iast hC hwo hS ha_52 hi_53 dM_curvePart_126 (fun V_54 eV_54 H locs hwo hS => ?_)
        replace hw := hw V_54 eV_54
        refine lv_aload_n hx hb dM_curvePart_127 rfl (lv_at hl 0 rfl) ?_
        obtain ⟨hz_55, hw⟩ := hw
        refine g_getR hC fkM_101 rfl hwo ho_38 hz_55 dM_curvePart_128 ?_
        refine lv_iload_n hx hb dM_curvePart_131 rfl (lv_at hl 1 rfl) ?_
        refine lv_bipush (v := 7) hx hb dM_curvePart_132 (by decide) ?_
        refine lv_iadd hx hb dM_curvePart_134 ?_
        refine lv_iload hx hb dM_curvePart_135 (lv_at hl 4 rfl) ?_
        refine lv_iadd hx hb dM_curvePart_137 ?_
        obtain ⟨n_56, ha_57, hw⟩ := hw
        obtain ⟨hi_58, hw⟩ := hw
        refine g_iald hC hwo ha_57 hi_58 dM_curvePart_138 ?_
        refine lv_iconst (v := 1) hx hb dM_curvePart_139 (by decide) ?_
        refine lv_icmp_ne (tgt := 147) hx hb dM_curvePart_140 (by decide) (fun hc_59 => ?_) (fun hc_59 => ?_)
        · replace hw := hw.1 hc_59
          refine lv_iconst (v := 0) hx hb dM_curvePart_147 (by decide) ?_
          exact J148 _ _ _ _ _ _ _ _ hw hwo hS (lv_sub hl [0, 1, 2, 3, 4] rfl)
        · replace hw := hw.2 hc_59
          refine lv_iconst (v := 1) hx hb dM_curvePart_143 (by decide) ?_
          refine lv_goto (tgt := 148) hx hb dM_curvePart_144 (by decide) ?_
          exact J148 _ _ _ _ _ _ _ _ hw hwo hS (lv_sub hl [0, 1, 2, 3, 4] rfl)
  have L35 : ∀ (a0_35 : Nat) (x1_35 : Int32) (x2_35 : Int32) (n35 : Nat) (x3_35 : Int32) (x4_35 : Int32) (V : VT) (U : UT) (H : Heap) (locs : List Loc) (ls : Array Slot), wl_M_curvePart_35 θ a0_35 x1_35 x2_35 K n35 x3_35 x4_35 V U → wo θ V U H → Sx θ s H locs → lv_has ls 9 [(0, .ref a0_35), (1, .int x1_35), (2, .int x2_35), (3, .int x3_35), (4, .int x4_35)] → W p l e rmM_curvePart s m args below meth c H locs 0 0 (MQ below (QI θ K) args s 0 0 (aT θ)) (F0 m 35 ls []) := by
    intro a0_35 x1_35 x2_35 n35
    induction n35 with
    | zero => intro x3_35 x4_35 V U H locs ls hw hwo hS hl; exact (show False from hw).elim
    | succ n35 ih35 =>
      intro x3_35 x4_35 V U H locs ls hw hwo hS hl
      replace hw : bl_M_curvePart_35 θ a0_35 x1_35 x2_35 K (wl_M_curvePart_35 θ a0_35 x1_35 x2_35 K n35) x3_35 x4_35 V U := hw
      unfold bl_M_curvePart_35 at hw
      refine lv_iload hx hb dM_curvePart_35 (lv_at hl 4 rfl) ?_
      refine lv_iload_n hx hb dM_curvePart_37 rfl (lv_at hl 2 rfl) ?_
      refine lv_icmp_ge (tgt := 80) hx hb dM_curvePart_38 (by decide) (fun hc_18 => ?_) (fun hc_18 => ?_)
      · replace hw := hw.1 hc_18
        refine lv_iconst (v := 1) hx hb dM_curvePart_80 (by decide) ?_
        refine lv_istore (i := 4) (lv' := [(4, .int (1 : Int32)), (0, .ref a0_35), (1, .int x1_35), (2, .int x2_35), (3, .int x3_35)]) hx hb dM_curvePart_81 hl (by decide) rfl (fun ls hl => ?_)
        refine lv_iconst (v := 0) hx hb dM_curvePart_83 (by decide) ?_
        refine lv_istore (i := 5) (lv' := [(5, .int (0 : Int32)), (4, .int (1 : Int32)), (0, .ref a0_35), (1, .int x1_35), (2, .int x2_35), (3, .int x3_35)]) hx hb dM_curvePart_84 hl (by decide) rfl (fun ls hl => ?_)
        obtain ⟨n, hw⟩ := hw
        exact L86 _ _ _ n _ _ _ _ _ _ _ hw hwo hS (lv_sub hl [2, 3, 5, 1, 0] rfl)
      · replace hw := hw.2 hc_18
        refine lv_aload_n hx hb dM_curvePart_41 rfl (lv_at hl 0 rfl) ?_
        refine lv_iconst (v := 1) hx hb dM_curvePart_42 (by decide) ?_
        obtain ⟨ho_21, hw⟩ := hw
        refine g_Vi (rest := []) hC (c_M_read l θ _ _ _ _ _ hw) mi_M_read mlM_249 mv_M_read ci_12 ho_21 hwo hS ⟨rfl, rfl⟩ ⟨by decide, by decide⟩ rfl hl.1 rfl (Nat.le_of_ble_eq_true rfl) dM_curvePart_43 (fun r_22 V_19 U_20 hw H locs hwo hS => ?_)
        refine lv_istore (i := 5) (lv' := [(5, .int r_22), (0, .ref a0_35), (1, .int x1_35), (2, .int x2_35), (3, .int x3_35), (4, .int x4_35)]) hx hb dM_curvePart_46 hl (by decide) rfl (fun ls hl => ?_)
        refine lv_aload_n hx hb dM_curvePart_48 rfl (lv_at hl 1 rfl) ?_
        obtain ⟨hz_23, hw⟩ := hw
        refine g_getR hC fkM_101 rfl hwo ho_21 hz_23 dM_curvePart_49 ?_
        refine lv_iload_n hx hb dM_curvePart_52 rfl (lv_at hl 2 rfl) ?_
        refine lv_iconst (v := 2) hx hb dM_curvePart_53 (by decide) ?_
        refine lv_iadd hx hb dM_curvePart_54 ?_
        refine lv_iload hx hb dM_curvePart_55 (lv_at hl 5 rfl) ?_
        refine lv_iadd hx hb dM_curvePart_57 ?_
        refine lv_iload hx hb dM_curvePart_58 (lv_at hl 0 rfl) ?_
        obtain ⟨n_24, ha_25, hw⟩ := hw
        obtain ⟨hi_26, hw⟩ := hw
        refine g_iast hC hwo hS ha_25 hi_26 dM_curvePart_60 (fun V_27 eV_27 H locs hwo hS => ?_)
        replace hw := hw V_27 eV_27
        refine lv_iload hx hb dM_curvePart_61 (lv_at hl 0 rfl) ?_
        refine lv_iload_n hx hb dM_curvePart_63 rfl (lv_at hl 4 rfl) ?_
        refine lv_icmp_le (tgt := 72) hx hb dM_curvePart_64 (by decide) (fun hc_28 => ?_) (fun hc_28 => ?_)
        · replace hw := hw.1 hc_28
          refine lv_iload_n hx hb dM_curvePart_72 rfl (lv_at hl 4 rfl) ?_
          refine lv_istore_n (i := 3) (lv' := [(3, .int x3_35), (5, .int r_22), (0, .ref a0_35), (1, .int x1_35), (2, .int x2_35), (4, .int x4_35)]) hx hb dM_curvePart_73 rfl hl (by decide) rfl (fun ls hl => ?_)
          obtain ⟨y_29, ey_29⟩ : ∃ z : Int32, z = x4_35 + (1 : Int32) := ⟨_, rfl⟩
          replace hw := hw y_29 ey_29
          refine lv_iinc (k := 5) (v := y_29) (lv' := [(4, .int y_29), (3, .int x3_35), (5, .int r_22), (0, .ref a0_35), (1, .int x1_35), (2, .int x2_35)]) hx hb dM_curvePart_74 hl rfl (by rw [ey_29]; rfl) (by decide) rfl (fun ls hl => ?_)
          refine lv_goto (tgt := 35) hx hb dM_curvePart_77 (by decide) ?_
          exact ih35 _ _ _ _ _ _ _ hw hwo hS (lv_sub hl [3, 4, 5, 1, 0] rfl)
        · replace hw := hw.2 hc_28
          refine lv_iload hx hb dM_curvePart_67 (lv_at hl 0 rfl) ?_
          refine lv_goto (tgt := 73) hx hb dM_curvePart_69 (by decide) ?_
          refine lv_istore_n (i := 3) (lv' := [(3, .int r_22), (5, .int r_22), (0, .ref a0_35), (1, .int x1_35), (2, .int x2_35), (4, .int x4_35)]) hx hb dM_curvePart_73 rfl hl (by decide) rfl (fun ls hl => ?_)
          obtain ⟨y_30, ey_30⟩ : ∃ z : Int32, z = x4_35 + (1 : Int32) := ⟨_, rfl⟩
          replace hw := hw y_30 ey_30
          refine lv_iinc (k := 5) (v := y_30) (lv' := [(4, .int y_30), (3, .int r_22), (5, .int r_22), (0, .ref a0_35), (1, .int x1_35), (2, .int x2_35)]) hx hb dM_curvePart_74 hl rfl (by rw [ey_30]; rfl) (by decide) rfl (fun ls hl => ?_)
          refine lv_goto (tgt := 35) hx hb dM_curvePart_77 (by decide) ?_
          exact ih35 _ _ _ _ _ _ _ hw hwo hS (lv_sub hl [3, 4, 5, 1, 0] rfl)
  unfold wp_M_curvePart at hw
  refine lv_aload_n hx hb dM_curvePart_0 rfl (lv_at hl 0 rfl) ?_
  obtain ⟨ho_1, hw⟩ := hw
  obtain ⟨hz_2, hw⟩ := hw
  refine g_getR hC fkM_101 rfl hwo ho_1 hz_2 dM_curvePart_1 ?_
  refine lv_iload_n hx hb dM_curvePart_4 rfl (lv_at hl 1 rfl) ?_
  refine lv_iconst (v := 0) hx hb dM_curvePart_5 (by decide) ?_
  refine lv_iadd hx hb dM_curvePart_6 ?_
  refine lv_aload_n hx hb dM_curvePart_7 rfl (lv_at hl 0 rfl) ?_
  refine lv_iconst (v := 2) hx hb dM_curvePart_8 (by decide) ?_
  refine g_Vi (rest := [.int (x1 + (0 : Int32)), .ref (U a0 52)]) hC (c_M_read l θ _ _ _ _ _ hw) mi_M_read mlM_249 mv_M_read ci_12 ho_1 hwo hS ⟨rfl, rfl⟩ ⟨by decide, by decide⟩ rfl hl.1 rfl (Nat.le_of_ble_eq_true rfl) dM_curvePart_9 (fun r_5 V_3 U_4 hw H locs hwo hS => ?_)
  refine lv_iconst (v := 1) hx hb dM_curvePart_12 (by decide) ?_
  refine lv_iadd hx hb dM_curvePart_13 ?_
  obtain ⟨n_6, ha_7, hw⟩ := hw
  obtain ⟨hi_8, hw⟩ := hw
  refine g_iast hC hwo hS ha_7 hi_8 dM_curvePart_14 (fun V_9 eV_9 H locs hwo hS => ?_)
  replace hw := hw V_9 eV_9
  refine lv_aload_n hx hb dM_curvePart_15 rfl (lv_at hl 0 rfl) ?_
  refine lv_iconst (v := 2) hx hb dM_curvePart_16 (by decide) ?_
  refine g_Vi (rest := []) hC (c_M_read l θ _ _ _ _ _ hw) mi_M_read mlM_249 mv_M_read ci_12 ho_1 hwo hS ⟨rfl, rfl⟩ ⟨by decide, by decide⟩ rfl hl.1 rfl (Nat.le_of_ble_eq_true rfl) dM_curvePart_17 (fun r_12 V_10 U_11 hw H locs hwo hS => ?_)
  refine lv_istore_n (i := 2) (lv' := [(2, .int r_12), (0, .ref a0), (1, .int x1)]) hx hb dM_curvePart_20 rfl hl (by decide) rfl (fun ls hl => ?_)
  refine lv_aload_n hx hb dM_curvePart_21 rfl (lv_at hl 1 rfl) ?_
  obtain ⟨hz_13, hw⟩ := hw
  refine g_getR hC fkM_101 rfl hwo ho_1 hz_13 dM_curvePart_22 ?_
  refine lv_iload_n hx hb dM_curvePart_25 rfl (lv_at hl 2 rfl) ?_
  refine lv_iconst (v := 1) hx hb dM_curvePart_26 (by decide) ?_
  refine lv_iadd hx hb dM_curvePart_27 ?_
  refine lv_iload_n hx hb dM_curvePart_28 rfl (lv_at hl 0 rfl) ?_
  obtain ⟨n_14, ha_15, hw⟩ := hw
  obtain ⟨hi_16, hw⟩ := hw
  refine g_iast hC hwo hS ha_15 hi_16 dM_curvePart_29 (fun V_17 eV_17 H locs hwo hS => ?_)
  replace hw := hw V_17 eV_17
  refine lv_iconst (v := -1) hx hb dM_curvePart_30 (by decide) ?_
  refine lv_istore_n (i := 3) (lv' := [(3, .int (-1 : Int32)), (2, .int r_12), (0, .ref a0), (1, .int x1)]) hx hb dM_curvePart_31 rfl hl (by decide) rfl (fun ls hl => ?_)
  refine lv_iconst (v := 0) hx hb dM_curvePart_32 (by decide) ?_
  refine lv_istore (i := 4) (lv' := [(4, .int (0 : Int32)), (3, .int (-1 : Int32)), (2, .int r_12), (0, .ref a0), (1, .int x1)]) hx hb dM_curvePart_33 hl (by decide) rfl (fun ls hl => ?_)
  obtain ⟨n, hw⟩ := hw
  exact L35 _ _ _ n _ _ _ _ _ _ _ hw hwo hS (lv_sub hl [3, 4, 2, 1, 0] rfl)
theorem dM_valuePart_0 : decode kM_valuePart 0 = .ok (.aload_n 0, 1) := by decide +kernel
theorem dM_valuePart_1 : decode kM_valuePart 1 = .ok (.getfield 101, 3) := by decide +kernel
theorem dM_valuePart_4 : decode kM_valuePart 4 = .ok (.iload_n 1, 1) := by decide +kernel
theorem dM_valuePart_5 : decode kM_valuePart 5 = .ok (.bipush 30, 2) := by decide +kernel
theorem dM_valuePart_7 : decode kM_valuePart 7 = .ok (.iadd, 1) := by decide +kernel
theorem dM_valuePart_8 : decode kM_valuePart 8 = .ok (.aload_n 0, 1) := by decide +kernel
theorem dM_valuePart_9 : decode kM_valuePart 9 = .ok (.iconst 2, 1) := by decide +kernel
theorem dM_valuePart_10 : decode kM_valuePart 10 = .ok (.invokevirtual 249, 3) := by decide +kernel
theorem dM_valuePart_13 : decode kM_valuePart 13 = .ok (.iastore, 1) := by decide +kernel
theorem dM_valuePart_14 : decode kM_valuePart 14 = .ok (.aload_n 0, 1) := by decide +kernel
theorem dM_valuePart_15 : decode kM_valuePart 15 = .ok (.getfield 101, 3) := by decide +kernel
theorem dM_valuePart_18 : decode kM_valuePart 18 = .ok (.iload_n 1, 1) := by decide +kernel
theorem dM_valuePart_19 : decode kM_valuePart 19 = .ok (.bipush 31, 2) := by decide +kernel
theorem dM_valuePart_21 : decode kM_valuePart 21 = .ok (.iadd, 1) := by decide +kernel
theorem dM_valuePart_22 : decode kM_valuePart 22 = .ok (.aload_n 0, 1) := by decide +kernel
theorem dM_valuePart_23 : decode kM_valuePart 23 = .ok (.iconst 5, 1) := by decide +kernel
theorem dM_valuePart_24 : decode kM_valuePart 24 = .ok (.invokevirtual 249, 3) := by decide +kernel
theorem dM_valuePart_27 : decode kM_valuePart 27 = .ok (.iastore, 1) := by decide +kernel
theorem dM_valuePart_28 : decode kM_valuePart 28 = .ok (.aload_n 0, 1) := by decide +kernel
theorem dM_valuePart_29 : decode kM_valuePart 29 = .ok (.getfield 101, 3) := by decide +kernel
theorem dM_valuePart_32 : decode kM_valuePart 32 = .ok (.iload_n 1, 1) := by decide +kernel
theorem dM_valuePart_33 : decode kM_valuePart 33 = .ok (.bipush 32, 2) := by decide +kernel
theorem dM_valuePart_35 : decode kM_valuePart 35 = .ok (.iadd, 1) := by decide +kernel
theorem dM_valuePart_36 : decode kM_valuePart 36 = .ok (.aload_n 0, 1) := by decide +kernel
theorem dM_valuePart_37 : decode kM_valuePart 37 = .ok (.bipush 6, 2) := by decide +kernel
theorem dM_valuePart_39 : decode kM_valuePart 39 = .ok (.invokevirtual 249, 3) := by decide +kernel
theorem dM_valuePart_42 : decode kM_valuePart 42 = .ok (.iastore, 1) := by decide +kernel
theorem dM_valuePart_43 : decode kM_valuePart 43 = .ok (.aload_n 0, 1) := by decide +kernel
theorem dM_valuePart_44 : decode kM_valuePart 44 = .ok (.getfield 101, 3) := by decide +kernel
theorem dM_valuePart_47 : decode kM_valuePart 47 = .ok (.iload_n 1, 1) := by decide +kernel
theorem dM_valuePart_48 : decode kM_valuePart 48 = .ok (.bipush 33, 2) := by decide +kernel
theorem dM_valuePart_50 : decode kM_valuePart 50 = .ok (.iadd, 1) := by decide +kernel
theorem dM_valuePart_51 : decode kM_valuePart 51 = .ok (.aload_n 0, 1) := by decide +kernel
theorem dM_valuePart_52 : decode kM_valuePart 52 = .ok (.iconst 3, 1) := by decide +kernel
theorem dM_valuePart_53 : decode kM_valuePart 53 = .ok (.invokevirtual 249, 3) := by decide +kernel
theorem dM_valuePart_56 : decode kM_valuePart 56 = .ok (.iconst 1, 1) := by decide +kernel
theorem dM_valuePart_57 : decode kM_valuePart 57 = .ok (.iadd, 1) := by decide +kernel
theorem dM_valuePart_58 : decode kM_valuePart 58 = .ok (.iastore, 1) := by decide +kernel
theorem dM_valuePart_59 : decode kM_valuePart 59 = .ok (.aload_n 0, 1) := by decide +kernel
theorem dM_valuePart_60 : decode kM_valuePart 60 = .ok (.getfield 101, 3) := by decide +kernel
theorem dM_valuePart_63 : decode kM_valuePart 63 = .ok (.iload_n 1, 1) := by decide +kernel
theorem dM_valuePart_64 : decode kM_valuePart 64 = .ok (.bipush 34, 2) := by decide +kernel
theorem dM_valuePart_66 : decode kM_valuePart 66 = .ok (.iadd, 1) := by decide +kernel
theorem dM_valuePart_67 : decode kM_valuePart 67 = .ok (.aload_n 0, 1) := by decide +kernel
theorem dM_valuePart_68 : decode kM_valuePart 68 = .ok (.iconst 1, 1) := by decide +kernel
theorem dM_valuePart_69 : decode kM_valuePart 69 = .ok (.invokevirtual 249, 3) := by decide +kernel
theorem dM_valuePart_72 : decode kM_valuePart 72 = .ok (.iconst 1, 1) := by decide +kernel
theorem dM_valuePart_73 : decode kM_valuePart 73 = .ok (.iadd, 1) := by decide +kernel
theorem dM_valuePart_74 : decode kM_valuePart 74 = .ok (.iastore, 1) := by decide +kernel
theorem dM_valuePart_75 : decode kM_valuePart 75 = .ok (.aload_n 0, 1) := by decide +kernel
theorem dM_valuePart_76 : decode kM_valuePart 76 = .ok (.getfield 101, 3) := by decide +kernel
theorem dM_valuePart_79 : decode kM_valuePart 79 = .ok (.iload_n 1, 1) := by decide +kernel
theorem dM_valuePart_80 : decode kM_valuePart 80 = .ok (.bipush 35, 2) := by decide +kernel
theorem dM_valuePart_82 : decode kM_valuePart 82 = .ok (.iadd, 1) := by decide +kernel
theorem dM_valuePart_83 : decode kM_valuePart 83 = .ok (.aload_n 0, 1) := by decide +kernel
theorem dM_valuePart_84 : decode kM_valuePart 84 = .ok (.iconst 2, 1) := by decide +kernel
theorem dM_valuePart_85 : decode kM_valuePart 85 = .ok (.invokevirtual 249, 3) := by decide +kernel
theorem dM_valuePart_88 : decode kM_valuePart 88 = .ok (.iastore, 1) := by decide +kernel
theorem dM_valuePart_89 : decode kM_valuePart 89 = .ok (.aload_n 0, 1) := by decide +kernel
theorem dM_valuePart_90 : decode kM_valuePart 90 = .ok (.getfield 101, 3) := by decide +kernel
theorem dM_valuePart_93 : decode kM_valuePart 93 = .ok (.iload_n 1, 1) := by decide +kernel
theorem dM_valuePart_94 : decode kM_valuePart 94 = .ok (.bipush 30, 2) := by decide +kernel
theorem dM_valuePart_96 : decode kM_valuePart 96 = .ok (.iadd, 1) := by decide +kernel
theorem dM_valuePart_97 : decode kM_valuePart 97 = .ok (.iaload, 1) := by decide +kernel
theorem dM_valuePart_98 : decode kM_valuePart 98 = .ok (.iconst 3, 1) := by decide +kernel
theorem dM_valuePart_99 : decode kM_valuePart 99 = .ok (.if_icmp .ge 44, 3) := by decide +kernel
theorem dM_valuePart_102 : decode kM_valuePart 102 = .ok (.aload_n 0, 1) := by decide +kernel
theorem dM_valuePart_103 : decode kM_valuePart 103 = .ok (.getfield 101, 3) := by decide +kernel
theorem dM_valuePart_106 : decode kM_valuePart 106 = .ok (.iload_n 1, 1) := by decide +kernel
theorem dM_valuePart_107 : decode kM_valuePart 107 = .ok (.bipush 31, 2) := by decide +kernel
theorem dM_valuePart_109 : decode kM_valuePart 109 = .ok (.iadd, 1) := by decide +kernel
theorem dM_valuePart_110 : decode kM_valuePart 110 = .ok (.iaload, 1) := by decide +kernel
theorem dM_valuePart_111 : decode kM_valuePart 111 = .ok (.aload_n 0, 1) := by decide +kernel
theorem dM_valuePart_112 : decode kM_valuePart 112 = .ok (.getfield 101, 3) := by decide +kernel
theorem dM_valuePart_115 : decode kM_valuePart 115 = .ok (.iload_n 1, 1) := by decide +kernel
theorem dM_valuePart_116 : decode kM_valuePart 116 = .ok (.bipush 32, 2) := by decide +kernel
theorem dM_valuePart_118 : decode kM_valuePart 118 = .ok (.iadd, 1) := by decide +kernel
theorem dM_valuePart_119 : decode kM_valuePart 119 = .ok (.iaload, 1) := by decide +kernel
theorem dM_valuePart_120 : decode kM_valuePart 120 = .ok (.if_icmp .gt 23, 3) := by decide +kernel
theorem dM_valuePart_123 : decode kM_valuePart 123 = .ok (.aload_n 0, 1) := by decide +kernel
theorem dM_valuePart_124 : decode kM_valuePart 124 = .ok (.getfield 101, 3) := by decide +kernel
theorem dM_valuePart_127 : decode kM_valuePart 127 = .ok (.iload_n 1, 1) := by decide +kernel
theorem dM_valuePart_128 : decode kM_valuePart 128 = .ok (.bipush 35, 2) := by decide +kernel
theorem dM_valuePart_130 : decode kM_valuePart 130 = .ok (.iadd, 1) := by decide +kernel
theorem dM_valuePart_131 : decode kM_valuePart 131 = .ok (.iaload, 1) := by decide +kernel
theorem dM_valuePart_132 : decode kM_valuePart 132 = .ok (.aload_n 0, 1) := by decide +kernel
theorem dM_valuePart_133 : decode kM_valuePart 133 = .ok (.getfield 280, 3) := by decide +kernel
theorem dM_valuePart_136 : decode kM_valuePart 136 = .ok (.if_icmp .ge 7, 3) := by decide +kernel
theorem dM_valuePart_139 : decode kM_valuePart 139 = .ok (.iconst 1, 1) := by decide +kernel
theorem dM_valuePart_140 : decode kM_valuePart 140 = .ok (.goto 4, 3) := by decide +kernel
theorem dM_valuePart_143 : decode kM_valuePart 143 = .ok (.iconst 0, 1) := by decide +kernel
theorem dM_valuePart_144 : decode kM_valuePart 144 = .ok (.istore_n 2, 1) := by decide +kernel
theorem dM_valuePart_145 : decode kM_valuePart 145 = .ok (.iconst 0, 1) := by decide +kernel
theorem dM_valuePart_146 : decode kM_valuePart 146 = .ok (.istore_n 3, 1) := by decide +kernel
theorem dM_valuePart_147 : decode kM_valuePart 147 = .ok (.iload_n 3, 1) := by decide +kernel
theorem dM_valuePart_148 : decode kM_valuePart 148 = .ok (.aload_n 0, 1) := by decide +kernel
theorem dM_valuePart_149 : decode kM_valuePart 149 = .ok (.getfield 101, 3) := by decide +kernel
theorem dM_valuePart_152 : decode kM_valuePart 152 = .ok (.iload_n 1, 1) := by decide +kernel
theorem dM_valuePart_153 : decode kM_valuePart 153 = .ok (.bipush 34, 2) := by decide +kernel
theorem dM_valuePart_155 : decode kM_valuePart 155 = .ok (.iadd, 1) := by decide +kernel
theorem dM_valuePart_156 : decode kM_valuePart 156 = .ok (.iaload, 1) := by decide +kernel
theorem dM_valuePart_157 : decode kM_valuePart 157 = .ok (.if_icmp .ge 56, 3) := by decide +kernel
theorem dM_valuePart_160 : decode kM_valuePart 160 = .ok (.aload_n 0, 1) := by decide +kernel
theorem dM_valuePart_161 : decode kM_valuePart 161 = .ok (.iconst 2, 1) := by decide +kernel
theorem dM_valuePart_162 : decode kM_valuePart 162 = .ok (.invokevirtual 249, 3) := by decide +kernel
theorem dM_valuePart_165 : decode kM_valuePart 165 = .ok (.istore 4, 2) := by decide +kernel
theorem dM_valuePart_167 : decode kM_valuePart 167 = .ok (.aload_n 0, 1) := by decide +kernel
theorem dM_valuePart_168 : decode kM_valuePart 168 = .ok (.getfield 101, 3) := by decide +kernel
theorem dM_valuePart_171 : decode kM_valuePart 171 = .ok (.iload_n 1, 1) := by decide +kernel
theorem dM_valuePart_172 : decode kM_valuePart 172 = .ok (.bipush 36, 2) := by decide +kernel
theorem dM_valuePart_174 : decode kM_valuePart 174 = .ok (.iadd, 1) := by decide +kernel
theorem dM_valuePart_175 : decode kM_valuePart 175 = .ok (.iconst 2, 1) := by decide +kernel
theorem dM_valuePart_176 : decode kM_valuePart 176 = .ok (.iload_n 3, 1) := by decide +kernel
theorem dM_valuePart_177 : decode kM_valuePart 177 = .ok (.imul, 1) := by decide +kernel
theorem dM_valuePart_178 : decode kM_valuePart 178 = .ok (.iadd, 1) := by decide +kernel
theorem dM_valuePart_179 : decode kM_valuePart 179 = .ok (.iload 4, 2) := by decide +kernel
theorem dM_valuePart_181 : decode kM_valuePart 181 = .ok (.iconst 1, 1) := by decide +kernel
theorem dM_valuePart_182 : decode kM_valuePart 182 = .ok (.iand, 1) := by decide +kernel
theorem dM_valuePart_183 : decode kM_valuePart 183 = .ok (.iconst 1, 1) := by decide +kernel
theorem dM_valuePart_184 : decode kM_valuePart 184 = .ok (.isub, 1) := by decide +kernel
theorem dM_valuePart_185 : decode kM_valuePart 185 = .ok (.iastore, 1) := by decide +kernel
theorem dM_valuePart_186 : decode kM_valuePart 186 = .ok (.aload_n 0, 1) := by decide +kernel
theorem dM_valuePart_187 : decode kM_valuePart 187 = .ok (.getfield 101, 3) := by decide +kernel
theorem dM_valuePart_190 : decode kM_valuePart 190 = .ok (.iload_n 1, 1) := by decide +kernel
theorem dM_valuePart_191 : decode kM_valuePart 191 = .ok (.bipush 36, 2) := by decide +kernel
theorem dM_valuePart_193 : decode kM_valuePart 193 = .ok (.iadd, 1) := by decide +kernel
theorem dM_valuePart_194 : decode kM_valuePart 194 = .ok (.iconst 2, 1) := by decide +kernel
theorem dM_valuePart_195 : decode kM_valuePart 195 = .ok (.iload_n 3, 1) := by decide +kernel
theorem dM_valuePart_196 : decode kM_valuePart 196 = .ok (.imul, 1) := by decide +kernel
theorem dM_valuePart_197 : decode kM_valuePart 197 = .ok (.iadd, 1) := by decide +kernel
theorem dM_valuePart_198 : decode kM_valuePart 198 = .ok (.iconst 1, 1) := by decide +kernel
theorem dM_valuePart_199 : decode kM_valuePart 199 = .ok (.iadd, 1) := by decide +kernel
theorem dM_valuePart_200 : decode kM_valuePart 200 = .ok (.iload 4, 2) := by decide +kernel
theorem dM_valuePart_202 : decode kM_valuePart 202 = .ok (.iconst 1, 1) := by decide +kernel
theorem dM_valuePart_203 : decode kM_valuePart 203 = .ok (.ishr, 1) := by decide +kernel
theorem dM_valuePart_204 : decode kM_valuePart 204 = .ok (.iconst 1, 1) := by decide +kernel
theorem dM_valuePart_205 : decode kM_valuePart 205 = .ok (.isub, 1) := by decide +kernel
theorem dM_valuePart_206 : decode kM_valuePart 206 = .ok (.iastore, 1) := by decide +kernel
theorem dM_valuePart_207 : decode kM_valuePart 207 = .ok (.iinc 3 1, 3) := by decide +kernel
theorem dM_valuePart_210 : decode kM_valuePart 210 = .ok (.goto (-63), 3) := by decide +kernel
theorem dM_valuePart_213 : decode kM_valuePart 213 = .ok (.iconst 0, 1) := by decide +kernel
theorem dM_valuePart_214 : decode kM_valuePart 214 = .ok (.istore_n 3, 1) := by decide +kernel
theorem dM_valuePart_215 : decode kM_valuePart 215 = .ok (.iload_n 3, 1) := by decide +kernel
theorem dM_valuePart_216 : decode kM_valuePart 216 = .ok (.iconst 2, 1) := by decide +kernel
theorem dM_valuePart_217 : decode kM_valuePart 217 = .ok (.aload_n 0, 1) := by decide +kernel
theorem dM_valuePart_218 : decode kM_valuePart 218 = .ok (.getfield 101, 3) := by decide +kernel
theorem dM_valuePart_221 : decode kM_valuePart 221 = .ok (.iload_n 1, 1) := by decide +kernel
theorem dM_valuePart_222 : decode kM_valuePart 222 = .ok (.bipush 34, 2) := by decide +kernel
theorem dM_valuePart_224 : decode kM_valuePart 224 = .ok (.iadd, 1) := by decide +kernel
theorem dM_valuePart_225 : decode kM_valuePart 225 = .ok (.iaload, 1) := by decide +kernel
theorem dM_valuePart_226 : decode kM_valuePart 226 = .ok (.imul, 1) := by decide +kernel
theorem dM_valuePart_227 : decode kM_valuePart 227 = .ok (.if_icmp .ge 92, 3) := by decide +kernel
theorem dM_valuePart_230 : decode kM_valuePart 230 = .ok (.aload_n 0, 1) := by decide +kernel
theorem dM_valuePart_231 : decode kM_valuePart 231 = .ok (.getfield 101, 3) := by decide +kernel
theorem dM_valuePart_234 : decode kM_valuePart 234 = .ok (.iload_n 1, 1) := by decide +kernel
theorem dM_valuePart_235 : decode kM_valuePart 235 = .ok (.bipush 36, 2) := by decide +kernel
theorem dM_valuePart_237 : decode kM_valuePart 237 = .ok (.iadd, 1) := by decide +kernel
theorem dM_valuePart_238 : decode kM_valuePart 238 = .ok (.iload_n 3, 1) := by decide +kernel
theorem dM_valuePart_239 : decode kM_valuePart 239 = .ok (.iadd, 1) := by decide +kernel
theorem dM_valuePart_240 : decode kM_valuePart 240 = .ok (.iaload, 1) := by decide +kernel
theorem dM_valuePart_241 : decode kM_valuePart 241 = .ok (.ifCond .ne 72, 3) := by decide +kernel
theorem dM_valuePart_244 : decode kM_valuePart 244 = .ok (.aload_n 0, 1) := by decide +kernel
theorem dM_valuePart_245 : decode kM_valuePart 245 = .ok (.iconst 2, 1) := by decide +kernel
theorem dM_valuePart_246 : decode kM_valuePart 246 = .ok (.invokevirtual 249, 3) := by decide +kernel
theorem dM_valuePart_249 : decode kM_valuePart 249 = .ok (.istore 4, 2) := by decide +kernel
theorem dM_valuePart_251 : decode kM_valuePart 251 = .ok (.aload_n 0, 1) := by decide +kernel
theorem dM_valuePart_252 : decode kM_valuePart 252 = .ok (.getfield 101, 3) := by decide +kernel
theorem dM_valuePart_255 : decode kM_valuePart 255 = .ok (.iload_n 1, 1) := by decide +kernel
theorem dM_valuePart_256 : decode kM_valuePart 256 = .ok (.bipush 36, 2) := by decide +kernel
theorem dM_valuePart_258 : decode kM_valuePart 258 = .ok (.iadd, 1) := by decide +kernel
theorem dM_valuePart_259 : decode kM_valuePart 259 = .ok (.iload_n 3, 1) := by decide +kernel
theorem dM_valuePart_260 : decode kM_valuePart 260 = .ok (.iadd, 1) := by decide +kernel
theorem dM_valuePart_261 : decode kM_valuePart 261 = .ok (.iload 4, 2) := by decide +kernel
theorem dM_valuePart_263 : decode kM_valuePart 263 = .ok (.iastore, 1) := by decide +kernel
theorem dM_valuePart_264 : decode kM_valuePart 264 = .ok (.iload_n 2, 1) := by decide +kernel
theorem dM_valuePart_265 : decode kM_valuePart 265 = .ok (.ifCond .eq 46, 3) := by decide +kernel
theorem dM_valuePart_268 : decode kM_valuePart 268 = .ok (.iload 4, 2) := by decide +kernel
theorem dM_valuePart_270 : decode kM_valuePart 270 = .ok (.aload_n 0, 1) := by decide +kernel
theorem dM_valuePart_271 : decode kM_valuePart 271 = .ok (.getfield 280, 3) := by decide +kernel
theorem dM_valuePart_274 : decode kM_valuePart 274 = .ok (.if_icmp .ge 37, 3) := by decide +kernel
theorem dM_valuePart_277 : decode kM_valuePart 277 = .ok (.aload_n 0, 1) := by decide +kernel
theorem dM_valuePart_278 : decode kM_valuePart 278 = .ok (.getfield 92, 3) := by decide +kernel
theorem dM_valuePart_281 : decode kM_valuePart 281 = .ok (.iload 4, 2) := by decide +kernel
theorem dM_valuePart_283 : decode kM_valuePart 283 = .ok (.baload, 1) := by decide +kernel
theorem dM_valuePart_284 : decode kM_valuePart 284 = .ok (.ifCond .eq 27, 3) := by decide +kernel
theorem dM_valuePart_287 : decode kM_valuePart 287 = .ok (.aload_n 0, 1) := by decide +kernel
theorem dM_valuePart_288 : decode kM_valuePart 288 = .ok (.getfield 101, 3) := by decide +kernel
theorem dM_valuePart_291 : decode kM_valuePart 291 = .ok (.iload_n 1, 1) := by decide +kernel
theorem dM_valuePart_292 : decode kM_valuePart 292 = .ok (.bipush 33, 2) := by decide +kernel
theorem dM_valuePart_294 : decode kM_valuePart 294 = .ok (.iadd, 1) := by decide +kernel
theorem dM_valuePart_295 : decode kM_valuePart 295 = .ok (.iaload, 1) := by decide +kernel
theorem dM_valuePart_296 : decode kM_valuePart 296 = .ok (.aload_n 0, 1) := by decide +kernel
theorem dM_valuePart_297 : decode kM_valuePart 297 = .ok (.getfield 80, 3) := by decide +kernel
theorem dM_valuePart_300 : decode kM_valuePart 300 = .ok (.iload 4, 2) := by decide +kernel
theorem dM_valuePart_302 : decode kM_valuePart 302 = .ok (.iaload, 1) := by decide +kernel
theorem dM_valuePart_303 : decode kM_valuePart 303 = .ok (.irem, 1) := by decide +kernel
theorem dM_valuePart_304 : decode kM_valuePart 304 = .ok (.ifCond .ne 7, 3) := by decide +kernel
theorem dM_valuePart_307 : decode kM_valuePart 307 = .ok (.iconst 1, 1) := by decide +kernel
theorem dM_valuePart_308 : decode kM_valuePart 308 = .ok (.goto 4, 3) := by decide +kernel
theorem dM_valuePart_311 : decode kM_valuePart 311 = .ok (.iconst 0, 1) := by decide +kernel
theorem dM_valuePart_312 : decode kM_valuePart 312 = .ok (.istore_n 2, 1) := by decide +kernel
theorem dM_valuePart_313 : decode kM_valuePart 313 = .ok (.iinc 3 1, 3) := by decide +kernel
theorem dM_valuePart_316 : decode kM_valuePart 316 = .ok (.goto (-101), 3) := by decide +kernel
theorem dM_valuePart_319 : decode kM_valuePart 319 = .ok (.aload_n 0, 1) := by decide +kernel
theorem dM_valuePart_320 : decode kM_valuePart 320 = .ok (.getfield 101, 3) := by decide +kernel
theorem dM_valuePart_323 : decode kM_valuePart 323 = .ok (.iload_n 1, 1) := by decide +kernel
theorem dM_valuePart_324 : decode kM_valuePart 324 = .ok (.bipush 40, 2) := by decide +kernel
theorem dM_valuePart_326 : decode kM_valuePart 326 = .ok (.iadd, 1) := by decide +kernel
theorem dM_valuePart_327 : decode kM_valuePart 327 = .ok (.aload_n 0, 1) := by decide +kernel
theorem dM_valuePart_328 : decode kM_valuePart 328 = .ok (.iconst 1, 1) := by decide +kernel
theorem dM_valuePart_329 : decode kM_valuePart 329 = .ok (.invokevirtual 249, 3) := by decide +kernel
theorem dM_valuePart_332 : decode kM_valuePart 332 = .ok (.iastore, 1) := by decide +kernel
theorem dM_valuePart_333 : decode kM_valuePart 333 = .ok (.iload_n 2, 1) := by decide +kernel
theorem dM_valuePart_334 : decode kM_valuePart 334 = .ok (.ifCond .eq 27, 3) := by decide +kernel
theorem dM_valuePart_337 : decode kM_valuePart 337 = .ok (.aload_n 0, 1) := by decide +kernel
theorem dM_valuePart_338 : decode kM_valuePart 338 = .ok (.getfield 101, 3) := by decide +kernel
theorem dM_valuePart_341 : decode kM_valuePart 341 = .ok (.iload_n 1, 1) := by decide +kernel
theorem dM_valuePart_342 : decode kM_valuePart 342 = .ok (.bipush 40, 2) := by decide +kernel
theorem dM_valuePart_344 : decode kM_valuePart 344 = .ok (.iadd, 1) := by decide +kernel
theorem dM_valuePart_345 : decode kM_valuePart 345 = .ok (.iaload, 1) := by decide +kernel
theorem dM_valuePart_346 : decode kM_valuePart 346 = .ok (.ifCond .eq 11, 3) := by decide +kernel
theorem dM_valuePart_349 : decode kM_valuePart 349 = .ok (.aload_n 0, 1) := by decide +kernel
theorem dM_valuePart_350 : decode kM_valuePart 350 = .ok (.getfield 265, 3) := by decide +kernel
theorem dM_valuePart_353 : decode kM_valuePart 353 = .ok (.iconst 2, 1) := by decide +kernel
theorem dM_valuePart_354 : decode kM_valuePart 354 = .ok (.if_icmp .ne 7, 3) := by decide +kernel
theorem dM_valuePart_357 : decode kM_valuePart 357 = .ok (.iconst 1, 1) := by decide +kernel
theorem dM_valuePart_358 : decode kM_valuePart 358 = .ok (.goto 4, 3) := by decide +kernel
theorem dM_valuePart_361 : decode kM_valuePart 361 = .ok (.iconst 0, 1) := by decide +kernel
theorem dM_valuePart_362 : decode kM_valuePart 362 = .ok (.ireturn, 1) := by decide +kernel
def wb_M_valuePart_361 (θ : TH) (K : Int32 → VT → UT → Prop) (V : VT) (U : UT) : Prop := K (0 : Int32) V U
def wb_M_valuePart_357 (θ : TH) (K : Int32 → VT → UT → Prop) (V : VT) (U : UT) : Prop := K (1 : Int32) V U
def wb_M_valuePart_312 (θ : TH) (a0_215 : Nat) (x1_215 : Int32) (x3_312 : Int32) (z0_312 : Int32) (kb215 : Int32 → Int32 → VT → UT → Prop) (K : Int32 → VT → UT → Prop) (V : VT) (U : UT) : Prop := ∀ y_120 : Int32, y_120 = x3_312 + (1 : Int32) → kb215 z0_312 y_120 V U
def wb_M_valuePart_311 (θ : TH) (a0_215 : Nat) (x1_215 : Int32) (x3_311 : Int32) (kb215 : Int32 → Int32 → VT → UT → Prop) (K : Int32 → VT → UT → Prop) (V : VT) (U : UT) : Prop := wb_M_valuePart_312 θ a0_215 x1_215 x3_311 (0 : Int32) kb215 K V U
def bl_M_valuePart_215 (θ : TH) (a0_215 : Nat) (x1_215 : Int32) (K : Int32 → VT → UT → Prop) (kb215 : Int32 → Int32 → VT → UT → Prop) (x2_215 : Int32) (x3_215 : Int32) (V : VT) (U : UT) : Prop := isO θ a0_215 12 ∧ (U a0_215 52) ≠ 0 ∧ ∃ n_79, isA θ (U a0_215 52) 0 n_79 ∧ vp_in (x1_215 + (34 : Int32)) n_79 ∧ ((((2 : Int32) * (V (U a0_215 52) (x1_215 + (34 : Int32)).toNatClampNeg)) ≤ x3_215 → wp_M_read θ a0_215 (1 : Int32) V U (fun r_85 V_83 U_84 => vp_in (x1_215 + (40 : Int32)) n_79 ∧ ∀ V_87 : VT, V_87 = up2 V_83 (U a0_215 52) (x1_215 + (40 : Int32)).toNatClampNeg r_85 → ((x2_215 = 0 → wb_M_valuePart_361 θ K V_87 U_84) ∧ (¬ x2_215 = 0 → (U_84 a0_215 52) ≠ 0 ∧ ∃ n_90, isA θ (U_84 a0_215 52) 0 n_90 ∧ vp_in (x1_215 + (40 : Int32)) n_90 ∧ (((V_87 (U_84 a0_215 52) (x1_215 + (40 : Int32)).toNatClampNeg) = 0 → wb_M_valuePart_357 θ K V_87 U_84) ∧ (¬ (V_87 (U_84 a0_215 52) (x1_215 + (40 : Int32)).toNatClampNeg) = 0 → ((¬ (V_87 a0_215 41) = (2 : Int32) → wb_M_valuePart_361 θ K V_87 U_84) ∧ ((V_87 a0_215 41) = (2 : Int32) → wb_M_valuePart_357 θ K V_87 U_84)))))))) ∧ (¬ ((2 : Int32) * (V (U a0_215 52) (x1_215 + (34 : Int32)).toNatClampNeg)) ≤ x3_215 → vp_in ((x1_215 + (36 : Int32)) + x3_215) n_79 ∧ ((¬ (V (U a0_215 52) ((x1_215 + (36 : Int32)) + x3_215).toNatClampNeg) = 0 → ∀ y_97 : Int32, y_97 = x3_215 + (1 : Int32) → kb215 x2_215 y_97 V U) ∧ ((V (U a0_215 52) ((x1_215 + (36 : Int32)) + x3_215).toNatClampNeg) = 0 → wp_M_read θ a0_215 (2 : Int32) V U (fun r_100 V_98 U_99 => (U_99 a0_215 52) ≠ 0 ∧ ∃ n_102, isA θ (U_99 a0_215 52) 0 n_102 ∧ vp_in ((x1_215 + (36 : Int32)) + x3_215) n_102 ∧ ∀ V_105 : VT, V_105 = up2 V_98 (U_99 a0_215 52) ((x1_215 + (36 : Int32)) + x3_215).toNatClampNeg r_100 → ((x2_215 = 0 → wb_M_valuePart_311 θ a0_215 x1_215 x3_215 kb215 K V_105 U_99) ∧ (¬ x2_215 = 0 → (((V_105 a0_215 44) ≤ r_100 → wb_M_valuePart_311 θ a0_215 x1_215 x3_215 kb215 K V_105 U_99) ∧ (¬ (V_105 a0_215 44) ≤ r_100 → (U_99 a0_215 49) ≠ 0 ∧ ∃ n_109, isA θ (U_99 a0_215 49) 1 n_109 ∧ vp_in r_100 n_109 ∧ (((V_105 (U_99 a0_215 49) r_100.toNatClampNeg) = 0 → wb_M_valuePart_311 θ a0_215 x1_215 x3_215 kb215 K V_105 U_99) ∧ (¬ (V_105 (U_99 a0_215 49) r_100.toNatClampNeg) = 0 → vp_in (x1_215 + (33 : Int32)) n_102 ∧ (U_99 a0_215 45) ≠ 0 ∧ ∃ n_115, isA θ (U_99 a0_215 45) 0 n_115 ∧ vp_in r_100 n_115 ∧ ¬ (V_105 (U_99 a0_215 45) r_100.toNatClampNeg) = 0 ∧ ((¬ ((V_105 (U_99 a0_215 52) (x1_215 + (33 : Int32)).toNatClampNeg) - (V_105 (U_99 a0_215 52) (x1_215 + (33 : Int32)).toNatClampNeg) / (V_105 (U_99 a0_215 45) r_100.toNatClampNeg) * (V_105 (U_99 a0_215 45) r_100.toNatClampNeg)) = 0 → wb_M_valuePart_311 θ a0_215 x1_215 x3_215 kb215 K V_105 U_99) ∧ (((V_105 (U_99 a0_215 52) (x1_215 + (33 : Int32)).toNatClampNeg) - (V_105 (U_99 a0_215 52) (x1_215 + (33 : Int32)).toNatClampNeg) / (V_105 (U_99 a0_215 45) r_100.toNatClampNeg) * (V_105 (U_99 a0_215 45) r_100.toNatClampNeg)) = 0 → wb_M_valuePart_312 θ a0_215 x1_215 x3_215 (1 : Int32) kb215 K V_105 U_99)))))))))))))
def wl_M_valuePart_215 (θ : TH) (a0_215 : Nat) (x1_215 : Int32) (K : Int32 → VT → UT → Prop) : Nat → Int32 → Int32 → VT → UT → Prop
  | 0, _, _, _, _ => False
  | n + 1, x2_215, x3_215, V, U => bl_M_valuePart_215 θ a0_215 x1_215 K (wl_M_valuePart_215 θ a0_215 x1_215 K n) x2_215 x3_215 V U
def bl_M_valuePart_147 (θ : TH) (a0_147 : Nat) (x1_147 : Int32) (x2_147 : Int32) (K : Int32 → VT → UT → Prop) (kb147 : Int32 → VT → UT → Prop) (x3_147 : Int32) (V : VT) (U : UT) : Prop := isO θ a0_147 12 ∧ (U a0_147 52) ≠ 0 ∧ ∃ n_62, isA θ (U a0_147 52) 0 n_62 ∧ vp_in (x1_147 + (34 : Int32)) n_62 ∧ (((V (U a0_147 52) (x1_147 + (34 : Int32)).toNatClampNeg) ≤ x3_147 → ∃ n, wl_M_valuePart_215 θ a0_147 x1_147 K n x2_147 (0 : Int32) V U) ∧ (¬ (V (U a0_147 52) (x1_147 + (34 : Int32)).toNatClampNeg) ≤ x3_147 → wp_M_read θ a0_147 (2 : Int32) V U (fun r_68 V_66 U_67 => (U_67 a0_147 52) ≠ 0 ∧ ∃ n_70, isA θ (U_67 a0_147 52) 0 n_70 ∧ vp_in ((x1_147 + (36 : Int32)) + ((2 : Int32) * x3_147)) n_70 ∧ ∀ V_73 : VT, V_73 = up2 V_66 (U_67 a0_147 52) ((x1_147 + (36 : Int32)) + ((2 : Int32) * x3_147)).toNatClampNeg ((r_68 &&& (1 : Int32)) - (1 : Int32)) → vp_in (((x1_147 + (36 : Int32)) + ((2 : Int32) * x3_147)) + (1 : Int32)) n_70 ∧ ∀ V_75 : VT, V_75 = up2 V_73 (U_67 a0_147 52) (((x1_147 + (36 : Int32)) + ((2 : Int32) * x3_147)) + (1 : Int32)).toNatClampNeg ((r_68 >>> ((1 : Int32) &&& 31)) - (1 : Int32)) → ∀ y_76 : Int32, y_76 = x3_147 + (1 : Int32) → kb147 y_76 V_75 U_67)))
def wl_M_valuePart_147 (θ : TH) (a0_147 : Nat) (x1_147 : Int32) (x2_147 : Int32) (K : Int32 → VT → UT → Prop) : Nat → Int32 → VT → UT → Prop
  | 0, _, _, _ => False
  | n + 1, x3_147, V, U => bl_M_valuePart_147 θ a0_147 x1_147 x2_147 K (wl_M_valuePart_147 θ a0_147 x1_147 x2_147 K n) x3_147 V U
def wb_M_valuePart_143 (θ : TH) (a0_143 : Nat) (x1_143 : Int32) (K : Int32 → VT → UT → Prop) (V : VT) (U : UT) : Prop := ∃ n, wl_M_valuePart_147 θ a0_143 x1_143 (0 : Int32) K n (0 : Int32) V U
def wp_M_valuePart (θ : TH) (a0 : Nat) (x1 : Int32) (V : VT) (U : UT) (K : Int32 → VT → UT → Prop) : Prop := isO θ a0 12 ∧ (U a0 52) ≠ 0 ∧ wp_M_read θ a0 (2 : Int32) V U (fun r_5 V_3 U_4 => ∃ n_6, isA θ (U a0 52) 0 n_6 ∧ vp_in (x1 + (30 : Int32)) n_6 ∧ ∀ V_9 : VT, V_9 = up2 V_3 (U a0 52) (x1 + (30 : Int32)).toNatClampNeg r_5 → (U_4 a0 52) ≠ 0 ∧ wp_M_read θ a0 (5 : Int32) V_9 U_4 (fun r_13 V_11 U_12 => ∃ n_14, isA θ (U_4 a0 52) 0 n_14 ∧ vp_in (x1 + (31 : Int32)) n_14 ∧ ∀ V_17 : VT, V_17 = up2 V_11 (U_4 a0 52) (x1 + (31 : Int32)).toNatClampNeg r_13 → (U_12 a0 52) ≠ 0 ∧ wp_M_read θ a0 (6 : Int32) V_17 U_12 (fun r_21 V_19 U_20 => ∃ n_22, isA θ (U_12 a0 52) 0 n_22 ∧ vp_in (x1 + (32 : Int32)) n_22 ∧ ∀ V_25 : VT, V_25 = up2 V_19 (U_12 a0 52) (x1 + (32 : Int32)).toNatClampNeg r_21 → (U_20 a0 52) ≠ 0 ∧ wp_M_read θ a0 (3 : Int32) V_25 U_20 (fun r_29 V_27 U_28 => ∃ n_30, isA θ (U_20 a0 52) 0 n_30 ∧ vp_in (x1 + (33 : Int32)) n_30 ∧ ∀ V_33 : VT, V_33 = up2 V_27 (U_20 a0 52) (x1 + (33 : Int32)).toNatClampNeg (r_29 + (1 : Int32)) → (U_28 a0 52) ≠ 0 ∧ wp_M_read θ a0 (1 : Int32) V_33 U_28 (fun r_37 V_35 U_36 => ∃ n_38, isA θ (U_28 a0 52) 0 n_38 ∧ vp_in (x1 + (34 : Int32)) n_38 ∧ ∀ V_41 : VT, V_41 = up2 V_35 (U_28 a0 52) (x1 + (34 : Int32)).toNatClampNeg (r_37 + (1 : Int32)) → (U_36 a0 52) ≠ 0 ∧ wp_M_read θ a0 (2 : Int32) V_41 U_36 (fun r_45 V_43 U_44 => ∃ n_46, isA θ (U_36 a0 52) 0 n_46 ∧ vp_in (x1 + (35 : Int32)) n_46 ∧ ∀ V_49 : VT, V_49 = up2 V_43 (U_36 a0 52) (x1 + (35 : Int32)).toNatClampNeg r_45 → (U_44 a0 52) ≠ 0 ∧ ∃ n_51, isA θ (U_44 a0 52) 0 n_51 ∧ vp_in (x1 + (30 : Int32)) n_51 ∧ (((3 : Int32) ≤ (V_49 (U_44 a0 52) (x1 + (30 : Int32)).toNatClampNeg) → wb_M_valuePart_143 θ a0 x1 K V_49 U_44) ∧ (¬ (3 : Int32) ≤ (V_49 (U_44 a0 52) (x1 + (30 : Int32)).toNatClampNeg) → vp_in (x1 + (31 : Int32)) n_51 ∧ vp_in (x1 + (32 : Int32)) n_51 ∧ (((V_49 (U_44 a0 52) (x1 + (32 : Int32)).toNatClampNeg) < (V_49 (U_44 a0 52) (x1 + (31 : Int32)).toNatClampNeg) → wb_M_valuePart_143 θ a0 x1 K V_49 U_44) ∧ (¬ (V_49 (U_44 a0 52) (x1 + (32 : Int32)).toNatClampNeg) < (V_49 (U_44 a0 52) (x1 + (31 : Int32)).toNatClampNeg) → vp_in (x1 + (35 : Int32)) n_51 ∧ (((V_49 a0 44) ≤ (V_49 (U_44 a0 52) (x1 + (35 : Int32)).toNatClampNeg) → wb_M_valuePart_143 θ a0 x1 K V_49 U_44) ∧ (¬ (V_49 a0 44) ≤ (V_49 (U_44 a0 52) (x1 + (35 : Int32)).toNatClampNeg) → ∃ n, wl_M_valuePart_147 θ a0 x1 (1 : Int32) K n (0 : Int32) V_49 U_44))))))))))))
set_option maxRecDepth 100000 in
set_option maxHeartbeats 4000000 in
theorem c_M_valuePart (l : Launch) (θ : TH) (a0 : Nat) (x1 : Int32) (V : VT) (U : UT) (K : Int32 → VT → UT → Prop) (hw : wp_M_valuePart θ a0 x1 V U K) : CMi l yM_valuePart kM_valuePart 5 (some .boolean) rmM_valuePart θ [.ref a0, .int x1] V U K := by
  refine g_met nRM (by decide +kernel) rfl (Nat.le_of_ble_eq_true rfl) (fun p e s m args below meth c ls hC hr hlk hwo hl => ?_)
  have hx := hC.1
  have hb := hC.2.1
  have hS : Sx θ s s.heap [] := va_S.rf
  have hl : lv_has ls 5 [(0, .ref a0), (1, .int x1)] := hl
  have J361 : ∀ (V : VT) (U : UT) (H : Heap) (locs : List Loc) (ls : Array Slot), wb_M_valuePart_361 θ K V U → wo θ V U H → Sx θ s H locs → lv_has ls 5 [] → W p l e rmM_valuePart s m args below meth c H locs 0 0 (MQ below (QI θ K) args s 0 0 (aT θ)) (F0 m 361 ls []) := by
    intro V U H locs ls hw hwo hS hl
    unfold wb_M_valuePart_361 at hw
    refine lv_iconst (v := 0) hx hb dM_valuePart_361 (by decide) ?_
    exact g_zret hC hr hlk (Or.inl rfl) hw hwo hS dM_valuePart_362
  have J357 : ∀ (V : VT) (U : UT) (H : Heap) (locs : List Loc) (ls : Array Slot), wb_M_valuePart_357 θ K V U → wo θ V U H → Sx θ s H locs → lv_has ls 5 [] → W p l e rmM_valuePart s m args below meth c H locs 0 0 (MQ below (QI θ K) args s 0 0 (aT θ)) (F0 m 357 ls []) := by
    intro V U H locs ls hw hwo hS hl
    unfold wb_M_valuePart_357 at hw
    refine lv_iconst (v := 1) hx hb dM_valuePart_357 (by decide) ?_
    refine lv_goto (tgt := 362) hx hb dM_valuePart_358 (by decide) ?_
    exact g_zret hC hr hlk (Or.inr rfl) hw hwo hS dM_valuePart_362
  have L215 : ∀ (a0_215 : Nat) (x1_215 : Int32) (n215 : Nat) (x2_215 : Int32) (x3_215 : Int32) (V : VT) (U : UT) (H : Heap) (locs : List Loc) (ls : Array Slot), wl_M_valuePart_215 θ a0_215 x1_215 K n215 x2_215 x3_215 V U → wo θ V U H → Sx θ s H locs → lv_has ls 5 [(0, .ref a0_215), (1, .int x1_215), (2, .int x2_215), (3, .int x3_215)] → W p l e rmM_valuePart s m args below meth c H locs 0 0 (MQ below (QI θ K) args s 0 0 (aT θ)) (F0 m 215 ls []) := by
    intro a0_215 x1_215 n215
    induction n215 with
    | zero => intro x2_215 x3_215 V U H locs ls hw hwo hS hl; exact (show False from hw).elim
    | succ n215 ih215 =>
      have J312 : ∀ (x3_312 : Int32) (z0_312 : Int32) (V : VT) (U : UT) (H : Heap) (locs : List Loc) (ls : Array Slot), wb_M_valuePart_312 θ a0_215 x1_215 x3_312 z0_312 (wl_M_valuePart_215 θ a0_215 x1_215 K n215) K V U → wo θ V U H → Sx θ s H locs → lv_has ls 5 [(0, .ref a0_215), (1, .int x1_215), (3, .int x3_312)] → W p l e rmM_valuePart s m args below meth c H locs 0 0 (MQ below (QI θ K) args s 0 0 (aT θ)) (F0 m 312 ls [.int z0_312]) := by
        intro x3_312 z0_312 V U H locs ls hw hwo hS hl
        unfold wb_M_valuePart_312 at hw
        refine lv_istore_n (i := 2) (lv' := [(2, .int z0_312), (0, .ref a0_215), (1, .int x1_215), (3, .int x3_312)]) hx hb dM_valuePart_312 rfl hl (by decide) rfl (fun ls hl => ?_)
        obtain ⟨y_120, ey_120⟩ : ∃ z : Int32, z = x3_312 + (1 : Int32) := ⟨_, rfl⟩
        replace hw := hw y_120 ey_120
        refine lv_iinc (k := 3) (v := y_120) (lv' := [(3, .int y_120), (2, .int z0_312), (0, .ref a0_215), (1, .int x1_215)]) hx hb dM_valuePart_313 hl rfl (by rw [ey_120]; rfl) (by decide) rfl (fun ls hl => ?_)
        refine lv_goto (tgt := 215) hx hb dM_valuePart_316 (by decide) ?_
        exact ih215 _ _ _ _ _ _ _ hw hwo hS (lv_sub hl [2, 3, 1, 0] rfl)
      have J311 : ∀ (x3_311 : Int32) (V : VT) (U : UT) (H : Heap) (locs : List Loc) (ls : Array Slot), wb_M_valuePart_311 θ a0_215 x1_215 x3_311 (wl_M_valuePart_215 θ a0_215 x1_215 K n215) K V U → wo θ V U H → Sx θ s H locs → lv_has ls 5 [(0, .ref a0_215), (1, .int x1_215), (3, .int x3_311)] → W p l e rmM_valuePart s m args below meth c H locs 0 0 (MQ below (QI θ K) args s 0 0 (aT θ)) (F0 m 311 ls []) := by
        intro x3_311 V U H locs ls hw hwo hS hl
        unfold wb_M_valuePart_311 at hw
        refine lv_iconst (v := 0) hx hb dM_valuePart_311 (by decide) ?_
        exact J312 _ _ _ _ _ _ _ hw hwo hS (lv_sub hl [0, 1, 2] rfl)
      intro x2_215 x3_215 V U H locs ls hw hwo hS hl
      replace hw : bl_M_valuePart_215 θ a0_215 x1_215 K (wl_M_valuePart_215 θ a0_215 x1_215 K n215) x2_215 x3_215 V U := hw
      unfold bl_M_valuePart_215 at hw
      refine lv_iload_n hx hb dM_valuePart_215 rfl (lv_at hl 3 rfl) ?_
      refine lv_iconst (v := 2) hx hb dM_valuePart_216 (by decide) ?_
      refine lv_aload_n hx hb dM_valuePart_217 rfl (lv_at hl 0 rfl) ?_
      obtain ⟨ho_77, hw⟩ := hw
      obtain ⟨hz_78, hw⟩ := hw
      refine g_getR hC fkM_101 rfl hwo ho_77 hz_78 dM_valuePart_218 ?_
      refine lv_iload_n hx hb dM_valuePart_221 rfl (lv_at hl 1 rfl) ?_
      refine lv_bipush (v := 34) hx hb dM_valuePart_222 (by decide) ?_
      refine lv_iadd hx hb dM_valuePart_224 ?_
      obtain ⟨n_79, ha_80, hw⟩ := hw
      obtain ⟨hi_81, hw⟩ := hw
      refine g_iald hC hwo ha_80 hi_81 dM_valuePart_225 ?_
      refine lv_imul hx hb dM_valuePart_226 ?_
      refine lv_icmp_ge (tgt := 319) hx hb dM_valuePart_227 (by decide) (fun hc_82 => ?_) (fun hc_82 => ?_)
      · replace hw := hw.1 hc_82
        refine lv_aload_n hx hb dM_valuePart_319 rfl (lv_at hl 0 rfl) ?_
        refine g_getR hC fkM_101 rfl hwo ho_77 hz_78 dM_valuePart_320 ?_
        refine lv_iload_n hx hb dM_valuePart_323 rfl (lv_at hl 1 rfl) ?_
        refine lv_bipush (v := 40) hx hb dM_valuePart_324 (by decide) ?_
        refine lv_iadd hx hb dM_valuePart_326 ?_
        refine lv_aload_n hx hb dM_valuePart_327 rfl (lv_at hl 0 rfl) ?_
        refine lv_iconst (v := 1) hx hb dM_valuePart_328 (by decide) ?_
        refine g_Vi (rest := [.int (x1_215 + (40 : Int32)), .ref (U a0_215 52)]) hC (c_M_read l θ _ _ _ _ _ hw) mi_M_read mlM_249 mv_M_read ci_12 ho_77 hwo hS ⟨rfl, rfl⟩ ⟨by decide, by decide⟩ rfl hl.1 rfl (Nat.le_of_ble_eq_true rfl) dM_valuePart_329 (fun r_85 V_83 U_84 hw H locs hwo hS => ?_)
        obtain ⟨hi_86, hw⟩ := hw
        refine g_iast hC hwo hS ha_80 hi_86 dM_valuePart_332 (fun V_87 eV_87 H locs hwo hS => ?_)
        replace hw := hw V_87 eV_87
        refine lv_iload_n hx hb dM_valuePart_333 rfl (lv_at hl 2 rfl) ?_
        refine lv_if_eq (tgt := 361) hx hb dM_valuePart_334 (by decide) (fun hc_88 => ?_) (fun hc_88 => ?_)
        · replace hw := hw.1 hc_88
          exact J361 _ _ _ _ _ hw hwo hS (lv_sub hl [] rfl)
        · replace hw := hw.2 hc_88
          refine lv_aload_n hx hb dM_valuePart_337 rfl (lv_at hl 0 rfl) ?_
          obtain ⟨hz_89, hw⟩ := hw
          refine g_getR hC fkM_101 rfl hwo ho_77 hz_89 dM_valuePart_338 ?_
          refine lv_iload_n hx hb dM_valuePart_341 rfl (lv_at hl 1 rfl) ?_
          refine lv_bipush (v := 40) hx hb dM_valuePart_342 (by decide) ?_
          refine lv_iadd hx hb dM_valuePart_344 ?_
          obtain ⟨n_90, ha_91, hw⟩ := hw
          obtain ⟨hi_92, hw⟩ := hw
          refine g_iald hC hwo ha_91 hi_92 dM_valuePart_345 ?_
          refine lv_if_eq (tgt := 357) hx hb dM_valuePart_346 (by decide) (fun hc_93 => ?_) (fun hc_93 => ?_)
          · replace hw := hw.1 hc_93
            exact J357 _ _ _ _ _ hw hwo hS (lv_sub hl [] rfl)
          · replace hw := hw.2 hc_93
            refine lv_aload_n hx hb dM_valuePart_349 rfl (lv_at hl 0 rfl) ?_
            refine g_getI hC fkM_265 rfl hwo ho_77 dM_valuePart_350 ?_
            refine lv_iconst (v := 2) hx hb dM_valuePart_353 (by decide) ?_
            refine lv_icmp_ne (tgt := 361) hx hb dM_valuePart_354 (by decide) (fun hc_94 => ?_) (fun hc_94 => ?_)
            · replace hw := hw.1 hc_94
              exact J361 _ _ _ _ _ hw hwo hS (lv_sub hl [] rfl)
            · replace hw := hw.2 hc_94
              exact J357 _ _ _ _ _ hw hwo hS (lv_sub hl [] rfl)
      · replace hw := hw.2 hc_82
        refine lv_aload_n hx hb dM_valuePart_230 rfl (lv_at hl 0 rfl) ?_
        refine g_getR hC fkM_101 rfl hwo ho_77 hz_78 dM_valuePart_231 ?_
        refine lv_iload_n hx hb dM_valuePart_234 rfl (lv_at hl 1 rfl) ?_
        refine lv_bipush (v := 36) hx hb dM_valuePart_235 (by decide) ?_
        refine lv_iadd hx hb dM_valuePart_237 ?_
        refine lv_iload_n hx hb dM_valuePart_238 rfl (lv_at hl 3 rfl) ?_
        refine lv_iadd hx hb dM_valuePart_239 ?_
        obtain ⟨hi_95, hw⟩ := hw
        refine g_iald hC hwo ha_80 hi_95 dM_valuePart_240 ?_
        refine lv_if_ne (tgt := 313) hx hb dM_valuePart_241 (by decide) (fun hc_96 => ?_) (fun hc_96 => ?_)
        · replace hw := hw.1 hc_96
          obtain ⟨y_97, ey_97⟩ : ∃ z : Int32, z = x3_215 + (1 : Int32) := ⟨_, rfl⟩
          replace hw := hw y_97 ey_97
          refine lv_iinc (k := 3) (v := y_97) (lv' := [(3, .int y_97), (0, .ref a0_215), (1, .int x1_215), (2, .int x2_215)]) hx hb dM_valuePart_313 hl rfl (by rw [ey_97]; rfl) (by decide) rfl (fun ls hl => ?_)
          refine lv_goto (tgt := 215) hx hb dM_valuePart_316 (by decide) ?_
          exact ih215 _ _ _ _ _ _ _ hw hwo hS (lv_sub hl [1, 2, 3, 0] rfl)
        · replace hw := hw.2 hc_96
          refine lv_aload_n hx hb dM_valuePart_244 rfl (lv_at hl 0 rfl) ?_
          refine lv_iconst (v := 2) hx hb dM_valuePart_245 (by decide) ?_
          refine g_Vi (rest := []) hC (c_M_read l θ _ _ _ _ _ hw) mi_M_read mlM_249 mv_M_read ci_12 ho_77 hwo hS ⟨rfl, rfl⟩ ⟨by decide, by decide⟩ rfl hl.1 rfl (Nat.le_of_ble_eq_true rfl) dM_valuePart_246 (fun r_100 V_98 U_99 hw H locs hwo hS => ?_)
          refine lv_istore (i := 4) (lv' := [(4, .int r_100), (0, .ref a0_215), (1, .int x1_215), (2, .int x2_215), (3, .int x3_215)]) hx hb dM_valuePart_249 hl (by decide) rfl (fun ls hl => ?_)
          refine lv_aload_n hx hb dM_valuePart_251 rfl (lv_at hl 1 rfl) ?_
          obtain ⟨hz_101, hw⟩ := hw
          refine g_getR hC fkM_101 rfl hwo ho_77 hz_101 dM_valuePart_252 ?_
          refine lv_iload_n hx hb dM_valuePart_255 rfl (lv_at hl 2 rfl) ?_
          refine lv_bipush (v := 36) hx hb dM_valuePart_256 (by decide) ?_
          refine lv_iadd hx hb dM_valuePart_258 ?_
          refine lv_iload_n hx hb dM_valuePart_259 rfl (lv_at hl 4 rfl) ?_
          refine lv_iadd hx hb dM_valuePart_260 ?_
          refine lv_iload hx hb dM_valuePart_261 (lv_at hl 0 rfl) ?_
          obtain ⟨n_102, ha_103, hw⟩ := hw
          obtain ⟨hi_104, hw⟩ := hw
          refine g_iast hC hwo hS ha_103 hi_104 dM_valuePart_263 (fun V_105 eV_105 H locs hwo hS => ?_)
          replace hw := hw V_105 eV_105
          refine lv_iload_n hx hb dM_valuePart_264 rfl (lv_at hl 3 rfl) ?_
          refine lv_if_eq (tgt := 311) hx hb dM_valuePart_265 (by decide) (fun hc_106 => ?_) (fun hc_106 => ?_)
          · replace hw := hw.1 hc_106
            exact J311 _ _ _ _ _ _ hw hwo hS (lv_sub hl [1, 2, 4] rfl)
          · replace hw := hw.2 hc_106
            refine lv_iload hx hb dM_valuePart_268 (lv_at hl 0 rfl) ?_
            refine lv_aload_n hx hb dM_valuePart_270 rfl (lv_at hl 1 rfl) ?_
            refine g_getI hC fkM_280 rfl hwo ho_77 dM_valuePart_271 ?_
            refine lv_icmp_ge (tgt := 311) hx hb dM_valuePart_274 (by decide) (fun hc_107 => ?_) (fun hc_107 => ?_)
            · replace hw := hw.1 hc_107
              exact J311 _ _ _ _ _ _ hw hwo hS (lv_sub hl [1, 2, 4] rfl)
            · replace hw := hw.2 hc_107
              refine lv_aload_n hx hb dM_valuePart_277 rfl (lv_at hl 1 rfl) ?_
              obtain ⟨hz_108, hw⟩ := hw
              refine g_getR hC fkM_92 rfl hwo ho_77 hz_108 dM_valuePart_278 ?_
              refine lv_iload hx hb dM_valuePart_281 (lv_at hl 0 rfl) ?_
              obtain ⟨n_109, ha_110, hw⟩ := hw
              obtain ⟨hi_111, hw⟩ := hw
              refine g_zald hC hwo ha_110 hi_111 dM_valuePart_283 ?_
              refine lv_if_eq (tgt := 311) hx hb dM_valuePart_284 (by decide) (fun hc_112 => ?_) (fun hc_112 => ?_)
              · replace hw := hw.1 hc_112
                exact J311 _ _ _ _ _ _ hw hwo hS (lv_sub hl [1, 2, 4] rfl)
              · replace hw := hw.2 hc_112
                refine lv_aload_n hx hb dM_valuePart_287 rfl (lv_at hl 1 rfl) ?_
                refine g_getR hC fkM_101 rfl hwo ho_77 hz_101 dM_valuePart_288 ?_
                refine lv_iload_n hx hb dM_valuePart_291 rfl (lv_at hl 2 rfl) ?_
                refine lv_bipush (v := 33) hx hb dM_valuePart_292 (by decide) ?_
                refine lv_iadd hx hb dM_valuePart_294 ?_
                obtain ⟨hi_113, hw⟩ := hw
                refine g_iald hC hwo ha_103 hi_113 dM_valuePart_295 ?_
                refine lv_aload_n hx hb dM_valuePart_296 rfl (lv_at hl 1 rfl) ?_
                obtain ⟨hz_114, hw⟩ := hw
                refine g_getR hC fkM_80 rfl hwo ho_77 hz_114 dM_valuePart_297 ?_
                refine lv_iload hx hb dM_valuePart_300 (lv_at hl 0 rfl) ?_
                obtain ⟨n_115, ha_116, hw⟩ := hw
                obtain ⟨hi_117, hw⟩ := hw
                refine g_iald hC hwo ha_116 hi_117 dM_valuePart_302 ?_
                obtain ⟨hd_118, hw⟩ := hw
                refine lv_irem hx hb dM_valuePart_303 hd_118 ?_
                refine lv_if_ne (tgt := 311) hx hb dM_valuePart_304 (by decide) (fun hc_119 => ?_) (fun hc_119 => ?_)
                · replace hw := hw.1 hc_119
                  exact J311 _ _ _ _ _ _ hw hwo hS (lv_sub hl [1, 2, 4] rfl)
                · replace hw := hw.2 hc_119
                  refine lv_iconst (v := 1) hx hb dM_valuePart_307 (by decide) ?_
                  refine lv_goto (tgt := 312) hx hb dM_valuePart_308 (by decide) ?_
                  exact J312 _ _ _ _ _ _ _ hw hwo hS (lv_sub hl [1, 2, 4] rfl)
  have L147 : ∀ (a0_147 : Nat) (x1_147 : Int32) (x2_147 : Int32) (n147 : Nat) (x3_147 : Int32) (V : VT) (U : UT) (H : Heap) (locs : List Loc) (ls : Array Slot), wl_M_valuePart_147 θ a0_147 x1_147 x2_147 K n147 x3_147 V U → wo θ V U H → Sx θ s H locs → lv_has ls 5 [(0, .ref a0_147), (1, .int x1_147), (2, .int x2_147), (3, .int x3_147)] → W p l e rmM_valuePart s m args below meth c H locs 0 0 (MQ below (QI θ K) args s 0 0 (aT θ)) (F0 m 147 ls []) := by
    intro a0_147 x1_147 x2_147 n147
    induction n147 with
    | zero => intro x3_147 V U H locs ls hw hwo hS hl; exact (show False from hw).elim
    | succ n147 ih147 =>
      intro x3_147 V U H locs ls hw hwo hS hl
      replace hw : bl_M_valuePart_147 θ a0_147 x1_147 x2_147 K (wl_M_valuePart_147 θ a0_147 x1_147 x2_147 K n147) x3_147 V U := hw
      unfold bl_M_valuePart_147 at hw
      refine lv_iload_n hx hb dM_valuePart_147 rfl (lv_at hl 3 rfl) ?_
      refine lv_aload_n hx hb dM_valuePart_148 rfl (lv_at hl 0 rfl) ?_
      obtain ⟨ho_60, hw⟩ := hw
      obtain ⟨hz_61, hw⟩ := hw
      refine g_getR hC fkM_101 rfl hwo ho_60 hz_61 dM_valuePart_149 ?_
      refine lv_iload_n hx hb dM_valuePart_152 rfl (lv_at hl 1 rfl) ?_
      refine lv_bipush (v := 34) hx hb dM_valuePart_153 (by decide) ?_
      refine lv_iadd hx hb dM_valuePart_155 ?_
      obtain ⟨n_62, ha_63, hw⟩ := hw
      obtain ⟨hi_64, hw⟩ := hw
      refine g_iald hC hwo ha_63 hi_64 dM_valuePart_156 ?_
      refine lv_icmp_ge (tgt := 213) hx hb dM_valuePart_157 (by decide) (fun hc_65 => ?_) (fun hc_65 => ?_)
      · replace hw := hw.1 hc_65
        refine lv_iconst (v := 0) hx hb dM_valuePart_213 (by decide) ?_
        refine lv_istore_n (i := 3) (lv' := [(3, .int (0 : Int32)), (0, .ref a0_147), (1, .int x1_147), (2, .int x2_147)]) hx hb dM_valuePart_214 rfl hl (by decide) rfl (fun ls hl => ?_)
        obtain ⟨n, hw⟩ := hw
        exact L215 _ _ n _ _ _ _ _ _ _ hw hwo hS (lv_sub hl [1, 2, 3, 0] rfl)
      · replace hw := hw.2 hc_65
        refine lv_aload_n hx hb dM_valuePart_160 rfl (lv_at hl 0 rfl) ?_
        refine lv_iconst (v := 2) hx hb dM_valuePart_161 (by decide) ?_
        refine g_Vi (rest := []) hC (c_M_read l θ _ _ _ _ _ hw) mi_M_read mlM_249 mv_M_read ci_12 ho_60 hwo hS ⟨rfl, rfl⟩ ⟨by decide, by decide⟩ rfl hl.1 rfl (Nat.le_of_ble_eq_true rfl) dM_valuePart_162 (fun r_68 V_66 U_67 hw H locs hwo hS => ?_)
        refine lv_istore (i := 4) (lv' := [(4, .int r_68), (0, .ref a0_147), (1, .int x1_147), (2, .int x2_147), (3, .int x3_147)]) hx hb dM_valuePart_165 hl (by decide) rfl (fun ls hl => ?_)
        refine lv_aload_n hx hb dM_valuePart_167 rfl (lv_at hl 1 rfl) ?_
        obtain ⟨hz_69, hw⟩ := hw
        refine g_getR hC fkM_101 rfl hwo ho_60 hz_69 dM_valuePart_168 ?_
        refine lv_iload_n hx hb dM_valuePart_171 rfl (lv_at hl 2 rfl) ?_
        refine lv_bipush (v := 36) hx hb dM_valuePart_172 (by decide) ?_
        refine lv_iadd hx hb dM_valuePart_174 ?_
        refine lv_iconst (v := 2) hx hb dM_valuePart_175 (by decide) ?_
        refine lv_iload_n hx hb dM_valuePart_176 rfl (lv_at hl 4 rfl) ?_
        refine lv_imul hx hb dM_valuePart_177 ?_
        refine lv_iadd hx hb dM_valuePart_178 ?_
        refine lv_iload hx hb dM_valuePart_179 (lv_at hl 0 rfl) ?_
        refine lv_iconst (v := 1) hx hb dM_valuePart_181 (by decide) ?_
        refine lv_iand hx hb dM_valuePart_182 ?_
        refine lv_iconst (v := 1) hx hb dM_valuePart_183 (by decide) ?_
        refine lv_isub hx hb dM_valuePart_184 ?_
        obtain ⟨n_70, ha_71, hw⟩ := hw
        obtain ⟨hi_72, hw⟩ := hw
        refine g_iast hC hwo hS ha_71 hi_72 dM_valuePart_185 (fun V_73 eV_73 H locs hwo hS => ?_)
        replace hw := hw V_73 eV_73
        refine lv_aload_n hx hb dM_valuePart_186 rfl (lv_at hl 1 rfl) ?_
        refine g_getR hC fkM_101 rfl hwo ho_60 hz_69 dM_valuePart_187 ?_
        refine lv_iload_n hx hb dM_valuePart_190 rfl (lv_at hl 2 rfl) ?_
        refine lv_bipush (v := 36) hx hb dM_valuePart_191 (by decide) ?_
        refine lv_iadd hx hb dM_valuePart_193 ?_
        refine lv_iconst (v := 2) hx hb dM_valuePart_194 (by decide) ?_
        refine lv_iload_n hx hb dM_valuePart_195 rfl (lv_at hl 4 rfl) ?_
        refine lv_imul hx hb dM_valuePart_196 ?_
        refine lv_iadd hx hb dM_valuePart_197 ?_
        refine lv_iconst (v := 1) hx hb dM_valuePart_198 (by decide) ?_
        refine lv_iadd hx hb dM_valuePart_199 ?_
        refine lv_iload hx hb dM_valuePart_200 (lv_at hl 0 rfl) ?_
        refine lv_iconst (v := 1) hx hb dM_valuePart_202 (by decide) ?_
        refine lv_ishr hx hb dM_valuePart_203 ?_
        refine lv_iconst (v := 1) hx hb dM_valuePart_204 (by decide) ?_
        refine lv_isub hx hb dM_valuePart_205 ?_
        obtain ⟨hi_74, hw⟩ := hw
        refine g_iast hC hwo hS ha_71 hi_74 dM_valuePart_206 (fun V_75 eV_75 H locs hwo hS => ?_)
        replace hw := hw V_75 eV_75
        obtain ⟨y_76, ey_76⟩ : ∃ z : Int32, z = x3_147 + (1 : Int32) := ⟨_, rfl⟩
        replace hw := hw y_76 ey_76
        refine lv_iinc (k := 4) (v := y_76) (lv' := [(3, .int y_76), (4, .int r_68), (0, .ref a0_147), (1, .int x1_147), (2, .int x2_147)]) hx hb dM_valuePart_207 hl rfl (by rw [ey_76]; rfl) (by decide) rfl (fun ls hl => ?_)
        refine lv_goto (tgt := 147) hx hb dM_valuePart_210 (by decide) ?_
        exact ih147 _ _ _ _ _ _ hw hwo hS (lv_sub hl [2, 3, 4, 0] rfl)
  have J143 : ∀ (a0_143 : Nat) (x1_143 : Int32) (V : VT) (U : UT) (H : Heap) (locs : List Loc) (ls : Array Slot), wb_M_valuePart_143 θ a0_143 x1_143 K V U → wo θ V U H → Sx θ s H locs → lv_has ls 5 [(0, .ref a0_143), (1, .int x1_143)] → W p l e rmM_valuePart s m args below meth c H locs 0 0 (MQ below (QI θ K) args s 0 0 (aT θ)) (F0 m 143 ls []) := by
    intro a0_143 x1_143 V U H locs ls hw hwo hS hl
    unfold wb_M_valuePart_143 at hw
    refine lv_iconst (v := 0) hx hb dM_valuePart_143 (by decide) ?_
    refine lv_istore_n (i := 2) (lv' := [(2, .int (0 : Int32)), (0, .ref a0_143), (1, .int x1_143)]) hx hb dM_valuePart_144 rfl hl (by decide) rfl (fun ls hl => ?_)
    refine lv_iconst (v := 0) hx hb dM_valuePart_145 (by decide) ?_
    refine lv_istore_n (i := 3) (lv' := [(3, .int (0 : Int32)), (2, .int (0 : Int32)), (0, .ref a0_143), (1, .int x1_143)]) hx hb dM_valuePart_146 rfl hl (by decide) rfl (fun ls hl => ?_)
    obtain ⟨n, hw⟩ := hw
    exact L147 _ _ _ n _ _ _ _ _ _ hw hwo hS (lv_sub hl [2, 3, 1, 0] rfl)
  unfold wp_M_valuePart at hw
  refine lv_aload_n hx hb dM_valuePart_0 rfl (lv_at hl 0 rfl) ?_
  obtain ⟨ho_1, hw⟩ := hw
  obtain ⟨hz_2, hw⟩ := hw
  refine g_getR hC fkM_101 rfl hwo ho_1 hz_2 dM_valuePart_1 ?_
  refine lv_iload_n hx hb dM_valuePart_4 rfl (lv_at hl 1 rfl) ?_
  refine lv_bipush (v := 30) hx hb dM_valuePart_5 (by decide) ?_
  refine lv_iadd hx hb dM_valuePart_7 ?_
  refine lv_aload_n hx hb dM_valuePart_8 rfl (lv_at hl 0 rfl) ?_
  refine lv_iconst (v := 2) hx hb dM_valuePart_9 (by decide) ?_
  refine g_Vi (rest := [.int (x1 + (30 : Int32)), .ref (U a0 52)]) hC (c_M_read l θ _ _ _ _ _ hw) mi_M_read mlM_249 mv_M_read ci_12 ho_1 hwo hS ⟨rfl, rfl⟩ ⟨by decide, by decide⟩ rfl hl.1 rfl (Nat.le_of_ble_eq_true rfl) dM_valuePart_10 (fun r_5 V_3 U_4 hw H locs hwo hS => ?_)
  obtain ⟨n_6, ha_7, hw⟩ := hw
  obtain ⟨hi_8, hw⟩ := hw
  refine g_iast hC hwo hS ha_7 hi_8 dM_valuePart_13 (fun V_9 eV_9 H locs hwo hS => ?_)
  replace hw := hw V_9 eV_9
  refine lv_aload_n hx hb dM_valuePart_14 rfl (lv_at hl 0 rfl) ?_
  obtain ⟨hz_10, hw⟩ := hw
  refine g_getR hC fkM_101 rfl hwo ho_1 hz_10 dM_valuePart_15 ?_
  refine lv_iload_n hx hb dM_valuePart_18 rfl (lv_at hl 1 rfl) ?_
  refine lv_bipush (v := 31) hx hb dM_valuePart_19 (by decide) ?_
  refine lv_iadd hx hb dM_valuePart_21 ?_
  refine lv_aload_n hx hb dM_valuePart_22 rfl (lv_at hl 0 rfl) ?_
  refine lv_iconst (v := 5) hx hb dM_valuePart_23 (by decide) ?_
  refine g_Vi (rest := [.int (x1 + (31 : Int32)), .ref (U_4 a0 52)]) hC (c_M_read l θ _ _ _ _ _ hw) mi_M_read mlM_249 mv_M_read ci_12 ho_1 hwo hS ⟨rfl, rfl⟩ ⟨by decide, by decide⟩ rfl hl.1 rfl (Nat.le_of_ble_eq_true rfl) dM_valuePart_24 (fun r_13 V_11 U_12 hw H locs hwo hS => ?_)
  obtain ⟨n_14, ha_15, hw⟩ := hw
  obtain ⟨hi_16, hw⟩ := hw
  refine g_iast hC hwo hS ha_15 hi_16 dM_valuePart_27 (fun V_17 eV_17 H locs hwo hS => ?_)
  replace hw := hw V_17 eV_17
  refine lv_aload_n hx hb dM_valuePart_28 rfl (lv_at hl 0 rfl) ?_
  obtain ⟨hz_18, hw⟩ := hw
  refine g_getR hC fkM_101 rfl hwo ho_1 hz_18 dM_valuePart_29 ?_
  refine lv_iload_n hx hb dM_valuePart_32 rfl (lv_at hl 1 rfl) ?_
  refine lv_bipush (v := 32) hx hb dM_valuePart_33 (by decide) ?_
  refine lv_iadd hx hb dM_valuePart_35 ?_
  refine lv_aload_n hx hb dM_valuePart_36 rfl (lv_at hl 0 rfl) ?_
  refine lv_bipush (v := 6) hx hb dM_valuePart_37 (by decide) ?_
  refine g_Vi (rest := [.int (x1 + (32 : Int32)), .ref (U_12 a0 52)]) hC (c_M_read l θ _ _ _ _ _ hw) mi_M_read mlM_249 mv_M_read ci_12 ho_1 hwo hS ⟨rfl, rfl⟩ ⟨by decide, by decide⟩ rfl hl.1 rfl (Nat.le_of_ble_eq_true rfl) dM_valuePart_39 (fun r_21 V_19 U_20 hw H locs hwo hS => ?_)
  obtain ⟨n_22, ha_23, hw⟩ := hw
  obtain ⟨hi_24, hw⟩ := hw
  refine g_iast hC hwo hS ha_23 hi_24 dM_valuePart_42 (fun V_25 eV_25 H locs hwo hS => ?_)
  replace hw := hw V_25 eV_25
  refine lv_aload_n hx hb dM_valuePart_43 rfl (lv_at hl 0 rfl) ?_
  obtain ⟨hz_26, hw⟩ := hw
  refine g_getR hC fkM_101 rfl hwo ho_1 hz_26 dM_valuePart_44 ?_
  refine lv_iload_n hx hb dM_valuePart_47 rfl (lv_at hl 1 rfl) ?_
  refine lv_bipush (v := 33) hx hb dM_valuePart_48 (by decide) ?_
  refine lv_iadd hx hb dM_valuePart_50 ?_
  refine lv_aload_n hx hb dM_valuePart_51 rfl (lv_at hl 0 rfl) ?_
  refine lv_iconst (v := 3) hx hb dM_valuePart_52 (by decide) ?_
  refine g_Vi (rest := [.int (x1 + (33 : Int32)), .ref (U_20 a0 52)]) hC (c_M_read l θ _ _ _ _ _ hw) mi_M_read mlM_249 mv_M_read ci_12 ho_1 hwo hS ⟨rfl, rfl⟩ ⟨by decide, by decide⟩ rfl hl.1 rfl (Nat.le_of_ble_eq_true rfl) dM_valuePart_53 (fun r_29 V_27 U_28 hw H locs hwo hS => ?_)
  refine lv_iconst (v := 1) hx hb dM_valuePart_56 (by decide) ?_
  refine lv_iadd hx hb dM_valuePart_57 ?_
  obtain ⟨n_30, ha_31, hw⟩ := hw
  obtain ⟨hi_32, hw⟩ := hw
  refine g_iast hC hwo hS ha_31 hi_32 dM_valuePart_58 (fun V_33 eV_33 H locs hwo hS => ?_)
  replace hw := hw V_33 eV_33
  refine lv_aload_n hx hb dM_valuePart_59 rfl (lv_at hl 0 rfl) ?_
  obtain ⟨hz_34, hw⟩ := hw
  refine g_getR hC fkM_101 rfl hwo ho_1 hz_34 dM_valuePart_60 ?_
  refine lv_iload_n hx hb dM_valuePart_63 rfl (lv_at hl 1 rfl) ?_
  refine lv_bipush (v := 34) hx hb dM_valuePart_64 (by decide) ?_
  refine lv_iadd hx hb dM_valuePart_66 ?_
  refine lv_aload_n hx hb dM_valuePart_67 rfl (lv_at hl 0 rfl) ?_
  refine lv_iconst (v := 1) hx hb dM_valuePart_68 (by decide) ?_
  refine g_Vi (rest := [.int (x1 + (34 : Int32)), .ref (U_28 a0 52)]) hC (c_M_read l θ _ _ _ _ _ hw) mi_M_read mlM_249 mv_M_read ci_12 ho_1 hwo hS ⟨rfl, rfl⟩ ⟨by decide, by decide⟩ rfl hl.1 rfl (Nat.le_of_ble_eq_true rfl) dM_valuePart_69 (fun r_37 V_35 U_36 hw H locs hwo hS => ?_)
  refine lv_iconst (v := 1) hx hb dM_valuePart_72 (by decide) ?_
  refine lv_iadd hx hb dM_valuePart_73 ?_
  obtain ⟨n_38, ha_39, hw⟩ := hw
  obtain ⟨hi_40, hw⟩ := hw
  refine g_iast hC hwo hS ha_39 hi_40 dM_valuePart_74 (fun V_41 eV_41 H locs hwo hS => ?_)
  replace hw := hw V_41 eV_41
  refine lv_aload_n hx hb dM_valuePart_75 rfl (lv_at hl 0 rfl) ?_
  obtain ⟨hz_42, hw⟩ := hw
  refine g_getR hC fkM_101 rfl hwo ho_1 hz_42 dM_valuePart_76 ?_
  refine lv_iload_n hx hb dM_valuePart_79 rfl (lv_at hl 1 rfl) ?_
  refine lv_bipush (v := 35) hx hb dM_valuePart_80 (by decide) ?_
  refine lv_iadd hx hb dM_valuePart_82 ?_
  refine lv_aload_n hx hb dM_valuePart_83 rfl (lv_at hl 0 rfl) ?_
  refine lv_iconst (v := 2) hx hb dM_valuePart_84 (by decide) ?_
  refine g_Vi (rest := [.int (x1 + (35 : Int32)), .ref (U_36 a0 52)]) hC (c_M_read l θ _ _ _ _ _ hw) mi_M_read mlM_249 mv_M_read ci_12 ho_1 hwo hS ⟨rfl, rfl⟩ ⟨by decide, by decide⟩ rfl hl.1 rfl (Nat.le_of_ble_eq_true rfl) dM_valuePart_85 (fun r_45 V_43 U_44 hw H locs hwo hS => ?_)
  obtain ⟨n_46, ha_47, hw⟩ := hw
  obtain ⟨hi_48, hw⟩ := hw
  refine g_iast hC hwo hS ha_47 hi_48 dM_valuePart_88 (fun V_49 eV_49 H locs hwo hS => ?_)
  replace hw := hw V_49 eV_49
  refine lv_aload_n hx hb dM_valuePart_89 rfl (lv_at hl 0 rfl) ?_
  obtain ⟨hz_50, hw⟩ := hw
  refine g_getR hC fkM_101 rfl hwo ho_1 hz_50 dM_valuePart_90 ?_
  refine lv_iload_n hx hb dM_valuePart_93 rfl (lv_at hl 1 rfl) ?_
  refine lv_bipush (v := 30) hx hb dM_valuePart_94 (by decide) ?_
  refine lv_iadd hx hb dM_valuePart_96 ?_
  obtain ⟨n_51, ha_52, hw⟩ := hw
  obtain ⟨hi_53, hw⟩ := hw
  refine g_iald hC hwo ha_52 hi_53 dM_valuePart_97 ?_
  refine lv_iconst (v := 3) hx hb dM_valuePart_98 (by decide) ?_
  refine lv_icmp_ge (tgt := 143) hx hb dM_valuePart_99 (by decide) (fun hc_54 => ?_) (fun hc_54 => ?_)
  · replace hw := hw.1 hc_54
    exact J143 _ _ _ _ _ _ _ hw hwo hS (lv_sub hl [0, 1] rfl)
  · replace hw := hw.2 hc_54
    refine lv_aload_n hx hb dM_valuePart_102 rfl (lv_at hl 0 rfl) ?_
    refine g_getR hC fkM_101 rfl hwo ho_1 hz_50 dM_valuePart_103 ?_
    refine lv_iload_n hx hb dM_valuePart_106 rfl (lv_at hl 1 rfl) ?_
    refine lv_bipush (v := 31) hx hb dM_valuePart_107 (by decide) ?_
    refine lv_iadd hx hb dM_valuePart_109 ?_
    obtain ⟨hi_55, hw⟩ := hw
    refine g_iald hC hwo ha_52 hi_55 dM_valuePart_110 ?_
    refine lv_aload_n hx hb dM_valuePart_111 rfl (lv_at hl 0 rfl) ?_
    refine g_getR hC fkM_101 rfl hwo ho_1 hz_50 dM_valuePart_112 ?_
    refine lv_iload_n hx hb dM_valuePart_115 rfl (lv_at hl 1 rfl) ?_
    refine lv_bipush (v := 32) hx hb dM_valuePart_116 (by decide) ?_
    refine lv_iadd hx hb dM_valuePart_118 ?_
    obtain ⟨hi_56, hw⟩ := hw
    refine g_iald hC hwo ha_52 hi_56 dM_valuePart_119 ?_
    refine lv_icmp_gt (tgt := 143) hx hb dM_valuePart_120 (by decide) (fun hc_57 => ?_) (fun hc_57 => ?_)
    · replace hw := hw.1 hc_57
      exact J143 _ _ _ _ _ _ _ hw hwo hS (lv_sub hl [0, 1] rfl)
    · replace hw := hw.2 hc_57
      refine lv_aload_n hx hb dM_valuePart_123 rfl (lv_at hl 0 rfl) ?_
      refine g_getR hC fkM_101 rfl hwo ho_1 hz_50 dM_valuePart_124 ?_
      refine lv_iload_n hx hb dM_valuePart_127 rfl (lv_at hl 1 rfl) ?_
      refine lv_bipush (v := 35) hx hb dM_valuePart_128 (by decide) ?_
      refine lv_iadd hx hb dM_valuePart_130 ?_
      obtain ⟨hi_58, hw⟩ := hw
      refine g_iald hC hwo ha_52 hi_58 dM_valuePart_131 ?_
      refine lv_aload_n hx hb dM_valuePart_132 rfl (lv_at hl 0 rfl) ?_
      refine g_getI hC fkM_280 rfl hwo ho_1 dM_valuePart_133 ?_
      refine lv_icmp_ge (tgt := 143) hx hb dM_valuePart_136 (by decide) (fun hc_59 => ?_) (fun hc_59 => ?_)
      · replace hw := hw.1 hc_59
        exact J143 _ _ _ _ _ _ _ hw hwo hS (lv_sub hl [0, 1] rfl)
      · replace hw := hw.2 hc_59
        refine lv_iconst (v := 1) hx hb dM_valuePart_139 (by decide) ?_
        refine lv_goto (tgt := 144) hx hb dM_valuePart_140 (by decide) ?_
        refine lv_istore_n (i := 2) (lv' := [(2, .int (1 : Int32)), (0, .ref a0), (1, .int x1)]) hx hb dM_valuePart_144 rfl hl (by decide) rfl (fun ls hl => ?_)
        refine lv_iconst (v := 0) hx hb dM_valuePart_145 (by decide) ?_
        refine lv_istore_n (i := 3) (lv' := [(3, .int (0 : Int32)), (2, .int (1 : Int32)), (0, .ref a0), (1, .int x1)]) hx hb dM_valuePart_146 rfl hl (by decide) rfl (fun ls hl => ?_)
        obtain ⟨n, hw⟩ := hw
        exact L147 _ _ _ n _ _ _ _ _ _ hw hwo hS (lv_sub hl [2, 3, 1, 0] rfl)
theorem dM_setup_0 : decode kM_setup 0 = .ok (.aload_n 0, 1) := by decide +kernel
theorem dM_setup_1 : decode kM_setup 1 = .ok (.getfield 265, 3) := by decide +kernel
theorem dM_setup_4 : decode kM_setup 4 = .ok (.ifCond .ne 5, 3) := by decide +kernel
theorem dM_setup_7 : decode kM_setup 7 = .ok (.iconst 0, 1) := by decide +kernel
theorem dM_setup_8 : decode kM_setup 8 = .ok (.ireturn, 1) := by decide +kernel
theorem dM_setup_9 : decode kM_setup 9 = .ok (.aload_n 0, 1) := by decide +kernel
theorem dM_setup_10 : decode kM_setup 10 = .ok (.getfield 104, 3) := by decide +kernel
theorem dM_setup_13 : decode kM_setup 13 = .ok (.ifCond .ne 8, 3) := by decide +kernel
theorem dM_setup_16 : decode kM_setup 16 = .ok (.bipush 48, 2) := by decide +kernel
theorem dM_setup_18 : decode kM_setup 18 = .ok (.goto 4, 3) := by decide +kernel
theorem dM_setup_21 : decode kM_setup 21 = .ok (.iconst 0, 1) := by decide +kernel
theorem dM_setup_22 : decode kM_setup 22 = .ok (.istore_n 1, 1) := by decide +kernel
theorem dM_setup_23 : decode kM_setup 23 = .ok (.aload_n 0, 1) := by decide +kernel
theorem dM_setup_24 : decode kM_setup 24 = .ok (.iload_n 1, 1) := by decide +kernel
theorem dM_setup_25 : decode kM_setup 25 = .ok (.invokevirtual 303, 3) := by decide +kernel
theorem dM_setup_28 : decode kM_setup 28 = .ok (.istore_n 2, 1) := by decide +kernel
theorem dM_setup_29 : decode kM_setup 29 = .ok (.iload_n 2, 1) := by decide +kernel
theorem dM_setup_30 : decode kM_setup 30 = .ok (.ifCond .eq 15, 3) := by decide +kernel
theorem dM_setup_33 : decode kM_setup 33 = .ok (.aload_n 0, 1) := by decide +kernel
theorem dM_setup_34 : decode kM_setup 34 = .ok (.iload_n 1, 1) := by decide +kernel
theorem dM_setup_35 : decode kM_setup 35 = .ok (.invokevirtual 306, 3) := by decide +kernel
theorem dM_setup_38 : decode kM_setup 38 = .ok (.ifCond .eq 7, 3) := by decide +kernel
theorem dM_setup_41 : decode kM_setup 41 = .ok (.iconst 1, 1) := by decide +kernel
theorem dM_setup_42 : decode kM_setup 42 = .ok (.goto 4, 3) := by decide +kernel
theorem dM_setup_45 : decode kM_setup 45 = .ok (.iconst 0, 1) := by decide +kernel
theorem dM_setup_46 : decode kM_setup 46 = .ok (.istore_n 2, 1) := by decide +kernel
theorem dM_setup_47 : decode kM_setup 47 = .ok (.iload_n 2, 1) := by decide +kernel
theorem dM_setup_48 : decode kM_setup 48 = .ok (.ifCond .eq 10, 3) := by decide +kernel
theorem dM_setup_51 : decode kM_setup 51 = .ok (.aload_n 0, 1) := by decide +kernel
theorem dM_setup_52 : decode kM_setup 52 = .ok (.getfield 243, 3) := by decide +kernel
theorem dM_setup_55 : decode kM_setup 55 = .ok (.ifCond .eq 5, 3) := by decide +kernel
theorem dM_setup_58 : decode kM_setup 58 = .ok (.iconst 0, 1) := by decide +kernel
theorem dM_setup_59 : decode kM_setup 59 = .ok (.ireturn, 1) := by decide +kernel
theorem dM_setup_60 : decode kM_setup 60 = .ok (.aload_n 0, 1) := by decide +kernel
theorem dM_setup_61 : decode kM_setup 61 = .ok (.iload_n 1, 1) := by decide +kernel
theorem dM_setup_62 : decode kM_setup 62 = .ok (.putfield 104, 3) := by decide +kernel
theorem dM_setup_65 : decode kM_setup 65 = .ok (.iconst 1, 1) := by decide +kernel
theorem dM_setup_66 : decode kM_setup 66 = .ok (.ireturn, 1) := by decide +kernel
def wb_M_setup_46 (θ : TH) (a0_46 : Nat) (x1_46 : Int32) (z0_46 : Int32) (K : Int32 → VT → UT → Prop) (V : VT) (U : UT) : Prop := ((z0_46 = 0 → K (0 : Int32) V U) ∧ (¬ z0_46 = 0 → isO θ a0_46 12 ∧ (((V a0_46 40) = 0 → ∀ V_16 : VT, V_16 = up2 V a0_46 53 x1_46 → K (1 : Int32) V_16 U) ∧ (¬ (V a0_46 40) = 0 → K (0 : Int32) V U))))
def wb_M_setup_45 (θ : TH) (a0_45 : Nat) (x1_45 : Int32) (K : Int32 → VT → UT → Prop) (V : VT) (U : UT) : Prop := wb_M_setup_46 θ a0_45 x1_45 (0 : Int32) K V U
def wb_M_setup_22 (θ : TH) (a0_22 : Nat) (z0_22 : Int32) (K : Int32 → VT → UT → Prop) (V : VT) (U : UT) : Prop := isO θ a0_22 12 ∧ wp_M_curvePart θ a0_22 z0_22 V U (fun r_7 V_4 U_5 => ((r_7 = 0 → wb_M_setup_45 θ a0_22 z0_22 K V_4 U_5) ∧ (¬ r_7 = 0 → wp_M_valuePart θ a0_22 z0_22 V_4 U_5 (fun r_11 V_9 U_10 => ((r_11 = 0 → wb_M_setup_45 θ a0_22 z0_22 K V_9 U_10) ∧ (¬ r_11 = 0 → wb_M_setup_46 θ a0_22 z0_22 (1 : Int32) K V_9 U_10))))))
def wp_M_setup (θ : TH) (a0 : Nat) (V : VT) (U : UT) (K : Int32 → VT → UT → Prop) : Prop := isO θ a0 12 ∧ ((¬ (V a0 41) = 0 → ((¬ (V a0 53) = 0 → wb_M_setup_22 θ a0 (0 : Int32) K V U) ∧ ((V a0 53) = 0 → wb_M_setup_22 θ a0 (48 : Int32) K V U))) ∧ ((V a0 41) = 0 → K (0 : Int32) V U))
set_option maxRecDepth 100000 in
set_option maxHeartbeats 4000000 in
theorem c_M_setup (l : Launch) (θ : TH) (a0 : Nat) (V : VT) (U : UT) (K : Int32 → VT → UT → Prop) (hw : wp_M_setup θ a0 V U K) : CMi l yM_setup kM_setup 3 (some .boolean) rmM_setup θ [.ref a0] V U K := by
  refine g_met nRM (by decide +kernel) rfl (Nat.le_of_ble_eq_true rfl) (fun p e s m args below meth c ls hC hr hlk hwo hl => ?_)
  have hx := hC.1
  have hb := hC.2.1
  have hS : Sx θ s s.heap [] := va_S.rf
  have hl : lv_has ls 3 [(0, .ref a0)] := hl
  have J46 : ∀ (a0_46 : Nat) (x1_46 : Int32) (z0_46 : Int32) (V : VT) (U : UT) (H : Heap) (locs : List Loc) (ls : Array Slot), wb_M_setup_46 θ a0_46 x1_46 z0_46 K V U → wo θ V U H → Sx θ s H locs → lv_has ls 3 [(0, .ref a0_46), (1, .int x1_46)] → W p l e rmM_setup s m args below meth c H locs 0 0 (MQ below (QI θ K) args s 0 0 (aT θ)) (F0 m 46 ls [.int z0_46]) := by
    intro a0_46 x1_46 z0_46 V U H locs ls hw hwo hS hl
    unfold wb_M_setup_46 at hw
    refine lv_istore_n (i := 2) (lv' := [(2, .int z0_46), (0, .ref a0_46), (1, .int x1_46)]) hx hb dM_setup_46 rfl hl (by decide) rfl (fun ls hl => ?_)
    refine lv_iload_n hx hb dM_setup_47 rfl (lv_at hl 0 rfl) ?_
    refine lv_if_eq (tgt := 58) hx hb dM_setup_48 (by decide) (fun hc_13 => ?_) (fun hc_13 => ?_)
    · replace hw := hw.1 hc_13
      refine lv_iconst (v := 0) hx hb dM_setup_58 (by decide) ?_
      exact g_zret hC hr hlk (Or.inl rfl) hw hwo hS dM_setup_59
    · replace hw := hw.2 hc_13
      refine lv_aload_n hx hb dM_setup_51 rfl (lv_at hl 1 rfl) ?_
      obtain ⟨ho_14, hw⟩ := hw
      refine g_getI hC fkM_243 rfl hwo ho_14 dM_setup_52 ?_
      refine lv_if_eq (tgt := 60) hx hb dM_setup_55 (by decide) (fun hc_15 => ?_) (fun hc_15 => ?_)
      · replace hw := hw.1 hc_15
        refine lv_aload_n hx hb dM_setup_60 rfl (lv_at hl 1 rfl) ?_
        refine lv_iload_n hx hb dM_setup_61 rfl (lv_at hl 2 rfl) ?_
        refine g_putI hC fkM_104 rfl hwo hS ho_14 dM_setup_62 (fun V_16 eV_16 H locs hwo hS => ?_)
        replace hw := hw V_16 eV_16
        refine lv_iconst (v := 1) hx hb dM_setup_65 (by decide) ?_
        exact g_zret hC hr hlk (Or.inr rfl) hw hwo hS dM_setup_66
      · replace hw := hw.2 hc_15
        refine lv_iconst (v := 0) hx hb dM_setup_58 (by decide) ?_
        exact g_zret hC hr hlk (Or.inl rfl) hw hwo hS dM_setup_59
  have J45 : ∀ (a0_45 : Nat) (x1_45 : Int32) (V : VT) (U : UT) (H : Heap) (locs : List Loc) (ls : Array Slot), wb_M_setup_45 θ a0_45 x1_45 K V U → wo θ V U H → Sx θ s H locs → lv_has ls 3 [(0, .ref a0_45), (1, .int x1_45)] → W p l e rmM_setup s m args below meth c H locs 0 0 (MQ below (QI θ K) args s 0 0 (aT θ)) (F0 m 45 ls []) := by
    intro a0_45 x1_45 V U H locs ls hw hwo hS hl
    unfold wb_M_setup_45 at hw
    refine lv_iconst (v := 0) hx hb dM_setup_45 (by decide) ?_
    exact J46 _ _ _ _ _ _ _ _ hw hwo hS (lv_sub hl [0, 1] rfl)
  have J22 : ∀ (a0_22 : Nat) (z0_22 : Int32) (V : VT) (U : UT) (H : Heap) (locs : List Loc) (ls : Array Slot), wb_M_setup_22 θ a0_22 z0_22 K V U → wo θ V U H → Sx θ s H locs → lv_has ls 3 [(0, .ref a0_22)] → W p l e rmM_setup s m args below meth c H locs 0 0 (MQ below (QI θ K) args s 0 0 (aT θ)) (F0 m 22 ls [.int z0_22]) := by
    intro a0_22 z0_22 V U H locs ls hw hwo hS hl
    unfold wb_M_setup_22 at hw
    refine lv_istore_n (i := 1) (lv' := [(1, .int z0_22), (0, .ref a0_22)]) hx hb dM_setup_22 rfl hl (by decide) rfl (fun ls hl => ?_)
    refine lv_aload_n hx hb dM_setup_23 rfl (lv_at hl 1 rfl) ?_
    refine lv_iload_n hx hb dM_setup_24 rfl (lv_at hl 0 rfl) ?_
    obtain ⟨ho_6, hw⟩ := hw
    refine g_Vi (rest := []) hC (c_M_curvePart l θ _ _ _ _ _ hw) mi_M_curvePart mlM_303 mv_M_curvePart ci_12 ho_6 hwo hS ⟨rfl, rfl⟩ ⟨by decide, by decide⟩ rfl hl.1 rfl (Nat.le_of_ble_eq_true rfl) dM_setup_25 (fun r_7 V_4 U_5 hw H locs hwo hS => ?_)
    refine lv_istore_n (i := 2) (lv' := [(2, .int r_7), (1, .int z0_22), (0, .ref a0_22)]) hx hb dM_setup_28 rfl hl (by decide) rfl (fun ls hl => ?_)
    refine lv_iload_n hx hb dM_setup_29 rfl (lv_at hl 0 rfl) ?_
    refine lv_if_eq (tgt := 45) hx hb dM_setup_30 (by decide) (fun hc_8 => ?_) (fun hc_8 => ?_)
    · replace hw := hw.1 hc_8
      exact J45 _ _ _ _ _ _ _ hw hwo hS (lv_sub hl [2, 1] rfl)
    · replace hw := hw.2 hc_8
      refine lv_aload_n hx hb dM_setup_33 rfl (lv_at hl 2 rfl) ?_
      refine lv_iload_n hx hb dM_setup_34 rfl (lv_at hl 1 rfl) ?_
      refine g_Vi (rest := []) hC (c_M_valuePart l θ _ _ _ _ _ hw) mi_M_valuePart mlM_306 mv_M_valuePart ci_12 ho_6 hwo hS ⟨rfl, rfl⟩ ⟨by decide, by decide⟩ rfl hl.1 rfl (Nat.le_of_ble_eq_true rfl) dM_setup_35 (fun r_11 V_9 U_10 hw H locs hwo hS => ?_)
      refine lv_if_eq (tgt := 45) hx hb dM_setup_38 (by decide) (fun hc_12 => ?_) (fun hc_12 => ?_)
      · replace hw := hw.1 hc_12
        exact J45 _ _ _ _ _ _ _ hw hwo hS (lv_sub hl [2, 1] rfl)
      · replace hw := hw.2 hc_12
        refine lv_iconst (v := 1) hx hb dM_setup_41 (by decide) ?_
        refine lv_goto (tgt := 46) hx hb dM_setup_42 (by decide) ?_
        exact J46 _ _ _ _ _ _ _ _ hw hwo hS (lv_sub hl [2, 1] rfl)
  unfold wp_M_setup at hw
  refine lv_aload_n hx hb dM_setup_0 rfl (lv_at hl 0 rfl) ?_
  obtain ⟨ho_1, hw⟩ := hw
  refine g_getI hC fkM_265 rfl hwo ho_1 dM_setup_1 ?_
  refine lv_if_ne (tgt := 9) hx hb dM_setup_4 (by decide) (fun hc_2 => ?_) (fun hc_2 => ?_)
  · replace hw := hw.1 hc_2
    refine lv_aload_n hx hb dM_setup_9 rfl (lv_at hl 0 rfl) ?_
    refine g_getI hC fkM_104 rfl hwo ho_1 dM_setup_10 ?_
    refine lv_if_ne (tgt := 21) hx hb dM_setup_13 (by decide) (fun hc_3 => ?_) (fun hc_3 => ?_)
    · replace hw := hw.1 hc_3
      refine lv_iconst (v := 0) hx hb dM_setup_21 (by decide) ?_
      exact J22 _ _ _ _ _ _ _ hw hwo hS (lv_sub hl [0] rfl)
    · replace hw := hw.2 hc_3
      refine lv_bipush (v := 48) hx hb dM_setup_16 (by decide) ?_
      refine lv_goto (tgt := 22) hx hb dM_setup_18 (by decide) ?_
      exact J22 _ _ _ _ _ _ _ hw hwo hS (lv_sub hl [0] rfl)
  · replace hw := hw.2 hc_2
    refine lv_iconst (v := 0) hx hb dM_setup_7 (by decide) ?_
    exact g_zret hC hr hlk (Or.inl rfl) hw hwo hS dM_setup_8
theorem dM_range_0 : decode kM_range 0 = .ok (.aload_n 0, 1) := by decide +kernel
theorem dM_range_1 : decode kM_range 1 = .ok (.getfield 101, 3) := by decide +kernel
theorem dM_range_4 : decode kM_range 4 = .ok (.iload_n 1, 1) := by decide +kernel
theorem dM_range_5 : decode kM_range 5 = .ok (.iconst 0, 1) := by decide +kernel
theorem dM_range_6 : decode kM_range 6 = .ok (.iadd, 1) := by decide +kernel
theorem dM_range_7 : decode kM_range 7 = .ok (.iaload, 1) := by decide +kernel
theorem dM_range_8 : decode kM_range 8 = .ok (.istore_n 2, 1) := by decide +kernel
theorem dM_range_9 : decode kM_range 9 = .ok (.iload_n 2, 1) := by decide +kernel
theorem dM_range_10 : decode kM_range 10 = .ok (.iconst 1, 1) := by decide +kernel
theorem dM_range_11 : decode kM_range 11 = .ok (.if_icmp .ne 8, 3) := by decide +kernel
theorem dM_range_14 : decode kM_range 14 = .ok (.bipush 32, 2) := by decide +kernel
theorem dM_range_16 : decode kM_range 16 = .ok (.goto 25, 3) := by decide +kernel
theorem dM_range_19 : decode kM_range 19 = .ok (.iload_n 2, 1) := by decide +kernel
theorem dM_range_20 : decode kM_range 20 = .ok (.iconst 2, 1) := by decide +kernel
theorem dM_range_21 : decode kM_range 21 = .ok (.if_icmp .ne 8, 3) := by decide +kernel
theorem dM_range_24 : decode kM_range 24 = .ok (.bipush 16, 2) := by decide +kernel
theorem dM_range_26 : decode kM_range 26 = .ok (.goto 15, 3) := by decide +kernel
theorem dM_range_29 : decode kM_range 29 = .ok (.iload_n 2, 1) := by decide +kernel
theorem dM_range_30 : decode kM_range 30 = .ok (.iconst 3, 1) := by decide +kernel
theorem dM_range_31 : decode kM_range 31 = .ok (.if_icmp .ne 8, 3) := by decide +kernel
theorem dM_range_34 : decode kM_range 34 = .ok (.bipush 12, 2) := by decide +kernel
theorem dM_range_36 : decode kM_range 36 = .ok (.goto 5, 3) := by decide +kernel
theorem dM_range_39 : decode kM_range 39 = .ok (.bipush 8, 2) := by decide +kernel
theorem dM_range_41 : decode kM_range 41 = .ok (.ireturn, 1) := by decide +kernel
def wp_M_range (θ : TH) (a0 : Nat) (x1 : Int32) (V : VT) (U : UT) (K : Int32 → VT → UT → Prop) : Prop := isO θ a0 12 ∧ (U a0 52) ≠ 0 ∧ ∃ n_3, isA θ (U a0 52) 0 n_3 ∧ vp_in (x1 + (0 : Int32)) n_3 ∧ ∀ y_6 : Int32, y_6 = (V (U a0 52) (x1 + (0 : Int32)).toNatClampNeg) → ((¬ y_6 = (1 : Int32) → ((¬ y_6 = (2 : Int32) → ((¬ y_6 = (3 : Int32) → K (8 : Int32) V U) ∧ (y_6 = (3 : Int32) → K (12 : Int32) V U))) ∧ (y_6 = (2 : Int32) → K (16 : Int32) V U))) ∧ (y_6 = (1 : Int32) → K (32 : Int32) V U))
set_option maxRecDepth 100000 in
set_option maxHeartbeats 4000000 in
theorem c_M_range (l : Launch) (θ : TH) (a0 : Nat) (x1 : Int32) (V : VT) (U : UT) (K : Int32 → VT → UT → Prop) (hw : wp_M_range θ a0 x1 V U K) : CMi l yM_range kM_range 3 (some .int) rmM_range θ [.ref a0, .int x1] V U K := by
  refine g_met nRM (by decide +kernel) rfl (Nat.le_of_ble_eq_true rfl) (fun p e s m args below meth c ls hC hr hlk hwo hl => ?_)
  have hx := hC.1
  have hb := hC.2.1
  have hS : Sx θ s s.heap [] := va_S.rf
  have hl : lv_has ls 3 [(0, .ref a0), (1, .int x1)] := hl
  unfold wp_M_range at hw
  refine lv_aload_n hx hb dM_range_0 rfl (lv_at hl 0 rfl) ?_
  obtain ⟨ho_1, hw⟩ := hw
  obtain ⟨hz_2, hw⟩ := hw
  refine g_getR hC fkM_101 rfl hwo ho_1 hz_2 dM_range_1 ?_
  refine lv_iload_n hx hb dM_range_4 rfl (lv_at hl 1 rfl) ?_
  refine lv_iconst (v := 0) hx hb dM_range_5 (by decide) ?_
  refine lv_iadd hx hb dM_range_6 ?_
  obtain ⟨n_3, ha_4, hw⟩ := hw
  obtain ⟨hi_5, hw⟩ := hw
  refine g_iald hC hwo ha_4 hi_5 dM_range_7 ?_
  refine lv_topi (fun y_6 ey_6 => ?_)
  replace hw := hw y_6 ey_6
  refine lv_istore_n (i := 2) (lv' := [(2, .int y_6), (0, .ref a0), (1, .int x1)]) hx hb dM_range_8 rfl hl (by decide) rfl (fun ls hl => ?_)
  refine lv_iload_n hx hb dM_range_9 rfl (lv_at hl 0 rfl) ?_
  refine lv_iconst (v := 1) hx hb dM_range_10 (by decide) ?_
  refine lv_icmp_ne (tgt := 19) hx hb dM_range_11 (by decide) (fun hc_7 => ?_) (fun hc_7 => ?_)
  · replace hw := hw.1 hc_7
    refine lv_iload_n hx hb dM_range_19 rfl (lv_at hl 0 rfl) ?_
    refine lv_iconst (v := 2) hx hb dM_range_20 (by decide) ?_
    refine lv_icmp_ne (tgt := 29) hx hb dM_range_21 (by decide) (fun hc_8 => ?_) (fun hc_8 => ?_)
    · replace hw := hw.1 hc_8
      refine lv_iload_n hx hb dM_range_29 rfl (lv_at hl 0 rfl) ?_
      refine lv_iconst (v := 3) hx hb dM_range_30 (by decide) ?_
      refine lv_icmp_ne (tgt := 39) hx hb dM_range_31 (by decide) (fun hc_9 => ?_) (fun hc_9 => ?_)
      · replace hw := hw.1 hc_9
        refine lv_bipush (v := 8) hx hb dM_range_39 (by decide) ?_
        exact g_iret hC hr hlk hw hwo hS dM_range_41
      · replace hw := hw.2 hc_9
        refine lv_bipush (v := 12) hx hb dM_range_34 (by decide) ?_
        refine lv_goto (tgt := 41) hx hb dM_range_36 (by decide) ?_
        exact g_iret hC hr hlk hw hwo hS dM_range_41
    · replace hw := hw.2 hc_8
      refine lv_bipush (v := 16) hx hb dM_range_24 (by decide) ?_
      refine lv_goto (tgt := 41) hx hb dM_range_26 (by decide) ?_
      exact g_iret hC hr hlk hw hwo hS dM_range_41
  · replace hw := hw.2 hc_7
    refine lv_bipush (v := 32) hx hb dM_range_14 (by decide) ?_
    refine lv_goto (tgt := 41) hx hb dM_range_16 (by decide) ?_
    exact g_iret hC hr hlk hw hwo hS dM_range_41
theorem dM_pick_0 : decode kM_pick 0 = .ok (.iconst 0, 1) := by decide +kernel
theorem dM_pick_1 : decode kM_pick 1 = .ok (.istore_n 2, 1) := by decide +kernel
theorem dM_pick_2 : decode kM_pick 2 = .ok (.iconst 0, 1) := by decide +kernel
theorem dM_pick_3 : decode kM_pick 3 = .ok (.istore_n 3, 1) := by decide +kernel
theorem dM_pick_4 : decode kM_pick 4 = .ok (.iconst 0, 1) := by decide +kernel
theorem dM_pick_5 : decode kM_pick 5 = .ok (.istore 4, 2) := by decide +kernel
theorem dM_pick_7 : decode kM_pick 7 = .ok (.iload 4, 2) := by decide +kernel
theorem dM_pick_9 : decode kM_pick 9 = .ok (.aload_n 0, 1) := by decide +kernel
theorem dM_pick_10 : decode kM_pick 10 = .ok (.getfield 83, 3) := by decide +kernel
theorem dM_pick_13 : decode kM_pick 13 = .ok (.iload_n 1, 1) := by decide +kernel
theorem dM_pick_14 : decode kM_pick 14 = .ok (.iaload, 1) := by decide +kernel
theorem dM_pick_15 : decode kM_pick 15 = .ok (.if_icmp .ge 54, 3) := by decide +kernel
theorem dM_pick_18 : decode kM_pick 18 = .ok (.iload_n 2, 1) := by decide +kernel
theorem dM_pick_19 : decode kM_pick 19 = .ok (.aload_n 0, 1) := by decide +kernel
theorem dM_pick_20 : decode kM_pick 20 = .ok (.getfield 86, 3) := by decide +kernel
theorem dM_pick_23 : decode kM_pick 23 = .ok (.bipush 8, 2) := by decide +kernel
theorem dM_pick_25 : decode kM_pick 25 = .ok (.iload_n 1, 1) := by decide +kernel
theorem dM_pick_26 : decode kM_pick 26 = .ok (.imul, 1) := by decide +kernel
theorem dM_pick_27 : decode kM_pick 27 = .ok (.iload 4, 2) := by decide +kernel
theorem dM_pick_29 : decode kM_pick 29 = .ok (.iadd, 1) := by decide +kernel
theorem dM_pick_30 : decode kM_pick 30 = .ok (.iaload, 1) := by decide +kernel
theorem dM_pick_31 : decode kM_pick 31 = .ok (.ifCond .le 7, 3) := by decide +kernel
theorem dM_pick_34 : decode kM_pick 34 = .ok (.iconst 1, 1) := by decide +kernel
theorem dM_pick_35 : decode kM_pick 35 = .ok (.goto 4, 3) := by decide +kernel
theorem dM_pick_38 : decode kM_pick 38 = .ok (.iconst 0, 1) := by decide +kernel
theorem dM_pick_39 : decode kM_pick 39 = .ok (.iadd, 1) := by decide +kernel
theorem dM_pick_40 : decode kM_pick 40 = .ok (.istore_n 2, 1) := by decide +kernel
theorem dM_pick_41 : decode kM_pick 41 = .ok (.aload_n 0, 1) := by decide +kernel
theorem dM_pick_42 : decode kM_pick 42 = .ok (.getfield 86, 3) := by decide +kernel
theorem dM_pick_45 : decode kM_pick 45 = .ok (.bipush 8, 2) := by decide +kernel
theorem dM_pick_47 : decode kM_pick 47 = .ok (.iload_n 1, 1) := by decide +kernel
theorem dM_pick_48 : decode kM_pick 48 = .ok (.imul, 1) := by decide +kernel
theorem dM_pick_49 : decode kM_pick 49 = .ok (.iload 4, 2) := by decide +kernel
theorem dM_pick_51 : decode kM_pick 51 = .ok (.iadd, 1) := by decide +kernel
theorem dM_pick_52 : decode kM_pick 52 = .ok (.iaload, 1) := by decide +kernel
theorem dM_pick_53 : decode kM_pick 53 = .ok (.ifCond .le 8, 3) := by decide +kernel
theorem dM_pick_56 : decode kM_pick 56 = .ok (.iload 4, 2) := by decide +kernel
theorem dM_pick_58 : decode kM_pick 58 = .ok (.goto 4, 3) := by decide +kernel
theorem dM_pick_61 : decode kM_pick 61 = .ok (.iload_n 3, 1) := by decide +kernel
theorem dM_pick_62 : decode kM_pick 62 = .ok (.istore_n 3, 1) := by decide +kernel
theorem dM_pick_63 : decode kM_pick 63 = .ok (.iinc 4 1, 3) := by decide +kernel
theorem dM_pick_66 : decode kM_pick 66 = .ok (.goto (-59), 3) := by decide +kernel
theorem dM_pick_69 : decode kM_pick 69 = .ok (.iconst 0, 1) := by decide +kernel
theorem dM_pick_70 : decode kM_pick 70 = .ok (.istore 4, 2) := by decide +kernel
theorem dM_pick_72 : decode kM_pick 72 = .ok (.iconst 1, 1) := by decide +kernel
theorem dM_pick_73 : decode kM_pick 73 = .ok (.istore 5, 2) := by decide +kernel
theorem dM_pick_75 : decode kM_pick 75 = .ok (.iload 5, 2) := by decide +kernel
theorem dM_pick_77 : decode kM_pick 77 = .ok (.bipush 8, 2) := by decide +kernel
theorem dM_pick_79 : decode kM_pick 79 = .ok (.if_icmp .gt 94, 3) := by decide +kernel
theorem dM_pick_82 : decode kM_pick 82 = .ok (.iconst 2, 1) := by decide +kernel
theorem dM_pick_83 : decode kM_pick 83 = .ok (.iload 4, 2) := by decide +kernel
theorem dM_pick_85 : decode kM_pick 85 = .ok (.imul, 1) := by decide +kernel
theorem dM_pick_86 : decode kM_pick 86 = .ok (.aload_n 0, 1) := by decide +kernel
theorem dM_pick_87 : decode kM_pick 87 = .ok (.iconst 1, 1) := by decide +kernel
theorem dM_pick_88 : decode kM_pick 88 = .ok (.invokevirtual 249, 3) := by decide +kernel
theorem dM_pick_91 : decode kM_pick 91 = .ok (.iadd, 1) := by decide +kernel
theorem dM_pick_92 : decode kM_pick 92 = .ok (.istore 4, 2) := by decide +kernel
theorem dM_pick_94 : decode kM_pick 94 = .ok (.aload_n 0, 1) := by decide +kernel
theorem dM_pick_95 : decode kM_pick 95 = .ok (.getfield 243, 3) := by decide +kernel
theorem dM_pick_98 : decode kM_pick 98 = .ok (.ifCond .eq 5, 3) := by decide +kernel
theorem dM_pick_101 : decode kM_pick 101 = .ok (.iconst (-1), 1) := by decide +kernel
theorem dM_pick_102 : decode kM_pick 102 = .ok (.ireturn, 1) := by decide +kernel
theorem dM_pick_103 : decode kM_pick 103 = .ok (.iload_n 2, 1) := by decide +kernel
theorem dM_pick_104 : decode kM_pick 104 = .ok (.iconst 1, 1) := by decide +kernel
theorem dM_pick_105 : decode kM_pick 105 = .ok (.if_icmp .ne 5, 3) := by decide +kernel
theorem dM_pick_108 : decode kM_pick 108 = .ok (.iload_n 3, 1) := by decide +kernel
theorem dM_pick_109 : decode kM_pick 109 = .ok (.ireturn, 1) := by decide +kernel
theorem dM_pick_110 : decode kM_pick 110 = .ok (.iconst 0, 1) := by decide +kernel
theorem dM_pick_111 : decode kM_pick 111 = .ok (.istore 6, 2) := by decide +kernel
theorem dM_pick_113 : decode kM_pick 113 = .ok (.iload 6, 2) := by decide +kernel
theorem dM_pick_115 : decode kM_pick 115 = .ok (.aload_n 0, 1) := by decide +kernel
theorem dM_pick_116 : decode kM_pick 116 = .ok (.getfield 83, 3) := by decide +kernel
theorem dM_pick_119 : decode kM_pick 119 = .ok (.iload_n 1, 1) := by decide +kernel
theorem dM_pick_120 : decode kM_pick 120 = .ok (.iaload, 1) := by decide +kernel
theorem dM_pick_121 : decode kM_pick 121 = .ok (.if_icmp .ge 46, 3) := by decide +kernel
theorem dM_pick_124 : decode kM_pick 124 = .ok (.aload_n 0, 1) := by decide +kernel
theorem dM_pick_125 : decode kM_pick 125 = .ok (.getfield 86, 3) := by decide +kernel
theorem dM_pick_128 : decode kM_pick 128 = .ok (.bipush 8, 2) := by decide +kernel
theorem dM_pick_130 : decode kM_pick 130 = .ok (.iload_n 1, 1) := by decide +kernel
theorem dM_pick_131 : decode kM_pick 131 = .ok (.imul, 1) := by decide +kernel
theorem dM_pick_132 : decode kM_pick 132 = .ok (.iload 6, 2) := by decide +kernel
theorem dM_pick_134 : decode kM_pick 134 = .ok (.iadd, 1) := by decide +kernel
theorem dM_pick_135 : decode kM_pick 135 = .ok (.iaload, 1) := by decide +kernel
theorem dM_pick_136 : decode kM_pick 136 = .ok (.iload 5, 2) := by decide +kernel
theorem dM_pick_138 : decode kM_pick 138 = .ok (.if_icmp .ne 23, 3) := by decide +kernel
theorem dM_pick_141 : decode kM_pick 141 = .ok (.aload_n 0, 1) := by decide +kernel
theorem dM_pick_142 : decode kM_pick 142 = .ok (.getfield 89, 3) := by decide +kernel
theorem dM_pick_145 : decode kM_pick 145 = .ok (.bipush 8, 2) := by decide +kernel
theorem dM_pick_147 : decode kM_pick 147 = .ok (.iload_n 1, 1) := by decide +kernel
theorem dM_pick_148 : decode kM_pick 148 = .ok (.imul, 1) := by decide +kernel
theorem dM_pick_149 : decode kM_pick 149 = .ok (.iload 6, 2) := by decide +kernel
theorem dM_pick_151 : decode kM_pick 151 = .ok (.iadd, 1) := by decide +kernel
theorem dM_pick_152 : decode kM_pick 152 = .ok (.iaload, 1) := by decide +kernel
theorem dM_pick_153 : decode kM_pick 153 = .ok (.iload 4, 2) := by decide +kernel
theorem dM_pick_155 : decode kM_pick 155 = .ok (.if_icmp .ne 6, 3) := by decide +kernel
theorem dM_pick_158 : decode kM_pick 158 = .ok (.iload 6, 2) := by decide +kernel
theorem dM_pick_160 : decode kM_pick 160 = .ok (.ireturn, 1) := by decide +kernel
theorem dM_pick_161 : decode kM_pick 161 = .ok (.iinc 6 1, 3) := by decide +kernel
theorem dM_pick_164 : decode kM_pick 164 = .ok (.goto (-51), 3) := by decide +kernel
theorem dM_pick_167 : decode kM_pick 167 = .ok (.iinc 5 1, 3) := by decide +kernel
theorem dM_pick_170 : decode kM_pick 170 = .ok (.goto (-95), 3) := by decide +kernel
theorem dM_pick_173 : decode kM_pick 173 = .ok (.iconst (-1), 1) := by decide +kernel
theorem dM_pick_174 : decode kM_pick 174 = .ok (.ireturn, 1) := by decide +kernel
def bl_M_pick_113 (θ : TH) (a0_75 : Nat) (x1_75 : Int32) (x2_75 : Int32) (x3_75 : Int32) (x4_113 : Int32) (x5_113 : Int32) (kb75 : Int32 → Int32 → VT → UT → Prop) (K : Int32 → VT → UT → Prop) (kb113 : Int32 → VT → UT → Prop) (x6_113 : Int32) (V : VT) (U : UT) : Prop := isO θ a0_75 12 ∧ (U a0_75 46) ≠ 0 ∧ ∃ n_22, isA θ (U a0_75 46) 0 n_22 ∧ vp_in x1_75 n_22 ∧ (((V (U a0_75 46) x1_75.toNatClampNeg) ≤ x6_113 → ∀ y_26 : Int32, y_26 = x5_113 + (1 : Int32) → kb75 x4_113 y_26 V U) ∧ (¬ (V (U a0_75 46) x1_75.toNatClampNeg) ≤ x6_113 → (U a0_75 47) ≠ 0 ∧ ∃ n_28, isA θ (U a0_75 47) 0 n_28 ∧ vp_in (((8 : Int32) * x1_75) + x6_113) n_28 ∧ ((¬ (V (U a0_75 47) (((8 : Int32) * x1_75) + x6_113).toNatClampNeg) = x5_113 → ∀ y_32 : Int32, y_32 = x6_113 + (1 : Int32) → kb113 y_32 V U) ∧ ((V (U a0_75 47) (((8 : Int32) * x1_75) + x6_113).toNatClampNeg) = x5_113 → (U a0_75 48) ≠ 0 ∧ ∃ n_34, isA θ (U a0_75 48) 0 n_34 ∧ vp_in (((8 : Int32) * x1_75) + x6_113) n_34 ∧ ((¬ (V (U a0_75 48) (((8 : Int32) * x1_75) + x6_113).toNatClampNeg) = x4_113 → ∀ y_38 : Int32, y_38 = x6_113 + (1 : Int32) → kb113 y_38 V U) ∧ ((V (U a0_75 48) (((8 : Int32) * x1_75) + x6_113).toNatClampNeg) = x4_113 → K x6_113 V U))))))
def wl_M_pick_113 (θ : TH) (a0_75 : Nat) (x1_75 : Int32) (x2_75 : Int32) (x3_75 : Int32) (x4_113 : Int32) (x5_113 : Int32) (kb75 : Int32 → Int32 → VT → UT → Prop) (K : Int32 → VT → UT → Prop) : Nat → Int32 → VT → UT → Prop
  | 0, _, _, _ => False
  | n + 1, x6_113, V, U => bl_M_pick_113 θ a0_75 x1_75 x2_75 x3_75 x4_113 x5_113 kb75 K (wl_M_pick_113 θ a0_75 x1_75 x2_75 x3_75 x4_113 x5_113 kb75 K n) x6_113 V U
def bl_M_pick_75 (θ : TH) (a0_75 : Nat) (x1_75 : Int32) (x2_75 : Int32) (x3_75 : Int32) (K : Int32 → VT → UT → Prop) (kb75 : Int32 → Int32 → VT → UT → Prop) (x4_75 : Int32) (x5_75 : Int32) (V : VT) (U : UT) : Prop := (((8 : Int32) < x5_75 → K (-1 : Int32) V U) ∧ (¬ (8 : Int32) < x5_75 → isO θ a0_75 12 ∧ wp_M_read θ a0_75 (1 : Int32) V U (fun r_16 V_13 U_14 => ∀ y_17 : Int32, y_17 = (((2 : Int32) * x4_75) + r_16) → (((V_13 a0_75 40) = 0 → ((¬ x2_75 = (1 : Int32) → ∃ n, wl_M_pick_113 θ a0_75 x1_75 x2_75 x3_75 y_17 x5_75 kb75 K n (0 : Int32) V_13 U_14) ∧ (x2_75 = (1 : Int32) → K x3_75 V_13 U_14))) ∧ (¬ (V_13 a0_75 40) = 0 → K (-1 : Int32) V_13 U_14)))))
def wl_M_pick_75 (θ : TH) (a0_75 : Nat) (x1_75 : Int32) (x2_75 : Int32) (x3_75 : Int32) (K : Int32 → VT → UT → Prop) : Nat → Int32 → Int32 → VT → UT → Prop
  | 0, _, _, _, _ => False
  | n + 1, x4_75, x5_75, V, U => bl_M_pick_75 θ a0_75 x1_75 x2_75 x3_75 K (wl_M_pick_75 θ a0_75 x1_75 x2_75 x3_75 K n) x4_75 x5_75 V U
def wb_M_pick_39 (θ : TH) (a0_7 : Nat) (x1_7 : Int32) (x3_39 : Int32) (x4_39 : Int32) (z0_39 : Int32) (z1_39 : Int32) (kb7 : Int32 → Int32 → Int32 → VT → UT → Prop) (K : Int32 → VT → UT → Prop) (V : VT) (U : UT) : Prop := ∀ y_39 : Int32, y_39 = (z1_39 + z0_39) → isO θ a0_7 12 ∧ (U a0_7 47) ≠ 0 ∧ ∃ n_42, isA θ (U a0_7 47) 0 n_42 ∧ vp_in (((8 : Int32) * x1_7) + x4_39) n_42 ∧ (((V (U a0_7 47) (((8 : Int32) * x1_7) + x4_39).toNatClampNeg) ≤ 0 → ∀ y_46 : Int32, y_46 = x4_39 + (1 : Int32) → kb7 y_39 x3_39 y_46 V U) ∧ (¬ (V (U a0_7 47) (((8 : Int32) * x1_7) + x4_39).toNatClampNeg) ≤ 0 → ∀ y_47 : Int32, y_47 = x4_39 + (1 : Int32) → kb7 y_39 x4_39 y_47 V U))
def bl_M_pick_7 (θ : TH) (a0_7 : Nat) (x1_7 : Int32) (K : Int32 → VT → UT → Prop) (kb7 : Int32 → Int32 → Int32 → VT → UT → Prop) (x2_7 : Int32) (x3_7 : Int32) (x4_7 : Int32) (V : VT) (U : UT) : Prop := isO θ a0_7 12 ∧ (U a0_7 46) ≠ 0 ∧ ∃ n_3, isA θ (U a0_7 46) 0 n_3 ∧ vp_in x1_7 n_3 ∧ (((V (U a0_7 46) x1_7.toNatClampNeg) ≤ x4_7 → ∃ n, wl_M_pick_75 θ a0_7 x1_7 x2_7 x3_7 K n (0 : Int32) (1 : Int32) V U) ∧ (¬ (V (U a0_7 46) x1_7.toNatClampNeg) ≤ x4_7 → (U a0_7 47) ≠ 0 ∧ ∃ n_8, isA θ (U a0_7 47) 0 n_8 ∧ vp_in (((8 : Int32) * x1_7) + x4_7) n_8 ∧ (((V (U a0_7 47) (((8 : Int32) * x1_7) + x4_7).toNatClampNeg) ≤ 0 → wb_M_pick_39 θ a0_7 x1_7 x3_7 x4_7 (0 : Int32) x2_7 kb7 K V U) ∧ (¬ (V (U a0_7 47) (((8 : Int32) * x1_7) + x4_7).toNatClampNeg) ≤ 0 → wb_M_pick_39 θ a0_7 x1_7 x3_7 x4_7 (1 : Int32) x2_7 kb7 K V U))))
def wl_M_pick_7 (θ : TH) (a0_7 : Nat) (x1_7 : Int32) (K : Int32 → VT → UT → Prop) : Nat → Int32 → Int32 → Int32 → VT → UT → Prop
  | 0, _, _, _, _, _ => False
  | n + 1, x2_7, x3_7, x4_7, V, U => bl_M_pick_7 θ a0_7 x1_7 K (wl_M_pick_7 θ a0_7 x1_7 K n) x2_7 x3_7 x4_7 V U
def wp_M_pick (θ : TH) (a0 : Nat) (x1 : Int32) (V : VT) (U : UT) (K : Int32 → VT → UT → Prop) : Prop := ∃ n, wl_M_pick_7 θ a0 x1 K n (0 : Int32) (0 : Int32) (0 : Int32) V U
set_option maxRecDepth 100000 in
set_option maxHeartbeats 4000000 in
theorem c_M_pick (l : Launch) (θ : TH) (a0 : Nat) (x1 : Int32) (V : VT) (U : UT) (K : Int32 → VT → UT → Prop) (hw : wp_M_pick θ a0 x1 V U K) : CMi l yM_pick kM_pick 7 (some .int) rmM_pick θ [.ref a0, .int x1] V U K := by
  refine g_met nRM (by decide +kernel) rfl (Nat.le_of_ble_eq_true rfl) (fun p e s m args below meth c ls hC hr hlk hwo hl => ?_)
  have hx := hC.1
  have hb := hC.2.1
  have hS : Sx θ s s.heap [] := va_S.rf
  have hl : lv_has ls 7 [(0, .ref a0), (1, .int x1)] := hl
  have L75 : ∀ (a0_75 : Nat) (x1_75 : Int32) (x2_75 : Int32) (x3_75 : Int32) (n75 : Nat) (x4_75 : Int32) (x5_75 : Int32) (V : VT) (U : UT) (H : Heap) (locs : List Loc) (ls : Array Slot), wl_M_pick_75 θ a0_75 x1_75 x2_75 x3_75 K n75 x4_75 x5_75 V U → wo θ V U H → Sx θ s H locs → lv_has ls 7 [(0, .ref a0_75), (1, .int x1_75), (2, .int x2_75), (3, .int x3_75), (4, .int x4_75), (5, .int x5_75)] → W p l e rmM_pick s m args below meth c H locs 0 0 (MQ below (QI θ K) args s 0 0 (aT θ)) (F0 m 75 ls []) := by
    intro a0_75 x1_75 x2_75 x3_75 n75
    induction n75 with
    | zero => intro x4_75 x5_75 V U H locs ls hw hwo hS hl; exact (show False from hw).elim
    | succ n75 ih75 =>
      have L113 : ∀ (x4_113 : Int32) (x5_113 : Int32) (n113 : Nat) (x6_113 : Int32) (V : VT) (U : UT) (H : Heap) (locs : List Loc) (ls : Array Slot), wl_M_pick_113 θ a0_75 x1_75 x2_75 x3_75 x4_113 x5_113 (wl_M_pick_75 θ a0_75 x1_75 x2_75 x3_75 K n75) K n113 x6_113 V U → wo θ V U H → Sx θ s H locs → lv_has ls 7 [(0, .ref a0_75), (1, .int x1_75), (2, .int x2_75), (3, .int x3_75), (4, .int x4_113), (5, .int x5_113), (6, .int x6_113)] → W p l e rmM_pick s m args below meth c H locs 0 0 (MQ below (QI θ K) args s 0 0 (aT θ)) (F0 m 113 ls []) := by
        intro x4_113 x5_113 n113
        induction n113 with
        | zero => intro x6_113 V U H locs ls hw hwo hS hl; exact (show False from hw).elim
        | succ n113 ih113 =>
          intro x6_113 V U H locs ls hw hwo hS hl
          replace hw : bl_M_pick_113 θ a0_75 x1_75 x2_75 x3_75 x4_113 x5_113 (wl_M_pick_75 θ a0_75 x1_75 x2_75 x3_75 K n75) K (wl_M_pick_113 θ a0_75 x1_75 x2_75 x3_75 x4_113 x5_113 (wl_M_pick_75 θ a0_75 x1_75 x2_75 x3_75 K n75) K n113) x6_113 V U := hw
          unfold bl_M_pick_113 at hw
          refine lv_iload hx hb dM_pick_113 (lv_at hl 6 rfl) ?_
          refine lv_aload_n hx hb dM_pick_115 rfl (lv_at hl 0 rfl) ?_
          obtain ⟨ho_20, hw⟩ := hw
          obtain ⟨hz_21, hw⟩ := hw
          refine g_getR hC fkM_83 rfl hwo ho_20 hz_21 dM_pick_116 ?_
          refine lv_iload_n hx hb dM_pick_119 rfl (lv_at hl 1 rfl) ?_
          obtain ⟨n_22, ha_23, hw⟩ := hw
          obtain ⟨hi_24, hw⟩ := hw
          refine g_iald hC hwo ha_23 hi_24 dM_pick_120 ?_
          refine lv_icmp_ge (tgt := 167) hx hb dM_pick_121 (by decide) (fun hc_25 => ?_) (fun hc_25 => ?_)
          · replace hw := hw.1 hc_25
            obtain ⟨y_26, ey_26⟩ : ∃ z : Int32, z = x5_113 + (1 : Int32) := ⟨_, rfl⟩
            replace hw := hw y_26 ey_26
            refine lv_iinc (k := 5) (v := y_26) (lv' := [(5, .int y_26), (0, .ref a0_75), (1, .int x1_75), (2, .int x2_75), (3, .int x3_75), (4, .int x4_113), (6, .int x6_113)]) hx hb dM_pick_167 hl rfl (by rw [ey_26]; rfl) (by decide) rfl (fun ls hl => ?_)
            refine lv_goto (tgt := 75) hx hb dM_pick_170 (by decide) ?_
            exact ih75 _ _ _ _ _ _ _ hw hwo hS (lv_sub hl [1, 2, 3, 4, 5, 0] rfl)
          · replace hw := hw.2 hc_25
            refine lv_aload_n hx hb dM_pick_124 rfl (lv_at hl 0 rfl) ?_
            obtain ⟨hz_27, hw⟩ := hw
            refine g_getR hC fkM_86 rfl hwo ho_20 hz_27 dM_pick_125 ?_
            refine lv_bipush (v := 8) hx hb dM_pick_128 (by decide) ?_
            refine lv_iload_n hx hb dM_pick_130 rfl (lv_at hl 1 rfl) ?_
            refine lv_imul hx hb dM_pick_131 ?_
            refine lv_iload hx hb dM_pick_132 (lv_at hl 6 rfl) ?_
            refine lv_iadd hx hb dM_pick_134 ?_
            obtain ⟨n_28, ha_29, hw⟩ := hw
            obtain ⟨hi_30, hw⟩ := hw
            refine g_iald hC hwo ha_29 hi_30 dM_pick_135 ?_
            refine lv_iload hx hb dM_pick_136 (lv_at hl 5 rfl) ?_
            refine lv_icmp_ne (tgt := 161) hx hb dM_pick_138 (by decide) (fun hc_31 => ?_) (fun hc_31 => ?_)
            · replace hw := hw.1 hc_31
              obtain ⟨y_32, ey_32⟩ : ∃ z : Int32, z = x6_113 + (1 : Int32) := ⟨_, rfl⟩
              replace hw := hw y_32 ey_32
              refine lv_iinc (k := 6) (v := y_32) (lv' := [(6, .int y_32), (0, .ref a0_75), (1, .int x1_75), (2, .int x2_75), (3, .int x3_75), (4, .int x4_113), (5, .int x5_113)]) hx hb dM_pick_161 hl rfl (by rw [ey_32]; rfl) (by decide) rfl (fun ls hl => ?_)
              refine lv_goto (tgt := 113) hx hb dM_pick_164 (by decide) ?_
              exact ih113 _ _ _ _ _ _ hw hwo hS (lv_sub hl [1, 2, 3, 4, 5, 6, 0] rfl)
            · replace hw := hw.2 hc_31
              refine lv_aload_n hx hb dM_pick_141 rfl (lv_at hl 0 rfl) ?_
              obtain ⟨hz_33, hw⟩ := hw
              refine g_getR hC fkM_89 rfl hwo ho_20 hz_33 dM_pick_142 ?_
              refine lv_bipush (v := 8) hx hb dM_pick_145 (by decide) ?_
              refine lv_iload_n hx hb dM_pick_147 rfl (lv_at hl 1 rfl) ?_
              refine lv_imul hx hb dM_pick_148 ?_
              refine lv_iload hx hb dM_pick_149 (lv_at hl 6 rfl) ?_
              refine lv_iadd hx hb dM_pick_151 ?_
              obtain ⟨n_34, ha_35, hw⟩ := hw
              obtain ⟨hi_36, hw⟩ := hw
              refine g_iald hC hwo ha_35 hi_36 dM_pick_152 ?_
              refine lv_iload hx hb dM_pick_153 (lv_at hl 4 rfl) ?_
              refine lv_icmp_ne (tgt := 161) hx hb dM_pick_155 (by decide) (fun hc_37 => ?_) (fun hc_37 => ?_)
              · replace hw := hw.1 hc_37
                obtain ⟨y_38, ey_38⟩ : ∃ z : Int32, z = x6_113 + (1 : Int32) := ⟨_, rfl⟩
                replace hw := hw y_38 ey_38
                refine lv_iinc (k := 6) (v := y_38) (lv' := [(6, .int y_38), (0, .ref a0_75), (1, .int x1_75), (2, .int x2_75), (3, .int x3_75), (4, .int x4_113), (5, .int x5_113)]) hx hb dM_pick_161 hl rfl (by rw [ey_38]; rfl) (by decide) rfl (fun ls hl => ?_)
                refine lv_goto (tgt := 113) hx hb dM_pick_164 (by decide) ?_
                exact ih113 _ _ _ _ _ _ hw hwo hS (lv_sub hl [1, 2, 3, 4, 5, 6, 0] rfl)
              · replace hw := hw.2 hc_37
                refine lv_iload hx hb dM_pick_158 (lv_at hl 6 rfl) ?_
                exact g_iret hC hr hlk hw hwo hS dM_pick_160
      intro x4_75 x5_75 V U H locs ls hw hwo hS hl
      replace hw : bl_M_pick_75 θ a0_75 x1_75 x2_75 x3_75 K (wl_M_pick_75 θ a0_75 x1_75 x2_75 x3_75 K n75) x4_75 x5_75 V U := hw
      unfold bl_M_pick_75 at hw
      refine lv_iload hx hb dM_pick_75 (lv_at hl 5 rfl) ?_
      refine lv_bipush (v := 8) hx hb dM_pick_77 (by decide) ?_
      refine lv_icmp_gt (tgt := 173) hx hb dM_pick_79 (by decide) (fun hc_12 => ?_) (fun hc_12 => ?_)
      · replace hw := hw.1 hc_12
        refine lv_iconst (v := -1) hx hb dM_pick_173 (by decide) ?_
        exact g_iret hC hr hlk hw hwo hS dM_pick_174
      · replace hw := hw.2 hc_12
        refine lv_iconst (v := 2) hx hb dM_pick_82 (by decide) ?_
        refine lv_iload hx hb dM_pick_83 (lv_at hl 4 rfl) ?_
        refine lv_imul hx hb dM_pick_85 ?_
        refine lv_aload_n hx hb dM_pick_86 rfl (lv_at hl 0 rfl) ?_
        refine lv_iconst (v := 1) hx hb dM_pick_87 (by decide) ?_
        obtain ⟨ho_15, hw⟩ := hw
        refine g_Vi (rest := [.int ((2 : Int32) * x4_75)]) hC (c_M_read l θ _ _ _ _ _ hw) mi_M_read mlM_249 mv_M_read ci_12 ho_15 hwo hS ⟨rfl, rfl⟩ ⟨by decide, by decide⟩ rfl hl.1 rfl (Nat.le_of_ble_eq_true rfl) dM_pick_88 (fun r_16 V_13 U_14 hw H locs hwo hS => ?_)
        refine lv_iadd hx hb dM_pick_91 ?_
        refine lv_topi (fun y_17 ey_17 => ?_)
        replace hw := hw y_17 ey_17
        refine lv_istore (i := 4) (lv' := [(4, .int y_17), (0, .ref a0_75), (1, .int x1_75), (2, .int x2_75), (3, .int x3_75), (5, .int x5_75)]) hx hb dM_pick_92 hl (by decide) rfl (fun ls hl => ?_)
        refine lv_aload_n hx hb dM_pick_94 rfl (lv_at hl 1 rfl) ?_
        refine g_getI hC fkM_243 rfl hwo ho_15 dM_pick_95 ?_
        refine lv_if_eq (tgt := 103) hx hb dM_pick_98 (by decide) (fun hc_18 => ?_) (fun hc_18 => ?_)
        · replace hw := hw.1 hc_18
          refine lv_iload_n hx hb dM_pick_103 rfl (lv_at hl 3 rfl) ?_
          refine lv_iconst (v := 1) hx hb dM_pick_104 (by decide) ?_
          refine lv_icmp_ne (tgt := 110) hx hb dM_pick_105 (by decide) (fun hc_19 => ?_) (fun hc_19 => ?_)
          · replace hw := hw.1 hc_19
            refine lv_iconst (v := 0) hx hb dM_pick_110 (by decide) ?_
            refine lv_istore (i := 6) (lv' := [(6, .int (0 : Int32)), (4, .int y_17), (0, .ref a0_75), (1, .int x1_75), (2, .int x2_75), (3, .int x3_75), (5, .int x5_75)]) hx hb dM_pick_111 hl (by decide) rfl (fun ls hl => ?_)
            obtain ⟨n, hw⟩ := hw
            exact L113 _ _ n _ _ _ _ _ _ hw hwo hS (lv_sub hl [2, 3, 4, 5, 1, 6, 0] rfl)
          · replace hw := hw.2 hc_19
            refine lv_iload_n hx hb dM_pick_108 rfl (lv_at hl 4 rfl) ?_
            exact g_iret hC hr hlk hw hwo hS dM_pick_109
        · replace hw := hw.2 hc_18
          refine lv_iconst (v := -1) hx hb dM_pick_101 (by decide) ?_
          exact g_iret hC hr hlk hw hwo hS dM_pick_102
  have L7 : ∀ (a0_7 : Nat) (x1_7 : Int32) (n7 : Nat) (x2_7 : Int32) (x3_7 : Int32) (x4_7 : Int32) (V : VT) (U : UT) (H : Heap) (locs : List Loc) (ls : Array Slot), wl_M_pick_7 θ a0_7 x1_7 K n7 x2_7 x3_7 x4_7 V U → wo θ V U H → Sx θ s H locs → lv_has ls 7 [(0, .ref a0_7), (1, .int x1_7), (2, .int x2_7), (3, .int x3_7), (4, .int x4_7)] → W p l e rmM_pick s m args below meth c H locs 0 0 (MQ below (QI θ K) args s 0 0 (aT θ)) (F0 m 7 ls []) := by
    intro a0_7 x1_7 n7
    induction n7 with
    | zero => intro x2_7 x3_7 x4_7 V U H locs ls hw hwo hS hl; exact (show False from hw).elim
    | succ n7 ih7 =>
      have J39 : ∀ (x3_39 : Int32) (x4_39 : Int32) (z0_39 : Int32) (z1_39 : Int32) (V : VT) (U : UT) (H : Heap) (locs : List Loc) (ls : Array Slot), wb_M_pick_39 θ a0_7 x1_7 x3_39 x4_39 z0_39 z1_39 (wl_M_pick_7 θ a0_7 x1_7 K n7) K V U → wo θ V U H → Sx θ s H locs → lv_has ls 7 [(0, .ref a0_7), (1, .int x1_7), (3, .int x3_39), (4, .int x4_39)] → W p l e rmM_pick s m args below meth c H locs 0 0 (MQ below (QI θ K) args s 0 0 (aT θ)) (F0 m 39 ls [.int z0_39, .int z1_39]) := by
        intro x3_39 x4_39 z0_39 z1_39 V U H locs ls hw hwo hS hl
        unfold wb_M_pick_39 at hw
        refine lv_iadd hx hb dM_pick_39 ?_
        refine lv_topi (fun y_39 ey_39 => ?_)
        replace hw := hw y_39 ey_39
        refine lv_istore_n (i := 2) (lv' := [(2, .int y_39), (0, .ref a0_7), (1, .int x1_7), (3, .int x3_39), (4, .int x4_39)]) hx hb dM_pick_40 rfl hl (by decide) rfl (fun ls hl => ?_)
        refine lv_aload_n hx hb dM_pick_41 rfl (lv_at hl 1 rfl) ?_
        obtain ⟨ho_40, hw⟩ := hw
        obtain ⟨hz_41, hw⟩ := hw
        refine g_getR hC fkM_86 rfl hwo ho_40 hz_41 dM_pick_42 ?_
        refine lv_bipush (v := 8) hx hb dM_pick_45 (by decide) ?_
        refine lv_iload_n hx hb dM_pick_47 rfl (lv_at hl 2 rfl) ?_
        refine lv_imul hx hb dM_pick_48 ?_
        refine lv_iload hx hb dM_pick_49 (lv_at hl 4 rfl) ?_
        refine lv_iadd hx hb dM_pick_51 ?_
        obtain ⟨n_42, ha_43, hw⟩ := hw
        obtain ⟨hi_44, hw⟩ := hw
        refine g_iald hC hwo ha_43 hi_44 dM_pick_52 ?_
        refine lv_if_le (tgt := 61) hx hb dM_pick_53 (by decide) (fun hc_45 => ?_) (fun hc_45 => ?_)
        · replace hw := hw.1 hc_45
          refine lv_iload_n hx hb dM_pick_61 rfl (lv_at hl 3 rfl) ?_
          refine lv_istore_n (i := 3) (lv' := [(3, .int x3_39), (2, .int y_39), (0, .ref a0_7), (1, .int x1_7), (4, .int x4_39)]) hx hb dM_pick_62 rfl hl (by decide) rfl (fun ls hl => ?_)
          obtain ⟨y_46, ey_46⟩ : ∃ z : Int32, z = x4_39 + (1 : Int32) := ⟨_, rfl⟩
          replace hw := hw y_46 ey_46
          refine lv_iinc (k := 4) (v := y_46) (lv' := [(4, .int y_46), (3, .int x3_39), (2, .int y_39), (0, .ref a0_7), (1, .int x1_7)]) hx hb dM_pick_63 hl rfl (by rw [ey_46]; rfl) (by decide) rfl (fun ls hl => ?_)
          refine lv_goto (tgt := 7) hx hb dM_pick_66 (by decide) ?_
          exact ih7 _ _ _ _ _ _ _ _ hw hwo hS (lv_sub hl [3, 4, 2, 1, 0] rfl)
        · replace hw := hw.2 hc_45
          refine lv_iload hx hb dM_pick_56 (lv_at hl 4 rfl) ?_
          refine lv_goto (tgt := 62) hx hb dM_pick_58 (by decide) ?_
          refine lv_istore_n (i := 3) (lv' := [(3, .int x4_39), (2, .int y_39), (0, .ref a0_7), (1, .int x1_7), (4, .int x4_39)]) hx hb dM_pick_62 rfl hl (by decide) rfl (fun ls hl => ?_)
          obtain ⟨y_47, ey_47⟩ : ∃ z : Int32, z = x4_39 + (1 : Int32) := ⟨_, rfl⟩
          replace hw := hw y_47 ey_47
          refine lv_iinc (k := 4) (v := y_47) (lv' := [(4, .int y_47), (3, .int x4_39), (2, .int y_39), (0, .ref a0_7), (1, .int x1_7)]) hx hb dM_pick_63 hl rfl (by rw [ey_47]; rfl) (by decide) rfl (fun ls hl => ?_)
          refine lv_goto (tgt := 7) hx hb dM_pick_66 (by decide) ?_
          exact ih7 _ _ _ _ _ _ _ _ hw hwo hS (lv_sub hl [3, 4, 2, 1, 0] rfl)
      intro x2_7 x3_7 x4_7 V U H locs ls hw hwo hS hl
      replace hw : bl_M_pick_7 θ a0_7 x1_7 K (wl_M_pick_7 θ a0_7 x1_7 K n7) x2_7 x3_7 x4_7 V U := hw
      unfold bl_M_pick_7 at hw
      refine lv_iload hx hb dM_pick_7 (lv_at hl 4 rfl) ?_
      refine lv_aload_n hx hb dM_pick_9 rfl (lv_at hl 0 rfl) ?_
      obtain ⟨ho_1, hw⟩ := hw
      obtain ⟨hz_2, hw⟩ := hw
      refine g_getR hC fkM_83 rfl hwo ho_1 hz_2 dM_pick_10 ?_
      refine lv_iload_n hx hb dM_pick_13 rfl (lv_at hl 1 rfl) ?_
      obtain ⟨n_3, ha_4, hw⟩ := hw
      obtain ⟨hi_5, hw⟩ := hw
      refine g_iald hC hwo ha_4 hi_5 dM_pick_14 ?_
      refine lv_icmp_ge (tgt := 69) hx hb dM_pick_15 (by decide) (fun hc_6 => ?_) (fun hc_6 => ?_)
      · replace hw := hw.1 hc_6
        refine lv_iconst (v := 0) hx hb dM_pick_69 (by decide) ?_
        refine lv_istore (i := 4) (lv' := [(4, .int (0 : Int32)), (0, .ref a0_7), (1, .int x1_7), (2, .int x2_7), (3, .int x3_7)]) hx hb dM_pick_70 hl (by decide) rfl (fun ls hl => ?_)
        refine lv_iconst (v := 1) hx hb dM_pick_72 (by decide) ?_
        refine lv_istore (i := 5) (lv' := [(5, .int (1 : Int32)), (4, .int (0 : Int32)), (0, .ref a0_7), (1, .int x1_7), (2, .int x2_7), (3, .int x3_7)]) hx hb dM_pick_73 hl (by decide) rfl (fun ls hl => ?_)
        obtain ⟨n, hw⟩ := hw
        exact L75 _ _ _ _ n _ _ _ _ _ _ _ hw hwo hS (lv_sub hl [2, 3, 4, 5, 1, 0] rfl)
      · replace hw := hw.2 hc_6
        refine lv_iload_n hx hb dM_pick_18 rfl (lv_at hl 2 rfl) ?_
        refine lv_aload_n hx hb dM_pick_19 rfl (lv_at hl 0 rfl) ?_
        obtain ⟨hz_7, hw⟩ := hw
        refine g_getR hC fkM_86 rfl hwo ho_1 hz_7 dM_pick_20 ?_
        refine lv_bipush (v := 8) hx hb dM_pick_23 (by decide) ?_
        refine lv_iload_n hx hb dM_pick_25 rfl (lv_at hl 1 rfl) ?_
        refine lv_imul hx hb dM_pick_26 ?_
        refine lv_iload hx hb dM_pick_27 (lv_at hl 4 rfl) ?_
        refine lv_iadd hx hb dM_pick_29 ?_
        obtain ⟨n_8, ha_9, hw⟩ := hw
        obtain ⟨hi_10, hw⟩ := hw
        refine g_iald hC hwo ha_9 hi_10 dM_pick_30 ?_
        refine lv_if_le (tgt := 38) hx hb dM_pick_31 (by decide) (fun hc_11 => ?_) (fun hc_11 => ?_)
        · replace hw := hw.1 hc_11
          refine lv_iconst (v := 0) hx hb dM_pick_38 (by decide) ?_
          exact J39 _ _ _ _ _ _ _ _ _ hw hwo hS (lv_sub hl [0, 1, 3, 4] rfl)
        · replace hw := hw.2 hc_11
          refine lv_iconst (v := 1) hx hb dM_pick_34 (by decide) ?_
          refine lv_goto (tgt := 39) hx hb dM_pick_35 (by decide) ?_
          exact J39 _ _ _ _ _ _ _ _ _ hw hwo hS (lv_sub hl [0, 1, 3, 4] rfl)
  unfold wp_M_pick at hw
  refine lv_iconst (v := 0) hx hb dM_pick_0 (by decide) ?_
  refine lv_istore_n (i := 2) (lv' := [(2, .int (0 : Int32)), (0, .ref a0), (1, .int x1)]) hx hb dM_pick_1 rfl hl (by decide) rfl (fun ls hl => ?_)
  refine lv_iconst (v := 0) hx hb dM_pick_2 (by decide) ?_
  refine lv_istore_n (i := 3) (lv' := [(3, .int (0 : Int32)), (2, .int (0 : Int32)), (0, .ref a0), (1, .int x1)]) hx hb dM_pick_3 rfl hl (by decide) rfl (fun ls hl => ?_)
  refine lv_iconst (v := 0) hx hb dM_pick_4 (by decide) ?_
  refine lv_istore (i := 4) (lv' := [(4, .int (0 : Int32)), (3, .int (0 : Int32)), (2, .int (0 : Int32)), (0, .ref a0), (1, .int x1)]) hx hb dM_pick_5 hl (by decide) rfl (fun ls hl => ?_)
  obtain ⟨n, hw⟩ := hw
  exact L7 _ _ n _ _ _ _ _ _ _ _ hw hwo hS (lv_sub hl [3, 4, 2, 1, 0] rfl)
