theorem dM_fill_0 : decode kM_fill 0 = .ok (.aload_n 0, 1) := by decide +kernel
theorem dM_fill_1 : decode kM_fill 1 = .ok (.getfield 101, 3) := by decide +kernel
theorem dM_fill_4 : decode kM_fill 4 = .ok (.aload_n 0, 1) := by decide +kernel
theorem dM_fill_5 : decode kM_fill 5 = .ok (.getfield 104, 3) := by decide +kernel
theorem dM_fill_8 : decode kM_fill 8 = .ok (.bipush 33, 2) := by decide +kernel
theorem dM_fill_10 : decode kM_fill 10 = .ok (.iadd, 1) := by decide +kernel
theorem dM_fill_11 : decode kM_fill 11 = .ok (.iaload, 1) := by decide +kernel
theorem dM_fill_12 : decode kM_fill 12 = .ok (.aload_n 0, 1) := by decide +kernel
theorem dM_fill_13 : decode kM_fill 13 = .ok (.getfield 80, 3) := by decide +kernel
theorem dM_fill_16 : decode kM_fill 16 = .ok (.iload_n 3, 1) := by decide +kernel
theorem dM_fill_17 : decode kM_fill 17 = .ok (.iaload, 1) := by decide +kernel
theorem dM_fill_18 : decode kM_fill 18 = .ok (.idiv, 1) := by decide +kernel
theorem dM_fill_19 : decode kM_fill 19 = .ok (.istore 4, 2) := by decide +kernel
theorem dM_fill_21 : decode kM_fill 21 = .ok (.iconst 0, 1) := by decide +kernel
theorem dM_fill_22 : decode kM_fill 22 = .ok (.istore 5, 2) := by decide +kernel
theorem dM_fill_24 : decode kM_fill 24 = .ok (.iload 5, 2) := by decide +kernel
theorem dM_fill_26 : decode kM_fill 26 = .ok (.iload 4, 2) := by decide +kernel
theorem dM_fill_28 : decode kM_fill 28 = .ok (.if_icmp .ge 123, 3) := by decide +kernel
theorem dM_fill_31 : decode kM_fill 31 = .ok (.aload_n 0, 1) := by decide +kernel
theorem dM_fill_32 : decode kM_fill 32 = .ok (.iload_n 3, 1) := by decide +kernel
theorem dM_fill_33 : decode kM_fill 33 = .ok (.invokevirtual 336, 3) := by decide +kernel
theorem dM_fill_36 : decode kM_fill 36 = .ok (.istore 6, 2) := by decide +kernel
theorem dM_fill_38 : decode kM_fill 38 = .ok (.iload 6, 2) := by decide +kernel
theorem dM_fill_40 : decode kM_fill 40 = .ok (.ifCond .ge 5, 3) := by decide +kernel
theorem dM_fill_43 : decode kM_fill 43 = .ok (.iconst 0, 1) := by decide +kernel
theorem dM_fill_44 : decode kM_fill 44 = .ok (.ireturn, 1) := by decide +kernel
theorem dM_fill_45 : decode kM_fill 45 = .ok (.iconst 0, 1) := by decide +kernel
theorem dM_fill_46 : decode kM_fill 46 = .ok (.istore 7, 2) := by decide +kernel
theorem dM_fill_48 : decode kM_fill 48 = .ok (.iload 7, 2) := by decide +kernel
theorem dM_fill_50 : decode kM_fill 50 = .ok (.aload_n 0, 1) := by decide +kernel
theorem dM_fill_51 : decode kM_fill 51 = .ok (.getfield 80, 3) := by decide +kernel
theorem dM_fill_54 : decode kM_fill 54 = .ok (.iload_n 3, 1) := by decide +kernel
theorem dM_fill_55 : decode kM_fill 55 = .ok (.iaload, 1) := by decide +kernel
theorem dM_fill_56 : decode kM_fill 56 = .ok (.if_icmp .ge 89, 3) := by decide +kernel
theorem dM_fill_59 : decode kM_fill 59 = .ok (.aload_n 0, 1) := by decide +kernel
theorem dM_fill_60 : decode kM_fill 60 = .ok (.getfield 101, 3) := by decide +kernel
theorem dM_fill_63 : decode kM_fill 63 = .ok (.aload_n 0, 1) := by decide +kernel
theorem dM_fill_64 : decode kM_fill 64 = .ok (.getfield 104, 3) := by decide +kernel
theorem dM_fill_67 : decode kM_fill 67 = .ok (.bipush 30, 2) := by decide +kernel
theorem dM_fill_69 : decode kM_fill 69 = .ok (.iadd, 1) := by decide +kernel
theorem dM_fill_70 : decode kM_fill 70 = .ok (.iaload, 1) := by decide +kernel
theorem dM_fill_71 : decode kM_fill 71 = .ok (.ifCond .ne 16, 3) := by decide +kernel
theorem dM_fill_74 : decode kM_fill 74 = .ok (.iload_n 2, 1) := by decide +kernel
theorem dM_fill_75 : decode kM_fill 75 = .ok (.iload 5, 2) := by decide +kernel
theorem dM_fill_77 : decode kM_fill 77 = .ok (.iadd, 1) := by decide +kernel
theorem dM_fill_78 : decode kM_fill 78 = .ok (.iload 7, 2) := by decide +kernel
theorem dM_fill_80 : decode kM_fill 80 = .ok (.iload 4, 2) := by decide +kernel
theorem dM_fill_82 : decode kM_fill 82 = .ok (.imul, 1) := by decide +kernel
theorem dM_fill_83 : decode kM_fill 83 = .ok (.iadd, 1) := by decide +kernel
theorem dM_fill_84 : decode kM_fill 84 = .ok (.goto 17, 3) := by decide +kernel
theorem dM_fill_87 : decode kM_fill 87 = .ok (.iload_n 2, 1) := by decide +kernel
theorem dM_fill_88 : decode kM_fill 88 = .ok (.iload 5, 2) := by decide +kernel
theorem dM_fill_90 : decode kM_fill 90 = .ok (.aload_n 0, 1) := by decide +kernel
theorem dM_fill_91 : decode kM_fill 91 = .ok (.getfield 80, 3) := by decide +kernel
theorem dM_fill_94 : decode kM_fill 94 = .ok (.iload_n 3, 1) := by decide +kernel
theorem dM_fill_95 : decode kM_fill 95 = .ok (.iaload, 1) := by decide +kernel
theorem dM_fill_96 : decode kM_fill 96 = .ok (.imul, 1) := by decide +kernel
theorem dM_fill_97 : decode kM_fill 97 = .ok (.iadd, 1) := by decide +kernel
theorem dM_fill_98 : decode kM_fill 98 = .ok (.iload 7, 2) := by decide +kernel
theorem dM_fill_100 : decode kM_fill 100 = .ok (.iadd, 1) := by decide +kernel
theorem dM_fill_101 : decode kM_fill 101 = .ok (.istore 8, 2) := by decide +kernel
theorem dM_fill_103 : decode kM_fill 103 = .ok (.aload_n 0, 1) := by decide +kernel
theorem dM_fill_104 : decode kM_fill 104 = .ok (.iload_n 1, 1) := by decide +kernel
theorem dM_fill_105 : decode kM_fill 105 = .ok (.iload 8, 2) := by decide +kernel
theorem dM_fill_107 : decode kM_fill 107 = .ok (.invokevirtual 373, 3) := by decide +kernel
theorem dM_fill_110 : decode kM_fill 110 = .ok (.istore 9, 2) := by decide +kernel
theorem dM_fill_112 : decode kM_fill 112 = .ok (.aload_n 0, 1) := by decide +kernel
theorem dM_fill_113 : decode kM_fill 113 = .ok (.getfield 114, 3) := by decide +kernel
theorem dM_fill_116 : decode kM_fill 116 = .ok (.iload 9, 2) := by decide +kernel
theorem dM_fill_118 : decode kM_fill 118 = .ok (.dup2, 1) := by decide +kernel
theorem dM_fill_119 : decode kM_fill 119 = .ok (.iaload, 1) := by decide +kernel
theorem dM_fill_120 : decode kM_fill 120 = .ok (.aload_n 0, 1) := by decide +kernel
theorem dM_fill_121 : decode kM_fill 121 = .ok (.getfield 95, 3) := by decide +kernel
theorem dM_fill_124 : decode kM_fill 124 = .ok (.bipush 32, 2) := by decide +kernel
theorem dM_fill_126 : decode kM_fill 126 = .ok (.iload_n 3, 1) := by decide +kernel
theorem dM_fill_127 : decode kM_fill 127 = .ok (.imul, 1) := by decide +kernel
theorem dM_fill_128 : decode kM_fill 128 = .ok (.iconst 4, 1) := by decide +kernel
theorem dM_fill_129 : decode kM_fill 129 = .ok (.iload 6, 2) := by decide +kernel
theorem dM_fill_131 : decode kM_fill 131 = .ok (.imul, 1) := by decide +kernel
theorem dM_fill_132 : decode kM_fill 132 = .ok (.iadd, 1) := by decide +kernel
theorem dM_fill_133 : decode kM_fill 133 = .ok (.iload 7, 2) := by decide +kernel
theorem dM_fill_135 : decode kM_fill 135 = .ok (.iadd, 1) := by decide +kernel
theorem dM_fill_136 : decode kM_fill 136 = .ok (.iaload, 1) := by decide +kernel
theorem dM_fill_137 : decode kM_fill 137 = .ok (.iadd, 1) := by decide +kernel
theorem dM_fill_138 : decode kM_fill 138 = .ok (.iastore, 1) := by decide +kernel
theorem dM_fill_139 : decode kM_fill 139 = .ok (.iinc 7 1, 3) := by decide +kernel
theorem dM_fill_142 : decode kM_fill 142 = .ok (.goto (-94), 3) := by decide +kernel
theorem dM_fill_145 : decode kM_fill 145 = .ok (.iinc 5 1, 3) := by decide +kernel
theorem dM_fill_148 : decode kM_fill 148 = .ok (.goto (-124), 3) := by decide +kernel
theorem dM_fill_151 : decode kM_fill 151 = .ok (.iconst 1, 1) := by decide +kernel
theorem dM_fill_152 : decode kM_fill 152 = .ok (.ireturn, 1) := by decide +kernel
def wb_M_fill_101 (θ : TH) (a0_24 : Nat) (x1_24 : Int32) (x2_24 : Int32) (x3_24 : Int32) (x4_24 : Int32) (x5_48 : Int32) (x6_48 : Int32) (x7_101 : Int32) (z0_101 : Int32) (kb24 : Int32 → VT → UT → Prop) (kb48 : Int32 → VT → UT → Prop) (K : Int32 → VT → UT → Prop) (V : VT) (U : UT) : Prop := isO θ a0_24 12 ∧ wp_M_cell θ a0_24 x1_24 z0_101 V U (fun r_33 V_30 U_31 => (U_31 a0_24 61) ≠ 0 ∧ ∃ n_35, isA θ (U_31 a0_24 61) 0 n_35 ∧ vp_in r_33 n_35 ∧ (U_31 a0_24 50) ≠ 0 ∧ ∃ n_39, isA θ (U_31 a0_24 50) 0 n_39 ∧ vp_in ((((32 : Int32) * x3_24) + ((4 : Int32) * x6_48)) + x7_101) n_39 ∧ ∀ V_42 : VT, V_42 = up2 V_30 (U_31 a0_24 61) r_33.toNatClampNeg ((V_30 (U_31 a0_24 61) r_33.toNatClampNeg) + (V_30 (U_31 a0_24 50) ((((32 : Int32) * x3_24) + ((4 : Int32) * x6_48)) + x7_101).toNatClampNeg)) → ∀ y_43 : Int32, y_43 = x7_101 + (1 : Int32) → kb48 y_43 V_42 U_31)
def bl_M_fill_48 (θ : TH) (a0_24 : Nat) (x1_24 : Int32) (x2_24 : Int32) (x3_24 : Int32) (x4_24 : Int32) (x5_48 : Int32) (x6_48 : Int32) (kb24 : Int32 → VT → UT → Prop) (K : Int32 → VT → UT → Prop) (kb48 : Int32 → VT → UT → Prop) (x7_48 : Int32) (V : VT) (U : UT) : Prop := isO θ a0_24 12 ∧ (U a0_24 45) ≠ 0 ∧ ∃ n_20, isA θ (U a0_24 45) 0 n_20 ∧ vp_in x3_24 n_20 ∧ (((V (U a0_24 45) x3_24.toNatClampNeg) ≤ x7_48 → ∀ y_24 : Int32, y_24 = x5_48 + (1 : Int32) → kb24 y_24 V U) ∧ (¬ (V (U a0_24 45) x3_24.toNatClampNeg) ≤ x7_48 → (U a0_24 52) ≠ 0 ∧ ∃ n_26, isA θ (U a0_24 52) 0 n_26 ∧ vp_in ((V a0_24 53) + (30 : Int32)) n_26 ∧ ((¬ (V (U a0_24 52) ((V a0_24 53) + (30 : Int32)).toNatClampNeg) = 0 → wb_M_fill_101 θ a0_24 x1_24 x2_24 x3_24 x4_24 x5_48 x6_48 x7_48 ((x2_24 + (x5_48 * (V (U a0_24 45) x3_24.toNatClampNeg))) + x7_48) kb24 kb48 K V U) ∧ ((V (U a0_24 52) ((V a0_24 53) + (30 : Int32)).toNatClampNeg) = 0 → wb_M_fill_101 θ a0_24 x1_24 x2_24 x3_24 x4_24 x5_48 x6_48 x7_48 ((x2_24 + x5_48) + (x7_48 * x4_24)) kb24 kb48 K V U))))
def wl_M_fill_48 (θ : TH) (a0_24 : Nat) (x1_24 : Int32) (x2_24 : Int32) (x3_24 : Int32) (x4_24 : Int32) (x5_48 : Int32) (x6_48 : Int32) (kb24 : Int32 → VT → UT → Prop) (K : Int32 → VT → UT → Prop) : Nat → Int32 → VT → UT → Prop
  | 0, _, _, _ => False
  | n + 1, x7_48, V, U => bl_M_fill_48 θ a0_24 x1_24 x2_24 x3_24 x4_24 x5_48 x6_48 kb24 K (wl_M_fill_48 θ a0_24 x1_24 x2_24 x3_24 x4_24 x5_48 x6_48 kb24 K n) x7_48 V U
def bl_M_fill_24 (θ : TH) (a0_24 : Nat) (x1_24 : Int32) (x2_24 : Int32) (x3_24 : Int32) (x4_24 : Int32) (K : Int32 → VT → UT → Prop) (kb24 : Int32 → VT → UT → Prop) (x5_24 : Int32) (V : VT) (U : UT) : Prop := ((x4_24 ≤ x5_24 → K (1 : Int32) V U) ∧ (¬ x4_24 ≤ x5_24 → isO θ a0_24 12 ∧ wp_M_pick θ a0_24 x3_24 V U (fun r_16 V_13 U_14 => ((0 ≤ r_16 → ∃ n, wl_M_fill_48 θ a0_24 x1_24 x2_24 x3_24 x4_24 x5_24 r_16 kb24 K n (0 : Int32) V_13 U_14) ∧ (¬ 0 ≤ r_16 → K (0 : Int32) V_13 U_14)))))
def wl_M_fill_24 (θ : TH) (a0_24 : Nat) (x1_24 : Int32) (x2_24 : Int32) (x3_24 : Int32) (x4_24 : Int32) (K : Int32 → VT → UT → Prop) : Nat → Int32 → VT → UT → Prop
  | 0, _, _, _ => False
  | n + 1, x5_24, V, U => bl_M_fill_24 θ a0_24 x1_24 x2_24 x3_24 x4_24 K (wl_M_fill_24 θ a0_24 x1_24 x2_24 x3_24 x4_24 K n) x5_24 V U
def wp_M_fill (θ : TH) (a0 : Nat) (x1 : Int32) (x2 : Int32) (x3 : Int32) (V : VT) (U : UT) (K : Int32 → VT → UT → Prop) : Prop := isO θ a0 12 ∧ (U a0 52) ≠ 0 ∧ ∃ n_3, isA θ (U a0 52) 0 n_3 ∧ vp_in ((V a0 53) + (33 : Int32)) n_3 ∧ (U a0 45) ≠ 0 ∧ ∃ n_7, isA θ (U a0 45) 0 n_7 ∧ vp_in x3 n_7 ∧ ¬ (V (U a0 45) x3.toNatClampNeg) = 0 ∧ ∀ y_11 : Int32, y_11 = ((V (U a0 52) ((V a0 53) + (33 : Int32)).toNatClampNeg) / (V (U a0 45) x3.toNatClampNeg)) → ∃ n, wl_M_fill_24 θ a0 x1 x2 x3 y_11 K n (0 : Int32) V U
set_option maxRecDepth 100000 in
set_option maxHeartbeats 4000000 in
theorem c_M_fill (l : Launch) (θ : TH) (a0 : Nat) (x1 : Int32) (x2 : Int32) (x3 : Int32) (V : VT) (U : UT) (K : Int32 → VT → UT → Prop) (hw : wp_M_fill θ a0 x1 x2 x3 V U K) : CMi l yM_fill kM_fill 10 (some .boolean) rmM_fill θ [.ref a0, .int x1, .int x2, .int x3] V U K := by
  refine g_met nRM (by decide +kernel) rfl (Nat.le_of_ble_eq_true rfl) (fun p e s m args below meth c ls hC hr hlk hwo hl => ?_)
  have hx := hC.1
  have hb := hC.2.1
  have hS : Sx θ s s.heap [] := va_S.rf
  have hl : lv_has ls 10 [(0, .ref a0), (1, .int x1), (2, .int x2), (3, .int x3)] := hl
  have L24 : ∀ (a0_24 : Nat) (x1_24 : Int32) (x2_24 : Int32) (x3_24 : Int32) (x4_24 : Int32) (n24 : Nat) (x5_24 : Int32) (V : VT) (U : UT) (H : Heap) (locs : List Loc) (ls : Array Slot), wl_M_fill_24 θ a0_24 x1_24 x2_24 x3_24 x4_24 K n24 x5_24 V U → wo θ V U H → Sx θ s H locs → lv_has ls 10 [(0, .ref a0_24), (1, .int x1_24), (2, .int x2_24), (3, .int x3_24), (4, .int x4_24), (5, .int x5_24)] → W p l e rmM_fill s m args below meth c H locs 0 0 (MQ below (QI θ K) args s 0 0 (aT θ)) (F0 m 24 ls []) := by
    intro a0_24 x1_24 x2_24 x3_24 x4_24 n24
    induction n24 with
    | zero => intro x5_24 V U H locs ls hw hwo hS hl; exact (show False from hw).elim
    | succ n24 ih24 =>
      have L48 : ∀ (x5_48 : Int32) (x6_48 : Int32) (n48 : Nat) (x7_48 : Int32) (V : VT) (U : UT) (H : Heap) (locs : List Loc) (ls : Array Slot), wl_M_fill_48 θ a0_24 x1_24 x2_24 x3_24 x4_24 x5_48 x6_48 (wl_M_fill_24 θ a0_24 x1_24 x2_24 x3_24 x4_24 K n24) K n48 x7_48 V U → wo θ V U H → Sx θ s H locs → lv_has ls 10 [(0, .ref a0_24), (1, .int x1_24), (2, .int x2_24), (3, .int x3_24), (4, .int x4_24), (5, .int x5_48), (6, .int x6_48), (7, .int x7_48)] → W p l e rmM_fill s m args below meth c H locs 0 0 (MQ below (QI θ K) args s 0 0 (aT θ)) (F0 m 48 ls []) := by
        intro x5_48 x6_48 n48
        induction n48 with
        | zero => intro x7_48 V U H locs ls hw hwo hS hl; exact (show False from hw).elim
        | succ n48 ih48 =>
          have J101 : ∀ (x7_101 : Int32) (z0_101 : Int32) (V : VT) (U : UT) (H : Heap) (locs : List Loc) (ls : Array Slot), wb_M_fill_101 θ a0_24 x1_24 x2_24 x3_24 x4_24 x5_48 x6_48 x7_101 z0_101 (wl_M_fill_24 θ a0_24 x1_24 x2_24 x3_24 x4_24 K n24) (wl_M_fill_48 θ a0_24 x1_24 x2_24 x3_24 x4_24 x5_48 x6_48 (wl_M_fill_24 θ a0_24 x1_24 x2_24 x3_24 x4_24 K n24) K n48) K V U → wo θ V U H → Sx θ s H locs → lv_has ls 10 [(0, .ref a0_24), (1, .int x1_24), (2, .int x2_24), (3, .int x3_24), (4, .int x4_24), (5, .int x5_48), (6, .int x6_48), (7, .int x7_101)] → W p l e rmM_fill s m args below meth c H locs 0 0 (MQ below (QI θ K) args s 0 0 (aT θ)) (F0 m 101 ls [.int z0_101]) := by
            intro x7_101 z0_101 V U H locs ls hw hwo hS hl
            unfold wb_M_fill_101 at hw
            refine lv_istore (i := 8) (lv' := [(8, .int z0_101), (0, .ref a0_24), (1, .int x1_24), (2, .int x2_24), (3, .int x3_24), (4, .int x4_24), (5, .int x5_48), (6, .int x6_48), (7, .int x7_101)]) hx hb dM_fill_101 hl (by decide) rfl (fun ls hl => ?_)
            refine lv_aload_n hx hb dM_fill_103 rfl (lv_at hl 1 rfl) ?_
            refine lv_iload_n hx hb dM_fill_104 rfl (lv_at hl 2 rfl) ?_
            refine lv_iload hx hb dM_fill_105 (lv_at hl 0 rfl) ?_
            obtain ⟨ho_32, hw⟩ := hw
            refine g_Vi (rest := []) hC (c_M_cell l θ _ _ _ _ _ _ hw) mi_M_cell mlM_373 mv_M_cell ci_12 ho_32 hwo hS ⟨rfl, rfl⟩ ⟨by decide, by decide⟩ rfl hl.1 rfl (Nat.le_of_ble_eq_true rfl) dM_fill_107 (fun r_33 V_30 U_31 hw H locs hwo hS => ?_)
            refine lv_istore (i := 9) (lv' := [(9, .int r_33), (8, .int z0_101), (0, .ref a0_24), (1, .int x1_24), (2, .int x2_24), (3, .int x3_24), (4, .int x4_24), (5, .int x5_48), (6, .int x6_48), (7, .int x7_101)]) hx hb dM_fill_110 hl (by decide) rfl (fun ls hl => ?_)
            refine lv_aload_n hx hb dM_fill_112 rfl (lv_at hl 2 rfl) ?_
            obtain ⟨hz_34, hw⟩ := hw
            refine g_getR hC fkM_114 rfl hwo ho_32 hz_34 dM_fill_113 ?_
            refine lv_iload hx hb dM_fill_116 (lv_at hl 0 rfl) ?_
            refine lv_dup2_11 hx hb dM_fill_118 rfl rfl ?_
            obtain ⟨n_35, ha_36, hw⟩ := hw
            obtain ⟨hi_37, hw⟩ := hw
            refine g_iald hC hwo ha_36 hi_37 dM_fill_119 ?_
            refine lv_aload_n hx hb dM_fill_120 rfl (lv_at hl 2 rfl) ?_
            obtain ⟨hz_38, hw⟩ := hw
            refine g_getR hC fkM_95 rfl hwo ho_32 hz_38 dM_fill_121 ?_
            refine lv_bipush (v := 32) hx hb dM_fill_124 (by decide) ?_
            refine lv_iload_n hx hb dM_fill_126 rfl (lv_at hl 5 rfl) ?_
            refine lv_imul hx hb dM_fill_127 ?_
            refine lv_iconst (v := 4) hx hb dM_fill_128 (by decide) ?_
            refine lv_iload hx hb dM_fill_129 (lv_at hl 8 rfl) ?_
            refine lv_imul hx hb dM_fill_131 ?_
            refine lv_iadd hx hb dM_fill_132 ?_
            refine lv_iload hx hb dM_fill_133 (lv_at hl 9 rfl) ?_
            refine lv_iadd hx hb dM_fill_135 ?_
            obtain ⟨n_39, ha_40, hw⟩ := hw
            obtain ⟨hi_41, hw⟩ := hw
            refine g_iald hC hwo ha_40 hi_41 dM_fill_136 ?_
            refine lv_iadd hx hb dM_fill_137 ?_
            refine g_iast hC hwo hS ha_36 hi_37 dM_fill_138 (fun V_42 eV_42 H locs hwo hS => ?_)
            replace hw := hw V_42 eV_42
            obtain ⟨y_43, ey_43⟩ : ∃ z : Int32, z = x7_101 + (1 : Int32) := ⟨_, rfl⟩
            replace hw := hw y_43 ey_43
            refine lv_iinc (k := 9) (v := y_43) (lv' := [(7, .int y_43), (9, .int r_33), (8, .int z0_101), (0, .ref a0_24), (1, .int x1_24), (2, .int x2_24), (3, .int x3_24), (4, .int x4_24), (5, .int x5_48), (6, .int x6_48)]) hx hb dM_fill_139 hl rfl (by rw [ey_43]; rfl) (by decide) rfl (fun ls hl => ?_)
            refine lv_goto (tgt := 48) hx hb dM_fill_142 (by decide) ?_
            exact ih48 _ _ _ _ _ _ hw hwo hS (lv_sub hl [3, 4, 5, 6, 7, 8, 9, 0] rfl)
          intro x7_48 V U H locs ls hw hwo hS hl
          replace hw : bl_M_fill_48 θ a0_24 x1_24 x2_24 x3_24 x4_24 x5_48 x6_48 (wl_M_fill_24 θ a0_24 x1_24 x2_24 x3_24 x4_24 K n24) K (wl_M_fill_48 θ a0_24 x1_24 x2_24 x3_24 x4_24 x5_48 x6_48 (wl_M_fill_24 θ a0_24 x1_24 x2_24 x3_24 x4_24 K n24) K n48) x7_48 V U := hw
          unfold bl_M_fill_48 at hw
          refine lv_iload hx hb dM_fill_48 (lv_at hl 7 rfl) ?_
          refine lv_aload_n hx hb dM_fill_50 rfl (lv_at hl 0 rfl) ?_
          obtain ⟨ho_18, hw⟩ := hw
          obtain ⟨hz_19, hw⟩ := hw
          refine g_getR hC fkM_80 rfl hwo ho_18 hz_19 dM_fill_51 ?_
          refine lv_iload_n hx hb dM_fill_54 rfl (lv_at hl 3 rfl) ?_
          obtain ⟨n_20, ha_21, hw⟩ := hw
          obtain ⟨hi_22, hw⟩ := hw
          refine g_iald hC hwo ha_21 hi_22 dM_fill_55 ?_
          refine lv_icmp_ge (tgt := 145) hx hb dM_fill_56 (by decide) (fun hc_23 => ?_) (fun hc_23 => ?_)
          · replace hw := hw.1 hc_23
            obtain ⟨y_24, ey_24⟩ : ∃ z : Int32, z = x5_48 + (1 : Int32) := ⟨_, rfl⟩
            replace hw := hw y_24 ey_24
            refine lv_iinc (k := 5) (v := y_24) (lv' := [(5, .int y_24), (0, .ref a0_24), (1, .int x1_24), (2, .int x2_24), (3, .int x3_24), (4, .int x4_24), (6, .int x6_48), (7, .int x7_48)]) hx hb dM_fill_145 hl rfl (by rw [ey_24]; rfl) (by decide) rfl (fun ls hl => ?_)
            refine lv_goto (tgt := 24) hx hb dM_fill_148 (by decide) ?_
            exact ih24 _ _ _ _ _ _ hw hwo hS (lv_sub hl [1, 2, 3, 4, 5, 0] rfl)
          · replace hw := hw.2 hc_23
            refine lv_aload_n hx hb dM_fill_59 rfl (lv_at hl 0 rfl) ?_
            obtain ⟨hz_25, hw⟩ := hw
            refine g_getR hC fkM_101 rfl hwo ho_18 hz_25 dM_fill_60 ?_
            refine lv_aload_n hx hb dM_fill_63 rfl (lv_at hl 0 rfl) ?_
            refine g_getI hC fkM_104 rfl hwo ho_18 dM_fill_64 ?_
            refine lv_bipush (v := 30) hx hb dM_fill_67 (by decide) ?_
            refine lv_iadd hx hb dM_fill_69 ?_
            obtain ⟨n_26, ha_27, hw⟩ := hw
            obtain ⟨hi_28, hw⟩ := hw
            refine g_iald hC hwo ha_27 hi_28 dM_fill_70 ?_
            refine lv_if_ne (tgt := 87) hx hb dM_fill_71 (by decide) (fun hc_29 => ?_) (fun hc_29 => ?_)
            · replace hw := hw.1 hc_29
              refine lv_iload_n hx hb dM_fill_87 rfl (lv_at hl 2 rfl) ?_
              refine lv_iload hx hb dM_fill_88 (lv_at hl 5 rfl) ?_
              refine lv_aload_n hx hb dM_fill_90 rfl (lv_at hl 0 rfl) ?_
              refine g_getR hC fkM_80 rfl hwo ho_18 hz_19 dM_fill_91 ?_
              refine lv_iload_n hx hb dM_fill_94 rfl (lv_at hl 3 rfl) ?_
              refine g_iald hC hwo ha_21 hi_22 dM_fill_95 ?_
              refine lv_imul hx hb dM_fill_96 ?_
              refine lv_iadd hx hb dM_fill_97 ?_
              refine lv_iload hx hb dM_fill_98 (lv_at hl 7 rfl) ?_
              refine lv_iadd hx hb dM_fill_100 ?_
              exact J101 _ _ _ _ _ _ _ hw hwo hS (lv_sub hl [0, 1, 2, 3, 4, 5, 6, 7] rfl)
            · replace hw := hw.2 hc_29
              refine lv_iload_n hx hb dM_fill_74 rfl (lv_at hl 2 rfl) ?_
              refine lv_iload hx hb dM_fill_75 (lv_at hl 5 rfl) ?_
              refine lv_iadd hx hb dM_fill_77 ?_
              refine lv_iload hx hb dM_fill_78 (lv_at hl 7 rfl) ?_
              refine lv_iload hx hb dM_fill_80 (lv_at hl 4 rfl) ?_
              refine lv_imul hx hb dM_fill_82 ?_
              refine lv_iadd hx hb dM_fill_83 ?_
              refine lv_goto (tgt := 101) hx hb dM_fill_84 (by decide) ?_
              exact J101 _ _ _ _ _ _ _ hw hwo hS (lv_sub hl [0, 1, 2, 3, 4, 5, 6, 7] rfl)
      intro x5_24 V U H locs ls hw hwo hS hl
      replace hw : bl_M_fill_24 θ a0_24 x1_24 x2_24 x3_24 x4_24 K (wl_M_fill_24 θ a0_24 x1_24 x2_24 x3_24 x4_24 K n24) x5_24 V U := hw
      unfold bl_M_fill_24 at hw
      refine lv_iload hx hb dM_fill_24 (lv_at hl 5 rfl) ?_
      refine lv_iload hx hb dM_fill_26 (lv_at hl 4 rfl) ?_
      refine lv_icmp_ge (tgt := 151) hx hb dM_fill_28 (by decide) (fun hc_12 => ?_) (fun hc_12 => ?_)
      · replace hw := hw.1 hc_12
        refine lv_iconst (v := 1) hx hb dM_fill_151 (by decide) ?_
        exact g_zret hC hr hlk (Or.inr rfl) hw hwo hS dM_fill_152
      · replace hw := hw.2 hc_12
        refine lv_aload_n hx hb dM_fill_31 rfl (lv_at hl 0 rfl) ?_
        refine lv_iload_n hx hb dM_fill_32 rfl (lv_at hl 3 rfl) ?_
        obtain ⟨ho_15, hw⟩ := hw
        refine g_Vi (rest := []) hC (c_M_pick l θ _ _ _ _ _ hw) mi_M_pick mlM_336 mv_M_pick ci_12 ho_15 hwo hS ⟨rfl, rfl⟩ ⟨by decide, by decide⟩ rfl hl.1 rfl (Nat.le_of_ble_eq_true rfl) dM_fill_33 (fun r_16 V_13 U_14 hw H locs hwo hS => ?_)
        refine lv_istore (i := 6) (lv' := [(6, .int r_16), (0, .ref a0_24), (1, .int x1_24), (2, .int x2_24), (3, .int x3_24), (4, .int x4_24), (5, .int x5_24)]) hx hb dM_fill_36 hl (by decide) rfl (fun ls hl => ?_)
        refine lv_iload hx hb dM_fill_38 (lv_at hl 0 rfl) ?_
        refine lv_if_ge (tgt := 45) hx hb dM_fill_40 (by decide) (fun hc_17 => ?_) (fun hc_17 => ?_)
        · replace hw := hw.1 hc_17
          refine lv_iconst (v := 0) hx hb dM_fill_45 (by decide) ?_
          refine lv_istore (i := 7) (lv' := [(7, .int (0 : Int32)), (6, .int r_16), (0, .ref a0_24), (1, .int x1_24), (2, .int x2_24), (3, .int x3_24), (4, .int x4_24), (5, .int x5_24)]) hx hb dM_fill_46 hl (by decide) rfl (fun ls hl => ?_)
          obtain ⟨n, hw⟩ := hw
          exact L48 _ _ n _ _ _ _ _ _ hw hwo hS (lv_sub hl [2, 3, 4, 5, 6, 7, 1, 0] rfl)
        · replace hw := hw.2 hc_17
          refine lv_iconst (v := 0) hx hb dM_fill_43 (by decide) ?_
          exact g_zret hC hr hlk (Or.inl rfl) hw hwo hS dM_fill_44
  unfold wp_M_fill at hw
  refine lv_aload_n hx hb dM_fill_0 rfl (lv_at hl 0 rfl) ?_
  obtain ⟨ho_1, hw⟩ := hw
  obtain ⟨hz_2, hw⟩ := hw
  refine g_getR hC fkM_101 rfl hwo ho_1 hz_2 dM_fill_1 ?_
  refine lv_aload_n hx hb dM_fill_4 rfl (lv_at hl 0 rfl) ?_
  refine g_getI hC fkM_104 rfl hwo ho_1 dM_fill_5 ?_
  refine lv_bipush (v := 33) hx hb dM_fill_8 (by decide) ?_
  refine lv_iadd hx hb dM_fill_10 ?_
  obtain ⟨n_3, ha_4, hw⟩ := hw
  obtain ⟨hi_5, hw⟩ := hw
  refine g_iald hC hwo ha_4 hi_5 dM_fill_11 ?_
  refine lv_aload_n hx hb dM_fill_12 rfl (lv_at hl 0 rfl) ?_
  obtain ⟨hz_6, hw⟩ := hw
  refine g_getR hC fkM_80 rfl hwo ho_1 hz_6 dM_fill_13 ?_
  refine lv_iload_n hx hb dM_fill_16 rfl (lv_at hl 3 rfl) ?_
  obtain ⟨n_7, ha_8, hw⟩ := hw
  obtain ⟨hi_9, hw⟩ := hw
  refine g_iald hC hwo ha_8 hi_9 dM_fill_17 ?_
  obtain ⟨hd_10, hw⟩ := hw
  refine lv_idiv hx hb dM_fill_18 hd_10 ?_
  refine lv_topi (fun y_11 ey_11 => ?_)
  replace hw := hw y_11 ey_11
  refine lv_istore (i := 4) (lv' := [(4, .int y_11), (0, .ref a0), (1, .int x1), (2, .int x2), (3, .int x3)]) hx hb dM_fill_19 hl (by decide) rfl (fun ls hl => ?_)
  refine lv_iconst (v := 0) hx hb dM_fill_21 (by decide) ?_
  refine lv_istore (i := 5) (lv' := [(5, .int (0 : Int32)), (4, .int y_11), (0, .ref a0), (1, .int x1), (2, .int x2), (3, .int x3)]) hx hb dM_fill_22 hl (by decide) rfl (fun ls hl => ?_)
  obtain ⟨n, hw⟩ := hw
  exact L24 _ _ _ _ _ n _ _ _ _ _ _ hw hwo hS (lv_sub hl [2, 3, 4, 5, 1, 0] rfl)
theorem dM_values_0 : decode kM_values 0 = .ok (.aload_n 0, 1) := by decide +kernel
theorem dM_values_1 : decode kM_values 1 = .ok (.invokevirtual 363, 3) := by decide +kernel
theorem dM_values_4 : decode kM_values 4 = .ok (.aload_n 0, 1) := by decide +kernel
theorem dM_values_5 : decode kM_values 5 = .ok (.getfield 101, 3) := by decide +kernel
theorem dM_values_8 : decode kM_values 8 = .ok (.aload_n 0, 1) := by decide +kernel
theorem dM_values_9 : decode kM_values 9 = .ok (.getfield 104, 3) := by decide +kernel
theorem dM_values_12 : decode kM_values 12 = .ok (.bipush 30, 2) := by decide +kernel
theorem dM_values_14 : decode kM_values 14 = .ok (.iadd, 1) := by decide +kernel
theorem dM_values_15 : decode kM_values 15 = .ok (.iaload, 1) := by decide +kernel
theorem dM_values_16 : decode kM_values 16 = .ok (.iconst 2, 1) := by decide +kernel
theorem dM_values_17 : decode kM_values 17 = .ok (.if_icmp .ne 17, 3) := by decide +kernel
theorem dM_values_20 : decode kM_values 20 = .ok (.aload_n 0, 1) := by decide +kernel
theorem dM_values_21 : decode kM_values 21 = .ok (.getfield 265, 3) := by decide +kernel
theorem dM_values_24 : decode kM_values 24 = .ok (.aload_n 0, 1) := by decide +kernel
theorem dM_values_25 : decode kM_values 25 = .ok (.getfield 312, 3) := by decide +kernel
theorem dM_values_28 : decode kM_values 28 = .ok (.imul, 1) := by decide +kernel
theorem dM_values_29 : decode kM_values 29 = .ok (.iconst 2, 1) := by decide +kernel
theorem dM_values_30 : decode kM_values 30 = .ok (.idiv, 1) := by decide +kernel
theorem dM_values_31 : decode kM_values 31 = .ok (.goto 9, 3) := by decide +kernel
theorem dM_values_34 : decode kM_values 34 = .ok (.aload_n 0, 1) := by decide +kernel
theorem dM_values_35 : decode kM_values 35 = .ok (.getfield 312, 3) := by decide +kernel
theorem dM_values_38 : decode kM_values 38 = .ok (.iconst 2, 1) := by decide +kernel
theorem dM_values_39 : decode kM_values 39 = .ok (.idiv, 1) := by decide +kernel
theorem dM_values_40 : decode kM_values 40 = .ok (.istore_n 1, 1) := by decide +kernel
theorem dM_values_41 : decode kM_values 41 = .ok (.aload_n 0, 1) := by decide +kernel
theorem dM_values_42 : decode kM_values 42 = .ok (.getfield 101, 3) := by decide +kernel
theorem dM_values_45 : decode kM_values 45 = .ok (.aload_n 0, 1) := by decide +kernel
theorem dM_values_46 : decode kM_values 46 = .ok (.getfield 104, 3) := by decide +kernel
theorem dM_values_49 : decode kM_values 49 = .ok (.bipush 31, 2) := by decide +kernel
theorem dM_values_51 : decode kM_values 51 = .ok (.iadd, 1) := by decide +kernel
theorem dM_values_52 : decode kM_values 52 = .ok (.iaload, 1) := by decide +kernel
theorem dM_values_53 : decode kM_values 53 = .ok (.iload_n 1, 1) := by decide +kernel
theorem dM_values_54 : decode kM_values 54 = .ok (.if_icmp .ge 18, 3) := by decide +kernel
theorem dM_values_57 : decode kM_values 57 = .ok (.aload_n 0, 1) := by decide +kernel
theorem dM_values_58 : decode kM_values 58 = .ok (.getfield 101, 3) := by decide +kernel
theorem dM_values_61 : decode kM_values 61 = .ok (.aload_n 0, 1) := by decide +kernel
theorem dM_values_62 : decode kM_values 62 = .ok (.getfield 104, 3) := by decide +kernel
theorem dM_values_65 : decode kM_values 65 = .ok (.bipush 31, 2) := by decide +kernel
theorem dM_values_67 : decode kM_values 67 = .ok (.iadd, 1) := by decide +kernel
theorem dM_values_68 : decode kM_values 68 = .ok (.iaload, 1) := by decide +kernel
theorem dM_values_69 : decode kM_values 69 = .ok (.goto 4, 3) := by decide +kernel
theorem dM_values_72 : decode kM_values 72 = .ok (.iload_n 1, 1) := by decide +kernel
theorem dM_values_73 : decode kM_values 73 = .ok (.istore_n 2, 1) := by decide +kernel
theorem dM_values_74 : decode kM_values 74 = .ok (.aload_n 0, 1) := by decide +kernel
theorem dM_values_75 : decode kM_values 75 = .ok (.getfield 101, 3) := by decide +kernel
theorem dM_values_78 : decode kM_values 78 = .ok (.aload_n 0, 1) := by decide +kernel
theorem dM_values_79 : decode kM_values 79 = .ok (.getfield 104, 3) := by decide +kernel
theorem dM_values_82 : decode kM_values 82 = .ok (.bipush 32, 2) := by decide +kernel
theorem dM_values_84 : decode kM_values 84 = .ok (.iadd, 1) := by decide +kernel
theorem dM_values_85 : decode kM_values 85 = .ok (.iaload, 1) := by decide +kernel
theorem dM_values_86 : decode kM_values 86 = .ok (.iload_n 1, 1) := by decide +kernel
theorem dM_values_87 : decode kM_values 87 = .ok (.if_icmp .ge 18, 3) := by decide +kernel
theorem dM_values_90 : decode kM_values 90 = .ok (.aload_n 0, 1) := by decide +kernel
theorem dM_values_91 : decode kM_values 91 = .ok (.getfield 101, 3) := by decide +kernel
theorem dM_values_94 : decode kM_values 94 = .ok (.aload_n 0, 1) := by decide +kernel
theorem dM_values_95 : decode kM_values 95 = .ok (.getfield 104, 3) := by decide +kernel
theorem dM_values_98 : decode kM_values 98 = .ok (.bipush 32, 2) := by decide +kernel
theorem dM_values_100 : decode kM_values 100 = .ok (.iadd, 1) := by decide +kernel
theorem dM_values_101 : decode kM_values 101 = .ok (.iaload, 1) := by decide +kernel
theorem dM_values_102 : decode kM_values 102 = .ok (.goto 4, 3) := by decide +kernel
theorem dM_values_105 : decode kM_values 105 = .ok (.iload_n 1, 1) := by decide +kernel
theorem dM_values_106 : decode kM_values 106 = .ok (.istore_n 3, 1) := by decide +kernel
theorem dM_values_107 : decode kM_values 107 = .ok (.iload_n 3, 1) := by decide +kernel
theorem dM_values_108 : decode kM_values 108 = .ok (.iload_n 2, 1) := by decide +kernel
theorem dM_values_109 : decode kM_values 109 = .ok (.isub, 1) := by decide +kernel
theorem dM_values_110 : decode kM_values 110 = .ok (.aload_n 0, 1) := by decide +kernel
theorem dM_values_111 : decode kM_values 111 = .ok (.getfield 101, 3) := by decide +kernel
theorem dM_values_114 : decode kM_values 114 = .ok (.aload_n 0, 1) := by decide +kernel
theorem dM_values_115 : decode kM_values 115 = .ok (.getfield 104, 3) := by decide +kernel
theorem dM_values_118 : decode kM_values 118 = .ok (.bipush 33, 2) := by decide +kernel
theorem dM_values_120 : decode kM_values 120 = .ok (.iadd, 1) := by decide +kernel
theorem dM_values_121 : decode kM_values 121 = .ok (.iaload, 1) := by decide +kernel
theorem dM_values_122 : decode kM_values 122 = .ok (.idiv, 1) := by decide +kernel
theorem dM_values_123 : decode kM_values 123 = .ok (.istore 4, 2) := by decide +kernel
theorem dM_values_125 : decode kM_values 125 = .ok (.aload_n 0, 1) := by decide +kernel
theorem dM_values_126 : decode kM_values 126 = .ok (.getfield 80, 3) := by decide +kernel
theorem dM_values_129 : decode kM_values 129 = .ok (.aload_n 0, 1) := by decide +kernel
theorem dM_values_130 : decode kM_values 130 = .ok (.getfield 101, 3) := by decide +kernel
theorem dM_values_133 : decode kM_values 133 = .ok (.aload_n 0, 1) := by decide +kernel
theorem dM_values_134 : decode kM_values 134 = .ok (.getfield 104, 3) := by decide +kernel
theorem dM_values_137 : decode kM_values 137 = .ok (.bipush 35, 2) := by decide +kernel
theorem dM_values_139 : decode kM_values 139 = .ok (.iadd, 1) := by decide +kernel
theorem dM_values_140 : decode kM_values 140 = .ok (.iaload, 1) := by decide +kernel
theorem dM_values_141 : decode kM_values 141 = .ok (.iaload, 1) := by decide +kernel
theorem dM_values_142 : decode kM_values 142 = .ok (.istore 5, 2) := by decide +kernel
theorem dM_values_144 : decode kM_values 144 = .ok (.aload_n 0, 1) := by decide +kernel
theorem dM_values_145 : decode kM_values 145 = .ok (.getfield 243, 3) := by decide +kernel
theorem dM_values_148 : decode kM_values 148 = .ok (.ifCond .ne 7, 3) := by decide +kernel
theorem dM_values_151 : decode kM_values 151 = .ok (.iconst 1, 1) := by decide +kernel
theorem dM_values_152 : decode kM_values 152 = .ok (.goto 4, 3) := by decide +kernel
theorem dM_values_155 : decode kM_values 155 = .ok (.iconst 0, 1) := by decide +kernel
theorem dM_values_156 : decode kM_values 156 = .ok (.istore 6, 2) := by decide +kernel
theorem dM_values_158 : decode kM_values 158 = .ok (.iconst 0, 1) := by decide +kernel
theorem dM_values_159 : decode kM_values 159 = .ok (.istore 7, 2) := by decide +kernel
theorem dM_values_161 : decode kM_values 161 = .ok (.iload 7, 2) := by decide +kernel
theorem dM_values_163 : decode kM_values 163 = .ok (.iconst 2, 1) := by decide +kernel
theorem dM_values_164 : decode kM_values 164 = .ok (.if_icmp .ge 204, 3) := by decide +kernel
theorem dM_values_167 : decode kM_values 167 = .ok (.iconst 0, 1) := by decide +kernel
theorem dM_values_168 : decode kM_values 168 = .ok (.istore 8, 2) := by decide +kernel
theorem dM_values_170 : decode kM_values 170 = .ok (.iload 8, 2) := by decide +kernel
theorem dM_values_172 : decode kM_values 172 = .ok (.iload 4, 2) := by decide +kernel
theorem dM_values_174 : decode kM_values 174 = .ok (.if_icmp .ge 188, 3) := by decide +kernel
theorem dM_values_177 : decode kM_values 177 = .ok (.iload 6, 2) := by decide +kernel
theorem dM_values_179 : decode kM_values 179 = .ok (.ifCond .eq 183, 3) := by decide +kernel
theorem dM_values_182 : decode kM_values 182 = .ok (.iconst 0, 1) := by decide +kernel
theorem dM_values_183 : decode kM_values 183 = .ok (.istore 9, 2) := by decide +kernel
theorem dM_values_185 : decode kM_values 185 = .ok (.iload 9, 2) := by decide +kernel
theorem dM_values_187 : decode kM_values 187 = .ok (.aload_n 0, 1) := by decide +kernel
theorem dM_values_188 : decode kM_values 188 = .ok (.getfield 360, 3) := by decide +kernel
theorem dM_values_191 : decode kM_values 191 = .ok (.if_icmp .ge 33, 3) := by decide +kernel
theorem dM_values_194 : decode kM_values 194 = .ok (.iload 6, 2) := by decide +kernel
theorem dM_values_196 : decode kM_values 196 = .ok (.ifCond .eq 28, 3) := by decide +kernel
theorem dM_values_199 : decode kM_values 199 = .ok (.iload 7, 2) := by decide +kernel
theorem dM_values_201 : decode kM_values 201 = .ok (.ifCond .ne 23, 3) := by decide +kernel
theorem dM_values_204 : decode kM_values 204 = .ok (.aload_n 0, 1) := by decide +kernel
theorem dM_values_205 : decode kM_values 205 = .ok (.iload 9, 2) := by decide +kernel
theorem dM_values_207 : decode kM_values 207 = .ok (.iload 8, 2) := by decide +kernel
theorem dM_values_209 : decode kM_values 209 = .ok (.iload 5, 2) := by decide +kernel
theorem dM_values_211 : decode kM_values 211 = .ok (.iload 4, 2) := by decide +kernel
theorem dM_values_213 : decode kM_values 213 = .ok (.invokevirtual 366, 3) := by decide +kernel
theorem dM_values_216 : decode kM_values 216 = .ok (.istore 6, 2) := by decide +kernel
theorem dM_values_218 : decode kM_values 218 = .ok (.iinc 9 1, 3) := by decide +kernel
theorem dM_values_221 : decode kM_values 221 = .ok (.goto (-36), 3) := by decide +kernel
theorem dM_values_224 : decode kM_values 224 = .ok (.iload 8, 2) := by decide +kernel
theorem dM_values_226 : decode kM_values 226 = .ok (.istore 9, 2) := by decide +kernel
theorem dM_values_228 : decode kM_values 228 = .ok (.iload 9, 2) := by decide +kernel
theorem dM_values_230 : decode kM_values 230 = .ok (.iload 8, 2) := by decide +kernel
theorem dM_values_232 : decode kM_values 232 = .ok (.iload 5, 2) := by decide +kernel
theorem dM_values_234 : decode kM_values 234 = .ok (.iadd, 1) := by decide +kernel
theorem dM_values_235 : decode kM_values 235 = .ok (.if_icmp .ge 117, 3) := by decide +kernel
theorem dM_values_238 : decode kM_values 238 = .ok (.iload 9, 2) := by decide +kernel
theorem dM_values_240 : decode kM_values 240 = .ok (.iload 4, 2) := by decide +kernel
theorem dM_values_242 : decode kM_values 242 = .ok (.if_icmp .ge 110, 3) := by decide +kernel
theorem dM_values_245 : decode kM_values 245 = .ok (.iload 6, 2) := by decide +kernel
theorem dM_values_247 : decode kM_values 247 = .ok (.ifCond .eq 105, 3) := by decide +kernel
theorem dM_values_250 : decode kM_values 250 = .ok (.iconst 0, 1) := by decide +kernel
theorem dM_values_251 : decode kM_values 251 = .ok (.istore 10, 2) := by decide +kernel
theorem dM_values_253 : decode kM_values 253 = .ok (.iload 10, 2) := by decide +kernel
theorem dM_values_255 : decode kM_values 255 = .ok (.aload_n 0, 1) := by decide +kernel
theorem dM_values_256 : decode kM_values 256 = .ok (.getfield 360, 3) := by decide +kernel
theorem dM_values_259 : decode kM_values 259 = .ok (.if_icmp .ge 87, 3) := by decide +kernel
theorem dM_values_262 : decode kM_values 262 = .ok (.iload 6, 2) := by decide +kernel
theorem dM_values_264 : decode kM_values 264 = .ok (.ifCond .eq 82, 3) := by decide +kernel
theorem dM_values_267 : decode kM_values 267 = .ok (.aload_n 0, 1) := by decide +kernel
theorem dM_values_268 : decode kM_values 268 = .ok (.getfield 101, 3) := by decide +kernel
theorem dM_values_271 : decode kM_values 271 = .ok (.aload_n 0, 1) := by decide +kernel
theorem dM_values_272 : decode kM_values 272 = .ok (.getfield 104, 3) := by decide +kernel
theorem dM_values_275 : decode kM_values 275 = .ok (.bipush 36, 2) := by decide +kernel
theorem dM_values_277 : decode kM_values 277 = .ok (.iadd, 1) := by decide +kernel
theorem dM_values_278 : decode kM_values 278 = .ok (.iconst 2, 1) := by decide +kernel
theorem dM_values_279 : decode kM_values 279 = .ok (.aload_n 0, 1) := by decide +kernel
theorem dM_values_280 : decode kM_values 280 = .ok (.getfield 129, 3) := by decide +kernel
theorem dM_values_283 : decode kM_values 283 = .ok (.bipush 64, 2) := by decide +kernel
theorem dM_values_285 : decode kM_values 285 = .ok (.iload 10, 2) := by decide +kernel
theorem dM_values_287 : decode kM_values 287 = .ok (.imul, 1) := by decide +kernel
theorem dM_values_288 : decode kM_values 288 = .ok (.iload 9, 2) := by decide +kernel
theorem dM_values_290 : decode kM_values 290 = .ok (.iadd, 1) := by decide +kernel
theorem dM_values_291 : decode kM_values 291 = .ok (.iaload, 1) := by decide +kernel
theorem dM_values_292 : decode kM_values 292 = .ok (.imul, 1) := by decide +kernel
theorem dM_values_293 : decode kM_values 293 = .ok (.iadd, 1) := by decide +kernel
theorem dM_values_294 : decode kM_values 294 = .ok (.iload 7, 2) := by decide +kernel
theorem dM_values_296 : decode kM_values 296 = .ok (.iadd, 1) := by decide +kernel
theorem dM_values_297 : decode kM_values 297 = .ok (.iaload, 1) := by decide +kernel
theorem dM_values_298 : decode kM_values 298 = .ok (.istore 11, 2) := by decide +kernel
theorem dM_values_300 : decode kM_values 300 = .ok (.iload 11, 2) := by decide +kernel
theorem dM_values_302 : decode kM_values 302 = .ok (.ifCond .lt 31, 3) := by decide +kernel
theorem dM_values_305 : decode kM_values 305 = .ok (.aload_n 0, 1) := by decide +kernel
theorem dM_values_306 : decode kM_values 306 = .ok (.iload 10, 2) := by decide +kernel
theorem dM_values_308 : decode kM_values 308 = .ok (.iload_n 2, 1) := by decide +kernel
theorem dM_values_309 : decode kM_values 309 = .ok (.iload 9, 2) := by decide +kernel
theorem dM_values_311 : decode kM_values 311 = .ok (.aload_n 0, 1) := by decide +kernel
theorem dM_values_312 : decode kM_values 312 = .ok (.getfield 101, 3) := by decide +kernel
theorem dM_values_315 : decode kM_values 315 = .ok (.aload_n 0, 1) := by decide +kernel
theorem dM_values_316 : decode kM_values 316 = .ok (.getfield 104, 3) := by decide +kernel
theorem dM_values_319 : decode kM_values 319 = .ok (.bipush 33, 2) := by decide +kernel
theorem dM_values_321 : decode kM_values 321 = .ok (.iadd, 1) := by decide +kernel
theorem dM_values_322 : decode kM_values 322 = .ok (.iaload, 1) := by decide +kernel
theorem dM_values_323 : decode kM_values 323 = .ok (.imul, 1) := by decide +kernel
theorem dM_values_324 : decode kM_values 324 = .ok (.iadd, 1) := by decide +kernel
theorem dM_values_325 : decode kM_values 325 = .ok (.iload 11, 2) := by decide +kernel
theorem dM_values_327 : decode kM_values 327 = .ok (.invokevirtual 369, 3) := by decide +kernel
theorem dM_values_330 : decode kM_values 330 = .ok (.ifCond .eq 7, 3) := by decide +kernel
theorem dM_values_333 : decode kM_values 333 = .ok (.iconst 1, 1) := by decide +kernel
theorem dM_values_334 : decode kM_values 334 = .ok (.goto 4, 3) := by decide +kernel
theorem dM_values_337 : decode kM_values 337 = .ok (.iconst 0, 1) := by decide +kernel
theorem dM_values_338 : decode kM_values 338 = .ok (.istore 6, 2) := by decide +kernel
theorem dM_values_340 : decode kM_values 340 = .ok (.iinc 10 1, 3) := by decide +kernel
theorem dM_values_343 : decode kM_values 343 = .ok (.goto (-90), 3) := by decide +kernel
theorem dM_values_346 : decode kM_values 346 = .ok (.iinc 9 1, 3) := by decide +kernel
theorem dM_values_349 : decode kM_values 349 = .ok (.goto (-121), 3) := by decide +kernel
theorem dM_values_352 : decode kM_values 352 = .ok (.iload 8, 2) := by decide +kernel
theorem dM_values_354 : decode kM_values 354 = .ok (.iload 5, 2) := by decide +kernel
theorem dM_values_356 : decode kM_values 356 = .ok (.iadd, 1) := by decide +kernel
theorem dM_values_357 : decode kM_values 357 = .ok (.istore 8, 2) := by decide +kernel
theorem dM_values_359 : decode kM_values 359 = .ok (.goto (-189), 3) := by decide +kernel
theorem dM_values_362 : decode kM_values 362 = .ok (.iinc 7 1, 3) := by decide +kernel
theorem dM_values_365 : decode kM_values 365 = .ok (.goto (-204), 3) := by decide +kernel
theorem dM_values_368 : decode kM_values 368 = .ok (.return_, 1) := by decide +kernel
def wb_M_values_352 (θ : TH) (a0_161 : Nat) (x2_161 : Int32) (x4_161 : Int32) (x5_161 : Int32) (x6_352 : Int32) (x7_170 : Int32) (x8_352 : Int32) (kb161 : Int32 → Int32 → VT → UT → Prop) (kb170 : Int32 → Int32 → VT → UT → Prop) (K : VT → UT → Prop) (V : VT) (U : UT) : Prop := ∀ y_53 : Int32, y_53 = (x8_352 + x5_161) → kb170 x6_352 y_53 V U
def wb_M_values_333 (θ : TH) (a0_161 : Nat) (x2_161 : Int32) (x4_161 : Int32) (x5_161 : Int32) (x7_170 : Int32) (x8_228 : Int32) (x9_253 : Int32) (x10_333 : Int32) (kb161 : Int32 → Int32 → VT → UT → Prop) (kb170 : Int32 → Int32 → VT → UT → Prop) (kb228 : Int32 → Int32 → VT → UT → Prop) (kb253 : Int32 → Int32 → VT → UT → Prop) (K : VT → UT → Prop) (V : VT) (U : UT) : Prop := ∀ y_75 : Int32, y_75 = x10_333 + (1 : Int32) → kb253 (1 : Int32) y_75 V U
def bl_M_values_253 (θ : TH) (a0_161 : Nat) (x2_161 : Int32) (x4_161 : Int32) (x5_161 : Int32) (x7_170 : Int32) (x8_228 : Int32) (x9_253 : Int32) (kb161 : Int32 → Int32 → VT → UT → Prop) (kb170 : Int32 → Int32 → VT → UT → Prop) (kb228 : Int32 → Int32 → VT → UT → Prop) (K : VT → UT → Prop) (kb253 : Int32 → Int32 → VT → UT → Prop) (x6_253 : Int32) (x10_253 : Int32) (V : VT) (U : UT) : Prop := isO θ a0_161 12 ∧ (((V a0_161 65) ≤ x10_253 → ∀ y_56 : Int32, y_56 = x9_253 + (1 : Int32) → kb228 x6_253 y_56 V U) ∧ (¬ (V a0_161 65) ≤ x10_253 → ((x6_253 = 0 → ∀ y_58 : Int32, y_58 = x9_253 + (1 : Int32) → kb228 x6_253 y_58 V U) ∧ (¬ x6_253 = 0 → (U a0_161 52) ≠ 0 ∧ (U a0_161 67) ≠ 0 ∧ ∃ n_61, isA θ (U a0_161 67) 0 n_61 ∧ vp_in (((64 : Int32) * x10_253) + x9_253) n_61 ∧ ∃ n_64, isA θ (U a0_161 52) 0 n_64 ∧ vp_in ((((V a0_161 53) + (36 : Int32)) + ((2 : Int32) * (V (U a0_161 67) (((64 : Int32) * x10_253) + x9_253).toNatClampNeg))) + x7_170) n_64 ∧ ∀ y_67 : Int32, y_67 = (V (U a0_161 52) ((((V a0_161 53) + (36 : Int32)) + ((2 : Int32) * (V (U a0_161 67) (((64 : Int32) * x10_253) + x9_253).toNatClampNeg))) + x7_170).toNatClampNeg) → ((y_67 < 0 → wb_M_values_333 θ a0_161 x2_161 x4_161 x5_161 x7_170 x8_228 x9_253 x10_253 kb161 kb170 kb228 kb253 K V U) ∧ (¬ y_67 < 0 → vp_in ((V a0_161 53) + (33 : Int32)) n_64 ∧ wp_M_fill θ a0_161 x10_253 (x2_161 + (x9_253 * (V (U a0_161 52) ((V a0_161 53) + (33 : Int32)).toNatClampNeg))) y_67 V U (fun r_72 V_70 U_71 => ((r_72 = 0 → ∀ y_74 : Int32, y_74 = x10_253 + (1 : Int32) → kb253 (0 : Int32) y_74 V_70 U_71) ∧ (¬ r_72 = 0 → wb_M_values_333 θ a0_161 x2_161 x4_161 x5_161 x7_170 x8_228 x9_253 x10_253 kb161 kb170 kb228 kb253 K V_70 U_71)))))))))
def wl_M_values_253 (θ : TH) (a0_161 : Nat) (x2_161 : Int32) (x4_161 : Int32) (x5_161 : Int32) (x7_170 : Int32) (x8_228 : Int32) (x9_253 : Int32) (kb161 : Int32 → Int32 → VT → UT → Prop) (kb170 : Int32 → Int32 → VT → UT → Prop) (kb228 : Int32 → Int32 → VT → UT → Prop) (K : VT → UT → Prop) : Nat → Int32 → Int32 → VT → UT → Prop
  | 0, _, _, _, _ => False
  | n + 1, x6_253, x10_253, V, U => bl_M_values_253 θ a0_161 x2_161 x4_161 x5_161 x7_170 x8_228 x9_253 kb161 kb170 kb228 K (wl_M_values_253 θ a0_161 x2_161 x4_161 x5_161 x7_170 x8_228 x9_253 kb161 kb170 kb228 K n) x6_253 x10_253 V U
def bl_M_values_228 (θ : TH) (a0_161 : Nat) (x2_161 : Int32) (x4_161 : Int32) (x5_161 : Int32) (x7_170 : Int32) (x8_228 : Int32) (kb161 : Int32 → Int32 → VT → UT → Prop) (kb170 : Int32 → Int32 → VT → UT → Prop) (K : VT → UT → Prop) (kb228 : Int32 → Int32 → VT → UT → Prop) (x6_228 : Int32) (x9_228 : Int32) (V : VT) (U : UT) : Prop := (((x8_228 + x5_161) ≤ x9_228 → wb_M_values_352 θ a0_161 x2_161 x4_161 x5_161 x6_228 x7_170 x8_228 kb161 kb170 K V U) ∧ (¬ (x8_228 + x5_161) ≤ x9_228 → ((x4_161 ≤ x9_228 → wb_M_values_352 θ a0_161 x2_161 x4_161 x5_161 x6_228 x7_170 x8_228 kb161 kb170 K V U) ∧ (¬ x4_161 ≤ x9_228 → ((x6_228 = 0 → wb_M_values_352 θ a0_161 x2_161 x4_161 x5_161 x6_228 x7_170 x8_228 kb161 kb170 K V U) ∧ (¬ x6_228 = 0 → ∃ n, wl_M_values_253 θ a0_161 x2_161 x4_161 x5_161 x7_170 x8_228 x9_228 kb161 kb170 kb228 K n x6_228 (0 : Int32) V U))))))
def wl_M_values_228 (θ : TH) (a0_161 : Nat) (x2_161 : Int32) (x4_161 : Int32) (x5_161 : Int32) (x7_170 : Int32) (x8_228 : Int32) (kb161 : Int32 → Int32 → VT → UT → Prop) (kb170 : Int32 → Int32 → VT → UT → Prop) (K : VT → UT → Prop) : Nat → Int32 → Int32 → VT → UT → Prop
  | 0, _, _, _, _ => False
  | n + 1, x6_228, x9_228, V, U => bl_M_values_228 θ a0_161 x2_161 x4_161 x5_161 x7_170 x8_228 kb161 kb170 K (wl_M_values_228 θ a0_161 x2_161 x4_161 x5_161 x7_170 x8_228 kb161 kb170 K n) x6_228 x9_228 V U
def bl_M_values_185 (θ : TH) (a0_161 : Nat) (x2_161 : Int32) (x4_161 : Int32) (x5_161 : Int32) (x7_170 : Int32) (x8_185 : Int32) (kb161 : Int32 → Int32 → VT → UT → Prop) (kb170 : Int32 → Int32 → VT → UT → Prop) (K : VT → UT → Prop) (kb185 : Int32 → Int32 → VT → UT → Prop) (x6_185 : Int32) (x9_185 : Int32) (V : VT) (U : UT) : Prop := isO θ a0_161 12 ∧ (((V a0_161 65) ≤ x9_185 → ∃ n, wl_M_values_228 θ a0_161 x2_161 x4_161 x5_161 x7_170 x8_185 kb161 kb170 K n x6_185 x8_185 V U) ∧ (¬ (V a0_161 65) ≤ x9_185 → ((x6_185 = 0 → ∃ n, wl_M_values_228 θ a0_161 x2_161 x4_161 x5_161 x7_170 x8_185 kb161 kb170 K n x6_185 x8_185 V U) ∧ (¬ x6_185 = 0 → ((¬ x7_170 = 0 → ∃ n, wl_M_values_228 θ a0_161 x2_161 x4_161 x5_161 x7_170 x8_185 kb161 kb170 K n x6_185 x8_185 V U) ∧ (x7_170 = 0 → wp_M_kinds θ a0_161 x9_185 x8_185 x5_161 x4_161 V U (fun r_48 V_46 U_47 => ∀ y_49 : Int32, y_49 = x9_185 + (1 : Int32) → kb185 r_48 y_49 V_46 U_47)))))))
def wl_M_values_185 (θ : TH) (a0_161 : Nat) (x2_161 : Int32) (x4_161 : Int32) (x5_161 : Int32) (x7_170 : Int32) (x8_185 : Int32) (kb161 : Int32 → Int32 → VT → UT → Prop) (kb170 : Int32 → Int32 → VT → UT → Prop) (K : VT → UT → Prop) : Nat → Int32 → Int32 → VT → UT → Prop
  | 0, _, _, _, _ => False
  | n + 1, x6_185, x9_185, V, U => bl_M_values_185 θ a0_161 x2_161 x4_161 x5_161 x7_170 x8_185 kb161 kb170 K (wl_M_values_185 θ a0_161 x2_161 x4_161 x5_161 x7_170 x8_185 kb161 kb170 K n) x6_185 x9_185 V U
def bl_M_values_170 (θ : TH) (a0_161 : Nat) (x2_161 : Int32) (x4_161 : Int32) (x5_161 : Int32) (x7_170 : Int32) (kb161 : Int32 → Int32 → VT → UT → Prop) (K : VT → UT → Prop) (kb170 : Int32 → Int32 → VT → UT → Prop) (x6_170 : Int32) (x8_170 : Int32) (V : VT) (U : UT) : Prop := ((x4_161 ≤ x8_170 → ∀ y_39 : Int32, y_39 = x7_170 + (1 : Int32) → kb161 x6_170 y_39 V U) ∧ (¬ x4_161 ≤ x8_170 → ((x6_170 = 0 → ∀ y_41 : Int32, y_41 = x7_170 + (1 : Int32) → kb161 x6_170 y_41 V U) ∧ (¬ x6_170 = 0 → ∃ n, wl_M_values_185 θ a0_161 x2_161 x4_161 x5_161 x7_170 x8_170 kb161 kb170 K n x6_170 (0 : Int32) V U))))
def wl_M_values_170 (θ : TH) (a0_161 : Nat) (x2_161 : Int32) (x4_161 : Int32) (x5_161 : Int32) (x7_170 : Int32) (kb161 : Int32 → Int32 → VT → UT → Prop) (K : VT → UT → Prop) : Nat → Int32 → Int32 → VT → UT → Prop
  | 0, _, _, _, _ => False
  | n + 1, x6_170, x8_170, V, U => bl_M_values_170 θ a0_161 x2_161 x4_161 x5_161 x7_170 kb161 K (wl_M_values_170 θ a0_161 x2_161 x4_161 x5_161 x7_170 kb161 K n) x6_170 x8_170 V U
def bl_M_values_161 (θ : TH) (a0_161 : Nat) (x2_161 : Int32) (x4_161 : Int32) (x5_161 : Int32) (K : VT → UT → Prop) (kb161 : Int32 → Int32 → VT → UT → Prop) (x6_161 : Int32) (x7_161 : Int32) (V : VT) (U : UT) : Prop := (((2 : Int32) ≤ x7_161 → K V U) ∧ (¬ (2 : Int32) ≤ x7_161 → ∃ n, wl_M_values_170 θ a0_161 x2_161 x4_161 x5_161 x7_161 kb161 K n x6_161 (0 : Int32) V U))
def wl_M_values_161 (θ : TH) (a0_161 : Nat) (x2_161 : Int32) (x4_161 : Int32) (x5_161 : Int32) (K : VT → UT → Prop) : Nat → Int32 → Int32 → VT → UT → Prop
  | 0, _, _, _, _ => False
  | n + 1, x6_161, x7_161, V, U => bl_M_values_161 θ a0_161 x2_161 x4_161 x5_161 K (wl_M_values_161 θ a0_161 x2_161 x4_161 x5_161 K n) x6_161 x7_161 V U
def wb_M_values_106 (θ : TH) (a0_106 : Nat) (x2_106 : Int32) (z0_106 : Int32) (K : VT → UT → Prop) (V : VT) (U : UT) : Prop := isO θ a0_106 12 ∧ (U a0_106 52) ≠ 0 ∧ ∃ n_25, isA θ (U a0_106 52) 0 n_25 ∧ vp_in ((V a0_106 53) + (33 : Int32)) n_25 ∧ ¬ (V (U a0_106 52) ((V a0_106 53) + (33 : Int32)).toNatClampNeg) = 0 ∧ ∀ y_29 : Int32, y_29 = ((z0_106 - x2_106) / (V (U a0_106 52) ((V a0_106 53) + (33 : Int32)).toNatClampNeg)) → (U a0_106 45) ≠ 0 ∧ vp_in ((V a0_106 53) + (35 : Int32)) n_25 ∧ ∃ n_32, isA θ (U a0_106 45) 0 n_32 ∧ vp_in (V (U a0_106 52) ((V a0_106 53) + (35 : Int32)).toNatClampNeg) n_32 ∧ ∀ y_35 : Int32, y_35 = (V (U a0_106 45) (V (U a0_106 52) ((V a0_106 53) + (35 : Int32)).toNatClampNeg).toNatClampNeg) → ((¬ (V a0_106 40) = 0 → ∃ n, wl_M_values_161 θ a0_106 x2_106 y_29 y_35 K n (0 : Int32) (0 : Int32) V U) ∧ ((V a0_106 40) = 0 → ∃ n, wl_M_values_161 θ a0_106 x2_106 y_29 y_35 K n (1 : Int32) (0 : Int32) V U))
def wb_M_values_73 (θ : TH) (a0_73 : Nat) (x1_73 : Int32) (z0_73 : Int32) (K : VT → UT → Prop) (V : VT) (U : UT) : Prop := isO θ a0_73 12 ∧ (U a0_73 52) ≠ 0 ∧ ∃ n_19, isA θ (U a0_73 52) 0 n_19 ∧ vp_in ((V a0_73 53) + (32 : Int32)) n_19 ∧ ((x1_73 ≤ (V (U a0_73 52) ((V a0_73 53) + (32 : Int32)).toNatClampNeg) → wb_M_values_106 θ a0_73 z0_73 x1_73 K V U) ∧ (¬ x1_73 ≤ (V (U a0_73 52) ((V a0_73 53) + (32 : Int32)).toNatClampNeg) → wb_M_values_106 θ a0_73 z0_73 (V (U a0_73 52) ((V a0_73 53) + (32 : Int32)).toNatClampNeg) K V U))
def wb_M_values_40 (θ : TH) (a0_40 : Nat) (z0_40 : Int32) (K : VT → UT → Prop) (V : VT) (U : UT) : Prop := isO θ a0_40 12 ∧ (U a0_40 52) ≠ 0 ∧ ∃ n_13, isA θ (U a0_40 52) 0 n_13 ∧ vp_in ((V a0_40 53) + (31 : Int32)) n_13 ∧ ((z0_40 ≤ (V (U a0_40 52) ((V a0_40 53) + (31 : Int32)).toNatClampNeg) → wb_M_values_73 θ a0_40 z0_40 z0_40 K V U) ∧ (¬ z0_40 ≤ (V (U a0_40 52) ((V a0_40 53) + (31 : Int32)).toNatClampNeg) → wb_M_values_73 θ a0_40 z0_40 (V (U a0_40 52) ((V a0_40 53) + (31 : Int32)).toNatClampNeg) K V U))
def wp_M_values (θ : TH) (a0 : Nat) (V : VT) (U : UT) (K : VT → UT → Prop) : Prop := isO θ a0 12 ∧ wp_M_findRows θ a0 V U (fun V_1 U_2 => (U_2 a0 52) ≠ 0 ∧ ∃ n_5, isA θ (U_2 a0 52) 0 n_5 ∧ vp_in ((V_1 a0 53) + (30 : Int32)) n_5 ∧ ((¬ (V_1 (U_2 a0 52) ((V_1 a0 53) + (30 : Int32)).toNatClampNeg) = (2 : Int32) → ¬ (2 : Int32) = 0 ∧ wb_M_values_40 θ a0 ((V_1 a0 57) / (2 : Int32)) K V_1 U_2) ∧ ((V_1 (U_2 a0 52) ((V_1 a0 53) + (30 : Int32)).toNatClampNeg) = (2 : Int32) → ¬ (2 : Int32) = 0 ∧ wb_M_values_40 θ a0 (((V_1 a0 41) * (V_1 a0 57)) / (2 : Int32)) K V_1 U_2)))
set_option maxRecDepth 100000 in
set_option maxHeartbeats 4000000 in
theorem c_M_values (l : Launch) (θ : TH) (a0 : Nat) (V : VT) (U : UT) (K : VT → UT → Prop) (hw : wp_M_values θ a0 V U K) : CMv l yM_values kM_values 12 none rmM_values θ [.ref a0] V U K := by
  refine g_met nRM (by decide +kernel) rfl (Nat.le_of_ble_eq_true rfl) (fun p e s m args below meth c ls hC hr hlk hwo hl => ?_)
  have hx := hC.1
  have hb := hC.2.1
  have hS : Sx θ s s.heap [] := va_S.rf
  have hl : lv_has ls 12 [(0, .ref a0)] := hl
  have L161 : ∀ (a0_161 : Nat) (x2_161 : Int32) (x4_161 : Int32) (x5_161 : Int32) (n161 : Nat) (x6_161 : Int32) (x7_161 : Int32) (V : VT) (U : UT) (H : Heap) (locs : List Loc) (ls : Array Slot), wl_M_values_161 θ a0_161 x2_161 x4_161 x5_161 K n161 x6_161 x7_161 V U → wo θ V U H → Sx θ s H locs → lv_has ls 12 [(0, .ref a0_161), (2, .int x2_161), (4, .int x4_161), (5, .int x5_161), (6, .int x6_161), (7, .int x7_161)] → W p l e rmM_values s m args below meth c H locs 0 0 (MQ below (QV θ K) args s 0 0 (aT θ)) (F0 m 161 ls []) := by
    intro a0_161 x2_161 x4_161 x5_161 n161
    induction n161 with
    | zero => intro x6_161 x7_161 V U H locs ls hw hwo hS hl; exact (show False from hw).elim
    | succ n161 ih161 =>
      have L170 : ∀ (x7_170 : Int32) (n170 : Nat) (x6_170 : Int32) (x8_170 : Int32) (V : VT) (U : UT) (H : Heap) (locs : List Loc) (ls : Array Slot), wl_M_values_170 θ a0_161 x2_161 x4_161 x5_161 x7_170 (wl_M_values_161 θ a0_161 x2_161 x4_161 x5_161 K n161) K n170 x6_170 x8_170 V U → wo θ V U H → Sx θ s H locs → lv_has ls 12 [(0, .ref a0_161), (2, .int x2_161), (4, .int x4_161), (5, .int x5_161), (6, .int x6_170), (7, .int x7_170), (8, .int x8_170)] → W p l e rmM_values s m args below meth c H locs 0 0 (MQ below (QV θ K) args s 0 0 (aT θ)) (F0 m 170 ls []) := by
        intro x7_170 n170
        induction n170 with
        | zero => intro x6_170 x8_170 V U H locs ls hw hwo hS hl; exact (show False from hw).elim
        | succ n170 ih170 =>
          have J352 : ∀ (x6_352 : Int32) (x8_352 : Int32) (V : VT) (U : UT) (H : Heap) (locs : List Loc) (ls : Array Slot), wb_M_values_352 θ a0_161 x2_161 x4_161 x5_161 x6_352 x7_170 x8_352 (wl_M_values_161 θ a0_161 x2_161 x4_161 x5_161 K n161) (wl_M_values_170 θ a0_161 x2_161 x4_161 x5_161 x7_170 (wl_M_values_161 θ a0_161 x2_161 x4_161 x5_161 K n161) K n170) K V U → wo θ V U H → Sx θ s H locs → lv_has ls 12 [(0, .ref a0_161), (2, .int x2_161), (4, .int x4_161), (5, .int x5_161), (6, .int x6_352), (7, .int x7_170), (8, .int x8_352)] → W p l e rmM_values s m args below meth c H locs 0 0 (MQ below (QV θ K) args s 0 0 (aT θ)) (F0 m 352 ls []) := by
            intro x6_352 x8_352 V U H locs ls hw hwo hS hl
            unfold wb_M_values_352 at hw
            refine lv_iload hx hb dM_values_352 (lv_at hl 6 rfl) ?_
            refine lv_iload hx hb dM_values_354 (lv_at hl 3 rfl) ?_
            refine lv_iadd hx hb dM_values_356 ?_
            refine lv_topi (fun y_53 ey_53 => ?_)
            replace hw := hw y_53 ey_53
            refine lv_istore (i := 8) (lv' := [(8, .int y_53), (0, .ref a0_161), (2, .int x2_161), (4, .int x4_161), (5, .int x5_161), (6, .int x6_352), (7, .int x7_170)]) hx hb dM_values_357 hl (by decide) rfl (fun ls hl => ?_)
            refine lv_goto (tgt := 170) hx hb dM_values_359 (by decide) ?_
            exact ih170 _ _ _ _ _ _ _ hw hwo hS (lv_sub hl [1, 2, 3, 4, 5, 6, 0] rfl)
          have L228 : ∀ (x8_228 : Int32) (n228 : Nat) (x6_228 : Int32) (x9_228 : Int32) (V : VT) (U : UT) (H : Heap) (locs : List Loc) (ls : Array Slot), wl_M_values_228 θ a0_161 x2_161 x4_161 x5_161 x7_170 x8_228 (wl_M_values_161 θ a0_161 x2_161 x4_161 x5_161 K n161) (wl_M_values_170 θ a0_161 x2_161 x4_161 x5_161 x7_170 (wl_M_values_161 θ a0_161 x2_161 x4_161 x5_161 K n161) K n170) K n228 x6_228 x9_228 V U → wo θ V U H → Sx θ s H locs → lv_has ls 12 [(0, .ref a0_161), (2, .int x2_161), (4, .int x4_161), (5, .int x5_161), (6, .int x6_228), (7, .int x7_170), (8, .int x8_228), (9, .int x9_228)] → W p l e rmM_values s m args below meth c H locs 0 0 (MQ below (QV θ K) args s 0 0 (aT θ)) (F0 m 228 ls []) := by
            intro x8_228 n228
            induction n228 with
            | zero => intro x6_228 x9_228 V U H locs ls hw hwo hS hl; exact (show False from hw).elim
            | succ n228 ih228 =>
              have L253 : ∀ (x9_253 : Int32) (n253 : Nat) (x6_253 : Int32) (x10_253 : Int32) (V : VT) (U : UT) (H : Heap) (locs : List Loc) (ls : Array Slot), wl_M_values_253 θ a0_161 x2_161 x4_161 x5_161 x7_170 x8_228 x9_253 (wl_M_values_161 θ a0_161 x2_161 x4_161 x5_161 K n161) (wl_M_values_170 θ a0_161 x2_161 x4_161 x5_161 x7_170 (wl_M_values_161 θ a0_161 x2_161 x4_161 x5_161 K n161) K n170) (wl_M_values_228 θ a0_161 x2_161 x4_161 x5_161 x7_170 x8_228 (wl_M_values_161 θ a0_161 x2_161 x4_161 x5_161 K n161) (wl_M_values_170 θ a0_161 x2_161 x4_161 x5_161 x7_170 (wl_M_values_161 θ a0_161 x2_161 x4_161 x5_161 K n161) K n170) K n228) K n253 x6_253 x10_253 V U → wo θ V U H → Sx θ s H locs → lv_has ls 12 [(0, .ref a0_161), (2, .int x2_161), (4, .int x4_161), (5, .int x5_161), (6, .int x6_253), (7, .int x7_170), (8, .int x8_228), (9, .int x9_253), (10, .int x10_253)] → W p l e rmM_values s m args below meth c H locs 0 0 (MQ below (QV θ K) args s 0 0 (aT θ)) (F0 m 253 ls []) := by
                intro x9_253 n253
                induction n253 with
                | zero => intro x6_253 x10_253 V U H locs ls hw hwo hS hl; exact (show False from hw).elim
                | succ n253 ih253 =>
                  have J333 : ∀ (x10_333 : Int32) (V : VT) (U : UT) (H : Heap) (locs : List Loc) (ls : Array Slot), wb_M_values_333 θ a0_161 x2_161 x4_161 x5_161 x7_170 x8_228 x9_253 x10_333 (wl_M_values_161 θ a0_161 x2_161 x4_161 x5_161 K n161) (wl_M_values_170 θ a0_161 x2_161 x4_161 x5_161 x7_170 (wl_M_values_161 θ a0_161 x2_161 x4_161 x5_161 K n161) K n170) (wl_M_values_228 θ a0_161 x2_161 x4_161 x5_161 x7_170 x8_228 (wl_M_values_161 θ a0_161 x2_161 x4_161 x5_161 K n161) (wl_M_values_170 θ a0_161 x2_161 x4_161 x5_161 x7_170 (wl_M_values_161 θ a0_161 x2_161 x4_161 x5_161 K n161) K n170) K n228) (wl_M_values_253 θ a0_161 x2_161 x4_161 x5_161 x7_170 x8_228 x9_253 (wl_M_values_161 θ a0_161 x2_161 x4_161 x5_161 K n161) (wl_M_values_170 θ a0_161 x2_161 x4_161 x5_161 x7_170 (wl_M_values_161 θ a0_161 x2_161 x4_161 x5_161 K n161) K n170) (wl_M_values_228 θ a0_161 x2_161 x4_161 x5_161 x7_170 x8_228 (wl_M_values_161 θ a0_161 x2_161 x4_161 x5_161 K n161) (wl_M_values_170 θ a0_161 x2_161 x4_161 x5_161 x7_170 (wl_M_values_161 θ a0_161 x2_161 x4_161 x5_161 K n161) K n170) K n228) K n253) K V U → wo θ V U H → Sx θ s H locs → lv_has ls 12 [(0, .ref a0_161), (2, .int x2_161), (4, .int x4_161), (5, .int x5_161), (7, .int x7_170), (8, .int x8_228), (9, .int x9_253), (10, .int x10_333)] → W p l e rmM_values s m args below meth c H locs 0 0 (MQ below (QV θ K) args s 0 0 (aT θ)) (F0 m 333 ls []) := by
                    intro x10_333 V U H locs ls hw hwo hS hl
                    unfold wb_M_values_333 at hw
                    refine lv_iconst (v := 1) hx hb dM_values_333 (by decide) ?_
                    refine lv_goto (tgt := 338) hx hb dM_values_334 (by decide) ?_
                    refine lv_istore (i := 6) (lv' := [(6, .int (1 : Int32)), (0, .ref a0_161), (2, .int x2_161), (4, .int x4_161), (5, .int x5_161), (7, .int x7_170), (8, .int x8_228), (9, .int x9_253), (10, .int x10_333)]) hx hb dM_values_338 hl (by decide) rfl (fun ls hl => ?_)
                    obtain ⟨y_75, ey_75⟩ : ∃ z : Int32, z = x10_333 + (1 : Int32) := ⟨_, rfl⟩
                    replace hw := hw y_75 ey_75
                    refine lv_iinc (k := 8) (v := y_75) (lv' := [(10, .int y_75), (6, .int (1 : Int32)), (0, .ref a0_161), (2, .int x2_161), (4, .int x4_161), (5, .int x5_161), (7, .int x7_170), (8, .int x8_228), (9, .int x9_253)]) hx hb dM_values_340 hl rfl (by rw [ey_75]; rfl) (by decide) rfl (fun ls hl => ?_)
                    refine lv_goto (tgt := 253) hx hb dM_values_343 (by decide) ?_
                    exact ih253 _ _ _ _ _ _ _ hw hwo hS (lv_sub hl [2, 3, 4, 5, 1, 6, 7, 8, 0] rfl)
                  intro x6_253 x10_253 V U H locs ls hw hwo hS hl
                  replace hw : bl_M_values_253 θ a0_161 x2_161 x4_161 x5_161 x7_170 x8_228 x9_253 (wl_M_values_161 θ a0_161 x2_161 x4_161 x5_161 K n161) (wl_M_values_170 θ a0_161 x2_161 x4_161 x5_161 x7_170 (wl_M_values_161 θ a0_161 x2_161 x4_161 x5_161 K n161) K n170) (wl_M_values_228 θ a0_161 x2_161 x4_161 x5_161 x7_170 x8_228 (wl_M_values_161 θ a0_161 x2_161 x4_161 x5_161 K n161) (wl_M_values_170 θ a0_161 x2_161 x4_161 x5_161 x7_170 (wl_M_values_161 θ a0_161 x2_161 x4_161 x5_161 K n161) K n170) K n228) K (wl_M_values_253 θ a0_161 x2_161 x4_161 x5_161 x7_170 x8_228 x9_253 (wl_M_values_161 θ a0_161 x2_161 x4_161 x5_161 K n161) (wl_M_values_170 θ a0_161 x2_161 x4_161 x5_161 x7_170 (wl_M_values_161 θ a0_161 x2_161 x4_161 x5_161 K n161) K n170) (wl_M_values_228 θ a0_161 x2_161 x4_161 x5_161 x7_170 x8_228 (wl_M_values_161 θ a0_161 x2_161 x4_161 x5_161 K n161) (wl_M_values_170 θ a0_161 x2_161 x4_161 x5_161 x7_170 (wl_M_values_161 θ a0_161 x2_161 x4_161 x5_161 K n161) K n170) K n228) K n253) x6_253 x10_253 V U := hw
                  unfold bl_M_values_253 at hw
                  refine lv_iload hx hb dM_values_253 (lv_at hl 8 rfl) ?_
                  refine lv_aload_n hx hb dM_values_255 rfl (lv_at hl 0 rfl) ?_
                  obtain ⟨ho_54, hw⟩ := hw
                  refine g_getI hC fkM_360 rfl hwo ho_54 dM_values_256 ?_
                  refine lv_icmp_ge (tgt := 346) hx hb dM_values_259 (by decide) (fun hc_55 => ?_) (fun hc_55 => ?_)
                  · replace hw := hw.1 hc_55
                    obtain ⟨y_56, ey_56⟩ : ∃ z : Int32, z = x9_253 + (1 : Int32) := ⟨_, rfl⟩
                    replace hw := hw y_56 ey_56
                    refine lv_iinc (k := 7) (v := y_56) (lv' := [(9, .int y_56), (0, .ref a0_161), (2, .int x2_161), (4, .int x4_161), (5, .int x5_161), (6, .int x6_253), (7, .int x7_170), (8, .int x8_228), (10, .int x10_253)]) hx hb dM_values_346 hl rfl (by rw [ey_56]; rfl) (by decide) rfl (fun ls hl => ?_)
                    refine lv_goto (tgt := 228) hx hb dM_values_349 (by decide) ?_
                    exact ih228 _ _ _ _ _ _ _ hw hwo hS (lv_sub hl [1, 2, 3, 4, 5, 6, 7, 0] rfl)
                  · replace hw := hw.2 hc_55
                    refine lv_iload hx hb dM_values_262 (lv_at hl 4 rfl) ?_
                    refine lv_if_eq (tgt := 346) hx hb dM_values_264 (by decide) (fun hc_57 => ?_) (fun hc_57 => ?_)
                    · replace hw := hw.1 hc_57
                      obtain ⟨y_58, ey_58⟩ : ∃ z : Int32, z = x9_253 + (1 : Int32) := ⟨_, rfl⟩
                      replace hw := hw y_58 ey_58
                      refine lv_iinc (k := 7) (v := y_58) (lv' := [(9, .int y_58), (0, .ref a0_161), (2, .int x2_161), (4, .int x4_161), (5, .int x5_161), (6, .int x6_253), (7, .int x7_170), (8, .int x8_228), (10, .int x10_253)]) hx hb dM_values_346 hl rfl (by rw [ey_58]; rfl) (by decide) rfl (fun ls hl => ?_)
                      refine lv_goto (tgt := 228) hx hb dM_values_349 (by decide) ?_
                      exact ih228 _ _ _ _ _ _ _ hw hwo hS (lv_sub hl [1, 2, 3, 4, 5, 6, 7, 0] rfl)
                    · replace hw := hw.2 hc_57
                      refine lv_aload_n hx hb dM_values_267 rfl (lv_at hl 0 rfl) ?_
                      obtain ⟨hz_59, hw⟩ := hw
                      refine g_getR hC fkM_101 rfl hwo ho_54 hz_59 dM_values_268 ?_
                      refine lv_aload_n hx hb dM_values_271 rfl (lv_at hl 0 rfl) ?_
                      refine g_getI hC fkM_104 rfl hwo ho_54 dM_values_272 ?_
                      refine lv_bipush (v := 36) hx hb dM_values_275 (by decide) ?_
                      refine lv_iadd hx hb dM_values_277 ?_
                      refine lv_iconst (v := 2) hx hb dM_values_278 (by decide) ?_
                      refine lv_aload_n hx hb dM_values_279 rfl (lv_at hl 0 rfl) ?_
                      obtain ⟨hz_60, hw⟩ := hw
                      refine g_getR hC fkM_129 rfl hwo ho_54 hz_60 dM_values_280 ?_
                      refine lv_bipush (v := 64) hx hb dM_values_283 (by decide) ?_
                      refine lv_iload hx hb dM_values_285 (lv_at hl 8 rfl) ?_
                      refine lv_imul hx hb dM_values_287 ?_
                      refine lv_iload hx hb dM_values_288 (lv_at hl 7 rfl) ?_
                      refine lv_iadd hx hb dM_values_290 ?_
                      obtain ⟨n_61, ha_62, hw⟩ := hw
                      obtain ⟨hi_63, hw⟩ := hw
                      refine g_iald hC hwo ha_62 hi_63 dM_values_291 ?_
                      refine lv_imul hx hb dM_values_292 ?_
                      refine lv_iadd hx hb dM_values_293 ?_
                      refine lv_iload hx hb dM_values_294 (lv_at hl 5 rfl) ?_
                      refine lv_iadd hx hb dM_values_296 ?_
                      obtain ⟨n_64, ha_65, hw⟩ := hw
                      obtain ⟨hi_66, hw⟩ := hw
                      refine g_iald hC hwo ha_65 hi_66 dM_values_297 ?_
                      refine lv_topi (fun y_67 ey_67 => ?_)
                      replace hw := hw y_67 ey_67
                      refine lv_istore (i := 11) (lv' := [(11, .int y_67), (0, .ref a0_161), (2, .int x2_161), (4, .int x4_161), (5, .int x5_161), (6, .int x6_253), (7, .int x7_170), (8, .int x8_228), (9, .int x9_253), (10, .int x10_253)]) hx hb dM_values_298 hl (by decide) rfl (fun ls hl => ?_)
                      refine lv_iload hx hb dM_values_300 (lv_at hl 0 rfl) ?_
                      refine lv_if_lt (tgt := 333) hx hb dM_values_302 (by decide) (fun hc_68 => ?_) (fun hc_68 => ?_)
                      · replace hw := hw.1 hc_68
                        exact J333 _ _ _ _ _ _ hw hwo hS (lv_sub hl [1, 2, 3, 4, 6, 7, 8, 9] rfl)
                      · replace hw := hw.2 hc_68
                        refine lv_aload_n hx hb dM_values_305 rfl (lv_at hl 1 rfl) ?_
                        refine lv_iload hx hb dM_values_306 (lv_at hl 9 rfl) ?_
                        refine lv_iload_n hx hb dM_values_308 rfl (lv_at hl 2 rfl) ?_
                        refine lv_iload hx hb dM_values_309 (lv_at hl 8 rfl) ?_
                        refine lv_aload_n hx hb dM_values_311 rfl (lv_at hl 1 rfl) ?_
                        refine g_getR hC fkM_101 rfl hwo ho_54 hz_59 dM_values_312 ?_
                        refine lv_aload_n hx hb dM_values_315 rfl (lv_at hl 1 rfl) ?_
                        refine g_getI hC fkM_104 rfl hwo ho_54 dM_values_316 ?_
                        refine lv_bipush (v := 33) hx hb dM_values_319 (by decide) ?_
                        refine lv_iadd hx hb dM_values_321 ?_
                        obtain ⟨hi_69, hw⟩ := hw
                        refine g_iald hC hwo ha_65 hi_69 dM_values_322 ?_
                        refine lv_imul hx hb dM_values_323 ?_
                        refine lv_iadd hx hb dM_values_324 ?_
                        refine lv_iload hx hb dM_values_325 (lv_at hl 0 rfl) ?_
                        refine g_Vi (rest := []) hC (c_M_fill l θ _ _ _ _ _ _ _ hw) mi_M_fill mlM_369 mv_M_fill ci_12 ho_54 hwo hS ⟨rfl, rfl⟩ ⟨by decide, by decide⟩ rfl hl.1 rfl (Nat.le_of_ble_eq_true rfl) dM_values_327 (fun r_72 V_70 U_71 hw H locs hwo hS => ?_)
                        refine lv_if_eq (tgt := 337) hx hb dM_values_330 (by decide) (fun hc_73 => ?_) (fun hc_73 => ?_)
                        · replace hw := hw.1 hc_73
                          refine lv_iconst (v := 0) hx hb dM_values_337 (by decide) ?_
                          refine lv_istore (i := 6) (lv' := [(6, .int (0 : Int32)), (11, .int y_67), (0, .ref a0_161), (2, .int x2_161), (4, .int x4_161), (5, .int x5_161), (7, .int x7_170), (8, .int x8_228), (9, .int x9_253), (10, .int x10_253)]) hx hb dM_values_338 hl (by decide) rfl (fun ls hl => ?_)
                          obtain ⟨y_74, ey_74⟩ : ∃ z : Int32, z = x10_253 + (1 : Int32) := ⟨_, rfl⟩
                          replace hw := hw y_74 ey_74
                          refine lv_iinc (k := 9) (v := y_74) (lv' := [(10, .int y_74), (6, .int (0 : Int32)), (11, .int y_67), (0, .ref a0_161), (2, .int x2_161), (4, .int x4_161), (5, .int x5_161), (7, .int x7_170), (8, .int x8_228), (9, .int x9_253)]) hx hb dM_values_340 hl rfl (by rw [ey_74]; rfl) (by decide) rfl (fun ls hl => ?_)
                          refine lv_goto (tgt := 253) hx hb dM_values_343 (by decide) ?_
                          exact ih253 _ _ _ _ _ _ _ hw hwo hS (lv_sub hl [3, 4, 5, 6, 1, 7, 8, 9, 0] rfl)
                        · replace hw := hw.2 hc_73
                          exact J333 _ _ _ _ _ _ hw hwo hS (lv_sub hl [1, 2, 3, 4, 6, 7, 8, 9] rfl)
              intro x6_228 x9_228 V U H locs ls hw hwo hS hl
              replace hw : bl_M_values_228 θ a0_161 x2_161 x4_161 x5_161 x7_170 x8_228 (wl_M_values_161 θ a0_161 x2_161 x4_161 x5_161 K n161) (wl_M_values_170 θ a0_161 x2_161 x4_161 x5_161 x7_170 (wl_M_values_161 θ a0_161 x2_161 x4_161 x5_161 K n161) K n170) K (wl_M_values_228 θ a0_161 x2_161 x4_161 x5_161 x7_170 x8_228 (wl_M_values_161 θ a0_161 x2_161 x4_161 x5_161 K n161) (wl_M_values_170 θ a0_161 x2_161 x4_161 x5_161 x7_170 (wl_M_values_161 θ a0_161 x2_161 x4_161 x5_161 K n161) K n170) K n228) x6_228 x9_228 V U := hw
              unfold bl_M_values_228 at hw
              refine lv_iload hx hb dM_values_228 (lv_at hl 7 rfl) ?_
              refine lv_iload hx hb dM_values_230 (lv_at hl 6 rfl) ?_
              refine lv_iload hx hb dM_values_232 (lv_at hl 3 rfl) ?_
              refine lv_iadd hx hb dM_values_234 ?_
              refine lv_icmp_ge (tgt := 352) hx hb dM_values_235 (by decide) (fun hc_50 => ?_) (fun hc_50 => ?_)
              · replace hw := hw.1 hc_50
                exact J352 _ _ _ _ _ _ _ hw hwo hS (lv_sub hl [0, 1, 2, 3, 4, 5, 6] rfl)
              · replace hw := hw.2 hc_50
                refine lv_iload hx hb dM_values_238 (lv_at hl 7 rfl) ?_
                refine lv_iload hx hb dM_values_240 (lv_at hl 2 rfl) ?_
                refine lv_icmp_ge (tgt := 352) hx hb dM_values_242 (by decide) (fun hc_51 => ?_) (fun hc_51 => ?_)
                · replace hw := hw.1 hc_51
                  exact J352 _ _ _ _ _ _ _ hw hwo hS (lv_sub hl [0, 1, 2, 3, 4, 5, 6] rfl)
                · replace hw := hw.2 hc_51
                  refine lv_iload hx hb dM_values_245 (lv_at hl 4 rfl) ?_
                  refine lv_if_eq (tgt := 352) hx hb dM_values_247 (by decide) (fun hc_52 => ?_) (fun hc_52 => ?_)
                  · replace hw := hw.1 hc_52
                    exact J352 _ _ _ _ _ _ _ hw hwo hS (lv_sub hl [0, 1, 2, 3, 4, 5, 6] rfl)
                  · replace hw := hw.2 hc_52
                    refine lv_iconst (v := 0) hx hb dM_values_250 (by decide) ?_
                    refine lv_istore (i := 10) (lv' := [(10, .int (0 : Int32)), (0, .ref a0_161), (2, .int x2_161), (4, .int x4_161), (5, .int x5_161), (6, .int x6_228), (7, .int x7_170), (8, .int x8_228), (9, .int x9_228)]) hx hb dM_values_251 hl (by decide) rfl (fun ls hl => ?_)
                    obtain ⟨n, hw⟩ := hw
                    exact L253 _ n _ _ _ _ _ _ _ hw hwo hS (lv_sub hl [1, 2, 3, 4, 5, 6, 7, 8, 0] rfl)
          have L185 : ∀ (x8_185 : Int32) (n185 : Nat) (x6_185 : Int32) (x9_185 : Int32) (V : VT) (U : UT) (H : Heap) (locs : List Loc) (ls : Array Slot), wl_M_values_185 θ a0_161 x2_161 x4_161 x5_161 x7_170 x8_185 (wl_M_values_161 θ a0_161 x2_161 x4_161 x5_161 K n161) (wl_M_values_170 θ a0_161 x2_161 x4_161 x5_161 x7_170 (wl_M_values_161 θ a0_161 x2_161 x4_161 x5_161 K n161) K n170) K n185 x6_185 x9_185 V U → wo θ V U H → Sx θ s H locs → lv_has ls 12 [(0, .ref a0_161), (2, .int x2_161), (4, .int x4_161), (5, .int x5_161), (6, .int x6_185), (7, .int x7_170), (8, .int x8_185), (9, .int x9_185)] → W p l e rmM_values s m args below meth c H locs 0 0 (MQ below (QV θ K) args s 0 0 (aT θ)) (F0 m 185 ls []) := by
            intro x8_185 n185
            induction n185 with
            | zero => intro x6_185 x9_185 V U H locs ls hw hwo hS hl; exact (show False from hw).elim
            | succ n185 ih185 =>
              intro x6_185 x9_185 V U H locs ls hw hwo hS hl
              replace hw : bl_M_values_185 θ a0_161 x2_161 x4_161 x5_161 x7_170 x8_185 (wl_M_values_161 θ a0_161 x2_161 x4_161 x5_161 K n161) (wl_M_values_170 θ a0_161 x2_161 x4_161 x5_161 x7_170 (wl_M_values_161 θ a0_161 x2_161 x4_161 x5_161 K n161) K n170) K (wl_M_values_185 θ a0_161 x2_161 x4_161 x5_161 x7_170 x8_185 (wl_M_values_161 θ a0_161 x2_161 x4_161 x5_161 K n161) (wl_M_values_170 θ a0_161 x2_161 x4_161 x5_161 x7_170 (wl_M_values_161 θ a0_161 x2_161 x4_161 x5_161 K n161) K n170) K n185) x6_185 x9_185 V U := hw
              unfold bl_M_values_185 at hw
              refine lv_iload hx hb dM_values_185 (lv_at hl 7 rfl) ?_
              refine lv_aload_n hx hb dM_values_187 rfl (lv_at hl 0 rfl) ?_
              obtain ⟨ho_42, hw⟩ := hw
              refine g_getI hC fkM_360 rfl hwo ho_42 dM_values_188 ?_
              refine lv_icmp_ge (tgt := 224) hx hb dM_values_191 (by decide) (fun hc_43 => ?_) (fun hc_43 => ?_)
              · replace hw := hw.1 hc_43
                refine lv_iload hx hb dM_values_224 (lv_at hl 6 rfl) ?_
                refine lv_istore (i := 9) (lv' := [(9, .int x8_185), (0, .ref a0_161), (2, .int x2_161), (4, .int x4_161), (5, .int x5_161), (6, .int x6_185), (7, .int x7_170), (8, .int x8_185)]) hx hb dM_values_226 hl (by decide) rfl (fun ls hl => ?_)
                obtain ⟨n, hw⟩ := hw
                exact L228 _ n _ _ _ _ _ _ _ hw hwo hS (lv_sub hl [1, 2, 3, 4, 5, 6, 7, 0] rfl)
              · replace hw := hw.2 hc_43
                refine lv_iload hx hb dM_values_194 (lv_at hl 4 rfl) ?_
                refine lv_if_eq (tgt := 224) hx hb dM_values_196 (by decide) (fun hc_44 => ?_) (fun hc_44 => ?_)
                · replace hw := hw.1 hc_44
                  refine lv_iload hx hb dM_values_224 (lv_at hl 6 rfl) ?_
                  refine lv_istore (i := 9) (lv' := [(9, .int x8_185), (0, .ref a0_161), (2, .int x2_161), (4, .int x4_161), (5, .int x5_161), (6, .int x6_185), (7, .int x7_170), (8, .int x8_185)]) hx hb dM_values_226 hl (by decide) rfl (fun ls hl => ?_)
                  obtain ⟨n, hw⟩ := hw
                  exact L228 _ n _ _ _ _ _ _ _ hw hwo hS (lv_sub hl [1, 2, 3, 4, 5, 6, 7, 0] rfl)
                · replace hw := hw.2 hc_44
                  refine lv_iload hx hb dM_values_199 (lv_at hl 5 rfl) ?_
                  refine lv_if_ne (tgt := 224) hx hb dM_values_201 (by decide) (fun hc_45 => ?_) (fun hc_45 => ?_)
                  · replace hw := hw.1 hc_45
                    refine lv_iload hx hb dM_values_224 (lv_at hl 6 rfl) ?_
                    refine lv_istore (i := 9) (lv' := [(9, .int x8_185), (0, .ref a0_161), (2, .int x2_161), (4, .int x4_161), (5, .int x5_161), (6, .int x6_185), (7, .int x7_170), (8, .int x8_185)]) hx hb dM_values_226 hl (by decide) rfl (fun ls hl => ?_)
                    obtain ⟨n, hw⟩ := hw
                    exact L228 _ n _ _ _ _ _ _ _ hw hwo hS (lv_sub hl [1, 2, 3, 4, 5, 6, 7, 0] rfl)
                  · replace hw := hw.2 hc_45
                    refine lv_aload_n hx hb dM_values_204 rfl (lv_at hl 0 rfl) ?_
                    refine lv_iload hx hb dM_values_205 (lv_at hl 7 rfl) ?_
                    refine lv_iload hx hb dM_values_207 (lv_at hl 6 rfl) ?_
                    refine lv_iload hx hb dM_values_209 (lv_at hl 3 rfl) ?_
                    refine lv_iload hx hb dM_values_211 (lv_at hl 2 rfl) ?_
                    refine g_Vi (rest := []) hC (c_M_kinds l θ _ _ _ _ _ _ _ _ hw) mi_M_kinds mlM_366 mv_M_kinds ci_12 ho_42 hwo hS ⟨rfl, rfl⟩ ⟨by decide, by decide⟩ rfl hl.1 rfl (Nat.le_of_ble_eq_true rfl) dM_values_213 (fun r_48 V_46 U_47 hw H locs hwo hS => ?_)
                    refine lv_istore (i := 6) (lv' := [(6, .int r_48), (0, .ref a0_161), (2, .int x2_161), (4, .int x4_161), (5, .int x5_161), (7, .int x7_170), (8, .int x8_185), (9, .int x9_185)]) hx hb dM_values_216 hl (by decide) rfl (fun ls hl => ?_)
                    obtain ⟨y_49, ey_49⟩ : ∃ z : Int32, z = x9_185 + (1 : Int32) := ⟨_, rfl⟩
                    replace hw := hw y_49 ey_49
                    refine lv_iinc (k := 7) (v := y_49) (lv' := [(9, .int y_49), (6, .int r_48), (0, .ref a0_161), (2, .int x2_161), (4, .int x4_161), (5, .int x5_161), (7, .int x7_170), (8, .int x8_185)]) hx hb dM_values_218 hl rfl (by rw [ey_49]; rfl) (by decide) rfl (fun ls hl => ?_)
                    refine lv_goto (tgt := 185) hx hb dM_values_221 (by decide) ?_
                    exact ih185 _ _ _ _ _ _ _ hw hwo hS (lv_sub hl [2, 3, 4, 5, 1, 6, 7, 0] rfl)
          intro x6_170 x8_170 V U H locs ls hw hwo hS hl
          replace hw : bl_M_values_170 θ a0_161 x2_161 x4_161 x5_161 x7_170 (wl_M_values_161 θ a0_161 x2_161 x4_161 x5_161 K n161) K (wl_M_values_170 θ a0_161 x2_161 x4_161 x5_161 x7_170 (wl_M_values_161 θ a0_161 x2_161 x4_161 x5_161 K n161) K n170) x6_170 x8_170 V U := hw
          unfold bl_M_values_170 at hw
          refine lv_iload hx hb dM_values_170 (lv_at hl 6 rfl) ?_
          refine lv_iload hx hb dM_values_172 (lv_at hl 2 rfl) ?_
          refine lv_icmp_ge (tgt := 362) hx hb dM_values_174 (by decide) (fun hc_38 => ?_) (fun hc_38 => ?_)
          · replace hw := hw.1 hc_38
            obtain ⟨y_39, ey_39⟩ : ∃ z : Int32, z = x7_170 + (1 : Int32) := ⟨_, rfl⟩
            replace hw := hw y_39 ey_39
            refine lv_iinc (k := 5) (v := y_39) (lv' := [(7, .int y_39), (0, .ref a0_161), (2, .int x2_161), (4, .int x4_161), (5, .int x5_161), (6, .int x6_170), (8, .int x8_170)]) hx hb dM_values_362 hl rfl (by rw [ey_39]; rfl) (by decide) rfl (fun ls hl => ?_)
            refine lv_goto (tgt := 161) hx hb dM_values_365 (by decide) ?_
            exact ih161 _ _ _ _ _ _ _ hw hwo hS (lv_sub hl [1, 2, 3, 4, 5, 0] rfl)
          · replace hw := hw.2 hc_38
            refine lv_iload hx hb dM_values_177 (lv_at hl 4 rfl) ?_
            refine lv_if_eq (tgt := 362) hx hb dM_values_179 (by decide) (fun hc_40 => ?_) (fun hc_40 => ?_)
            · replace hw := hw.1 hc_40
              obtain ⟨y_41, ey_41⟩ : ∃ z : Int32, z = x7_170 + (1 : Int32) := ⟨_, rfl⟩
              replace hw := hw y_41 ey_41
              refine lv_iinc (k := 5) (v := y_41) (lv' := [(7, .int y_41), (0, .ref a0_161), (2, .int x2_161), (4, .int x4_161), (5, .int x5_161), (6, .int x6_170), (8, .int x8_170)]) hx hb dM_values_362 hl rfl (by rw [ey_41]; rfl) (by decide) rfl (fun ls hl => ?_)
              refine lv_goto (tgt := 161) hx hb dM_values_365 (by decide) ?_
              exact ih161 _ _ _ _ _ _ _ hw hwo hS (lv_sub hl [1, 2, 3, 4, 5, 0] rfl)
            · replace hw := hw.2 hc_40
              refine lv_iconst (v := 0) hx hb dM_values_182 (by decide) ?_
              refine lv_istore (i := 9) (lv' := [(9, .int (0 : Int32)), (0, .ref a0_161), (2, .int x2_161), (4, .int x4_161), (5, .int x5_161), (6, .int x6_170), (7, .int x7_170), (8, .int x8_170)]) hx hb dM_values_183 hl (by decide) rfl (fun ls hl => ?_)
              obtain ⟨n, hw⟩ := hw
              exact L185 _ n _ _ _ _ _ _ _ hw hwo hS (lv_sub hl [1, 2, 3, 4, 5, 6, 7, 0] rfl)
      intro x6_161 x7_161 V U H locs ls hw hwo hS hl
      replace hw : bl_M_values_161 θ a0_161 x2_161 x4_161 x5_161 K (wl_M_values_161 θ a0_161 x2_161 x4_161 x5_161 K n161) x6_161 x7_161 V U := hw
      unfold bl_M_values_161 at hw
      refine lv_iload hx hb dM_values_161 (lv_at hl 5 rfl) ?_
      refine lv_iconst (v := 2) hx hb dM_values_163 (by decide) ?_
      refine lv_icmp_ge (tgt := 368) hx hb dM_values_164 (by decide) (fun hc_37 => ?_) (fun hc_37 => ?_)
      · replace hw := hw.1 hc_37
        exact g_vret hC hr hlk hw hwo hS dM_values_368
      · replace hw := hw.2 hc_37
        refine lv_iconst (v := 0) hx hb dM_values_167 (by decide) ?_
        refine lv_istore (i := 8) (lv' := [(8, .int (0 : Int32)), (0, .ref a0_161), (2, .int x2_161), (4, .int x4_161), (5, .int x5_161), (6, .int x6_161), (7, .int x7_161)]) hx hb dM_values_168 hl (by decide) rfl (fun ls hl => ?_)
        obtain ⟨n, hw⟩ := hw
        exact L170 _ n _ _ _ _ _ _ _ hw hwo hS (lv_sub hl [1, 2, 3, 4, 5, 6, 0] rfl)
  have J106 : ∀ (a0_106 : Nat) (x2_106 : Int32) (z0_106 : Int32) (V : VT) (U : UT) (H : Heap) (locs : List Loc) (ls : Array Slot), wb_M_values_106 θ a0_106 x2_106 z0_106 K V U → wo θ V U H → Sx θ s H locs → lv_has ls 12 [(0, .ref a0_106), (2, .int x2_106)] → W p l e rmM_values s m args below meth c H locs 0 0 (MQ below (QV θ K) args s 0 0 (aT θ)) (F0 m 106 ls [.int z0_106]) := by
    intro a0_106 x2_106 z0_106 V U H locs ls hw hwo hS hl
    unfold wb_M_values_106 at hw
    refine lv_istore_n (i := 3) (lv' := [(3, .int z0_106), (0, .ref a0_106), (2, .int x2_106)]) hx hb dM_values_106 rfl hl (by decide) rfl (fun ls hl => ?_)
    refine lv_iload_n hx hb dM_values_107 rfl (lv_at hl 0 rfl) ?_
    refine lv_iload_n hx hb dM_values_108 rfl (lv_at hl 2 rfl) ?_
    refine lv_isub hx hb dM_values_109 ?_
    refine lv_aload_n hx hb dM_values_110 rfl (lv_at hl 1 rfl) ?_
    obtain ⟨ho_23, hw⟩ := hw
    obtain ⟨hz_24, hw⟩ := hw
    refine g_getR hC fkM_101 rfl hwo ho_23 hz_24 dM_values_111 ?_
    refine lv_aload_n hx hb dM_values_114 rfl (lv_at hl 1 rfl) ?_
    refine g_getI hC fkM_104 rfl hwo ho_23 dM_values_115 ?_
    refine lv_bipush (v := 33) hx hb dM_values_118 (by decide) ?_
    refine lv_iadd hx hb dM_values_120 ?_
    obtain ⟨n_25, ha_26, hw⟩ := hw
    obtain ⟨hi_27, hw⟩ := hw
    refine g_iald hC hwo ha_26 hi_27 dM_values_121 ?_
    obtain ⟨hd_28, hw⟩ := hw
    refine lv_idiv hx hb dM_values_122 hd_28 ?_
    refine lv_topi (fun y_29 ey_29 => ?_)
    replace hw := hw y_29 ey_29
    refine lv_istore (i := 4) (lv' := [(4, .int y_29), (3, .int z0_106), (0, .ref a0_106), (2, .int x2_106)]) hx hb dM_values_123 hl (by decide) rfl (fun ls hl => ?_)
    refine lv_aload_n hx hb dM_values_125 rfl (lv_at hl 2 rfl) ?_
    obtain ⟨hz_30, hw⟩ := hw
    refine g_getR hC fkM_80 rfl hwo ho_23 hz_30 dM_values_126 ?_
    refine lv_aload_n hx hb dM_values_129 rfl (lv_at hl 2 rfl) ?_
    refine g_getR hC fkM_101 rfl hwo ho_23 hz_24 dM_values_130 ?_
    refine lv_aload_n hx hb dM_values_133 rfl (lv_at hl 2 rfl) ?_
    refine g_getI hC fkM_104 rfl hwo ho_23 dM_values_134 ?_
    refine lv_bipush (v := 35) hx hb dM_values_137 (by decide) ?_
    refine lv_iadd hx hb dM_values_139 ?_
    obtain ⟨hi_31, hw⟩ := hw
    refine g_iald hC hwo ha_26 hi_31 dM_values_140 ?_
    obtain ⟨n_32, ha_33, hw⟩ := hw
    obtain ⟨hi_34, hw⟩ := hw
    refine g_iald hC hwo ha_33 hi_34 dM_values_141 ?_
    refine lv_topi (fun y_35 ey_35 => ?_)
    replace hw := hw y_35 ey_35
    refine lv_istore (i := 5) (lv' := [(5, .int y_35), (4, .int y_29), (3, .int z0_106), (0, .ref a0_106), (2, .int x2_106)]) hx hb dM_values_142 hl (by decide) rfl (fun ls hl => ?_)
    refine lv_aload_n hx hb dM_values_144 rfl (lv_at hl 3 rfl) ?_
    refine g_getI hC fkM_243 rfl hwo ho_23 dM_values_145 ?_
    refine lv_if_ne (tgt := 155) hx hb dM_values_148 (by decide) (fun hc_36 => ?_) (fun hc_36 => ?_)
    · replace hw := hw.1 hc_36
      refine lv_iconst (v := 0) hx hb dM_values_155 (by decide) ?_
      refine lv_istore (i := 6) (lv' := [(6, .int (0 : Int32)), (5, .int y_35), (4, .int y_29), (3, .int z0_106), (0, .ref a0_106), (2, .int x2_106)]) hx hb dM_values_156 hl (by decide) rfl (fun ls hl => ?_)
      refine lv_iconst (v := 0) hx hb dM_values_158 (by decide) ?_
      refine lv_istore (i := 7) (lv' := [(7, .int (0 : Int32)), (6, .int (0 : Int32)), (5, .int y_35), (4, .int y_29), (3, .int z0_106), (0, .ref a0_106), (2, .int x2_106)]) hx hb dM_values_159 hl (by decide) rfl (fun ls hl => ?_)
      obtain ⟨n, hw⟩ := hw
      exact L161 _ _ _ _ n _ _ _ _ _ _ _ hw hwo hS (lv_sub hl [5, 6, 3, 2, 1, 0] rfl)
    · replace hw := hw.2 hc_36
      refine lv_iconst (v := 1) hx hb dM_values_151 (by decide) ?_
      refine lv_goto (tgt := 156) hx hb dM_values_152 (by decide) ?_
      refine lv_istore (i := 6) (lv' := [(6, .int (1 : Int32)), (5, .int y_35), (4, .int y_29), (3, .int z0_106), (0, .ref a0_106), (2, .int x2_106)]) hx hb dM_values_156 hl (by decide) rfl (fun ls hl => ?_)
      refine lv_iconst (v := 0) hx hb dM_values_158 (by decide) ?_
      refine lv_istore (i := 7) (lv' := [(7, .int (0 : Int32)), (6, .int (1 : Int32)), (5, .int y_35), (4, .int y_29), (3, .int z0_106), (0, .ref a0_106), (2, .int x2_106)]) hx hb dM_values_159 hl (by decide) rfl (fun ls hl => ?_)
      obtain ⟨n, hw⟩ := hw
      exact L161 _ _ _ _ n _ _ _ _ _ _ _ hw hwo hS (lv_sub hl [5, 6, 3, 2, 1, 0] rfl)
  have J73 : ∀ (a0_73 : Nat) (x1_73 : Int32) (z0_73 : Int32) (V : VT) (U : UT) (H : Heap) (locs : List Loc) (ls : Array Slot), wb_M_values_73 θ a0_73 x1_73 z0_73 K V U → wo θ V U H → Sx θ s H locs → lv_has ls 12 [(0, .ref a0_73), (1, .int x1_73)] → W p l e rmM_values s m args below meth c H locs 0 0 (MQ below (QV θ K) args s 0 0 (aT θ)) (F0 m 73 ls [.int z0_73]) := by
    intro a0_73 x1_73 z0_73 V U H locs ls hw hwo hS hl
    unfold wb_M_values_73 at hw
    refine lv_istore_n (i := 2) (lv' := [(2, .int z0_73), (0, .ref a0_73), (1, .int x1_73)]) hx hb dM_values_73 rfl hl (by decide) rfl (fun ls hl => ?_)
    refine lv_aload_n hx hb dM_values_74 rfl (lv_at hl 1 rfl) ?_
    obtain ⟨ho_17, hw⟩ := hw
    obtain ⟨hz_18, hw⟩ := hw
    refine g_getR hC fkM_101 rfl hwo ho_17 hz_18 dM_values_75 ?_
    refine lv_aload_n hx hb dM_values_78 rfl (lv_at hl 1 rfl) ?_
    refine g_getI hC fkM_104 rfl hwo ho_17 dM_values_79 ?_
    refine lv_bipush (v := 32) hx hb dM_values_82 (by decide) ?_
    refine lv_iadd hx hb dM_values_84 ?_
    obtain ⟨n_19, ha_20, hw⟩ := hw
    obtain ⟨hi_21, hw⟩ := hw
    refine g_iald hC hwo ha_20 hi_21 dM_values_85 ?_
    refine lv_iload_n hx hb dM_values_86 rfl (lv_at hl 2 rfl) ?_
    refine lv_icmp_ge (tgt := 105) hx hb dM_values_87 (by decide) (fun hc_22 => ?_) (fun hc_22 => ?_)
    · replace hw := hw.1 hc_22
      refine lv_iload_n hx hb dM_values_105 rfl (lv_at hl 2 rfl) ?_
      exact J106 _ _ _ _ _ _ _ _ hw hwo hS (lv_sub hl [1, 0] rfl)
    · replace hw := hw.2 hc_22
      refine lv_aload_n hx hb dM_values_90 rfl (lv_at hl 1 rfl) ?_
      refine g_getR hC fkM_101 rfl hwo ho_17 hz_18 dM_values_91 ?_
      refine lv_aload_n hx hb dM_values_94 rfl (lv_at hl 1 rfl) ?_
      refine g_getI hC fkM_104 rfl hwo ho_17 dM_values_95 ?_
      refine lv_bipush (v := 32) hx hb dM_values_98 (by decide) ?_
      refine lv_iadd hx hb dM_values_100 ?_
      refine g_iald hC hwo ha_20 hi_21 dM_values_101 ?_
      refine lv_goto (tgt := 106) hx hb dM_values_102 (by decide) ?_
      exact J106 _ _ _ _ _ _ _ _ hw hwo hS (lv_sub hl [1, 0] rfl)
  have J40 : ∀ (a0_40 : Nat) (z0_40 : Int32) (V : VT) (U : UT) (H : Heap) (locs : List Loc) (ls : Array Slot), wb_M_values_40 θ a0_40 z0_40 K V U → wo θ V U H → Sx θ s H locs → lv_has ls 12 [(0, .ref a0_40)] → W p l e rmM_values s m args below meth c H locs 0 0 (MQ below (QV θ K) args s 0 0 (aT θ)) (F0 m 40 ls [.int z0_40]) := by
    intro a0_40 z0_40 V U H locs ls hw hwo hS hl
    unfold wb_M_values_40 at hw
    refine lv_istore_n (i := 1) (lv' := [(1, .int z0_40), (0, .ref a0_40)]) hx hb dM_values_40 rfl hl (by decide) rfl (fun ls hl => ?_)
    refine lv_aload_n hx hb dM_values_41 rfl (lv_at hl 1 rfl) ?_
    obtain ⟨ho_11, hw⟩ := hw
    obtain ⟨hz_12, hw⟩ := hw
    refine g_getR hC fkM_101 rfl hwo ho_11 hz_12 dM_values_42 ?_
    refine lv_aload_n hx hb dM_values_45 rfl (lv_at hl 1 rfl) ?_
    refine g_getI hC fkM_104 rfl hwo ho_11 dM_values_46 ?_
    refine lv_bipush (v := 31) hx hb dM_values_49 (by decide) ?_
    refine lv_iadd hx hb dM_values_51 ?_
    obtain ⟨n_13, ha_14, hw⟩ := hw
    obtain ⟨hi_15, hw⟩ := hw
    refine g_iald hC hwo ha_14 hi_15 dM_values_52 ?_
    refine lv_iload_n hx hb dM_values_53 rfl (lv_at hl 0 rfl) ?_
    refine lv_icmp_ge (tgt := 72) hx hb dM_values_54 (by decide) (fun hc_16 => ?_) (fun hc_16 => ?_)
    · replace hw := hw.1 hc_16
      refine lv_iload_n hx hb dM_values_72 rfl (lv_at hl 0 rfl) ?_
      exact J73 _ _ _ _ _ _ _ _ hw hwo hS (lv_sub hl [1, 0] rfl)
    · replace hw := hw.2 hc_16
      refine lv_aload_n hx hb dM_values_57 rfl (lv_at hl 1 rfl) ?_
      refine g_getR hC fkM_101 rfl hwo ho_11 hz_12 dM_values_58 ?_
      refine lv_aload_n hx hb dM_values_61 rfl (lv_at hl 1 rfl) ?_
      refine g_getI hC fkM_104 rfl hwo ho_11 dM_values_62 ?_
      refine lv_bipush (v := 31) hx hb dM_values_65 (by decide) ?_
      refine lv_iadd hx hb dM_values_67 ?_
      refine g_iald hC hwo ha_14 hi_15 dM_values_68 ?_
      refine lv_goto (tgt := 73) hx hb dM_values_69 (by decide) ?_
      exact J73 _ _ _ _ _ _ _ _ hw hwo hS (lv_sub hl [1, 0] rfl)
  unfold wp_M_values at hw
  refine lv_aload_n hx hb dM_values_0 rfl (lv_at hl 0 rfl) ?_
  obtain ⟨ho_3, hw⟩ := hw
  refine g_Vv (rest := []) hC (c_M_findRows l θ _ _ _ _ hw) mi_M_findRows mlM_363 mv_M_findRows ci_12 ho_3 hwo hS ⟨rfl, rfl⟩ ⟨by decide, by decide⟩ rfl hl.1 rfl (Nat.le_of_ble_eq_true rfl) dM_values_1 (fun V_1 U_2 hw H locs hwo hS => ?_)
  refine lv_aload_n hx hb dM_values_4 rfl (lv_at hl 0 rfl) ?_
  obtain ⟨hz_4, hw⟩ := hw
  refine g_getR hC fkM_101 rfl hwo ho_3 hz_4 dM_values_5 ?_
  refine lv_aload_n hx hb dM_values_8 rfl (lv_at hl 0 rfl) ?_
  refine g_getI hC fkM_104 rfl hwo ho_3 dM_values_9 ?_
  refine lv_bipush (v := 30) hx hb dM_values_12 (by decide) ?_
  refine lv_iadd hx hb dM_values_14 ?_
  obtain ⟨n_5, ha_6, hw⟩ := hw
  obtain ⟨hi_7, hw⟩ := hw
  refine g_iald hC hwo ha_6 hi_7 dM_values_15 ?_
  refine lv_iconst (v := 2) hx hb dM_values_16 (by decide) ?_
  refine lv_icmp_ne (tgt := 34) hx hb dM_values_17 (by decide) (fun hc_8 => ?_) (fun hc_8 => ?_)
  · replace hw := hw.1 hc_8
    refine lv_aload_n hx hb dM_values_34 rfl (lv_at hl 0 rfl) ?_
    refine g_getI hC fkM_312 rfl hwo ho_3 dM_values_35 ?_
    refine lv_iconst (v := 2) hx hb dM_values_38 (by decide) ?_
    obtain ⟨hd_9, hw⟩ := hw
    refine lv_idiv hx hb dM_values_39 hd_9 ?_
    exact J40 _ _ _ _ _ _ _ hw hwo hS (lv_sub hl [0] rfl)
  · replace hw := hw.2 hc_8
    refine lv_aload_n hx hb dM_values_20 rfl (lv_at hl 0 rfl) ?_
    refine g_getI hC fkM_265 rfl hwo ho_3 dM_values_21 ?_
    refine lv_aload_n hx hb dM_values_24 rfl (lv_at hl 0 rfl) ?_
    refine g_getI hC fkM_312 rfl hwo ho_3 dM_values_25 ?_
    refine lv_imul hx hb dM_values_28 ?_
    refine lv_iconst (v := 2) hx hb dM_values_29 (by decide) ?_
    obtain ⟨hd_10, hw⟩ := hw
    refine lv_idiv hx hb dM_values_30 hd_10 ?_
    refine lv_goto (tgt := 40) hx hb dM_values_31 (by decide) ?_
    exact J40 _ _ _ _ _ _ _ hw hwo hS (lv_sub hl [0] rfl)
theorem dM_join_0 : decode kM_join 0 = .ok (.aload_n 0, 1) := by decide +kernel
theorem dM_join_1 : decode kM_join 1 = .ok (.getfield 114, 3) := by decide +kernel
theorem dM_join_4 : decode kM_join 4 = .ok (.iload_n 1, 1) := by decide +kernel
theorem dM_join_5 : decode kM_join 5 = .ok (.iaload, 1) := by decide +kernel
theorem dM_join_6 : decode kM_join 6 = .ok (.istore_n 2, 1) := by decide +kernel
theorem dM_join_7 : decode kM_join 7 = .ok (.aload_n 0, 1) := by decide +kernel
theorem dM_join_8 : decode kM_join 8 = .ok (.getfield 114, 3) := by decide +kernel
theorem dM_join_11 : decode kM_join 11 = .ok (.bipush 32, 2) := by decide +kernel
theorem dM_join_13 : decode kM_join 13 = .ok (.iload_n 1, 1) := by decide +kernel
theorem dM_join_14 : decode kM_join 14 = .ok (.iadd, 1) := by decide +kernel
theorem dM_join_15 : decode kM_join 15 = .ok (.iaload, 1) := by decide +kernel
theorem dM_join_16 : decode kM_join 16 = .ok (.istore_n 3, 1) := by decide +kernel
theorem dM_join_17 : decode kM_join 17 = .ok (.iload_n 2, 1) := by decide +kernel
theorem dM_join_18 : decode kM_join 18 = .ok (.ifCond .le 7, 3) := by decide +kernel
theorem dM_join_21 : decode kM_join 21 = .ok (.iconst 1, 1) := by decide +kernel
theorem dM_join_22 : decode kM_join 22 = .ok (.goto 4, 3) := by decide +kernel
theorem dM_join_25 : decode kM_join 25 = .ok (.iconst 0, 1) := by decide +kernel
theorem dM_join_26 : decode kM_join 26 = .ok (.istore 4, 2) := by decide +kernel
theorem dM_join_28 : decode kM_join 28 = .ok (.iload_n 3, 1) := by decide +kernel
theorem dM_join_29 : decode kM_join 29 = .ok (.ifCond .le 29, 3) := by decide +kernel
theorem dM_join_32 : decode kM_join 32 = .ok (.aload_n 0, 1) := by decide +kernel
theorem dM_join_33 : decode kM_join 33 = .ok (.getfield 114, 3) := by decide +kernel
theorem dM_join_36 : decode kM_join 36 = .ok (.bipush 32, 2) := by decide +kernel
theorem dM_join_38 : decode kM_join 38 = .ok (.iload_n 1, 1) := by decide +kernel
theorem dM_join_39 : decode kM_join 39 = .ok (.iadd, 1) := by decide +kernel
theorem dM_join_40 : decode kM_join 40 = .ok (.iload 4, 2) := by decide +kernel
theorem dM_join_42 : decode kM_join 42 = .ok (.ifCond .eq 9, 3) := by decide +kernel
theorem dM_join_45 : decode kM_join 45 = .ok (.iload_n 2, 1) := by decide +kernel
theorem dM_join_46 : decode kM_join 46 = .ok (.iload_n 3, 1) := by decide +kernel
theorem dM_join_47 : decode kM_join 47 = .ok (.isub, 1) := by decide +kernel
theorem dM_join_48 : decode kM_join 48 = .ok (.goto 6, 3) := by decide +kernel
theorem dM_join_51 : decode kM_join 51 = .ok (.iload_n 2, 1) := by decide +kernel
theorem dM_join_52 : decode kM_join 52 = .ok (.iload_n 3, 1) := by decide +kernel
theorem dM_join_53 : decode kM_join 53 = .ok (.iadd, 1) := by decide +kernel
theorem dM_join_54 : decode kM_join 54 = .ok (.iastore, 1) := by decide +kernel
theorem dM_join_55 : decode kM_join 55 = .ok (.goto 33, 3) := by decide +kernel
theorem dM_join_58 : decode kM_join 58 = .ok (.aload_n 0, 1) := by decide +kernel
theorem dM_join_59 : decode kM_join 59 = .ok (.getfield 114, 3) := by decide +kernel
theorem dM_join_62 : decode kM_join 62 = .ok (.iload_n 1, 1) := by decide +kernel
theorem dM_join_63 : decode kM_join 63 = .ok (.iload 4, 2) := by decide +kernel
theorem dM_join_65 : decode kM_join 65 = .ok (.ifCond .eq 9, 3) := by decide +kernel
theorem dM_join_68 : decode kM_join 68 = .ok (.iload_n 2, 1) := by decide +kernel
theorem dM_join_69 : decode kM_join 69 = .ok (.iload_n 3, 1) := by decide +kernel
theorem dM_join_70 : decode kM_join 70 = .ok (.iadd, 1) := by decide +kernel
theorem dM_join_71 : decode kM_join 71 = .ok (.goto 6, 3) := by decide +kernel
theorem dM_join_74 : decode kM_join 74 = .ok (.iload_n 2, 1) := by decide +kernel
theorem dM_join_75 : decode kM_join 75 = .ok (.iload_n 3, 1) := by decide +kernel
theorem dM_join_76 : decode kM_join 76 = .ok (.isub, 1) := by decide +kernel
theorem dM_join_77 : decode kM_join 77 = .ok (.iastore, 1) := by decide +kernel
theorem dM_join_78 : decode kM_join 78 = .ok (.aload_n 0, 1) := by decide +kernel
theorem dM_join_79 : decode kM_join 79 = .ok (.getfield 114, 3) := by decide +kernel
theorem dM_join_82 : decode kM_join 82 = .ok (.bipush 32, 2) := by decide +kernel
theorem dM_join_84 : decode kM_join 84 = .ok (.iload_n 1, 1) := by decide +kernel
theorem dM_join_85 : decode kM_join 85 = .ok (.iadd, 1) := by decide +kernel
theorem dM_join_86 : decode kM_join 86 = .ok (.iload_n 2, 1) := by decide +kernel
theorem dM_join_87 : decode kM_join 87 = .ok (.iastore, 1) := by decide +kernel
theorem dM_join_88 : decode kM_join 88 = .ok (.return_, 1) := by decide +kernel
def wb_M_join_77 (θ : TH) (a0_77 : Nat) (x1_77 : Int32) (x2_77 : Int32) (z0_77 : Int32) (z1_77 : Int32) (z2_77 : Nat) (K : VT → UT → Prop) (V : VT) (U : UT) : Prop := ∃ n_17, isA θ z2_77 0 n_17 ∧ vp_in z1_77 n_17 ∧ ∀ V_20 : VT, V_20 = up2 V z2_77 z1_77.toNatClampNeg z0_77 → isO θ a0_77 12 ∧ (U a0_77 61) ≠ 0 ∧ ∃ n_23, isA θ (U a0_77 61) 0 n_23 ∧ vp_in ((32 : Int32) + x1_77) n_23 ∧ ∀ V_26 : VT, V_26 = up2 V_20 (U a0_77 61) ((32 : Int32) + x1_77).toNatClampNeg x2_77 → K V_26 U
def wb_M_join_54 (θ : TH) (z0_54 : Int32) (z1_54 : Int32) (z2_54 : Nat) (K : VT → UT → Prop) (V : VT) (U : UT) : Prop := ∃ n_27, isA θ z2_54 0 n_27 ∧ vp_in z1_54 n_27 ∧ ∀ V_30 : VT, V_30 = up2 V z2_54 z1_54.toNatClampNeg z0_54 → K V_30 U
def wb_M_join_26 (θ : TH) (a0_26 : Nat) (x1_26 : Int32) (x2_26 : Int32) (x3_26 : Int32) (z0_26 : Int32) (K : VT → UT → Prop) (V : VT) (U : UT) : Prop := ((x3_26 ≤ 0 → isO θ a0_26 12 ∧ (U a0_26 61) ≠ 0 ∧ ((z0_26 = 0 → wb_M_join_77 θ a0_26 x1_26 x2_26 (x2_26 - x3_26) x1_26 (U a0_26 61) K V U) ∧ (¬ z0_26 = 0 → wb_M_join_77 θ a0_26 x1_26 x2_26 (x2_26 + x3_26) x1_26 (U a0_26 61) K V U))) ∧ (¬ x3_26 ≤ 0 → isO θ a0_26 12 ∧ (U a0_26 61) ≠ 0 ∧ ((z0_26 = 0 → wb_M_join_54 θ (x2_26 + x3_26) ((32 : Int32) + x1_26) (U a0_26 61) K V U) ∧ (¬ z0_26 = 0 → wb_M_join_54 θ (x2_26 - x3_26) ((32 : Int32) + x1_26) (U a0_26 61) K V U))))
def wp_M_join (θ : TH) (a0 : Nat) (x1 : Int32) (V : VT) (U : UT) (K : VT → UT → Prop) : Prop := isO θ a0 12 ∧ (U a0 61) ≠ 0 ∧ ∃ n_3, isA θ (U a0 61) 0 n_3 ∧ vp_in x1 n_3 ∧ ∀ y_6 : Int32, y_6 = (V (U a0 61) x1.toNatClampNeg) → vp_in ((32 : Int32) + x1) n_3 ∧ ∀ y_8 : Int32, y_8 = (V (U a0 61) ((32 : Int32) + x1).toNatClampNeg) → ((y_6 ≤ 0 → wb_M_join_26 θ a0 x1 y_6 y_8 (0 : Int32) K V U) ∧ (¬ y_6 ≤ 0 → wb_M_join_26 θ a0 x1 y_6 y_8 (1 : Int32) K V U))
set_option maxRecDepth 100000 in
set_option maxHeartbeats 4000000 in
theorem c_M_join (l : Launch) (θ : TH) (a0 : Nat) (x1 : Int32) (V : VT) (U : UT) (K : VT → UT → Prop) (hw : wp_M_join θ a0 x1 V U K) : CMv l yM_join kM_join 5 none rmM_join θ [.ref a0, .int x1] V U K := by
  refine g_met nRM (by decide +kernel) rfl (Nat.le_of_ble_eq_true rfl) (fun p e s m args below meth c ls hC hr hlk hwo hl => ?_)
  have hx := hC.1
  have hb := hC.2.1
  have hS : Sx θ s s.heap [] := va_S.rf
  have hl : lv_has ls 5 [(0, .ref a0), (1, .int x1)] := hl
  have J77 : ∀ (a0_77 : Nat) (x1_77 : Int32) (x2_77 : Int32) (z0_77 : Int32) (z1_77 : Int32) (z2_77 : Nat) (V : VT) (U : UT) (H : Heap) (locs : List Loc) (ls : Array Slot), wb_M_join_77 θ a0_77 x1_77 x2_77 z0_77 z1_77 z2_77 K V U → wo θ V U H → Sx θ s H locs → lv_has ls 5 [(0, .ref a0_77), (1, .int x1_77), (2, .int x2_77)] → W p l e rmM_join s m args below meth c H locs 0 0 (MQ below (QV θ K) args s 0 0 (aT θ)) (F0 m 77 ls [.int z0_77, .int z1_77, .ref z2_77]) := by
    intro a0_77 x1_77 x2_77 z0_77 z1_77 z2_77 V U H locs ls hw hwo hS hl
    unfold wb_M_join_77 at hw
    obtain ⟨n_17, ha_18, hw⟩ := hw
    obtain ⟨hi_19, hw⟩ := hw
    refine g_iast hC hwo hS ha_18 hi_19 dM_join_77 (fun V_20 eV_20 H locs hwo hS => ?_)
    replace hw := hw V_20 eV_20
    refine lv_aload_n hx hb dM_join_78 rfl (lv_at hl 0 rfl) ?_
    obtain ⟨ho_21, hw⟩ := hw
    obtain ⟨hz_22, hw⟩ := hw
    refine g_getR hC fkM_114 rfl hwo ho_21 hz_22 dM_join_79 ?_
    refine lv_bipush (v := 32) hx hb dM_join_82 (by decide) ?_
    refine lv_iload_n hx hb dM_join_84 rfl (lv_at hl 1 rfl) ?_
    refine lv_iadd hx hb dM_join_85 ?_
    refine lv_iload_n hx hb dM_join_86 rfl (lv_at hl 2 rfl) ?_
    obtain ⟨n_23, ha_24, hw⟩ := hw
    obtain ⟨hi_25, hw⟩ := hw
    refine g_iast hC hwo hS ha_24 hi_25 dM_join_87 (fun V_26 eV_26 H locs hwo hS => ?_)
    replace hw := hw V_26 eV_26
    exact g_vret hC hr hlk hw hwo hS dM_join_88
  have J54 : ∀ (z0_54 : Int32) (z1_54 : Int32) (z2_54 : Nat) (V : VT) (U : UT) (H : Heap) (locs : List Loc) (ls : Array Slot), wb_M_join_54 θ z0_54 z1_54 z2_54 K V U → wo θ V U H → Sx θ s H locs → lv_has ls 5 [] → W p l e rmM_join s m args below meth c H locs 0 0 (MQ below (QV θ K) args s 0 0 (aT θ)) (F0 m 54 ls [.int z0_54, .int z1_54, .ref z2_54]) := by
    intro z0_54 z1_54 z2_54 V U H locs ls hw hwo hS hl
    unfold wb_M_join_54 at hw
    obtain ⟨n_27, ha_28, hw⟩ := hw
    obtain ⟨hi_29, hw⟩ := hw
    refine g_iast hC hwo hS ha_28 hi_29 dM_join_54 (fun V_30 eV_30 H locs hwo hS => ?_)
    replace hw := hw V_30 eV_30
    refine lv_goto (tgt := 88) hx hb dM_join_55 (by decide) ?_
    exact g_vret hC hr hlk hw hwo hS dM_join_88
  have J26 : ∀ (a0_26 : Nat) (x1_26 : Int32) (x2_26 : Int32) (x3_26 : Int32) (z0_26 : Int32) (V : VT) (U : UT) (H : Heap) (locs : List Loc) (ls : Array Slot), wb_M_join_26 θ a0_26 x1_26 x2_26 x3_26 z0_26 K V U → wo θ V U H → Sx θ s H locs → lv_has ls 5 [(0, .ref a0_26), (1, .int x1_26), (2, .int x2_26), (3, .int x3_26)] → W p l e rmM_join s m args below meth c H locs 0 0 (MQ below (QV θ K) args s 0 0 (aT θ)) (F0 m 26 ls [.int z0_26]) := by
    intro a0_26 x1_26 x2_26 x3_26 z0_26 V U H locs ls hw hwo hS hl
    unfold wb_M_join_26 at hw
    refine lv_istore (i := 4) (lv' := [(4, .int z0_26), (0, .ref a0_26), (1, .int x1_26), (2, .int x2_26), (3, .int x3_26)]) hx hb dM_join_26 hl (by decide) rfl (fun ls hl => ?_)
    refine lv_iload_n hx hb dM_join_28 rfl (lv_at hl 4 rfl) ?_
    refine lv_if_le (tgt := 58) hx hb dM_join_29 (by decide) (fun hc_10 => ?_) (fun hc_10 => ?_)
    · replace hw := hw.1 hc_10
      refine lv_aload_n hx hb dM_join_58 rfl (lv_at hl 1 rfl) ?_
      obtain ⟨ho_11, hw⟩ := hw
      obtain ⟨hz_12, hw⟩ := hw
      refine g_getR hC fkM_114 rfl hwo ho_11 hz_12 dM_join_59 ?_
      refine lv_iload_n hx hb dM_join_62 rfl (lv_at hl 2 rfl) ?_
      refine lv_iload hx hb dM_join_63 (lv_at hl 0 rfl) ?_
      refine lv_if_eq (tgt := 74) hx hb dM_join_65 (by decide) (fun hc_13 => ?_) (fun hc_13 => ?_)
      · replace hw := hw.1 hc_13
        refine lv_iload_n hx hb dM_join_74 rfl (lv_at hl 3 rfl) ?_
        refine lv_iload_n hx hb dM_join_75 rfl (lv_at hl 4 rfl) ?_
        refine lv_isub hx hb dM_join_76 ?_
        exact J77 _ _ _ _ _ _ _ _ _ _ _ hw hwo hS (lv_sub hl [1, 2, 3] rfl)
      · replace hw := hw.2 hc_13
        refine lv_iload_n hx hb dM_join_68 rfl (lv_at hl 3 rfl) ?_
        refine lv_iload_n hx hb dM_join_69 rfl (lv_at hl 4 rfl) ?_
        refine lv_iadd hx hb dM_join_70 ?_
        refine lv_goto (tgt := 77) hx hb dM_join_71 (by decide) ?_
        exact J77 _ _ _ _ _ _ _ _ _ _ _ hw hwo hS (lv_sub hl [1, 2, 3] rfl)
    · replace hw := hw.2 hc_10
      refine lv_aload_n hx hb dM_join_32 rfl (lv_at hl 1 rfl) ?_
      obtain ⟨ho_14, hw⟩ := hw
      obtain ⟨hz_15, hw⟩ := hw
      refine g_getR hC fkM_114 rfl hwo ho_14 hz_15 dM_join_33 ?_
      refine lv_bipush (v := 32) hx hb dM_join_36 (by decide) ?_
      refine lv_iload_n hx hb dM_join_38 rfl (lv_at hl 2 rfl) ?_
      refine lv_iadd hx hb dM_join_39 ?_
      refine lv_iload hx hb dM_join_40 (lv_at hl 0 rfl) ?_
      refine lv_if_eq (tgt := 51) hx hb dM_join_42 (by decide) (fun hc_16 => ?_) (fun hc_16 => ?_)
      · replace hw := hw.1 hc_16
        refine lv_iload_n hx hb dM_join_51 rfl (lv_at hl 3 rfl) ?_
        refine lv_iload_n hx hb dM_join_52 rfl (lv_at hl 4 rfl) ?_
        refine lv_iadd hx hb dM_join_53 ?_
        exact J54 _ _ _ _ _ _ _ _ hw hwo hS (lv_sub hl [] rfl)
      · replace hw := hw.2 hc_16
        refine lv_iload_n hx hb dM_join_45 rfl (lv_at hl 3 rfl) ?_
        refine lv_iload_n hx hb dM_join_46 rfl (lv_at hl 4 rfl) ?_
        refine lv_isub hx hb dM_join_47 ?_
        refine lv_goto (tgt := 54) hx hb dM_join_48 (by decide) ?_
        exact J54 _ _ _ _ _ _ _ _ hw hwo hS (lv_sub hl [] rfl)
  unfold wp_M_join at hw
  refine lv_aload_n hx hb dM_join_0 rfl (lv_at hl 0 rfl) ?_
  obtain ⟨ho_1, hw⟩ := hw
  obtain ⟨hz_2, hw⟩ := hw
  refine g_getR hC fkM_114 rfl hwo ho_1 hz_2 dM_join_1 ?_
  refine lv_iload_n hx hb dM_join_4 rfl (lv_at hl 1 rfl) ?_
  obtain ⟨n_3, ha_4, hw⟩ := hw
  obtain ⟨hi_5, hw⟩ := hw
  refine g_iald hC hwo ha_4 hi_5 dM_join_5 ?_
  refine lv_topi (fun y_6 ey_6 => ?_)
  replace hw := hw y_6 ey_6
  refine lv_istore_n (i := 2) (lv' := [(2, .int y_6), (0, .ref a0), (1, .int x1)]) hx hb dM_join_6 rfl hl (by decide) rfl (fun ls hl => ?_)
  refine lv_aload_n hx hb dM_join_7 rfl (lv_at hl 1 rfl) ?_
  refine g_getR hC fkM_114 rfl hwo ho_1 hz_2 dM_join_8 ?_
  refine lv_bipush (v := 32) hx hb dM_join_11 (by decide) ?_
  refine lv_iload_n hx hb dM_join_13 rfl (lv_at hl 2 rfl) ?_
  refine lv_iadd hx hb dM_join_14 ?_
  obtain ⟨hi_7, hw⟩ := hw
  refine g_iald hC hwo ha_4 hi_7 dM_join_15 ?_
  refine lv_topi (fun y_8 ey_8 => ?_)
  replace hw := hw y_8 ey_8
  refine lv_istore_n (i := 3) (lv' := [(3, .int y_8), (2, .int y_6), (0, .ref a0), (1, .int x1)]) hx hb dM_join_16 rfl hl (by decide) rfl (fun ls hl => ?_)
  refine lv_iload_n hx hb dM_join_17 rfl (lv_at hl 1 rfl) ?_
  refine lv_if_le (tgt := 25) hx hb dM_join_18 (by decide) (fun hc_9 => ?_) (fun hc_9 => ?_)
  · replace hw := hw.1 hc_9
    refine lv_iconst (v := 0) hx hb dM_join_25 (by decide) ?_
    exact J26 _ _ _ _ _ _ _ _ _ _ hw hwo hS (lv_sub hl [2, 3, 1, 0] rfl)
  · replace hw := hw.2 hc_9
    refine lv_iconst (v := 1) hx hb dM_join_21 (by decide) ?_
    refine lv_goto (tgt := 26) hx hb dM_join_22 (by decide) ?_
    exact J26 _ _ _ _ _ _ _ _ _ _ hw hwo hS (lv_sub hl [2, 3, 1, 0] rfl)
theorem dM_sound_0 : decode kM_sound 0 = .ok (.aload_n 0, 1) := by decide +kernel
theorem dM_sound_1 : decode kM_sound 1 = .ok (.getfield 104, 3) := by decide +kernel
theorem dM_sound_4 : decode kM_sound 4 = .ok (.ifCond .ge 5, 3) := by decide +kernel
theorem dM_sound_7 : decode kM_sound 7 = .ok (.iconst 0, 1) := by decide +kernel
theorem dM_sound_8 : decode kM_sound 8 = .ok (.ireturn, 1) := by decide +kernel
theorem dM_sound_9 : decode kM_sound 9 = .ok (.aload_n 0, 1) := by decide +kernel
theorem dM_sound_10 : decode kM_sound 10 = .ok (.iconst 1, 1) := by decide +kernel
theorem dM_sound_11 : decode kM_sound 11 = .ok (.invokevirtual 249, 3) := by decide +kernel
theorem dM_sound_14 : decode kM_sound 14 = .ok (.istore_n 1, 1) := by decide +kernel
theorem dM_sound_15 : decode kM_sound 15 = .ok (.iload_n 1, 1) := by decide +kernel
theorem dM_sound_16 : decode kM_sound 16 = .ok (.iconst 1, 1) := by decide +kernel
theorem dM_sound_17 : decode kM_sound 17 = .ok (.if_icmp .ne 11, 3) := by decide +kernel
theorem dM_sound_20 : decode kM_sound 20 = .ok (.aload_n 0, 1) := by decide +kernel
theorem dM_sound_21 : decode kM_sound 21 = .ok (.iconst 2, 1) := by decide +kernel
theorem dM_sound_22 : decode kM_sound 22 = .ok (.invokevirtual 249, 3) := by decide +kernel
theorem dM_sound_25 : decode kM_sound 25 = .ok (.goto 4, 3) := by decide +kernel
theorem dM_sound_28 : decode kM_sound 28 = .ok (.iconst 0, 1) := by decide +kernel
theorem dM_sound_29 : decode kM_sound 29 = .ok (.istore_n 2, 1) := by decide +kernel
theorem dM_sound_30 : decode kM_sound 30 = .ok (.aload_n 0, 1) := by decide +kernel
theorem dM_sound_31 : decode kM_sound 31 = .ok (.getfield 243, 3) := by decide +kernel
theorem dM_sound_34 : decode kM_sound 34 = .ok (.ifCond .eq 5, 3) := by decide +kernel
theorem dM_sound_37 : decode kM_sound 37 = .ok (.iconst 0, 1) := by decide +kernel
theorem dM_sound_38 : decode kM_sound 38 = .ok (.ireturn, 1) := by decide +kernel
theorem dM_sound_39 : decode kM_sound 39 = .ok (.aload_n 0, 1) := by decide +kernel
theorem dM_sound_40 : decode kM_sound 40 = .ok (.getfield 274, 3) := by decide +kernel
theorem dM_sound_43 : decode kM_sound 43 = .ok (.ifCond .eq 10, 3) := by decide +kernel
theorem dM_sound_46 : decode kM_sound 46 = .ok (.aload_n 0, 1) := by decide +kernel
theorem dM_sound_47 : decode kM_sound 47 = .ok (.getfield 312, 3) := by decide +kernel
theorem dM_sound_50 : decode kM_sound 50 = .ok (.goto 4, 3) := by decide +kernel
theorem dM_sound_53 : decode kM_sound 53 = .ok (.iconst 0, 1) := by decide +kernel
theorem dM_sound_54 : decode kM_sound 54 = .ok (.istore_n 3, 1) := by decide +kernel
theorem dM_sound_55 : decode kM_sound 55 = .ok (.aload_n 0, 1) := by decide +kernel
theorem dM_sound_56 : decode kM_sound 56 = .ok (.iconst 1, 1) := by decide +kernel
theorem dM_sound_57 : decode kM_sound 57 = .ok (.putfield 274, 3) := by decide +kernel
theorem dM_sound_60 : decode kM_sound 60 = .ok (.aload_n 0, 1) := by decide +kernel
theorem dM_sound_61 : decode kM_sound 61 = .ok (.iload_n 1, 1) := by decide +kernel
theorem dM_sound_62 : decode kM_sound 62 = .ok (.iconst 1, 1) := by decide +kernel
theorem dM_sound_63 : decode kM_sound 63 = .ok (.if_icmp .ne 7, 3) := by decide +kernel
theorem dM_sound_66 : decode kM_sound 66 = .ok (.iconst 1, 1) := by decide +kernel
theorem dM_sound_67 : decode kM_sound 67 = .ok (.goto 4, 3) := by decide +kernel
theorem dM_sound_70 : decode kM_sound 70 = .ok (.iconst 0, 1) := by decide +kernel
theorem dM_sound_71 : decode kM_sound 71 = .ok (.putfield 315, 3) := by decide +kernel
theorem dM_sound_74 : decode kM_sound 74 = .ok (.aload_n 0, 1) := by decide +kernel
theorem dM_sound_75 : decode kM_sound 75 = .ok (.iload_n 2, 1) := by decide +kernel
theorem dM_sound_76 : decode kM_sound 76 = .ok (.putfield 318, 3) := by decide +kernel
theorem dM_sound_79 : decode kM_sound 79 = .ok (.aload_n 0, 1) := by decide +kernel
theorem dM_sound_80 : decode kM_sound 80 = .ok (.aload_n 0, 1) := by decide +kernel
theorem dM_sound_81 : decode kM_sound 81 = .ok (.getfield 315, 3) := by decide +kernel
theorem dM_sound_84 : decode kM_sound 84 = .ok (.ifCond .eq 10, 3) := by decide +kernel
theorem dM_sound_87 : decode kM_sound 87 = .ok (.aload_n 0, 1) := by decide +kernel
theorem dM_sound_88 : decode kM_sound 88 = .ok (.getfield 271, 3) := by decide +kernel
theorem dM_sound_91 : decode kM_sound 91 = .ok (.goto 7, 3) := by decide +kernel
theorem dM_sound_94 : decode kM_sound 94 = .ok (.aload_n 0, 1) := by decide +kernel
theorem dM_sound_95 : decode kM_sound 95 = .ok (.getfield 268, 3) := by decide +kernel
theorem dM_sound_98 : decode kM_sound 98 = .ok (.putfield 312, 3) := by decide +kernel
theorem dM_sound_101 : decode kM_sound 101 = .ok (.iconst 0, 1) := by decide +kernel
theorem dM_sound_102 : decode kM_sound 102 = .ok (.istore 4, 2) := by decide +kernel
theorem dM_sound_104 : decode kM_sound 104 = .ok (.iload 4, 2) := by decide +kernel
theorem dM_sound_106 : decode kM_sound 106 = .ok (.bipush 64, 2) := by decide +kernel
theorem dM_sound_108 : decode kM_sound 108 = .ok (.if_icmp .ge 25, 3) := by decide +kernel
theorem dM_sound_111 : decode kM_sound 111 = .ok (.aload_n 0, 1) := by decide +kernel
theorem dM_sound_112 : decode kM_sound 112 = .ok (.getfield 111, 3) := by decide +kernel
theorem dM_sound_115 : decode kM_sound 115 = .ok (.iload 4, 2) := by decide +kernel
theorem dM_sound_117 : decode kM_sound 117 = .ok (.iconst 0, 1) := by decide +kernel
theorem dM_sound_118 : decode kM_sound 118 = .ok (.iastore, 1) := by decide +kernel
theorem dM_sound_119 : decode kM_sound 119 = .ok (.aload_n 0, 1) := by decide +kernel
theorem dM_sound_120 : decode kM_sound 120 = .ok (.getfield 114, 3) := by decide +kernel
theorem dM_sound_123 : decode kM_sound 123 = .ok (.iload 4, 2) := by decide +kernel
theorem dM_sound_125 : decode kM_sound 125 = .ok (.iconst 0, 1) := by decide +kernel
theorem dM_sound_126 : decode kM_sound 126 = .ok (.iastore, 1) := by decide +kernel
theorem dM_sound_127 : decode kM_sound 127 = .ok (.iinc 4 1, 3) := by decide +kernel
theorem dM_sound_130 : decode kM_sound 130 = .ok (.goto (-26), 3) := by decide +kernel
theorem dM_sound_133 : decode kM_sound 133 = .ok (.aload_n 0, 1) := by decide +kernel
theorem dM_sound_134 : decode kM_sound 134 = .ok (.getfield 108, 3) := by decide +kernel
theorem dM_sound_137 : decode kM_sound 137 = .ok (.iconst 1, 1) := by decide +kernel
theorem dM_sound_138 : decode kM_sound 138 = .ok (.iconst 0, 1) := by decide +kernel
theorem dM_sound_139 : decode kM_sound 139 = .ok (.bastore, 1) := by decide +kernel
theorem dM_sound_140 : decode kM_sound 140 = .ok (.iconst 0, 1) := by decide +kernel
theorem dM_sound_141 : decode kM_sound 141 = .ok (.istore 4, 2) := by decide +kernel
theorem dM_sound_143 : decode kM_sound 143 = .ok (.iload 4, 2) := by decide +kernel
theorem dM_sound_145 : decode kM_sound 145 = .ok (.aload_n 0, 1) := by decide +kernel
theorem dM_sound_146 : decode kM_sound 146 = .ok (.getfield 265, 3) := by decide +kernel
theorem dM_sound_149 : decode kM_sound 149 = .ok (.if_icmp .ge 22, 3) := by decide +kernel
theorem dM_sound_152 : decode kM_sound 152 = .ok (.aload_n 0, 1) := by decide +kernel
theorem dM_sound_153 : decode kM_sound 153 = .ok (.getfield 108, 3) := by decide +kernel
theorem dM_sound_156 : decode kM_sound 156 = .ok (.iload 4, 2) := by decide +kernel
theorem dM_sound_158 : decode kM_sound 158 = .ok (.aload_n 0, 1) := by decide +kernel
theorem dM_sound_159 : decode kM_sound 159 = .ok (.iload 4, 2) := by decide +kernel
theorem dM_sound_161 : decode kM_sound 161 = .ok (.invokevirtual 321, 3) := by decide +kernel
theorem dM_sound_164 : decode kM_sound 164 = .ok (.bastore, 1) := by decide +kernel
theorem dM_sound_165 : decode kM_sound 165 = .ok (.iinc 4 1, 3) := by decide +kernel
theorem dM_sound_168 : decode kM_sound 168 = .ok (.goto (-25), 3) := by decide +kernel
theorem dM_sound_171 : decode kM_sound 171 = .ok (.aload_n 0, 1) := by decide +kernel
theorem dM_sound_172 : decode kM_sound 172 = .ok (.invokevirtual 324, 3) := by decide +kernel
theorem dM_sound_175 : decode kM_sound 175 = .ok (.aload_n 0, 1) := by decide +kernel
theorem dM_sound_176 : decode kM_sound 176 = .ok (.aload_n 0, 1) := by decide +kernel
theorem dM_sound_177 : decode kM_sound 177 = .ok (.getfield 243, 3) := by decide +kernel
theorem dM_sound_180 : decode kM_sound 180 = .ok (.putfield 327, 3) := by decide +kernel
theorem dM_sound_183 : decode kM_sound 183 = .ok (.aload_n 0, 1) := by decide +kernel
theorem dM_sound_184 : decode kM_sound 184 = .ok (.getfield 101, 3) := by decide +kernel
theorem dM_sound_187 : decode kM_sound 187 = .ok (.aload_n 0, 1) := by decide +kernel
theorem dM_sound_188 : decode kM_sound 188 = .ok (.getfield 104, 3) := by decide +kernel
theorem dM_sound_191 : decode kM_sound 191 = .ok (.bipush 40, 2) := by decide +kernel
theorem dM_sound_193 : decode kM_sound 193 = .ok (.iadd, 1) := by decide +kernel
theorem dM_sound_194 : decode kM_sound 194 = .ok (.iaload, 1) := by decide +kernel
theorem dM_sound_195 : decode kM_sound 195 = .ok (.iconst 1, 1) := by decide +kernel
theorem dM_sound_196 : decode kM_sound 196 = .ok (.if_icmp .ne 29, 3) := by decide +kernel
theorem dM_sound_199 : decode kM_sound 199 = .ok (.iconst 0, 1) := by decide +kernel
theorem dM_sound_200 : decode kM_sound 200 = .ok (.istore 4, 2) := by decide +kernel
theorem dM_sound_202 : decode kM_sound 202 = .ok (.iload 4, 2) := by decide +kernel
theorem dM_sound_204 : decode kM_sound 204 = .ok (.aload_n 0, 1) := by decide +kernel
theorem dM_sound_205 : decode kM_sound 205 = .ok (.getfield 312, 3) := by decide +kernel
theorem dM_sound_208 : decode kM_sound 208 = .ok (.iconst 2, 1) := by decide +kernel
theorem dM_sound_209 : decode kM_sound 209 = .ok (.idiv, 1) := by decide +kernel
theorem dM_sound_210 : decode kM_sound 210 = .ok (.if_icmp .ge 15, 3) := by decide +kernel
theorem dM_sound_213 : decode kM_sound 213 = .ok (.aload_n 0, 1) := by decide +kernel
theorem dM_sound_214 : decode kM_sound 214 = .ok (.iload 4, 2) := by decide +kernel
theorem dM_sound_216 : decode kM_sound 216 = .ok (.invokevirtual 330, 3) := by decide +kernel
theorem dM_sound_219 : decode kM_sound 219 = .ok (.iinc 4 1, 3) := by decide +kernel
theorem dM_sound_222 : decode kM_sound 222 = .ok (.goto (-20), 3) := by decide +kernel
theorem dM_sound_225 : decode kM_sound 225 = .ok (.aload_n 0, 1) := by decide +kernel
theorem dM_sound_226 : decode kM_sound 226 = .ok (.dup, 1) := by decide +kernel
theorem dM_sound_227 : decode kM_sound 227 = .ok (.getfield 277, 3) := by decide +kernel
theorem dM_sound_230 : decode kM_sound 230 = .ok (.iload_n 3, 1) := by decide +kernel
theorem dM_sound_231 : decode kM_sound 231 = .ok (.ifCond .le 16, 3) := by decide +kernel
theorem dM_sound_234 : decode kM_sound 234 = .ok (.iload_n 3, 1) := by decide +kernel
theorem dM_sound_235 : decode kM_sound 235 = .ok (.iconst 4, 1) := by decide +kernel
theorem dM_sound_236 : decode kM_sound 236 = .ok (.idiv, 1) := by decide +kernel
theorem dM_sound_237 : decode kM_sound 237 = .ok (.aload_n 0, 1) := by decide +kernel
theorem dM_sound_238 : decode kM_sound 238 = .ok (.getfield 312, 3) := by decide +kernel
theorem dM_sound_241 : decode kM_sound 241 = .ok (.iconst 4, 1) := by decide +kernel
theorem dM_sound_242 : decode kM_sound 242 = .ok (.idiv, 1) := by decide +kernel
theorem dM_sound_243 : decode kM_sound 243 = .ok (.iadd, 1) := by decide +kernel
theorem dM_sound_244 : decode kM_sound 244 = .ok (.goto 4, 3) := by decide +kernel
theorem dM_sound_247 : decode kM_sound 247 = .ok (.iconst 0, 1) := by decide +kernel
theorem dM_sound_248 : decode kM_sound 248 = .ok (.iadd, 1) := by decide +kernel
theorem dM_sound_249 : decode kM_sound 249 = .ok (.putfield 277, 3) := by decide +kernel
theorem dM_sound_252 : decode kM_sound 252 = .ok (.aload_n 0, 1) := by decide +kernel
theorem dM_sound_253 : decode kM_sound 253 = .ok (.getfield 230, 3) := by decide +kernel
theorem dM_sound_256 : decode kM_sound 256 = .ok (.ifCond .eq 31, 3) := by decide +kernel
theorem dM_sound_259 : decode kM_sound 259 = .ok (.aload_n 0, 1) := by decide +kernel
theorem dM_sound_260 : decode kM_sound 260 = .ok (.getfield 227, 3) := by decide +kernel
theorem dM_sound_263 : decode kM_sound 263 = .ok (.ldc 164, 2) := by decide +kernel
theorem dM_sound_265 : decode kM_sound 265 = .ok (.if_icmp .eq 22, 3) := by decide +kernel
theorem dM_sound_268 : decode kM_sound 268 = .ok (.aload_n 0, 1) := by decide +kernel
theorem dM_sound_269 : decode kM_sound 269 = .ok (.getfield 227, 3) := by decide +kernel
theorem dM_sound_272 : decode kM_sound 272 = .ok (.aload_n 0, 1) := by decide +kernel
theorem dM_sound_273 : decode kM_sound 273 = .ok (.getfield 277, 3) := by decide +kernel
theorem dM_sound_276 : decode kM_sound 276 = .ok (.if_icmp .ge 11, 3) := by decide +kernel
theorem dM_sound_279 : decode kM_sound 279 = .ok (.aload_n 0, 1) := by decide +kernel
theorem dM_sound_280 : decode kM_sound 280 = .ok (.aload_n 0, 1) := by decide +kernel
theorem dM_sound_281 : decode kM_sound 281 = .ok (.getfield 227, 3) := by decide +kernel
theorem dM_sound_284 : decode kM_sound 284 = .ok (.putfield 277, 3) := by decide +kernel
theorem dM_sound_287 : decode kM_sound 287 = .ok (.iconst 1, 1) := by decide +kernel
theorem dM_sound_288 : decode kM_sound 288 = .ok (.ireturn, 1) := by decide +kernel
def wb_M_sound_248 (θ : TH) (a0_248 : Nat) (z0_248 : Int32) (z1_248 : Int32) (z2_248 : Nat) (K : Int32 → VT → UT → Prop) (V : VT) (U : UT) : Prop := isO θ z2_248 12 ∧ ∀ V_68 : VT, V_68 = up2 V z2_248 68 (z1_248 + z0_248) → isO θ a0_248 12 ∧ (((V_68 a0_248 38) = 0 → K (1 : Int32) V_68 U) ∧ (¬ (V_68 a0_248 38) = 0 → (((V_68 a0_248 37) = (65535 : Int32) → K (1 : Int32) V_68 U) ∧ (¬ (V_68 a0_248 37) = (65535 : Int32) → (((V_68 a0_248 68) ≤ (V_68 a0_248 37) → K (1 : Int32) V_68 U) ∧ (¬ (V_68 a0_248 68) ≤ (V_68 a0_248 37) → ∀ V_73 : VT, V_73 = up2 V_68 a0_248 68 (V_68 a0_248 37) → K (1 : Int32) V_73 U))))))
def wb_M_sound_225 (θ : TH) (a0_225 : Nat) (x3_225 : Int32) (K : Int32 → VT → UT → Prop) (V : VT) (U : UT) : Prop := isO θ a0_225 12 ∧ ((x3_225 ≤ 0 → wb_M_sound_248 θ a0_225 (0 : Int32) (V a0_225 68) a0_225 K V U) ∧ (¬ x3_225 ≤ 0 → ¬ (4 : Int32) = 0 ∧ wb_M_sound_248 θ a0_225 ((x3_225 / (4 : Int32)) + ((V a0_225 57) / (4 : Int32))) (V a0_225 68) a0_225 K V U))
def bl_M_sound_202 (θ : TH) (a0_202 : Nat) (x3_202 : Int32) (K : Int32 → VT → UT → Prop) (kb202 : Int32 → VT → UT → Prop) (x4_202 : Int32) (V : VT) (U : UT) : Prop := isO θ a0_202 12 ∧ ¬ (2 : Int32) = 0 ∧ ((((V a0_202 57) / (2 : Int32)) ≤ x4_202 → wb_M_sound_225 θ a0_202 x3_202 K V U) ∧ (¬ ((V a0_202 57) / (2 : Int32)) ≤ x4_202 → wp_M_join θ a0_202 x4_202 V U (fun V_77 U_78 => ∀ y_79 : Int32, y_79 = x4_202 + (1 : Int32) → kb202 y_79 V_77 U_78)))
def wl_M_sound_202 (θ : TH) (a0_202 : Nat) (x3_202 : Int32) (K : Int32 → VT → UT → Prop) : Nat → Int32 → VT → UT → Prop
  | 0, _, _, _ => False
  | n + 1, x4_202, V, U => bl_M_sound_202 θ a0_202 x3_202 K (wl_M_sound_202 θ a0_202 x3_202 K n) x4_202 V U
def bl_M_sound_143 (θ : TH) (a0_143 : Nat) (x3_143 : Int32) (K : Int32 → VT → UT → Prop) (kb143 : Int32 → VT → UT → Prop) (x4_143 : Int32) (V : VT) (U : UT) : Prop := isO θ a0_143 12 ∧ (((V a0_143 41) ≤ x4_143 → wp_M_values θ a0_143 V U (fun V_45 U_46 => isZ (V_45 a0_143 40) ∧ ∀ V_48 : VT, V_48 = up2 V_45 a0_143 58 (V_45 a0_143 40) → (U_46 a0_143 52) ≠ 0 ∧ ∃ n_50, isA θ (U_46 a0_143 52) 0 n_50 ∧ vp_in ((V_48 a0_143 53) + (40 : Int32)) n_50 ∧ ((¬ (V_48 (U_46 a0_143 52) ((V_48 a0_143 53) + (40 : Int32)).toNatClampNeg) = (1 : Int32) → wb_M_sound_225 θ a0_143 x3_143 K V_48 U_46) ∧ ((V_48 (U_46 a0_143 52) ((V_48 a0_143 53) + (40 : Int32)).toNatClampNeg) = (1 : Int32) → ∃ n, wl_M_sound_202 θ a0_143 x3_143 K n (0 : Int32) V_48 U_46)))) ∧ (¬ (V a0_143 41) ≤ x4_143 → (U a0_143 59) ≠ 0 ∧ wp_M_curveOf θ a0_143 x4_143 V U (fun r_57 V_55 U_56 => ∃ n_58, isA θ (U a0_143 59) 1 n_58 ∧ vp_in x4_143 n_58 ∧ isZ r_57 ∧ ∀ V_62 : VT, V_62 = up2 V_55 (U a0_143 59) x4_143.toNatClampNeg r_57 → ∀ y_63 : Int32, y_63 = x4_143 + (1 : Int32) → kb143 y_63 V_62 U_56)))
def wl_M_sound_143 (θ : TH) (a0_143 : Nat) (x3_143 : Int32) (K : Int32 → VT → UT → Prop) : Nat → Int32 → VT → UT → Prop
  | 0, _, _, _ => False
  | n + 1, x4_143, V, U => bl_M_sound_143 θ a0_143 x3_143 K (wl_M_sound_143 θ a0_143 x3_143 K n) x4_143 V U
def bl_M_sound_104 (θ : TH) (a0_104 : Nat) (x3_104 : Int32) (K : Int32 → VT → UT → Prop) (kb104 : Int32 → VT → UT → Prop) (x4_104 : Int32) (V : VT) (U : UT) : Prop := (((64 : Int32) ≤ x4_104 → isO θ a0_104 12 ∧ (U a0_104 59) ≠ 0 ∧ ∃ n_27, isA θ (U a0_104 59) 1 n_27 ∧ vp_in (1 : Int32) n_27 ∧ ∀ V_30 : VT, V_30 = up2 V (U a0_104 59) (1 : Int32).toNatClampNeg (0 : Int32) → ∃ n, wl_M_sound_143 θ a0_104 x3_104 K n (0 : Int32) V_30 U) ∧ (¬ (64 : Int32) ≤ x4_104 → isO θ a0_104 12 ∧ (U a0_104 60) ≠ 0 ∧ ∃ n_33, isA θ (U a0_104 60) 0 n_33 ∧ vp_in x4_104 n_33 ∧ ∀ V_36 : VT, V_36 = up2 V (U a0_104 60) x4_104.toNatClampNeg (0 : Int32) → (U a0_104 61) ≠ 0 ∧ ∃ n_38, isA θ (U a0_104 61) 0 n_38 ∧ vp_in x4_104 n_38 ∧ ∀ V_41 : VT, V_41 = up2 V_36 (U a0_104 61) x4_104.toNatClampNeg (0 : Int32) → ∀ y_42 : Int32, y_42 = x4_104 + (1 : Int32) → kb104 y_42 V_41 U))
def wl_M_sound_104 (θ : TH) (a0_104 : Nat) (x3_104 : Int32) (K : Int32 → VT → UT → Prop) : Nat → Int32 → VT → UT → Prop
  | 0, _, _, _ => False
  | n + 1, x4_104, V, U => bl_M_sound_104 θ a0_104 x3_104 K (wl_M_sound_104 θ a0_104 x3_104 K n) x4_104 V U
def wb_M_sound_71 (θ : TH) (a0_71 : Nat) (x2_71 : Int32) (x3_71 : Int32) (z0_71 : Int32) (z1_71 : Nat) (K : Int32 → VT → UT → Prop) (V : VT) (U : UT) : Prop := isO θ z1_71 12 ∧ isZ z0_71 ∧ ∀ V_18 : VT, V_18 = up2 V z1_71 55 z0_71 → isO θ a0_71 12 ∧ ∀ V_20 : VT, V_20 = up2 V_18 a0_71 56 x2_71 → (((V_20 a0_71 55) = 0 → ∀ V_22 : VT, V_22 = up2 V_20 a0_71 57 (V_20 a0_71 42) → ∃ n, wl_M_sound_104 θ a0_71 x3_71 K n (0 : Int32) V_22 U) ∧ (¬ (V_20 a0_71 55) = 0 → ∀ V_23 : VT, V_23 = up2 V_20 a0_71 57 (V_20 a0_71 43) → ∃ n, wl_M_sound_104 θ a0_71 x3_71 K n (0 : Int32) V_23 U))
def wb_M_sound_54 (θ : TH) (a0_54 : Nat) (x1_54 : Int32) (x2_54 : Int32) (z0_54 : Int32) (K : Int32 → VT → UT → Prop) (V : VT) (U : UT) : Prop := isO θ a0_54 12 ∧ ∀ V_14 : VT, V_14 = up2 V a0_54 54 (1 : Int32) → ((¬ x1_54 = (1 : Int32) → wb_M_sound_71 θ a0_54 x2_54 z0_54 (0 : Int32) a0_54 K V_14 U) ∧ (x1_54 = (1 : Int32) → wb_M_sound_71 θ a0_54 x2_54 z0_54 (1 : Int32) a0_54 K V_14 U))
def wb_M_sound_29 (θ : TH) (a0_29 : Nat) (x1_29 : Int32) (z0_29 : Int32) (K : Int32 → VT → UT → Prop) (V : VT) (U : UT) : Prop := isO θ a0_29 12 ∧ (((V a0_29 40) = 0 → (((V a0_29 54) = 0 → wb_M_sound_54 θ a0_29 x1_29 z0_29 (0 : Int32) K V U) ∧ (¬ (V a0_29 54) = 0 → wb_M_sound_54 θ a0_29 x1_29 z0_29 (V a0_29 57) K V U))) ∧ (¬ (V a0_29 40) = 0 → K (0 : Int32) V U))
def wp_M_sound (θ : TH) (a0 : Nat) (V : VT) (U : UT) (K : Int32 → VT → UT → Prop) : Prop := isO θ a0 12 ∧ ((0 ≤ (V a0 53) → wp_M_read θ a0 (1 : Int32) V U (fun r_5 V_3 U_4 => ((¬ r_5 = (1 : Int32) → wb_M_sound_29 θ a0 r_5 (0 : Int32) K V_3 U_4) ∧ (r_5 = (1 : Int32) → wp_M_read θ a0 (2 : Int32) V_3 U_4 (fun r_9 V_7 U_8 => wb_M_sound_29 θ a0 r_5 r_9 K V_7 U_8))))) ∧ (¬ 0 ≤ (V a0 53) → K (0 : Int32) V U))
set_option maxRecDepth 100000 in
set_option maxHeartbeats 4000000 in
theorem c_M_sound (l : Launch) (θ : TH) (a0 : Nat) (V : VT) (U : UT) (K : Int32 → VT → UT → Prop) (hw : wp_M_sound θ a0 V U K) : CMi l yM_sound kM_sound 5 (some .boolean) rmM_sound θ [.ref a0] V U K := by
  refine g_met nRM (by decide +kernel) rfl (Nat.le_of_ble_eq_true rfl) (fun p e s m args below meth c ls hC hr hlk hwo hl => ?_)
  have hx := hC.1
  have hb := hC.2.1
  have hS : Sx θ s s.heap [] := va_S.rf
  have hl : lv_has ls 5 [(0, .ref a0)] := hl
  have J248 : ∀ (a0_248 : Nat) (z0_248 : Int32) (z1_248 : Int32) (z2_248 : Nat) (V : VT) (U : UT) (H : Heap) (locs : List Loc) (ls : Array Slot), wb_M_sound_248 θ a0_248 z0_248 z1_248 z2_248 K V U → wo θ V U H → Sx θ s H locs → lv_has ls 5 [(0, .ref a0_248)] → W p l e rmM_sound s m args below meth c H locs 0 0 (MQ below (QI θ K) args s 0 0 (aT θ)) (F0 m 248 ls [.int z0_248, .int z1_248, .ref z2_248]) := by
    intro a0_248 z0_248 z1_248 z2_248 V U H locs ls hw hwo hS hl
    unfold wb_M_sound_248 at hw
    refine lv_iadd hx hb dM_sound_248 ?_
    obtain ⟨ho_67, hw⟩ := hw
    refine g_putI hC fkM_277 rfl hwo hS ho_67 dM_sound_249 (fun V_68 eV_68 H locs hwo hS => ?_)
    replace hw := hw V_68 eV_68
    refine lv_aload_n hx hb dM_sound_252 rfl (lv_at hl 0 rfl) ?_
    obtain ⟨ho_69, hw⟩ := hw
    refine g_getI hC fkM_230 rfl hwo ho_69 dM_sound_253 ?_
    refine lv_if_eq (tgt := 287) hx hb dM_sound_256 (by decide) (fun hc_70 => ?_) (fun hc_70 => ?_)
    · replace hw := hw.1 hc_70
      refine lv_iconst (v := 1) hx hb dM_sound_287 (by decide) ?_
      exact g_zret hC hr hlk (Or.inr rfl) hw hwo hS dM_sound_288
    · replace hw := hw.2 hc_70
      refine lv_aload_n hx hb dM_sound_259 rfl (lv_at hl 0 rfl) ?_
      refine g_getI hC fkM_227 rfl hwo ho_69 dM_sound_260 ?_
      refine lv_ldc hx hb hC.2.2.2.1 (hC.2.2.2.2.1 _ kcM_164) dM_sound_263 ?_
      refine lv_icmp_eq (tgt := 287) hx hb dM_sound_265 (by decide) (fun hc_71 => ?_) (fun hc_71 => ?_)
      · replace hw := hw.1 hc_71
        refine lv_iconst (v := 1) hx hb dM_sound_287 (by decide) ?_
        exact g_zret hC hr hlk (Or.inr rfl) hw hwo hS dM_sound_288
      · replace hw := hw.2 hc_71
        refine lv_aload_n hx hb dM_sound_268 rfl (lv_at hl 0 rfl) ?_
        refine g_getI hC fkM_227 rfl hwo ho_69 dM_sound_269 ?_
        refine lv_aload_n hx hb dM_sound_272 rfl (lv_at hl 0 rfl) ?_
        refine g_getI hC fkM_277 rfl hwo ho_69 dM_sound_273 ?_
        refine lv_icmp_ge (tgt := 287) hx hb dM_sound_276 (by decide) (fun hc_72 => ?_) (fun hc_72 => ?_)
        · replace hw := hw.1 hc_72
          refine lv_iconst (v := 1) hx hb dM_sound_287 (by decide) ?_
          exact g_zret hC hr hlk (Or.inr rfl) hw hwo hS dM_sound_288
        · replace hw := hw.2 hc_72
          refine lv_aload_n hx hb dM_sound_279 rfl (lv_at hl 0 rfl) ?_
          refine lv_aload_n hx hb dM_sound_280 rfl (lv_at hl 0 rfl) ?_
          refine g_getI hC fkM_227 rfl hwo ho_69 dM_sound_281 ?_
          refine g_putI hC fkM_277 rfl hwo hS ho_69 dM_sound_284 (fun V_73 eV_73 H locs hwo hS => ?_)
          replace hw := hw V_73 eV_73
          refine lv_iconst (v := 1) hx hb dM_sound_287 (by decide) ?_
          exact g_zret hC hr hlk (Or.inr rfl) hw hwo hS dM_sound_288
  have J225 : ∀ (a0_225 : Nat) (x3_225 : Int32) (V : VT) (U : UT) (H : Heap) (locs : List Loc) (ls : Array Slot), wb_M_sound_225 θ a0_225 x3_225 K V U → wo θ V U H → Sx θ s H locs → lv_has ls 5 [(0, .ref a0_225), (3, .int x3_225)] → W p l e rmM_sound s m args below meth c H locs 0 0 (MQ below (QI θ K) args s 0 0 (aT θ)) (F0 m 225 ls []) := by
    intro a0_225 x3_225 V U H locs ls hw hwo hS hl
    unfold wb_M_sound_225 at hw
    refine lv_aload_n hx hb dM_sound_225 rfl (lv_at hl 0 rfl) ?_
    refine lv_dup hx hb dM_sound_226 rfl ?_
    obtain ⟨ho_64, hw⟩ := hw
    refine g_getI hC fkM_277 rfl hwo ho_64 dM_sound_227 ?_
    refine lv_iload_n hx hb dM_sound_230 rfl (lv_at hl 1 rfl) ?_
    refine lv_if_le (tgt := 247) hx hb dM_sound_231 (by decide) (fun hc_65 => ?_) (fun hc_65 => ?_)
    · replace hw := hw.1 hc_65
      refine lv_iconst (v := 0) hx hb dM_sound_247 (by decide) ?_
      exact J248 _ _ _ _ _ _ _ _ _ hw hwo hS (lv_sub hl [0] rfl)
    · replace hw := hw.2 hc_65
      refine lv_iload_n hx hb dM_sound_234 rfl (lv_at hl 1 rfl) ?_
      refine lv_iconst (v := 4) hx hb dM_sound_235 (by decide) ?_
      obtain ⟨hd_66, hw⟩ := hw
      refine lv_idiv hx hb dM_sound_236 hd_66 ?_
      refine lv_aload_n hx hb dM_sound_237 rfl (lv_at hl 0 rfl) ?_
      refine g_getI hC fkM_312 rfl hwo ho_64 dM_sound_238 ?_
      refine lv_iconst (v := 4) hx hb dM_sound_241 (by decide) ?_
      refine lv_idiv hx hb dM_sound_242 hd_66 ?_
      refine lv_iadd hx hb dM_sound_243 ?_
      refine lv_goto (tgt := 248) hx hb dM_sound_244 (by decide) ?_
      exact J248 _ _ _ _ _ _ _ _ _ hw hwo hS (lv_sub hl [0] rfl)
  have L202 : ∀ (a0_202 : Nat) (x3_202 : Int32) (n202 : Nat) (x4_202 : Int32) (V : VT) (U : UT) (H : Heap) (locs : List Loc) (ls : Array Slot), wl_M_sound_202 θ a0_202 x3_202 K n202 x4_202 V U → wo θ V U H → Sx θ s H locs → lv_has ls 5 [(0, .ref a0_202), (3, .int x3_202), (4, .int x4_202)] → W p l e rmM_sound s m args below meth c H locs 0 0 (MQ below (QI θ K) args s 0 0 (aT θ)) (F0 m 202 ls []) := by
    intro a0_202 x3_202 n202
    induction n202 with
    | zero => intro x4_202 V U H locs ls hw hwo hS hl; exact (show False from hw).elim
    | succ n202 ih202 =>
      intro x4_202 V U H locs ls hw hwo hS hl
      replace hw : bl_M_sound_202 θ a0_202 x3_202 K (wl_M_sound_202 θ a0_202 x3_202 K n202) x4_202 V U := hw
      unfold bl_M_sound_202 at hw
      refine lv_iload hx hb dM_sound_202 (lv_at hl 2 rfl) ?_
      refine lv_aload_n hx hb dM_sound_204 rfl (lv_at hl 0 rfl) ?_
      obtain ⟨ho_74, hw⟩ := hw
      refine g_getI hC fkM_312 rfl hwo ho_74 dM_sound_205 ?_
      refine lv_iconst (v := 2) hx hb dM_sound_208 (by decide) ?_
      obtain ⟨hd_75, hw⟩ := hw
      refine lv_idiv hx hb dM_sound_209 hd_75 ?_
      refine lv_icmp_ge (tgt := 225) hx hb dM_sound_210 (by decide) (fun hc_76 => ?_) (fun hc_76 => ?_)
      · replace hw := hw.1 hc_76
        exact J225 _ _ _ _ _ _ _ hw hwo hS (lv_sub hl [0, 1] rfl)
      · replace hw := hw.2 hc_76
        refine lv_aload_n hx hb dM_sound_213 rfl (lv_at hl 0 rfl) ?_
        refine lv_iload hx hb dM_sound_214 (lv_at hl 2 rfl) ?_
        refine g_Vv (rest := []) hC (c_M_join l θ _ _ _ _ _ hw) mi_M_join mlM_330 mv_M_join ci_12 ho_74 hwo hS ⟨rfl, rfl⟩ ⟨by decide, by decide⟩ rfl hl.1 rfl (Nat.le_of_ble_eq_true rfl) dM_sound_216 (fun V_77 U_78 hw H locs hwo hS => ?_)
        obtain ⟨y_79, ey_79⟩ : ∃ z : Int32, z = x4_202 + (1 : Int32) := ⟨_, rfl⟩
        replace hw := hw y_79 ey_79
        refine lv_iinc (k := 2) (v := y_79) (lv' := [(4, .int y_79), (0, .ref a0_202), (3, .int x3_202)]) hx hb dM_sound_219 hl rfl (by rw [ey_79]; rfl) (by decide) rfl (fun ls hl => ?_)
        refine lv_goto (tgt := 202) hx hb dM_sound_222 (by decide) ?_
        exact ih202 _ _ _ _ _ _ hw hwo hS (lv_sub hl [1, 2, 0] rfl)
  have L143 : ∀ (a0_143 : Nat) (x3_143 : Int32) (n143 : Nat) (x4_143 : Int32) (V : VT) (U : UT) (H : Heap) (locs : List Loc) (ls : Array Slot), wl_M_sound_143 θ a0_143 x3_143 K n143 x4_143 V U → wo θ V U H → Sx θ s H locs → lv_has ls 5 [(0, .ref a0_143), (3, .int x3_143), (4, .int x4_143)] → W p l e rmM_sound s m args below meth c H locs 0 0 (MQ below (QI θ K) args s 0 0 (aT θ)) (F0 m 143 ls []) := by
    intro a0_143 x3_143 n143
    induction n143 with
    | zero => intro x4_143 V U H locs ls hw hwo hS hl; exact (show False from hw).elim
    | succ n143 ih143 =>
      intro x4_143 V U H locs ls hw hwo hS hl
      replace hw : bl_M_sound_143 θ a0_143 x3_143 K (wl_M_sound_143 θ a0_143 x3_143 K n143) x4_143 V U := hw
      unfold bl_M_sound_143 at hw
      refine lv_iload hx hb dM_sound_143 (lv_at hl 2 rfl) ?_
      refine lv_aload_n hx hb dM_sound_145 rfl (lv_at hl 0 rfl) ?_
      obtain ⟨ho_43, hw⟩ := hw
      refine g_getI hC fkM_265 rfl hwo ho_43 dM_sound_146 ?_
      refine lv_icmp_ge (tgt := 171) hx hb dM_sound_149 (by decide) (fun hc_44 => ?_) (fun hc_44 => ?_)
      · replace hw := hw.1 hc_44
        refine lv_aload_n hx hb dM_sound_171 rfl (lv_at hl 0 rfl) ?_
        refine g_Vv (rest := []) hC (c_M_values l θ _ _ _ _ hw) mi_M_values mlM_324 mv_M_values ci_12 ho_43 hwo hS ⟨rfl, rfl⟩ ⟨by decide, by decide⟩ rfl hl.1 rfl (Nat.le_of_ble_eq_true rfl) dM_sound_172 (fun V_45 U_46 hw H locs hwo hS => ?_)
        refine lv_aload_n hx hb dM_sound_175 rfl (lv_at hl 0 rfl) ?_
        refine lv_aload_n hx hb dM_sound_176 rfl (lv_at hl 0 rfl) ?_
        refine g_getI hC fkM_243 rfl hwo ho_43 dM_sound_177 ?_
        obtain ⟨hb_47, hw⟩ := hw
        refine g_putZ hC fkM_327 rfl hwo hS ho_43 hb_47 dM_sound_180 (fun V_48 eV_48 H locs hwo hS => ?_)
        replace hw := hw V_48 eV_48
        refine lv_aload_n hx hb dM_sound_183 rfl (lv_at hl 0 rfl) ?_
        obtain ⟨hz_49, hw⟩ := hw
        refine g_getR hC fkM_101 rfl hwo ho_43 hz_49 dM_sound_184 ?_
        refine lv_aload_n hx hb dM_sound_187 rfl (lv_at hl 0 rfl) ?_
        refine g_getI hC fkM_104 rfl hwo ho_43 dM_sound_188 ?_
        refine lv_bipush (v := 40) hx hb dM_sound_191 (by decide) ?_
        refine lv_iadd hx hb dM_sound_193 ?_
        obtain ⟨n_50, ha_51, hw⟩ := hw
        obtain ⟨hi_52, hw⟩ := hw
        refine g_iald hC hwo ha_51 hi_52 dM_sound_194 ?_
        refine lv_iconst (v := 1) hx hb dM_sound_195 (by decide) ?_
        refine lv_icmp_ne (tgt := 225) hx hb dM_sound_196 (by decide) (fun hc_53 => ?_) (fun hc_53 => ?_)
        · replace hw := hw.1 hc_53
          exact J225 _ _ _ _ _ _ _ hw hwo hS (lv_sub hl [0, 1] rfl)
        · replace hw := hw.2 hc_53
          refine lv_iconst (v := 0) hx hb dM_sound_199 (by decide) ?_
          refine lv_istore (i := 4) (lv' := [(4, .int (0 : Int32)), (0, .ref a0_143), (3, .int x3_143)]) hx hb dM_sound_200 hl (by decide) rfl (fun ls hl => ?_)
          obtain ⟨n, hw⟩ := hw
          exact L202 _ _ n _ _ _ _ _ _ hw hwo hS (lv_sub hl [1, 2, 0] rfl)
      · replace hw := hw.2 hc_44
        refine lv_aload_n hx hb dM_sound_152 rfl (lv_at hl 0 rfl) ?_
        obtain ⟨hz_54, hw⟩ := hw
        refine g_getR hC fkM_108 rfl hwo ho_43 hz_54 dM_sound_153 ?_
        refine lv_iload hx hb dM_sound_156 (lv_at hl 2 rfl) ?_
        refine lv_aload_n hx hb dM_sound_158 rfl (lv_at hl 0 rfl) ?_
        refine lv_iload hx hb dM_sound_159 (lv_at hl 2 rfl) ?_
        refine g_Vi (rest := [.int x4_143, .ref (U a0_143 59)]) hC (c_M_curveOf l θ _ _ _ _ _ hw) mi_M_curveOf mlM_321 mv_M_curveOf ci_12 ho_43 hwo hS ⟨rfl, rfl⟩ ⟨by decide, by decide⟩ rfl hl.1 rfl (Nat.le_of_ble_eq_true rfl) dM_sound_161 (fun r_57 V_55 U_56 hw H locs hwo hS => ?_)
        obtain ⟨n_58, ha_59, hw⟩ := hw
        obtain ⟨hi_60, hw⟩ := hw
        obtain ⟨hb_61, hw⟩ := hw
        refine g_zast hC hwo hS ha_59 hi_60 hb_61 dM_sound_164 (fun V_62 eV_62 H locs hwo hS => ?_)
        replace hw := hw V_62 eV_62
        obtain ⟨y_63, ey_63⟩ : ∃ z : Int32, z = x4_143 + (1 : Int32) := ⟨_, rfl⟩
        replace hw := hw y_63 ey_63
        refine lv_iinc (k := 2) (v := y_63) (lv' := [(4, .int y_63), (0, .ref a0_143), (3, .int x3_143)]) hx hb dM_sound_165 hl rfl (by rw [ey_63]; rfl) (by decide) rfl (fun ls hl => ?_)
        refine lv_goto (tgt := 143) hx hb dM_sound_168 (by decide) ?_
        exact ih143 _ _ _ _ _ _ hw hwo hS (lv_sub hl [1, 2, 0] rfl)
  have L104 : ∀ (a0_104 : Nat) (x3_104 : Int32) (n104 : Nat) (x4_104 : Int32) (V : VT) (U : UT) (H : Heap) (locs : List Loc) (ls : Array Slot), wl_M_sound_104 θ a0_104 x3_104 K n104 x4_104 V U → wo θ V U H → Sx θ s H locs → lv_has ls 5 [(0, .ref a0_104), (3, .int x3_104), (4, .int x4_104)] → W p l e rmM_sound s m args below meth c H locs 0 0 (MQ below (QI θ K) args s 0 0 (aT θ)) (F0 m 104 ls []) := by
    intro a0_104 x3_104 n104
    induction n104 with
    | zero => intro x4_104 V U H locs ls hw hwo hS hl; exact (show False from hw).elim
    | succ n104 ih104 =>
      intro x4_104 V U H locs ls hw hwo hS hl
      replace hw : bl_M_sound_104 θ a0_104 x3_104 K (wl_M_sound_104 θ a0_104 x3_104 K n104) x4_104 V U := hw
      unfold bl_M_sound_104 at hw
      refine lv_iload hx hb dM_sound_104 (lv_at hl 2 rfl) ?_
      refine lv_bipush (v := 64) hx hb dM_sound_106 (by decide) ?_
      refine lv_icmp_ge (tgt := 133) hx hb dM_sound_108 (by decide) (fun hc_24 => ?_) (fun hc_24 => ?_)
      · replace hw := hw.1 hc_24
        refine lv_aload_n hx hb dM_sound_133 rfl (lv_at hl 0 rfl) ?_
        obtain ⟨ho_25, hw⟩ := hw
        obtain ⟨hz_26, hw⟩ := hw
        refine g_getR hC fkM_108 rfl hwo ho_25 hz_26 dM_sound_134 ?_
        refine lv_iconst (v := 1) hx hb dM_sound_137 (by decide) ?_
        refine lv_iconst (v := 0) hx hb dM_sound_138 (by decide) ?_
        obtain ⟨n_27, ha_28, hw⟩ := hw
        obtain ⟨hi_29, hw⟩ := hw
        refine g_zast hC hwo hS ha_28 hi_29 (Or.inl rfl) dM_sound_139 (fun V_30 eV_30 H locs hwo hS => ?_)
        replace hw := hw V_30 eV_30
        refine lv_iconst (v := 0) hx hb dM_sound_140 (by decide) ?_
        refine lv_istore (i := 4) (lv' := [(4, .int (0 : Int32)), (0, .ref a0_104), (3, .int x3_104)]) hx hb dM_sound_141 hl (by decide) rfl (fun ls hl => ?_)
        obtain ⟨n, hw⟩ := hw
        exact L143 _ _ n _ _ _ _ _ _ hw hwo hS (lv_sub hl [1, 2, 0] rfl)
      · replace hw := hw.2 hc_24
        refine lv_aload_n hx hb dM_sound_111 rfl (lv_at hl 0 rfl) ?_
        obtain ⟨ho_31, hw⟩ := hw
        obtain ⟨hz_32, hw⟩ := hw
        refine g_getR hC fkM_111 rfl hwo ho_31 hz_32 dM_sound_112 ?_
        refine lv_iload hx hb dM_sound_115 (lv_at hl 2 rfl) ?_
        refine lv_iconst (v := 0) hx hb dM_sound_117 (by decide) ?_
        obtain ⟨n_33, ha_34, hw⟩ := hw
        obtain ⟨hi_35, hw⟩ := hw
        refine g_iast hC hwo hS ha_34 hi_35 dM_sound_118 (fun V_36 eV_36 H locs hwo hS => ?_)
        replace hw := hw V_36 eV_36
        refine lv_aload_n hx hb dM_sound_119 rfl (lv_at hl 0 rfl) ?_
        obtain ⟨hz_37, hw⟩ := hw
        refine g_getR hC fkM_114 rfl hwo ho_31 hz_37 dM_sound_120 ?_
        refine lv_iload hx hb dM_sound_123 (lv_at hl 2 rfl) ?_
        refine lv_iconst (v := 0) hx hb dM_sound_125 (by decide) ?_
        obtain ⟨n_38, ha_39, hw⟩ := hw
        obtain ⟨hi_40, hw⟩ := hw
        refine g_iast hC hwo hS ha_39 hi_40 dM_sound_126 (fun V_41 eV_41 H locs hwo hS => ?_)
        replace hw := hw V_41 eV_41
        obtain ⟨y_42, ey_42⟩ : ∃ z : Int32, z = x4_104 + (1 : Int32) := ⟨_, rfl⟩
        replace hw := hw y_42 ey_42
        refine lv_iinc (k := 2) (v := y_42) (lv' := [(4, .int y_42), (0, .ref a0_104), (3, .int x3_104)]) hx hb dM_sound_127 hl rfl (by rw [ey_42]; rfl) (by decide) rfl (fun ls hl => ?_)
        refine lv_goto (tgt := 104) hx hb dM_sound_130 (by decide) ?_
        exact ih104 _ _ _ _ _ _ hw hwo hS (lv_sub hl [1, 2, 0] rfl)
  have J71 : ∀ (a0_71 : Nat) (x2_71 : Int32) (x3_71 : Int32) (z0_71 : Int32) (z1_71 : Nat) (V : VT) (U : UT) (H : Heap) (locs : List Loc) (ls : Array Slot), wb_M_sound_71 θ a0_71 x2_71 x3_71 z0_71 z1_71 K V U → wo θ V U H → Sx θ s H locs → lv_has ls 5 [(0, .ref a0_71), (2, .int x2_71), (3, .int x3_71)] → W p l e rmM_sound s m args below meth c H locs 0 0 (MQ below (QI θ K) args s 0 0 (aT θ)) (F0 m 71 ls [.int z0_71, .ref z1_71]) := by
    intro a0_71 x2_71 x3_71 z0_71 z1_71 V U H locs ls hw hwo hS hl
    unfold wb_M_sound_71 at hw
    obtain ⟨ho_16, hw⟩ := hw
    obtain ⟨hb_17, hw⟩ := hw
    refine g_putZ hC fkM_315 rfl hwo hS ho_16 hb_17 dM_sound_71 (fun V_18 eV_18 H locs hwo hS => ?_)
    replace hw := hw V_18 eV_18
    refine lv_aload_n hx hb dM_sound_74 rfl (lv_at hl 0 rfl) ?_
    refine lv_iload_n hx hb dM_sound_75 rfl (lv_at hl 1 rfl) ?_
    obtain ⟨ho_19, hw⟩ := hw
    refine g_putI hC fkM_318 rfl hwo hS ho_19 dM_sound_76 (fun V_20 eV_20 H locs hwo hS => ?_)
    replace hw := hw V_20 eV_20
    refine lv_aload_n hx hb dM_sound_79 rfl (lv_at hl 0 rfl) ?_
    refine lv_aload_n hx hb dM_sound_80 rfl (lv_at hl 0 rfl) ?_
    refine g_getI hC fkM_315 rfl hwo ho_19 dM_sound_81 ?_
    refine lv_if_eq (tgt := 94) hx hb dM_sound_84 (by decide) (fun hc_21 => ?_) (fun hc_21 => ?_)
    · replace hw := hw.1 hc_21
      refine lv_aload_n hx hb dM_sound_94 rfl (lv_at hl 0 rfl) ?_
      refine g_getI hC fkM_268 rfl hwo ho_19 dM_sound_95 ?_
      refine g_putI hC fkM_312 rfl hwo hS ho_19 dM_sound_98 (fun V_22 eV_22 H locs hwo hS => ?_)
      replace hw := hw V_22 eV_22
      refine lv_iconst (v := 0) hx hb dM_sound_101 (by decide) ?_
      refine lv_istore (i := 4) (lv' := [(4, .int (0 : Int32)), (0, .ref a0_71), (2, .int x2_71), (3, .int x3_71)]) hx hb dM_sound_102 hl (by decide) rfl (fun ls hl => ?_)
      obtain ⟨n, hw⟩ := hw
      exact L104 _ _ n _ _ _ _ _ _ hw hwo hS (lv_sub hl [1, 3, 0] rfl)
    · replace hw := hw.2 hc_21
      refine lv_aload_n hx hb dM_sound_87 rfl (lv_at hl 0 rfl) ?_
      refine g_getI hC fkM_271 rfl hwo ho_19 dM_sound_88 ?_
      refine lv_goto (tgt := 98) hx hb dM_sound_91 (by decide) ?_
      refine g_putI hC fkM_312 rfl hwo hS ho_19 dM_sound_98 (fun V_23 eV_23 H locs hwo hS => ?_)
      replace hw := hw V_23 eV_23
      refine lv_iconst (v := 0) hx hb dM_sound_101 (by decide) ?_
      refine lv_istore (i := 4) (lv' := [(4, .int (0 : Int32)), (0, .ref a0_71), (2, .int x2_71), (3, .int x3_71)]) hx hb dM_sound_102 hl (by decide) rfl (fun ls hl => ?_)
      obtain ⟨n, hw⟩ := hw
      exact L104 _ _ n _ _ _ _ _ _ hw hwo hS (lv_sub hl [1, 3, 0] rfl)
  have J54 : ∀ (a0_54 : Nat) (x1_54 : Int32) (x2_54 : Int32) (z0_54 : Int32) (V : VT) (U : UT) (H : Heap) (locs : List Loc) (ls : Array Slot), wb_M_sound_54 θ a0_54 x1_54 x2_54 z0_54 K V U → wo θ V U H → Sx θ s H locs → lv_has ls 5 [(0, .ref a0_54), (1, .int x1_54), (2, .int x2_54)] → W p l e rmM_sound s m args below meth c H locs 0 0 (MQ below (QI θ K) args s 0 0 (aT θ)) (F0 m 54 ls [.int z0_54]) := by
    intro a0_54 x1_54 x2_54 z0_54 V U H locs ls hw hwo hS hl
    unfold wb_M_sound_54 at hw
    refine lv_istore_n (i := 3) (lv' := [(3, .int z0_54), (0, .ref a0_54), (1, .int x1_54), (2, .int x2_54)]) hx hb dM_sound_54 rfl hl (by decide) rfl (fun ls hl => ?_)
    refine lv_aload_n hx hb dM_sound_55 rfl (lv_at hl 1 rfl) ?_
    refine lv_iconst (v := 1) hx hb dM_sound_56 (by decide) ?_
    obtain ⟨ho_13, hw⟩ := hw
    refine g_putZ hC fkM_274 rfl hwo hS ho_13 (Or.inr rfl) dM_sound_57 (fun V_14 eV_14 H locs hwo hS => ?_)
    replace hw := hw V_14 eV_14
    refine lv_aload_n hx hb dM_sound_60 rfl (lv_at hl 1 rfl) ?_
    refine lv_iload_n hx hb dM_sound_61 rfl (lv_at hl 2 rfl) ?_
    refine lv_iconst (v := 1) hx hb dM_sound_62 (by decide) ?_
    refine lv_icmp_ne (tgt := 70) hx hb dM_sound_63 (by decide) (fun hc_15 => ?_) (fun hc_15 => ?_)
    · replace hw := hw.1 hc_15
      refine lv_iconst (v := 0) hx hb dM_sound_70 (by decide) ?_
      exact J71 _ _ _ _ _ _ _ _ _ _ hw hwo hS (lv_sub hl [1, 3, 0] rfl)
    · replace hw := hw.2 hc_15
      refine lv_iconst (v := 1) hx hb dM_sound_66 (by decide) ?_
      refine lv_goto (tgt := 71) hx hb dM_sound_67 (by decide) ?_
      exact J71 _ _ _ _ _ _ _ _ _ _ hw hwo hS (lv_sub hl [1, 3, 0] rfl)
  have J29 : ∀ (a0_29 : Nat) (x1_29 : Int32) (z0_29 : Int32) (V : VT) (U : UT) (H : Heap) (locs : List Loc) (ls : Array Slot), wb_M_sound_29 θ a0_29 x1_29 z0_29 K V U → wo θ V U H → Sx θ s H locs → lv_has ls 5 [(0, .ref a0_29), (1, .int x1_29)] → W p l e rmM_sound s m args below meth c H locs 0 0 (MQ below (QI θ K) args s 0 0 (aT θ)) (F0 m 29 ls [.int z0_29]) := by
    intro a0_29 x1_29 z0_29 V U H locs ls hw hwo hS hl
    unfold wb_M_sound_29 at hw
    refine lv_istore_n (i := 2) (lv' := [(2, .int z0_29), (0, .ref a0_29), (1, .int x1_29)]) hx hb dM_sound_29 rfl hl (by decide) rfl (fun ls hl => ?_)
    refine lv_aload_n hx hb dM_sound_30 rfl (lv_at hl 1 rfl) ?_
    obtain ⟨ho_10, hw⟩ := hw
    refine g_getI hC fkM_243 rfl hwo ho_10 dM_sound_31 ?_
    refine lv_if_eq (tgt := 39) hx hb dM_sound_34 (by decide) (fun hc_11 => ?_) (fun hc_11 => ?_)
    · replace hw := hw.1 hc_11
      refine lv_aload_n hx hb dM_sound_39 rfl (lv_at hl 1 rfl) ?_
      refine g_getI hC fkM_274 rfl hwo ho_10 dM_sound_40 ?_
      refine lv_if_eq (tgt := 53) hx hb dM_sound_43 (by decide) (fun hc_12 => ?_) (fun hc_12 => ?_)
      · replace hw := hw.1 hc_12
        refine lv_iconst (v := 0) hx hb dM_sound_53 (by decide) ?_
        exact J54 _ _ _ _ _ _ _ _ _ hw hwo hS (lv_sub hl [1, 2, 0] rfl)
      · replace hw := hw.2 hc_12
        refine lv_aload_n hx hb dM_sound_46 rfl (lv_at hl 1 rfl) ?_
        refine g_getI hC fkM_312 rfl hwo ho_10 dM_sound_47 ?_
        refine lv_goto (tgt := 54) hx hb dM_sound_50 (by decide) ?_
        exact J54 _ _ _ _ _ _ _ _ _ hw hwo hS (lv_sub hl [1, 2, 0] rfl)
    · replace hw := hw.2 hc_11
      refine lv_iconst (v := 0) hx hb dM_sound_37 (by decide) ?_
      exact g_zret hC hr hlk (Or.inl rfl) hw hwo hS dM_sound_38
  unfold wp_M_sound at hw
  refine lv_aload_n hx hb dM_sound_0 rfl (lv_at hl 0 rfl) ?_
  obtain ⟨ho_1, hw⟩ := hw
  refine g_getI hC fkM_104 rfl hwo ho_1 dM_sound_1 ?_
  refine lv_if_ge (tgt := 9) hx hb dM_sound_4 (by decide) (fun hc_2 => ?_) (fun hc_2 => ?_)
  · replace hw := hw.1 hc_2
    refine lv_aload_n hx hb dM_sound_9 rfl (lv_at hl 0 rfl) ?_
    refine lv_iconst (v := 1) hx hb dM_sound_10 (by decide) ?_
    refine g_Vi (rest := []) hC (c_M_read l θ _ _ _ _ _ hw) mi_M_read mlM_249 mv_M_read ci_12 ho_1 hwo hS ⟨rfl, rfl⟩ ⟨by decide, by decide⟩ rfl hl.1 rfl (Nat.le_of_ble_eq_true rfl) dM_sound_11 (fun r_5 V_3 U_4 hw H locs hwo hS => ?_)
    refine lv_istore_n (i := 1) (lv' := [(1, .int r_5), (0, .ref a0)]) hx hb dM_sound_14 rfl hl (by decide) rfl (fun ls hl => ?_)
    refine lv_iload_n hx hb dM_sound_15 rfl (lv_at hl 0 rfl) ?_
    refine lv_iconst (v := 1) hx hb dM_sound_16 (by decide) ?_
    refine lv_icmp_ne (tgt := 28) hx hb dM_sound_17 (by decide) (fun hc_6 => ?_) (fun hc_6 => ?_)
    · replace hw := hw.1 hc_6
      refine lv_iconst (v := 0) hx hb dM_sound_28 (by decide) ?_
      exact J29 _ _ _ _ _ _ _ _ hw hwo hS (lv_sub hl [1, 0] rfl)
    · replace hw := hw.2 hc_6
      refine lv_aload_n hx hb dM_sound_20 rfl (lv_at hl 1 rfl) ?_
      refine lv_iconst (v := 2) hx hb dM_sound_21 (by decide) ?_
      refine g_Vi (rest := []) hC (c_M_read l θ _ _ _ _ _ hw) mi_M_read mlM_249 mv_M_read ci_12 ho_1 hwo hS ⟨rfl, rfl⟩ ⟨by decide, by decide⟩ rfl hl.1 rfl (Nat.le_of_ble_eq_true rfl) dM_sound_22 (fun r_9 V_7 U_8 hw H locs hwo hS => ?_)
      refine lv_goto (tgt := 29) hx hb dM_sound_25 (by decide) ?_
      exact J29 _ _ _ _ _ _ _ _ hw hwo hS (lv_sub hl [1, 0] rfl)
  · replace hw := hw.2 hc_2
    refine lv_iconst (v := 0) hx hb dM_sound_7 (by decide) ?_
    exact g_zret hC hr hlk (Or.inl rfl) hw hwo hS dM_sound_8
theorem dM_take_0 : decode kM_take 0 = .ok (.aload_n 0, 1) := by decide +kernel
theorem dM_take_1 : decode kM_take 1 = .ok (.getfield 220, 3) := by decide +kernel
theorem dM_take_4 : decode kM_take 4 = .ok (.ifCond .ne 5, 3) := by decide +kernel
theorem dM_take_7 : decode kM_take 7 = .ok (.iconst (-1), 1) := by decide +kernel
theorem dM_take_8 : decode kM_take 8 = .ok (.ireturn, 1) := by decide +kernel
theorem dM_take_9 : decode kM_take 9 = .ok (.aload_n 0, 1) := by decide +kernel
theorem dM_take_10 : decode kM_take 10 = .ok (.iconst 0, 1) := by decide +kernel
theorem dM_take_11 : decode kM_take 11 = .ok (.putfield 220, 3) := by decide +kernel
theorem dM_take_14 : decode kM_take 14 = .ok (.aload_n 0, 1) := by decide +kernel
theorem dM_take_15 : decode kM_take 15 = .ok (.iconst 0, 1) := by decide +kernel
theorem dM_take_16 : decode kM_take 16 = .ok (.putfield 246, 3) := by decide +kernel
theorem dM_take_19 : decode kM_take 19 = .ok (.aload_n 0, 1) := by decide +kernel
theorem dM_take_20 : decode kM_take 20 = .ok (.iconst 0, 1) := by decide +kernel
theorem dM_take_21 : decode kM_take 21 = .ok (.putfield 243, 3) := by decide +kernel
theorem dM_take_24 : decode kM_take 24 = .ok (.aload_n 0, 1) := by decide +kernel
theorem dM_take_25 : decode kM_take 25 = .ok (.iconst 1, 1) := by decide +kernel
theorem dM_take_26 : decode kM_take 26 = .ok (.invokevirtual 249, 3) := by decide +kernel
theorem dM_take_29 : decode kM_take 29 = .ok (.istore_n 1, 1) := by decide +kernel
theorem dM_take_30 : decode kM_take 30 = .ok (.aload_n 0, 1) := by decide +kernel
theorem dM_take_31 : decode kM_take 31 = .ok (.getfield 243, 3) := by decide +kernel
theorem dM_take_34 : decode kM_take 34 = .ok (.ifCond .eq 5, 3) := by decide +kernel
theorem dM_take_37 : decode kM_take 37 = .ok (.iconst 0, 1) := by decide +kernel
theorem dM_take_38 : decode kM_take 38 = .ok (.ireturn, 1) := by decide +kernel
theorem dM_take_39 : decode kM_take 39 = .ok (.iload_n 1, 1) := by decide +kernel
theorem dM_take_40 : decode kM_take 40 = .ok (.ifCond .ne 7, 3) := by decide +kernel
theorem dM_take_43 : decode kM_take 43 = .ok (.iconst 2, 1) := by decide +kernel
theorem dM_take_44 : decode kM_take 44 = .ok (.goto 13, 3) := by decide +kernel
theorem dM_take_47 : decode kM_take 47 = .ok (.iconst 1, 1) := by decide +kernel
theorem dM_take_48 : decode kM_take 48 = .ok (.iconst 2, 1) := by decide +kernel
theorem dM_take_49 : decode kM_take 49 = .ok (.aload_n 0, 1) := by decide +kernel
theorem dM_take_50 : decode kM_take 50 = .ok (.bipush 7, 2) := by decide +kernel
theorem dM_take_52 : decode kM_take 52 = .ok (.invokevirtual 249, 3) := by decide +kernel
theorem dM_take_55 : decode kM_take 55 = .ok (.imul, 1) := by decide +kernel
theorem dM_take_56 : decode kM_take 56 = .ok (.iadd, 1) := by decide +kernel
theorem dM_take_57 : decode kM_take 57 = .ok (.istore_n 2, 1) := by decide +kernel
theorem dM_take_58 : decode kM_take 58 = .ok (.iload_n 2, 1) := by decide +kernel
theorem dM_take_59 : decode kM_take 59 = .ok (.iconst 1, 1) := by decide +kernel
theorem dM_take_60 : decode kM_take 60 = .ok (.if_icmp .ne 10, 3) := by decide +kernel
theorem dM_take_63 : decode kM_take 63 = .ok (.aload_n 0, 1) := by decide +kernel
theorem dM_take_64 : decode kM_take 64 = .ok (.invokevirtual 252, 3) := by decide +kernel
theorem dM_take_67 : decode kM_take 67 = .ok (.goto 40, 3) := by decide +kernel
theorem dM_take_70 : decode kM_take 70 = .ok (.iload_n 2, 1) := by decide +kernel
theorem dM_take_71 : decode kM_take 71 = .ok (.iconst 3, 1) := by decide +kernel
theorem dM_take_72 : decode kM_take 72 = .ok (.if_icmp .ne 10, 3) := by decide +kernel
theorem dM_take_75 : decode kM_take 75 = .ok (.aload_n 0, 1) := by decide +kernel
theorem dM_take_76 : decode kM_take 76 = .ok (.invokevirtual 256, 3) := by decide +kernel
theorem dM_take_79 : decode kM_take 79 = .ok (.goto 28, 3) := by decide +kernel
theorem dM_take_82 : decode kM_take 82 = .ok (.iload_n 2, 1) := by decide +kernel
theorem dM_take_83 : decode kM_take 83 = .ok (.iconst 5, 1) := by decide +kernel
theorem dM_take_84 : decode kM_take 84 = .ok (.if_icmp .ne 10, 3) := by decide +kernel
theorem dM_take_87 : decode kM_take 87 = .ok (.aload_n 0, 1) := by decide +kernel
theorem dM_take_88 : decode kM_take 88 = .ok (.invokevirtual 259, 3) := by decide +kernel
theorem dM_take_91 : decode kM_take 91 = .ok (.goto 16, 3) := by decide +kernel
theorem dM_take_94 : decode kM_take 94 = .ok (.iload_n 2, 1) := by decide +kernel
theorem dM_take_95 : decode kM_take 95 = .ok (.iconst 2, 1) := by decide +kernel
theorem dM_take_96 : decode kM_take 96 = .ok (.if_icmp .ne 10, 3) := by decide +kernel
theorem dM_take_99 : decode kM_take 99 = .ok (.aload_n 0, 1) := by decide +kernel
theorem dM_take_100 : decode kM_take 100 = .ok (.invokevirtual 262, 3) := by decide +kernel
theorem dM_take_103 : decode kM_take 103 = .ok (.goto 4, 3) := by decide +kernel
theorem dM_take_106 : decode kM_take 106 = .ok (.iconst 0, 1) := by decide +kernel
theorem dM_take_107 : decode kM_take 107 = .ok (.istore_n 3, 1) := by decide +kernel
theorem dM_take_108 : decode kM_take 108 = .ok (.iload_n 3, 1) := by decide +kernel
theorem dM_take_109 : decode kM_take 109 = .ok (.ifCond .eq 7, 3) := by decide +kernel
theorem dM_take_112 : decode kM_take 112 = .ok (.iload_n 2, 1) := by decide +kernel
theorem dM_take_113 : decode kM_take 113 = .ok (.goto 4, 3) := by decide +kernel
theorem dM_take_116 : decode kM_take 116 = .ok (.iconst 0, 1) := by decide +kernel
theorem dM_take_117 : decode kM_take 117 = .ok (.ireturn, 1) := by decide +kernel
def wb_M_take_107 (θ : TH) (x2_107 : Int32) (z0_107 : Int32) (K : Int32 → VT → UT → Prop) (V : VT) (U : UT) : Prop := ((z0_107 = 0 → K (0 : Int32) V U) ∧ (¬ z0_107 = 0 → K x2_107 V U))
def wb_M_take_57 (θ : TH) (a0_57 : Nat) (z0_57 : Int32) (K : Int32 → VT → UT → Prop) (V : VT) (U : UT) : Prop := ((¬ z0_57 = (1 : Int32) → ((¬ z0_57 = (3 : Int32) → ((¬ z0_57 = (5 : Int32) → ((¬ z0_57 = (2 : Int32) → wb_M_take_107 θ z0_57 (0 : Int32) K V U) ∧ (z0_57 = (2 : Int32) → isO θ a0_57 12 ∧ wp_M_sound θ a0_57 V U (fun r_21 V_18 U_19 => wb_M_take_107 θ z0_57 r_21 K V_18 U_19)))) ∧ (z0_57 = (5 : Int32) → isO θ a0_57 12 ∧ wp_M_setup θ a0_57 V U (fun r_25 V_22 U_23 => wb_M_take_107 θ z0_57 r_25 K V_22 U_23)))) ∧ (z0_57 = (3 : Int32) → isO θ a0_57 12 ∧ wp_M_book θ a0_57 V U (fun r_29 V_26 U_27 => wb_M_take_107 θ z0_57 r_29 K V_26 U_27)))) ∧ (z0_57 = (1 : Int32) → isO θ a0_57 12 ∧ wp_M_format θ a0_57 V U (fun r_33 V_30 U_31 => wb_M_take_107 θ z0_57 r_33 K V_30 U_31)))
def wp_M_take (θ : TH) (a0 : Nat) (V : VT) (U : UT) (K : Int32 → VT → UT → Prop) : Prop := isO θ a0 12 ∧ ((¬ (V a0 34) = 0 → ∀ V_3 : VT, V_3 = up2 V a0 34 (0 : Int32) → ∀ V_4 : VT, V_4 = up2 V_3 a0 39 (0 : Int32) → ∀ V_5 : VT, V_5 = up2 V_4 a0 40 (0 : Int32) → wp_M_read θ a0 (1 : Int32) V_5 U (fun r_8 V_6 U_7 => (((V_6 a0 40) = 0 → ((¬ r_8 = 0 → wp_M_read θ a0 (7 : Int32) V_6 U_7 (fun r_13 V_11 U_12 => wb_M_take_57 θ a0 ((1 : Int32) + ((2 : Int32) * r_13)) K V_11 U_12)) ∧ (r_8 = 0 → wb_M_take_57 θ a0 (2 : Int32) K V_6 U_7))) ∧ (¬ (V_6 a0 40) = 0 → K (0 : Int32) V_6 U_7)))) ∧ ((V a0 34) = 0 → K (-1 : Int32) V U))
set_option maxRecDepth 100000 in
set_option maxHeartbeats 4000000 in
theorem c_M_take (l : Launch) (θ : TH) (a0 : Nat) (V : VT) (U : UT) (K : Int32 → VT → UT → Prop) (hw : wp_M_take θ a0 V U K) : CMi l yM_take kM_take 4 (some .int) rmM_take θ [.ref a0] V U K := by
  refine g_met nRM (by decide +kernel) rfl (Nat.le_of_ble_eq_true rfl) (fun p e s m args below meth c ls hC hr hlk hwo hl => ?_)
  have hx := hC.1
  have hb := hC.2.1
  have hS : Sx θ s s.heap [] := va_S.rf
  have hl : lv_has ls 4 [(0, .ref a0)] := hl
  have J107 : ∀ (x2_107 : Int32) (z0_107 : Int32) (V : VT) (U : UT) (H : Heap) (locs : List Loc) (ls : Array Slot), wb_M_take_107 θ x2_107 z0_107 K V U → wo θ V U H → Sx θ s H locs → lv_has ls 4 [(2, .int x2_107)] → W p l e rmM_take s m args below meth c H locs 0 0 (MQ below (QI θ K) args s 0 0 (aT θ)) (F0 m 107 ls [.int z0_107]) := by
    intro x2_107 z0_107 V U H locs ls hw hwo hS hl
    unfold wb_M_take_107 at hw
    refine lv_istore_n (i := 3) (lv' := [(3, .int z0_107), (2, .int x2_107)]) hx hb dM_take_107 rfl hl (by decide) rfl (fun ls hl => ?_)
    refine lv_iload_n hx hb dM_take_108 rfl (lv_at hl 0 rfl) ?_
    refine lv_if_eq (tgt := 116) hx hb dM_take_109 (by decide) (fun hc_34 => ?_) (fun hc_34 => ?_)
    · replace hw := hw.1 hc_34
      refine lv_iconst (v := 0) hx hb dM_take_116 (by decide) ?_
      exact g_iret hC hr hlk hw hwo hS dM_take_117
    · replace hw := hw.2 hc_34
      refine lv_iload_n hx hb dM_take_112 rfl (lv_at hl 1 rfl) ?_
      refine lv_goto (tgt := 117) hx hb dM_take_113 (by decide) ?_
      exact g_iret hC hr hlk hw hwo hS dM_take_117
  have J57 : ∀ (a0_57 : Nat) (z0_57 : Int32) (V : VT) (U : UT) (H : Heap) (locs : List Loc) (ls : Array Slot), wb_M_take_57 θ a0_57 z0_57 K V U → wo θ V U H → Sx θ s H locs → lv_has ls 4 [(0, .ref a0_57)] → W p l e rmM_take s m args below meth c H locs 0 0 (MQ below (QI θ K) args s 0 0 (aT θ)) (F0 m 57 ls [.int z0_57]) := by
    intro a0_57 z0_57 V U H locs ls hw hwo hS hl
    unfold wb_M_take_57 at hw
    refine lv_istore_n (i := 2) (lv' := [(2, .int z0_57), (0, .ref a0_57)]) hx hb dM_take_57 rfl hl (by decide) rfl (fun ls hl => ?_)
    refine lv_iload_n hx hb dM_take_58 rfl (lv_at hl 0 rfl) ?_
    refine lv_iconst (v := 1) hx hb dM_take_59 (by decide) ?_
    refine lv_icmp_ne (tgt := 70) hx hb dM_take_60 (by decide) (fun hc_14 => ?_) (fun hc_14 => ?_)
    · replace hw := hw.1 hc_14
      refine lv_iload_n hx hb dM_take_70 rfl (lv_at hl 0 rfl) ?_
      refine lv_iconst (v := 3) hx hb dM_take_71 (by decide) ?_
      refine lv_icmp_ne (tgt := 82) hx hb dM_take_72 (by decide) (fun hc_15 => ?_) (fun hc_15 => ?_)
      · replace hw := hw.1 hc_15
        refine lv_iload_n hx hb dM_take_82 rfl (lv_at hl 0 rfl) ?_
        refine lv_iconst (v := 5) hx hb dM_take_83 (by decide) ?_
        refine lv_icmp_ne (tgt := 94) hx hb dM_take_84 (by decide) (fun hc_16 => ?_) (fun hc_16 => ?_)
        · replace hw := hw.1 hc_16
          refine lv_iload_n hx hb dM_take_94 rfl (lv_at hl 0 rfl) ?_
          refine lv_iconst (v := 2) hx hb dM_take_95 (by decide) ?_
          refine lv_icmp_ne (tgt := 106) hx hb dM_take_96 (by decide) (fun hc_17 => ?_) (fun hc_17 => ?_)
          · replace hw := hw.1 hc_17
            refine lv_iconst (v := 0) hx hb dM_take_106 (by decide) ?_
            exact J107 _ _ _ _ _ _ _ hw hwo hS (lv_sub hl [0] rfl)
          · replace hw := hw.2 hc_17
            refine lv_aload_n hx hb dM_take_99 rfl (lv_at hl 1 rfl) ?_
            obtain ⟨ho_20, hw⟩ := hw
            refine g_Vi (rest := []) hC (c_M_sound l θ _ _ _ _ hw) mi_M_sound mlM_262 mv_M_sound ci_12 ho_20 hwo hS ⟨rfl, rfl⟩ ⟨by decide, by decide⟩ rfl hl.1 rfl (Nat.le_of_ble_eq_true rfl) dM_take_100 (fun r_21 V_18 U_19 hw H locs hwo hS => ?_)
            refine lv_goto (tgt := 107) hx hb dM_take_103 (by decide) ?_
            exact J107 _ _ _ _ _ _ _ hw hwo hS (lv_sub hl [0] rfl)
        · replace hw := hw.2 hc_16
          refine lv_aload_n hx hb dM_take_87 rfl (lv_at hl 1 rfl) ?_
          obtain ⟨ho_24, hw⟩ := hw
          refine g_Vi (rest := []) hC (c_M_setup l θ _ _ _ _ hw) mi_M_setup mlM_259 mv_M_setup ci_12 ho_24 hwo hS ⟨rfl, rfl⟩ ⟨by decide, by decide⟩ rfl hl.1 rfl (Nat.le_of_ble_eq_true rfl) dM_take_88 (fun r_25 V_22 U_23 hw H locs hwo hS => ?_)
          refine lv_goto (tgt := 107) hx hb dM_take_91 (by decide) ?_
          exact J107 _ _ _ _ _ _ _ hw hwo hS (lv_sub hl [0] rfl)
      · replace hw := hw.2 hc_15
        refine lv_aload_n hx hb dM_take_75 rfl (lv_at hl 1 rfl) ?_
        obtain ⟨ho_28, hw⟩ := hw
        refine g_Vi (rest := []) hC (c_M_book l θ _ _ _ _ hw) mi_M_book mlM_256 mv_M_book ci_12 ho_28 hwo hS ⟨rfl, rfl⟩ ⟨by decide, by decide⟩ rfl hl.1 rfl (Nat.le_of_ble_eq_true rfl) dM_take_76 (fun r_29 V_26 U_27 hw H locs hwo hS => ?_)
        refine lv_goto (tgt := 107) hx hb dM_take_79 (by decide) ?_
        exact J107 _ _ _ _ _ _ _ hw hwo hS (lv_sub hl [0] rfl)
    · replace hw := hw.2 hc_14
      refine lv_aload_n hx hb dM_take_63 rfl (lv_at hl 1 rfl) ?_
      obtain ⟨ho_32, hw⟩ := hw
      refine g_Vi (rest := []) hC (c_M_format l θ _ _ _ _ hw) mi_M_format mlM_252 mv_M_format ci_12 ho_32 hwo hS ⟨rfl, rfl⟩ ⟨by decide, by decide⟩ rfl hl.1 rfl (Nat.le_of_ble_eq_true rfl) dM_take_64 (fun r_33 V_30 U_31 hw H locs hwo hS => ?_)
      refine lv_goto (tgt := 107) hx hb dM_take_67 (by decide) ?_
      exact J107 _ _ _ _ _ _ _ hw hwo hS (lv_sub hl [0] rfl)
  unfold wp_M_take at hw
  refine lv_aload_n hx hb dM_take_0 rfl (lv_at hl 0 rfl) ?_
  obtain ⟨ho_1, hw⟩ := hw
  refine g_getI hC fkM_220 rfl hwo ho_1 dM_take_1 ?_
  refine lv_if_ne (tgt := 9) hx hb dM_take_4 (by decide) (fun hc_2 => ?_) (fun hc_2 => ?_)
  · replace hw := hw.1 hc_2
    refine lv_aload_n hx hb dM_take_9 rfl (lv_at hl 0 rfl) ?_
    refine lv_iconst (v := 0) hx hb dM_take_10 (by decide) ?_
    refine g_putZ hC fkM_220 rfl hwo hS ho_1 (Or.inl rfl) dM_take_11 (fun V_3 eV_3 H locs hwo hS => ?_)
    replace hw := hw V_3 eV_3
    refine lv_aload_n hx hb dM_take_14 rfl (lv_at hl 0 rfl) ?_
    refine lv_iconst (v := 0) hx hb dM_take_15 (by decide) ?_
    refine g_putI hC fkM_246 rfl hwo hS ho_1 dM_take_16 (fun V_4 eV_4 H locs hwo hS => ?_)
    replace hw := hw V_4 eV_4
    refine lv_aload_n hx hb dM_take_19 rfl (lv_at hl 0 rfl) ?_
    refine lv_iconst (v := 0) hx hb dM_take_20 (by decide) ?_
    refine g_putZ hC fkM_243 rfl hwo hS ho_1 (Or.inl rfl) dM_take_21 (fun V_5 eV_5 H locs hwo hS => ?_)
    replace hw := hw V_5 eV_5
    refine lv_aload_n hx hb dM_take_24 rfl (lv_at hl 0 rfl) ?_
    refine lv_iconst (v := 1) hx hb dM_take_25 (by decide) ?_
    refine g_Vi (rest := []) hC (c_M_read l θ _ _ _ _ _ hw) mi_M_read mlM_249 mv_M_read ci_12 ho_1 hwo hS ⟨rfl, rfl⟩ ⟨by decide, by decide⟩ rfl hl.1 rfl (Nat.le_of_ble_eq_true rfl) dM_take_26 (fun r_8 V_6 U_7 hw H locs hwo hS => ?_)
    refine lv_istore_n (i := 1) (lv' := [(1, .int r_8), (0, .ref a0)]) hx hb dM_take_29 rfl hl (by decide) rfl (fun ls hl => ?_)
    refine lv_aload_n hx hb dM_take_30 rfl (lv_at hl 1 rfl) ?_
    refine g_getI hC fkM_243 rfl hwo ho_1 dM_take_31 ?_
    refine lv_if_eq (tgt := 39) hx hb dM_take_34 (by decide) (fun hc_9 => ?_) (fun hc_9 => ?_)
    · replace hw := hw.1 hc_9
      refine lv_iload_n hx hb dM_take_39 rfl (lv_at hl 0 rfl) ?_
      refine lv_if_ne (tgt := 47) hx hb dM_take_40 (by decide) (fun hc_10 => ?_) (fun hc_10 => ?_)
      · replace hw := hw.1 hc_10
        refine lv_iconst (v := 1) hx hb dM_take_47 (by decide) ?_
        refine lv_iconst (v := 2) hx hb dM_take_48 (by decide) ?_
        refine lv_aload_n hx hb dM_take_49 rfl (lv_at hl 1 rfl) ?_
        refine lv_bipush (v := 7) hx hb dM_take_50 (by decide) ?_
        refine g_Vi (rest := [.int (2 : Int32), .int (1 : Int32)]) hC (c_M_read l θ _ _ _ _ _ hw) mi_M_read mlM_249 mv_M_read ci_12 ho_1 hwo hS ⟨rfl, rfl⟩ ⟨by decide, by decide⟩ rfl hl.1 rfl (Nat.le_of_ble_eq_true rfl) dM_take_52 (fun r_13 V_11 U_12 hw H locs hwo hS => ?_)
        refine lv_imul hx hb dM_take_55 ?_
        refine lv_iadd hx hb dM_take_56 ?_
        exact J57 _ _ _ _ _ _ _ hw hwo hS (lv_sub hl [1] rfl)
      · replace hw := hw.2 hc_10
        refine lv_iconst (v := 2) hx hb dM_take_43 (by decide) ?_
        refine lv_goto (tgt := 57) hx hb dM_take_44 (by decide) ?_
        exact J57 _ _ _ _ _ _ _ hw hwo hS (lv_sub hl [1] rfl)
    · replace hw := hw.2 hc_9
      refine lv_iconst (v := 0) hx hb dM_take_37 (by decide) ?_
      exact g_iret hC hr hlk hw hwo hS dM_take_38
  · replace hw := hw.2 hc_2
    refine lv_iconst (v := -1) hx hb dM_take_7 (by decide) ?_
    exact g_iret hC hr hlk hw hwo hS dM_take_8
theorem dM_entry_0 : decode kM_entry 0 = .ok (.iload_n 1, 1) := by decide +kernel
theorem dM_entry_1 : decode kM_entry 1 = .ok (.ifCond .lt 25, 3) := by decide +kernel
theorem dM_entry_4 : decode kM_entry 4 = .ok (.iload_n 1, 1) := by decide +kernel
theorem dM_entry_5 : decode kM_entry 5 = .ok (.aload_n 0, 1) := by decide +kernel
theorem dM_entry_6 : decode kM_entry 6 = .ok (.getfield 280, 3) := by decide +kernel
theorem dM_entry_9 : decode kM_entry 9 = .ok (.if_icmp .ge 17, 3) := by decide +kernel
theorem dM_entry_12 : decode kM_entry 12 = .ok (.iload_n 2, 1) := by decide +kernel
theorem dM_entry_13 : decode kM_entry 13 = .ok (.ifCond .lt 13, 3) := by decide +kernel
theorem dM_entry_16 : decode kM_entry 16 = .ok (.iload_n 2, 1) := by decide +kernel
theorem dM_entry_17 : decode kM_entry 17 = .ok (.aload_n 0, 1) := by decide +kernel
theorem dM_entry_18 : decode kM_entry 18 = .ok (.getfield 83, 3) := by decide +kernel
theorem dM_entry_21 : decode kM_entry 21 = .ok (.iload_n 1, 1) := by decide +kernel
theorem dM_entry_22 : decode kM_entry 22 = .ok (.iaload, 1) := by decide +kernel
theorem dM_entry_23 : decode kM_entry 23 = .ok (.if_icmp .lt 5, 3) := by decide +kernel
theorem dM_entry_26 : decode kM_entry 26 = .ok (.iconst (-1), 1) := by decide +kernel
theorem dM_entry_27 : decode kM_entry 27 = .ok (.ireturn, 1) := by decide +kernel
theorem dM_entry_28 : decode kM_entry 28 = .ok (.aload_n 0, 1) := by decide +kernel
theorem dM_entry_29 : decode kM_entry 29 = .ok (.getfield 86, 3) := by decide +kernel
theorem dM_entry_32 : decode kM_entry 32 = .ok (.bipush 8, 2) := by decide +kernel
theorem dM_entry_34 : decode kM_entry 34 = .ok (.iload_n 1, 1) := by decide +kernel
theorem dM_entry_35 : decode kM_entry 35 = .ok (.imul, 1) := by decide +kernel
theorem dM_entry_36 : decode kM_entry 36 = .ok (.iload_n 2, 1) := by decide +kernel
theorem dM_entry_37 : decode kM_entry 37 = .ok (.iadd, 1) := by decide +kernel
theorem dM_entry_38 : decode kM_entry 38 = .ok (.iaload, 1) := by decide +kernel
theorem dM_entry_39 : decode kM_entry 39 = .ok (.istore_n 3, 1) := by decide +kernel
theorem dM_entry_40 : decode kM_entry 40 = .ok (.iload_n 3, 1) := by decide +kernel
theorem dM_entry_41 : decode kM_entry 41 = .ok (.ifCond .ne 7, 3) := by decide +kernel
theorem dM_entry_44 : decode kM_entry 44 = .ok (.iconst 0, 1) := by decide +kernel
theorem dM_entry_45 : decode kM_entry 45 = .ok (.goto 18, 3) := by decide +kernel
theorem dM_entry_48 : decode kM_entry 48 = .ok (.iconst 1, 1) := by decide +kernel
theorem dM_entry_49 : decode kM_entry 49 = .ok (.iload_n 3, 1) := by decide +kernel
theorem dM_entry_50 : decode kM_entry 50 = .ok (.ishl, 1) := by decide +kernel
theorem dM_entry_51 : decode kM_entry 51 = .ok (.aload_n 0, 1) := by decide +kernel
theorem dM_entry_52 : decode kM_entry 52 = .ok (.getfield 89, 3) := by decide +kernel
theorem dM_entry_55 : decode kM_entry 55 = .ok (.bipush 8, 2) := by decide +kernel
theorem dM_entry_57 : decode kM_entry 57 = .ok (.iload_n 1, 1) := by decide +kernel
theorem dM_entry_58 : decode kM_entry 58 = .ok (.imul, 1) := by decide +kernel
theorem dM_entry_59 : decode kM_entry 59 = .ok (.iload_n 2, 1) := by decide +kernel
theorem dM_entry_60 : decode kM_entry 60 = .ok (.iadd, 1) := by decide +kernel
theorem dM_entry_61 : decode kM_entry 61 = .ok (.iaload, 1) := by decide +kernel
theorem dM_entry_62 : decode kM_entry 62 = .ok (.iadd, 1) := by decide +kernel
theorem dM_entry_63 : decode kM_entry 63 = .ok (.ireturn, 1) := by decide +kernel
def wp_M_entry (θ : TH) (a0 : Nat) (x1 : Int32) (x2 : Int32) (V : VT) (U : UT) (K : Int32 → VT → UT → Prop) : Prop := ((x1 < 0 → K (-1 : Int32) V U) ∧ (¬ x1 < 0 → isO θ a0 12 ∧ (((V a0 44) ≤ x1 → K (-1 : Int32) V U) ∧ (¬ (V a0 44) ≤ x1 → ((x2 < 0 → K (-1 : Int32) V U) ∧ (¬ x2 < 0 → (U a0 46) ≠ 0 ∧ ∃ n_6, isA θ (U a0 46) 0 n_6 ∧ vp_in x1 n_6 ∧ ((x2 < (V (U a0 46) x1.toNatClampNeg) → (U a0 47) ≠ 0 ∧ ∃ n_11, isA θ (U a0 47) 0 n_11 ∧ vp_in (((8 : Int32) * x1) + x2) n_11 ∧ ∀ y_14 : Int32, y_14 = (V (U a0 47) (((8 : Int32) * x1) + x2).toNatClampNeg) → ((¬ y_14 = 0 → (U a0 48) ≠ 0 ∧ ∃ n_17, isA θ (U a0 48) 0 n_17 ∧ vp_in (((8 : Int32) * x1) + x2) n_17 ∧ K (((1 : Int32) <<< (y_14 &&& 31)) + (V (U a0 48) (((8 : Int32) * x1) + x2).toNatClampNeg)) V U) ∧ (y_14 = 0 → K (0 : Int32) V U))) ∧ (¬ x2 < (V (U a0 46) x1.toNatClampNeg) → K (-1 : Int32) V U))))))))
set_option maxRecDepth 100000 in
set_option maxHeartbeats 4000000 in
theorem c_M_entry (l : Launch) (θ : TH) (a0 : Nat) (x1 : Int32) (x2 : Int32) (V : VT) (U : UT) (K : Int32 → VT → UT → Prop) (hw : wp_M_entry θ a0 x1 x2 V U K) : CMi l yM_entry kM_entry 4 (some .int) rmM_entry θ [.ref a0, .int x1, .int x2] V U K := by
  refine g_met nRM (by decide +kernel) rfl (Nat.le_of_ble_eq_true rfl) (fun p e s m args below meth c ls hC hr hlk hwo hl => ?_)
  have hx := hC.1
  have hb := hC.2.1
  have hS : Sx θ s s.heap [] := va_S.rf
  have hl : lv_has ls 4 [(0, .ref a0), (1, .int x1), (2, .int x2)] := hl
  unfold wp_M_entry at hw
  refine lv_iload_n hx hb dM_entry_0 rfl (lv_at hl 1 rfl) ?_
  refine lv_if_lt (tgt := 26) hx hb dM_entry_1 (by decide) (fun hc_1 => ?_) (fun hc_1 => ?_)
  · replace hw := hw.1 hc_1
    refine lv_iconst (v := -1) hx hb dM_entry_26 (by decide) ?_
    exact g_iret hC hr hlk hw hwo hS dM_entry_27
  · replace hw := hw.2 hc_1
    refine lv_iload_n hx hb dM_entry_4 rfl (lv_at hl 1 rfl) ?_
    refine lv_aload_n hx hb dM_entry_5 rfl (lv_at hl 0 rfl) ?_
    obtain ⟨ho_2, hw⟩ := hw
    refine g_getI hC fkM_280 rfl hwo ho_2 dM_entry_6 ?_
    refine lv_icmp_ge (tgt := 26) hx hb dM_entry_9 (by decide) (fun hc_3 => ?_) (fun hc_3 => ?_)
    · replace hw := hw.1 hc_3
      refine lv_iconst (v := -1) hx hb dM_entry_26 (by decide) ?_
      exact g_iret hC hr hlk hw hwo hS dM_entry_27
    · replace hw := hw.2 hc_3
      refine lv_iload_n hx hb dM_entry_12 rfl (lv_at hl 2 rfl) ?_
      refine lv_if_lt (tgt := 26) hx hb dM_entry_13 (by decide) (fun hc_4 => ?_) (fun hc_4 => ?_)
      · replace hw := hw.1 hc_4
        refine lv_iconst (v := -1) hx hb dM_entry_26 (by decide) ?_
        exact g_iret hC hr hlk hw hwo hS dM_entry_27
      · replace hw := hw.2 hc_4
        refine lv_iload_n hx hb dM_entry_16 rfl (lv_at hl 2 rfl) ?_
        refine lv_aload_n hx hb dM_entry_17 rfl (lv_at hl 0 rfl) ?_
        obtain ⟨hz_5, hw⟩ := hw
        refine g_getR hC fkM_83 rfl hwo ho_2 hz_5 dM_entry_18 ?_
        refine lv_iload_n hx hb dM_entry_21 rfl (lv_at hl 1 rfl) ?_
        obtain ⟨n_6, ha_7, hw⟩ := hw
        obtain ⟨hi_8, hw⟩ := hw
        refine g_iald hC hwo ha_7 hi_8 dM_entry_22 ?_
        refine lv_icmp_lt (tgt := 28) hx hb dM_entry_23 (by decide) (fun hc_9 => ?_) (fun hc_9 => ?_)
        · replace hw := hw.1 hc_9
          refine lv_aload_n hx hb dM_entry_28 rfl (lv_at hl 0 rfl) ?_
          obtain ⟨hz_10, hw⟩ := hw
          refine g_getR hC fkM_86 rfl hwo ho_2 hz_10 dM_entry_29 ?_
          refine lv_bipush (v := 8) hx hb dM_entry_32 (by decide) ?_
          refine lv_iload_n hx hb dM_entry_34 rfl (lv_at hl 1 rfl) ?_
          refine lv_imul hx hb dM_entry_35 ?_
          refine lv_iload_n hx hb dM_entry_36 rfl (lv_at hl 2 rfl) ?_
          refine lv_iadd hx hb dM_entry_37 ?_
          obtain ⟨n_11, ha_12, hw⟩ := hw
          obtain ⟨hi_13, hw⟩ := hw
          refine g_iald hC hwo ha_12 hi_13 dM_entry_38 ?_
          refine lv_topi (fun y_14 ey_14 => ?_)
          replace hw := hw y_14 ey_14
          refine lv_istore_n (i := 3) (lv' := [(3, .int y_14), (0, .ref a0), (1, .int x1), (2, .int x2)]) hx hb dM_entry_39 rfl hl (by decide) rfl (fun ls hl => ?_)
          refine lv_iload_n hx hb dM_entry_40 rfl (lv_at hl 0 rfl) ?_
          refine lv_if_ne (tgt := 48) hx hb dM_entry_41 (by decide) (fun hc_15 => ?_) (fun hc_15 => ?_)
          · replace hw := hw.1 hc_15
            refine lv_iconst (v := 1) hx hb dM_entry_48 (by decide) ?_
            refine lv_iload_n hx hb dM_entry_49 rfl (lv_at hl 0 rfl) ?_
            refine lv_ishl hx hb dM_entry_50 ?_
            refine lv_aload_n hx hb dM_entry_51 rfl (lv_at hl 1 rfl) ?_
            obtain ⟨hz_16, hw⟩ := hw
            refine g_getR hC fkM_89 rfl hwo ho_2 hz_16 dM_entry_52 ?_
            refine lv_bipush (v := 8) hx hb dM_entry_55 (by decide) ?_
            refine lv_iload_n hx hb dM_entry_57 rfl (lv_at hl 2 rfl) ?_
            refine lv_imul hx hb dM_entry_58 ?_
            refine lv_iload_n hx hb dM_entry_59 rfl (lv_at hl 3 rfl) ?_
            refine lv_iadd hx hb dM_entry_60 ?_
            obtain ⟨n_17, ha_18, hw⟩ := hw
            obtain ⟨hi_19, hw⟩ := hw
            refine g_iald hC hwo ha_18 hi_19 dM_entry_61 ?_
            refine lv_iadd hx hb dM_entry_62 ?_
            exact g_iret hC hr hlk hw hwo hS dM_entry_63
          · replace hw := hw.2 hc_15
            refine lv_iconst (v := 0) hx hb dM_entry_44 (by decide) ?_
            refine lv_goto (tgt := 63) hx hb dM_entry_45 (by decide) ?_
            exact g_iret hC hr hlk hw hwo hS dM_entry_63
        · replace hw := hw.2 hc_9
          refine lv_iconst (v := -1) hx hb dM_entry_26 (by decide) ?_
          exact g_iret hC hr hlk hw hwo hS dM_entry_27
theorem dM_block_0 : decode kM_block 0 = .ok (.aload_n 0, 1) := by decide +kernel
theorem dM_block_1 : decode kM_block 1 = .ok (.getfield 274, 3) := by decide +kernel
theorem dM_block_4 : decode kM_block 4 = .ok (.ifCond .ne 5, 3) := by decide +kernel
theorem dM_block_7 : decode kM_block 7 = .ok (.iconst (-1), 1) := by decide +kernel
theorem dM_block_8 : decode kM_block 8 = .ok (.ireturn, 1) := by decide +kernel
theorem dM_block_9 : decode kM_block 9 = .ok (.aload_n 0, 1) := by decide +kernel
theorem dM_block_10 : decode kM_block 10 = .ok (.getfield 315, 3) := by decide +kernel
theorem dM_block_13 : decode kM_block 13 = .ok (.ifCond .eq 7, 3) := by decide +kernel
theorem dM_block_16 : decode kM_block 16 = .ok (.iconst 1, 1) := by decide +kernel
theorem dM_block_17 : decode kM_block 17 = .ok (.goto 4, 3) := by decide +kernel
theorem dM_block_20 : decode kM_block 20 = .ok (.iconst 0, 1) := by decide +kernel
theorem dM_block_21 : decode kM_block 21 = .ok (.istore_n 1, 1) := by decide +kernel
theorem dM_block_22 : decode kM_block 22 = .ok (.iload_n 1, 1) := by decide +kernel
theorem dM_block_23 : decode kM_block 23 = .ok (.iconst 2, 1) := by decide +kernel
theorem dM_block_24 : decode kM_block 24 = .ok (.aload_n 0, 1) := by decide +kernel
theorem dM_block_25 : decode kM_block 25 = .ok (.getfield 318, 3) := by decide +kernel
theorem dM_block_28 : decode kM_block 28 = .ok (.imul, 1) := by decide +kernel
theorem dM_block_29 : decode kM_block 29 = .ok (.iadd, 1) := by decide +kernel
theorem dM_block_30 : decode kM_block 30 = .ok (.istore_n 1, 1) := by decide +kernel
theorem dM_block_31 : decode kM_block 31 = .ok (.iload_n 1, 1) := by decide +kernel
theorem dM_block_32 : decode kM_block 32 = .ok (.aload_n 0, 1) := by decide +kernel
theorem dM_block_33 : decode kM_block 33 = .ok (.getfield 108, 3) := by decide +kernel
theorem dM_block_36 : decode kM_block 36 = .ok (.iconst 0, 1) := by decide +kernel
theorem dM_block_37 : decode kM_block 37 = .ok (.baload, 1) := by decide +kernel
theorem dM_block_38 : decode kM_block 38 = .ok (.ifCond .eq 8, 3) := by decide +kernel
theorem dM_block_41 : decode kM_block 41 = .ok (.bipush 8, 2) := by decide +kernel
theorem dM_block_43 : decode kM_block 43 = .ok (.goto 4, 3) := by decide +kernel
theorem dM_block_46 : decode kM_block 46 = .ok (.iconst 0, 1) := by decide +kernel
theorem dM_block_47 : decode kM_block 47 = .ok (.iadd, 1) := by decide +kernel
theorem dM_block_48 : decode kM_block 48 = .ok (.istore_n 1, 1) := by decide +kernel
theorem dM_block_49 : decode kM_block 49 = .ok (.iload_n 1, 1) := by decide +kernel
theorem dM_block_50 : decode kM_block 50 = .ok (.aload_n 0, 1) := by decide +kernel
theorem dM_block_51 : decode kM_block 51 = .ok (.getfield 108, 3) := by decide +kernel
theorem dM_block_54 : decode kM_block 54 = .ok (.iconst 1, 1) := by decide +kernel
theorem dM_block_55 : decode kM_block 55 = .ok (.baload, 1) := by decide +kernel
theorem dM_block_56 : decode kM_block 56 = .ok (.ifCond .eq 8, 3) := by decide +kernel
theorem dM_block_59 : decode kM_block 59 = .ok (.bipush 16, 2) := by decide +kernel
theorem dM_block_61 : decode kM_block 61 = .ok (.goto 4, 3) := by decide +kernel
theorem dM_block_64 : decode kM_block 64 = .ok (.iconst 0, 1) := by decide +kernel
theorem dM_block_65 : decode kM_block 65 = .ok (.iadd, 1) := by decide +kernel
theorem dM_block_66 : decode kM_block 66 = .ok (.istore_n 1, 1) := by decide +kernel
theorem dM_block_67 : decode kM_block 67 = .ok (.iload_n 1, 1) := by decide +kernel
theorem dM_block_68 : decode kM_block 68 = .ok (.aload_n 0, 1) := by decide +kernel
theorem dM_block_69 : decode kM_block 69 = .ok (.getfield 327, 3) := by decide +kernel
theorem dM_block_72 : decode kM_block 72 = .ok (.ifCond .eq 8, 3) := by decide +kernel
theorem dM_block_75 : decode kM_block 75 = .ok (.bipush 32, 2) := by decide +kernel
theorem dM_block_77 : decode kM_block 77 = .ok (.goto 4, 3) := by decide +kernel
theorem dM_block_80 : decode kM_block 80 = .ok (.iconst 0, 1) := by decide +kernel
theorem dM_block_81 : decode kM_block 81 = .ok (.iadd, 1) := by decide +kernel
theorem dM_block_82 : decode kM_block 82 = .ok (.ireturn, 1) := by decide +kernel
def wb_M_block_65 (θ : TH) (a0_65 : Nat) (z0_65 : Int32) (z1_65 : Int32) (K : Int32 → VT → UT → Prop) (V : VT) (U : UT) : Prop := ∀ y_18 : Int32, y_18 = (z1_65 + z0_65) → isO θ a0_65 12 ∧ (((V a0_65 58) = 0 → K (y_18 + (0 : Int32)) V U) ∧ (¬ (V a0_65 58) = 0 → K (y_18 + (32 : Int32)) V U))
def wb_M_block_47 (θ : TH) (a0_47 : Nat) (z0_47 : Int32) (z1_47 : Int32) (K : Int32 → VT → UT → Prop) (V : VT) (U : UT) : Prop := ∀ y_11 : Int32, y_11 = (z1_47 + z0_47) → isO θ a0_47 12 ∧ (U a0_47 59) ≠ 0 ∧ ∃ n_14, isA θ (U a0_47 59) 1 n_14 ∧ vp_in (1 : Int32) n_14 ∧ (((V (U a0_47 59) (1 : Int32).toNatClampNeg) = 0 → wb_M_block_65 θ a0_47 (0 : Int32) y_11 K V U) ∧ (¬ (V (U a0_47 59) (1 : Int32).toNatClampNeg) = 0 → wb_M_block_65 θ a0_47 (16 : Int32) y_11 K V U))
def wb_M_block_21 (θ : TH) (a0_21 : Nat) (z0_21 : Int32) (K : Int32 → VT → UT → Prop) (V : VT) (U : UT) : Prop := isO θ a0_21 12 ∧ ∀ y_5 : Int32, y_5 = (z0_21 + ((2 : Int32) * (V a0_21 56))) → (U a0_21 59) ≠ 0 ∧ ∃ n_7, isA θ (U a0_21 59) 1 n_7 ∧ vp_in (0 : Int32) n_7 ∧ (((V (U a0_21 59) (0 : Int32).toNatClampNeg) = 0 → wb_M_block_47 θ a0_21 (0 : Int32) y_5 K V U) ∧ (¬ (V (U a0_21 59) (0 : Int32).toNatClampNeg) = 0 → wb_M_block_47 θ a0_21 (8 : Int32) y_5 K V U))
def wp_M_block (θ : TH) (a0 : Nat) (V : VT) (U : UT) (K : Int32 → VT → UT → Prop) : Prop := isO θ a0 12 ∧ ((¬ (V a0 54) = 0 → (((V a0 55) = 0 → wb_M_block_21 θ a0 (0 : Int32) K V U) ∧ (¬ (V a0 55) = 0 → wb_M_block_21 θ a0 (1 : Int32) K V U))) ∧ ((V a0 54) = 0 → K (-1 : Int32) V U))
set_option maxRecDepth 100000 in
set_option maxHeartbeats 4000000 in
theorem c_M_block (l : Launch) (θ : TH) (a0 : Nat) (V : VT) (U : UT) (K : Int32 → VT → UT → Prop) (hw : wp_M_block θ a0 V U K) : CMi l yM_block kM_block 2 (some .int) rmM_block θ [.ref a0] V U K := by
  refine g_met nRM (by decide +kernel) rfl (Nat.le_of_ble_eq_true rfl) (fun p e s m args below meth c ls hC hr hlk hwo hl => ?_)
  have hx := hC.1
  have hb := hC.2.1
  have hS : Sx θ s s.heap [] := va_S.rf
  have hl : lv_has ls 2 [(0, .ref a0)] := hl
  have J65 : ∀ (a0_65 : Nat) (z0_65 : Int32) (z1_65 : Int32) (V : VT) (U : UT) (H : Heap) (locs : List Loc) (ls : Array Slot), wb_M_block_65 θ a0_65 z0_65 z1_65 K V U → wo θ V U H → Sx θ s H locs → lv_has ls 2 [(0, .ref a0_65)] → W p l e rmM_block s m args below meth c H locs 0 0 (MQ below (QI θ K) args s 0 0 (aT θ)) (F0 m 65 ls [.int z0_65, .int z1_65]) := by
    intro a0_65 z0_65 z1_65 V U H locs ls hw hwo hS hl
    unfold wb_M_block_65 at hw
    refine lv_iadd hx hb dM_block_65 ?_
    refine lv_topi (fun y_18 ey_18 => ?_)
    replace hw := hw y_18 ey_18
    refine lv_istore_n (i := 1) (lv' := [(1, .int y_18), (0, .ref a0_65)]) hx hb dM_block_66 rfl hl (by decide) rfl (fun ls hl => ?_)
    refine lv_iload_n hx hb dM_block_67 rfl (lv_at hl 0 rfl) ?_
    refine lv_aload_n hx hb dM_block_68 rfl (lv_at hl 1 rfl) ?_
    obtain ⟨ho_19, hw⟩ := hw
    refine g_getI hC fkM_327 rfl hwo ho_19 dM_block_69 ?_
    refine lv_if_eq (tgt := 80) hx hb dM_block_72 (by decide) (fun hc_20 => ?_) (fun hc_20 => ?_)
    · replace hw := hw.1 hc_20
      refine lv_iconst (v := 0) hx hb dM_block_80 (by decide) ?_
      refine lv_iadd hx hb dM_block_81 ?_
      exact g_iret hC hr hlk hw hwo hS dM_block_82
    · replace hw := hw.2 hc_20
      refine lv_bipush (v := 32) hx hb dM_block_75 (by decide) ?_
      refine lv_goto (tgt := 81) hx hb dM_block_77 (by decide) ?_
      refine lv_iadd hx hb dM_block_81 ?_
      exact g_iret hC hr hlk hw hwo hS dM_block_82
  have J47 : ∀ (a0_47 : Nat) (z0_47 : Int32) (z1_47 : Int32) (V : VT) (U : UT) (H : Heap) (locs : List Loc) (ls : Array Slot), wb_M_block_47 θ a0_47 z0_47 z1_47 K V U → wo θ V U H → Sx θ s H locs → lv_has ls 2 [(0, .ref a0_47)] → W p l e rmM_block s m args below meth c H locs 0 0 (MQ below (QI θ K) args s 0 0 (aT θ)) (F0 m 47 ls [.int z0_47, .int z1_47]) := by
    intro a0_47 z0_47 z1_47 V U H locs ls hw hwo hS hl
    unfold wb_M_block_47 at hw
    refine lv_iadd hx hb dM_block_47 ?_
    refine lv_topi (fun y_11 ey_11 => ?_)
    replace hw := hw y_11 ey_11
    refine lv_istore_n (i := 1) (lv' := [(1, .int y_11), (0, .ref a0_47)]) hx hb dM_block_48 rfl hl (by decide) rfl (fun ls hl => ?_)
    refine lv_iload_n hx hb dM_block_49 rfl (lv_at hl 0 rfl) ?_
    refine lv_aload_n hx hb dM_block_50 rfl (lv_at hl 1 rfl) ?_
    obtain ⟨ho_12, hw⟩ := hw
    obtain ⟨hz_13, hw⟩ := hw
    refine g_getR hC fkM_108 rfl hwo ho_12 hz_13 dM_block_51 ?_
    refine lv_iconst (v := 1) hx hb dM_block_54 (by decide) ?_
    obtain ⟨n_14, ha_15, hw⟩ := hw
    obtain ⟨hi_16, hw⟩ := hw
    refine g_zald hC hwo ha_15 hi_16 dM_block_55 ?_
    refine lv_if_eq (tgt := 64) hx hb dM_block_56 (by decide) (fun hc_17 => ?_) (fun hc_17 => ?_)
    · replace hw := hw.1 hc_17
      refine lv_iconst (v := 0) hx hb dM_block_64 (by decide) ?_
      exact J65 _ _ _ _ _ _ _ _ hw hwo hS (lv_sub hl [1] rfl)
    · replace hw := hw.2 hc_17
      refine lv_bipush (v := 16) hx hb dM_block_59 (by decide) ?_
      refine lv_goto (tgt := 65) hx hb dM_block_61 (by decide) ?_
      exact J65 _ _ _ _ _ _ _ _ hw hwo hS (lv_sub hl [1] rfl)
  have J21 : ∀ (a0_21 : Nat) (z0_21 : Int32) (V : VT) (U : UT) (H : Heap) (locs : List Loc) (ls : Array Slot), wb_M_block_21 θ a0_21 z0_21 K V U → wo θ V U H → Sx θ s H locs → lv_has ls 2 [(0, .ref a0_21)] → W p l e rmM_block s m args below meth c H locs 0 0 (MQ below (QI θ K) args s 0 0 (aT θ)) (F0 m 21 ls [.int z0_21]) := by
    intro a0_21 z0_21 V U H locs ls hw hwo hS hl
    unfold wb_M_block_21 at hw
    refine lv_istore_n (i := 1) (lv' := [(1, .int z0_21), (0, .ref a0_21)]) hx hb dM_block_21 rfl hl (by decide) rfl (fun ls hl => ?_)
    refine lv_iload_n hx hb dM_block_22 rfl (lv_at hl 0 rfl) ?_
    refine lv_iconst (v := 2) hx hb dM_block_23 (by decide) ?_
    refine lv_aload_n hx hb dM_block_24 rfl (lv_at hl 1 rfl) ?_
    obtain ⟨ho_4, hw⟩ := hw
    refine g_getI hC fkM_318 rfl hwo ho_4 dM_block_25 ?_
    refine lv_imul hx hb dM_block_28 ?_
    refine lv_iadd hx hb dM_block_29 ?_
    refine lv_topi (fun y_5 ey_5 => ?_)
    replace hw := hw y_5 ey_5
    refine lv_istore_n (i := 1) (lv' := [(1, .int y_5), (0, .ref a0_21)]) hx hb dM_block_30 rfl hl (by decide) rfl (fun ls hl => ?_)
    refine lv_iload_n hx hb dM_block_31 rfl (lv_at hl 0 rfl) ?_
    refine lv_aload_n hx hb dM_block_32 rfl (lv_at hl 1 rfl) ?_
    obtain ⟨hz_6, hw⟩ := hw
    refine g_getR hC fkM_108 rfl hwo ho_4 hz_6 dM_block_33 ?_
    refine lv_iconst (v := 0) hx hb dM_block_36 (by decide) ?_
    obtain ⟨n_7, ha_8, hw⟩ := hw
    obtain ⟨hi_9, hw⟩ := hw
    refine g_zald hC hwo ha_8 hi_9 dM_block_37 ?_
    refine lv_if_eq (tgt := 46) hx hb dM_block_38 (by decide) (fun hc_10 => ?_) (fun hc_10 => ?_)
    · replace hw := hw.1 hc_10
      refine lv_iconst (v := 0) hx hb dM_block_46 (by decide) ?_
      exact J47 _ _ _ _ _ _ _ _ hw hwo hS (lv_sub hl [1] rfl)
    · replace hw := hw.2 hc_10
      refine lv_bipush (v := 8) hx hb dM_block_41 (by decide) ?_
      refine lv_goto (tgt := 47) hx hb dM_block_43 (by decide) ?_
      exact J47 _ _ _ _ _ _ _ _ hw hwo hS (lv_sub hl [1] rfl)
  unfold wp_M_block at hw
  refine lv_aload_n hx hb dM_block_0 rfl (lv_at hl 0 rfl) ?_
  obtain ⟨ho_1, hw⟩ := hw
  refine g_getI hC fkM_274 rfl hwo ho_1 dM_block_1 ?_
  refine lv_if_ne (tgt := 9) hx hb dM_block_4 (by decide) (fun hc_2 => ?_) (fun hc_2 => ?_)
  · replace hw := hw.1 hc_2
    refine lv_aload_n hx hb dM_block_9 rfl (lv_at hl 0 rfl) ?_
    refine g_getI hC fkM_315 rfl hwo ho_1 dM_block_10 ?_
    refine lv_if_eq (tgt := 20) hx hb dM_block_13 (by decide) (fun hc_3 => ?_) (fun hc_3 => ?_)
    · replace hw := hw.1 hc_3
      refine lv_iconst (v := 0) hx hb dM_block_20 (by decide) ?_
      exact J21 _ _ _ _ _ _ _ hw hwo hS (lv_sub hl [0] rfl)
    · replace hw := hw.2 hc_3
      refine lv_iconst (v := 1) hx hb dM_block_16 (by decide) ?_
      refine lv_goto (tgt := 21) hx hb dM_block_17 (by decide) ?_
      exact J21 _ _ _ _ _ _ _ hw hwo hS (lv_sub hl [0] rfl)
  · replace hw := hw.2 hc_2
    refine lv_iconst (v := -1) hx hb dM_block_7 (by decide) ?_
    exact g_iret hC hr hlk hw hwo hS dM_block_8
theorem dM_noPlace_0 : decode kM_noPlace 0 = .ok (.aload_n 0, 1) := by decide +kernel
theorem dM_noPlace_1 : decode kM_noPlace 1 = .ok (.getfield 274, 3) := by decide +kernel
theorem dM_noPlace_4 : decode kM_noPlace 4 = .ok (.ifCond .eq 29, 3) := by decide +kernel
theorem dM_noPlace_7 : decode kM_noPlace 7 = .ok (.iload_n 1, 1) := by decide +kernel
theorem dM_noPlace_8 : decode kM_noPlace 8 = .ok (.ifCond .lt 25, 3) := by decide +kernel
theorem dM_noPlace_11 : decode kM_noPlace 11 = .ok (.iload_n 1, 1) := by decide +kernel
theorem dM_noPlace_12 : decode kM_noPlace 12 = .ok (.aload_n 0, 1) := by decide +kernel
theorem dM_noPlace_13 : decode kM_noPlace 13 = .ok (.getfield 265, 3) := by decide +kernel
theorem dM_noPlace_16 : decode kM_noPlace 16 = .ok (.if_icmp .ge 17, 3) := by decide +kernel
theorem dM_noPlace_19 : decode kM_noPlace 19 = .ok (.iload_n 2, 1) := by decide +kernel
theorem dM_noPlace_20 : decode kM_noPlace 20 = .ok (.ifCond .lt 13, 3) := by decide +kernel
theorem dM_noPlace_23 : decode kM_noPlace 23 = .ok (.iload_n 2, 1) := by decide +kernel
theorem dM_noPlace_24 : decode kM_noPlace 24 = .ok (.aload_n 0, 1) := by decide +kernel
theorem dM_noPlace_25 : decode kM_noPlace 25 = .ok (.getfield 312, 3) := by decide +kernel
theorem dM_noPlace_28 : decode kM_noPlace 28 = .ok (.iconst 2, 1) := by decide +kernel
theorem dM_noPlace_29 : decode kM_noPlace 29 = .ok (.idiv, 1) := by decide +kernel
theorem dM_noPlace_30 : decode kM_noPlace 30 = .ok (.if_icmp .lt 7, 3) := by decide +kernel
theorem dM_noPlace_33 : decode kM_noPlace 33 = .ok (.iconst 1, 1) := by decide +kernel
theorem dM_noPlace_34 : decode kM_noPlace 34 = .ok (.goto 4, 3) := by decide +kernel
theorem dM_noPlace_37 : decode kM_noPlace 37 = .ok (.iconst 0, 1) := by decide +kernel
theorem dM_noPlace_38 : decode kM_noPlace 38 = .ok (.ireturn, 1) := by decide +kernel
def wb_M_noPlace_33 (θ : TH) (K : Int32 → VT → UT → Prop) (V : VT) (U : UT) : Prop := K (1 : Int32) V U
def wp_M_noPlace (θ : TH) (a0 : Nat) (x1 : Int32) (x2 : Int32) (V : VT) (U : UT) (K : Int32 → VT → UT → Prop) : Prop := isO θ a0 12 ∧ (((V a0 54) = 0 → wb_M_noPlace_33 θ K V U) ∧ (¬ (V a0 54) = 0 → ((x1 < 0 → wb_M_noPlace_33 θ K V U) ∧ (¬ x1 < 0 → (((V a0 41) ≤ x1 → wb_M_noPlace_33 θ K V U) ∧ (¬ (V a0 41) ≤ x1 → ((x2 < 0 → wb_M_noPlace_33 θ K V U) ∧ (¬ x2 < 0 → ¬ (2 : Int32) = 0 ∧ ((x2 < ((V a0 57) / (2 : Int32)) → K (0 : Int32) V U) ∧ (¬ x2 < ((V a0 57) / (2 : Int32)) → wb_M_noPlace_33 θ K V U))))))))))
set_option maxRecDepth 100000 in
set_option maxHeartbeats 4000000 in
theorem c_M_noPlace (l : Launch) (θ : TH) (a0 : Nat) (x1 : Int32) (x2 : Int32) (V : VT) (U : UT) (K : Int32 → VT → UT → Prop) (hw : wp_M_noPlace θ a0 x1 x2 V U K) : CMi l yM_noPlace kM_noPlace 3 (some .boolean) rmM_noPlace θ [.ref a0, .int x1, .int x2] V U K := by
  refine g_met nRM (by decide +kernel) rfl (Nat.le_of_ble_eq_true rfl) (fun p e s m args below meth c ls hC hr hlk hwo hl => ?_)
  have hx := hC.1
  have hb := hC.2.1
  have hS : Sx θ s s.heap [] := va_S.rf
  have hl : lv_has ls 3 [(0, .ref a0), (1, .int x1), (2, .int x2)] := hl
  have J33 : ∀ (V : VT) (U : UT) (H : Heap) (locs : List Loc) (ls : Array Slot), wb_M_noPlace_33 θ K V U → wo θ V U H → Sx θ s H locs → lv_has ls 3 [] → W p l e rmM_noPlace s m args below meth c H locs 0 0 (MQ below (QI θ K) args s 0 0 (aT θ)) (F0 m 33 ls []) := by
    intro V U H locs ls hw hwo hS hl
    unfold wb_M_noPlace_33 at hw
    refine lv_iconst (v := 1) hx hb dM_noPlace_33 (by decide) ?_
    refine lv_goto (tgt := 38) hx hb dM_noPlace_34 (by decide) ?_
    exact g_zret hC hr hlk (Or.inr rfl) hw hwo hS dM_noPlace_38
  unfold wp_M_noPlace at hw
  refine lv_aload_n hx hb dM_noPlace_0 rfl (lv_at hl 0 rfl) ?_
  obtain ⟨ho_1, hw⟩ := hw
  refine g_getI hC fkM_274 rfl hwo ho_1 dM_noPlace_1 ?_
  refine lv_if_eq (tgt := 33) hx hb dM_noPlace_4 (by decide) (fun hc_2 => ?_) (fun hc_2 => ?_)
  · replace hw := hw.1 hc_2
    exact J33 _ _ _ _ _ hw hwo hS (lv_sub hl [] rfl)
  · replace hw := hw.2 hc_2
    refine lv_iload_n hx hb dM_noPlace_7 rfl (lv_at hl 1 rfl) ?_
    refine lv_if_lt (tgt := 33) hx hb dM_noPlace_8 (by decide) (fun hc_3 => ?_) (fun hc_3 => ?_)
    · replace hw := hw.1 hc_3
      exact J33 _ _ _ _ _ hw hwo hS (lv_sub hl [] rfl)
    · replace hw := hw.2 hc_3
      refine lv_iload_n hx hb dM_noPlace_11 rfl (lv_at hl 1 rfl) ?_
      refine lv_aload_n hx hb dM_noPlace_12 rfl (lv_at hl 0 rfl) ?_
      refine g_getI hC fkM_265 rfl hwo ho_1 dM_noPlace_13 ?_
      refine lv_icmp_ge (tgt := 33) hx hb dM_noPlace_16 (by decide) (fun hc_4 => ?_) (fun hc_4 => ?_)
      · replace hw := hw.1 hc_4
        exact J33 _ _ _ _ _ hw hwo hS (lv_sub hl [] rfl)
      · replace hw := hw.2 hc_4
        refine lv_iload_n hx hb dM_noPlace_19 rfl (lv_at hl 2 rfl) ?_
        refine lv_if_lt (tgt := 33) hx hb dM_noPlace_20 (by decide) (fun hc_5 => ?_) (fun hc_5 => ?_)
        · replace hw := hw.1 hc_5
          exact J33 _ _ _ _ _ hw hwo hS (lv_sub hl [] rfl)
        · replace hw := hw.2 hc_5
          refine lv_iload_n hx hb dM_noPlace_23 rfl (lv_at hl 2 rfl) ?_
          refine lv_aload_n hx hb dM_noPlace_24 rfl (lv_at hl 0 rfl) ?_
          refine g_getI hC fkM_312 rfl hwo ho_1 dM_noPlace_25 ?_
          refine lv_iconst (v := 2) hx hb dM_noPlace_28 (by decide) ?_
          obtain ⟨hd_6, hw⟩ := hw
          refine lv_idiv hx hb dM_noPlace_29 hd_6 ?_
          refine lv_icmp_lt (tgt := 37) hx hb dM_noPlace_30 (by decide) (fun hc_7 => ?_) (fun hc_7 => ?_)
          · replace hw := hw.1 hc_7
            refine lv_iconst (v := 0) hx hb dM_noPlace_37 (by decide) ?_
            exact g_zret hC hr hlk (Or.inl rfl) hw hwo hS dM_noPlace_38
          · replace hw := hw.2 hc_7
            exact J33 _ _ _ _ _ hw hwo hS (lv_sub hl [] rfl)
theorem dM_curve_0 : decode kM_curve 0 = .ok (.aload_n 0, 1) := by decide +kernel
theorem dM_curve_1 : decode kM_curve 1 = .ok (.iload_n 1, 1) := by decide +kernel
theorem dM_curve_2 : decode kM_curve 2 = .ok (.iload_n 2, 1) := by decide +kernel
theorem dM_curve_3 : decode kM_curve 3 = .ok (.invokevirtual 376, 3) := by decide +kernel
theorem dM_curve_6 : decode kM_curve 6 = .ok (.ifCond .eq 7, 3) := by decide +kernel
theorem dM_curve_9 : decode kM_curve 9 = .ok (.iconst (-1), 1) := by decide +kernel
theorem dM_curve_10 : decode kM_curve 10 = .ok (.goto 14, 3) := by decide +kernel
theorem dM_curve_13 : decode kM_curve 13 = .ok (.aload_n 0, 1) := by decide +kernel
theorem dM_curve_14 : decode kM_curve 14 = .ok (.getfield 111, 3) := by decide +kernel
theorem dM_curve_17 : decode kM_curve 17 = .ok (.bipush 32, 2) := by decide +kernel
theorem dM_curve_19 : decode kM_curve 19 = .ok (.iload_n 1, 1) := by decide +kernel
theorem dM_curve_20 : decode kM_curve 20 = .ok (.imul, 1) := by decide +kernel
theorem dM_curve_21 : decode kM_curve 21 = .ok (.iload_n 2, 1) := by decide +kernel
theorem dM_curve_22 : decode kM_curve 22 = .ok (.iadd, 1) := by decide +kernel
theorem dM_curve_23 : decode kM_curve 23 = .ok (.iaload, 1) := by decide +kernel
theorem dM_curve_24 : decode kM_curve 24 = .ok (.ireturn, 1) := by decide +kernel
def wp_M_curve (θ : TH) (a0 : Nat) (x1 : Int32) (x2 : Int32) (V : VT) (U : UT) (K : Int32 → VT → UT → Prop) : Prop := isO θ a0 12 ∧ wp_M_noPlace θ a0 x1 x2 V U (fun r_4 V_1 U_2 => ((r_4 = 0 → (U_2 a0 60) ≠ 0 ∧ ∃ n_7, isA θ (U_2 a0 60) 0 n_7 ∧ vp_in (((32 : Int32) * x1) + x2) n_7 ∧ K (V_1 (U_2 a0 60) (((32 : Int32) * x1) + x2).toNatClampNeg) V_1 U_2) ∧ (¬ r_4 = 0 → K (-1 : Int32) V_1 U_2)))
set_option maxRecDepth 100000 in
set_option maxHeartbeats 4000000 in
theorem c_M_curve (l : Launch) (θ : TH) (a0 : Nat) (x1 : Int32) (x2 : Int32) (V : VT) (U : UT) (K : Int32 → VT → UT → Prop) (hw : wp_M_curve θ a0 x1 x2 V U K) : CMi l yM_curve kM_curve 3 (some .int) rmM_curve θ [.ref a0, .int x1, .int x2] V U K := by
  refine g_met nRM (by decide +kernel) rfl (Nat.le_of_ble_eq_true rfl) (fun p e s m args below meth c ls hC hr hlk hwo hl => ?_)
  have hx := hC.1
  have hb := hC.2.1
  have hS : Sx θ s s.heap [] := va_S.rf
  have hl : lv_has ls 3 [(0, .ref a0), (1, .int x1), (2, .int x2)] := hl
  unfold wp_M_curve at hw
  refine lv_aload_n hx hb dM_curve_0 rfl (lv_at hl 0 rfl) ?_
  refine lv_iload_n hx hb dM_curve_1 rfl (lv_at hl 1 rfl) ?_
  refine lv_iload_n hx hb dM_curve_2 rfl (lv_at hl 2 rfl) ?_
  obtain ⟨ho_3, hw⟩ := hw
  refine g_Vi (rest := []) hC (c_M_noPlace l θ _ _ _ _ _ _ hw) mi_M_noPlace mlM_376 mv_M_noPlace ci_12 ho_3 hwo hS ⟨rfl, rfl⟩ ⟨by decide, by decide⟩ rfl hl.1 rfl (Nat.le_of_ble_eq_true rfl) dM_curve_3 (fun r_4 V_1 U_2 hw H locs hwo hS => ?_)
  refine lv_if_eq (tgt := 13) hx hb dM_curve_6 (by decide) (fun hc_5 => ?_) (fun hc_5 => ?_)
  · replace hw := hw.1 hc_5
    refine lv_aload_n hx hb dM_curve_13 rfl (lv_at hl 0 rfl) ?_
    obtain ⟨hz_6, hw⟩ := hw
    refine g_getR hC fkM_111 rfl hwo ho_3 hz_6 dM_curve_14 ?_
    refine lv_bipush (v := 32) hx hb dM_curve_17 (by decide) ?_
    refine lv_iload_n hx hb dM_curve_19 rfl (lv_at hl 1 rfl) ?_
    refine lv_imul hx hb dM_curve_20 ?_
    refine lv_iload_n hx hb dM_curve_21 rfl (lv_at hl 2 rfl) ?_
    refine lv_iadd hx hb dM_curve_22 ?_
    obtain ⟨n_7, ha_8, hw⟩ := hw
    obtain ⟨hi_9, hw⟩ := hw
    refine g_iald hC hwo ha_8 hi_9 dM_curve_23 ?_
    exact g_iret hC hr hlk hw hwo hS dM_curve_24
  · replace hw := hw.2 hc_5
    refine lv_iconst (v := -1) hx hb dM_curve_9 (by decide) ?_
    refine lv_goto (tgt := 24) hx hb dM_curve_10 (by decide) ?_
    exact g_iret hC hr hlk hw hwo hS dM_curve_24
