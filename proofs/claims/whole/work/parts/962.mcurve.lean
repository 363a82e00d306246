-- the plan of the curves is read, the reference
def GF (x : Int32) (P : Prop) : Prop := (x = 1 ∧ P) ∨ (x = 0 ∧ ¬ P)
theorem GF.congr {x : Int32} {P Q : Prop} (h : GF x P) (e : P ↔ Q) : GF x Q := by
  rcases h with ⟨a, b⟩ | ⟨a, b⟩
  · exact Or.inl ⟨a, e.1 b⟩
  · exact Or.inr ⟨a, fun q => b (e.2 q)⟩
theorem mst_le {a n : Nat} (ha : a < 8) (hn : n < 8) : nI a ≤ nO (sbO n) ↔ a + 1 ≤ n := by
  unfold sbO
  by_cases h : n = 0
  · rw [if_pos h]
    constructor
    · intro q
      have : a = 0 ∨ a = 1 ∨ a = 2 ∨ a = 3 ∨ a = 4 ∨ a = 5 ∨ a = 6 ∨ a = 7 := by omega
      exact absurd q (by rcases this with rfl | rfl | rfl | rfl | rfl | rfl | rfl | rfl <;> decide)
    · intro q; omega
  · rw [if_neg h]
    show nI a ≤ nI (n - 1) ↔ _
    rw [nI_leI (by omega) (by omega)]; omega
theorem mst_lt {q n : Nat} (hq : q < 8) (hn : n < 8) : nO (sbO n) < nI q ↔ n ≤ q := by
  unfold sbO
  by_cases h : n = 0
  · rw [if_pos h]
    constructor
    · intro _; omega
    · intro _
      have : q = 0 ∨ q = 1 ∨ q = 2 ∨ q = 3 ∨ q = 4 ∨ q = 5 ∨ q = 6 ∨ q = 7 := by omega
      rcases this with rfl | rfl | rfl | rfl | rfl | rfl | rfl | rfl <;> decide
  · rw [if_neg h]
    show nI (n - 1) < nI q ↔ _
    rw [nI_ltI (by omega) (by omega)]; omega
section MCURVE
variable {θ : TH} {V : VT} {U : UT} {sw : Bool} {p : PK} {s u : RS} {B la : Nat}
def m3W (θ : TH) (V : VT) (la : Nat) (p : PK) (u : RS) (q : Nat) : VT := up2 (up2 (up2 V (tb θ + 157) (la + 5 + q) (nI (kz p u))) (tb θ + 157) (la + 7 + q) (bZ (ksp p u))) (tb θ + 157) (la + 9 + q) (if ksp p u = true then nI (kms p u) else 0)
def m4W (θ : TH) (V : VT) (la : Nat) (p : PK) (u : RS) (q : Nat) : VT := up2 (m3W θ V la p u q) (tb θ + 157) (la + 11 + 2 * q) (nO (ksb p u 0))
def m5W (θ : TH) (V : VT) (la : Nat) (p : PK) (u : RS) (q : Nat) : VT := if ksp p u = true then up2 (m4W θ V la p u q) (tb θ + 157) (la + 11 + 2 * q + 1) (nO (ksb p u 1)) else m4W θ V la p u q
theorem m5W_ne {q x : Nat} (h : x ≠ tb θ + 157) : m5W θ V la p u q x = V x := by
  unfold m5W m4W m3W
  split
  · rw [up2_ne h, up2_ne h, up2_ne h, up2_ne h, up2_ne h]
  · rw [up2_ne h, up2_ne h, up2_ne h, up2_ne h]
theorem m5W_o {q j : Nat} (h5 : j ≠ la + 5 + q) (h7 : j ≠ la + 7 + q) (h9 : j ≠ la + 9 + q) (h11 : j ≠ la + 11 + 2 * q) (h12 : j ≠ la + 11 + 2 * q + 1) : m5W θ V la p u q (tb θ + 157) j = V (tb θ + 157) j := by
  unfold m5W m4W m3W
  split
  · rw [up2_ab h12, up2_ab h11, up2_ab h9, up2_ab h7, up2_ab h5]
  · rw [up2_ab h11, up2_ab h9, up2_ab h7, up2_ab h5]
theorem m5W_q {q : Nat} (hq : q < 2) : m5W θ V la p u q (tb θ + 157) (la + 5 + q) = nI (kz p u) ∧ m5W θ V la p u q (tb θ + 157) (la + 7 + q) = bZ (ksp p u) ∧ (ksp p u = true → m5W θ V la p u q (tb θ + 157) (la + 9 + q) = nI (kms p u)) ∧ m5W θ V la p u q (tb θ + 157) (la + 11 + 2 * q) = nO (ksb p u 0) ∧ (ksp p u = true → m5W θ V la p u q (tb θ + 157) (la + 11 + 2 * q + 1) = nO (ksb p u 1)) := by
  have e : ∀ j, j ≠ la + 11 + 2 * q + 1 → m5W θ V la p u q (tb θ + 157) j = m4W θ V la p u q (tb θ + 157) j := by
    intro j hj
    unfold m5W
    split
    · rw [up2_ab hj]
    · rfl
  refine ⟨?_, ?_, fun hs => ?_, ?_, fun hs => ?_⟩
  · rw [e _ (by omega)]; unfold m4W m3W; rw [up2_ab (by omega), up2_ab (by omega), up2_ab (by omega), up2_aa]
  · rw [e _ (by omega)]; unfold m4W m3W; rw [up2_ab (by omega), up2_ab (by omega), up2_aa]
  · rw [e _ (by omega)]; unfold m4W m3W; rw [up2_ab (by omega), up2_aa, if_pos hs]
  · rw [e _ (by omega)]; unfold m4W; rw [up2_aa]
  · unfold m5W; rw [if_pos hs, up2_aa]
theorem m_class {K : Int32 → VT → UT → Prop} {kb : Int32 → Int32 → VT → UT → Prop} {P : Prop} {x3 x4 : Int32} (hθ : OKt θ) (hU : US θ sw U) (hla : la ≤ 48) (hp : MP θ V p) (hB : B ≤ 4) (h44 : V (tb θ + 126) 44 = nI B) (hu : u.1 ≤ 8 * p.L) {q : Nat} (hq : q < 2) (h3 : ¬ x3 < nI q) (h4 : GF x4 P) (h : ∀ x, GF x (P ∧ kOK p B u) → kb x (nI (q + 1)) (mS θ (m5W θ V la p u q) (ku5 p u)) U) : bl_M_curvePart_86 θ (tb θ + 126) (nI la) x3 K kb x4 (nI q) (mS θ V u) U := by
  have i5 : nI la + (5 : Int32) = nI (la + 5) := nI_add la 5
  have i7 : nI la + (7 : Int32) = nI (la + 7) := nI_add la 7
  have i9 : nI la + (9 : Int32) = nI (la + 9) := nI_add la 9
  have i11 : nI la + (11 : Int32) = nI (la + 11) := nI_add la 11
  have i2 : (2 : Int32) * nI q = nI (2 * q) := pk_mul 2 q
  have e44 : ∀ X t, X (tb θ + 126) 44 = nI B → mS θ X t (tb θ + 126) 44 = nI B := fun X t hX => by rw [mS_j (by decide) (by decide)]; exact hX
  unfold bl_M_curvePart_86
  simp only [UM hU, IM hθ, true_and, exists_eq_left, i5, i7, nI_add]
  refine br_f h3 ⟨by omega, m_read hθ hU hp hu (k := 2) (by decide) ⟨vp_in_nI (by omega) (by decide), fun V46 h46 => ?_⟩⟩
  rw [nI_1, nI_clamp (show la + 5 + q < 2 ^ 31 by omega), mS_up (by omega)] at h46
  subst h46
  simp only [UM hU, IM hθ, true_and, exists_eq_left]
  have hp1 : MP θ (up2 V (tb θ + 157) (la + 5 + q) (nI (kz p u))) p := hp.eq (by rw [up2_ne (by omega)]) (up2_ne (by omega))
  refine ⟨by omega, m_read hθ hU hp1 (rdS_ok 2 hu) (k := 1) (by decide) ?_⟩
  have ez : nI (rdV p 1 (rdS p 2 u)) = bZ (ksp p u) := by
    unfold ksp spB
    rcases rdV1 p (rdS p 2 u) with z | z <;> rw [z] <;> rfl
  rw [ez]
  refine ⟨vp_in_nI (by omega) (by decide), fun V54 h54 => ?_⟩
  rw [nI_clamp (show la + 7 + q < 2 ^ 31 by omega), mS_up (by omega)] at h54
  subst h54
  simp only [UM hU, IM hθ, true_and, exists_eq_left]
  rw [nI_clamp (show la + 7 + q < 2 ^ 31 by omega), mS_ne (show tb θ + 157 ≠ tb θ + 126 by omega), up2_aa]
  have hp2 : MP θ (up2 (up2 V (tb θ + 157) (la + 5 + q) (nI (kz p u))) (tb θ + 157) (la + 7 + q) (bZ (ksp p u))) p := hp1.eq (by rw [up2_ne (by omega)]) (up2_ne (by omega))
  have hp3 : MP θ (m3W θ V la p u q) p := hp2.eq (by unfold m3W; rw [up2_ne (by omega)]) (by unfold m3W; rw [up2_ne (by omega)])
  have hp4 : MP θ (m4W θ V la p u q) p := hp3.eq (by unfold m4W; rw [up2_ne (by omega)]) (by unfold m4W; rw [up2_ne (by omega)])
  have h44m : m3W θ V la p u q (tb θ + 126) 44 = nI B := by unfold m3W; rw [up2_ne (by omega), up2_ne (by omega), up2_ne (by omega)]; exact h44
  have ha := nO_lt (B := B) hB (fun m => ksb_lt (p := p) (u := u) (q := 0) (m := m))
  have hb := nO_lt (B := B) hB (fun m => ksb_lt (p := p) (u := u) (q := 1) (m := m))
  -- the books
  have sub : ∀ x z6, z6 = bZ (ksp p u) → GF x (P ∧ (ksp p u = true → kms p u < B)) → ∃ n, wl_M_curvePart_215 θ (tb θ + 126) (nI la) x3 (nI q) z6 kb K n x (0 : Int32) (mS θ (m3W θ V la p u q) (ku3 p u)) U := by
    intro x z6 hz6 hx
    have one : ∀ f x, GF x (P ∧ (ksp p u = true → kms p u < B)) → (∀ x', GF x' ((P ∧ (ksp p u = true → kms p u < B)) ∧ ∀ m, ksb p u 0 = some m → m < B) → wl_M_curvePart_215 θ (tb θ + 126) (nI la) x3 (nI q) z6 kb K f x' (nI 1) (mS θ (m4W θ V la p u q) (ku4 p u)) U) → wl_M_curvePart_215 θ (tb θ + 126) (nI la) x3 (nI q) z6 kb K (f + 1) x (nI 0) (mS θ (m3W θ V la p u q) (ku3 p u)) U := by
      intro f x hx hk
      show bl_M_curvePart_215 _ _ _ _ _ _ _ _ _ _ _ _ _
      unfold bl_M_curvePart_215 wb_M_curvePart_227 wb_M_curvePart_276
      have core : isO θ (tb θ + 126) 12 ∧ wp_M_read θ (tb θ + 126) 3 (mS θ (m3W θ V la p u q) (ku3 p u)) U (fun r_84 V_81 U_82 => ∀ y_85 : Int32, y_85 = (r_84 - (1 : Int32)) → (U_82 (tb θ + 126) 52) ≠ 0 ∧ ∃ n_87, isA θ (U_82 (tb θ + 126) 52) 0 n_87 ∧ vp_in (((nI la + (11 : Int32)) + ((2 : Int32) * nI q)) + nI 0) n_87 ∧ ∀ V_90 : VT, V_90 = up2 V_81 (U_82 (tb θ + 126) 52) (((nI la + (11 : Int32)) + ((2 : Int32) * nI q)) + nI 0).toNatClampNeg y_85 → ((x = 0 → ∀ y_94 : Int32, y_94 = nI 0 + (1 : Int32) → wl_M_curvePart_215 θ (tb θ + 126) (nI la) x3 (nI q) z6 kb K f (0 : Int32) y_94 V_90 U_82) ∧ (¬ x = 0 → (((V_90 (tb θ + 126) 44) ≤ y_85 → ∀ y_94 : Int32, y_94 = nI 0 + (1 : Int32) → wl_M_curvePart_215 θ (tb θ + 126) (nI la) x3 (nI q) z6 kb K f (0 : Int32) y_94 V_90 U_82) ∧ (¬ (V_90 (tb θ + 126) 44) ≤ y_85 → ∀ y_93 : Int32, y_93 = nI 0 + (1 : Int32) → wl_M_curvePart_215 θ (tb θ + 126) (nI la) x3 (nI q) z6 kb K f (1 : Int32) y_93 V_90 U_82))))) := by
        simp only [UM hU, IM hθ, true_and, exists_eq_left, i11, i2, nI_add]
        refine m_read hθ hU hp3 (ku3_ok hu) (k := 3) (by decide) ?_
        intro y hy
        simp only [UM hU, IM hθ, true_and, exists_eq_left]
        refine ⟨by omega, vp_in_nI (by omega) (by decide), fun V90 h90 => ?_⟩
        rw [nI_clamp (by omega), mS_up (by omega), hy, sbO_v] at h90
        have e90 : V90 = mS θ (m4W θ V la p u q) (ku4 p u) := h90
        subst e90
        rw [e44 _ _ (by unfold m4W; rw [up2_ne (by omega)]; exact h44m), hy, sbO_v]
        have ha' : nI B ≤ nO (sbO (rdV p 3 (ku3 p u))) ↔ ¬ ∀ m, ksb p u 0 = some m → m < B := ha
        rw [ha']
        rcases hx with ⟨a, b⟩ | ⟨a, b⟩
        · refine ⟨fun z => absurd (a.symm.trans z) (by decide), fun _ => ⟨fun z y3 hy3 => ?_, fun z y3 hy3 => ?_⟩⟩
          · rw [hy3, nI_1]; exact hk 0 (Or.inr ⟨rfl, fun w => z w.2⟩)
          · rw [hy3, nI_1]; exact hk 1 (Or.inl ⟨rfl, b, Classical.not_not.1 z⟩)
        · refine ⟨fun _ y3 hy3 => ?_, fun z => absurd a z⟩
          rw [hy3, nI_1]; exact hk 0 (Or.inr ⟨rfl, fun w => b w.1⟩)
      exact ⟨fun _ => ⟨fun z => absurd z (by decide), fun _ => core⟩, fun _ => ⟨fun z => absurd z (by decide), fun _ => core⟩⟩
    cases hsp : ksp p u
    · rw [hsp] at hz6
      refine ⟨2, one 1 x hx (fun x' hx' => ?_)⟩
      show bl_M_curvePart_215 _ _ _ _ _ _ _ _ _ _ _ _ _
      unfold bl_M_curvePart_215 wb_M_curvePart_227
      refine ⟨fun _ => ⟨fun _ y hy => ?_, fun z => absurd (by decide) z⟩, fun z => absurd hz6 z⟩
      rw [hy, nI_1]
      have := h x' (hx'.congr ⟨fun w => ⟨w.1.1, w.1.2, w.2, fun z => by rw [hsp] at z; cases z⟩, fun w => ⟨⟨w.1, w.2.1⟩, w.2.2.1⟩⟩)
      unfold m5W ku5 at this
      rw [hsp] at this
      exact this
    · rw [hsp] at hz6
      refine ⟨3, one 2 x hx (fun x' hx' => ?_)⟩
      show bl_M_curvePart_215 _ _ _ _ _ _ _ _ _ _ _ _ _
      unfold bl_M_curvePart_215 wb_M_curvePart_227 wb_M_curvePart_276
      simp only [UM hU, IM hθ, true_and, exists_eq_left, i11, i2, nI_add]
      refine ⟨fun z => absurd (hz6.symm.trans z) (by decide), fun _ => ⟨fun z => absurd z (by decide), fun _ => m_read hθ hU hp4 (ku4_ok hu) (k := 3) (by decide) ?_⟩⟩
      intro y hy
      simp only [UM hU, IM hθ, true_and, exists_eq_left]
      refine ⟨by omega, vp_in_nI (by omega) (by decide), fun V90 h90 => ?_⟩
      rw [nI_clamp (by omega), mS_up (by omega), hy, sbO_v] at h90
      have e90 : V90 = mS θ (m5W θ V la p u q) (ku5 p u) := by
        rw [h90]; unfold m5W ku5; rw [if_pos hsp, if_pos hsp]; rfl
      subst e90
      rw [e44 _ _ (by rw [m5W_ne (by omega)]; exact h44), hy, sbO_v]
      have hb' : nI B ≤ nO (sbO (rdV p 3 (ku4 p u))) ↔ ¬ ∀ m, ksb p u 1 = some m → m < B := hb
      rw [hb']
      have fin : ∀ x'', GF x'' (((P ∧ (ksp p u = true → kms p u < B)) ∧ ∀ m, ksb p u 0 = some m → m < B) ∧ ∀ m, ksb p u 1 = some m → m < B) → wl_M_curvePart_215 θ (tb θ + 126) (nI la) x3 (nI q) z6 kb K 1 x'' (nI 2) (mS θ (m5W θ V la p u q) (ku5 p u)) U := by
        intro x'' hx''
        show bl_M_curvePart_215 _ _ _ _ _ _ _ _ _ _ _ _ _
        unfold bl_M_curvePart_215 wb_M_curvePart_227
        refine ⟨fun z => absurd (hz6.symm.trans z) (by decide), fun _ => ⟨fun _ y3 hy3 => ?_, fun z => absurd (by decide) z⟩⟩
        rw [hy3, nI_1]
        exact h x'' (hx''.congr ⟨fun w => ⟨w.1.1.1, w.1.1.2, w.1.2, fun _ => w.2⟩, fun w => ⟨⟨⟨w.1, w.2.1⟩, w.2.2.1⟩, w.2.2.2 hsp⟩⟩)
      rcases hx' with ⟨a, b⟩ | ⟨a, b⟩
      · refine ⟨fun z => absurd (a.symm.trans z) (by decide), fun _ => ⟨fun z y3 hy3 => ?_, fun z y3 hy3 => ?_⟩⟩
        · rw [hy3, nI_1]; exact fin 0 (Or.inr ⟨rfl, fun w => z w.2⟩)
        · rw [hy3, nI_1]; exact fin 1 (Or.inl ⟨rfl, b, Classical.not_not.1 z⟩)
      · refine ⟨fun _ y3 hy3 => ?_, fun z => absurd a z⟩
        rw [hy3, nI_1]; exact fin 0 (Or.inr ⟨rfl, fun w => b w.1⟩)
  -- the master
  have mas : ∀ x0 z6, z6 = bZ (ksp p u) → x0 = (if ksp p u = true then nI (kms p u) else 0) → wb_M_curvePart_175 θ (tb θ + 126) (nI la) x3 x4 (nI q) z6 x0 (nI (la + 9 + q)) (tb θ + 157) kb K (mS θ (up2 (up2 V (tb θ + 157) (la + 5 + q) (nI (kz p u))) (tb θ + 157) (la + 7 + q) (bZ (ksp p u))) (ku3 p u)) U := by
    intro x0 z6 hz6 hx0
    unfold wb_M_curvePart_175 wb_M_curvePart_205 wb_M_curvePart_209
    simp only [UM hU, IM hθ, true_and, exists_eq_left, i9, nI_add]
    refine ⟨vp_in_nI (by omega) (by decide), fun V69 h69 => ?_⟩
    rw [nI_clamp (by omega), mS_up (by omega), hx0] at h69
    have e69 : V69 = mS θ (m3W θ V la p u q) (ku3 p u) := h69
    subst e69
    rcases h4 with ⟨a, b⟩ | ⟨a, b⟩
    · refine ⟨fun z => absurd (a.symm.trans z) (by decide), fun _ => ⟨fun z => ?_, fun z => ?_⟩⟩
      · have hsp : ksp p u = false := bZ_0.1 (hz6.symm.trans z)
        exact sub 1 z6 hz6 (Or.inl ⟨rfl, b, fun w => by rw [hsp] at w; cases w⟩)
      · have hsp : ksp p u = true := by
          cases e : ksp p u
          · rw [e] at hz6; exact absurd hz6 z
          · rfl
        have hms := rdV_lt p 2 (ku2 p u)
        rw [e44 _ _ h44m, nI_clamp (show la + 9 + q < 2 ^ 31 by omega), mS_ne (show tb θ + 157 ≠ tb θ + 126 by omega), show m3W θ V la p u q (tb θ + 157) (la + 9 + q) = nI (kms p u) by unfold m3W; rw [up2_aa, if_pos hsp], nI_leI (by omega) (by show rdV p 2 (ku2 p u) < _; omega)]
        refine ⟨by omega, vp_in_nI (by omega) (by decide), fun w => sub 0 z6 hz6 (Or.inr ⟨rfl, fun v => ?_⟩), fun w => sub 1 z6 hz6 (Or.inl ⟨rfl, b, fun _ => by omega⟩)⟩
        have := v.2 hsp; omega
    · exact ⟨fun _ => sub 0 z6 hz6 (Or.inr ⟨rfl, fun w => b w.1⟩), fun z => absurd a z⟩
  have step : ∀ z6, z6 = bZ (ksp p u) → wb_M_curvePart_148 θ (tb θ + 126) (nI la) x3 x4 (nI q) z6 kb K (mS θ (up2 (up2 V (tb θ + 157) (la + 5 + q) (nI (kz p u))) (tb θ + 157) (la + 7 + q) (bZ (ksp p u))) (ku2 p u)) U := by
    intro z6 hz6
    unfold wb_M_curvePart_148
    simp only [UM hU, IM hθ, true_and, exists_eq_left, i9, nI_add]
    refine ⟨by omega, fun z => ?_, fun z => ?_⟩
    · have hsp : ksp p u = false := bZ_0.1 (hz6.symm.trans z)
      have := mas 0 z6 hz6 (by rw [hsp]; rfl)
      unfold ku3 at this
      rw [hsp] at this ⊢
      exact this
    · have hsp : ksp p u = true := by
        cases e : ksp p u
        · rw [e] at hz6; exact absurd hz6 z
        · rfl
      refine m_read hθ hU hp2 (ku2_ok hu) (k := 2) (by decide) ?_
      have := mas (nI (kms p u)) z6 hz6 (by rw [hsp]; rfl)
      unfold ku3 at this
      rw [hsp] at this ⊢
      exact this
  refine ⟨by omega, vp_in_nI (by omega) (by decide), fun z => step 0 ?_, fun z => step 1 ?_⟩
  · cases e : ksp p u
    · rfl
    · rw [e] at z; exact absurd rfl z
  · exact z.symm
end MCURVE
