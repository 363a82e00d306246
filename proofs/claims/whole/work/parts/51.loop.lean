def OKt (θ : TH) : Prop := tN θ = 166 ∧ tL θ = lay ∧ 0 < tb θ
def OP_add (θ : TH) (I : VT → UT → Prop) : Prop := ∀ (w : Int64) (x : Int32) (V : VT) (U : UT) (Kc : Int32 → VT → UT → Prop), I V U → (∀ r V1 U1, (∀ Kf : Int32 → VT → UT → Prop, (∀ V2 U2, I V2 U2 → Kf r V2 U2) → wp_M_add θ (tb θ + 126) w x V1 U1 Kf) → Kc r V1 U1) → wp_S_add θ (tb θ + 0) w x V U Kc
def OP_send (θ : TH) (I : VT → UT → Prop) : Prop := ∀ (x y : Int32) (V : VT) (U : UT) (Kc : Int32 → VT → UT → Prop), I V U → (∀ r V1 U1, (∀ Kf : Int32 → VT → UT → Prop, (∀ V2 U2, I V2 U2 → Kf r V2 U2) → wp_M_send θ (tb θ + 126) x y V1 U1 Kf) → Kc r V1 U1) → wp_S_send θ (tb θ + 0) x y V U Kc
def OP_flush (θ : TH) (I : VT → UT → Prop) : Prop := ∀ (x y : Int32) (V : VT) (U : UT) (Kc : Int32 → VT → UT → Prop), isZ y → I V U → (∀ r V1 U1, (∀ Kf : Int32 → VT → UT → Prop, (∀ V2 U2, I V2 U2 → Kf r V2 U2) → wp_M_flush θ (tb θ + 126) x y V1 U1 Kf) → Kc r V1 U1) → wp_S_flush θ (tb θ + 0) x y V U Kc
def OP_raw (θ : TH) (I : VT → UT → Prop) : Prop := ∀ (w : Int64) (x : Int32) (V : VT) (U : UT) (Kc : Int32 → VT → UT → Prop), I V U → (∀ r V1 U1, (∀ Kf : Int32 → VT → UT → Prop, (∀ V2 U2, I V2 U2 → Kf r V2 U2) → wp_M_raw θ (tb θ + 126) w x V1 U1 Kf) → Kc r V1 U1) → wp_S_raw θ (tb θ + 0) w x V U Kc
def OP_alter (θ : TH) (I : VT → UT → Prop) : Prop := ∀ (x y : Int32) (V : VT) (U : UT) (Kc : Int32 → VT → UT → Prop), I V U → (∀ r V1 U1, (∀ Kf : Int32 → VT → UT → Prop, (∀ V2 U2, I V2 U2 → Kf r V2 U2) → wp_M_alter θ (tb θ + 126) x y V1 U1 Kf) → Kc r V1 U1) → wp_S_alter θ (tb θ + 0) x y V U Kc
def OP_cut (θ : TH) (I : VT → UT → Prop) : Prop := ∀ (x y : Int32) (V : VT) (U : UT) (Kc : Int32 → VT → UT → Prop), I V U → (∀ r V1 U1, (∀ Kf : Int32 → VT → UT → Prop, (∀ V2 U2, I V2 U2 → Kf r V2 U2) → wp_M_cut θ (tb θ + 126) x y V1 U1 Kf) → Kc r V1 U1) → wp_S_cut θ (tb θ + 0) x y V U Kc
def OP_wire (θ : TH) (I : VT → UT → Prop) : Prop := ∀ (x : Int32) (V : VT) (U : UT) (Kc : Int32 → VT → UT → Prop), I V U → (∀ r V1 U1, (∀ Kf : Int32 → VT → UT → Prop, (∀ V2 U2, I V2 U2 → Kf r V2 U2) → wp_M_wire θ (tb θ + 126) x V1 U1 Kf) → Kc r V1 U1) → wp_S_wire θ (tb θ + 0) x V U Kc
def OP_length (θ : TH) (I : VT → UT → Prop) : Prop := ∀ (V : VT) (U : UT) (Kc : Int32 → VT → UT → Prop), I V U → (∀ r V1 U1, (∀ Kf : Int32 → VT → UT → Prop, (∀ V2 U2, I V2 U2 → Kf r V2 U2) → wp_M_length θ (tb θ + 126) V1 U1 Kf) → Kc r V1 U1) → wp_S_length θ (tb θ + 0) V U Kc
def OP_next (θ : TH) (I : VT → UT → Prop) : Prop := ∀ (V : VT) (U : UT) (Kc : Int32 → VT → UT → Prop), I V U → (∀ r V1 U1, (∀ Kf : Int32 → VT → UT → Prop, (∀ V2 U2, I V2 U2 → Kf r V2 U2) → wp_M_next θ (tb θ + 126) V1 U1 Kf) → Kc r V1 U1) → wp_S_next θ (tb θ + 0) V U Kc
def OP_amount (θ : TH) (I : VT → UT → Prop) : Prop := ∀ (V : VT) (U : UT) (Kc : Int32 → VT → UT → Prop), I V U → (∀ r V1 U1, (∀ Kf : Int32 → VT → UT → Prop, (∀ V2 U2, I V2 U2 → Kf r V2 U2) → wp_M_amount θ (tb θ + 126) V1 U1 Kf) → Kc r V1 U1) → wp_S_amount θ (tb θ + 0) V U Kc
def OP_serial (θ : TH) (I : VT → UT → Prop) : Prop := ∀ (V : VT) (U : UT) (Kc : Int32 → VT → UT → Prop), I V U → (∀ r V1 U1, (∀ Kf : Int32 → VT → UT → Prop, (∀ V2 U2, I V2 U2 → Kf r V2 U2) → wp_M_serial θ (tb θ + 126) V1 U1 Kf) → Kc r V1 U1) → wp_S_serial θ (tb θ + 0) V U Kc
def OP_time (θ : TH) (I : VT → UT → Prop) : Prop := ∀ (V : VT) (U : UT) (Kc : Int32 → VT → UT → Prop), I V U → (∀ r V1 U1, (∀ Kf : Int32 → VT → UT → Prop, (∀ V2 U2, I V2 U2 → Kf r V2 U2) → wp_M_time θ (tb θ + 126) V1 U1 Kf) → Kc r V1 U1) → wp_S_time θ (tb θ + 0) V U Kc
def OP_octet (θ : TH) (I : VT → UT → Prop) : Prop := ∀ (x : Int32) (V : VT) (U : UT) (Kc : Int32 → VT → UT → Prop), I V U → (∀ r V1 U1, (∀ Kf : Int32 → VT → UT → Prop, (∀ V2 U2, I V2 U2 → Kf r V2 U2) → wp_M_octet θ (tb θ + 126) x V1 U1 Kf) → Kc r V1 U1) → wp_S_octet θ (tb θ + 0) x V U Kc
def OP_pieces (θ : TH) (I : VT → UT → Prop) : Prop := ∀ (V : VT) (U : UT) (Kc : Int32 → VT → UT → Prop), I V U → (∀ r V1 U1, (∀ Kf : Int32 → VT → UT → Prop, (∀ V2 U2, I V2 U2 → Kf r V2 U2) → wp_M_pieces θ (tb θ + 126) V1 U1 Kf) → Kc r V1 U1) → wp_S_pieces θ (tb θ + 0) V U Kc
def OP_take (θ : TH) (I : VT → UT → Prop) : Prop := ∀ (V : VT) (U : UT) (Kc : Int32 → VT → UT → Prop), I V U → (∀ r V1 U1, (∀ Kf : Int32 → VT → UT → Prop, (∀ V2 U2, I V2 U2 → Kf r V2 U2) → wp_M_take θ (tb θ + 126) V1 U1 Kf) → Kc r V1 U1) → wp_S_take θ (tb θ + 0) V U Kc
def OP_entry (θ : TH) (I : VT → UT → Prop) : Prop := ∀ (x y : Int32) (V : VT) (U : UT) (Kc : Int32 → VT → UT → Prop), I V U → (∀ r V1 U1, (∀ Kf : Int32 → VT → UT → Prop, (∀ V2 U2, I V2 U2 → Kf r V2 U2) → wp_M_entry θ (tb θ + 126) x y V1 U1 Kf) → Kc r V1 U1) → wp_S_entry θ (tb θ + 0) x y V U Kc
def OP_block (θ : TH) (I : VT → UT → Prop) : Prop := ∀ (V : VT) (U : UT) (Kc : Int32 → VT → UT → Prop), I V U → (∀ r V1 U1, (∀ Kf : Int32 → VT → UT → Prop, (∀ V2 U2, I V2 U2 → Kf r V2 U2) → wp_M_block θ (tb θ + 126) V1 U1 Kf) → Kc r V1 U1) → wp_S_block θ (tb θ + 0) V U Kc
def OP_curve (θ : TH) (I : VT → UT → Prop) : Prop := ∀ (x y : Int32) (V : VT) (U : UT) (Kc : Int32 → VT → UT → Prop), I V U → (∀ r V1 U1, (∀ Kf : Int32 → VT → UT → Prop, (∀ V2 U2, I V2 U2 → Kf r V2 U2) → wp_M_curve θ (tb θ + 126) x y V1 U1 Kf) → Kc r V1 U1) → wp_S_curve θ (tb θ + 0) x y V U Kc
def OP_value (θ : TH) (I : VT → UT → Prop) : Prop := ∀ (x y : Int32) (V : VT) (U : UT) (Kc : Int32 → VT → UT → Prop), I V U → (∀ r V1 U1, (∀ Kf : Int32 → VT → UT → Prop, (∀ V2 U2, I V2 U2 → Kf r V2 U2) → wp_M_value θ (tb θ + 126) x y V1 U1 Kf) → Kc r V1 U1) → wp_S_value θ (tb θ + 0) x y V U Kc
def OP_samples (θ : TH) (I : VT → UT → Prop) : Prop := ∀ (V : VT) (U : UT) (Kc : Int32 → VT → UT → Prop), I V U → (∀ r V1 U1, (∀ Kf : Int32 → VT → UT → Prop, (∀ V2 U2, I V2 U2 → Kf r V2 U2) → wp_M_samples θ (tb θ + 126) V1 U1 Kf) → Kc r V1 U1) → wp_S_samples θ (tb θ + 0) V U Kc
def OPS (θ : TH) (I : VT → UT → Prop) : Prop := OP_add θ I ∧ OP_send θ I ∧ OP_flush θ I ∧ OP_raw θ I ∧ OP_alter θ I ∧ OP_cut θ I ∧ OP_wire θ I ∧ OP_length θ I ∧ OP_next θ I ∧ OP_amount θ I ∧ OP_serial θ I ∧ OP_time θ I ∧ OP_octet θ I ∧ OP_pieces θ I ∧ OP_take θ I ∧ OP_entry θ I ∧ OP_block θ I ∧ OP_curve θ I ∧ OP_value θ I ∧ OP_samples θ I
theorem io_S {θ : TH} (h : OKt θ) : isO θ (tb θ + 0) 0 := by
  obtain ⟨h1, h2, h3⟩ := h
  refine ⟨Nat.le_add_right _ _, by rw [Nat.add_sub_cancel_left, h1]; decide, by rw [Nat.add_sub_cancel_left, h2]; rfl⟩
theorem io_M {θ : TH} (h : OKt θ) : isO θ (tb θ + 126) 12 := by
  obtain ⟨h1, h2, h3⟩ := h
  refine ⟨Nat.le_add_right _ _, by rw [Nat.add_sub_cancel_left, h1]; decide, by rw [Nat.add_sub_cancel_left, h2]; rfl⟩
set_option maxRecDepth 100000 in
set_option maxHeartbeats 4000000 in
theorem law_steps (θ : TH) (hθ : OKt θ) (I : VT → UT → Prop) (hop : OPS θ I) (K : Nat × (Nat → Int32)) (hK : K.1 ≤ 2048) : ∀ (n j : Nat) (V : VT) (U : UT), I V U → 4 * j ≤ K.1 → K.1 < 4 * j + 4 * n → wl_L_law_18 θ (tb θ + 0) (tb θ + 126) K n (nI (4 * j)) V U := by
  obtain ⟨h_add, h_send, h_flush, h_raw, h_alter, h_cut, h_wire, h_length, h_next, h_amount, h_serial, h_time, h_octet, h_pieces, h_take, h_entry, h_block, h_curve, h_value, h_samples⟩ := hop
  have hS := io_S hθ
  have hM := io_M hθ
  have hend : ∀ j, j ≤ 1000 → ((Int32.ofNat K.1) - (4 : Int32) < nI (4 * j) ↔ K.1 < 4 * j + 4) := by
    intro j hj
    have e1 : (nI K.1 - nI 4).toInt = (K.1 : Int) - 4 := pk_sub_toInt (by omega) (by decide)
    have e2 : (nI (4 * j)).toInt = ((4 * j : Nat) : Int) := nI_toInt (by omega)
    show (nI K.1 - nI 4 < nI (4 * j)) ↔ _
    rw [Int32.lt_iff_toInt_lt, e1, e2]
    omega
  intro n
  induction n with
  | zero =>
    intro j V U hI hj hn
    exact (show False by omega).elim
  | succ n ih =>
    intro j V U hI hj hn
    show bl_L_law_18 θ (tb θ + 0) (tb θ + 126) K (wl_L_law_18 θ (tb θ + 0) (tb θ + 126) K n) (nI (4 * j)) V U
    unfold bl_L_law_18
    refine ⟨fun _ => trivial, fun hc => ?_⟩
    rw [hend j (by omega)] at hc
    have i0 : vp_in (nI (4 * j)) K.1 := vp_in_nI (by omega) (by omega)
    have i1 : vp_in (nI (4 * j) + (1 : Int32)) K.1 := by rw [show nI (4 * j) + (1 : Int32) = nI (4 * j + 1) from nI_add _ 1]; exact vp_in_nI (by omega) (by omega)
    have i2 : vp_in (nI (4 * j) + (2 : Int32)) K.1 := by rw [show nI (4 * j) + (2 : Int32) = nI (4 * j + 2) from nI_add _ 2]; exact vp_in_nI (by omega) (by omega)
    have i3 : vp_in (nI (4 * j) + (3 : Int32)) K.1 := by rw [show nI (4 * j) + (3 : Int32) = nI (4 * j + 3) from nI_add _ 3]; exact vp_in_nI (by omega) (by omega)
    have hgo : ∀ V2 U2, I V2 U2 → ∀ y : Int32, y = nI (4 * j) + (4 : Int32) → wl_L_law_18 θ (tb θ + 0) (tb θ + 126) K n y V2 U2 := by
      intro V2 U2 hI2 y hy
      rw [hy, show nI (4 * j) + (4 : Int32) = nI (4 * (j + 1)) from nI_add _ 4]
      exact ih (j + 1) V2 U2 hI2 (by omega) (by omega)
    refine ⟨i0, fun y hy => ?_⟩
    refine ⟨fun _ => ?_, fun _ => ?_, fun _ => ?_, fun _ => ?_, fun _ => ?_, fun _ => ?_, fun _ => ?_, fun _ => ?_, fun _ => ?_, fun _ => ?_, fun _ => ?_, fun _ => ?_, fun _ => ?_, fun _ => ?_, fun _ => ?_, fun _ => ?_, fun _ => ?_, fun _ => ?_, fun _ => ?_, fun _ => ?_, ?_⟩
    · exact ⟨i1, i2, i3, hS, h_add _ _ V U _ hI (fun r V1 U1 hm => ⟨hM, hm _ (fun V2 U2 hI2 => ⟨fun _ => hgo V2 U2 hI2, fun h => h rfl⟩)⟩)⟩
    · exact ⟨i1, i2, hS, h_send _ _ V U _ hI (fun r V1 U1 hm => ⟨hM, hm _ (fun V2 U2 hI2 => ⟨fun _ => hgo V2 U2 hI2, fun h => h rfl⟩)⟩)⟩
    · refine ⟨i1, i2, fun hz => ?_, fun hz => ?_⟩
      · refine ⟨hS, h_flush _ _ V U _ (Or.inl rfl) hI (fun r V1 U1 hm => ⟨i1, i2, fun _ => ?_, fun h => absurd hz h⟩)⟩
        exact ⟨hM, hm _ (fun V2 U2 hI2 => ⟨fun _ => hgo V2 U2 hI2, fun h => h rfl⟩)⟩
      · refine ⟨hS, h_flush _ _ V U _ (Or.inr rfl) hI (fun r V1 U1 hm => ⟨i1, i2, fun h => absurd h hz, fun _ => ?_⟩)⟩
        exact ⟨hM, hm _ (fun V2 U2 hI2 => ⟨fun _ => hgo V2 U2 hI2, fun h => h rfl⟩)⟩
    · exact ⟨i1, i2, i3, hS, h_raw _ _ V U _ hI (fun r V1 U1 hm => ⟨hM, hm _ (fun V2 U2 hI2 => ⟨fun _ => hgo V2 U2 hI2, fun h => h rfl⟩)⟩)⟩
    · exact ⟨i1, i2, hS, h_alter _ _ V U _ hI (fun r V1 U1 hm => ⟨hM, hm _ (fun V2 U2 hI2 => ⟨fun _ => hgo V2 U2 hI2, fun h => h rfl⟩)⟩)⟩
    · exact ⟨i1, i2, hS, h_cut _ _ V U _ hI (fun r V1 U1 hm => ⟨hM, hm _ (fun V2 U2 hI2 => ⟨fun _ => hgo V2 U2 hI2, fun h => h rfl⟩)⟩)⟩
    · exact ⟨i1, hS, h_wire _ V U _ hI (fun r V1 U1 hm => ⟨hM, hm _ (fun V2 U2 hI2 => ⟨fun _ => hgo V2 U2 hI2, fun h => h rfl⟩)⟩)⟩
    · exact ⟨hS, h_length V U _ hI (fun r V1 U1 hm => ⟨hM, hm _ (fun V2 U2 hI2 => ⟨fun _ => hgo V2 U2 hI2, fun h => h rfl⟩)⟩)⟩
    · exact ⟨hS, h_next V U _ hI (fun r V1 U1 hm => ⟨hM, hm _ (fun V2 U2 hI2 => ⟨fun _ => hgo V2 U2 hI2, fun h => h rfl⟩)⟩)⟩
    · exact ⟨hS, h_amount V U _ hI (fun r V1 U1 hm => ⟨hM, hm _ (fun V2 U2 hI2 => ⟨fun _ => hgo V2 U2 hI2, fun h => h rfl⟩)⟩)⟩
    · exact ⟨hS, h_serial V U _ hI (fun r V1 U1 hm => ⟨hM, hm _ (fun V2 U2 hI2 => ⟨fun _ => hgo V2 U2 hI2, fun h => h rfl⟩)⟩)⟩
    · exact ⟨hS, h_time V U _ hI (fun r V1 U1 hm => ⟨hM, hm _ (fun V2 U2 hI2 => ⟨fun _ => hgo V2 U2 hI2, fun h => h rfl⟩)⟩)⟩
    · exact ⟨i1, hS, h_octet _ V U _ hI (fun r V1 U1 hm => ⟨hM, hm _ (fun V2 U2 hI2 => ⟨fun _ => hgo V2 U2 hI2, fun h => h rfl⟩)⟩)⟩
    · exact ⟨hS, h_pieces V U _ hI (fun r V1 U1 hm => ⟨hM, hm _ (fun V2 U2 hI2 => ⟨fun _ => hgo V2 U2 hI2, fun h => h rfl⟩)⟩)⟩
    · exact ⟨hS, h_take V U _ hI (fun r V1 U1 hm => ⟨hM, hm _ (fun V2 U2 hI2 => ⟨fun _ => hgo V2 U2 hI2, fun h => h rfl⟩)⟩)⟩
    · exact ⟨i1, i2, hS, h_entry _ _ V U _ hI (fun r V1 U1 hm => ⟨hM, hm _ (fun V2 U2 hI2 => ⟨fun _ => hgo V2 U2 hI2, fun h => h rfl⟩)⟩)⟩
    · exact ⟨hS, h_block V U _ hI (fun r V1 U1 hm => ⟨hM, hm _ (fun V2 U2 hI2 => ⟨fun _ => hgo V2 U2 hI2, fun h => h rfl⟩)⟩)⟩
    · exact ⟨i1, i2, hS, h_curve _ _ V U _ hI (fun r V1 U1 hm => ⟨hM, hm _ (fun V2 U2 hI2 => ⟨fun _ => hgo V2 U2 hI2, fun h => h rfl⟩)⟩)⟩
    · exact ⟨i1, i2, hS, h_value _ _ V U _ hI (fun r V1 U1 hm => ⟨hM, hm _ (fun V2 U2 hI2 => ⟨fun _ => hgo V2 U2 hI2, fun h => h rfl⟩)⟩)⟩
    · exact ⟨hS, h_samples V U _ hI (fun r V1 U1 hm => ⟨hM, hm _ (fun V2 U2 hI2 => ⟨fun _ => hgo V2 U2 hI2, fun h => h rfl⟩)⟩)⟩
    · intros
      rename_i y2 hy2
      exact hgo V U hI y2 hy2
/-- all that is left: an invariant of the store that the constructors' store has and the twenty calls keep -/
theorem math_of (θ : TH) (K : Nat × (Nat → Int32)) (h0 : 0 < tb θ) (hL : tL θ = lay) (hK : K.1 ≤ 2048) (I : VT → UT → Prop) (hI : I (vf vI (tb θ)) (uf uI (tb θ))) (hop : OPS (θn θ 166) I) : MATH θ K :=
  math_init θ K h0 hL ⟨600, law_steps (θn θ 166) ⟨rfl, hL, h0⟩ I hop K hK 600 0 _ _ hI (by omega) (by omega)⟩
