-- the curve is drawn, one side; neighbours in the reference
section DRAW
variable {θ : TH} {V : VT} {U : UT} {sw : Bool} {c gr N la : Nat} {pl num H : Nat → Nat} {S : Nat → Bool}
theorem s_draw {K : VT → UT → Prop} (hθ : OKt θ) (hU : US θ sw U) (hc : c = 68 ∨ c = 84) (hpn : PNm gr N pl num) {a w : Nat} (ha : ∀ m, isA θ a 0 m ↔ m = 32) (ha2 : a ≠ tb θ + c) (ha6 : a ≠ tb θ + (c + 6)) (ha8 : a ≠ tb θ + (c + 8)) (ha9 : a ≠ tb θ + (c + 9)) (hw : w ≤ 32) (v0 : V (tb θ + c) 0 = nI gr) (v7 : V (tb θ + c) 7 = nI N) (vp : ∀ i, i < N → V (tb θ + (c + 6)) i = nI (pl i)) (vh : ∀ i, i < N → V (tb θ + (c + 8)) i = nI (H i) ∧ H i < 32) (vs : ∀ i, i < N → V (tb θ + (c + 9)) i = bZ (S i)) (h : ∀ W, (∀ q, q ≠ a → W q = V q) → (∀ x, x < w → W a x = nI (drX H pl S (gr + 1) (N - 2) x)) → (∀ x, w ≤ x → W a x = V a x) → K W U) : wp_C_draw θ (tb θ + c) a (nI w) V U K := by
  have hpn' := hpn
  obtain ⟨h1, h2, h3, h4, h5, h6, h7, h8, h9⟩ := hpn
  unfold wp_C_draw
  simp only [cpU hθ hU hc, true_and]
  rw [v0, nI_1]
  intro y hy
  subst hy
  refine loop1 w (fun x W => (∀ q, q ≠ a → W q = V q) ∧ (∀ j, j < x → W a j = nI (drX H pl S (gr + 1) (N - 2) j)) ∧ ∀ j, x ≤ j → W a j = V a j) ⟨fun _ _ => rfl, fun j hj => (by omega), fun _ _ => rfl⟩ (fun f x W hx hJ hgo => ?_) (fun f W hJ => ?_)
  · obtain ⟨w1, w2, w3⟩ := hJ
    show bl_C_draw_10 _ _ _ _ _ _ _ _ _ _
    unfold bl_C_draw_10
    refine br_f (nI_ge hx (by omega)) ?_
    have wp : ∀ i, i < N → W (tb θ + (c + 6)) i = nI (pl i) := fun i hi => by rw [w1 _ (Ne.symm ha6)]; exact vp i hi
    have wh : ∀ i, i < N → W (tb θ + (c + 8)) i = nI (H i) := fun i hi => by rw [w1 _ (Ne.symm ha8)]; exact (vh i hi).1
    have ws : ∀ i, i < N → W (tb θ + (c + 9)) i = bZ (S i) := fun i hi => by rw [w1 _ (Ne.symm ha9)]; exact vs i hi
    have w7 : W (tb θ + c) 7 = nI N := by rw [w1 _ (Ne.symm ha2)]; exact v7
    have put : ∀ z : Int32, z = nI (drX H pl S (gr + 1) (N - 2) x) → ∀ y : Int32, y = nI x + 1 → wl_C_draw_10 θ (tb θ + c) a (nI w) (nI (gr + 1)) K f y (up2 W a x z) U := by
      intro z hz y hy
      rw [hy, nI_1, hz]
      refine hgo _ ⟨fun q hq => by rw [up2_ne hq]; exact w1 q hq, fun j hj => ?_, fun j hj => ?_⟩
      · by_cases e : j = x
        · subst e; rw [up2_aa]
        · rw [up2_ab e]; exact w2 j (by omega)
      · rw [up2_ab (by omega)]; exact w3 j (by omega)
    have hxin : vp_in (nI x) 32 := vp_in_nI (by omega) (by decide)
    have inner : ∀ d i, i + 2 + d = N → wl_C_draw_25 θ (tb θ + c) a (nI w) (nI (gr + 1)) (nI x) (wl_C_draw_10 θ (tb θ + c) a (nI w) (nI (gr + 1)) K f) K (d + 1) (nI (lfF pl S x i)) (nI (rtF pl S x i)) (nI (i + 2)) W U := by
      intro d
      induction d with
      | zero =>
        intro i hi
        obtain rfl : i = N - 2 := by omega
        have hl := lfF_le (pl := pl) (P := S) (x := x) (by omega) (N - 2)
        show bl_C_draw_25 _ _ _ _ _ _ _ _ _ _ _ _ _ _
        unfold bl_C_draw_25 wb_C_draw_142
        simp only [cpU hθ hU hc, ha, true_and, exists_eq_left]
        rw [w7, show ((1 : Int32).toNatClampNeg) = 1 from rfl, wp 1 (by omega), wh 1 (by omega), nI_clamp (show x < 2 ^ 31 by omega)]
        refine br_t (nI_le (by omega) (by omega)) ⟨by omega, vp_in_nI (n := 1) (by decide) (by decide), pk_lt x (pl 1) (fun q => ⟨fun _ => ?_, fun z => absurd trivial z⟩) (fun q => ⟨fun z => absurd z (by decide), fun _ => ⟨by omega, vp_in_nI (n := 1) (by decide) (by decide), hxin, fun V41 h41 y hy => ?_⟩⟩)⟩
        · have hr := rtF_gt (pl := pl) (P := S) (x := x) q (N - 2)
          refine s_between (h := H) (pl := pl) (f := gr + 1) hθ hU hc (by omega) (by omega) (by omega) (by omega) ⟨wh _ (by omega), wh _ (by omega)⟩ ⟨wp _ (by omega), wp _ (by omega)⟩ ⟨(vh _ (by omega)).2, (vh _ (by omega)).2⟩ hl.1 hr.1 (pl_b hpn' (by omega)) ⟨hxin, fun V31 h31 y hy => ?_⟩
          rw [h31]
          exact put _ (by unfold drX; rw [if_pos q]) y hy
        · rw [h41]
          exact put _ (by unfold drX; rw [if_neg (by omega), pk_mul]) y hy
      | succ d ihd =>
        intro i hi
        have hl := lfF_le (pl := pl) (P := S) (x := x) (by omega) i
        have hrb : rtF pl S x i < i + 2 := by
          have : ∀ m, rtF pl S x m < m + 2 := by
            intro m
            induction m with
            | zero => show 1 < 2; decide
            | succ m ihm => unfold rtF; split <;> omega
          exact this i
        show bl_C_draw_25 _ _ _ _ _ _ _ _ _ _ _ _ _ _
        unfold bl_C_draw_25 wb_C_draw_77
        simp only [cpU hθ hU hc, true_and, exists_eq_left]
        rw [w7, nI_clamp (show i + 2 < 2 ^ 31 by omega), nI_clamp (show lfF pl S x i < 2 ^ 31 by omega), nI_clamp (show rtF pl S x i < 2 ^ 31 by omega), wp (i + 2) (by omega), ws (i + 2) (by omega), wp _ (by omega : lfF pl S x i < N), wp _ (by omega : rtF pl S x i < N)]
        have q1 := pl_b hpn' (i := i + 2) (by omega)
        have q3 := pl_b hpn' (i := lfF pl S x i) (by omega)
        have q4 := pl_b hpn' (i := rtF pl S x i) (by omega)
        have hin1 : vp_in (nI (i + 2)) 14 := vp_in_nI (by omega) (by decide)
        have hin3 : vp_in (nI (lfF pl S x i)) 14 := vp_in_nI (by omega) (by decide)
        have hin4 : vp_in (nI (rtF pl S x i)) 14 := vp_in_nI (by omega) (by decide)
        have nz : ¬ tb θ + (c + 6) = 0 := by omega
        have nz9 : ¬ tb θ + (c + 9) = 0 := by omega
        have step := ihd (i + 1) (by omega)
        have eL : lfF pl S x (i + 1) = if S (i + 2) = true ∧ pl (i + 2) ≤ x ∧ pl (lfF pl S x i) < pl (i + 2) then i + 2 else lfF pl S x i := rfl
        have eR : rtF pl S x (i + 1) = if S (i + 2) = true ∧ x < pl (i + 2) ∧ pl (i + 2) < pl (rtF pl S x i) then i + 2 else rtF pl S x i := rfl
        refine br_f (nI_ge (by omega) (by omega)) ⟨nz9, hin1, ?_⟩
        cases hS : S (i + 2)
        · rw [eL, eR, hS, if_neg (by simp), if_neg (by simp)] at step
          refine ⟨fun _ => ⟨nz9, hin1, fun _ y hy => ?_, fun z => absurd rfl z⟩, fun z => absurd rfl z⟩
          rw [hy, nI_1]; exact step
        · rw [hS] at eL eR
          refine ⟨fun z => absurd z (by decide), fun _ => ⟨nz, hin1, pk_lt x (pl (i + 2)) (fun w5 => ⟨nz9, hin1, fun z => absurd z (by decide), fun _ => ⟨nz, hin1, pk_le (pl (i + 2)) x (fun w6 => by omega) (fun w6 => ⟨hin4, pk_le (pl (rtF pl S x i)) (pl (i + 2)) (fun w7 y hy => ?_) (fun w7 y hy => ?_)⟩)⟩⟩) (fun w5 => ⟨hin3, pk_le (pl (i + 2)) (pl (lfF pl S x i)) (fun w6 => ⟨nz9, hin1, fun z => absurd z (by decide), fun _ => ⟨nz, hin1, pk_le (pl (i + 2)) x (fun w7 y hy => ?_) (fun w7 => by omega)⟩⟩) (fun w6 => ⟨nz9, hin1, fun z => absurd z (by decide), fun _ => ⟨nz, hin1, pk_le (pl (i + 2)) x (fun w7 y hy => ?_) (fun w7 => by omega)⟩⟩)⟩)⟩⟩
          · rw [eL, eR, if_neg (by omega), if_neg (by omega)] at step
            rw [hy, nI_1]; exact step
          · rw [eL, eR, if_neg (by omega), if_pos ⟨rfl, w5, w7⟩] at step
            rw [hy, nI_1]; exact step
          · rw [eL, eR, if_neg (by omega), if_neg (by omega)] at step
            rw [hy, nI_1]; exact step
          · rw [eL, eR, if_pos ⟨rfl, w5, w6⟩, if_neg (by omega)] at step
            rw [hy, nI_1]; exact step
    exact ⟨_, inner (N - 2) 0 (by omega)⟩
  · obtain ⟨w1, w2, w3⟩ := hJ
    show bl_C_draw_10 _ _ _ _ _ _ _ _ _ _
    unfold bl_C_draw_10
    exact br_t (nI_le (Nat.le_refl _) (by omega)) (h W w1 w2 w3)
/-- the nearest at or before x, and behind x, where x lies before point 1 -/
theorem m_near {K : Int32 → VT → UT → Prop} (hθ : OKt θ) (hU : US θ sw U) (hla : la ≤ 48) (h53 : V (tb θ + 126) 53 = nI la) {n x : Nat} {so : Bool} (hn2 : 2 ≤ n) (hn : n ≤ 14) (hx : x < 2 ^ 20) (vp : ∀ i, i < n → V (tb θ + 157) (la + 16 + i) = nI (pl i) ∧ pl i < 2 ^ 20) (vs : so = true → ∀ i, i < n → V (tb θ + 163) i = bZ (S i)) (hs : so = false → S = tt1) (h0 : pl 0 ≤ x) (h1 : x < pl 1) (hS : so = true → S 0 = true ∧ S 1 = true) : (K (nI (lfF pl S x (n - 2))) V U → wp_M_below θ (tb θ + 126) (nI n) (nI x) (bZ so) V U K) ∧ (K (nI (rtF pl S x (n - 2))) V U → wp_M_above θ (tb θ + 126) (nI n) (nI x) (bZ so) V U K) := by
  have i16 : nI la + (16 : Int32) = nI (la + 16) := nI_add la 16
  have rb : ∀ m, rtF pl S x m < m + 2 := fun m => (rtF_gt h1 m).2.1
  have lb : ∀ m, lfF pl S x m < m + 2 := fun m => (lfF_le h0 m).2.1
  -- which points count
  have cnt : ∀ i (A B : Prop), i < n → ((S i = true → A) ∧ (S i = false → B)) → vp_in (nI i) 14 → ((¬ V (tb θ + 163) i = 0 → A) ∧ (V (tb θ + 163) i = 0 → ((¬ bZ so = 0 → B) ∧ (bZ so = 0 → A)))) := by
    intro i A B hi hAB _
    cases hso : so
    · have hA : A := hAB.1 (by rw [hs hso]; rfl)
      exact ⟨fun _ => hA, fun _ => ⟨fun z => absurd rfl z, fun _ => hA⟩⟩
    · rw [vs hso i hi]
      refine ⟨fun z => hAB.1 ?_, fun z => ⟨fun _ => hAB.2 (bZ_0.1 z), fun z2 => absurd z2 (by decide)⟩⟩
      cases e : S i
      · rw [e] at z; exact absurd rfl z
      · rfl
  have S01 : ∀ i, i < 2 → S i = true := by
    intro i hi
    cases hso : so
    · rw [hs hso]; rfl
    · have : i = 0 ∨ i = 1 := by omega
      rcases this with rfl | rfl
      · exact (hS hso).1
      · exact (hS hso).2
  constructor
  · intro hk
    have big : ∀ d i, i + 2 + d = n → wl_M_below_6 θ (tb θ + 126) (nI n) (nI x) (bZ so) K (d + 1) (nI (lfF pl S x i)) (nI (i + 2)) V U := by
      intro d
      induction d with
      | zero =>
        intro i hi
        show bl_M_below_6 _ _ _ _ _ _ _ _ _ _ _
        unfold bl_M_below_6
        rw [show n - 2 = i by omega] at hk
        exact br_t (nI_le (by omega) (by omega)) hk
      | succ d ihd =>
        intro i hi
        have hl := lb i
        have step := ihd (i + 1) (by omega)
        show bl_M_below_6 _ _ _ _ _ _ _ _ _ _ _
        unfold bl_M_below_6 wb_M_below_49 wb_M_below_74
        simp only [UM hU, IM hθ, true_and, exists_eq_left, h53, i16, nI_add]
        rw [nI_clamp (show la + 16 + (i + 2) < 2 ^ 31 by omega), nI_clamp (show la + 16 + lfF pl S x i < 2 ^ 31 by omega), nI_clamp (show i + 2 < 2 ^ 31 by omega), (vp (i + 2) (by omega)).1, (vp (lfF pl S x i) (by omega)).1]
        have p1 := (vp (i + 2) (by omega)).2
        have p2 := (vp (lfF pl S x i) (by omega)).2
        refine br_f (nI_ge (by omega) (by omega)) ⟨by omega, vp_in_nI (by omega) (by decide), fun y7 e7 => ?_⟩
        subst e7
        have eL : lfF pl S x (i + 1) = if S (i + 2) = true ∧ pl (i + 2) ≤ x ∧ pl (lfF pl S x i) < pl (i + 2) then i + 2 else lfF pl S x i := rfl
        refine pk_lt x (pl (i + 2)) (fun w y hy => ?_) (fun w => ⟨by omega, vp_in_nI (by omega) (by decide), cnt (i + 2) _ _ (by omega) ⟨fun hs1 => ⟨fun z => absurd z (nI_pos (by omega)), fun _ => ⟨by omega, vp_in_nI (by omega) (by decide), pk_le (pl (i + 2)) (pl (lfF pl S x i)) (fun w2 y hy => ?_) (fun w2 y hy => ?_)⟩⟩, fun hs1 y hy => ?_⟩ (vp_in_nI (by omega) (by decide))⟩)
        · rw [eL, if_neg (by omega)] at step; rw [hy, nI_1]; exact step
        · rw [eL, if_neg (by omega)] at step; rw [hy, nI_1]; exact step
        · rw [eL, if_pos ⟨hs1, w, w2⟩] at step; rw [hy, nI_1]; exact step
        · rw [eL, if_neg (by rw [hs1]; simp)] at step; rw [hy, nI_1]; exact step
    refine ⟨n - 2 + 1 + 1 + 1, ?_⟩
    show bl_M_below_6 _ _ _ _ _ _ _ _ _ _ _
    unfold bl_M_below_6 wb_M_below_49 wb_M_below_74
    simp only [UM hU, IM hθ, true_and, exists_eq_left, h53, i16, show (0 : Int32) = nI 0 from rfl, nI_add]
    rw [nI_clamp (show la + 16 + 0 < 2 ^ 31 by omega), nI_clamp (show 0 < 2 ^ 31 by decide), (vp 0 (by omega)).1]
    have p0 := (vp 0 (by omega)).2
    have p1 := (vp 1 (by omega)).2
    refine br_f (nI_ge (by omega) (by omega)) ⟨by omega, vp_in_nI (by omega) (by decide), fun y7 e7 => ?_⟩
    subst e7
    refine br_f (nI_nlt h0 (by omega)) ⟨by omega, vp_in_nI (by omega) (by decide), cnt 0 _ _ (by omega) ⟨fun _ => ⟨fun _ y hy => ?_, fun z => absurd (by decide) z⟩, fun z => by rw [S01 0 (by decide)] at z; cases z⟩ (vp_in_nI (by omega) (by decide))⟩
    rw [hy, nI_1]
    show bl_M_below_6 _ _ _ _ _ _ _ _ _ _ _
    unfold bl_M_below_6
    simp only [UM hU, IM hθ, true_and, exists_eq_left, h53, i16, nI_add]
    rw [nI_clamp (show la + 16 + (0 + 1) < 2 ^ 31 by omega), (vp 1 (by omega)).1]
    refine br_f (nI_ge (by omega) (by omega)) ⟨by omega, vp_in_nI (by omega) (by decide), fun y7 e7 => ?_⟩
    subst e7
    refine br_t (nI_lt h1 (by omega)) (fun y hy => ?_)
    rw [hy, nI_1]
    exact big (n - 2) 0 (by omega)
  · intro hk
    have big : ∀ d i, i + 2 + d = n → wl_M_above_6 θ (tb θ + 126) (nI n) (nI x) (bZ so) K (d + 1) (nI (rtF pl S x i)) (nI (i + 2)) V U := by
      intro d
      induction d with
      | zero =>
        intro i hi
        show bl_M_above_6 _ _ _ _ _ _ _ _ _ _ _
        unfold bl_M_above_6
        rw [show n - 2 = i by omega] at hk
        exact br_t (nI_le (by omega) (by omega)) hk
      | succ d ihd =>
        intro i hi
        have hl := rb i
        have step := ihd (i + 1) (by omega)
        show bl_M_above_6 _ _ _ _ _ _ _ _ _ _ _
        unfold bl_M_above_6 wb_M_above_49 wb_M_above_74
        simp only [UM hU, IM hθ, true_and, exists_eq_left, h53, i16, nI_add]
        rw [nI_clamp (show la + 16 + (i + 2) < 2 ^ 31 by omega), nI_clamp (show la + 16 + rtF pl S x i < 2 ^ 31 by omega), nI_clamp (show i + 2 < 2 ^ 31 by omega), (vp (i + 2) (by omega)).1, (vp (rtF pl S x i) (by omega)).1]
        have p1 := (vp (i + 2) (by omega)).2
        have p2 := (vp (rtF pl S x i) (by omega)).2
        refine br_f (nI_ge (by omega) (by omega)) ⟨by omega, vp_in_nI (by omega) (by decide), fun y7 e7 => ?_⟩
        subst e7
        have eR : rtF pl S x (i + 1) = if S (i + 2) = true ∧ x < pl (i + 2) ∧ pl (i + 2) < pl (rtF pl S x i) then i + 2 else rtF pl S x i := rfl
        refine pk_le (pl (i + 2)) x (fun w y hy => ?_) (fun w => ⟨by omega, vp_in_nI (by omega) (by decide), cnt (i + 2) _ _ (by omega) ⟨fun hs1 => ⟨fun z => absurd z (nI_pos (by omega)), fun _ => ⟨by omega, vp_in_nI (by omega) (by decide), pk_le (pl (rtF pl S x i)) (pl (i + 2)) (fun w2 y hy => ?_) (fun w2 y hy => ?_)⟩⟩, fun hs1 y hy => ?_⟩ (vp_in_nI (by omega) (by decide))⟩)
        · rw [eR, if_neg (by omega)] at step; rw [hy, nI_1]; exact step
        · rw [eR, if_neg (by omega)] at step; rw [hy, nI_1]; exact step
        · rw [eR, if_pos ⟨hs1, w, w2⟩] at step; rw [hy, nI_1]; exact step
        · rw [eR, if_neg (by rw [hs1]; simp)] at step; rw [hy, nI_1]; exact step
    refine ⟨n - 2 + 1 + 1 + 1, ?_⟩
    show bl_M_above_6 _ _ _ _ _ _ _ _ _ _ _
    unfold bl_M_above_6
    simp only [UM hU, IM hθ, true_and, exists_eq_left, h53, i16, show (0 : Int32) = nI 0 from rfl, nI_add]
    rw [nI_clamp (show la + 16 + 0 < 2 ^ 31 by omega), nI_clamp (show 0 < 2 ^ 31 by decide), (vp 0 (by omega)).1]
    have p0 := (vp 0 (by omega)).2
    have p1 := (vp 1 (by omega)).2
    refine br_f (nI_ge (by omega) (by omega)) ⟨by omega, vp_in_nI (by omega) (by decide), fun y7 e7 => ?_⟩
    subst e7
    refine br_t (nI_le h0 (by omega)) (fun y hy => ?_)
    rw [hy, nI_1]
    show bl_M_above_6 _ _ _ _ _ _ _ _ _ _ _
    unfold bl_M_above_6 wb_M_above_49 wb_M_above_74
    simp only [UM hU, IM hθ, true_and, exists_eq_left, h53, i16, nI_add]
    rw [nI_clamp (show la + 16 + (0 + 1) < 2 ^ 31 by omega), nI_clamp (show 0 + 1 < 2 ^ 31 by decide), (vp 1 (by omega)).1]
    refine br_f (nI_ge (by omega) (by omega)) ⟨by omega, vp_in_nI (by omega) (by decide), fun y7 e7 => ?_⟩
    subst e7
    refine br_f (nI_ge h1 (by omega)) ⟨by omega, vp_in_nI (by omega) (by decide), cnt 1 _ _ (by omega) ⟨fun _ => ⟨fun _ y hy => ?_, fun z => absurd (by decide) z⟩, fun z => by rw [S01 1 (by decide)] at z; cases z⟩ (vp_in_nI (by omega) (by decide))⟩
    rw [hy, nI_1]
    exact big (n - 2) 0 (by omega)
end DRAW
