-- heights and curve in the reference
section MHEIGHTS
variable {θ : TH} {V : VT} {U : UT} {sw : Bool} {gr N la : Nat} {pl num H : Nat → Nat} {S : Nat → Bool}
/-- x lies behind all points -/
theorem m_behind {K : Int32 → VT → UT → Prop} (hθ : OKt θ) (hU : US θ sw U) (hla : la ≤ 48) (h53 : V (tb θ + 126) 53 = nI la) {x : Nat} (hpn : PNm gr N pl num) (hx : x < 2 ^ 20) (vp : ∀ i, i < N → V (tb θ + 157) (la + 16 + i) = nI (pl i)) (vs : ∀ i, i < N → V (tb θ + 163) i = bZ (S i)) (h1 : pl 1 ≤ x) (hS : S 0 = true ∧ S 1 = true) : (K (nI 1) V U → wp_M_below θ (tb θ + 126) (nI N) (nI x) 1 V U K) ∧ (K (-1) V U → wp_M_above θ (tb θ + 126) (nI N) (nI x) 1 V U K) := by
  have hpn' := hpn
  obtain ⟨g1, g2, g3, g4, g5, g6, g7, g8, g9⟩ := hpn
  have i16 : nI la + (16 : Int32) = nI (la + 16) := nI_add la 16
  constructor
  · intro hk
    have big : ∀ d i, i + d = N → 2 ≤ i → wl_M_below_6 θ (tb θ + 126) (nI N) (nI x) 1 K (d + 1) (nI 1) (nI i) V U := by
      intro d
      induction d with
      | zero =>
        intro i hi hi2
        show bl_M_below_6 _ _ _ _ _ _ _ _ _ _ _
        unfold bl_M_below_6
        exact br_t (nI_le (by omega) (by omega)) hk
      | succ d ihd =>
        intro i hi hi2
        have step := ihd (i + 1) (by omega) (by omega)
        show bl_M_below_6 _ _ _ _ _ _ _ _ _ _ _
        unfold bl_M_below_6 wb_M_below_49 wb_M_below_74
        simp only [UM hU, IM hθ, true_and, exists_eq_left, h53, i16, nI_add]
        rw [nI_clamp (show la + 16 + i < 2 ^ 31 by omega), nI_clamp (show la + 16 + 1 < 2 ^ 31 by omega), nI_clamp (show i < 2 ^ 31 by omega), vp i (by omega), vp 1 (by omega), vs i (by omega)]
        have p1 := g6 i (by omega) (by omega)
        refine br_f (nI_ge (by omega) (by omega)) ⟨by omega, vp_in_nI (by omega) (by decide), fun y7 e7 => ?_⟩
        subst e7
        have core : ((nI 1 < 0 → ∀ y_25 : Int32, y_25 = nI i + (1 : Int32) → wl_M_below_6 θ (tb θ + 126) (nI N) (nI x) 1 K (d + 1) (nI i) y_25 V U) ∧ (¬ nI 1 < 0 → tb θ + 157 ≠ 0 ∧ vp_in (nI (la + 16 + 1)) 96 ∧ ((nI (pl i) ≤ nI (pl 1) → ∀ y_24 : Int32, y_24 = nI i + (1 : Int32) → wl_M_below_6 θ (tb θ + 126) (nI N) (nI x) 1 K (d + 1) (nI 1) y_24 V U) ∧ (¬ nI (pl i) ≤ nI (pl 1) → ∀ y_25 : Int32, y_25 = nI i + (1 : Int32) → wl_M_below_6 θ (tb θ + 126) (nI N) (nI x) 1 K (d + 1) (nI i) y_25 V U)))) := by
          refine ⟨fun z => absurd z (by decide), fun _ => ⟨by omega, vp_in_nI (by omega) (by decide), pk_le (pl i) (pl 1) (fun w y hy => ?_) (fun w => by omega)⟩⟩
          rw [hy, nI_1]; exact step
        refine pk_lt x (pl i) (fun w => by omega) (fun w => ⟨by omega, vp_in_nI (by omega) (by decide), fun _ => core, fun z => ⟨fun _ y hy => ?_, fun z2 => absurd z2 (by decide)⟩⟩)
        rw [hy, nI_1]; exact step
    refine ⟨N - 2 + 1 + 1 + 1, ?_⟩
    show bl_M_below_6 _ _ _ _ _ _ _ _ _ _ _
    unfold bl_M_below_6 wb_M_below_49 wb_M_below_74
    simp only [UM hU, IM hθ, true_and, exists_eq_left, h53, i16, show (0 : Int32) = nI 0 from rfl, nI_add]
    rw [nI_clamp (show la + 16 + 0 < 2 ^ 31 by omega), nI_clamp (show 0 < 2 ^ 31 by decide), vp 0 (by omega), vs 0 (by omega), hS.1]
    refine br_f (nI_ge (by omega) (by omega)) ⟨by omega, vp_in_nI (by omega) (by decide), fun y7 e7 => ?_⟩
    subst e7
    refine br_f (nI_nlt (by omega) (by omega)) ⟨by omega, vp_in_nI (by omega) (by decide), fun _ => ⟨fun _ y hy => ?_, fun z => absurd (by decide) z⟩, fun z => absurd z (by decide)⟩
    rw [hy, nI_1]
    show bl_M_below_6 _ _ _ _ _ _ _ _ _ _ _
    unfold bl_M_below_6 wb_M_below_49 wb_M_below_74
    simp only [UM hU, IM hθ, true_and, exists_eq_left, h53, i16, nI_add]
    rw [nI_clamp (show la + 16 + (0 + 1) < 2 ^ 31 by omega), nI_clamp (show la + 16 + 0 < 2 ^ 31 by omega), nI_clamp (show 0 + 1 < 2 ^ 31 by decide), vp 1 (by omega), vp 0 (by omega), vs 1 (by omega), hS.2]
    refine br_f (nI_ge (by omega) (by omega)) ⟨by omega, vp_in_nI (by omega) (by decide), fun y7 e7 => ?_⟩
    subst e7
    have p01 := g6 0 (by omega) (by decide)
    refine br_f (nI_nlt h1 (by omega)) ⟨by omega, vp_in_nI (by omega) (by decide), fun _ => ⟨fun z => absurd z (by decide), fun _ => ⟨by omega, vp_in_nI (by omega) (by decide), pk_le (pl 1) (pl 0) (fun w => by omega) (fun w y hy => ?_)⟩⟩, fun z => absurd z (by decide)⟩
    rw [hy, nI_1]
    exact big (N - 2) 2 (by omega) (by omega)
  · intro hk
    have big : ∀ d i, i + d = N → wl_M_above_6 θ (tb θ + 126) (nI N) (nI x) 1 K (d + 1) (-1) (nI i) V U := by
      intro d
      induction d with
      | zero =>
        intro i hi
        show bl_M_above_6 _ _ _ _ _ _ _ _ _ _ _
        unfold bl_M_above_6
        exact br_t (nI_le (by omega) (by omega)) hk
      | succ d ihd =>
        intro i hi
        have step := ihd (i + 1) (by omega)
        show bl_M_above_6 _ _ _ _ _ _ _ _ _ _ _
        unfold bl_M_above_6
        simp only [UM hU, IM hθ, true_and, exists_eq_left, h53, i16, nI_add]
        rw [nI_clamp (show la + 16 + i < 2 ^ 31 by omega), vp i (by omega)]
        have p1 : pl i ≤ pl 1 := by
          by_cases e : i = 1
          · subst e; omega
          · have := g6 i (by omega) e; omega
        refine br_f (nI_ge (by omega) (by omega)) ⟨by omega, vp_in_nI (by omega) (by decide), fun y7 e7 => ?_⟩
        subst e7
        refine br_t (nI_le (by omega) (by omega)) (fun y hy => ?_)
        rw [hy, nI_1]; exact step
    exact ⟨_, big N 0 (by omega)⟩
theorem m_draw {K : Int32 → VT → UT → Prop} (hθ : OKt θ) (hU : US θ sw U) (hla : la ≤ 48) (h53 : V (tb θ + 126) 53 = nI la) {x : Nat} (hpn : PNm gr N pl num) (hx : x ≤ 64) (v0 : V (tb θ + 157) la = nI (gr + 1)) (vp : ∀ i, i < N → V (tb θ + 157) (la + 16 + i) = nI (pl i)) (vh : ∀ i, i < N → V (tb θ + 162) i = nI (H i) ∧ H i < 32) (vs : ∀ i, i < N → V (tb θ + 163) i = bZ (S i)) (hS : S 0 = true ∧ S 1 = true) (hk : K (nI (drX H pl S (gr + 1) (N - 2) x)) V U) : wp_M_draw θ (tb θ + 126) (nI N) (nI x) V U K := by
  have hpn' := hpn
  obtain ⟨g1, g2, g3, g4, g5, g6, g7, g8, g9⟩ := hpn
  have i0 : nI la + (0 : Int32) = nI la := nI_add la 0
  unfold wp_M_draw
  simp only [IM hθ, true_and]
  unfold drX at hk
  by_cases q : x < pl 1
  · rw [if_pos q] at hk
    have near := fun K => m_near (K := K) (θ := θ) (V := V) (U := U) (sw := sw) (S := S) (pl := pl) hθ hU hla h53 (n := N) (x := x) (so := true) g2 g3 (by omega) (fun i hi => ⟨vp i hi, by have := pl_b hpn' hi; omega⟩) (fun _ => vs) (fun z => by cases z) (by omega) q (fun _ => hS)
    refine (near _).1 ((near _).2 ?_)
    simp only [UM hU, IM hθ, true_and, exists_eq_left, h53, i0]
    have hl := lfF_le (pl := pl) (P := S) (x := x) (by omega) (N - 2)
    have hr := rtF_gt (pl := pl) (P := S) (x := x) q (N - 2)
    rw [nI_clamp (show la < 2 ^ 31 by omega), v0]
    refine ⟨by omega, vp_in_nI (by omega) (by decide), fun y hy => ?_⟩
    subst hy
    refine br_t (nI_pos' (by omega)) (m_line (h := H) (pl := pl) hθ hU hla h53 (by omega) (by omega) (by omega) (by omega) ⟨(vh _ (by omega)).1, (vh _ (by omega)).1⟩ ⟨vp _ (by omega), vp _ (by omega)⟩ ⟨(vh _ (by omega)).2, (vh _ (by omega)).2⟩ hl.1 hr.1 (pl_b hpn' (by omega)) hk)
  · rw [if_neg q] at hk
    have near := fun K => m_behind (K := K) (θ := θ) (V := V) (U := U) (sw := sw) (S := S) (pl := pl) hθ hU hla h53 hpn' (x := x) (by omega) vp vs (by omega) hS
    refine (near _).1 ((near _).2 ?_)
    simp only [UM hU, IM hθ, true_and, exists_eq_left, h53, i0]
    rw [nI_clamp (show la < 2 ^ 31 by omega), v0]
    refine ⟨by omega, vp_in_nI (by omega) (by decide), fun y hy => ?_⟩
    subst hy
    rw [nI_clamp (show 1 < 2 ^ 31 by decide), (vh 1 (by omega)).1, pk_mul]
    exact br_f (by decide) ⟨by omega, vp_in_nI (by decide) (by decide), hk⟩
theorem m_heights {K : VT → UT → Prop} (hθ : OKt θ) (hU : US θ sw U) (hla : la ≤ 48) (h53 : V (tb θ + 126) 53 = nI la) (hpn : PNm gr N pl num) (v0 : V (tb θ + 157) la = nI (gr + 1)) (vp : ∀ i, i < N → V (tb θ + 157) (la + 16 + i) = nI (pl i)) (vn : ∀ i, i < N → V (tb θ + 161) i = nI (num i)) (h : ∀ W, (∀ q, q ≠ tb θ + 162 → q ≠ tb θ + 163 → W q = V q) → (∀ i, i < N → W (tb θ + 162) i = nI ((hgS gr pl num (N - 2)).1 i) ∧ W (tb θ + 163) i = bZ ((hgS gr pl num (N - 2)).2 i)) → K W U) : wp_M_heights θ (tb θ + 126) (nI N) V U K := by
  have hpn' := hpn
  obtain ⟨g1, g2, g3, g4, g5, g6, g7, g8, g9⟩ := hpn
  have i16 : nI la + (16 : Int32) = nI (la + 16) := nI_add la 16
  have hrb := rgG_b gr
  refine loop1 N (fun k W => (∀ q, q ≠ tb θ + 162 → q ≠ tb θ + 163 → W q = V q) ∧ ∀ i, i < k → W (tb θ + 162) i = nI ((hgS gr pl num (k - 2)).1 i) ∧ W (tb θ + 163) i = bZ ((hgS gr pl num (k - 2)).2 i)) ⟨fun _ _ _ => rfl, fun i hi => (by omega)⟩ (fun f k W hk hJ hgo => ?_) (fun f W hJ => ?_)
  · obtain ⟨w1, w2⟩ := hJ
    have wn : W (tb θ + 161) k = nI (num k) := by rw [w1 _ (by omega) (by omega)]; exact vn k hk
    have wp : ∀ i, i < N → W (tb θ + 157) (la + 16 + i) = nI (pl i) := fun i hi => by rw [w1 _ (by omega) (by omega)]; exact vp i hi
    have w53 : W (tb θ + 126) 53 = nI la := by rw [w1 _ (by omega) (by omega)]; exact h53
    have hin : vp_in (nI k) 14 := vp_in_nI (by omega) (by decide)
    show bl_M_heights_2 _ _ _ _ _ _ _ _
    unfold bl_M_heights_2
    simp only [UM hU, IM hθ, true_and]
    refine br_f (nI_ge hk (by omega)) ⟨by omega, pk_le 2 k (fun k2 => ?_) (fun k2 => ?_)⟩
    · unfold wb_M_heights_22
      simp only [UM hU, IM hθ, true_and, exists_eq_left]
      rw [nI_clamp (show k < 2 ^ 31 by omega)]
      refine ⟨hin, Or.inl rfl, fun V9 h9 => ⟨by omega, by omega, hin, hin, fun V19 h19 => ?_⟩⟩
      rw [h9, up2_ne (show tb θ + 161 ≠ tb θ + 163 by omega), wn] at h19
      have x1 : ∀ q, q ≠ tb θ + 162 → q ≠ tb θ + 163 → V19 q = V q := fun q a b => by rw [h19, up2_ne a, up2_ne b]; exact w1 q a b
      have x2 : ∀ i, i < k → V19 (tb θ + 162) i = nI ((hgS gr pl num (k - 2)).1 i) ∧ V19 (tb θ + 163) i = bZ ((hgS gr pl num (k - 2)).2 i) := fun i hi => by rw [h19, up2_ab (by omega), up2_ne (by omega), up2_ne (by omega), up2_ab (by omega)]; exact w2 i hi
      have x3 : V19 (tb θ + 163) k = 0 := by rw [h19, up2_ne (by omega), up2_aa]
      clear h19 h9
      have xp : ∀ i, i < N → V19 (tb θ + 157) (la + 16 + i) = nI (pl i) := fun i hi => by rw [x1 _ (by omega) (by omega)]; exact vp i hi
      have x53 : V19 (tb θ + 126) 53 = nI la := by rw [x1 _ (by omega) (by omega)]; exact h53
      have xn : V19 (tb θ + 161) k = nI (num k) := by rw [x1 _ (by omega) (by omega)]; exact vn k hk
      rw [x53, i16, nI_add, nI_clamp (show la + 16 + k < 2 ^ 31 by omega), xp k hk]
      have hx1 : pl k < pl 1 := g6 k hk (by omega)
      have hl := lfF_le (pl := pl) (P := tt1) (x := pl k) (by omega) (k - 2)
      have hr := rtF_gt (pl := pl) (P := tt1) (x := pl k) hx1 (k - 2)
      refine br_f (nI_nlt (b := 2) k2 (by omega)) ⟨by omega, vp_in_nI (by omega) (by decide), fun y hy => ?_⟩
      subst hy
      have near := fun K => m_near (K := K) (θ := θ) (V := V19) (U := U) (sw := sw) (S := tt1) (pl := pl) hθ hU hla x53 (n := k) (x := pl k) (so := false) k2 (by omega) (by have := pl_b hpn' hk; omega) (fun i hi => ⟨xp i (by omega), by have := pl_b hpn' (i := i) (by omega); omega⟩) (fun z => by cases z) (fun _ => rfl) (by omega) hx1 (fun z => by cases z)
      refine (near _).1 ((near _).2 ?_)
      have hlt1 := hgS_lt hpn' (m := k - 2) (by omega) _ hl.2.1
      have hlt2 := hgS_lt hpn' (m := k - 2) (by omega) _ hr.2.1
      have hbk := pl_b hpn' hk
      refine m_line (h := (hgS gr pl num (k - 2)).1) (pl := pl) (f := 1) hθ hU hla x53 (by omega) (by omega) (by decide) (by omega) ⟨(x2 _ (by omega)).1, (x2 _ (by omega)).1⟩ ⟨xp _ (by omega), xp _ (by omega)⟩ ⟨by omega, by omega⟩ hl.1 hr.1 (pl_b hpn' (by omega)) ?_
      have hq : lnH (hgS gr pl num (k - 2)).1 pl 1 (lfF pl tt1 (pl k) (k - 2)) (rtF pl tt1 (pl k) (k - 2)) (pl k) < rgG gr := lnH_lt hl.1 hr.1 (by rw [Nat.mul_one]; exact hlt1) (by rw [Nat.mul_one]; exact hlt2)
      simp only [UM hU, IM hθ, true_and, exists_eq_left]
      rw [x53]
      refine ⟨by omega, m_range (g := gr) hθ hU hla g1 (by rw [x1 _ (by omega) (by omega)]; exact v0) ?_⟩
      simp only [UM hU, IM hθ, true_and, exists_eq_left]
      rw [xn, pk_sub (by omega)]
      have hn8 := g9 k k2 hk
      refine ⟨by omega, hin, m_heightOf hrb.1 hrb.2 hn8 hq ⟨hin, fun V50 h50 => ?_⟩⟩
      simp only [UM hU, IM hθ, true_and, exists_eq_left]
      obtain ⟨m, rfl⟩ : ∃ m, k = m + 2 := ⟨k - 2, by omega⟩
      rw [show m + 2 - 2 = m by omega] at *
      have eH : ∀ j, (hgS gr pl num (m + 1)).1 j = if j = m + 2 then htO (rgG gr) (num (m + 2)) (lnH (hgS gr pl num m).1 pl 1 (lfF pl tt1 (pl (m + 2)) m) (rtF pl tt1 (pl (m + 2)) m) (pl (m + 2))) else (hgS gr pl num m).1 j := fun j => rfl
      have hS : ∀ j, (hgS gr pl num (m + 1)).2 j = if num (m + 2) = 0 then (if j = m + 2 then false else (hgS gr pl num m).2 j) else (decide (j = m + 2) || decide (j = lfF pl tt1 (pl (m + 2)) m) || decide (j = rtF pl tt1 (pl (m + 2)) m) || (hgS gr pl num m).2 j) := fun j => rfl
      have go : ∀ X, (∀ q, q ≠ tb θ + 162 → q ≠ tb θ + 163 → X q = V q) → (∀ j, j < m + 3 → X (tb θ + 162) j = nI ((hgS gr pl num (m + 1)).1 j) ∧ X (tb θ + 163) j = bZ ((hgS gr pl num (m + 1)).2 j)) → ∀ y : Int32, y = nI (m + 2) + 1 → wl_M_heights_2 θ (tb θ + 126) (nI N) K f y X U := by
        intro X a b y hy
        rw [hy, nI_1]
        exact hgo _ ⟨a, b⟩
      have fr0 : ∀ q, q ≠ tb θ + 162 → q ≠ tb θ + 163 → V50 q = V q := fun q a b => by rw [h50, up2_ne a]; exact x1 q a b
      have e8 : ∀ j, j < m + 3 → V50 (tb θ + 162) j = nI ((hgS gr pl num (m + 1)).1 j) := by
        intro j hj
        rw [h50, eH j]
        by_cases e : j = m + 2
        · subst e; rw [up2_aa, if_pos rfl]
        · rw [up2_ab e, if_neg e]; exact (x2 j (by omega)).1
      have e9 : V50 (tb θ + 163) = V19 (tb θ + 163) := by rw [h50]; exact up2_ne (by omega)
      have en : V50 (tb θ + 161) (m + 2) = nI (num (m + 2)) := by rw [fr0 _ (by omega) (by omega)]; exact vn _ hk
      clear h50
      rw [en, nI_clamp (show lfF pl tt1 (pl (m + 2)) m < 2 ^ 31 by omega), nI_clamp (show rtF pl tt1 (pl (m + 2)) m < 2 ^ 31 by omega)]
      refine ⟨by omega, hin, fun z => go V50 fr0 (fun j hj => ⟨e8 j hj, ?_⟩), fun z => ⟨by omega, vp_in_nI (by omega) (by decide), fun V61 h61 => ⟨vp_in_nI (by omega) (by decide), fun V63 h63 => ⟨hin, fun V65 h65 => go _ (fun q a b => ?_) (fun j hj => ⟨?_, ?_⟩)⟩⟩⟩⟩
      · have n0 : num (m + 2) = 0 := (nI_eq (b := 0) (by omega) (by decide)).1 z
        rw [hS j, if_pos n0, e9]
        by_cases e : j = m + 2
        · subst e; rw [x3, if_pos rfl]; rfl
        · rw [if_neg e]; exact (x2 j (by omega)).2
      · rw [h65, h63, h61, up2_ne b, up2_ne b, up2_ne b]; exact fr0 q a b
      · rw [h65, h63, h61, up2_ne (by omega), up2_ne (by omega), up2_ne (by omega)]; exact e8 j hj
      · have n0 : ¬ num (m + 2) = 0 := fun w => z (by rw [w]; rfl)
        rw [hS j, if_neg n0, h65, h63, h61]
        by_cases ek : j = m + 2
        · rw [ek, up2_aa]; simp [bZ]
        · rw [up2_ab ek]
          by_cases er : j = rtF pl tt1 (pl (m + 2)) m
          · rw [er, up2_aa]; simp [bZ]
          · rw [up2_ab er]
            by_cases el : j = lfF pl tt1 (pl (m + 2)) m
            · rw [el, up2_aa]; simp [bZ]
            · rw [up2_ab el, e9, (x2 j (by omega)).2]
              simp [er, el, ek]
    · unfold wb_M_heights_22
      simp only [UM hU, IM hθ, true_and, exists_eq_left]
      rw [nI_clamp (show k < 2 ^ 31 by omega)]
      refine ⟨hin, Or.inr rfl, fun V9 h9 => ⟨by omega, by omega, hin, hin, fun V19 h19 => br_t (nI_lt (b := 2) k2 (by decide)) (fun y hy => ?_)⟩⟩
      rw [h9, up2_ne (show tb θ + 161 ≠ tb θ + 163 by omega), wn] at h19
      rw [hy, nI_1, h19]
      refine hgo _ ⟨fun q a b => by rw [up2_ne a, up2_ne b]; exact w1 q a b, fun i hi => ?_⟩
      rw [show k + 1 - 2 = 0 by omega]
      rw [show k - 2 = 0 by omega] at w2
      by_cases e : i = k
      · subst e
        rw [up2_aa, up2_ne (by omega), up2_aa]
        refine ⟨rfl, ?_⟩
        show _ = bZ (decide (i < 2))
        simp [k2, bZ]
      · rw [up2_ab e, up2_ne (show tb θ + 162 ≠ tb θ + 163 by omega), up2_ne (show tb θ + 163 ≠ tb θ + 162 by omega), up2_ab e]; exact w2 i (by omega)
  · obtain ⟨w1, w2⟩ := hJ
    show bl_M_heights_2 _ _ _ _ _ _ _ _
    unfold bl_M_heights_2
    exact br_t (nI_le (Nat.le_refl _) (by omega)) (h W w1 w2)
end MHEIGHTS
