-- the heights of the points, the curve
def tt1 : Nat → Bool := fun _ => true
def hgS (gr : Nat) (pl num : Nat → Nat) : Nat → (Nat → Nat) × (Nat → Bool)
  | 0 => (num, fun i => decide (i < 2))
  | m + 1 => (fun i => if i = m + 2 then htO (rgG gr) (num (m + 2)) (lnH (hgS gr pl num m).1 pl 1 (lfF pl tt1 (pl (m + 2)) m) (rtF pl tt1 (pl (m + 2)) m) (pl (m + 2))) else (hgS gr pl num m).1 i, fun i => if num (m + 2) = 0 then (if i = m + 2 then false else (hgS gr pl num m).2 i) else (decide (i = m + 2) || decide (i = lfF pl tt1 (pl (m + 2)) m) || decide (i = rtF pl tt1 (pl (m + 2)) m) || (hgS gr pl num m).2 i))
def drX (H pl : Nat → Nat) (S : Nat → Bool) (f n x : Nat) : Nat := if x < pl 1 then lnH H pl f (lfF pl S x n) (rtF pl S x n) x else H 1 * f
/-- what is asked of points and numbers -/
def PNm (gr N : Nat) (pl num : Nat → Nat) : Prop := gr ≤ 3 ∧ 2 ≤ N ∧ N ≤ 14 ∧ pl 0 = 0 ∧ pl 1 ≤ 32 ∧ (∀ i, i < N → i ≠ 1 → pl i < pl 1) ∧ (∀ i j, i < N → j < N → pl i = pl j → i = j) ∧ (∀ i, i < 2 → num i < rgG gr) ∧ (∀ i, 2 ≤ i → i < N → num i < 8)
section RAISE
variable {θ : TH} {V : VT} {U : UT} {sw : Bool} {c gr N : Nat} {pl num : Nat → Nat}
theorem cS_self {s : RS} (h5 : V (tb θ + 25) 5 = nI s.1) (h6 : V (tb θ + 25) 6 = bZ s.2) : cS θ V s = V := by
  unfold cS
  rw [up2_self (show up2 V (tb θ + 25) 5 (nI s.1) (tb θ + 25) 6 = bZ s.2 by rw [up2_ab (by decide)]; exact h6), up2_self h5]
theorem mS_self {s : RS} (h5 : V (tb θ + 126) 39 = nI s.1) (h6 : V (tb θ + 126) 40 = bZ s.2) : mS θ V s = V := by
  unfold mS
  rw [up2_self (show up2 V (tb θ + 126) 39 (nI s.1) (tb θ + 126) 40 = bZ s.2 by rw [up2_ab (by decide)]; exact h6), up2_self h5]
theorem pl_b (h : PNm gr N pl num) {i : Nat} (hi : i < N) : pl i ≤ 32 := by
  obtain ⟨h1, h2, h3, h4, h5, h6, h7, h8, h9⟩ := h
  by_cases e : i = 1
  · subst e; exact h5
  · have := h6 i hi e; omega
theorem hgS_lt (h : PNm gr N pl num) : ∀ {m : Nat}, m + 2 ≤ N → ∀ i, i < m + 2 → (hgS gr pl num m).1 i < rgG gr
  | 0, _, i, hi => h.2.2.2.2.2.2.2.1 i hi
  | m + 1, hm, i, hi => by
    have ih := hgS_lt h (m := m) (by omega)
    obtain ⟨h1, h2, h3, h4, h5, h6, h7, h8, h9⟩ := h
    show (if i = m + 2 then _ else _) < _
    have hrb := rgG_b gr
    by_cases e : i = m + 2
    · rw [if_pos e]
      have hl := lfF_le (pl := pl) (P := tt1) (x := pl (m + 2)) (by omega) m
      have hr := rtF_gt (pl := pl) (P := tt1) (x := pl (m + 2)) (h6 (m + 2) (by omega) (by omega)) m
      refine htO_lt hrb.1 (h9 (m + 2) (by omega) (by omega)) (lnH_lt hl.1 hr.1 ?_ ?_)
      · rw [Nat.mul_one]; exact ih _ hl.2.1
      · rw [Nat.mul_one]; exact ih _ hr.2.1
    · rw [if_neg e]; exact ih i (by omega)
theorem hgS_01 : ∀ {m i : Nat}, i < 2 → (hgS gr pl num m).2 i = true ∧ (hgS gr pl num m).1 i = num i
  | 0, i, hi => ⟨by show decide (i < 2) = true; simp [hi], rfl⟩
  | m + 1, i, hi => by
    have ih := hgS_01 (m := m) hi
    refine ⟨?_, ?_⟩
    · show (if num (m + 2) = 0 then (if i = m + 2 then false else (hgS gr pl num m).2 i) else (decide (i = m + 2) || decide (i = lfF pl tt1 (pl (m + 2)) m) || decide (i = rtF pl tt1 (pl (m + 2)) m) || (hgS gr pl num m).2 i)) = true
      rw [ih.1, if_neg (show ¬ i = m + 2 by omega)]
      simp
    · show (if i = m + 2 then _ else _) = _
      rw [if_neg (by omega)]; exact ih.2
theorem s_raise {K : VT → UT → Prop} (hθ : OKt θ) (hU : US θ sw U) (hc : c = 68 ∨ c = 84) (hpn : PNm gr N pl num) (v0 : V (tb θ + c) 0 = nI gr) (v7 : V (tb θ + c) 7 = nI N) (vp : ∀ i, i < N → V (tb θ + (c + 6)) i = nI (pl i)) (vn : ∀ i, i < N → V (tb θ + (c + 7)) i = nI (num i)) (h : ∀ W, (∀ q, q ≠ tb θ + (c + 8) → q ≠ tb θ + (c + 9) → W q = V q) → (∀ i, i < N → W (tb θ + (c + 8)) i = nI ((hgS gr pl num (N - 2)).1 i) ∧ W (tb θ + (c + 9)) i = bZ ((hgS gr pl num (N - 2)).2 i)) → K W U) : wp_C_raise θ (tb θ + c) V U K := by
  have hpn' := hpn
  obtain ⟨h1, h2, h3, h4, h5, h6, h7, h8, h9⟩ := hpn
  have hrb := rgG_b gr
  have big : ∀ n m W, m + 2 + n = N → (∀ q, q ≠ tb θ + (c + 8) → q ≠ tb θ + (c + 9) → W q = V q) → (∀ i, i < m + 2 → W (tb θ + (c + 8)) i = nI ((hgS gr pl num m).1 i) ∧ W (tb θ + (c + 9)) i = bZ ((hgS gr pl num m).2 i)) → wl_C_raise_34 θ (tb θ + c) K (n + 1) (nI (m + 2)) W U := by
    intro n
    induction n with
    | zero =>
      intro m W hm w1 w2
      show bl_C_raise_34 _ _ _ _ _ _ _
      unfold bl_C_raise_34
      simp only [cpU hθ hU hc, true_and]
      rw [w1 _ (by omega) (by omega), v7]
      obtain rfl : m = N - 2 := by omega
      exact br_t (nI_le (by omega) (by omega)) (h W w1 (fun i hi => w2 i (by omega)))
    | succ n ih =>
      intro m W hm w1 w2
      show bl_C_raise_34 _ _ _ _ _ _ _
      unfold bl_C_raise_34
      simp only [cpU hθ hU hc, true_and]
      rw [w1 _ (by omega) (by omega), v7]
      refine br_f (nI_ge (by omega) (by omega)) ?_
      have wp : ∀ i, i < N → W (tb θ + (c + 6)) i = nI (pl i) := fun i hi => by rw [w1 _ (by omega) (by omega)]; exact vp i hi
      have wn : ∀ i, i < N → W (tb θ + (c + 7)) i = nI (num i) := fun i hi => by rw [w1 _ (by omega) (by omega)]; exact vn i hi
      have hx1 : pl (m + 2) < pl 1 := h6 (m + 2) (by omega) (by omega)
      -- the neighbours
      have inner : ∀ d i, i + d = m → wl_C_raise_49 θ (tb θ + c) (nI (m + 2)) (wl_C_raise_34 θ (tb θ + c) K (n + 1)) K (d + 1) (nI (lfF pl tt1 (pl (m + 2)) i)) (nI (rtF pl tt1 (pl (m + 2)) i)) (nI (i + 2)) W U := by
        intro d
        induction d with
        | zero =>
          intro i hi
          obtain rfl : i = m := by omega
          have hl := lfF_le (pl := pl) (P := tt1) (x := pl (i + 2)) (by omega) i
          have hr := rtF_gt (pl := pl) (P := tt1) (x := pl (i + 2)) hx1 i
          show bl_C_raise_49 _ _ _ _ _ _ _ _ _ _ _
          unfold bl_C_raise_49
          simp only [cpU hθ hU hc, true_and, exists_eq_left]
          rw [nI_clamp (show i + 2 < 2 ^ 31 by omega), wp (i + 2) (by omega)]
          have hin : vp_in (nI (i + 2)) 14 := vp_in_nI (by omega) (by decide)
          have hb1 := pl_b hpn' (i := rtF pl tt1 (pl (i + 2)) i) (by omega)
          have hb2 := pl_b hpn' (i := i + 2) (by omega)
          have hlt1 := hgS_lt hpn' (m := i) (by omega) _ hl.2.1
          have hlt2 := hgS_lt hpn' (m := i) (by omega) _ hr.2.1
          refine br_t (nI_le (Nat.le_refl _) (by omega)) ⟨by omega, hin, s_between (h := (hgS gr pl num i).1) (pl := pl) (f := 1) hθ hU hc (by omega) (by omega) (by decide) (by omega) ⟨(w2 _ hl.2.1).1, (w2 _ hr.2.1).1⟩ ⟨wp _ (by omega), wp _ (by omega)⟩ ⟨by omega, by omega⟩ hl.1 hr.1 hb1 ?_⟩
          simp only [cpU hθ hU hc, true_and, exists_eq_left]
          rw [wn (i + 2) (by omega)]
          have hq : lnH (hgS gr pl num i).1 pl 1 (lfF pl tt1 (pl (i + 2)) i) (rtF pl tt1 (pl (i + 2)) i) (pl (i + 2)) < rgG gr := lnH_lt hl.1 hr.1 (by rw [Nat.mul_one]; exact hlt1) (by rw [Nat.mul_one]; exact hlt2)
          have hn8 := h9 (i + 2) (by omega) (by omega)
          refine ⟨by omega, by omega, hin, s_heightOf (g := gr) hθ hU hc h1 hn8 hq (by rw [w1 _ (by omega) (by omega)]; exact v0) ⟨hin, fun V40 h40 => ?_⟩⟩
          simp only [cpU hθ hU hc, true_and, exists_eq_left]
          rw [h40, up2_ne (show tb θ + (c + 7) ≠ tb θ + (c + 8) by omega), wn (i + 2) (by omega)]
          -- go on with k + 1
          have go : ∀ X, (∀ q, q ≠ tb θ + (c + 8) → q ≠ tb θ + (c + 9) → X q = V q) → (∀ j, j < i + 3 → X (tb θ + (c + 8)) j = nI ((hgS gr pl num (i + 1)).1 j) ∧ X (tb θ + (c + 9)) j = bZ ((hgS gr pl num (i + 1)).2 j)) → ∀ y : Int32, y = nI (i + 2) + 1 → wl_C_raise_34 θ (tb θ + c) K (n + 1) y X U := by
            intro X x1 x2 y hy
            rw [hy, nI_1]
            exact ih (i + 1) X (by omega) x1 x2
          have e8 : ∀ j, j < i + 3 → up2 W (tb θ + (c + 8)) (i + 2) (nI (htO (rgG gr) (num (i + 2)) (lnH (hgS gr pl num i).1 pl 1 (lfF pl tt1 (pl (i + 2)) i) (rtF pl tt1 (pl (i + 2)) i) (pl (i + 2))))) (tb θ + (c + 8)) j = nI ((hgS gr pl num (i + 1)).1 j) := by
            intro j hj
            show _ = nI (if j = i + 2 then _ else _)
            by_cases e : j = i + 2
            · subst e; rw [up2_aa, if_pos rfl]
            · rw [up2_ab e, if_neg e]; exact (w2 j (by omega)).1
          have hS : ∀ j, (hgS gr pl num (i + 1)).2 j = if num (i + 2) = 0 then (if j = i + 2 then false else (hgS gr pl num i).2 j) else (decide (j = i + 2) || decide (j = lfF pl tt1 (pl (i + 2)) i) || decide (j = rtF pl tt1 (pl (i + 2)) i) || (hgS gr pl num i).2 j) := fun j => rfl
          have fr0 : ∀ q, q ≠ tb θ + (c + 8) → q ≠ tb θ + (c + 9) → up2 W (tb θ + (c + 8)) (i + 2) (nI (htO (rgG gr) (num (i + 2)) (lnH (hgS gr pl num i).1 pl 1 (lfF pl tt1 (pl (i + 2)) i) (rtF pl tt1 (pl (i + 2)) i) (pl (i + 2))))) q = V q := fun q a b => by rw [up2_ne a]; exact w1 q a b
          have e9 : up2 W (tb θ + (c + 8)) (i + 2) (nI (htO (rgG gr) (num (i + 2)) (lnH (hgS gr pl num i).1 pl 1 (lfF pl tt1 (pl (i + 2)) i) (rtF pl tt1 (pl (i + 2)) i) (pl (i + 2))))) (tb θ + (c + 9)) = W (tb θ + (c + 9)) := up2_ne (by omega)
          generalize up2 W (tb θ + (c + 8)) (i + 2) (nI (htO (rgG gr) (num (i + 2)) (lnH (hgS gr pl num i).1 pl 1 (lfF pl tt1 (pl (i + 2)) i) (rtF pl tt1 (pl (i + 2)) i) (pl (i + 2))))) = Y at e8 fr0 e9 ⊢
          unfold wb_C_raise_183
          simp only [cpU hθ hU hc, true_and, exists_eq_left]
          rw [nI_clamp (show i + 2 < 2 ^ 31 by omega)]
          refine ⟨by omega, by omega, hin, fun z => ⟨hin, Or.inl rfl, fun V60 h60 => ⟨by omega, hin, ?_⟩⟩, fun z => ⟨hin, Or.inr rfl, fun V60 h60 => ⟨by omega, hin, ?_⟩⟩⟩
          · have n0 : num (i + 2) = 0 := (nI_eq (b := 0) (by omega) (by decide)).1 z
            rw [h60, up2_aa]
            refine ⟨fun _ => go _ (fun q a b => by rw [up2_ne b]; exact fr0 q a b) (fun j hj => ⟨by rw [up2_ne (by omega)]; exact e8 j hj, ?_⟩), fun w => absurd rfl w⟩
            rw [hS j, if_pos n0]
            by_cases e : j = i + 2
            · subst e; rw [up2_aa, if_pos rfl]; rfl
            · rw [up2_ab e, if_neg e, e9]; exact (w2 j (by omega)).2
          · have n0 : ¬ num (i + 2) = 0 := fun w => z (by rw [w]; rfl)
            rw [h60, up2_aa, nI_clamp (show lfF pl tt1 (pl (i + 2)) i < 2 ^ 31 by omega), nI_clamp (show rtF pl tt1 (pl (i + 2)) i < 2 ^ 31 by omega)]
            refine ⟨fun w => absurd w (by decide), fun _ => ⟨vp_in_nI (by omega) (by decide), fun V69 h69 => ⟨vp_in_nI (by omega) (by decide), fun V71 h71 => go _ (fun q a b => ?_) (fun j hj => ⟨?_, ?_⟩)⟩⟩⟩
            · rw [h71, h69, up2_ne b, up2_ne b, up2_ne b]; exact fr0 q a b
            · rw [h71, h69, up2_ne (by omega), up2_ne (by omega), up2_ne (by omega)]; exact e8 j hj
            · rw [hS j, if_neg n0, h71, h69]
              by_cases er : j = rtF pl tt1 (pl (i + 2)) i
              · rw [er, up2_aa]; simp [bZ]
              · rw [up2_ab er]
                by_cases el : j = lfF pl tt1 (pl (i + 2)) i
                · rw [el, up2_aa]; simp [bZ]
                · rw [up2_ab el]
                  by_cases ek : j = i + 2
                  · rw [ek, up2_aa]; simp [bZ]
                  · rw [up2_ab ek, e9, (w2 j (by omega)).2]
                    simp [er, el, ek]
        | succ d ihd =>
          intro i hi
          have hl := lfF_le (pl := pl) (P := tt1) (x := pl (m + 2)) (by omega) i
          have hr := rtF_gt (pl := pl) (P := tt1) (x := pl (m + 2)) hx1 i
          show bl_C_raise_49 _ _ _ _ _ _ _ _ _ _ _
          unfold bl_C_raise_49 wb_C_raise_90
          simp only [cpU hθ hU hc, true_and, exists_eq_left]
          have hne : pl (i + 2) ≠ pl (m + 2) := fun w => by have := h7 _ _ (by omega) (by omega) w; omega
          have q1 := pl_b hpn' (i := i + 2) (by omega)
          have q2 := pl_b hpn' (i := m + 2) (by omega)
          have q3 := pl_b hpn' (i := lfF pl tt1 (pl (m + 2)) i) (by omega)
          have q4 := pl_b hpn' (i := rtF pl tt1 (pl (m + 2)) i) (by omega)
          rw [nI_clamp (show i + 2 < 2 ^ 31 by omega), nI_clamp (show m + 2 < 2 ^ 31 by omega), nI_clamp (show lfF pl tt1 (pl (m + 2)) i < 2 ^ 31 by omega), nI_clamp (show rtF pl tt1 (pl (m + 2)) i < 2 ^ 31 by omega), wp (i + 2) (by omega), wp (m + 2) (by omega), wp _ (by omega : lfF pl tt1 (pl (m + 2)) i < N), wp _ (by omega : rtF pl tt1 (pl (m + 2)) i < N)]
          have hin1 : vp_in (nI (i + 2)) 14 := vp_in_nI (by omega) (by decide)
          have hin2 : vp_in (nI (m + 2)) 14 := vp_in_nI (by omega) (by decide)
          have hin3 : vp_in (nI (lfF pl tt1 (pl (m + 2)) i)) 14 := vp_in_nI (by omega) (by decide)
          have hin4 : vp_in (nI (rtF pl tt1 (pl (m + 2)) i)) 14 := vp_in_nI (by omega) (by decide)
          have nz : ¬ tb θ + (c + 6) = 0 := by omega
          have step := ihd (i + 1) (by omega)
          have eL : lfF pl tt1 (pl (m + 2)) (i + 1) = if tt1 (i + 2) = true ∧ pl (i + 2) ≤ pl (m + 2) ∧ pl (lfF pl tt1 (pl (m + 2)) i) < pl (i + 2) then i + 2 else lfF pl tt1 (pl (m + 2)) i := rfl
          have eR : rtF pl tt1 (pl (m + 2)) (i + 1) = if tt1 (i + 2) = true ∧ pl (m + 2) < pl (i + 2) ∧ pl (i + 2) < pl (rtF pl tt1 (pl (m + 2)) i) then i + 2 else rtF pl tt1 (pl (m + 2)) i := rfl
          refine br_f (nI_ge (by omega) (by omega)) ⟨by omega, hin1, hin2, pk_le (pl (m + 2)) (pl (i + 2)) (fun w => ?_) (fun w => ?_)⟩
          · have eL' : lfF pl tt1 (pl (m + 2)) (i + 1) = lfF pl tt1 (pl (m + 2)) i := by rw [eL, if_neg (by omega)]
            rw [eL'] at step
            refine ⟨nz, hin1, hin2, pk_le (pl (i + 2)) (pl (m + 2)) (fun w2 => by omega) (fun w2 => ⟨hin4, pk_le (pl (rtF pl tt1 (pl (m + 2)) i)) (pl (i + 2)) (fun w3 y hy => ?_) (fun w3 y hy => ?_)⟩)⟩
            · rw [eR, if_neg (by omega)] at step
              rw [hy, nI_1]; exact step
            · rw [eR, if_pos ⟨rfl, w2, w3⟩] at step
              rw [hy, nI_1]; exact step
          · have eR' : rtF pl tt1 (pl (m + 2)) (i + 1) = rtF pl tt1 (pl (m + 2)) i := by rw [eR, if_neg (by omega)]
            rw [eR'] at step
            refine ⟨hin3, pk_le (pl (i + 2)) (pl (lfF pl tt1 (pl (m + 2)) i)) (fun w2 => ?_) (fun w2 => ?_)⟩
            · rw [eL, if_neg (by omega)] at step
              refine ⟨nz, hin1, hin2, pk_le (pl (i + 2)) (pl (m + 2)) (fun w3 y hy => ?_) (fun w3 => by omega)⟩
              rw [hy, nI_1]; exact step
            · rw [eL, if_pos ⟨rfl, by omega, w2⟩] at step
              refine ⟨nz, hin1, hin2, pk_le (pl (i + 2)) (pl (m + 2)) (fun w3 y hy => ?_) (fun w3 => by omega)⟩
              rw [hy, nI_1]; exact step
      exact ⟨_, inner m 0 (by omega)⟩
  refine loop1 2 (fun k W => (∀ q, q ≠ tb θ + (c + 8) → q ≠ tb θ + (c + 9) → W q = V q) ∧ ∀ i, i < k → W (tb θ + (c + 8)) i = nI (num i) ∧ W (tb θ + (c + 9)) i = 1) ⟨fun _ _ _ => rfl, fun i hi => (by omega)⟩ (fun f k W hk hJ hgo => ?_) (fun f W hJ => ?_)
  · obtain ⟨w1, w2⟩ := hJ
    show bl_C_raise_2 _ _ _ _ _ _ _
    unfold bl_C_raise_2
    simp only [cpU hθ hU hc, true_and, exists_eq_left]
    rw [nI_clamp (show k < 2 ^ 31 by omega), w1 (tb θ + (c + 7)) (by omega) (by omega), vn k (by omega)]
    have hin : vp_in (nI k) 14 := vp_in_nI (by omega) (by decide)
    refine br_f (nI_ge (b := 2) hk (by decide)) ⟨by omega, by omega, hin, hin, fun V11 h11 => ⟨by omega, hin, fun V16 h16 y hy => ?_⟩⟩
    rw [hy, nI_1, h16, h11]
    refine hgo _ ⟨fun q a b => ?_, fun i hi => ?_⟩
    · rw [up2_ne b, up2_ne a]; exact w1 q a b
    · by_cases e : i = k
      · subst e; rw [up2_ne (by omega), up2_aa, up2_aa]; exact ⟨rfl, rfl⟩
      · rw [up2_ne (show tb θ + (c + 8) ≠ tb θ + (c + 9) by omega), up2_ab e, up2_ab e, up2_ne (show tb θ + (c + 9) ≠ tb θ + (c + 8) by omega)]; exact w2 i (by omega)
  · obtain ⟨w1, w2⟩ := hJ
    show bl_C_raise_2 _ _ _ _ _ _ _
    unfold bl_C_raise_2
    refine br_t (by decide) ⟨_, big (N - 2) 0 W (by omega) w1 (fun i hi => ⟨(w2 i hi).1, ?_⟩)⟩
    rw [(w2 i hi).2]
    show _ = bZ (decide (i < 2))
    have : decide (i < 2) = true := by simp; omega
    rw [this]; rfl
end RAISE
