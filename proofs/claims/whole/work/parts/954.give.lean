-- the words of a book, both sides
def wdO (ln : Nat → Nat) (E : Nat) : Bool := decide (krs ln E = 256) || (decide (cnU ln E = 1) && decide (krs ln E = 128))
def sgl (ln : Nat → Nat) : Nat → Nat
  | 0 => 0
  | k + 1 => if 0 < ln k then ln k else sgl ln k
theorem krs_le (ln : Nat → Nat) : ∀ k, krs ln k ≤ 256 * k
  | 0 => Nat.le_refl _
  | k + 1 => by
    have h := krs_le ln k
    have h2 : 2 ^ (8 - ln k) ≤ 2 ^ 8 := p2le (by omega)
    show krs ln k + (if 0 < ln k then 2 ^ (8 - ln k) else 0) ≤ _
    split <;> omega
theorem krs_0 {ln : Nat → Nat} : ∀ {k : Nat}, cnU ln k = 0 → krs ln k = 0
  | 0, _ => rfl
  | k + 1, h => by
    have h' : cnU ln k + (if 0 < ln k then 1 else 0) = 0 := h
    show krs ln k + (if 0 < ln k then 2 ^ (8 - ln k) else 0) = 0
    by_cases hk : 0 < ln k
    · rw [if_pos hk] at h'; omega
    · rw [if_neg hk]
      have := krs_0 (show cnU ln k = 0 by omega)
      omega
theorem krs_1 {ln : Nat → Nat} : ∀ {k : Nat}, cnU ln k = 1 → krs ln k = 2 ^ (8 - sgl ln k) ∧ 0 < sgl ln k
  | 0, h => by cases h
  | k + 1, h => by
    have h' : cnU ln k + (if 0 < ln k then 1 else 0) = 1 := h
    unfold sgl
    show krs ln k + (if 0 < ln k then 2 ^ (8 - ln k) else 0) = _ ∧ _
    by_cases hk : 0 < ln k
    · rw [if_pos hk] at h'
      rw [if_pos hk, if_pos hk, krs_0 (show cnU ln k = 0 by omega)]
      exact ⟨by omega, hk⟩
    · rw [if_neg hk] at h'
      rw [if_neg hk, if_neg hk]
      have := krs_1 (show cnU ln k = 1 by omega)
      exact ⟨by omega, this.2⟩
theorem sgl_le {ln : Nat → Nat} : ∀ {k : Nat}, (∀ e, e < k → ln e ≤ 8) → sgl ln k ≤ 8
  | 0, _ => Nat.zero_le 8
  | k + 1, h => by
    unfold sgl
    split
    · exact h k (by omega)
    · exact sgl_le (fun e he => h e (by omega))
theorem sgl_128 {x : Nat} (h0 : 0 < x) (h8 : x ≤ 8) : 2 ^ (8 - x) = 128 ↔ x = 1 := by
  have : x = 1 ∨ x = 2 ∨ x = 3 ∨ x = 4 ∨ x = 5 ∨ x = 6 ∨ x = 7 ∨ x = 8 := by omega
  rcases this with rfl | rfl | rfl | rfl | rfl | rfl | rfl | rfl <;> decide
theorem wdO_le {ln : Nat → Nat} {E : Nat} (h : wdO ln E = true) : krs ln E ≤ 256 := by
  unfold wdO at h
  simp only [Bool.or_eq_true, decide_eq_true_eq, Bool.and_eq_true] at h
  omega
theorem words_ok {ln cd : Nat → Nat} {E : Nat} (hl : ∀ e, e < E → ln e ≤ 8) (h : wdO ln E = true) (hg : GRE ln cd E) (hb : BUD (frc ln cd E) (256 - krs ln E)) : CWok E ln cd := by
  refine ⟨fun e he => ⟨hl e he, fun hp => ((hg e he).2 hp).1⟩, ?_⟩
  unfold wdO at h
  simp only [Bool.or_eq_true, decide_eq_true_eq, Bool.and_eq_true] at h
  rcases h with h | h
  · rw [h, Nat.sub_self] at hb
    exact Or.inr (fun v hv => words_cover hb hv)
  · exact Or.inl h.1
section GIVE
variable {θ : TH} {V : VT} {U : UT} {sw : Bool} {k E : Nat} {ln cd : Nat → Nat}
theorem shr_pw {l sh v : Nat} (hl : l ≤ 8) (hs : sh ≤ l) (hv : v < 2 ^ l) : nI (2 ^ l + v) >>> ((nI l - nI sh) &&& 31) = nI (2 ^ sh + v / 2 ^ (l - sh)) := by
  have h1 : 2 ^ l ≤ 2 ^ 8 := p2le hl
  rw [pk_sub hs, pk_shrN (by omega) _ (l - sh) (sh31 (by omega))]
  congr 1
  rw [p2split hs, Nat.mul_comm, Nat.mul_add_div (p2pos _)]
theorem shr_cd {l sh v : Nat} (hl : l ≤ 8) (hs : sh ≤ l) (hv : v < 2 ^ l) : nI v >>> ((nI l - nI sh) &&& 31) = nI (v / 2 ^ (l - sh)) := by
  have h1 : 2 ^ l ≤ 2 ^ 8 := p2le hl
  rw [pk_sub hs, pk_shrN (by omega) _ (l - sh) (sh31 (by omega))]
theorem div_lt8 {l sh v : Nat} (hl : l ≤ 8) (hv : v < 2 ^ l) : v / 2 ^ (l - sh) < 256 := by
  have h1 : 2 ^ l ≤ 2 ^ 8 := p2le hl
  have := Nat.div_le_self v (2 ^ (l - sh))
  omega
theorem s_isFree {K : Int32 → VT → UT → Prop} (hθ : OKt θ) (hU : US θ sw U) (hk : k < 4) {e0 v : Nat} (h0 : e0 < E) (h8 : E ≤ 8) (hL : ∀ e, e < E → V (tb θ + (107 + 5 * k)) e = nI (ln e) ∧ ln e ≤ 8) (hM : ∀ e, e < e0 → 0 < ln e → V (tb θ + (108 + 5 * k)) e = nI (2 ^ ln e + cd e) ∧ cd e < 2 ^ ln e) (hl : 0 < ln e0) (hv : v < 2 ^ ln e0) (hy : fre ln cd e0 v → K 1 V U) (hn : ¬ fre ln cd e0 v → K 0 V U) : wp_B_isFree θ (tb θ + (106 + 5 * k)) (nI (2 ^ ln e0 + v)) (nI e0) V U K := by
  unfold wp_B_isFree
  simp only [bkU hθ hU hk, true_and, exists_eq_left]
  refine ⟨by omega, vp_in_nI (by omega) (by decide), fun y hy' => ?_⟩
  rw [nI_clamp (by omega), (hL e0 h0).1] at hy'
  subst hy'
  have hl8 := (hL e0 h0).2
  refine loop1 e0 (fun e V1 => V1 = V ∧ ∀ j, j < e → 0 < ln j → v / 2 ^ (ln e0 - min (ln e0) (ln j)) ≠ cd j / 2 ^ (ln j - min (ln e0) (ln j))) ⟨rfl, fun j hj => (by omega)⟩ (fun f e V1 he hJ hgo => ?_) (fun f V1 hJ => ?_)
  · obtain ⟨rfl, hC⟩ := hJ
    show bl_B_isFree_10 _ _ _ _ _ _ _ _ _ _
    unfold bl_B_isFree_10 wb_B_isFree_61
    simp only [bkU hθ hU hk, true_and, exists_eq_left]
    rw [nI_clamp (show e < 2 ^ 31 by omega), (hL e (by omega)).1]
    have hle := (hL e (by omega)).2
    have hin : vp_in (nI e) 8 := vp_in_nI (by omega) (by decide)
    refine br_f (nI_ge he (by omega)) ⟨by omega, hin, fun y2 hy2 => ⟨by omega, hin, ?_⟩⟩
    have emin : y2 = nI (min (ln e0) (ln e)) := by
      rw [hy2]
      by_cases q : ln e < ln e0
      · rw [if_pos (nI_lt q (by omega)), Nat.min_eq_right (by omega)]
      · rw [if_neg (nI_nlt (by omega) (by omega)), Nat.min_eq_left (by omega)]
    subst emin
    by_cases hz : 0 < ln e
    · have hnle : ¬ nI (ln e) ≤ 0 := nI_nle hz (by omega)
      obtain ⟨m1, m2⟩ := hM e he hz
      rw [m1, shr_pw hl8 (Nat.min_le_left _ _) hv, shr_pw hle (Nat.min_le_right _ _) m2]
      have b1 := div_lt8 (sh := min (ln e0) (ln e)) hl8 hv
      have b2 := div_lt8 (sh := min (ln e0) (ln e)) hle m2
      have b3 : 2 ^ min (ln e0) (ln e) ≤ 2 ^ 8 := p2le (by omega)
      rw [nI_eq (by omega) (by omega)]
      refine ⟨fun q => ⟨by omega, hin, fun q2 => absurd q2 hnle, fun _ => ⟨fun _ y3 hy3 => ?_, fun q3 => absurd trivial q3⟩⟩, fun q => ⟨by omega, hin, fun q2 => absurd q2 hnle, fun _ => ⟨fun q3 => absurd q3 (by decide), fun _ => ?_⟩⟩⟩
      · rw [hy3, nI_1]
        refine hgo _ ⟨rfl, fun j hj hp => ?_⟩
        by_cases ej : j = e
        · subst ej; intro q4; exact q (by omega)
        · exact hC j (by omega) hp
      · exact hn (fun q4 => q4 e he hz (by omega))
    · have hle0 : nI (ln e) ≤ 0 := by rw [show ln e = 0 by omega]; decide
      have cont : ∀ y3 : Int32, y3 = nI e + 1 → wl_B_isFree_10 θ (tb θ + (106 + 5 * k)) (nI (2 ^ ln e0 + v)) (nI e0) (nI (ln e0)) K f y3 V1 U := by
        intro y3 hy3
        rw [hy3, nI_1]
        refine hgo _ ⟨rfl, fun j hj hp => ?_⟩
        by_cases ej : j = e
        · subst ej; exact absurd hp hz
        · exact hC j (by omega) hp
      exact ⟨fun _ => ⟨by omega, hin, fun _ => cont, fun q2 => absurd hle0 q2⟩, fun _ => ⟨by omega, hin, fun _ => cont, fun q2 => absurd hle0 q2⟩⟩
  · obtain ⟨rfl, hC⟩ := hJ
    show bl_B_isFree_10 _ _ _ _ _ _ _ _ _ _
    unfold bl_B_isFree_10
    exact br_t (nI_le (Nat.le_refl _) (by omega)) (hy hC)
theorem s_least {K : Int32 → VT → UT → Prop} (hθ : OKt θ) (hU : US θ sw U) (hk : k < 4) {e0 : Nat} (h0 : e0 < E) (h8 : E ≤ 8) (hL : ∀ e, e < E → V (tb θ + (107 + 5 * k)) e = nI (ln e) ∧ ln e ≤ 8) (hM : ∀ e, e < e0 → 0 < ln e → V (tb θ + (108 + 5 * k)) e = nI (2 ^ ln e + cd e) ∧ cd e < 2 ^ ln e) (hl : 0 < ln e0) (hg : GRE ln cd E) (h : K (nI (2 ^ ln e0 + cd e0)) V U) : wp_B_leastFree θ (tb θ + (106 + 5 * k)) (nI e0) V U K := by
  obtain ⟨g1, g2, g3⟩ := (hg e0 h0).2 hl
  have hl8 := (hL e0 h0).2
  have hp8 : 2 ^ ln e0 ≤ 2 ^ 8 := p2le hl8
  unfold wp_B_leastFree
  simp only [bkU hθ hU hk, true_and, exists_eq_left]
  refine ⟨by omega, vp_in_nI (by omega) (by decide), fun y hy => ?_⟩
  have ey : y = nI (2 ^ ln e0) := by
    rw [hy, nI_clamp (by omega), (hL e0 h0).1, show (1 : Int32) = nI 1 from rfl, pk_shlN _ (ln e0) (sh31 (by omega)) (by omega), Nat.one_mul]
  subst ey
  have key : ∀ n v, v + n = cd e0 → wl_B_leastFree_11 θ (tb θ + (106 + 5 * k)) (nI e0) (nI (2 ^ ln e0)) K (n + 1) (nI (2 ^ ln e0 + v)) V U := by
    intro n
    induction n with
    | zero =>
      intro v hv
      obtain rfl : v = cd e0 := by omega
      show bl_B_leastFree_11 _ _ _ _ _ _ _ _ _
      unfold bl_B_leastFree_11
      simp only [bkU hθ hU hk, true_and]
      rw [show (2 : Int32) = nI 2 from rfl, pk_mul]
      refine br_f (nI_ge (by omega) (by omega)) (s_isFree hθ hU hk h0 h8 hL hM hl g1 (fun _ => ⟨fun q => absurd q (by decide), fun _ => h⟩) (fun q => absurd g2 q))
    | succ n ih =>
      intro v hv
      show bl_B_leastFree_11 _ _ _ _ _ _ _ _ _
      unfold bl_B_leastFree_11
      simp only [bkU hθ hU hk, true_and]
      rw [show (2 : Int32) = nI 2 from rfl, pk_mul]
      refine br_f (nI_ge (by omega) (by omega)) (s_isFree hθ hU hk h0 h8 hL hM hl (by omega) (fun q => absurd q (g3 v (by omega))) (fun _ => ⟨fun _ y3 hy3 => ?_, fun q => absurd rfl q⟩))
      rw [hy3, nI_1]
      exact ih (v + 1) (by omega)
  exact ⟨_, key (cd e0) 0 (by omega)⟩
theorem s_wds {K : Int32 → VT → UT → Prop} (hθ : OKt θ) (hU : US θ sw U) (hk : k < 4) (h8 : E ≤ 8) (hE : V (tb θ + (106 + 5 * k)) 0 = nI E) (hL : ∀ e, e < E → V (tb θ + (107 + 5 * k)) e = nI (ln e) ∧ ln e ≤ 8) (hg : wdO ln E = true → GRE ln cd E) (h : ∀ W, (∀ q, q ≠ tb θ + (106 + 5 * k) → q ≠ tb θ + (108 + 5 * k) → W q = V q) → (∀ j, j ≠ 4 → W (tb θ + (106 + 5 * k)) j = V (tb θ + (106 + 5 * k)) j) → (wdO ln E = true → W (tb θ + (106 + 5 * k)) 4 = nI (cnU ln E) ∧ ∀ e, e < E → W (tb θ + (108 + 5 * k)) e = (if ln e = 0 then 0 else nI (2 ^ ln e + cd e))) → K (bZ (wdO ln E)) W U) : wp_B_giveCodewords θ (tb θ + (106 + 5 * k)) V U K := by
  unfold wp_B_giveCodewords
  simp only [bkU hθ hU hk, true_and]
  intro V2 h2
  have hk1 := krs_le ln E
  have hc1 := cnU_le ln E
  -- the words
  have words : wdO ln E = true → ∀ W0, (∀ q, q ≠ tb θ + (106 + 5 * k) → W0 q = V q) → (∀ j, j ≠ 4 → W0 (tb θ + (106 + 5 * k)) j = V (tb θ + (106 + 5 * k)) j) → W0 (tb θ + (106 + 5 * k)) 4 = nI (cnU ln E) → ∃ n, wl_B_giveCodewords_92 θ (tb θ + (106 + 5 * k)) K n (0 : Int32) W0 U := by
    intro hw W0 w1 w2 w3
    have hg' := hg hw
    refine loop1 E (fun e W => (∀ q, q ≠ tb θ + (108 + 5 * k) → W q = W0 q) ∧ ∀ j, j < e → W (tb θ + (108 + 5 * k)) j = (if ln j = 0 then 0 else nI (2 ^ ln j + cd j))) ⟨fun _ _ => rfl, fun j hj => (by omega)⟩ (fun f e W he hJ hgo => ?_) (fun f W hJ => ?_)
    · obtain ⟨x1, x2⟩ := hJ
      show bl_B_giveCodewords_92 _ _ _ _ _ _ _
      unfold bl_B_giveCodewords_92
      simp only [bkU hθ hU hk, true_and, exists_eq_left]
      have hL' : ∀ e, e < E → W (tb θ + (107 + 5 * k)) e = nI (ln e) ∧ ln e ≤ 8 := fun e he => by rw [x1 _ (by omega), w1 _ (by omega)]; exact hL e he
      rw [x1 (tb θ + (106 + 5 * k)) (by omega), w2 0 (by decide), hE, nI_clamp (show e < 2 ^ 31 by omega), (hL' e he).1]
      have hin : vp_in (nI e) 8 := vp_in_nI (by omega) (by decide)
      have hle := (hL' e he).2
      refine br_f (nI_ge he (by omega)) ⟨by omega, by omega, hin, fun q => ?_, fun q => ?_⟩
      · have hz : ln e = 0 := by
          by_cases z : 0 < ln e
          · exact absurd q (nI_nle z (by omega))
          · omega
        refine ⟨hin, fun V9 h9 y hy => ?_⟩
        rw [h9, hy, nI_1]
        refine hgo _ ⟨fun q hq => (up2_ne hq).trans (x1 q hq), fun j hj => ?_⟩
        by_cases ej : j = e
        · subst ej; rw [up2_aa, if_pos hz]
        · rw [up2_ab ej]; exact x2 j (by omega)
      · have hz : 0 < ln e := by
          by_cases z : 0 < ln e
          · exact z
          · exact absurd (by rw [show ln e = 0 by omega]; decide) q
        refine s_least hθ hU hk he h8 hL' (fun j hj hp => ⟨by rw [x2 j hj, if_neg (by omega)], ((hg' j (by omega)).2 hp).1⟩) hz hg' ⟨hin, fun V9 h9 y hy => ?_⟩
        rw [h9, hy, nI_1]
        refine hgo _ ⟨fun q hq => (up2_ne hq).trans (x1 q hq), fun j hj => ?_⟩
        by_cases ej : j = e
        · subst ej; rw [up2_aa, if_neg (by omega)]
        · rw [up2_ab ej]; exact x2 j (by omega)
    · obtain ⟨x1, x2⟩ := hJ
      show bl_B_giveCodewords_92 _ _ _ _ _ _ _
      unfold bl_B_giveCodewords_92
      simp only [bkU hθ hU hk, true_and]
      rw [x1 (tb θ + (106 + 5 * k)) (by omega), w2 0 (by decide), hE]
      rw [hw] at h
      exact br_t (nI_le (Nat.le_refl _) (by omega)) (h W (fun q a b => by rw [x1 q b, w1 q a]) (fun j hj => by rw [x1 _ (by omega)]; exact w2 j hj) (fun _ => ⟨by rw [x1 _ (by omega)]; exact w3, x2⟩))
  refine loop2 E (fun e b W => b = nI (krs ln e) ∧ (∀ q, q ≠ tb θ + (106 + 5 * k) → W q = V q) ∧ (∀ j, j ≠ 4 → W (tb θ + (106 + 5 * k)) j = V (tb θ + (106 + 5 * k)) j) ∧ W (tb θ + (106 + 5 * k)) 4 = nI (cnU ln e)) ⟨rfl, fun q hq => by rw [h2, up2_ne hq], fun j hj => by rw [h2, up2_ab hj], by rw [h2, up2_aa]; rfl⟩ (fun f e b W he hJ hgo => ?_) (fun f b W hJ => ?_)
  · obtain ⟨rfl, w1, w2, w3⟩ := hJ
    show bl_B_giveCodewords_9 _ _ _ _ _ _ _ _
    unfold bl_B_giveCodewords_9
    simp only [bkU hθ hU hk, true_and, exists_eq_left]
    rw [w2 0 (by decide), hE, nI_clamp (show e < 2 ^ 31 by omega), w1 (tb θ + (107 + 5 * k)) (by omega), (hL e he).1, w3]
    have hle := (hL e he).2
    refine br_f (nI_ge he (by omega)) ⟨by omega, vp_in_nI (by omega) (by decide), fun q y hy => ?_, fun q y hy V9 h9 y2 hy2 => ?_⟩
    · have hz : ¬ 0 < ln e := fun z => absurd q (nI_nle z (by omega))
      rw [hy, nI_1]
      refine hgo _ _ ⟨?_, w1, w2, ?_⟩
      · show _ = nI (krs ln e + _); rw [if_neg hz]; rfl
      · rw [w3]; show _ = nI (cnU ln e + _); rw [if_neg hz]; rfl
    · have hz : 0 < ln e := by
        by_cases z : 0 < ln e
        · exact z
        · exact absurd (by rw [show ln e = 0 by omega]; decide) q
      rw [hy2, nI_1, h9]
      have hp8 : 2 ^ (8 - ln e) ≤ 2 ^ 8 := p2le (by omega)
      refine hgo _ _ ⟨?_, fun q hq => (up2_ne hq).trans (w1 q hq), fun j hj => (up2_ab hj).trans (w2 j hj), ?_⟩
      · rw [hy, show (8 : Int32) = nI 8 from rfl, pk_sub hle, show (1 : Int32) = nI 1 from rfl, pk_shlN _ (8 - ln e) (sh31 (by omega)) (by omega), Nat.one_mul, nI_add]
        show _ = nI (krs ln e + _); rw [if_pos hz]
      · rw [up2_aa, nI_1]; show _ = nI (cnU ln e + _); rw [if_pos hz]
  · obtain ⟨rfl, w1, w2, w3⟩ := hJ
    show bl_B_giveCodewords_9 _ _ _ _ _ _ _ _
    unfold bl_B_giveCodewords_9 wb_B_giveCodewords_75 wb_B_giveCodewords_76
    simp only [bkU hθ hU hk, true_and]
    rw [w2 0 (by decide), hE, w3]
    have no : wdO ln E = false → K 0 W U := by
      intro q
      rw [q] at h
      exact h W (fun q a _ => w1 q a) w2 (fun q => Bool.noConfusion q)
    have e256 : nI (krs ln E) = 256 ↔ krs ln E = 256 := nI_eq (b := 256) (by omega) (by decide)
    have e128 : nI (krs ln E) = 128 ↔ krs ln E = 128 := nI_eq (b := 128) (by omega) (by decide)
    have e1 : nI (cnU ln E) = 1 ↔ cnU ln E = 1 := nI_eq (b := 1) (by omega) (by decide)
    rw [e256, e128, e1]
    refine br_t (nI_le (Nat.le_refl _) (by omega)) ⟨fun q1 => ⟨fun q2 => words (by simp [wdO, q2]) W w1 w2 w3, fun q2 => ⟨fun q3 => absurd trivial q3, fun _ => no (by simp [wdO, q1, q2])⟩⟩, fun q1 => ⟨fun q2 => ⟨fun q3 => words (by simp [wdO, q3]) W w1 w2 w3, fun q3 => ⟨fun q4 => absurd trivial q4, fun _ => no (by simp [wdO, q2, q3])⟩⟩, fun q2 => ⟨fun q3 => words (by simp [wdO, q3]) W w1 w2 w3, fun q3 => ⟨fun _ => words (by simp [wdO, q1, q2]) W w1 w2 w3, fun q4 => absurd q4 (by decide)⟩⟩⟩⟩
end GIVE
