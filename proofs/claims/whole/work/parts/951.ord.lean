-- lengths in order
section ORD
variable {θ : TH} {V : VT} {U : UT} {sw : Bool} {p : PK} {s : RS} {k E : Nat}
theorem ordF_ok : ∀ {m j : Nat} {s : RS} {ln : Nat → Nat}, s.1 ≤ 8 * p.L → (ordF p E m j s ln).2.1.1 ≤ 8 * p.L
  | 0, j, s, ln, h => h
  | m + 1, j, s, ln, h => by
    unfold ordF
    split
    · split
      · exact ordF_ok (rdS_ok _ h)
      · exact rdS_ok _ h
    · exact h
theorem ordR_ok (h : s.1 ≤ 8 * p.L) : (ordR p E s).2.1.1 ≤ 8 * p.L := ordF_ok (rdS_ok _ h)
theorem ordF_le : ∀ {m j : Nat} {s : RS} {ln : Nat → Nat}, m ≤ 8 → (∀ i, ln i ≤ 8) → ∀ i, (ordF p E m j s ln).2.2 i ≤ 8
  | 0, j, s, ln, hm, h => h
  | m + 1, j, s, ln, hm, h => by
    unfold ordF
    split
    · split
      · exact ordF_le (by omega) (fun i => by split; omega; exact h i)
      · exact h
    · exact h
theorem ordR_le (i : Nat) : (ordR p E s).2.2 i ≤ 8 := ordF_le (by omega) (fun _ => by omega) i
theorem dgt_lt (n : Nat) : dgt n < 5 := by
  unfold dgt; split; decide; split; decide; split; decide; decide
theorem s_digits {K : Int32 → VT → UT → Prop} {n : Nat} (h1 : 1 ≤ n) (h8 : n ≤ 8) (h : K (nI (dgt n)) V U) : wp_B_binaryDigits θ (nI n) V U K := by
  have l0 : ∀ f (x : Int32), K x V U → wl_B_binaryDigits_6 θ K (f + 1) x (nI 0) V U := by
    intro f x hx
    show bl_B_binaryDigits_6 _ _ _ _ _ _ _
    unfold bl_B_binaryDigits_6
    exact br_t (by decide) hx
  have ls : ∀ f (x : Int32) r, 0 < r → r ≤ 8 → wl_B_binaryDigits_6 θ K f (x + 1) (nI (r / 2)) V U → wl_B_binaryDigits_6 θ K (f + 1) x (nI r) V U := by
    intro f x r r0 r8 hx
    show bl_B_binaryDigits_6 _ _ _ _ _ _ _
    unfold bl_B_binaryDigits_6
    refine br_f (nI_nle r0 (by omega)) (fun y hy => ⟨by decide, fun z hz => ?_⟩)
    rw [hy, hz, show (2 : Int32) = nI 2 from rfl, pk_div (by omega) (by decide) (by decide)]
    exact hx
  refine ⟨by decide, fun y hy => ?_⟩
  rw [hy, show (2 : Int32) = nI 2 from rfl, pk_div (by omega) (by decide) (by decide)]
  have hc : n = 1 ∨ n = 2 ∨ n = 3 ∨ n = 4 ∨ n = 5 ∨ n = 6 ∨ n = 7 ∨ n = 8 := by omega
  rcases hc with rfl | rfl | rfl | rfl | rfl | rfl | rfl | rfl
  · exact ⟨1, l0 _ _ h⟩
  · exact ⟨2, ls _ _ 1 (by decide) (by decide) (l0 _ _ h)⟩
  · exact ⟨2, ls _ _ 1 (by decide) (by decide) (l0 _ _ h)⟩
  · exact ⟨3, ls _ _ 2 (by decide) (by decide) (ls _ _ 1 (by decide) (by decide) (l0 _ _ h))⟩
  · exact ⟨3, ls _ _ 2 (by decide) (by decide) (ls _ _ 1 (by decide) (by decide) (l0 _ _ h))⟩
  · exact ⟨3, ls _ _ 3 (by decide) (by decide) (ls _ _ 1 (by decide) (by decide) (l0 _ _ h))⟩
  · exact ⟨3, ls _ _ 3 (by decide) (by decide) (ls _ _ 1 (by decide) (by decide) (l0 _ _ h))⟩
  · exact ⟨4, ls _ _ 4 (by decide) (by decide) (ls _ _ 2 (by decide) (by decide) (ls _ _ 1 (by decide) (by decide) (l0 _ _ h)))⟩
theorem s_ord {K : Int32 → VT → UT → Prop} (hθ : OKt θ) (hU : US θ sw U) (hp : HP θ V p) (hk : k < 4) (hs : s.1 ≤ 8 * p.L) (hE : E ≤ 8) (hV : V (tb θ + (106 + 5 * k)) 0 = nI E) (h : ∀ W, FB V W (tb θ + (107 + 5 * k)) 0 8 → ((ordR p E s).1 = true → ∀ e, e < E → W (tb θ + (107 + 5 * k)) e = nI ((ordR p E s).2.2 e)) → K (bZ (ordR p E s).1) (cS θ W (ordR p E s).2.1) U) : wp_B_readOrderedLengths θ (tb θ + (106 + 5 * k)) (tb θ + 25) (cS θ V s) U K := by
  unfold wp_B_readOrderedLengths
  simp only [bkU hθ hU hk, true_and]
  refine s_read hθ hU hp hs (k := 3) (by decide) ?_
  intro y hy
  rw [hy, nI_1]
  have hr := rdV_lt p 3 s
  have key : ∀ m l j s ln W, l + m = 9 → j ≤ E → s.1 ≤ 8 * p.L → FB V W (tb θ + (107 + 5 * k)) 0 8 → (∀ i, i < j → W (tb θ + (107 + 5 * k)) i = nI (ln i)) → (∀ W, FB V W (tb θ + (107 + 5 * k)) 0 8 → ((ordF p E m j s ln).1 = true → ∀ e, e < E → W (tb θ + (107 + 5 * k)) e = nI ((ordF p E m j s ln).2.2 e)) → K (bZ (ordF p E m j s ln).1) (cS θ W (ordF p E m j s ln).2.1) U) → wl_B_readOrderedLengths_10 θ (tb θ + (106 + 5 * k)) (tb θ + 25) K (m + 1) (nI l) (nI j) (cS θ W s) U := by
    intro m
    induction m with
    | zero =>
      intro l j s ln W hl hj hs hF hW h
      show bl_B_readOrderedLengths_10 _ _ _ _ _ _ _ _ _
      unfold bl_B_readOrderedLengths_10 wb_B_readOrderedLengths_84
      simp only [bkU hθ hU hk, true_and]
      rw [cS_ne (show tb θ + (106 + 5 * k) ≠ tb θ + 25 by omega), hF.1 _ (by omega), hV]
      unfold ordF at h
      have fin : ((¬ nI j = nI E → K 0 (cS θ W s) U) ∧ (nI j = nI E → K 1 (cS θ W s) U)) := by
        by_cases hjE : j = E
        · have hd : decide (j = E) = true := by simp [hjE]
          rw [hd] at h
          refine ⟨fun q => absurd (by rw [hjE]) q, fun _ => h W hF (fun _ e he => hW e (by omega))⟩
        · have hd : decide (j = E) = false := by simp [hjE]
          rw [hd] at h
          refine ⟨fun _ => h W hF (fun q => Bool.noConfusion q), fun q => absurd ((nI_eq (by omega) (by omega)).1 q) hjE⟩
      exact ⟨fun _ => fin, fun _ => ⟨fun _ => fin, fun q => absurd (by rw [show l = 9 by omega]; decide) q⟩⟩
    | succ m ih =>
      intro l j s ln W hl hj hs hF hW h
      show bl_B_readOrderedLengths_10 _ _ _ _ _ _ _ _ _
      unfold bl_B_readOrderedLengths_10 wb_B_readOrderedLengths_84
      simp only [bkU hθ hU hk, true_and]
      rw [cS_ne (show tb θ + (106 + 5 * k) ≠ tb θ + 25 by omega), hF.1 _ (by omega), hV]
      have hpW : HP θ W p := hp.eq (by rw [hF.1 _ (by omega)]) (hF.1 _ (by omega))
      unfold ordF at h
      by_cases hjE : j < E
      · rw [if_pos hjE] at h
        refine br_f (nI_ge hjE (by omega)) (br_f (nI_nlt (a := 8) (b := l) (by omega) (by decide)) (fun y hy => ?_))
        rw [hy, pk_sub (by omega)]
        have hdg := dgt_lt (E - j)
        refine s_digits (by omega) (by omega) (s_read hθ hU hpW hs (by omega) ?_)
        have hrl := rdV_lt p (dgt (E - j)) s
        have hp4 : 2 ^ dgt (E - j) ≤ 2 ^ 4 := p2le (by omega)
        refine pk_le _ _ (fun hc => ?_) (fun hc => ?_)
        · rw [if_pos hc] at h
          refine loop2 (rdV p (dgt (E - j)) s) (fun i b V1 => b = nI (j + i) ∧ ∃ W', V1 = cS θ W' (rdS p (dgt (E - j)) s) ∧ FB V W' (tb θ + (107 + 5 * k)) 0 8 ∧ (∀ q, q < j → W' (tb θ + (107 + 5 * k)) q = nI (ln q)) ∧ ∀ q, j ≤ q → q < j + i → W' (tb θ + (107 + 5 * k)) q = nI l) ⟨rfl, W, rfl, hF, hW, fun q _ _ => (by omega)⟩ (fun f i b V1 hi hJ hgo => ?_) (fun f b V1 hJ => ?_)
          · obtain ⟨rfl, W', rfl, hF', hW1, hW2⟩ := hJ
            show bl_B_readOrderedLengths_55 _ _ _ _ _ _ _ _ _ _ _ _
            unfold bl_B_readOrderedLengths_55
            simp only [bkU hθ hU hk, true_and, exists_eq_left]
            refine br_f (nI_ge hi (by omega)) ⟨by omega, vp_in_nI (by omega) (by decide), fun V2 h2 y hy z hz => ?_⟩
            rw [h2, hy, hz, nI_clamp (by omega), cS_up (by omega), nI_1, nI_1]
            refine hgo _ _ ⟨rfl, _, rfl, hF'.up (by omega) (by omega), fun q hq => ?_, fun q q1 q2 => ?_⟩
            · rw [up2_ab (by omega)]; exact hW1 q hq
            · by_cases z : q = j + i
              · subst z; rw [up2_aa]
              · rw [up2_ab z]; exact hW2 q q1 (by omega)
          · obtain ⟨rfl, W', rfl, hF', hW1, hW2⟩ := hJ
            show bl_B_readOrderedLengths_55 _ _ _ _ _ _ _ _ _ _ _ _
            unfold bl_B_readOrderedLengths_55
            refine br_t (nI_le (Nat.le_refl _) (by omega)) (fun y hy => ?_)
            rw [hy, nI_1]
            refine ih (l + 1) _ _ _ W' (by omega) (by omega) (rdS_ok _ hs) hF' (fun q hq => ?_) h
            by_cases z : j ≤ q
            · rw [if_pos z, hW2 q z hq]; congr 1; omega
            · rw [if_neg z]; exact hW1 q (by omega)
        · rw [if_neg (by omega)] at h
          exact h W hF (fun q => Bool.noConfusion q)
      · rw [if_neg hjE] at h
        obtain rfl : j = E := by omega
        refine br_t (nI_le (Nat.le_refl _) (by omega)) ⟨fun q => absurd rfl q, fun _ => h W hF (fun _ e he => hW e he)⟩
  exact ⟨_, key (8 - rdV p 3 s) _ 0 _ (fun _ => 0) V (by omega) (by omega) (rdS_ok _ hs) FB.refl (fun i hi => (by omega)) h⟩
theorem m_ord {K : Int32 → VT → UT → Prop} (hθ : OKt θ) (hU : US θ sw U) (hp : MP θ V p) (hk : k < 4) (hs : s.1 ≤ 8 * p.L) (hE : E ≤ 8) (h : ∀ W, FB V W (tb θ + 152) (8 * k) 8 → ((ordR p E s).1 = true → ∀ e, e < E → W (tb θ + 152) (8 * k + e) = nI ((ordR p E s).2.2 e)) → K (bZ (ordR p E s).1) (mS θ W (ordR p E s).2.1) U) : wp_M_ordered θ (tb θ + 126) (nI (8 * k)) (nI E) (mS θ V s) U K := by
  unfold wp_M_ordered
  simp only [IM hθ, true_and]
  refine m_read hθ hU hp hs (k := 3) (by decide) ?_
  intro y hy
  rw [hy, nI_1]
  have hr := rdV_lt p 3 s
  have key : ∀ m l j s ln W, l + m = 9 → j ≤ E → s.1 ≤ 8 * p.L → FB V W (tb θ + 152) (8 * k) 8 → (∀ i, i < j → W (tb θ + 152) (8 * k + i) = nI (ln i)) → (∀ W, FB V W (tb θ + 152) (8 * k) 8 → ((ordF p E m j s ln).1 = true → ∀ e, e < E → W (tb θ + 152) (8 * k + e) = nI ((ordF p E m j s ln).2.2 e)) → K (bZ (ordF p E m j s ln).1) (mS θ W (ordF p E m j s ln).2.1) U) → wl_M_ordered_11 θ (tb θ + 126) (nI (8 * k)) (nI E) K (m + 1) (nI l) (nI j) (mS θ W s) U := by
    intro m
    induction m with
    | zero =>
      intro l j s ln W hl hj hs hF hW h
      show bl_M_ordered_11 _ _ _ _ _ _ _ _ _ _
      unfold bl_M_ordered_11
      unfold ordF at h
      by_cases hjE : j = E
      · have hd : decide (j = E) = true := by simp [hjE]
        rw [hd] at h
        exact br_t (nI_le (by omega) (by omega)) (h W hF (fun _ e he => hW e (by omega)))
      · have hd : decide (j = E) = false := by simp [hjE]
        rw [hd] at h
        refine br_f (nI_ge (by omega) (by omega)) (fun y hy => ?_)
        have fin : ∀ z, wb_M_ordered_55 θ (tb θ + 126) (nI (8 * k)) (nI E) (nI l) (nI j) y z (wl_M_ordered_11 θ (tb θ + 126) (nI (8 * k)) (nI E) K 0) K (mS θ W s) U := by
          intro z
          unfold wb_M_ordered_55 wb_M_ordered_74
          refine br_f (by rw [show l = 9 by omega]; decide) (br_f ?_ (h W hF (fun q => Bool.noConfusion q)))
          rw [hy, pk_sub (by omega)]
          exact nI_ge (b := 9) (by omega) (by decide)
        exact ⟨fun _ => ⟨fun _ => ⟨fun _ => fin _, fun _ => fin _⟩, fun _ => fin _⟩, fun _ => fin _⟩
    | succ m ih =>
      intro l j s ln W hl hj hs hF hW h
      show bl_M_ordered_11 _ _ _ _ _ _ _ _ _ _
      unfold bl_M_ordered_11
      have hpW : MP θ W p := hp.eq (by rw [hF.1 _ (by omega)]) (hF.1 _ (by omega))
      unfold ordF at h
      by_cases hjE : j < E
      · rw [if_pos hjE] at h
        refine br_f (nI_ge hjE (by omega)) (fun y hy => ?_)
        rw [pk_sub (by omega)] at hy
        have fin : wb_M_ordered_55 θ (tb θ + 126) (nI (8 * k)) (nI E) (nI l) (nI j) (nI (E - j)) (nI (dgt (E - j))) (wl_M_ordered_11 θ (tb θ + 126) (nI (8 * k)) (nI E) K (m + 1)) K (mS θ W s) U := by
          unfold wb_M_ordered_55 wb_M_ordered_74
          simp only [UM hU, IM hθ, true_and]
          have hdg := dgt_lt (E - j)
          refine br_t (nI_le (a := l) (b := 8) (by omega) (by decide)) (m_read hθ hU hpW hs (by omega) ?_)
          have hrl := rdV_lt p (dgt (E - j)) s
          have hp4 : 2 ^ dgt (E - j) ≤ 2 ^ 4 := p2le (by omega)
          refine pk_le _ _ (fun hc => ?_) (fun hc => ?_)
          · rw [if_pos hc] at h
            refine loop2 (rdV p (dgt (E - j)) s) (fun i b V1 => b = nI (j + i) ∧ ∃ W', V1 = mS θ W' (rdS p (dgt (E - j)) s) ∧ FB V W' (tb θ + 152) (8 * k) 8 ∧ (∀ q, q < j → W' (tb θ + 152) (8 * k + q) = nI (ln q)) ∧ ∀ q, j ≤ q → q < j + i → W' (tb θ + 152) (8 * k + q) = nI l) ⟨rfl, W, rfl, hF, hW, fun q _ _ => (by omega)⟩ (fun f i b V1 hi hJ hgo => ?_) (fun f b V1 hJ => ?_)
            · obtain ⟨rfl, W', rfl, hF', hW1, hW2⟩ := hJ
              show bl_M_ordered_88 _ _ _ _ _ _ _ _ _ _ _ _ _
              unfold bl_M_ordered_88
              simp only [UM hU, IM hθ, true_and, exists_eq_left, nI_add]
              refine br_f (nI_ge hi (by omega)) ⟨by omega, vp_in_nI (by omega) (by decide), fun V2 h2 y hy z hz => ?_⟩
              rw [h2, hy, hz, nI_clamp (by omega), mS_up (by omega), nI_1, nI_1]
              refine hgo _ _ ⟨rfl, _, rfl, hF'.up (by omega) (by omega), fun q hq => ?_, fun q q1 q2 => ?_⟩
              · rw [up2_ab (by omega)]; exact hW1 q hq
              · by_cases z : q = j + i
                · subst z; rw [up2_aa]
                · rw [up2_ab (by omega)]; exact hW2 q q1 (by omega)
            · obtain ⟨rfl, W', rfl, hF', hW1, hW2⟩ := hJ
              show bl_M_ordered_88 _ _ _ _ _ _ _ _ _ _ _ _ _
              unfold bl_M_ordered_88
              refine br_t (nI_le (Nat.le_refl _) (by omega)) (fun y hy => ?_)
              rw [hy, nI_1]
              refine ih (l + 1) _ _ _ W' (by omega) (by omega) (rdS_ok _ hs) hF' (fun q hq => ?_) h
              by_cases z : j ≤ q
              · rw [if_pos z, hW2 q z hq]; congr 1; omega
              · rw [if_neg z]; exact hW1 q (by omega)
          · rw [if_neg (by omega)] at h
            exact h W hF (fun q => Bool.noConfusion q)
        rw [hy]
        refine pk_lt (E - j) 8 (fun a => pk_lt (E - j) 4 (fun b => pk_lt (E - j) 2 (fun c => ?_) (fun c => ?_)) (fun b => ?_)) (fun a => ?_)
        · have e : dgt (E - j) = 1 := by unfold dgt; rw [if_neg (by omega), if_neg (by omega), if_neg (by omega)]
          rw [e] at fin; exact fin
        · have e : dgt (E - j) = 2 := by unfold dgt; rw [if_neg (by omega), if_neg (by omega), if_pos (by omega)]
          rw [e] at fin; exact fin
        · have e : dgt (E - j) = 3 := by unfold dgt; rw [if_neg (by omega), if_pos (by omega)]
          rw [e] at fin; exact fin
        · have e : dgt (E - j) = 4 := by unfold dgt; rw [if_pos (by omega)]
          rw [e] at fin; exact fin
      · rw [if_neg hjE] at h
        obtain rfl : j = E := by omega
        exact br_t (nI_le (Nat.le_refl _) (by omega)) (h W hF (fun _ e he => hW e he))
  exact ⟨_, key (8 - rdV p 3 s) _ 0 _ (fun _ => 0) V (by omega) (by omega) (rdS_ok _ hs) FB.refl (fun i hi => (by omega)) h⟩
end ORD
