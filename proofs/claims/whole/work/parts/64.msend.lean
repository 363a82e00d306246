section MSEND
variable {θ : TH} {sw : Bool} {U : UT} {V V1 V2 : VT} {n r o m c k h t : Nat} {w L T hb : Nat → Nat} {B : Nat → Int32} {O : Nat → Nat → Nat} {l : List Int32}
theorem SM.low {m2 : Nat} (hS : SM θ V k m2 (exL m h L) (exT m t T) (exB m B) (exO m O hb)) (hm : m ≤ m2) : SM θ V k m L T B O := by
  intro j hj
  have a := hS j (by omega)
  simp only [exL, exT, exB, exO, hj, if_true] at a
  exact a
theorem SB.ex (hB : SB m L T B O) (hh : h ≤ 64) (hH : ∀ i, i < h → hb i < 256) (ht : t < 65535) : SB (m + (h / 15 + 1)) (exL m h L) (exT m t T) (exB m B) (exO m O hb) := by
  intro j hj
  by_cases hjm : j < m
  · have a := hB j hjm
    simp only [exL, exT, exB, exO, hjm, if_true]
    exact a
  · simp only [exL, exT, exB, exO, hjm, if_false]
    refine ⟨by split <;> omega, ht, ?_, fun i hi => hH _ ?_⟩
    · split
      · exact Or.inr rfl
      · exact Or.inl rfl
    · split at hi <;> omega
theorem SV.sb (hS : SV V o m L T B O) : SB m L T B O := fun j hj => ⟨(hS j hj).2.1, (hS j hj).2.2.2.1, (hS j hj).2.2.2.2.2.1, fun i hi => ((hS j hj).2.2.2.2.2.2 i hi).2⟩
/-- cells of stream k in the reference's arrays of segments -/
def OUTK (θ : TH) (k : Nat) (V V2 : VT) : Prop := (∀ s, (s < 16 * k ∨ 16 * k + 16 ≤ s) → V2 (tb θ + 129) s = V (tb θ + 129) s ∧ V2 (tb θ + 130) s = V (tb θ + 130) s ∧ V2 (tb θ + 131) s = V (tb θ + 131) s) ∧ (∀ s, (s < 240 * k ∨ 240 * k + 240 ≤ s) → V2 (tb θ + 132) s = V (tb θ + 132) s)
theorem OUTK.trans (h1 : OUTK θ k V V1) (h2 : OUTK θ k V1 V2) : OUTK θ k V V2 :=
  ⟨fun s hs => by obtain ⟨a, b, c⟩ := h2.1 s hs; obtain ⟨d, e, f⟩ := h1.1 s hs; exact ⟨a.trans d, b.trans e, c.trans f⟩, fun s hs => (h2.2 s hs).trans (h1.2 s hs)⟩
/-- the laying of a packet's segments, and what comes after -/
theorem m_lay {K : Int32 → VT → UT → Prop} (hθ : OKt θ) (hU : US θ sw U) (hS : SM θ V k m L T B O) (hB : SB m L T B O) (hm : V (tb θ + 133) k = nI m) (hm5 : m ≤ 5) (hk4 : k < 4) (hv4 : V (tb θ + 126) 4 = nI h) (hh : h ≤ 64) (hH : ∀ i, i < h → V (tb θ + 128) i = nI (hb i)) (ht : t < 65535)
    (hk : ∀ V2, (∀ q, q ≠ tb θ + 129 → q ≠ tb θ + 130 → q ≠ tb θ + 131 → q ≠ tb θ + 132 → V2 q = V q) → SM θ V2 k (m + (h / 15 + 1)) (exL m h L) (exT m t T) (exB m B) (exO m O hb) → OUTK θ k V V2 → ∃ f, wl_M_send_199 θ (tb θ + 126) (nI k) (nI (m + (h / 15 + 1))) (nI ((m + (h / 15 + 1)) / 6)) K f (nI (20 * ((m + (h / 15 + 1)) / 6))) 0 V2 U) : ∃ f, wl_M_send_43 θ (tb θ + 126) (nI k) (nI t) (nI (h / 15 + 1)) (nI (m + (h / 15 + 1))) K f 0 V U := by
  refine loop1 (wl := wl_M_send_43 θ (tb θ + 126) (nI k) (nI t) (nI (h / 15 + 1)) (nI (m + (h / 15 + 1))) K) (h / 15 + 1) (fun d W => (∀ q, q ≠ tb θ + 129 → q ≠ tb θ + 130 → q ≠ tb θ + 131 → q ≠ tb θ + 132 → W q = V q) ∧ SM θ W k (m + d) (exL m h L) (exT m t T) (exB m B) (exO m O hb) ∧ OUTK θ k V W) ⟨fun _ _ _ _ _ => rfl, fun j hj => ?_, fun _ _ => ⟨rfl, rfl, rfl⟩, fun _ _ => rfl⟩ ?_ ?_
  · have hj : j < m := hj
    simp only [exL, exT, exB, exO, hj, if_true]
    exact hS j hj
  · rintro f d W hd ⟨f1, f2, f3⟩ hgo
    show bl_M_send_43 _ _ _ _ _ _ _ _ _ _ _
    unfold bl_M_send_43 wb_M_send_91 wb_M_send_108
    have hw133 : W (tb θ + 133) = V (tb θ + 133) := f1 _ (by omega) (by omega) (by omega) (by omega)
    have hw126 : W (tb θ + 126) = V (tb θ + 126) := f1 _ (by omega) (by omega) (by omega) (by omega)
    have hw128 : W (tb θ + 128) = V (tb θ + 128) := f1 _ (by omega) (by omega) (by omega) (by omega)
    have e16 : (16 : Int32) * nI k = nI (16 * k) := pk_mul 16 k
    have es1 : nI (h / 15 + 1) - (1 : Int32) = nI (h / 15) := pk_sub (a := h / 15 + 1) (b := 1) (by omega)
    have erem : nI h - nI h / (15 : Int32) * (15 : Int32) = nI (h % 15) := pk_rem (by omega) (by decide) (by decide)
    simp only [UM hU, IM hθ, true_and, exists_eq_left, e16, es1, hw126, hv4, erem]
    rw [nI_clamp (show k < 2 ^ 31 by omega), hw133, hm, nI_add, nI_add]
    refine br_f (nI_ge hd (by omega)) ⟨by omega, vp_in_nI (by omega) (by decide), fun y hy => ⟨by omega, ?_⟩⟩
    rw [hy]
    clear hy y
    generalize hl : (if d < h / 15 then 15 else h % 15) = lac
    have hl15 : lac ≤ 15 ∧ 15 * d + lac ≤ h := by
      rw [← hl]; split <;> omega
    generalize hsl : 16 * k + m + d = sl
    have hcl : (nI sl).toNatClampNeg = sl := nI_clamp (by omega)
    have hin : vp_in (nI sl) 64 := vp_in_nI (by omega) (by decide)
    -- what follows the three places
    have fin : ∀ W3 : VT, (∀ q, q ≠ tb θ + 129 → q ≠ tb θ + 130 → q ≠ tb θ + 131 → W3 q = W q) → W3 (tb θ + 129) = up2 W (tb θ + 129) sl (nI lac) (tb θ + 129) → W3 (tb θ + 130) = up2 W (tb θ + 130) sl (if d = 0 then 1 else 0) (tb θ + 130) → W3 (tb θ + 131) = up2 W (tb θ + 131) sl (if d = h / 15 then nI t else -1) (tb θ + 131) → ∃ n, wl_M_send_132 θ (tb θ + 126) (nI k) (nI t) (nI (h / 15 + 1)) (nI (m + (h / 15 + 1))) (nI d) (nI sl) (wl_M_send_43 θ (tb θ + 126) (nI k) (nI t) (nI (h / 15 + 1)) (nI (m + (h / 15 + 1))) K f) K n (0 : Int32) W3 U := by
      intro W3 g0 g29 g30 g31
      refine loop1 (wl := wl_M_send_132 θ (tb θ + 126) (nI k) (nI t) (nI (h / 15 + 1)) (nI (m + (h / 15 + 1))) (nI d) (nI sl) (wl_M_send_43 θ (tb θ + 126) (nI k) (nI t) (nI (h / 15 + 1)) (nI (m + (h / 15 + 1))) K f) K) lac (fun e X => (∀ q, q ≠ tb θ + 132 → X q = W3 q) ∧ ∀ s, X (tb θ + 132) s = if 15 * sl ≤ s ∧ s < 15 * sl + e then nI (hb (15 * d + (s - 15 * sl))) else W (tb θ + 132) s) ⟨fun _ _ => rfl, fun s => by rw [if_neg (by omega), g0 _ (by omega) (by omega) (by omega)]⟩ ?_ ?_
      · rintro f2' e X he ⟨x1, x2⟩ hgo2
        show bl_M_send_132 _ _ _ _ _ _ _ _ _ _ _ _ _ _
        unfold bl_M_send_132
        have m1 : (15 : Int32) * nI d = nI (15 * d) := pk_mul 15 _
        have m2 : (15 : Int32) * nI sl = nI (15 * sl) := pk_mul 15 _
        simp only [UM hU, IM hθ, true_and, exists_eq_left, nI_add, m1, m2, hcl]
        rw [nI_clamp (show 15 * d + e < 2 ^ 31 by omega), nI_clamp (show 15 * sl + e < 2 ^ 31 by omega), x1 _ (by omega), g29, up2_aa]
        refine ⟨by omega, hin, br_f (nI_ge he (by omega)) ⟨by omega, by omega, vp_in_nI (by omega) (by decide), vp_in_nI (by omega) (by decide), fun X2 eX z hz => ?_⟩⟩
        rw [x1 _ (by omega), g0 _ (by omega) (by omega) (by omega), hw128, hH _ (by omega)] at eX
        rw [hz, nI_1]
        refine hgo2 X2 ⟨fun q hq => by rw [eX, up2_ne hq, x1 q hq], fun s => ?_⟩
        rw [eX]
        by_cases hs : s = 15 * sl + e
        · rw [hs, up2_aa, if_pos (by omega), show 15 * sl + e - 15 * sl = e by omega]
        · rw [up2_ab hs, x2 s]
          by_cases hr : 15 * sl ≤ s ∧ s < 15 * sl + e
          · rw [if_pos hr, if_pos (by omega)]
          · rw [if_neg hr, if_neg (by omega)]
      · rintro f2' X ⟨x1, x2⟩
        show bl_M_send_132 _ _ _ _ _ _ _ _ _ _ _ _ _ _
        unfold bl_M_send_132
        simp only [UM hU, IM hθ, true_and, exists_eq_left, hcl]
        rw [x1 _ (by omega), g29, up2_aa]
        refine ⟨by omega, hin, br_t (nI_le (Nat.le_refl _) (by omega)) (fun z hz => ?_)⟩
        rw [hz, nI_1]
        refine hgo X ⟨fun q a b e g => by rw [x1 q g, g0 q a b e, f1 q a b e g], fun j hj => ?_, fun s hs => ?_, fun s hs => ?_⟩
        · rw [x1 _ (by omega), x1 _ (by omega), x1 _ (by omega), g29, g30, g31]
          by_cases hjd : j < m + d
          · obtain ⟨a1, a2, a3, a4⟩ := f2 j hjd
            have hL15 : exL m h L j ≤ 15 := by
              unfold exL
              by_cases q : j < m
              · rw [if_pos q]; exact (hB j q).1
              · rw [if_neg q]; split <;> omega
            rw [up2_ab (by omega), up2_ab (by omega), up2_ab (by omega)]
            refine ⟨a1, a2, a3, fun i hi => ?_⟩
            rw [x2, if_neg ?_]
            · exact a4 i hi
            · rintro ⟨q1, q2⟩
              omega
          · have hjd : j = m + d := by omega
            have e1 : 16 * k + j = sl := by omega
            rw [e1, up2_aa, up2_aa, up2_aa]
            subst hjd
            simp only [exL, exT, exB, exO, show ¬ m + d < m by omega, if_false, show m + d - m = d by omega, hl]
            refine ⟨trivial, ?_, ?_, fun i hi => ?_⟩
            · by_cases q : d = 0
              · rw [if_pos q, if_pos (by omega)]
              · rw [if_neg q, if_neg (by omega)]
            · by_cases q : d = h / 15
              · rw [if_pos q, if_pos (by rw [← hl, if_neg (by omega)]; omega)]
              · rw [if_neg q, if_neg (by rw [← hl, if_pos (by omega)]; omega)]
            · rw [x2, if_pos (by omega), show 15 * sl + i - 15 * sl = i by omega]
        · rw [x1 _ (by omega), x1 _ (by omega), x1 _ (by omega), g29, g30, g31, up2_ab (by omega), up2_ab (by omega), up2_ab (by omega)]
          exact f3.1 s hs
        · rw [x2, if_neg (by omega)]
          exact f3.2 s hs
    have mid : vp_in (nI sl) 64 ∧ ∀ V_52 : VT, V_52 = up2 W (tb θ + 129) sl (nI lac) → tb θ + 130 ≠ 0 ∧ ((¬ nI d = 0 → vp_in (nI sl) 64 ∧ ∀ V_59 : VT, V_59 = up2 V_52 (tb θ + 130) sl 0 → tb θ + 131 ≠ 0 ∧ ((¬ nI d = nI (h / 15) → vp_in (nI sl) 64 ∧ ∀ V_66 : VT, V_66 = up2 V_59 (tb θ + 131) sl (-1) → ∃ n, wl_M_send_132 θ (tb θ + 126) (nI k) (nI t) (nI (h / 15 + 1)) (nI (m + (h / 15 + 1))) (nI d) (nI sl) (wl_M_send_43 θ (tb θ + 126) (nI k) (nI t) (nI (h / 15 + 1)) (nI (m + (h / 15 + 1))) K f) K n (0 : Int32) V_66 U) ∧ (nI d = nI (h / 15) → vp_in (nI sl) 64 ∧ ∀ V_70 : VT, V_70 = up2 V_59 (tb θ + 131) sl (nI t) → ∃ n, wl_M_send_132 θ (tb θ + 126) (nI k) (nI t) (nI (h / 15 + 1)) (nI (m + (h / 15 + 1))) (nI d) (nI sl) (wl_M_send_43 θ (tb θ + 126) (nI k) (nI t) (nI (h / 15 + 1)) (nI (m + (h / 15 + 1))) K f) K n (0 : Int32) V_70 U))) ∧ (nI d = 0 → vp_in (nI sl) 64 ∧ ∀ V_59 : VT, V_59 = up2 V_52 (tb θ + 130) sl 1 → tb θ + 131 ≠ 0 ∧ ((¬ nI d = nI (h / 15) → vp_in (nI sl) 64 ∧ ∀ V_66 : VT, V_66 = up2 V_59 (tb θ + 131) sl (-1) → ∃ n, wl_M_send_132 θ (tb θ + 126) (nI k) (nI t) (nI (h / 15 + 1)) (nI (m + (h / 15 + 1))) (nI d) (nI sl) (wl_M_send_43 θ (tb θ + 126) (nI k) (nI t) (nI (h / 15 + 1)) (nI (m + (h / 15 + 1))) K f) K n (0 : Int32) V_66 U) ∧ (nI d = nI (h / 15) → vp_in (nI sl) 64 ∧ ∀ V_70 : VT, V_70 = up2 V_59 (tb θ + 131) sl (nI t) → ∃ n, wl_M_send_132 θ (tb θ + 126) (nI k) (nI t) (nI (h / 15 + 1)) (nI (m + (h / 15 + 1))) (nI d) (nI sl) (wl_M_send_43 θ (tb θ + 126) (nI k) (nI t) (nI (h / 15 + 1)) (nI (m + (h / 15 + 1))) K f) K n (0 : Int32) V_70 U)))) := by
      refine ⟨hin, fun W1 e1 => ⟨by omega, ?_⟩⟩
      have low : ∀ z : Int32, z = (if d = 0 then 1 else 0) → ∀ W2, W2 = up2 W1 (tb θ + 130) sl z → ∀ z2 : Int32, z2 = (if d = h / 15 then nI t else -1) → ∀ W3, W3 = up2 W2 (tb θ + 131) sl z2 → ∃ n, wl_M_send_132 θ (tb θ + 126) (nI k) (nI t) (nI (h / 15 + 1)) (nI (m + (h / 15 + 1))) (nI d) (nI sl) (wl_M_send_43 θ (tb θ + 126) (nI k) (nI t) (nI (h / 15 + 1)) (nI (m + (h / 15 + 1))) K f) K n (0 : Int32) W3 U := by
        intro z hz W2 e2 z2 hz2 W3 e3
        refine fin W3 (fun q a b e => ?_) ?_ ?_ ?_
        · rw [e3, up2_ne e, e2, up2_ne b, e1, up2_ne a]
        · rw [e3, up2_ne (by omega), e2, up2_ne (by omega), e1]
        · rw [e3, up2_ne (by omega), e2, hz, up2_at, up2_at]; simp only [e1, up2_ne (show tb θ + 130 ≠ tb θ + 129 by omega)]
        · rw [e3, hz2, up2_at, up2_at]; simp only [e2, up2_ne (show tb θ + 131 ≠ tb θ + 130 by omega), e1, up2_ne (show tb θ + 131 ≠ tb θ + 129 by omega)]
      have inner : ∀ z : Int32, z = (if d = 0 then 1 else 0) → ∀ W2, W2 = up2 W1 (tb θ + 130) sl z → ((¬ nI d = nI (h / 15) → vp_in (nI sl) 64 ∧ ∀ V_66 : VT, V_66 = up2 W2 (tb θ + 131) sl (-1) → ∃ n, wl_M_send_132 θ (tb θ + 126) (nI k) (nI t) (nI (h / 15 + 1)) (nI (m + (h / 15 + 1))) (nI d) (nI sl) (wl_M_send_43 θ (tb θ + 126) (nI k) (nI t) (nI (h / 15 + 1)) (nI (m + (h / 15 + 1))) K f) K n (0 : Int32) V_66 U) ∧ (nI d = nI (h / 15) → vp_in (nI sl) 64 ∧ ∀ V_70 : VT, V_70 = up2 W2 (tb θ + 131) sl (nI t) → ∃ n, wl_M_send_132 θ (tb θ + 126) (nI k) (nI t) (nI (h / 15 + 1)) (nI (m + (h / 15 + 1))) (nI d) (nI sl) (wl_M_send_43 θ (tb θ + 126) (nI k) (nI t) (nI (h / 15 + 1)) (nI (m + (h / 15 + 1))) K f) K n (0 : Int32) V_70 U)) := by
        intro z hz W2 e2
        exact pk_eq d (h / 15) (fun q => ⟨hin, low z hz W2 e2 _ (by rw [if_pos q])⟩) (fun q => ⟨hin, low z hz W2 e2 _ (by rw [if_neg q])⟩) |>.symm
      exact pk_eq d 0 (fun q => ⟨hin, fun W2 e2 => ⟨by omega, inner 1 (by rw [if_pos q]) W2 e2⟩⟩) (fun q => ⟨hin, fun W2 e2 => ⟨by omega, inner 0 (by rw [if_neg q]) W2 e2⟩⟩) |>.symm
    simp only [hcl]
    refine pk_le (h / 15) d (fun q => ?_) (fun q => ?_)
    · have e : h % 15 = lac := by rw [← hl, if_neg (by omega)]
      rw [e]
      exact ⟨by decide, mid⟩
    · have e : (15 : Int32) = nI lac := by rw [← hl, if_pos q]; rfl
      rw [e]
      exact mid
  · rintro f W ⟨f1, f2, f3⟩
    show bl_M_send_43 _ _ _ _ _ _ _ _ _ _ _
    unfold bl_M_send_43
    refine br_t (nI_le (Nat.le_refl _) (by omega)) ⟨by decide, fun y hy z hz => ?_⟩
    rw [show nI (m + (h / 15 + 1)) / (6 : Int32) = nI ((m + (h / 15 + 1)) / 6) from pk_div (by omega) (by decide) (by decide)] at hy
    rw [hy, show (20 : Int32) * nI ((m + (h / 15 + 1)) / 6) = nI (20 * ((m + (h / 15 + 1)) / 6)) from pk_mul 20 _] at hz
    rw [hy, hz]
    exact hk W f1 f2 f3
theorem m_noStream {K : Int32 → VT → UT → Prop} {x : Int32} (hθ : OKt θ) (hU : US θ sw U) (h1 : (∀ k, k < 4 → x = nI k → V (tb θ + 135) k ≠ 0) → K 1 V U) (h0 : ∀ k, k < 4 → x = nI k → V (tb θ + 135) k = 0 → K 0 V U) : wp_M_noStream θ (tb θ + 126) x V U K := by
  unfold wp_M_noStream wb_M_noStream_18
  simp only [UM hU, IM hθ, true_and, exists_eq_left]
  rcases i_cases x 4 (by decide) with ⟨hx, hne⟩ | ⟨j, hj, rfl⟩
  · exact br_t hx (h1 (fun k hk e => absurd e (hne k (by omega))))
  · refine br_f (nI_pos hj) (pk_lt 3 j (fun q => h1 (fun k hk e => ?_)) (fun q => ⟨by omega, vp_in_nI (by omega) (by decide), ?_⟩))
    · rw [nI_eq hj (by omega)] at e; omega
    · rw [nI_clamp hj]
      refine ⟨fun e => h0 j (by omega) rfl e, fun e => h1 (fun k hk e2 => ?_)⟩
      rw [nI_eq hj (by omega)] at e2
      rw [← e2]; exact e
theorem m_send {K : Int32 → VT → UT → Prop} (hθ : OKt θ) (hU : US θ sw U) (hW : WM θ V n r w) (hS : SM θ V k m L T B O) (hB : SB m L T B O) (hm : V (tb θ + 133) k = nI m) (hm5 : m ≤ 5) (hk4 : k < 4) (hv4 : V (tb θ + 126) 4 = nI h) (hh : h ≤ 64) (hH : ∀ i, i < h → V (tb θ + 128) i = nI (hb i) ∧ hb i < 256) (ht : t < 65535)
    (hE : V (tb θ + 135) k ≠ 0 → K (-1) V U)
    (hA : V (tb θ + 135) k = 0 → m + (h / 15 + 1) < 6 → ∀ V2, (∀ q, q ≠ tb θ + 126 → q ≠ tb θ + 129 → q ≠ tb θ + 130 → q ≠ tb θ + 131 → q ≠ tb θ + 132 → q ≠ tb θ + 133 → V2 q = V q) → (∀ j, j ≠ 4 → V2 (tb θ + 126) j = V (tb θ + 126) j) → V2 (tb θ + 126) 4 = 0 → (∀ s, s ≠ k → V2 (tb θ + 133) s = V (tb θ + 133) s) → V2 (tb θ + 133) k = nI (m + (h / 15 + 1)) → SM θ V2 k (m + (h / 15 + 1)) (exL m h L) (exT m t T) (exB m B) (exO m O hb) → OUTK θ k V V2 → K 0 V2 U)
    (hF : V (tb θ + 135) k = 0 → 6 ≤ m + (h / 15 + 1) → 1000 < n + (20 + sumL (exL m h L) 6) → ∀ V2, (∀ q, q ≠ tb θ + 129 → q ≠ tb θ + 130 → q ≠ tb θ + 131 → q ≠ tb θ + 132 → V2 q = V q) → SM θ V2 k m L T B O → OUTK θ k V V2 → K (-1) V2 U)
    (hC : V (tb θ + 135) k = 0 → 6 ≤ m + (h / 15 + 1) → n + (20 + sumL (exL m h L) 6) ≤ 1000 → ∀ V2, (∀ q, q ≠ tb θ + 126 → q ≠ tb θ + 127 → (q < tb θ + 129 ∨ tb θ + 134 < q) → V2 q = V q) → (∀ j, j ≠ 1 → j ≠ 4 → V2 (tb θ + 126) j = V (tb θ + 126) j) → V2 (tb θ + 126) 4 = 0 → WM θ V2 (n + (20 + sumL (exL m h L) 6)) r (apw n w (shO k 6 (V (tb θ + 134) k) 0 (exL m h L) (exT m t T) (exB m B) (exO m O hb))) → (∀ s, s ≠ k → V2 (tb θ + 133) s = V (tb θ + 133) s ∧ V2 (tb θ + 134) s = V (tb θ + 134) s) → V2 (tb θ + 133) k = nI (m + (h / 15 + 1) - 6) → V2 (tb θ + 134) k = V (tb θ + 134) k + 1 → SM θ V2 k (m + (h / 15 + 1) - 6) (fun j => exL m h L (j + 6)) (fun j => exT m t T (j + 6)) (fun j => exB m B (j + 6)) (fun j => exO m O hb (j + 6)) → OUTK θ k V V2 → K 1 V2 U) : wp_M_send θ (tb θ + 126) (nI k) (nI t) V U K := by
  unfold wp_M_send
  simp only [IM hθ, true_and]
  refine m_noStream hθ hU (fun q => br_f (by decide) (hE (q k hk4 rfl)) |>.symm) (fun k2 hk2 e h7 => ⟨fun q => absurd rfl q, fun _ => ?_⟩)
  obtain rfl : k = k2 := (nI_eq (by omega) (by omega)).mp e
  refine br_f (nI_pos (by omega)) (br_t (nI_le (a := t) (b := 65534) (by omega) (by decide)) ⟨by decide, fun y hy => ?_⟩)
  simp only [UM hU, IM hθ, exists_eq_left]
  rw [hv4, show nI h / (15 : Int32) = nI (h / 15) from pk_div (by omega) (by decide) (by decide), nI_1] at hy
  refine ⟨by omega, vp_in_nI (by omega) (by decide), fun z hz => ?_⟩
  rw [nI_clamp (by omega), hm, hy, nI_add] at hz
  rw [hy, hz]
  refine m_lay (hb := hb) hθ hU hS hB hm hm5 hk4 hv4 hh (fun i hi => (hH i hi).1) ht (fun W f1 f2 f3 => ?_)
  have hBx := hB.ex (h := h) (hb := hb) (t := t) hh (fun i hi => (hH i hi).2) ht
  have hw133 : W (tb θ + 133) = V (tb θ + 133) := f1 _ (by omega) (by omega) (by omega) (by omega)
  have hw126 : W (tb θ + 126) = V (tb θ + 126) := f1 _ (by omega) (by omega) (by omega) (by omega)
  have hw134 : W (tb θ + 134) = V (tb θ + 134) := f1 _ (by omega) (by omega) (by omega) (by omega)
  have hw127 : W (tb θ + 127) = V (tb θ + 127) := f1 _ (by omega) (by omega) (by omega) (by omega)
  have hwt : (m + (h / 15 + 1)) / 6 = 0 ∨ (m + (h / 15 + 1)) / 6 = 1 := by omega
  have hdec : m + (h / 15 + 1) < 6 ↔ (m + (h / 15 + 1)) / 6 = 0 := by omega
  generalize hg : (m + (h / 15 + 1)) / 6 = g at *
  have hsL : ∀ j, j < 6 * g → exL m h L j ≤ 15 := fun j hj => (hBx j (by omega)).1
  refine loop2 (wl := wl_M_send_199 θ (tb θ + 126) (nI k) (nI (m + (h / 15 + 1))) (nI g) K) (6 * g) (fun j b X => b = nI (20 * g + sumL (exL m h L) j) ∧ X = W) ⟨rfl, rfl⟩ ?_ ?_
  · rintro f j b X hj ⟨rfl, rfl⟩ hgo
    show bl_M_send_199 _ _ _ _ _ _ _ _ _ _ _
    unfold bl_M_send_199
    have e16 : (16 : Int32) * nI k = nI (16 * k) := pk_mul 16 k
    have e6 : (6 : Int32) * nI g = nI (6 * g) := pk_mul 6 g
    simp only [UM hU, IM hθ, true_and, exists_eq_left, e16, e6, nI_add]
    refine br_f (nI_ge hj (by omega)) ⟨by omega, vp_in_nI (by omega) (by decide), fun y2 hy2 z2 hz2 => ?_⟩
    rw [nI_clamp (by omega), (f2 j (by omega)).1, nI_add] at hy2
    rw [hz2, nI_1]
    exact hgo _ _ ⟨by rw [hy2, Nat.add_assoc]; rfl, rfl⟩
  · rintro f b X ⟨rfl, rfl⟩
    show bl_M_send_199 _ _ _ _ _ _ _ _ _ _ _
    unfold bl_M_send_199
    have e6 : (6 : Int32) * nI g = nI (6 * g) := pk_mul 6 g
    simp only [UM hU, IM hθ, true_and, exists_eq_left, e6]
    refine br_t (nI_le (Nat.le_refl _) (by omega)) ?_
    have hsum := sumL_le hsL
    rw [hw126, hW.1, nI_add]
    have hn := hW.2.1
    have fin : n + (20 * g + sumL (exL m h L) (6 * g)) ≤ 1000 → tb θ + 133 ≠ 0 ∧ vp_in (nI k) 4 ∧ ∀ V_35 : VT, V_35 = up2 X (tb θ + 133) (nI k).toNatClampNeg (nI (m + (h / 15 + 1))) → ∀ V_36 : VT, V_36 = up2 V_35 (tb θ + 126) 4 (0 : Int32) → ∃ n, wl_M_send_263 θ (tb θ + 126) (nI k) (nI g) K n (0 : Int32) V_36 U := by
      intro hroom
      refine ⟨by omega, vp_in_nI (by omega) (by decide), fun W1 e1 W2 e2 => ?_⟩
      rw [nI_clamp (by omega)] at e1
      have b2 : ∀ q, q ≠ tb θ + 126 → q ≠ tb θ + 133 → W2 q = X q := fun q a b => by rw [e2, up2_ne a, e1, up2_ne b]
      have s2 : SM θ W2 k (m + (h / 15 + 1)) (exL m h L) (exT m t T) (exB m B) (exO m O hb) := by
        unfold SM at f2 ⊢
        rw [b2 _ (by omega) (by omega), b2 _ (by omega) (by omega), b2 _ (by omega) (by omega), b2 _ (by omega) (by omega)]; exact f2
      have o2 : OUTK θ k V W2 := by
        unfold OUTK at f3 ⊢
        rw [b2 _ (by omega) (by omega), b2 _ (by omega) (by omega), b2 _ (by omega) (by omega), b2 _ (by omega) (by omega)]; exact f3
      have a126 : ∀ j, j ≠ 4 → W2 (tb θ + 126) j = V (tb θ + 126) j := fun j hj => by rw [e2, up2_ab hj, e1, up2_ne (by omega), hw126]
      have a4 : W2 (tb θ + 126) 4 = 0 := by rw [e2, up2_aa]
      have a133 : ∀ s, s ≠ k → W2 (tb θ + 133) s = V (tb θ + 133) s := fun s hs => by rw [e2, up2_ne (by omega), e1, up2_ab hs, hw133]
      have a133k : W2 (tb θ + 133) k = nI (m + (h / 15 + 1)) := by rw [e2, up2_ne (by omega), e1, up2_aa]
      rcases hwt with rfl | rfl
      · refine ⟨1, ?_⟩
        show bl_M_send_263 _ _ _ _ _ _ _ _ _
        unfold bl_M_send_263
        refine br_t (by decide) (hA h7 (by omega) W2 (fun q p1 p2 p3 p4 p5 p6 => ?_) a126 a4 a133 a133k s2 o2)
        rw [b2 q p1 p6, f1 q p2 p3 p4 p5]
      · refine ⟨2, ?_⟩
        show bl_M_send_263 _ _ _ _ _ _ _ _ _
        unfold bl_M_send_263
        simp only [IM hθ, true_and]
        refine br_f (by decide) ?_
        have hW2 : WM θ W2 n r w := by
          unfold WM at hW ⊢
          rw [a126 1 (by decide), a126 2 (by decide), b2 (tb θ + 127) (by omega) (by omega), hw127]; exact hW
        have e20 : 14 + 6 + sumL (exL m h L) 6 = 20 + sumL (exL m h L) 6 := by omega
        refine m_page (c := 6) (m := m + (h / 15 + 1)) (y := 0) hθ hU hW2 s2 hBx a133k (by omega) (by omega) hk4 (by omega) (fun V2 p1 p2 p3 p4 p5 p6 p7 p8 p9 z hz => ?_)
        rw [hz]
        show bl_M_send_263 _ _ _ _ _ _ _ _ _
        unfold bl_M_send_263
        have w134 : W2 (tb θ + 134) = V (tb θ + 134) := by rw [b2 _ (by omega) (by omega), hw134]
        rw [w134] at p3 p6
        rw [e20] at p3
        refine br_t (by decide) (hC h7 (by omega) (by omega) V2 (fun q x1 x2 x3 => ?_) (fun j j1 j4 => ?_) ?_ p3 (fun s hs => ?_) p5 p6 p7 (o2.trans ⟨p8, p9⟩))
        · rw [p1 q x1 x2 x3, b2 q x1 (by omega), f1 q (by omega) (by omega) (by omega) (by omega)]
        · rw [p2 j j1, a126 j j4]
        · rw [p2 4 (by decide), a4]
        · rw [(p4 s hs).1, (p4 s hs).2, a133 s hs, w134]
          exact ⟨rfl, rfl⟩
    refine pk_le (n + (20 * g + sumL (exL m h L) (6 * g))) 1000 fin (fun hr => ?_)
    rcases hwt with rfl | rfl
    · exact absurd hr (by show ¬ 1000 < n + (20 * 0 + 0); omega)
    · exact hF h7 (by omega) (by omega) X f1 (f2.low (by omega)) f3
end MSEND
