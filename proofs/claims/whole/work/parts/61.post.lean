-- a packet is laid behind the segments that wait
def exL (m h : Nat) (L : Nat → Nat) : Nat → Nat := fun j => if j < m then L j else if j - m < h / 15 then 15 else h % 15
def exT (m t : Nat) (T : Nat → Nat) : Nat → Nat := fun j => if j < m then T j else t
def exB (m : Nat) (B : Nat → Int32) : Nat → Int32 := fun j => if j < m then B j else if j = m then 1 else 0
def exO (m : Nat) (O : Nat → Nat → Nat) (hb : Nat → Nat) : Nat → Nat → Nat := fun j i => if j < m then O j i else hb (15 * (j - m) + i)
section POST
variable {θ : TH} {sw : Bool} {U : UT} {V V1 V2 : VT} {n r o m c k h t : Nat} {w L T hb : Nat → Nat} {B : Nat → Int32} {O : Nat → Nat → Nat} {l : List Int32}
theorem SV.low {m2 : Nat} (hS : SV V o m2 (exL m h L) (exT m t T) (exB m B) (exO m O hb)) (hm : m ≤ m2) : SV V o m L T B O := by
  intro j hj
  obtain ⟨a1, a2, a3, a4, a5, a6, a7⟩ := hS j (by omega)
  simp only [exL, exT, exB, exO, hj, if_true] at a1 a2 a3 a4 a5 a6 a7
  exact ⟨a1, a2, a3, a4, a5, a6, a7⟩
theorem s_layOut {K : VT → UT → Prop} (hθ : OKt θ) (hU : US θ sw U) (ho : OB θ U o) (hS : SV V o m L T B O) (hm : V o 5 = nI m) (hm5 : m ≤ 5) (hh : h ≤ 64) (hb : Nat → Nat) (hH : ∀ i, i < h → V (tb θ + 3) i = nI (hb i) ∧ hb i < 256) (ht : t < 65535)
    (hk : ∀ V2, (∀ q, q ≠ o + 1 → q ≠ o + 2 → q ≠ o + 3 → q ≠ o + 4 → V2 q = V q) → SV V2 o (m + (h / 15 + 1)) (exL m h L) (exT m t T) (exB m B) (exO m O hb) → K V2 U) : wp_O_layOut θ o (tb θ + 3) (nI h) (nI t) V U K := by
  obtain ⟨o1, o2, o3, o4, o5, o6, o7, o8, o9, o10, o11⟩ := ho
  unfold wp_O_layOut
  simp only [o1, true_and, hm]
  rintro y rfl
  have key : ∀ e d W, d + e = h / 15 + 1 → (∀ q, q ≠ o + 1 → q ≠ o + 2 → q ≠ o + 3 → q ≠ o + 4 → W q = V q) → SV W o (m + d) (exL m h L) (exT m t T) (exB m B) (exO m O hb) → wl_O_layOut_9 θ o (tb θ + 3) (nI h) (nI t) K (e + 1) (nI (m + d)) (nI (15 * d)) W U := by
    intro e
    induction e with
    | zero =>
      intro d W ed f1 f2
      show bl_O_layOut_9 _ _ _ _ _ _ _ _ _ _ _
      unfold bl_O_layOut_9
      refine br_t (nI_lt (by omega) (by omega)) (hk W f1 ?_)
      have : d = h / 15 + 1 := by omega
      rw [← this]; exact f2
    | succ e ih =>
      intro d W ed f1 f2
      show bl_O_layOut_9 _ _ _ _ _ _ _ _ _ _ _
      unfold bl_O_layOut_9 wb_O_layOut_66
      have em : nI (m + d) * (15 : Int32) = nI ((m + d) * 15) := pk_mul (m + d) 15
      have e15 : nI (15 * d) + (15 : Int32) = nI (15 * (d + 1)) := nI_add _ 15
      have es : nI h - nI (15 * d) = nI (h - 15 * d) := pk_sub (by omega)
      simp only [o1, o2, o3, o4, o5, o6, o7, o8, o9, IC hθ, true_and, exists_eq_left, es, em, e15, nI_1]
      refine br_f (nI_nlt (by omega) (by omega)) (br_f (nI_ge (a := m + d) (b := 10) (by omega) (by decide)) (fun y hy => ?_))
      have hy2 : y = nI (if d < h / 15 then 15 else h % 15) := by
        rw [hy]
        show (if nI (h - 15 * d) < nI 15 then nI (h - 15 * d) else nI 15) = _
        by_cases q : d < h / 15
        · rw [if_pos q, if_neg (nI_nlt (a := h - 15 * d) (b := 15) (by omega) (by omega))]
        · rw [if_neg q, if_pos (nI_lt (a := h - 15 * d) (b := 15) (by omega) (by decide))]
          exact congrArg nI (by omega)
      clear hy
      subst hy2
      generalize hl : (if d < h / 15 then 15 else h % 15) = lac
      have hl15 : lac ≤ 15 ∧ 15 * d + lac ≤ h := by
        rw [← hl]; split <;> omega
      refine ⟨by omega, vp_in_nI (by omega) (by decide), fun W1 e1 => ⟨by omega, vp_in_nI (by omega) (by decide), fun W2 e2 => ⟨by omega, ?_⟩⟩⟩
      rw [nI_clamp (by omega)] at e1 e2
      rw [nI_clamp (show m + d < 2 ^ 31 by omega), nI_clamp (show 15 * d < 2 ^ 31 by omega), nI_clamp (show lac < 2 ^ 31 by omega), nI_clamp (show (m + d) * 15 < 2 ^ 31 by omega)]
      have fin : ∀ z : Int32, z = (if d = 0 then 1 else 0) → vp_in (nI (m + d)) 10 ∧ isZ z ∧ ∀ V_23 : VT, V_23 = up2 W2 (o + 4) (m + d) z → o + 2 ≠ 0 ∧ ¬ nI (15 * d) < 0 ∧ ¬ nI ((m + d) * 15) < 0 ∧ ¬ nI lac < 0 ∧ 15 * d + lac ≤ 64 ∧ (m + d) * 15 + lac ≤ 150 ∧ ∀ V_35 : VT, V_35 = (fun q => if q = o + 2 then va_cpy (V_23 (tb θ + 3)) (V_23 (o + 2)) (15 * d) ((m + d) * 15) lac else V_23 q) → ∀ y_36 : Int32, y_36 = nI (m + d + 1) → ∀ y_37 : Int32, y_37 = nI (15 * (d + 1)) → wl_O_layOut_9 θ o (tb θ + 3) (nI h) (nI t) K (e + 1) y_36 y_37 V_35 U := by
        intro z hz
        refine ⟨vp_in_nI (by omega) (by decide), ?_, fun W3 e3 => ⟨by omega, nI_pos (by omega), nI_pos (by omega), nI_pos (by omega), by omega, by omega, fun W4 e4 y1 q1 y2 q2 => ?_⟩⟩
        · rw [hz]; split
          · exact Or.inr rfl
          · exact Or.inl rfl
        · rw [q1, q2]
          have c1 : W4 (o + 1) = up2 W (o + 1) (m + d) (nI lac) (o + 1) := by
            rw [e4]; simp only [show ¬ o + 1 = o + 2 by omega, if_false]; rw [e3, up2_ne (by omega), e2, up2_ne (by omega), e1]
          have c3 : W4 (o + 3) = up2 W (o + 3) (m + d) (nI t) (o + 3) := by
            rw [e4]; simp only [show ¬ o + 3 = o + 2 by omega, if_false]; rw [e3, up2_ne (by omega), e2, up2_at, up2_at]; simp only [e1, up2_ne (show o + 3 ≠ o + 1 by omega)]
          have c4 : W4 (o + 4) = up2 W (o + 4) (m + d) z (o + 4) := by
            rw [e4]; simp only [show ¬ o + 4 = o + 2 by omega, if_false]; rw [e3, up2_at, up2_at, e2, up2_ne (by omega), e1, up2_ne (by omega)]
          have c0 : W3 (tb θ + 3) = V (tb θ + 3) := by
            rw [e3, up2_ne (by omega), e2, up2_ne (by omega), e1, up2_ne (by omega), f1 _ (by omega) (by omega) (by omega) (by omega)]
          have c2 : W4 (o + 2) = va_cpy (V (tb θ + 3)) (W (o + 2)) (15 * d) ((m + d) * 15) lac := by
            rw [e4]; simp only [if_true]; rw [c0, e3, up2_ne (by omega), e2, up2_ne (by omega), e1, up2_ne (by omega)]
          refine ih (d + 1) W4 (by omega) (fun q a b g i => ?_) (fun j hj => ?_)
          · rw [e4]; simp only [b, if_false]; rw [e3, up2_ne i, e2, up2_ne g, e1, up2_ne a, f1 q a b g i]
          · rw [c1, c3, c4, c2]
            by_cases hjd : j < m + d
            · obtain ⟨a1, a2, a3, a4, a5, a6, a7⟩ := f2 j hjd
              rw [up2_ab (by omega), up2_ab (by omega), up2_ab (by omega)]
              refine ⟨a1, a2, a3, a4, a5, a6, fun i hi => ?_⟩
              rw [pk_cpy_out (by omega)]
              exact a7 i hi
            · have hjd : j = m + d := by omega
              subst hjd
              rw [up2_aa, up2_aa, up2_aa]
              simp only [exL, exT, exB, exO, show ¬ m + d < m by omega, if_false, show m + d - m = d by omega, hl]
              refine ⟨trivial, hl15.1, trivial, ht, ?_, ?_, fun i hi => ?_⟩
              · rw [hz]
                by_cases q : d = 0
                · rw [if_pos q, if_pos (by omega)]
                · rw [if_neg q, if_neg (by omega)]
              · split
                · exact Or.inr rfl
                · exact Or.inl rfl
              · rw [pk_cpy_in (by omega) (by omega), show 15 * d + (15 * (m + d) + i - (m + d) * 15) = 15 * d + i by omega]
                exact hH _ (by omega)
      exact pk_eq (15 * d) 0 (fun q => fin 1 (by rw [if_pos (by omega)])) (fun q => fin 0 (by rw [if_neg (by omega)]))  |>.symm
  exact ⟨_, key (h / 15 + 1) 0 V (by omega) (fun _ _ _ _ _ => rfl) (fun j hj => by
    obtain ⟨a1, a2, a3, a4, a5, a6, a7⟩ := hS j hj
    have hj : j < m := hj
    simp only [exL, exT, exB, exO, hj, if_true]
    exact ⟨a1, a2, a3, a4, a5, a6, a7⟩)⟩
end POST
