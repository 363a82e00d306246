section OKSEND
variable {θ : TH} {sw : Bool} {U : UT} {V V1 V2 : VT} {n r o m c k h t : Nat} {w L T hb : Nat → Nat} {B : Nat → Int32} {O : Nat → Nat → Nat} {l : List Int32} {R : RT}
theorem ok_send (hθ : OKt θ) (hG : RG θ R) : OP_send θ (IW θ R) := by
  intro x y V U Kc hI hk
  have hI' := hI
  obtain ⟨sw, n, r, w, h, hb, hU, hWV, hWM, hH, hO, hR⟩ := hI
  obtain ⟨hh, H1, H2, H3⟩ := hH
  have hn := hWV.2.1
  have hrn := hWV.2.2.2.1
  refine s_send hθ hU H1 (fun q => hk _ _ _ (fun Kf hf => ?_)) (fun k t hk4 ht e1 e2 => ?_)
  · -- neither takes it
    unfold wp_M_send
    simp only [IM hθ, true_and]
    refine m_noStream hθ hU (fun _ => ⟨fun _ => hf V U hI', fun e => absurd e (by decide)⟩) (fun k hk4 e h7 => ⟨fun e => absurd rfl e, fun _ => ?_⟩)
    rcases i_cases y 4 (by decide) with ⟨hy, hne⟩ | ⟨t, ht, rfl⟩
    · exact br_t hy (hf V U hI')
    · refine br_f (nI_pos ht) (pk_le t 65534 (fun q2 => absurd ⟨e, rfl⟩ (q k t hk4 (by omega))) (fun q2 => hf V U hI'))
  · subst e1; subst e2
    obtain ⟨hob, hu⟩ := ob_k hθ hU hk4
    obtain ⟨m, L, T, B, O, a1, a2, a3, a4, a5, a6, a7, a8, a9⟩ := hO k hk4
    have hSB := a4.sb
    have o10 := hob.2.2.2.2.2.2.2.2.2.1
    have o11 := hob.2.2.2.2.2.2.2.2.2.2
    -- other streams
    have oth : ∀ V3 : VT, (∀ q, tb θ + 5 ≤ q → q < tb θ + 25 → FO (tb θ + (5 + 5 * k)) q → V3 q = V q) → (∀ s, s ≠ k → V3 (tb θ + 133) s = V (tb θ + 133) s) → (∀ s, s ≠ k → V3 (tb θ + 134) s = V (tb θ + 134) s) → V3 (tb θ + 135) = V (tb θ + 135) → OUTK θ k V V3 → ∀ k2, k2 < 4 → k2 ≠ k → OI θ V3 k2 := by
      intro V3 b1 b2 b3 b4 b5 k2 hk2 hne
      refine (hO k2 hk2).of (fun i hi => b1 _ (by omega) (by omega) ⟨by omega, by omega, by omega, by omega, by omega⟩) (b2 k2 hne) (b3 k2 hne) (by rw [b4]) (fun s s1 s2 => b5.1 s (by omega)) (fun s s1 s2 => b5.2 s (by omega))
    refine s_post (k := k) (hb := hb) hθ hU hob hWV a4 a3 a1 a2 hk4 hh (fun i hi => ⟨(H3 i hi).1, (H3 i hi).2.2⟩) ht ?_ ?_ ?_ ?_
    · intro h7
      refine ⟨fun _ => hk _ _ _ (fun Kf hf => ?_), fun e => absurd rfl e⟩
      exact m_send (hb := hb) hθ hU hWM a6 hSB a5 a1 hk4 H2 hh (fun i hi => ⟨(H3 i hi).2.1, (H3 i hi).2.2⟩) ht (fun _ => hf V U hI') (fun e => absurd (a8 ▸ e) h7) (fun e => absurd (a8 ▸ e) h7) (fun e => absurd (a8 ▸ e) h7)
    · intro h7 hlt V2 p1 p2 p3 p4
      refine ⟨fun e => absurd e (by decide), fun _ V2' eV => hk _ _ _ (fun Kf hf => ?_)⟩
      have b2 : ∀ q, q ≠ tb θ + 0 → FO (tb θ + (5 + 5 * k)) q → V2' q = V q := fun q x1 x2 => by rw [eV, up2_ne x1, p1 q x2]
      have bm : ∀ q, tb θ + 25 ≤ q → V2' q = V q := fun q hq => b2 q (by omega) ⟨by omega, by omega, by omega, by omega, by omega⟩
      have bo : ∀ i, i ≤ 4 → V2' (tb θ + (5 + 5 * k) + i) = V2 (tb θ + (5 + 5 * k) + i) := fun i hi => by rw [eV, up2_ne (by omega)]
      have hWM2 : WM θ V2' n r w := by unfold WM at hWM ⊢; rw [bm _ (by omega), bm _ (by omega)]; exact hWM
      have hSM2 : SM θ V2' k m L T B O := by unfold SM at a6 ⊢; rw [bm _ (by omega), bm _ (by omega), bm _ (by omega), bm _ (by omega)]; exact a6
      have h7' : V2' (tb θ + 135) k = 0 := by rw [bm _ (by omega), ← a8]; exact h7
      refine m_send (hb := hb) hθ hU hWM2 hSM2 hSB (by rw [bm _ (by omega)]; exact a5) a1 hk4 (by rw [bm _ (by omega)]; exact H2) hh (fun i hi => by rw [bm _ (by omega)]; exact ⟨(H3 i hi).2.1, (H3 i hi).2.2⟩) ht (fun e => absurd h7' e) ?_ (fun _ e => absurd e (by omega)) (fun _ e => absurd e (by omega))
      intro _ _ V3 c1 c2 c3 c4 c5 c6 c7
      have low : ∀ q, q < tb θ + 126 → V3 q = V2' q := fun q hq => c1 q (by omega) (by omega) (by omega) (by omega) (by omega) (by omega)
      refine hf V3 U ⟨sw, n, r, w, 0, hb, hU, ?_, ?_, ⟨by omega, ?_, c3, fun i hi => absurd hi (by omega)⟩, fun k2 hk2 => ?_, hG V V3 r w w sw ⟨fun q x1 x2 => ?_, fun q x1 => ?_, fun j j1 j2 j3 => ?_⟩ (fun _ _ => rfl) hR⟩
      · unfold WV at hWV ⊢
        rw [low _ (by omega), low _ (by omega), b2 _ (by omega) ⟨by omega, by omega, by omega, by omega, by omega⟩, b2 _ (by omega) ⟨by omega, by omega, by omega, by omega, by omega⟩]; exact hWV
      · unfold WM at hWM2 ⊢
        rw [c2 1 (by decide), c2 2 (by decide), c1 (tb θ + 127) (by omega) (by omega) (by omega) (by omega) (by omega) (by omega)]; exact hWM2
      · rw [low _ (by omega), eV, up2_aa]; rfl
      · by_cases hne : k2 = k
        · subst hne
          have q0 := (low _ (by omega)).trans (bo 0 (by decide))
          have q1 := (low _ (by omega)).trans (bo 1 (by decide))
          have q2 := (low _ (by omega)).trans (bo 2 (by decide))
          have q3 := (low _ (by omega)).trans (bo 3 (by decide))
          have q4 := (low _ (by omega)).trans (bo 4 (by decide))
          rw [Nat.add_zero] at q0
          have r134 : V3 (tb θ + 134) = V (tb θ + 134) := by rw [c1 _ (by omega) (by omega) (by omega) (by omega) (by omega) (by omega), bm _ (by omega)]
          have r135 : V3 (tb θ + 135) = V (tb θ + 135) := by rw [c1 _ (by omega) (by omega) (by omega) (by omega) (by omega) (by omega), bm _ (by omega)]
          refine ⟨_, _, _, _, _, (by omega : m + (h / 15 + 1) ≤ 5), by rw [q0, p2 0 (by decide)]; exact a2, by rw [q0]; exact p3, fun j hj => ?_, c5, c6, ?_, ?_, by rw [r135]; exact a9⟩
          · rw [q1, q2, q3, q4]; exact p4 j hj
          · rw [q0, p2 6 (by decide), r134]; exact a7
          · rw [q0, p2 7 (by decide), r135]; exact a8
        · refine oth V3 (fun q x1 x2 x3 => by rw [low _ (by omega), b2 q (by omega) x3]) (fun s hs => by rw [c4 s hs, bm _ (by omega)]) (fun s hs => ?_) ?_ ?_ k2 hk2 hne
          · rw [c1 _ (by omega) (by omega) (by omega) (by omega) (by omega) (by omega), bm _ (by omega)]
          · rw [c1 _ (by omega) (by omega) (by omega) (by omega) (by omega) (by omega), bm _ (by omega)]
          · have e0 : OUTK θ k V V2' := ⟨fun s _ => by rw [bm _ (by omega), bm _ (by omega), bm _ (by omega)]; exact ⟨rfl, rfl, rfl⟩, fun s _ => by rw [bm _ (by omega)]⟩
            exact e0.trans c7
      · rw [low _ (by omega), bm _ (by omega)]
      · rw [c1 _ (by omega) (by omega) (by omega) (by omega) (by omega) (by omega), bm _ (by omega)]
      · rw [c2 j j3, bm _ (by omega)]
    · intro h7 hge hroom V2 p1 p2 p3
      refine ⟨fun _ => hk _ _ _ (fun Kf hf => ?_), fun e => absurd rfl e⟩
      have bm : ∀ q, tb θ + 25 ≤ q → V2 q = V q := fun q hq => p1 q ⟨by omega, by omega, by omega, by omega, by omega⟩
      have hWM2 : WM θ V2 n r w := by unfold WM at hWM ⊢; rw [bm _ (by omega), bm _ (by omega)]; exact hWM
      have hSM2 : SM θ V2 k m L T B O := by unfold SM at a6 ⊢; rw [bm _ (by omega), bm _ (by omega), bm _ (by omega), bm _ (by omega)]; exact a6
      have h7' : V2 (tb θ + 135) k = 0 := by rw [bm _ (by omega), ← a8]; exact h7
      refine m_send (hb := hb) hθ hU hWM2 hSM2 hSB (by rw [bm _ (by omega)]; exact a5) a1 hk4 (by rw [bm _ (by omega)]; exact H2) hh (fun i hi => by rw [bm _ (by omega)]; exact ⟨(H3 i hi).2.1, (H3 i hi).2.2⟩) ht (fun e => absurd h7' e) (fun _ e => absurd e (by omega)) ?_ (fun _ _ e => absurd e (by omega))
      intro _ _ _ V3 c1 c2 c3
      have low : ∀ q, q < tb θ + 129 → V3 q = V2 q := fun q hq => c1 q (by omega) (by omega) (by omega) (by omega)
      have hi : ∀ q, tb θ + 133 ≤ q → V3 q = V2 q := fun q hq => c1 q (by omega) (by omega) (by omega) (by omega)
      have f0 : ∀ q, q < tb θ + 5 → FO (tb θ + (5 + 5 * k)) q := fun q hq => ⟨by omega, by omega, by omega, by omega, by omega⟩
      refine hf V3 U ⟨sw, n, r, w, h, hb, hU, ?_, ?_, ⟨hh, ?_, ?_, ?_⟩, fun k2 hk2 => ?_, hG V V3 r w w sw ⟨fun q x1 x2 => ?_, fun q x1 => ?_, fun j j1 j2 j3 => ?_⟩ (fun _ _ => rfl) hR⟩
      · unfold WV at hWV ⊢
        rw [low _ (by omega), low _ (by omega), p1 _ (f0 _ (by omega)), p1 _ (f0 _ (by omega))]; exact hWV
      · unfold WM at hWM2 ⊢
        rw [low _ (by omega), low _ (by omega)]; exact hWM2
      · rw [low _ (by omega), p1 _ (f0 _ (by omega))]; exact H1
      · rw [low _ (by omega), bm _ (by omega)]; exact H2
      · rw [low _ (by omega), low _ (by omega), p1 _ (f0 _ (by omega)), bm _ (by omega)]; exact H3
      · by_cases hne : k2 = k
        · subst hne
          have q0 : V3 (tb θ + (5 + 5 * k2)) = V (tb θ + (5 + 5 * k2)) := by rw [low _ (by omega), p2]
          refine ⟨m, L, T, B, O, a1, by rw [q0]; exact a2, by rw [q0]; exact a3, fun j hj => ?_, by rw [hi _ (by omega), bm _ (by omega)]; exact a5, c2, by rw [q0, hi _ (by omega), bm _ (by omega)]; exact a7, by rw [q0, hi _ (by omega), bm _ (by omega)]; exact a8, by rw [hi _ (by omega), bm _ (by omega)]; exact a9⟩
          rw [low _ (by omega), low _ (by omega), low _ (by omega), low _ (by omega)]; exact p3 j hj
        · refine oth V3 (fun q x1 x2 x3 => by rw [low _ (by omega), p1 q x3]) (fun s hs => by rw [hi _ (by omega), bm _ (by omega)]) (fun s hs => by rw [hi _ (by omega), bm _ (by omega)]) (by rw [hi _ (by omega), bm _ (by omega)]) ?_ k2 hk2 hne
          have e0 : OUTK θ k V V2 := ⟨fun s _ => by rw [bm _ (by omega), bm _ (by omega), bm _ (by omega)]; exact ⟨rfl, rfl, rfl⟩, fun s _ => by rw [bm _ (by omega)]⟩
          exact e0.trans c3
      · rw [low _ (by omega), bm _ (by omega)]
      · rw [hi _ (by omega), bm _ (by omega)]
      · rw [low _ (by omega), bm _ (by omega)]
    · intro h7 hge hroom V2 p1 p2 p3 p4 p5 p6 p7
      refine ⟨fun e => absurd e (by decide), fun _ V2' eV => hk _ _ _ (fun Kf hf => ?_)⟩
      have b2 : ∀ q, q ≠ tb θ + 0 → q ≠ tb θ + 1 → q ≠ tb θ + 2 → FO (tb θ + (5 + 5 * k)) q → V2' q = V q := fun q x1 y1 y2 x2 => by rw [eV, up2_ne x1, p1 q y1 y2 x2]
      have bm : ∀ q, tb θ + 25 ≤ q → V2' q = V q := fun q hq => b2 q (by omega) (by omega) (by omega) ⟨by omega, by omega, by omega, by omega, by omega⟩
      have bo : ∀ q, q ≠ tb θ + 0 → V2' q = V2 q := fun q hq => by rw [eV, up2_ne hq]
      have hWM2 : WM θ V2' n r w := by unfold WM at hWM ⊢; rw [bm _ (by omega), bm _ (by omega)]; exact hWM
      have hSM2 : SM θ V2' k m L T B O := by unfold SM at a6 ⊢; rw [bm _ (by omega), bm _ (by omega), bm _ (by omega), bm _ (by omega)]; exact a6
      have h7' : V2' (tb θ + 135) k = 0 := by rw [bm _ (by omega), ← a8]; exact h7
      refine m_send (hb := hb) hθ hU hWM2 hSM2 hSB (by rw [bm _ (by omega)]; exact a5) a1 hk4 (by rw [bm _ (by omega)]; exact H2) hh (fun i hi => by rw [bm _ (by omega)]; exact ⟨(H3 i hi).2.1, (H3 i hi).2.2⟩) ht (fun e => absurd h7' e) (fun _ e => absurd e (by omega)) (fun _ _ e => absurd e (by omega)) ?_
      intro _ _ _ V3 c1 c2 c3 c4 c5 c6 c7 c8 c9
      have low : ∀ q, q < tb θ + 126 → V3 q = V2' q := fun q hq => c1 q (by omega) (by omega) (by omega)
      rw [bm (tb θ + 134) (by omega), ← a7] at c4
      refine hf V3 U ⟨sw, _, r, _, 0, hb, hU, ?_, c4, ⟨by omega, ?_, c3, fun i hi => absurd hi (by omega)⟩, fun k2 hk2 => ?_, hG V V3 r w _ sw ⟨fun q x1 x2 => ?_, fun q x1 => ?_, fun j j1 j2 j3 => ?_⟩ (apw_low hrn) hR⟩
      · unfold WV at p2 ⊢
        rw [low _ (by omega), low _ (by omega), bo _ (by omega), bo _ (by omega)]; exact p2
      · rw [low _ (by omega), eV, up2_aa]; rfl
      · by_cases hne : k2 = k
        · subst hne
          have q0 : ∀ i, i ≤ 4 → V3 (tb θ + (5 + 5 * k2) + i) = V2 (tb θ + (5 + 5 * k2) + i) := fun i hi => by rw [low _ (by omega), bo _ (by omega)]
          have q00 := q0 0 (by decide)
          rw [Nat.add_zero] at q00
          have r135 : V3 (tb θ + 135) = V (tb θ + 135) := by rw [c1 _ (by omega) (by omega) (by omega), bm _ (by omega)]
          refine ⟨_, _, _, _, _, (by omega : m + (h / 15 + 1) - 6 ≤ 5), by rw [q00]; exact p3, by rw [q00]; exact p5, fun j hj => ?_, c6, c8, ?_, ?_, by rw [r135]; exact a9⟩
          · rw [q0 1 (by decide), q0 2 (by decide), q0 3 (by decide), q0 4 (by decide)]; exact p7 j hj
          · rw [q00, p6, c7, bm (tb θ + 134) (by omega), a7]
          · rw [q00, p4, r135]; exact a8
        · refine oth V3 (fun q x1 x2 x3 => by rw [low _ (by omega), b2 q (by omega) (by omega) (by omega) x3]) (fun s hs => by rw [(c5 s hs).1, bm _ (by omega)]) (fun s hs => by rw [(c5 s hs).2, bm _ (by omega)]) ?_ ?_ k2 hk2 hne
          · rw [c1 _ (by omega) (by omega) (by omega), bm _ (by omega)]
          · have e0 : OUTK θ k V V2' := ⟨fun s _ => by rw [bm _ (by omega), bm _ (by omega), bm _ (by omega)]; exact ⟨rfl, rfl, rfl⟩, fun s _ => by rw [bm _ (by omega)]⟩
            exact e0.trans c9
      · rw [low _ (by omega), bm _ (by omega)]
      · rw [c1 _ (by omega) (by omega) (by omega), bm _ (by omega)]
      · rw [c2 j j1 j3, bm _ (by omega)]
theorem ok_flush (hθ : OKt θ) (hG : RG θ R) : OP_flush θ (IW θ R) := by
  intro x y V U Kc hy hI hk
  have hI' := hI
  obtain ⟨sw, n, r, w, h, hb, hU, hWV, hWM, hH, hO, hR⟩ := hI
  obtain ⟨hh, H1, H2, H3⟩ := hH
  have hn := hWV.2.1
  have hrn := hWV.2.2.2.1
  refine s_flush hθ hU (fun q => hk _ _ _ (fun Kf hf => ?_)) (fun k hk4 e1 => ?_)
  · unfold wp_M_flush
    simp only [IM hθ, true_and]
    exact m_noStream hθ hU (fun _ => ⟨fun e => absurd e (by decide), fun _ => hf V U hI'⟩) (fun k hk4 e h7 => absurd e (q k hk4))
  · subst e1
    obtain ⟨hob, hu⟩ := ob_k hθ hU hk4
    obtain ⟨m, L, T, B, O, a1, a2, a3, a4, a5, a6, a7, a8, a9⟩ := hO k hk4
    have hSB := a4.sb
    have o10 := hob.2.2.2.2.2.2.2.2.2.1
    have o11 := hob.2.2.2.2.2.2.2.2.2.2
    refine s_empty (k := k) hθ hU hob hWV a4 a3 a1 a2 hk4 hy ?_ ?_ ?_
    · intro h7
      refine hk _ _ _ (fun Kf hf => ?_)
      exact m_flush hθ hU hWM a6 hSB a5 a1 hk4 hy (fun _ => hf V U hI') (fun e => absurd (a8 ▸ e) h7) (fun e => absurd (a8 ▸ e) h7)
    · intro h7 hroom
      refine hk _ _ _ (fun Kf hf => ?_)
      exact m_flush hθ hU hWM a6 hSB a5 a1 hk4 hy (fun _ => hf V U hI') (fun _ _ => hf V U hI') (fun _ e => absurd e (by omega))
    · intro h7 hroom V2 p1 p2 p3 p4 p5 p6
      refine hk _ _ _ (fun Kf hf => ?_)
      have bm : ∀ q, tb θ + 25 ≤ q → V2 q = V q := fun q hq => p1 q (by omega) (by omega) ⟨by omega, by omega, by omega, by omega, by omega⟩
      have hWM2 : WM θ V2 n r w := by unfold WM at hWM ⊢; rw [bm _ (by omega), bm _ (by omega)]; exact hWM
      have hSM2 : SM θ V2 k m L T B O := by unfold SM at a6 ⊢; rw [bm _ (by omega), bm _ (by omega), bm _ (by omega), bm _ (by omega)]; exact a6
      have h7' : V2 (tb θ + 135) k = 0 := by rw [bm _ (by omega), ← a8]; exact h7
      refine m_flush hθ hU hWM2 hSM2 hSB (by rw [bm _ (by omega)]; exact a5) a1 hk4 hy (fun e => absurd h7' e) (fun _ e => absurd e (by omega)) ?_
      intro _ _ V3 c1 c2 c4 c5 c6 c7 c8 c9
      have low : ∀ q, q < tb θ + 126 → V3 q = V2 q := fun q hq => c1 q (by omega) (by omega) (by omega)
      rw [bm (tb θ + 134) (by omega), ← a7] at c4
      have f0 : ∀ q, q < tb θ + 5 → FO (tb θ + (5 + 5 * k)) q := fun q hq => ⟨by omega, by omega, by omega, by omega, by omega⟩
      refine hf V3 U ⟨sw, _, r, _, h, hb, hU, ?_, c4, ⟨hh, ?_, ?_, ?_⟩, fun k2 hk2 => ?_, hG V V3 r w _ sw ⟨fun q x1 x2 => ?_, fun q x1 => ?_, fun j j1 j2 j3 => ?_⟩ (apw_low hrn) hR⟩
      · unfold WV at p2 ⊢
        rw [low _ (by omega), low _ (by omega)]; exact p2
      · rw [low _ (by omega), p1 _ (by omega) (by omega) (f0 _ (by omega))]; exact H1
      · rw [c2 4 (by decide), bm _ (by omega)]; exact H2
      · rw [low _ (by omega), c1 (tb θ + 128) (by omega) (by omega) (by omega), p1 _ (by omega) (by omega) (f0 _ (by omega)), bm _ (by omega)]; exact H3
      · by_cases hne : k2 = k
        · subst hne
          have q00 : V3 (tb θ + (5 + 5 * k2)) = V2 (tb θ + (5 + 5 * k2)) := low _ (by omega)
          refine ⟨0, L, T, B, O, by omega, by rw [q00]; exact p3, by rw [q00]; exact p5, fun j hj => absurd hj (by omega), c6, fun j hj => absurd hj (by omega), ?_, ?_, ?_⟩
          · rw [q00, p6, c7, bm (tb θ + 134) (by omega), a7]
          · rw [q00, p4, c8]
          · rw [c8]; exact hy
        · refine (hO k2 hk2).of (fun i hi => ?_) ?_ ?_ ?_ (fun s s1 s2 => ?_) (fun s s1 s2 => ?_)
          · rw [low _ (by omega), p1 _ (by omega) (by omega) ⟨by omega, by omega, by omega, by omega, by omega⟩]
          · rw [(c5 k2 hne).1, bm _ (by omega)]
          · rw [(c5 k2 hne).2.1, bm _ (by omega)]
          · rw [(c5 k2 hne).2.2, bm _ (by omega)]
          · obtain ⟨x1, x2, x3⟩ := c9.1 s (by omega)
            rw [x1, x2, x3, bm _ (by omega), bm _ (by omega), bm _ (by omega)]; exact ⟨rfl, rfl, rfl⟩
          · rw [c9.2 s (by omega), bm _ (by omega)]
      · rw [low _ (by omega), bm _ (by omega)]
      · rw [c1 _ (by omega) (by omega) (by omega), bm _ (by omega)]
      · rw [c2 j j1, bm _ (by omega)]
end OKSEND
