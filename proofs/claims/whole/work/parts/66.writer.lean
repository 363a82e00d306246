-- the invariant, with the reader's and the decoder's share R left open
def HD (θ : TH) (V : VT) (h : Nat) (hb : Nat → Nat) : Prop := h ≤ 64 ∧ V (tb θ + 0) 2 = nI h ∧ V (tb θ + 126) 4 = nI h ∧ ∀ i, i < h → V (tb θ + 3) i = nI (hb i) ∧ V (tb θ + 128) i = nI (hb i) ∧ hb i < 256
def OI (θ : TH) (V : VT) (k : Nat) : Prop := ∃ (m : Nat) (L T : Nat → Nat) (B : Nat → Int32) (O : Nat → Nat → Nat), m ≤ 5 ∧ V (tb θ + (5 + 5 * k)) 0 = nI k ∧ V (tb θ + (5 + 5 * k)) 5 = nI m ∧ SV V (tb θ + (5 + 5 * k)) m L T B O ∧ V (tb θ + 133) k = nI m ∧ SM θ V k m L T B O ∧ V (tb θ + (5 + 5 * k)) 6 = V (tb θ + 134) k ∧ V (tb θ + (5 + 5 * k)) 7 = V (tb θ + 135) k ∧ isZ (V (tb θ + 135) k)
/-- the same for reader and decoder -/
def EQR (θ : TH) (V V2 : VT) : Prop := (∀ q, tb θ + 25 ≤ q → q < tb θ + 126 → V2 q = V q) ∧ (∀ q, tb θ + 136 ≤ q → V2 q = V q) ∧ (∀ j, j ≠ 1 → j ≠ 2 → j ≠ 4 → V2 (tb θ + 126) j = V (tb θ + 126) j)
def RT := VT → Nat → (Nat → Nat) → Bool → Prop
def RG (θ : TH) (R : RT) : Prop := ∀ V V2 r w w2 sw, EQR θ V V2 → (∀ i, i < r → w2 i = w i) → R V r w sw → R V2 r w2 sw
def IW (θ : TH) (R : RT) (V : VT) (U : UT) : Prop := ∃ (sw : Bool) (n r : Nat) (w : Nat → Nat) (h : Nat) (hb : Nat → Nat), US θ sw U ∧ WV θ V n r w ∧ WM θ V n r w ∧ HD θ V h hb ∧ (∀ k, k < 4 → OI θ V k) ∧ R V r w sw
section WRITER
variable {θ : TH} {sw : Bool} {U : UT} {V V1 V2 : VT} {n r o m c k h t : Nat} {w L T hb : Nat → Nat} {B : Nat → Int32} {O : Nat → Nat → Nat} {l : List Int32} {R : RT}
theorem EQR.refl : EQR θ V V := ⟨fun _ _ _ => rfl, fun _ _ => rfl, fun _ _ _ _ => rfl⟩
theorem EQR.trans (h1 : EQR θ V V1) (h2 : EQR θ V1 V2) : EQR θ V V2 := ⟨fun q a b => (h2.1 q a b).trans (h1.1 q a b), fun q a => (h2.2.1 q a).trans (h1.2.1 q a), fun j a b e => (h2.2.2 j a b e).trans (h1.2.2 j a b e)⟩
/-- what a stream's share looks at -/
theorem OI.of (hO : OI θ V k) (h1 : ∀ i, i ≤ 4 → V2 (tb θ + (5 + 5 * k) + i) = V (tb θ + (5 + 5 * k) + i)) (h3 : V2 (tb θ + 133) k = V (tb θ + 133) k) (h4 : V2 (tb θ + 134) k = V (tb θ + 134) k) (h5 : V2 (tb θ + 135) k = V (tb θ + 135) k) (h6 : ∀ s, 16 * k ≤ s → s < 16 * k + 16 → V2 (tb θ + 129) s = V (tb θ + 129) s ∧ V2 (tb θ + 130) s = V (tb θ + 130) s ∧ V2 (tb θ + 131) s = V (tb θ + 131) s) (h7 : ∀ s, 240 * k ≤ s → s < 240 * k + 240 → V2 (tb θ + 132) s = V (tb θ + 132) s) : OI θ V2 k := by
  obtain ⟨m, L, T, B, O, a1, a2, a3, a4, a5, a6, a7, a8, a9⟩ := hO
  have e0 := h1 0 (by decide)
  have e1 := h1 1 (by decide)
  have e2 := h1 2 (by decide)
  have e3 := h1 3 (by decide)
  have e4 := h1 4 (by decide)
  rw [Nat.add_zero] at e0
  refine ⟨m, L, T, B, O, a1, by rw [e0]; exact a2, by rw [e0]; exact a3, fun j hj => ?_, by rw [h3]; exact a5, fun j hj => ?_, by rw [e0, h4]; exact a7, by rw [e0, h5]; exact a8, by rw [h5]; exact a9⟩
  · rw [e1, e2, e3, e4]; exact a4 j hj
  · obtain ⟨b1, b2, b3, b4⟩ := a6 j hj
    obtain ⟨c1, c2, c3⟩ := h6 (16 * k + j) (by omega) (by omega)
    have hL := (a4 j hj).2.1
    refine ⟨c1.trans b1, c2.trans b2, c3.trans b3, fun i hi => ?_⟩
    rw [h7 _ (by omega) (by omega)]; exact b4 i hi
/-- nothing of the writer's streams changed -/
theorem OI.all (hO : ∀ k, k < 4 → OI θ V k) (h1 : ∀ q, tb θ + 5 ≤ q → q < tb θ + 25 → V2 q = V q) (h2 : ∀ q, tb θ + 129 ≤ q → q ≤ tb θ + 135 → V2 q = V q) : ∀ k, k < 4 → OI θ V2 k := by
  intro k hk
  refine (hO k hk).of (fun i hi => h1 _ (by omega) (by omega)) ?_ ?_ ?_ (fun s _ _ => ⟨?_, ?_, ?_⟩) (fun s _ _ => ?_) <;> rw [h2 _ (by omega) (by omega)]
theorem apw_low (h : r ≤ n) : ∀ i, i < r → apw n w l i = w i := fun i hi => by unfold apw; rw [if_pos (by omega)]
theorem ok_length (hθ : OKt θ) : OP_length θ (IW θ R) := by
  intro V U Kc hI hk
  have hI' := hI
  obtain ⟨sw, n, r, w, h, hb, hU, hWV, hWM, hH, hO, hR⟩ := hI
  unfold wp_S_length
  simp only [UC hU, IC hθ, true_and]
  refine ⟨by omega, hk _ _ _ (fun Kf hf => ?_)⟩
  unfold wp_M_length
  simp only [IM hθ, true_and]
  rw [hWM.1, ← hWV.1]
  exact hf V U hI'
theorem ok_wire (hθ : OKt θ) : OP_wire θ (IW θ R) := by
  intro x V U Kc hI hk
  have hI' := hI
  obtain ⟨sw, n, r, w, h, hb, hU, hWV, hWM, hH, hO, hR⟩ := hI
  refine s_wire hθ hU hWV (fun q => hk _ _ _ (fun Kf hf => ?_)) (fun j hj e => hk _ _ _ (fun Kf hf => ?_))
  · exact m_wire hθ hU hWM (fun _ => hf V U hI') (fun j hj e => absurd e (q j hj))
  · refine m_wire hθ hU hWM (fun q => absurd e (q j hj)) (fun j2 hj2 e2 => ?_)
    have hn := hWV.2.1
    obtain rfl : j = j2 := (nI_eq (by omega) (by omega)).mp (e.symm.trans e2)
    exact hf V U hI'
theorem ok_raw (hθ : OKt θ) (hG : RG θ R) : OP_raw θ (IW θ R) := by
  intro x y V U Kc hI hk
  have hI' := hI
  obtain ⟨sw, n, r, w, h, hb, hU, hWV, hWM, hH, hO, hR⟩ := hI
  have hn := hWV.2.1
  refine s_raw hθ hU hWV.1 hn (fun q => hk _ _ _ (fun Kf hf => ?_)) (fun m m1 m8 mn e V2 g2 => hk _ _ _ (fun Kf hf => ?_))
  · exact m_raw hθ hU hWM.1 hn (fun _ => hf V U hI') (fun m a b c e => absurd e (q m a b c))
  · have hv : V2 (tb θ + 126) 1 = nI n := by rw [g2.1 _ (by omega) (by omega)]; exact hWM.1
    refine m_raw (V := V2) hθ hU hv hn (fun q => absurd e (q m m1 m8 mn)) (fun m2 a b c e2 V3 g3 => ?_)
    obtain rfl : m = m2 := (nI_eq (by omega) (by omega)).mp (e.symm.trans e2)
    refine hf V3 U ⟨sw, n + m, r, fun i => if i < n then w i else (oc x (i - n)).toNatClampNeg, h, hb, hU, ⟨?_, mn, ?_, ?_, ?_⟩, ⟨g3.2.2.1, mn, ?_, ?_, ?_⟩, ⟨hH.1, ?_, ?_, ?_⟩, ?_, hG V V3 r w _ sw ⟨?_, ?_, ?_⟩ ?_ hR⟩
    · rw [g3.1 _ (by omega) (by omega)]; exact g2.2.2.1
    · rw [g3.1 _ (by omega) (by omega), g2.2.1 2 (by decide)]; exact hWV.2.2.1
    · have := hWV.2.2.2.1; omega
    · intro i hi
      rw [g3.1 _ (by omega) (by omega), g2.2.2.2 i]
      by_cases q : i < n
      · simp only [q, if_true]; rw [if_neg (by omega)]; exact hWV.2.2.2.2 i q
      · simp only [q, if_false]; rw [if_pos (by omega)]
        obtain ⟨j, hj, ej⟩ := oc_b x (i - n)
        rw [ej, nI_clamp (by omega)]; exact ⟨rfl, hj⟩
    · rw [g3.2.1 2 (by decide), g2.1 _ (by omega) (by omega)]; exact hWM.2.2.1
    · have := hWV.2.2.2.1; omega
    · intro i hi
      rw [g3.2.2.2 i, g2.1 _ (by omega) (by omega)]
      by_cases q : i < n
      · simp only [q, if_true]; rw [if_neg (by omega)]; exact hWM.2.2.2.2 i q
      · simp only [q, if_false]; rw [if_pos (by omega)]
        obtain ⟨j, hj, ej⟩ := oc_b x (i - n)
        rw [ej, nI_clamp (by omega)]; exact ⟨rfl, hj⟩
    · rw [g3.1 _ (by omega) (by omega), g2.1 _ (by omega) (by omega)]; exact hH.2.1
    · rw [g3.2.1 4 (by decide), g2.1 _ (by omega) (by omega)]; exact hH.2.2.1
    · rw [g3.1 _ (by omega) (by omega), g2.1 _ (by omega) (by omega), g3.1 _ (by omega) (by omega), g2.1 _ (by omega) (by omega)]; exact hH.2.2.2
    · exact OI.all hO (fun q a b => by rw [g3.1 _ (by omega) (by omega), g2.1 _ (by omega) (by omega)]) (fun q a b => by rw [g3.1 _ (by omega) (by omega), g2.1 _ (by omega) (by omega)])
    · exact fun q a b => by rw [g3.1 _ (by omega) (by omega), g2.1 _ (by omega) (by omega)]
    · exact fun q a => by rw [g3.1 _ (by omega) (by omega), g2.1 _ (by omega) (by omega)]
    · exact fun j a b e => by rw [g3.2.1 j a, g2.1 _ (by omega) (by omega)]
    · intro i hi
      have := hWV.2.2.2.1
      simp only [show i < n by omega, if_true]
theorem ok_alter (hθ : OKt θ) (hG : RG θ R) : OP_alter θ (IW θ R) := by
  intro x y V U Kc hI hk
  have hI' := hI
  obtain ⟨sw, n, r, w, h, hb, hU, hWV, hWM, hH, hO, hR⟩ := hI
  have hn := hWV.2.1
  refine s_alter hθ hU hWV (fun q => hk _ _ _ (fun Kf hf => ?_)) (fun j m a b c d e1 e2 => hk _ _ _ (fun Kf hf => ?_))
  · exact m_alter hθ hU hWM (fun _ => hf V U hI') (fun j m a b c d e1 e2 => absurd ⟨e1, e2⟩ (q j m a b c d))
  · have hWM2 : WM θ (up2 V (tb θ + 2) j (nI (w j ^^^ m))) n r w := by
      unfold WM; rw [up2_ne (by omega), up2_ne (by omega)]; exact hWM
    refine m_alter hθ hU hWM2 (fun q => absurd ⟨e1, e2⟩ (q j m a b c d)) (fun j2 m2 a2 b2 c2 d2 f1 f2 => ?_)
    obtain rfl : j = j2 := (nI_eq (by omega) (by omega)).mp (e1.symm.trans f1)
    obtain rfl : m = m2 := (nI_eq (by omega) (by omega)).mp (e2.symm.trans f2)
    have hx : w j ^^^ m < 256 := Nat.xor_lt_two_pow (n := 8) (hWV.2.2.2.2 j b).2 (by omega)
    have base : ∀ q, q ≠ tb θ + 2 → q ≠ tb θ + 127 → up2 (up2 V (tb θ + 2) j (nI (w j ^^^ m))) (tb θ + 127) j (nI (w j ^^^ m)) q = V q := fun q x1 x2 => by rw [up2_ne x2, up2_ne x1]
    generalize hV3 : up2 (up2 V (tb θ + 2) j (nI (w j ^^^ m))) (tb θ + 127) j (nI (w j ^^^ m)) = V3 at *
    refine hf V3 U ⟨sw, n, r, fun i => if i = j then w j ^^^ m else w i, h, hb, hU, ⟨?_, hn, ?_, hWV.2.2.2.1, ?_⟩, ⟨?_, hn, ?_, hWV.2.2.2.1, ?_⟩, ⟨hH.1, ?_, ?_, ?_⟩, ?_, hG V V3 r w _ sw ⟨?_, ?_, ?_⟩ ?_ hR⟩
    · rw [base _ (by omega) (by omega)]; exact hWV.1
    · rw [base _ (by omega) (by omega)]; exact hWV.2.2.1
    · intro i hi
      rw [← hV3, up2_ne (by omega)]
      by_cases q : i = j
      · subst q; rw [up2_aa]; simp only [if_true]; exact ⟨trivial, hx⟩
      · rw [up2_ab q]; simp only [q, if_false]; exact hWV.2.2.2.2 i hi
    · rw [base _ (by omega) (by omega)]; exact hWM.1
    · rw [base _ (by omega) (by omega)]; exact hWM.2.2.1
    · intro i hi
      rw [← hV3]
      by_cases q : i = j
      · subst q; rw [up2_aa]; simp only [if_true]; exact ⟨trivial, hx⟩
      · rw [up2_ab q, up2_ne (by omega)]; simp only [q, if_false]; exact hWM.2.2.2.2 i hi
    · rw [base _ (by omega) (by omega)]; exact hH.2.1
    · rw [base _ (by omega) (by omega)]; exact hH.2.2.1
    · rw [base _ (by omega) (by omega), base _ (by omega) (by omega)]; exact hH.2.2.2
    · exact OI.all hO (fun q a b => base q (by omega) (by omega)) (fun q a b => base q (by omega) (by omega))
    · exact fun q a b => base q (by omega) (by omega)
    · exact fun q a => base q (by omega) (by omega)
    · exact fun j a b e => by rw [base _ (by omega) (by omega)]
    · intro i hi
      simp only [show ¬ i = j by omega, if_false]
theorem ok_cut (hθ : OKt θ) (hG : RG θ R) : OP_cut θ (IW θ R) := by
  intro x y V U Kc hI hk
  have hI' := hI
  obtain ⟨sw, n, r, w, h, hb, hU, hWV, hWM, hH, hO, hR⟩ := hI
  have hn := hWV.2.1
  refine s_cut hθ hU hWV (fun q => hk _ _ _ (fun Kf hf => ?_)) (fun j m a b c e1 e2 V2 p1 p2 p3 p4 => hk _ _ _ (fun Kf hf => ?_))
  · exact m_cut hθ hU hWM (fun _ => hf V U hI') (fun j m a b c e1 e2 => absurd ⟨e1, e2⟩ (q j m a b c))
  · have hWM2 : WM θ V2 n r w := by
      unfold WM; rw [p1 _ (by omega) (by omega), p1 _ (by omega) (by omega)]; exact hWM
    refine m_cut hθ hU hWM2 (fun q => absurd ⟨e1, e2⟩ (q j m a b c)) (fun j2 m2 a2 b2 c2 f1 f2 V3 q1 q2 q3 q4 => ?_)
    obtain rfl : j = j2 := (nI_eq (by omega) (by omega)).mp (e1.symm.trans f1)
    obtain rfl : m = m2 := (nI_eq (by omega) (by omega)).mp (e2.symm.trans f2)
    have hb8 : ∀ i, i < n - m → (if i < j then w i else w (i + m)) < 256 := by
      intro i hi
      split
      · exact (hWV.2.2.2.2 _ (by omega)).2
      · exact (hWV.2.2.2.2 _ (by omega)).2
    have base : ∀ q, q ≠ tb θ + 1 → q ≠ tb θ + 2 → q ≠ tb θ + 126 → q ≠ tb θ + 127 → V3 q = V q := fun q x1 x2 x3 x4 => by rw [q1 q x3 x4, p1 q x1 x2]
    refine hf V3 U ⟨sw, n - m, r, fun i => if i < j then w i else w (i + m), h, hb, hU, ⟨?_, by omega, ?_, by omega, ?_⟩, ⟨q3, by omega, ?_, by omega, fun i hi => ⟨q4 i hi, hb8 i hi⟩⟩, ⟨hH.1, ?_, ?_, ?_⟩, ?_, hG V V3 r w _ sw ⟨?_, ?_, ?_⟩ ?_ hR⟩
    · rw [q1 _ (by omega) (by omega)]; exact p3
    · rw [q1 _ (by omega) (by omega), p2 2 (by decide)]; exact hWV.2.2.1
    · intro i hi
      rw [q1 _ (by omega) (by omega)]; exact ⟨p4 i hi, hb8 i hi⟩
    · rw [q2 2 (by decide), p1 _ (by omega) (by omega)]; exact hWM.2.2.1
    · rw [base _ (by omega) (by omega) (by omega) (by omega)]; exact hH.2.1
    · rw [q2 4 (by decide), p1 _ (by omega) (by omega)]; exact hH.2.2.1
    · rw [base _ (by omega) (by omega) (by omega) (by omega), base _ (by omega) (by omega) (by omega) (by omega)]; exact hH.2.2.2
    · exact OI.all hO (fun q a b => base q (by omega) (by omega) (by omega) (by omega)) (fun q a b => base q (by omega) (by omega) (by omega) (by omega))
    · exact fun q a b => base q (by omega) (by omega) (by omega) (by omega)
    · exact fun q a => base q (by omega) (by omega) (by omega) (by omega)
    · exact fun j a b e => by rw [q2 j a, p1 _ (by omega) (by omega)]
    · intro i hi
      simp only [show i < j by omega, if_true]
theorem ok_add (hθ : OKt θ) (hG : RG θ R) : OP_add θ (IW θ R) := by
  intro x y V U Kc hI hk
  have hI' := hI
  obtain ⟨sw, n, r, w, h, hb, hU, hWV, hWM, hH, hO, hR⟩ := hI
  obtain ⟨hh, H1, H2, H3⟩ := hH
  refine s_add hθ hU H1 hh (fun q => hk _ _ _ (fun Kf hf => ?_)) (fun m m1 m8 mn e V2 g2 => hk _ _ _ (fun Kf hf => ?_))
  · exact m_add hθ hU H2 hh (fun _ => hf V U hI') (fun m a b c e => absurd e (q m a b c))
  · have hv : V2 (tb θ + 126) 4 = nI h := by rw [g2.1 _ (by omega) (by omega)]; exact H2
    refine m_add (V := V2) hθ hU hv hh (fun q => absurd e (q m m1 m8 mn)) (fun m2 a b c e2 V3 g3 => ?_)
    obtain rfl : m = m2 := (nI_eq (by omega) (by omega)).mp (e.symm.trans e2)
    have base : ∀ q, q ≠ tb θ + 0 → q ≠ tb θ + 3 → q ≠ tb θ + 126 → q ≠ tb θ + 128 → V3 q = V q := fun q x1 x2 x3 x4 => by rw [g3.1 q x3 x4, g2.1 q x1 x2]
    have el : ∀ i, i < m → ((List.range m).map (oc x)).getD i 0 = oc x i := fun i hi => by
      rw [List.getD_eq_getElem?_getD, List.getElem?_map, List.getElem?_range hi]; rfl
    have l2 := g2.2.2.2
    have l3 := g3.2.2.2
    have l1 := g2.2.2.1
    have l4 := g3.2.2.1
    simp only [List.length_map, List.length_range] at l1 l2 l3 l4
    refine hf V3 U ⟨sw, n, r, w, h + m, fun i => if i < h then hb i else (oc x (i - h)).toNatClampNeg, hU, ?_, ?_, ⟨mn, ?_, l4, ?_⟩, ?_, hG V V3 r w _ sw ⟨?_, ?_, ?_⟩ (fun _ _ => rfl) hR⟩
    · unfold WV at hWV ⊢; rw [base _ (by omega) (by omega) (by omega) (by omega), base _ (by omega) (by omega) (by omega) (by omega)]; exact hWV
    · unfold WM at hWM ⊢
      rw [g3.2.1 1 (by decide), g3.2.1 2 (by decide), g2.1 (tb θ + 126) (by omega) (by omega), base (tb θ + 127) (by omega) (by omega) (by omega) (by omega)]; exact hWM
    · rw [g3.1 _ (by omega) (by omega)]; exact l1
    · intro i hi
      rw [g3.1 (tb θ + 3) (by omega) (by omega), l2 i, l3 i, g2.1 (tb θ + 128) (by omega) (by omega)]
      by_cases q : i < h
      · simp only [q, if_true]; rw [if_neg (by omega), if_neg (by omega)]; exact H3 i q
      · simp only [q, if_false]; rw [if_pos (by omega), if_pos (by omega), el _ (by omega)]
        obtain ⟨j, hj, ej⟩ := oc_b x (i - h)
        rw [ej, nI_clamp (by omega)]; exact ⟨rfl, rfl, hj⟩
    · exact OI.all hO (fun q a b => base q (by omega) (by omega) (by omega) (by omega)) (fun q a b => base q (by omega) (by omega) (by omega) (by omega))
    · exact fun q a b => base q (by omega) (by omega) (by omega) (by omega)
    · exact fun q a => base q (by omega) (by omega) (by omega) (by omega)
    · exact fun j a b e => by rw [g3.2.1 j e, g2.1 _ (by omega) (by omega)]
end WRITER
