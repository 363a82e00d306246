theorem nI_xor (a b : Nat) : nI a ^^^ nI b = nI (a ^^^ b) := by
  apply Int32.toBitVec_inj.mp
  show (nI a).toBitVec ^^^ (nI b).toBitVec = (nI (a ^^^ b)).toBitVec
  apply BitVec.eq_of_getLsbD_eq
  intro i hi
  show ((BitVec.ofNat 32 a) ^^^ (BitVec.ofNat 32 b)).getLsbD i = (BitVec.ofNat 32 (a ^^^ b)).getLsbD i
  simp [BitVec.getLsbD_xor, BitVec.getLsbD_ofNat, hi, Nat.testBit_xor]
/-- where an int lies: below 0, at or above m, or a place -/
theorem i_cases (x : Int32) (m : Nat) (hm : m < 2 ^ 31) : (x < 0 ∧ ∀ j, j < 2 ^ 31 → x ≠ nI j) ∨ ∃ j, j < 2 ^ 31 ∧ x = nI j := by
  by_cases h : x < 0
  · refine Or.inl ⟨h, fun j hj e => ?_⟩
    rw [e] at h
    exact nI_pos hj h
  · obtain ⟨j, hj, e⟩ := nI_of h
    exact Or.inr ⟨j, hj, e⟩
theorem neg_lt {x : Int32} (h : x < 0) (m : Nat) (hm : m < 2 ^ 31) : x < nI m := by
  refine Int32.lt_iff_toInt_lt.mpr ?_
  have a1 := Int32.lt_iff_toInt_lt.mp h
  have b1 : (0 : Int32).toInt = 0 := by decide
  rw [nI_toInt hm]
  omega
theorem neg_nle {x : Int32} (h : x < 0) (m : Nat) (hm : m < 2 ^ 31) : ¬ nI m ≤ x := by
  intro e
  have a1 := Int32.lt_iff_toInt_lt.mp h
  have a2 := Int32.le_iff_toInt_le.mp e
  have b1 : (0 : Int32).toInt = 0 := by decide
  rw [nI_toInt hm] at a2
  omega
section SIMPLE
variable {θ : TH} {sw : Bool} {U : UT} {V : VT} {n r : Nat} {w : Nat → Nat}
theorem s_wire {K : Int32 → VT → UT → Prop} {x : Int32} (hθ : OKt θ) (hU : US θ sw U) (hV : WV θ V n r w) (h0 : (∀ j, j < n → x ≠ nI j) → K (-1) V U) (h1 : ∀ j, j < n → x = nI j → K (nI (w j)) V U) : wp_S_wire θ (tb θ + 0) x V U K := by
  obtain ⟨g1, g2, g3, g4, g5⟩ := hV
  unfold wp_S_wire wp_W_at wb_W_at_21
  simp only [UC hU, IC hθ, exists_eq_left, true_and, g1]
  refine ⟨by omega, ?_⟩
  rcases i_cases x n (by omega) with ⟨hx, hne⟩ | ⟨j, hj, rfl⟩
  · exact br_t hx (h0 (fun j hj => hne j (by omega)))
  · refine br_f (nI_pos hj) (pk_le n j (fun h => h0 (fun i hi e => ?_)) (fun h => ⟨by omega, vp_in_nI (by omega) (by decide), ?_⟩))
    · rw [nI_eq hj (by omega)] at e; omega
    · rw [nI_clamp hj, (g5 j h).1]; exact h1 j h rfl
theorem m_wire {K : Int32 → VT → UT → Prop} {x : Int32} (hθ : OKt θ) (hU : US θ sw U) (hV : WM θ V n r w) (h0 : (∀ j, j < n → x ≠ nI j) → K (-1) V U) (h1 : ∀ j, j < n → x = nI j → K (nI (w j)) V U) : wp_M_wire θ (tb θ + 126) x V U K := by
  obtain ⟨g1, g2, g3, g4, g5⟩ := hV
  unfold wp_M_wire wb_M_wire_12
  simp only [UM hU, IM hθ, exists_eq_left, true_and, g1]
  rcases i_cases x n (by omega) with ⟨hx, hne⟩ | ⟨j, hj, rfl⟩
  · exact br_t hx (h0 (fun j hj => hne j (by omega)))
  · refine br_f (nI_pos hj) (pk_lt j n (fun h => ⟨by omega, vp_in_nI (by omega) (by decide), ?_⟩) (fun h => h0 (fun i hi e => ?_)))
    · rw [nI_clamp hj, (g5 j h).1]; exact h1 j h rfl
    · rw [nI_eq hj (by omega)] at e; omega
/-- one byte changed -/
theorem s_alter {K : Int32 → VT → UT → Prop} {x y : Int32} (hθ : OKt θ) (hU : US θ sw U) (hV : WV θ V n r w) (h0 : (∀ j m, r ≤ j → j < n → 1 ≤ m → m ≤ 255 → ¬ (x = nI j ∧ y = nI m)) → K 0 V U) (h1 : ∀ j m, r ≤ j → j < n → 1 ≤ m → m ≤ 255 → x = nI j → y = nI m → K 1 (up2 V (tb θ + 2) j (nI (w j ^^^ m))) U) : wp_S_alter θ (tb θ + 0) x y V U K := by
  obtain ⟨g1, g2, g3, g4, g5⟩ := hV
  unfold wp_S_alter wp_W_change
  simp only [UC hU, IC hθ, exists_eq_left, true_and, g1, g3]
  refine ⟨by omega, ?_⟩
  rcases i_cases x n (by omega) with ⟨hx, hne⟩ | ⟨j, hj, rfl⟩
  · exact br_t (neg_lt hx r (by omega)) ⟨Or.inl rfl, h0 (fun j m _ hj _ _ e => hne j (by omega) e.1)⟩
  · refine pk_lt j r (fun h => ⟨Or.inl rfl, h0 (fun i m a b _ _ e => ?_)⟩) (fun h => pk_le n j (fun h2 => ⟨Or.inl rfl, h0 (fun i m a b _ _ e => ?_)⟩) (fun h2 => ?_))
    · have e1 := (nI_eq hj (by omega)).mp e.1; omega
    · have e1 := (nI_eq hj (by omega)).mp e.1; omega
    · rcases i_cases y 256 (by omega) with ⟨hy, hne⟩ | ⟨m, hm, rfl⟩
      · exact br_t (neg_lt hy 1 (by omega)) ⟨Or.inl rfl, h0 (fun i m _ _ _ hm e => hne m (by omega) e.2)⟩
      · refine pk_lt m 1 (fun h3 => ⟨Or.inl rfl, h0 (fun i m2 _ _ a b e => ?_)⟩) (fun h3 => pk_le m 255 (fun h4 => ⟨by omega, vp_in_nI (by omega) (by decide), fun W e => ?_⟩) (fun h4 => ⟨Or.inl rfl, h0 (fun i m2 _ _ a b e => ?_)⟩))
        · have e1 := (nI_eq hm (by omega)).mp e.2; omega
        · rw [nI_clamp hj, (g5 j h2).1, nI_xor] at e
          rw [e]
          exact ⟨Or.inr rfl, h1 j m h h2 h3 h4 rfl rfl⟩
        · have e1 := (nI_eq hm (by omega)).mp e.2; omega
theorem m_alter {K : Int32 → VT → UT → Prop} {x y : Int32} (hθ : OKt θ) (hU : US θ sw U) (hV : WM θ V n r w) (h0 : (∀ j m, r ≤ j → j < n → 1 ≤ m → m ≤ 255 → ¬ (x = nI j ∧ y = nI m)) → K 0 V U) (h1 : ∀ j m, r ≤ j → j < n → 1 ≤ m → m ≤ 255 → x = nI j → y = nI m → K 1 (up2 V (tb θ + 127) j (nI (w j ^^^ m))) U) : wp_M_alter θ (tb θ + 126) x y V U K := by
  obtain ⟨g1, g2, g3, g4, g5⟩ := hV
  unfold wp_M_alter
  simp only [UM hU, IM hθ, exists_eq_left, true_and, g1, g3]
  rcases i_cases x n (by omega) with ⟨hx, hne⟩ | ⟨j, hj, rfl⟩
  · exact br_t (neg_lt hx r (by omega)) (h0 (fun j m _ hj _ _ e => hne j (by omega) e.1))
  · refine pk_lt j r (fun h => h0 (fun i m a b _ _ e => ?_)) (fun h => pk_le n j (fun h2 => h0 (fun i m a b _ _ e => ?_)) (fun h2 => ?_))
    · have e1 := (nI_eq hj (by omega)).mp e.1; omega
    · have e1 := (nI_eq hj (by omega)).mp e.1; omega
    · rcases i_cases y 256 (by omega) with ⟨hy, hne⟩ | ⟨m, hm, rfl⟩
      · exact br_t (neg_lt hy 1 (by omega)) (h0 (fun i m _ _ _ hm e => hne m (by omega) e.2))
      · refine pk_lt m 1 (fun h3 => h0 (fun i m2 _ _ a b e => ?_)) (fun h3 => pk_le m 255 (fun h4 => ⟨by omega, vp_in_nI (by omega) (by decide), fun W e => ?_⟩) (fun h4 => h0 (fun i m2 _ _ a b e => ?_)))
        · have e1 := (nI_eq hm (by omega)).mp e.2; omega
        · rw [nI_clamp hj, (g5 j h2).1, nI_xor] at e
          rw [e]
          exact h1 j m h h2 h3 h4 rfl rfl
        · have e1 := (nI_eq hm (by omega)).mp e.2; omega
/-- bytes cut out -/
theorem s_cut {K : Int32 → VT → UT → Prop} {x y : Int32} (hθ : OKt θ) (hU : US θ sw U) (hV : WV θ V n r w) (h0 : (∀ j m, r ≤ j → 1 ≤ m → j + m ≤ n → ¬ (x = nI j ∧ y = nI m)) → K 0 V U)
    (h1 : ∀ j m, r ≤ j → 1 ≤ m → j + m ≤ n → x = nI j → y = nI m → ∀ V2 : VT, (∀ q, q ≠ tb θ + 1 → q ≠ tb θ + 2 → V2 q = V q) → (∀ i, i ≠ 1 → V2 (tb θ + 1) i = V (tb θ + 1) i) → V2 (tb θ + 1) 1 = nI (n - m) → (∀ i, i < n - m → V2 (tb θ + 2) i = nI (if i < j then w i else w (i + m))) → K 1 V2 U) : wp_S_cut θ (tb θ + 0) x y V U K := by
  obtain ⟨g1, g2, g3, g4, g5⟩ := hV
  unfold wp_S_cut wp_W_takeOut
  simp only [UC hU, IC hθ, exists_eq_left, true_and, g1, g3]
  refine ⟨by omega, ?_⟩
  rcases i_cases x n (by omega) with ⟨hx, hne⟩ | ⟨j, hj, rfl⟩
  · exact br_t (neg_lt hx r (by omega)) ⟨Or.inl rfl, h0 (fun j m _ _ _ e => hne j (by omega) e.1)⟩
  · refine pk_lt j r (fun h => ⟨Or.inl rfl, h0 (fun i m a b c e => ?_)⟩) (fun h => pk_le n j (fun h2 => ⟨Or.inl rfl, h0 (fun i m a b c e => ?_)⟩) (fun h2 => ?_))
    · have e1 := (nI_eq hj (by omega)).mp e.1; omega
    · have e1 := (nI_eq hj (by omega)).mp e.1; omega
    · rcases i_cases y n (by omega) with ⟨hy, hne⟩ | ⟨m, hm, rfl⟩
      · exact br_t (neg_lt hy 1 (by omega)) ⟨Or.inl rfl, h0 (fun i m _ _ hm e => hne m (by omega) e.2)⟩
      · rw [pk_sub (by omega : j ≤ n)]
        refine pk_lt m 1 (fun h3 => ⟨Or.inl rfl, h0 (fun i m2 _ a b e => ?_)⟩) (fun h3 => pk_le m (n - j) (fun h4 => ?_) (fun h4 => ⟨Or.inl rfl, h0 (fun i m2 a b c e => ?_)⟩))
        · have e1 := (nI_eq hm (by omega)).mp e.2; omega
        · rw [nI_add, pk_sub (by omega : m ≤ n - j), nI_clamp hj, nI_clamp (by omega : j + m < 2 ^ 31), nI_clamp (by omega : n - j - m < 2 ^ 31)]
          refine ⟨by omega, nI_pos (by omega), nI_pos hj, nI_pos (by omega), by omega, by omega, fun W1 e1 W2 e2 => ⟨Or.inr rfl, ?_⟩⟩
          have e3 : W1 (tb θ + 1) 1 - nI m = nI (n - m) := by
            rw [e1]
            simp only [show ¬ tb θ + 1 = tb θ + 2 by omega, if_false]
            rw [g1, pk_sub (by omega)]
          refine h1 j m h h3 (by omega) rfl rfl W2 (fun q a b => ?_) (fun i hi => ?_) ?_ (fun i hi => ?_)
          · rw [e2, up2_ne a, e1]; simp only [b, if_false]
          · rw [e2, up2_ab hi, e1]; simp only [show ¬ tb θ + 1 = tb θ + 2 by omega, if_false]
          · rw [e2, up2_aa, e3]
          · rw [e2, up2_ne (by omega), e1]
            simp only [if_true]
            by_cases hij : i < j
            · rw [pk_cpy_out (by omega), if_pos hij, (g5 i (by omega)).1]
            · rw [pk_cpy_in (by omega) (by omega), if_neg hij, (g5 _ (by omega)).1]
              congr 2; omega
        · have e1 := (nI_eq hm (by omega)).mp e.2
          have e2 := (nI_eq hj (by omega)).mp e.1
          omega
theorem m_cut {K : Int32 → VT → UT → Prop} {x y : Int32} (hθ : OKt θ) (hU : US θ sw U) (hV : WM θ V n r w) (h0 : (∀ j m, r ≤ j → 1 ≤ m → j + m ≤ n → ¬ (x = nI j ∧ y = nI m)) → K 0 V U)
    (h1 : ∀ j m, r ≤ j → 1 ≤ m → j + m ≤ n → x = nI j → y = nI m → ∀ V2 : VT, (∀ q, q ≠ tb θ + 126 → q ≠ tb θ + 127 → V2 q = V q) → (∀ i, i ≠ 1 → V2 (tb θ + 126) i = V (tb θ + 126) i) → V2 (tb θ + 126) 1 = nI (n - m) → (∀ i, i < n - m → V2 (tb θ + 127) i = nI (if i < j then w i else w (i + m))) → K 1 V2 U) : wp_M_cut θ (tb θ + 126) x y V U K := by
  obtain ⟨g1, g2, g3, g4, g5⟩ := hV
  unfold wp_M_cut
  simp only [IM hθ, true_and, g1, g3]
  rcases i_cases x n (by omega) with ⟨hx, hne⟩ | ⟨j, hj, rfl⟩
  · exact br_t (neg_lt hx r (by omega)) (h0 (fun j m _ _ _ e => hne j (by omega) e.1))
  · refine pk_lt j r (fun h => h0 (fun i m a b c e => ?_)) (fun h => ?_)
    · have e1 := (nI_eq hj (by omega)).mp e.1; omega
    · rcases i_cases y n (by omega) with ⟨hy, hne⟩ | ⟨m, hm, rfl⟩
      · exact br_t (neg_lt hy 1 (by omega)) (h0 (fun i m _ _ hm e => hne m (by omega) e.2))
      · refine pk_lt m 1 (fun h3 => h0 (fun i m2 _ a b e => ?_)) (fun h3 => ?_)
        · have e1 := (nI_eq hm (by omega)).mp e.2; omega
        · by_cases h4 : j + m ≤ n
          · rw [pk_sub (by omega : j ≤ n)]
            refine br_t (nI_le (by omega) (by omega)) ?_
            have key : ∀ d k V1, k + m + d = n → j ≤ k → (∀ q, q ≠ tb θ + 127 → V1 q = V q) → (∀ i, i < n → V1 (tb θ + 127) i = nI (if j ≤ i ∧ i < k then w (i + m) else w i)) → wl_M_cut_27 θ (tb θ + 126) (nI m) K (d + 1) (nI k) V1 U := by
              intro d
              induction d with
              | zero =>
                intro k V1 e hk f1 f2
                show bl_M_cut_27 _ _ _ _ _ _ _ _
                unfold bl_M_cut_27
                have f3 : V1 (tb θ + 126) 1 = nI n := by rw [f1 _ (by omega)]; exact g1
                simp only [IM hθ, true_and, f3, nI_add]
                refine br_t (nI_le (by omega) (by omega)) (fun W e1 => ?_)
                refine h1 j m h h3 h4 rfl rfl W (fun q a b => ?_) (fun i hi => ?_) ?_ (fun i hi => ?_)
                · rw [e1, up2_ne a, f1 q b]
                · rw [e1, up2_ab hi, f1 _ (by omega)]
                · rw [e1, up2_aa, pk_sub (by omega)]
                · rw [e1, up2_ne (by omega), f2 i (by omega)]
                  by_cases hij : i < j
                  · rw [if_neg (by omega), if_pos hij]
                  · rw [if_pos (by omega), if_neg hij]
              | succ d ih =>
                intro k V1 e hk f1 f2
                show bl_M_cut_27 _ _ _ _ _ _ _ _
                unfold bl_M_cut_27
                have f3 : V1 (tb θ + 126) 1 = nI n := by rw [f1 _ (by omega)]; exact g1
                simp only [UM hU, IM hθ, exists_eq_left, true_and, f3, nI_add]
                refine br_f (nI_ge (by omega) (by omega)) ⟨by omega, vp_in_nI (by omega) (by decide), vp_in_nI (by omega) (by decide), fun W e1 z hz => ?_⟩
                rw [nI_clamp (by omega), nI_clamp (by omega), f2 (k + m) (by omega), if_neg (by omega)] at e1
                rw [hz, nI_1]
                refine ih (k + 1) W (by omega) (by omega) (fun q hq => by rw [e1, up2_ne hq, f1 q hq]) (fun i hi => ?_)
                rw [e1]
                by_cases hik : i = k
                · subst hik; rw [up2_aa, if_pos (by omega)]
                · rw [up2_ab hik, f2 i hi]
                  by_cases hr : j ≤ i ∧ i < k
                  · rw [if_pos hr, if_pos (by omega)]
                  · rw [if_neg hr, if_neg (by omega)]
            exact ⟨n - j - m + 1, key (n - j - m) j V (by omega) (Nat.le_refl _) (fun _ _ => rfl) (fun i hi => by rw [if_neg (by omega)]; exact (g5 i hi).1)⟩
          · have hnot : ¬ nI m ≤ nI n - nI j := by
              intro e9
              have a2 := Int32.le_iff_toInt_le.mp e9
              by_cases hj30 : j < 2 ^ 30
              · rw [nI_toInt hm, pk_sub_toInt (by omega) hj30] at a2
                omega
              · have h9 : (nI n - nI j).toInt = (n : Int) - (j : Int) := by
                  rw [Int32.toInt_sub, nI_toInt (by omega), nI_toInt (by omega), Int.bmod_def]
                  have h8 : ((n : Int) - (j : Int)) % ((2 ^ 32 : Nat) : Int) = (n : Int) - (j : Int) + 2 ^ 32 := by omega
                  rw [h8]
                  split <;> omega
                rw [nI_toInt hm, h9] at a2
                omega
            refine br_f hnot (h0 (fun i m2 a b c e => ?_))
            have e1 := (nI_eq hm (by omega)).mp e.2
            have e2 := (nI_eq hj (by omega)).mp e.1
            omega
end SIMPLE
