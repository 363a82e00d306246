-- a stream of the writer, the class's side
def OB (θ : TH) (U : UT) (o : Nat) : Prop := isO θ o 2 ∧ U o 1 = o + 1 ∧ U o 2 = o + 2 ∧ U o 3 = o + 3 ∧ U o 4 = o + 4 ∧ (∀ m, isA θ (o + 1) 0 m ↔ m = 10) ∧ (∀ m, isA θ (o + 2) 0 m ↔ m = 150) ∧ (∀ m, isA θ (o + 3) 0 m ↔ m = 10) ∧ (∀ m, isA θ (o + 4) 1 m ↔ m = 10) ∧ tb θ + 5 ≤ o ∧ o + 4 < tb θ + 25
theorem ob_k {θ : TH} {sw : Bool} {U : UT} (hθ : OKt θ) (hU : US θ sw U) {k : Nat} (hk : k < 4) : OB θ U (tb θ + (5 + 5 * k)) ∧ U (tb θ + 4) k = tb θ + (5 + 5 * k) := by
  have h4 : k = 0 ∨ k = 1 ∨ k = 2 ∨ k = 3 := by omega
  rcases h4 with rfl | rfl | rfl | rfl
  all_goals
    unfold OB
    simp only [Nat.reduceMul, Nat.reduceAdd, Nat.add_assoc, FI_0 hθ, FU_0 hU, true_and, forall_const, implies_true, and_true, iff_self]
    omega
def SV (V : VT) (o m : Nat) (L T : Nat → Nat) (B : Nat → Int32) (O : Nat → Nat → Nat) : Prop := ∀ j, j < m → V (o + 1) j = nI (L j) ∧ L j ≤ 15 ∧ V (o + 3) j = nI (T j) ∧ T j < 65535 ∧ V (o + 4) j = B j ∧ isZ (B j) ∧ ∀ i, i < L j → V (o + 2) (15 * j + i) = nI (O j i) ∧ O j i < 256
section OUTBOX
variable {θ : TH} {sw : Bool} {U : UT} {V V1 V2 : VT} {n r o m c k : Nat} {w L T : Nat → Nat} {B : Nat → Int32} {O : Nat → Nat → Nat} {l : List Int32}
theorem s_flagsOf {K : Int32 → VT → UT → Prop} {y : Int32} (ho : OB θ U o) (hB : 0 < c → V (o + 4) 0 = B 0) (hc : c < 100) (hk : K (flg c (B 0) (V o 6) y) V U) : wp_O_flagsOf θ o (nI c) y V U K := by
  obtain ⟨o1, o2, o3, o4, o5, o6, o7, o8, o9, o10, o11⟩ := ho
  have tail : ∀ z : Int32, z = (if 0 < c ∧ B 0 = 0 then 1 else 0) → wb_O_flagsOf_18 θ o y z K V U := by
    intro z hz
    unfold wb_O_flagsOf_18 wb_O_flagsOf_32
    refine ⟨o1, ?_⟩
    have hfin : ∀ p : Int32, p = (if V o 6 = 0 then 2 else 0) → ∀ y_10 : Int32, y_10 = (z ||| p) → ((y = 0 → K (y_10 ||| (0 : Int32)) V U) ∧ (¬ y = 0 → K (y_10 ||| (4 : Int32)) V U)) := by
      intro p hp q hq
      unfold flg at hk
      rw [← hz, ← hp, ← hq] at hk
      refine ⟨fun h => ?_, fun h => ?_⟩
      · rw [if_pos h] at hk; exact hk
      · rw [if_neg h] at hk; exact hk
    exact ⟨fun h => hfin 0 (by rw [if_neg h]), fun h => hfin 2 (by rw [if_pos h])⟩
  unfold wp_O_flagsOf wb_O_flagsOf_17
  simp only [o1, o5, o9, true_and, exists_eq_left]
  refine pk_le c 0 (fun h => tail 0 (by rw [if_neg (by omega)])) (fun h => ?_)
  refine ⟨by omega, vp_in_nI (n := 0) (by decide) (by decide), ?_⟩
  have e : V (o + 4) (0 : Int32).toNatClampNeg = B 0 := hB (by omega)
  rw [e]
  exact ⟨fun h2 => tail 0 (by rw [if_neg (fun q => h2 q.2)]), fun h2 => tail 1 (by rw [if_pos ⟨by omega, h2⟩])⟩
theorem s_timeOf {K : Int32 → VT → UT → Prop} (ho : OB θ U o) (hS : ∀ j, j < c → V (o + 1) j = nI (L j) ∧ L j ≤ 15 ∧ V (o + 3) j = nI (T j)) (hc : c ≤ 10) (hk : K (nI (tmF L T c)) V U) : wp_O_timeOf θ o (nI c) V U K := by
  obtain ⟨o1, o2, o3, o4, o5, o6, o7, o8, o9, o10, o11⟩ := ho
  unfold wp_O_timeOf
  refine loop2 (wl := wl_O_timeOf_5 θ o (nI c) K) c (fun k b W => b = nI (tmF L T k) ∧ W = V) ⟨rfl, rfl⟩ ?_ ?_
  · rintro f k b W hkc ⟨rfl, rfl⟩ hgo
    obtain ⟨a1, a2, a3⟩ := hS k hkc
    show bl_O_timeOf_5 _ _ _ _ _ _ _ _ _
    unfold bl_O_timeOf_5
    simp only [o1, o2, o4, o6, o8, true_and, exists_eq_left]
    refine br_f (nI_ge hkc (by omega)) ⟨by omega, vp_in_nI (by omega) (by decide), ?_⟩
    rw [nI_clamp (by omega), a1, a3]
    refine pk_le 15 (L k) (fun h z hz => ?_) (fun h => ⟨by omega, vp_in_nI (by omega) (by decide), fun y hy z hz => ?_⟩)
    · rw [hz, nI_1]
      exact hgo _ _ ⟨by show _ = nI (if L k < 15 then T k else tmF L T k); rw [if_neg (by omega)], rfl⟩
    · rw [hz, nI_1]
      exact hgo _ _ ⟨by show _ = nI (if L k < 15 then T k else tmF L T k); rw [if_pos (by omega), hy], rfl⟩
  · rintro f b W ⟨rfl, rfl⟩
    show bl_O_timeOf_5 _ _ _ _ _ _ _ _ _
    unfold bl_O_timeOf_5
    exact br_t (nI_le (Nat.le_refl _) (by omega)) hk
theorem sumL_le (hL : ∀ j, j < c → L j ≤ 15) : sumL L c ≤ 15 * c := by
  induction c with
  | zero => exact Nat.le_refl _
  | succ c ih =>
    have h1 := ih (fun j hj => hL j (by omega))
    have h2 := hL c (by omega)
    show sumL L c + L c ≤ _
    omega
theorem s_pageSize {K : Int32 → VT → UT → Prop} (ho : OB θ U o) (hS : ∀ j, j < c → V (o + 1) j = nI (L j) ∧ L j ≤ 15) (hc : c ≤ 10) (hk : K (nI (14 + c + sumL L c)) V U) : wp_O_pageSize θ o (nI c) V U K := by
  obtain ⟨o1, o2, o3, o4, o5, o6, o7, o8, o9, o10, o11⟩ := ho
  unfold wp_O_pageSize
  intro y hy
  rw [show (14 : Int32) + nI c = nI (14 + c) from nI_add 14 c] at hy
  refine loop2 (wl := wl_O_pageSize_7 θ o (nI c) K) c (fun k b W => b = nI (14 + c + sumL L k) ∧ W = V) ⟨hy, rfl⟩ ?_ ?_
  · rintro f k b W hkc ⟨rfl, rfl⟩ hgo
    obtain ⟨a1, a2⟩ := hS k hkc
    show bl_O_pageSize_7 _ _ _ _ _ _ _ _ _
    unfold bl_O_pageSize_7
    simp only [o1, o2, o6, true_and, exists_eq_left]
    refine br_f (nI_ge hkc (by omega)) ⟨by omega, vp_in_nI (by omega) (by decide), fun y hy z hz => ?_⟩
    rw [nI_clamp (by omega), a1, nI_add] at hy
    rw [hz, nI_1]
    exact hgo _ _ ⟨by rw [hy, Nat.add_assoc]; rfl, rfl⟩
  · rintro f b W ⟨rfl, rfl⟩
    show bl_O_pageSize_7 _ _ _ _ _ _ _ _ _
    unfold bl_O_pageSize_7
    exact br_t (nI_le (Nat.le_refl _) (by omega)) hk
/-- the segments behind the first c move up -/
theorem s_forget {K : VT → UT → Prop} (ho : OB θ U o) (hm : V o 5 = nI m) (hm10 : m ≤ 10) (hcm : c ≤ m) (hZ : ∀ j, j < m → isZ (V (o + 4) j))
    (hk : ∀ V2, (∀ q, q ≠ o → q ≠ o + 1 → q ≠ o + 2 → q ≠ o + 3 → q ≠ o + 4 → V2 q = V q) → (∀ j, j ≠ 5 → V2 o j = V o j) → V2 o 5 = nI (m - c) → (∀ j, j < m - c → V2 (o + 1) j = V (o + 1) (j + c) ∧ V2 (o + 3) j = V (o + 3) (j + c) ∧ V2 (o + 4) j = V (o + 4) (j + c)) → (∀ i, i < 15 * (m - c) → V2 (o + 2) i = V (o + 2) (15 * c + i)) → K V2 U) : wp_O_forget θ o (nI c) V U K := by
  obtain ⟨o1, o2, o3, o4, o5, o6, o7, o8, o9, o10, o11⟩ := ho
  unfold wp_O_forget
  refine ⟨o1, fun W0 e0 => ?_⟩
  rw [hm, pk_sub hcm] at e0
  refine loop1 (wl := wl_O_forget_12 θ o (nI c) K) (m - c) (fun k W => (∀ q, q ≠ o → q ≠ o + 1 → q ≠ o + 3 → q ≠ o + 4 → W q = V q) ∧ W o = W0 o ∧ ∀ j, W (o + 1) j = (if j < k then V (o + 1) (j + c) else V (o + 1) j) ∧ W (o + 3) j = (if j < k then V (o + 3) (j + c) else V (o + 3) j) ∧ W (o + 4) j = (if j < k then V (o + 4) (j + c) else V (o + 4) j)) ?_ ?_ ?_
  · refine ⟨fun q a b d e => ?_, rfl, fun j => ?_⟩
    · rw [e0, up2_ne a]
    · rw [if_neg (by omega), if_neg (by omega), if_neg (by omega), e0, up2_ne (by omega), up2_ne (by omega), up2_ne (by omega)]
      exact ⟨rfl, rfl, rfl⟩
  · rintro f k W hk ⟨f1, f2, f3⟩ hgo
    have e5 : W o 5 = nI (m - c) := by rw [f2, e0, up2_aa]
    show bl_O_forget_12 _ _ _ _ _ _ _ _
    unfold bl_O_forget_12
    simp only [o1, o2, o4, o5, o6, o8, o9, true_and, exists_eq_left, e5, nI_add]
    rw [nI_clamp (by omega), nI_clamp (by omega)]
    refine br_f (nI_ge hk (by omega)) ⟨by omega, vp_in_nI (by omega) (by decide), vp_in_nI (by omega) (by decide), fun W1 e1 => ⟨by omega, vp_in_nI (by omega) (by decide), vp_in_nI (by omega) (by decide), fun W2 e2 => ⟨by omega, vp_in_nI (by omega) (by decide), vp_in_nI (by omega) (by decide), ?_, fun W3 e3 z hz => ?_⟩⟩⟩
    · rw [e2, up2_ne (by omega), e1, up2_ne (by omega), (f3 _).2.2, if_neg (by omega)]
      exact hZ _ (by omega)
    · rw [hz, nI_1]
      have g1 : W2 (o + 4) = W (o + 4) := by rw [e2, up2_ne (by omega), e1, up2_ne (by omega)]
      have g2 : W1 (o + 3) = W (o + 3) := by rw [e1, up2_ne (by omega)]
      rw [g1] at e3
      rw [g2] at e2
      refine hgo W3 ⟨fun q a b d e => ?_, ?_, fun j => ?_⟩
      · rw [e3, up2_ne e, e2, up2_ne d, e1, up2_ne b, f1 q a b d e]
      · rw [e3, up2_ne (by omega), e2, up2_ne (by omega), e1, up2_ne (by omega), f2]
      · have h1 : W3 (o + 1) j = up2 W (o + 1) k (W (o + 1) (k + c)) (o + 1) j := by rw [e3, up2_ne (by omega), e2, up2_ne (by omega), e1]
        have h2 : W3 (o + 3) j = up2 W (o + 3) k (W (o + 3) (k + c)) (o + 3) j := by
          rw [e3, up2_ne (by omega), e2, up2_at, up2_at]; simp only [e1, up2_ne (show o + 3 ≠ o + 1 by omega)]
        have h3 : W3 (o + 4) j = up2 W (o + 4) k (W (o + 4) (k + c)) (o + 4) j := by
          rw [e3, up2_at, up2_at]; simp only [g1]
        rw [h1, h2, h3]
        by_cases hj : j = k
        · subst hj
          rw [up2_aa, up2_aa, up2_aa, (f3 _).1, (f3 _).2.1, (f3 _).2.2, if_neg (by omega), if_pos (by omega), if_neg (by omega), if_pos (by omega), if_neg (by omega), if_pos (by omega)]
          exact ⟨rfl, rfl, rfl⟩
        · rw [up2_ab hj, up2_ab hj, up2_ab hj, (f3 _).1, (f3 _).2.1, (f3 _).2.2]
          by_cases hjk : j < k
          · simp only [hjk, show j < k + 1 by omega, if_true, and_self]
          · simp only [hjk, show ¬ j < k + 1 by omega, if_false, and_self]
  · rintro f W ⟨f1, f2, f3⟩
    have e5 : W o 5 = nI (m - c) := by rw [f2, e0, up2_aa]
    show bl_O_forget_12 _ _ _ _ _ _ _ _
    unfold bl_O_forget_12
    have em1 : nI c * (15 : Int32) = nI (c * 15) := pk_mul c 15
    have em2 : nI (m - c) * (15 : Int32) = nI ((m - c) * 15) := pk_mul (m - c) 15
    simp only [o1, o3, o7, true_and, exists_eq_left, e5, em1, em2]
    rw [nI_clamp (by omega), nI_clamp (by omega), show (0 : Int32).toNatClampNeg = 0 from rfl]
    refine br_t (nI_le (Nat.le_refl _) (by omega)) ⟨by omega, nI_pos (by omega), by decide, nI_pos (by omega), by omega, by omega, fun W2 e2 => ?_⟩
    refine hk W2 (fun q a b d e g => ?_) (fun j hj => ?_) ?_ (fun j hj => ?_) (fun i hi => ?_)
    · rw [e2]; simp only [d, if_false]; exact f1 q a b e g
    · rw [e2]; simp only [show ¬ o = o + 2 by omega, if_false]; rw [f2, e0, up2_ab hj]
    · rw [e2]; simp only [show ¬ o = o + 2 by omega, if_false]; exact e5
    · rw [e2]; simp only [show ¬ o + 1 = o + 2 by omega, show ¬ o + 3 = o + 2 by omega, show ¬ o + 4 = o + 2 by omega, if_false]
      rw [(f3 j).1, (f3 j).2.1, (f3 j).2.2, if_pos hj, if_pos hj, if_pos hj]
      exact ⟨rfl, rfl, rfl⟩
    · rw [e2]; simp only [if_true]
      rw [pk_cpy_in (by omega) (by omega), f1 _ (by omega) (by omega) (by omega) (by omega)]
      congr 1; omega
end OUTBOX
