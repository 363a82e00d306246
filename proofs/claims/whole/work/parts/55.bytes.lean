theorem up2_aa {α : Type} {f : Nat → Nat → α} {a i : Nat} {x : α} : up2 f a i x a i = x := by simp [up2]
theorem up2_ab {α : Type} {f : Nat → Nat → α} {a i j : Nat} {x : α} (h : j ≠ i) : up2 f a i x a j = f a j := by simp [up2, h]
theorem oct_eq (x : Int64) (k : Nat) (hk : k < 8) : ((x >>> (((8 : Int32) * nI k).toInt64 &&& 63)) &&& (255 : Int64)).toInt32 = ((x.toUInt64 >>> (((8 : Int32) * nI k).toInt64.toUInt64 &&& Int64.toUInt64 63)).toInt64.toInt32 &&& (255 : Int32)) := by
  have h8 : k = 0 ∨ k = 1 ∨ k = 2 ∨ k = 3 ∨ k = 4 ∨ k = 5 ∨ k = 6 ∨ k = 7 := by omega
  have f1 : ((BitVec.signExtend 64 (8#32 * (nI k).toBitVec) &&& 63#64).smod 64#64).toNat = 8 * k := by
    rcases h8 with rfl | rfl | rfl | rfl | rfl | rfl | rfl | rfl <;> decide
  have f2 : ((BitVec.signExtend 64 (8#32 * (nI k).toBitVec)).toNat &&& 63) % 64 = 8 * k := by
    rcases h8 with rfl | rfl | rfl | rfl | rfl | rfl | rfl | rfl <;> decide
  apply Int32.toBitVec_inj.mp
  apply BitVec.eq_of_getLsbD_eq
  intro i hi
  simp [f1, f2, BitVec.getLsbD_signExtend, BitVec.getLsbD_sshiftRight, hi]
  simp only [← BitVec.getLsbD_eq_getElem]
  by_cases h : i < 8
  · have h1 : 8 * k + i < 64 := by omega
    have h64 : i < 64 := by omega
    simp only [BitVec.getLsbD_signExtend, BitVec.getLsbD_sshiftRight, BitVec.getLsbD_ushiftRight, h64, h1, if_true]
    have h6 : decide (64 ≤ i) = false := decide_eq_false (by omega)
    rw [h6, Bool.not_false, Bool.true_and]
  · have h255 : (255#32).getLsbD i = false := by
      have hd : ∀ j : Fin 32, 8 ≤ j.val → (255#32).getLsbD j.val = false := by decide
      exact hd ⟨i, hi⟩ (by show 8 ≤ i; omega)
    rw [h255, Bool.and_false, Bool.and_false]
/-- the k-th byte of a word, as both write it -/
def oc (x : Int64) (k : Nat) : Int32 := (x.toUInt64 >>> (((8 : Int32) * nI k).toInt64.toUInt64 &&& Int64.toUInt64 63)).toInt64.toInt32 &&& (255 : Int32)
theorem and255 (x : Int32) : ∃ j, j < 256 ∧ x &&& 255 = nI j := pk_andE x (m := 255) 8 (by decide)
theorem nI_255 {j : Nat} (h : j < 256) : nI j &&& 255 = nI j := by
  rw [pk_andN (by omega) 8 (by decide)]
  congr 1
  omega
theorem oc_b (x : Int64) (k : Nat) : ∃ j, j < 256 ∧ oc x k = nI j := and255 _
-- a wire that grew by bytes
def WG (θ : TH) (V V' : VT) (n k : Nat) (c : Nat → Int32) : Prop := (∀ q, q ≠ tb θ + 1 → q ≠ tb θ + 2 → V' q = V q) ∧ (∀ j, j ≠ 1 → V' (tb θ + 1) j = V (tb θ + 1) j) ∧ V' (tb θ + 1) 1 = nI (n + k) ∧ ∀ i, V' (tb θ + 2) i = if n ≤ i ∧ i < n + k then c (i - n) else V (tb θ + 2) i
def MG (θ : TH) (V V' : VT) (n k : Nat) (c : Nat → Int32) : Prop := (∀ q, q ≠ tb θ + 126 → q ≠ tb θ + 127 → V' q = V q) ∧ (∀ j, j ≠ 1 → V' (tb θ + 126) j = V (tb θ + 126) j) ∧ V' (tb θ + 126) 1 = nI (n + k) ∧ ∀ i, V' (tb θ + 127) i = if n ≤ i ∧ i < n + k then c (i - n) else V (tb θ + 127) i
section BYTES
variable {θ : TH} {sw : Bool} {U : UT} {V V1 V2 : VT} {n k : Nat} {c : Nat → Int32}
theorem WG.refl (h : V (tb θ + 1) 1 = nI n) : WG θ V V n 0 c := ⟨fun _ _ _ => rfl, fun _ _ => rfl, h, fun i => by rw [if_neg (by omega)]⟩
theorem MG.refl (h : V (tb θ + 126) 1 = nI n) : MG θ V V n 0 c := ⟨fun _ _ _ => rfl, fun _ _ => rfl, h, fun i => by rw [if_neg (by omega)]⟩
theorem WG.step (h : WG θ V V1 n k c) : WG θ V (up2 (up2 V1 (tb θ + 2) (n + k) (c k)) (tb θ + 1) 1 (nI (n + k + 1))) n (k + 1) c := by
  obtain ⟨h1, h2, h3, h4⟩ := h
  refine ⟨fun q a b => ?_, fun j hj => ?_, ?_, fun i => ?_⟩
  · rw [up2_ne a, up2_ne b, h1 q a b]
  · rw [up2_ab hj, up2_ne (by omega), h2 j hj]
  · rw [up2_aa]; rfl
  · rw [up2_ne (by omega)]
    by_cases hi : i = n + k
    · subst hi
      rw [up2_aa, if_pos (by omega)]
      congr 1; omega
    · rw [up2_ab hi, h4 i]
      by_cases hr : n ≤ i ∧ i < n + k
      · rw [if_pos hr, if_pos (by omega)]
      · rw [if_neg hr, if_neg (by omega)]
theorem MG.step (h : MG θ V V1 n k c) : MG θ V (up2 (up2 V1 (tb θ + 127) (n + k) (c k)) (tb θ + 126) 1 (nI (n + k + 1))) n (k + 1) c := by
  obtain ⟨h1, h2, h3, h4⟩ := h
  refine ⟨fun q a b => ?_, fun j hj => ?_, ?_, fun i => ?_⟩
  · rw [up2_ne a, up2_ne b, h1 q a b]
  · rw [up2_ab hj, up2_ne (by omega), h2 j hj]
  · rw [up2_aa]; rfl
  · rw [up2_ne (by omega)]
    by_cases hi : i = n + k
    · subst hi
      rw [up2_aa, if_pos (by omega)]
      congr 1; omega
    · rw [up2_ab hi, h4 i]
      by_cases hr : n ≤ i ∧ i < n + k
      · rw [if_pos hr, if_pos (by omega)]
      · rw [if_neg hr, if_neg (by omega)]
/-- one byte onto the class's wire -/
theorem s_append {K : VT → UT → Prop} {x : Int32} (hθ : OKt θ) (hU : US θ sw U) (hg : WG θ V V1 n k c) (hn : n + k < 1000) (hx : x &&& 255 = c k) (hk : ∀ V2, WG θ V V2 n (k + 1) c → K V2 U) : wp_W_append θ (tb θ + 1) x V1 U K := by
  have h3 := hg.2.2.1
  unfold wp_W_append
  simp only [UC hU, IC hθ, exists_eq_left, true_and, h3]
  refine br_f (nI_ge (a := n + k) (b := 1000) hn (by decide)) ⟨by omega, vp_in_nI hn (by decide), fun W1 e1 W2 e2 => ?_⟩
  rw [nI_clamp (by omega), hx] at e1
  have e3 : W1 (tb θ + 1) 1 + 1 = nI (n + k + 1) := by
    rw [e1, up2_ne (by omega), h3, nI_1]
  rw [e3, e1] at e2
  rw [e2]
  exact hk _ hg.step
theorem s_octetOf {K : Int32 → VT → UT → Prop} {x : Int64} {j : Nat} (hk : K (oc x j) V U) : wp_S_octetOf θ x (nI j) V U K := hk
theorem s_raw {K : Int32 → VT → UT → Prop} {x : Int64} {y : Int32} (hθ : OKt θ) (hU : US θ sw U) (hv : V (tb θ + 1) 1 = nI n) (hn : n ≤ 1000)
    (h0 : (∀ m, 1 ≤ m → m ≤ 8 → n + m ≤ 1000 → y ≠ nI m) → K (-1) V U) (h1 : ∀ m, 1 ≤ m → m ≤ 8 → n + m ≤ 1000 → y = nI m → ∀ V2, WG θ V V2 n m (oc x) → K (nI (n + m)) V2 U) : wp_S_raw θ (tb θ + 0) x y V U K := by
  unfold wp_S_raw
  simp only [UC hU, IC hθ, true_and]
  refine br_c (fun h => ?_) (fun h => br_c (fun h2 => ?_) (fun h2 => ⟨by omega, ?_⟩))
  · refine h0 (fun m hm _ _ e => ?_)
    rw [e] at h
    exact nI_nlt (a := m) (b := 1) hm (by omega) h
  · refine h0 (fun m _ hm _ e => ?_)
    rw [e] at h2
    exact nI_nlt (a := 8) (b := m) hm (by decide) h2
  · have h3 : ¬ y < 0 := fun h9 => h (by
      have a1 := Int32.lt_iff_toInt_lt.mp h9
      refine Int32.lt_iff_toInt_lt.mpr ?_
      have b1 : (0 : Int32).toInt = 0 := by decide
      have b2 : (1 : Int32).toInt = 1 := by decide
      omega)
    obtain ⟨m, hm31, rfl⟩ := nI_of h3
    have hm1 : 1 ≤ m := by
      by_cases q : 1 ≤ m
      · exact q
      · exact absurd (nI_lt (a := m) (b := 1) (by omega) (by decide)) h
    have hm8 : m ≤ 8 := by
      by_cases q : m ≤ 8
      · exact q
      · exact absurd (nI_lt (a := 8) (b := m) (by omega) hm31) h2
    unfold wp_W_hasRoom
    simp only [IC hθ, true_and, hv]
    rw [show (1000 : Int32) - nI n = nI (1000 - n) from pk_sub hn]
    refine pk_lt (1000 - n) m (fun hc => ?_) (fun hc => ?_)
    · refine ⟨fun h9 => absurd trivial h9, fun _ => h0 (fun m2 a b c e => ?_)⟩
      rw [nI_eq (by omega) (by omega)] at e
      omega
    · refine ⟨fun _ => ?_, fun h9 => absurd h9 (by decide)⟩
      have key : ∀ d k V1, k + d = m → WG θ V V1 n k (oc x) → wl_S_raw_27 θ (tb θ + 0) x (nI m) K (d + 1) (nI k) V1 U := by
        intro d
        induction d with
        | zero =>
          intro k V1 e hg
          have e2 : k = m := by omega
          subst e2
          show bl_S_raw_27 _ _ _ _ _ _ _ _ _
          unfold bl_S_raw_27
          simp only [UC hU, IC hθ, true_and, hg.2.2.1]
          exact br_t (nI_le (Nat.le_refl _) (by omega)) ⟨by omega, h1 k hm1 hm8 (by omega) rfl V1 hg⟩
        | succ d ih =>
          intro k V1 e hg
          show bl_S_raw_27 _ _ _ _ _ _ _ _ _
          unfold bl_S_raw_27
          simp only [UC hU, IC hθ, true_and]
          refine br_f (nI_ge (by omega) (by omega)) ⟨by omega, ?_⟩
          refine s_octetOf ?_
          refine s_append hθ hU hg (by omega) ?_ (fun V2 hg2 y hy => ?_)
          · obtain ⟨j, hj, e9⟩ := oc_b x k
            rw [e9]; exact nI_255 hj
          · rw [hy, nI_1]
            exact ih (k + 1) V2 (by omega) hg2
      exact ⟨m + 1, key m 0 V (by omega) (WG.refl hv)⟩
theorem m_raw {K : Int32 → VT → UT → Prop} {x : Int64} {y : Int32} (hθ : OKt θ) (hU : US θ sw U) (hv : V (tb θ + 126) 1 = nI n) (hn : n ≤ 1000)
    (h0 : (∀ m, 1 ≤ m → m ≤ 8 → n + m ≤ 1000 → y ≠ nI m) → K (-1) V U) (h1 : ∀ m, 1 ≤ m → m ≤ 8 → n + m ≤ 1000 → y = nI m → ∀ V2, MG θ V V2 n m (oc x) → K (nI (n + m)) V2 U) : wp_M_raw θ (tb θ + 126) x y V U K := by
  unfold wp_M_raw
  simp only [IM hθ, true_and, hv]
  refine br_c (fun h => ?_) (fun h => br_c (fun h2 => ?_) (fun h2 => ?_))
  · refine h0 (fun m hm _ _ e => ?_)
    rw [e] at h
    exact nI_nlt (a := m) (b := 1) hm (by omega) h
  · refine h0 (fun m _ hm _ e => ?_)
    rw [e] at h2
    exact nI_nlt (a := 8) (b := m) hm (by decide) h2
  · have h3 : ¬ y < 0 := fun h9 => h (by
      have a1 := Int32.lt_iff_toInt_lt.mp h9
      refine Int32.lt_iff_toInt_lt.mpr ?_
      have b1 : (0 : Int32).toInt = 0 := by decide
      have b2 : (1 : Int32).toInt = 1 := by decide
      omega)
    obtain ⟨m, hm31, rfl⟩ := nI_of h3
    have hm1 : 1 ≤ m := by
      by_cases q : 1 ≤ m
      · exact q
      · exact absurd (nI_lt (a := m) (b := 1) (by omega) (by decide)) h
    have hm8 : m ≤ 8 := by
      by_cases q : m ≤ 8
      · exact q
      · exact absurd (nI_lt (a := 8) (b := m) (by omega) hm31) h2
    rw [nI_add]
    refine pk_le (n + m) 1000 (fun hc => ?_) (fun hc => ?_)
    · have key : ∀ d k V1, k + d = m → MG θ V V1 n k (oc x) → wl_M_raw_28 θ (tb θ + 126) x (nI m) K (d + 1) (nI k) V1 U := by
        intro d
        induction d with
        | zero =>
          intro k V1 e hg
          have e2 : k = m := by omega
          subst e2
          show bl_M_raw_28 _ _ _ _ _ _ _ _ _
          unfold bl_M_raw_28
          simp only [IM hθ, true_and, hg.2.2.1]
          exact br_t (nI_le (Nat.le_refl _) (by omega)) (h1 k hm1 hm8 (by omega) rfl V1 hg)
        | succ d ih =>
          intro k V1 e hg
          have h9 := hg.2.2.1
          show bl_M_raw_28 _ _ _ _ _ _ _ _ _
          unfold bl_M_raw_28
          simp only [UM hU, IM hθ, exists_eq_left, true_and, h9]
          refine br_f (nI_ge (by omega) (by omega)) ⟨by omega, vp_in_nI (by omega) (by decide), fun W1 e1 W2 e2 y hy => ?_⟩
          rw [nI_clamp (by omega), oct_eq x k (by omega)] at e1
          have e3 : W1 (tb θ + 126) 1 + 1 = nI (n + k + 1) := by
            rw [e1, up2_ne (by omega), h9, nI_1]
          rw [e3, e1] at e2
          rw [hy, nI_1, e2]
          exact ih (k + 1) _ (by omega) hg.step
      exact ⟨m + 1, key m 0 V (by omega) (MG.refl hv)⟩
    · refine h0 (fun m2 a b c e => ?_)
      rw [nI_eq (by omega) (by omega)] at e
      omega
end BYTES
