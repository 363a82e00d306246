-- what stands at a place of the wire
def sg (k : Nat) : Nat := if k = 1 then 97 else if k = 3 then 83 else 76
def psum (w : Nat → Nat) (q : Nat) : Nat → Nat
  | 0 => 0
  | k + 1 => psum w q k + w (q + k)
def plen (w : Nat → Nat) (p : Nat) : Nat := 14 + w (p + 13) + psum w (p + 14) (w (p + 13))
def ckn (w : Nat → Nat) (p : Nat) : Nat := w (p + 9) + 256 * w (p + 10) + 65536 * w (p + 11) + 16777216 * w (p + 12)
def hdA (n : Nat) (w : Nat → Nat) (p k : Nat) : Prop := ∀ i, k ≤ i → i < 4 → p + i < n → w (p + i) = sg i
def lcA (n : Nat) (w : Nat → Nat) (p c k : Nat) : Prop := ∀ i, k ≤ i → i < c → p + 14 + i < n → w (p + 14 + i) ≤ 15
/-- 0 BAD, 1 OPEN, 2 GOOD -/
def PS (n : Nat) (w : Nat → Nat) (p s : Nat) : Prop :=
  (s = 0 ∧ (¬ hdA n w p 0 ∨ (p + 4 < n ∧ 7 < w (p + 4)))) ∨
  ((hdA n w p 0 ∧ (p + 4 < n → w (p + 4) ≤ 7)) ∧
    ((s = 1 ∧ n ≤ p + 13) ∨ (p + 13 < n ∧ ((s = 0 ∧ 6 < w (p + 13)) ∨ (w (p + 13) ≤ 6 ∧
      ((s = 0 ∧ ¬ lcA n w p (w (p + 13)) 0) ∨ (lcA n w p (w (p + 13)) 0 ∧ ((s = 1 ∧ n < p + plen w p) ∨ (p + plen w p ≤ n ∧
        ((s = 2 ∧ (crcN (ckf w p) (plen w p)).toBitVec.toNat = ckn w p) ∨ (s = 0 ∧ ¬ (crcN (ckf w p) (plen w p)).toBitVec.toNat = ckn w p)))))))))))
theorem psum_le {w : Nat → Nat} {q : Nat} : ∀ c, (∀ i, i < c → w (q + i) ≤ 15) → psum w q c ≤ 15 * c := by
  intro c
  induction c with
  | zero => intro _; exact Nat.le_refl _
  | succ c ih =>
    intro h
    have h1 := ih (fun i hi => h i (by omega))
    have h2 := h c (by omega)
    show psum w q c + w (q + c) ≤ _
    omega
theorem or_add {a b k : Nat} (hb : b < 2 ^ k) (ha : a * 2 ^ k < 2 ^ 32) (hb2 : b < 2 ^ 32) : nI (a * 2 ^ k) ||| nI b = nI (a * 2 ^ k + b) := by
  refine i32_of ?_
  have e : (nI (a * 2 ^ k) ||| nI b).toBitVec.toNat = (nI (a * 2 ^ k)).toBitVec.toNat ||| (nI b).toBitVec.toNat := by
    show ((nI (a * 2 ^ k)).toBitVec ||| (nI b).toBitVec).toNat = _
    exact BitVec.toNat_or ..
  have h1 : a * 2 ^ k + b = a * 2 ^ k ||| b := by
    rw [Nat.mul_comm]
    exact Nat.two_pow_add_eq_or_of_lt hb a
  have h2 : a * 2 ^ k ||| b < 2 ^ 32 := Nat.or_lt_two_pow ha hb2
  rw [e, pk_tn ha, pk_tn hb2, pk_tn (by omega), h1]
theorem byt (c : Int32) (k : Nat) (hk : k < 4) : ((c.toUInt32 >>> ((nI (8 * k)).toUInt32 &&& Int32.toUInt32 31)).toInt32 &&& (255 : Int32)) = nI (c.toBitVec.toNat / 256 ^ k % 256) := by
  rw [pk_and _ 8 (by decide), pk_ushr c (nI (8 * k)) (8 * k) (by
    have h4 : k = 0 ∨ k = 1 ∨ k = 2 ∨ k = 3 := by omega
    rcases h4 with rfl | rfl | rfl | rfl <;> decide)]
  have h4 : k = 0 ∨ k = 1 ∨ k = 2 ∨ k = 3 := by omega
  rcases h4 with rfl | rfl | rfl | rfl <;> rfl
section PAGE
variable {θ : TH} {sw : Bool} {U : UT} {V : VT} {n r : Nat} {w : Nat → Nat}
theorem sv_sg {k : Nat} (hk : k < 4) : sV 0 k = nI (sg k) := by
  have h4 : k = 0 ∨ k = 1 ∨ k = 2 ∨ k = 3 := by omega
  rcases h4 with rfl | rfl | rfl | rfl <;> rfl
theorem bw_in {p : Nat} (h : p < n) : bw n w p = nI (w p) := by rw [bw, if_pos h]
theorem bw_out {p : Nat} (h : n ≤ p) : bw n w p = -1 := by rw [bw, if_neg (by omega)]
theorem s_canBeHead {K : Int32 → VT → UT → Prop} (hθ : OKt θ) (hU : US θ sw U) (hV : WV θ V n r w) (p : Nat) (hp : p ≤ n)
    (h1 : hdA n w p 0 → (p + 4 < n → w (p + 4) ≤ 7) → (p + 13 < n → w (p + 13) ≤ 6) → K 1 V U)
    (h0 : (¬ hdA n w p 0 ∨ (p + 4 < n ∧ 7 < w (p + 4)) ∨ (p + 13 < n ∧ 6 < w (p + 13))) → K 0 V U) : wp_W_canBeHead θ (tb θ + 1) (nI p) V U K := by
  have hn := hV.2.1
  have hw := hV.2.2.2.2
  have hat : isO θ (tb θ + 1) 1 := by simp only [IC hθ]
  have key : ∀ m k, k + m = 4 → (hdA n w p k → hdA n w p 0) → wl_W_canBeHead_2 θ (tb θ + 1) (nI p) K (m + 1) (nI k) V U := by
    intro m
    induction m with
    | zero =>
      intro k e hk
      have e2 : k = 4 := by omega
      subst e2
      have hd : hdA n w p 0 := hk (fun i h1 h2 => by omega)
      show bl_W_canBeHead_2 _ _ _ _ _ _ _ _
      unfold bl_W_canBeHead_2 wb_W_canBeHead_69
      refine br_t (by decide) ⟨hat, ?_⟩
      rw [show nI p + (4 : Int32) = nI (p + 4) from nI_add p 4, show nI p + (13 : Int32) = nI (p + 13) from nI_add p 13]
      refine s_at hθ hU hV _ (by omega) ?_
      have tail : (p + 4 < n → w (p + 4) ≤ 7) → wp_W_at θ (tb θ + 1) (nI (p + 13)) V U (fun r_9 V_7 U_8 => (((6 : Int32) < r_9 → K (0 : Int32) V_7 U_8) ∧ (¬ (6 : Int32) < r_9 → K (1 : Int32) V_7 U_8))) := by
        intro h7
        refine s_at hθ hU hV _ (by omega) ?_
        by_cases h13 : p + 13 < n
        · rw [bw_in h13]
          have := (hw _ h13).2
          exact pk_lt 6 (w (p + 13)) (fun h => h0 (Or.inr (Or.inr ⟨h13, h⟩))) (fun h => h1 hd h7 (fun _ => h))
        · rw [bw_out (by omega)]
          exact br_f (by decide) (h1 hd h7 (fun h => absurd h h13))
      by_cases h4 : p + 4 < n
      · rw [bw_in h4]
        have := (hw _ h4).2
        exact pk_lt 7 (w (p + 4)) (fun h => h0 (Or.inr (Or.inl ⟨h4, h⟩))) (fun h => tail (fun _ => h))
      · rw [bw_out (by omega)]
        exact br_f (by decide) (tail (fun h => absurd h h4))
    | succ m ih =>
      intro k e hk
      show bl_W_canBeHead_2 _ _ _ _ _ _ _ _
      unfold bl_W_canBeHead_2
      refine br_f (nI_ge (a := k) (b := 4) (by omega) (by omega)) ⟨hat, ?_⟩
      rw [nI_add]
      refine s_at hθ hU hV _ (by omega) ?_
      have go : (p + k < n → w (p + k) = sg k) → wl_W_canBeHead_2 θ (tb θ + 1) (nI p) K (m + 1) (nI k + 1) V U := by
        intro h
        rw [nI_1]
        refine ih (k + 1) (by omega) (fun h2 => hk (fun i hi1 hi2 hi3 => ?_))
        by_cases hik : i = k
        · subst hik; exact h hi3
        · exact h2 i (by omega) hi2 hi3
      by_cases hkn : p + k < n
      · rw [bw_in hkn]
        have hlt := (hw _ hkn).2
        refine br_f (nI_nm1 (by omega)) ⟨vp_in_nI (N := 4) (by omega) (by decide), ?_⟩
        rw [nI_clamp (by omega), sv_sg (by omega)]
        refine pk_eq (w (p + k)) (sg k) (fun h => fun y hy => ?_) (fun h => ?_) rfl rfl (by omega) (by unfold sg; split <;> (try split) <;> omega)
        · rw [hy]; exact go (fun _ => h)
        · exact h0 (Or.inl (fun hd => h (hd k (by omega) (by omega) hkn)))
      · rw [bw_out (by omega)]
        exact br_t rfl (fun y hy => by rw [hy]; exact go (fun h => absurd h hkn))
  exact ⟨5, key 4 0 (by omega) (fun h => h)⟩
theorem s_checkAt {K : Int32 → VT → UT → Prop} (hθ : OKt θ) (hU : US θ sw U) (hV : WV θ V n r w) (p : Nat) (hp : p + 14 ≤ n) (hk : K (nI (ckn w p)) V U) : wp_W_checkAt θ (tb θ + 1) (nI p) V U K := by
  have hn := hV.2.1
  have hw := hV.2.2.2.2
  have hat : isO θ (tb θ + 1) 1 := by simp only [IC hθ]
  have step : ∀ (j a f : Nat), j < 4 → a < 16777216 → wl_W_checkAt_4 θ (tb θ + 1) (nI p) K f (nI (a * 256 + w (p + (9 + j)))) (nI j + (-1)) V U → wl_W_checkAt_4 θ (tb θ + 1) (nI p) K (f + 1) (nI a) (nI (j + 1) + (-1)) V U := by
    intro j a f hj ha h
    show bl_W_checkAt_4 _ _ _ _ _ _ _ _ _
    unfold bl_W_checkAt_4
    rw [pk_m1, show nI p + (9 : Int32) + nI j = nI (p + (9 + j)) from by rw [show nI p + (9 : Int32) = nI (p + 9) from nI_add p 9, nI_add]; congr 1; omega]
    refine br_f (nI_pos (by omega)) ⟨hat, ?_⟩
    refine s_at hθ hU hV _ (by omega) (fun y hy z hz => ?_)
    rw [bw_in (by omega)] at hy
    have hb := (hw (p + (9 + j)) (by omega)).2
    have e8 : nI a <<< ((8 : Int32) &&& 31) = nI (a * 2 ^ 8) := pk_shlN ((8 : Int32) &&& 31) 8 (by decide) (by omega)
    rw [hy, hz, e8, or_add (k := 8) (by omega) (by omega) (by omega)]
    exact h
  refine ⟨5, ?_⟩
  have b9 := (hw (p + 9) (by omega)).2
  have b10 := (hw (p + 10) (by omega)).2
  have b11 := (hw (p + 11) (by omega)).2
  have b12 := (hw (p + 12) (by omega)).2
  refine step 3 0 4 (by omega) (by omega) ?_
  refine step 2 _ 3 (by omega) (by simp only [Nat.reduceAdd]; omega) ?_
  refine step 1 _ 2 (by omega) (by simp only [Nat.reduceAdd]; omega) ?_
  refine step 0 _ 1 (by omega) (by simp only [Nat.reduceAdd]; omega) ?_
  show bl_W_checkAt_4 _ _ _ _ _ _ _ _ _
  unfold bl_W_checkAt_4
  refine br_t (by decide) ?_
  have e : ((((0 * 256 + w (p + (9 + 3))) * 256 + w (p + (9 + 2))) * 256 + w (p + (9 + 1))) * 256 + w (p + (9 + 0))) = ckn w p := by
    unfold ckn; simp only [Nat.reduceAdd]; omega
  rw [e]
  exact hk
theorem crc_eq {c : Int32} {v : Nat} (hv : v < 2 ^ 32) : c = nI v ↔ c.toBitVec.toNat = v := by
  constructor
  · intro h; rw [h, pk_tn hv]
  · intro h; refine i32_of ?_; rw [pk_tn hv]; exact h
theorem s_pageAt {K : Int32 → VT → UT → Prop} (hθ : OKt θ) (hU : US θ sw U) (hV : WV θ V n r w) (p : Nat) (hp : p ≤ n)
    (h0 : PS n w p 0 → K (-1) V U) (h1 : PS n w p 1 → K 0 V U) (h2 : PS n w p 2 → K (nI (plen w p)) V U) : wp_W_pageAt θ (tb θ + 1) (nI p) V U K := by
  have hn := hV.2.1
  have hw := hV.2.2.2.2
  have hV1 := hV.1
  have hat : isO θ (tb θ + 1) 1 := by simp only [IC hθ]
  unfold wp_W_pageAt
  refine ⟨hat, s_canBeHead hθ hU hV p hp (fun hd h7 h6 => ?_) (fun h => ?_)⟩
  · refine ⟨fun _ => ?_, fun h => absurd h (by decide)⟩
    rw [show nI p + (13 : Int32) = nI (p + 13) from nI_add p 13]
    refine s_at hθ hU hV _ (by omega) ?_
    by_cases h13 : p + 13 < n
    · rw [bw_in h13]
      have hc := h6 h13
      refine ⟨fun _ y hy => ?_, fun h => absurd h (nI_nm1 (by omega))⟩
      rw [hy, show (14 : Int32) + nI (w (p + 13)) = nI (14 + w (p + 13)) from nI_add 14 _]
      have key : ∀ m k, k + m = w (p + 13) → (∀ i, i < k → p + 14 + i < n ∧ w (p + 14 + i) ≤ 15) → wl_W_pageAt_34 θ (tb θ + 1) (nI p) (nI (w (p + 13))) K (m + 1) (nI (14 + w (p + 13) + psum w (p + 14) k)) (nI k) V U := by
        intro m
        induction m with
        | zero =>
          intro k e hk
          have e2 : k = w (p + 13) := by omega
          have hlc : lcA n w p (w (p + 13)) 0 := fun i _ hi _ => (hk i (by omega)).2
          have hps := psum_le (w := w) (q := p + 14) k (fun i hi => (hk i hi).2)
          show bl_W_pageAt_34 _ _ _ _ _ _ _ _ _ _
          unfold bl_W_pageAt_34
          rw [e2] at hps ⊢
          refine br_t (nI_le (Nat.le_refl _) (by omega)) ⟨hat, ?_⟩
          rw [hV1, pk_sub (by omega)]
          refine pk_le (14 + w (p + 13) + psum w (p + 14) (w (p + 13))) (n - p) (fun hle => ?_) (fun hgt => ?_)
          · refine s_checkOf hθ hU hV p _ (by omega) ?_
            refine s_checkAt hθ hU hV p (by omega) ?_
            have hv : ckn w p < 2 ^ 32 := by
              have b9 := (hw (p + 9) (by omega)).2
              have b10 := (hw (p + 10) (by omega)).2
              have b11 := (hw (p + 11) (by omega)).2
              have b12 := (hw (p + 12) (by omega)).2
              unfold ckn
              omega
            have hpl : p + plen w p ≤ n := by unfold plen; omega
            rw [crc_eq hv]
            refine ⟨fun hne => h0 (Or.inr ⟨⟨hd, h7⟩, Or.inr ⟨h13, Or.inr ⟨hc, Or.inr ⟨hlc, Or.inr ⟨hpl, Or.inr ⟨rfl, hne⟩⟩⟩⟩⟩⟩), fun heq => h2 (Or.inr ⟨⟨hd, h7⟩, Or.inr ⟨h13, Or.inr ⟨hc, Or.inr ⟨hlc, Or.inr ⟨hpl, Or.inl ⟨rfl, heq⟩⟩⟩⟩⟩⟩)⟩
          · have hpl : n < p + plen w p := by unfold plen; omega
            exact h1 (Or.inr ⟨⟨hd, h7⟩, Or.inr ⟨h13, Or.inr ⟨hc, Or.inr ⟨hlc, Or.inl ⟨rfl, hpl⟩⟩⟩⟩⟩)
        | succ m ih =>
          intro k e hk
          have hps := psum_le (w := w) (q := p + 14) k (fun i hi => (hk i hi).2)
          show bl_W_pageAt_34 _ _ _ _ _ _ _ _ _ _
          unfold bl_W_pageAt_34
          refine br_f (nI_ge (by omega) (by omega)) ⟨hat, ?_⟩
          rw [show nI p + (14 : Int32) + nI k = nI (p + 14 + k) from by rw [show nI p + (14 : Int32) = nI (p + 14) from nI_add p 14, nI_add]]
          refine s_at hθ hU hV _ (by omega) ?_
          by_cases hkn : p + 14 + k < n
          · rw [bw_in hkn]
            have hlt := (hw _ hkn).2
            refine ⟨fun _ => pk_le (w (p + 14 + k)) 15 (fun hle y hy z hz => ?_) (fun hgt => ?_), fun h => absurd h (nI_nm1 (by omega))⟩
            · rw [hy, hz, nI_add, nI_1, Nat.add_assoc (14 + w (p + 13))]
              exact ih (k + 1) (by omega) (fun i hi => by
                by_cases hik : i = k
                · subst hik; exact ⟨hkn, hle⟩
                · exact hk i (by omega))
            · exact h0 (Or.inr ⟨⟨hd, h7⟩, Or.inr ⟨h13, Or.inr ⟨hc, Or.inl ⟨rfl, fun hl => by have := hl k (by omega) (by omega) hkn; omega⟩⟩⟩⟩)
          · rw [bw_out (by omega)]
            refine ⟨fun h => absurd rfl h, fun _ => ?_⟩
            have hlc : lcA n w p (w (p + 13)) 0 := fun i _ hi hin => by
              by_cases hik : i < k
              · exact (hk i hik).2
              · omega
            have hpl : n < p + plen w p := by unfold plen; omega
            exact h1 (Or.inr ⟨⟨hd, h7⟩, Or.inr ⟨h13, Or.inr ⟨hc, Or.inr ⟨hlc, Or.inl ⟨rfl, hpl⟩⟩⟩⟩⟩)
      exact ⟨_, key (w (p + 13)) 0 (by omega) (fun i hi => by omega)⟩
    · rw [bw_out (by omega)]
      exact ⟨fun h => absurd rfl h, fun _ => h1 (Or.inr ⟨⟨hd, h7⟩, Or.inl ⟨rfl, by omega⟩⟩)⟩
  · refine ⟨fun h9 => absurd rfl h9, fun _ => h0 ?_⟩
    by_cases hd : hdA n w p 0
    · by_cases h7 : p + 4 < n → w (p + 4) ≤ 7
      · refine Or.inr ⟨⟨hd, h7⟩, ?_⟩
        rcases h with h | h | h
        · exact absurd hd h
        · have := h7 h.1; omega
        · exact Or.inr ⟨h.1, Or.inl ⟨rfl, h.2⟩⟩
      · refine Or.inl ⟨rfl, Or.inr ?_⟩
        by_cases h4 : p + 4 < n
        · exact ⟨h4, by
            by_cases h8 : 7 < w (p + 4)
            · exact h8
            · exact absurd (fun _ => by omega) h7⟩
        · exact absurd (fun h => absurd h h4) h7
    · exact Or.inl ⟨rfl, Or.inl hd⟩
/-- the reference's length of a page -/
theorem m_pageLength {K : Int32 → VT → UT → Prop} (hθ : OKt θ) (hU : US θ sw U) (hV : WM θ V n r w) (p : Nat) (hp : p + 14 + w (p + 13) ≤ n) (hc : w (p + 13) ≤ 6) (hl : ∀ i, i < w (p + 13) → w (p + 14 + i) ≤ 15) (hk : K (nI (plen w p)) V U) : wp_M_pageLength θ (tb θ + 126) (nI p) V U K := by
  obtain ⟨h1, h2, h3, h4, h5⟩ := hV
  unfold wp_M_pageLength
  simp only [UM hU, IM hθ, exists_eq_left, true_and]
  rw [show nI p + (13 : Int32) = nI (p + 13) from nI_add p 13, nI_clamp (by omega), (h5 (p + 13) (by omega)).1]
  refine ⟨by omega, vp_in_nI (by omega) (by omega), fun y hy z hz => ?_⟩
  subst hy
  rw [hz, show (14 : Int32) + nI (w (p + 13)) = nI (14 + w (p + 13)) from nI_add 14 _]
  have key : ∀ m k, k + m = w (p + 13) → wl_M_pageLength_18 θ (tb θ + 126) (nI p) (nI (w (p + 13))) K (m + 1) (nI (14 + w (p + 13) + psum w (p + 14) k)) (nI k) V U := by
    intro m
    induction m with
    | zero =>
      intro k e
      have e2 : k = w (p + 13) := by omega
      show bl_M_pageLength_18 _ _ _ _ _ _ _ _ _ _
      unfold bl_M_pageLength_18
      rw [e2]
      exact br_t (nI_le (Nat.le_refl _) (by omega)) hk
    | succ m ih =>
      intro k e
      show bl_M_pageLength_18 _ _ _ _ _ _ _ _ _ _
      unfold bl_M_pageLength_18
      simp only [UM hU, IM hθ, exists_eq_left, true_and]
      refine br_f (nI_ge (by omega) (by omega)) ?_
      rw [show nI p + (14 : Int32) + nI k = nI (p + 14 + k) from by rw [show nI p + (14 : Int32) = nI (p + 14) from nI_add p 14, nI_add], nI_clamp (by omega), (h5 (p + 14 + k) (by omega)).1]
      refine ⟨by omega, vp_in_nI (by omega) (by omega), fun y hy z hz => ?_⟩
      rw [hy, hz, nI_add, nI_1, Nat.add_assoc (14 + w (p + 13))]
      exact ih (k + 1) (by omega)
  exact ⟨_, key (w (p + 13)) 0 (by omega)⟩
theorem sg_lt (k : Nat) : sg k < 2 ^ 31 := by unfold sg; split <;> (try split) <;> omega
theorem m_magic {K : Int32 → VT → UT → Prop} (k : Nat) (hk : k < 4) (h : K (nI (sg k)) V U) : wp_M_magic θ (nI k) V U K := by
  unfold wp_M_magic
  have h4 : k = 0 ∨ k = 1 ∨ k = 2 ∨ k = 3 := by omega
  rcases h4 with rfl | rfl | rfl | rfl
  · exact ⟨fun _ => ⟨fun _ => h, fun e => absurd e (by decide)⟩, fun e => absurd e (by decide)⟩
  · exact ⟨fun e => absurd rfl e, fun _ => h⟩
  · exact ⟨fun _ => ⟨fun _ => h, fun e => absurd e (by decide)⟩, fun e => absurd e (by decide)⟩
  · exact ⟨fun _ => ⟨fun e => absurd rfl e, fun _ => h⟩, fun e => absurd e (by decide)⟩
theorem ck_bytes {w : Nat → Nat} {p C : Nat} (hC : C < 2 ^ 32) (b9 : w (p + 9) < 256) (b10 : w (p + 10) < 256) (b11 : w (p + 11) < 256) (b12 : w (p + 12) < 256) (h0 : w (p + 9) = C / 256 ^ 0 % 256) (h1 : w (p + 10) = C / 256 ^ 1 % 256) (h2 : w (p + 11) = C / 256 ^ 2 % 256) (h3 : w (p + 12) = C / 256 ^ 3 % 256) : C = ckn w p := by
  unfold ckn
  simp only [Nat.reducePow] at *
  omega
theorem ck_byte {w : Nat → Nat} {p C : Nat} (hC : C = ckn w p) (b9 : w (p + 9) < 256) (b10 : w (p + 10) < 256) (b11 : w (p + 11) < 256) (b12 : w (p + 12) < 256) {k : Nat} (hk : k < 4) : w (p + (9 + k)) = C / 256 ^ k % 256 := by
  subst hC
  unfold ckn
  have h4 : k = 0 ∨ k = 1 ∨ k = 2 ∨ k = 3 := by omega
  rcases h4 with rfl | rfl | rfl | rfl <;> simp only [Nat.reducePow, Nat.reduceAdd] <;> omega
theorem m_state {K : Int32 → VT → UT → Prop} (hθ : OKt θ) (hU : US θ sw U) (hV : WM θ V n r w) (p : Nat) (hp : p ≤ n)
    (h0 : PS n w p 0 → K 0 V U) (h1 : PS n w p 1 → K 1 V U) (h2 : PS n w p 2 → K 2 V U) : wp_M_state θ (tb θ + 126) (nI p) V U K := by
  have hVs := hV
  obtain ⟨g1, g2, g3, g4, g5⟩ := hV
  -- behind the head
  have tail : hdA n w p 0 → (p + 4 < n → w (p + 4) ≤ 7) → wb_M_state_65 θ (tb θ + 126) (nI p) K V U := by
    intro hd h7
    unfold wb_M_state_65
    simp only [UM hU, IM hθ, exists_eq_left, true_and, g1]
    rw [show nI p + (13 : Int32) = nI (p + 13) from nI_add p 13]
    refine pk_lt (p + 13) n (fun h13 => ?_) (fun h13 => h1 (Or.inr ⟨⟨hd, h7⟩, Or.inl ⟨rfl, h13⟩⟩))
    rw [nI_clamp (by omega), (g5 (p + 13) h13).1]
    refine ⟨by omega, vp_in_nI (by omega) (by omega), fun y hy => ?_⟩
    subst hy
    have hlt := (g5 (p + 13) h13).2
    refine pk_le (w (p + 13)) 6 (fun hc => ?_) (fun hc => h0 (Or.inr ⟨⟨hd, h7⟩, Or.inr ⟨h13, Or.inl ⟨rfl, hc⟩⟩⟩))
    -- the lacing values
    have key : ∀ m k, k + m = w (p + 13) → (∀ i, i < k → p + 14 + i < n → w (p + 14 + i) ≤ 15) → wl_M_state_98 θ (tb θ + 126) (nI p) (nI (w (p + 13))) K (m + 1) (nI k) V U := by
      intro m
      induction m with
      | zero =>
        intro k e hk
        have e2 : k = w (p + 13) := by omega
        have hlc : lcA n w p (w (p + 13)) 0 := fun i _ hi hin => hk i (by omega) hin
        show bl_M_state_98 _ _ _ _ _ _ _ _ _
        unfold bl_M_state_98
        simp only [IM hθ, true_and, g1]
        rw [e2, show nI p + (14 : Int32) + nI (w (p + 13)) = nI (p + 14 + w (p + 13)) from by rw [show nI p + (14 : Int32) = nI (p + 14) from nI_add p 14, nI_add]]
        refine br_t (nI_le (Nat.le_refl _) (by omega)) ?_
        refine pk_lt n (p + 14 + w (p + 13)) (fun h => ?_) (fun h => ?_)
        · have hpl : n < p + plen w p := by unfold plen; omega
          exact h1 (Or.inr ⟨⟨hd, h7⟩, Or.inr ⟨h13, Or.inr ⟨hc, Or.inr ⟨hlc, Or.inl ⟨rfl, hpl⟩⟩⟩⟩⟩)
        · have hl15 : ∀ i, i < w (p + 13) → w (p + 14 + i) ≤ 15 := fun i hi => hlc i (by omega) hi (by omega)
          have hps := psum_le (w := w) (q := p + 14) (w (p + 13)) hl15
          have hpe : plen w p ≤ 14 + 6 + 90 := by unfold plen; omega
          refine m_pageLength hθ hU hVs p h hc hl15 ?_
          rw [g1, nI_add]
          refine pk_le (p + plen w p) n (fun hle => ?_) (fun hgt => ?_)
          · refine m_pageLength hθ hU hVs p h hc hl15 ?_
            refine m_check hθ hU hVs p _ hle ?_
            generalize hC : crcN (ckf w p) (plen w p) = C
            have b9 := (g5 (p + 9) (by omega)).2
            have b10 := (g5 (p + 10) (by omega)).2
            have b11 := (g5 (p + 11) (by omega)).2
            have b12 := (g5 (p + 12) (by omega)).2
            have good : PS n w p 2 ∨ ∃ k, k < 4 ∧ ¬ w (p + (9 + k)) = C.toBitVec.toNat / 256 ^ k % 256 := by
              by_cases hq : C.toBitVec.toNat = ckn w p
              · exact Or.inl (Or.inr ⟨⟨hd, h7⟩, Or.inr ⟨h13, Or.inr ⟨hc, Or.inr ⟨hlc, Or.inr ⟨hle, Or.inl ⟨rfl, by rw [hC]; exact hq⟩⟩⟩⟩⟩⟩)
              · refine Or.inr ?_
                by_cases q0 : w (p + 9) = C.toBitVec.toNat / 256 ^ 0 % 256
                · by_cases q1 : w (p + 10) = C.toBitVec.toNat / 256 ^ 1 % 256
                  · by_cases q2 : w (p + 11) = C.toBitVec.toNat / 256 ^ 2 % 256
                    · by_cases q3 : w (p + 12) = C.toBitVec.toNat / 256 ^ 3 % 256
                      · exact absurd (ck_bytes C.toBitVec.isLt b9 b10 b11 b12 q0 q1 q2 q3) hq
                      · exact ⟨3, by omega, q3⟩
                    · exact ⟨2, by omega, q2⟩
                  · exact ⟨1, by omega, q1⟩
                · exact ⟨0, by omega, q0⟩
            have bad : (∃ k, k < 4 ∧ ¬ w (p + (9 + k)) = C.toBitVec.toNat / 256 ^ k % 256) → K 0 V U := by
              rintro ⟨k, hk4, hne⟩
              refine h0 (Or.inr ⟨⟨hd, h7⟩, Or.inr ⟨h13, Or.inr ⟨hc, Or.inr ⟨hlc, Or.inr ⟨hle, Or.inr ⟨rfl, ?_⟩⟩⟩⟩⟩⟩)
              rw [hC]
              intro hq
              exact hne (ck_byte hq b9 b10 b11 b12 hk4)
            have key2 : ∀ m k, k + m = 4 → (∀ i, i < k → w (p + (9 + i)) = C.toBitVec.toNat / 256 ^ i % 256) → wl_M_state_183 θ (tb θ + 126) (nI p) C K (m + 1) (nI k) V U := by
              intro m
              induction m with
              | zero =>
                intro k e hk
                have e2 : k = 4 := by omega
                subst e2
                show bl_M_state_183 _ _ _ _ _ _ _ _ _
                unfold bl_M_state_183
                refine br_t (by decide) ?_
                rcases good with hg | ⟨j, hj, hne⟩
                · exact h2 hg
                · exact absurd (hk j hj) hne
              | succ m ih =>
                intro k e hk
                show bl_M_state_183 _ _ _ _ _ _ _ _ _
                unfold bl_M_state_183
                simp only [UM hU, IM hθ, exists_eq_left, true_and]
                refine br_f (nI_ge (a := k) (b := 4) (by omega) (by omega)) ?_
                have hb := (g5 (p + (9 + k)) (by omega)).2
                rw [show nI p + (9 : Int32) + nI k = nI (p + (9 + k)) from by rw [show nI p + (9 : Int32) = nI (p + 9) from nI_add p 9, nI_add]; congr 1; omega, nI_clamp (by omega), (g5 (p + (9 + k)) (by omega)).1, show (8 : Int32) * nI k = nI (8 * k) from pk_mul 8 k, byt C k (by omega)]
                refine ⟨by omega, vp_in_nI (by omega) (by omega), ?_⟩
                have hm : C.toBitVec.toNat / 256 ^ k % 256 < 256 := Nat.mod_lt _ (by omega)
                refine pk_eq (w (p + (9 + k))) (C.toBitVec.toNat / 256 ^ k % 256) (fun h y hy => ?_) (fun h => bad ⟨k, by omega, h⟩)
                rw [hy, nI_1]
                exact ih (k + 1) (by omega) (fun i hi => by
                  by_cases hik : i = k
                  · subst hik; exact h
                  · exact hk i (by omega))
            exact ⟨5, key2 4 0 (by omega) (fun i hi => by omega)⟩
          · exact h1 (Or.inr ⟨⟨hd, h7⟩, Or.inr ⟨h13, Or.inr ⟨hc, Or.inr ⟨hlc, Or.inl ⟨rfl, hgt⟩⟩⟩⟩⟩)
      | succ m ih =>
        intro k e hk
        show bl_M_state_98 _ _ _ _ _ _ _ _ _
        unfold bl_M_state_98
        simp only [UM hU, IM hθ, exists_eq_left, true_and, g1]
        refine br_f (nI_ge (by omega) (by omega)) ?_
        rw [show nI p + (14 : Int32) + nI k = nI (p + 14 + k) from by rw [show nI p + (14 : Int32) = nI (p + 14) from nI_add p 14, nI_add]]
        refine pk_le n (p + 14 + k) (fun h y hy => ?_) (fun h => ?_)
        · rw [hy, nI_1]
          exact ih (k + 1) (by omega) (fun i hi hin => by
            by_cases hik : i = k
            · subst hik; omega
            · exact hk i (by omega) hin)
        · rw [nI_clamp (by omega), (g5 (p + 14 + k) h).1]
          have hb := (g5 (p + 14 + k) h).2
          refine ⟨by omega, vp_in_nI (by omega) (by omega), ?_⟩
          refine pk_le (w (p + 14 + k)) 15 (fun hle y hy => ?_) (fun hgt => ?_)
          · rw [hy, nI_1]
            exact ih (k + 1) (by omega) (fun i hi hin => by
              by_cases hik : i = k
              · subst hik; exact hle
              · exact hk i (by omega) hin)
          · exact h0 (Or.inr ⟨⟨hd, h7⟩, Or.inr ⟨h13, Or.inr ⟨hc, Or.inl ⟨rfl, fun hl => by have := hl k (by omega) (by omega) h; omega⟩⟩⟩⟩)
    exact ⟨_, key (w (p + 13)) 0 (by omega) (fun i hi => by omega)⟩
  -- the sign
  have key : ∀ m k, k + m = 4 → (hdA n w p k → hdA n w p 0) → wl_M_state_2 θ (tb θ + 126) (nI p) K (m + 1) (nI k) V U := by
    intro m
    induction m with
    | zero =>
      intro k e hk
      have e2 : k = 4 := by omega
      subst e2
      have hd : hdA n w p 0 := hk (fun i h1 h2 => by omega)
      show bl_M_state_2 _ _ _ _ _ _ _ _
      unfold bl_M_state_2
      simp only [UM hU, IM hθ, exists_eq_left, true_and, g1]
      refine br_t (by decide) ?_
      rw [show nI p + (4 : Int32) = nI (p + 4) from nI_add p 4]
      refine pk_le n (p + 4) (fun h => tail hd (fun h9 => by omega)) (fun h => ?_)
      rw [nI_clamp (by omega), (g5 (p + 4) h).1]
      have hb := (g5 (p + 4) h).2
      refine ⟨by omega, vp_in_nI (by omega) (by omega), ?_⟩
      exact pk_le (w (p + 4)) 7 (fun hle => tail hd (fun _ => hle)) (fun hgt => h0 (Or.inl ⟨rfl, Or.inr ⟨h, hgt⟩⟩))
    | succ m ih =>
      intro k e hk
      show bl_M_state_2 _ _ _ _ _ _ _ _
      unfold bl_M_state_2
      simp only [UM hU, IM hθ, exists_eq_left, true_and, g1]
      refine br_f (nI_ge (a := k) (b := 4) (by omega) (by omega)) ?_
      rw [nI_add]
      have go : (p + k < n → w (p + k) = sg k) → wl_M_state_2 θ (tb θ + 126) (nI p) K (m + 1) (nI k + 1) V U := by
        intro h
        rw [nI_1]
        refine ih (k + 1) (by omega) (fun h2 => hk (fun i hi1 hi2 hi3 => ?_))
        by_cases hik : i = k
        · subst hik; exact h hi3
        · exact h2 i (by omega) hi2 hi3
      refine pk_le n (p + k) (fun h y hy => ?_) (fun h => ?_)
      · rw [hy]; exact go (fun h9 => by omega)
      · rw [nI_clamp (by omega), (g5 (p + k) h).1]
        have hb := (g5 (p + k) h).2
        refine ⟨by omega, vp_in_nI (by omega) (by omega), m_magic k (by omega) ?_⟩
        refine pk_eq (w (p + k)) (sg k) (fun he y hy => ?_) (fun hne => ?_) rfl rfl (by omega) (sg_lt k)
        · rw [hy]; exact go (fun _ => he)
        · exact h0 (Or.inl ⟨rfl, Or.inl (fun hd => hne (hd k (by omega) (by omega) h))⟩)
  exact ⟨5, key 4 0 (by omega) (fun h => h)⟩
end PAGE
