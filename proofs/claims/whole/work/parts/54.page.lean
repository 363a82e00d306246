-- what stands at a place of the wire
def sg (k : Nat) : Nat := if k = 1 then 97 else if k = 3 then 83 else 76
def psum (w : Nat → Nat) (q : Nat) : Nat → Nat
  | 0 => 0
  | k + 1 => psum w q k + w (q + k)
def plen (w : Nat → Nat) (p : Nat) : Nat := 14 + w (p + 13) + psum w (p + 14) (w (p + 13))
def ckn (w : Nat → Nat) (p : Nat) : Nat := w (p + 9) + 256 * w (p + 10) + 65536 * w (p + 11) + 16777216 * w (p + 12)
def hdA (n : Nat) (w : Nat → Nat) (p k : Nat) : Prop := ∀ i, k ≤ i → i < 4 → p + i < n → w (p + i) = sg i
def lcA (n : Nat) (w : Nat → Nat) (p c k : Nat) : Prop := ∀ i, k ≤ i → i < c → p + 14 + i < n → w (p + 14 + i) ≤ 15
/-- 0 BAD, 1 OPEN, 2 GOOD -/
def PS (n : Nat) (w : Nat → Nat) (p s : Nat) : Prop :=
  (s = 0 ∧ (¬ hdA n w p 0 ∨ (p + 4 < n ∧ 7 < w (p + 4)))) ∨
  ((hdA n w p 0 ∧ (p + 4 < n → w (p + 4) ≤ 7)) ∧
    ((s = 1 ∧ n ≤ p + 13) ∨ (p + 13 < n ∧ ((s = 0 ∧ 6 < w (p + 13)) ∨ (w (p + 13) ≤ 6 ∧
      ((s = 0 ∧ ¬ lcA n w p (w (p + 13)) 0) ∨ (lcA n w p (w (p + 13)) 0 ∧ ((s = 1 ∧ n < p + plen w p) ∨ (p + plen w p ≤ n ∧
        ((s = 2 ∧ (crcN (ckf w p) (plen w p)).toBitVec.toNat = ckn w p) ∨ (s = 0 ∧ ¬ (crcN (ckf w p) (plen w p)).toBitVec.toNat = ckn w p)))))))))))
theorem psum_le {w : Nat → Nat} {q : Nat} : ∀ c, (∀ i, i < c → w (q + i) ≤ 15) → psum w q c ≤ 15 * c := by
  intro c
  induction c with
  | zero => intro _; exact Nat.le_refl _
  | succ c ih =>
    intro h
    have h1 := ih (fun i hi => h i (by omega))
    have h2 := h c (by omega)
    show psum w q c + w (q + c) ≤ _
    omega
theorem or_add {a b k : Nat} (hb : b < 2 ^ k) (ha : a * 2 ^ k < 2 ^ 32) (hb2 : b < 2 ^ 32) : nI (a * 2 ^ k) ||| nI b = nI (a * 2 ^ k + b) := by
  refine i32_of ?_
  have e : (nI (a * 2 ^ k) ||| nI b).toBitVec.toNat = (nI (a * 2 ^ k)).toBitVec.toNat ||| (nI b).toBitVec.toNat := by
    show ((nI (a * 2 ^ k)).toBitVec ||| (nI b).toBitVec).toNat = _
    exact BitVec.toNat_or ..
  have h1 : a * 2 ^ k + b = a * 2 ^ k ||| b := by
    rw [Nat.mul_comm]
    exact Nat.two_pow_add_eq_or_of_lt hb a
  have h2 : a * 2 ^ k ||| b < 2 ^ 32 := Nat.or_lt_two_pow ha hb2
  rw [e, pk_tn ha, pk_tn hb2, pk_tn (by omega), h1]
theorem byt (c : Int32) (k : Nat) (hk : k < 4) : ((c.toUInt32 >>> ((nI (8 * k)).toUInt32 &&& Int32.toUInt32 31)).toInt32 &&& (255 : Int32)) = nI (c.toBitVec.toNat / 256 ^ k % 256) := by
  rw [pk_and _ 8 (by decide), pk_ushr c (nI (8 * k)) (8 * k) (by
    have h4 : k = 0 ∨ k = 1 ∨ k = 2 ∨ k = 3 := by omega
    rcases h4 with rfl | rfl | rfl | rfl <;> decide)]
  have h4 : k = 0 ∨ k = 1 ∨ k = 2 ∨ k = 3 := by omega
  rcases h4 with rfl | rfl | rfl | rfl <;> rfl
section PAGE
variable {θ : TH} {sw : Bool} {U : UT} {V : VT} {n r : Nat} {w : Nat → Nat}
theorem sv_sg {k : Nat} (hk : k < 4) : sV 0 k = nI (sg k) := by
  have h4 : k = 0 ∨ k = 1 ∨ k = 2 ∨ k = 3 := by omega
  rcases h4 with rfl | rfl | rfl | rfl <;> rfl
theorem bw_in {p : Nat} (h : p < n) : bw n w p = nI (w p) := by rw [bw, if_pos h]
theorem bw_out {p : Nat} (h : n ≤ p) : bw n w p = -1 := by rw [bw, if_neg (by omega)]
theorem s_canBeHead {K : Int32 → VT → UT → Prop} (hθ : OKt θ) (hU : US θ sw U) (hV : WV θ V n r w) (p : Nat) (hp : p ≤ n)
    (h1 : hdA n w p 0 → (p + 4 < n → w (p + 4) ≤ 7) → (p + 13 < n → w (p + 13) ≤ 6) → K 1 V U)
    (h0 : (¬ hdA n w p 0 ∨ (p + 4 < n ∧ 7 < w (p + 4)) ∨ (p + 13 < n ∧ 6 < w (p + 13))) → K 0 V U) : wp_W_canBeHead θ (tb θ + 1) (nI p) V U K := by
  have hn := hV.2.1
  have hw := hV.2.2.2.2
  have hat : isO θ (tb θ + 1) 1 := by simp only [IC hθ]
  have key : ∀ m k, k + m = 4 → (hdA n w p k → hdA n w p 0) → wl_W_canBeHead_2 θ (tb θ + 1) (nI p) K (m + 1) (nI k) V U := by
    intro m
    induction m with
    | zero =>
      intro k e hk
      have e2 : k = 4 := by omega
      subst e2
      have hd : hdA n w p 0 := hk (fun i h1 h2 => by omega)
      show bl_W_canBeHead_2 _ _ _ _ _ _ _ _
      unfold bl_W_canBeHead_2 wb_W_canBeHead_69
      refine br_t (by decide) ⟨hat, ?_⟩
      rw [show nI p + (4 : Int32) = nI (p + 4) from nI_add p 4, show nI p + (13 : Int32) = nI (p + 13) from nI_add p 13]
      refine s_at hθ hU hV _ (by omega) ?_
      have tail : (p + 4 < n → w (p + 4) ≤ 7) → wp_W_at θ (tb θ + 1) (nI (p + 13)) V U (fun r_9 V_7 U_8 => (((6 : Int32) < r_9 → K (0 : Int32) V_7 U_8) ∧ (¬ (6 : Int32) < r_9 → K (1 : Int32) V_7 U_8))) := by
        intro h7
        refine s_at hθ hU hV _ (by omega) ?_
        by_cases h13 : p + 13 < n
        · rw [bw_in h13]
          have := (hw _ h13).2
          exact pk_lt 6 (w (p + 13)) (fun h => h0 (Or.inr (Or.inr ⟨h13, h⟩))) (fun h => h1 hd h7 (fun _ => h))
        · rw [bw_out (by omega)]
          exact br_f (by decide) (h1 hd h7 (fun h => absurd h h13))
      by_cases h4 : p + 4 < n
      · rw [bw_in h4]
        have := (hw _ h4).2
        exact pk_lt 7 (w (p + 4)) (fun h => h0 (Or.inr (Or.inl ⟨h4, h⟩))) (fun h => tail (fun _ => h))
      · rw [bw_out (by omega)]
        exact br_f (by decide) (tail (fun h => absurd h h4))
    | succ m ih =>
      intro k e hk
      show bl_W_canBeHead_2 _ _ _ _ _ _ _ _
      unfold bl_W_canBeHead_2
      refine br_f (nI_ge (a := k) (b := 4) (by omega) (by omega)) ⟨hat, ?_⟩
      rw [nI_add]
      refine s_at hθ hU hV _ (by omega) ?_
      have go : (p + k < n → w (p + k) = sg k) → wl_W_canBeHead_2 θ (tb θ + 1) (nI p) K (m + 1) (nI k + 1) V U := by
        intro h
        rw [nI_1]
        refine ih (k + 1) (by omega) (fun h2 => hk (fun i hi1 hi2 hi3 => ?_))
        by_cases hik : i = k
        · subst hik; exact h hi3
        · exact h2 i (by omega) hi2 hi3
      by_cases hkn : p + k < n
      · rw [bw_in hkn]
        have hlt := (hw _ hkn).2
        refine br_f (nI_nm1 (by omega)) ⟨vp_in_nI (N := 4) (by omega) (by decide), ?_⟩
        rw [nI_clamp (by omega), sv_sg (by omega)]
        refine pk_eq (w (p + k)) (sg k) (fun h => fun y hy => ?_) (fun h => ?_) rfl rfl (by omega) (by unfold sg; split <;> (try split) <;> omega)
        · rw [hy]; exact go (fun _ => h)
        · exact h0 (Or.inl (fun hd => h (hd k (by omega) (by omega) hkn)))
      · rw [bw_out (by omega)]
        exact br_t rfl (fun y hy => by rw [hy]; exact go (fun h => absurd h hkn))
  exact ⟨5, key 4 0 (by omega) (fun h => h)⟩
theorem s_checkAt {K : Int32 → VT → UT → Prop} (hθ : OKt θ) (hU : US θ sw U) (hV : WV θ V n r w) (p : Nat) (hp : p + 14 ≤ n) (hk : K (nI (ckn w p)) V U) : wp_W_checkAt θ (tb θ + 1) (nI p) V U K := by
  have hn := hV.2.1
  have hw := hV.2.2.2.2
  have hat : isO θ (tb θ + 1) 1 := by simp only [IC hθ]
  have step : ∀ (j a f : Nat), j < 4 → a < 16777216 → wl_W_checkAt_4 θ (tb θ + 1) (nI p) K f (nI (a * 256 + w (p + (9 + j)))) (nI j + (-1)) V U → wl_W_checkAt_4 θ (tb θ + 1) (nI p) K (f + 1) (nI a) (nI (j + 1) + (-1)) V U := by
    intro j a f hj ha h
    show bl_W_checkAt_4 _ _ _ _ _ _ _ _ _
    unfold bl_W_checkAt_4
    rw [pk_m1, show nI p + (9 : Int32) + nI j = nI (p + (9 + j)) from by rw [show nI p + (9 : Int32) = nI (p + 9) from nI_add p 9, nI_add]; congr 1; omega]
    refine br_f (nI_pos (by omega)) ⟨hat, ?_⟩
    refine s_at hθ hU hV _ (by omega) (fun y hy z hz => ?_)
    rw [bw_in (by omega)] at hy
    have hb := (hw (p + (9 + j)) (by omega)).2
    have e8 : nI a <<< ((8 : Int32) &&& 31) = nI (a * 2 ^ 8) := pk_shlN ((8 : Int32) &&& 31) 8 (by decide) (by omega)
    rw [hy, hz, e8, or_add (k := 8) (by omega) (by omega) (by omega)]
    exact h
  refine ⟨5, ?_⟩
  have b9 := (hw (p + 9) (by omega)).2
  have b10 := (hw (p + 10) (by omega)).2
  have b11 := (hw (p + 11) (by omega)).2
  have b12 := (hw (p + 12) (by omega)).2
  refine step 3 0 4 (by omega) (by omega) ?_
  refine step 2 _ 3 (by omega) (by simp only [Nat.reduceAdd]; omega) ?_
  refine step 1 _ 2 (by omega) (by simp only [Nat.reduceAdd]; omega) ?_
  refine step 0 _ 1 (by omega) (by simp only [Nat.reduceAdd]; omega) ?_
  show bl_W_checkAt_4 _ _ _ _ _ _ _ _ _
  unfold bl_W_checkAt_4
  refine br_t (by decide) ?_
  have e : ((((0 * 256 + w (p + (9 + 3))) * 256 + w (p + (9 + 2))) * 256 + w (p + (9 + 1))) * 256 + w (p + (9 + 0))) = ckn w p := by
    unfold ckn; simp only [Nat.reduceAdd]; omega
  rw [e]
  exact hk
end PAGE
