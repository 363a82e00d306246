-- the decoder's share
/-- a used book's words: alone, or every run of eight bits begins with one -/
def bitsW (v l : Nat) : Nat := v / 2 ^ (8 - l)
def CWok (E : Nat) (ln cd : Nat → Nat) : Prop := (∀ e, e < E → ln e ≤ 8 ∧ (0 < ln e → cd e < 2 ^ ln e)) ∧ ((∃ e, e < E ∧ 0 < ln e ∧ ∀ j, j < E → j ≠ e → ln j = 0) ∨ (∀ v, v < 256 → ∃ e, e < E ∧ 0 < ln e ∧ bitsW v (ln e) = cd e))
def cnU (ln : Nat → Nat) : Nat → Nat
  | 0 => 0
  | k + 1 => cnU ln k + (if 0 < ln k then 1 else 0)
def BKR (θ : TH) (V : VT) (b E d : Nat) (ln cd : Nat → Nat) : Prop := V (tb θ + (106 + 5 * b)) 0 = nI E ∧ V (tb θ + 151) b = nI E ∧ 1 ≤ E ∧ E ≤ 8 ∧ V (tb θ + (106 + 5 * b)) 1 = nI d ∧ V (tb θ + 150) b = nI d ∧ 1 ≤ d ∧ d ≤ 4 ∧ (∀ e, e < E → V (tb θ + 152) (8 * b + e) = nI (ln e) ∧ V (tb θ + 153) (8 * b + e) = nI (cd e) ∧ V (tb θ + (106 + 5 * b) + 2) e = (if ln e = 0 then 0 else nI (2 ^ ln e + cd e))) ∧ V (tb θ + (106 + 5 * b)) 4 = nI (cnU ln E) ∧ CWok E ln cd ∧ V (tb θ + (106 + 5 * b)) 5 = V (tb θ + 154) b ∧ isZ (V (tb θ + 154) b) ∧ (V (tb θ + 154) b = 1 → ∀ e i, e < E → i < d → V (tb θ + (106 + 5 * b) + 4) (e * d + i) = V (tb θ + 155) (32 * b + 4 * e + i))
def PLN (θ : TH) (V : VT) (c B cp vp la : Nat) : Prop := ∃ (gr P N : Nat) (cl sz : Nat → Nat) (sp : Nat → Bool) (pl : Nat → Nat) (mo be en ps ki kb : Nat) (jo : Bool),
  (gr ≤ 3 ∧ V (tb θ + cp) 0 = nI gr ∧ V (tb θ + 157) la = nI (gr + 1)) ∧
  (P ≤ 3 ∧ V (tb θ + cp) 1 = nI P ∧ V (tb θ + 157) (la + 1) = nI P) ∧
  (∀ k, k < P → cl k ≤ 1 ∧ V (tb θ + cp + 1) k = nI (cl k) ∧ V (tb θ + 157) (la + 2 + k) = nI (cl k)) ∧
  (∀ k, k < P → 1 ≤ sz (cl k) ∧ sz (cl k) ≤ 4 ∧ V (tb θ + cp + 2) (cl k) = nI (sz (cl k)) ∧ V (tb θ + 157) (la + 5 + cl k) = nI (sz (cl k)) ∧ V (tb θ + cp + 3) (cl k) = (if sp (cl k) then 1 else 0) ∧ V (tb θ + 157) (la + 7 + cl k) = (if sp (cl k) then 1 else 0) ∧ (sp (cl k) = true → ∃ m, m < B ∧ V (tb θ + cp + 4) (cl k) = nI m ∧ V (tb θ + 157) (la + 9 + cl k) = nI m) ∧ ∀ q, q < (if sp (cl k) then 2 else 1) → V (tb θ + cp + 5) (2 * cl k + q) = V (tb θ + 157) (la + 11 + 2 * cl k + q) ∧ (V (tb θ + 157) (la + 11 + 2 * cl k + q) = -1 ∨ ∃ m, m < B ∧ V (tb θ + 157) (la + 11 + 2 * cl k + q) = nI m)) ∧
  (N = 2 + sumL (fun k => sz (cl k)) P ∧ V (tb θ + cp) 7 = nI N ∧ V (tb θ + 157) (la + 15) = nI N ∧ (∀ i, i < N → V (tb θ + cp + 6) i = nI (pl i) ∧ V (tb θ + 157) (la + 16 + i) = nI (pl i)) ∧ pl 0 = 0 ∧ pl 1 ≤ 32 ∧ (∀ i, i < N → i ≠ 1 → pl i < pl 1) ∧ ∀ i j, i < N → j < N → pl i = pl j → i = j) ∧
  (mo ≤ 2 ∧ V (tb θ + vp) 1 = nI mo ∧ V (tb θ + 157) (la + 30) = nI mo) ∧
  (be ≤ en ∧ en ≤ 63 ∧ V (tb θ + vp) 2 = nI be ∧ V (tb θ + 157) (la + 31) = nI be ∧ V (tb θ + vp) 3 = nI en ∧ V (tb θ + 157) (la + 32) = nI en) ∧
  (1 ≤ ps ∧ ps ≤ 8 ∧ V (tb θ + vp) 4 = nI ps ∧ V (tb θ + 157) (la + 33) = nI ps) ∧
  (1 ≤ ki ∧ ki ≤ 2 ∧ V (tb θ + vp) 5 = nI ki ∧ V (tb θ + 157) (la + 34) = nI ki) ∧
  (kb < B ∧ V (tb θ + vp) 6 = nI kb ∧ V (tb θ + 157) (la + 35) = nI kb) ∧
  (∀ k, k < 2 * ki → V (tb θ + vp + 1) k = V (tb θ + 157) (la + 36 + k) ∧ (V (tb θ + 157) (la + 36 + k) = -1 ∨ ∃ m d, m < B ∧ V (tb θ + 157) (la + 36 + k) = nI m ∧ V (tb θ + 154) m = 1 ∧ V (tb θ + 150) m = nI d ∧ ps % d = 0)) ∧
  (V (tb θ + vp) 8 = (if jo then 1 else 0) ∧ V (tb θ + 157) (la + 40) = (if jo then 1 else 0) ∧ (jo = true → c = 2)) ∧ V (tb θ + vp) 0 = nI c
def mrk (V : VT) (θ : TH) : Int32 := ((((if V (tb θ + 126) 55 = 0 then (0 : Int32) else 1) + (2 : Int32) * V (tb θ + 126) 56) + (if V (tb θ + 158) 0 = 0 then 0 else 8)) + (if V (tb θ + 158) 1 = 0 then 0 else 16)) + (if V (tb θ + 126) 58 = 0 then 0 else 32)
def BLK (θ : TH) (V : VT) (c : Nat) : Prop := (V (tb θ + 126) 54 = 0 ∧ V (tb θ + 66) 11 = 0) ∨ (V (tb θ + 126) 54 = 1 ∧ ∃ sz, 0 < sz ∧ sz ≤ 64 ∧ V (tb θ + 66) 11 = nI sz ∧ V (tb θ + 126) 57 = nI sz ∧ V (tb θ + 66) 12 = mrk V θ ∧ ∀ ch x, ch < c → x < sz / 2 → V (tb θ + (101 + ch)) x = V (tb θ + 159) (32 * ch + x) ∧ V (tb θ + (104 + ch)) x = V (tb θ + 160) (32 * ch + x))
def DCR (θ : TH) (V : VT) (sw : Bool) : Prop := ∃ (c s L B : Nat) (E d : Nat → Nat) (ln cd : Nat → Nat → Nat), c ≤ 2 ∧ V (tb θ + 66) 3 = nI c ∧ V (tb θ + 126) 41 = nI c ∧ (0 < c → 8 ≤ s ∧ s ≤ 64 ∧ 8 ≤ L ∧ L ≤ 64) ∧ V (tb θ + 66) 4 = nI s ∧ V (tb θ + 126) 42 = nI s ∧ V (tb θ + 66) 5 = nI L ∧ V (tb θ + 126) 43 = nI L ∧ V (tb θ + 66) 15 = V (tb θ + 126) 68 ∧ B ≤ 4 ∧ V (tb θ + 66) 2 = nI B ∧ V (tb θ + 126) 44 = nI B ∧ (∀ b, b < B → BKR θ V b (E b) (d b) (ln b) (cd b)) ∧ BLK θ V c ∧ ((V (tb θ + 66) 6 = 0 ∧ V (tb θ + 126) 53 = -1) ∨ (V (tb θ + 66) 6 = 1 ∧ 0 < c ∧ ∃ la, (la = 0 ∨ la = 48) ∧ V (tb θ + 126) 53 = nI la ∧ PLN θ V c B (if sw then 84 else 68) (if sw then 94 else 78) la))
section DEC
variable {θ : TH}
theorem DG_DCR : DG θ (DCR θ) := by
  intro V V2 sw ⟨h1, h2, h3⟩ h
  obtain ⟨c, s, L, B, E, d, ln, cd, g⟩ := h
  refine ⟨c, s, L, B, E, d, ln, cd, ?_⟩
  have e66 : V2 (tb θ + 66) = V (tb θ + 66) := h1 _ (by omega) (by omega)
  have hB : ∀ b, b < 4 → ∀ E d ln cd, BKR θ V b E d ln cd → BKR θ V2 b E d ln cd := by
    intro b hb E d ln cd q
    unfold BKR at q ⊢
    rw [h1 (tb θ + (106 + 5 * b)) (by omega) (by omega), h1 (tb θ + (106 + 5 * b) + 2) (by omega) (by omega), h1 (tb θ + (106 + 5 * b) + 4) (by omega) (by omega), h2 _ (by omega), h2 _ (by omega), h2 _ (by omega), h2 _ (by omega), h2 _ (by omega), h2 _ (by omega)]
    exact q
  obtain ⟨g1, g2, g3, g4, g5, g6, g7, g8, g9, g10, g11, g12, g13, g14, g15⟩ := g
  refine ⟨g1, by rw [e66]; exact g2, by rw [h3 _ (by decide)]; exact g3, g4, by rw [e66]; exact g5, by rw [h3 _ (by decide)]; exact g6, by rw [e66]; exact g7, by rw [h3 _ (by decide)]; exact g8, by rw [e66, h3 _ (by decide)]; exact g9, g10, by rw [e66]; exact g11, by rw [h3 _ (by decide)]; exact g12, fun b hb => hB b (by omega) _ _ _ _ (g13 b hb), ?_, ?_⟩
  · rcases g14 with ⟨a, b⟩ | ⟨a, sz, b1, b2, b3, b4, b5, b6⟩
    · exact Or.inl ⟨by rw [h3 _ (by decide)]; exact a, by rw [e66]; exact b⟩
    · refine Or.inr ⟨by rw [h3 _ (by decide)]; exact a, sz, b1, b2, by rw [e66]; exact b3, by rw [h3 _ (by decide)]; exact b4, ?_, fun ch x hc hx => ?_⟩
      · unfold mrk at b5 ⊢
        rw [e66, h3 _ (by decide), h3 _ (by decide), h3 _ (by decide), h2 (tb θ + 158) (by omega)]; exact b5
      · rw [h1 _ (by omega) (by omega), h1 _ (by omega) (by omega), h2 (tb θ + 159) (by omega), h2 (tb θ + 160) (by omega)]
        exact b6 ch x hc hx
  · rcases g15 with ⟨a, b⟩ | ⟨a, b, la, x1, x2, x3⟩
    · exact Or.inl ⟨by rw [e66]; exact a, by rw [h3 _ (by decide)]; exact b⟩
    · refine Or.inr ⟨by rw [e66]; exact a, b, la, x1, by rw [h3 _ (by decide)]; exact x2, ?_⟩
      have key : ∀ cp vp, 68 ≤ cp → cp + 9 < 126 → 68 ≤ vp → vp + 5 < 126 → PLN θ V c B cp vp la → PLN θ V2 c B cp vp la := by
        intro cp vp y1 y2 y3 y4 q
        unfold PLN at q ⊢
        rw [h1 (tb θ + cp) (by omega) (by omega), h1 (tb θ + cp + 1) (by omega) (by omega), h1 (tb θ + cp + 2) (by omega) (by omega), h1 (tb θ + cp + 3) (by omega) (by omega), h1 (tb θ + cp + 4) (by omega) (by omega), h1 (tb θ + cp + 5) (by omega) (by omega), h1 (tb θ + cp + 6) (by omega) (by omega), h1 (tb θ + vp) (by omega) (by omega), h1 (tb θ + vp + 1) (by omega) (by omega), h2 (tb θ + 157) (by omega), h2 (tb θ + 154) (by omega), h2 (tb θ + 150) (by omega)]
        exact q
      cases sw
      · exact key 68 78 (by decide) (by decide) (by decide) (by decide) x3
      · exact key 84 94 (by decide) (by decide) (by decide) (by decide) x3
end DEC
