-- the bits of a packet
def PK : Type := (Nat → Nat) × Nat
def PK.oc (p : PK) : Nat → Nat := p.1
def PK.L (p : PK) : Nat := p.2
abbrev RS : Type := Nat × Bool
def btO (p : PK) (k : Nat) : Nat := p.oc (k / 8) / 2 ^ (k % 8) % 2
def bsm (p : PK) (s : Nat) : Nat → Nat
  | 0 => 0
  | k + 1 => bsm p s k + btO p (s + k) * 2 ^ k
def rdV (p : PK) (k : Nat) (s : RS) : Nat := if s.2 = true ∨ 8 * p.L < s.1 + k then 0 else bsm p s.1 k
def rdS (p : PK) (k : Nat) (s : RS) : RS := if s.2 = true ∨ 8 * p.L < s.1 + k then (s.1, true) else (s.1 + k, false)
theorem bsm_lt (p : PK) (s : Nat) : ∀ k, bsm p s k < 2 ^ k
  | 0 => by simp [bsm]
  | k + 1 => by
    have h1 := bsm_lt p s k
    have h2 : btO p (s + k) ≤ 1 := by
      have : btO p (s + k) < 2 := Nat.mod_lt _ (by decide)
      omega
    have h3 : btO p (s + k) * 2 ^ k ≤ 1 * 2 ^ k := Nat.mul_le_mul_right _ h2
    have e : 2 ^ (k + 1) = 2 * 2 ^ k := by rw [Nat.pow_succ]; omega
    show bsm p s k + _ < _
    omega
theorem rdV_lt (p : PK) (k : Nat) (s : RS) : rdV p k s < 2 ^ k := by
  unfold rdV
  split
  · exact p2pos k
  · exact bsm_lt _ _ _
theorem rdS_out {p : PK} {k : Nat} {s : RS} (h : s.2 = true) : rdS p k s = s := by
  unfold rdS
  rw [if_pos (Or.inl h)]
  cases s; cases h; rfl
theorem rdV_out {p : PK} {k : Nat} {s : RS} (h : s.2 = true) : rdV p k s = 0 := by
  unfold rdV
  rw [if_pos (Or.inl h)]
theorem rdS_ok {p : PK} {s : RS} (k : Nat) (h : s.1 ≤ 8 * p.L) : (rdS p k s).1 ≤ 8 * p.L := by
  unfold rdS
  split
  · exact h
  · show s.1 + k ≤ _
    omega
theorem rdS_in {p : PK} {k : Nat} {s : RS} (h : (rdS p k s).2 = false) : s.2 = false ∧ s.1 + k ≤ 8 * p.L := by
  unfold rdS at h
  split at h
  · cases h
  · rename_i q
    constructor
    · cases e : s.2
      · rfl
      · exact absurd (Or.inl e) q
    · omega
theorem rdS_stay {p : PK} {k : Nat} {s : RS} (h : s.2 = true) : (rdS p k s).2 = true := by rw [rdS_out h]; exact h
theorem bsm_add (p : PK) (s a : Nat) : ∀ b, bsm p s (a + b) = bsm p s a + 2 ^ a * bsm p (s + a) b
  | 0 => by simp [bsm]
  | b + 1 => by
    show bsm p s (a + b) + btO p (s + (a + b)) * 2 ^ (a + b) = bsm p s a + 2 ^ a * (bsm p (s + a) b + btO p (s + a + b) * 2 ^ b)
    rw [bsm_add p s a b, Nat.pow_add, Nat.mul_add, ← Nat.add_assoc s a b, Nat.add_assoc]
    congr 2
    rw [← Nat.mul_assoc, ← Nat.mul_assoc, Nat.mul_comm (2 ^ a)]
theorem rd_split {p : PK} {a b : Nat} {s : RS} (h : (rdS p (a + b) s).2 = false) : rdS p (a + b) s = rdS p b (rdS p a s) ∧ rdV p (a + b) s = rdV p a s + 2 ^ a * rdV p b (rdS p a s) := by
  obtain ⟨h1, h2⟩ := rdS_in h
  have n0 : ¬ (s.2 = true ∨ 8 * p.L < s.1 + (a + b)) := by rw [h1]; simp; omega
  have n1 : ¬ (s.2 = true ∨ 8 * p.L < s.1 + a) := by rw [h1]; simp; omega
  have e1 : rdS p a s = (s.1 + a, false) := by unfold rdS; rw [if_neg n1]
  have n2 : ¬ (((s.1 + a, false) : RS).2 = true ∨ 8 * p.L < ((s.1 + a, false) : RS).1 + b) := by
    simp; omega
  rw [e1]
  refine ⟨?_, ?_⟩
  · unfold rdS; rw [if_neg n0, if_neg n2]
    show (s.1 + (a + b), false) = (s.1 + a + b, false)
    rw [Nat.add_assoc]
  · unfold rdV; rw [if_neg n0, if_neg n1, if_neg n2]
    exact bsm_add p s.1 a b
theorem rd_splitO {p : PK} {a b : Nat} {s : RS} : (rdS p b (rdS p a s)).2 = (rdS p (a + b) s).2 := by
  cases e : (rdS p (a + b) s).2
  · rw [← (rd_split e).1, e]
  · by_cases h : s.2 = true
    · exact rdS_stay (rdS_stay h)
    · by_cases h1 : 8 * p.L < s.1 + a
      · have : (rdS p a s).2 = true := by unfold rdS; rw [if_pos (Or.inr h1)]
        exact rdS_stay this
      · have e1 : rdS p a s = (s.1 + a, false) := by
          unfold rdS; rw [if_neg (by intro q; rcases q with q | q; exact h q; exact h1 q)]
        have h2 : 8 * p.L < s.1 + (a + b) := by
          unfold rdS at e
          split at e
          · rename_i q
            rcases q with q | q
            · exact absurd q h
            · exact q
          · cases e
        rw [e1]; unfold rdS; rw [if_pos (Or.inr (by show 8 * p.L < s.1 + a + b; omega))]
theorem sh31 {k : Nat} (h : k < 32) : ((nI k &&& 31).toBitVec.smod 32).toNat = k := by
  have : ∀ j : Fin 32, ((nI j.1 &&& 31).toBitVec.smod 32).toNat = j.1 := by decide +kernel
  exact this ⟨k, h⟩
theorem or_bit {a b k : Nat} (ha : a < 2 ^ k) (hb : b < 2) (hk : k < 20) : nI a ||| nI (b * 2 ^ k) = nI (a + b * 2 ^ k) := by
  have h2 : 2 ^ k ≤ 2 ^ 19 := p2le (by omega)
  have h3 : b * 2 ^ k ≤ 1 * 2 ^ k := Nat.mul_le_mul_right _ (by omega)
  have := or_add (a := b) (b := a) (k := k) ha (by omega) (by omega)
  rw [Nat.add_comm a, ← this]
  exact Int32.or_comm _ _
theorem bZ_0 {b : Bool} : bZ b = 0 ↔ b = false := by cases b <;> decide
theorem bZ_1 {b : Bool} : bZ b = 1 ↔ b = true := by cases b <;> decide
theorem bZ_Z (b : Bool) : isZ (bZ b) := by cases b; exact Or.inl rfl; exact Or.inr rfl
/-- the hand's packet, the hand with its bits at s -/
def HP (θ : TH) (V : VT) (p : PK) : Prop := p.L ≤ 1000 ∧ V (tb θ + 25) 2 = nI p.L ∧ ∀ i, i < p.L → V (tb θ + 26) i = nI (p.oc i) ∧ p.oc i < 256
def MP (θ : TH) (V : VT) (p : PK) : Prop := p.L ≤ 1000 ∧ V (tb θ + 126) 36 = nI p.L ∧ ∀ i, i < p.L → V (tb θ + 149) i = nI (p.oc i) ∧ p.oc i < 256
def cS (θ : TH) (V : VT) (s : RS) : VT := up2 (up2 V (tb θ + 25) 5 (nI s.1)) (tb θ + 25) 6 (bZ s.2)
def mS (θ : TH) (V : VT) (s : RS) : VT := up2 (up2 V (tb θ + 126) 39 (nI s.1)) (tb θ + 126) 40 (bZ s.2)
section BITS
variable {θ : TH} {V : VT} {U : UT} {sw : Bool} {p : PK} {s t : RS}
theorem up2_up2 {α : Type} {f : Nat → Nat → α} {a i : Nat} {x y : α} : up2 (up2 f a i x) a i y = up2 f a i y := by
  funext b j
  by_cases h : b = a
  · subst h
    by_cases e : j = i
    · subst e; rw [up2_aa, up2_aa]
    · rw [up2_ab e, up2_ab e, up2_ab e]
  · rw [up2_ne h, up2_ne h, up2_ne h]
theorem up2_comm {α : Type} {f : Nat → Nat → α} {a b i j : Nat} {x y : α} (h : a ≠ b ∨ i ≠ j) : up2 (up2 f a i x) b j y = up2 (up2 f b j y) a i x := by
  funext c k
  by_cases h1 : c = a
  · subst h1
    by_cases h2 : c = b
    · subst h2
      by_cases h3 : k = i
      · subst h3
        have h4 : k ≠ j := by rcases h with h | h; exact absurd rfl h; exact h
        simp [up2, h4]
      · by_cases h4 : k = j
        · subst h4; simp [up2, h3]
        · simp [up2, h3, h4]
    · simp [up2, h2]
  · by_cases h2 : c = b
    · subst h2; simp [up2, h1]
    · simp [up2, h1, h2]
theorem up2_self {α : Type} {f : Nat → Nat → α} {a i : Nat} {x : α} (h : f a i = x) : up2 f a i x = f := by
  funext c k
  by_cases h1 : c = a
  · subst h1
    by_cases h2 : k = i
    · subst h2; rw [up2_aa, h]
    · rw [up2_ab h2]
  · rw [up2_ne h1]
theorem cS_ne {q : Nat} (h : q ≠ tb θ + 25) : cS θ V s q = V q := by unfold cS; rw [up2_ne h, up2_ne h]
theorem mS_ne {q : Nat} (h : q ≠ tb θ + 126) : mS θ V s q = V q := by unfold mS; rw [up2_ne h, up2_ne h]
theorem cS_j {j : Nat} (h5 : j ≠ 5) (h6 : j ≠ 6) : cS θ V s (tb θ + 25) j = V (tb θ + 25) j := by unfold cS; rw [up2_ab h6, up2_ab h5]
theorem mS_j {j : Nat} (h5 : j ≠ 39) (h6 : j ≠ 40) : mS θ V s (tb θ + 126) j = V (tb θ + 126) j := by unfold mS; rw [up2_ab h6, up2_ab h5]
theorem cS_5 : cS θ V s (tb θ + 25) 5 = nI s.1 := by unfold cS; rw [up2_ab (by decide), up2_aa]
theorem cS_6 : cS θ V s (tb θ + 25) 6 = bZ s.2 := by unfold cS; rw [up2_aa]
theorem mS_39 : mS θ V s (tb θ + 126) 39 = nI s.1 := by unfold mS; rw [up2_ab (by decide), up2_aa]
theorem mS_40 : mS θ V s (tb θ + 126) 40 = bZ s.2 := by unfold mS; rw [up2_aa]
theorem cS_cS : cS θ (cS θ V s) t = cS θ V t := by
  unfold cS
  rw [up2_comm (a := tb θ + 25) (i := 6) (b := tb θ + 25) (j := 5) (Or.inr (by decide)), up2_up2, up2_up2]
theorem mS_mS : mS θ (mS θ V s) t = mS θ V t := by
  unfold mS
  rw [up2_comm (a := tb θ + 126) (i := 40) (b := tb θ + 126) (j := 39) (Or.inr (by decide)), up2_up2, up2_up2]
theorem cS_up {a i : Nat} {x : Int32} (h : a ≠ tb θ + 25) : up2 (cS θ V s) a i x = cS θ (up2 V a i x) s := by
  unfold cS
  rw [up2_comm (Or.inl (Ne.symm h)), up2_comm (Or.inl (Ne.symm h))]
theorem mS_up {a i : Nat} {x : Int32} (h : a ≠ tb θ + 126) : up2 (mS θ V s) a i x = mS θ (up2 V a i x) s := by
  unfold mS
  rw [up2_comm (Or.inl (Ne.symm h)), up2_comm (Or.inl (Ne.symm h))]
theorem mS_upj {i : Nat} {x : Int32} (h5 : i ≠ 39) (h6 : i ≠ 40) : up2 (mS θ V s) (tb θ + 126) i x = mS θ (up2 V (tb θ + 126) i x) s := by
  unfold mS
  rw [up2_comm (Or.inr (Ne.symm h6)), up2_comm (Or.inr (Ne.symm h5))]
theorem HP.up (h : HP θ V p) {a i : Nat} {x : Int32} (h1 : a ≠ tb θ + 25) (h2 : a ≠ tb θ + 26) : HP θ (up2 V a i x) p := by
  unfold HP at h ⊢
  rw [up2_ne (Ne.symm h1), up2_ne (Ne.symm h2)]; exact h
theorem HP.eq {V2 : VT} (h : HP θ V p) (h1 : V2 (tb θ + 25) 2 = V (tb θ + 25) 2) (h2 : V2 (tb θ + 26) = V (tb θ + 26)) : HP θ V2 p := by
  unfold HP at h ⊢
  rw [h1, h2]; exact h
theorem MP.eq {V2 : VT} (h : MP θ V p) (h1 : V2 (tb θ + 126) 36 = V (tb θ + 126) 36) (h2 : V2 (tb θ + 149) = V (tb θ + 149)) : MP θ V2 p := by
  unfold MP at h ⊢
  rw [h1, h2]; exact h
theorem bit_of {oc q : Nat} {x : Int32} (hx : x = nI oc) (h : oc < 256) : (x >>> ((nI q &&& (7 : Int32)) &&& 31)) &&& (1 : Int32) = nI (oc / 2 ^ (q % 8) % 2) := by
  have e7 : nI q &&& (7 : Int32) = nI (q % 8) := by
    have := pk_and (nI q) (m := 7) 3 (by decide)
    rw [this]
    have : (nI q).toBitVec.toNat % 8 = q % 8 := by
      show q % 2 ^ 32 % 8 = q % 8
      omega
    show nI ((nI q).toBitVec.toNat % 8) = _
    rw [this]
  have h8 : q % 8 < 8 := Nat.mod_lt _ (by decide)
  rw [e7, hx, pk_shrN (by omega) _ (q % 8) (sh31 (by omega))]
  have h9 : oc / 2 ^ (q % 8) ≤ oc := Nat.div_le_self _ _
  exact pk_andN (by omega) (m := 1) 1 (by decide)
theorem s_read {K : Int32 → VT → UT → Prop} (hθ : OKt θ) (hU : US θ sw U) (hp : HP θ V p) (hs : s.1 ≤ 8 * p.L) {k : Nat} (hk : k < 20) (h : K (nI (rdV p k s)) (cS θ V (rdS p k s)) U) : wp_H_read θ (tb θ + 25) (nI k) (cS θ V s) U K := by
  obtain ⟨hL, h2, hb⟩ := hp
  unfold wp_H_read
  simp only [IC hθ, true_and]
  rw [cS_6, cS_5, cS_j (by decide) (by decide), h2]
  refine ⟨fun q => ?_, fun q => ?_⟩
  · have hs2 : s.2 = true := by
      cases e : s.2
      · rw [e] at q; exact absurd rfl q
      · rfl
    intro V3 e3
    subst e3
    rw [rdV_out hs2, rdS_out hs2] at h
    rw [up2_self (by rw [cS_6, hs2]; rfl)]
    exact h
  · have hs2 : s.2 = false := bZ_0.1 q
    have e8 : nI p.L * (8 : Int32) - nI s.1 = nI (p.L * 8 - s.1) := by
      rw [show (8 : Int32) = nI 8 from rfl, pk_mul, pk_sub (by omega)]
    rw [e8]
    refine pk_le k (p.L * 8 - s.1) (fun hl => ?_) (fun hl => ?_)
    · have n0 : ¬ (s.2 = true ∨ 8 * p.L < s.1 + k) := by rw [hs2]; simp; omega
      unfold rdV rdS at h
      rw [if_neg n0, if_neg n0] at h
      refine loop2 k (fun j b W => b = nI (bsm p s.1 j) ∧ W = cS θ V (s.1 + j, false)) ⟨rfl, ?_⟩ (fun f j b W hj hJ hgo => ?_) (fun f b W hJ => ?_)
      · show cS θ V s = _
        congr 1
        cases s; cases hs2; rfl
      · obtain ⟨rfl, rfl⟩ := hJ
        show bl_H_read_34 _ _ _ _ _ _ _ _ _
        unfold bl_H_read_34
        simp only [UC hU, IC hθ, true_and, exists_eq_left]
        refine br_f (nI_ge hj (by omega)) ⟨by omega, ?_⟩
        rw [cS_5, cS_ne (by omega)]
        have hq : (s.1 + j) / 8 < p.L := by omega
        have e3 : nI (s.1 + j) >>> ((3 : Int32) &&& 31) = nI ((s.1 + j) / 8) := pk_shrN (by omega) _ 3 (by decide)
        show vp_in (nI (s.1 + j) >>> ((3 : Int32) &&& 31)) 1000 ∧ _
        rw [e3, nI_clamp (by omega)]
        refine ⟨vp_in_nI (by omega) (by decide), fun y hy z hz W2 hW x hx => ?_⟩
        obtain ⟨hb1, hb2⟩ := hb _ hq
        have ey : y = nI (btO p (s.1 + j)) := by
          rw [hy]; exact bit_of hb1 hb2
        have hbt : btO p (s.1 + j) < 2 := Nat.mod_lt _ (by decide)
        have ez : z = nI (bsm p s.1 (j + 1)) := by
          have h22 : btO p (s.1 + j) * 2 ^ j ≤ 1 * 2 ^ 19 := Nat.mul_le_mul (by omega) (p2le (by omega))
          rw [hz, ey, pk_shlN _ j (sh31 (by omega)) (by omega), or_bit (bsm_lt _ _ _) hbt (by omega)]
          rfl
        have eW : W2 = cS θ V (s.1 + (j + 1), false) := by
          rw [hW]
          show up2 (cS θ V (s.1 + j, false)) (tb θ + 25) 5 (nI (s.1 + j) + 1) = _
          rw [nI_1]
          unfold cS
          rw [up2_comm (a := tb θ + 25) (i := 6) (b := tb θ + 25) (j := 5) (Or.inr (by decide)), up2_up2]
          rfl
        rw [ez, eW, hx, nI_1]
        exact hgo _ _ ⟨rfl, rfl⟩
      · obtain ⟨rfl, rfl⟩ := hJ
        show bl_H_read_34 _ _ _ _ _ _ _ _ _
        unfold bl_H_read_34
        exact br_t (nI_le (Nat.le_refl _) (by omega)) h
    · intro V5 e5
      have n0 : s.2 = true ∨ 8 * p.L < s.1 + k := Or.inr (by omega)
      unfold rdV rdS at h
      rw [if_pos n0, if_pos n0] at h
      rw [e5]
      have : up2 (cS θ V s) (tb θ + 25) 6 1 = cS θ V (s.1, true) := by
        unfold cS; rw [up2_up2]; rfl
      rw [this]; exact h
theorem s_flag {K : Int32 → VT → UT → Prop} (hθ : OKt θ) (hU : US θ sw U) (hp : HP θ V p) (hs : s.1 ≤ 8 * p.L) (h : K (nI (rdV p 1 s)) (cS θ V (rdS p 1 s)) U) : wp_H_readFlag θ (tb θ + 25) (cS θ V s) U K := by
  unfold wp_H_readFlag
  simp only [IC hθ, true_and]
  refine s_read hθ hU hp hs (k := 1) (by decide) ?_
  have hl := rdV_lt p 1 s
  have hc : rdV p 1 s = 0 ∨ rdV p 1 s = 1 := by omega
  rcases hc with e | e
  · rw [e] at h ⊢
    exact ⟨fun _ => h, fun q => absurd q (by decide)⟩
  · rw [e] at h ⊢
    exact ⟨fun q => absurd rfl q, fun _ => h⟩
theorem m_read {K : Int32 → VT → UT → Prop} (hθ : OKt θ) (hU : US θ sw U) (hp : MP θ V p) (hs : s.1 ≤ 8 * p.L) {k : Nat} (hk : k < 20) (h : K (nI (rdV p k s)) (mS θ V (rdS p k s)) U) : wp_M_read θ (tb θ + 126) (nI k) (mS θ V s) U K := by
  obtain ⟨hL, h2, hb⟩ := hp
  unfold wp_M_read
  simp only [IM hθ, true_and]
  rw [mS_40, mS_39, mS_j (by decide) (by decide), h2]
  refine ⟨fun q => ?_, fun q => ?_⟩
  · have hs2 : s.2 = true := by
      cases e : s.2
      · rw [e] at q; exact absurd rfl q
      · rfl
    intro V3 e3
    subst e3
    rw [rdV_out hs2, rdS_out hs2] at h
    rw [up2_self (by rw [mS_40, hs2]; rfl)]
    exact h
  · have hs2 : s.2 = false := bZ_0.1 q
    rw [show (8 : Int32) = nI 8 from rfl, pk_mul, nI_add]
    refine pk_le (s.1 + k) (8 * p.L) (fun hl => ?_) (fun hl => ?_)
    · have n0 : ¬ (s.2 = true ∨ 8 * p.L < s.1 + k) := by rw [hs2]; simp; omega
      unfold rdV rdS at h
      rw [if_neg n0, if_neg n0] at h
      refine loop2 k (fun j b W => b = nI (bsm p s.1 j) ∧ W = mS θ V (s.1 + j, false)) ⟨rfl, ?_⟩ (fun f j b W hj hJ hgo => ?_) (fun f b W hJ => ?_)
      · show mS θ V s = _
        congr 1
        cases s; cases hs2; rfl
      · obtain ⟨rfl, rfl⟩ := hJ
        show bl_M_read_34 _ _ _ _ _ _ _ _ _
        unfold bl_M_read_34
        simp only [UM hU, IM hθ, true_and, exists_eq_left]
        refine br_f (nI_ge hj (by omega)) ⟨by omega, ?_⟩
        rw [mS_39, mS_ne (by omega)]
        have hq : (s.1 + j) / 8 < p.L := by omega
        have e3 : nI (s.1 + j) >>> ((3 : Int32) &&& 31) = nI ((s.1 + j) / 8) := pk_shrN (by omega) _ 3 (by decide)
        show vp_in (nI (s.1 + j) >>> ((3 : Int32) &&& 31)) 1000 ∧ _
        rw [e3, nI_clamp (by omega)]
        refine ⟨vp_in_nI (by omega) (by decide), fun z hz W2 hW x hx => ?_⟩
        obtain ⟨hb1, hb2⟩ := hb _ hq
        have hbt : btO p (s.1 + j) < 2 := Nat.mod_lt _ (by decide)
        have ez : z = nI (bsm p s.1 (j + 1)) := by
          have h22 : btO p (s.1 + j) * 2 ^ j ≤ 1 * 2 ^ 19 := Nat.mul_le_mul (by omega) (p2le (by omega))
          rw [hz]
          show nI (bsm p s.1 j) + (((V (tb θ + 149) ((s.1 + j) / 8)) >>> ((nI (s.1 + j) &&& 7) &&& 31)) &&& 1) <<< (nI j &&& 31) = _
          rw [bit_of hb1 hb2]
          show nI (bsm p s.1 j) + nI (btO p (s.1 + j)) <<< (nI j &&& 31) = _
          rw [pk_shlN _ j (sh31 (by omega)) (by omega), nI_add]
          rfl
        have eW : W2 = mS θ V (s.1 + (j + 1), false) := by
          rw [hW]
          show up2 (mS θ V (s.1 + j, false)) (tb θ + 126) 39 (nI (s.1 + j) + 1) = _
          rw [nI_1]
          unfold mS
          rw [up2_comm (a := tb θ + 126) (i := 40) (b := tb θ + 126) (j := 39) (Or.inr (by decide)), up2_up2]
          rfl
        rw [ez, eW, hx, nI_1]
        exact hgo _ _ ⟨rfl, rfl⟩
      · obtain ⟨rfl, rfl⟩ := hJ
        show bl_M_read_34 _ _ _ _ _ _ _ _ _
        unfold bl_M_read_34
        exact br_t (nI_le (Nat.le_refl _) (by omega)) h
    · intro V5 e5
      have n0 : s.2 = true ∨ 8 * p.L < s.1 + k := Or.inr (by omega)
      unfold rdV rdS at h
      rw [if_pos n0, if_pos n0] at h
      rw [e5]
      have : up2 (mS θ V s) (tb θ + 126) 40 1 = mS θ V (s.1, true) := by
        unfold mS; rw [up2_up2]; rfl
      rw [this]; exact h
end BITS
