-- the lengths of a book's words
def FB (V W : VT) (a lo n : Nat) : Prop := (∀ q, q ≠ a → W q = V q) ∧ ∀ j, (j < lo ∨ lo + n ≤ j) → W a j = V a j
theorem FB.refl {V : VT} {a lo n : Nat} : FB V V a lo n := ⟨fun _ _ => rfl, fun _ _ => rfl⟩
theorem FB.up {V W : VT} {a lo n i : Nat} {x : Int32} (h : FB V W a lo n) (hi : lo ≤ i) (hi2 : i < lo + n) : FB V (up2 W a i x) a lo n := by
  refine ⟨fun q hq => ?_, fun j hj => ?_⟩
  · rw [up2_ne hq]; exact h.1 q hq
  · rw [up2_ab (by omega)]; exact h.2 j hj
theorem FB.trans {V W X : VT} {a lo n : Nat} (h : FB V W a lo n) (g : FB W X a lo n) : FB V X a lo n :=
  ⟨fun q hq => (g.1 q hq).trans (h.1 q hq), fun j hj => (g.2 j hj).trans (h.2 j hj)⟩
def plU (p : PK) (sp : Bool) (s : RS) : Bool := !sp || decide (rdV p 1 s = 1)
def plT (p : PK) (sp : Bool) (s : RS) : RS := if sp = true then rdS p 1 s else s
def plN (p : PK) (sp : Bool) (s : RS) : RS := if plU p sp s = true then rdS p 3 (plT p sp s) else plT p sp s
def plX (p : PK) (sp : Bool) (s : RS) : Nat := if plU p sp s = true then rdV p 3 (plT p sp s) + 1 else 0
def plS (p : PK) (sp : Bool) (s : RS) : Nat → RS
  | 0 => s
  | k + 1 => plN p sp (plS p sp s k)
def spB (p : PK) (s : RS) : Bool := decide (rdV p 1 s = 1)
def plL (p : PK) (s : RS) (e : Nat) : Nat := plX p (spB p s) (plS p (spB p s) (rdS p 1 s) e)
def plE (p : PK) (s : RS) (E : Nat) : RS := plS p (spB p s) (rdS p 1 s) E
def dgt (n : Nat) : Nat := if 8 ≤ n then 4 else if 4 ≤ n then 3 else if 2 ≤ n then 2 else 1
def ordF (p : PK) (E : Nat) : Nat → Nat → RS → (Nat → Nat) → Bool × RS × (Nat → Nat)
  | 0, k, s, ln => (decide (k = E), s, ln)
  | m + 1, k, s, ln => if k < E then (if rdV p (dgt (E - k)) s ≤ E - k then ordF p E m (k + rdV p (dgt (E - k)) s) (rdS p (dgt (E - k)) s) (fun j => if k ≤ j then 8 - m else ln j) else (false, rdS p (dgt (E - k)) s, ln)) else (true, s, ln)
def ordR (p : PK) (E : Nat) (s : RS) : Bool × RS × (Nat → Nat) := ordF p E (8 - rdV p 3 s) 0 (rdS p 3 s) (fun _ => 0)
section LENS
variable {θ : TH} {V : VT} {U : UT} {sw : Bool} {p : PK} {s : RS} {k E : Nat}
theorem plT_ok {sp : Bool} (h : s.1 ≤ 8 * p.L) : (plT p sp s).1 ≤ 8 * p.L := by
  unfold plT; split
  · exact rdS_ok 1 h
  · exact h
theorem plS_ok {sp : Bool} (h : s.1 ≤ 8 * p.L) : ∀ k, (plS p sp s k).1 ≤ 8 * p.L
  | 0 => h
  | k + 1 => by
    have := plS_ok (sp := sp) h k
    show (plN p sp (plS p sp s k)).1 ≤ _
    unfold plN; split
    · exact rdS_ok 3 (plT_ok this)
    · exact plT_ok this
theorem plE_ok (h : s.1 ≤ 8 * p.L) : (plE p s E).1 ≤ 8 * p.L := plS_ok (rdS_ok 1 h) E
theorem plX_le {sp : Bool} : plX p sp s ≤ 8 := by
  unfold plX
  have := rdV_lt p 3 (plT p sp s)
  split <;> omega
theorem rdV1 (p : PK) (s : RS) : rdV p 1 s = 0 ∨ rdV p 1 s = 1 := by
  have := rdV_lt p 1 s; omega
theorem s_lens {K : VT → UT → Prop} (hθ : OKt θ) (hU : US θ sw U) (hp : HP θ V p) (hk : k < 4) (hs : s.1 ≤ 8 * p.L) (hE : E ≤ 8) (hV : V (tb θ + (106 + 5 * k)) 0 = nI E) (h : ∀ W, FB V W (tb θ + (107 + 5 * k)) 0 8 → (∀ e, e < E → W (tb θ + (107 + 5 * k)) e = nI (plL p s e)) → K (cS θ W (plE p s E)) U) : wp_B_readLengths θ (tb θ + (106 + 5 * k)) (tb θ + 25) (cS θ V s) U K := by
  unfold wp_B_readLengths
  simp only [bkU hθ hU hk, true_and]
  refine s_flag hθ hU hp hs ?_
  have hs1 := rdS_ok (p := p) 1 hs
  refine loop1 E (fun e V1 => ∃ W, V1 = cS θ W (plS p (spB p s) (rdS p 1 s) e) ∧ FB V W (tb θ + (107 + 5 * k)) 0 8 ∧ ∀ j, j < e → W (tb θ + (107 + 5 * k)) j = nI (plL p s j)) ⟨V, rfl, FB.refl, fun j hj => (by omega)⟩ (fun f e V1 he hJ hgo => ?_) (fun f V1 hJ => ?_)
  · obtain ⟨W, rfl, hF, hW⟩ := hJ
    have hst := plS_ok (p := p) (sp := spB p s) hs1 e
    have hpW : HP θ W p := hp.eq (by rw [hF.1 _ (by omega)]) (hF.1 _ (by omega))
    show bl_B_readLengths_7 _ _ _ _ _ _ _ _ _
    unfold bl_B_readLengths_7
    unfold wb_B_readLengths_26
    simp only [bkU hθ hU hk, true_and]
    rw [cS_ne (show tb θ + (106 + 5 * k) ≠ tb θ + 25 by omega), hF.1 _ (by omega), hV]
    refine br_f (nI_ge he (by omega)) ?_
    have fin : ∀ t, t.1 ≤ 8 * p.L → plT p (spB p s) (plS p (spB p s) (rdS p 1 s) e) = t → plU p (spB p s) (plS p (spB p s) (rdS p 1 s) e) = true → wb_B_readLengths_31 θ (tb θ + (106 + 5 * k)) (tb θ + 25) (nI (rdV p 1 s)) (nI e) (1 : Int32) (wl_B_readLengths_7 θ (tb θ + (106 + 5 * k)) (tb θ + 25) (nI (rdV p 1 s)) K f) K (cS θ W t) U := by
      intro t ht e1 e2
      unfold wb_B_readLengths_31
      simp only [bkU hθ hU hk, true_and, exists_eq_left]
      refine ⟨by omega, fun q => absurd q (by decide), fun _ => ?_⟩
      refine s_read hθ hU hpW ht (k := 3) (by decide) ⟨vp_in_nI (by omega) (by decide), fun V2 h2 y hy => ?_⟩
      rw [h2, hy, nI_clamp (by omega), cS_up (by omega), nI_1, nI_1]
      refine hgo _ ⟨_, congrArg (cS θ _) ?_, hF.up (i := e) (by omega) (by omega), fun j hj => ?_⟩
      · show _ = plN p _ _
        unfold plN
        rw [if_pos e2, e1]
      · by_cases z : j = e
        · subst z
          rw [up2_aa]
          unfold plL plX
          rw [if_pos e2, e1]
        · rw [up2_ab z]; exact hW j (by omega)
    have fin0 : ∀ t, plT p (spB p s) (plS p (spB p s) (rdS p 1 s) e) = t → plU p (spB p s) (plS p (spB p s) (rdS p 1 s) e) = false → wb_B_readLengths_31 θ (tb θ + (106 + 5 * k)) (tb θ + 25) (nI (rdV p 1 s)) (nI e) (0 : Int32) (wl_B_readLengths_7 θ (tb θ + (106 + 5 * k)) (tb θ + 25) (nI (rdV p 1 s)) K f) K (cS θ W t) U := by
      intro t e1 e2
      unfold wb_B_readLengths_31
      simp only [bkU hθ hU hk, true_and, exists_eq_left]
      refine ⟨by omega, fun _ => ⟨vp_in_nI (by omega) (by decide), fun V2 h2 y hy => ?_⟩, fun q => absurd trivial q⟩
      rw [h2, hy, nI_clamp (by omega), cS_up (by omega), nI_1]
      refine hgo _ ⟨_, congrArg (cS θ _) ?_, hF.up (i := e) (by omega) (by omega), fun j hj => ?_⟩
      · show _ = plN p _ _
        unfold plN
        rw [if_neg (by rw [e2]; decide), e1]
      · by_cases z : j = e
        · subst z
          rw [up2_aa]
          unfold plL plX
          rw [if_neg (by rw [e2]; decide)]; rfl
        · rw [up2_ab z]; exact hW j (by omega)
    rcases rdV1 p s with z | z
    · have hsp : spB p s = false := by simp [spB, z]
      refine ⟨fun _ => fin _ hst (by simp [plT, hsp]) (by simp [plU, hsp]), fun q => absurd (by rw [z]; rfl) q⟩
    · have hsp : spB p s = true := by simp [spB, z]
      refine ⟨fun q => absurd q (by rw [z]; decide), fun _ => s_flag hθ hU hpW hst ?_⟩
      rcases rdV1 p (plS p (spB p s) (rdS p 1 s) e) with y | y
      · rw [y]
        exact ⟨fun _ => fin0 _ (by simp [plT, hsp]) (by rw [hsp] at y; simp [plU, hsp, y]), fun q => absurd rfl q⟩
      · rw [y]
        exact ⟨fun q => absurd q (by decide), fun _ => fin _ (rdS_ok 1 hst) (by simp [plT, hsp]) (by rw [hsp] at y; simp [plU, hsp, y])⟩
  · obtain ⟨W, rfl, hF, hW⟩ := hJ
    show bl_B_readLengths_7 _ _ _ _ _ _ _ _ _
    unfold bl_B_readLengths_7
    simp only [bkU hθ hU hk, true_and]
    rw [cS_ne (show tb θ + (106 + 5 * k) ≠ tb θ + 25 by omega), hF.1 _ (by omega), hV]
    exact br_t (nI_le (Nat.le_refl _) (by omega)) (h W hF hW)
theorem m_lens {K : Int32 → VT → UT → Prop} (hθ : OKt θ) (hU : US θ sw U) (hp : MP θ V p) (hk : k < 4) (hs : s.1 ≤ 8 * p.L) (hE : E ≤ 8) (h : ∀ W, FB V W (tb θ + 152) (8 * k) 8 → (∀ e, e < E → W (tb θ + 152) (8 * k + e) = nI (plL p s e)) → K 1 (mS θ W (plE p s E)) U) : wp_M_plainLengths θ (tb θ + 126) (nI (8 * k)) (nI E) (mS θ V s) U K := by
  unfold wp_M_plainLengths
  simp only [IM hθ, true_and]
  refine m_read hθ hU hp hs (k := 1) (by decide) ?_
  have hs1 := rdS_ok (p := p) 1 hs
  have main : ∀ x : Int32, x = nI (rdV p 1 s) → ∃ n, wl_M_plainLengths_18 θ (tb θ + 126) (nI (8 * k)) (nI E) x K n (0 : Int32) (mS θ V (rdS p 1 s)) U := by
    intro x hx
    subst hx
    refine loop1 E (fun e V1 => ∃ W, V1 = mS θ W (plS p (spB p s) (rdS p 1 s) e) ∧ FB V W (tb θ + 152) (8 * k) 8 ∧ ∀ j, j < e → W (tb θ + 152) (8 * k + j) = nI (plL p s j)) ⟨V, rfl, FB.refl, fun j hj => (by omega)⟩ (fun f e V1 he hJ hgo => ?_) (fun f V1 hJ => ?_)
    · obtain ⟨W, rfl, hF, hW⟩ := hJ
      have hst := plS_ok (p := p) (sp := spB p s) hs1 e
      have hpW : MP θ W p := hp.eq (by rw [hF.1 _ (by omega)]) (hF.1 _ (by omega))
      show bl_M_plainLengths_18 _ _ _ _ _ _ _ _ _ _
      unfold bl_M_plainLengths_18
      unfold wb_M_plainLengths_37
      simp only [UM hU, IM hθ, true_and]
      refine br_f (nI_ge he (by omega)) ?_
      have fin : ∀ t, t.1 ≤ 8 * p.L → plT p (spB p s) (plS p (spB p s) (rdS p 1 s) e) = t → plU p (spB p s) (plS p (spB p s) (rdS p 1 s) e) = true → wb_M_plainLengths_42 θ (tb θ + 126) (nI (8 * k)) (nI E) (nI (rdV p 1 s)) (nI e) (1 : Int32) (wl_M_plainLengths_18 θ (tb θ + 126) (nI (8 * k)) (nI E) (nI (rdV p 1 s)) K f) K (mS θ W t) U := by
        intro t ht e1 e2
        unfold wb_M_plainLengths_42
        simp only [UM hU, IM hθ, true_and, exists_eq_left, nI_add]
        refine ⟨by omega, fun q => absurd q (by decide), fun _ => ?_⟩
        refine m_read hθ hU hpW ht (k := 3) (by decide) ⟨vp_in_nI (by omega) (by decide), fun V2 h2 y hy => ?_⟩
        rw [h2, hy, nI_clamp (by omega), mS_up (by omega), nI_1, nI_1]
        refine hgo _ ⟨_, congrArg (mS θ _) ?_, hF.up (i := 8 * k + e) (by omega) (by omega), fun j hj => ?_⟩
        · show _ = plN p _ _
          unfold plN
          rw [if_pos e2, e1]
        · by_cases z : j = e
          · subst z
            rw [up2_aa]
            unfold plL plX
            rw [if_pos e2, e1]
          · rw [up2_ab (by omega)]; exact hW j (by omega)
      have fin0 : ∀ t, plT p (spB p s) (plS p (spB p s) (rdS p 1 s) e) = t → plU p (spB p s) (plS p (spB p s) (rdS p 1 s) e) = false → wb_M_plainLengths_42 θ (tb θ + 126) (nI (8 * k)) (nI E) (nI (rdV p 1 s)) (nI e) (0 : Int32) (wl_M_plainLengths_18 θ (tb θ + 126) (nI (8 * k)) (nI E) (nI (rdV p 1 s)) K f) K (mS θ W t) U := by
        intro t e1 e2
        unfold wb_M_plainLengths_42
        simp only [UM hU, IM hθ, true_and, exists_eq_left, nI_add]
        refine ⟨by omega, fun _ => ⟨vp_in_nI (by omega) (by decide), fun V2 h2 y hy => ?_⟩, fun q => absurd trivial q⟩
        rw [h2, hy, nI_clamp (by omega), mS_up (by omega), nI_1]
        refine hgo _ ⟨_, congrArg (mS θ _) ?_, hF.up (i := 8 * k + e) (by omega) (by omega), fun j hj => ?_⟩
        · show _ = plN p _ _
          unfold plN
          rw [if_neg (by rw [e2]; decide), e1]
        · by_cases z : j = e
          · subst z
            rw [up2_aa]
            unfold plL plX
            rw [if_neg (by rw [e2]; decide)]; rfl
          · rw [up2_ab (by omega)]; exact hW j (by omega)
      rcases rdV1 p s with z | z
      · have hsp : spB p s = false := by simp [spB, z]
        refine ⟨fun _ => fin _ hst (by simp [plT, hsp]) (by simp [plU, hsp]), fun q => absurd (by rw [z]; rfl) q⟩
      · have hsp : spB p s = true := by simp [spB, z]
        refine ⟨fun q => absurd q (by rw [z]; decide), fun _ => m_read hθ hU hpW hst (k := 1) (by decide) ?_⟩
        rcases rdV1 p (plS p (spB p s) (rdS p 1 s) e) with y | y
        · rw [y]
          exact ⟨fun _ => fin0 _ (by simp [plT, hsp]) (by rw [hsp] at y; simp [plU, hsp, y]), fun q => absurd q (by decide)⟩
        · rw [y]
          exact ⟨fun q => absurd rfl q, fun _ => fin _ (rdS_ok 1 hst) (by simp [plT, hsp]) (by rw [hsp] at y; simp [plU, hsp, y])⟩
    · obtain ⟨W, rfl, hF, hW⟩ := hJ
      show bl_M_plainLengths_18 _ _ _ _ _ _ _ _ _ _
      unfold bl_M_plainLengths_18
      exact br_t (nI_le (Nat.le_refl _) (by omega)) (h W hF hW)
  rcases rdV1 p s with z | z
  · exact ⟨fun _ => main 0 (by rw [z]; rfl), fun q => absurd q (by rw [z]; decide)⟩
  · exact ⟨fun q => absurd (by rw [z]; rfl) q, fun _ => main 1 (by rw [z]; rfl)⟩
end LENS
