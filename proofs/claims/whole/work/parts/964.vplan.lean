-- the plan of the values is read
def vq1 (p : PK) (t : RS) : RS := rdS p 2 t
def vq2 (p : PK) (t : RS) : RS := rdS p 5 (vq1 p t)
def vq3 (p : PK) (t : RS) : RS := rdS p 6 (vq2 p t)
def vq4 (p : PK) (t : RS) : RS := rdS p 3 (vq3 p t)
def vq5 (p : PK) (t : RS) : RS := rdS p 1 (vq4 p t)
def vq6 (p : PK) (t : RS) : RS := rdS p 2 (vq5 p t)
def vvm (p : PK) (t : RS) : Nat := rdV p 2 t
def vvb (p : PK) (t : RS) : Nat := rdV p 5 (vq1 p t)
def vve (p : PK) (t : RS) : Nat := rdV p 6 (vq2 p t)
def vvp (p : PK) (t : RS) : Nat := rdV p 3 (vq3 p t) + 1
def vvk (p : PK) (t : RS) : Nat := rdV p 1 (vq4 p t) + 1
def vvK (p : PK) (t : RS) : Nat := rdV p 2 (vq5 p t)
def vtS (p : PK) (hb : Nat → Bool) (t : RS) : Nat → RS
  | 0 => t
  | k + 1 => if hb k = true then rdS p 2 (vtS p hb t k) else vtS p hb t k
def vtB (p : PK) (hb : Nat → Bool) (t : RS) (k : Nat) : Option Nat := if hb k = true then some (rdV p 2 (vtS p hb t k)) else none
def vtO (B ps : Nat) (bk : Nat → BD) (o : Option Nat) : Prop := ∀ m, o = some m → m < B ∧ (bk m).hv = true ∧ ps % (bk m).d = 0
def vvh (p : PK) (t : RS) (k : Nat) : Bool := decide (rdV p (2 * vvk p t) (vq6 p t) / 2 ^ k % 2 = 1)
def vq7 (p : PK) (t : RS) : RS := rdS p (2 * vvk p t) (vq6 p t)
def vvB (p : PK) (t : RS) (k : Nat) : Option Nat := vtB p (vvh p t) (vq7 p t) k
def vq8 (p : PK) (t : RS) : RS := vtS p (vvh p t) (vq7 p t) (2 * vvk p t)
def vvj (p : PK) (t : RS) : Bool := spB p (vq8 p t)
def vq9 (p : PK) (t : RS) : RS := rdS p 1 (vq8 p t)
def VVO (p : PK) (B c : Nat) (bk : Nat → BD) (t : RS) : Prop := vvm p t ≠ 3 ∧ vvb p t ≤ vve p t ∧ vvK p t < B ∧ (∀ k, k < 2 * vvk p t → vtO B (vvp p t) bk (vvB p t k)) ∧ (vvj p t = true → c = 2)
def vvD (p : PK) (t : RS) : VD := (vvm p t, vvb p t, vve p t, vvp p t, vvk p t, vvK p t, vvB p t, vvj p t)
section VPLAN
variable {θ : TH} {V : VT} {U : UT} {sw : Bool} {p : PK} {t : RS} {v B c : Nat} {bk : Nat → BD}
theorem vtS_ok {hb : Nat → Bool} (h : t.1 ≤ 8 * p.L) : ∀ k, (vtS p hb t k).1 ≤ 8 * p.L
  | 0 => h
  | k + 1 => by
    have := vtS_ok (hb := hb) h k
    unfold vtS; split
    · exact rdS_ok 2 this
    · exact this
theorem vtS_stay {hb : Nat → Bool} (h : t.2 = true) : ∀ k, (vtS p hb t k).2 = true
  | 0 => h
  | k + 1 => by
    have := vtS_stay (hb := hb) h k
    unfold vtS; split
    · exact rdS_stay this
    · exact this
theorem vq6_ok (h : t.1 ≤ 8 * p.L) : (vq6 p t).1 ≤ 8 * p.L := rdS_ok _ (rdS_ok _ (rdS_ok _ (rdS_ok _ (rdS_ok _ (rdS_ok _ h)))))
theorem vq7_ok (h : t.1 ≤ 8 * p.L) : (vq7 p t).1 ≤ 8 * p.L := rdS_ok _ (vq6_ok h)
theorem vq8_ok (h : t.1 ≤ 8 * p.L) : (vq8 p t).1 ≤ 8 * p.L := vtS_ok (vq7_ok h) _
theorem vq9_ok (h : t.1 ≤ 8 * p.L) : (vq9 p t).1 ≤ 8 * p.L := rdS_ok _ (vq8_ok h)
theorem vvk_b : 1 ≤ vvk p t ∧ vvk p t ≤ 2 := by
  have := rdV_lt p 1 (vq4 p t); unfold vvk; omega
theorem vvp_b : 1 ≤ vvp p t ∧ vvp p t ≤ 8 := by
  have := rdV_lt p 3 (vq3 p t); unfold vvp; omega
theorem VVO_P (h : VVO p B c bk t) : VPP (vvD p t) B c bk := by
  obtain ⟨h1, h2, h3, h4, h5⟩ := h
  have hm := rdV_lt p 2 t
  have he := rdV_lt p 6 (vq2 p t)
  refine ⟨?_, h2, ?_, vvp_b.1, vvp_b.2, vvk_b.1, vvk_b.2, h3, fun k m hk e => h4 k hk m e, h5⟩
  · show rdV p 2 t ≤ 2
    have : ¬ rdV p 2 t = 3 := h1
    omega
  · show rdV p 6 (vq2 p t) ≤ 63
    omega
theorem vpU (hθ : OKt θ) (hU : US θ sw U) (hv : v = 78 ∨ v = 94) : isO θ (tb θ + v) 10 ∧ U (tb θ + v) 7 = tb θ + (v + 1) ∧ U (tb θ + v) 10 = tb θ + (v + 2) ∧ U (tb θ + v) 11 = tb θ + (v + 3) ∧ U (tb θ + (v + 3)) 0 = tb θ + (v + 4) ∧ U (tb θ + (v + 3)) 1 = tb θ + (v + 5) ∧ (∀ m, isA θ (tb θ + (v + 1)) 0 m ↔ m = 4) ∧ (∀ m, isA θ (tb θ + (v + 2)) 0 m ↔ m = 2) ∧ (∀ m, isR θ (tb θ + (v + 3)) 6 m ↔ m = 2) ∧ (∀ m, isA θ (tb θ + (v + 4)) 0 m ↔ m = 64) ∧ (∀ m, isA θ (tb θ + (v + 5)) 0 m ↔ m = 64) ∧ (∀ m, isR θ (tb θ + 67) 5 m ↔ m = 4) ∧ isO θ (tb θ + 25) 7 := by
  rcases hv with rfl | rfl
  · exact ⟨kO hθ (by decide) rfl, uq hU (by cases sw <;> decide +kernel), uq hU (by cases sw <;> decide +kernel), uq hU (by cases sw <;> decide +kernel), uq hU (by cases sw <;> decide +kernel), uq hU (by cases sw <;> decide +kernel), kA hθ (by decide) rfl, kA hθ (by decide) rfl, kR hθ (by decide) rfl, kA hθ (by decide) rfl, kA hθ (by decide) rfl, kR hθ (by decide) rfl, kO hθ (by decide) rfl⟩
  · exact ⟨kO hθ (by decide) rfl, uq hU (by cases sw <;> decide +kernel), uq hU (by cases sw <;> decide +kernel), uq hU (by cases sw <;> decide +kernel), uq hU (by cases sw <;> decide +kernel), uq hU (by cases sw <;> decide +kernel), kA hθ (by decide) rfl, kA hθ (by decide) rfl, kR hθ (by decide) rfl, kA hθ (by decide) rfl, kA hθ (by decide) rfl, kR hθ (by decide) rfl, kO hθ (by decide) rfl⟩
theorem bit_k {x k : Nat} (hx : x < 2 ^ 31) (hk : k < 32) : ((nI x >>> (nI k &&& 31)) &&& (1 : Int32) = 1) ↔ x / 2 ^ k % 2 = 1 := by
  have h9 : x / 2 ^ k ≤ x := Nat.div_le_self _ _
  rw [pk_shrN hx _ k (sh31 hk), pk_andN (by omega) (m := 1) 1 (by decide)]
  exact nI_eq (b := 1) (by have : x / 2 ^ k % 2 ^ 1 < 2 := Nat.mod_lt _ (by decide)
                           omega) (by decide)
theorem s_vload {K : Int32 → VT → UT → Prop} (hθ : OKt θ) (hU : US θ sw U) (hv : v = 78 ∨ v = 94) (hp : HP θ V p) (ht : t.1 ≤ 8 * p.L) (hB : B ≤ 4) (hc2 : c ≤ 2) (hbk : ∀ k, k < B → BKP (bk k) ∧ BKC θ V k (bk k)) (h : ∀ W t', (∀ q, q ≠ tb θ + v → q ≠ tb θ + (v + 1) → W q = V q) → (VVO p B c bk t → t' = vq9 p t → VPC θ W v c (vvD p t) → K 1 (cS θ W t') U) ∧ (¬ VVO p B c bk t → K 0 (cS θ W t') U)) : wp_P_load θ (tb θ + v) (tb θ + 25) (tb θ + 67) (nI B) (nI c) (cS θ V t) U K := by
  unfold wp_P_load
  simp only [vpU hθ hU hv, true_and]
  intro V2 h2
  rw [cS_up (by omega)] at h2
  subst h2
  have HU : ∀ {W : VT} {j : Nat} {x : Int32}, HP θ W p → HP θ (up2 W (tb θ + v) j x) p := fun hW => hW.up (by omega) (by omega)
  refine s_read hθ hU (HU hp) ht (k := 2) (by decide) (fun V7 h7 => ?_)
  rw [cS_up (by omega)] at h7
  subst h7
  refine s_read hθ hU (HU (HU hp)) (rdS_ok 2 ht) (k := 5) (by decide) (fun V11 h11 => ?_)
  rw [cS_up (by omega)] at h11
  subst h11
  refine s_read hθ hU (HU (HU (HU hp))) (rdS_ok 5 (rdS_ok 2 ht)) (k := 6) (by decide) (fun V15 h15 => ?_)
  rw [cS_up (by omega)] at h15
  subst h15
  refine s_read hθ hU (HU (HU (HU (HU hp)))) (rdS_ok 6 (rdS_ok 5 (rdS_ok 2 ht))) (k := 3) (by decide) (fun V19 h19 => ?_)
  rw [nI_1, cS_up (by omega)] at h19
  subst h19
  refine s_read hθ hU (HU (HU (HU (HU (HU hp))))) (rdS_ok 3 (rdS_ok 6 (rdS_ok 5 (rdS_ok 2 ht)))) (k := 1) (by decide) (fun V23 h23 => ?_)
  rw [nI_1, cS_up (by omega)] at h23
  subst h23
  refine s_read hθ hU (HU (HU (HU (HU (HU (HU hp)))))) (rdS_ok 1 (rdS_ok 3 (rdS_ok 6 (rdS_ok 5 (rdS_ok 2 ht))))) (k := 2) (by decide) (fun V27 h27 => ?_)
  rw [cS_up (by omega)] at h27
  have h27' : V27 = cS θ (up2 (up2 (up2 (up2 (up2 (up2 (up2 V (tb θ + v) 0 (nI c)) (tb θ + v) 1 (nI (vvm p t))) (tb θ + v) 2 (nI (vvb p t))) (tb θ + v) 3 (nI (vve p t))) (tb θ + v) 4 (nI (vvp p t))) (tb θ + v) 5 (nI (vvk p t))) (tb θ + v) 6 (nI (vvK p t))) (vq6 p t) := h27
  clear h27
  subst h27'
  have f1 : ∀ q, q ≠ tb θ + v → up2 (up2 (up2 (up2 (up2 (up2 (up2 V (tb θ + v) 0 (nI c)) (tb θ + v) 1 (nI (vvm p t))) (tb θ + v) 2 (nI (vvb p t))) (tb θ + v) 3 (nI (vve p t))) (tb θ + v) 4 (nI (vvp p t))) (tb θ + v) 5 (nI (vvk p t))) (tb θ + v) 6 (nI (vvK p t)) q = V q := fun q a => by rw [up2_ne a, up2_ne a, up2_ne a, up2_ne a, up2_ne a, up2_ne a, up2_ne a]
  have g : ∃ W0 : VT, W0 = up2 (up2 (up2 (up2 (up2 (up2 (up2 V (tb θ + v) 0 (nI c)) (tb θ + v) 1 (nI (vvm p t))) (tb θ + v) 2 (nI (vvb p t))) (tb θ + v) 3 (nI (vve p t))) (tb θ + v) 4 (nI (vvp p t))) (tb θ + v) 5 (nI (vvk p t))) (tb θ + v) 6 (nI (vvK p t)) := ⟨_, rfl⟩
  obtain ⟨W0, hW0⟩ := g
  rw [← hW0] at f1 ⊢
  have w0 : W0 (tb θ + v) 0 = nI c := by rw [hW0, up2_ab (by decide), up2_ab (by decide), up2_ab (by decide), up2_ab (by decide), up2_ab (by decide), up2_ab (by decide), up2_aa]
  have w1 : W0 (tb θ + v) 1 = nI (vvm p t) := by rw [hW0, up2_ab (by decide), up2_ab (by decide), up2_ab (by decide), up2_ab (by decide), up2_ab (by decide), up2_aa]
  have w2 : W0 (tb θ + v) 2 = nI (vvb p t) := by rw [hW0, up2_ab (by decide), up2_ab (by decide), up2_ab (by decide), up2_ab (by decide), up2_aa]
  have w3 : W0 (tb θ + v) 3 = nI (vve p t) := by rw [hW0, up2_ab (by decide), up2_ab (by decide), up2_ab (by decide), up2_aa]
  have w4 : W0 (tb θ + v) 4 = nI (vvp p t) := by rw [hW0, up2_ab (by decide), up2_ab (by decide), up2_aa]
  have w5 : W0 (tb θ + v) 5 = nI (vvk p t) := by rw [hW0, up2_ab (by decide), up2_aa]
  have w6 : W0 (tb θ + v) 6 = nI (vvK p t) := by rw [hW0, up2_aa]
  clear hW0
  have hp0 : HP θ W0 p := hp.eq (by rw [f1 _ (by omega)]) (f1 _ (by omega))
  have hm := rdV_lt p 2 t
  have hbb := rdV_lt p 5 (vq1 p t)
  have hee := rdV_lt p 6 (vq2 p t)
  have hKK := rdV_lt p 2 (vq5 p t)
  have hk2 := vvk_b (p := p) (t := t)
  have hps := vvp_b (p := p) (t := t)
  have no : ∀ W t', (∀ q, q ≠ tb θ + v → q ≠ tb θ + (v + 1) → W q = V q) → ¬ VVO p B c bk t → K 0 (cS θ W t') U := fun W t' a b => (h W t' a).2 b
  rw [cS_ne (show tb θ + v ≠ tb θ + 25 by omega), w1, w2, w3, w5, w6]
  refine ⟨fun q => no W0 _ (fun q a _ => f1 q a) (fun z => z.1 ((nI_eq (b := 3) (by unfold vvm; omega) (by decide)).1 q)), fun q => pk_lt _ _ (fun q2 => no W0 _ (fun q a _ => f1 q a) (fun z => by have := z.2.1; omega)) (fun q2 => pk_lt _ _ (fun q3 => ?_) (fun q3 => no W0 _ (fun q a _ => f1 q a) (fun z => by have := z.2.2.1; omega)) rfl rfl (by unfold vvK; omega) (by omega)) rfl rfl (by unfold vve; omega) (by unfold vvb; omega)⟩
  have hm3 : vvm p t ≠ 3 := fun z => q (by rw [z]; rfl)
  rw [show (2 : Int32) * nI (vvk p t) = nI (2 * vvk p t) from pk_mul 2 _]
  refine s_read hθ hU hp0 (vq6_ok ht) (k := 2 * vvk p t) (by omega) ?_
  have hhs := rdV_lt p (2 * vvk p t) (vq6 p t)
  have h24 : 2 ^ (2 * vvk p t) ≤ 2 ^ 4 := p2le (by omega)
  refine loop1 (2 * vvk p t) (fun k V1 => ∃ W, V1 = cS θ W (vtS p (vvh p t) (vq7 p t) k) ∧ (∀ q, q ≠ tb θ + (v + 1) → W q = W0 q) ∧ (∀ j, j < k → vtO B (vvp p t) bk (vvB p t j)) ∧ ∀ j, j < k → W (tb θ + (v + 1)) j = nO (vvB p t j)) ⟨W0, rfl, fun _ _ => rfl, fun j hj => (by omega), fun j hj => (by omega)⟩ (fun f k V1 hk hJ hgo => ?_) (fun f V1 hJ => ?_)
  · obtain ⟨W, rfl, g1, g2, g3⟩ := hJ
    have hpW : HP θ W p := hp0.eq (by rw [g1 _ (by omega)]) (g1 _ (by omega))
    have hfr : ∀ q, q ≠ tb θ + v → q ≠ tb θ + (v + 1) → W q = V q := fun q a b => by rw [g1 q b, f1 q a]
    show bl_P_load_109 _ _ _ _ _ _ _ _ _ _ _
    unfold bl_P_load_109
    simp only [vpU hθ hU hv, true_and]
    rw [cS_ne (show tb θ + v ≠ tb θ + 25 by omega), g1 _ (show tb θ + v ≠ tb θ + (v + 1) by omega), w5, show (2 : Int32) * nI (vvk p t) = nI (2 * vvk p t) from pk_mul 2 _, bit_k (by omega) (by omega)]
    refine br_f (nI_ge hk (by omega)) ?_
    have put : ∀ x, x = nO (vvB p t k) → vtO B (vvp p t) bk (vvB p t k) → wb_P_load_167 θ (tb θ + v) (tb θ + 25) (tb θ + 67) (nI B) (nI (rdV p (2 * vvk p t) (vq6 p t))) (nI k) x (wl_P_load_109 θ (tb θ + v) (tb θ + 25) (tb θ + 67) (nI B) (nI (rdV p (2 * vvk p t) (vq6 p t))) K f) K (cS θ W (vtS p (vvh p t) (vq7 p t) (k + 1))) U := by
      intro x hx ho
      subst hx
      unfold wb_P_load_167
      simp only [vpU hθ hU hv, true_and, exists_eq_left]
      refine ⟨by omega, vp_in_nI (by omega) (by decide), fun V65 h65 y hy => ?_⟩
      rw [nI_clamp (by omega), cS_up (by omega)] at h65
      rw [h65, hy, nI_1]
      refine hgo _ ⟨_, rfl, fun q hq => (up2_ne hq).trans (g1 q hq), fun j hj => ?_, fun j hj => ?_⟩
      · by_cases e : j = k
        · subst e; exact ho
        · exact g2 j (by omega)
      · by_cases e : j = k
        · subst e; rw [up2_aa]
        · rw [up2_ab e]; exact g3 j (by omega)
    refine ⟨fun q4 => ?_, fun q4 => ?_⟩
    · have hb : vvh p t k = false := by unfold vvh; simp [q4]
      have eB : vvB p t k = none := by unfold vvB vtB; rw [hb]; rfl
      have eS : vtS p (vvh p t) (vq7 p t) (k + 1) = vtS p (vvh p t) (vq7 p t) k := by
        show (if vvh p t k = true then _ else _) = _; rw [hb]; rfl
      unfold wb_P_load_140
      refine br_f ?_ ⟨fun _ => ?_, fun z => absurd rfl z⟩
      · have : B = 0 ∨ B = 1 ∨ B = 2 ∨ B = 3 ∨ B = 4 := by omega
        rcases this with rfl | rfl | rfl | rfl | rfl <;> decide
      · have := put (-1) (by rw [eB]; rfl) (by rw [eB]; intro m e; cases e)
        rw [eS] at this; exact this
    · have hb : vvh p t k = true := by unfold vvh; simp [q4]
      have eB : vvB p t k = some (rdV p 2 (vtS p (vvh p t) (vq7 p t) k)) := by unfold vvB vtB; rw [hb]; rfl
      have eS : vtS p (vvh p t) (vq7 p t) (k + 1) = rdS p 2 (vtS p (vvh p t) (vq7 p t) k) := by
        show (if vvh p t k = true then _ else _) = _; rw [hb]; rfl
      refine s_read hθ hU hpW (vtS_ok (vq7_ok ht) k) (k := 2) (by decide) ?_
      have hr := rdV_lt p 2 (vtS p (vvh p t) (vq7 p t) k)
      unfold wb_P_load_140
      refine pk_le B _ (fun q5 => no _ _ hfr (fun z => ?_)) (fun q5 => ⟨fun z => absurd z (nI_nm1 (by omega)), fun _ => ?_⟩)
      · have := (z.2.2.2.1 k hk _ eB).1; omega
      · simp only [vpU hθ hU hv, true_and, exists_eq_left]
        rw [nI_clamp (show rdV p 2 (vtS p (vvh p t) (vq7 p t) k) < 2 ^ 31 by omega)]
        obtain ⟨hbp, hbc⟩ := hbk _ q5
        have hbc' : BKC θ W _ (bk (rdV p 2 (vtS p (vvh p t) (vq7 p t) k))) := hbc.eq (hfr _ (by omega) (by omega)) (hfr _ (by omega) (by omega)) (hfr _ (by omega) (by omega))
        obtain ⟨c1, c2, c3, c4, c5, c6⟩ := hbc'
        obtain ⟨b1, b2, b3, b4, _⟩ := hbp
        have hu := bkU (k := rdV p 2 (vtS p (vvh p t) (vq7 p t) k)) hθ hU (by omega)
        refine ⟨vp_in_nI (by omega) (by decide), by rw [hu.2.2.2.2.2.2.2.2.2.1]; omega, ?_⟩
        rw [hu.2.2.2.2.2.2.2.2.2.1]
        unfold wp_P_suits wb_P_suits_23
        simp only [hu, vpU hθ hU hv, true_and]
        rw [cS_ne (show tb θ + (106 + 5 * rdV p 2 (vtS p (vvh p t) (vq7 p t) k)) ≠ tb θ + 25 by omega), c5, c2, cS_ne (show tb θ + v ≠ tb θ + 25 by omega), g1 _ (show tb θ + v ≠ tb θ + (v + 1) by omega), w4]
        refine ⟨fun z => ⟨fun w => absurd trivial w, fun _ => no _ _ hfr (fun w => ?_)⟩, fun z => ⟨nI_ne0 b3 (by omega), ?_⟩⟩
        · have w1 := (w.2.2.2.1 k hk _ eB).2.1
          rw [bZ_0.1 z] at w1; cases w1
        · have hvt : (bk (rdV p 2 (vtS p (vvh p t) (vq7 p t) k))).hv = true := by
            cases e : (bk (rdV p 2 (vtS p (vvh p t) (vq7 p t) k))).hv
            · rw [e] at z; exact absurd rfl z
            · rfl
          have hmod : vvp p t % (bk (rdV p 2 (vtS p (vvh p t) (vq7 p t) k))).d ≤ vvp p t := Nat.mod_le _ _
          rw [pk_rem (by omega) b3 (by omega)]
          have e0 : nI (vvp p t % (bk (rdV p 2 (vtS p (vvh p t) (vq7 p t) k))).d) = 0 ↔ vvp p t % (bk (rdV p 2 (vtS p (vvh p t) (vq7 p t) k))).d = 0 := nI_eq (b := 0) (by omega) (by decide)
          rw [e0]
          refine ⟨fun z2 => ⟨fun w => absurd trivial w, fun _ => no _ _ hfr (fun w => ?_)⟩, fun z2 => ⟨fun _ => ?_, fun w => absurd w (by decide)⟩⟩
          · exact z2 (w.2.2.2.1 k hk _ eB).2.2
          · have := put (nI (rdV p 2 (vtS p (vvh p t) (vq7 p t) k))) (by rw [eB]; rfl) (by rw [eB]; intro m e; cases e; exact ⟨q5, hvt, z2⟩)
            rw [eS] at this; exact this
  · obtain ⟨W, rfl, g1, g2, g3⟩ := hJ
    have hpW : HP θ W p := hp0.eq (by rw [g1 _ (by omega)]) (g1 _ (by omega))
    have hfr : ∀ q, q ≠ tb θ + v → q ≠ tb θ + (v + 1) → W q = V q := fun q a b => by rw [g1 q b, f1 q a]
    show bl_P_load_109 _ _ _ _ _ _ _ _ _ _ _
    unfold bl_P_load_109 wb_P_load_205
    simp only [vpU hθ hU hv, true_and]
    rw [cS_ne (show tb θ + v ≠ tb θ + 25 by omega), g1 _ (show tb θ + v ≠ tb θ + (v + 1) by omega), w5, show (2 : Int32) * nI (vvk p t) = nI (2 * vvk p t) from pk_mul 2 _]
    refine br_t (nI_le (Nat.le_refl _) (by omega)) (s_flag hθ hU hpW (vq8_ok ht) ?_)
    have ez : nI (rdV p 1 (vtS p (vvh p t) (vq7 p t) (2 * vvk p t))) = bZ (vvj p t) := by
      show nI (rdV p 1 (vq8 p t)) = _
      unfold vvj spB
      rcases rdV1 p (vq8 p t) with z | z <;> rw [z] <;> rfl
    rw [ez]
    refine ⟨bZ_Z _, fun V41 h41 => ?_⟩
    rw [cS_up (by omega)] at h41
    subst h41
    rw [cS_ne (show tb θ + v ≠ tb θ + 25 by omega), up2_aa, up2_ab (by decide), g1 _ (show tb θ + v ≠ tb θ + (v + 1) by omega), w0]
    have hfr2 : ∀ q, q ≠ tb θ + v → q ≠ tb θ + (v + 1) → up2 W (tb θ + v) 8 (bZ (vvj p t)) q = V q := fun q a b => by rw [up2_ne a]; exact hfr q a b
    have yes : (vvj p t = true → c = 2) → K 1 (cS θ (up2 W (tb θ + v) 8 (bZ (vvj p t))) (vq9 p t)) U := by
      intro hj
      refine (h _ _ hfr2).1 ⟨hm3, q2, q3, g2, hj⟩ rfl ?_
      have e : ∀ j, j ≠ 8 → up2 W (tb θ + v) 8 (bZ (vvj p t)) (tb θ + v) j = W0 (tb θ + v) j := fun j hj => by rw [up2_ab hj, g1 _ (by omega)]
      refine ⟨?_, ?_, ?_, ?_, ?_, ?_, ?_, fun k hk => ?_, up2_aa⟩
      · rw [e 0 (by decide)]; exact w0
      · rw [e 1 (by decide)]; exact w1
      · rw [e 2 (by decide)]; exact w2
      · rw [e 3 (by decide)]; exact w3
      · rw [e 4 (by decide)]; exact w4
      · rw [e 5 (by decide)]; exact w5
      · rw [e 6 (by decide)]; exact w6
      · rw [up2_ne (by omega)]; exact g3 k hk
    refine ⟨fun z => yes (fun w => by rw [bZ_0.1 z] at w; cases w), fun z => ?_⟩
    have hjt : vvj p t = true := by
      cases e : vvj p t
      · rw [e] at z; exact absurd rfl z
      · rfl
    refine ⟨fun z2 => no _ _ hfr2 (fun w => z2 (by rw [w.2.2.2.2 hjt]; rfl)), fun z2 => yes (fun _ => (nI_eq (b := 2) (by omega) (by decide)).1 z2)⟩
end VPLAN
