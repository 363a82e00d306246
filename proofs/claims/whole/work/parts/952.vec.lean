-- the vectors of a book
def itS (p : PK) (w : Nat) (s : RS) : Nat → RS
  | 0 => s
  | k + 1 => rdS p w (itS p w s k)
def rtE (E d : Nat) : Nat := if d = 1 then E else if d = 2 then (if 4 ≤ E then 2 else 1) else if d = 3 then (if 8 ≤ E then 2 else 1) else 1
def cmV (mn st : Int32) (sm : Bool) (nm : Nat → Int32) : Nat → Int32
  | 0 => (mn + st * nm 0) + 0
  | i + 1 => (mn + st * nm (i + 1)) + (if sm = true then cmV mn st sm nm i else 0)
def vK (p : PK) (s : RS) : Nat := rdV p 2 s
def vs1 (p : PK) (s : RS) : RS := rdS p 2 s
def vs2 (p : PK) (s : RS) : RS := rdS p 4 (vs1 p s)
def vs3 (p : PK) (s : RS) : RS := rdS p 3 (vs2 p s)
def vs4 (p : PK) (s : RS) : RS := rdS p 1 (vs3 p s)
def vs5 (p : PK) (s : RS) : RS := rdS p 2 (vs4 p s)
def vW (p : PK) (s : RS) : Nat := rdV p 2 (vs4 p s) + 1
def vNum (p : PK) (s : RS) (j : Nat) : Nat := rdV p (vW p s) (itS p (vW p s) (vs5 p s) j)
def vAll (p : PK) (E d : Nat) (s : RS) : Nat := if vK p s = 1 then rtE E d else E * d
def vWh (p : PK) (E d : Nat) (s : RS) (e i : Nat) : Nat := if vK p s = 1 then e / rtE E d ^ i % rtE E d else e * d + i
def vMn (p : PK) (s : RS) : Int32 := nI (rdV p 4 (vs1 p s)) - 8
def vecC (p : PK) (E d : Nat) (s : RS) (e i : Nat) : Int32 := cmV (vMn p s) (nI (rdV p 3 (vs2 p s))) (spB p (vs3 p s)) (fun i => nI (vNum p s (vWh p E d s e i))) i
def vecS (p : PK) (E d : Nat) (s : RS) : RS := if vK p s = 0 ∨ vK p s = 3 then vs1 p s else itS p (vW p s) (vs5 p s) (vAll p E d s)
def vecH (p : PK) (s : RS) : Bool := !decide (vK p s = 0)
def vecO (p : PK) (s : RS) : Bool := !decide (vK p s = 3)
section VEC
variable {θ : TH} {V : VT} {U : UT} {sw : Bool} {p : PK} {s : RS} {k E d : Nat}
theorem itS_ok {w : Nat} (h : s.1 ≤ 8 * p.L) : ∀ k, (itS p w s k).1 ≤ 8 * p.L
  | 0 => h
  | k + 1 => rdS_ok w (itS_ok h k)
theorem vs5_ok (h : s.1 ≤ 8 * p.L) : (vs5 p s).1 ≤ 8 * p.L := rdS_ok _ (rdS_ok _ (rdS_ok _ (rdS_ok _ (rdS_ok _ h))))
theorem vecS_ok (h : s.1 ≤ 8 * p.L) : (vecS p E d s).1 ≤ 8 * p.L := by
  unfold vecS; split
  · exact rdS_ok _ h
  · exact itS_ok (vs5_ok h) _
theorem rtE_is (h1 : 1 ≤ E) (h8 : E ≤ 8) (d1 : 1 ≤ d) (d4 : d ≤ 4) : 1 ≤ rtE E d ∧ rtE E d ≤ 8 ∧ rtE E d ^ d ≤ E ∧ E < (rtE E d + 1) ^ d := by
  have : ∀ E : Fin 9, ∀ d : Fin 5, 1 ≤ E.1 → 1 ≤ d.1 → 1 ≤ rtE E.1 d.1 ∧ rtE E.1 d.1 ≤ 8 ∧ rtE E.1 d.1 ^ d.1 ≤ E.1 ∧ E.1 < (rtE E.1 d.1 + 1) ^ d.1 := by decide +kernel
  exact this ⟨E, by omega⟩ ⟨d, by omega⟩ h1 d1
theorem rtE_uq {r : Nat} (h1 : 1 ≤ E) (h8 : E ≤ 8) (d1 : 1 ≤ d) (d4 : d ≤ 4) (a : r ^ d ≤ E) (b : E < (r + 1) ^ d) : r = rtE E d := by
  obtain ⟨c1, c2, c3, c4⟩ := rtE_is h1 h8 d1 d4
  rcases Nat.lt_trichotomy r (rtE E d) with q | q | q
  · have := Nat.pow_le_pow_left (show r + 1 ≤ rtE E d from q) d; omega
  · exact q
  · have := Nat.pow_le_pow_left (show rtE E d + 1 ≤ r from q) d; omega
theorem pw_le {r i : Nat} (hr : r ≤ 9) (hi : i ≤ 4) : r ^ i ≤ 6561 :=
  Nat.le_trans (Nat.pow_le_pow_left hr i) (Nat.pow_le_pow_right (by decide) hi)
theorem pw_self {r d : Nat} (hd : 1 ≤ d) (hr : 1 ≤ r) : r ≤ r ^ d := by
  have := Nat.pow_le_pow_right hr hd
  rw [Nat.pow_one] at this; exact this
theorem s_root {K : Int32 → VT → UT → Prop} (hθ : OKt θ) (hU : US θ sw U) (hk : k < 4) (h1 : 1 ≤ E) (h8 : E ≤ 8) (d1 : 1 ≤ d) (d4 : d ≤ 4) (hV0 : V (tb θ + (106 + 5 * k)) 0 = nI E) (hV1 : V (tb θ + (106 + 5 * k)) 1 = nI d) (h : K (nI (rtE E d)) (cS θ V s) U) : wp_B_rootOfEntries θ (tb θ + (106 + 5 * k)) (cS θ V s) U K := by
  have key : ∀ n q root, q + n = E + 1 → 1 ≤ root → root < q → root ^ d ≤ E → (∀ z, root < z → z < q → E < z ^ d) → wl_B_rootOfEntries_4 θ (tb θ + (106 + 5 * k)) K (n + 1) (nI root) (nI q) (cS θ V s) U := by
    intro n
    induction n with
    | zero =>
      intro q root hq r1 rq hr hz
      show bl_B_rootOfEntries_4 _ _ _ _ _ _ _ _
      unfold bl_B_rootOfEntries_4
      simp only [bkU hθ hU hk, true_and]
      rw [cS_ne (by omega), hV0]
      refine br_t (nI_lt (by omega) (by omega)) ?_
      have : root = rtE E d := by
        refine rtE_uq h1 h8 d1 d4 hr ?_
        by_cases z : root + 1 < q
        · exact hz _ (by omega) z
        · have := pw_self (r := root + 1) d1 (by omega); omega
      rw [this]; exact h
    | succ n ih =>
      intro q root hq r1 rq hr hz
      show bl_B_rootOfEntries_4 _ _ _ _ _ _ _ _
      unfold bl_B_rootOfEntries_4
      simp only [bkU hθ hU hk, true_and]
      rw [cS_ne (by omega), hV0]
      refine br_f (nI_nlt (by omega) (by omega)) ?_
      refine loop2 d (fun i b V1 => b = nI (q ^ i) ∧ V1 = cS θ V s) ⟨by rw [Nat.pow_zero]; rfl, rfl⟩ (fun f i b V1 hi hJ hgo => ?_) (fun f b V1 hJ => ?_)
      · obtain ⟨rfl, rfl⟩ := hJ
        show bl_B_rootOfEntries_17 _ _ _ _ _ _ _ _ _ _ _
        unfold bl_B_rootOfEntries_17
        simp only [bkU hθ hU hk, true_and]
        rw [cS_ne (by omega), hV0, hV1]
        refine br_f (nI_ge hi (by omega)) (fun y hy z hz => ?_)
        rw [hy, hz, pk_mul, nI_1]
        exact hgo _ _ ⟨rfl, rfl⟩
      · obtain ⟨rfl, rfl⟩ := hJ
        show bl_B_rootOfEntries_17 _ _ _ _ _ _ _ _ _ _ _
        unfold bl_B_rootOfEntries_17
        simp only [bkU hθ hU hk, true_and]
        rw [cS_ne (by omega), hV0, hV1]
        have := pw_le (r := q) (i := d) (by omega) d4
        refine br_t (nI_le (Nat.le_refl _) (by omega)) (pk_lt E (q ^ d) (fun hl y hy => ?_) (fun hl y hy => ?_))
        · rw [hy, nI_1]
          refine ih (q + 1) root (by omega) r1 (by omega) hr (fun z z1 z2 => ?_)
          by_cases e : z = q
          · subst e; exact hl
          · exact hz z z1 (by omega)
        · rw [hy, nI_1]
          exact ih (q + 1) q (by omega) (by omega) (by omega) hl (fun z z1 z2 => by omega)
  exact ⟨_, key (E - 1) 2 1 (by omega) (by omega) (by omega) (by rw [Nat.one_pow]; exact h1) (fun z z1 z2 => by omega)⟩
theorem cell_div {e i : Nat} (hi : i < d) : (e * d + i) / d = e ∧ (e * d + i) % d = i := by
  rw [Nat.mul_comm]
  constructor
  · rw [Nat.mul_add_div (by omega), Nat.div_eq_of_lt hi]; rfl
  · rw [Nat.mul_add_mod, Nat.mod_eq_of_lt hi]
theorem cell_lt {e i : Nat} (he : e < E) (hi : i < d) : e * d + i < E * d := by
  have := Nat.mul_le_mul_right d (show e + 1 ≤ E from he)
  rw [Nat.add_mul, Nat.one_mul] at this; omega
theorem vWh_lt {e i : Nat} (h1 : 1 ≤ E) (h8 : E ≤ 8) (d1 : 1 ≤ d) (d4 : d ≤ 4) (he : e < E) (hi : i < d) : vWh p E d s e i < vAll p E d s := by
  unfold vWh vAll
  split
  · exact Nat.mod_lt _ (rtE_is h1 h8 d1 d4).1
  · exact cell_lt he hi
theorem vAll_le (h1 : 1 ≤ E) (h8 : E ≤ 8) (d1 : 1 ≤ d) (d4 : d ≤ 4) : vAll p E d s ≤ 32 := by
  unfold vAll
  split
  · have := (rtE_is h1 h8 d1 d4).2.1; omega
  · have := Nat.mul_le_mul h8 d4; omega
theorem s_vec {K : Int32 → VT → UT → Prop} (hθ : OKt θ) (hU : US θ sw U) (hp : HP θ V p) (hk : k < 4) (hs : s.1 ≤ 8 * p.L) (h1 : 1 ≤ E) (h8 : E ≤ 8) (d1 : 1 ≤ d) (d4 : d ≤ 4) (hV0 : V (tb θ + (106 + 5 * k)) 0 = nI E) (hV1 : V (tb θ + (106 + 5 * k)) 1 = nI d) (h : ∀ W, (∀ q, q ≠ tb θ + (106 + 5 * k) → q ≠ tb θ + (109 + 5 * k) → q ≠ tb θ + (110 + 5 * k) → W q = V q) → (∀ j, j ≠ 5 → W (tb θ + (106 + 5 * k)) j = V (tb θ + (106 + 5 * k)) j) → W (tb θ + (106 + 5 * k)) 5 = bZ (vecH p s) → (vecH p s = true → vecO p s = true → ∀ e i, e < E → i < d → W (tb θ + (110 + 5 * k)) (e * d + i) = vecC p E d s e i) → K (bZ (vecO p s)) (cS θ W (vecS p E d s)) U) : wp_B_readVectors θ (tb θ + (106 + 5 * k)) (tb θ + 25) (cS θ V s) U K := by
  unfold wp_B_readVectors
  simp only [bkU hθ hU hk, true_and]
  refine s_read hθ hU hp hs (k := 2) (by decide) ?_
  have hk4 := rdV_lt p 2 s
  have hs1 := rdS_ok (p := p) 2 hs
  obtain ⟨r1, r8, r2, r3⟩ := rtE_is h1 h8 d1 d4
  have main : ∀ z, z = bZ (vecH p s) → wb_B_readVectors_16 θ (tb θ + (106 + 5 * k)) (tb θ + 25) (nI (rdV p 2 s)) z (tb θ + (106 + 5 * k)) K (cS θ V (rdS p 2 s)) U := by
    intro z hz
    subst hz
    unfold wb_B_readVectors_16 wb_B_readVectors_28
    simp only [bkU hθ hU hk, true_and]
    refine ⟨bZ_Z _, fun V8 h8' => ?_⟩
    rw [cS_up (by omega)] at h8'
    have f1 : ∀ q, q ≠ tb θ + (106 + 5 * k) → up2 V (tb θ + (106 + 5 * k)) 5 (bZ (vecH p s)) q = V q := fun q hq => up2_ne hq
    have f2 : ∀ j, j ≠ 5 → up2 V (tb θ + (106 + 5 * k)) 5 (bZ (vecH p s)) (tb θ + (106 + 5 * k)) j = V (tb θ + (106 + 5 * k)) j := fun j hj => up2_ab hj
    have f3 : up2 V (tb θ + (106 + 5 * k)) 5 (bZ (vecH p s)) (tb θ + (106 + 5 * k)) 5 = bZ (vecH p s) := up2_aa
    generalize up2 V (tb θ + (106 + 5 * k)) 5 (bZ (vecH p s)) = W0 at f1 f2 f3 h8'
    have hp0 : HP θ W0 p := hp.eq (by rw [f1 _ (by omega)]) (f1 _ (by omega))
    have hW0 : W0 (tb θ + (106 + 5 * k)) 0 = nI E := by rw [f2 0 (by decide)]; exact hV0
    have hW1 : W0 (tb θ + (106 + 5 * k)) 1 = nI d := by rw [f2 1 (by decide)]; exact hV1
    rw [h8']
    have hcase : rdV p 2 s = 0 ∨ rdV p 2 s = 3 ∨ (rdV p 2 s = 1 ∨ rdV p 2 s = 2) := by omega
    rcases hcase with z | z | z
    · have o : vecO p s = true := by simp [vecO, vK, z]
      have hh : vecH p s = false := by simp [vecH, vK, z]
      have hS : vecS p E d s = rdS p 2 s := by unfold vecS vK; rw [if_pos (Or.inl z)]; rfl
      rw [hS, o] at h
      refine ⟨fun _ => ⟨fun q => absurd (by rw [z]; rfl) q, fun _ => h W0 (fun q a _ _ => f1 q a) f2 f3 (fun q => by rw [hh] at q; cases q)⟩, fun q => absurd (by rw [z]; rfl) q⟩
    · have o : vecO p s = false := by simp [vecO, vK, z]
      have hS : vecS p E d s = rdS p 2 s := by unfold vecS vK; rw [if_pos (Or.inr z)]; rfl
      rw [hS, o] at h
      have hr := h W0 (fun q a _ _ => f1 q a) f2 f3 (fun _ q => by cases q)
      refine ⟨fun q => absurd q (by rw [z]; decide), fun _ => ⟨fun q => absurd (by rw [z]; rfl) q, fun _ => ⟨fun _ => hr, fun q => absurd q (by rw [z]; decide)⟩⟩⟩
    · have o3 : ¬ vK p s = 3 := by unfold vK; omega
      have o : vecO p s = true := by simp [vecO, o3]
      have hS : vecS p E d s = itS p (vW p s) (vs5 p s) (vAll p E d s) := by
        unfold vecS; rw [if_neg (by unfold vK; omega)]
      rw [hS, o] at h
      refine ⟨fun q => ?_, fun _ => ⟨fun _ => ?_, fun q => ?_⟩⟩
      · rcases z with z | z
        · exact absurd q (by rw [z]; decide)
        · exact absurd q (by rw [z]; decide)
      · refine s_read hθ hU hp0 hs1 (k := 4) (by decide) ?_
        intro y hy
        refine s_read hθ hU hp0 (rdS_ok 4 hs1) (k := 3) (by decide) ?_
        refine s_flag hθ hU hp0 (rdS_ok 3 (rdS_ok 4 hs1)) ?_
        refine s_read hθ hU hp0 (rdS_ok 1 (rdS_ok 3 (rdS_ok 4 hs1))) (k := 2) (by decide) ?_
        intro w hw
        rw [nI_1] at hw
        subst hw
        refine s_root hθ hU hk h1 h8 d1 d4 hW0 hW1 ?_
        have hW4 := rdV_lt p 2 (vs4 p s)
        -- the components
        have comps : ∀ W, (∀ q, q ≠ tb θ + (109 + 5 * k) → W q = W0 q) → (∀ j, j < vAll p E d s → W (tb θ + (109 + 5 * k)) j = nI (vNum p s j)) → ∃ n, wl_B_readVectors_128 θ (tb θ + (106 + 5 * k)) (nI (rdV p 2 s)) y (nI (rdV p 3 (rdS p 4 (rdS p 2 s)))) (nI (rdV p 1 (rdS p 3 (rdS p 4 (rdS p 2 s))))) (nI (rtE E d)) K n (0 : Int32) (cS θ W (itS p (vW p s) (vs5 p s) (vAll p E d s))) U := by
          intro W g1 g2
          refine loop1 E (fun e V1 => ∃ X, V1 = cS θ X (itS p (vW p s) (vs5 p s) (vAll p E d s)) ∧ (∀ q, q ≠ tb θ + (110 + 5 * k) → X q = W q) ∧ ∀ c, c < e * d → X (tb θ + (110 + 5 * k)) c = vecC p E d s (c / d) (c % d)) ⟨W, rfl, fun _ _ => rfl, fun c hc => (by omega)⟩ (fun f e V1 he hJ hgo => ?_) (fun f V1 hJ => ?_)
          · obtain ⟨X, rfl, hX, hC⟩ := hJ
            show bl_B_readVectors_128 _ _ _ _ _ _ _ _ _ _ _ _
            unfold bl_B_readVectors_128
            simp only [bkU hθ hU hk, true_and]
            rw [cS_ne (by omega), hX _ (by omega), g1 _ (by omega), hW0]
            refine br_f (nI_ge he (by omega)) ?_
            refine loop2 d (fun i b V1 => b = nI (rtE E d ^ i) ∧ ∃ Y, V1 = cS θ Y (itS p (vW p s) (vs5 p s) (vAll p E d s)) ∧ (∀ q, q ≠ tb θ + (110 + 5 * k) → Y q = W q) ∧ ∀ c, c < e * d + i → Y (tb θ + (110 + 5 * k)) c = vecC p E d s (c / d) (c % d)) ⟨by rw [Nat.pow_zero]; rfl, X, rfl, hX, hC⟩ (fun f2 i b V1 hi hJ hgo2 => ?_) (fun f2 b V1 hJ => ?_)
            · obtain ⟨rfl, Y, rfl, hY, hD⟩ := hJ
              show bl_B_readVectors_143 _ _ _ _ _ _ _ _ _ _ _ _ _ _ _
              unfold bl_B_readVectors_143
              simp only [bkU hθ hU hk, true_and]
              rw [cS_ne (by omega), hY _ (by omega), g1 _ (by omega), hW1]
              refine br_f (nI_ge hi (by omega)) (fun c hc => ?_)
              rw [pk_mul, nI_add] at hc
              have hcl := cell_lt (E := E) (d := d) he hi
              have hEd := Nat.mul_le_mul h8 d4
              have hwl := vWh_lt (p := p) (s := s) h1 h8 d1 d4 he hi
              have hal := vAll_le (p := p) (s := s) h1 h8 d1 d4
              obtain ⟨cd1, cd2⟩ := cell_div (e := e) hi
              -- put one component
              have put : ∀ bf : Int32, vecC p E d s e i = (vMn p s + nI (rdV p 3 (vs2 p s)) * nI (vNum p s (vWh p E d s e i))) + bf → wb_B_readVectors_212 θ (tb θ + (106 + 5 * k)) (nI (rdV p 2 s)) y (nI (rdV p 3 (rdS p 4 (rdS p 2 s)))) (nI (rdV p 1 (rdS p 3 (rdS p 4 (rdS p 2 s))))) (nI (rtE E d)) (nI e) (nI (rtE E d ^ i)) (nI i) (nI (e * d + i)) (nI (vNum p s (vWh p E d s e i))) bf (wl_B_readVectors_128 θ (tb θ + (106 + 5 * k)) (nI (rdV p 2 s)) y (nI (rdV p 3 (rdS p 4 (rdS p 2 s)))) (nI (rdV p 1 (rdS p 3 (rdS p 4 (rdS p 2 s))))) (nI (rtE E d)) K f) (wl_B_readVectors_143 θ (tb θ + (106 + 5 * k)) (nI (rdV p 2 s)) y (nI (rdV p 3 (rdS p 4 (rdS p 2 s)))) (nI (rdV p 1 (rdS p 3 (rdS p 4 (rdS p 2 s))))) (nI (rtE E d)) (nI e) (wl_B_readVectors_128 θ (tb θ + (106 + 5 * k)) (nI (rdV p 2 s)) y (nI (rdV p 3 (rdS p 4 (rdS p 2 s)))) (nI (rdV p 1 (rdS p 3 (rdS p 4 (rdS p 2 s))))) (nI (rtE E d)) K f) K f2) K (cS θ Y (itS p (vW p s) (vs5 p s) (vAll p E d s))) U := by
                intro bf hbf
                unfold wb_B_readVectors_212
                simp only [bkU hθ hU hk, true_and, exists_eq_left]
                refine ⟨by omega, vp_in_nI (by omega) (by decide), fun V7 h7 y2 hy2 y3 hy3 => ?_⟩
                rw [h7, hy2, hy3, nI_clamp (by omega), cS_up (by omega), pk_mul (rtE E d ^ i), nI_1]
                refine hgo2 _ _ ⟨by rw [Nat.pow_succ], _, rfl, fun q hq => (up2_ne hq).trans (hY q hq), fun c2 hc2 => ?_⟩
                by_cases e2 : c2 = e * d + i
                · subst e2
                  rw [up2_aa, cd1, cd2, hbf, hy]; rfl
                · rw [up2_ab e2]; exact hD c2 (by omega)
              have got : ∀ ix : Nat, ix = vWh p E d s e i → wb_B_readVectors_186 θ (tb θ + (106 + 5 * k)) (nI (rdV p 2 s)) y (nI (rdV p 3 (rdS p 4 (rdS p 2 s)))) (nI (rdV p 1 (rdS p 3 (rdS p 4 (rdS p 2 s))))) (nI (rtE E d)) (nI e) (nI (rtE E d ^ i)) (nI i) (nI (e * d + i)) (nI ix) (tb θ + (109 + 5 * k)) (wl_B_readVectors_128 θ (tb θ + (106 + 5 * k)) (nI (rdV p 2 s)) y (nI (rdV p 3 (rdS p 4 (rdS p 2 s)))) (nI (rdV p 1 (rdS p 3 (rdS p 4 (rdS p 2 s))))) (nI (rtE E d)) K f) (wl_B_readVectors_143 θ (tb θ + (106 + 5 * k)) (nI (rdV p 2 s)) y (nI (rdV p 3 (rdS p 4 (rdS p 2 s)))) (nI (rdV p 1 (rdS p 3 (rdS p 4 (rdS p 2 s))))) (nI (rtE E d)) (nI e) (wl_B_readVectors_128 θ (tb θ + (106 + 5 * k)) (nI (rdV p 2 s)) y (nI (rdV p 3 (rdS p 4 (rdS p 2 s)))) (nI (rdV p 1 (rdS p 3 (rdS p 4 (rdS p 2 s))))) (nI (rtE E d)) K f) K f2) K (cS θ Y (itS p (vW p s) (vs5 p s) (vAll p E d s))) U := by
                intro ix hix
                unfold wb_B_readVectors_186 wb_B_readVectors_211
                simp only [bkU hθ hU hk, true_and, exists_eq_left]
                refine ⟨vp_in_nI (by omega) (by decide), fun v hv => ?_⟩
                rw [nI_clamp (by omega), cS_ne (by omega), hY _ (by omega), g2 ix (by omega), hix] at hv
                subst hv
                have flat : (spB p (vs3 p s) = false ∨ i = 0) → vecC p E d s e i = (vMn p s + nI (rdV p 3 (vs2 p s)) * nI (vNum p s (vWh p E d s e i))) + 0 := by
                  intro q
                  unfold vecC
                  cases i with
                  | zero => rfl
                  | succ i =>
                    rcases q with q | q
                    · unfold cmV; rw [q]; rfl
                    · cases q
                rcases rdV1 p (rdS p 3 (rdS p 4 (rdS p 2 s))) with zz | zz
                · refine ⟨fun _ => put 0 (flat (Or.inl (by show decide _ = false; rw [show rdV p 1 (vs3 p s) = 0 from zz]; rfl))), fun q => absurd (by rw [zz]; rfl) q⟩
                · refine ⟨fun q => absurd q (by rw [zz]; decide), fun _ => ?_⟩
                  by_cases i0 : i = 0
                  · exact br_t (by rw [i0]; decide) (put 0 (flat (Or.inr i0)))
                  · refine br_f (nI_nle (by omega) (by omega)) ⟨by omega, ?_⟩
                    rw [show (1 : Int32) = nI 1 from rfl, pk_sub (by omega), nI_clamp (by omega), cS_ne (by omega), hD _ (by omega)]
                    refine ⟨vp_in_nI (by omega) (by decide), put _ ?_⟩
                    obtain ⟨i', rfl⟩ : ∃ i', i = i' + 1 := ⟨i - 1, by omega⟩
                    obtain ⟨ce1, ce2⟩ := cell_div (d := d) (e := e) (i := i') (by omega)
                    rw [show e * d + (i' + 1) - 1 = e * d + i' by omega, ce1, ce2]
                    show cmV _ _ _ _ (i' + 1) = _
                    unfold cmV
                    rw [if_pos (show spB p (vs3 p s) = true by show decide _ = true; rw [show rdV p 1 (vs3 p s) = 1 from zz]; rfl)]
                    rfl
              rw [hc]
              refine ⟨by omega, fun q1 => got _ ?_, fun q1 => ?_⟩
              · unfold vWh
                rw [if_neg (fun z => q1 (by rw [show rdV p 2 s = 1 from z]; rfl))]
              · have z1 : vK p s = 1 := (nI_eq (a := rdV p 2 s) (by omega) (by decide)).1 q1
                have hpp : 0 < rtE E d ^ i := Nat.pow_pos (by omega)
                have hpl := pw_le (r := rtE E d) (i := i) (by omega) (by omega)
                have hde : e / rtE E d ^ i ≤ e := Nat.div_le_self _ _
                refine ⟨nI_ne0 hpp (by omega), nI_ne0 r1 (by omega), ?_⟩
                rw [pk_div (a := e) (by omega) hpp (by omega), pk_rem (a := e / rtE E d ^ i) (by omega) r1 (by omega)]
                refine got _ ?_
                unfold vWh
                rw [if_pos z1]
            · obtain ⟨rfl, Y, rfl, hY, hD⟩ := hJ
              show bl_B_readVectors_143 _ _ _ _ _ _ _ _ _ _ _ _ _ _ _
              unfold bl_B_readVectors_143
              simp only [bkU hθ hU hk, true_and]
              rw [cS_ne (by omega), hY _ (by omega), g1 _ (by omega), hW1]
              refine br_t (nI_le (Nat.le_refl _) (by omega)) (fun y2 hy2 => ?_)
              rw [hy2, nI_1]
              refine hgo _ ⟨Y, rfl, hY, fun c hc => hD c ?_⟩
              rw [Nat.add_mul, Nat.one_mul] at hc; exact hc
          · obtain ⟨X, rfl, hX, hC⟩ := hJ
            show bl_B_readVectors_128 _ _ _ _ _ _ _ _ _ _ _ _
            unfold bl_B_readVectors_128
            simp only [bkU hθ hU hk, true_and]
            rw [cS_ne (by omega), hX _ (by omega), g1 _ (by omega), hW0]
            refine br_t (nI_le (Nat.le_refl _) (by omega)) (h X (fun q a b c => by rw [hX q c, g1 q b, f1 q a]) (fun j hj => by rw [hX _ (by omega), g1 _ (by omega)]; exact f2 j hj) (by rw [hX _ (by omega), g1 _ (by omega)]; exact f3) (fun _ _ e i he hi => ?_))
            obtain ⟨cd1, cd2⟩ := cell_div (e := e) hi
            rw [hC _ (cell_lt he hi), cd1, cd2]
        have nums : ∀ x : Int32, x = nI (vAll p E d s) → ∃ n, wl_B_readVectors_99 θ (tb θ + (106 + 5 * k)) (tb θ + 25) (nI (rdV p 2 s)) y (nI (rdV p 3 (rdS p 4 (rdS p 2 s)))) (nI (rdV p 1 (rdS p 3 (rdS p 4 (rdS p 2 s))))) (nI (vW p s)) (nI (rtE E d)) x K n (0 : Int32) (cS θ W0 (rdS p 2 (rdS p 1 (rdS p 3 (rdS p 4 (rdS p 2 s)))))) U := by
          intro x hx
          subst hx
          have hal := vAll_le (p := p) (s := s) h1 h8 d1 d4
          refine loop1 (vAll p E d s) (fun j V1 => ∃ W, V1 = cS θ W (itS p (vW p s) (vs5 p s) j) ∧ (∀ q, q ≠ tb θ + (109 + 5 * k) → W q = W0 q) ∧ ∀ q, q < j → W (tb θ + (109 + 5 * k)) q = nI (vNum p s q)) ⟨W0, rfl, fun _ _ => rfl, fun q hq => (by omega)⟩ (fun f j V1 hj hJ hgo => ?_) (fun f V1 hJ => ?_)
          · obtain ⟨W, rfl, g1, g2⟩ := hJ
            show bl_B_readVectors_99 _ _ _ _ _ _ _ _ _ _ _ _ _ _ _
            unfold bl_B_readVectors_99
            simp only [bkU hθ hU hk, true_and, exists_eq_left]
            have hpW : HP θ W p := hp0.eq (by rw [g1 _ (by omega)]) (g1 _ (by omega))
            refine br_f (nI_ge hj (by omega)) ⟨by omega, ?_⟩
            refine s_read hθ hU hpW (itS_ok (vs5_ok hs) j) (k := vW p s) (by unfold vW; omega) ⟨vp_in_nI (by omega) (by decide), fun V4 h4 y2 hy2 => ?_⟩
            rw [h4, hy2, nI_clamp (by omega), cS_up (by omega), nI_1]
            refine hgo _ ⟨_, rfl, fun q hq => (up2_ne hq).trans (g1 q hq), fun q hq => ?_⟩
            by_cases z2 : q = j
            · subst z2; rw [up2_aa]; rfl
            · rw [up2_ab z2]; exact g2 q (by omega)
          · obtain ⟨W, rfl, g1, g2⟩ := hJ
            show bl_B_readVectors_99 _ _ _ _ _ _ _ _ _ _ _ _ _ _ _
            unfold bl_B_readVectors_99
            exact br_t (nI_le (Nat.le_refl _) (by omega)) (comps W g1 g2)
        refine ⟨fun q y3 hy3 => nums y3 ?_, fun q => nums _ ?_⟩
        · rw [hy3, cS_ne (by omega), hW0, hW1, pk_mul]
          unfold vAll
          rw [if_neg (fun z2 => q (by rw [show rdV p 2 s = 1 from z2]; rfl))]
        · unfold vAll
          rw [if_pos (show vK p s = 1 from (nI_eq (a := rdV p 2 s) (by omega) (by decide)).1 q)]
      · rcases z with z | z
        · exact absurd q (by rw [z]; decide)
        · exact absurd q (by rw [z]; decide)
  refine ⟨fun q => main 0 ?_, fun q => main 1 ?_⟩
  · have : vK p s = 0 := (nI_eq (a := rdV p 2 s) (b := 0) (by omega) (by decide)).1 q
    simp [vecH, this, bZ]
  · have : ¬ vK p s = 0 := fun z => q (by rw [show rdV p 2 s = 0 from z]; rfl)
    simp [vecH, this, bZ]
end VEC
