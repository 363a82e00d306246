-- the vectors of a book, the reference
section MVEC
variable {θ : TH} {V : VT} {U : UT} {sw : Bool} {p : PK} {s : RS} {k E d : Nat}
theorem m_power {K : Int32 → VT → UT → Prop} {x n : Nat} (hn : n ≤ 4) (h : K (nI (x ^ n)) V U) : wp_M_power θ (nI x) (nI n) V U K := by
  refine loop2 n (fun i b V1 => b = nI (x ^ i) ∧ V1 = V) ⟨by rw [Nat.pow_zero]; rfl, rfl⟩ (fun f i b V1 hi hJ hgo => ?_) (fun f b V1 hJ => ?_)
  · obtain ⟨rfl, rfl⟩ := hJ
    show bl_M_power_4 _ _ _ _ _ _ _ _ _
    unfold bl_M_power_4
    refine br_f (nI_ge hi (by omega)) (fun y hy z hz => ?_)
    rw [hy, hz, pk_mul, nI_1]
    exact hgo _ _ ⟨by rw [Nat.pow_succ], rfl⟩
  · obtain ⟨rfl, rfl⟩ := hJ
    show bl_M_power_4 _ _ _ _ _ _ _ _ _
    unfold bl_M_power_4
    exact br_t (nI_le (Nat.le_refl _) (by omega)) h
theorem m_vec {K : Int32 → VT → UT → Prop} (hθ : OKt θ) (hU : US θ sw U) (hp : MP θ V p) (hk : k < 4) (hs : s.1 ≤ 8 * p.L) (h1 : 1 ≤ E) (h8 : E ≤ 8) (d1 : 1 ≤ d) (d4 : d ≤ 4) (hV0 : V (tb θ + 151) k = nI E) (hV1 : V (tb θ + 150) k = nI d) (h : ∀ W, (∀ q, q ≠ tb θ + 154 → q ≠ tb θ + 155 → q ≠ tb θ + 156 → W q = V q) → (∀ j, j ≠ k → W (tb θ + 154) j = V (tb θ + 154) j) → (∀ j, (j < 32 * k ∨ 32 * k + 32 ≤ j) → W (tb θ + 155) j = V (tb θ + 155) j) → W (tb θ + 154) k = bZ (vecH p s) → (vecH p s = true → vecO p s = true → ∀ e i, e < E → i < d → W (tb θ + 155) (32 * k + 4 * e + i) = vecC p E d s e i) → K (bZ (vecO p s)) (mS θ W (vecS p E d s)) U) : wp_M_vectors θ (tb θ + 126) (nI k) (mS θ V s) U K := by
  unfold wp_M_vectors
  simp only [UM hU, IM hθ, true_and]
  refine m_read hθ hU hp hs (k := 2) (by decide) ?_
  simp only [UM hU, IM hθ, true_and, exists_eq_left, forall_eq]
  have hk4 := rdV_lt p 2 s
  have hs1 := rdS_ok (p := p) 2 hs
  obtain ⟨r1, r8, r2, r3⟩ := rtE_is h1 h8 d1 d4
  have hkin : vp_in (nI k) 4 := vp_in_nI (by omega) (by decide)
  rw [nI_clamp (show k < 2 ^ 31 by omega), mS_ne (show tb θ + 150 ≠ tb θ + 126 by omega), mS_ne (show tb θ + 151 ≠ tb θ + 126 by omega), hV0, hV1]
  have main : ∀ z, z = bZ (vecH p s) → wb_M_vectors_35 θ (tb θ + 126) (nI k) (nI (rdV p 2 s)) (nI d) (nI E) z (nI k) (tb θ + 154) K (mS θ V (rdS p 2 s)) U := by
    intro z hz
    subst hz
    unfold wb_M_vectors_35 wb_M_vectors_45
    simp only [UM hU, IM hθ, true_and, exists_eq_left]
    refine ⟨hkin, bZ_Z _, fun V8 h8' => ?_⟩
    rw [nI_clamp (show k < 2 ^ 31 by omega), mS_up (by omega)] at h8'
    have f1 : ∀ q, q ≠ tb θ + 154 → up2 V (tb θ + 154) k (bZ (vecH p s)) q = V q := fun q hq => up2_ne hq
    have f2 : ∀ j, j ≠ k → up2 V (tb θ + 154) k (bZ (vecH p s)) (tb θ + 154) j = V (tb θ + 154) j := fun j hj => up2_ab hj
    have f3 : up2 V (tb θ + 154) k (bZ (vecH p s)) (tb θ + 154) k = bZ (vecH p s) := up2_aa
    generalize up2 V (tb θ + 154) k (bZ (vecH p s)) = W0 at f1 f2 f3 h8'
    have hp0 : MP θ W0 p := hp.eq (by rw [f1 _ (by omega)]) (f1 _ (by omega))
    rw [h8']
    have hcase : rdV p 2 s = 0 ∨ rdV p 2 s = 3 ∨ (rdV p 2 s = 1 ∨ rdV p 2 s = 2) := by omega
    rcases hcase with z | z | z
    · have o : vecO p s = true := by simp [vecO, vK, z]
      have hh : vecH p s = false := by simp [vecH, vK, z]
      have hS : vecS p E d s = rdS p 2 s := by unfold vecS vK; rw [if_pos (Or.inl z)]; rfl
      rw [hS, o] at h
      refine ⟨fun _ => ⟨fun q => absurd (by rw [z]; rfl) q, fun _ => h W0 (fun q a _ _ => f1 q a) f2 (fun j _ => by rw [f1 _ (by omega)]) f3 (fun q => by rw [hh] at q; cases q)⟩, fun q => absurd (by rw [z]; rfl) q⟩
    · have o : vecO p s = false := by simp [vecO, vK, z]
      have hS : vecS p E d s = rdS p 2 s := by unfold vecS vK; rw [if_pos (Or.inr z)]; rfl
      rw [hS, o] at h
      have hr := h W0 (fun q a _ _ => f1 q a) f2 (fun j _ => by rw [f1 _ (by omega)]) f3 (fun _ q => by cases q)
      refine ⟨fun q => absurd q (by rw [z]; decide), fun _ => ⟨fun q => absurd (by rw [z]; rfl) q, fun _ => ⟨fun _ => hr, fun q => absurd q (by rw [z]; decide)⟩⟩⟩
    · have o3 : ¬ vK p s = 3 := by unfold vK; omega
      have o : vecO p s = true := by simp [vecO, o3]
      have hS : vecS p E d s = itS p (vW p s) (vs5 p s) (vAll p E d s) := by
        unfold vecS; rw [if_neg (by unfold vK; omega)]
      rw [hS, o] at h
      have hW4 := rdV_lt p 2 (vs4 p s)
      have hal := vAll_le (p := p) (s := s) h1 h8 d1 d4
      have comps : ∀ W (x6 : Int32), x6 = bZ (spB p (vs3 p s)) → (∀ q, q ≠ tb θ + 156 → W q = W0 q) → (∀ j, j < vAll p E d s → W (tb θ + 156) j = nI (vNum p s j)) → ∃ n, wl_M_vectors_167 θ (tb θ + 126) (nI k) (nI (rdV p 2 s)) (nI d) (nI E) (vMn p s) (nI (rdV p 3 (vs2 p s))) x6 (nI (rtE E d)) K n (0 : Int32) (mS θ W (itS p (vW p s) (vs5 p s) (vAll p E d s))) U := by
        intro W x6 hx6 g1 g2
        refine loop1 E (fun e V1 => ∃ X, V1 = mS θ X (itS p (vW p s) (vs5 p s) (vAll p E d s)) ∧ FB W X (tb θ + 155) (32 * k) 32 ∧ ∀ e' i', e' < e → i' < d → X (tb θ + 155) (32 * k + 4 * e' + i') = vecC p E d s e' i') ⟨W, rfl, FB.refl, fun e' i' he' => (by omega)⟩ (fun f e V1 he hJ hgo => ?_) (fun f V1 hJ => ?_)
        · obtain ⟨X, rfl, hX, hC⟩ := hJ
          show bl_M_vectors_167 _ _ _ _ _ _ _ _ _ _ _ _ _ _ _
          unfold bl_M_vectors_167
          refine br_f (nI_ge he (by omega)) ?_
          refine loop1 d (fun i V1 => ∃ Y, V1 = mS θ Y (itS p (vW p s) (vs5 p s) (vAll p E d s)) ∧ FB W Y (tb θ + 155) (32 * k) 32 ∧ (∀ e' i', e' < e → i' < d → Y (tb θ + 155) (32 * k + 4 * e' + i') = vecC p E d s e' i') ∧ ∀ i', i' < i → Y (tb θ + 155) (32 * k + 4 * e + i') = vecC p E d s e i') ⟨X, rfl, hX, hC, fun i' hi' => (by omega)⟩ (fun f2 i V1 hi hJ hgo2 => ?_) (fun f2 V1 hJ => ?_)
          · obtain ⟨Y, rfl, hY, hC1, hD⟩ := hJ
            show bl_M_vectors_177 _ _ _ _ _ _ _ _ _ _ _ _ _ _ _ _ _
            unfold bl_M_vectors_177
            refine br_f (nI_ge hi (by omega)) ?_
            have hcl := cell_lt (E := E) (d := d) he hi
            have hEd := Nat.mul_le_mul h8 d4
            have hwl := vWh_lt (p := p) (s := s) h1 h8 d1 d4 he hi
            have hix : ((32 : Int32) * nI k + (4 : Int32) * nI e) + nI i = nI (32 * k + 4 * e + i) := by
              rw [show (32 : Int32) = nI 32 from rfl, show (4 : Int32) = nI 4 from rfl, pk_mul, pk_mul, nI_add, nI_add]
            have put : ∀ bf : Int32, vecC p E d s e i = (vMn p s + nI (rdV p 3 (vs2 p s)) * nI (vNum p s (vWh p E d s e i))) + bf → wb_M_vectors_246 θ (tb θ + 126) (nI k) (nI (rdV p 2 s)) (nI d) (nI E) (vMn p s) (nI (rdV p 3 (vs2 p s))) x6 (nI (rtE E d)) (nI e) (nI i) (nI (vWh p E d s e i)) bf (wl_M_vectors_167 θ (tb θ + 126) (nI k) (nI (rdV p 2 s)) (nI d) (nI E) (vMn p s) (nI (rdV p 3 (vs2 p s))) x6 (nI (rtE E d)) K f) (wl_M_vectors_177 θ (tb θ + 126) (nI k) (nI (rdV p 2 s)) (nI d) (nI E) (vMn p s) (nI (rdV p 3 (vs2 p s))) x6 (nI (rtE E d)) (nI e) (wl_M_vectors_167 θ (tb θ + 126) (nI k) (nI (rdV p 2 s)) (nI d) (nI E) (vMn p s) (nI (rdV p 3 (vs2 p s))) x6 (nI (rtE E d)) K f) K f2) K (mS θ Y (itS p (vW p s) (vs5 p s) (vAll p E d s))) U := by
              intro bf hbf
              unfold wb_M_vectors_246
              simp only [UM hU, IM hθ, true_and, exists_eq_left]
              rw [hix, nI_clamp (show 32 * k + 4 * e + i < 2 ^ 31 by omega), nI_clamp (show vWh p E d s e i < 2 ^ 31 by omega), mS_ne (show tb θ + 156 ≠ tb θ + 126 by omega), hY.1 _ (show tb θ + 156 ≠ tb θ + 155 by omega), g2 _ hwl]
              refine ⟨by omega, by omega, vp_in_nI (by omega) (by decide), vp_in_nI (by omega) (by decide), fun V7 h7 y2 hy2 => ?_⟩
              rw [h7, hy2, mS_up (by omega), nI_1]
              refine hgo2 _ ⟨_, rfl, hY.up (by omega) (by omega), fun e' i' he' hi' => ?_, fun i' hi' => ?_⟩
              · rw [up2_ab (by omega)]; exact hC1 e' i' he' hi'
              · by_cases e2 : i' = i
                · subst e2
                  rw [up2_aa, hbf]
                · rw [up2_ab (by omega)]; exact hD i' (by omega)
            have got : ∀ ix : Nat, ix = vWh p E d s e i → wb_M_vectors_211 θ (tb θ + 126) (nI k) (nI (rdV p 2 s)) (nI d) (nI E) (vMn p s) (nI (rdV p 3 (vs2 p s))) x6 (nI (rtE E d)) (nI e) (nI i) (nI ix) (wl_M_vectors_167 θ (tb θ + 126) (nI k) (nI (rdV p 2 s)) (nI d) (nI E) (vMn p s) (nI (rdV p 3 (vs2 p s))) x6 (nI (rtE E d)) K f) (wl_M_vectors_177 θ (tb θ + 126) (nI k) (nI (rdV p 2 s)) (nI d) (nI E) (vMn p s) (nI (rdV p 3 (vs2 p s))) x6 (nI (rtE E d)) (nI e) (wl_M_vectors_167 θ (tb θ + 126) (nI k) (nI (rdV p 2 s)) (nI d) (nI E) (vMn p s) (nI (rdV p 3 (vs2 p s))) x6 (nI (rtE E d)) K f) K f2) K (mS θ Y (itS p (vW p s) (vs5 p s) (vAll p E d s))) U := by
              intro ix hxx
              subst hxx
              unfold wb_M_vectors_211 wb_M_vectors_245
              simp only [UM hU, IM hθ, true_and, exists_eq_left]
              have flat : (spB p (vs3 p s) = false ∨ i = 0) → vecC p E d s e i = (vMn p s + nI (rdV p 3 (vs2 p s)) * nI (vNum p s (vWh p E d s e i))) + 0 := by
                intro q
                unfold vecC
                cases i with
                | zero => rfl
                | succ i =>
                  rcases q with q | q
                  · unfold cmV; rw [q]; rfl
                  · cases q
              cases hsb : spB p (vs3 p s)
              · rw [hsb] at hx6
                refine ⟨fun _ => put 0 (flat (Or.inl hsb)), fun q => absurd hx6 q⟩
              · rw [hsb] at hx6
                refine ⟨fun q => absurd (hx6.symm.trans q) (by decide), fun _ => ?_⟩
                by_cases i0 : i = 0
                · exact br_t (by rw [i0]; decide) (put 0 (flat (Or.inr i0)))
                · rw [hix, show (1 : Int32) = nI 1 from rfl, pk_sub (by omega), nI_clamp (show 32 * k + 4 * e + i - 1 < 2 ^ 31 by omega), mS_ne (show tb θ + 155 ≠ tb θ + 126 by omega), show 32 * k + 4 * e + i - 1 = 32 * k + 4 * e + (i - 1) by omega, hD (i - 1) (by omega)]
                  refine br_f (nI_nle (by omega) (by omega)) ⟨by omega, vp_in_nI (by omega) (by decide), put _ ?_⟩
                  obtain ⟨i', rfl⟩ : ∃ i', i = i' + 1 := ⟨i - 1, by omega⟩
                  show cmV _ _ _ _ (i' + 1) = _
                  unfold cmV
                  rw [if_pos hsb]
                  rfl
            refine ⟨fun q1 => ?_, fun q1 => ?_⟩
            · rw [pk_mul, nI_add]
              refine got _ ?_
              unfold vWh
              rw [if_neg (fun z => q1 (by rw [show rdV p 2 s = 1 from z]; rfl))]
            · have z1 : vK p s = 1 := (nI_eq (a := rdV p 2 s) (by omega) (by decide)).1 q1
              have hpp : 0 < rtE E d ^ i := Nat.pow_pos (by omega)
              have hpl := pw_le (r := rtE E d) (i := i) (by omega) (by omega)
              have hde : e / rtE E d ^ i ≤ e := Nat.div_le_self _ _
              refine m_power (by omega) ⟨nI_ne0 hpp (by omega), nI_ne0 r1 (by omega), ?_⟩
              rw [pk_div (a := e) (by omega) hpp (by omega), pk_rem (a := e / rtE E d ^ i) (by omega) r1 (by omega)]
              refine got _ ?_
              unfold vWh
              rw [if_pos z1]
          · obtain ⟨Y, rfl, hY, hC1, hD⟩ := hJ
            show bl_M_vectors_177 _ _ _ _ _ _ _ _ _ _ _ _ _ _ _ _ _
            unfold bl_M_vectors_177
            refine br_t (nI_le (Nat.le_refl _) (by omega)) (fun y2 hy2 => ?_)
            rw [hy2, nI_1]
            refine hgo _ ⟨Y, rfl, hY, fun e' i' he' hi' => ?_⟩
            by_cases e2 : e' = e
            · subst e2; exact hD i' hi'
            · exact hC1 e' i' (by omega) hi'
        · obtain ⟨X, rfl, hX, hC⟩ := hJ
          show bl_M_vectors_167 _ _ _ _ _ _ _ _ _ _ _ _ _ _ _
          unfold bl_M_vectors_167
          exact br_t (nI_le (Nat.le_refl _) (by omega)) (h X (fun q a b c => by rw [hX.1 q b, g1 q c, f1 q a]) (fun j hj => by rw [hX.1 _ (by omega), g1 _ (by omega)]; exact f2 j hj) (fun j hj => by rw [hX.2 j hj, g1 _ (by omega), f1 _ (by omega)]) (by rw [hX.1 _ (by omega), g1 _ (by omega)]; exact f3) (fun _ _ e i he hi => hC e i he hi))
      have nums : ∀ x6 : Int32, x6 = bZ (spB p (vs3 p s)) → ∀ x : Int32, x = nI (vAll p E d s) → ∃ n, wl_M_vectors_138 θ (tb θ + 126) (nI k) (nI (rdV p 2 s)) (nI d) (nI E) (vMn p s) (nI (rdV p 3 (vs2 p s))) x6 (nI (vW p s)) (nI (rtE E d)) x K n (0 : Int32) (mS θ W0 (vs5 p s)) U := by
        intro x6 hx6 x hx
        subst hx
        refine loop1 (vAll p E d s) (fun j V1 => ∃ W, V1 = mS θ W (itS p (vW p s) (vs5 p s) j) ∧ (∀ q, q ≠ tb θ + 156 → W q = W0 q) ∧ ∀ q, q < j → W (tb θ + 156) q = nI (vNum p s q)) ⟨W0, rfl, fun _ _ => rfl, fun q hq => (by omega)⟩ (fun f j V1 hj hJ hgo => ?_) (fun f V1 hJ => ?_)
        · obtain ⟨W, rfl, g1, g2⟩ := hJ
          show bl_M_vectors_138 _ _ _ _ _ _ _ _ _ _ _ _ _ _ _ _ _
          unfold bl_M_vectors_138
          simp only [UM hU, IM hθ, true_and, exists_eq_left]
          have hpW : MP θ W p := hp0.eq (by rw [g1 _ (by omega)]) (g1 _ (by omega))
          refine br_f (nI_ge hj (by omega)) ⟨by omega, ?_⟩
          refine m_read hθ hU hpW (itS_ok (vs5_ok hs) j) (k := vW p s) (by unfold vW; omega) ⟨vp_in_nI (by omega) (by decide), fun V4 h4 y2 hy2 => ?_⟩
          rw [h4, hy2, nI_clamp (by omega), mS_up (by omega), nI_1]
          refine hgo _ ⟨_, rfl, fun q hq => (up2_ne hq).trans (g1 q hq), fun q hq => ?_⟩
          by_cases z2 : q = j
          · subst z2; rw [up2_aa]; rfl
          · rw [up2_ab z2]; exact g2 q (by omega)
        · obtain ⟨W, rfl, g1, g2⟩ := hJ
          show bl_M_vectors_138 _ _ _ _ _ _ _ _ _ _ _ _ _ _ _ _ _
          unfold bl_M_vectors_138
          exact br_t (nI_le (Nat.le_refl _) (by omega)) (comps W x6 hx6 g1 g2)
      have root : ∀ x6 : Int32, x6 = bZ (spB p (vs3 p s)) → wb_M_vectors_86 θ (tb θ + 126) (nI k) (nI (rdV p 2 s)) (nI d) (nI E) (vMn p s) (nI (rdV p 3 (vs2 p s))) x6 K (mS θ W0 (vs4 p s)) U := by
        intro x6 hx6
        unfold wb_M_vectors_86
        simp only [IM hθ, true_and]
        refine m_read hθ hU hp0 (rdS_ok 1 (rdS_ok 3 (rdS_ok 4 hs1))) (k := 2) (by decide) ?_
        intro w hw
        rw [nI_1] at hw
        subst hw
        have key : ∀ n r, r + n = 9 → 1 ≤ r → r ^ d ≤ E → wl_M_vectors_100 θ (tb θ + 126) (nI k) (nI (rdV p 2 s)) (nI d) (nI E) (vMn p s) (nI (rdV p 3 (vs2 p s))) x6 (nI (vW p s)) K (n + 1) (nI r) (mS θ W0 (vs5 p s)) U := by
          intro n
          induction n with
          | zero =>
            intro r hr r1' hrd
            have := pw_self (r := r) d1 r1'
            omega
          | succ n ih =>
            intro r hr r1' hrd
            show bl_M_vectors_100 _ _ _ _ _ _ _ _ _ _ _ _ _ _ _
            unfold bl_M_vectors_100
            rw [nI_1]
            have := pw_le (r := r + 1) (i := d) (by omega) d4
            refine m_power d4 (pk_lt E ((r + 1) ^ d) (fun hl => ?_) (fun hl => ?_))
            · have er : r = rtE E d := rtE_uq h1 h8 d1 d4 hrd hl
              subst er
              refine ⟨fun q y3 hy3 => nums x6 hx6 y3 ?_, fun q => nums x6 hx6 _ ?_⟩
              · rw [hy3, pk_mul]
                unfold vAll
                rw [if_neg (fun z2 => q (by rw [show rdV p 2 s = 1 from z2]; rfl))]
              · unfold vAll
                rw [if_pos (show vK p s = 1 from (nI_eq (a := rdV p 2 s) (by omega) (by decide)).1 q)]
            · intro y hy
              rw [hy]
              exact ih (r + 1) (by omega) (by omega) hl
        exact ⟨_, key 8 1 (by omega) (by omega) (by rw [Nat.one_pow]; exact h1)⟩
      refine ⟨fun q => ?_, fun _ => ⟨fun _ => ?_, fun q => ?_⟩⟩
      · rcases z with z | z
        · exact absurd q (by rw [z]; decide)
        · exact absurd q (by rw [z]; decide)
      · refine m_read hθ hU hp0 hs1 (k := 4) (by decide) ?_
        intro y hy
        subst hy
        refine m_read hθ hU hp0 (rdS_ok 4 hs1) (k := 3) (by decide) ?_
        refine m_read hθ hU hp0 (rdS_ok 3 (rdS_ok 4 hs1)) (k := 1) (by decide) ?_
        rcases rdV1 p (rdS p 3 (rdS p 4 (rdS p 2 s))) with zz | zz
        · refine ⟨fun _ => root 0 ?_, fun q => absurd q (by rw [zz]; decide)⟩
          rw [show spB p (vs3 p s) = false by show decide _ = false; rw [show rdV p 1 (vs3 p s) = 0 from zz]; rfl]; rfl
        · refine ⟨fun q => absurd (by rw [zz]; rfl) q, fun _ => root 1 ?_⟩
          rw [show spB p (vs3 p s) = true by show decide _ = true; rw [show rdV p 1 (vs3 p s) = 1 from zz]; rfl]; rfl
      · rcases z with z | z
        · exact absurd q (by rw [z]; decide)
        · exact absurd q (by rw [z]; decide)
  refine ⟨by omega, hkin, by omega, hkin, by omega, fun q => main 0 ?_, fun q => main 1 ?_⟩
  · have : vK p s = 0 := (nI_eq (a := rdV p 2 s) (b := 0) (by omega) (by decide)).1 q
    simp [vecH, this, bZ]
  · have : ¬ vK p s = 0 := fun z => q (by rw [show rdV p 2 s = 0 from z]; rfl)
    simp [vecH, this, bZ]
end MVEC
