-- the curve of a channel is read, one side
def crF (p : PK) (bk : Nat → BD) (cd : CD) (s : RS) : NS := nuF p bk cd (rdS p 1 s)
def crU (p : PK) (bk : Nat → BD) (cd : CD) (s : RS) : Bool := spB p s && !(crF p bk cd s).s.2
def crS (p : PK) (bk : Nat → BD) (cd : CD) (s : RS) : RS := if spB p s = true then (crF p bk cd s).s else rdS p 1 s
def crH (p : PK) (bk : Nat → BD) (cd : CD) (s : RS) : (Nat → Nat) × (Nat → Bool) := hgS cd.gr cd.pl (num1 p bk cd (rdS p 1 s)) (cd.N - 2)
def crX (p : PK) (bk : Nat → BD) (cd : CD) (s : RS) (x : Nat) : Nat := drX (crH p bk cd s).1 cd.pl (crH p bk cd s).2 (cd.gr + 1) (cd.N - 2) x
section CURVE
variable {θ : TH} {V : VT} {U : UT} {sw : Bool} {p : PK} {s : RS} {c B : Nat} {bk : Nat → BD} {cd : CD}
theorem nuF_ok (hs : s.1 ≤ 8 * p.L) : (nuF p bk cd s).s.1 ≤ 8 * p.L := (nvP_ok (nu0_ok hs) _).1
theorem crS_ok (hs : s.1 ≤ 8 * p.L) : (crS p bk cd s).1 ≤ 8 * p.L := by
  unfold crS; split
  · exact nuF_ok (rdS_ok 1 hs)
  · exact rdS_ok 1 hs
theorem s_nums {K : Int32 → VT → UT → Prop} (hθ : OKt θ) (hU : US θ sw U) (hc : c = 68 ∨ c = 84) (hp : HP θ V p) (hs : s.1 ≤ 8 * p.L) (hB : B ≤ 4) (hcp : CPP cd B) (hcc : CPC θ V c cd) (hbk : ∀ k, k < B → BKP (bk k) ∧ BKC θ V k (bk k)) (h : ∀ W, (∀ q, q ≠ tb θ + (c + 7) → W q = V q) → (∀ j, j < (nuF p bk cd s).n → W (tb θ + (c + 7)) j = nO ((nuF p bk cd s).nu j)) → K (bZ (!(nuF p bk cd s).s.2)) (cS θ W (nuF p bk cd s).s) U) : wp_C_readNumbers θ (tb θ + c) (tb θ + 25) (tb θ + 67) (cS θ V s) U K := by
  have hN := cN_le hcp
  have hcp' := hcp
  obtain ⟨p1, p2, p3, p4, p5, p6, _⟩ := hcp
  obtain ⟨q1, q2, q3, q4, q5, q6⟩ := hcc
  have hrb := rgG_b cd.gr
  have hnb := nbG_b cd.gr
  have hR67 := (vpU (v := 78) hθ hU (Or.inl rfl)).2.2.2.2.2.2.2.2.2.2.2.1
  -- one kind of part
  have part : ∀ (q k : Nat) (kb : Int32 → Int32 → VT → UT → Prop), q < cd.C → ∀ r i o x W, i + r = cd.sz q → x.n + r ≤ 14 → (∀ z, z ≠ tb θ + (c + 7) → W z = V z) → (∀ j, j < x.n → W (tb θ + (c + 7)) j = nO (x.nu j)) → x.s.1 ≤ 8 * p.L → (∀ e, o = some e → e < 8) → (cd.sp q = false → o = some 0) → (∀ W', (∀ z, z ≠ tb θ + (c + 7) → W' z = V z) → (∀ j, j < (nvI p bk cd q r o x).n → W' (tb θ + (c + 7)) j = nO ((nvI p bk cd q r o x).nu j)) → kb (nI (nvI p bk cd q r o x).n) (nI (k + 1)) (cS θ W' (nvI p bk cd q r o x).s) U) → wl_C_readNumbers_99 θ (tb θ + c) (tb θ + 25) (tb θ + 67) (nI k) (nI q) kb K (r + 1) (nI x.n) (nO o) (nI i) (cS θ W x.s) U := by
    intro q k kb hq r
    obtain ⟨z1, z2, z3, z4, z5⟩ := p5 q hq
    obtain ⟨y1, y2, y3, y4, y5⟩ := q4 q hq
    induction r with
    | zero =>
      intro i o x W hi hn w1 w2 hx ho hsp hk
      show bl_C_readNumbers_99 _ _ _ _ _ _ _ _ _ _ _ _ _ _
      unfold bl_C_readNumbers_99
      simp only [cpU hθ hU hc, true_and, exists_eq_left]
      rw [nI_clamp (show q < 2 ^ 31 by omega), cS_ne (show tb θ + (c + 2) ≠ tb θ + 25 by omega), w1 _ (by omega), y1]
      refine ⟨by omega, vp_in_nI (by omega) (by decide), br_t (nI_le (by omega) (by omega)) (fun y hy => ?_)⟩
      rw [hy, nI_1]
      unfold nvI at hk
      exact hk W w1 w2
    | succ r ih =>
      intro i o x W hi hn w1 w2 hx ho hsp hk
      have hpW : HP θ W p := hp.eq (by rw [w1 _ (by omega)]) (w1 _ (by omega))
      show bl_C_readNumbers_99 _ _ _ _ _ _ _ _ _ _ _ _ _ _
      unfold bl_C_readNumbers_99
      simp only [cpU hθ hU hc, true_and, exists_eq_left]
      rw [nI_clamp (show q < 2 ^ 31 by omega), cS_ne (show tb θ + (c + 2) ≠ tb θ + 25 by omega), w1 (tb θ + (c + 2)) (by omega), y1]
      refine ⟨by omega, vp_in_nI (by omega) (by decide), br_f (nI_ge (by omega) (by omega)) ?_⟩
      cases o with
      | none =>
        refine ⟨fun _ y hy => ?_, fun z => absurd rfl z⟩
        rw [hy, nI_1]
        unfold nvI at hk
        exact hk W w1 w2
      | some e =>
        have he := ho e rfl
        refine ⟨fun z => absurd z (nI_nm1 (by omega)), fun _ => ⟨by omega, by decide, ?_⟩⟩
        show vp_in ((nI q * (2 : Int32)) + (nI e - nI e / (2 : Int32) * (2 : Int32))) 4 ∧ ∀ y_55 : Int32, y_55 = (cS θ W x.s (tb θ + (c + 5)) ((nI q * (2 : Int32)) + (nI e - nI e / (2 : Int32) * (2 : Int32))).toNatClampNeg) → _
        rw [show (2 : Int32) = nI 2 from rfl, pk_rem (by omega) (by decide) (by decide), pk_mul, nI_add, nI_clamp (show q * 2 + e % 2 < 2 ^ 31 by omega), cS_ne (show tb θ + (c + 5) ≠ tb θ + 25 by omega), w1 (tb θ + (c + 5)) (by omega)]
        have esb : V (tb θ + (c + 5)) (q * 2 + e % 2) = nO (cd.sb q (e % 2)) := by
          have : e % 2 = 0 ∨ e % 2 = 1 := by omega
          rcases this with w | w
          · rw [w, show q * 2 + 0 = 2 * q by omega]; exact y4
          · rw [w, show q * 2 + 1 = 2 * q + 1 by omega]
            refine y5 ?_
            cases hsp' : cd.sp q
            · have := hsp hsp'
              cases this
              cases w
            · rfl
        rw [esb]
        have put : ∀ (o' : Option Nat) (s' : RS), s'.1 ≤ 8 * p.L → (∀ W', (∀ z, z ≠ tb θ + (c + 7) → W' z = V z) → (∀ j, j < (nvI p bk cd q r (some (e / 2)) (x.n + 1, s', upO x.nu x.n o')).n → W' (tb θ + (c + 7)) j = nO ((nvI p bk cd q r (some (e / 2)) (x.n + 1, s', upO x.nu x.n o')).nu j)) → kb (nI (nvI p bk cd q r (some (e / 2)) (x.n + 1, s', upO x.nu x.n o')).n) (nI (k + 1)) (cS θ W' (nvI p bk cd q r (some (e / 2)) (x.n + 1, s', upO x.nu x.n o')).s) U) → wb_C_readNumbers_156 θ (tb θ + c) (tb θ + 25) (tb θ + 67) (nI x.n) (nI k) (nI q) (nI e) (nI i) (nO o') (nI x.n) (tb θ + (c + 7)) kb (wl_C_readNumbers_99 θ (tb θ + c) (tb θ + 25) (tb θ + 67) (nI k) (nI q) kb K (r + 1)) K (cS θ W s') U := by
          intro o' s' hs' hk'
          unfold wb_C_readNumbers_156
          simp only [cpU hθ hU hc, true_and, exists_eq_left]
          refine ⟨vp_in_nI (by omega) (by decide), fun V69 h69 => ⟨by decide, fun y71 e71 y72 e72 y73 e73 => ?_⟩⟩
          rw [nI_clamp (by omega), cS_up (by omega)] at h69
          rw [h69, e71, e72, e73, nI_1, nI_1, show (2 : Int32) = nI 2 from rfl, pk_div (by omega) (by decide) (by decide)]
          refine ih (i + 1) (some (e / 2)) (x.n + 1, s', upO x.nu x.n o') _ (by omega) (show x.n + 1 + r ≤ 14 by omega) (fun z hz => by rw [up2_ne hz]; exact w1 z hz) (fun j hj => ?_) hs' (fun e' he' => by cases he'; omega) (fun hsp' => ?_) hk'
          · show _ = nO (if j = x.n then o' else x.nu j)
            by_cases ej : j = x.n
            · rw [if_pos ej, ej, up2_aa]
            · have hj' : j < x.n + 1 := hj
              rw [if_neg ej, up2_ab ej]; exact w2 j (by omega)
          · have := hsp hsp'
            cases this; rfl
        refine ⟨vp_in_nI (by omega) (by decide), fun y55 e55 => ?_⟩
        subst e55
        unfold nvI at hk
        cases hsb : cd.sb q (e % 2) with
        | none =>
          rw [hsb] at hk
          exact ⟨by omega, fun z => absurd rfl z, fun _ => put (some 0) x.s hx hk⟩
        | some m =>
          rw [hsb] at hk
          have hm : m < B := by
            have : e % 2 = 0 ∨ e % 2 = 1 := by omega
            rcases this with w | w
            · rw [w] at hsb; exact z4 m hsb
            · rw [w] at hsb
              refine z5 ?_ m hsb
              cases hsp' : cd.sp q
              · have := hsp hsp'
                cases this
                cases w
              · rfl
          obtain ⟨hb1, hb2⟩ := hbk m hm
          have hu := bkU (k := m) hθ hU (by omega)
          refine ⟨by omega, fun _ => ?_, fun z => absurd z (nI_nm1 (by omega))⟩
          show ∃ n_58, isR θ (tb θ + 67) 5 n_58 ∧ vp_in (nI m) n_58 ∧ (U (tb θ + 67) (nI m).toNatClampNeg) ≠ 0 ∧ isO θ (U (tb θ + 67) (nI m).toNatClampNeg) 8 ∧ wp_B_readEntry θ (U (tb θ + 67) (nI m).toNatClampNeg) (tb θ + 25) (cS θ W x.s) U _
          rw [nI_clamp (show m < 2 ^ 31 by omega), hu.2.2.2.2.2.2.2.2.2.1]
          refine ⟨4, (hR67 4).2 rfl, vp_in_nI (by omega) (by decide), by omega, hu.1, ?_⟩
          refine s_pick hθ hU hpW (by omega) hb1 (hb2.eq (w1 _ (by omega)) (w1 _ (by omega)) (w1 _ (by omega))) hx ?_
          exact put _ _ (pkR_ok hx) hk
  -- the parts
  have parts : ∀ W, (∀ z, z ≠ tb θ + (c + 7) → W z = V z) → (∀ j, j < 2 → W (tb θ + (c + 7)) j = nO ((nu0 p cd s).nu j)) → ∃ n, wl_C_readNumbers_49 θ (tb θ + c) (tb θ + 25) (tb θ + 67) K n (2 : Int32) (0 : Int32) (cS θ W (nu0 p cd s).s) U := by
    intro W w1 w2
    refine loop2 (a := (2 : Int32)) cd.P (fun k b V1 => b = nI (nvP p bk cd (nu0 p cd s) k).n ∧ ∃ X, V1 = cS θ X (nvP p bk cd (nu0 p cd s) k).s ∧ (∀ z, z ≠ tb θ + (c + 7) → X z = V z) ∧ ∀ j, j < (nvP p bk cd (nu0 p cd s) k).n → X (tb θ + (c + 7)) j = nO ((nvP p bk cd (nu0 p cd s) k).nu j)) ⟨rfl, W, rfl, w1, w2⟩ (fun f k b V1 hk hJ hgo => ?_) (fun f b V1 hJ => ?_)
    · obtain ⟨rfl, X, rfl, x1, x2⟩ := hJ
      have hpX : HP θ X p := hp.eq (by rw [x1 _ (by omega)]) (x1 _ (by omega))
      obtain ⟨n1, n2, n3, n4⟩ := nvP_ok (p := p) (bk := bk) (c := cd) (nu0_ok (c := cd) hs) k
      have e2 : (nu0 p cd s).n = 2 := rfl
      have hcl := p4 k hk
      obtain ⟨z1, z2, z3, z4, z5⟩ := p5 _ hcl
      obtain ⟨y1, y2, y3, y4, y5⟩ := q4 _ hcl
      have hsm : smN (fun k => cd.sz (cd.cl k)) (k + 1) ≤ smN (fun k => cd.sz (cd.cl k)) cd.P := smN_mono (by omega)
      have hsm' : smN (fun k => cd.sz (cd.cl k)) (k + 1) = smN (fun k => cd.sz (cd.cl k)) k + cd.sz (cd.cl k) := rfl
      show bl_C_readNumbers_49 _ _ _ _ _ _ _ _ _ _
      unfold bl_C_readNumbers_49
      simp only [cpU hθ hU hc, true_and, exists_eq_left]
      rw [cS_ne (show tb θ + c ≠ tb θ + 25 by omega), x1 _ (by omega), q2, nI_clamp (show k < 2 ^ 31 by omega), cS_ne (show tb θ + (c + 1) ≠ tb θ + 25 by omega), x1 (tb θ + (c + 1)) (by omega), q3 k hk]
      refine br_f (nI_ge hk (by omega)) ⟨by omega, vp_in_nI (by omega) (by decide), fun y hy => ?_⟩
      subst hy
      rw [nI_clamp (show cd.cl k < 2 ^ 31 by omega), cS_ne (show tb θ + (c + 3) ≠ tb θ + 25 by omega), x1 (tb θ + (c + 3)) (by omega), y2, cS_ne (show tb θ + (c + 4) ≠ tb θ + 25 by omega), x1 (tb θ + (c + 4)) (by omega)]
      have eP : nvP p bk cd (nu0 p cd s) (k + 1) = if cd.sp (cd.cl k) = true then nvI p bk cd (cd.cl k) (cd.sz (cd.cl k)) (pkR p (bk (cd.ms (cd.cl k))) (nvP p bk cd (nu0 p cd s) k).s).1 ((nvP p bk cd (nu0 p cd s) k).n, (pkR p (bk (cd.ms (cd.cl k))) (nvP p bk cd (nu0 p cd s) k).s).2, (nvP p bk cd (nu0 p cd s) k).nu) else nvI p bk cd (cd.cl k) (cd.sz (cd.cl k)) (some 0) (nvP p bk cd (nu0 p cd s) k) := rfl
      refine ⟨by omega, vp_in_nI (by omega) (by decide), fun z => ?_, fun z => ?_⟩
      · have hsp : cd.sp (cd.cl k) = false := bZ_0.1 z
        rw [if_neg (by rw [hsp]; decide)] at eP
        refine ⟨_, part (cd.cl k) k _ hcl (cd.sz (cd.cl k)) 0 (some 0) (nvP p bk cd (nu0 p cd s) k) X (by omega) (by omega) x1 x2 n1 (fun e he => by cases he; decide) (fun _ => rfl) (fun W' a b => ?_)⟩
        exact hgo _ _ ⟨by rw [eP], W', by rw [eP], a, by rw [eP]; exact b⟩
      · have hsp : cd.sp (cd.cl k) = true := by
          cases e : cd.sp (cd.cl k)
          · rw [e] at z; exact absurd rfl z
          · rfl
        rw [if_pos hsp] at eP
        have hm := z3 hsp
        obtain ⟨hb1, hb2⟩ := hbk _ hm
        have hu := bkU (k := cd.ms (cd.cl k)) hθ hU (by omega)
        rw [y3 hsp, nI_clamp (show cd.ms (cd.cl k) < 2 ^ 31 by omega), hu.2.2.2.2.2.2.2.2.2.1]
        refine ⟨by omega, vp_in_nI (by omega) (by decide), 4, (hR67 4).2 rfl, vp_in_nI (by omega) (by decide), by omega, hu.1, ?_⟩
        refine s_pick hθ hU hpX (by omega) hb1 (hb2.eq (x1 _ (by omega)) (x1 _ (by omega)) (x1 _ (by omega))) n1 ?_
        refine ⟨_, part (cd.cl k) k _ hcl (cd.sz (cd.cl k)) 0 (pkR p (bk (cd.ms (cd.cl k))) (nvP p bk cd (nu0 p cd s) k).s).1 ((nvP p bk cd (nu0 p cd s) k).n, (pkR p (bk (cd.ms (cd.cl k))) (nvP p bk cd (nu0 p cd s) k).s).2, (nvP p bk cd (nu0 p cd s) k).nu) X (by omega) (show (nvP p bk cd (nu0 p cd s) k).n + _ ≤ 14 by omega) x1 x2 (pkR_ok n1) (fun e he => ?_) (fun w => by rw [hsp] at w; cases w) (fun W' a b => ?_)⟩
        · have := (pkR_some he).1
          have := hb1.2.1
          omega
        · exact hgo _ _ ⟨by rw [eP], W', by rw [eP], a, by rw [eP]; exact b⟩
    · obtain ⟨rfl, X, rfl, x1, x2⟩ := hJ
      show bl_C_readNumbers_49 _ _ _ _ _ _ _ _ _ _
      unfold bl_C_readNumbers_49
      simp only [cpU hθ hU hc, true_and]
      rw [cS_ne (show tb θ + c ≠ tb θ + 25 by omega), x1 _ (by omega), q2, cS_6]
      refine br_t (nI_le (Nat.le_refl _) (by omega)) ?_
      have := h X x1 x2
      show ((¬ bZ (nuF p bk cd s).s.2 = 0 → K 0 (cS θ X (nuF p bk cd s).s) U) ∧ (bZ (nuF p bk cd s).s.2 = 0 → K 1 (cS θ X (nuF p bk cd s).s) U))
      cases ho : (nuF p bk cd s).s.2
      · rw [ho] at this
        exact ⟨fun z => absurd rfl z, fun _ => this⟩
      · rw [ho] at this
        exact ⟨fun _ => this, fun z => absurd z (by decide)⟩
  refine loop1 2 (fun k V1 => ∃ W, V1 = cS θ W (itS p (nbG cd.gr) s k) ∧ (∀ z, z ≠ tb θ + (c + 7) → W z = V z) ∧ ∀ j, j < k → W (tb θ + (c + 7)) j = nO ((nu0 p cd s).nu j)) ⟨V, rfl, fun _ _ => rfl, fun j hj => (by omega)⟩ (fun f k V1 hk hJ hgo => ?_) (fun f V1 hJ => ?_)
  · obtain ⟨W, rfl, w1, w2⟩ := hJ
    have hpW : HP θ W p := hp.eq (by rw [w1 _ (by omega)]) (w1 _ (by omega))
    show bl_C_readNumbers_2 _ _ _ _ _ _ _ _ _
    unfold bl_C_readNumbers_2
    simp only [cpU hθ hU hc, true_and, exists_eq_left]
    rw [cS_ne (show tb θ + c ≠ tb θ + 25 by omega), w1 _ (by omega), q1, nI_clamp (show cd.gr < 2 ^ 31 by omega), sV2 p1]
    refine br_f (nI_ge (b := 2) hk (by decide)) ⟨by omega, vp_in_nI (N := 4) (by omega) (by decide), s_read hθ hU hpW (itS_ok hs k) (by omega) ?_⟩
    rw [cS_ne (show tb θ + c ≠ tb θ + 25 by omega), w1 _ (by omega), q1, nI_clamp (show cd.gr < 2 ^ 31 by omega), sV1 p1, show (1 : Int32) = nI 1 from rfl, pk_sub (by omega)]
    have hrl := rdV_lt p (nbG cd.gr) (itS p (nbG cd.gr) s k)
    have h25 : 2 ^ nbG cd.gr ≤ 2 ^ 5 := p2le hnb
    refine ⟨vp_in_nI (N := 4) (by omega) (by decide), vp_in_nI (by omega) (by decide), fun V13 h13 y hy => ?_⟩
    have emin : (if nI (rgG cd.gr - 1) < nI (rdV p (nbG cd.gr) (itS p (nbG cd.gr) s k)) then nI (rgG cd.gr - 1) else nI (rdV p (nbG cd.gr) (itS p (nbG cd.gr) s k))) = nI (min (rdV p (nbG cd.gr) (itS p (nbG cd.gr) s k)) (rgG cd.gr - 1)) := by
      by_cases w : rgG cd.gr - 1 < rdV p (nbG cd.gr) (itS p (nbG cd.gr) s k)
      · rw [if_pos (nI_lt w (by omega)), Nat.min_eq_right (by omega)]
      · rw [if_neg (nI_nlt (by omega) (by omega)), Nat.min_eq_left (by omega)]
    rw [emin, nI_clamp (by omega), cS_up (by omega)] at h13
    rw [h13, hy]
    show wl_C_readNumbers_2 _ _ _ _ _ _ (nI k + nI 1) _ _
    rw [nI_add]
    refine hgo _ ⟨_, rfl, fun z hz => (up2_ne hz).trans (w1 z hz), fun j hj => ?_⟩
    by_cases e : j = k
    · subst e
      rw [up2_aa]
      show _ = nO (if j = 0 then _ else _)
      have : j = 0 ∨ j = 1 := by omega
      rcases this with rfl | rfl
      · rw [if_pos rfl]; rfl
      · rw [if_neg (by decide)]; rfl
    · rw [up2_ab e]; exact w2 j (by omega)
  · obtain ⟨W, rfl, w1, w2⟩ := hJ
    show bl_C_readNumbers_2 _ _ _ _ _ _ _ _ _
    unfold bl_C_readNumbers_2
    exact br_t (by decide) (parts W w1 w2)
theorem s_curve {K : Int32 → VT → UT → Prop} (hθ : OKt θ) (hU : US θ sw U) (hc : c = 68 ∨ c = 84) (hp : HP θ V p) (hs : s.1 ≤ 8 * p.L) (hB : B ≤ 4) (hcp : CPP cd B) (hcc : CPC θ V c cd) (hbk : ∀ k, k < B → BKP (bk k) ∧ BKC θ V k (bk k)) {a w : Nat} (ha : ∀ m, isA θ a 0 m ↔ m = 32) (ha1 : a = tb θ + 101 ∨ a = tb θ + 102) (hw : w ≤ 32) (h : ∀ W, (∀ q, q ≠ a → q ≠ tb θ + (c + 7) → q ≠ tb θ + (c + 8) → q ≠ tb θ + (c + 9) → W q = V q) → (crU p bk cd s = true → ∀ x, x < w → W a x = nI (crX p bk cd s x)) → (∀ x, (crU p bk cd s = false ∨ w ≤ x) → W a x = V a x) → K (bZ (crU p bk cd s)) (cS θ W (crS p bk cd s)) U) : wp_C_decode θ (tb θ + c) (tb θ + 25) (tb θ + 67) a (nI w) (cS θ V s) U K := by
  unfold wp_C_decode
  simp only [cpU hθ hU hc, true_and]
  refine s_flag hθ hU hp hs ?_
  rcases rdV1 p s with z | z
  · have hsp : spB p s = false := by simp [spB, z]
    have hu : crU p bk cd s = false := by unfold crU; rw [hsp]; rfl
    have hS : crS p bk cd s = rdS p 1 s := by unfold crS; rw [hsp]; rfl
    rw [hu, hS] at h
    rw [z]
    exact ⟨fun _ => h V (fun _ _ _ _ _ => rfl) (fun q => Bool.noConfusion q) (fun _ _ => rfl), fun q => absurd rfl q⟩
  · have hsp : spB p s = true := by simp [spB, z]
    have hS : crS p bk cd s = (crF p bk cd s).s := by unfold crS; rw [if_pos hsp]
    have hu : crU p bk cd s = !(crF p bk cd s).s.2 := by unfold crU; rw [hsp]; simp
    rw [z]
    refine ⟨fun q => absurd q (by decide), fun _ => s_nums hθ hU hc hp (rdS_ok 1 hs) hB hcp hcc hbk (fun W w1 w2 => ?_)⟩
    rw [hS] at h
    cases ho : (crF p bk cd s).s.2
    · rw [ho] at hu
      have hu' : crU p bk cd s = true := hu
      rw [hu'] at h
      obtain ⟨n1, n2, n3⟩ := nuF_in (fun k hk => (hbk k hk).1) hcp (rdS_ok 1 hs) ho
      obtain ⟨q1, q2, q3, q4, q5, q6⟩ := hcc
      have hg : (bZ (!(nuF p bk cd (rdS p 1 s)).s.2) : Int32) = 1 := by
        rw [show (nuF p bk cd (rdS p 1 s)).s.2 = false from ho]; rfl
      rw [hg]
      refine ⟨fun _ => ?_, fun q => absurd q (by decide)⟩
      have X0 : ∀ j, cS θ W (crF p bk cd s).s (tb θ + c) j = V (tb θ + c) j := fun j => by rw [cS_ne (by omega), w1 _ (by omega)]
      refine s_raise (gr := cd.gr) (N := cd.N) (pl := cd.pl) (num := num1 p bk cd (rdS p 1 s)) hθ hU hc n2 ?_ ?_ (fun i hi => ?_) (fun i hi => ?_) (fun Y y1 y2 => ?_)
      · exact (X0 0).trans q1
      · exact (X0 7).trans q5
      · rw [cS_ne (by omega), w1 _ (by omega)]; exact q6 i hi
      · rw [cS_ne (by omega), w2 i (by omega), n3 i hi]; rfl
      · have hrb := rgG_b cd.gr
        have Y0 : ∀ j, Y (tb θ + c) j = V (tb θ + c) j := fun j => by rw [y1 _ (by omega) (by omega)]; exact X0 j
        refine s_draw (gr := cd.gr) (N := cd.N) (pl := cd.pl) (H := (crH p bk cd s).1) (S := (crH p bk cd s).2) hθ hU hc n2 ha (by omega) (by omega) (by omega) (by omega) hw ((Y0 0).trans q1) ((Y0 7).trans q5) (fun i hi => ?_) (fun i hi => ⟨(y2 i hi).1, ?_⟩) (fun i hi => (y2 i hi).2) (fun Z z1 z2 z3 => ?_)
        · rw [y1 _ (by omega) (by omega), cS_ne (by omega), w1 _ (by omega)]; exact q6 i hi
        · have := hgS_lt n2 (m := cd.N - 2) (by have := n2.2.1; omega) i (by have := n2.2.1; omega)
          show (hgS cd.gr cd.pl (num1 p bk cd (rdS p 1 s)) (cd.N - 2)).1 i < 32
          omega
        · have hZ25 : Z (tb θ + 25) = cS θ W (crF p bk cd s).s (tb θ + 25) := by rw [z1 _ (by omega), y1 _ (by omega) (by omega)]; rfl
          have e : cS θ Z (crF p bk cd s).s = Z := cS_self (by rw [hZ25, cS_5]) (by rw [hZ25, cS_6])
          -- base without the hand
          have key := h (up2 (up2 Z (tb θ + 25) 5 (V (tb θ + 25) 5)) (tb θ + 25) 6 (V (tb θ + 25) 6)) ?_ ?_ ?_
          · have e2 : cS θ (up2 (up2 Z (tb θ + 25) 5 (V (tb θ + 25) 5)) (tb θ + 25) 6 (V (tb θ + 25) 6)) (crF p bk cd s).s = Z := by
              rw [← e]
              unfold cS
              funext q j
              by_cases hq : q = tb θ + 25
              · subst hq
                by_cases h6 : j = 6
                · subst h6; rw [up2_aa, up2_aa]
                · by_cases h5 : j = 5
                  · subst h5; rw [up2_ab (by decide), up2_aa, up2_ab (by decide), up2_aa]
                  · simp only [up2_ab h6, up2_ab h5]
              · simp only [up2_ne hq]
            rw [e2] at key
            exact key
          · intro q a1 a2 a3 a4
            by_cases hq : q = tb θ + 25
            · subst hq
              funext j
              by_cases h6 : j = 6
              · subst h6; rw [up2_aa]
              · by_cases h5 : j = 5
                · subst h5; rw [up2_ab (by decide), up2_aa]
                · rw [up2_ab h6, up2_ab h5, hZ25, cS_j h5 h6, w1 _ (by omega)]
            · rw [up2_ne hq, up2_ne hq, z1 q a1, y1 q a3 a4, cS_ne hq, w1 q a2]
          · intro _ x hx
            rw [up2_ne (by omega), up2_ne (by omega)]; exact z2 x hx
          · intro x hx
            rw [up2_ne (by omega), up2_ne (by omega), z3 x (by rcases hx with q | q; cases q; exact q), y1 _ (by omega) (by omega), cS_ne (by omega), w1 _ (by omega)]
    · rw [ho] at hu
      have hu' : crU p bk cd s = false := hu
      rw [hu'] at h
      have hg : (bZ (!(nuF p bk cd (rdS p 1 s)).s.2) : Int32) = 0 := by
        rw [show (nuF p bk cd (rdS p 1 s)).s.2 = true from ho]; rfl
      rw [hg]
      exact ⟨fun q => absurd rfl q, fun _ => h W (fun q _ a2 _ _ => w1 q a2) (fun q => Bool.noConfusion q) (fun x _ => by rw [w1 _ (by omega)])⟩
end CURVE
