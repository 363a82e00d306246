-- the curve of a channel is read, the reference
section MCURVEOF
variable {θ : TH} {V : VT} {U : UT} {sw : Bool} {p : PK} {s : RS} {la B : Nat} {bk : Nat → BD} {cd : CD}
theorem m_curve {K : Int32 → VT → UT → Prop} (hθ : OKt θ) (hU : US θ sw U) (hla : la ≤ 48) (h53 : V (tb θ + 126) 53 = nI la) (hp : MP θ V p) (hs : s.1 ≤ 8 * p.L) (hB : B ≤ 4) (hcp : CPP cd B) (hcm : CPM θ V la cd) (hbk : ∀ k, k < B → BKP (bk k) ∧ BKM θ V k (bk k)) {ch sz : Nat} (hch : ch < 2) (hsz : sz ≤ 64) (h57 : V (tb θ + 126) 57 = nI sz) (h : ∀ W, (∀ q, q ≠ tb θ + 159 → q ≠ tb θ + 161 → q ≠ tb θ + 162 → q ≠ tb θ + 163 → W q = V q) → (crU p bk cd s = true → ∀ x, x < sz / 2 → W (tb θ + 159) (32 * ch + x) = nI (crX p bk cd s x)) → (∀ x, (crU p bk cd s = false ∨ x < 32 * ch ∨ 32 * ch + sz / 2 ≤ x) → W (tb θ + 159) x = V (tb θ + 159) x) → K (bZ (crU p bk cd s)) (mS θ W (crS p bk cd s)) U) : wp_M_curveOf θ (tb θ + 126) (nI ch) (mS θ V s) U K := by
  have hN := cN_le hcp
  have hcp' := hcp
  obtain ⟨p1, p2, p3, p4, p5, p6, _⟩ := hcp
  obtain ⟨q1, q2, q3, q4, q5, q6⟩ := hcm
  have hrb := rgG_b cd.gr
  have hnb := nbG_b cd.gr
  have i1 : nI la + (1 : Int32) = nI (la + 1) := nI_add la 1
  have i2 : nI la + (2 : Int32) = nI (la + 2) := nI_add la 2
  have i5 : nI la + (5 : Int32) = nI (la + 5) := nI_add la 5
  have i7 : nI la + (7 : Int32) = nI (la + 7) := nI_add la 7
  have i9 : nI la + (9 : Int32) = nI (la + 9) := nI_add la 9
  have i11 : nI la + (11 : Int32) = nI (la + 11) := nI_add la 11
  have e126 : ∀ X t j x, X (tb θ + 126) j = x → j ≠ 39 → j ≠ 40 → mS θ X t (tb θ + 126) j = x := fun X t j x hX a b => by rw [mS_j a b]; exact hX
  unfold wp_M_curveOf
  simp only [IM hθ, true_and]
  refine m_read hθ hU hp hs (k := 1) (by decide) ?_
  rcases rdV1 p s with z | z
  · have hsp : spB p s = false := by simp [spB, z]
    have hu : crU p bk cd s = false := by unfold crU; rw [hsp]; rfl
    have hS : crS p bk cd s = rdS p 1 s := by unfold crS; rw [hsp]; rfl
    rw [hu, hS] at h
    rw [z]
    exact ⟨fun q => absurd rfl q, fun _ => h V (fun _ _ _ _ _ => rfl) (fun q => Bool.noConfusion q) (fun _ _ => rfl)⟩
  have hsp : spB p s = true := by simp [spB, z]
  have hS : crS p bk cd s = (crF p bk cd s).s := by unfold crS; rw [if_pos hsp]
  have hu : crU p bk cd s = !(crF p bk cd s).s.2 := by unfold crU; rw [hsp]; simp
  rw [hS] at h
  have hs1 := rdS_ok (p := p) 1 hs
  rw [z]
  refine ⟨fun _ => ?_, fun q => absurd q (by decide)⟩
  rw [e126 V _ 53 _ h53 (by decide) (by decide)]
  refine m_range (g := cd.gr) hθ hU hla p1 (by rw [mS_ne (by omega)]; exact q1) ?_
  intro y hy
  rw [show (1 : Int32) = nI 1 from rfl, pk_sub (by omega)] at hy
  subst hy
  -- the end: heights and the curve
  have fin : ∀ W, (∀ z, z ≠ tb θ + 161 → W z = V z) → (∀ j, j < (crF p bk cd s).n → W (tb θ + 161) j = nO ((crF p bk cd s).nu j)) → (crF p bk cd s).s.2 = false → wp_M_heights θ (tb θ + 126) (nI (crF p bk cd s).n) (mS θ W (crF p bk cd s).s) U (fun V_36 U_37 => ∃ n, wl_M_curveOf_309 θ (tb θ + 126) (nI ch) (nI (crF p bk cd s).n) K n (0 : Int32) V_36 U_37) := by
    intro W w1 w2 ho
    rw [ho] at hu
    have hu' : crU p bk cd s = true := hu
    rw [hu'] at h
    obtain ⟨n1, n2, n3⟩ := nuF_in (fun k hk => (hbk k hk).1) hcp' hs1 ho
    have n1' : (crF p bk cd s).n = cd.N := n1
    rw [n1']
    refine m_heights (gr := cd.gr) (N := cd.N) (pl := cd.pl) (num := num1 p bk cd (rdS p 1 s)) hθ hU hla (e126 W _ 53 (nI la) (by rw [w1 _ (by omega)]; exact h53) (by decide) (by decide)) n2 ?_ (fun i hi => ?_) (fun i hi => ?_) (fun Y y1 y2 => ?_)
    · rw [mS_ne (by omega), w1 _ (by omega)]; exact q1
    · rw [mS_ne (by omega), w1 _ (by omega)]; exact q6 i hi
    · rw [mS_ne (by omega), w2 i (by omega), show (crF p bk cd s).nu i = _ from n3 i hi]; rfl
    · have Y126 : ∀ j, Y (tb θ + 126) j = mS θ W (crF p bk cd s).s (tb θ + 126) j := fun j => by rw [y1 _ (by omega) (by omega)]
      refine loop1 (sz / 2) (fun x V1 => (∀ q, q ≠ tb θ + 159 → V1 q = Y q) ∧ (∀ j, j < x → V1 (tb θ + 159) (32 * ch + j) = nI (crX p bk cd s j)) ∧ ∀ j, (j < 32 * ch ∨ 32 * ch + x ≤ j) → V1 (tb θ + 159) j = Y (tb θ + 159) j) ⟨fun _ _ => rfl, fun j hj => (by omega), fun _ _ => rfl⟩ (fun f x X hx hJ hgo => ?_) (fun f X hJ => ?_)
      · obtain ⟨x1, x2, x3⟩ := hJ
        have X57 : X (tb θ + 126) 57 = nI sz := by rw [x1 _ (by omega), Y126]; exact e126 W _ 57 (nI sz) (by rw [w1 _ (by omega)]; exact h57) (by decide) (by decide)
        have X53 : X (tb θ + 126) 53 = nI la := by rw [x1 _ (by omega), Y126]; exact e126 W _ 53 (nI la) (by rw [w1 _ (by omega)]; exact h53) (by decide) (by decide)
        show bl_M_curveOf_309 _ _ _ _ _ _ _ _ _
        unfold bl_M_curveOf_309
        simp only [UM hU, IM hθ, true_and, exists_eq_left]
        rw [X57, show (2 : Int32) = nI 2 from rfl, pk_div (by omega) (by decide) (by decide), show (32 : Int32) * nI ch = nI (32 * ch) from pk_mul 32 ch, nI_add]
        refine ⟨by decide, br_f (nI_ge hx (by omega)) ⟨by omega, ?_⟩⟩
        refine m_draw (gr := cd.gr) (N := cd.N) (pl := cd.pl) (num := num1 p bk cd (rdS p 1 s)) (H := (crH p bk cd s).1) (S := (crH p bk cd s).2) hθ hU hla X53 n2 (by omega) ?_ (fun i hi => ?_) (fun i hi => ⟨?_, ?_⟩) (fun i hi => ?_) ⟨(hgS_01 (by decide)).1, (hgS_01 (by decide)).1⟩ ⟨vp_in_nI (by omega) (by decide), fun V52 h52 y hy => ?_⟩
        · rw [x1 _ (by omega), y1 _ (by omega) (by omega), mS_ne (by omega), w1 _ (by omega)]; exact q1
        · rw [x1 _ (by omega), y1 _ (by omega) (by omega), mS_ne (by omega), w1 _ (by omega)]; exact q6 i hi
        · rw [x1 _ (by omega)]; exact (y2 i hi).1
        · have := hgS_lt n2 (m := cd.N - 2) (by omega) i (by omega)
          show (hgS cd.gr cd.pl (num1 p bk cd (rdS p 1 s)) (cd.N - 2)).1 i < 32
          omega
        · rw [x1 _ (by omega)]; exact (y2 i hi).2
        · rw [hy, nI_1, h52, nI_clamp (by omega)]
          refine hgo _ ⟨fun q hq => (up2_ne hq).trans (x1 q hq), fun j hj => ?_, fun j hj => ?_⟩
          · by_cases e : j = x
            · subst e; rw [up2_aa]; rfl
            · rw [up2_ab (by omega)]; exact x2 j (by omega)
          · rw [up2_ab (by omega)]; exact x3 j (by omega)
      · obtain ⟨x1, x2, x3⟩ := hJ
        have X57 : X (tb θ + 126) 57 = nI sz := by rw [x1 _ (by omega), Y126]; exact e126 W _ 57 (nI sz) (by rw [w1 _ (by omega)]; exact h57) (by decide) (by decide)
        show bl_M_curveOf_309 _ _ _ _ _ _ _ _ _
        unfold bl_M_curveOf_309
        simp only [IM hθ, true_and]
        rw [X57, show (2 : Int32) = nI 2 from rfl, pk_div (by omega) (by decide) (by decide)]
        refine ⟨by decide, br_t (nI_le (Nat.le_refl _) (by omega)) ?_⟩
        have hZ : ∀ j, X (tb θ + 126) j = mS θ W (crF p bk cd s).s (tb θ + 126) j := fun j => by rw [x1 _ (by omega)]; exact Y126 j
        have e : mS θ X (crF p bk cd s).s = X := mS_self (by rw [hZ, mS_39]) (by rw [hZ, mS_40])
        have key := h (up2 (up2 X (tb θ + 126) 39 (V (tb θ + 126) 39)) (tb θ + 126) 40 (V (tb θ + 126) 40)) ?_ ?_ ?_
        · have e2 : mS θ (up2 (up2 X (tb θ + 126) 39 (V (tb θ + 126) 39)) (tb θ + 126) 40 (V (tb θ + 126) 40)) (crF p bk cd s).s = X := by
            rw [← e]
            unfold mS
            funext q j
            by_cases hq : q = tb θ + 126
            · subst hq
              by_cases h6 : j = 40
              · subst h6; rw [up2_aa, up2_aa]
              · by_cases h5 : j = 39
                · subst h5; rw [up2_ab (by decide), up2_aa, up2_ab (by decide), up2_aa]
                · simp only [up2_ab h6, up2_ab h5]
            · simp only [up2_ne hq]
          rw [e2] at key
          exact key
        · intro q a1 a2 a3 a4
          by_cases hq : q = tb θ + 126
          · subst hq
            funext j
            by_cases h6 : j = 40
            · subst h6; rw [up2_aa]
            · by_cases h5 : j = 39
              · subst h5; rw [up2_ab (by decide), up2_aa]
              · rw [up2_ab h6, up2_ab h5, hZ, mS_j h5 h6, w1 _ (by omega)]
          · rw [up2_ne hq, up2_ne hq, x1 q a1, y1 q a3 a4, mS_ne hq, w1 q a2]
        · intro _ x hx
          rw [up2_ne (by omega), up2_ne (by omega)]; exact x2 x hx
        · intro x hx
          rw [up2_ne (by omega), up2_ne (by omega), x3 x (by rcases hx with q | q; cases q; exact q), y1 _ (by omega) (by omega), mS_ne (by omega), w1 _ (by omega)]
  have fin0 : ∀ W, (∀ z, z ≠ tb θ + 161 → W z = V z) → (crF p bk cd s).s.2 = true → K 0 (mS θ W (crF p bk cd s).s) U := by
    intro W w1 ho
    rw [ho] at hu
    have hu' : crU p bk cd s = false := hu
    rw [hu'] at h
    exact h W (fun q _ a2 _ _ => w1 q a2) (fun q => Bool.noConfusion q) (fun x _ => by rw [w1 _ (by omega)])
  -- one kind of part
  have part : ∀ (q k : Nat) (kb : Int32 → Int32 → VT → UT → Prop) (z7 : Int32), q < cd.C → z7 = bZ (cd.sp q) → ∀ r i o x W, i + r = cd.sz q → x.n + r ≤ 14 → (∀ z, z ≠ tb θ + 161 → W z = V z) → (∀ j, j < x.n → W (tb θ + 161) j = nO (x.nu j)) → x.s.1 ≤ 8 * p.L → (∀ e, o = some e → e < 8) → (cd.sp q = false → o = some 0) → (∀ W', (∀ z, z ≠ tb θ + 161 → W' z = V z) → (∀ j, j < (nvI p bk cd q r o x).n → W' (tb θ + 161) j = nO ((nvI p bk cd q r o x).nu j)) → kb (nI (nvI p bk cd q r o x).n) (nI (k + 1)) (mS θ W' (nvI p bk cd q r o x).s) U) → wl_M_curveOf_181 θ (tb θ + 126) (nI ch) (nI k) (nI q) z7 kb K (r + 1) (nI x.n) (nO o) (nI i) (mS θ W x.s) U := by
    intro q k kb z7 hq hz7 r
    obtain ⟨z1, z2, z3, z4, z5⟩ := p5 q hq
    obtain ⟨y1, y2, y3, y4, y5⟩ := q4 q hq
    induction r with
    | zero =>
      intro i o x W hi hn w1 w2 hx ho hsp hk
      show bl_M_curveOf_181 _ _ _ _ _ _ _ _ _ _ _ _ _ _
      unfold bl_M_curveOf_181
      simp only [UM hU, IM hθ, true_and, exists_eq_left]
      rw [e126 W _ 53 (nI la) (by rw [w1 _ (by omega)]; exact h53) (by decide) (by decide), i5, nI_add, nI_clamp (show la + 5 + q < 2 ^ 31 by omega), mS_ne (show tb θ + 157 ≠ tb θ + 126 by omega), w1 (tb θ + 157) (by omega), y1]
      refine ⟨by omega, vp_in_nI (by omega) (by decide), br_t (nI_le (by omega) (by omega)) (fun y hy => ?_)⟩
      rw [hy, nI_1]
      unfold nvI at hk
      exact hk W w1 w2
    | succ r ih =>
      intro i o x W hi hn w1 w2 hx ho hsp hk
      have hpW : MP θ W p := hp.eq (by rw [w1 _ (by omega)]) (w1 _ (by omega))
      show bl_M_curveOf_181 _ _ _ _ _ _ _ _ _ _ _ _ _ _
      unfold bl_M_curveOf_181
      simp only [UM hU, IM hθ, true_and, exists_eq_left]
      rw [e126 W _ 53 (nI la) (by rw [w1 _ (by omega)]; exact h53) (by decide) (by decide), i5, i11, show (2 : Int32) * nI q = nI (2 * q) from pk_mul 2 q, nI_add, nI_add, nI_clamp (show la + 5 + q < 2 ^ 31 by omega), mS_ne (show tb θ + 157 ≠ tb θ + 126 by omega), w1 (tb θ + 157) (by omega), y1]
      refine ⟨by omega, vp_in_nI (by omega) (by decide), br_f (nI_ge (by omega) (by omega)) ?_⟩
      cases o with
      | none =>
        refine ⟨fun _ y hy => ?_, fun z => absurd (by decide) z⟩
        rw [hy, nI_1]
        unfold nvI at hk
        exact hk W w1 w2
      | some e =>
        have he := ho e rfl
        refine ⟨fun z => absurd z (nI_pos (by omega)), fun _ => ?_⟩
        have esb : V (tb θ + 157) (la + 11 + 2 * q + e % 2) = nO (cd.sb q (e % 2)) := by
          have : e % 2 = 0 ∨ e % 2 = 1 := by omega
          rcases this with w | w
          · rw [w]; exact y4
          · rw [w]
            refine y5 ?_
            cases hsp' : cd.sp q
            · have := hsp hsp'
              cases this
              cases w
            · rfl
        have put : ∀ (o' : Option Nat) (s' : RS), s'.1 ≤ 8 * p.L → (∀ W', (∀ z, z ≠ tb θ + 161 → W' z = V z) → (∀ j, j < (nvI p bk cd q r (some (e / 2)) (x.n + 1, s', upO x.nu x.n o')).n → W' (tb θ + 161) j = nO ((nvI p bk cd q r (some (e / 2)) (x.n + 1, s', upO x.nu x.n o')).nu j)) → kb (nI (nvI p bk cd q r (some (e / 2)) (x.n + 1, s', upO x.nu x.n o')).n) (nI (k + 1)) (mS θ W' (nvI p bk cd q r (some (e / 2)) (x.n + 1, s', upO x.nu x.n o')).s) U) → ∀ V87, V87 = up2 (mS θ W s') (tb θ + 161) (nI x.n).toNatClampNeg (nO o') → ∀ y88, y88 = nI x.n + (1 : Int32) → ∀ y89, y89 = nI i + (1 : Int32) → wl_M_curveOf_181 θ (tb θ + 126) (nI ch) (nI k) (nI q) z7 kb K (r + 1) y88 (nI (e / 2)) y89 V87 U := by
          intro o' s' hs' hk' V87 h87 y88 e88 y89 e89
          rw [nI_clamp (by omega), mS_up (by omega)] at h87
          rw [h87, e88, e89, nI_1, nI_1]
          refine ih (i + 1) (some (e / 2)) (x.n + 1, s', upO x.nu x.n o') _ (by omega) (show x.n + 1 + r ≤ 14 by omega) (fun z hz => by rw [up2_ne hz]; exact w1 z hz) (fun j hj => ?_) hs' (fun e' he' => by cases he'; omega) (fun hsp' => ?_) hk'
          · show _ = nO (if j = x.n then o' else x.nu j)
            by_cases ej : j = x.n
            · rw [if_pos ej, ej, up2_aa]
            · have hj' : j < x.n + 1 := hj
              rw [if_neg ej, up2_ab ej]; exact w2 j (by omega)
          · have := hsp hsp'
            cases this; rfl
        have two : ∀ ix : Nat, ix = e % 2 → ∀ z8, z8 = nI (e / 2) → ∀ m : Int32, m = nO (cd.sb q (e % 2)) → wb_M_curveOf_252 θ (tb θ + 126) (nI ch) (nI x.n) (nI k) (nI q) z7 (nI i) m z8 kb (wl_M_curveOf_181 θ (tb θ + 126) (nI ch) (nI k) (nI q) z7 kb K (r + 1)) K (mS θ W x.s) U := by
          intro ix hix z8 hz8 m hm
          subst hz8 hm
          unfold wb_M_curveOf_252
          simp only [UM hU, IM hθ, true_and, exists_eq_left]
          unfold nvI at hk
          cases hsb : cd.sb q (e % 2) with
          | none =>
            rw [hsb] at hk
            exact ⟨by omega, fun z => absurd z (by decide), fun _ => ⟨vp_in_nI (by omega) (by decide), put (some 0) x.s hx hk⟩⟩
          | some m =>
            rw [hsb] at hk
            have hm : m < B := by
              have : e % 2 = 0 ∨ e % 2 = 1 := by omega
              rcases this with w | w
              · rw [w] at hsb; exact z4 m hsb
              · rw [w] at hsb
                refine z5 ?_ m hsb
                cases hsp' : cd.sp q
                · have := hsp hsp'
                  cases this
                  cases w
                · rfl
            obtain ⟨hb1, hb2⟩ := hbk m hm
            refine ⟨by omega, fun _ => ?_, fun z => absurd (nI_pos' (by omega)) z⟩
            refine m_pick hθ hU hpW (by omega) hb1 (hb2.eq (fun a _ _ => w1 _ (by omega))) hx ⟨vp_in_nI (by omega) (by decide), put _ _ (pkR_ok hx) hk⟩
        have one : ∀ ix : Nat, ix = e % 2 → wb_M_curveOf_234 θ (tb θ + 126) (nI ch) (nI x.n) (nI k) (nI q) z7 (nI e) (nI i) (nI ix) (nI (la + 11 + 2 * q)) (tb θ + 157) kb (wl_M_curveOf_181 θ (tb θ + 126) (nI ch) (nI k) (nI q) z7 kb K (r + 1)) K (mS θ W x.s) U := by
          intro ix hix
          unfold wb_M_curveOf_234
          simp only [UM hU, IM hθ, true_and, exists_eq_left, nI_add]
          rw [nI_clamp (show la + 11 + 2 * q + ix < 2 ^ 31 by omega), mS_ne (show tb θ + 157 ≠ tb θ + 126 by omega), w1 (tb θ + 157) (by omega), hix, esb]
          refine ⟨vp_in_nI (by omega) (by decide), fun y76 e76 => ⟨fun z => ?_, fun z => ?_⟩⟩
          · have hsp' : cd.sp q = false := bZ_0.1 (hz7.symm.trans z)
            have := hsp hsp'
            cases this
            exact two 0 rfl (nI 0) rfl y76 e76
          · exact two _ rfl _ (pk_shrN (by omega) _ 1 (by decide)) y76 e76
        refine ⟨fun z => ?_, fun z => ?_⟩
        · have hsp' : cd.sp q = false := bZ_0.1 (hz7.symm.trans z)
          have := hsp hsp'
          cases this
          exact one 0 rfl
        · have e1 : nO (some e) &&& (1 : Int32) = nI (e % 2) := pk_andN (by omega) (m := 1) 1 (by decide)
          rw [e1]
          exact one _ rfl
  -- the parts
  have parts : ∀ W, (∀ z, z ≠ tb θ + 161 → W z = V z) → (∀ j, j < 2 → W (tb θ + 161) j = nO ((nu0 p cd (rdS p 1 s)).nu j)) → ∃ n, wl_M_curveOf_90 θ (tb θ + 126) (nI ch) K n (2 : Int32) (0 : Int32) (mS θ W (nu0 p cd (rdS p 1 s)).s) U := by
    intro W w1 w2
    refine loop2 (a := (2 : Int32)) cd.P (fun k b V1 => b = nI (nvP p bk cd (nu0 p cd (rdS p 1 s)) k).n ∧ ∃ X, V1 = mS θ X (nvP p bk cd (nu0 p cd (rdS p 1 s)) k).s ∧ (∀ z, z ≠ tb θ + 161 → X z = V z) ∧ ∀ j, j < (nvP p bk cd (nu0 p cd (rdS p 1 s)) k).n → X (tb θ + 161) j = nO ((nvP p bk cd (nu0 p cd (rdS p 1 s)) k).nu j)) ⟨rfl, W, rfl, w1, w2⟩ (fun f k b V1 hk hJ hgo => ?_) (fun f b V1 hJ => ?_)
    · obtain ⟨rfl, X, rfl, x1, x2⟩ := hJ
      have hpX : MP θ X p := hp.eq (by rw [x1 _ (by omega)]) (x1 _ (by omega))
      obtain ⟨n1, n2, n3, n4⟩ := nvP_ok (p := p) (bk := bk) (c := cd) (nu0_ok (c := cd) hs1) k
      have e2 : (nu0 p cd (rdS p 1 s)).n = 2 := rfl
      have hcl := p4 k hk
      obtain ⟨z1, z2, z3, z4, z5⟩ := p5 _ hcl
      obtain ⟨y1, y2, y3, y4, y5⟩ := q4 _ hcl
      have hsm : smN (fun k => cd.sz (cd.cl k)) (k + 1) ≤ smN (fun k => cd.sz (cd.cl k)) cd.P := smN_mono (by omega)
      have hsm' : smN (fun k => cd.sz (cd.cl k)) (k + 1) = smN (fun k => cd.sz (cd.cl k)) k + cd.sz (cd.cl k) := rfl
      show bl_M_curveOf_90 _ _ _ _ _ _ _ _ _
      unfold bl_M_curveOf_90
      simp only [UM hU, IM hθ, true_and, exists_eq_left]
      rw [e126 X _ 53 (nI la) (by rw [x1 _ (by omega)]; exact h53) (by decide) (by decide), i1, i2, i7, nI_add, nI_clamp (show la + 1 < 2 ^ 31 by omega), nI_clamp (show la + 2 + k < 2 ^ 31 by omega), mS_ne (show tb θ + 157 ≠ tb θ + 126 by omega), x1 (tb θ + 157) (by omega), q2, q3 k hk]
      refine ⟨by omega, vp_in_nI (by omega) (by decide), br_f (nI_ge hk (by omega)) ⟨vp_in_nI (by omega) (by decide), fun y hy => ?_⟩⟩
      subst hy
      rw [nI_add, nI_clamp (show la + 7 + cd.cl k < 2 ^ 31 by omega), y2]
      have eP : nvP p bk cd (nu0 p cd (rdS p 1 s)) (k + 1) = if cd.sp (cd.cl k) = true then nvI p bk cd (cd.cl k) (cd.sz (cd.cl k)) (pkR p (bk (cd.ms (cd.cl k))) (nvP p bk cd (nu0 p cd (rdS p 1 s)) k).s).1 ((nvP p bk cd (nu0 p cd (rdS p 1 s)) k).n, (pkR p (bk (cd.ms (cd.cl k))) (nvP p bk cd (nu0 p cd (rdS p 1 s)) k).s).2, (nvP p bk cd (nu0 p cd (rdS p 1 s)) k).nu) else nvI p bk cd (cd.cl k) (cd.sz (cd.cl k)) (some 0) (nvP p bk cd (nu0 p cd (rdS p 1 s)) k) := rfl
      unfold wb_M_curveOf_146
      simp only [UM hU, IM hθ, true_and, exists_eq_left]
      refine ⟨vp_in_nI (by omega) (by decide), fun z => ?_, fun z => ?_⟩
      · have hsp : cd.sp (cd.cl k) = false := by
          cases e : cd.sp (cd.cl k)
          · rfl
          · rw [e] at z; exact absurd rfl z
        rw [if_neg (by rw [hsp]; decide)] at eP
        refine ⟨fun _ => ⟨_, part (cd.cl k) k _ 0 hcl (by rw [hsp]; rfl) (cd.sz (cd.cl k)) 0 (some 0) (nvP p bk cd (nu0 p cd (rdS p 1 s)) k) X (by omega) (by omega) x1 x2 n1 (fun e he => by cases he; decide) (fun _ => rfl) (fun W' a b => ?_)⟩, fun w => absurd trivial w⟩
        exact hgo _ _ ⟨by rw [eP], W', by rw [eP], a, by rw [eP]; exact b⟩
      · have hsp : cd.sp (cd.cl k) = true := bZ_1.1 z
        rw [if_pos hsp] at eP
        have hm := z3 hsp
        obtain ⟨hb1, hb2⟩ := hbk _ hm
        refine ⟨fun w => absurd w (by decide), fun _ => ⟨by omega, ?_⟩⟩
        rw [e126 X _ 53 (nI la) (by rw [x1 _ (by omega)]; exact h53) (by decide) (by decide), i9, nI_add, nI_clamp (show la + 9 + cd.cl k < 2 ^ 31 by omega), mS_ne (show tb θ + 157 ≠ tb θ + 126 by omega), x1 (tb θ + 157) (by omega), y3 hsp]
        refine ⟨vp_in_nI (by omega) (by decide), m_pick hθ hU hpX (by omega) hb1 (hb2.eq (fun a _ _ => x1 _ (by omega))) n1 ?_⟩
        refine ⟨_, part (cd.cl k) k _ 1 hcl (by rw [hsp]; rfl) (cd.sz (cd.cl k)) 0 (pkR p (bk (cd.ms (cd.cl k))) (nvP p bk cd (nu0 p cd (rdS p 1 s)) k).s).1 ((nvP p bk cd (nu0 p cd (rdS p 1 s)) k).n, (pkR p (bk (cd.ms (cd.cl k))) (nvP p bk cd (nu0 p cd (rdS p 1 s)) k).s).2, (nvP p bk cd (nu0 p cd (rdS p 1 s)) k).nu) X (by omega) (show (nvP p bk cd (nu0 p cd (rdS p 1 s)) k).n + _ ≤ 14 by omega) x1 x2 (pkR_ok n1) (fun e he => ?_) (fun w => by rw [hsp] at w; cases w) (fun W' a b => ?_)⟩
        · have := (pkR_some he).1
          have := hb1.2.1
          omega
        · exact hgo _ _ ⟨by rw [eP], W', by rw [eP], a, by rw [eP]; exact b⟩
    · obtain ⟨rfl, X, rfl, x1, x2⟩ := hJ
      show bl_M_curveOf_90 _ _ _ _ _ _ _ _ _
      unfold bl_M_curveOf_90
      simp only [UM hU, IM hθ, true_and, exists_eq_left]
      rw [e126 X _ 53 (nI la) (by rw [x1 _ (by omega)]; exact h53) (by decide) (by decide), i1, nI_clamp (show la + 1 < 2 ^ 31 by omega), mS_ne (show tb θ + 157 ≠ tb θ + 126 by omega), x1 (tb θ + 157) (by omega), q2, mS_40]
      refine ⟨by omega, vp_in_nI (by omega) (by decide), br_t (nI_le (Nat.le_refl _) (by omega)) ⟨fun z => ?_, fun z => ?_⟩⟩
      · exact fin X x1 x2 (bZ_0.1 z)
      · refine fin0 X x1 ?_
        cases e : (nvP p bk cd (nu0 p cd (rdS p 1 s)) cd.P).s.2
        · rw [e] at z; exact absurd rfl z
        · exact e
  -- the first two numbers
  have first : ∀ b : Nat, b = nbG cd.gr → ∃ n, wl_M_curveOf_46 θ (tb θ + 126) (nI ch) (nI (rgG cd.gr - 1)) (nI b) K n (0 : Int32) (mS θ V (rdS p 1 s)) U := by
    intro b hb
    subst hb
    refine loop1 2 (fun k V1 => ∃ W, V1 = mS θ W (itS p (nbG cd.gr) (rdS p 1 s) k) ∧ (∀ z, z ≠ tb θ + 161 → W z = V z) ∧ ∀ j, j < k → W (tb θ + 161) j = nO ((nu0 p cd (rdS p 1 s)).nu j)) ⟨V, rfl, fun _ _ => rfl, fun j hj => (by omega)⟩ (fun f k V1 hk hJ hgo => ?_) (fun f V1 hJ => ?_)
    · obtain ⟨W, rfl, w1, w2⟩ := hJ
      have hpW : MP θ W p := hp.eq (by rw [w1 _ (by omega)]) (w1 _ (by omega))
      show bl_M_curveOf_46 _ _ _ _ _ _ _ _ _ _
      unfold bl_M_curveOf_46
      simp only [IM hθ, true_and]
      refine br_f (nI_ge (b := 2) hk (by decide)) (m_read hθ hU hpW (itS_ok hs1 k) (by omega) ?_)
      simp only [UM hU, IM hθ, true_and, exists_eq_left]
      have hrl := rdV_lt p (nbG cd.gr) (itS p (nbG cd.gr) (rdS p 1 s) k)
      have h25 : 2 ^ nbG cd.gr ≤ 2 ^ 5 := p2le hnb
      have go : ∀ z : Int32, z = nI (min (rdV p (nbG cd.gr) (itS p (nbG cd.gr) (rdS p 1 s) k)) (rgG cd.gr - 1)) → ∀ V22, V22 = up2 (mS θ W (rdS p (nbG cd.gr) (itS p (nbG cd.gr) (rdS p 1 s) k))) (tb θ + 161) (nI k).toNatClampNeg z → ∀ y : Int32, y = nI k + 1 → wl_M_curveOf_46 θ (tb θ + 126) (nI ch) (nI (rgG cd.gr - 1)) (nI (nbG cd.gr)) K f y V22 U := by
        intro z hz V22 h22 y hy
        rw [nI_clamp (by omega), mS_up (by omega), hz] at h22
        rw [h22, hy, nI_1]
        refine hgo _ ⟨_, rfl, fun z hz => (up2_ne hz).trans (w1 z hz), fun j hj => ?_⟩
        by_cases e : j = k
        · subst e
          rw [up2_aa]
          show _ = nO (if j = 0 then _ else _)
          have : j = 0 ∨ j = 1 := by omega
          rcases this with rfl | rfl
          · rw [if_pos rfl]; rfl
          · rw [if_neg (by decide)]; rfl
        · rw [up2_ab e]; exact w2 j (by omega)
      refine ⟨by omega, pk_le _ _ (fun q => ⟨vp_in_nI (by omega) (by decide), go _ (by rw [Nat.min_eq_left q])⟩) (fun q => ⟨vp_in_nI (by omega) (by decide), go _ (by rw [Nat.min_eq_right (by omega)])⟩)⟩
    · obtain ⟨W, rfl, w1, w2⟩ := hJ
      show bl_M_curveOf_46 _ _ _ _ _ _ _ _ _ _
      unfold bl_M_curveOf_46
      exact br_t (by decide) (parts W w1 w2)
  have hg : cd.gr = 0 ∨ cd.gr = 1 ∨ cd.gr = 2 ∨ cd.gr = 3 := by omega
  rcases hg with e | e | e | e
  · have e1 : rgG cd.gr = 32 := by rw [e]; rfl
    rw [e1] at first ⊢
    exact ⟨fun q => absurd (by decide) q, fun _ => first 5 (by rw [e]; rfl)⟩
  · have e1 : rgG cd.gr = 16 := by rw [e]; rfl
    rw [e1] at first ⊢
    exact ⟨fun _ => ⟨fun _ => first 4 (by rw [e]; rfl), fun q => absurd q (by decide)⟩, fun q => absurd q (by decide)⟩
  · have e1 : rgG cd.gr = 12 := by rw [e]; rfl
    rw [e1] at first ⊢
    exact ⟨fun _ => ⟨fun _ => first 4 (by rw [e]; rfl), fun q => absurd q (by decide)⟩, fun q => absurd q (by decide)⟩
  · have e1 : rgG cd.gr = 8 := by rw [e]; rfl
    rw [e1] at first ⊢
    exact ⟨fun _ => ⟨fun q => absurd (by decide) q, fun _ => first 3 (by rw [e]; rfl)⟩, fun q => absurd q (by decide)⟩
end MCURVEOF
