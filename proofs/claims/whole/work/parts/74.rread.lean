theorem lsS_iff (la : Nat → Nat) (n i : Nat) : lsS la n i = true ↔ ∀ j, j < n → i < j → 15 ≤ la j := by
  unfold lsS; exact decide_eq_true_iff
def DS (S : ST) : Prop := ∀ i j s, i < 3 → j < 3 → S.kn i = some s → S.kn j = some s → i = j
section RREAD
variable {θ : TH} {sw : Bool} {U : UT} {V V1 V2 : VT} {S : ST} {k se n r fr : Nat} {w : Nat → Nat} {pg : PG}
theorem s_lastEndOf {K : Int32 → VT → UT → Prop} (hθ : OKt θ) (hU : US θ sw U) (hW : WV θ V n r w) (hP : PGok w r pg) (hk : ∀ x : Int32, (∀ i, i < pg.n → pg.la i < 15 → (nI i = x ↔ lsS pg.la pg.n i = true)) → K x V U) : wp_R_lastEndOf θ (tb θ + 27) (nI pg.pl) (nI pg.n) V U K := by
  obtain ⟨P1, P2, P3, P4, P5, P6, P7, P8, P9, P10, P11⟩ := hP
  have hn := hW.2.1
  have hrn := hW.2.2.2.1
  have hA := pgA_0 pg pg.n
  unfold wp_R_lastEndOf
  intro y hy
  have key : ∀ m, m ≤ pg.n → (∀ i, m ≤ i → i < pg.n → 15 ≤ pg.la i) → wl_R_lastEndOf_4 θ (tb θ + 27) (nI pg.pl) K (m + 1) (nI m + (-1)) V U := by
    intro m
    induction m with
    | zero =>
      intro _ hall
      show bl_R_lastEndOf_4 _ _ _ _ _ _ _ _
      unfold bl_R_lastEndOf_4
      exact br_t (by decide) (hk (-1) (fun i hi hl => absurd (hall i (by omega) hi) (by omega)))
    | succ m ih =>
      intro hm hall
      show bl_R_lastEndOf_4 _ _ _ _ _ _ _ _
      unfold bl_R_lastEndOf_4
      simp only [UC hU, IC hθ, true_and]
      rw [pk_m1, show nI pg.pl + (14 : Int32) = nI (pg.pl + 14) from nI_add _ 14, nI_add]
      refine br_f (nI_pos (by omega)) ⟨by omega, s_at hθ hU hW _ (by omega) ?_⟩
      rw [bw_in (by omega), (P2 m (by omega)).1]
      have hla := (P2 m (by omega)).2
      refine pk_le 15 (pg.la m) (fun q z hz => ?_) (fun q => hk (nI m) (fun i hi hl => ?_))
      · rw [hz]
        exact ih (by omega) (fun i h1 h2 => by
          by_cases e : i = m
          · subst e; exact q
          · exact hall i (by omega) h2)
      · rw [nI_eq (by omega) (by omega), lsS_iff]
        constructor
        · rintro rfl j hj hij; exact hall j (by omega) hj
        · intro h
          by_cases e : i = m
          · exact e
          · by_cases e2 : i < m
            · exact absurd (h m (by omega) e2) (by omega)
            · exact absurd (hall i (by omega) hi) (by omega)
  have e : nI pg.n - (1 : Int32) = nI pg.n + (-1) := Int32.sub_eq_add_neg _ _
  rw [hy, e]
  exact ⟨_, key pg.n (Nat.le_refl _) (fun i h1 h2 => absurd h1 (by omega))⟩
theorem feS_le (la : Nat → Nat) : ∀ m i, feS la m i ≤ i + m
  | 0, i => Nat.le_refl _
  | m + 1, i => by
    unfold feS
    split
    · omega
    · have := feS_le la m (i + 1); omega
theorem s_afterFirstEnd {K : Int32 → VT → UT → Prop} (hθ : OKt θ) (hU : US θ sw U) (hW : WV θ V n r w) (hP : PGok w r pg) (hk : K (nI (feS pg.la pg.n 0)) V U) : wp_R_afterFirstEnd θ (tb θ + 27) (nI pg.pl) (nI pg.n) V U K := by
  obtain ⟨P1, P2, P3, P4, P5, P6, P7, P8, P9, P10, P11⟩ := hP
  have hn := hW.2.1
  have hrn := hW.2.2.2.1
  have hA := pgA_0 pg pg.n
  have key : ∀ d i, i + d = pg.n → K (nI (feS pg.la d i)) V U → wl_R_afterFirstEnd_2 θ (tb θ + 27) (nI pg.pl) (nI pg.n) K (d + 1) (nI i) V U := by
    intro d
    induction d with
    | zero =>
      intro i e hK
      show bl_R_afterFirstEnd_2 _ _ _ _ _ _ _ _ _
      unfold bl_R_afterFirstEnd_2
      have : i = pg.n := by omega
      subst this
      exact br_t (nI_le (Nat.le_refl _) (by omega)) hK
    | succ d ih =>
      intro i e hK
      show bl_R_afterFirstEnd_2 _ _ _ _ _ _ _ _ _
      unfold bl_R_afterFirstEnd_2
      simp only [UC hU, IC hθ, true_and]
      rw [show nI pg.pl + (14 : Int32) = nI (pg.pl + 14) from nI_add _ 14, nI_add]
      refine br_f (nI_ge (by omega) (by omega)) ⟨by omega, s_at hθ hU hW _ (by omega) ?_⟩
      rw [bw_in (by omega), (P2 i (by omega)).1]
      have hla := (P2 i (by omega)).2
      unfold feS at hK
      refine pk_le 15 (pg.la i) (fun q z hz => ?_) (fun q => ?_)
      · rw [if_neg (by omega)] at hK
        rw [hz, nI_1]
        exact ih (i + 1) (by omega) hK
      · rw [if_pos q] at hK
        rw [nI_1]; exact hK
  exact ⟨_, key pg.n 0 (by omega) hk⟩
theorem s_takeSegments {K : VT → UT → Prop} (hθ : OKt θ) (hU : US θ sw U) (hW : WV θ V n r w) (hk3 : k < 3) (hP : PGok w r pg) (hC : CRd θ V S pg.se) (hl : S.ev.length ≤ 1) (hkn : S.kn k = some pg.se) (hu : 16 * (S.un k).length ≤ pg.pl)
    (hk : ∀ V2, FRr θ V V2 → CRd θ V2 (runS pg k (cutS pg k S).2 pg.n (cutS pg k S).1) pg.se → K V2 U) : wp_R_takeSegments θ (tb θ + 27) (tb θ + (33 + 3 * k)) (nI pg.pl) (nI pg.fl) V U K := by
  obtain ⟨⟨i1, i2, i3, i4, i5, i6, i7⟩, -⟩ := ib_k hθ hU hk3
  have hP' := hP
  obtain ⟨P1, P2, P3, P4, P5, P6, P7, P8, P9, P10, P11⟩ := hP
  have hn := hW.2.1
  have hrn := hW.2.2.2.1
  have hA := pgA_0 pg pg.n
  obtain ⟨b1, b2, b4⟩ := fl_bits P7
  have ck := hC.1 k hk3
  have kp1 := ck.2.1.1
  have hlen := ck.2.2
  -- all that follows
  have fin : ∀ (W : VT) (S2 : ST) (fr : Nat), cutS pg k S = (S2, fr) → FRr θ V W → CRd θ W S2 pg.se → S2.ev.length ≤ 1 → S2.kn k = some pg.se → 16 * (S2.un k).length ≤ pg.pl → fr ≤ 100 → wb_R_takeSegments_64 θ (tb θ + 27) (tb θ + (33 + 3 * k)) (nI pg.pl) (nI pg.n) (nI fr) K W U := by
    intro W S2 fr hcut f1 h1 h2 h3 h4 h5
    rw [hcut] at hk
    unfold wb_R_takeSegments_64
    simp only [IC hθ, true_and]
    refine s_lastEndOf hθ hU (f1.wv hW) hP' (fun x hx y hy => ?_)
    rw [show nI pg.pl + (14 : Int32) = nI (pg.pl + 14) from nI_add _ 14, nI_add] at hy
    rw [hy]
    exact s_run hθ hU (f1.wv hW) hk3 hP' h1 h2 h3 h4 hx h5 (fun V2 f2 c2 => hk V2 (f1.trans f2) c2)
  unfold wp_R_takeSegments
  simp only [UC hU, IC hθ, true_and]
  rw [show nI pg.pl + (13 : Int32) = nI (pg.pl + 13) from nI_add _ 13]
  refine ⟨by omega, s_at hθ hU hW _ (by omega) ?_⟩
  rw [bw_in (by omega), P3]
  simp only [i1, i2, i3, true_and, kp1]
  refine ⟨fun q => ⟨by omega, ?_⟩, fun q => ?_⟩
  · have q1 : ¬ pg.fl % 2 = 0 := fun h => q (b1.mpr h)
    refine pk_eq (S.un k).length 0 (fun he => ?_) (fun he => ?_) |>.symm
    · have he : S.un k = [] := List.length_eq_zero_iff.mp he
      refine pk_le pg.n 0 (fun hn0 => ?_) (fun hn0 => ?_)
      · refine fin V S 0 ?_ FRr.refl hC hl hkn hu (by omega)
        unfold cutS; rw [if_neg q1, if_neg (by omega)]
      · refine s_afterFirstEnd hθ hU hW hP' (fun W eW => ?_)
        have hfe := feS_le pg.la pg.n 0
        refine fin W (pcS S) (feS pg.la pg.n 0) ?_ ?_ ?_ hl hkn hu (by omega)
        · unfold cutS; rw [if_neg q1, if_pos ⟨he, hn0⟩]
        · refine ⟨fun q hq => by rw [eW, up2_ne (by omega)], by rw [eW, up2_ab (by decide)]⟩
        · obtain ⟨c1, c2, c3, c4⟩ := hC
          have bb : ∀ q, q ≠ tb θ + 27 → W q = V q := fun q hq => by rw [eW, up2_ne hq]
          refine ⟨fun j hj => (c1 j hj).of (bb _ (by omega)) (bb _ (by omega)) (bb _ (by omega)) rfl rfl rfl rfl, ?_, ?_, fun j hj => (c4 j hj).of (bb _ (by omega)) (bb _ (by omega)) (bb _ (by omega))⟩
          · rw [eW, up2_ab (by decide)]; exact c2
          · rw [eW, up2_aa, c3, nI_1]; rfl
    · refine fin V S 0 ?_ FRr.refl hC hl hkn hu (by omega)
      have he : ¬ S.un k = [] := fun h => he (by rw [h]; rfl)
      unfold cutS; rw [if_neg q1, if_neg (fun h => he h.1)]
  · have q1 : pg.fl % 2 = 0 := b1.mp q
    refine s_drop hθ hU hk3 hC (by omega) (fun W f1 h1 => ?_)
    refine fin W (dropS k S) 0 ?_ f1 h1 ?_ ?_ ?_ (by omega)
    · unfold cutS; rw [if_pos q1]
    · rw [drop_kn.2.2.2]; exact hl
    · rw [drop_kn.1]; exact hkn
    · unfold dropS
      split
      · exact hu
      · show 16 * (fu S.un k [] k).length ≤ _; rw [fu_a]; exact Nat.zero_le _
/-- which inbox takes a serial -/
theorem s_inboxOf {K : Nat → VT → UT → Prop} (hθ : OKt θ) (hU : US θ sw U) (hc : ∀ k, k < 3 → CIn θ V k S) (hse : se < 256) (hk : ∀ a, ((fndS S se = none ∧ a = 0) ∨ ∃ k, k < 3 ∧ fndS S se = some k ∧ a = tb θ + (33 + 3 * k)) → K a V U) : wp_R_inboxOf θ (tb θ + 27) (nI se) V U K := by
  have hst : ∀ (k a : Nat) (kb : Nat → Int32 → VT → UT → Prop), k < 3 → (S.kn k = some se → K (tb θ + (33 + 3 * k)) V U) → (S.kn k ≠ none → S.kn k ≠ some se → kb a (nI (k + 1)) V U) → (S.kn k = none → kb (tb θ + (33 + 3 * k)) (nI (k + 1)) V U) → bl_R_inboxOf_4 θ (tb θ + 27) (nI se) K kb a (nI k) V U := by
    intro k a kb hk3 h1 h2 h3
    obtain ⟨⟨i1, i2, i3, i4, i5, i6, i7⟩, hu⟩ := ib_k hθ hU hk3
    have ck := (hc k hk3).1
    unfold bl_R_inboxOf_4
    simp only [UC hU, IC hθ, true_and, exists_eq_left]
    rw [nI_clamp (by omega), hu]
    refine br_f (nI_ge (a := k) (b := 3) hk3 (by decide)) ⟨by omega, vp_in_nI (by omega) (by decide), by omega, fun b hb => ?_⟩
    subst hb
    refine ⟨i1, ?_⟩
    rcases ck with ⟨x1, x2⟩ | ⟨s, a1, a2, a3, a4, a5, a6, a7⟩
    · rw [x2]
      refine ⟨fun q => absurd rfl q, fun _ => ⟨by omega, fun z hz => ?_⟩⟩
      rw [hz, nI_1]; exact h3 x1
    · rw [a3, a4]
      refine ⟨fun _ => ?_, fun q => absurd q (by decide)⟩
      refine (pk_eq s se (fun e => ⟨by omega, h1 (by rw [a2, e])⟩) (fun e z hz => ?_)).symm
      rw [hz, nI_1]
      exact h2 (by rw [a2]; simp) (by rw [a2]; simp; exact e)
  unfold wp_R_inboxOf
  refine ⟨4, ?_⟩
  have last : ∀ (a : Nat) , K a V U → wl_R_inboxOf_4 θ (tb θ + 27) (nI se) K 1 a (nI 3) V U := by
    intro a ha
    show bl_R_inboxOf_4 _ _ _ _ _ _ _ _ _
    unfold bl_R_inboxOf_4
    exact br_t (by decide) ha
  refine hst 0 0 _ (by decide) (fun e0 => hk _ (Or.inr ⟨0, by decide, by simp [fndS, e0], rfl⟩)) (fun n0 e0 => ?_) (fun n0 => ?_)
  · refine hst 1 0 _ (by decide) (fun e1 => hk _ (Or.inr ⟨1, by decide, by simp [fndS, e0, e1], rfl⟩)) (fun n1 e1 => ?_) (fun n1 => ?_)
    · refine hst 2 0 _ (by decide) (fun e2 => hk _ (Or.inr ⟨2, by decide, by simp [fndS, e0, e1, e2], rfl⟩)) (fun n2 e2 => ?_) (fun n2 => ?_)
      · exact last _ (hk _ (Or.inl ⟨by simp [fndS, e0, e1, e2, n0, n1, n2], rfl⟩))
      · exact last _ (hk _ (Or.inr ⟨2, by decide, by simp [fndS, e0, e1, n2], rfl⟩))
    · refine hst 2 _ _ (by decide) (fun e2 => hk _ (Or.inr ⟨2, by decide, by simp [fndS, e0, n1, e2], rfl⟩)) (fun n2 e2 => ?_) (fun n2 => ?_)
      · exact last _ (hk _ (Or.inr ⟨1, by decide, by simp [fndS, e0, e2, n1, n2], rfl⟩))
      · exact last _ (hk _ (Or.inr ⟨2, by decide, by simp [fndS, e0, n1, n2], rfl⟩))
  · refine hst 1 _ _ (by decide) (fun e1 => hk _ (Or.inr ⟨1, by decide, by simp [fndS, n0, e1], rfl⟩)) (fun n1 e1 => ?_) (fun n1 => ?_)
    · refine hst 2 _ _ (by decide) (fun e2 => hk _ (Or.inr ⟨2, by decide, by simp [fndS, n0, e1, e2], rfl⟩)) (fun n2 e2 => ?_) (fun n2 => ?_)
      · exact last _ (hk _ (Or.inr ⟨0, by decide, by simp [fndS, n0, e1, e2, n1, n2], rfl⟩))
      · exact last _ (hk _ (Or.inr ⟨2, by decide, by simp [fndS, n0, e1, n2], rfl⟩))
    · refine hst 2 _ _ (by decide) (fun e2 => hk _ (Or.inr ⟨2, by decide, by simp [fndS, n0, n1, e2], rfl⟩)) (fun n2 e2 => ?_) (fun n2 => ?_)
      · exact last _ (hk _ (Or.inr ⟨1, by decide, by simp [fndS, n0, e2, n1, n2], rfl⟩))
      · exact last _ (hk _ (Or.inr ⟨2, by decide, by simp [fndS, n0, n1, n2], rfl⟩))
end RREAD
