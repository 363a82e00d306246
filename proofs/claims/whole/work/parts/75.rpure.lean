def GS (r : Nat) (S : ST) : Prop := DS S ∧ (∀ k, k < 3 → 16 * (S.un k).length ≤ r) ∧ S.ev.length ≤ 8
section RPURE
variable {θ : TH} {sw : Bool} {U : UT} {V V1 V2 : VT} {S : ST} {k se n r fr : Nat} {w : Nat → Nat} {pg : PG}
theorem drop_un : (∀ j, j ≠ k → (dropS k S).un j = S.un j) ∧ (dropS k S).un k = [] := by
  unfold dropS
  by_cases h : S.un k = []
  · rw [if_pos h]; exact ⟨fun _ _ => rfl, h⟩
  · rw [if_neg h]; exact ⟨fun j hj => fu_n hj, fu_a⟩
theorem ent_facts {fl no : Nat} (hkn : S.kn k = none ∨ S.kn k = some se) : (entS k se fl no S).kn k = some se ∧ (∀ j, j ≠ k → (entS k se fl no S).kn j = S.kn j) ∧ (entS k se fl no S).ev.length ≤ S.ev.length + 1 ∧ (∀ j, j ≠ k → (entS k se fl no S).un j = S.un j) ∧ ((entS k se fl no S).un k).length ≤ (S.un k).length := by
  unfold entS
  by_cases h0 : S.kn k = none
  · rw [if_pos h0]
    exact ⟨fu_a, fun j hj => fu_n hj, Nat.le_succ _, fun j hj => fu_n hj, by show (fu S.un k [] k).length ≤ _; rw [fu_a]; exact Nat.zero_le _⟩
  · have h1 : S.kn k = some se := by rcases hkn with h | h; exact absurd h h0; exact h
    rw [if_neg h0]
    by_cases h2 : fl / 2 % 2 = 1
    · rw [if_pos h2]
      refine ⟨?_, fun j hj => ?_, ?_, fun j hj => ?_, ?_⟩
      · show (dropS k S).kn k = _; rw [drop_kn.1]; exact h1
      · show (dropS k S).kn j = _; rw [drop_kn.1]
      · show (dropS k S).ev.length ≤ _; rw [drop_kn.2.2.2]; exact Nat.le_succ _
      · exact drop_un.1 j hj
      · show ((dropS k S).un k).length ≤ _; rw [drop_un.2]; exact Nat.zero_le _
    · rw [if_neg h2]
      by_cases h3 : no ≠ (S.no k + 1) % 256
      · rw [if_pos h3]
        refine ⟨?_, fun j hj => ?_, ?_, fun j hj => ?_, ?_⟩
        · show (dropS k (evS _ S)).kn k = _; rw [drop_kn.1]; exact h1
        · show (dropS k (evS _ S)).kn j = _; rw [drop_kn.1]; rfl
        · show (dropS k (evS _ S)).ev.length ≤ _; rw [drop_kn.2.2.2]; show (S.ev ++ [_]).length ≤ _; rw [List.length_append]; exact Nat.le_refl _
        · show (dropS k (evS _ S)).un j = _; rw [drop_un.1 j hj]; rfl
        · show ((dropS k (evS _ S)).un k).length ≤ _; rw [drop_un.2]; exact Nat.zero_le _
      · rw [if_neg h3]
        exact ⟨h1, fun _ _ => rfl, Nat.le_succ _, fun _ _ => rfl, Nat.le_refl _⟩
theorem fnd_facts : (fndS S se = some k → k < 3 ∧ (S.kn k = some se ∨ (S.kn k = none ∧ ∀ j, j < 3 → S.kn j ≠ some se))) ∧ (fndS S se = none → ∀ j, j < 3 → S.kn j ≠ none ∧ S.kn j ≠ some se) := by
  have h3 : ∀ j, j < 3 → j = 0 ∨ j = 1 ∨ j = 2 := fun j hj => by omega
  unfold fndS
  by_cases a0 : S.kn 0 = some se
  · rw [if_pos a0]
    exact ⟨fun e => by cases e; exact ⟨by decide, Or.inl a0⟩, fun e => by cases e⟩
  · rw [if_neg a0]
    by_cases a1 : S.kn 1 = some se
    · rw [if_pos a1]
      exact ⟨fun e => by cases e; exact ⟨by decide, Or.inl a1⟩, fun e => by cases e⟩
    · rw [if_neg a1]
      by_cases a2 : S.kn 2 = some se
      · rw [if_pos a2]
        exact ⟨fun e => by cases e; exact ⟨by decide, Or.inl a2⟩, fun e => by cases e⟩
      · rw [if_neg a2]
        have hall : ∀ j, j < 3 → S.kn j ≠ some se := by
          intro j hj
          rcases h3 j hj with rfl | rfl | rfl
          · exact a0
          · exact a1
          · exact a2
        by_cases b2 : S.kn 2 = none
        · rw [if_pos b2]
          exact ⟨fun e => by cases e; exact ⟨by decide, Or.inr ⟨b2, hall⟩⟩, fun e => by cases e⟩
        · rw [if_neg b2]
          by_cases b1 : S.kn 1 = none
          · rw [if_pos b1]
            exact ⟨fun e => by cases e; exact ⟨by decide, Or.inr ⟨b1, hall⟩⟩, fun e => by cases e⟩
          · rw [if_neg b1]
            by_cases b0 : S.kn 0 = none
            · rw [if_pos b0]
              exact ⟨fun e => by cases e; exact ⟨by decide, Or.inr ⟨b0, hall⟩⟩, fun e => by cases e⟩
            · rw [if_neg b0]
              refine ⟨fun e => (by cases e), fun _ j hj => ⟨?_, hall j hj⟩⟩
              rcases h3 j hj with rfl | rfl | rfl
              · exact b0
              · exact b1
              · exact b2
theorem cut_facts : (cutS pg k S).1.kn = S.kn ∧ (cutS pg k S).1.ev = S.ev ∧ (∀ j, j ≠ k → (cutS pg k S).1.un j = S.un j) ∧ ((cutS pg k S).1.un k).length ≤ (S.un k).length ∧ (cutS pg k S).2 ≤ pg.n := by
  unfold cutS
  by_cases h : pg.fl % 2 = 0
  · rw [if_pos h]
    exact ⟨drop_kn.1, drop_kn.2.2.2, drop_un.1, by show ((dropS k S).un k).length ≤ _; rw [drop_un.2]; exact Nat.zero_le _, Nat.zero_le _⟩
  · rw [if_neg h]
    by_cases h2 : S.un k = [] ∧ 0 < pg.n
    · rw [if_pos h2]
      exact ⟨rfl, rfl, fun _ _ => rfl, Nat.le_refl _, by have := feS_le pg.la pg.n 0; show feS pg.la pg.n 0 ≤ _; omega⟩
    · rw [if_neg h2]
      exact ⟨rfl, rfl, fun _ _ => rfl, Nat.le_refl _, Nat.zero_le _⟩
/-- the state before the last flag is looked at -/
def midS (pg : PG) (k : Nat) (S : ST) : ST := runS pg k (cutS pg k (entS k pg.se pg.fl pg.no (newS S))).2 pg.n (cutS pg k (entS k pg.se pg.fl pg.no (newS S))).1
theorem mid_facts (hkn : S.kn k = none ∨ S.kn k = some pg.se) (hla : ∀ i, i < pg.n → pg.la i ≤ 15) : (midS pg k S).kn k = some pg.se ∧ (∀ j, j ≠ k → (midS pg k S).kn j = S.kn j) ∧ (midS pg k S).ev.length ≤ 1 + pg.n ∧ (∀ j, j ≠ k → (midS pg k S).un j = S.un j) ∧ 16 * ((midS pg k S).un k).length + (pg.pl + 14) ≤ 16 * (S.un k).length + pgA pg pg.n := by
  obtain ⟨e1, e2, e3, e4, e5⟩ := ent_facts (S := newS S) (k := k) (se := pg.se) (fl := pg.fl) (no := pg.no) hkn
  obtain ⟨c1, c2, c3, c4, c5⟩ := cut_facts (pg := pg) (k := k) (S := entS k pg.se pg.fl pg.no (newS S))
  obtain ⟨r1, r2, r3, r4⟩ := run_kn (pg := pg) (k := k) (fr := (cutS pg k (entS k pg.se pg.fl pg.no (newS S))).2) (S := (cutS pg k (entS k pg.se pg.fl pg.no (newS S))).1) pg.n
  have r4 := r4 hla
  unfold midS
  refine ⟨by rw [r1, c1]; exact e1, fun j hj => ?_, ?_, fun j hj => ?_, ?_⟩
  · rw [r1, c1, e2 j hj]; rfl
  · rw [c2] at r2
    have : (newS S).ev.length = 0 := rfl
    omega
  · rw [r3 j hj, c3 j hj, e4 j hj]; rfl
  · have : ((newS S).un k).length = (S.un k).length := rfl
    omega
theorem pg_none (h : fndS (newS S) pg.se = none) : pgS pg S = evS (mkE 5 (pgA pg pg.n - pg.pl) 65535 false []) (newS S) := by
  unfold pgS; rw [h]
theorem pg_some (h : fndS (newS S) pg.se = some k) : pgS pg S = lastS pg k (midS pg k S) := by
  unfold pgS; rw [h]; rfl
theorem last_facts : (∀ j, j ≠ k → (lastS pg k S).kn j = S.kn j) ∧ ((lastS pg k S).kn k = none ∨ (lastS pg k S).kn k = S.kn k) ∧ (lastS pg k S).ev.length ≤ S.ev.length + 1 ∧ (∀ j, j ≠ k → (lastS pg k S).un j = S.un j) ∧ ((lastS pg k S).un k).length ≤ (S.un k).length := by
  unfold lastS
  by_cases h : pg.fl / 4 % 2 = 1
  · rw [if_pos h]
    refine ⟨fun j hj => ?_, Or.inl fu_a, ?_, fun j hj => ?_, ?_⟩
    · show fu (dropS k S).kn k none j = _; rw [fu_n hj, drop_kn.1]
    · show ((dropS k S).ev ++ [_]).length ≤ _; rw [drop_kn.2.2.2, List.length_append]; exact Nat.le_refl _
    · exact drop_un.1 j hj
    · show ((dropS k S).un k).length ≤ _; rw [drop_un.2]; exact Nat.zero_le _
  · rw [if_neg h]
    exact ⟨fun _ _ => rfl, Or.inr rfl, Nat.le_succ _, fun _ _ => rfl, Nat.le_refl _⟩
/-- a page keeps the state good -/
theorem GS_page (hG : GS pg.pl S) (hP : PGok w r pg) : GS (pgA pg pg.n) (pgS pg S) := by
  obtain ⟨g1, g2, g3⟩ := hG
  have hA := pgA_0 pg pg.n
  obtain ⟨P1, P2, -⟩ := hP
  cases h : fndS (newS S) pg.se with
  | none =>
    rw [pg_none h]
    refine ⟨g1, fun k hk => ?_, by show (1 : Nat) ≤ 8; decide⟩
    have := g2 k hk
    show 16 * (S.un k).length ≤ _
    omega
  | some k =>
    rw [pg_some h]
    obtain ⟨hk3, hkn⟩ := fnd_facts.1 h
    have hkn' : S.kn k = none ∨ S.kn k = some pg.se := by
      rcases hkn with h | h
      · exact Or.inr h
      · exact Or.inl h.1
    obtain ⟨m1, m2, m3, m4, m5⟩ := mid_facts (pg := pg) (k := k) (S := S) hkn' (fun i hi => (P2 i hi).2)
    obtain ⟨l1, l2, l3, l4, l5⟩ := last_facts (pg := pg) (k := k) (S := midS pg k S)
    have hoth : ∀ j, j < 3 → j ≠ k → S.kn j ≠ some pg.se := by
      intro j hj hjk e
      rcases hkn with h | h
      · exact hjk (g1 j k _ hj hk3 e h)
      · exact h.2 j hj e
    have hK : ∀ j s, j < 3 → j ≠ k → (lastS pg k (midS pg k S)).kn j = some s → S.kn j = some s ∧ s ≠ pg.se := by
      intro j s hj hjk e
      rw [l1 j hjk, m2 j hjk] at e
      refine ⟨e, fun hs => hoth j hj hjk ?_⟩
      rw [e, hs]
    have hKk : ∀ s, (lastS pg k (midS pg k S)).kn k = some s → s = pg.se := by
      intro s e
      rcases l2 with h | h
      · rw [h] at e; cases e
      · rw [h, m1] at e; exact (Option.some.inj e).symm
    refine ⟨fun i j s hi hj e1 e2 => ?_, fun j hj => ?_, by omega⟩
    · by_cases hik : i = k
      · by_cases hjk : j = k
        · omega
        · subst hik
          exact absurd (hKk s e1) (hK j s hj hjk e2).2
      · by_cases hjk : j = k
        · subst hjk
          exact absurd (hKk s e2) (hK i s hi hik e1).2
        · exact g1 i j s hi hj (hK i s hi hik e1).1 (hK j s hj hjk e2).1
    · by_cases hjk : j = k
      · subst hjk
        have := g2 j hj
        omega
      · rw [l4 j hjk, m4 j hjk]
        have := g2 j hj
        omega
theorem s_readPage {K : VT → UT → Prop} {se0 : Nat} (hθ : OKt θ) (hU : US θ sw U) (hW : WV θ V n pg.pl w) (hP : PGok w (pgA pg pg.n) pg) (hr : pgA pg pg.n ≤ n) (hC : CRd θ V S se0) (hG : GS pg.pl S)
    (hk : ∀ V2, (∀ q, (q < tb θ + 1 ∨ (tb θ + 2 ≤ q ∧ q < tb θ + 27) ∨ q = tb θ + 30 ∨ tb θ + 66 ≤ q) → V2 q = V q) → WV θ V2 n (pgA pg pg.n) w → V2 (tb θ + 27) 5 = 0 → CRd θ V2 (pgS pg S) pg.se → K V2 U) : wp_R_readPage θ (tb θ + 27) (nI (pgA pg pg.n - pg.pl)) V U K := by
  have hP' := hP
  obtain ⟨P1, P2, P3, P4, P5, P6, P7, P8, P9, P10, P11⟩ := hP
  have hA := pgA_0 pg pg.n
  have hn := hW.2.1
  have hv := hW.2.2.1
  unfold wp_R_readPage
  simp only [UC hU, IC hθ, true_and, hv]
  refine ⟨by omega, fun y hy W1 e1 W2 e2 W3 e3 => ?_⟩
  rw [hy] at e1 ⊢
  rw [nI_add, show pg.pl + (pgA pg pg.n - pg.pl) = pgA pg pg.n by omega] at e1
  have b3 : ∀ q, q ≠ tb θ + 1 → q ≠ tb θ + 27 → W3 q = V q := fun q x y => by rw [e3, up2_ne y, e2, up2_ne y, e1, up2_ne x]
  have hW3 : WV θ W3 n (pgA pg pg.n) w := by
    refine ⟨?_, hn, ?_, hr, fun i hi => ?_⟩
    · rw [e3, up2_ne (by omega), e2, up2_ne (by omega), e1, up2_ab (by decide)]; exact hW.1
    · rw [e3, up2_ne (by omega), e2, up2_ne (by omega), e1, up2_aa]
    · rw [b3 _ (by omega) (by omega)]; exact hW.2.2.2.2 i hi
  have hC3 : CRd θ W3 (newS S) pg.se := by
    obtain ⟨c1, c2, c3, c4⟩ := hC
    refine ⟨fun j hj => (c1 j hj).of (b3 _ (by omega) (by omega)) (b3 _ (by omega) (by omega)) (b3 _ (by omega) (by omega)) rfl rfl rfl rfl, ?_, ?_, fun j hj => absurd hj (by show ¬ j < ([] : List EV).length; simp)⟩
    · rw [e3, up2_ab (by decide), e2, up2_aa]; rfl
    · rw [e3, up2_ab (by decide), e2, up2_ab (by decide), e1, up2_ne (by omega)]; exact c3
  have h5 : W3 (tb θ + 27) 5 = 0 := by rw [e3, up2_aa]
  have out : ∀ W4, FRr θ W3 W4 → CRd θ W4 (pgS pg S) pg.se → K W4 U := by
    intro W4 f4 h4
    refine hk W4 (fun q hq => ?_) (f4.wv hW3) (by rw [f4.2]; exact h5) h4
    rw [f4.1 q (by omega), b3 q (by omega) (by omega)]
  rw [show nI pg.pl + (5 : Int32) = nI (pg.pl + 5) from nI_add _ 5, show nI pg.pl + (4 : Int32) = nI (pg.pl + 4) from nI_add _ 4, show nI pg.pl + (6 : Int32) = nI (pg.pl + 6) from nI_add _ 6]
  refine s_at hθ hU hW3 _ (by omega) ?_
  rw [bw_in (by omega), P4]
  refine s_inboxOf hθ hU hC3.1 P5 (fun a ha => ?_)
  rcases ha with ⟨hf, rfl⟩ | ⟨k, hk3, hf, rfl⟩
  · refine ⟨fun q => absurd rfl q, fun _ => ?_⟩
    refine s_event (kd := 5) (tm := 65535) hθ hU hC3 (by show ([] : List EV).length < 8; decide) (by decide) (fun W4 f4 h4 a ha => ⟨ha, out W4 f4 ?_⟩)
    rw [pg_none hf]; exact h4
  · obtain ⟨-, hkn⟩ := fnd_facts.1 hf
    have hkn' : S.kn k = none ∨ S.kn k = some pg.se := by
      rcases hkn with h | h
      · exact Or.inr h
      · exact Or.inl h.1
    obtain ⟨x1, x2, x3, x4, x5⟩ := ent_facts (S := newS S) (k := k) (se := pg.se) (fl := pg.fl) (no := pg.no) hkn'
    have hun := hG.2.1 k hk3
    obtain ⟨m1, m2, m3, m4, m5⟩ := mid_facts (pg := pg) (k := k) (S := S) hkn' (fun i hi => (P2 i hi).2)
    refine ⟨fun _ => ?_, fun q => absurd q (by omega)⟩
    simp only [UC hU, IC hθ, true_and]
    refine ⟨by omega, s_at hθ hU hW3 _ (by omega) ?_⟩
    simp only [UC hU, IC hθ, true_and]
    refine ⟨by omega, s_at hθ hU hW3 _ (by omega) ?_⟩
    rw [bw_in (by omega), bw_in (by omega), P6, P8]
    refine s_enter hθ hU hk3 hC3 (by show ([] : List EV).length < 8; decide) P5 hkn' P7 P9 (fun W4 f4 h4 => ?_)
    have hl1 : (entS k pg.se pg.fl pg.no (newS S)).ev.length ≤ 1 := x3
    have hu1 : 16 * ((entS k pg.se pg.fl pg.no (newS S)).un k).length ≤ pg.pl := by
      have : ((newS S).un k).length = (S.un k).length := rfl
      omega
    refine s_takeSegments hθ hU (f4.wv hW3) hk3 hP' h4 hl1 x1 hu1 (fun W5 f5 h5 => ?_)
    have h5 : CRd θ W5 (midS pg k S) pg.se := h5
    obtain ⟨b1, b2, b4⟩ := fl_bits P7
    refine ⟨fun q => ?_, fun q => ?_⟩
    · refine out W5 (f4.trans f5) ?_
      rw [pg_some hf]; unfold lastS; rw [if_neg (b4.mp q)]; exact h5
    · have q4 : pg.fl / 4 % 2 = 1 := by
        by_cases h : pg.fl / 4 % 2 = 1
        · exact h
        · exact absurd (b4.mpr h) q
      refine s_drop hθ hU hk3 h5 (by omega) (fun W6 f6 h6 => ?_)
      obtain ⟨⟨i1, -⟩, -⟩ := ib_k hθ hU hk3
      have hct : W6 (tb θ + (33 + 3 * k)) 3 = nI ((midS pg k S).ct k) := by
        rcases (h6.1 k hk3).1 with ⟨a, b⟩ | ⟨s, a1, a2, a3, a4, a5, a6, a7⟩
        · rw [drop_kn.1, m1] at a; cases a
        · rw [a6, drop_kn.2.2.1]
      rw [hct]
      refine ⟨i1, s_event (kd := 4) (tm := 65535) hθ hU h6 (by rw [drop_kn.2.2.2]; omega) (by decide) (fun W7 f7 h7 a ha => ⟨ha, fun W8 e8 => ?_⟩)⟩
      have h8 := h7.off hk3
      rw [← e8] at h8
      refine out W8 (f4.trans (f5.trans (f6.trans (f7.trans h8.1)))) ?_
      rw [pg_some hf]; unfold lastS; rw [if_pos q4]; exact h8.2
end RPURE
