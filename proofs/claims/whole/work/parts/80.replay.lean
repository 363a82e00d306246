def mkP (w : Nat → Nat) (p : Nat) : PG := (p, w (p + 5), w (p + 4), w (p + 6), w (p + 7) + 256 * w (p + 8), w (p + 13), fun i => w (p + 14 + i))
def PLk (w : Nat → Nat) : Nat → List PG → Nat → Prop
  | a, [], r => a ≤ r
  | a, pg :: l, r => a ≤ pg.pl ∧ PGok w (pgA pg pg.n) pg ∧ PLk w (pgA pg pg.n) l r
def fdS (l : List PG) : ST := l.foldl (fun S pg => pgS pg S) st0
section REPLAY
variable {θ : TH} {sw : Bool} {U : UT} {V V1 V2 : VT} {S : ST} {k se n r fr : Nat} {w : Nat → Nat} {pg : PG}
theorem fdS_snoc (l : List PG) (pg : PG) : fdS (l ++ [pg]) = pgS pg (fdS l) := by
  unfold fdS; rw [List.foldl_append]; rfl
theorem PLk.le : ∀ {l : List PG} {a r : Nat}, PLk w a l r → a + 14 * l.length ≤ r
  | [], a, r, h => by
    have h : a ≤ r := h
    simpa using h
  | pg :: l, a, r, h => by
    obtain ⟨h1, h2, h3⟩ := h
    have := PLk.le h3
    have hA := pgA_0 pg pg.n
    rw [List.length_cons]; omega
theorem PLk.snoc : ∀ {l : List PG} {a r r2 : Nat}, PLk w a l r → r ≤ pg.pl → PGok w (pgA pg pg.n) pg → pgA pg pg.n ≤ r2 → PLk w a (l ++ [pg]) r2
  | [], a, r, r2, h, h1, h2, h3 => ⟨Nat.le_trans (show a ≤ r from h) h1, h2, h3⟩
  | q :: l, a, r, r2, h, h1, h2, h3 => ⟨h.1, h.2.1, PLk.snoc h.2.2 h1 h2 h3⟩
theorem PLk.mono : ∀ {l : List PG} {a r r2 : Nat}, PLk w a l r → r ≤ r2 → PLk w a l r2
  | [], a, r, r2, h, h1 => Nat.le_trans (show a ≤ r from h) h1
  | q :: l, a, r, r2, h, h1 => ⟨h.1, h.2.1, PLk.mono h.2.2 h1⟩
theorem PGok.frame {w2 : Nat → Nat} (h : PGok w r pg) (hr : pgA pg pg.n ≤ r) (hw : ∀ i, i < r → w2 i = w i) : PGok w2 r pg := by
  have hA := pgA_0 pg pg.n
  obtain ⟨P1, P2, P3, P4, P5, P6, P7, P8, P9, P10, P11⟩ := h
  refine ⟨P1, fun i hi => ?_, by rw [hw _ (by omega)]; exact P3, by rw [hw _ (by omega)]; exact P4, P5, by rw [hw _ (by omega)]; exact P6, P7, by rw [hw _ (by omega)]; exact P8, P9, by rw [hw _ (by omega), hw _ (by omega)]; exact P10, P11⟩
  rw [hw _ (by omega)]; exact P2 i hi
theorem PLk.frame {w2 : Nat → Nat} : ∀ {l : List PG} {a r : Nat}, PLk w a l r → (∀ i, i < r → w2 i = w i) → PLk w2 a l r
  | [], a, r, h, _ => h
  | q :: l, a, r, h, hw => by
    obtain ⟨h1, h2, h3⟩ := h
    have := PLk.le h3
    exact ⟨h1, h2.frame (Nat.le_refl _) (fun i hi => hw i (by omega)), PLk.frame h3 hw⟩
/-- a good page at a place of the wire -/
theorem PS_page (hb : ∀ i, i < n → w i < 256) {p : Nat} (h : PS n w p 2) : PGok w (p + plen w p) (mkP w p) ∧ p + plen w p ≤ n ∧ pgA (mkP w p) (mkP w p).n = p + plen w p := by
  have h9 : (hdA n w p 0 ∧ (p + 4 < n → w (p + 4) ≤ 7)) ∧ p + 13 < n ∧ w (p + 13) ≤ 6 ∧ lcA n w p (w (p + 13)) 0 ∧ p + plen w p ≤ n := by
    unfold PS at h
    rcases h with h | ⟨h1, h | ⟨h2, h | ⟨h3, h | ⟨h4, h | ⟨h5, h⟩⟩⟩⟩⟩
    · exact absurd h.1 (by decide)
    · exact absurd h.1 (by decide)
    · exact absurd h.1 (by decide)
    · exact absurd h.1 (by decide)
    · exact absurd h.1 (by decide)
    · exact ⟨h1, h2, h3, h4, h5⟩
  obtain ⟨⟨h1, h2⟩, h3, h4, h5, h6⟩ := h9
  have hpl : 14 + w (p + 13) ≤ plen w p := by unfold plen; omega
  have hok : PGok w (pgA (mkP w p) (mkP w p).n) (mkP w p) := by
    refine ⟨h4, fun i hi => ⟨rfl, ?_⟩, rfl, rfl, hb _ (by show p + 5 < n; omega), rfl, ?_, rfl, hb _ (by show p + 6 < n; omega), rfl, Nat.le_refl _⟩
    · have hi : i < w (p + 13) := hi
      exact h5 i (Nat.zero_le _) hi (by omega)
    · have := h2 (by omega)
      show w (p + 4) < 8; omega
  have he := pgA_plen hok
  have he : pgA (mkP w p) (mkP w p).n = p + plen w p := he
  rw [he] at hok
  exact ⟨hok, h6, he⟩
theorem st0_good : GS 0 st0 := ⟨fun i j s _ _ e => (by cases e), fun k _ => Nat.zero_le _, Nat.zero_le _⟩
theorem GS.mono {a b : Nat} (h : GS a S) (hab : a ≤ b) : GS b S := ⟨h.1, fun k hk => Nat.le_trans (h.2.1 k hk) hab, h.2.2⟩
theorem ent_sto (k se fl no : Nat) : stoE (entS k se fl no (newS S)).ev = 0 := by
  unfold entS
  by_cases h0 : (newS S).kn k = none
  · rw [if_pos h0]; rfl
  · rw [if_neg h0]
    by_cases h2 : fl / 2 % 2 = 1
    · rw [if_pos h2]
      show stoE (dropS k (newS S)).ev = 0
      rw [drop_kn.2.2.2]; rfl
    · rw [if_neg h2]
      by_cases h3 : no ≠ ((newS S).no k + 1) % 256
      · rw [if_pos h3]
        show stoE (dropS k (evS _ (newS S))).ev = 0
        rw [drop_kn.2.2.2]; rfl
      · rw [if_neg h3]; rfl
def pg0 : PG := (0, 0, 0, 0, 0, 0, fun _ => 0)
theorem take_step (l : List PG) {j : Nat} (h : j < l.length) : l.take (j + 1) = l.take j ++ [l.getD j pg0] := by
  rw [List.take_succ, List.getD_eq_getElem?_getD, List.getElem?_eq_getElem h]; rfl
theorem PLk.good : ∀ {l : List PG} {a r : Nat} {S0 : ST}, GS a S0 → PLk w a l r → (∀ j, j < l.length → GS (l.getD j pg0).pl ((l.take j).foldl (fun S pg => pgS pg S) S0) ∧ PGok w r (l.getD j pg0)) ∧ GS r (l.foldl (fun S pg => pgS pg S) S0)
  | [], a, r, S0, hG, h => ⟨fun j hj => absurd hj (by simp), hG.mono h⟩
  | pg :: l, a, r, S0, hG, h => by
    obtain ⟨h1, h2, h3⟩ := h
    have hle := PLk.le h3
    have hG1 : GS pg.pl S0 := hG.mono h1
    have hG2 := GS_page hG1 h2
    obtain ⟨i1, i2⟩ := PLk.good hG2 h3
    refine ⟨fun j hj => ?_, i2⟩
    cases j with
    | zero =>
      refine ⟨hG1, ?_⟩
      obtain ⟨P1, P2, P3, P4, P5, P6, P7, P8, P9, P10, P11⟩ := h2
      exact ⟨P1, P2, P3, P4, P5, P6, P7, P8, P9, P10, by show pgA pg pg.n ≤ r; omega⟩
    | succ j => exact i1 j (by simpa using hj)
/-- the streams alone -/
def MRp (θ : TH) (V : VT) (w : Nat → Nat) (S : ST) : Prop := (∀ k, k < 3 → MIn θ V w k S) ∧ V (tb θ + 126) 21 = nI S.pc
theorem m_replay {K : VT → UT → Prop} {l : List PG} (hθ : OKt θ) (hU : US θ sw U) (hW : WM θ V n r w) (h13 : V (tb θ + 126) 13 = nI l.length) (hpl : ∀ j, j < l.length → V (tb θ + 136) j = nI (l.getD j pg0).pl) (hL : PLk w 0 l r) (hl : 0 < l.length)
    (hk : ∀ V2, FRm θ V V2 → MRd θ V2 w (fdS l) → K V2 U) : wp_M_replay θ (tb θ + 126) V U K := by
  have hn := hW.2.1
  have hrn := hW.2.2.2.1
  have hlen := PLk.le hL
  obtain ⟨hg, -⟩ := PLk.good st0_good hL
  unfold wp_M_replay
  simp only [IM hθ, true_and]
  intro W0 e0
  refine loop1 (wl := wl_M_replay_7 θ (tb θ + 126) K) 3 (fun k X => FRm θ V X ∧ X (tb θ + 126) 21 = 0 ∧ ∀ j, j < k → X (tb θ + 137) j = -1 ∧ X (tb θ + 140) j = 0 ∧ X (tb θ + 141) j = 0) ⟨⟨fun q a b => by rw [e0, up2_ne a], fun j a b c => by rw [e0, up2_ab a]⟩, by rw [e0, up2_aa], fun j hj => absurd hj (by omega)⟩ ?_ ?_
  · rintro f k X hk3 ⟨x1, x2, x3⟩ hgo
    have hin : vp_in (nI k) 3 := vp_in_nI hk3 (by decide)
    have hc : (nI k).toNatClampNeg = k := nI_clamp (by omega)
    show bl_M_replay_7 _ _ _ _ _ _ _
    unfold bl_M_replay_7
    simp only [UM hU, IM hθ, true_and, exists_eq_left, hc]
    refine br_f (nI_ge (a := k) (b := 3) hk3 (by decide)) ⟨by omega, hin, fun X1 e1 => ⟨by omega, hin, fun X2 e2 => ⟨by omega, hin, fun X3 e3 z hz => ?_⟩⟩⟩
    rw [hz, nI_1]
    refine hgo X3 ⟨⟨fun q a b => ?_, fun j a b c => ?_⟩, ?_, fun j hj => ?_⟩
    · rw [e3, up2_ne (by omega), e2, up2_ne (by omega), e1, up2_ne (by omega), x1.1 q a b]
    · rw [e3, up2_ne (by omega), e2, up2_ne (by omega), e1, up2_ne (by omega), x1.2 j a b c]
    · rw [e3, up2_ne (by omega), e2, up2_ne (by omega), e1, up2_ne (by omega), x2]
    · by_cases q : j = k
      · subst q
        refine ⟨?_, ?_, ?_⟩
        · rw [e3, up2_ne (by omega), e2, up2_ne (by omega), e1, up2_aa]
        · rw [e3, up2_ne (by omega), e2, up2_aa]
        · rw [e3, up2_aa]
      · obtain ⟨y1, y2, y3⟩ := x3 j (by omega)
        refine ⟨?_, ?_, ?_⟩
        · rw [e3, up2_ne (by omega), e2, up2_ne (by omega), e1, up2_ab q]; exact y1
        · rw [e3, up2_ne (by omega), e2, up2_ab q, e1, up2_ne (by omega)]; exact y2
        · rw [e3, up2_ab q, e2, up2_ne (by omega), e1, up2_ne (by omega)]; exact y3
  · rintro f X ⟨x1, x2, x3⟩
    show bl_M_replay_7 _ _ _ _ _ _ _
    unfold bl_M_replay_7
    refine br_t (by decide) ?_
    refine loop1 (wl := wl_M_replay_41 θ (tb θ + 126) K) l.length (fun j Y => FRm θ V Y ∧ MRp θ Y w (fdS (l.take j)) ∧ (0 < j → MRd θ Y w (fdS (l.take j)))) ⟨x1, ⟨fun k hk => ?_, x2⟩, fun h => absurd h (by omega)⟩ ?_ ?_
    · obtain ⟨y1, y2, y3⟩ := x3 k hk
      exact ⟨y1, fun s e => (by cases e), y2, y3, fun i hi => absurd hi (by show ¬ i < 15 * ([] : List Nat).length; simp), Nat.zero_le _⟩
    · rintro f2 j Y hj ⟨y1, ⟨y2, y3⟩, -⟩ hgo
      obtain ⟨hG, hP⟩ := hg j hj
      have e13 : Y (tb θ + 126) 13 = nI l.length := by rw [y1.2 13 (by decide) (by decide) (by decide)]; exact h13
      have hin : vp_in (nI j) 72 := vp_in_nI (by omega) (by decide)
      have hc : (nI j).toNatClampNeg = j := nI_clamp (by omega)
      show bl_M_replay_41 _ _ _ _ _ _ _
      unfold bl_M_replay_41
      simp only [UM hU, IM hθ, true_and, exists_eq_left, e13, hc]
      refine br_f (nI_ge hj (by omega)) (fun Y1 e1 Y2 e2 => ⟨by omega, hin, ?_⟩)
      have b2 : ∀ q, q ≠ tb θ + 126 → Y2 q = Y q := fun q hq => by rw [e2, up2_ne hq, e1, up2_ne hq]
      have fr2 : FRm θ Y Y2 := ⟨fun q a b => b2 q a, fun i a b c => by rw [e2, up2_ab c, e1, up2_ab b]⟩
      have hpj : ∀ Z, FRm θ Y2 Z → Z (tb θ + 136) j = nI (l.getD j pg0).pl := fun Z hZ => by
        rw [hZ.1 _ (by omega) (by omega), b2 _ (by omega), y1.1 _ (by omega) (by omega)]; exact hpl j hj
      have hM2 : MRd θ Y2 w (newS (fdS (l.take j))) := by
        refine ⟨fun k hk => (y2 k hk).of (fun q a b => by rw [b2 _ (by omega)]) (fun i _ => by rw [b2 _ (by omega)]) rfl rfl rfl rfl, ?_, ?_, ?_, fun i hi => absurd hi (by show ¬ i < ([] : List EV).length; simp)⟩
        · rw [e2, up2_ab (by decide), e1, up2_ab (by decide)]; exact y3
        · rw [e2, up2_ab (by decide), e1, up2_aa]; rfl
        · rw [e2, up2_aa]; rfl
      have fin : ∀ Z, FRm θ Y2 Z → MRd θ Z w (pgS (l.getD j pg0) (fdS (l.take j))) → ∀ y_33 : Int32, y_33 = nI j + (1 : Int32) → wl_M_replay_41 θ (tb θ + 126) K f2 y_33 Z U := by
        intro Z hZ hMZ y hy
        rw [hy, nI_1]
        have e9 : fdS (l.take (j + 1)) = pgS (l.getD j pg0) (fdS (l.take j)) := by rw [take_step l hj, fdS_snoc]
        refine hgo Z ⟨y1.trans (fr2.trans hZ), ?_, fun _ => ?_⟩
        · rw [e9]; exact ⟨hMZ.1, hMZ.2.1⟩
        · rw [e9]; exact hMZ
      rw [hpj Y2 FRm.refl]
      refine m_stream hθ hU (fr2.wm (y1.wm hW)) hP hM2 (by show ([] : List EV).length < 8; decide) hG.1 (fun hf V2 f2' h2 => br_t (by decide) (fin V2 f2' (by rw [pg_none hf]; exact h2))) (fun k hk3 hf V2 f2' h2 => br_f (nI_pos (by omega)) ?_)
      simp only [UM hU, IM hθ, exists_eq_left, hc]
      rw [hpj V2 f2']
      refine ⟨by omega, hin, ?_⟩
      obtain ⟨-, hkn⟩ := fnd_facts.1 hf
      have hkn' : (fdS (l.take j)).kn k = none ∨ (fdS (l.take j)).kn k = some (l.getD j pg0).se := by
        rcases hkn with h | h
        · exact Or.inr h
        · exact Or.inl h.1
      obtain ⟨z1, z2, z3, z4, z5⟩ := ent_facts (S := newS (fdS (l.take j))) (k := k) (se := (l.getD j pg0).se) (fl := (l.getD j pg0).fl) (no := (l.getD j pg0).no) hkn'
      have hun := hG.2.1 k hk3
      have hun : 16 * ((fdS (l.take j)).un k).length ≤ (l.getD j pg0).pl := hun
      have hu1 : 16 * ((entS k (l.getD j pg0).se (l.getD j pg0).fl (l.getD j pg0).no (newS (fdS (l.take j)))).un k).length ≤ (l.getD j pg0).pl := by
        have : ((newS (fdS (l.take j))).un k).length = ((fdS (l.take j)).un k).length := rfl
        omega
      refine m_segments hθ hU (f2'.wm (fr2.wm (y1.wm hW))) hk3 hP h2 z3 (ent_sto _ _ _ _) z1 hu1 (fun V3 f3 h3 => fin V3 (f2'.trans f3) ?_)
      rw [pg_some hf]; exact h3
    · rintro f2 Y ⟨y1, -, y3⟩
      have e13 : Y (tb θ + 126) 13 = nI l.length := by rw [y1.2 13 (by decide) (by decide) (by decide)]; exact h13
      show bl_M_replay_41 _ _ _ _ _ _ _
      unfold bl_M_replay_41
      simp only [IM hθ, true_and, e13]
      refine br_t (nI_le (Nat.le_refl _) (by omega)) (hk Y y1 ?_)
      have := y3 hl
      rw [List.take_length] at this
      exact this
end REPLAY
