section MSTREAM
variable {θ : TH} {sw : Bool} {U : UT} {V V1 V2 : VT} {S : ST} {k se n r fr : Nat} {w : Nat → Nat} {pg : PG}
theorem pgA_plen (hP : PGok w r pg) : pgA pg pg.n = pg.pl + plen w pg.pl := by
  obtain ⟨P1, P2, P3, -⟩ := hP
  have key : ∀ i, i ≤ pg.n → pgA pg i = pg.pl + 14 + pg.n + psum w (pg.pl + 14) i := by
    intro i
    induction i with
    | zero => intro _; rfl
    | succ i ih =>
      intro hi
      show pgA pg i + pg.la i = _ + (psum w (pg.pl + 14) i + w (pg.pl + 14 + i))
      rw [ih (by omega), (P2 i (by omega)).1]; omega
  rw [key pg.n (Nat.le_refl _)]
  unfold plen
  rw [P3]; omega
/-- a place of one array of k changed -/
theorem MRd.one {S2 : ST} {q0 : Nat} {x : Int32} (hM : MRd θ V w S) (hk3 : k < 3) (h1 : tb θ + 137 ≤ q0) (h2 : q0 ≤ tb θ + 141) (hn : MIn θ (up2 V q0 k x) w k S2) (ho : ∀ j, j ≠ k → S2.kn j = S.kn j ∧ S2.no j = S.no j ∧ S2.ct j = S.ct j ∧ S2.un j = S.un j) (hp : S2.pc = S.pc) (he : S2.ev = S.ev) : FRm θ V (up2 V q0 k x) ∧ MRd θ (up2 V q0 k x) w S2 := by
  obtain ⟨c1, c2, c3, c4, c5⟩ := hM
  have b : ∀ q, q ≠ q0 → up2 V q0 k x q = V q := fun q hq => up2_ne hq
  refine ⟨⟨fun q u v => b q (by omega), fun j _ _ _ => by rw [b _ (by omega)]⟩, fun j hj => ?_, ?_, ?_, ?_, ?_⟩
  · by_cases h : j = k
    · subst h; exact hn
    · obtain ⟨o1, o2, o3, o4⟩ := ho j h
      refine (c1 j hj).of (fun q u v => ?_) (fun i _ => by rw [b _ (by omega)]) o1 o2 o3 o4
      by_cases hq : q = q0
      · subst hq; rw [up2_ab h]
      · rw [b q hq]
  · rw [b _ (by omega), hp]; exact c2
  · rw [b _ (by omega), he]; exact c3
  · rw [b _ (by omega), he]; exact c4
  · rw [he]
    exact c5.of (fun j hj => by rw [b _ (by omega), b _ (by omega), b _ (by omega), b _ (by omega), b _ (by omega)]; exact ⟨rfl, rfl, rfl, rfl, rfl⟩) (fun i hi => by rw [b _ (by omega)])
theorem MRd.noS {no : Nat} (hM : MRd θ V w S) (hk3 : k < 3) (hno : no < 256) : FRm θ V (up2 V (tb θ + 138) k (nI no)) ∧ MRd θ (up2 V (tb θ + 138) k (nI no)) w (noS k no S) := by
  obtain ⟨a1, a2, a3, a4, a5, a6⟩ := hM.1 k hk3
  refine hM.one hk3 (by omega) (by omega) ⟨?_, fun s hs => ?_, ?_, ?_, ?_, a6⟩ (fun j hj => ⟨rfl, fu_n hj, rfl, rfl⟩) rfl rfl
  · rw [up2_ne (by omega)]; exact a1
  · obtain ⟨d1, d2, d3, d4⟩ := a2 s hs
    refine ⟨d1, ?_, ?_, ?_⟩
    · rw [up2_aa]; show _ = nI (fu S.no k no k); rw [fu_a]
    · rw [up2_ne (by omega)]; exact d3
    · show fu S.no k no k < 256; rw [fu_a]; exact hno
  · rw [up2_ne (by omega)]; exact a3
  · rw [up2_ne (by omega)]; exact a4
  · rw [up2_ne (by omega)]; exact a5
theorem MRd.ctS {c : Nat} (hM : MRd θ V w S) (hk3 : k < 3) : FRm θ V (up2 V (tb θ + 139) k (nI c)) ∧ MRd θ (up2 V (tb θ + 139) k (nI c)) w (ctS k c S) := by
  obtain ⟨a1, a2, a3, a4, a5, a6⟩ := hM.1 k hk3
  refine hM.one hk3 (by omega) (by omega) ⟨?_, fun s hs => ?_, ?_, ?_, ?_, a6⟩ (fun j hj => ⟨rfl, rfl, fu_n hj, rfl⟩) rfl rfl
  · rw [up2_ne (by omega)]; exact a1
  · obtain ⟨d1, d2, d3, d4⟩ := a2 s hs
    refine ⟨d1, ?_, ?_, d4⟩
    · rw [up2_ne (by omega)]; exact d2
    · rw [up2_aa]; show _ = nI (fu S.ct k c k); rw [fu_a]
  · rw [up2_ne (by omega)]; exact a3
  · rw [up2_ne (by omega)]; exact a4
  · rw [up2_ne (by omega)]; exact a5
theorem MRd.off (hM : MRd θ V w S) (hk3 : k < 3) : FRm θ V (up2 V (tb θ + 137) k (-1)) ∧ MRd θ (up2 V (tb θ + 137) k (-1)) w (knS k none S) := by
  obtain ⟨a1, a2, a3, a4, a5, a6⟩ := hM.1 k hk3
  have ek : (knS k none S).kn k = none := fu_a
  refine hM.one hk3 (by omega) (by omega) ⟨?_, fun s hs => ?_, ?_, ?_, ?_, a6⟩ (fun j hj => ⟨fu_n hj, rfl, rfl, rfl⟩) rfl rfl
  · rw [up2_aa, ek]; rfl
  · rw [ek] at hs; cases hs
  · rw [up2_ne (by omega)]; exact a3
  · rw [up2_ne (by omega)]; exact a4
  · rw [up2_ne (by omega)]; exact a5
theorem kI_eq {o : Option Nat} (ho : ∀ s, o = some s → s < 256) (hse : se < 256) : kI o = nI se ↔ o = some se := by
  cases o with
  | none =>
    constructor
    · intro e; exact absurd (show nI se = -1 from e.symm) (nI_nm1 (by omega))
    · intro e; cases e
  | some s =>
    have := ho s rfl
    show nI s = nI se ↔ _
    rw [nI_eq (by omega) (by omega)]
    exact ⟨fun e => by rw [e], fun e => Option.some.inj e⟩
theorem kI_pos {o : Option Nat} (ho : ∀ s, o = some s → s < 2 ^ 31) : (0 : Int32) ≤ kI o ↔ o ≠ none := by
  cases o with
  | none => exact ⟨fun e => absurd e (by decide), fun e => absurd rfl e⟩
  | some s =>
    have := ho s rfl
    exact ⟨fun _ => by simp, fun _ => nI_le (a := 0) (Nat.zero_le _) this⟩
/-- the stream that a page enters, in the reference -/
theorem m_enter {K : Int32 → VT → UT → Prop} {x3 x4 : Int32} (hθ : OKt θ) (hU : US θ sw U) (hW : WM θ V n r w) (hP : PGok w r pg) (hM : MRd θ V w S) (hl : S.ev.length < 8) (hk3 : k < 3) (hx : (x3 = nI k ∧ S.kn k = some pg.se) ∨ (x3 = -1 ∧ x4 = nI k ∧ S.kn k = none))
    (hk : ∀ V2, FRm θ V V2 → MRd θ V2 w (entS k pg.se pg.fl pg.no S) → K (nI k) V2 U) : wb_M_stream_90 θ (tb θ + 126) (nI pg.pl) (nI pg.se) x3 x4 K V U := by
  obtain ⟨P1, P2, P3, P4, P5, P6, P7, P8, P9, P10, P11⟩ := hP
  have hA := pgA_0 pg pg.n
  have hn := hW.2.1
  have hrn := hW.2.2.2.1
  have hin : vp_in (nI k) 3 := vp_in_nI hk3 (by decide)
  have hc : (nI k).toNatClampNeg = k := nI_clamp (by omega)
  obtain ⟨a1, a2, a3, a4, a5, a6⟩ := hM.1 k hk3
  unfold wb_M_stream_90
  simp only [UM hU, IM hθ, true_and, exists_eq_left]
  rw [show nI pg.pl + (6 : Int32) = nI (pg.pl + 6) from nI_add _ 6, show nI pg.pl + (4 : Int32) = nI (pg.pl + 4) from nI_add _ 4, nI_clamp (show pg.pl + 6 < 2 ^ 31 by omega), nI_clamp (show pg.pl + 4 < 2 ^ 31 by omega), (hW.2.2.2.2 (pg.pl + 6) (by omega)).1, (hW.2.2.2.2 (pg.pl + 4) (by omega)).1, P6, P8]
  refine ⟨by omega, vp_in_nI (by omega) (by decide), fun y hy => ?_⟩
  rw [hy]
  rcases hx with ⟨rfl, hkn⟩ | ⟨rfl, rfl, hkn⟩
  · obtain ⟨d1, d2, d3, d4⟩ := a2 _ hkn
    have hne : ¬ S.kn k = none := by rw [hkn]; simp
    obtain ⟨b1, b2, b4⟩ := fl_bits P7
    refine br_t (nI_le (a := 0) (Nat.zero_le _) (by omega)) ⟨vp_in_nI (by omega) (by decide), ?_⟩
    have e255a : nI (S.no k + 1) &&& 255 = nI ((S.no k + 1) % 256) := pk_andN (by omega) 8 (by decide)
    rw [hc, d2, nI_1, e255a]
    refine ⟨fun q => ⟨by omega, hin, ?_⟩, fun q => ?_⟩
    · have q2 := b2.mp q
      refine pk_eq pg.no ((S.no k + 1) % 256) (fun e => fun W eW => ?_) (fun e => ?_)
      · have es : entS k pg.se pg.fl pg.no S = noS k pg.no S := by unfold entS; rw [if_neg hne, if_neg q2, if_neg (by omega)]
        rw [eW]
        have h := hM.noS (no := pg.no) hk3 P9
        exact hk _ h.1 (by rw [es]; exact h.2)
      · have es : entS k pg.se pg.fl pg.no S = noS k pg.no (dropS k (evS (mkE 2 ((pg.no + 256 - (S.no k + 1) % 256) % 256) 65535 false []) S)) := by unfold entS; rw [if_neg hne, if_neg q2, if_pos e]
        have e255 : (nI pg.no - nI (S.no k) - (1 : Int32)) &&& 255 = nI ((pg.no + 256 - (S.no k + 1) % 256) % 256) := by
          have e1 : nI pg.no - nI (S.no k) - (1 : Int32) = nI pg.no - nI (S.no k + 1) := by
            rw [← nI_1, Int32.sub_sub]
          rw [e1, sub255 (by omega) (by omega)]
        rw [e255]
        refine m_event0 (kd := 2) hθ hU hM hl (by decide) (fun W1 f1 h1 => ?_)
        refine m_drop hθ hU hk3 h1 (fun W2 f2 h2 => ?_)
        simp only [UM hU, IM hθ, exists_eq_left]
        refine ⟨by omega, hin, fun W3 e3 => ?_⟩
        rw [e3]
        have h := h2.noS (no := pg.no) hk3 P9
        exact hk _ (f1.trans (f2.trans h.1)) (by rw [es]; exact h.2)
    · have q2 : pg.fl / 2 % 2 = 1 := by
        by_cases h : pg.fl / 2 % 2 = 1
        · exact h
        · exact absurd (b2.mpr h) q
      have es : entS k pg.se pg.fl pg.no S = noS k pg.no (ctS k 0 (dropS k S)) := by unfold entS; rw [if_neg hne, if_pos q2]
      refine m_drop hθ hU hk3 hM (fun W2 f2 h2 => ?_)
      simp only [UM hU, IM hθ, exists_eq_left]
      refine ⟨by omega, hin, fun W3 e3 => ⟨by omega, hin, fun W4 e4 => ?_⟩⟩
      have h := h2.ctS (c := 0) hk3
      rw [show up2 W2 (tb θ + 139) k (nI 0) = W3 from e3.symm] at h
      have h' := h.2.noS (no := pg.no) hk3 P9
      rw [e4]
      exact hk _ (f2.trans (h.1.trans h'.1)) (by rw [es]; exact h'.2)
  · refine br_f (by decide) ?_
    rw [hc]
    refine ⟨by omega, hin, fun W1 e1 => ⟨by omega, hin, fun W2 e2 => ⟨by omega, hin, fun W3 e3 => ⟨by omega, hin, fun W4 e4 => ⟨by omega, hin, fun W5 e5 => ?_⟩⟩⟩⟩⟩
    have es : entS k pg.se pg.fl pg.no S = noS k pg.no (begS k pg.se S) := by unfold entS; rw [if_pos hkn]
    obtain ⟨c1, c2, c3, c4, c5⟩ := hM
    have b5 : ∀ q, (q < tb θ + 137 ∨ tb θ + 141 < q) → W5 q = V q := fun q hq => by rw [e5, up2_ne (by omega), e4, up2_ne (by omega), e3, up2_ne (by omega), e2, up2_ne (by omega), e1, up2_ne (by omega)]
    refine hk W5 ⟨fun q u v => b5 q (by omega), fun j _ _ _ => by rw [b5 _ (by omega)]⟩ ?_
    rw [es]
    refine ⟨fun j hj => ?_, ?_, ?_, ?_, ?_⟩
    · by_cases h : j = k
      · subst h
        have q1 : (noS j pg.no (begS j pg.se S)).kn j = some pg.se := fu_a
        have q2 : (noS j pg.no (begS j pg.se S)).no j = pg.no := fu_a
        have q3 : (noS j pg.no (begS j pg.se S)).ct j = 0 := fu_a
        have q4 : (noS j pg.no (begS j pg.se S)).un j = [] := fu_a
        unfold MIn
        rw [q1, q2, q3, q4, if_pos rfl]
        refine ⟨?_, fun s hs => ⟨?_, ?_, ?_, P9⟩, ?_, ?_, fun i hi => absurd hi (by simp), Nat.zero_le _⟩
        · rw [e5, up2_ne (by omega), e4, up2_ne (by omega), e3, up2_ne (by omega), e2, up2_ne (by omega), e1, up2_aa]; rfl
        · rw [← Option.some.inj hs]; exact P5
        · rw [e5, up2_aa]
        · rw [e5, up2_ne (by omega), e4, up2_ne (by omega), e3, up2_ne (by omega), e2, up2_aa]; rfl
        · rw [e5, up2_ne (by omega), e4, up2_ne (by omega), e3, up2_aa]
        · rw [e5, up2_ne (by omega), e4, up2_aa]; rfl
      · refine (c1 j hj).of (fun q u v => ?_) (fun i _ => by rw [b5 _ (by omega)]) (fu_n h) (fu_n h) (fu_n h) (fu_n h)
        have h5 : q = tb θ + 137 ∨ q = tb θ + 138 ∨ q = tb θ + 139 ∨ q = tb θ + 140 ∨ q = tb θ + 141 := by omega
        rcases h5 with rfl | rfl | rfl | rfl | rfl
        · rw [e5, up2_ne (by omega), e4, up2_ne (by omega), e3, up2_ne (by omega), e2, up2_ne (by omega), e1, up2_ab h]
        · rw [e5, up2_ab h, e4, up2_ne (by omega), e3, up2_ne (by omega), e2, up2_ne (by omega), e1, up2_ne (by omega)]
        · rw [e5, up2_ne (by omega), e4, up2_ne (by omega), e3, up2_ne (by omega), e2, up2_ab h, e1, up2_ne (by omega)]
        · rw [e5, up2_ne (by omega), e4, up2_ne (by omega), e3, up2_ab h, e2, up2_ne (by omega), e1, up2_ne (by omega)]
        · rw [e5, up2_ne (by omega), e4, up2_ab h, e3, up2_ne (by omega), e2, up2_ne (by omega), e1, up2_ne (by omega)]
    · rw [b5 _ (by omega)]; exact c2
    · rw [b5 _ (by omega)]; exact c3
    · rw [b5 _ (by omega)]; exact c4
    · exact c5.of (fun j hj => by rw [b5 _ (by omega), b5 _ (by omega), b5 _ (by omega), b5 _ (by omega), b5 _ (by omega)]; exact ⟨rfl, rfl, rfl, rfl, rfl⟩) (fun i hi => by rw [b5 _ (by omega)])
theorem m_stream {K : Int32 → VT → UT → Prop} (hθ : OKt θ) (hU : US θ sw U) (hW : WM θ V n r w) (hP : PGok w r pg) (hM : MRd θ V w S) (hl : S.ev.length < 8) (hD : DS S)
    (h0 : fndS S pg.se = none → ∀ V2, FRm θ V V2 → MRd θ V2 w (evS (mkE 5 (pgA pg pg.n - pg.pl) 65535 false []) S) → K (-1) V2 U)
    (h1 : ∀ k, k < 3 → fndS S pg.se = some k → ∀ V2, FRm θ V V2 → MRd θ V2 w (entS k pg.se pg.fl pg.no S) → K (nI k) V2 U) : wp_M_stream θ (tb θ + 126) (nI pg.pl) V U K := by
  have hP' := hP
  have hpl := pgA_plen hP
  obtain ⟨P1, P2, P3, P4, P5, P6, P7, P8, P9, P10, P11⟩ := hP
  have hA := pgA_0 pg pg.n
  have hn := hW.2.1
  have hrn := hW.2.2.2.1
  have hks : ∀ k s, k < 3 → S.kn k = some s → s < 256 := fun k s hk e => ((hM.1 k hk).2.1 s e).1
  unfold wp_M_stream
  simp only [UM hU, IM hθ, true_and, exists_eq_left]
  rw [show nI pg.pl + (5 : Int32) = nI (pg.pl + 5) from nI_add _ 5, nI_clamp (show pg.pl + 5 < 2 ^ 31 by omega), (hW.2.2.2.2 (pg.pl + 5) (by omega)).1, P4]
  refine ⟨by omega, vp_in_nI (by omega) (by decide), fun y hy => ?_⟩
  rw [hy]
  have hst : ∀ (k : Nat) (a f : Option Nat) (kb : Int32 → Int32 → Int32 → VT → UT → Prop), k < 3 → (∀ a2 f2, a2 = (if S.kn k = some pg.se then some k else a) → f2 = (if S.kn k = none then some k else f) → kb (kI a2) (kI f2) (nI (k + 1)) V U) → bl_M_stream_17 θ (tb θ + 126) (nI pg.pl) (nI pg.se) K kb (kI a) (kI f) (nI k) V U := by
    intro k a f kb hk3 hkb
    have hin : vp_in (nI k) 3 := vp_in_nI hk3 (by decide)
    have hc : (nI k).toNatClampNeg = k := nI_clamp (by omega)
    have a1 := (hM.1 k hk3).1
    have fin : ∀ a2, a2 = (if S.kn k = some pg.se then some k else a) → wb_M_stream_40 θ (tb θ + 126) (nI pg.pl) (nI pg.se) (kI f) (nI k) (kI a2) kb K V U := by
      intro a2 ha2
      unfold wb_M_stream_40
      simp only [UM hU, IM hθ, true_and, exists_eq_left, hc, a1]
      refine ⟨by omega, hin, fun q z hz => ?_, fun q z hz => ?_⟩
      · have := (kI_pos (o := S.kn k) (fun s hs => by have := hks k s hk3 hs; omega)).mp q
        rw [hz, nI_1]
        exact hkb a2 f ha2 (by rw [if_neg this])
      · have : S.kn k = none := by
          cases h : S.kn k with
          | none => rfl
          | some s => exact absurd ((kI_pos (o := S.kn k) (fun s hs => by have := hks k s hk3 hs; omega)).mpr (by rw [h]; simp)) q
        rw [hz, nI_1]
        exact hkb a2 (some k) ha2 (by rw [if_pos this])
    unfold bl_M_stream_17
    simp only [UM hU, IM hθ, true_and, exists_eq_left, hc, a1]
    refine br_f (nI_ge (a := k) (b := 3) hk3 (by decide)) ⟨by omega, hin, fun q => ?_, fun q => ?_⟩
    · exact fin a (by rw [if_neg (fun e => q ((kI_eq (fun s hs => hks k s hk3 hs) P5).mpr e))])
    · exact fin (some k) (by rw [if_pos ((kI_eq (fun s hs => hks k s hk3 hs) P5).mp q)])
  refine ⟨4, ?_⟩
  refine hst 0 none none _ (by decide) (fun a0 f0 ea0 ef0 => ?_)
  refine hst 1 a0 f0 _ (by decide) (fun b0 g0 eb0 eg0 => ?_)
  refine hst 2 b0 g0 _ (by decide) (fun c0 d0 ec0 ed0 => ?_)
  -- what was found
  have hfound : ∀ k, c0 = some k → k < 3 ∧ S.kn k = some pg.se := by
    intro k e
    rw [ec0, eb0, ea0] at e
    by_cases q2 : S.kn 2 = some pg.se
    · rw [if_pos q2] at e; cases e; exact ⟨by decide, q2⟩
    · rw [if_neg q2] at e
      by_cases q1 : S.kn 1 = some pg.se
      · rw [if_pos q1] at e; cases e; exact ⟨by decide, q1⟩
      · rw [if_neg q1] at e
        by_cases q0 : S.kn 0 = some pg.se
        · rw [if_pos q0] at e; cases e; exact ⟨by decide, q0⟩
        · rw [if_neg q0] at e; cases e
  have hnone : c0 = none → S.kn 0 ≠ some pg.se ∧ S.kn 1 ≠ some pg.se ∧ S.kn 2 ≠ some pg.se := by
    intro e
    rw [ec0, eb0, ea0] at e
    by_cases q2 : S.kn 2 = some pg.se
    · rw [if_pos q2] at e; cases e
    · rw [if_neg q2] at e
      by_cases q1 : S.kn 1 = some pg.se
      · rw [if_pos q1] at e; cases e
      · rw [if_neg q1] at e
        by_cases q0 : S.kn 0 = some pg.se
        · rw [if_pos q0] at e; cases e
        · exact ⟨q0, q1, q2⟩
  show bl_M_stream_17 _ _ _ _ _ _ _ _ _ _ _
  unfold bl_M_stream_17
  refine br_t (by decide) ?_
  cases hc0 : c0 with
  | some k =>
    obtain ⟨hk3, hkn⟩ := hfound k hc0
    have hf : fndS S pg.se = some k := by
      cases h : fndS S pg.se with
      | none => exact absurd hkn ((fnd_facts (k := k)).2 h k hk3).2
      | some k2 =>
        obtain ⟨hk2, h2⟩ := fnd_facts.1 h
        rcases h2 with h2 | h2
        · rw [hD k2 k _ hk2 hk3 h2 hkn]
        · exact absurd hkn (h2.2 k hk3)
    exact br_t (nI_le (a := 0) (Nat.zero_le _) (by omega)) (m_enter hθ hU hW hP' hM hl hk3 (Or.inl ⟨rfl, hkn⟩) (fun V2 f2 h2 => h1 k hk3 hf V2 f2 h2))
  | none =>
    obtain ⟨n0, n1, n2⟩ := hnone hc0
    refine br_f (by decide) ?_
    have hfd : fndS S pg.se = d0 := by
      unfold fndS
      rw [if_neg n0, if_neg n1, if_neg n2, ed0, eg0, ef0]
    cases hd0 : d0 with
    | some k =>
      have hf : fndS S pg.se = some k := hfd.trans hd0
      obtain ⟨hk3, h2⟩ := fnd_facts.1 hf
      have hkn : S.kn k = none := by
        rcases h2 with h2 | h2
        · have h3 : k = 0 ∨ k = 1 ∨ k = 2 := by omega
          rcases h3 with rfl | rfl | rfl
          · exact absurd h2 n0
          · exact absurd h2 n1
          · exact absurd h2 n2
        · exact h2.1
      exact br_t (nI_le (a := 0) (Nat.zero_le _) (by omega)) (m_enter hθ hU hW hP' hM hl hk3 (Or.inr ⟨rfl, rfl, hkn⟩) (fun V2 f2 h2 => h1 k hk3 hf V2 f2 h2))
    | none =>
      refine br_f (by decide) ?_
      simp only [IM hθ, true_and]
      refine m_pageLength hθ hU hW pg.pl (by rw [P3]; omega) (by rw [P3]; exact P1) (fun i hi => by rw [P3] at hi; rw [(P2 i hi).1]; exact (P2 i hi).2) ?_
      rw [show plen w pg.pl = pgA pg pg.n - pg.pl by omega]
      exact m_event0 (kd := 5) hθ hU hM hl (by decide) (fun W1 f1 h1' => h0 (hfd.trans hd0) W1 f1 h1')
end MSTREAM
