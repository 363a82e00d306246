-- the reference's arrays show such a state
def stoE : List EV → Nat
  | [] => 0
  | e :: l => (if e.kd = 3 then e.am else 0) + stoE l
theorem stoE_app : ∀ (l : List EV) (e : EV), stoE (l ++ [e]) = stoE l + (if e.kd = 3 then e.am else 0)
  | [], e => by show (if e.kd = 3 then e.am else 0) + 0 = 0 + _; omega
  | x :: l, e => by show (if x.kd = 3 then x.am else 0) + stoE (l ++ [e]) = (if x.kd = 3 then x.am else 0) + stoE l + _; rw [stoE_app l e]; omega
def kI (o : Option Nat) : Int32 := match o with
  | none => -1
  | some s => nI s
def byW (w : Nat → Nat) (l : List Nat) (i : Nat) : Nat := w (l.getD (i / 15) 0 + i % 15)
def MIn (θ : TH) (V : VT) (w : Nat → Nat) (k : Nat) (S : ST) : Prop := V (tb θ + 137) k = kI (S.kn k) ∧ (∀ s, S.kn k = some s → s < 256 ∧ V (tb θ + 138) k = nI (S.no k) ∧ V (tb θ + 139) k = nI (S.ct k) ∧ S.no k < 256) ∧ V (tb θ + 140) k = (if S.un k = [] then 0 else 1) ∧ V (tb θ + 141) k = nI (15 * (S.un k).length) ∧ (∀ i, i < 15 * (S.un k).length → V (tb θ + 142) (1000 * k + i) = nI (byW w (S.un k) i)) ∧ (S.un k).length ≤ 63
def MEv (θ : TH) (V : VT) (w : Nat → Nat) (j st : Nat) (e : EV) : Prop := V (tb θ + 143) j = nI e.kd ∧ V (tb θ + 144) j = nI e.am ∧ (e.kd = 3 → V (tb θ + 145) j = nI e.tm ∧ V (tb θ + 146) j = (if e.cl then 1 else 0) ∧ V (tb θ + 147) j = nI st ∧ ∀ i, i < e.am → V (tb θ + 148) (st + i) = nI (byW w e.pk i))
def MEs (θ : TH) (V : VT) (w : Nat → Nat) (l : List EV) : Prop := ∀ j, j < l.length → MEv θ V w j (stoE (l.take j)) (l.getD j ev0)
def MRd (θ : TH) (V : VT) (w : Nat → Nat) (S : ST) : Prop := (∀ k, k < 3 → MIn θ V w k S) ∧ V (tb θ + 126) 21 = nI S.pc ∧ V (tb θ + 126) 22 = nI S.ev.length ∧ V (tb θ + 126) 29 = nI (stoE S.ev) ∧ MEs θ V w S.ev
def FRm (θ : TH) (V V2 : VT) : Prop := (∀ q, q ≠ tb θ + 126 → (q < tb θ + 137 ∨ tb θ + 148 < q) → V2 q = V q) ∧ (∀ j, j ≠ 21 → j ≠ 22 → j ≠ 29 → V2 (tb θ + 126) j = V (tb θ + 126) j)
section MREAD
variable {θ : TH} {sw : Bool} {U : UT} {V V1 V2 : VT} {S : ST} {k se n r fr : Nat} {w : Nat → Nat} {pg : PG}
theorem FRm.refl : FRm θ V V := ⟨fun _ _ _ => rfl, fun _ _ _ _ => rfl⟩
theorem FRm.trans (h1 : FRm θ V V1) (h2 : FRm θ V1 V2) : FRm θ V V2 := ⟨fun q a b => (h2.1 q a b).trans (h1.1 q a b), fun j a b c => (h2.2 j a b c).trans (h1.2 j a b c)⟩
theorem FRm.wm (h : FRm θ V V2) (hW : WM θ V n r w) : WM θ V2 n r w := by
  unfold WM at hW ⊢
  rw [h.2 1 (by decide) (by decide) (by decide), h.2 2 (by decide) (by decide) (by decide), h.1 (tb θ + 127) (by omega) (by omega)]; exact hW
theorem MIn.of {S2 : ST} (h : MIn θ V w k S) (h0 : ∀ q, tb θ + 137 ≤ q → q ≤ tb θ + 141 → V2 q k = V q k) (h1 : ∀ i, i < 1000 → V2 (tb θ + 142) (1000 * k + i) = V (tb θ + 142) (1000 * k + i)) (e1 : S2.kn k = S.kn k) (e2 : S2.no k = S.no k) (e3 : S2.ct k = S.ct k) (e4 : S2.un k = S.un k) : MIn θ V2 w k S2 := by
  obtain ⟨a1, a2, a3, a4, a5, a6⟩ := h
  unfold MIn
  rw [h0 _ (by omega) (by omega), h0 _ (by omega) (by omega), h0 _ (by omega) (by omega), h0 _ (by omega) (by omega), h0 _ (by omega) (by omega), e1, e2, e3, e4]
  exact ⟨a1, a2, a3, a4, fun i hi => by rw [h1 i (by omega)]; exact a5 i hi, a6⟩
theorem MEs.of {l : List EV} (h : MEs θ V w l) (h0 : ∀ j, j < l.length → V2 (tb θ + 143) j = V (tb θ + 143) j ∧ V2 (tb θ + 144) j = V (tb θ + 144) j ∧ V2 (tb θ + 145) j = V (tb θ + 145) j ∧ V2 (tb θ + 146) j = V (tb θ + 146) j ∧ V2 (tb θ + 147) j = V (tb θ + 147) j) (h1 : ∀ i, i < stoE l → V2 (tb θ + 148) i = V (tb θ + 148) i) : MEs θ V2 w l := by
  intro j hj
  obtain ⟨a1, a2, a3⟩ := h j hj
  obtain ⟨b1, b2, b3, b4, b5⟩ := h0 j hj
  refine ⟨b1.trans a1, b2.trans a2, fun hk => ?_⟩
  obtain ⟨c1, c2, c3, c4⟩ := a3 hk
  refine ⟨b3.trans c1, b4.trans c2, b5.trans c3, fun i hi => ?_⟩
  have key : ∀ (l : List EV) (j : Nat), j < l.length → (l.getD j ev0).kd = 3 → stoE (l.take j) + (l.getD j ev0).am ≤ stoE l := by
    intro l
    induction l with
    | nil => intro j hj; exact absurd hj (by simp)
    | cons x l ih =>
      intro j hj hk
      cases j with
      | zero =>
        have hk : x.kd = 3 := hk
        show 0 + x.am ≤ (if x.kd = 3 then x.am else 0) + stoE l
        rw [if_pos hk]; omega
      | succ j =>
        have := ih j (by simpa using hj) hk
        show (if x.kd = 3 then x.am else 0) + stoE (l.take j) + (l.getD j ev0).am ≤ (if x.kd = 3 then x.am else 0) + stoE l
        omega
  have := key l j hj hk
  rw [h1 _ (by omega)]
  exact c4 i hi
theorem MEs.snoc {l : List EV} {e : EV} (h : MEs θ V w l) (he : MEv θ V w l.length (stoE l) e) : MEs θ V w (l ++ [e]) := by
  intro j hj
  rw [List.length_append, List.length_singleton] at hj
  by_cases q : j = l.length
  · subst q
    rw [getD_app_r, List.take_left' rfl]; exact he
  · rw [getD_app_l (by omega), List.take_append_of_le_length (by omega)]
    exact h j (by omega)
/-- the reference's event; its packet is told by the caller -/
theorem m_event {K : VT → UT → Prop} {kd am tm : Nat} {x : Int32} {m : Nat} (hθ : OKt θ) (hU : US θ sw U) (hm : V (tb θ + 126) 22 = nI m) (hl : m < 8) (hx : isZ x) (hk : ∀ V2, (∀ q, q ≠ tb θ + 126 → (q < tb θ + 143 ∨ tb θ + 146 < q) → V2 q = V q) → (∀ j, j ≠ 22 → V2 (tb θ + 126) j = V (tb θ + 126) j) → V2 (tb θ + 126) 22 = nI (m + 1) → (∀ j, j ≠ m → V2 (tb θ + 143) j = V (tb θ + 143) j ∧ V2 (tb θ + 144) j = V (tb θ + 144) j ∧ V2 (tb θ + 145) j = V (tb θ + 145) j ∧ V2 (tb θ + 146) j = V (tb θ + 146) j) → V2 (tb θ + 143) m = nI kd → V2 (tb θ + 144) m = nI am → V2 (tb θ + 145) m = nI tm → V2 (tb θ + 146) m = x → K V2 U) : wp_M_event θ (tb θ + 126) (nI kd) (nI am) (nI tm) x V U K := by
  have hc : (nI m).toNatClampNeg = m := nI_clamp (by omega)
  have hin : vp_in (nI m) 8 := vp_in_nI hl (by decide)
  unfold wp_M_event
  simp only [UM hU, IM hθ, true_and, exists_eq_left, hm]
  refine ⟨by omega, hin, fun W1 e1 => ?_⟩
  have h1 : W1 (tb θ + 126) 22 = nI m := by rw [e1, up2_ne (by omega), hm]
  rw [h1]
  refine ⟨by omega, hin, fun W2 e2 => ?_⟩
  have h2 : W2 (tb θ + 126) 22 = nI m := by rw [e2, up2_ne (by omega), h1]
  rw [h2]
  refine ⟨by omega, hin, fun W3 e3 => ?_⟩
  have h3 : W3 (tb θ + 126) 22 = nI m := by rw [e3, up2_ne (by omega), h2]
  rw [h3]
  refine ⟨by omega, hin, hx, fun W4 e4 W5 e5 => ?_⟩
  have h4 : W4 (tb θ + 126) 22 = nI m := by rw [e4, up2_ne (by omega), h3]
  rw [h4, nI_1] at e5
  rw [hc] at e1 e2 e3 e4
  refine hk W5 (fun q x y => ?_) (fun j hj => ?_) ?_ (fun j hj => ⟨?_, ?_, ?_, ?_⟩) ?_ ?_ ?_ ?_
  · rw [e5, up2_ne x, e4, up2_ne (by omega), e3, up2_ne (by omega), e2, up2_ne (by omega), e1, up2_ne (by omega)]
  · rw [e5, up2_ab hj, e4, up2_ne (by omega), e3, up2_ne (by omega), e2, up2_ne (by omega), e1, up2_ne (by omega)]
  · rw [e5, up2_aa]
  · rw [e5, up2_ne (by omega), e4, up2_ne (by omega), e3, up2_ne (by omega), e2, up2_ne (by omega), e1, up2_ab hj]
  · rw [e5, up2_ne (by omega), e4, up2_ne (by omega), e3, up2_ne (by omega), e2, up2_ab hj, e1, up2_ne (by omega)]
  · rw [e5, up2_ne (by omega), e4, up2_ne (by omega), e3, up2_ab hj, e2, up2_ne (by omega), e1, up2_ne (by omega)]
  · rw [e5, up2_ne (by omega), e4, up2_ab hj, e3, up2_ne (by omega), e2, up2_ne (by omega), e1, up2_ne (by omega)]
  · rw [e5, up2_ne (by omega), e4, up2_ne (by omega), e3, up2_ne (by omega), e2, up2_ne (by omega), e1, up2_aa]
  · rw [e5, up2_ne (by omega), e4, up2_ne (by omega), e3, up2_ne (by omega), e2, up2_aa]
  · rw [e5, up2_ne (by omega), e4, up2_ne (by omega), e3, up2_aa]
  · rw [e5, up2_ne (by omega), e4, up2_aa]
theorem m_event0 {K : VT → UT → Prop} {kd am : Nat} (hθ : OKt θ) (hU : US θ sw U) (hM : MRd θ V w S) (hl : S.ev.length < 8) (hkd : kd ≠ 3) (hk : ∀ V2, FRm θ V V2 → MRd θ V2 w (evS (mkE kd am 65535 false []) S) → K V2 U) : wp_M_event θ (tb θ + 126) (nI kd) (nI am) (65535 : Int32) 0 V U K := by
  obtain ⟨c1, c2, c3, c4, c5⟩ := hM
  refine m_event (tm := 65535) hθ hU c3 hl (Or.inl rfl) (fun V2 p1 p2 p3 p4 p5 p6 p7 p8 => ?_)
  refine hk V2 ⟨fun q x y => p1 q x (by omega), fun j x y z => p2 j y⟩ ⟨fun k hk => (c1 k hk).of (fun q x y => by rw [p1 q (by omega) (by omega)]) (fun i _ => by rw [p1 _ (by omega) (by omega)]) rfl rfl rfl rfl, ?_, ?_, ?_, ?_⟩
  · rw [p2 21 (by decide)]; exact c2
  · rw [p3]; show _ = nI (S.ev ++ [_]).length; rw [List.length_append]; rfl
  · rw [p2 29 (by decide), c4]; show _ = nI (stoE (S.ev ++ [_])); rw [stoE_app]
    have : ¬ (mkE kd am 65535 false []).kd = 3 := hkd
    rw [if_neg this]; rfl
  · refine MEs.snoc (c5.of (fun j hj => ?_) (fun i hi => by rw [p1 _ (by omega) (by omega)])) ⟨p5, p6, fun e => absurd e hkd⟩
    obtain ⟨x1, x2, x3, x4⟩ := p4 j (by omega)
    exact ⟨x1, x2, x3, x4, by rw [p1 _ (by omega) (by omega)]⟩
theorem m_drop {K : VT → UT → Prop} (hθ : OKt θ) (hU : US θ sw U) (hk3 : k < 3) (hM : MRd θ V w S) (hk : ∀ V2, FRm θ V V2 → MRd θ V2 w (dropS k S) → K V2 U) : wp_M_drop θ (tb θ + 126) (nI k) V U K := by
  obtain ⟨c1, c2, c3, c4, c5⟩ := hM
  have ck := c1 k hk3
  obtain ⟨a1, a2, a3, a4, a5, a6⟩ := ck
  unfold wp_M_drop wb_M_drop_19
  simp only [UM hU, IM hθ, true_and, exists_eq_left]
  rw [nI_clamp (by omega), a3]
  have hin : vp_in (nI k) 3 := vp_in_nI hk3 (by decide)
  have fin : ∀ z : Int32, z = (if S.un k = [] then 0 else 1) → ∀ V_8 : VT, V_8 = up2 V (tb θ + 126) 21 (V (tb θ + 126) 21 + z) → tb θ + 140 ≠ 0 ∧ vp_in (nI k) 3 ∧ ∀ V_14 : VT, V_14 = up2 V_8 (tb θ + 140) k 0 → tb θ + 141 ≠ 0 ∧ vp_in (nI k) 3 ∧ ∀ V_19 : VT, V_19 = up2 V_14 (tb θ + 141) k 0 → K V_19 U := by
    intro z hz W1 e1
    refine ⟨by omega, hin, fun W2 e2 => ⟨by omega, hin, fun W3 e3 => ?_⟩⟩
    have b3 : ∀ q, q ≠ tb θ + 126 → q ≠ tb θ + 140 → q ≠ tb θ + 141 → W3 q = V q := fun q x y v => by rw [e3, up2_ne v, e2, up2_ne y, e1, up2_ne x]
    have b6 : ∀ j, j ≠ 21 → W3 (tb θ + 126) j = V (tb θ + 126) j := fun j hj => by rw [e3, up2_ne (by omega), e2, up2_ne (by omega), e1, up2_ab hj]
    refine hk W3 ⟨fun q x y => b3 q x (by omega) (by omega), fun j x y z => b6 j x⟩ ⟨fun k2 hk2 => ?_, ?_, ?_, ?_, ?_⟩
    · by_cases hkk : k2 = k
      · subst hkk
        refine ⟨?_, ?_, ?_, ?_, ?_, ?_⟩
        · rw [b3 _ (by omega) (by omega) (by omega), drop_kn.1]; exact a1
        · rw [b3 _ (by omega) (by omega) (by omega), b3 _ (by omega) (by omega) (by omega), drop_kn.1, drop_kn.2.1, drop_kn.2.2.1]; exact a2
        · rw [drop_un.2, if_pos rfl, e3, up2_ne (by omega), e2, up2_aa]
        · rw [drop_un.2, e3, up2_aa]; rfl
        · rw [drop_un.2]; exact fun i hi => absurd hi (by simp)
        · rw [drop_un.2]; exact Nat.zero_le _
      · refine (c1 k2 hk2).of (fun q x y => ?_) (fun i hi => by rw [b3 _ (by omega) (by omega) (by omega)]) (by rw [drop_kn.1]) (by rw [drop_kn.2.1]) (by rw [drop_kn.2.2.1]) (drop_un.1 k2 hkk)
        by_cases q1 : q = tb θ + 141
        · subst q1; rw [e3, up2_ab hkk, e2, up2_ne (by omega), e1, up2_ne (by omega)]
        · by_cases q2 : q = tb θ + 140
          · subst q2; rw [e3, up2_ne (by omega), e2, up2_ab hkk, e1, up2_ne (by omega)]
          · rw [b3 q (by omega) q2 q1]
    · rw [e3, up2_ne (by omega), e2, up2_ne (by omega), e1, up2_aa, c2, hz]
      unfold dropS
      by_cases h : S.un k = []
      · rw [if_pos h, if_pos h]; exact nI_add _ 0
      · rw [if_neg h, if_neg h]; exact nI_add _ 1
    · rw [b6 22 (by decide), drop_kn.2.2.2]; exact c3
    · rw [b6 29 (by decide), drop_kn.2.2.2]; exact c4
    · rw [drop_kn.2.2.2]
      exact c5.of (fun j hj => by rw [b3 _ (by omega) (by omega) (by omega), b3 _ (by omega) (by omega) (by omega), b3 _ (by omega) (by omega) (by omega), b3 _ (by omega) (by omega) (by omega), b3 _ (by omega) (by omega) (by omega)]; exact ⟨rfl, rfl, rfl, rfl, rfl⟩) (fun i hi => by rw [b3 _ (by omega) (by omega) (by omega)])
  refine ⟨by omega, hin, fun q => fin 0 ?_, fun q => fin 1 ?_⟩
  · by_cases h : S.un k = []
    · rw [if_pos h]
    · rw [if_neg h] at q; exact absurd q (by decide)
  · by_cases h : S.un k = []
    · rw [if_pos h] at q; exact absurd rfl q
    · rw [if_neg h]
end MREAD
