def LTR (θ : TH) (V : VT) : Prop := V (tb θ + 30) 0 = V (tb θ + 126) 30 ∧ (V (tb θ + 30) 0 = 0 ∨ (V (tb θ + 30) 0 = 1 ∧ V (tb θ + 30) 1 = V (tb θ + 126) 31 ∧ V (tb θ + 30) 2 = -1) ∨ ∃ kd, 2 ≤ kd ∧ kd ≤ 5 ∧ V (tb θ + 30) 0 = nI kd ∧ V (tb θ + 30) 1 = V (tb θ + 126) 31 ∧ V (tb θ + 30) 2 = V (tb θ + 126) 32 ∧ (kd = 3 → V (tb θ + 30) 3 = V (tb θ + 126) 33))
def HND (θ : TH) (V : VT) : Prop := ∃ (L : Nat) (hb : Nat → Nat), L ≤ 1000 ∧ V (tb θ + 25) 1 = V (tb θ + 126) 34 ∧ isZ (V (tb θ + 25) 1) ∧ V (tb θ + 25) 2 = nI L ∧ V (tb θ + 126) 36 = nI L ∧ V (tb θ + 25) 3 = V (tb θ + 126) 37 ∧ V (tb θ + 25) 4 = V (tb θ + 126) 38 ∧ isZ (V (tb θ + 25) 4) ∧ ∀ i, i < L → V (tb θ + 26) i = nI (hb i) ∧ V (tb θ + 149) i = nI (hb i) ∧ hb i < 256
def RDR (θ : TH) (V : VT) (r : Nat) (w : Nat → Nat) : Prop := ∃ (l : List PG) (g : Nat), PLk w 0 l r ∧ r ≤ 1000 ∧ (∃ se, CRd θ V (fdS l) se ∧ ∀ pg, l.getLast? = some pg → pg.se = se) ∧ V (tb θ + 27) 5 = nI g ∧ g ≤ (fdS l).ev.length ∧ V (tb θ + 126) 13 = nI l.length ∧ (∀ j, j < l.length → V (tb θ + 136) j = nI (l.getD j pg0).pl) ∧ V (tb θ + 126) 14 = nI g ∧ V (tb θ + 126) 21 = nI (fdS l).pc ∧ V (tb θ + 126) 22 = nI (fdS l).ev.length ∧ MEs θ V w (fdS l).ev
/-- what the decoder's share may look at -/
def EQD (θ : TH) (V V2 : VT) : Prop := (∀ q, tb θ + 66 ≤ q → q < tb θ + 126 → V2 q = V q) ∧ (∀ q, tb θ + 150 ≤ q → V2 q = V q) ∧ (∀ j, 41 ≤ j → V2 (tb θ + 126) j = V (tb θ + 126) j)
def DT := VT → Bool → Prop
def DG (θ : TH) (D : DT) : Prop := ∀ V V2 sw, EQD θ V V2 → D V sw → D V2 sw
def RR (θ : TH) (D : DT) : RT := fun V r w sw => RDR θ V r w ∧ LTR θ V ∧ HND θ V ∧ D V sw
section READER
variable {θ : TH} {sw : Bool} {U : UT} {V V1 V2 : VT} {n r : Nat} {w : Nat → Nat} {S : ST} {se : Nat} {D : DT}
theorem CRd.eq (h : CRd θ V S se) (he : ∀ q, tb θ + 33 ≤ q → q < tb θ + 66 → V2 q = V q) (h4 : V2 (tb θ + 27) 4 = V (tb θ + 27) 4) (h7 : V2 (tb θ + 27) 7 = V (tb θ + 27) 7) (hl : S.ev.length ≤ 8) : CRd θ V2 S se := by
  obtain ⟨c1, c2, c3, c4⟩ := h
  refine ⟨fun k hk => (c1 k hk).of (he _ (by omega) (by omega)) (he _ (by omega) (by omega)) (he _ (by omega) (by omega)) rfl rfl rfl rfl, by rw [h4]; exact c2, by rw [h7]; exact c3, fun j hj => (c4 j hj).of (he _ (by omega) (by omega)) (he _ (by omega) (by omega)) (he _ (by omega) (by omega))⟩
theorem MEs.eqw {w2 : Nat → Nat} {l : List EV} (h : MEs θ V w l) (hb : ∀ e, e ∈ l → EVk r e) (hw : ∀ i, i < r → w2 i = w i) (he : ∀ q, tb θ + 143 ≤ q → q ≤ tb θ + 148 → V2 q = V q) : MEs θ V2 w2 l := by
  intro j hj
  obtain ⟨a1, a2, a3⟩ := h j hj
  unfold MEv
  rw [he _ (by omega) (by omega), he _ (by omega) (by omega), he _ (by omega) (by omega), he _ (by omega) (by omega), he _ (by omega) (by omega), he _ (by omega) (by omega)]
  refine ⟨a1, a2, fun hk => ?_⟩
  obtain ⟨c1, c2, c3, c4⟩ := a3 hk
  refine ⟨c1, c2, c3, fun i hi => ?_⟩
  have hm : l.getD j ev0 ∈ l := by
    rw [List.getD_eq_getElem?_getD, List.getElem?_eq_getElem hj]; exact List.getElem_mem hj
  have := ((hb _ hm).2.2 hk).2.2.2 i hi
  rw [c4 i hi]
  unfold byW
  rw [hw _ this]
theorem RG_RR (hD : DG θ D) : RG θ (RR θ D) := by
  intro V V2 r w w2 sw hE hw ⟨hR, hL, hH, hd⟩
  obtain ⟨q1, q2, q3⟩ := hE
  refine ⟨?_, ?_, ?_, hD V V2 sw ⟨fun q a b => q1 q (by omega) b, fun q a => q2 q (by omega), fun j hj => q3 j (by omega) (by omega) (by omega)⟩ hd⟩
  · obtain ⟨l, g, h1, h2, ⟨se, h3, h3'⟩, h4, h5, h6, h7, h8, h9, h10, h11⟩ := hR
    have hgood := (PLk.good st0_good h1).2
    have hpb := PLk.pb st0_good st0_pb h1 h2
    refine ⟨l, g, h1.frame hw, h2, ⟨se, h3.eq (fun q a b => q1 q (by omega) (by omega)) (by rw [q1 _ (by omega) (by omega)]) (by rw [q1 _ (by omega) (by omega)]) hgood.2.2, h3'⟩, by rw [q1 _ (by omega) (by omega)]; exact h4, h5, ?_, fun j hj => by rw [q2 _ (by omega)]; exact h7 j hj, ?_, ?_, ?_, h11.eqw hpb.2 hw (fun q a b => q2 q (by omega))⟩
    · rw [q3 13 (by decide) (by decide) (by decide)]; exact h6
    · rw [q3 14 (by decide) (by decide) (by decide)]; exact h8
    · rw [q3 21 (by decide) (by decide) (by decide)]; exact h9
    · rw [q3 22 (by decide) (by decide) (by decide)]; exact h10
  · unfold LTR at hL ⊢
    rw [q1 (tb θ + 30) (by omega) (by omega), q3 30 (by decide) (by decide) (by decide), q3 31 (by decide) (by decide) (by decide), q3 32 (by decide) (by decide) (by decide), q3 33 (by decide) (by decide) (by decide)]; exact hL
  · unfold HND at hH ⊢
    rw [q1 (tb θ + 25) (by omega) (by omega), q1 (tb θ + 26) (by omega) (by omega), q2 (tb θ + 149) (by omega), q3 34 (by decide) (by decide) (by decide), q3 36 (by decide) (by decide) (by decide), q3 37 (by decide) (by decide) (by decide), q3 38 (by decide) (by decide) (by decide)]; exact hH
end READER
