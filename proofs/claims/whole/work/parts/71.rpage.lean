theorem fl_bits {fl : Nat} (h : fl < 8) : (nI fl &&& 1 = 0 ↔ fl % 2 = 0) ∧ (nI fl &&& 2 = 0 ↔ ¬ fl / 2 % 2 = 1) ∧ (nI fl &&& 4 = 0 ↔ ¬ fl / 4 % 2 = 1) := by
  have hd : ∀ f : Fin 8, (nI f.val &&& 1 = 0 ↔ f.val % 2 = 0) ∧ (nI f.val &&& 2 = 0 ↔ ¬ f.val / 2 % 2 = 1) ∧ (nI f.val &&& 4 = 0 ↔ ¬ f.val / 4 % 2 = 1) := by decide
  exact hd ⟨fl, h⟩
theorem sub255 {a b : Nat} (ha : a < 2 ^ 31) (hb : b < 2 ^ 31) : (nI a - nI b) &&& 255 = nI ((a + 256 - b % 256) % 256) := by
  rw [pk_and _ 8 (by decide)]
  congr 1
  have e : (nI a - nI b).toBitVec = (nI a).toBitVec - (nI b).toBitVec := Int32.toBitVec_sub ..
  rw [e, BitVec.toNat_sub, pk_tn (by omega), pk_tn (by omega)]
  omega
section RPAGE
variable {θ : TH} {sw : Bool} {U : UT} {V V1 V2 : VT} {S : ST} {k se n r : Nat} {w : Nat → Nat}
/-- only inbox k changed -/
theorem CRd.inb {S2 : ST} (hC : CRd θ V S se) (hk3 : k < 3) (hf : ∀ q, q ≠ tb θ + (33 + 3 * k) → q ≠ tb θ + (33 + 3 * k) + 1 → q ≠ tb θ + (33 + 3 * k) + 2 → V2 q = V q) (hn : CIn θ V2 k S2) (ho : ∀ j, j ≠ k → S2.kn j = S.kn j ∧ S2.no j = S.no j ∧ S2.ct j = S.ct j ∧ S2.un j = S.un j) (hp : S2.pc = S.pc) (he : S2.ev = S.ev) : FRr θ V V2 ∧ CRd θ V2 S2 se := by
  obtain ⟨c1, c2, c3, c4⟩ := hC
  refine ⟨⟨fun q hq => hf q (by omega) (by omega) (by omega), by rw [hf _ (by omega) (by omega) (by omega)]⟩, fun j hj => ?_, ?_, ?_, ?_⟩
  · by_cases h : j = k
    · subst h; exact hn
    · obtain ⟨o1, o2, o3, o4⟩ := ho j h
      exact (c1 j hj).of (hf _ (by omega) (by omega) (by omega)) (hf _ (by omega) (by omega) (by omega)) (hf _ (by omega) (by omega) (by omega)) o1 o2 o3 o4
  · rw [hf _ (by omega) (by omega) (by omega), he]; exact c2
  · rw [hf _ (by omega) (by omega) (by omega), hp]; exact c3
  · rw [he]
    exact fun j hj => (c4 j hj).of (hf _ (by omega) (by omega) (by omega)) (hf _ (by omega) (by omega) (by omega)) (hf _ (by omega) (by omega) (by omega))
theorem CRd.noS {no : Nat} (hC : CRd θ V S se) (hk3 : k < 3) (hno : no < 256) : FRr θ V (up2 V (tb θ + (33 + 3 * k)) 2 (nI no)) ∧ CRd θ (up2 V (tb θ + (33 + 3 * k)) 2 (nI no)) (noS k no S) se := by
  obtain ⟨c1, c2, c3⟩ := hC.1 k hk3
  refine hC.inb hk3 (fun q a b c => up2_ne a) ⟨?_, ?_, c3⟩ (fun j hj => ⟨rfl, fu_n hj, rfl, rfl⟩) rfl rfl
  · rcases c1 with ⟨a, b⟩ | ⟨s, a1, a2, a3, a4, a5, a6, a7⟩
    · exact Or.inl ⟨a, by rw [up2_ab (by decide)]; exact b⟩
    · refine Or.inr ⟨s, a1, a2, by rw [up2_ab (by decide)]; exact a3, by rw [up2_ab (by decide)]; exact a4, ?_, by rw [up2_ab (by decide)]; exact a6, ?_⟩
      · rw [up2_aa]; show _ = nI (fu S.no k no k); rw [fu_a]
      · show fu S.no k no k < 256; rw [fu_a]; exact hno
  · unfold KP at c2 ⊢
    rw [up2_ne (by omega), up2_ne (by omega)]; exact c2
theorem CRd.ctS {c : Nat} (hC : CRd θ V S se) (hk3 : k < 3) : FRr θ V (up2 V (tb θ + (33 + 3 * k)) 3 (nI c)) ∧ CRd θ (up2 V (tb θ + (33 + 3 * k)) 3 (nI c)) (ctS k c S) se := by
  obtain ⟨c1, c2, c3⟩ := hC.1 k hk3
  refine hC.inb hk3 (fun q a b c => up2_ne a) ⟨?_, ?_, c3⟩ (fun j hj => ⟨rfl, rfl, fu_n hj, rfl⟩) rfl rfl
  · rcases c1 with ⟨a, b⟩ | ⟨s, a1, a2, a3, a4, a5, a6, a7⟩
    · exact Or.inl ⟨a, by rw [up2_ab (by decide)]; exact b⟩
    · refine Or.inr ⟨s, a1, a2, by rw [up2_ab (by decide)]; exact a3, by rw [up2_ab (by decide)]; exact a4, by rw [up2_ab (by decide)]; exact a5, ?_, a7⟩
      rw [up2_aa]; show _ = nI (fu S.ct k c k); rw [fu_a]
  · unfold KP at c2 ⊢
    rw [up2_ne (by omega), up2_ne (by omega)]; exact c2
theorem CRd.off (hC : CRd θ V S se) (hk3 : k < 3) : FRr θ V (up2 V (tb θ + (33 + 3 * k)) 0 0) ∧ CRd θ (up2 V (tb θ + (33 + 3 * k)) 0 0) (knS k none S) se := by
  obtain ⟨c1, c2, c3⟩ := hC.1 k hk3
  refine hC.inb hk3 (fun q a b c => up2_ne a) ⟨Or.inl ⟨?_, up2_aa⟩, ?_, c3⟩ (fun j hj => ⟨fu_n hj, rfl, rfl, rfl⟩) rfl rfl
  · show fu S.kn k none k = none; rw [fu_a]
  · unfold KP at c2 ⊢
    rw [up2_ne (by omega), up2_ne (by omega)]; exact c2
theorem s_begin {K : VT → UT → Prop} (hθ : OKt θ) (hU : US θ sw U) (hk3 : k < 3) (hC : CRd θ V S se) (hse : se < 256) (hk2 : ∀ V2, (∀ no, no < 256 → FRr θ V (up2 V2 (tb θ + (33 + 3 * k)) 2 (nI no)) ∧ CRd θ (up2 V2 (tb θ + (33 + 3 * k)) 2 (nI no)) (noS k no (begS k se S)) se) → K V2 U) : wp_I_begin θ (tb θ + (33 + 3 * k)) (nI se) V U K := by
  obtain ⟨⟨i1, i2, i3, i4, i5, i6, i7⟩, -⟩ := ib_k hθ hU hk3
  unfold wp_I_begin wp_K_clear
  simp only [i1, i2, i3, true_and]
  refine fun W1 e1 W2 e2 W3 e3 => ⟨by omega, fun W4 e4 W5 e5 => hk2 W5 (fun no hn => ?_)⟩
  refine hC.inb hk3 (fun q a b c => ?_) ⟨Or.inr ⟨se, hse, ?_, ?_, ?_, ?_, ?_, ?_⟩, ?_, ?_⟩ (fun j hj => ⟨fu_n hj, fu_n hj, fu_n hj, fu_n hj⟩) rfl rfl
  · rw [up2_ne a, e5, up2_ne b, e4, up2_ne b, e3, up2_ne a, e2, up2_ne a, e1, up2_ne a]
  · show fu S.kn k (some se) k = _; rw [fu_a]
  · rw [up2_ab (by decide), e5, up2_ne (by omega), e4, up2_ne (by omega), e3, up2_ab (by decide), e2, up2_ab (by decide), e1, up2_aa]
  · rw [up2_ab (by decide), e5, up2_ne (by omega), e4, up2_ne (by omega), e3, up2_ab (by decide), e2, up2_aa]
  · rw [up2_aa]; show _ = nI (fu S.no k no k); rw [fu_a]
  · rw [up2_ab (by decide), e5, up2_ne (by omega), e4, up2_ne (by omega), e3, up2_aa]; show _ = nI (fu S.ct k 0 k); rw [fu_a]; rfl
  · show fu S.no k no k < 256; rw [fu_a]; exact hn
  · show KP _ _ (fu S.un k [] k) (15 * (fu S.un k [] k).length)
    rw [fu_a]
    refine ⟨?_, ?_, fun j hj => absurd hj (by simp)⟩
    · rw [up2_ne (by omega), e5, up2_ab (by decide), e4, up2_aa]; rfl
    · rw [up2_ne (by omega), e5, up2_aa]; rfl
  · show (fu S.un k [] k).length ≤ 63; rw [fu_a]; exact Nat.zero_le _
theorem drop_kn : (dropS k S).kn = S.kn ∧ (dropS k S).no = S.no ∧ (dropS k S).ct = S.ct ∧ (dropS k S).ev = S.ev := by
  unfold dropS
  split
  · exact ⟨rfl, rfl, rfl, rfl⟩
  · exact ⟨rfl, rfl, rfl, rfl⟩
/-- the page's stream is entered -/
theorem s_enter {K : VT → UT → Prop} {fl no : Nat} (hθ : OKt θ) (hU : US θ sw U) (hk3 : k < 3) (hC : CRd θ V S se) (hl : S.ev.length < 8) (hse : se < 256) (hkn : S.kn k = none ∨ S.kn k = some se) (hfl : fl < 8) (hno : no < 256) (hk : ∀ V2, FRr θ V V2 → CRd θ V2 (entS k se fl no S) se → K V2 U) : wp_R_enter θ (tb θ + 27) (tb θ + (33 + 3 * k)) (nI se) (nI fl) (nI no) V U K := by
  obtain ⟨⟨i1, i2, i3, i4, i5, i6, i7⟩, -⟩ := ib_k hθ hU hk3
  have ck := hC.1 k hk3
  unfold wp_R_enter
  refine ⟨i1, fun y hy => ?_⟩
  rcases ck.1 with ⟨a, b⟩ | ⟨s, a1, a2, a3, a4, a5, a6, a7⟩
  · refine ⟨fun q => absurd b q, fun _ => ?_⟩
    refine s_begin hθ hU hk3 hC hse (fun W h W2 e2 => ?_)
    rw [e2]
    have e : entS k se fl no S = noS k no (begS k se S) := by unfold entS; rw [if_pos a]
    exact hk _ (h no hno).1 (by rw [e]; exact (h no hno).2)
  · have hne : ¬ S.kn k = none := by rw [a2]; simp
    rw [a5, nI_1, pk_andN (by omega) 8 (by decide)] at hy
    refine ⟨fun _ => ?_, fun q => absurd (a3 ▸ q) (by decide)⟩
    obtain ⟨b1, b2, b4⟩ := fl_bits hfl
    refine ⟨fun q => ?_, fun q => ?_⟩
    · have q2 := b2.mp q
      rw [hy]
      refine pk_eq no ((S.no k + 1) % 256) (fun e => fun W eW => ?_) (fun e => ?_)
      · have es : entS k se fl no S = noS k no S := by unfold entS; rw [if_neg hne, if_neg q2, if_neg (by omega)]
        rw [eW]
        have h := hC.noS (no := no) hk3 hno
        exact hk _ h.1 (by rw [es]; exact h.2)
      · simp only [IC hθ, true_and]
        have es : entS k se fl no S = noS k no (dropS k (evS (mkE 2 ((no + 256 - (S.no k + 1) % 256) % 256) 65535 false []) S)) := by unfold entS; rw [if_neg hne, if_neg q2, if_pos e]
        have e255 : (nI no - nI ((S.no k + 1) % 256)) &&& 255 = nI ((no + 256 - (S.no k + 1) % 256) % 256) := by
          rw [sub255 (by omega) (by omega), Nat.mod_mod]
        rw [e255]
        refine s_event (kd := 2) (tm := 65535) hθ hU hC hl (by decide) (fun W1 f1 h1 a ha => ⟨ha, ?_⟩)
        refine s_drop hθ hU hk3 h1 (by show (S.ev ++ [_]).length ≤ 8; rw [List.length_append, List.length_singleton]; omega) (fun W2 f2 h2 W3 e3 => ?_)
        rw [e3]
        have h := h2.noS (no := no) hk3 hno
        exact hk _ (f1.trans (f2.trans h.1)) (by rw [es]; exact h.2)
    · have q2 : fl / 2 % 2 = 1 := by
        by_cases h : fl / 2 % 2 = 1
        · exact h
        · exact absurd (b2.mpr h) q
      simp only [IC hθ, true_and]
      have es : entS k se fl no S = noS k no (ctS k 0 (dropS k S)) := by unfold entS; rw [if_neg hne, if_pos q2]
      refine s_drop hθ hU hk3 hC (by omega) (fun W2 f2 h2 W3 e3 W4 e4 => ?_)
      have h := h2.ctS (c := 0) hk3
      rw [show up2 W2 (tb θ + (33 + 3 * k)) 3 (nI 0) = W3 from e3.symm] at h
      have h' := h.2.noS (no := no) hk3 hno
      rw [e4]
      exact hk _ (f2.trans (h.1.trans h'.1)) (by rw [es]; exact h'.2)
end RPAGE
