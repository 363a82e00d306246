-- a block of sound, one side
def jn0 (m a : Int32) : Int32 := if a ≤ 0 then (if m ≤ 0 then m - a else m + a) else m
def jn1 (m a : Int32) : Int32 := if a ≤ 0 then m else (if m ≤ 0 then m + a else m - a)
def jnV (vv : VT) (ch x : Nat) : Int32 := if ch = 0 then jn0 (vv 0 x) (vv 1 x) else jn1 (vv 0 x) (vv 1 x)
def smpN (old bf sz cl tm : Int32) : Int32 := if cl = 0 then (if bf ≤ 0 then old else old + (bf / 4 + sz / 4)) else if tm = 65535 then (if bf ≤ 0 then old else old + (bf / 4 + sz / 4)) else if (if bf ≤ 0 then old else old + (bf / 4 + sz / 4)) ≤ tm then (if bf ≤ 0 then old else old + (bf / 4 + sz / 4)) else tm
def sd2 (p : PK) (s : RS) : RS := if spB p s = true then rdS p 2 (rdS p 1 s) else rdS p 1 s
def sdW (p : PK) (s : RS) : Nat := if spB p s = true then rdV p 2 (rdS p 1 s) else 0
def sdS (p : PK) (bk : Nat → BD) (cd : CD) (s : RS) : Nat → RS
  | 0 => sd2 p s
  | k + 1 => crS p bk cd (sdS p bk cd s k)
def sdU (p : PK) (bk : Nat → BD) (cd : CD) (s : RS) (c ch : Nat) : Bool := decide (ch < c) && crU p bk cd (sdS p bk cd s ch)
def sdV (p : PK) (bk : Nat → BD) (cd : CD) (vd : VD) (s : RS) (c w : Nat) : VS := vlF p vd c (sdU p bk cd s c) bk (vNp vd c w) (sdS p bk cd s c, (fun _ _ => 0), (fun _ _ => 0))
def sdC (p : PK) (bk : Nat → BD) (cd : CD) (s : RS) (c ch x : Nat) : Int32 := if sdU p bk cd s c ch = true then nI (crX p bk cd (sdS p bk cd s ch) x) else 0
def sdF (p : PK) (bk : Nat → BD) (cd : CD) (vd : VD) (s : RS) (c w ch x : Nat) : Int32 := if vd.jo = true then jnV (sdV p bk cd vd s c w).vv ch x else (sdV p bk cd vd s c w).vv ch x
def sdM (p : PK) (bk : Nat → BD) (cd : CD) (vd : VD) (s : RS) (c w : Nat) : Nat := ((if spB p s = true then 1 + 2 * sdW p s else 0) + 8 * unN (sdU p bk cd s c)) + (if (sdV p bk cd vd s c w).s.2 = true then 32 else 0)
section SOUND
variable {θ : TH} {V : VT} {U : UT} {sw : Bool} {p : PK} {vd : VD} {cd : CD} {c B cp vp : Nat} {bk : Nat → BD} {s : RS}
theorem sd2_ok (h : s.1 ≤ 8 * p.L) : (sd2 p s).1 ≤ 8 * p.L := by
  unfold sd2; split
  · exact rdS_ok 2 (rdS_ok 1 h)
  · exact rdS_ok 1 h
theorem sdS_ok (h : s.1 ≤ 8 * p.L) : ∀ k, (sdS p bk cd s k).1 ≤ 8 * p.L
  | 0 => sd2_ok h
  | k + 1 => crS_ok (sdS_ok h k)
theorem s_zero {K : VT → UT → Prop} {a n : Nat} (ha : ∀ m, isA θ a 0 m ↔ m = n) (hn : n < 2 ^ 31) (h : ∀ W, (∀ q, q ≠ a → W q = V q) → (∀ j, j < n → W a j = 0) → K W U) : wp_A_fill θ a (0 : Int32) V U K := by
  unfold wp_A_fill
  refine ⟨n, (ha n).2 rfl, fun y hy => ?_⟩
  subst hy
  refine loop1 n (fun j W => (∀ q, q ≠ a → W q = V q) ∧ ∀ i, i < j → W a i = 0) ⟨fun _ _ => rfl, fun i hi => (by omega)⟩ (fun f j W hj hJ hgo => ?_) (fun f W hJ => ?_)
  · obtain ⟨w1, w2⟩ := hJ
    show bl_A_fill_5 _ _ _ _ _ _ _ _ _
    unfold bl_A_fill_5
    refine br_f (nI_ge hj hn) ⟨n, (ha n).2 rfl, vp_in_nI hj hn, fun V8 h8 y hy => ?_⟩
    rw [h8, hy, nI_clamp (by omega), nI_1]
    refine hgo _ ⟨fun q hq => (up2_ne hq).trans (w1 q hq), fun i hi => ?_⟩
    by_cases e : i = j
    · subst e; rw [up2_aa]
    · rw [up2_ab e]; exact w2 i (by omega)
  · obtain ⟨w1, w2⟩ := hJ
    show bl_A_fill_5 _ _ _ _ _ _ _ _ _
    unfold bl_A_fill_5
    exact br_t (nI_le (Nat.le_refl _) hn) (h W w1 w2)
/-- the decoder's own cells -/
theorem dcU (hθ : OKt θ) (hU : US θ sw U) : isO θ (tb θ + 66) 11 ∧ U (tb θ + 66) 0 = tb θ + 25 ∧ U (tb θ + 66) 1 = tb θ + 67 ∧ U (tb θ + 66) 7 = tb θ + cpA sw ∧ U (tb θ + 66) 8 = tb θ + vpA sw ∧ U (tb θ + 66) 9 = tb θ + cpA (!sw) ∧ U (tb θ + 66) 10 = tb θ + vpA (!sw) ∧ U (tb θ + 66) 13 = tb θ + 100 ∧ U (tb θ + 66) 14 = tb θ + 103 ∧ (∀ m, isR θ (tb θ + 100) 6 m ↔ m = 2) ∧ (∀ m, isR θ (tb θ + 103) 6 m ↔ m = 2) ∧ isO θ (tb θ + 25) 7 ∧ (∀ m, isR θ (tb θ + 67) 5 m ↔ m = 4) ∧ isO θ (tb θ + cpA sw) 9 ∧ isO θ (tb θ + vpA sw) 10 ∧ isO θ (tb θ + cpA (!sw)) 9 ∧ isO θ (tb θ + vpA (!sw)) 10 := by
  refine ⟨kO hθ (by decide) rfl, uq hU (by cases sw <;> decide +kernel), uq hU (by cases sw <;> decide +kernel), uq hU (by cases sw <;> decide +kernel), uq hU (by cases sw <;> decide +kernel), uq hU (by cases sw <;> decide +kernel), uq hU (by cases sw <;> decide +kernel), uq hU (by cases sw <;> decide +kernel), uq hU (by cases sw <;> decide +kernel), kR hθ (by decide) rfl, kR hθ (by decide) rfl, kO hθ (by decide) rfl, kR hθ (by decide) rfl, ?_, ?_, ?_, ?_⟩
  · cases sw
    · exact kO hθ (by decide) rfl
    · exact kO hθ (by decide) rfl
  · cases sw
    · exact kO hθ (by decide) rfl
    · exact kO hθ (by decide) rfl
  · cases sw
    · exact kO hθ (by decide) rfl
    · exact kO hθ (by decide) rfl
  · cases sw
    · exact kO hθ (by decide) rfl
    · exact kO hθ (by decide) rfl
theorem s_unjoin {K : VT → UT → Prop} (hθ : OKt θ) (hU : US θ sw U) {w : Nat} (hw : w ≤ 32) (h : ∀ W, (∀ q, q ≠ tb θ + 104 → q ≠ tb θ + 105 → W q = V q) → (∀ x, x < w → W (tb θ + 104) x = jn0 (V (tb θ + 104) x) (V (tb θ + 105) x) ∧ W (tb θ + 105) x = jn1 (V (tb θ + 104) x) (V (tb θ + 105) x)) → K W U) : wp_D_unjoin θ (tb θ + 66) (nI w) V U K := by
  have hA104 : ∀ k, isA θ (tb θ + 104) 0 k ↔ k = 32 := kA hθ (by decide) rfl
  have hA105 : ∀ k, isA θ (tb θ + 105) 0 k ↔ k = 32 := kA hθ (by decide) rfl
  have hU0 : U (tb θ + 103) 0 = tb θ + 104 := uq hU (by cases sw <;> decide +kernel)
  have hU1 : U (tb θ + 103) 1 = tb θ + 105 := uq hU (by cases sw <;> decide +kernel)
  refine loop1 w (fun x W => (∀ q, q ≠ tb θ + 104 → q ≠ tb θ + 105 → W q = V q) ∧ (∀ j, j < x → W (tb θ + 104) j = jn0 (V (tb θ + 104) j) (V (tb θ + 105) j) ∧ W (tb θ + 105) j = jn1 (V (tb θ + 104) j) (V (tb θ + 105) j)) ∧ ∀ j, x ≤ j → W (tb θ + 104) j = V (tb θ + 104) j ∧ W (tb θ + 105) j = V (tb θ + 105) j) ⟨fun _ _ _ => rfl, fun j hj => (by omega), fun _ _ => ⟨rfl, rfl⟩⟩ (fun f x W hx hJ hgo => ?_) (fun f W hJ => ?_)
  · obtain ⟨w1, w2, w3⟩ := hJ
    obtain ⟨e0, e1⟩ := w3 x (Nat.le_refl _)
    have hin : vp_in (nI x) 32 := vp_in_nI (by omega) (by decide)
    have hn0 : vp_in (0 : Int32) 2 := vp_in_nI (n := 0) (by decide) (by decide)
    have hn1 : vp_in (1 : Int32) 2 := vp_in_nI (n := 1) (by decide) (by decide)
    show bl_D_unjoin_2 _ _ _ _ _ _ _ _
    unfold bl_D_unjoin_2 wb_D_unjoin_53 wb_D_unjoin_79
    simp only [dcU hθ hU, true_and, exists_eq_left]
    rw [show ((0 : Int32).toNatClampNeg) = 0 from rfl, show ((1 : Int32).toNatClampNeg) = 1 from rfl, hU0, hU1]
    simp only [hA104, hA105, exists_eq_left]
    rw [nI_clamp (show x < 2 ^ 31 by omega), e0, e1]
    have go : ∀ X, (∀ q, q ≠ tb θ + 104 → q ≠ tb θ + 105 → X q = W q) → (∀ j, j ≠ x → X (tb θ + 104) j = W (tb θ + 104) j ∧ X (tb θ + 105) j = W (tb θ + 105) j) → X (tb θ + 104) x = jn0 (V (tb θ + 104) x) (V (tb θ + 105) x) → X (tb θ + 105) x = jn1 (V (tb θ + 104) x) (V (tb θ + 105) x) → ∀ y : Int32, y = nI x + 1 → wl_D_unjoin_2 θ (tb θ + 66) (nI w) K f y X U := by
      intro X x1 x2 x3 x4 y hy
      rw [hy, nI_1]
      refine hgo _ ⟨fun q a b => by rw [x1 q a b]; exact w1 q a b, fun j hj => ?_, fun j hj => ?_⟩
      · by_cases e : j = x
        · subst e; exact ⟨x3, x4⟩
        · rw [(x2 j e).1, (x2 j e).2]; exact w2 j (by omega)
      · rw [(x2 j (by omega)).1, (x2 j (by omega)).2]; exact w3 j (by omega)
    refine br_f (nI_ge hx (by omega)) ⟨by omega, hn0, by omega, hin, fun y11 e11 => ⟨hn1, by omega, hin, fun y17 e17 => ?_⟩⟩
    subst e11 e17
    refine ⟨fun qa => ⟨fun qm => ⟨hin, fun V24 h24 => ⟨by omega, hn1, by omega, hin, fun V34 h34 => go V34 ?_ ?_ ?_ ?_⟩⟩, fun qm => ⟨hin, fun V24 h24 => ⟨by omega, hn1, by omega, hin, fun V34 h34 => go V34 ?_ ?_ ?_ ?_⟩⟩⟩, fun qa => ⟨fun qm => ⟨hin, fun V39 h39 => go V39 ?_ ?_ ?_ ?_⟩, fun qm => ⟨hin, fun V39 h39 => go V39 ?_ ?_ ?_ ?_⟩⟩⟩
    · intro q a b; rw [h34, h24, up2_ne b, up2_ne a]
    · intro j hj; rw [h34, h24, up2_ne (show tb θ + 104 ≠ tb θ + 105 by omega), up2_ab hj, up2_ab hj, up2_ne (show tb θ + 105 ≠ tb θ + 104 by omega)]; exact ⟨rfl, rfl⟩
    · rw [h34, h24, up2_ne (by omega), up2_aa]; unfold jn0; rw [if_pos qa, if_pos qm]
    · rw [h34, up2_aa]; unfold jn1; rw [if_pos qa]
    · intro q a b; rw [h34, h24, up2_ne b, up2_ne a]
    · intro j hj; rw [h34, h24, up2_ne (show tb θ + 104 ≠ tb θ + 105 by omega), up2_ab hj, up2_ab hj, up2_ne (show tb θ + 105 ≠ tb θ + 104 by omega)]; exact ⟨rfl, rfl⟩
    · rw [h34, h24, up2_ne (by omega), up2_aa]; unfold jn0; rw [if_pos qa, if_neg qm]
    · rw [h34, up2_aa]; unfold jn1; rw [if_pos qa]
    · intro q a b; rw [h39, up2_ne b]
    · intro j hj; rw [h39, up2_ne (show tb θ + 104 ≠ tb θ + 105 by omega), up2_ab hj]; exact ⟨rfl, rfl⟩
    · rw [h39, up2_ne (by omega), e0]; unfold jn0; rw [if_neg qa]
    · rw [h39, up2_aa]; unfold jn1; rw [if_neg qa, if_pos qm]
    · intro q a b; rw [h39, up2_ne b]
    · intro j hj; rw [h39, up2_ne (show tb θ + 104 ≠ tb θ + 105 by omega), up2_ab hj]; exact ⟨rfl, rfl⟩
    · rw [h39, up2_ne (by omega), e0]; unfold jn0; rw [if_neg qa]
    · rw [h39, up2_aa]; unfold jn1; rw [if_neg qa, if_neg qm]
  · obtain ⟨w1, w2, w3⟩ := hJ
    show bl_D_unjoin_2 _ _ _ _ _ _ _ _
    unfold bl_D_unjoin_2
    exact br_t (nI_le (Nat.le_refl _) (by omega)) (h W w1 w2)
theorem s_count {K : VT → UT → Prop} (hθ : OKt θ) (hU : US θ sw U) {bf : Int32} (h : ∀ W, (∀ q, q ≠ tb θ + 66 → W q = V q) → (∀ j, j ≠ 15 → W (tb θ + 66) j = V (tb θ + 66) j) → W (tb θ + 66) 15 = smpN (V (tb θ + 66) 15) bf (V (tb θ + 66) 11) (V (tb θ + 25) 4) (V (tb θ + 25) 3) → K W U) : wp_D_countSamples θ (tb θ + 66) bf V U K := by
  have tail : ∀ X, (∀ q, q ≠ tb θ + 66 → X q = V q) → (∀ j, j ≠ 15 → X (tb θ + 66) j = V (tb θ + 66) j) → X (tb θ + 66) 15 = (if bf ≤ 0 then V (tb θ + 66) 15 else V (tb θ + 66) 15 + (bf / 4 + V (tb θ + 66) 11 / 4)) → wb_D_countSamples_23 θ (tb θ + 66) K X U := by
    intro X x1 x2 x3
    unfold wb_D_countSamples_23
    simp only [dcU hθ hU, true_and]
    rw [x1 (tb θ + 25) (by omega), x3]
    refine ⟨by omega, fun q => h X x1 x2 ?_, fun q => ⟨fun q2 => h X x1 x2 ?_, fun q2 => ⟨fun q3 => h X x1 x2 ?_, fun q3 V11 h11 => ?_⟩⟩⟩
    · rw [x3]; unfold smpN; rw [if_pos q]
    · rw [x3]; unfold smpN; rw [if_neg q, if_pos q2]
    · rw [x3]; unfold smpN; rw [if_neg q, if_neg q2, if_pos q3]
    · rw [h11]
      refine h _ (fun a ha => (up2_ne ha).trans (x1 a ha)) (fun j hj => (up2_ab hj).trans (x2 j hj)) ?_
      rw [up2_aa]; unfold smpN; rw [if_neg q, if_neg q2, if_neg q3]
  unfold wp_D_countSamples
  simp only [dcU hθ hU, true_and]
  refine ⟨fun q => tail V (fun _ _ => rfl) (fun _ _ => rfl) (by rw [if_pos q]), fun q => ⟨by decide, fun V4 h4 => ?_⟩⟩
  rw [h4]
  exact tail _ (fun a ha => up2_ne ha) (fun j hj => up2_ab hj) (by rw [up2_aa, if_neg q])
end SOUND
