-- lines and heights
def lfF (pl : Nat → Nat) (P : Nat → Bool) (x : Nat) : Nat → Nat
  | 0 => 0
  | m + 1 => if P (m + 2) = true ∧ pl (m + 2) ≤ x ∧ pl (lfF pl P x m) < pl (m + 2) then m + 2 else lfF pl P x m
def rtF (pl : Nat → Nat) (P : Nat → Bool) (x : Nat) : Nat → Nat
  | 0 => 1
  | m + 1 => if P (m + 2) = true ∧ x < pl (m + 2) ∧ pl (m + 2) < pl (rtF pl P x m) then m + 2 else rtF pl P x m
def lnH (h pl : Nat → Nat) (f l r x : Nat) : Nat := if h l * f ≤ h r * f then h l * f + (h r * f - h l * f) * (x - pl l) / (pl r - pl l) else h l * f - (h l * f - h r * f) * (x - pl l) / (pl r - pl l)
def rgG (g : Nat) : Nat := if g = 0 then 32 else if g = 1 then 16 else if g = 2 then 12 else 8
def nbG (g : Nat) : Nat := if g = 0 then 5 else if g = 1 then 4 else if g = 2 then 4 else 3
def htO (rg v q : Nat) : Nat := if v = 0 then q else if v < 2 * min (rg - q) q then (if v % 2 = 1 then q - (v + 1) / 2 else q + v / 2) else if q < rg - q then v else rg - 1 - v
theorem lfF_le {pl : Nat → Nat} {P : Nat → Bool} {x : Nat} (h0 : pl 0 ≤ x) : ∀ m, pl (lfF pl P x m) ≤ x ∧ lfF pl P x m < m + 2 ∧ lfF pl P x m ≠ 1
  | 0 => ⟨h0, by show 0 < 2; decide, by show 0 ≠ 1; decide⟩
  | m + 1 => by
    have := lfF_le (P := P) h0 m
    unfold lfF
    split
    · rename_i q; exact ⟨q.2.1, by omega, by omega⟩
    · exact ⟨this.1, by omega, this.2.2⟩
theorem rtF_gt {pl : Nat → Nat} {P : Nat → Bool} {x : Nat} (h1 : x < pl 1) : ∀ m, x < pl (rtF pl P x m) ∧ rtF pl P x m < m + 2 ∧ 0 < rtF pl P x m
  | 0 => ⟨h1, by show 1 < 2; decide, by show 0 < 1; decide⟩
  | m + 1 => by
    have := rtF_gt (P := P) h1 m
    unfold rtF
    split
    · rename_i q; exact ⟨q.2.1, by omega, by omega⟩
    · exact ⟨this.1, by omega, this.2.2⟩
theorem rgG_b (g : Nat) : 8 ≤ rgG g ∧ rgG g ≤ 32 := by
  unfold rgG; split; decide; split; decide; split; decide; decide
theorem nbG_b (g : Nat) : nbG g ≤ 5 := by
  unfold nbG; split; decide; split; decide; split; decide; decide
theorem htO_lt {rg v q : Nat} (hr : 8 ≤ rg) (hv : v < 8) (hq : q < rg) : htO rg v q < rg := by
  unfold htO
  split
  · exact hq
  · split
    · split <;> omega
    · split <;> omega
theorem div_le_of {a b w : Nat} (h : b ≤ w) (hw : 0 < w) : a * b / w ≤ a := by
  rw [Nat.div_le_iff_le_mul_add_pred hw]
  have := Nat.mul_le_mul_left a h
  rw [Nat.mul_comm w a]; omega
theorem lnH_lt {h pl : Nat → Nat} {f l r x M : Nat} (h1 : pl l ≤ x) (h2 : x < pl r) (hl : h l * f < M) (hr : h r * f < M) : lnH h pl f l r x < M := by
  unfold lnH
  have hw : 0 < pl r - pl l := by omega
  split
  · have := div_le_of (a := h r * f - h l * f) (b := x - pl l) (w := pl r - pl l) (by omega) hw
    omega
  · exact Nat.lt_of_le_of_lt (Nat.sub_le _ _) hl
theorem i_negsub (a b : Int32) : 0 - (a - b) = b - a := by
  rw [Int32.zero_sub, Int32.neg_sub]
section LINE
variable {θ : TH} {V : VT} {U : UT} {sw : Bool} {c la : Nat} {h pl : Nat → Nat}
/-- both sides' reckoning of a line -/
theorem ln_eq {y0 y1 a w : Nat} (hy0 : y0 < 2 ^ 12) (hy1 : y1 < 2 ^ 12) (ha : a < 2 ^ 12) (hw0 : 0 < w) (hw : w < 2 ^ 12) {K : Int32 → Prop} (hk : K (nI (if y0 ≤ y1 then y0 + (y1 - y0) * a / w else y0 - (y0 - y1) * a / w))) (haw : a ≤ w) : ((nI y1 < nI y0 → K (nI y0 - (nI y0 - nI y1) * nI a / nI w)) ∧ (¬ nI y1 < nI y0 → K (nI y0 + (nI y1 - nI y0) * nI a / nI w))) := by
  refine pk_lt y1 y0 (fun q => ?_) (fun q => ?_)
  · have hm : (y0 - y1) * a ≤ 2 ^ 12 * 2 ^ 12 := Nat.mul_le_mul (by omega) (by omega)
    have hd := div_le_of (a := y0 - y1) haw hw0
    rw [if_neg (by omega)] at hk
    rw [pk_sub (by omega), pk_mul, pk_div (by omega) hw0 (by omega), pk_sub (by omega)]
    exact hk
  · have hm : (y1 - y0) * a ≤ 2 ^ 12 * 2 ^ 12 := Nat.mul_le_mul (by omega) (by omega)
    rw [if_pos q] at hk
    rw [pk_sub q, pk_mul, pk_div (by omega) hw0 (by omega), nI_add]
    exact hk
theorem s_between {K : Int32 → VT → UT → Prop} (hθ : OKt θ) (hU : US θ sw U) (hc : c = 68 ∨ c = 84) {l r x f : Nat} (hl : l < 14) (hr : r < 14) (hf : f ≤ 4) (hx : x ≤ 64) (vh : V (tb θ + (c + 8)) l = nI (h l) ∧ V (tb θ + (c + 8)) r = nI (h r)) (vp : V (tb θ + (c + 6)) l = nI (pl l) ∧ V (tb θ + (c + 6)) r = nI (pl r)) (hh : h l < 32 ∧ h r < 32) (hp : pl l ≤ x) (hp2 : x < pl r) (hp3 : pl r ≤ 32) (hk : K (nI (lnH h pl f l r x)) V U) : wp_C_heightBetween θ (tb θ + c) (nI l) (nI r) (nI x) (nI f) V U K := by
  unfold wp_C_heightBetween
  simp only [cpU hθ hU hc, true_and, exists_eq_left]
  rw [nI_clamp (show l < 2 ^ 31 by omega), nI_clamp (show r < 2 ^ 31 by omega), vh.1, vh.2, vp.1, vp.2]
  have m1 : h l * f ≤ 31 * 4 := Nat.mul_le_mul (by omega) hf
  have m2 : h r * f ≤ 31 * 4 := Nat.mul_le_mul (by omega) hf
  refine ⟨by omega, vp_in_nI (by omega) (by decide), fun y6 e6 => ⟨vp_in_nI (by omega) (by decide), fun y8 e8 => ⟨by omega, vp_in_nI (by omega) (by decide), vp_in_nI (by omega) (by decide), fun y14 e14 => ?_⟩⟩⟩
  rw [pk_mul] at e6 e8
  rw [pk_sub (show pl l ≤ pl r by omega)] at e14
  have e14' : y14 = nI (pl r - pl l) := by
    rw [e14]
    show (if nI 1 < nI (pl r - pl l) then nI (pl r - pl l) else nI 1) = _
    by_cases q : 1 < pl r - pl l
    · rw [if_pos (nI_lt q (by omega))]
    · rw [if_neg (nI_nlt (by omega) (by decide)), show pl r - pl l = 1 by omega]
  subst e6 e8
  rw [e14']
  refine ⟨nI_ne0 (by omega) (by omega), fun y16 e16 => ?_⟩
  rw [pk_sub hp] at e16
  have key := ln_eq (y0 := h l * f) (y1 := h r * f) (a := x - pl l) (w := pl r - pl l) (by omega) (by omega) (by omega) (by omega) (by omega) (K := fun z => K z V U) hk (by omega)
  refine ⟨fun q => ?_, fun q => ?_⟩
  · have hlt : h r * f < h l * f := (nI_ltI (by omega) (by omega)).1 q
    rw [if_neg (by
      intro z
      have := pk_sneg (a := h r * f) (b := h l * f) (by omega) hlt
      exact absurd z (by rw [Int32.not_le]; exact this)), i_negsub] at e16
    rw [e16]; exact key.1 q
  · have hge : h l * f ≤ h r * f := by
      apply Nat.le_of_not_lt
      intro z; exact q (nI_lt z (by omega))
    rw [if_pos (by rw [pk_sub hge]; exact nI_pos' (by omega))] at e16
    rw [e16]; exact key.2 q
theorem m_line {K : Int32 → VT → UT → Prop} (hθ : OKt θ) (hU : US θ sw U) (hla : la ≤ 48) (h53 : V (tb θ + 126) 53 = nI la) {l r x f : Nat} (hl : l < 14) (hr : r < 14) (hf : f ≤ 4) (hx : x ≤ 64) (vh : V (tb θ + 162) l = nI (h l) ∧ V (tb θ + 162) r = nI (h r)) (vp : V (tb θ + 157) (la + 16 + l) = nI (pl l) ∧ V (tb θ + 157) (la + 16 + r) = nI (pl r)) (hh : h l < 32 ∧ h r < 32) (hp : pl l ≤ x) (hp2 : x < pl r) (hp3 : pl r ≤ 32) (hk : K (nI (lnH h pl f l r x)) V U) : wp_M_line θ (tb θ + 126) (nI l) (nI r) (nI f) (nI x) V U K := by
  have i16 : nI la + (16 : Int32) = nI (la + 16) := nI_add la 16
  unfold wp_M_line wb_M_line_75
  simp only [UM hU, IM hθ, true_and, exists_eq_left, h53, i16, nI_add]
  rw [nI_clamp (show l < 2 ^ 31 by omega), nI_clamp (show r < 2 ^ 31 by omega), nI_clamp (show la + 16 + l < 2 ^ 31 by omega), nI_clamp (show la + 16 + r < 2 ^ 31 by omega), vh.1, vh.2, vp.1, vp.2]
  have m1 : h l * f ≤ 31 * 4 := Nat.mul_le_mul (by omega) hf
  have m2 : h r * f ≤ 31 * 4 := Nat.mul_le_mul (by omega) hf
  refine ⟨by omega, vp_in_nI (by omega) (by decide), fun y6 e6 => ⟨vp_in_nI (by omega) (by decide), fun y8 e8 => ⟨by omega, vp_in_nI (by omega) (by decide), fun y13 e13 => ⟨vp_in_nI (by omega) (by decide), fun y15 e15 => ?_⟩⟩⟩⟩
  rw [pk_mul] at e6 e8
  subst e13
  rw [pk_sub (show pl l ≤ pl r by omega)] at e15
  subst e6 e8 e15
  have key := ln_eq (y0 := h l * f) (y1 := h r * f) (a := x - pl l) (w := pl r - pl l) (by omega) (by omega) (by omega) (by omega) (by omega) (K := fun z => K z V U) hk (by omega)
  rw [pk_sub hp]
  refine ⟨fun q => ⟨nI_ne0 (by omega) (by omega), fun y18 e18 => ⟨fun z => ?_, fun z => absurd q z⟩⟩, fun q => ⟨nI_ne0 (by omega) (by omega), fun y18 e18 => ⟨fun z => absurd z q, fun z => ?_⟩⟩⟩
  · rw [e18]; exact key.1 q
  · rw [e18]; exact key.2 q
theorem sV1 {g : Nat} (hg : g ≤ 3) : sV 1 g = nI (rgG g) := by
  have : g = 0 ∨ g = 1 ∨ g = 2 ∨ g = 3 := by omega
  rcases this with rfl | rfl | rfl | rfl <;> decide
theorem sV2 {g : Nat} (hg : g ≤ 3) : sV 2 g = nI (nbG g) := by
  have : g = 0 ∨ g = 1 ∨ g = 2 ∨ g = 3 := by omega
  rcases this with rfl | rfl | rfl | rfl <;> decide
theorem s_heightOf {K : Int32 → VT → UT → Prop} (hθ : OKt θ) (hU : US θ sw U) (hc : c = 68 ∨ c = 84) {g v q : Nat} (hg : g ≤ 3) (hv : v < 8) (hq : q < rgG g) (h0 : V (tb θ + c) 0 = nI g) (hk : K (nI (htO (rgG g) v q)) V U) : wp_C_heightOf θ (tb θ + c) (nI v) (nI q) V U K := by
  have hrb := rgG_b g
  unfold wp_C_heightOf
  simp only [cpU hθ hU hc, true_and]
  rw [h0, nI_clamp (show g < 2 ^ 31 by omega), sV1 hg]
  refine ⟨vp_in_nI (N := 4) (by omega) (by decide), fun y3 e3 y4 e4 => ?_⟩
  subst e3
  rw [pk_sub (show q ≤ rgG g by omega)] at e4
  subst e4
  unfold htO at hk
  refine ⟨fun z => ?_, fun z => ?_⟩
  · have hv0 : ¬ v = 0 := fun w => z (by rw [w]; rfl)
    rw [if_neg hv0] at hk
    have emin : (if nI q < nI (rgG g - q) then nI q else nI (rgG g - q)) = nI (min (rgG g - q) q) := by
      by_cases w : q < rgG g - q
      · rw [if_pos (nI_lt w (by omega)), Nat.min_eq_right (by omega)]
      · rw [if_neg (nI_nlt (by omega) (by omega)), Nat.min_eq_left (by omega)]
    rw [emin, show (2 : Int32) = nI 2 from rfl, pk_mul]
    refine pk_le (2 * min (rgG g - q) q) v (fun w => ?_) (fun w => ⟨by decide, ?_⟩)
    · rw [if_neg (by omega)] at hk
      refine pk_le (rgG g - q) q (fun w2 => ?_) (fun w2 => ?_)
      · rw [if_neg (by omega)] at hk
        rw [show (1 : Int32) = nI 1 from rfl, pk_sub (by omega), pk_sub (by omega)]; exact hk
      · rw [if_pos w2] at hk; exact hk
    · rw [if_pos w] at hk
      rw [pk_rem (by omega) (by decide) (by decide)]
      refine ⟨fun w2 => ?_, fun w2 => ?_⟩
      · rw [if_neg (fun e => w2 (by rw [e]; rfl))] at hk
        rw [pk_div (by omega) (by decide) (by decide), nI_add]; exact hk
      · rw [if_pos ((nI_eq (b := 1) (by omega) (by decide)).1 w2)] at hk
        rw [nI_1, pk_div (by omega) (by decide) (by decide), pk_sub (by omega)]; exact hk
  · have hv0 : v = 0 := (nI_eq (b := 0) (by omega) (by decide)).1 z
    rw [if_pos hv0] at hk; exact hk
theorem m_heightOf {K : Int32 → VT → UT → Prop} {rg v q : Nat} (hr8 : 8 ≤ rg) (hr : rg ≤ 32) (hv : v < 8) (hq : q < rg) (hk : K (nI (htO rg v q)) V U) : wp_M_heightOf θ (nI q) (nI (rg - q)) (nI v) V U K := by
  have fin : ∀ x : Int32, x = nI (2 * min (rg - q) q) → wb_M_heightOf_14 θ (nI q) (nI (rg - q)) (nI v) x K V U := by
    intro x hx
    subst hx
    unfold wb_M_heightOf_14
    unfold htO at hk
    refine ⟨fun z => ?_, fun z => ?_⟩
    · have hv0 : ¬ v = 0 := fun w => z (by rw [w]; rfl)
      rw [if_neg hv0] at hk
      refine pk_le (2 * min (rg - q) q) v (fun w => ?_) (fun w => ⟨by decide, ?_⟩)
      · rw [if_neg (by omega)] at hk
        refine pk_le (rg - q) q (fun w2 => ?_) (fun w2 => ?_)
        · rw [if_neg (by omega)] at hk
          rw [nI_add, show (1 : Int32) = nI 1 from rfl, pk_sub (by omega), pk_sub (by omega), show rg - q + q = rg by omega]; exact hk
        · rw [if_pos w2] at hk; exact hk
      · rw [if_pos w] at hk
        rw [show (2 : Int32) = nI 2 from rfl, pk_rem (by omega) (by decide) (by decide)]
        refine ⟨fun w2 => ?_, fun w2 => ?_⟩
        · rw [if_neg (fun e => w2 (by rw [e]; rfl))] at hk
          rw [pk_div (by omega) (by decide) (by decide), nI_add]; exact hk
        · rw [if_pos ((nI_eq (b := 1) (by omega) (by decide)).1 w2)] at hk
          rw [nI_1, pk_div (by omega) (by decide) (by decide), pk_sub (by omega)]; exact hk
    · have hv0 : v = 0 := (nI_eq (b := 0) (by omega) (by decide)).1 z
      rw [if_pos hv0] at hk; exact hk
  unfold wp_M_heightOf
  rw [show (2 : Int32) = nI 2 from rfl, pk_mul, pk_mul]
  refine pk_le q (rg - q) (fun w => fin _ ?_) (fun w => fin _ ?_)
  · rw [Nat.min_eq_right (by omega)]
  · rw [Nat.min_eq_left (by omega)]
theorem m_range {K : Int32 → VT → UT → Prop} (hθ : OKt θ) (hU : US θ sw U) (hla : la ≤ 48) {g : Nat} (hg : g ≤ 3) (h0 : V (tb θ + 157) la = nI (g + 1)) (hk : K (nI (rgG g)) V U) : wp_M_range θ (tb θ + 126) (nI la) V U K := by
  have i0 : nI la + (0 : Int32) = nI la := nI_add la 0
  unfold wp_M_range
  simp only [UM hU, IM hθ, true_and, exists_eq_left, i0]
  rw [nI_clamp (show la < 2 ^ 31 by omega), h0]
  refine ⟨by omega, vp_in_nI (by omega) (by decide), fun y hy => ?_⟩
  subst hy
  have : g = 0 ∨ g = 1 ∨ g = 2 ∨ g = 3 := by omega
  rcases this with rfl | rfl | rfl | rfl
  · exact ⟨fun z => absurd (by decide) z, fun _ => hk⟩
  · exact ⟨fun _ => ⟨fun z => absurd (by decide) z, fun _ => hk⟩, fun z => absurd z (by decide)⟩
  · exact ⟨fun _ => ⟨fun _ => ⟨fun z => absurd (by decide) z, fun _ => hk⟩, fun z => absurd z (by decide)⟩, fun z => absurd z (by decide)⟩
  · exact ⟨fun _ => ⟨fun _ => ⟨fun _ => hk, fun z => absurd z (by decide)⟩, fun z => absurd z (by decide)⟩, fun z => absurd z (by decide)⟩
end LINE
