-- the reference's streams
def SM (θ : TH) (V : VT) (k m : Nat) (L T : Nat → Nat) (B : Nat → Int32) (O : Nat → Nat → Nat) : Prop := ∀ j, j < m → V (tb θ + 129) (16 * k + j) = nI (L j) ∧ V (tb θ + 130) (16 * k + j) = B j ∧ V (tb θ + 131) (16 * k + j) = (if L j < 15 then nI (T j) else -1) ∧ ∀ i, i < L j → V (tb θ + 132) (15 * (16 * k + j) + i) = nI (O j i)
def SB (m : Nat) (L T : Nat → Nat) (B : Nat → Int32) (O : Nat → Nat → Nat) : Prop := ∀ j, j < m → L j ≤ 15 ∧ T j < 65535 ∧ isZ (B j) ∧ ∀ i, i < L j → O j i < 256
section MPAGE
variable {θ : TH} {sw : Bool} {U : UT} {V V1 V2 : VT} {n r o m c k h t : Nat} {w L T hb : Nat → Nat} {B : Nat → Int32} {O : Nat → Nat → Nat} {l : List Int32}
theorem m_forget {K : VT → UT → Prop} (hθ : OKt θ) (hU : US θ sw U) (hk4 : k < 4) (hm10 : m ≤ 10) (hcm : c ≤ m)
    (hk : ∀ V2, (∀ q, q ≠ tb θ + 129 → q ≠ tb θ + 130 → q ≠ tb θ + 131 → q ≠ tb θ + 132 → V2 q = V q) → (∀ s, V2 (tb θ + 129) s = (if 16 * k ≤ s ∧ s < 16 * k + (m - c) then V (tb θ + 129) (s + c) else V (tb θ + 129) s) ∧ V2 (tb θ + 130) s = (if 16 * k ≤ s ∧ s < 16 * k + (m - c) then V (tb θ + 130) (s + c) else V (tb θ + 130) s) ∧ V2 (tb θ + 131) s = (if 16 * k ≤ s ∧ s < 16 * k + (m - c) then V (tb θ + 131) (s + c) else V (tb θ + 131) s)) → (∀ s, V2 (tb θ + 132) s = if 240 * k ≤ s ∧ s < 240 * k + 15 * (m - c) then V (tb θ + 132) (s + 15 * c) else V (tb θ + 132) s) → K V2 U) : wp_M_forget θ (tb θ + 126) (nI (16 * k)) (nI c) (nI m) V U K := by
  unfold wp_M_forget
  refine loop1 (wl := wl_M_forget_3 θ (tb θ + 126) (nI (16 * k)) (nI c) (nI m) K) (m - c) (fun d W => (∀ q, q ≠ tb θ + 129 → q ≠ tb θ + 130 → q ≠ tb θ + 131 → q ≠ tb θ + 132 → W q = V q) ∧ (∀ s, W (tb θ + 129) s = (if 16 * k ≤ s ∧ s < 16 * k + d then V (tb θ + 129) (s + c) else V (tb θ + 129) s) ∧ W (tb θ + 130) s = (if 16 * k ≤ s ∧ s < 16 * k + d then V (tb θ + 130) (s + c) else V (tb θ + 130) s) ∧ W (tb θ + 131) s = (if 16 * k ≤ s ∧ s < 16 * k + d then V (tb θ + 131) (s + c) else V (tb θ + 131) s)) ∧ (∀ s, W (tb θ + 132) s = if 240 * k ≤ s ∧ s < 240 * k + 15 * d then V (tb θ + 132) (s + 15 * c) else V (tb θ + 132) s)) ?_ ?_ ?_
  · refine ⟨fun _ _ _ _ _ => rfl, fun s => ?_, fun s => ?_⟩
    · rw [if_neg (by omega), if_neg (by omega), if_neg (by omega)]; exact ⟨rfl, rfl, rfl⟩
    · rw [if_neg (by omega)]
  · rintro f d W hd ⟨f1, f2, f3⟩ hgo
    show bl_M_forget_3 _ _ _ _ _ _ _ _ _ _
    unfold bl_M_forget_3
    simp only [UM hU, IM hθ, true_and, exists_eq_left, nI_add]
    rw [nI_clamp (show 16 * k + d < 2 ^ 31 by omega), nI_clamp (show 16 * k + d + c < 2 ^ 31 by omega)]
    refine br_f (nI_ge (by omega) (by omega)) ⟨by omega, vp_in_nI (by omega) (by decide), vp_in_nI (by omega) (by decide), fun W1 e1 => ⟨by omega, vp_in_nI (by omega) (by decide), vp_in_nI (by omega) (by decide), fun W2 e2 => ⟨by omega, vp_in_nI (by omega) (by decide), vp_in_nI (by omega) (by decide), fun W3 e3 => ?_⟩⟩⟩
    have g29 : W3 (tb θ + 129) = up2 W (tb θ + 129) (16 * k + d) (W (tb θ + 129) (16 * k + d + c)) (tb θ + 129) := by
      rw [e3, up2_ne (by omega), e2, up2_ne (by omega), e1]
    have g30 : W3 (tb θ + 130) = up2 W (tb θ + 130) (16 * k + d) (W (tb θ + 130) (16 * k + d + c)) (tb θ + 130) := by
      rw [e3, up2_ne (by omega), e2, up2_at, up2_at]; simp only [e1, up2_ne (show tb θ + 130 ≠ tb θ + 129 by omega)]
    have g31 : W3 (tb θ + 131) = up2 W (tb θ + 131) (16 * k + d) (W (tb θ + 131) (16 * k + d + c)) (tb θ + 131) := by
      rw [e3, up2_at, up2_at]; simp only [e2, up2_ne (show tb θ + 131 ≠ tb θ + 130 by omega), e1, up2_ne (show tb θ + 131 ≠ tb θ + 129 by omega)]
    have g3 : ∀ q, q ≠ tb θ + 129 → q ≠ tb θ + 130 → q ≠ tb θ + 131 → W3 q = W q := fun q a b e => by rw [e3, up2_ne e, e2, up2_ne b, e1, up2_ne a]
    refine loop1 (wl := wl_M_forget_74 θ (tb θ + 126) (nI (16 * k)) (nI c) (nI m) (nI d) (wl_M_forget_3 θ (tb θ + 126) (nI (16 * k)) (nI c) (nI m) K f) K) 15 (fun e X => (∀ q, q ≠ tb θ + 132 → X q = W3 q) ∧ ∀ s, X (tb θ + 132) s = if 240 * k ≤ s ∧ s < 240 * k + 15 * d + e then V (tb θ + 132) (s + 15 * c) else V (tb θ + 132) s) ⟨fun _ _ => rfl, fun s => by rw [g3 _ (by omega) (by omega) (by omega), f3 s]; rfl⟩ ?_ ?_
    · rintro f2' e X he ⟨x1, x2⟩ hgo2
      show bl_M_forget_74 _ _ _ _ _ _ _ _ _ _ _ _
      unfold bl_M_forget_74
      have m1 : (15 : Int32) * nI (16 * k + d + c) = nI (15 * (16 * k + d + c)) := pk_mul 15 _
      have m2 : (15 : Int32) * nI (16 * k + d) = nI (15 * (16 * k + d)) := pk_mul 15 _
      simp only [UM hU, IM hθ, true_and, exists_eq_left, nI_add, m1, m2]
      rw [nI_clamp (show 15 * (16 * k + d) + e < 2 ^ 31 by omega), nI_clamp (show 15 * (16 * k + d + c) + e < 2 ^ 31 by omega)]
      refine br_f (nI_ge (a := e) (b := 15) he (by decide)) ⟨by omega, vp_in_nI (by omega) (by decide), vp_in_nI (by omega) (by decide), fun X2 eX z hz => ?_⟩
      rw [hz, nI_1]
      refine hgo2 X2 ⟨fun q hq => by rw [eX, up2_ne hq, x1 q hq], fun s => ?_⟩
      rw [eX]
      by_cases hs : s = 15 * (16 * k + d) + e
      · rw [hs, up2_aa, x2, if_neg (by omega), if_pos (by omega)]
        congr 1; omega
      · rw [up2_ab hs, x2 s]
        by_cases hr : 240 * k ≤ s ∧ s < 240 * k + 15 * d + e
        · rw [if_pos hr, if_pos (by omega)]
        · rw [if_neg hr, if_neg (by omega)]
    · rintro f2' X ⟨x1, x2⟩
      show bl_M_forget_74 _ _ _ _ _ _ _ _ _ _ _ _
      unfold bl_M_forget_74
      refine br_t (by decide) (fun z hz => ?_)
      rw [hz, nI_1]
      refine hgo X ⟨fun q a b e g => ?_, fun s => ?_, fun s => ?_⟩
      · rw [x1 q g, g3 q a b e, f1 q a b e g]
      · rw [x1 _ (by omega), x1 _ (by omega), x1 _ (by omega), g29, g30, g31]
        by_cases hs : s = 16 * k + d
        · subst hs
          rw [up2_aa, up2_aa, up2_aa, (f2 _).1, (f2 _).2.1, (f2 _).2.2, if_neg (by omega), if_pos (by omega), if_neg (by omega), if_pos (by omega), if_neg (by omega), if_pos (by omega)]
          exact ⟨rfl, rfl, rfl⟩
        · rw [up2_ab hs, up2_ab hs, up2_ab hs, (f2 _).1, (f2 _).2.1, (f2 _).2.2]
          by_cases hr : 16 * k ≤ s ∧ s < 16 * k + d
          · rw [if_pos hr, if_pos hr, if_pos hr, if_pos (by omega), if_pos (by omega), if_pos (by omega)]; exact ⟨rfl, rfl, rfl⟩
          · rw [if_neg hr, if_neg hr, if_neg hr, if_neg (by omega), if_neg (by omega), if_neg (by omega)]; exact ⟨rfl, rfl, rfl⟩
      · rw [x2 s]; rfl
  · rintro f W ⟨f1, f2, f3⟩
    show bl_M_forget_3 _ _ _ _ _ _ _ _ _ _
    unfold bl_M_forget_3
    simp only [nI_add]
    exact br_t (nI_le (by omega) (by omega)) (hk W f1 f2 f3)
theorem flg_sum (c : Nat) (B0 P y : Int32) : ((if 0 < c ∧ B0 = 0 then (1 : Int32) else 0) + (if P = 0 then 2 else 0)) + (if y = 0 then 0 else 4) = flg c B0 P y := by
  unfold flg
  split <;> split <;> split <;> rfl
/-- a page goes out of the reference's stream -/
theorem m_page {K : VT → UT → Prop} {y : Int32} (hθ : OKt θ) (hU : US θ sw U) (hW : WM θ V n r w) (hS : SM θ V k m L T B O) (hB : SB m L T B O) (hm : V (tb θ + 133) k = nI m) (hm10 : m ≤ 10) (hcm : c ≤ m) (hk4 : k < 4) (hroom : n + (14 + c + sumL L c) ≤ 1000)
    (hk : ∀ V2, (∀ q, q ≠ tb θ + 126 → q ≠ tb θ + 127 → (q < tb θ + 129 ∨ tb θ + 134 < q) → V2 q = V q) → (∀ j, j ≠ 1 → V2 (tb θ + 126) j = V (tb θ + 126) j) → WM θ V2 (n + (14 + c + sumL L c)) r (apw n w (shO k c (V (tb θ + 134) k) y L T B O)) → (∀ s, s ≠ k → V2 (tb θ + 133) s = V (tb θ + 133) s ∧ V2 (tb θ + 134) s = V (tb θ + 134) s) → V2 (tb θ + 133) k = nI (m - c) → V2 (tb θ + 134) k = V (tb θ + 134) k + 1 → SM θ V2 k (m - c) (fun j => L (j + c)) (fun j => T (j + c)) (fun j => B (j + c)) (fun j => O (j + c)) → (∀ s, (s < 16 * k ∨ 16 * k + 16 ≤ s) → V2 (tb θ + 129) s = V (tb θ + 129) s ∧ V2 (tb θ + 130) s = V (tb θ + 130) s ∧ V2 (tb θ + 131) s = V (tb θ + 131) s) → (∀ s, (s < 240 * k ∨ 240 * k + 240 ≤ s) → V2 (tb θ + 132) s = V (tb θ + 132) s) → K V2 U) : wp_M_page θ (tb θ + 126) (nI k) (nI c) y V U K := by
  have hV1 := hW.1
  have hmono : ∀ j, j ≤ c → sumL L j ≤ sumL L c := fun j hj => sumL_mono L hj
  unfold wp_M_page
  have e16 : (16 : Int32) * nI k = nI (16 * k) := pk_mul 16 k
  simp only [IM hθ, true_and, hV1, e16]
  rintro y2 rfl y3 rfl
  refine loop2 (wl := wl_M_page_19 θ (tb θ + 126) (nI k) (nI c) y (nI n) (nI (16 * k)) K) c (fun j b W => b = nI (tmF L T j) ∧ W = V) ⟨rfl, rfl⟩ ?_ ?_
  · rintro f j b W hj ⟨rfl, rfl⟩ hgo
    obtain ⟨a1, a2, a3, a4⟩ := hS j (by omega)
    have hT := (hB j (by omega)).2.1
    show bl_M_page_19 _ _ _ _ _ _ _ _ _ _ _ _ _
    unfold bl_M_page_19
    simp only [UM hU, IM hθ, true_and, exists_eq_left, nI_add]
    rw [nI_clamp (show 16 * k + j < 2 ^ 31 by omega), a3]
    refine br_f (nI_ge hj (by omega)) ⟨by omega, vp_in_nI (by omega) (by decide), ?_⟩
    by_cases hL : L j < 15
    · rw [if_pos hL]
      refine br_f (nI_pos (by omega)) (fun y1 q1 y2 q2 => ?_)
      rw [q2, nI_1, q1]
      exact hgo _ _ ⟨by show _ = nI (if L j < 15 then T j else tmF L T j); rw [if_pos hL], rfl⟩
    · rw [if_neg hL]
      refine br_t (by decide) (fun y2 q2 => ?_)
      rw [q2, nI_1]
      exact hgo _ _ ⟨by show _ = nI (if L j < 15 then T j else tmF L T j); rw [if_neg hL], rfl⟩
  · rintro f b W ⟨rfl, rfl⟩
    show bl_M_page_19 _ _ _ _ _ _ _ _ _ _ _ _ _
    unfold bl_M_page_19
    refine br_t (nI_le (Nat.le_refl _) (by omega)) ?_
    refine loop1 (wl := wl_M_page_64 θ (tb θ + 126) (nI k) (nI c) y (nI n) (nI (16 * k)) (nI (tmF L T c)) K) 4 (fun j X => GL (tb θ + 126) (tb θ + 127) 1 W X n ((List.range j).map (fun i => nI (sg i)))) (GL.refl hV1) ?_ ?_
    · intro f j X hj hg hgo
      show bl_M_page_64 _ _ _ _ _ _ _ _ _ _ _ _ _
      unfold bl_M_page_64
      refine br_f (nI_ge (a := j) (b := 4) hj (by decide)) (m_magic j hj ?_)
      simp only [IM hθ, true_and]
      refine m_put hθ hU hg (by rw [List.length_map, List.length_range]; omega) (nI_255 (j := sg j) (sg_256 j)) (fun X2 g2 z hz => ?_)
      rw [hz, nI_1]
      refine hgo X2 ?_
      rw [List.range_succ, List.map_append]
      exact g2
    · intro f X hg
      have hg : GL (tb θ + 126) (tb θ + 127) 1 W X n [76, 97, 76, 83] := hg
      have fr : ∀ {X : VT} {l : List Int32} (q : Nat), tb θ + 128 ≤ q → GL (tb θ + 126) (tb θ + 127) 1 W X n l → X q = W q := fun q hq h => h.1 _ (by omega) (by omega)
      show bl_M_page_64 _ _ _ _ _ _ _ _ _ _ _ _ _
      unfold bl_M_page_64
      have tail : ∀ (z : Int32), z = flg c (B 0) (W (tb θ + 134) k) y → ∀ z0 z1 : Int32, z1 + z0 = z → wb_M_page_129 θ (tb θ + 126) (nI k) (nI c) (nI n) (nI (16 * k)) (nI (tmF L T c)) z0 z1 (tb θ + 126) K X U := by
        intro z hz z0 z1 hzz
        unfold wb_M_page_129
        simp only [IM hθ, true_and]
        rw [hzz, hz]
        refine m_put hθ hU hg (by simp only [List.length_cons, List.length_nil]; omega) (flg_255 ..) (fun W1 g1 => ?_)
        refine m_put hθ hU g1 (by simp only [List.length_append, List.length_cons, List.length_nil]; omega) (nI_255 (by omega)) (fun W2 g2 => ?_)
        simp only [UM hU, IM hθ, exists_eq_left]
        refine ⟨by omega, vp_in_nI (by omega) (by decide), ?_⟩
        rw [nI_clamp (by omega), fr _ (by omega) g2]
        refine m_put hθ hU g2 (by simp only [List.length_append, List.length_cons, List.length_nil]; omega) rfl (fun W3 g3 => ?_)
        refine m_put hθ hU g3 (by simp only [List.length_append, List.length_cons, List.length_nil]; omega) rfl (fun W4 g4 => ?_)
        refine m_put hθ hU g4 (by simp only [List.length_append, List.length_cons, List.length_nil]; omega) rfl (fun W5 g5 W6 e6 => ?_)
        have g6 : GL (tb θ + 126) (tb θ + 127) 1 W W6 n (pgL (flg c (B 0) (W (tb θ + 134) k) y) (nI k) (W (tb θ + 134) k &&& 255) (t8 (tmF L T c)) (t9 (tmF L T c)) (W (tb θ + 127) (n + 9)) (W (tb θ + 127) (n + 10)) (W (tb θ + 127) (n + 11)) (W (tb θ + 127) (n + 12)) []) := by
          have k1 := (((g5.skip (by omega)).skip (by omega)).skip (by omega)).skip (by omega)
          have e7 : W6 = up2 (up2 (up2 (up2 W5 (tb θ + 126) 1 (nI (n + 9 + 1))) (tb θ + 126) 1 (nI (n + 10 + 1))) (tb θ + 126) 1 (nI (n + 11 + 1))) (tb θ + 126) 1 (nI (n + 12 + 1)) := by
            rw [e6, g5.2.2.1]
            funext q i
            by_cases hq : q = tb θ + 126
            · subst hq
              by_cases hi : i = 1
              · subst hi; rw [up2_aa, up2_aa]; exact nI_add (n + 9) 4
              · rw [up2_ab hi, up2_ab hi, up2_ab hi, up2_ab hi, up2_ab hi]
            · rw [up2_ne hq, up2_ne hq, up2_ne hq, up2_ne hq, up2_ne hq]
          rw [e7]
          exact k1
        refine m_put hθ hU g6 (by rw [pgL_len, List.length_nil]; omega) (nI_255 (by omega)) (fun Wa ga => ?_)
        have ga : GL (tb θ + 126) (tb θ + 127) 1 W Wa n (pgL (flg c (B 0) (W (tb θ + 134) k) y) (nI k) (W (tb θ + 134) k &&& 255) (t8 (tmF L T c)) (t9 (tmF L T c)) (W (tb θ + 127) (n + 9)) (W (tb θ + 127) (n + 10)) (W (tb θ + 127) (n + 11)) (W (tb θ + 127) (n + 12)) [nI c]) := ga
        clear g1 g2 g3 g4 g5 g6 hzz hz e6
        generalize hF : flg c (B 0) (W (tb θ + 134) k) y = F at *
        generalize hP : (W (tb θ + 134) k &&& 255) = P at *
        generalize h8 : t8 (tmF L T c) = x8 at *
        generalize h9 : t9 (tmF L T c) = x9 at *
        generalize (W (tb θ + 127) (n + 9)) = u0 at *
        generalize (W (tb θ + 127) (n + 10)) = u1 at *
        generalize (W (tb θ + 127) (n + 11)) = u2 at *
        generalize (W (tb θ + 127) (n + 12)) = u3 at *
        refine loop1 (wl := wl_M_page_181 θ (tb θ + 126) (nI k) (nI c) (nI n) (nI (16 * k)) K) c (fun j X => GL (tb θ + 126) (tb θ + 127) 1 W X n (pgL F (nI k) P x8 x9 u0 u1 u2 u3 (nI c :: lacB L j))) ga ?_ ?_
        · intro f j X hj hg hgo
          show bl_M_page_181 _ _ _ _ _ _ _ _ _ _ _
          unfold bl_M_page_181
          simp only [UM hU, IM hθ, exists_eq_left, true_and, nI_add]
          refine br_f (nI_ge hj (by omega)) ⟨by omega, vp_in_nI (by omega) (by decide), ?_⟩
          have hL := (hB j (by omega)).1
          rw [nI_clamp (by omega), fr _ (by omega) hg, (hS j (by omega)).1]
          refine m_put hθ hU hg (by rw [pgL_len, List.length_cons, lac_len]; omega) (nI_255 (by omega)) (fun X2 g2 z hz => ?_)
          rw [hz, nI_1]
          refine hgo X2 ?_
          rw [lac_step]
          exact g2
        · intro f X hg
          show bl_M_page_181 _ _ _ _ _ _ _ _ _ _ _
          unfold bl_M_page_181
          refine br_t (nI_le (Nat.le_refl _) (by omega)) ?_
          refine loop1 (wl := wl_M_page_210 θ (tb θ + 126) (nI k) (nI c) (nI n) (nI (16 * k)) K) c (fun j X => GL (tb θ + 126) (tb θ + 127) 1 W X n (pgL F (nI k) P x8 x9 u0 u1 u2 u3 (nI c :: (lacB L c ++ segB L O j)))) (by simpa [segB] using hg) ?_ ?_
          · intro f j X hj hg hgo
            show bl_M_page_210 _ _ _ _ _ _ _ _ _ _ _
            unfold bl_M_page_210
            refine br_f (nI_ge hj (by omega)) ?_
            have hj1 := hmono (j + 1) (by omega)
            have hsj : sumL L (j + 1) = sumL L j + L j := rfl
            obtain ⟨a1, a2, a3, a4⟩ := hS j (by omega)
            obtain ⟨b1, b2, b3, b4⟩ := hB j (by omega)
            refine loop1 (wl := wl_M_page_219 θ (tb θ + 126) (nI k) (nI c) (nI n) (nI (16 * k)) (nI j) (wl_M_page_210 θ (tb θ + 126) (nI k) (nI c) (nI n) (nI (16 * k)) K f) K) (L j) (fun i X => GL (tb θ + 126) (tb θ + 127) 1 W X n (pgL F (nI k) P x8 x9 u0 u1 u2 u3 (nI c :: (lacB L c ++ (segB L O j ++ (List.range i).map (fun i => nI (O j i))))))) (by simpa using hg) ?_ ?_
            · intro f2 i X hi hg hgo2
              show bl_M_page_219 _ _ _ _ _ _ _ _ _ _ _ _ _
              unfold bl_M_page_219
              have em : (15 : Int32) * nI (16 * k + j) = nI (15 * (16 * k + j)) := pk_mul 15 _
              simp only [UM hU, IM hθ, exists_eq_left, true_and, nI_add, em]
              rw [nI_clamp (show 16 * k + j < 2 ^ 31 by omega), nI_clamp (show 15 * (16 * k + j) + i < 2 ^ 31 by omega), fr _ (by omega) hg, a1, fr _ (by omega) hg, a4 i hi]
              refine ⟨by omega, vp_in_nI (by omega) (by decide), br_f (nI_ge hi (by omega)) ⟨by omega, vp_in_nI (by omega) (by decide), ?_⟩⟩
              refine m_put hθ hU hg (by rw [pgL_len, List.length_cons, List.length_append, List.length_append, lac_len, seg_len, List.length_map, List.length_range]; omega) (nI_255 (b4 i hi)) (fun X2 g2 z hz => ?_)
              rw [hz, nI_1]
              refine hgo2 X2 ?_
              rw [List.range_succ, List.map_append, ← List.append_assoc, ← List.append_assoc]
              rw [← List.append_assoc] at g2
              exact g2
            · intro f2 X hg
              show bl_M_page_219 _ _ _ _ _ _ _ _ _ _ _ _ _
              unfold bl_M_page_219
              simp only [UM hU, IM hθ, exists_eq_left, true_and, nI_add]
              rw [nI_clamp (show 16 * k + j < 2 ^ 31 by omega), fr _ (by omega) hg, a1]
              refine ⟨by omega, vp_in_nI (by omega) (by decide), br_t (nI_le (Nat.le_refl _) (by omega)) (fun z hz => ?_)⟩
              rw [hz, nI_1]
              refine hgo X ?_
              rw [seg_step]
              exact hg
          · intro f X hg
            have hg : GL (tb θ + 126) (tb θ + 127) 1 W X n (pgL F (nI k) P x8 x9 u0 u1 u2 u3 (pgR L O c)) := hg
            have hlen := pgL_len F (nI k) P x8 x9 u0 u1 u2 u3 (pgR L O c)
            have hlenR := pgR_len L O c
            show bl_M_page_210 _ _ _ _ _ _ _ _ _ _ _
            unfold bl_M_page_210
            simp only [IM hθ, true_and]
            refine br_t (nI_le (Nat.le_refl _) (by omega)) ?_
            rw [hg.2.2.1, pk_sub (by omega), show n + (pgL F (nI k) P x8 x9 u0 u1 u2 u3 (pgR L O c)).length - n = (pgL F (nI k) P x8 x9 u0 u1 u2 u3 (pgR L O c)).length by omega]
            refine m_check2 (g := fun i => if 9 ≤ i ∧ i < 13 then 0 else (pgL F (nI k) P x8 x9 u0 u1 u2 u3 (pgR L O c)).getD i 0) hθ hU n _ (by omega) (fun i hi => ?_) ?_
            · have e : X (tb θ + 127) (n + i) = (pgL F (nI k) P x8 x9 u0 u1 u2 u3 (pgR L O c)).getD i 0 := by
                rw [hg.2.2.2 (n + i), if_pos (by omega), show n + i - n = i by omega]
              rw [e]
            · have eC : crcN (fun i => if 9 ≤ i ∧ i < 13 then 0 else (pgL F (nI k) P x8 x9 u0 u1 u2 u3 (pgR L O c)).getD i 0) (pgL F (nI k) P x8 x9 u0 u1 u2 u3 (pgR L O c)).length = ckl (pgL F (nI k) P x8 x9 0 0 0 0 (pgR L O c)) := ckl_own F (nI k) P x8 x9 u0 u1 u2 u3 0 0 0 0 (pgR L O c)
              rw [eC]
              generalize hC : ckl (pgL F (nI k) P x8 x9 0 0 0 0 (pgR L O c)) = C
              have hst : ∀ (j : Nat) (W2 : VT) (l : List Int32) (kb : Int32 → VT → UT → Prop), j < 4 → l.length = 13 + (pgR L O c).length → GL (tb θ + 126) (tb θ + 127) 1 W W2 n l → (∀ W3, GL (tb θ + 126) (tb θ + 127) 1 W W3 n (l.set (9 + j) (ckb C j)) → kb (nI (j + 1)) W3 U) → bl_M_page_284 θ (tb θ + 126) (nI k) (nI c) (nI n) (nI (16 * k)) C K kb (nI j) W2 U := by
                intro j W2 l kb hj hl hgl hkb
                unfold bl_M_page_284
                simp only [UM hU, IM hθ, exists_eq_left, true_and]
                refine br_f (nI_ge (a := j) (b := 4) hj (by decide)) ?_
                rw [show nI n + (9 : Int32) + nI j = nI (n + (9 + j)) by rw [show nI n + (9 : Int32) = nI (n + 9) from nI_add n 9, nI_add, Nat.add_assoc]]
                refine ⟨by omega, vp_in_nI (by omega) (by decide), fun W3 e2 z hz => ?_⟩
                rw [nI_clamp (by omega)] at e2
                rw [hz, nI_1, e2]
                exact hkb _ (hgl.set (by omega) (by omega))
              refine ⟨5, ?_⟩
              refine hst 0 X _ _ (by decide) (by rw [pgL_len]) hg (fun W1 g1 => ?_)
              refine hst 1 W1 _ _ (by decide) (by rw [List.length_set, pgL_len]) g1 (fun W2 g2 => ?_)
              refine hst 2 W2 _ _ (by decide) (by rw [List.length_set, List.length_set, pgL_len]) g2 (fun W3 g3 => ?_)
              refine hst 3 W3 _ _ (by decide) (by rw [List.length_set, List.length_set, List.length_set, pgL_len]) g3 (fun W4 g4 => ?_)
              have g4 : GL (tb θ + 126) (tb θ + 127) 1 W W4 n (pgO F (nI k) P x8 x9 (pgR L O c)) := by rw [← hC] at g4; exact g4
              have hBR : BY (pgR L O c) := BY_R (by omega) (fun j hj => (hB j (by omega)).1) (fun j hj i hi => (hB j (by omega)).2.2.2 i hi)
              have hBP : BY (pgO F (nI k) P x8 x9 (pgR L O c)) := BY_page (hF ▸ flg_b ..) ⟨k, by omega, rfl⟩ (hP ▸ and255 _) (h8 ▸ and255 _) (h9 ▸ and255 _) (ckb_b ..) (ckb_b ..) (ckb_b ..) (ckb_b ..) hBR
              have hWb := GL_WM hW g4 hBP (by rw [pgO_len, pgR_len]; omega)
              show bl_M_page_284 _ _ _ _ _ _ _ _ _ _ _ _
              unfold bl_M_page_284
              simp only [UM hU, IM hθ, exists_eq_left, true_and]
              refine br_t (by decide) ?_
              rw [nI_clamp (show k < 2 ^ 31 by omega), fr (tb θ + 134) (by omega) g4]
              refine ⟨by omega, vp_in_nI (by omega) (by decide), fun Wc ec => ⟨by omega, vp_in_nI (by omega) (by decide), ?_⟩⟩
              have fc : ∀ q, q ≠ tb θ + 134 → Wc q = W4 q := fun q hq => by rw [ec, up2_ne hq]
              rw [fc _ (by omega), fr (tb θ + 133) (by omega) g4, hm]
              refine m_forget hθ hU hk4 hm10 hcm (fun Wd d1 d2 d3 => ?_)
              simp only [UM hU, IM hθ, exists_eq_left]
              refine ⟨by omega, vp_in_nI (by omega) (by decide), fun We ee => ?_⟩
              rw [d1 _ (by omega) (by omega) (by omega) (by omega), fc _ (by omega), fr (tb θ + 133) (by omega) g4, hm, pk_sub hcm] at ee
              have base : ∀ q, q ≠ tb θ + 133 → q ≠ tb θ + 134 → q ≠ tb θ + 129 → q ≠ tb θ + 130 → q ≠ tb θ + 131 → q ≠ tb θ + 132 → We q = W4 q := fun q p1 p2 p3 p4 p5 p6 => by rw [ee, up2_ne p1, d1 q p3 p4 p5 p6, fc q p2]
              refine hk We (fun q p1 p2 p3 => ?_) (fun j hj => ?_) ?_ (fun s hs => ?_) ?_ ?_ (fun j hj => ?_) (fun s hs => ?_) (fun s hs => ?_)
              · rw [base q (by omega) (by omega) (by omega) (by omega) (by omega) (by omega), g4.1 q p1 p2]
              · rw [base _ (by omega) (by omega) (by omega) (by omega) (by omega) (by omega), g4.2.1 j hj]
              · obtain ⟨g1, g2, g3, g4, g5⟩ := hWb
                rw [pgO_len, pgR_len, show 13 + (1 + c + sumL L c) = 14 + c + sumL L c by omega] at g1 g2 g4 g5
                have ew : shO k c (W (tb θ + 134) k) y L T B O = pgO F (nI k) P x8 x9 (pgR L O c) := by
                  unfold shO; rw [hF, hP, h8, h9]
                rw [ew]
                refine ⟨?_, g2, ?_, g4, fun i hi => ?_⟩
                · rw [base _ (by omega) (by omega) (by omega) (by omega) (by omega) (by omega)]; exact g1
                · rw [base _ (by omega) (by omega) (by omega) (by omega) (by omega) (by omega)]; exact g3
                · rw [base _ (by omega) (by omega) (by omega) (by omega) (by omega) (by omega)]; exact g5 i hi
              · constructor
                · rw [ee, up2_ab hs, d1 _ (by omega) (by omega) (by omega) (by omega), fc _ (by omega), fr _ (by omega) g4]
                · rw [ee, up2_ne (by omega), d1 _ (by omega) (by omega) (by omega) (by omega), ec, up2_ab hs, fr _ (by omega) g4]
              · rw [ee, up2_aa]
              · rw [ee, up2_ne (by omega), d1 _ (by omega) (by omega) (by omega) (by omega), ec, up2_aa]
              · have hj : j < m - c := hj
                obtain ⟨a1, a2, a3, a4⟩ := hS (j + c) (by omega)
                rw [ee, up2_ne (by omega), up2_ne (by omega), up2_ne (by omega), up2_ne (by omega)]
                rw [(d2 _).1, (d2 _).2.1, (d2 _).2.2, if_pos (by omega), if_pos (by omega), if_pos (by omega)]
                rw [fc _ (by omega), fc _ (by omega), fc _ (by omega), fr _ (by omega) g4, fr _ (by omega) g4, fr _ (by omega) g4, Nat.add_assoc]
                refine ⟨a1, a2, a3, fun i hi => ?_⟩
                have hi : i < L (j + c) := hi
                have hb15 := (hB (j + c) (by omega)).1
                rw [d3, if_pos (by omega), fc _ (by omega), fr _ (by omega) g4, show 15 * (16 * k + j) + i + 15 * c = 15 * (16 * k + (j + c)) + i by omega]
                exact a4 i hi
              · rw [ee, up2_ne (by omega), up2_ne (by omega), up2_ne (by omega), (d2 _).1, (d2 _).2.1, (d2 _).2.2, if_neg (by omega), if_neg (by omega), if_neg (by omega)]
                rw [fc _ (by omega), fc _ (by omega), fc _ (by omega), fr _ (by omega) g4, fr _ (by omega) g4, fr _ (by omega) g4]
                exact ⟨rfl, rfl, rfl⟩
              · rw [ee, up2_ne (by omega), d3, if_neg (by omega), fc _ (by omega), fr _ (by omega) g4]
      have t119 : ∀ z0 z1 : Int32, z1 = (if 0 < c ∧ B 0 = 0 then 1 else 0) → z0 = (if W (tb θ + 134) k = 0 then 2 else 0) → wb_M_page_119 θ (tb θ + 126) (nI k) (nI c) y (nI n) (nI (16 * k)) (nI (tmF L T c)) z0 z1 (tb θ + 126) K X U := by
        intro z0 z1 q1 q0
        unfold wb_M_page_119
        refine ⟨fun hy => tail _ rfl _ _ ?_, fun hy => tail _ rfl _ _ ?_⟩
        · rw [← flg_sum, q1, q0, if_pos hy]
        · rw [← flg_sum, q1, q0, if_neg hy]
      have t105 : ∀ z1 : Int32, z1 = (if 0 < c ∧ B 0 = 0 then 1 else 0) → wb_M_page_105 θ (tb θ + 126) (nI k) (nI c) y (nI n) (nI (16 * k)) (nI (tmF L T c)) z1 (tb θ + 126) K X U := by
        intro z1 q1
        unfold wb_M_page_105
        simp only [UM hU, IM hθ, exists_eq_left, true_and]
        rw [nI_clamp (by omega), fr (tb θ + 134) (by omega) hg]
        exact ⟨by omega, vp_in_nI (by omega) (by decide), fun hp => t119 _ _ q1 (by rw [if_neg hp]), fun hp => t119 _ _ q1 (by rw [if_pos hp])⟩
      refine br_t (by decide) ?_
      unfold wb_M_page_104
      refine pk_le c 0 (fun hc => t105 0 (by rw [if_neg (by omega)])) (fun hc => ?_)
      simp only [UM hU, IM hθ, exists_eq_left, true_and]
      rw [nI_clamp (by omega), fr (tb θ + 130) (by omega) hg]
      have b0 : W (tb θ + 130) (16 * k) = B 0 := (hS 0 (by omega)).2.1
      rw [b0]
      exact ⟨by omega, vp_in_nI (by omega) (by decide), fun hb => t105 0 (by rw [if_neg (fun q => hb q.2)]), fun hb => t105 1 (by rw [if_pos ⟨by omega, hb⟩])⟩
end MPAGE
