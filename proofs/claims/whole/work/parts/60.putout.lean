theorem sg_256 (k : Nat) : sg k < 256 := by
  unfold sg
  split
  · decide
  · split <;> decide
def t8 (t : Nat) : Int32 := nI t &&& 255
def t9 (t : Nat) : Int32 := (nI t >>> ((8 : Int32) &&& 31)) &&& 255
theorem flg_b (c : Nat) (B0 P y : Int32) : ∃ j, j < 256 ∧ flg c B0 P y = nI j := by
  unfold flg
  refine ⟨(if 0 < c ∧ B0 = 0 then 1 else 0) + (if P = 0 then 2 else 0) + (if y = 0 then 0 else 4), ?_, ?_⟩
  · split <;> split <;> split <;> decide
  · split <;> split <;> split <;> rfl
theorem flg_255 (c : Nat) (B0 P y : Int32) : flg c B0 P y &&& 255 = flg c B0 P y := by
  obtain ⟨j, hj, e⟩ := flg_b c B0 P y
  rw [e]; exact nI_255 hj
/-- the page of a stream -/
def shO (k c : Nat) (P y : Int32) (L T : Nat → Nat) (B : Nat → Int32) (O : Nat → Nat → Nat) : List Int32 := pgO (flg c (B 0) P y) (nI k) (P &&& 255) (t8 (tmF L T c)) (t9 (tmF L T c)) (pgR L O c)
section PUTOUT
variable {θ : TH} {sw : Bool} {U : UT} {V V1 V2 : VT} {n r o m c k : Nat} {w L T : Nat → Nat} {B : Nat → Int32} {O : Nat → Nat → Nat} {l : List Int32}
theorem shO_len {P y : Int32} : (shO k c P y L T B O).length = 14 + c + sumL L c := by
  unfold shO; rw [pgO_len, pgR_len]; omega
theorem shO_by {P y : Int32} (hk : k < 4) (hc : c ≤ 10) (hL : ∀ j, j < c → L j ≤ 15) (hO : ∀ j, j < c → ∀ i, i < L j → O j i < 256) : BY (shO k c P y L T B O) := by
  unfold shO pgO
  exact BY_page (flg_b ..) ⟨k, by omega, rfl⟩ (and255 _) (and255 _) (and255 _) (ckb_b ..) (ckb_b ..) (ckb_b ..) (ckb_b ..) (BY_R (by omega) hL hO)
/-- a page goes out of the class's stream -/
theorem s_putOut {K : VT → UT → Prop} {y : Int32} (hθ : OKt θ) (hU : US θ sw U) (ho : OB θ U o) (hW : WV θ V n r w) (hS : SV V o m L T B O) (hm : V o 5 = nI m) (hm10 : m ≤ 10) (hcm : c ≤ m) (hk0 : V o 0 = nI k) (hk4 : k < 4) (hroom : n + (14 + c + sumL L c) ≤ 1000)
    (hk : ∀ V2, (∀ q, q ≠ tb θ + 1 → q ≠ tb θ + 2 → q ≠ o → q ≠ o + 1 → q ≠ o + 2 → q ≠ o + 3 → q ≠ o + 4 → V2 q = V q) → WV θ V2 (n + (14 + c + sumL L c)) r (apw n w (shO k c (V o 6) y L T B O)) → V2 o 0 = nI k → V2 o 7 = V o 7 → V2 o 5 = nI (m - c) → V2 o 6 = V o 6 + 1 → SV V2 o (m - c) (fun j => L (j + c)) (fun j => T (j + c)) (fun j => B (j + c)) (fun j => O (j + c)) → K V2 U) : wp_O_putOut θ o (tb θ + 1) (nI c) y V U K := by
  have ho' := ho
  obtain ⟨o1, o2, o3, o4, o5, o6, o7, o8, o9, o10, o11⟩ := ho
  have hV1 := hW.1
  have hmono : ∀ j, j ≤ c → sumL L j ≤ sumL L c := fun j hj => sumL_mono L hj
  unfold wp_O_putOut
  simp only [IC hθ, true_and, hV1]
  rintro y2 rfl
  refine loop1 (wl := wl_O_putOut_9 θ o (tb θ + 1) (nI c) y (nI n) K) 4 (fun k W => GL (tb θ + 1) (tb θ + 2) 1 V W n ((List.range k).map (fun i => nI (sg i)))) (GL.refl hV1) ?_ ?_
  · intro f k W hk4 hg hgo
    show bl_O_putOut_9 _ _ _ _ _ _ _ _ _ _ _
    unfold bl_O_putOut_9
    simp only [IC hθ, true_and]
    refine br_f (nI_ge (a := k) (b := 4) hk4 (by decide)) ⟨vp_in_nI (N := 4) hk4 (by decide), ?_⟩
    rw [nI_clamp (by omega), sv_sg hk4]
    refine s_app hθ hU hg (by rw [List.length_map, List.length_range]; omega) (nI_255 (j := sg k) (sg_256 k)) (fun W2 g2 z hz => ?_)
    rw [hz, nI_1]
    refine hgo W2 ?_
    rw [List.range_succ, List.map_append]
    exact g2
  · intro f W hg
    show bl_O_putOut_9 _ _ _ _ _ _ _ _ _ _ _
    unfold bl_O_putOut_9
    have hg : GL (tb θ + 1) (tb θ + 2) 1 V W n [76, 97, 76, 83] := hg
    have fr : ∀ {W : VT} {l : List Int32}, GL (tb θ + 1) (tb θ + 2) 1 V W n l → W o = V o ∧ W (o + 1) = V (o + 1) ∧ W (o + 2) = V (o + 2) ∧ W (o + 3) = V (o + 3) ∧ W (o + 4) = V (o + 4) := fun h => ⟨h.1 _ (by omega) (by omega), h.1 _ (by omega) (by omega), h.1 _ (by omega) (by omega), h.1 _ (by omega) (by omega), h.1 _ (by omega) (by omega)⟩
    refine br_t (by decide) ⟨o1, ?_⟩
    refine s_flagsOf (B := B) ho' (fun h => by rw [(fr hg).2.2.2.2]; exact (hS 0 (by omega)).2.2.2.2.1) (by omega) ?_
    simp only [IC hθ, true_and]
    rw [(fr hg).1]
    refine s_app hθ hU hg (by simp only [List.length_cons, List.length_nil]; omega) (flg_255 ..) (fun W1 g1 => ?_)
    rw [(fr g1).1, hk0]
    refine s_app hθ hU g1 (by simp only [List.length_append, List.length_cons, List.length_nil]; omega) (nI_255 (by omega)) (fun W2 g2 => ?_)
    rw [(fr g2).1]
    refine s_app hθ hU g2 (by simp only [List.length_append, List.length_cons, List.length_nil]; omega) rfl (fun W3 g3 => ?_)
    refine s_timeOf (L := L) (T := T) ho' (fun j hj => by rw [(fr g3).2.1, (fr g3).2.2.2.1]; exact ⟨(hS j (by omega)).1, (hS j (by omega)).2.1, (hS j (by omega)).2.2.1⟩) (by omega) ?_
    refine s_app hθ hU g3 (by simp only [List.length_append, List.length_cons, List.length_nil]; omega) rfl (fun W4 g4 => ?_)
    refine s_app hθ hU g4 (by simp only [List.length_append, List.length_cons, List.length_nil]; omega) rfl (fun W5 g5 => ?_)
    have hz : ∀ (j : Nat) (W : VT) (l : List Int32) (kb : Int32 → VT → UT → Prop), j < 13 → n + l.length < 1000 → GL (tb θ + 1) (tb θ + 2) 1 V W n l → (∀ W2, GL (tb θ + 1) (tb θ + 2) 1 V W2 n (l ++ [0]) → kb (nI (j + 1)) W2 U) → bl_O_putOut_86 θ o (tb θ + 1) (nI c) (nI n) K kb (nI j) W U := by
      intro j W l kb hj hl hgl hkb
      unfold bl_O_putOut_86
      simp only [IC hθ, true_and]
      refine br_f (nI_ge (a := j) (b := 13) hj (by decide)) ?_
      refine s_app hθ hU hgl hl rfl (fun W2 g2 z hz => ?_)
      rw [hz, nI_1]
      exact hkb W2 g2
    refine ⟨5, ?_⟩
    refine hz 9 W5 _ _ (by decide) (by simp only [List.length_append, List.length_cons, List.length_nil]; omega) g5 (fun W6 g6 => ?_)
    refine hz 10 W6 _ _ (by decide) (by simp only [List.length_append, List.length_cons, List.length_nil]; omega) g6 (fun W7 g7 => ?_)
    refine hz 11 W7 _ _ (by decide) (by simp only [List.length_append, List.length_cons, List.length_nil]; omega) g7 (fun W8 g8 => ?_)
    refine hz 12 W8 _ _ (by decide) (by simp only [List.length_append, List.length_cons, List.length_nil]; omega) g8 (fun W9 g9 => ?_)
    show bl_O_putOut_86 _ _ _ _ _ _ _ _ _ _
    unfold bl_O_putOut_86
    simp only [IC hθ, true_and]
    refine br_t (by decide) ?_
    refine s_app hθ hU g9 (by simp only [List.length_append, List.length_cons, List.length_nil]; omega) (nI_255 (by omega)) (fun Wa ga => ?_)
    have ga : GL (tb θ + 1) (tb θ + 2) 1 V Wa n (pgL (flg c (B 0) (V o 6) y) (nI k) (V o 6 &&& 255) (t8 (tmF L T c)) (t9 (tmF L T c)) 0 0 0 0 [nI c]) := ga
    generalize hF : flg c (B 0) (V o 6) y = F at *
    generalize hP : (V o 6 &&& 255) = P at *
    generalize h8 : t8 (tmF L T c) = x8 at *
    generalize h9 : t9 (tmF L T c) = x9 at *
    refine loop1 (wl := wl_O_putOut_112 θ o (tb θ + 1) (nI c) (nI n) K) c (fun j W => GL (tb θ + 1) (tb θ + 2) 1 V W n (pgL F (nI k) P x8 x9 0 0 0 0 (nI c :: lacB L j))) ga ?_ ?_
    · intro f j W hj hg hgo
      show bl_O_putOut_112 _ _ _ _ _ _ _ _ _ _
      unfold bl_O_putOut_112
      simp only [o1, o2, o6, IC hθ, exists_eq_left, true_and]
      refine br_f (nI_ge hj (by omega)) ⟨by omega, vp_in_nI (by omega) (by decide), ?_⟩
      rw [nI_clamp (by omega), (fr hg).2.1, (hS j (by omega)).1]
      have := (hS j (by omega)).2.1
      refine s_app hθ hU hg (by rw [pgL_len, List.length_cons, lac_len]; omega) (nI_255 (by omega)) (fun W2 g2 z hz => ?_)
      rw [hz, nI_1]
      refine hgo W2 ?_
      rw [lac_step]
      exact g2
    · intro f W hg
      show bl_O_putOut_112 _ _ _ _ _ _ _ _ _ _
      unfold bl_O_putOut_112
      refine br_t (nI_le (Nat.le_refl _) (by omega)) ?_
      refine loop1 (wl := wl_O_putOut_138 θ o (tb θ + 1) (nI c) (nI n) K) c (fun j W => GL (tb θ + 1) (tb θ + 2) 1 V W n (pgL F (nI k) P x8 x9 0 0 0 0 (nI c :: (lacB L c ++ segB L O j)))) (by simpa [segB] using hg) ?_ ?_
      · intro f j W hj hg hgo
        show bl_O_putOut_138 _ _ _ _ _ _ _ _ _ _
        unfold bl_O_putOut_138
        refine br_f (nI_ge hj (by omega)) ?_
        have hj1 := hmono (j + 1) (by omega)
        have hsj : sumL L (j + 1) = sumL L j + L j := rfl
        obtain ⟨a1, a2, -, -, -, -, a7⟩ := hS j (by omega)
        refine loop1 (wl := wl_O_putOut_147 θ o (tb θ + 1) (nI c) (nI n) (nI j) (wl_O_putOut_138 θ o (tb θ + 1) (nI c) (nI n) K f) K) (L j) (fun i W => GL (tb θ + 1) (tb θ + 2) 1 V W n (pgL F (nI k) P x8 x9 0 0 0 0 (nI c :: (lacB L c ++ (segB L O j ++ (List.range i).map (fun i => nI (O j i))))))) (by simpa using hg) ?_ ?_
        · intro f2 i W hi hg hgo2
          show bl_O_putOut_147 _ _ _ _ _ _ _ _ _ _ _ _
          unfold bl_O_putOut_147
          have em : nI j * (15 : Int32) = nI (j * 15) := pk_mul j 15
          simp only [o1, o2, o3, o6, o7, IC hθ, exists_eq_left, true_and, em, nI_add]
          rw [nI_clamp (show j < 2 ^ 31 by omega), nI_clamp (show j * 15 + i < 2 ^ 31 by omega), (fr hg).2.1, a1, (fr hg).2.2.1, show j * 15 + i = 15 * j + i by omega, (a7 i hi).1]
          refine ⟨by omega, vp_in_nI (by omega) (by decide), br_f (nI_ge hi (by omega)) ⟨by omega, vp_in_nI (by omega) (by decide), ?_⟩⟩
          refine s_app hθ hU hg (by rw [pgL_len, List.length_cons, List.length_append, List.length_append, lac_len, seg_len, List.length_map, List.length_range]; omega) (nI_255 (a7 i hi).2) (fun W2 g2 z hz => ?_)
          rw [hz, nI_1]
          refine hgo2 W2 ?_
          rw [List.range_succ, List.map_append, ← List.append_assoc, ← List.append_assoc]
          rw [← List.append_assoc] at g2
          exact g2
        · intro f2 W hg
          show bl_O_putOut_147 _ _ _ _ _ _ _ _ _ _ _ _
          unfold bl_O_putOut_147
          simp only [o1, o2, o6, exists_eq_left, true_and]
          rw [nI_clamp (show j < 2 ^ 31 by omega), (fr hg).2.1, a1]
          refine ⟨by omega, vp_in_nI (by omega) (by decide), br_t (nI_le (Nat.le_refl _) (by omega)) (fun z hz => ?_)⟩
          rw [hz, nI_1]
          refine hgo W ?_
          rw [seg_step]
          exact hg
      · intro f W hg
        show bl_O_putOut_138 _ _ _ _ _ _ _ _ _ _
        unfold bl_O_putOut_138
        simp only [IC hθ, true_and]
        refine br_t (nI_le (Nat.le_refl _) (by omega)) ?_
        have hBR : BY (pgR L O c) := BY_R (by omega) (fun j hj => (hS j (by omega)).2.1) (fun j hj i hi => ((hS j (by omega)).2.2.2.2.2.2 i hi).2)
        have hBP : ∀ s0 s1 s2 s3, (∃ j, j < 256 ∧ s0 = nI j) → (∃ j, j < 256 ∧ s1 = nI j) → (∃ j, j < 256 ∧ s2 = nI j) → (∃ j, j < 256 ∧ s3 = nI j) → BY (pgL F (nI k) P x8 x9 s0 s1 s2 s3 (pgR L O c)) := fun s0 s1 s2 s3 q0 q1 q2 q3 => BY_page (hF ▸ flg_b ..) ⟨k, by omega, rfl⟩ (hP ▸ and255 _) (h8 ▸ and255 _) (h9 ▸ and255 _) q0 q1 q2 q3 hBR
        have b0 : ∃ j, j < 256 ∧ (0 : Int32) = nI j := ⟨0, by decide, rfl⟩
        refine s_seal hθ hU hW (rest := pgR L O c) hg (hBP _ _ _ _ b0 b0 b0 b0) (by rw [pgR_len]; omega) (by rw [pgR_len]; omega) (fun Wb gb => ?_)
        refine ⟨o1, fun Wc ec => ?_⟩
        have hWb := GL_WV hW gb (hBP _ _ _ _ (ckb_b ..) (ckb_b ..) (ckb_b ..) (ckb_b ..)) (by rw [pgO_len, pgR_len]; omega)
        rw [(fr gb).1] at ec
        have fc : ∀ q, q ≠ o → Wc q = Wb q := fun q hq => by rw [ec, up2_ne hq]
        refine s_forget (m := m) ho' (by rw [ec, up2_ab (by decide), (fr gb).1, hm]) hm10 hcm (fun j hj => by rw [fc _ (by omega), (fr gb).2.2.2.2, (hS j hj).2.2.2.2.1]; exact (hS j hj).2.2.2.2.2.1) (fun Wd d1 d2 d3 d4 d5 => ?_)
        refine hk Wd (fun q e1 e2 e3 e4 e5 e6 e7 => ?_) ?_ ?_ ?_ d3 ?_ (fun j hj => ?_)
        · rw [d1 q e3 e4 e5 e6 e7, fc q e3, gb.1 q e1 e2]
        · obtain ⟨g1, g2, g3, g4, g5⟩ := hWb
          rw [pgO_len, pgR_len, show 13 + (1 + c + sumL L c) = 14 + c + sumL L c by omega] at g1 g2 g4 g5
          have ew : shO k c (V o 6) y L T B O = pgO F (nI k) P x8 x9 (pgR L O c) := by
            unfold shO; rw [hF, hP, h8, h9]
          rw [ew]
          refine ⟨?_, g2, ?_, g4, fun i hi => ?_⟩
          · rw [d1 _ (by omega) (by omega) (by omega) (by omega) (by omega), fc _ (by omega)]; exact g1
          · rw [d1 _ (by omega) (by omega) (by omega) (by omega) (by omega), fc _ (by omega)]; exact g3
          · rw [d1 _ (by omega) (by omega) (by omega) (by omega) (by omega), fc _ (by omega)]; exact g5 i hi
        · rw [d2 0 (by decide), ec, up2_ab (by decide), (fr gb).1, hk0]
        · rw [d2 7 (by decide), ec, up2_ab (by decide), (fr gb).1]
        · rw [d2 6 (by decide), ec, up2_aa]
        · obtain ⟨q1, q2, q3⟩ := d4 j hj
          obtain ⟨a1, a2, a3, a4, a5, a6, a7⟩ := hS (j + c) (by omega)
          refine ⟨?_, a2, ?_, a4, ?_, a6, fun i hi => ⟨?_, (a7 i hi).2⟩⟩
          · rw [q1, fc _ (by omega), (fr gb).2.1, a1]
          · rw [q2, fc _ (by omega), (fr gb).2.2.2.1, a3]
          · rw [q3, fc _ (by omega), (fr gb).2.2.2.2, a5]
          · have hi : i < L (j + c) := hi
            rw [d5 _ (by omega), fc _ (by omega), (fr gb).2.2.1, show 15 * c + (15 * j + i) = 15 * (j + c) + i by omega, (a7 i hi).1]
end PUTOUT
