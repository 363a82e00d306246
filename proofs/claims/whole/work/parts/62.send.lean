section SEND
variable {θ : TH} {sw : Bool} {U : UT} {V V1 V2 : VT} {n r o m c k h t : Nat} {w L T hb : Nat → Nat} {B : Nat → Int32} {O : Nat → Nat → Nat} {l : List Int32}
theorem s_hasRoom {K : Int32 → VT → UT → Prop} (hθ : OKt θ) (hv : V (tb θ + 1) 1 = nI n) (hn : n ≤ 1000) (x : Nat) (hx : x < 2 ^ 30) (h1 : n + x ≤ 1000 → K 1 V U) (h0 : 1000 < n + x → K 0 V U) : wp_W_hasRoom θ (tb θ + 1) (nI x) V U K := by
  unfold wp_W_hasRoom
  simp only [IC hθ, true_and, hv]
  rw [show (1000 : Int32) - nI n = nI (1000 - n) from pk_sub hn]
  exact pk_lt (1000 - n) x (fun hc => h0 (by omega)) (fun hc => h1 (by omega))
/-- a page's worth of the outbox's cells -/
def FO (o : Nat) (q : Nat) : Prop := q ≠ o ∧ q ≠ o + 1 ∧ q ≠ o + 2 ∧ q ≠ o + 3 ∧ q ≠ o + 4
theorem s_post {K : Int32 → VT → UT → Prop} (hθ : OKt θ) (hU : US θ sw U) (ho : OB θ U o) (hW : WV θ V n r w) (hS : SV V o m L T B O) (hm : V o 5 = nI m) (hm5 : m ≤ 5) (hk0 : V o 0 = nI k) (hk4 : k < 4) (hh : h ≤ 64) (hH : ∀ i, i < h → V (tb θ + 3) i = nI (hb i) ∧ hb i < 256) (ht : t < 65535)
    (hE : V o 7 ≠ 0 → K (-1) V U)
    (hA : V o 7 = 0 → m + (h / 15 + 1) < 6 → ∀ V2, (∀ q, FO o q → V2 q = V q) → (∀ j, j ≠ 5 → V2 o j = V o j) → V2 o 5 = nI (m + (h / 15 + 1)) → SV V2 o (m + (h / 15 + 1)) (exL m h L) (exT m t T) (exB m B) (exO m O hb) → K 0 V2 U)
    (hB : V o 7 = 0 → 6 ≤ m + (h / 15 + 1) → 1000 < n + (20 + sumL (exL m h L) 6) → ∀ V2, (∀ q, FO o q → V2 q = V q) → V2 o = V o → SV V2 o m L T B O → K (-1) V2 U)
    (hC : V o 7 = 0 → 6 ≤ m + (h / 15 + 1) → n + (20 + sumL (exL m h L) 6) ≤ 1000 → ∀ V2, (∀ q, q ≠ tb θ + 1 → q ≠ tb θ + 2 → FO o q → V2 q = V q) → WV θ V2 (n + (20 + sumL (exL m h L) 6)) r (apw n w (shO k 6 (V o 6) 0 (exL m h L) (exT m t T) (exB m B) (exO m O hb))) → V2 o 0 = nI k → V2 o 7 = V o 7 → V2 o 5 = nI (m + (h / 15 + 1) - 6) → V2 o 6 = V o 6 + 1 → SV V2 o (m + (h / 15 + 1) - 6) (fun j => exL m h L (j + 6)) (fun j => exT m t T (j + 6)) (fun j => exB m B (j + 6)) (fun j => exO m O hb (j + 6)) → K 1 V2 U) : wp_O_post θ o (tb θ + 1) (tb θ + 3) (nI h) (nI t) V U K := by
  have ho' := ho
  obtain ⟨o1, o2, o3, o4, o5, o6, o7, o8, o9, o10, o11⟩ := ho
  unfold wp_O_post
  refine ⟨o1, by decide, fun y hy => ?_⟩
  rw [hm, show nI h / (15 : Int32) = nI (h / 15) from pk_div (by omega) (by decide) (by decide), nI_add, nI_1, Nat.add_assoc] at hy
  rw [hy]
  refine ⟨hE, fun h7 => br_t (nI_le (a := m + (h / 15 + 1)) (b := 10) (by omega) (by decide)) ?_⟩
  refine s_layOut hθ hU ho' hS hm hm5 hh hb hH ht (fun W1 f1 s1 => ?_)
  have fo : W1 o = V o := f1 _ (by omega) (by omega) (by omega) (by omega)
  unfold wb_O_post_49 wb_O_post_71
  refine pk_lt (m + (h / 15 + 1)) 6 (fun hlt => br_t rfl ⟨o1, fun W2 e2 => ⟨fun q => absurd rfl q, fun _ => ?_⟩⟩) (fun hge => ?_)
  · refine hA h7 hlt W2 (fun q hq => ?_) (fun j hj => ?_) ?_ (fun j hj => ?_)
    · rw [e2, up2_ne hq.1, f1 q hq.2.1 hq.2.2.1 hq.2.2.2.1 hq.2.2.2.2]
    · rw [e2, up2_ab hj, fo]
    · rw [e2, up2_aa]
    · rw [e2, up2_ne (by omega), up2_ne (by omega), up2_ne (by omega), up2_ne (by omega)]; exact s1 j hj
  · refine br_f (by decide) ⟨o1, ?_⟩
    have hLs : ∀ j, j < 6 → exL m h L j ≤ 15 := fun j hj => (s1 j (by omega)).2.1
    have hsum := sumL_le hLs
    refine s_pageSize (c := 6) (L := exL m h L) ho' (fun j hj => ⟨(s1 j (by omega)).1, (s1 j (by omega)).2.1⟩) (by decide) ?_
    simp only [IC hθ, true_and]
    have hv1 : W1 (tb θ + 1) = V (tb θ + 1) := f1 _ (by omega) (by omega) (by omega) (by omega)
    have hv2 : W1 (tb θ + 2) = V (tb θ + 2) := f1 _ (by omega) (by omega) (by omega) (by omega)
    refine s_hasRoom hθ (n := n) (by rw [hv1]; exact hW.1) hW.2.1 _ (by omega) (fun hr => ⟨fun _ => ⟨o1, fun W2 e2 => ⟨fun _ => ?_, fun q => absurd q (by decide)⟩⟩, fun q => absurd q (by decide)⟩) (fun hr => ⟨fun q => absurd rfl q, fun _ => ?_⟩)
    · have hW2 : WV θ W2 n r w := by
        unfold WV at hW ⊢
        rw [e2, up2_ne (by omega), up2_ne (by omega), hv1, hv2]; exact hW
      have e20 : 14 + 6 + sumL (exL m h L) 6 = 20 + sumL (exL m h L) 6 := by omega
      refine s_putOut (c := 6) (m := m + (h / 15 + 1)) (k := k) (L := exL m h L) (T := exT m t T) (B := exB m B) (O := exO m O hb) (y := 0) hθ hU ho' hW2 (fun j hj => ?_) ?_ (by omega) hge ?_ hk4 (by omega) (fun V2 p1 p2 p3 p4 p5 p6 p7 => ?_)
      · rw [e2, up2_ne (by omega), up2_ne (by omega), up2_ne (by omega), up2_ne (by omega)]; exact s1 j hj
      · rw [e2, up2_aa]
      · rw [e2, up2_ab (by decide), fo, hk0]
      · have w6 : W2 o 6 = V o 6 := by rw [e2, up2_ab (by decide), fo]
        rw [w6, e20] at p2
        refine hC h7 hge (by omega) V2 (fun q a b hq => ?_) p2 p3 ?_ p5 ?_ p7
        · rw [p1 q a b hq.1 hq.2.1 hq.2.2.1 hq.2.2.2.1 hq.2.2.2.2, e2, up2_ne hq.1, f1 q hq.2.1 hq.2.2.1 hq.2.2.2.1 hq.2.2.2.2]
        · rw [p4, e2, up2_ab (by decide), fo]
        · rw [p6, w6]
    · exact hB h7 hge (by omega) W1 (fun q hq => f1 q hq.2.1 hq.2.2.1 hq.2.2.2.1 hq.2.2.2.2) fo (s1.low (by omega))
theorem s_empty {K : Int32 → VT → UT → Prop} {y : Int32} (hθ : OKt θ) (hU : US θ sw U) (ho : OB θ U o) (hW : WV θ V n r w) (hS : SV V o m L T B O) (hm : V o 5 = nI m) (hm5 : m ≤ 5) (hk0 : V o 0 = nI k) (hk4 : k < 4) (hy : isZ y)
    (hE : V o 7 ≠ 0 → K (-1) V U)
    (hB : V o 7 = 0 → 1000 < n + (14 + m + sumL L m) → K (-1) V U)
    (hC : V o 7 = 0 → n + (14 + m + sumL L m) ≤ 1000 → ∀ V2, (∀ q, q ≠ tb θ + 1 → q ≠ tb θ + 2 → FO o q → V2 q = V q) → WV θ V2 (n + (14 + m + sumL L m)) r (apw n w (shO k m (V o 6) y L T B O)) → V2 o 0 = nI k → V2 o 7 = y → V2 o 5 = nI 0 → V2 o 6 = V o 6 + 1 → K (nI m) V2 U) : wp_O_empty θ o (tb θ + 1) y V U K := by
  have ho' := ho
  obtain ⟨o1, o2, o3, o4, o5, o6, o7, o8, o9, o10, o11⟩ := ho
  unfold wp_O_empty
  simp only [o1, true_and, hm]
  rintro z rfl
  refine ⟨hE, fun h7 => ?_⟩
  have hsum := sumL_le (L := L) (c := m) (fun j hj => (hS j hj).2.1)
  refine s_pageSize (c := m) (L := L) ho' (fun j hj => ⟨(hS j hj).1, (hS j hj).2.1⟩) (by omega) ?_
  simp only [IC hθ, true_and]
  refine s_hasRoom hθ hW.1 hW.2.1 _ (by omega) (fun hr => ⟨fun _ => ?_, fun q => absurd q (by decide)⟩) (fun hr => ⟨fun q => absurd rfl q, fun _ => hB h7 hr⟩)
  refine s_putOut (c := m) (m := m) (k := k) hθ hU ho' hW hS hm (by omega) (Nat.le_refl _) hk0 hk4 hr (fun V2 p1 p2 p3 p4 p5 p6 p7 => ⟨hy, fun V3 e3 => ?_⟩)
  refine hC h7 hr V3 (fun q a b hq => ?_) ?_ ?_ ?_ ?_ ?_
  · rw [e3, up2_ne hq.1, p1 q a b hq.1 hq.2.1 hq.2.2.1 hq.2.2.2.1 hq.2.2.2.2]
  · unfold WV at p2 ⊢
    rw [e3, up2_ne (by omega), up2_ne (by omega)]; exact p2
  · rw [e3, up2_ab (by decide), p3]
  · rw [e3, up2_aa]
  · rw [e3, up2_ab (by decide), p5, Nat.sub_self]
  · rw [e3, up2_ab (by decide), p6]
end SEND
