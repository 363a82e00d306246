-- the next entry of a book, the reference
section MPICK
variable {θ : TH} {V : VT} {U : UT} {sw : Bool} {p : PK} {s : RS} {b : BD} {k : Nat}
theorem lstU_le (ln : Nat → Nat) : ∀ k, lstU ln k ≤ k
  | 0 => Nat.le_refl _
  | k + 1 => by
    have := lstU_le ln k
    unfold lstU; split <;> omega
theorem fst1_only {l v : Nat} (h : cnU b.ln b.E = 1) (hl : 1 ≤ l) : fst1 (hit b l v) b.E 0 = some (lstU b.ln b.E) := by
  obtain ⟨a1, a2, a3⟩ := cnU_1 h
  refine fst1_eq (by omega) (by omega) (by simp [hit, h, a2]) (fun j j1 j2 => ?_)
  cases q : hit b l v j
  · rfl
  · have hp : 0 < b.ln j := by
      simp only [hit, h, decide_true, Bool.true_and, Bool.or_eq_true, decide_eq_true_eq, Bool.and_eq_true] at q
      omega
    have := a3 j (by omega) hp
    omega
theorem m_pick {K : Int32 → VT → UT → Prop} (hθ : OKt θ) (hU : US θ sw U) (hp : MP θ V p) (hk : k < 4) (hb : BKP b) (hc : BKM θ V k b) (hs : s.1 ≤ 8 * p.L) (h : K (nO (pkR p b s).1) (mS θ V (pkR p b s).2) U) : wp_M_pick θ (tb θ + 126) (nI k) (mS θ V s) U K := by
  obtain ⟨b1, b2, b3, b4, hw, _⟩ := hb
  obtain ⟨c1, c2, c3, c4, c5⟩ := hc
  have hcn := cnU_le b.ln b.E
  have hkin : vp_in (nI k) 4 := vp_in_nI (by omega) (by decide)
  have hix : ∀ e : Nat, (8 : Int32) * nI k + nI e = nI (8 * k + e) := fun e => by rw [show (8 : Int32) = nI 8 from rfl, pk_mul, nI_add]
  have outer : ∀ m v s, m ≤ 8 → v < 2 ^ (8 - m) → s.1 ≤ 8 * p.L → K (nO (pkF p b m v s).1) (mS θ V (pkF p b m v s).2) U → wl_M_pick_75 θ (tb θ + 126) (nI k) (nI (cnU b.ln b.E)) (nI (lstU b.ln b.E)) K (m + 1) (nI v) (nI (9 - m)) (mS θ V s) U := by
    intro m
    induction m with
    | zero =>
      intro v s hm hv hs h
      show bl_M_pick_75 _ _ _ _ _ _ _ _ _ _ _
      unfold bl_M_pick_75
      exact br_t (by decide) h
    | succ m ih =>
      intro v s hm hv hs h
      show bl_M_pick_75 _ _ _ _ _ _ _ _ _ _ _
      unfold bl_M_pick_75
      simp only [IM hθ, true_and]
      refine br_f (nI_nlt (a := 8) (b := 9 - (m + 1)) (by omega) (by decide)) ?_
      refine m_read hθ hU hp hs (k := 1) (by decide) ?_
      intro y hy
      have hl := rdV_lt p 1 s
      have hpw : 2 ^ (8 - (m + 1)) ≤ 2 ^ 7 := p2le (by omega)
      have e2 : 2 ^ (8 - m) = 2 * 2 ^ (8 - (m + 1)) := by
        rw [show 8 - m = (8 - (m + 1)) + 1 by omega, Nat.pow_succ]; omega
      have ey : y = nI (2 * v + rdV p 1 s) := by
        rw [hy, show (2 : Int32) = nI 2 from rfl, pk_mul, nI_add]
      rw [ey, mS_40]
      have hm8 : 2 ^ (8 - m) ≤ 2 ^ 8 := p2le (by omega)
      unfold pkF at h
      by_cases ho : (rdS p 1 s).2 = true
      · rw [if_pos ho] at h
        exact ⟨fun q => absurd (bZ_0.1 q) (by rw [ho]; decide), fun _ => h⟩
      · rw [if_neg ho] at h
        have hof : (rdS p 1 s).2 = false := by simpa using ho
        refine ⟨fun _ => ⟨fun hn1 => ?_, fun h1 => ?_⟩, fun q => absurd (bZ_0.2 hof) q⟩
        · have hcn1 : ¬ cnU b.ln b.E = 1 := fun z => hn1 (by rw [z]; rfl)
          have inner : ∀ n e, e + n = b.E → (K (nO (match fst1 (hit b (8 - m) (2 * v + rdV p 1 s)) n e with
              | some e => (some e, rdS p 1 s)
              | none => pkF p b m (2 * v + rdV p 1 s) (rdS p 1 s)).1) (mS θ V (match fst1 (hit b (8 - m) (2 * v + rdV p 1 s)) n e with
              | some e => (some e, rdS p 1 s)
              | none => pkF p b m (2 * v + rdV p 1 s) (rdS p 1 s)).2) U) → wl_M_pick_113 θ (tb θ + 126) (nI k) (nI (cnU b.ln b.E)) (nI (lstU b.ln b.E)) (nI (2 * v + rdV p 1 s)) (nI (9 - (m + 1))) (wl_M_pick_75 θ (tb θ + 126) (nI k) (nI (cnU b.ln b.E)) (nI (lstU b.ln b.E)) K (m + 1)) K (n + 1) (nI e) (mS θ V (rdS p 1 s)) U := by
            intro n
            induction n with
            | zero =>
              intro e he h
              show bl_M_pick_113 _ _ _ _ _ _ _ _ _ _ _ _ _
              unfold bl_M_pick_113
              simp only [UM hU, IM hθ, true_and, exists_eq_left]
              rw [mS_ne (show tb θ + 151 ≠ tb θ + 126 by omega), nI_clamp (show k < 2 ^ 31 by omega), c1]
              refine ⟨by omega, hkin, br_t (nI_le (by omega) (by omega)) (fun y hy => ?_)⟩
              rw [hy, nI_1, show 9 - (m + 1) + 1 = 9 - m by omega]
              exact ih _ _ (by omega) (by omega) (rdS_ok 1 hs) h
            | succ n ihn =>
              intro e he h
              show bl_M_pick_113 _ _ _ _ _ _ _ _ _ _ _ _ _
              unfold bl_M_pick_113
              simp only [UM hU, IM hθ, true_and, exists_eq_left]
              rw [hix e, mS_ne (show tb θ + 151 ≠ tb θ + 126 by omega), mS_ne (show tb θ + 152 ≠ tb θ + 126 by omega), mS_ne (show tb θ + 153 ≠ tb θ + 126 by omega), nI_clamp (show k < 2 ^ 31 by omega), nI_clamp (show 8 * k + e < 2 ^ 31 by omega), c1, (c3 e (by omega)).1, (c3 e (by omega)).2]
              obtain ⟨hw1, hw2⟩ := hw e (by omega)
              have hin : vp_in (nI (8 * k + e)) 32 := vp_in_nI (by omega) (by decide)
              refine ⟨by omega, hkin, br_f (nI_ge (by omega) (by omega)) ⟨by omega, hin, ?_⟩⟩
              unfold fst1 at h
              have go : hit b (8 - m) (2 * v + rdV p 1 s) e = false → ∀ y : Int32, y = nI e + 1 → wl_M_pick_113 θ (tb θ + 126) (nI k) (nI (cnU b.ln b.E)) (nI (lstU b.ln b.E)) (nI (2 * v + rdV p 1 s)) (nI (9 - (m + 1))) (wl_M_pick_75 θ (tb θ + 126) (nI k) (nI (cnU b.ln b.E)) (nI (lstU b.ln b.E)) K (m + 1)) K (n + 1) y (mS θ V (rdS p 1 s)) U := by
                intro hh y hy
                rw [hh] at h
                rw [hy, nI_1]
                exact ihn (e + 1) (by omega) h
              refine ⟨fun q1 => go ?_, fun q1 => ⟨by omega, hin, fun q2 => go ?_, fun q2 => ?_⟩⟩
              · have : ¬ b.ln e = 8 - m := fun z => q1 (by rw [z]; congr 1; omega)
                simp [hit, hcn1, this]
              · have : ¬ b.cd e = 2 * v + rdV p 1 s := fun z => q2 (by rw [z])
                simp [hit, hcn1, this]
              · have z1 : b.ln e = 9 - (m + 1) := (nI_eq (by omega) (by omega)).1 q1
                have hlt := hw2 (by omega)
                have hle := p2le hw1
                have z2 : b.cd e = 2 * v + rdV p 1 s := (nI_eq (by omega) (by omega)).1 q2
                have hh : hit b (8 - m) (2 * v + rdV p 1 s) e = true := by
                  simp [hit, z2]
                  right; omega
                rw [hh] at h
                exact h
          exact ⟨_, inner b.E 0 (by omega) h⟩
        · have hcn1 : cnU b.ln b.E = 1 := (nI_eq (by omega) (by decide)).1 h1
          rw [fst1_only hcn1 (by omega)] at h
          exact h
  have first : ∀ n e, e + n = b.E → wl_M_pick_7 θ (tb θ + 126) (nI k) K (n + 1) (nI (cnU b.ln e)) (nI (lstU b.ln e)) (nI e) (mS θ V s) U := by
    intro n
    induction n with
    | zero =>
      intro e he
      show bl_M_pick_7 _ _ _ _ _ _ _ _ _ _
      unfold bl_M_pick_7
      simp only [UM hU, IM hθ, true_and, exists_eq_left]
      rw [mS_ne (show tb θ + 151 ≠ tb θ + 126 by omega), nI_clamp (show k < 2 ^ 31 by omega), c1]
      refine ⟨by omega, hkin, br_t (nI_le (by omega) (by omega)) ⟨9, ?_⟩⟩
      obtain rfl : e = b.E := by omega
      exact outer 8 0 s (by decide) (by decide) hs h
    | succ n ihn =>
      intro e he
      show bl_M_pick_7 _ _ _ _ _ _ _ _ _ _
      unfold bl_M_pick_7
      unfold wb_M_pick_39
      simp only [UM hU, IM hθ, true_and, exists_eq_left, forall_eq]
      rw [hix e, mS_ne (show tb θ + 151 ≠ tb θ + 126 by omega), mS_ne (show tb θ + 152 ≠ tb θ + 126 by omega), nI_clamp (show k < 2 ^ 31 by omega), nI_clamp (show 8 * k + e < 2 ^ 31 by omega), c1, (c3 e (by omega)).1]
      have hin : vp_in (nI (8 * k + e)) 32 := vp_in_nI (by omega) (by decide)
      obtain ⟨hw1, hw2⟩ := hw e (by omega)
      refine ⟨by omega, hkin, br_f (nI_ge (by omega) (by omega)) ⟨by omega, hin, ?_⟩⟩
      have hi := ihn (e + 1) (by omega)
      unfold cnU lstU at hi
      by_cases z : 0 < b.ln e
      · rw [if_pos z, if_pos z] at hi
        have hn : ¬ nI (b.ln e) ≤ 0 := nI_nle z (by omega)
        refine ⟨fun q => absurd q hn, fun _ => ⟨by omega, hin, fun q => absurd q hn, fun _ => ?_⟩⟩
        rw [nI_1, nI_1]
        exact hi
      · rw [if_neg z, if_neg z] at hi
        have hn : nI (b.ln e) ≤ 0 := by rw [show b.ln e = 0 by omega]; decide
        refine ⟨fun _ => ⟨by omega, hin, fun _ => ?_, fun q => absurd hn q⟩, fun q => absurd hn q⟩
        rw [nI_1, show nI (cnU b.ln e) + 0 = nI (cnU b.ln e + 0) from nI_add _ 0]
        exact hi
  exact ⟨b.E + 1, first b.E 0 (by omega)⟩
end MPICK
