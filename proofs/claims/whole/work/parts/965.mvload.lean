-- the plan of the values is read, the reference
def vmh (p : PK) (u : RS) (k : Nat) : Bool := decide (rdV p 2 (itS p 2 u (k / 2)) / 2 ^ (k % 2) % 2 = 1)
section MVLOAD
variable {θ : TH} {V : VT} {U : UT} {sw : Bool} {p : PK} {t : RS} {la B c : Nat} {bk : Nat → BD}
theorem vtS_congr {hb hb2 : Nat → Bool} {u : RS} : ∀ {n : Nat}, (∀ k, k < n → hb k = hb2 k) → ∀ k, k ≤ n → vtS p hb u k = vtS p hb2 u k
  | n, h, 0, _ => rfl
  | n, h, k + 1, hk => by
    unfold vtS
    rw [h k (by omega), vtS_congr h k (by omega)]
theorem has_split (ho : (vq7 p t).2 = false) : itS p 2 (vq6 p t) (vvk p t) = vq7 p t ∧ ∀ k, k < 2 * vvk p t → vmh p (vq6 p t) k = vvh p t k := by
  have hk := vvk_b (p := p) (t := t)
  have : vvk p t = 1 ∨ vvk p t = 2 := by omega
  rcases this with e | e
  · refine ⟨?_, fun k hk => ?_⟩
    · unfold vq7; rw [e]; rfl
    · unfold vmh vvh; rw [e]
      have : k = 0 ∨ k = 1 := by omega
      rcases this with rfl | rfl <;> rfl
  · have h7 : vq7 p t = rdS p (2 + 2) (vq6 p t) := by unfold vq7; rw [e]
    rw [h7] at ho
    obtain ⟨a, b⟩ := rd_split ho
    refine ⟨?_, fun k hk => ?_⟩
    · rw [h7, a, e]; rfl
    · have hv : rdV p (2 * vvk p t) (vq6 p t) = rdV p 2 (vq6 p t) + 2 ^ 2 * rdV p 2 (rdS p 2 (vq6 p t)) := by rw [e]; exact b
      have l1 := rdV_lt p 2 (vq6 p t)
      unfold vmh vvh
      rw [hv]
      have : k = 0 ∨ k = 1 ∨ k = 2 ∨ k = 3 := by omega
      rcases this with rfl | rfl | rfl | rfl
      · show decide (rdV p 2 (vq6 p t) / 2 ^ 0 % 2 = 1) = _
        congr 2; omega
      · show decide (rdV p 2 (vq6 p t) / 2 ^ 1 % 2 = 1) = _
        congr 2; omega
      · show decide (rdV p 2 (rdS p 2 (vq6 p t)) / 2 ^ 0 % 2 = 1) = _
        congr 2; omega
      · show decide (rdV p 2 (rdS p 2 (vq6 p t)) / 2 ^ 1 % 2 = 1) = _
        congr 2; omega
theorem has_out (ho : (vq7 p t).2 = true) : (itS p 2 (vq6 p t) (vvk p t)).2 = true := by
  have hk := vvk_b (p := p) (t := t)
  have : vvk p t = 1 ∨ vvk p t = 2 := by omega
  unfold vq7 at ho
  rcases this with e | e
  · rw [e] at ho ⊢; exact ho
  · rw [e] at ho ⊢
    show (rdS p 2 (rdS p 2 (vq6 p t))).2 = true
    rw [rd_splitO]; exact ho
theorem m_vload {K : Int32 → VT → UT → Prop} (hθ : OKt θ) (hU : US θ sw U) (hla : la ≤ 48) (hp : MP θ V p) (ht : t.1 ≤ 8 * p.L) (hB : B ≤ 4) (hc2 : c ≤ 2) (h44 : V (tb θ + 126) 44 = nI B) (h41 : V (tb θ + 126) 41 = nI c) (hbk : ∀ k, k < B → BKP (bk k) ∧ BKM θ V k (bk k)) (h : ∀ W t' r, FB V W (tb θ + 157) (la + 30) 11 → isZ r → ((t'.2 = true ∧ (vq9 p t).2 = true) ∨ (t' = vq9 p t ∧ ((r = 1 ∧ VVO p B c bk t ∧ VPM θ W la (vvD p t)) ∨ (r = 0 ∧ ¬ VVO p B c bk t)))) → K r (mS θ W t') U) : wp_M_valuePart θ (tb θ + 126) (nI la) (mS θ V t) U K := by
  have i30 : nI la + (30 : Int32) = nI (la + 30) := nI_add la 30
  have i31 : nI la + (31 : Int32) = nI (la + 31) := nI_add la 31
  have i32 : nI la + (32 : Int32) = nI (la + 32) := nI_add la 32
  have i33 : nI la + (33 : Int32) = nI (la + 33) := nI_add la 33
  have i34 : nI la + (34 : Int32) = nI (la + 34) := nI_add la 34
  have i35 : nI la + (35 : Int32) = nI (la + 35) := nI_add la 35
  have i36 : nI la + (36 : Int32) = nI (la + 36) := nI_add la 36
  have i40 : nI la + (40 : Int32) = nI (la + 40) := nI_add la 40
  have MU : ∀ {W : VT} {j : Nat} {x : Int32}, MP θ W p → MP θ (up2 W (tb θ + 157) j x) p := fun hW => hW.eq (by rw [up2_ne (by omega)]) (up2_ne (by omega))
  unfold wp_M_valuePart
  simp only [UM hU, IM hθ, true_and, exists_eq_left, i30, i31, i32, i33, i34, i35]
  refine ⟨by omega, m_read hθ hU hp ht (k := 2) (by decide) ⟨vp_in_nI (by omega) (by decide), fun V9 h9 => ?_⟩⟩
  rw [nI_clamp (by omega), mS_up (by omega)] at h9
  subst h9
  simp only [UM hU, IM hθ, true_and, exists_eq_left]
  refine ⟨by omega, m_read hθ hU (MU hp) (rdS_ok 2 ht) (k := 5) (by decide) ⟨vp_in_nI (by omega) (by decide), fun V9 h9 => ?_⟩⟩
  rw [nI_clamp (by omega), mS_up (by omega)] at h9
  subst h9
  simp only [UM hU, IM hθ, true_and, exists_eq_left]
  refine ⟨by omega, m_read hθ hU (MU (MU hp)) (rdS_ok 5 (rdS_ok 2 ht)) (k := 6) (by decide) ⟨vp_in_nI (by omega) (by decide), fun V9 h9 => ?_⟩⟩
  rw [nI_clamp (by omega), mS_up (by omega)] at h9
  subst h9
  simp only [UM hU, IM hθ, true_and, exists_eq_left]
  refine ⟨by omega, m_read hθ hU (MU (MU (MU hp))) (rdS_ok 6 (rdS_ok 5 (rdS_ok 2 ht))) (k := 3) (by decide) ⟨vp_in_nI (by omega) (by decide), fun V9 h9 => ?_⟩⟩
  rw [nI_1, nI_clamp (by omega), mS_up (by omega)] at h9
  subst h9
  simp only [UM hU, IM hθ, true_and, exists_eq_left]
  refine ⟨by omega, m_read hθ hU (MU (MU (MU (MU hp)))) (rdS_ok 3 (rdS_ok 6 (rdS_ok 5 (rdS_ok 2 ht)))) (k := 1) (by decide) ⟨vp_in_nI (by omega) (by decide), fun V9 h9 => ?_⟩⟩
  rw [nI_1, nI_clamp (by omega), mS_up (by omega)] at h9
  subst h9
  simp only [UM hU, IM hθ, true_and, exists_eq_left]
  refine ⟨by omega, m_read hθ hU (MU (MU (MU (MU (MU hp))))) (rdS_ok 1 (rdS_ok 3 (rdS_ok 6 (rdS_ok 5 (rdS_ok 2 ht))))) (k := 2) (by decide) ⟨vp_in_nI (by omega) (by decide), fun V9 h9 => ?_⟩⟩
  rw [nI_clamp (by omega), mS_up (by omega)] at h9
  have h9' : V9 = mS θ (up2 (up2 (up2 (up2 (up2 (up2 V (tb θ + 157) (la + 30) (nI (vvm p t))) (tb θ + 157) (la + 31) (nI (vvb p t))) (tb θ + 157) (la + 32) (nI (vve p t))) (tb θ + 157) (la + 33) (nI (vvp p t))) (tb θ + 157) (la + 34) (nI (vvk p t))) (tb θ + 157) (la + 35) (nI (vvK p t))) (vq6 p t) := h9
  clear h9
  subst h9'
  have f1 : FB V (up2 (up2 (up2 (up2 (up2 (up2 V (tb θ + 157) (la + 30) (nI (vvm p t))) (tb θ + 157) (la + 31) (nI (vvb p t))) (tb θ + 157) (la + 32) (nI (vve p t))) (tb θ + 157) (la + 33) (nI (vvp p t))) (tb θ + 157) (la + 34) (nI (vvk p t))) (tb θ + 157) (la + 35) (nI (vvK p t))) (tb θ + 157) (la + 30) 11 := (((((FB.refl.up (by omega) (by omega)).up (by omega) (by omega)).up (by omega) (by omega)).up (by omega) (by omega)).up (by omega) (by omega)).up (by omega) (by omega)
  have g : ∃ W0 : VT, W0 = up2 (up2 (up2 (up2 (up2 (up2 V (tb θ + 157) (la + 30) (nI (vvm p t))) (tb θ + 157) (la + 31) (nI (vvb p t))) (tb θ + 157) (la + 32) (nI (vve p t))) (tb θ + 157) (la + 33) (nI (vvp p t))) (tb θ + 157) (la + 34) (nI (vvk p t))) (tb θ + 157) (la + 35) (nI (vvK p t)) := ⟨_, rfl⟩
  obtain ⟨W0, hW0⟩ := g
  rw [← hW0] at f1 ⊢
  have w1 : W0 (tb θ + 157) (la + 30) = nI (vvm p t) := by rw [hW0, up2_ab (by omega), up2_ab (by omega), up2_ab (by omega), up2_ab (by omega), up2_ab (by omega), up2_aa]
  have w2 : W0 (tb θ + 157) (la + 31) = nI (vvb p t) := by rw [hW0, up2_ab (by omega), up2_ab (by omega), up2_ab (by omega), up2_ab (by omega), up2_aa]
  have w3 : W0 (tb θ + 157) (la + 32) = nI (vve p t) := by rw [hW0, up2_ab (by omega), up2_ab (by omega), up2_ab (by omega), up2_aa]
  have w4 : W0 (tb θ + 157) (la + 33) = nI (vvp p t) := by rw [hW0, up2_ab (by omega), up2_ab (by omega), up2_aa]
  have w5 : W0 (tb θ + 157) (la + 34) = nI (vvk p t) := by rw [hW0, up2_ab (by omega), up2_aa]
  have w6 : W0 (tb θ + 157) (la + 35) = nI (vvK p t) := by rw [hW0, up2_aa]
  clear hW0
  have hp0 : MP θ W0 p := hp.eq (by rw [f1.1 _ (by omega)]) (f1.1 _ (by omega))
  have hm := rdV_lt p 2 t
  have hbb := rdV_lt p 5 (vq1 p t)
  have hee := rdV_lt p 6 (vq2 p t)
  have hKK := rdV_lt p 2 (vq5 p t)
  have hk2 := vvk_b (p := p) (t := t)
  have hps := vvp_b (p := p) (t := t)
  have e126 : ∀ X u j x, X (tb θ + 126) j = x → j ≠ 39 → j ≠ 40 → mS θ X u (tb θ + 126) j = x := fun X u j x hX a b => by rw [mS_j a b]; exact hX
  simp only [UM hU, IM hθ, true_and, exists_eq_left]
  rw [mS_ne (show tb θ + 157 ≠ tb θ + 126 by omega), nI_clamp (show la + 30 < 2 ^ 31 by omega), nI_clamp (show la + 31 < 2 ^ 31 by omega), nI_clamp (show la + 32 < 2 ^ 31 by omega), nI_clamp (show la + 35 < 2 ^ 31 by omega), w1, w2, w3, w6, e126 W0 _ 44 (nI B) (by rw [f1.1 _ (by omega)]; exact h44) (by decide) (by decide)]
  -- the last: the books and whether joined
  have last : ∀ (hb : Nat → Bool) (u : RS) (P0 : Prop) (x : Int32) (X : VT), u.1 ≤ 8 * p.L → GF x P0 → FB W0 X (tb θ + 157) (la + 36) 5 → (∀ k, k < 2 * vvk p t → X (tb θ + 157) (la + 36 + k) = if hb k = true then 0 else -1) → (∀ Y r, FB V Y (tb θ + 157) (la + 30) 11 → GF r (P0 ∧ (∀ k, k < 2 * vvk p t → vtO B (vvp p t) bk (vtB p hb u k)) ∧ (spB p (vtS p hb u (2 * vvk p t)) = true → c = 2)) → (∀ j, j < 36 → Y (tb θ + 157) (la + j) = W0 (tb θ + 157) (la + j)) → (∀ k, k < 2 * vvk p t → Y (tb θ + 157) (la + 36 + k) = nO (vtB p hb u k)) → Y (tb θ + 157) (la + 40) = bZ (spB p (vtS p hb u (2 * vvk p t))) → K r (mS θ Y (rdS p 1 (vtS p hb u (2 * vvk p t)))) U) → ∃ n, wl_M_valuePart_215 θ (tb θ + 126) (nI la) K n x (0 : Int32) (mS θ X u) U := by
    intro hb u P0 x X hu hx hF hX hK
    refine loop2 (2 * vvk p t) (fun k b V1 => GF b (P0 ∧ ∀ j, j < k → vtO B (vvp p t) bk (vtB p hb u j)) ∧ ∃ Y, V1 = mS θ Y (vtS p hb u k) ∧ FB W0 Y (tb θ + 157) (la + 36) 5 ∧ (∀ j, j < 2 * vvk p t → Y (tb θ + 157) (la + 36 + j) = if j < k then nO (vtB p hb u j) else if hb j = true then 0 else -1)) ⟨hx.congr ⟨fun w => ⟨w, fun j hj => (by omega)⟩, fun w => w.1⟩, X, rfl, hF, fun j hj => (by rw [if_neg (by omega)]; exact hX j hj)⟩ (fun f k b V1 hk hJ hgo => ?_) (fun f b V1 hJ => ?_)
    · obtain ⟨hb1, Y, rfl, g1, g2⟩ := hJ
      show bl_M_valuePart_215 _ _ _ _ _ _ _ _ _
      unfold bl_M_valuePart_215 wb_M_valuePart_311 wb_M_valuePart_312
      simp only [UM hU, IM hθ, true_and, exists_eq_left, i33, i34, i36, i40, nI_add]
      rw [mS_ne (show tb θ + 157 ≠ tb θ + 126 by omega), nI_clamp (show la + 34 < 2 ^ 31 by omega), g1.2 (la + 34) (by omega), w5, show (2 : Int32) * nI (vvk p t) = nI (2 * vvk p t) from pk_mul 2 _, nI_clamp (show la + 36 + k < 2 ^ 31 by omega), g2 k hk, if_neg (Nat.lt_irrefl k)]
      refine ⟨by omega, vp_in_nI (by omega) (by decide), br_f (nI_ge hk (by omega)) ⟨vp_in_nI (by omega) (by decide), fun q y hy => ?_, fun q => ?_⟩⟩
      · have hbk' : hb k = false := by
          cases e : hb k
          · rfl
          · rw [e] at q; exact absurd rfl q
        have eB : vtB p hb u k = none := by unfold vtB; rw [hbk']; rfl
        have eS : vtS p hb u (k + 1) = vtS p hb u k := by
          show (if hb k = true then _ else _) = _; rw [hbk']; rfl
        rw [hy, nI_1]
        refine hgo _ _ ⟨hb1.congr ⟨fun w => ⟨w.1, fun j hj => ?_⟩, fun w => ⟨w.1, fun j hj => w.2 j (by omega)⟩⟩, Y, by rw [eS], g1, fun j hj => ?_⟩
        · by_cases e : j = k
          · subst e; rw [eB]; intro m e; cases e
          · exact w.2 j (by omega)
        · by_cases e : j = k
          · subst e; rw [if_pos (show j < j + 1 by omega), eB, g2 j hj, if_neg (Nat.lt_irrefl j), hbk']; rfl
          · rw [g2 j hj]
            by_cases e2 : j < k
            · rw [if_pos e2, if_pos (by omega)]
            · rw [if_neg e2, if_neg (show ¬ j < k + 1 by omega)]
      · have hbk' : hb k = true := by
          cases e : hb k
          · rw [e] at q; exact absurd q (by decide)
          · rfl
        have eB : vtB p hb u k = some (rdV p 2 (vtS p hb u k)) := by unfold vtB; rw [hbk']; rfl
        have eS : vtS p hb u (k + 1) = rdS p 2 (vtS p hb u k) := by
          show (if hb k = true then _ else _) = _; rw [hbk']; rfl
        have hpY : MP θ Y p := hp0.eq (by rw [g1.1 _ (by omega)]) (g1.1 _ (by omega))
        refine m_read hθ hU hpY (vtS_ok hu k) (k := 2) (by decide) ?_
        have hr := rdV_lt p 2 (vtS p hb u k)
        simp only [UM hU, IM hθ, true_and, exists_eq_left]
        refine ⟨by omega, vp_in_nI (by omega) (by decide), fun V5 h5 => ?_⟩
        rw [mS_up (by omega)] at h5
        subst h5
        have k1 : FB W0 (up2 Y (tb θ + 157) (la + 36 + k) (nI (rdV p 2 (vtS p hb u k)))) (tb θ + 157) (la + 36) 5 := g1.up (by omega) (by omega)
        have k2 : ∀ j, j < 2 * vvk p t → up2 Y (tb θ + 157) (la + 36 + k) (nI (rdV p 2 (vtS p hb u k))) (tb θ + 157) (la + 36 + j) = if j < k + 1 then nO (vtB p hb u j) else if hb j = true then 0 else -1 := by
          intro j hj
          by_cases e : j = k
          · subst e; rw [up2_aa, if_pos (by omega), eB]; rfl
          · rw [up2_ab (by omega), g2 j hj]
            by_cases e2 : j < k
            · rw [if_pos e2, if_pos (by omega)]
            · rw [if_neg e2, if_neg (show ¬ j < k + 1 by omega)]
        generalize up2 Y (tb θ + 157) (la + 36 + k) (nI (rdV p 2 (vtS p hb u k))) = Z at k1 k2 ⊢
        have go : ∀ x' : Int32, GF x' ((P0 ∧ ∀ j, j < k → vtO B (vvp p t) bk (vtB p hb u j)) ∧ vtO B (vvp p t) bk (vtB p hb u k)) → ∀ y : Int32, y = nI k + 1 → wl_M_valuePart_215 θ (tb θ + 126) (nI la) K f x' y (mS θ Z (rdS p 2 (vtS p hb u k))) U := by
          intro x' hx' y hy
          rw [hy, nI_1]
          refine hgo _ _ ⟨hx'.congr ⟨fun w => ⟨w.1.1, fun j hj => ?_⟩, fun w => ⟨⟨w.1, fun j hj => w.2 j (by omega)⟩, w.2 k (by omega)⟩⟩, Z, by rw [eS], k1, k2⟩
          by_cases e : j = k
          · subst e; exact w.2
          · exact w.1.2 j (by omega)
        have Z126 : Z (tb θ + 126) 44 = nI B := by rw [k1.1 _ (by omega), f1.1 _ (by omega)]; exact h44
        rcases hb1 with ⟨a, b'⟩ | ⟨a, b'⟩
        · refine ⟨fun z => absurd (a.symm.trans z) (by decide), fun _ => ?_⟩
          rw [e126 Z _ 44 _ Z126 (by decide) (by decide)]
          refine pk_le B _ (fun q5 => go 0 (Or.inr ⟨rfl, fun w => ?_⟩)) (fun q5 => ?_)
          · have := (w.2 _ eB).1; omega
          · obtain ⟨hbp, hbm⟩ := hbk _ q5
            obtain ⟨b1, b2, b3, b4, _⟩ := hbp
            obtain ⟨m1, m2, m3, m4, m5⟩ := hbm
            have ZV : ∀ q, q ≠ tb θ + 157 → Z q = V q := fun q hq => by rw [k1.1 q hq, f1.1 q hq]
            rw [nI_clamp (show rdV p 2 (vtS p hb u k) < 2 ^ 31 by omega), mS_ne (show tb θ + 154 ≠ tb θ + 126 by omega), mS_ne (show tb θ + 150 ≠ tb θ + 126 by omega), ZV (tb θ + 154) (by omega), ZV (tb θ + 150) (by omega), m4, m2, mS_ne (show tb θ + 157 ≠ tb θ + 126 by omega), nI_clamp (show la + 33 < 2 ^ 31 by omega), k1.2 (la + 33) (by omega), w4]
            refine ⟨by omega, vp_in_nI (by omega) (by decide), fun z => go 0 (Or.inr ⟨rfl, fun w => ?_⟩), fun z => ⟨vp_in_nI (by omega) (by decide), by omega, vp_in_nI (by omega) (by decide), nI_ne0 b3 (by omega), ?_⟩⟩
            · have w1 := (w.2 _ eB).2.1
              rw [bZ_0.1 z] at w1; cases w1
            · have hvt : (bk (rdV p 2 (vtS p hb u k))).hv = true := by
                cases e : (bk (rdV p 2 (vtS p hb u k))).hv
                · rw [e] at z; exact absurd rfl z
                · rfl
              have hmod : vvp p t % (bk (rdV p 2 (vtS p hb u k))).d ≤ vvp p t := Nat.mod_le _ _
              rw [pk_rem (by omega) b3 (by omega)]
              have e0 : nI (vvp p t % (bk (rdV p 2 (vtS p hb u k))).d) = 0 ↔ vvp p t % (bk (rdV p 2 (vtS p hb u k))).d = 0 := nI_eq (b := 0) (by omega) (by decide)
              rw [e0]
              refine ⟨fun z2 => go 0 (Or.inr ⟨rfl, fun w => z2 (w.2 _ eB).2.2⟩), fun z2 => go 1 (Or.inl ⟨rfl, b', ?_⟩)⟩
              rw [eB]; intro m e; cases e; exact ⟨q5, hvt, z2⟩
        · exact ⟨fun _ => go 0 (Or.inr ⟨rfl, fun w => b' w.1⟩), fun z => absurd a z⟩
    · obtain ⟨hb1, Y, rfl, g1, g2⟩ := hJ
      show bl_M_valuePart_215 _ _ _ _ _ _ _ _ _
      unfold bl_M_valuePart_215 wb_M_valuePart_357 wb_M_valuePart_361
      simp only [UM hU, IM hθ, true_and, exists_eq_left, i33, i34, i36, i40, nI_add]
      rw [mS_ne (show tb θ + 157 ≠ tb θ + 126 by omega), nI_clamp (show la + 34 < 2 ^ 31 by omega), g1.2 (la + 34) (by omega), w5, show (2 : Int32) * nI (vvk p t) = nI (2 * vvk p t) from pk_mul 2 _]
      have hpY : MP θ Y p := hp0.eq (by rw [g1.1 _ (by omega)]) (g1.1 _ (by omega))
      refine ⟨by omega, vp_in_nI (by omega) (by decide), br_t (nI_le (Nat.le_refl _) (by omega)) (m_read hθ hU hpY (vtS_ok hu _) (k := 1) (by decide) ⟨vp_in_nI (by omega) (by decide), fun V87 h87 => ?_⟩)⟩
      have ez : nI (rdV p 1 (vtS p hb u (2 * vvk p t))) = bZ (spB p (vtS p hb u (2 * vvk p t))) := by
        unfold spB
        rcases rdV1 p (vtS p hb u (2 * vvk p t)) with z | z <;> rw [z] <;> rfl
      rw [nI_clamp (by omega), mS_up (by omega), ez] at h87
      subst h87
      have k1 : FB W0 (up2 Y (tb θ + 157) (la + 40) (bZ (spB p (vtS p hb u (2 * vvk p t))))) (tb θ + 157) (la + 36) 5 := g1.up (by omega) (by omega)
      have k2 : ∀ j, j < 2 * vvk p t → up2 Y (tb θ + 157) (la + 40) (bZ (spB p (vtS p hb u (2 * vvk p t)))) (tb θ + 157) (la + 36 + j) = nO (vtB p hb u j) := by
        intro j hj
        rw [up2_ab (by omega), g2 j hj, if_pos hj]
      have k3 : up2 Y (tb θ + 157) (la + 40) (bZ (spB p (vtS p hb u (2 * vvk p t)))) (tb θ + 157) (la + 40) = bZ (spB p (vtS p hb u (2 * vvk p t))) := up2_aa
      generalize up2 Y (tb θ + 157) (la + 40) (bZ (spB p (vtS p hb u (2 * vvk p t)))) = Z at k1 k2 k3 ⊢
      have fin := fun r hr => hK Z r (f1.trans (k1.wide (by omega) (by omega))) hr (fun j hj => k1.2 _ (by omega)) k2 k3
      simp only [UM hU, IM hθ, true_and, exists_eq_left]
      rw [nI_clamp (show la + 40 < 2 ^ 31 by omega), mS_ne (show tb θ + 157 ≠ tb θ + 126 by omega), k3, e126 Z _ 41 (nI c) (by rw [k1.1 _ (by omega), f1.1 _ (by omega)]; exact h41) (by decide) (by decide)]
      rcases hb1 with ⟨a, b'⟩ | ⟨a, b'⟩
      · refine ⟨fun z => absurd (a.symm.trans z) (by decide), fun _ => ⟨by omega, vp_in_nI (by omega) (by decide), fun z => fin 1 (Or.inl ⟨rfl, b'.1, b'.2, fun w => ?_⟩), fun z => ⟨fun z2 => fin 0 (Or.inr ⟨rfl, fun w => ?_⟩), fun z2 => fin 1 (Or.inl ⟨rfl, b'.1, b'.2, fun _ => (nI_eq (b := 2) (by omega) (by decide)).1 z2⟩)⟩⟩⟩
        · rw [bZ_0.1 z] at w; cases w
        · have hjt : spB p (vtS p hb u (2 * vvk p t)) = true := by
            cases e : spB p (vtS p hb u (2 * vvk p t))
            · rw [e] at z; exact absurd rfl z
            · rfl
          exact z2 (by rw [w.2.2 hjt]; rfl)
      · exact ⟨fun _ => fin 0 (Or.inr ⟨rfl, fun w => b' ⟨w.1, w.2.1⟩⟩), fun z => absurd a z⟩
  -- which books there are
  have has : ∀ x, GF x (vvm p t ≠ 3 ∧ vvb p t ≤ vve p t ∧ vvK p t < B) → ∃ n, wl_M_valuePart_147 θ (tb θ + 126) (nI la) x K n (0 : Int32) (mS θ W0 (vq6 p t)) U := by
    intro x hx
    refine loop1 (vvk p t) (fun k V1 => ∃ Y, V1 = mS θ Y (itS p 2 (vq6 p t) k) ∧ FB W0 Y (tb θ + 157) (la + 36) 5 ∧ ∀ j, j < 2 * k → Y (tb θ + 157) (la + 36 + j) = if vmh p (vq6 p t) j = true then 0 else -1) ⟨W0, rfl, FB.refl, fun j hj => (by omega)⟩ (fun f k V1 hk hJ hgo => ?_) (fun f V1 hJ => ?_)
    · obtain ⟨Y, rfl, g1, g2⟩ := hJ
      show bl_M_valuePart_147 _ _ _ _ _ _ _ _ _
      unfold bl_M_valuePart_147
      simp only [UM hU, IM hθ, true_and, exists_eq_left, i34, i36, show (2 : Int32) * nI k = nI (2 * k) from pk_mul 2 k, nI_add, nI_1]
      rw [mS_ne (show tb θ + 157 ≠ tb θ + 126 by omega), nI_clamp (show la + 34 < 2 ^ 31 by omega), g1.2 (la + 34) (by omega), w5]
      have hpY : MP θ Y p := hp0.eq (by rw [g1.1 _ (by omega)]) (g1.1 _ (by omega))
      refine ⟨by omega, vp_in_nI (by omega) (by decide), br_f (nI_ge hk (by omega)) (m_read hθ hU hpY (itS_ok (vq6_ok ht) k) (k := 2) (by decide) ?_)⟩
      simp only [UM hU, IM hθ, true_and, exists_eq_left]
      refine ⟨by omega, vp_in_nI (by omega) (by decide), fun V73 h73 => ⟨vp_in_nI (by omega) (by decide), fun V75 h75 y hy => ?_⟩⟩
      have hr := rdV_lt p 2 (itS p 2 (vq6 p t) k)
      have eb : ∀ x : Nat, x < 2 → nI x - 1 = if x = 1 then (0 : Int32) else -1 := by
        intro x hx
        have : x = 0 ∨ x = 1 := by omega
        rcases this with rfl | rfl <;> decide
      have b0 : (nI (rdV p 2 (itS p 2 (vq6 p t) k)) &&& (1 : Int32)) - 1 = if vmh p (vq6 p t) (2 * k) = true then 0 else -1 := by
        rw [pk_andN (by omega) (m := 1) 1 (by decide), eb _ (Nat.mod_lt _ (by decide))]
        unfold vmh
        rw [show 2 * k / 2 = k by omega, show 2 * k % 2 = 0 by omega]
        simp
      have b1 : (nI (rdV p 2 (itS p 2 (vq6 p t) k)) >>> ((1 : Int32) &&& 31)) - 1 = if vmh p (vq6 p t) (2 * k + 1) = true then 0 else -1 := by
        rw [pk_shrN (by omega) _ 1 (by decide), eb _ (by omega)]
        unfold vmh
        rw [show (2 * k + 1) / 2 = k by omega, show (2 * k + 1) % 2 = 1 by omega, show rdV p 2 (itS p 2 (vq6 p t) k) / 2 ^ 1 % 2 = rdV p 2 (itS p 2 (vq6 p t) k) / 2 ^ 1 by omega]
        simp
      rw [nI_clamp (by omega), mS_up (by omega), b0] at h73
      rw [h73, nI_clamp (by omega), mS_up (by omega), b1] at h75
      rw [h75, hy]
      refine hgo _ ⟨_, rfl, (g1.up (by omega) (by omega)).up (by omega) (by omega), fun j hj => ?_⟩
      by_cases e1 : j = 2 * k + 1
      · subst e1; rw [show la + 36 + (2 * k + 1) = la + 36 + 2 * k + 1 by omega, up2_aa]
      · by_cases e0 : j = 2 * k
        · subst e0; rw [up2_ab (by omega), up2_aa]
        · rw [up2_ab (by omega), up2_ab (by omega)]; exact g2 j (by omega)
    · obtain ⟨Y, rfl, g1, g2⟩ := hJ
      show bl_M_valuePart_147 _ _ _ _ _ _ _ _ _
      unfold bl_M_valuePart_147
      simp only [UM hU, IM hθ, true_and, exists_eq_left, i34]
      rw [mS_ne (show tb θ + 157 ≠ tb θ + 126 by omega), nI_clamp (show la + 34 < 2 ^ 31 by omega), g1.2 (la + 34) (by omega), w5]
      refine ⟨by omega, vp_in_nI (by omega) (by decide), br_t (nI_le (Nat.le_refl _) (by omega)) (last (vmh p (vq6 p t)) _ _ x Y (itS_ok (vq6_ok ht) _) hx g1 g2 (fun Z r z1 z2 z3 z4 z5 => ?_))⟩
      have hrz : isZ r := by
        rcases z2 with ⟨a, _⟩ | ⟨a, _⟩
        · exact Or.inr a
        · exact Or.inl a
      cases ho : (vq7 p t).2
      · obtain ⟨s1, s2⟩ := has_split ho
        have eS : ∀ k, k ≤ 2 * vvk p t → vtS p (vmh p (vq6 p t)) (itS p 2 (vq6 p t) (vvk p t)) k = vtS p (vvh p t) (vq7 p t) k := by
          intro k hk
          rw [s1]; exact vtS_congr s2 k hk
        have eB : ∀ k, k < 2 * vvk p t → vtB p (vmh p (vq6 p t)) (itS p 2 (vq6 p t) (vvk p t)) k = vvB p t k := by
          intro k hk
          unfold vvB vtB
          rw [s2 k hk, eS k (by omega)]
        have e8 : vtS p (vmh p (vq6 p t)) (itS p 2 (vq6 p t) (vvk p t)) (2 * vvk p t) = vq8 p t := eS _ (Nat.le_refl _)
        rw [e8] at z2 z5 ⊢
        have z2' : GF r (VVO p B c bk t) := z2.congr ⟨fun w => ⟨w.1.1, w.1.2.1, w.1.2.2, fun k hk => by rw [← eB k hk]; exact w.2.1 k hk, w.2.2⟩, fun w => ⟨⟨w.1, w.2.1, w.2.2.1⟩, fun k hk => by rw [eB k hk]; exact w.2.2.2.1 k hk, w.2.2.2.2⟩⟩
        refine h Z _ r z1 hrz (Or.inr ⟨rfl, ?_⟩)
        rcases z2' with ⟨a, b⟩ | ⟨a, b⟩
        · refine Or.inl ⟨a, b, ?_, ?_, ?_, ?_, ?_, ?_, fun k hk => ?_, z5⟩
          · rw [z3 30 (by decide)]; exact w1
          · rw [z3 31 (by decide)]; exact w2
          · rw [z3 32 (by decide)]; exact w3
          · rw [z3 33 (by decide)]; exact w4
          · rw [z3 34 (by decide)]; exact w5
          · rw [z3 35 (by decide)]; exact w6
          · rw [z4 k hk, eB k hk]; rfl
        · exact Or.inr ⟨a, b⟩
      · refine h Z _ r z1 hrz (Or.inl ⟨rdS_stay (vtS_stay (has_out ho) _), rdS_stay (vtS_stay ho _)⟩)
  unfold wb_M_valuePart_143
  refine ⟨by omega, vp_in_nI (by omega) (by decide), ?_⟩
  refine pk_le 3 (vvm p t) (fun q => has 0 (Or.inr ⟨rfl, fun w => ?_⟩)) (fun q => ?_) rfl rfl (by decide) (by unfold vvm; omega)
  · exact w.1 (by have : vvm p t < 4 := hm
                  omega)
  · refine ⟨vp_in_nI (by omega) (by decide), vp_in_nI (by omega) (by decide), ?_⟩
    refine pk_lt (vve p t) (vvb p t) (fun q2 => has 0 (Or.inr ⟨rfl, fun w => by omega⟩)) (fun q2 => ⟨vp_in_nI (by omega) (by decide), ?_⟩) rfl rfl (by unfold vve; omega) (by unfold vvb; omega)
    exact pk_le B (vvK p t) (fun q3 => has 0 (Or.inr ⟨rfl, fun w => by omega⟩)) (fun q3 => has 1 (Or.inl ⟨rfl, by omega, q2, q3⟩)) rfl rfl (by omega) (by unfold vvK; omega)
end MVLOAD
