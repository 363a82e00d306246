-- the next entry of a book
def fst1 (P : Nat → Bool) : Nat → Nat → Option Nat
  | 0, _ => none
  | n + 1, e => if P e = true then some e else fst1 P n (e + 1)
def hit (b : BD) (l v e : Nat) : Bool := (decide (cnU b.ln b.E = 1) && decide (0 < b.ln e)) || (decide (b.ln e = l) && decide (b.cd e = v))
def pkF (p : PK) (b : BD) : Nat → Nat → RS → Option Nat × RS
  | 0, _, s => (none, s)
  | m + 1, v, s => if (rdS p 1 s).2 = true then (none, rdS p 1 s) else match fst1 (hit b (8 - m) (2 * v + rdV p 1 s)) b.E 0 with
    | some e => (some e, rdS p 1 s)
    | none => pkF p b m (2 * v + rdV p 1 s) (rdS p 1 s)
def pkR (p : PK) (b : BD) (s : RS) : Option Nat × RS := pkF p b 8 0 s
def lstU (ln : Nat → Nat) : Nat → Nat
  | 0 => 0
  | k + 1 => if 0 < ln k then k else lstU ln k
theorem fst1_none {P : Nat → Bool} : ∀ {n e : Nat}, fst1 P n e = none → ∀ j, e ≤ j → j < e + n → P j = false
  | 0, e, _, j, h1, h2 => by omega
  | n + 1, e, h, j, h1, h2 => by
    unfold fst1 at h
    split at h
    · cases h
    · rename_i q
      by_cases hj : j = e
      · subst hj
        cases hp : P j
        · rfl
        · exact absurd hp q
      · exact fst1_none h j (by omega) (by omega)
theorem fst1_some {P : Nat → Bool} : ∀ {n e r : Nat}, fst1 P n e = some r → e ≤ r ∧ r < e + n ∧ P r = true
  | 0, e, r, h => by cases h
  | n + 1, e, r, h => by
    unfold fst1 at h
    split at h
    · rename_i q
      cases h
      exact ⟨Nat.le_refl _, by omega, q⟩
    · have := fst1_some h
      exact ⟨by omega, by omega, this.2.2⟩
theorem fst1_eq {P : Nat → Bool} : ∀ {n e r : Nat}, e ≤ r → r < e + n → P r = true → (∀ j, e ≤ j → j < r → P j = false) → fst1 P n e = some r
  | 0, e, r, h1, h2, h3, h4 => by omega
  | n + 1, e, r, h1, h2, h3, h4 => by
    unfold fst1
    by_cases he : e = r
    · subst he; rw [if_pos h3]
    · rw [h4 e (Nat.le_refl _) (by omega), if_neg (by decide)]
      exact fst1_eq (by omega) (by omega) h3 (fun j a b => h4 j (by omega) b)
theorem cnU_0 {ln : Nat → Nat} : ∀ {k : Nat}, cnU ln k = 0 → ∀ j, j < k → ln j = 0
  | 0, _, j, hj => by omega
  | k + 1, h, j, hj => by
    have h' : cnU ln k + (if 0 < ln k then 1 else 0) = 0 := h
    by_cases hk : 0 < ln k
    · rw [if_pos hk] at h'; omega
    · rw [if_neg hk] at h'
      by_cases e : j = k
      · subst e; omega
      · exact cnU_0 (k := k) (by omega) j (by omega)
theorem cnU_1 {ln : Nat → Nat} : ∀ {k : Nat}, cnU ln k = 1 → lstU ln k < k ∧ 0 < ln (lstU ln k) ∧ ∀ j, j < k → 0 < ln j → j = lstU ln k
  | 0, h => by cases h
  | k + 1, h => by
    have h' : cnU ln k + (if 0 < ln k then 1 else 0) = 1 := h
    unfold lstU
    by_cases hk : 0 < ln k
    · rw [if_pos hk] at h'
      have h0 := cnU_0 (show cnU ln k = 0 by omega)
      rw [if_pos hk]
      refine ⟨by omega, hk, fun j hj hp => ?_⟩
      by_cases e : j = k
      · exact e
      · have := h0 j (by omega); omega
    · rw [if_neg hk] at h'
      obtain ⟨a, b, c⟩ := cnU_1 (show cnU ln k = 1 by omega)
      rw [if_neg hk]
      refine ⟨by omega, b, fun j hj hp => ?_⟩
      by_cases e : j = k
      · subst e; exact absurd hp hk
      · exact c j (by omega) hp
theorem cnU_le (ln : Nat → Nat) : ∀ k, cnU ln k ≤ k
  | 0 => Nat.le_refl _
  | k + 1 => by
    have := cnU_le ln k
    show cnU ln k + (if 0 < ln k then 1 else 0) ≤ k + 1
    split <;> omega
section PICK
variable {θ : TH} {V : VT} {U : UT} {sw : Bool} {p : PK} {s : RS} {b : BD} {k : Nat}
theorem pkF_ok : ∀ {m v : Nat} {s : RS}, s.1 ≤ 8 * p.L → (pkF p b m v s).2.1 ≤ 8 * p.L
  | 0, v, s, h => h
  | m + 1, v, s, h => by
    have h1 := rdS_ok 1 h
    unfold pkF
    split
    · exact h1
    · split
      · exact h1
      · exact pkF_ok h1
theorem pkR_ok (h : s.1 ≤ 8 * p.L) : (pkR p b s).2.1 ≤ 8 * p.L := pkF_ok h
theorem pkF_some : ∀ {m v : Nat} {s : RS} {e : Nat}, (pkF p b m v s).1 = some e → e < b.E ∧ (pkF p b m v s).2.2 = false
  | 0, v, s, e, h => by cases h
  | m + 1, v, s, e, h => by
    unfold pkF at h ⊢
    split at h
    · cases h
    · rename_i q
      rw [if_neg q]
      split at h
      · rename_i r hr
        cases h
        have := fst1_some hr
        exact ⟨by omega, by simpa using q⟩
      · exact pkF_some h
theorem pkR_some {e : Nat} (h : (pkR p b s).1 = some e) : e < b.E ∧ (pkR p b s).2.2 = false := pkF_some h
theorem pkR_out (h : s.2 = true) : pkR p b s = (none, s) := by
  unfold pkR pkF
  rw [rdS_out h, if_pos h]
theorem hit_no {l v e : Nat} (h : hit b l v e = false) : (cnU b.ln b.E = 1 → b.ln e = 0) ∧ (b.ln e = l → b.cd e ≠ v) := by
  unfold hit at h
  simp only [Bool.or_eq_false_iff, Bool.and_eq_false_imp, decide_eq_true_eq, decide_eq_false_iff_not] at h
  exact ⟨fun q => by have := h.1 q; omega, h.2⟩
theorem pkF_none (hb : BKP b) : ∀ {m v : Nat} {s : RS}, m ≤ 8 → v < 2 ^ (8 - m) → (∀ l, 1 ≤ l → l ≤ 8 - m → ∀ e, e < b.E → hit b l (v / 2 ^ (8 - m - l)) e = false) → (pkF p b m v s).1 = none → (pkF p b m v s).2.2 = true
  | 0, v, s, hm, hv, hno, h => by
    exfalso
    obtain ⟨e1, e8, _, _, hw, hc⟩ := hb
    rcases hc with hc | hc
    · obtain ⟨q1, q2, q3⟩ := cnU_1 hc
      have := (hit_no (hno 1 (by decide) (by decide) _ q1)).1 hc
      omega
    · obtain ⟨e, x1, x2, x3⟩ := hc v hv
      exact (hit_no (hno (b.ln e) x2 (hw e x1).1 e x1)).2 rfl x3.symm
  | m + 1, v, s, hm, hv, hno, h => by
    unfold pkF at h ⊢
    split at h
    · rename_i q; rw [if_pos q]; exact q
    · rename_i q
      rw [if_neg q]
      split at h
      · cases h
      · rename_i hr
        have hl := rdV_lt p 1 s
        have e2 : 2 ^ (8 - m) = 2 * 2 ^ (8 - (m + 1)) := by
          rw [show 8 - m = (8 - (m + 1)) + 1 by omega, Nat.pow_succ]; omega
        refine pkF_none hb (by omega) (by omega) (fun l l1 l2 e he => ?_) h
        by_cases hl8 : l = 8 - m
        · subst hl8
          rw [Nat.sub_self, Nat.pow_zero, Nat.div_one]
          exact fst1_none hr e (by omega) (by omega)
        · have := hno l l1 (by omega) e he
          rw [show 8 - m - l = 1 + (8 - (m + 1) - l) by omega, Nat.pow_add, ← Nat.div_div_eq_div_mul, show (2 * v + rdV p 1 s) / 2 ^ 1 = v by omega]
          exact this
theorem pkR_none (hb : BKP b) (h : (pkR p b s).1 = none) : (pkR p b s).2.2 = true := by
  refine pkF_none hb (by decide) (by decide) (fun l l1 l2 => ?_) h
  omega
theorem bkU (hθ : OKt θ) (hU : US θ sw U) (hk : k < 4) : isO θ (tb θ + (106 + 5 * k)) 8 ∧ U (tb θ + (106 + 5 * k)) 2 = tb θ + (107 + 5 * k) ∧ U (tb θ + (106 + 5 * k)) 3 = tb θ + (108 + 5 * k) ∧ U (tb θ + (106 + 5 * k)) 6 = tb θ + (109 + 5 * k) ∧ U (tb θ + (106 + 5 * k)) 7 = tb θ + (110 + 5 * k) ∧ (∀ m, isA θ (tb θ + (107 + 5 * k)) 0 m ↔ m = 8) ∧ (∀ m, isA θ (tb θ + (108 + 5 * k)) 0 m ↔ m = 8) ∧ (∀ m, isA θ (tb θ + (109 + 5 * k)) 0 m ↔ m = 32) ∧ (∀ m, isA θ (tb θ + (110 + 5 * k)) 0 m ↔ m = 32) ∧ U (tb θ + 67) k = tb θ + (106 + 5 * k) ∧ isO θ (tb θ + 25) 7 := by
  have h4 : k = 0 ∨ k = 1 ∨ k = 2 ∨ k = 3 := by omega
  rcases h4 with rfl | rfl | rfl | rfl
  · exact ⟨kO hθ (by decide) rfl, uq hU (by cases sw <;> decide +kernel), uq hU (by cases sw <;> decide +kernel), uq hU (by cases sw <;> decide +kernel), uq hU (by cases sw <;> decide +kernel), kA hθ (by decide) rfl, kA hθ (by decide) rfl, kA hθ (by decide) rfl, kA hθ (by decide) rfl, uq hU (by cases sw <;> decide +kernel), kO hθ (by decide) rfl⟩
  · exact ⟨kO hθ (by decide) rfl, uq hU (by cases sw <;> decide +kernel), uq hU (by cases sw <;> decide +kernel), uq hU (by cases sw <;> decide +kernel), uq hU (by cases sw <;> decide +kernel), kA hθ (by decide) rfl, kA hθ (by decide) rfl, kA hθ (by decide) rfl, kA hθ (by decide) rfl, uq hU (by cases sw <;> decide +kernel), kO hθ (by decide) rfl⟩
  · exact ⟨kO hθ (by decide) rfl, uq hU (by cases sw <;> decide +kernel), uq hU (by cases sw <;> decide +kernel), uq hU (by cases sw <;> decide +kernel), uq hU (by cases sw <;> decide +kernel), kA hθ (by decide) rfl, kA hθ (by decide) rfl, kA hθ (by decide) rfl, kA hθ (by decide) rfl, uq hU (by cases sw <;> decide +kernel), kO hθ (by decide) rfl⟩
  · exact ⟨kO hθ (by decide) rfl, uq hU (by cases sw <;> decide +kernel), uq hU (by cases sw <;> decide +kernel), uq hU (by cases sw <;> decide +kernel), uq hU (by cases sw <;> decide +kernel), kA hθ (by decide) rfl, kA hθ (by decide) rfl, kA hθ (by decide) rfl, kA hθ (by decide) rfl, uq hU (by cases sw <;> decide +kernel), kO hθ (by decide) rfl⟩
theorem pw_inj {a c l v : Nat} (h1 : c < 2 ^ a) (h2 : v < 2 ^ l) (h : 2 ^ a + c = 2 ^ l + v) : a = l ∧ c = v := by
  rcases Nat.lt_trichotomy a l with q | q | q
  · have := p2lt q; omega
  · subst q; exact ⟨rfl, by omega⟩
  · have := p2lt q; omega
theorem s_pick {K : Int32 → VT → UT → Prop} (hθ : OKt θ) (hU : US θ sw U) (hp : HP θ V p) (hk : k < 4) (hb : BKP b) (hc : BKC θ V k b) (hs : s.1 ≤ 8 * p.L) (h : K (nO (pkR p b s).1) (cS θ V (pkR p b s).2) U) : wp_B_readEntry θ (tb θ + (106 + 5 * k)) (tb θ + 25) (cS θ V s) U K := by
  obtain ⟨b1, b2, b3, b4, hw, _⟩ := hb
  obtain ⟨c1, c2, c3, c4, c5, c6⟩ := hc
  have hcn := cnU_le b.ln b.E
  have key : ∀ m v s, m ≤ 8 → v < 2 ^ (8 - m) → s.1 ≤ 8 * p.L → K (nO (pkF p b m v s).1) (cS θ V (pkF p b m v s).2) U → wl_B_readEntry_4 θ (tb θ + (106 + 5 * k)) (tb θ + 25) K (m + 1) (nI (2 ^ (8 - m) + v)) (nI (8 - m)) (cS θ V s) U := by
    intro m
    induction m with
    | zero =>
      intro v s hm hv hs h
      show bl_B_readEntry_4 _ _ _ _ _ _ _ _ _
      unfold bl_B_readEntry_4
      exact br_t (by decide) h
    | succ m ih =>
      intro v s hm hv hs h
      show bl_B_readEntry_4 _ _ _ _ _ _ _ _ _
      unfold bl_B_readEntry_4
      simp only [bkU hθ hU hk, true_and]
      refine br_f (nI_ge (a := 8 - (m + 1)) (b := 8) (by omega) (by decide)) ?_
      refine s_read hθ hU hp hs (k := 1) (by decide) ?_
      intro y hy
      have hl := rdV_lt p 1 s
      have hpw : 2 ^ (8 - (m + 1)) ≤ 2 ^ 7 := p2le (by omega)
      have e2 : 2 ^ (8 - m) = 2 * 2 ^ (8 - (m + 1)) := by
        rw [show 8 - m = (8 - (m + 1)) + 1 by omega, Nat.pow_succ]; omega
      have ey : y = nI (2 ^ (8 - m) + (2 * v + rdV p 1 s)) := by
        rw [hy, pk_shlN _ 1 (by decide) (by omega), or_add (k := 1) (by omega) (by omega) (by omega)]
        congr 1; omega
      rw [ey, cS_6]
      have hm8 : 2 ^ (8 - m) ≤ 2 ^ 8 := p2le (by omega)
      unfold pkF at h
      by_cases ho : (rdS p 1 s).2 = true
      · rw [if_pos ho] at h
        exact ⟨fun q => absurd (bZ_0.1 q) (by rw [ho]; decide), fun _ => h⟩
      · rw [if_neg ho] at h
        have hof : (rdS p 1 s).2 = false := by simpa using ho
        refine ⟨fun _ => ?_, fun q => absurd (bZ_0.2 hof) q⟩
        have inner : ∀ n e, e + n = b.E → (K (nO (match fst1 (hit b (8 - m) (2 * v + rdV p 1 s)) n e with
            | some e => (some e, rdS p 1 s)
            | none => pkF p b m (2 * v + rdV p 1 s) (rdS p 1 s)).1) (cS θ V (match fst1 (hit b (8 - m) (2 * v + rdV p 1 s)) n e with
            | some e => (some e, rdS p 1 s)
            | none => pkF p b m (2 * v + rdV p 1 s) (rdS p 1 s)).2) U) → wl_B_readEntry_32 θ (tb θ + (106 + 5 * k)) (tb θ + 25) (nI (2 ^ (8 - m) + (2 * v + rdV p 1 s))) (nI (8 - (m + 1))) (wl_B_readEntry_4 θ (tb θ + (106 + 5 * k)) (tb θ + 25) K (m + 1)) K (n + 1) (nI e) (cS θ V (rdS p 1 s)) U := by
          intro n
          induction n with
          | zero =>
            intro e he h
            show bl_B_readEntry_32 _ _ _ _ _ _ _ _ _ _ _
            unfold bl_B_readEntry_32
            simp only [bkU hθ hU hk, true_and]
            rw [cS_ne (show tb θ + (106 + 5 * k) ≠ tb θ + 25 by omega), c1]
            refine br_t (nI_le (by omega) (by omega)) (fun y hy => ?_)
            rw [hy, nI_1, show 8 - (m + 1) + 1 = 8 - m by omega]
            exact ih _ _ (by omega) (by omega) (rdS_ok 1 hs) h
          | succ n ihn =>
            intro e he h
            show bl_B_readEntry_32 _ _ _ _ _ _ _ _ _ _ _
            unfold bl_B_readEntry_32
            unfold wb_B_readEntry_63 wb_B_readEntry_64
            simp only [bkU hθ hU hk, true_and, exists_eq_left]
            rw [cS_ne (show tb θ + (106 + 5 * k) ≠ tb θ + 25 by omega), c1, c4, cS_ne (show tb θ + (108 + 5 * k) ≠ tb θ + 25 by omega), nI_clamp (show e < 2 ^ 31 by omega), c3 e (by omega)]
            have hin : vp_in (nI e) 8 := vp_in_nI (by omega) (by decide)
            have hnz : ¬ tb θ + (108 + 5 * k) = 0 := by omega
            obtain ⟨hw1, hw2⟩ := hw e (by omega)
            refine br_f (nI_ge (by omega) (by omega)) ?_
            unfold fst1 at h
            have go : hit b (8 - m) (2 * v + rdV p 1 s) e = false → ∀ y : Int32, y = nI e + 1 → wl_B_readEntry_32 θ (tb θ + (106 + 5 * k)) (tb θ + 25) (nI (2 ^ (8 - m) + (2 * v + rdV p 1 s))) (nI (8 - (m + 1))) (wl_B_readEntry_4 θ (tb θ + (106 + 5 * k)) (tb θ + 25) K (m + 1)) K (n + 1) y (cS θ V (rdS p 1 s)) U := by
              intro hh y hy
              rw [hh] at h
              rw [hy, nI_1]
              exact ihn (e + 1) (by omega) h
            have yes : hit b (8 - m) (2 * v + rdV p 1 s) e = true → K (nI e) (cS θ V (rdS p 1 s)) U := by
              intro hh
              rw [hh] at h
              exact h
            have hm0 : (if b.ln e = 0 then 0 else nI (2 ^ b.ln e + b.cd e)) = 0 ↔ b.ln e = 0 := by
              constructor
              · intro q
                by_cases z : b.ln e = 0
                · exact z
                · rw [if_neg z] at q
                  have := hw2 (by omega)
                  have := p2le hw1
                  have := p2pos (b.ln e)
                  exact absurd q (nI_ne0 (by omega) (by omega))
              · intro z; rw [if_pos z]
            have hme : (if b.ln e = 0 then 0 else nI (2 ^ b.ln e + b.cd e)) = nI (2 ^ (8 - m) + (2 * v + rdV p 1 s)) ↔ (b.ln e = 8 - m ∧ b.cd e = 2 * v + rdV p 1 s) := by
              have hpp := p2pos (8 - m)
              by_cases z : b.ln e = 0
              · rw [if_pos z]
                constructor
                · intro q; exact absurd q.symm (nI_ne0 (by omega) (by omega))
                · intro q; omega
              · rw [if_neg z]
                have x1 := hw2 (by omega)
                have x2 := p2le hw1
                rw [nI_eq (by omega) (by omega)]
                constructor
                · intro q; exact pw_inj x1 (by omega) q
                · intro ⟨q1, q2⟩; rw [q1, q2]
            have second : ∀ (hnot : hit b (8 - m) (2 * v + rdV p 1 s) e = true → (b.ln e = 8 - m ∧ b.cd e = 2 * v + rdV p 1 s)), (¬ tb θ + (108 + 5 * k) = 0 ∧ vp_in (nI e) 8 ∧ ((¬ (if b.ln e = 0 then 0 else nI (2 ^ b.ln e + b.cd e)) = nI (2 ^ (8 - m) + (2 * v + rdV p 1 s)) → ∀ y : Int32, y = nI e + 1 → wl_B_readEntry_32 θ (tb θ + (106 + 5 * k)) (tb θ + 25) (nI (2 ^ (8 - m) + (2 * v + rdV p 1 s))) (nI (8 - (m + 1))) (wl_B_readEntry_4 θ (tb θ + (106 + 5 * k)) (tb θ + 25) K (m + 1)) K (n + 1) y (cS θ V (rdS p 1 s)) U) ∧ ((if b.ln e = 0 then 0 else nI (2 ^ b.ln e + b.cd e)) = nI (2 ^ (8 - m) + (2 * v + rdV p 1 s)) → K (nI e) (cS θ V (rdS p 1 s)) U))) := by
              intro hnot
              refine ⟨hnz, hin, fun q => ?_, fun q => ?_⟩
              · refine go ?_
                cases hh : hit b (8 - m) (2 * v + rdV p 1 s) e
                · rfl
                · exact absurd (hme.2 (hnot hh)) q
              · refine yes ?_
                obtain ⟨q1, q2⟩ := hme.1 q
                simp [hit, q1, q2]
            refine ⟨fun q1 => ⟨fun q => absurd trivial q, fun _ => ?_⟩, fun q1 => ⟨hnz, hin, fun q2 => ⟨fun q => absurd trivial q, fun _ => ?_⟩, fun q2 => ⟨fun _ => ?_, fun q => absurd q (by decide)⟩⟩⟩
            · refine second (fun hh => ?_)
              have : ¬ cnU b.ln b.E = 1 := fun z => q1 (by rw [z]; rfl)
              simpa [hit, this] using hh
            · refine second (fun hh => ?_)
              have := hm0.1 q2
              simpa [hit, this] using hh
            · refine yes ?_
              have z : cnU b.ln b.E = 1 := (nI_eq (by omega) (by decide)).1 q1
              have z2 : 0 < b.ln e := by
                have := mt hm0.2 q2
                omega
              simp [hit, z, z2]
        exact ⟨_, inner b.E 0 (by omega) h⟩
  exact ⟨9, key 8 0 s (by decide) (by decide) hs h⟩
end PICK
