-- a book is read
def bkd (p : PK) (s : RS) : Nat := rdV p 2 s + 1
def bkE (p : PK) (s : RS) : Nat := rdV p 3 (rdS p 2 s) + 1
def bk2 (p : PK) (s : RS) : RS := rdS p 3 (rdS p 2 s)
def bk3 (p : PK) (s : RS) : RS := rdS p 1 (bk2 p s)
def bkr (p : PK) (s : RS) : Bool := spB p (bk2 p s)
def bko (p : PK) (s : RS) : Bool := if bkr p s = true then (ordR p (bkE p s) (bk3 p s)).1 else true
def bkl (p : PK) (s : RS) : Nat → Nat := if bkr p s = true then (ordR p (bkE p s) (bk3 p s)).2.2 else plL p (bk3 p s)
def bk4 (p : PK) (s : RS) : RS := if bkr p s = true then (ordR p (bkE p s) (bk3 p s)).2.1 else plE p (bk3 p s) (bkE p s)
def bk5 (p : PK) (s : RS) : RS := vecS p (bkE p s) (bkd p s) (bk4 p s)
def bkO (p : PK) (s : RS) : Bool := bko p s && (vecO p (bk4 p s) && (!(bk5 p s).2 && wdO (bkl p s) (bkE p s)))
def bkD (p : PK) (s : RS) (cd : Nat → Nat) : BD := (bkE p s, bkd p s, bkl p s, cd, vecH p (bk4 p s), vecC p (bkE p s) (bkd p s) (bk4 p s))
section BOOK
variable {θ : TH} {V : VT} {U : UT} {sw : Bool} {p : PK} {s : RS} {k : Nat} {cd : Nat → Nat}
theorem bkl_le (e : Nat) : bkl p s e ≤ 8 := by
  unfold bkl; split
  · exact ordR_le e
  · exact plX_le
theorem bk3_ok (h : s.1 ≤ 8 * p.L) : (bk3 p s).1 ≤ 8 * p.L := rdS_ok _ (rdS_ok _ (rdS_ok _ h))
theorem bk4_ok (h : s.1 ≤ 8 * p.L) : (bk4 p s).1 ≤ 8 * p.L := by
  unfold bk4; split
  · exact ordR_ok (bk3_ok h)
  · exact plE_ok (bk3_ok h)
theorem itS_stay {w : Nat} (h : s.2 = true) : ∀ k, (itS p w s k).2 = true
  | 0 => h
  | k + 1 => rdS_stay (itS_stay h k)
theorem vecS_stay {E d : Nat} (h : s.2 = true) : (vecS p E d s).2 = true := by
  unfold vecS; split
  · exact rdS_stay h
  · exact itS_stay (rdS_stay (rdS_stay (rdS_stay (rdS_stay (rdS_stay h))))) _
theorem bkE_b : 1 ≤ bkE p s ∧ bkE p s ≤ 8 := by
  have := rdV_lt p 3 (rdS p 2 s)
  unfold bkE; omega
theorem bkd_b : 1 ≤ bkd p s ∧ bkd p s ≤ 4 := by
  have := rdV_lt p 2 s
  unfold bkd; omega
theorem bkD_ok (h : bkO p s = true) (hg : GRE (bkl p s) cd (bkE p s)) (hb : BUD (frc (bkl p s) cd (bkE p s)) (256 - krs (bkl p s) (bkE p s))) : BKP (bkD p s cd) := by
  have hw : wdO (bkl p s) (bkE p s) = true := by
    unfold bkO at h
    simp only [Bool.and_eq_true] at h
    exact h.2.2.2
  exact ⟨bkE_b.1, bkE_b.2, bkd_b.1, bkd_b.2, words_ok (fun e _ => bkl_le e) hw hg hb⟩
theorem s_book {K : Int32 → VT → UT → Prop} (hθ : OKt θ) (hU : US θ sw U) (hp : HP θ V p) (hk : k < 4) (hs : s.1 ≤ 8 * p.L) (hg : wdO (bkl p s) (bkE p s) = true → GRE (bkl p s) cd (bkE p s)) (h : ∀ W, (∀ q, q ≠ tb θ + 25 → (q < tb θ + (106 + 5 * k) ∨ tb θ + (110 + 5 * k) < q) → W q = V q) → (∀ j, j ≠ 5 → j ≠ 6 → W (tb θ + 25) j = V (tb θ + 25) j) → (bkO p s = true → BKC θ W k (bkD p s cd)) → K (bZ (bkO p s)) W U) : wp_B_load θ (tb θ + (106 + 5 * k)) (tb θ + 25) (cS θ V s) U K := by
  unfold wp_B_load
  simp only [bkU hθ hU hk, true_and]
  obtain ⟨e1, e8⟩ := bkE_b (p := p) (s := s)
  obtain ⟨d1, d4⟩ := bkd_b (p := p) (s := s)
  refine s_read hθ hU hp hs (k := 2) (by decide) ?_
  intro V6 h6
  rw [nI_1, cS_up (by omega)] at h6
  subst h6
  refine s_read hθ hU (hp.up (by omega) (by omega)) (rdS_ok 2 hs) (k := 3) (by decide) ?_
  intro V10 h10
  rw [nI_1, cS_up (by omega)] at h10
  subst h10
  have f1 : ∀ q, q ≠ tb θ + (106 + 5 * k) → up2 (up2 V (tb θ + (106 + 5 * k)) 1 (nI (rdV p 2 s + 1))) (tb θ + (106 + 5 * k)) 0 (nI (rdV p 3 (rdS p 2 s) + 1)) q = V q := fun q hq => by rw [up2_ne hq, up2_ne hq]
  have f2 : up2 (up2 V (tb θ + (106 + 5 * k)) 1 (nI (rdV p 2 s + 1))) (tb θ + (106 + 5 * k)) 0 (nI (rdV p 3 (rdS p 2 s) + 1)) (tb θ + (106 + 5 * k)) 0 = nI (bkE p s) := by rw [up2_aa]; rfl
  have f3 : up2 (up2 V (tb θ + (106 + 5 * k)) 1 (nI (rdV p 2 s + 1))) (tb θ + (106 + 5 * k)) 0 (nI (rdV p 3 (rdS p 2 s) + 1)) (tb θ + (106 + 5 * k)) 1 = nI (bkd p s) := by rw [up2_ab (by decide), up2_aa]; rfl
  generalize up2 (up2 V (tb θ + (106 + 5 * k)) 1 (nI (rdV p 2 s + 1))) (tb θ + (106 + 5 * k)) 0 (nI (rdV p 3 (rdS p 2 s) + 1)) = W0 at f1 f2 f3 ⊢
  have hp0 : HP θ W0 p := hp.eq (by rw [f1 _ (by omega)]) (f1 _ (by omega))
  refine s_flag hθ hU hp0 (rdS_ok 3 (rdS_ok 2 hs)) ?_
  -- after the lengths
  have tail : ∀ W, bko p s = true → FB W0 W (tb θ + (107 + 5 * k)) 0 8 → (∀ e, e < bkE p s → W (tb θ + (107 + 5 * k)) e = nI (bkl p s e)) → wb_B_load_50 θ (tb θ + (106 + 5 * k)) (tb θ + 25) K (cS θ W (bk4 p s)) U := by
    intro W hbo hF hW
    unfold wb_B_load_50 wb_B_load_76
    simp only [bkU hθ hU hk, true_and]
    have hpW : HP θ W p := hp0.eq (by rw [hF.1 _ (by omega)]) (hF.1 _ (by omega))
    refine s_vec hθ hU hpW hk (bk4_ok hs) e1 e8 d1 d4 (by rw [hF.1 _ (by omega)]; exact f2) (by rw [hF.1 _ (by omega)]; exact f3) (fun X x1 x2 x3 x4 => ?_)
    cases hvo : vecO p (bk4 p s)
    · have hO : bkO p s = false := by unfold bkO; rw [hvo]; simp
      rw [hO] at h
      refine ⟨fun _ => h _ (fun q a b => ?_) (fun j a b => ?_) (fun q => Bool.noConfusion q), fun q => absurd rfl q⟩
      · rw [cS_ne a, x1 q (by omega) (by omega) (by omega), hF.1 q (by omega), f1 q (by omega)]
      · rw [cS_j a b, x1 _ (by omega) (by omega) (by omega), hF.1 _ (by omega), f1 _ (by omega)]
    · refine ⟨fun q => absurd q (by decide), fun _ => ?_⟩
      rw [cS_6]
      show ((¬ bZ (bk5 p s).2 = 0 → _) ∧ (bZ (bk5 p s).2 = 0 → _))
      cases hout : (bk5 p s).2
      · refine ⟨fun q => absurd rfl q, fun _ => ?_⟩
        refine s_wds (ln := bkl p s) (cd := cd) hθ hU hk e8 ?_ (fun e he => ⟨?_, bkl_le e⟩) hg (fun Y y1 y2 y3 => ?_)
        · rw [cS_ne (by omega), x2 0 (by decide), hF.1 _ (by omega)]; exact f2
        · rw [cS_ne (by omega), x1 _ (by omega) (by omega) (by omega)]; exact hW e he
        · have hO : bkO p s = wdO (bkl p s) (bkE p s) := by unfold bkO; rw [hvo, hbo, hout]; simp
          rw [hO] at h
          have fin : K (bZ (wdO (bkl p s) (bkE p s))) Y U := by
            refine h Y (fun q a b => ?_) (fun j a b => ?_) (fun q => ?_)
            · rw [y1 q (by omega) (by omega), cS_ne a, x1 q (by omega) (by omega) (by omega), hF.1 q (by omega), f1 q (by omega)]
            · rw [y1 _ (by omega) (by omega), cS_j a b, x1 _ (by omega) (by omega) (by omega), hF.1 _ (by omega), f1 _ (by omega)]
            · obtain ⟨z1, z2⟩ := y3 q
              have y106 : ∀ j, j ≠ 4 → Y (tb θ + (106 + 5 * k)) j = X (tb θ + (106 + 5 * k)) j := fun j hj => by rw [y2 j hj, cS_ne (by omega)]
              refine ⟨?_, ?_, z2, z1, ?_, fun hh e i he hi => ?_⟩
              · rw [y106 0 (by decide), x2 0 (by decide), hF.1 _ (by omega)]; exact f2
              · rw [y106 1 (by decide), x2 1 (by decide), hF.1 _ (by omega)]; exact f3
              · rw [y106 5 (by decide)]; exact x3
              · rw [y1 _ (by omega) (by omega), cS_ne (by omega)]; exact x4 hh hvo e i he hi
          cases hw : wdO (bkl p s) (bkE p s)
          · rw [hw] at fin
            exact ⟨fun _ => fin, fun q => absurd rfl q⟩
          · rw [hw] at fin
            exact ⟨fun q => absurd q (by decide), fun _ => fin⟩
      · have hO : bkO p s = false := by unfold bkO; rw [hout]; simp
        rw [hO] at h
        refine ⟨fun _ => h _ (fun q a b => ?_) (fun j a b => ?_) (fun q => Bool.noConfusion q), fun q => absurd q (by decide)⟩
        · rw [cS_ne a, x1 q (by omega) (by omega) (by omega), hF.1 q (by omega), f1 q (by omega)]
        · rw [cS_j a b, x1 _ (by omega) (by omega) (by omega), hF.1 _ (by omega), f1 _ (by omega)]
  rcases rdV1 p (rdS p 3 (rdS p 2 s)) with z | z
  · have hr : bkr p s = false := by
      show decide _ = false; rw [show rdV p 1 (bk2 p s) = 0 from z]; rfl
    rw [z]
    refine ⟨fun _ => ?_, fun q => absurd rfl q⟩
    unfold wb_B_load_41
    simp only [bkU hθ hU hk, true_and]
    refine ⟨fun q => absurd rfl q, fun _ => s_lens (E := bkE p s) hθ hU hp0 hk (bk3_ok hs) e8 f2 (fun W hF hW => ?_)⟩
    have := tail W (by unfold bko; rw [hr]; rfl) hF (by unfold bkl; rw [hr]; exact hW)
    unfold bk4 at this
    rw [hr] at this
    exact this
  · have hr : bkr p s = true := by
      show decide _ = true; rw [show rdV p 1 (bk2 p s) = 1 from z]; rfl
    rw [z]
    refine ⟨fun q => absurd q (by decide), fun _ => s_ord (E := bkE p s) hθ hU hp0 hk (bk3_ok hs) e8 f2 (fun W hF hW => ?_)⟩
    have hbo : bko p s = (ordR p (bkE p s) (bk3 p s)).1 := by unfold bko; rw [if_pos hr]
    cases ho : (ordR p (bkE p s) (bk3 p s)).1
    · have hO : bkO p s = false := by unfold bkO; rw [hbo, ho]; simp
      rw [hO] at h
      refine ⟨fun q => absurd (bZ_0.2 ho) q, fun _ => h _ (fun q a b => ?_) (fun j a b => ?_) (fun q => Bool.noConfusion q)⟩
      · rw [cS_ne a, hF.1 q (by omega), f1 q (by omega)]
      · rw [cS_j a b, hF.1 _ (by omega), f1 _ (by omega)]
    · refine ⟨fun _ => ?_, fun q => Bool.noConfusion ((bZ_0.1 q).symm.trans ho)⟩
      unfold wb_B_load_41
      refine ⟨fun _ => ?_, fun q => absurd q (by decide)⟩
      have := tail W (by rw [hbo]; exact ho) hF (by unfold bkl; rw [if_pos hr]; exact hW ho)
      unfold bk4 at this
      rw [if_pos hr] at this
      exact this
end BOOK
