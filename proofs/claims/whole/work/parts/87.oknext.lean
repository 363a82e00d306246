section OKNEXT
variable {θ : TH} {sw : Bool} {U : UT} {V V1 V2 : VT} {n r : Nat} {w : Nat → Nat} {S : ST} {se k g : Nat} {D : DT} {pg : PG} {l : List PG}
theorem sto_page (hG : GS pg.pl S) (hP : PGok w r pg) : stoE (pgS pg S).ev ≤ pgA pg pg.n := by
  have hA := pgA_0 pg pg.n
  obtain ⟨P1, P2, -⟩ := hP
  cases hf : fndS (newS S) pg.se with
  | none => rw [pg_none hf]; exact Nat.zero_le _
  | some k =>
    rw [pg_some hf]
    obtain ⟨hk3, hkn⟩ := fnd_facts.1 hf
    have hkn' : S.kn k = none ∨ S.kn k = some pg.se := by
      rcases hkn with h | h
      · exact Or.inr h
      · exact Or.inl h.1
    obtain ⟨e1, e2, e3, e4, e5⟩ := ent_facts (S := newS S) (k := k) (se := pg.se) (fl := pg.fl) (no := pg.no) hkn'
    obtain ⟨c1, c2, c3, c4, c5⟩ := cut_facts (pg := pg) (k := k) (S := entS k pg.se pg.fl pg.no (newS S))
    have hs := run_sto (pg := pg) (k := k) (fr := (cutS pg k (entS k pg.se pg.fl pg.no (newS S))).2) (S := (cutS pg k (entS k pg.se pg.fl pg.no (newS S))).1) pg.n (fun j hj => (P2 j hj).2)
    rw [c2, ent_sto] at hs
    have hun := hG.2.1 k hk3
    have : ((newS S).un k).length = (S.un k).length := rfl
    have hm : stoE (midS pg k S).ev ≤ pgA pg pg.n := by
      have : midS pg k S = runS pg k (cutS pg k (entS k pg.se pg.fl pg.no (newS S))).2 pg.n (cutS pg k (entS k pg.se pg.fl pg.no (newS S))).1 := rfl
      rw [this]; omega
    unfold lastS
    split
    · show stoE ((dropS k (midS pg k S)).ev ++ [_]) ≤ _
      rw [stoE_app, drop_kn.2.2.2]; exact hm
    · exact hm
theorem PLk.sto : ∀ {l : List PG} {a r : Nat} {S0 : ST}, GS a S0 → stoE S0.ev ≤ a → PLk w a l r → stoE (l.foldl (fun S pg => pgS pg S) S0).ev ≤ r
  | [], a, r, S0, hG, hs, h => Nat.le_trans hs (show a ≤ r from h)
  | pg :: l, a, r, S0, hG, hs, h => by
    obtain ⟨h1, h2, h3⟩ := h
    show stoE (l.foldl (fun S pg => pgS pg S) (pgS pg S0)).ev ≤ r
    exact PLk.sto (GS_page (hG.mono h1) h2) (sto_page (hG.mono h1) h2) h3
theorem sto_take : ∀ (l : List EV) (j : Nat), j < l.length → (l.getD j ev0).kd = 3 → stoE (l.take j) + (l.getD j ev0).am ≤ stoE l
  | [], j, hj, _ => absurd hj (by simp)
  | x :: l, 0, hj, hk => by
    have hk : x.kd = 3 := hk
    show 0 + x.am ≤ (if x.kd = 3 then x.am else 0) + stoE l
    rw [if_pos hk]; omega
  | x :: l, j + 1, hj, hk => by
    have := sto_take l j (by simpa using hj) hk
    show (if x.kd = 3 then x.am else 0) + stoE (l.take j) + (l.getD j ev0).am ≤ (if x.kd = 3 then x.am else 0) + stoE l
    omega
theorem RCI.eq (h : RCI θ V n r w l g) (he : ∀ q, q < tb θ + 66 → V2 q = V q) : RCI θ V2 n r w l g := by
  obtain ⟨h1, h2, ⟨se, h3, h3'⟩, h4, h5⟩ := h
  have hgood := (PLk.good st0_good h2).2
  refine ⟨?_, h2, ⟨se, h3.eq (fun q a b => he q b) (by rw [he _ (by omega)]) (by rw [he _ (by omega)]) hgood.2.2, h3'⟩, by rw [he _ (by omega)]; exact h4, h5⟩
  unfold WV at h1 ⊢
  rw [he _ (by omega), he _ (by omega)]; exact h1
theorem RMI.eq (h : RMI θ V n r w l g) (he : ∀ q, tb θ + 126 ≤ q → V2 q = V q) : RMI θ V2 n r w l g := by
  obtain ⟨h1, h2, h3, h4, h5, h6, h7, h8, h9⟩ := h
  refine ⟨?_, h2, by rw [he _ (by omega)]; exact h3, by rw [he _ (by omega)]; exact h4, by rw [he _ (by omega)]; exact h5, by rw [he _ (by omega)]; exact h6, by rw [he _ (by omega)]; exact h7, ?_, h9⟩
  · unfold WM at h1 ⊢
    rw [he _ (by omega), he _ (by omega)]; exact h1
  · unfold MEs MEv at h8 ⊢
    rw [he _ (by omega), he _ (by omega), he _ (by omega), he _ (by omega), he _ (by omega), he _ (by omega)]; exact h8
theorem mkI {h : Nat} {hb : Nat → Nat} (hU : US θ sw U) (hc : RCI θ V n r w l g) (hm : RMI θ V n r w l g) (hH : HD θ V h hb) (hO : ∀ k, k < 4 → OI θ V k) (hL : LTR θ V) (hN : HND θ V) (hd : D V sw) : IW θ (RR θ D) V U := by
  obtain ⟨c1, c2, c3, c4, c5⟩ := hc
  obtain ⟨m1, m2, m3, m4, m5, m6, m7, m8, m9⟩ := hm
  have := c1.2.1
  have := c1.2.2.2.1
  exact ⟨sw, n, r, w, h, hb, hU, c1, m1, hH, hO, ⟨l, g, c2, by omega, c3, c4, c5, m3, m4, m5, m6, m7, m8⟩, hL, hN, hd⟩
theorem ok_next (hθ : OKt θ) (hD : DG θ D) : OP_next θ (IW θ (RR θ D)) := by
  intro V U Kc hI hk
  obtain ⟨sw, n, r, w, h, hb, hU, hWV, hWM, hH, hO, hR, hLT, hHN, hd⟩ := hI
  obtain ⟨l, g, h1, h2, h3, h4, h5, h6, h7, h8, h9, h10, h11⟩ := hR
  have hRC : RCI θ V n r w l g := ⟨hWV, h1, h3, h4, h5⟩
  have hRM : RMI θ V n r w l g := ⟨hWM, h1, h6, h7, h8, h9, h10, h11, h5⟩
  have hn := hWV.2.1
  -- the writer's and the other shares, over a store with these cells kept
  have keepO : ∀ V3 : VT, (∀ q, tb θ + 5 ≤ q → q < tb θ + 25 → V3 q = V q) → (∀ q, tb θ + 129 ≤ q → q ≤ tb θ + 135 → V3 q = V q) → ∀ k, k < 4 → OI θ V3 k := fun V3 a b => OI.all hO a b
  unfold wp_S_next
  simp only [UC hU, IC hθ, true_and]
  refine ⟨by omega, 72, ?_⟩
  refine s_adv hθ hU 72 0 l r g V (by decide) (by omega) hRC ?_ ?_ ?_
  · -- an event
    intro l2 r2 g2 V2 hx fa i2 hlt
    have i2' := i2
    obtain ⟨c1, c2, ⟨se, c3, c3'⟩, c4, c5⟩ := i2
    have hgood := (PLk.good st0_good c2).2
    have hr2 := c1.2.2.2.1
    have hpb := PLk.pb st0_good st0_pb c2 (by omega : r2 ≤ 1000)
    have hsto := PLk.sto (w := w) st0_good (Nat.zero_le _) c2
    have hlen := PLk.le c2
    have hmem : (fdS l2).ev.getD g2 ev0 ∈ (fdS l2).ev := by
      rw [List.getD_eq_getElem?_getD, List.getElem?_eq_getElem hlt]; exact List.getElem_mem hlt
    have hev := hpb.2 _ hmem
    have hg8 : g2 < 8 := by have := hgood.2.2; have : (fdS l2).ev.length ≤ 8 := this; omega
    have hCE := c3.2.2.2 g2 hlt
    have hl2 : 0 < l2.length := by
      cases l2 with
      | nil => exact absurd hlt (by show ¬ g2 < ([] : List EV).length; simp)
      | cons x y => exact Nat.succ_pos _
    have hlast : l2.getLast? = some (l2.getD (l2.length - 1) pg0) := by
      rw [List.getLast?_eq_getElem?, List.getD_eq_getElem?_getD, List.getElem?_eq_getElem (by omega)]; rfl
    have hPl := ((PLk.good st0_good c2).1 (l2.length - 1) (by omega)).2
    have hAl := pgA_0 (l2.getD (l2.length - 1) pg0) (l2.getD (l2.length - 1) pg0).n
    have hPA := hPl.2.2.2.2.2.2.2.2.2.2
    have hse : w ((l2.getD (l2.length - 1) pg0).pl + 5) = se := by rw [hPl.2.2.2.1]; exact c3' _ hlast
    generalize he : (fdS l2).ev.getD g2 ev0 = e at *
    refine s_give hθ hU c1 hg8 c4 hCE hev (fun V3 p1 p2 p3 p4 p5 p6 p7 p8 => hk _ _ _ (fun Kf hf => ?_))
    have hRM3 : RMI θ V3 n r w l g := hRM.eq (fun q hq => by rw [p1 q (by omega) (by omega) (by omega) (by omega), fa q (by omega)])
    refine ⟨72, m_nxt hθ hU 72 0 l r g V3 (by decide) (by omega) hRM3 ?_ ?_ ?_⟩
    · intro l3 r3 g3 V4 hx3 fn i3 hlt3
      obtain ⟨rfl, rfl, rfl, -⟩ := NXR_uniq hx hx3
      have i3' := i3
      obtain ⟨m1, m2, m3, m4, m5, m6, m7, m8, m9⟩ := i3
      have hME := m8 g2 hlt
      rw [he] at hME
      refine m_give (st := stoE ((fdS l2).ev.take g2)) (m := l2.length) (p := (l2.getD (l2.length - 1) pg0).pl) hθ hU m1 hg8 m5 hME (fun hk3 => ?_) hev m3 hl2 (by omega) (m4 _ (by omega)) (by omega) (fun V5 q1 q2 q3 q4 q5 q6 q7 q8 => ?_)
      · have := sto_take (fdS l2).ev g2 hlt (by rw [he]; exact hk3)
        rw [he] at this
        have hsto : stoE (fdS l2).ev ≤ r2 := hsto
        omega
      · -- all shares again
        have cls : ∀ q, q < tb θ + 126 → V5 q = V3 q := fun q hq => by rw [q1 q (by omega) (by omega), fn.1 q (by omega) (by omega)]
        have clsV : ∀ q, q < tb θ + 126 → q ≠ tb θ + 25 → q ≠ tb θ + 26 → q ≠ tb θ + 27 → q ≠ tb θ + 30 → V5 q = V2 q := fun q hq a b c d => by rw [cls q hq, p1 q a b c d]
        have hi : ∀ q, tb θ + 128 ≤ q → (q < tb θ + 136 ∨ tb θ + 149 < q) → V5 q = V q := fun q hq hq2 => by
          rw [q1 q (by omega) (by omega), fn.1 q (by omega) (by omega), p1 q (by omega) (by omega) (by omega) (by omega), fa q (by omega)]
        have h126 : ∀ j, j ≠ 2 → j ≠ 13 → j ≠ 14 → j ≠ 21 → j ≠ 22 → j ≠ 29 → j ≠ 30 → j ≠ 31 → j ≠ 32 → j ≠ 33 → j ≠ 34 → j ≠ 36 → j ≠ 37 → j ≠ 38 → V5 (tb θ + 126) j = V (tb θ + 126) j := fun j a1 a2 a3 a4 a5 a6 a7 a8 a9 b1 b2 b3 b4 b5 => by
          rw [q2 j a3 a7 a8 a9 b1 b2 b3 b4 b5, fn.2 j a1 a2 a3 a4 a5 a6, p1 _ (by omega) (by omega) (by omega) (by omega), fa _ (by omega)]
        have hRC5 : RCI θ V5 n r2 w l2 (g2 + 1) := by
          refine ⟨?_, c2, ⟨se, c3.eq (fun q a b => clsV q (by omega) (by omega) (by omega) (by omega) (by omega)) (by rw [cls _ (by omega), p2 4 (by decide)]) (by rw [cls _ (by omega), p2 7 (by decide)]) hgood.2.2, c3'⟩, by rw [cls _ (by omega)]; exact p3, hlt⟩
          unfold WV at c1 ⊢
          rw [clsV _ (by omega) (by omega) (by omega) (by omega) (by omega), clsV _ (by omega) (by omega) (by omega) (by omega) (by omega)]; exact c1
        have hRM5 : RMI θ V5 n r2 w l2 (g2 + 1) := by
          refine ⟨?_, c2, ?_, fun j hj => ?_, q3, ?_, ?_, ?_, hlt⟩
          · unfold WM at m1 ⊢
            rw [q2 1 (by decide) (by decide) (by decide) (by decide) (by decide) (by decide) (by decide) (by decide) (by decide), q2 2 (by decide) (by decide) (by decide) (by decide) (by decide) (by decide) (by decide) (by decide) (by decide), q1 (tb θ + 127) (by omega) (by omega)]; exact m1
          · rw [q2 13 (by decide) (by decide) (by decide) (by decide) (by decide) (by decide) (by decide) (by decide) (by decide)]; exact m3
          · rw [q1 _ (by omega) (by omega)]; exact m4 j hj
          · rw [q2 21 (by decide) (by decide) (by decide) (by decide) (by decide) (by decide) (by decide) (by decide) (by decide)]; exact m6
          · rw [q2 22 (by decide) (by decide) (by decide) (by decide) (by decide) (by decide) (by decide) (by decide) (by decide)]; exact m7
          · unfold MEs MEv at m8 ⊢
            rw [q1 _ (by omega) (by omega), q1 _ (by omega) (by omega), q1 _ (by omega) (by omega), q1 _ (by omega) (by omega), q1 _ (by omega) (by omega), q1 _ (by omega) (by omega)]; exact m8
        refine hf V5 U (mkI (h := h) (hb := hb) hU hRC5 hRM5 ?_ ?_ ?_ ?_ (hD V V5 sw ⟨fun q a b => ?_, fun q a => ?_, fun j hj => ?_⟩ hd))
        · unfold HD at hH ⊢
          rw [clsV (tb θ + 0) (by omega) (by omega) (by omega) (by omega) (by omega), fa (tb θ + 0) (by omega), clsV (tb θ + 3) (by omega) (by omega) (by omega) (by omega) (by omega), fa (tb θ + 3) (by omega), hi (tb θ + 128) (by omega) (by omega), h126 4 (by decide) (by decide) (by decide) (by decide) (by decide) (by decide) (by decide) (by decide) (by decide) (by decide) (by decide) (by decide) (by decide) (by decide)]; exact hH
        · exact keepO V5 (fun q a b => by rw [clsV q (by omega) (by omega) (by omega) (by omega) (by omega), fa q (by omega)]) (fun q a b => hi q (by omega) (by omega))
        · refine ⟨?_, Or.inr (Or.inr ⟨e.kd, hev.1, hev.2.1, ?_, ?_, ?_, fun k3 => ?_⟩)⟩
          · rw [cls _ (by omega), p4, q4]
          · rw [cls _ (by omega), p4]
          · rw [cls _ (by omega), p5, q5]
          · rw [cls _ (by omega), p6, q6, hse]
          · rw [cls _ (by omega), (p8 k3).1, (q8 k3).1]
        · by_cases k3 : e.kd = 3
          · obtain ⟨-, -, x1, x2, x3, x4, x5⟩ := p8 k3
            obtain ⟨-, y1, y2, y3, y4, y5⟩ := q8 k3
            obtain ⟨z1, z2, z3, z4⟩ := hev.2.2 k3
            refine ⟨e.am, byW w e.pk, z1, ?_, ?_, ?_, y2, ?_, ?_, ?_, fun i hi2 => ⟨?_, y5 i hi2, ?_⟩⟩
            · rw [cls _ (by omega), x1, y1]
            · rw [cls _ (by omega), x1]; exact Or.inr rfl
            · rw [cls _ (by omega), x2]
            · rw [cls _ (by omega), x3, y3]
            · rw [cls _ (by omega), x4, y4]
            · rw [cls _ (by omega), x4]; exact isZ_b _
            · rw [cls _ (by omega)]; exact x5 i hi2
            · exact (c1.2.2.2.2 _ (by have := z4 i hi2; omega)).2
          · obtain ⟨x1, x2⟩ := p7 k3
            obtain ⟨y1, y2, y3, y4, y5⟩ := q7 k3
            unfold HND at hHN ⊢
            rw [cls (tb θ + 25) (by omega), cls (tb θ + 26) (by omega), x1, x2, fa (tb θ + 25) (by omega), fa (tb θ + 26) (by omega), y1, y2, y3, y4, y5, fn.1 (tb θ + 149) (by omega) (by omega), fn.2 34 (by decide) (by decide) (by decide) (by decide) (by decide) (by decide), fn.2 36 (by decide) (by decide) (by decide) (by decide) (by decide) (by decide), fn.2 37 (by decide) (by decide) (by decide) (by decide) (by decide) (by decide), fn.2 38 (by decide) (by decide) (by decide) (by decide) (by decide) (by decide), p1 (tb θ + 126) (by omega) (by omega) (by omega) (by omega), p1 (tb θ + 149) (by omega) (by omega) (by omega) (by omega), fa (tb θ + 126) (by omega), fa (tb θ + 149) (by omega)]
            exact hHN
        · rw [clsV q (by omega) (by omega) (by omega) (by omega) (by omega), fa q (by omega)]
        · exact hi q (by omega) (by omega)
        · exact h126 j (by omega) (by omega) (by omega) (by omega) (by omega) (by omega) (by omega) (by omega) (by omega) (by omega) (by omega) (by omega) (by omega) (by omega)
    · intro l3 r3 g3 V4 hx3
      exact absurd (NXR_uniq hx hx3).2.2.2 (by decide)
    · intro l3 r3 g3 V4 hx3
      exact absurd (NXR_uniq hx hx3).2.2.2 (by decide)
  · -- nothing there yet
    intro l2 r2 g2 V2 hx fa i2
    refine hk _ _ _ (fun Kf hf => ?_)
    have hRM3 : RMI θ V2 n r w l g := hRM.eq (fun q hq => fa q (by omega))
    refine ⟨72, m_nxt hθ hU 72 0 l r g V2 (by decide) (by omega) hRM3 ?_ ?_ ?_⟩
    · intro l3 r3 g3 V4 hx3
      exact absurd (NXR_uniq hx hx3).2.2.2 (by decide)
    · intro l3 r3 g3 V4 hx3 fn i3
      obtain ⟨rfl, rfl, rfl, -⟩ := NXR_uniq hx hx3
      have cls : ∀ q, q < tb θ + 126 → V4 q = V2 q := fun q hq => fn.1 q (by omega) (by omega)
      have hi : ∀ q, tb θ + 128 ≤ q → (q < tb θ + 136 ∨ tb θ + 148 < q) → V4 q = V q := fun q hq hq2 => by rw [fn.1 q (by omega) hq2, fa q (by omega)]
      have h126 : ∀ j, j ≠ 2 → j ≠ 13 → j ≠ 14 → j ≠ 21 → j ≠ 22 → j ≠ 29 → V4 (tb θ + 126) j = V (tb θ + 126) j := fun j a1 a2 a3 a4 a5 a6 => by rw [fn.2 j a1 a2 a3 a4 a5 a6, fa _ (by omega)]
      refine hf V4 U (mkI (h := h) (hb := hb) hU (i2.eq (fun q hq => cls q (by omega))) i3 ?_ ?_ ?_ ?_ (hD V V4 sw ⟨fun q a b => by rw [cls q b, fa q (by omega)], fun q a => hi q (by omega) (by omega), fun j hj => h126 j (by omega) (by omega) (by omega) (by omega) (by omega) (by omega)⟩ hd))
      · unfold HD at hH ⊢
        rw [cls (tb θ + 0) (by omega), cls (tb θ + 3) (by omega), fa (tb θ + 0) (by omega), fa (tb θ + 3) (by omega), hi (tb θ + 128) (by omega) (by omega), h126 4 (by decide) (by decide) (by decide) (by decide) (by decide) (by decide)]; exact hH
      · exact keepO V4 (fun q a b => by rw [cls q (by omega), fa q (by omega)]) (fun q a b => hi q (by omega) (by omega))
      · unfold LTR at hLT ⊢
        rw [cls _ (by omega), fa (tb θ + 30) (by omega), h126 30 (by decide) (by decide) (by decide) (by decide) (by decide) (by decide), h126 31 (by decide) (by decide) (by decide) (by decide) (by decide) (by decide), h126 32 (by decide) (by decide) (by decide) (by decide) (by decide) (by decide), h126 33 (by decide) (by decide) (by decide) (by decide) (by decide) (by decide)]; exact hLT
      · unfold HND at hHN ⊢
        rw [cls (tb θ + 25) (by omega), cls (tb θ + 26) (by omega), fa (tb θ + 25) (by omega), fa (tb θ + 26) (by omega), hi (tb θ + 149) (by omega) (by omega), h126 34 (by decide) (by decide) (by decide) (by decide) (by decide) (by decide), h126 36 (by decide) (by decide) (by decide) (by decide) (by decide) (by decide), h126 37 (by decide) (by decide) (by decide) (by decide) (by decide) (by decide), h126 38 (by decide) (by decide) (by decide) (by decide) (by decide) (by decide)]; exact hHN
    · intro l3 r3 g3 V4 hx3
      exact absurd (NXR_uniq hx hx3).2.2.2 (by decide)
  · -- bytes are skipped
    intro l2 r2 g2 V2 hx fa i2 hps
    refine s_skip hθ hU i2.1 hps (fun q V3 hsk p1 p2 p3 p4 p5 p6 => hk _ _ _ (fun Kf hf => ?_))
    have hRM3 : RMI θ V3 n r w l g := hRM.eq (fun q hq => by rw [p1 q (by omega) (by omega), fa q (by omega)])
    refine ⟨72, m_nxt hθ hU 72 0 l r g V3 (by decide) (by omega) hRM3 ?_ ?_ ?_⟩
    · intro l3 r3 g3 V4 hx3
      exact absurd (NXR_uniq hx hx3).2.2.2 (by decide)
    · intro l3 r3 g3 V4 hx3
      exact absurd (NXR_uniq hx hx3).2.2.2 (by decide)
    · intro l3 r3 g3 V4 hx3 fn i3 hps3
      obtain ⟨rfl, rfl, rfl, -⟩ := NXR_uniq hx hx3
      refine m_skip hθ hU i3.1 hps3 (fun q3 V5 hsk3 s1 s2 s3 s4 s5 => ?_)
      obtain rfl : q = q3 := SK_uniq hsk hsk3
      have cls : ∀ x, x < tb θ + 126 → V5 x = V3 x := fun x hx => by rw [s1 x (by omega), fn.1 x (by omega) (by omega)]
      have clsV : ∀ x, x < tb θ + 126 → x ≠ tb θ + 1 → x ≠ tb θ + 30 → V5 x = V2 x := fun x hx a b => by rw [cls x hx, p1 x a b]
      have hi : ∀ x, tb θ + 128 ≤ x → (x < tb θ + 136 ∨ tb θ + 148 < x) → V5 x = V x := fun x hq hq2 => by rw [s1 x (by omega), fn.1 x (by omega) hq2, p1 x (by omega) (by omega), fa x (by omega)]
      have h126 : ∀ j, j ≠ 2 → j ≠ 13 → j ≠ 14 → j ≠ 21 → j ≠ 22 → j ≠ 29 → j ≠ 30 → j ≠ 31 → V5 (tb θ + 126) j = V (tb θ + 126) j := fun j a1 a2 a3 a4 a5 a6 a7 a8 => by rw [s2 j a1 a7 a8, fn.2 j a1 a2 a3 a4 a5 a6, p1 _ (by omega) (by omega), fa _ (by omega)]
      have hqn := hsk.2.1
      have hqr := hsk.1
      have hRC5 : RCI θ V5 n q w l2 g2 := by
        obtain ⟨c1, c2, ⟨se, c3, c3'⟩, c4, c5⟩ := i2
        have hgood := (PLk.good st0_good c2).2
        refine ⟨⟨?_, c1.2.1, ?_, hqn, fun i hi => ?_⟩, c2.mono (by omega), ⟨se, c3.eq (fun q a b => clsV q (by omega) (by omega) (by omega)) (by rw [clsV _ (by omega) (by omega) (by omega)]) (by rw [clsV _ (by omega) (by omega) (by omega)]) hgood.2.2, c3'⟩, by rw [clsV _ (by omega) (by omega) (by omega)]; exact c4, c5⟩
        · rw [cls _ (by omega), p2 1 (by decide)]; exact c1.1
        · rw [cls _ (by omega)]; exact p3
        · rw [clsV _ (by omega) (by omega) (by omega)]; exact c1.2.2.2.2 i hi
      have hRM5 : RMI θ V5 n q w l2 g2 := by
        obtain ⟨m1, m2, m3, m4, m5, m6, m7, m8, m9⟩ := i3
        refine ⟨⟨?_, m1.2.1, s3, hqn, fun i hi => ?_⟩, m2.mono (by omega), ?_, fun j hj => ?_, ?_, ?_, ?_, ?_, m9⟩
        · rw [s2 1 (by decide) (by decide) (by decide)]; exact m1.1
        · rw [s1 _ (by omega)]; exact m1.2.2.2.2 i hi
        · rw [s2 13 (by decide) (by decide) (by decide)]; exact m3
        · rw [s1 _ (by omega)]; exact m4 j hj
        · rw [s2 14 (by decide) (by decide) (by decide)]; exact m5
        · rw [s2 21 (by decide) (by decide) (by decide)]; exact m6
        · rw [s2 22 (by decide) (by decide) (by decide)]; exact m7
        · unfold MEs MEv at m8 ⊢
          rw [s1 _ (by omega), s1 _ (by omega), s1 _ (by omega), s1 _ (by omega), s1 _ (by omega), s1 _ (by omega)]; exact m8
      refine hf V5 U (mkI (h := h) (hb := hb) hU hRC5 hRM5 ?_ ?_ ?_ ?_ (hD V V5 sw ⟨fun q a b => by rw [clsV q b (by omega) (by omega), fa q (by omega)], fun q a => hi q (by omega) (by omega), fun j hj => h126 j (by omega) (by omega) (by omega) (by omega) (by omega) (by omega) (by omega) (by omega)⟩ hd))
      · unfold HD at hH ⊢
        rw [clsV (tb θ + 0) (by omega) (by omega) (by omega), clsV (tb θ + 3) (by omega) (by omega) (by omega), fa (tb θ + 0) (by omega), fa (tb θ + 3) (by omega), hi (tb θ + 128) (by omega) (by omega), h126 4 (by decide) (by decide) (by decide) (by decide) (by decide) (by decide) (by decide) (by decide)]; exact hH
      · exact keepO V5 (fun q a b => by rw [clsV q (by omega) (by omega) (by omega), fa q (by omega)]) (fun q a b => hi q (by omega) (by omega))
      · refine ⟨?_, Or.inr (Or.inl ⟨?_, ?_, ?_⟩)⟩
        · rw [cls _ (by omega), p4, s4]
        · rw [cls _ (by omega), p4]
        · rw [cls _ (by omega), p5, s5]
        · rw [cls _ (by omega), p6]
      · unfold HND at hHN ⊢
        rw [clsV (tb θ + 25) (by omega) (by omega) (by omega), clsV (tb θ + 26) (by omega) (by omega) (by omega), fa (tb θ + 25) (by omega), fa (tb θ + 26) (by omega), hi (tb θ + 149) (by omega) (by omega), h126 34 (by decide) (by decide) (by decide) (by decide) (by decide) (by decide) (by decide) (by decide), h126 36 (by decide) (by decide) (by decide) (by decide) (by decide) (by decide) (by decide) (by decide), h126 37 (by decide) (by decide) (by decide) (by decide) (by decide) (by decide) (by decide) (by decide), h126 38 (by decide) (by decide) (by decide) (by decide) (by decide) (by decide) (by decide) (by decide)]; exact hHN
end OKNEXT
