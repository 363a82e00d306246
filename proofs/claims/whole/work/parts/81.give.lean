def EVk (r : Nat) (e : EV) : Prop := 2 ≤ e.kd ∧ e.kd ≤ 5 ∧ (e.kd = 3 → e.am ≤ 1000 ∧ e.am ≤ 15 * e.pk.length ∧ e.pk.length ≤ 64 ∧ ∀ i, i < e.am → e.pk.getD (i / 15) 0 + i % 15 < r)
def PBk (r : Nat) (S : ST) : Prop := (∀ k, k < 3 → ∀ i, i < 15 * (S.un k).length → (S.un k).getD (i / 15) 0 + i % 15 < r) ∧ ∀ e, e ∈ S.ev → EVk r e
section GIVE
variable {θ : TH} {sw : Bool} {U : UT} {V V1 V2 : VT} {S : ST} {k se n r fr : Nat} {w : Nat → Nat} {pg : PG}
theorem EVk.mono {a b : Nat} {e : EV} (h : EVk a e) (hab : a ≤ b) : EVk b e := ⟨h.1, h.2.1, fun q => ⟨(h.2.2 q).1, (h.2.2 q).2.1, (h.2.2 q).2.2.1, fun i hi => Nat.lt_of_lt_of_le ((h.2.2 q).2.2.2 i hi) hab⟩⟩
theorem PBk.mono {a b : Nat} (h : PBk a S) (hab : a ≤ b) : PBk b S := ⟨fun k hk i hi => Nat.lt_of_lt_of_le (h.1 k hk i hi) hab, fun e he => (h.2 e he).mono hab⟩
theorem PBk.of {S2 : ST} (h : PBk r S) (h1 : ∀ k, k < 3 → S2.un k = S.un k ∨ S2.un k = []) (h2 : ∀ e, e ∈ S2.ev → e ∈ S.ev ∨ EVk r e) : PBk r S2 := by
  refine ⟨fun k hk i hi => ?_, fun e he => ?_⟩
  · rcases h1 k hk with q | q
    · rw [q] at hi ⊢; exact h.1 k hk i hi
    · rw [q] at hi; exact absurd hi (by simp)
  · rcases h2 e he with q | q
    · exact h.2 e q
    · exact q
theorem PBk.drop (h : PBk r S) : PBk r (dropS k S) := by
  refine h.of (fun j hj => ?_) (fun e he => Or.inl (by rw [drop_kn.2.2.2] at he; exact he))
  by_cases q : j = k
  · subst q; exact Or.inr drop_un.2
  · exact Or.inl (drop_un.1 j q)
theorem PBk.ev {kd am : Nat} (h : PBk r S) (h1 : 2 ≤ kd) (h2 : kd ≤ 5) (h3 : kd ≠ 3) : PBk r (evS (mkE kd am 65535 false []) S) := by
  refine h.of (fun j hj => Or.inl rfl) (fun e he => ?_)
  have he : e ∈ S.ev ++ [mkE kd am 65535 false []] := he
  rcases List.mem_append.mp he with q | q
  · exact Or.inl q
  · rw [List.mem_singleton] at q
    subst q
    exact Or.inr ⟨h1, h2, fun e => absurd e h3⟩
theorem PBk.ent {fl no : Nat} (h : PBk r S) : PBk r (entS k se fl no S) := by
  unfold entS
  split
  · refine h.of (fun j hj => ?_) (fun e he => Or.inl he)
    by_cases q : j = k
    · subst q; exact Or.inr fu_a
    · exact Or.inl (fu_n q)
  · split
    · exact (h.drop (k := k)).of (fun j hj => Or.inl rfl) (fun e he => Or.inl he)
    · split
      · exact ((h.ev (kd := 2) (by decide) (by decide) (by decide)).drop (k := k)).of (fun j hj => Or.inl rfl) (fun e he => Or.inl he)
      · exact h.of (fun j hj => Or.inl rfl) (fun e he => Or.inl he)
theorem PBk.cut (h : PBk r S) : PBk r (cutS pg k S).1 := by
  unfold cutS
  split
  · exact h.drop
  · split
    · exact h.of (fun j hj => Or.inl rfl) (fun e he => Or.inl he)
    · exact h
theorem PBk.seg {pl la tm : Nat} {cl : Bool} (h : PBk r S) (hla : la ≤ 15) (hpl : pl + la ≤ r) (hk3 : k < 3) (hu : (S.un k).length ≤ 62) : PBk r (segS k pl la tm cl S) := by
  have hb : ∀ i, i < 15 * (S.un k).length + la → (S.un k ++ [pl]).getD (i / 15) 0 + i % 15 < r := by
    intro i hi
    by_cases q : i < 15 * (S.un k).length
    · rw [getD_app_l (by omega)]; exact h.1 k hk3 i q
    · have e : i / 15 = (S.un k).length := by omega
      rw [e, getD_app_r]; omega
  have hl : (S.un k ++ [pl]).length = (S.un k).length + 1 := by rw [List.length_append]; rfl
  unfold segS
  by_cases q15 : la < 15
  · rw [if_pos q15]
    refine h.of (fun j hj => ?_) (fun e he => ?_)
    · by_cases q : j = k
      · subst q; exact Or.inr fu_a
      · exact Or.inl (fu_n q)
    · have he : e ∈ S.ev ++ [mkE 3 (15 * (S.un k).length + la) tm cl (S.un k ++ [pl])] := he
      rcases List.mem_append.mp he with q | q
      · exact Or.inl q
      · rw [List.mem_singleton] at q
        subst q
        refine Or.inr ⟨(by show 2 ≤ 3; decide), (by show 3 ≤ 5; decide), fun _ => ⟨?_, ?_, ?_, hb⟩⟩
        · show 15 * (S.un k).length + la ≤ 1000; omega
        · show 15 * (S.un k).length + la ≤ 15 * (S.un k ++ [pl]).length; rw [hl]; omega
        · show (S.un k ++ [pl]).length ≤ 64; rw [hl]; omega
  · rw [if_neg q15]
    refine ⟨fun j hj i hi => ?_, h.2⟩
    by_cases q : j = k
    · subst q
      have e : (mkS S.kn S.no S.ct (fu S.un j (S.un j ++ [pl])) S.pc S.ev).un j = S.un j ++ [pl] := fu_a
      rw [e] at hi ⊢
      rw [hl] at hi
      exact hb i (by omega)
    · have e : (mkS S.kn S.no S.ct (fu S.un k (S.un k ++ [pl])) S.pc S.ev).un j = S.un j := fu_n q
      rw [e] at hi ⊢
      exact h.1 j hj i hi
theorem PBk.run (h : PBk r S) (hk3 : k < 3) (hla : ∀ i, i < pg.n → pg.la i ≤ 15) (hA : pgA pg pg.n ≤ r) (hn : pg.n ≤ 6) (hr : r ≤ 1000) (hu : 16 * (S.un k).length ≤ pg.pl) : ∀ i, i ≤ pg.n → PBk r (runS pg k fr i S)
  | 0, _ => h
  | i + 1, hi => by
    have ih := PBk.run h hk3 hla hA hn hr hu i (by omega)
    obtain ⟨g1, g2, g3, g4⟩ := run_kn (pg := pg) (k := k) (fr := fr) (S := S) i
    have g4 := g4 (fun j hj => hla j (by omega))
    have hA2 := pgA_mono pg hi
    have hA3 : pgA pg (i + 1) = pgA pg i + pg.la i := rfl
    have hA0 := pgA_0 pg i
    show PBk r (if fr ≤ i then _ else runS pg k fr i S)
    by_cases q : fr ≤ i
    · rw [if_pos q]
      exact ih.seg (hla i (by omega)) (by omega) hk3 (by omega)
    · rw [if_neg q]; exact ih
theorem PBk.page {a : Nat} (h : PBk a S) (ha : a ≤ pg.pl) (hG : GS pg.pl S) (hP : PGok w (pgA pg pg.n) pg) (hr : pgA pg pg.n ≤ 1000) : PBk (pgA pg pg.n) (pgS pg S) := by
  have hA := pgA_0 pg pg.n
  obtain ⟨P1, P2, -⟩ := hP
  have h0 : PBk (pgA pg pg.n) (newS S) := (h.mono (by omega)).of (fun j hj => Or.inl rfl) (fun e he => absurd he (by show ¬ e ∈ ([] : List EV); simp))
  cases hf : fndS (newS S) pg.se with
  | none =>
    rw [pg_none hf]
    exact h0.ev (by decide) (by decide) (by decide)
  | some k =>
    rw [pg_some hf]
    obtain ⟨hk3, hkn⟩ := fnd_facts.1 hf
    have hkn' : S.kn k = none ∨ S.kn k = some pg.se := by
      rcases hkn with h | h
      · exact Or.inr h
      · exact Or.inl h.1
    obtain ⟨e1, e2, e3, e4, e5⟩ := ent_facts (S := newS S) (k := k) (se := pg.se) (fl := pg.fl) (no := pg.no) hkn'
    obtain ⟨c1, c2, c3, c4, c5⟩ := cut_facts (pg := pg) (k := k) (S := entS k pg.se pg.fl pg.no (newS S))
    have hun := hG.2.1 k hk3
    have : ((newS S).un k).length = (S.un k).length := rfl
    have hm : PBk (pgA pg pg.n) (midS pg k S) := PBk.run (h0.ent.cut) hk3 (fun i hi => (P2 i hi).2) (Nat.le_refl _) P1 hr (by omega) pg.n (Nat.le_refl _)
    unfold lastS
    split
    · exact ((hm.drop (k := k)).ev (kd := 4) (by decide) (by decide) (by decide)).of (fun j hj => Or.inl rfl) (fun e he => Or.inl he)
    · exact hm
theorem PLk.pb : ∀ {l : List PG} {a r : Nat} {S0 : ST}, GS a S0 → PBk a S0 → PLk w a l r → r ≤ 1000 → PBk r (l.foldl (fun S pg => pgS pg S) S0)
  | [], a, r, S0, hG, hB, h, _ => hB.mono h
  | pg :: l, a, r, S0, hG, hB, h, hr => by
    obtain ⟨h1, h2, h3⟩ := h
    have hle := PLk.le h3
    show PBk r (l.foldl (fun S pg => pgS pg S) (pgS pg S0))
    exact PLk.pb (GS_page (hG.mono h1) h2) (hB.page h1 (hG.mono h1) h2 (by omega)) h3 hr
theorem st0_pb : PBk 0 st0 := ⟨fun k hk i hi => absurd hi (by show ¬ i < 15 * ([] : List Nat).length; simp), fun e he => absurd he (by show ¬ e ∈ ([] : List EV); simp)⟩
end GIVE
