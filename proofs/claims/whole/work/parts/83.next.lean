theorem PS_uniq {n : Nat} {w : Nat → Nat} {p s t : Nat} (h : PS n w p s) (g : PS n w p t) : s = t := by
  unfold PS at h g
  have key : ∀ {P : Prop}, (¬ hdA n w p 0 ∨ (p + 4 < n ∧ 7 < w (p + 4))) → (hdA n w p 0 ∧ (p + 4 < n → w (p + 4) ≤ 7)) → P := by
    rintro P (h | h) ⟨h1, h2⟩
    · exact absurd h1 h
    · exact absurd (h2 h.1) (by omega)
  rcases h with ⟨rfl, h1⟩ | ⟨h1, ⟨rfl, h2⟩ | ⟨h2, ⟨rfl, h3⟩ | ⟨h3, ⟨rfl, h4⟩ | ⟨h4, ⟨rfl, h5⟩ | ⟨h5, ⟨rfl, h6⟩ | ⟨rfl, h6⟩⟩⟩⟩⟩⟩ <;>
  rcases g with ⟨rfl, g1⟩ | ⟨g1, ⟨rfl, g2⟩ | ⟨g2, ⟨rfl, g3⟩ | ⟨g3, ⟨rfl, g4⟩ | ⟨g4, ⟨rfl, g5⟩ | ⟨g5, ⟨rfl, g6⟩ | ⟨rfl, g6⟩⟩⟩⟩⟩⟩ <;>
  first
  | rfl
  | exact key h1 g1
  | exact key g1 h1
  | omega
  | contradiction
theorem PS_lt {n : Nat} {w : Nat → Nat} {p : Nat} (h : PS n w p 0) : p < n := by
  by_cases hp : p < n
  · exact hp
  · unfold PS at h
    have hd : hdA n w p 0 := fun i _ _ hi => absurd hi (by omega)
    rcases h with ⟨-, h | h⟩ | ⟨-, ⟨h, -⟩ | ⟨h, -⟩⟩
    · exact absurd hd h
    · omega
    · exact absurd h (by decide)
    · omega
def SK (n : Nat) (w : Nat → Nat) (r q : Nat) : Prop := r < q ∧ q ≤ n ∧ (∀ p, r < p → p < q → PS n w p 0) ∧ (q = n ∨ PS n w q 1 ∨ PS n w q 2)
theorem SK_uniq {n : Nat} {w : Nat → Nat} {r q t : Nat} (h : SK n w r q) (g : SK n w r t) : q = t := by
  have key : ∀ a b, SK n w r a → SK n w r b → ¬ a < b := by
    intro a b h g hab
    have h0 := g.2.2.1 a h.1 hab
    have := g.2.1
    rcases h.2.2.2 with e | e | e
    · omega
    · exact absurd (PS_uniq h0 e) (by decide)
    · exact absurd (PS_uniq h0 e) (by decide)
  have := key q t h g
  have := key t q g h
  omega
/-- one call of next, up to what it ends in: 0 an event is given, 1 open, 2 bytes are skipped -/
def NXR (n : Nat) (w : Nat → Nat) : Nat → List PG → Nat → Nat → List PG → Nat → Nat → Nat → Prop
  | 0, _, _, _, _, _, _, _ => False
  | f + 1, l, r, g, l2, r2, g2, o => (g < (fdS l).ev.length ∧ l2 = l ∧ r2 = r ∧ g2 = g ∧ o = 0) ∨ ((fdS l).ev.length ≤ g ∧ ((PS n w r 1 ∧ l2 = l ∧ r2 = r ∧ g2 = g ∧ o = 1) ∨ (PS n w r 0 ∧ l2 = l ∧ r2 = r ∧ g2 = g ∧ o = 2) ∨ (PS n w r 2 ∧ NXR n w f (l ++ [mkP w r]) (r + plen w r) 0 l2 r2 g2 o)))
theorem NXR_uniq {n : Nat} {w : Nat → Nat} : ∀ {f : Nat} {l : List PG} {r g : Nat} {l2 : List PG} {r2 g2 o : Nat} {l3 : List PG} {r3 g3 u : Nat}, NXR n w f l r g l2 r2 g2 o → NXR n w f l r g l3 r3 g3 u → l2 = l3 ∧ r2 = r3 ∧ g2 = g3 ∧ o = u
  | 0, _, _, _, _, _, _, _, _, _, _, _, h, _ => False.elim h
  | f + 1, l, r, g, l2, r2, g2, o, l3, r3, g3, u, h, k => by
    rcases h with ⟨a, rfl, rfl, rfl, rfl⟩ | ⟨a, ⟨b, rfl, rfl, rfl, rfl⟩ | ⟨b, rfl, rfl, rfl, rfl⟩ | ⟨b, c⟩⟩ <;>
    rcases k with ⟨a2, rfl, rfl, rfl, rfl⟩ | ⟨a2, ⟨b2, rfl, rfl, rfl, rfl⟩ | ⟨b2, rfl, rfl, rfl, rfl⟩ | ⟨b2, c2⟩⟩ <;>
    first
    | exact ⟨rfl, rfl, rfl, rfl⟩
    | omega
    | exact absurd (PS_uniq b b2) (by decide)
    | exact NXR_uniq c c2
def RCI (θ : TH) (V : VT) (n r : Nat) (w : Nat → Nat) (l : List PG) (g : Nat) : Prop := WV θ V n r w ∧ PLk w 0 l r ∧ (∃ se, CRd θ V (fdS l) se ∧ ∀ pg, l.getLast? = some pg → pg.se = se) ∧ V (tb θ + 27) 5 = nI g ∧ g ≤ (fdS l).ev.length
def RMI (θ : TH) (V : VT) (n r : Nat) (w : Nat → Nat) (l : List PG) (g : Nat) : Prop := WM θ V n r w ∧ PLk w 0 l r ∧ V (tb θ + 126) 13 = nI l.length ∧ (∀ j, j < l.length → V (tb θ + 136) j = nI (l.getD j pg0).pl) ∧ V (tb θ + 126) 14 = nI g ∧ V (tb θ + 126) 21 = nI (fdS l).pc ∧ V (tb θ + 126) 22 = nI (fdS l).ev.length ∧ MEs θ V w (fdS l).ev ∧ g ≤ (fdS l).ev.length
def FRa (θ : TH) (V V2 : VT) : Prop := ∀ q, (q < tb θ + 1 ∨ (tb θ + 2 ≤ q ∧ q < tb θ + 27) ∨ q = tb θ + 30 ∨ tb θ + 66 ≤ q) → V2 q = V q
def FRn (θ : TH) (V V2 : VT) : Prop := (∀ q, q ≠ tb θ + 126 → (q < tb θ + 136 ∨ tb θ + 148 < q) → V2 q = V q) ∧ (∀ j, j ≠ 2 → j ≠ 13 → j ≠ 14 → j ≠ 21 → j ≠ 22 → j ≠ 29 → V2 (tb θ + 126) j = V (tb θ + 126) j)
section NEXT
variable {θ : TH} {sw : Bool} {U : UT} {V V1 V2 : VT} {n r : Nat} {w : Nat → Nat}
theorem s_adv {K : Int32 → VT → UT → Prop} (hθ : OKt θ) (hU : US θ sw U) : ∀ (f i : Nat) (l : List PG) (r g : Nat) (V : VT), i + f ≤ 1001 → 1000 < r + 14 * f → RCI θ V n r w l g →
    (∀ l2 r2 g2 V2, NXR n w f l r g l2 r2 g2 0 → FRa θ V V2 → RCI θ V2 n r2 w l2 g2 → g2 < (fdS l2).ev.length → wp_R_give θ (tb θ + 27) V2 U K) →
    (∀ l2 r2 g2 V2, NXR n w f l r g l2 r2 g2 1 → FRa θ V V2 → RCI θ V2 n r2 w l2 g2 → K 0 V2 U) →
    (∀ l2 r2 g2 V2, NXR n w f l r g l2 r2 g2 2 → FRa θ V V2 → RCI θ V2 n r2 w l2 g2 → PS n w r2 0 → wp_R_skip θ (tb θ + 27) V2 U K) → wl_R_advance_2 θ (tb θ + 27) K f (nI i) V U := by
  intro f
  induction f with
  | zero =>
    intro i l r g V h1 h2 hI
    have := hI.1.2.1
    have := hI.1.2.2.2.1
    exact absurd h2 (by omega)
  | succ f ih =>
    intro i l r g V h1 h2 hI k0 k1 k2
    have hI' := hI
    obtain ⟨hW, hL, ⟨se, hC, hse⟩, h5, hg⟩ := hI
    have hn := hW.2.1
    have hrn := hW.2.2.2.1
    have hgood := (PLk.good st0_good hL).2
    have hev : (fdS l).ev.length ≤ 8 := hgood.2.2
    show bl_R_advance_2 _ _ _ _ _ _ _
    unfold bl_R_advance_2
    simp only [UC hU, IC hθ, true_and, hC.2.1, h5, hW.2.2.1]
    refine br_f (nI_nlt (a := 1000) (b := i) (by omega) (by decide)) ?_
    refine pk_le (fdS l).ev.length g (fun q => ⟨by omega, ?_⟩) (fun q => ?_)
    · refine s_pageAt hθ hU hW r hrn (fun hp => ?_) (fun hp => ?_) (fun hp => ?_)
      · refine br_f (by decide) ⟨fun e => absurd rfl e, fun _ => ?_⟩ |>.symm
        exact k2 l r g V (Or.inr ⟨q, Or.inr (Or.inl ⟨hp, rfl, rfl, rfl, rfl⟩)⟩) (fun _ _ => rfl) hI' hp
      · refine ⟨fun e => absurd rfl e, fun _ => ?_⟩
        exact k1 l r g V (Or.inr ⟨q, Or.inl ⟨hp, rfl, rfl, rfl, rfl⟩⟩) (fun _ _ => rfl) hI'
      · obtain ⟨hok, hle, hA⟩ := PS_page (fun i hi => (hW.2.2.2.2 i hi).2) hp
        have hpl : 14 ≤ plen w r := by unfold plen; omega
        refine ⟨fun _ => ⟨fun _ => ?_, fun e => absurd e (nI_nm1 (by omega))⟩, fun e => absurd ((nI_eq (b := 0) (by omega) (by decide)).mp e) (by omega)⟩
        have hok2 : PGok w (pgA (mkP w r) (mkP w r).n) (mkP w r) := by rw [hA]; exact hok
        have e1 : nI (plen w r) = nI (pgA (mkP w r) (mkP w r).n - (mkP w r).pl) := by
          rw [hA]; show _ = nI (r + plen w r - r); rw [Nat.add_sub_cancel_left]
        rw [e1]
        refine s_readPage (pg := mkP w r) hθ hU hW hok2 (by rw [hA]; exact hle) hC hgood (fun V2 p1 p2 p3 p4 z hz => ?_)
        rw [hz, nI_1]
        rw [hA] at p2
        have hI2 : RCI θ V2 n (r + plen w r) w (l ++ [mkP w r]) 0 := by
          refine ⟨p2, hL.snoc (Nat.le_refl _) hok2 (by rw [hA]; exact Nat.le_refl _), ⟨_, by rw [fdS_snoc]; exact p4, fun pg hpg => ?_⟩, p3, Nat.zero_le _⟩
          rw [List.getLast?_append] at hpg
          have hpg : some (mkP w r) = some pg := hpg
          rw [← Option.some.inj hpg]
        refine ih (i + 1) _ _ 0 V2 (by omega) (by omega) hI2 (fun l2 r2 g2 V3 hx f3 i3 => k0 l2 r2 g2 V3 (Or.inr ⟨q, Or.inr (Or.inr ⟨hp, hx⟩)⟩) (fun q hq => (f3 q hq).trans (p1 q hq)) i3) (fun l2 r2 g2 V3 hx f3 i3 => k1 l2 r2 g2 V3 (Or.inr ⟨q, Or.inr (Or.inr ⟨hp, hx⟩)⟩) (fun q hq => (f3 q hq).trans (p1 q hq)) i3) (fun l2 r2 g2 V3 hx f3 i3 => k2 l2 r2 g2 V3 (Or.inr ⟨q, Or.inr (Or.inr ⟨hp, hx⟩)⟩) (fun q hq => (f3 q hq).trans (p1 q hq)) i3)
    · exact k0 l r g V (Or.inl ⟨q, rfl, rfl, rfl, rfl⟩) (fun _ _ => rfl) hI' q
theorem m_nxt {K : Int32 → VT → UT → Prop} (hθ : OKt θ) (hU : US θ sw U) : ∀ (f i : Nat) (l : List PG) (r g : Nat) (V : VT), i + f ≤ 100 → 1000 < r + 14 * f → RMI θ V n r w l g →
    (∀ l2 r2 g2 V2, NXR n w f l r g l2 r2 g2 0 → FRn θ V V2 → RMI θ V2 n r2 w l2 g2 → g2 < (fdS l2).ev.length → wp_M_give θ (tb θ + 126) V2 U K) →
    (∀ l2 r2 g2 V2, NXR n w f l r g l2 r2 g2 1 → FRn θ V V2 → RMI θ V2 n r2 w l2 g2 → K 0 V2 U) →
    (∀ l2 r2 g2 V2, NXR n w f l r g l2 r2 g2 2 → FRn θ V V2 → RMI θ V2 n r2 w l2 g2 → PS n w r2 0 → ∃ m, wl_M_next_51 θ (tb θ + 126) K m (nI (r2 + 1)) V2 U) → wl_M_next_2 θ (tb θ + 126) K f (nI i) V U := by
  intro f
  induction f with
  | zero =>
    intro i l r g V h1 h2 hI
    have := hI.1.2.1
    have := hI.1.2.2.2.1
    exact absurd h2 (by omega)
  | succ f ih =>
    intro i l r g V h1 h2 hI k0 k1 k2
    have hI' := hI
    obtain ⟨hW, hL, h13, h136, h14, h21, h22, hE, hg⟩ := hI
    have hn := hW.2.1
    have hrn := hW.2.2.2.1
    have hgood := (PLk.good st0_good hL).2
    have hev : (fdS l).ev.length ≤ 8 := hgood.2.2
    have hlen := PLk.le hL
    show bl_M_next_2 _ _ _ _ _ _ _
    unfold bl_M_next_2
    simp only [IM hθ, true_and, h22, h14, hW.2.2.1]
    refine br_f (nI_ge (a := i) (b := 100) (by omega) (by decide)) ?_
    refine pk_le (fdS l).ev.length g (fun q => ?_) (fun q => ?_)
    · refine m_state hθ hU hW r hrn (fun hp => ?_) (fun hp => ?_) (fun hp => ?_)
      · refine ⟨fun _ => ⟨fun e => absurd rfl e, fun _ y hy => ?_⟩, fun e => absurd e (by decide)⟩
        rw [hy, hW.2.2.1, nI_1]
        exact k2 l r g V (Or.inr ⟨q, Or.inr (Or.inl ⟨hp, rfl, rfl, rfl, rfl⟩)⟩) ⟨fun _ _ _ => rfl, fun _ _ _ _ _ _ _ => rfl⟩ hI' hp
      · refine ⟨fun e => absurd rfl e, fun _ => ?_⟩
        exact k1 l r g V (Or.inr ⟨q, Or.inl ⟨hp, rfl, rfl, rfl, rfl⟩⟩) ⟨fun _ _ _ => rfl, fun _ _ _ _ _ _ _ => rfl⟩ hI'
      · obtain ⟨hok, hle, hA⟩ := PS_page (fun i hi => (hW.2.2.2.2 i hi).2) hp
        have hpl : 14 + w (r + 13) ≤ plen w r := by unfold plen; omega
        have hok2 : PGok w (pgA (mkP w r) (mkP w r).n) (mkP w r) := by rw [hA]; exact hok
        refine ⟨fun _ => ⟨fun _ => ?_, fun e => absurd e (by decide)⟩, fun e => absurd e (by decide)⟩
        simp only [UM hU, IM hθ, exists_eq_left, h13, hW.2.2.1]
        rw [nI_clamp (show l.length < 2 ^ 31 by omega)]
        refine ⟨by omega, vp_in_nI (by omega) (by decide), fun W1 e1 W2 e2 => ?_⟩
        have t1 : W1 (tb θ + 126) 13 + 1 = nI (l.length + 1) := by rw [e1, up2_ne (by omega), h13, nI_1]
        rw [t1] at e2
        have t2 : W2 (tb θ + 126) 2 = nI r := by rw [e2, up2_ab (by decide), e1, up2_ne (by omega)]; exact hW.2.2.1
        have hW2 : WM θ W2 n r w := by
          unfold WM at hW ⊢
          rw [e2, up2_ab (by decide), up2_ab (by decide), up2_ne (show tb θ + 127 ≠ tb θ + 126 by omega), e1, up2_ne (show tb θ + 126 ≠ tb θ + 136 by omega), up2_ne (show tb θ + 127 ≠ tb θ + 136 by omega)]; exact hW
        rw [t2]
        refine m_pageLength hθ hU hW2 r (by omega) hok.1 (fun i hi => (hok.2.1 i hi).2) (fun W3 e3 W4 e4 => ?_)
        rw [nI_add] at e3
        have f4 : ∀ q, q ≠ tb θ + 126 → q ≠ tb θ + 136 → W4 q = V q := fun q a b => by rw [e4, up2_ne a, e3, up2_ne a, e2, up2_ne a, e1, up2_ne b]
        have j4 : ∀ j, j ≠ 2 → j ≠ 13 → j ≠ 14 → W4 (tb θ + 126) j = V (tb θ + 126) j := fun j a b c => by rw [e4, up2_ab c, e3, up2_ab a, e2, up2_ab b, e1, up2_ne (by omega)]
        have hW4 : WM θ W4 n (r + plen w r) w := by
          refine ⟨?_, hn, ?_, hle, fun i hi => ?_⟩
          · rw [j4 1 (by decide) (by decide) (by decide)]; exact hW.1
          · rw [e4, up2_ab (by decide), e3, up2_aa]
          · rw [f4 _ (by omega) (by omega)]; exact hW.2.2.2.2 i hi
        have hL4 : PLk w 0 (l ++ [mkP w r]) (r + plen w r) := hL.snoc (Nat.le_refl _) hok2 (by rw [hA]; exact Nat.le_refl _)
        have hl4 : (l ++ [mkP w r]).length = l.length + 1 := by rw [List.length_append]; rfl
        have c13 : W4 (tb θ + 126) 13 = nI (l ++ [mkP w r]).length := by rw [hl4, e4, up2_ab (by decide), e3, up2_ab (by decide), e2, up2_aa]
        have c136 : ∀ j, j < (l ++ [mkP w r]).length → W4 (tb θ + 136) j = nI ((l ++ [mkP w r]).getD j pg0).pl := by
          intro j hj
          rw [hl4] at hj
          rw [e4, up2_ne (by omega), e3, up2_ne (by omega), e2, up2_ne (by omega), e1]
          by_cases qj : j = l.length
          · subst qj; rw [up2_aa, getD_app_r]; rfl
          · rw [up2_ab qj, getD_app_l (by omega)]; exact h136 j (by omega)
        refine m_replay hθ hU hW4 c13 c136 hL4 (by rw [hl4]; omega) (fun V2 f2 h2 z hz => ?_)
        rw [hz, nI_1]
        have c14 : W4 (tb θ + 126) 14 = nI 0 := by rw [e4, up2_aa]; rfl
        have hI2 : RMI θ V2 n (r + plen w r) w (l ++ [mkP w r]) 0 := by
          refine ⟨f2.wm hW4, hL4, by rw [f2.2 13 (by decide) (by decide) (by decide)]; exact c13, fun j hj => by rw [f2.1 _ (by omega) (by omega)]; exact c136 j hj, by rw [f2.2 14 (by decide) (by decide) (by decide)]; exact c14, h2.2.1, h2.2.2.1, h2.2.2.2.2, Nat.zero_le _⟩
        have fr : FRn θ V V2 := ⟨fun q a b => by rw [f2.1 q a (by omega), f4 q a (by omega)], fun j a b c d e x => by rw [f2.2 j d e x, j4 j a b c]⟩
        have tr : ∀ {V3}, FRn θ V2 V3 → FRn θ V V3 := fun h => ⟨fun q a b => (h.1 q a b).trans (fr.1 q a b), fun j a b c d e x => (h.2 j a b c d e x).trans (fr.2 j a b c d e x)⟩
        refine ih (i + 1) _ _ 0 V2 (by omega) (by omega) hI2 (fun l2 r2 g2 V3 hx f3 i3 => k0 l2 r2 g2 V3 (Or.inr ⟨q, Or.inr (Or.inr ⟨hp, hx⟩)⟩) (tr f3) i3) (fun l2 r2 g2 V3 hx f3 i3 => k1 l2 r2 g2 V3 (Or.inr ⟨q, Or.inr (Or.inr ⟨hp, hx⟩)⟩) (tr f3) i3) (fun l2 r2 g2 V3 hx f3 i3 => k2 l2 r2 g2 V3 (Or.inr ⟨q, Or.inr (Or.inr ⟨hp, hx⟩)⟩) (tr f3) i3)
    · exact k0 l r g V (Or.inl ⟨q, rfl, rfl, rfl, rfl⟩) ⟨fun _ _ _ => rfl, fun _ _ _ _ _ _ _ => rfl⟩ hI' q
end NEXT
