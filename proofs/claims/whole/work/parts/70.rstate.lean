-- what a reader knows, as plain data
def EV := Nat × Nat × Nat × Bool × List Nat
def EV.kd (e : EV) : Nat := e.1
def EV.am (e : EV) : Nat := e.2.1
def EV.tm (e : EV) : Nat := e.2.2.1
def EV.cl (e : EV) : Bool := e.2.2.2.1
def EV.pk (e : EV) : List Nat := e.2.2.2.2
def mkE (kd am tm : Nat) (cl : Bool) (pk : List Nat) : EV := (kd, am, tm, cl, pk)
def ST := (Nat → Option Nat) × (Nat → Nat) × (Nat → Nat) × (Nat → List Nat) × Nat × List EV
def ST.kn (S : ST) : Nat → Option Nat := S.1
def ST.no (S : ST) : Nat → Nat := S.2.1
def ST.ct (S : ST) : Nat → Nat := S.2.2.1
def ST.un (S : ST) : Nat → List Nat := S.2.2.2.1
def ST.pc (S : ST) : Nat := S.2.2.2.2.1
def ST.ev (S : ST) : List EV := S.2.2.2.2.2
def mkS (kn : Nat → Option Nat) (no ct : Nat → Nat) (un : Nat → List Nat) (pc : Nat) (ev : List EV) : ST := (kn, no, ct, un, pc, ev)
theorem mkS_all (kn : Nat → Option Nat) (no ct : Nat → Nat) (un : Nat → List Nat) (pc : Nat) (ev : List EV) : (mkS kn no ct un pc ev).kn = kn ∧ (mkS kn no ct un pc ev).no = no ∧ (mkS kn no ct un pc ev).ct = ct ∧ (mkS kn no ct un pc ev).un = un ∧ (mkS kn no ct un pc ev).pc = pc ∧ (mkS kn no ct un pc ev).ev = ev := ⟨rfl, rfl, rfl, rfl, rfl, rfl⟩
def PG := Nat × Nat × Nat × Nat × Nat × Nat × (Nat → Nat)
def PG.pl (g : PG) : Nat := g.1
def PG.se (g : PG) : Nat := g.2.1
def PG.fl (g : PG) : Nat := g.2.2.1
def PG.no (g : PG) : Nat := g.2.2.2.1
def PG.ti (g : PG) : Nat := g.2.2.2.2.1
def PG.n (g : PG) : Nat := g.2.2.2.2.2.1
def PG.la (g : PG) : Nat → Nat := g.2.2.2.2.2.2
def fu {α : Type} (f : Nat → α) (k : Nat) (x : α) : Nat → α := fun j => if j = k then x else f j
theorem fu_a {α : Type} {f : Nat → α} {k : Nat} {x : α} : fu f k x k = x := by simp [fu]
theorem fu_n {α : Type} {f : Nat → α} {k j : Nat} {x : α} (h : j ≠ k) : fu f k x j = f j := by simp [fu, h]
def ev0 : EV := mkE 0 0 0 false []
def dropS (k : Nat) (S : ST) : ST := if S.un k = [] then S else (mkS S.kn S.no S.ct (fu S.un k []) (S.pc + 1) S.ev)
def evS (e : EV) (S : ST) : ST := (mkS S.kn S.no S.ct S.un S.pc (S.ev ++ [e]))
def noS (k no : Nat) (S : ST) : ST := mkS S.kn (fu S.no k no) S.ct S.un S.pc S.ev
def ctS (k c : Nat) (S : ST) : ST := mkS S.kn S.no (fu S.ct k c) S.un S.pc S.ev
def knS (k : Nat) (x : Option Nat) (S : ST) : ST := mkS (fu S.kn k x) S.no S.ct S.un S.pc S.ev
def pcS (S : ST) : ST := mkS S.kn S.no S.ct S.un (S.pc + 1) S.ev
def begS (k se : Nat) (S : ST) : ST := mkS (fu S.kn k (some se)) S.no (fu S.ct k 0) (fu S.un k []) S.pc S.ev
def entS (k se fl no : Nat) (S : ST) : ST :=
  if S.kn k = none then noS k no (begS k se S)
  else if fl / 2 % 2 = 1 then noS k no (ctS k 0 (dropS k S))
  else if no ≠ (S.no k + 1) % 256 then noS k no (dropS k (evS (mkE 2 ((no + 256 - (S.no k + 1) % 256) % 256) 65535 false []) S))
  else noS k no S
def segS (k pl la tm : Nat) (cl : Bool) (S : ST) : ST :=
  if la < 15 then (mkS S.kn S.no (fu S.ct k (S.ct k + 1)) (fu S.un k []) S.pc (S.ev ++ [mkE 3 (15 * (S.un k).length + la) tm cl (S.un k ++ [pl])]))
  else (mkS S.kn S.no S.ct (fu S.un k (S.un k ++ [pl])) S.pc S.ev)
/-- one past the first short segment, or n -/
def feS (la : Nat → Nat) : Nat → Nat → Nat
  | 0, i => i
  | m + 1, i => if la i < 15 then i + 1 else feS la m (i + 1)
def lsS (la : Nat → Nat) (n i : Nat) : Bool := decide (∀ j, j < n → i < j → 15 ≤ la j)
def pgA (pg : PG) : Nat → Nat
  | 0 => pg.pl + 14 + pg.n
  | i + 1 => pgA pg i + pg.la i
def runS (pg : PG) (k fr : Nat) : Nat → ST → ST
  | 0, S => S
  | i + 1, S => if fr ≤ i then segS k (pgA pg i) (pg.la i) (if lsS pg.la pg.n i then pg.ti else 65535) (lsS pg.la pg.n i && decide (pg.fl / 4 % 2 = 1)) (runS pg k fr i S) else runS pg k fr i S
/-- from the page's flags: what of its first segments is left out -/
def cutS (pg : PG) (k : Nat) (S : ST) : ST × Nat :=
  if pg.fl % 2 = 0 then (dropS k S, 0) else if S.un k = [] ∧ 0 < pg.n then (pcS S, feS pg.la pg.n 0) else (S, 0)
def lastS (pg : PG) (k : Nat) (S : ST) : ST :=
  if pg.fl / 4 % 2 = 1 then knS k none (evS (mkE 4 (S.ct k) 65535 false []) (dropS k S)) else S
def newS (S : ST) : ST := mkS S.kn S.no S.ct S.un S.pc []
def fndS (S : ST) (se : Nat) : Option Nat :=
  if S.kn 0 = some se then some 0 else if S.kn 1 = some se then some 1 else if S.kn 2 = some se then some 2
  else if S.kn 2 = none then some 2 else if S.kn 1 = none then some 1 else if S.kn 0 = none then some 0 else none
def pgS (pg : PG) (S : ST) : ST :=
  match fndS (newS S) pg.se with
  | none => evS (mkE 5 (pgA pg pg.n - pg.pl) 65535 false []) (newS S)
  | some k => lastS pg k (runS pg k (cutS pg k (entS k pg.se pg.fl pg.no (newS S))).2 pg.n (cutS pg k (entS k pg.se pg.fl pg.no (newS S))).1)
def st0 : ST := mkS (fun _ => none) (fun _ => 0) (fun _ => 0) (fun _ => []) 0 []
-- the class's inboxes and events show such a state
def IB (θ : TH) (U : UT) (i : Nat) : Prop := isO θ i 4 ∧ U i 4 = i + 1 ∧ isO θ (i + 1) 3 ∧ U (i + 1) 0 = i + 2 ∧ (∀ m, isA θ (i + 2) 0 m ↔ m = 64) ∧ tb θ + 33 ≤ i ∧ i + 2 < tb θ + 42
def EB (θ : TH) (U : UT) (e : Nat) : Prop := isO θ e 5 ∧ U e 5 = e + 1 ∧ isO θ (e + 1) 3 ∧ U (e + 1) 0 = e + 2 ∧ (∀ m, isA θ (e + 2) 0 m ↔ m = 64) ∧ tb θ + 42 ≤ e ∧ e + 2 < tb θ + 66
theorem ib_k {θ : TH} {sw : Bool} {U : UT} (hθ : OKt θ) (hU : US θ sw U) {k : Nat} (hk : k < 3) : IB θ U (tb θ + (33 + 3 * k)) ∧ U (tb θ + 28) k = tb θ + (33 + 3 * k) := by
  have h4 : k = 0 ∨ k = 1 ∨ k = 2 := by omega
  rcases h4 with rfl | rfl | rfl
  all_goals
    unfold IB
    simp only [Nat.reduceMul, Nat.reduceAdd, Nat.add_assoc, FI_1 hθ, FU_1 hU, true_and, forall_const, implies_true, and_true, iff_self]
    omega
theorem eb_k {θ : TH} {sw : Bool} {U : UT} (hθ : OKt θ) (hU : US θ sw U) {k : Nat} (hk : k < 8) : EB θ U (tb θ + (42 + 3 * k)) ∧ U (tb θ + 29) k = tb θ + (42 + 3 * k) := by
  have h4 : k = 0 ∨ k = 1 ∨ k = 2 ∨ k = 3 ∨ k = 4 ∨ k = 5 ∨ k = 6 ∨ k = 7 := by omega
  rcases h4 with rfl | rfl | rfl | rfl | rfl | rfl | rfl | rfl
  all_goals
    unfold EB
    simp only [Nat.reduceMul, Nat.reduceAdd, Nat.add_assoc, FI_1 hθ, FU_1 hU, FI_2 hθ, FU_2 hU, true_and, forall_const, implies_true, and_true, iff_self]
    omega
def KP (V : VT) (p : Nat) (l : List Nat) (s : Nat) : Prop := V p 1 = nI l.length ∧ V p 2 = nI s ∧ ∀ j, j < l.length → V (p + 1) j = nI (l.getD j 0)
def CIn (θ : TH) (V : VT) (k : Nat) (S : ST) : Prop := ((S.kn k = none ∧ V (tb θ + (33 + 3 * k)) 0 = 0) ∨ ∃ s, s < 256 ∧ S.kn k = some s ∧ V (tb θ + (33 + 3 * k)) 0 = 1 ∧ V (tb θ + (33 + 3 * k)) 1 = nI s ∧ V (tb θ + (33 + 3 * k)) 2 = nI (S.no k) ∧ V (tb θ + (33 + 3 * k)) 3 = nI (S.ct k) ∧ S.no k < 256) ∧ KP V (tb θ + (33 + 3 * k) + 1) (S.un k) (15 * (S.un k).length) ∧ (S.un k).length ≤ 63
def CEv (θ : TH) (V : VT) (j : Nat) (e : EV) (se : Nat) : Prop := V (tb θ + (42 + 3 * j)) 0 = nI e.kd ∧ V (tb θ + (42 + 3 * j)) 1 = nI e.am ∧ V (tb θ + (42 + 3 * j)) 2 = nI se ∧ (e.kd = 3 → V (tb θ + (42 + 3 * j)) 3 = nI e.tm ∧ V (tb θ + (42 + 3 * j)) 4 = (if e.cl then 1 else 0) ∧ KP V (tb θ + (42 + 3 * j) + 1) e.pk e.am)
def CRd (θ : TH) (V : VT) (S : ST) (se : Nat) : Prop := (∀ k, k < 3 → CIn θ V k S) ∧ V (tb θ + 27) 4 = nI S.ev.length ∧ V (tb θ + 27) 7 = nI S.pc ∧ ∀ j, j < S.ev.length → CEv θ V j (S.ev.getD j ev0) se
/-- only reader cells changed, and of these not the latest event, nor how many were given -/
def FRr (θ : TH) (V V2 : VT) : Prop := (∀ q, (q < tb θ + 27 ∨ q = tb θ + 30 ∨ tb θ + 66 ≤ q) → V2 q = V q) ∧ V2 (tb θ + 27) 5 = V (tb θ + 27) 5
section RSTATE
variable {θ : TH} {sw : Bool} {U : UT} {V V1 V2 : VT} {S : ST} {k se n r : Nat} {w : Nat → Nat}
theorem FRr.refl : FRr θ V V := ⟨fun _ _ => rfl, rfl⟩
theorem FRr.trans (h1 : FRr θ V V1) (h2 : FRr θ V1 V2) : FRr θ V V2 := ⟨fun q hq => (h2.1 q hq).trans (h1.1 q hq), h2.2.trans h1.2⟩
theorem CIn.of {S2 : ST} (h : CIn θ V k S) (h0 : V2 (tb θ + (33 + 3 * k)) = V (tb θ + (33 + 3 * k))) (h1 : V2 (tb θ + (33 + 3 * k) + 1) = V (tb θ + (33 + 3 * k) + 1)) (h2 : V2 (tb θ + (33 + 3 * k) + 2) = V (tb θ + (33 + 3 * k) + 2)) (e1 : S2.kn k = S.kn k) (e2 : S2.no k = S.no k) (e3 : S2.ct k = S.ct k) (e4 : S2.un k = S.un k) : CIn θ V2 k S2 := by
  unfold CIn KP at h ⊢
  rw [h0, h1, show tb θ + (33 + 3 * k) + 1 + 1 = tb θ + (33 + 3 * k) + 2 from rfl, h2, e1, e2, e3, e4]
  exact h
theorem CEv.of {j : Nat} {e : EV} (h : CEv θ V j e se) (h0 : V2 (tb θ + (42 + 3 * j)) = V (tb θ + (42 + 3 * j))) (h1 : V2 (tb θ + (42 + 3 * j) + 1) = V (tb θ + (42 + 3 * j) + 1)) (h2 : V2 (tb θ + (42 + 3 * j) + 2) = V (tb θ + (42 + 3 * j) + 2)) : CEv θ V2 j e se := by
  unfold CEv KP at h ⊢
  rw [h0, h1, show tb θ + (42 + 3 * j) + 1 + 1 = tb θ + (42 + 3 * j) + 2 from rfl, h2]
  exact h
theorem s_drop {K : VT → UT → Prop} (hθ : OKt θ) (hU : US θ sw U) (hk3 : k < 3) (hC : CRd θ V S se) (hl : S.ev.length ≤ 8) (hk : ∀ V2, FRr θ V V2 → CRd θ V2 (dropS k S) se → K V2 U) : wp_R_drop θ (tb θ + 27) (tb θ + (33 + 3 * k)) V U K := by
  obtain ⟨⟨i1, i2, i3, i4, i5, i6, i7⟩, -⟩ := ib_k hθ hU hk3
  obtain ⟨c1, c2, c3, c4⟩ := hC
  have ck := c1 k hk3
  have ck2 := ck.2.1.1
  unfold wp_R_drop wp_K_clear
  simp only [i1, i2, i3, IC hθ, true_and, ck2]
  refine ⟨by omega, ?_⟩
  have hlen := ck.2.2
  by_cases he : S.un k = []
  · have hd : dropS k S = S := by unfold dropS; rw [if_pos he]
    rw [he]
    exact br_t (by decide) (hk V FRr.refl (by rw [hd]; exact ⟨c1, c2, c3, c4⟩))
  · have hd : dropS k S = (mkS S.kn S.no S.ct (fu S.un k []) (S.pc + 1) S.ev) := by unfold dropS; rw [if_neg he]
    have hpos : 0 < (S.un k).length := List.length_pos_iff.mpr he
    refine br_f (nI_ge (a := 0) (b := (S.un k).length) hpos (by omega)) (fun W1 e1 W2 e2 W3 e3 => ?_)
    have b3 : ∀ q, q ≠ tb θ + (33 + 3 * k) + 1 → q ≠ tb θ + 27 → W3 q = V q := fun q x y => by rw [e3, up2_ne y, e2, up2_ne x, e1, up2_ne x]
    refine hk W3 ⟨fun q hq => b3 q (by omega) (by omega), ?_⟩ ?_
    · rw [e3, up2_ab (by decide), e2, up2_ne (by omega), e1, up2_ne (by omega)]
    · rw [hd]
      refine ⟨fun k2 hk2 => ?_, ?_, ?_, fun j hj => ?_⟩
      · by_cases hkk : k2 = k
        · subst hkk
          refine ⟨?_, ?_, ?_⟩
          · rw [b3 _ (by omega) (by omega)]; exact ck.1
          · unfold KP
            show _ ∧ _ ∧ ∀ j, j < (fu S.un k2 [] k2).length → _
            rw [fu_a]
            refine ⟨?_, ?_, fun j hj => absurd hj (by simp)⟩
            · rw [e3, up2_ne (by omega), e2, up2_ab (by decide), e1, up2_aa]; simp only [mkS_all, fu_a]; rfl
            · rw [e3, up2_ne (by omega), e2, up2_aa]; simp only [mkS_all, fu_a]; rfl
          · simp only [mkS_all, fu_a]; exact Nat.zero_le _
        · exact (c1 k2 hk2).of (b3 _ (by omega) (by omega)) (b3 _ (by omega) (by omega)) (b3 _ (by omega) (by omega)) rfl rfl rfl (fu_n hkk)
      · rw [e3, up2_ab (by decide), e2, up2_ne (by omega), e1, up2_ne (by omega)]; exact c2
      · rw [e3, up2_aa, e2, up2_ne (by omega), e1, up2_ne (by omega), c3, nI_1]; rfl
      · exact (c4 j hj).of (b3 _ (by omega) (by omega)) (b3 _ (by omega) (by omega)) (b3 _ (by omega) (by omega))
theorem getD_app_l {α : Type} {l : List α} {x d : α} {j : Nat} (h : j < l.length) : (l ++ [x]).getD j d = l.getD j d := by
  rw [List.getD_eq_getElem?_getD, List.getD_eq_getElem?_getD, List.getElem?_append_left h]
theorem getD_app_r {α : Type} {l : List α} {x d : α} : (l ++ [x]).getD l.length d = x := by
  rw [List.getD_eq_getElem?_getD, List.getElem?_append_right (Nat.le_refl _), Nat.sub_self]; rfl
/-- the next event is made ready: kind, amount, serial; what else it holds is told by the caller -/
theorem s_makeEvent {K : Nat → VT → UT → Prop} {kd am : Nat} (hθ : OKt θ) (hU : US θ sw U) {m : Nat} (c2 : V (tb θ + 27) 4 = nI m) (hl : m < 8) (hk : ∀ V2, (∀ q, q ≠ tb θ + 27 → q ≠ tb θ + (42 + 3 * m) → V2 q = V q) → (∀ j, j ≠ 4 → V2 (tb θ + 27) j = V (tb θ + 27) j) → V2 (tb θ + 27) 4 = nI (m + 1) → V2 (tb θ + (42 + 3 * m)) 0 = nI kd → V2 (tb θ + (42 + 3 * m)) 1 = nI am → V2 (tb θ + (42 + 3 * m)) 2 = nI se → K (tb θ + (42 + 3 * m)) V2 U) : wp_R_makeEvent θ (tb θ + 27) (nI kd) (nI am) (nI se) V U K := by
  obtain ⟨⟨i1, i2, i3, i4, i5, i6, i7⟩, hu⟩ := eb_k hθ hU hl
  unfold wp_R_makeEvent wp_E_set
  have e7 : (if (7 : Int32) < nI m then (7 : Int32) else nI m) = nI m := if_neg (nI_nlt (a := 7) (b := m) (by omega) (by decide))
  simp only [UC hU, IC hθ, true_and, exists_eq_left, c2, e7]
  rw [nI_clamp (by omega), hu]
  refine ⟨by omega, vp_in_nI (by omega) (by decide), by omega, fun a ha => ?_⟩
  subst ha
  refine ⟨i1, i1, fun W1 e1 W2 e2 W3 e3 W4 e4 => ⟨by omega, ?_⟩⟩
  have h27 : W3 (tb θ + 27) 4 + 1 = nI (m + 1) := by
    rw [e3, up2_ne (by omega), e2, up2_ne (by omega), e1, up2_ne (by omega), c2, nI_1]
  have e8 : (if (8 : Int32) < nI (m + 1) then (8 : Int32) else nI (m + 1)) = nI (m + 1) := if_neg (nI_nlt (a := 8) (b := m + 1) (by omega) (by decide))
  rw [h27, e8] at e4
  refine hk W4 (fun q x y => ?_) (fun j hj => ?_) ?_ ?_ ?_ ?_
  · rw [e4, up2_ne x, e3, up2_ne y, e2, up2_ne y, e1, up2_ne y]
  · rw [e4, up2_ab hj, e3, up2_ne (by omega), e2, up2_ne (by omega), e1, up2_ne (by omega)]
  · rw [e4, up2_aa]
  · rw [e4, up2_ne (by omega), e3, up2_ab (by decide), e2, up2_ab (by decide), e1, up2_aa]
  · rw [e4, up2_ne (by omega), e3, up2_ab (by decide), e2, up2_aa]
  · rw [e4, up2_ne (by omega), e3, up2_aa]
/-- an event without a packet -/
theorem s_event {K : Nat → VT → UT → Prop} {kd am tm : Nat} (hθ : OKt θ) (hU : US θ sw U) (hC : CRd θ V S se) (hl : S.ev.length < 8) (hkd : kd ≠ 3) (hk : ∀ V2, FRr θ V V2 → CRd θ V2 (evS (mkE kd am tm false []) S) se → ∀ a, a ≠ 0 → K a V2 U) : wp_R_makeEvent θ (tb θ + 27) (nI kd) (nI am) (nI se) V U K := by
  have hC' := hC
  obtain ⟨c1, c2, c3, c4⟩ := hC
  refine s_makeEvent hθ hU c2 hl (fun V2 p1 p2 p3 p4 p5 p6 => ?_)
  refine hk V2 ⟨fun q hq => p1 q (by omega) (by omega), p2 5 (by decide)⟩ ⟨fun k hk => (c1 k hk).of (p1 _ (by omega) (by omega)) (p1 _ (by omega) (by omega)) (p1 _ (by omega) (by omega)) rfl rfl rfl rfl, ?_, ?_, fun j hj => ?_⟩ _ (by omega)
  · rw [p3]; show _ = nI (S.ev ++ [mkE kd am tm false []]).length; rw [List.length_append]; rfl
  · rw [p2 7 (by decide)]; exact c3
  · have hj : j < (S.ev ++ [(mkE kd am tm false [])]).length := hj
    rw [List.length_append, List.length_singleton] at hj
    show CEv θ V2 j ((S.ev ++ [(mkE kd am tm false [])]).getD j ev0) se
    by_cases q : j = S.ev.length
    · subst q
      rw [getD_app_r]
      exact ⟨p4, p5, p6, fun e => absurd e hkd⟩
    · rw [getD_app_l (by omega)]
      exact (c4 j (by omega)).of (p1 _ (by omega) (by omega)) (p1 _ (by omega) (by omega)) (p1 _ (by omega) (by omega))
end RSTATE
