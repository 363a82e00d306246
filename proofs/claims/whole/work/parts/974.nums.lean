-- the numbers of a curve
def NS : Type := Nat × RS × (Nat → Option Nat)
def NS.n (x : NS) : Nat := x.1
def NS.s (x : NS) : RS := x.2.1
def NS.nu (x : NS) : Nat → Option Nat := x.2.2
def upO (f : Nat → Option Nat) (n : Nat) (o : Option Nat) : Nat → Option Nat := fun j => if j = n then o else f j
def nvI (p : PK) (bk : Nat → BD) (c : CD) (q : Nat) : Nat → Option Nat → NS → NS
  | 0, _, x => x
  | _ + 1, none, x => x
  | r + 1, some e, x => match c.sb q (e % 2) with
    | none => nvI p bk c q r (some (e / 2)) (x.n + 1, x.s, upO x.nu x.n (some 0))
    | some m => nvI p bk c q r (some (e / 2)) (x.n + 1, (pkR p (bk m) x.s).2, upO x.nu x.n (pkR p (bk m) x.s).1)
def nvP (p : PK) (bk : Nat → BD) (c : CD) (x : NS) : Nat → NS
  | 0 => x
  | k + 1 => if c.sp (c.cl k) = true then nvI p bk c (c.cl k) (c.sz (c.cl k)) (pkR p (bk (c.ms (c.cl k))) (nvP p bk c x k).s).1 ((nvP p bk c x k).n, (pkR p (bk (c.ms (c.cl k))) (nvP p bk c x k).s).2, (nvP p bk c x k).nu) else nvI p bk c (c.cl k) (c.sz (c.cl k)) (some 0) (nvP p bk c x k)
def nu0 (p : PK) (c : CD) (s : RS) : NS := (2, rdS p (nbG c.gr) (rdS p (nbG c.gr) s), fun j => if j = 0 then some (min (rdV p (nbG c.gr) s) (rgG c.gr - 1)) else some (min (rdV p (nbG c.gr) (rdS p (nbG c.gr) s)) (rgG c.gr - 1)))
def nuF (p : PK) (bk : Nat → BD) (c : CD) (s : RS) : NS := nvP p bk c (nu0 p c s) c.P
def num1 (p : PK) (bk : Nat → BD) (c : CD) (s : RS) (j : Nat) : Nat := ((nuF p bk c s).nu j).getD 0
section NUMS
variable {p : PK} {bk : Nat → BD} {c : CD} {B : Nat} {s : RS}
theorem nvI_ok {q : Nat} : ∀ {r : Nat} {o : Option Nat} {x : NS}, x.s.1 ≤ 8 * p.L → (nvI p bk c q r o x).s.1 ≤ 8 * p.L ∧ x.n ≤ (nvI p bk c q r o x).n ∧ (nvI p bk c q r o x).n ≤ x.n + r ∧ (x.s.2 = true → (nvI p bk c q r o x).s.2 = true)
  | 0, o, x, h => by unfold nvI; exact ⟨h, Nat.le_refl _, Nat.le_refl _, fun z => z⟩
  | r + 1, none, x, h => by unfold nvI; exact ⟨h, Nat.le_refl _, by omega, fun z => z⟩
  | r + 1, some e, x, h => by
    unfold nvI
    split
    · obtain ⟨a, b, d, g⟩ := nvI_ok (q := q) (r := r) (o := some (e / 2)) (x := (x.n + 1, x.s, upO x.nu x.n (some 0))) h
      exact ⟨a, Nat.le_trans (Nat.le_succ _) b, by have : (nvI p bk c q r (some (e / 2)) (x.n + 1, x.s, upO x.nu x.n (some 0))).n ≤ x.n + 1 + r := d
                                                   omega, g⟩
    · rename_i m _
      obtain ⟨a, b, d, g⟩ := nvI_ok (q := q) (r := r) (o := some (e / 2)) (x := (x.n + 1, (pkR p (bk m) x.s).2, upO x.nu x.n (pkR p (bk m) x.s).1)) (pkR_ok h)
      refine ⟨a, Nat.le_trans (Nat.le_succ _) b, ?_, fun z => g ?_⟩
      · have : (nvI p bk c q r (some (e / 2)) (x.n + 1, (pkR p (bk m) x.s).2, upO x.nu x.n (pkR p (bk m) x.s).1)).n ≤ x.n + 1 + r := d
        omega
      · show (pkR p (bk m) x.s).2.2 = true
        rw [pkR_out z]; exact z
theorem nvP_ok {x : NS} (h : x.s.1 ≤ 8 * p.L) : ∀ k, (nvP p bk c x k).s.1 ≤ 8 * p.L ∧ x.n ≤ (nvP p bk c x k).n ∧ (nvP p bk c x k).n ≤ x.n + smN (fun k => c.sz (c.cl k)) k ∧ (x.s.2 = true → (nvP p bk c x k).s.2 = true)
  | 0 => ⟨h, Nat.le_refl _, Nat.le_refl _, fun z => z⟩
  | k + 1 => by
    obtain ⟨a, b, d, g⟩ := nvP_ok h k
    unfold nvP
    show _ ∧ _ ∧ _ ≤ x.n + (smN (fun k => c.sz (c.cl k)) k + c.sz (c.cl k)) ∧ _
    split
    · obtain ⟨a', b', d', g'⟩ := nvI_ok (p := p) (bk := bk) (c := c) (q := c.cl k) (r := c.sz (c.cl k)) (o := (pkR p (bk (c.ms (c.cl k))) (nvP p bk c x k).s).1) (x := ((nvP p bk c x k).n, (pkR p (bk (c.ms (c.cl k))) (nvP p bk c x k).s).2, (nvP p bk c x k).nu)) (pkR_ok a)
      refine ⟨a', Nat.le_trans b b', ?_, fun z => g' ?_⟩
      · have : (nvI p bk c (c.cl k) (c.sz (c.cl k)) (pkR p (bk (c.ms (c.cl k))) (nvP p bk c x k).s).1 ((nvP p bk c x k).n, (pkR p (bk (c.ms (c.cl k))) (nvP p bk c x k).s).2, (nvP p bk c x k).nu)).n ≤ (nvP p bk c x k).n + c.sz (c.cl k) := d'
        omega
      · show (pkR p (bk (c.ms (c.cl k))) (nvP p bk c x k).s).2.2 = true
        rw [pkR_out (g z)]; exact g z
    · obtain ⟨a', b', d', g'⟩ := nvI_ok (p := p) (bk := bk) (c := c) (q := c.cl k) (r := c.sz (c.cl k)) (o := some 0) (x := nvP p bk c x k) a
      exact ⟨a', Nat.le_trans b b', by omega, fun z => g' (g z)⟩
theorem nvI_st (q : Nat) : ∀ {r : Nat} {e : Nat} {x : NS}, x.s.2 = true → (nvI p bk c q r (some e) x).s.2 = true
  | 0, e, x, h => by unfold nvI; exact h
  | r + 1, e, x, h => by
    unfold nvI
    split
    · exact nvI_st q (r := r) (e := e / 2) (x := (x.n + 1, x.s, upO x.nu x.n (some 0))) h
    · rename_i m _
      refine nvI_st q (r := r) (e := e / 2) (x := (x.n + 1, (pkR p (bk m) x.s).2, upO x.nu x.n (pkR p (bk m) x.s).1)) ?_
      show (pkR p (bk m) x.s).2.2 = true
      rw [pkR_out h]; exact h
/-- where the bits are not out, all numbers are there -/
theorem nvI_in (hb : ∀ k, k < B → BKP (bk k)) {q : Nat} (E : Nat → Prop) (hq : ∀ e, E e → E (e / 2) ∧ ∀ m, c.sb q (e % 2) = some m → m < B) : ∀ {r : Nat} {e : Nat} {x : NS}, E e → (nvI p bk c q r (some e) x).s.2 = false → (nvI p bk c q r (some e) x).n = x.n + r ∧ (∀ j, j < x.n → (nvI p bk c q r (some e) x).nu j = x.nu j) ∧ ∀ j, x.n ≤ j → j < x.n + r → ∃ v, v < 8 ∧ (nvI p bk c q r (some e) x).nu j = some v
  | 0, e, x, he, h => by unfold nvI; exact ⟨rfl, fun _ _ => rfl, fun j a b => (by omega)⟩
  | r + 1, e, x, he, h => by
    unfold nvI at h ⊢
    split
    · rename_i hm
      rw [hm] at h
      obtain ⟨a, b, d⟩ := nvI_in hb E hq (r := r) (e := e / 2) (x := (x.n + 1, x.s, upO x.nu x.n (some 0))) (hq e he).1 h
      refine ⟨?_, fun j hj => ?_, fun j j1 j2 => ?_⟩
      · rw [a]; show x.n + 1 + r = _; omega
      · rw [b j (show j < x.n + 1 by omega)]
        exact if_neg (by omega)
      · by_cases ej : j = x.n
        · refine ⟨0, by decide, ?_⟩
          rw [b j (show j < x.n + 1 by omega)]
          exact if_pos ej
        · exact d j (show x.n + 1 ≤ j by omega) (show j < x.n + 1 + r by omega)
    · rename_i m hm
      rw [hm] at h
      have hmB := (hq e he).2 m hm
      have key : ∃ v, v < 8 ∧ (pkR p (bk m) x.s).1 = some v := by
        cases hp : (pkR p (bk m) x.s).1 with
        | none =>
          exfalso
          have ho := pkR_none (hb m hmB) hp
          have := nvI_st (p := p) (bk := bk) (c := c) q (r := r) (e := e / 2) (x := (x.n + 1, (pkR p (bk m) x.s).2, upO x.nu x.n (pkR p (bk m) x.s).1)) ho
          exact Bool.noConfusion (this.symm.trans h)
        | some v =>
          refine ⟨v, ?_, rfl⟩
          have := (pkR_some hp).1
          have := (hb m hmB).2.1
          omega
      obtain ⟨a, b, d⟩ := nvI_in hb E hq (r := r) (e := e / 2) (x := (x.n + 1, (pkR p (bk m) x.s).2, upO x.nu x.n (pkR p (bk m) x.s).1)) (hq e he).1 h
      refine ⟨?_, fun j hj => ?_, fun j j1 j2 => ?_⟩
      · rw [a]; show x.n + 1 + r = _; omega
      · rw [b j (show j < x.n + 1 by omega)]
        exact if_neg (by omega)
      · by_cases ej : j = x.n
        · obtain ⟨v, v1, v2⟩ := key
          refine ⟨v, v1, ?_⟩
          rw [b j (show j < x.n + 1 by omega)]
          exact (if_pos ej).trans v2
        · exact d j (show x.n + 1 ≤ j by omega) (show j < x.n + 1 + r by omega)
theorem nvP_in (hb : ∀ k, k < B → BKP (bk k)) (hc : CPP c B) {x : NS} (hx : x.s.1 ≤ 8 * p.L) : ∀ {k : Nat}, k ≤ c.P → (nvP p bk c x k).s.2 = false → (nvP p bk c x k).n = x.n + smN (fun k => c.sz (c.cl k)) k ∧ (∀ j, j < x.n → (nvP p bk c x k).nu j = x.nu j) ∧ ∀ j, x.n ≤ j → j < x.n + smN (fun k => c.sz (c.cl k)) k → ∃ v, v < 8 ∧ (nvP p bk c x k).nu j = some v
  | 0, _, h => ⟨rfl, fun _ _ => rfl, fun j a b => absurd (show j < x.n + 0 from b) (by omega)⟩
  | k + 1, hk, h => by
    obtain ⟨c1, c2, c3, c4, c5, c6⟩ := hc
    obtain ⟨z1, z2, z3, z4, z5⟩ := c5 (c.cl k) (c4 k (by omega))
    have hpo := nvP_ok (p := p) (bk := bk) (c := c) hx k
    have hsm : smN (fun k => c.sz (c.cl k)) (k + 1) = smN (fun k => c.sz (c.cl k)) k + c.sz (c.cl k) := rfl
    unfold nvP at h ⊢
    split
    · rename_i hsp
      rw [if_pos hsp] at h
      have hq : ∀ e, True → True ∧ ∀ m, c.sb (c.cl k) (e % 2) = some m → m < B := by
        intro e _
        refine ⟨trivial, fun m hm => ?_⟩
        have : e % 2 = 0 ∨ e % 2 = 1 := by omega
        rcases this with w | w
        · rw [w] at hm; exact z4 m hm
        · rw [w] at hm; exact z5 hsp m hm
      cases hp : (pkR p (bk (c.ms (c.cl k))) (nvP p bk c x k).s).1 with
      | none =>
        exfalso
        rw [hp] at h
        have ho := pkR_none (hb _ (z3 hsp)) hp
        have := (nvI_ok (p := p) (bk := bk) (c := c) (q := c.cl k) (r := c.sz (c.cl k)) (o := none) (x := ((nvP p bk c x k).n, (pkR p (bk (c.ms (c.cl k))) (nvP p bk c x k).s).2, (nvP p bk c x k).nu)) (pkR_ok hpo.1)).2.2.2 ho
        rw [this] at h; cases h
      | some e =>
        rw [hp] at h
        have hin := (pkR_some hp).2
        have hs0 : (nvP p bk c x k).s.2 = false := by
          cases w : (nvP p bk c x k).s.2
          · rfl
          · rw [pkR_out w] at hp; cases hp
        obtain ⟨i1, i2, i3⟩ := nvP_in hb ⟨c1, c2, c3, c4, c5, c6⟩ hx (k := k) (by omega) hs0
        obtain ⟨a, b, d⟩ := nvI_in hb (fun _ => True) hq (x := ((nvP p bk c x k).n, (pkR p (bk (c.ms (c.cl k))) (nvP p bk c x k).s).2, (nvP p bk c x k).nu)) trivial h
        refine ⟨?_, fun j hj => ?_, fun j j1 j2 => ?_⟩
        · rw [a, hsm]; show (nvP p bk c x k).n + _ = _; omega
        · rw [b j (show j < (nvP p bk c x k).n by omega)]; exact i2 j hj
        · by_cases ej : j < (nvP p bk c x k).n
          · rw [b j ej]; exact i3 j j1 (by omega)
          · exact d j (show (nvP p bk c x k).n ≤ j by omega) (show j < (nvP p bk c x k).n + _ by omega)
    · rename_i hsp
      rw [if_neg hsp] at h
      have hs0 : (nvP p bk c x k).s.2 = false := by
        cases w : (nvP p bk c x k).s.2
        · rfl
        · have := (nvI_ok (p := p) (bk := bk) (c := c) (q := c.cl k) (r := c.sz (c.cl k)) (o := some 0) (x := nvP p bk c x k) hpo.1).2.2.2 w
          rw [this] at h; cases h
      obtain ⟨i1, i2, i3⟩ := nvP_in hb ⟨c1, c2, c3, c4, c5, c6⟩ hx (k := k) (by omega) hs0
      -- not split: the choice stays 0
      obtain ⟨a, b, d⟩ := nvI_in hb (fun e => e = 0) (fun e he => ⟨by rw [he], fun m hm => by rw [he] at hm; exact z4 m hm⟩) (x := nvP p bk c x k) rfl h
      refine ⟨?_, fun j hj => ?_, fun j j1 j2 => ?_⟩
      · rw [a, hsm]; omega
      · rw [b j (by omega)]; exact i2 j hj
      · by_cases ej : j < (nvP p bk c x k).n
        · rw [b j ej]; exact i3 j j1 (by omega)
        · exact d j (by omega) (by omega)
theorem nu0_ok (h : s.1 ≤ 8 * p.L) : (nu0 p c s).s.1 ≤ 8 * p.L := rdS_ok _ (rdS_ok _ h)
theorem smN_le {f : Nat → Nat} {M : Nat} : ∀ {k : Nat}, (∀ j, j < k → f j ≤ M) → smN f k ≤ M * k
  | 0, _ => Nat.zero_le _
  | k + 1, h => by
    have h1 := smN_le (k := k) (fun j hj => h j (by omega))
    have h2 := h k (by omega)
    show smN f k + f k ≤ M * (k + 1)
    rw [Nat.mul_add, Nat.mul_one]; omega
theorem smN_mono {f : Nat → Nat} : ∀ {k j : Nat}, j ≤ k → smN f j ≤ smN f k
  | 0, j, h => by obtain rfl : j = 0 := by omega
                  exact Nat.le_refl _
  | k + 1, j, h => by
    by_cases e : j = k + 1
    · subst e; exact Nat.le_refl _
    · have := smN_mono (f := f) (show j ≤ k by omega)
      show _ ≤ smN f k + f k
      omega
theorem cN_le (hc : CPP c B) : 2 ≤ c.N ∧ c.N ≤ 14 := by
  obtain ⟨c1, c2, c3, c4, c5, c6, _⟩ := hc
  have := smN_le (f := fun k => c.sz (c.cl k)) (M := 4) (k := c.P) (fun j hj => (c5 _ (c4 j hj)).2.1)
  omega
theorem nuF_in (hb : ∀ k, k < B → BKP (bk k)) (hc : CPP c B) (hs : s.1 ≤ 8 * p.L) (h : (nuF p bk c s).s.2 = false) : (nuF p bk c s).n = c.N ∧ PNm c.gr c.N c.pl (num1 p bk c s) ∧ ∀ j, j < c.N → (nuF p bk c s).nu j = some (num1 p bk c s j) := by
  have hN := cN_le hc
  have hc' := hc
  obtain ⟨c1, c2, c3, c4, c5, c6, c7, c8, c9, c10⟩ := hc
  obtain ⟨a, b, d⟩ := nvP_in hb hc' (nu0_ok hs) (Nat.le_refl _) h
  have e2 : (nu0 p c s).n = 2 := rfl
  rw [e2] at a b d
  have hrb := rgG_b c.gr
  have hv : ∀ j, j < c.N → (∃ v, (j < 2 → v < rgG c.gr) ∧ (2 ≤ j → v < 8) ∧ (nuF p bk c s).nu j = some v) := by
    intro j hj
    by_cases h2 : j < 2
    · have : (nuF p bk c s).nu j = (nu0 p c s).nu j := b j h2
      rw [this]
      show ∃ v, _ ∧ _ ∧ (if j = 0 then _ else _) = some v
      by_cases e : j = 0
      · rw [if_pos e]
        exact ⟨_, fun _ => by omega, fun z => by omega, rfl⟩
      · rw [if_neg e]
        exact ⟨_, fun _ => by omega, fun z => by omega, rfl⟩
    · obtain ⟨v, v1, v2⟩ := d j (by omega) (by omega)
      exact ⟨v, fun z => by omega, fun _ => v1, v2⟩
  refine ⟨by rw [show (nuF p bk c s).n = _ from a, c6], ⟨c1, hN.1, hN.2, c7, c8, c9, c10, fun i hi => ?_, fun i i2 hi => ?_⟩, fun j hj => ?_⟩
  · obtain ⟨v, v1, v2, v3⟩ := hv i (by omega)
    unfold num1; rw [v3]; exact v1 hi
  · obtain ⟨v, v1, v2, v3⟩ := hv i hi
    unfold num1; rw [v3]; exact v2 i2
  · obtain ⟨v, v1, v2, v3⟩ := hv j hj
    unfold num1; rw [v3]; rfl
end NUMS
