-- words of a book: free cells of 256 as blocks that grow
def bsH (H : Nat → Bool) : Nat → Nat
  | 0 => 0
  | k + 1 => bsH H k + (if H k = true then 2 ^ k else 0)
def BUD (F : Nat → Prop) (R : Nat) : Prop := ∃ (H : Nat → Bool) (A : Nat → Nat), (∀ x, x < 256 → (F x ↔ ∃ j, j ≤ 8 ∧ H j = true ∧ x / 2 ^ j = A j)) ∧ (∀ i j, i < j → j ≤ 8 → H i = true → H j = true → (A i + 1) * 2 ^ i ≤ A j * 2 ^ j) ∧ (∀ j, j ≤ 8 → H j = true → (A j + 1) * 2 ^ j ≤ 256) ∧ R = bsH H 9
theorem p2pos (k : Nat) : 0 < 2 ^ k := Nat.pow_pos (by decide)
theorem p2split {i j : Nat} (h : i ≤ j) : 2 ^ j = 2 ^ i * 2 ^ (j - i) := by rw [← Nat.pow_add]; congr 1; omega
theorem p2le {i j : Nat} (h : i ≤ j) : 2 ^ i ≤ 2 ^ j := Nat.pow_le_pow_right (by decide) h
theorem p2lt {i j : Nat} (h : i < j) : 2 * 2 ^ i ≤ 2 ^ j := by
  have := p2le (show i + 1 ≤ j by omega)
  rw [Nat.pow_succ] at this; omega
theorem divdiv {x i j : Nat} (h : i ≤ j) : x / 2 ^ j = x / 2 ^ i / 2 ^ (j - i) := by rw [Nat.div_div_eq_div_mul, ← p2split h]
theorem inblk {x a k : Nat} (h : x / 2 ^ k = a) : a * 2 ^ k ≤ x ∧ x < (a + 1) * 2 ^ k := by
  subst h
  exact ⟨Nat.div_mul_le_self _ _, Nat.lt_mul_of_div_lt (by omega) (p2pos k)⟩
theorem blkin {x a k : Nat} (h1 : a * 2 ^ k ≤ x) (h2 : x < (a + 1) * 2 ^ k) : x / 2 ^ k = a := by
  have h3 : a ≤ x / 2 ^ k := (Nat.le_div_iff_mul_le (p2pos k)).2 h1
  have h4 : x / 2 ^ k < a + 1 := (Nat.div_lt_iff_lt_mul (p2pos k)).2 h2
  omega
theorem bsH_lt (H : Nat → Bool) : ∀ k, bsH H k < 2 ^ k
  | 0 => by simp [bsH]
  | k + 1 => by
    have := bsH_lt H k
    have e : 2 ^ (k + 1) = 2 * 2 ^ k := by rw [Nat.pow_succ]; omega
    unfold bsH
    split <;> omega
theorem bsH_ge {H : Nat → Bool} {k : Nat} (hk : H k = true) : ∀ m, k < m → 2 ^ k ≤ bsH H m
  | 0, h => by omega
  | m + 1, h => by
    unfold bsH
    by_cases e : k = m
    · subst e; rw [if_pos hk]; omega
    · have := bsH_ge hk m (by omega); omega
theorem bsH_least {H : Nat → Bool} {i : Nat} : ∀ m, 2 ^ i ≤ bsH H m → ∃ j, i ≤ j ∧ j < m ∧ H j = true ∧ ∀ k, i ≤ k → k < j → H k = false
  | 0, h => by
    have := p2pos i
    unfold bsH at h; omega
  | m + 1, h => by
    by_cases h1 : 2 ^ i ≤ bsH H m
    · obtain ⟨j, a, b, c⟩ := bsH_least m h1
      exact ⟨j, a, by omega, c⟩
    · have hm : H m = true := by
        unfold bsH at h
        split at h
        · assumption
        · omega
      refine ⟨m, ?_, by omega, hm, fun k k1 k2 => ?_⟩
      · have h2 := bsH_lt H (m + 1)
        have h3 : 2 ^ i < 2 ^ (m + 1) := by omega
        have := (Nat.pow_lt_pow_iff_right (a := 2) (by decide)).1 h3
        omega
      · cases e : H k
        · rfl
        · have h2 := bsH_ge e m k2
          have h3 := p2le k1
          omega
theorem blk_find {x : Nat} : ∀ n i j a, j = i + n → x / 2 ^ j = a → x / 2 ^ i ≠ a * 2 ^ (j - i) → ∃ m, i ≤ m ∧ m < j ∧ x / 2 ^ m = a * 2 ^ (j - m) + 1
  | 0, i, j, a, e, h1, h2 => by
    obtain rfl : j = i := e
    rw [Nat.sub_self, Nat.pow_zero, Nat.mul_one] at h2
    exact absurd h1 h2
  | n + 1, i, j, a, e, h1, h2 => by
    obtain ⟨q, rfl⟩ : ∃ q, j = q + 1 := ⟨i + n, by omega⟩
    have hq : x / 2 ^ q = 2 * a ∨ x / 2 ^ q = 2 * a + 1 := by
      have : x / 2 ^ (q + 1) = x / 2 ^ q / 2 := by rw [Nat.pow_succ, Nat.div_div_eq_div_mul]
      omega
    rcases hq with hq | hq
    · have h3 : 2 * a * 2 ^ (q - i) = a * 2 ^ (q + 1 - i) := by
        rw [show q + 1 - i = (q - i) + 1 by omega, Nat.pow_succ, Nat.mul_comm 2 a, Nat.mul_assoc, Nat.mul_comm 2]
      obtain ⟨m, m1, m2, m3⟩ := blk_find n i q (2 * a) (by omega) hq (by rw [h3]; exact h2)
      refine ⟨m, m1, by omega, ?_⟩
      rw [m3, show q + 1 - m = (q - m) + 1 by omega, Nat.pow_succ, Nat.mul_comm 2 a, Nat.mul_assoc, Nat.mul_comm 2]
    · exact ⟨q, by omega, by omega, by rw [hq, show q + 1 - q = 1 by omega, Nat.pow_one, Nat.mul_comm]⟩
theorem bsH_key {H H' : Nat → Bool} {i j : Nat} (hij : i ≤ j) (hj : H j = true) (h1 : H' j = false) (h2 : ∀ m, i ≤ m → m < j → H' m = true ∧ H m = false) (h3 : ∀ m, m ≠ j → ¬ (i ≤ m ∧ m < j) → H' m = H m) : ∀ m, (m ≤ i → bsH H' m = bsH H m) ∧ (i ≤ m → m ≤ j → bsH H' m + 2 ^ i = bsH H m + 2 ^ m) ∧ (j < m → bsH H' m + 2 ^ i = bsH H m)
  | 0 => ⟨fun _ => rfl, fun h _ => (by obtain rfl : i = 0 := by omega
                                       rfl), fun h => (by omega)⟩
  | m + 1 => by
    obtain ⟨i1, i2, i3⟩ := bsH_key hij hj h1 h2 h3 m
    have e2 : 2 ^ (m + 1) = 2 * 2 ^ m := by rw [Nat.pow_succ]; omega
    refine ⟨fun h => ?_, fun g1 g2 => ?_, fun h => ?_⟩
    · show bsH H' m + _ = bsH H m + _
      rw [i1 (by omega), h3 m (by omega) (by omega)]
    · show bsH H' m + _ + _ = bsH H m + _ + _
      by_cases h : m + 1 = i
      · rw [i1 (by omega), h3 m (by omega) (by omega), h]
      · have h9 := i2 (by omega) (by omega)
        obtain ⟨q1, q2⟩ := h2 m (by omega) (by omega)
        simp only [q1, q2, if_true]
        simp
        omega
    · show bsH H' m + _ + _ = bsH H m + _
      by_cases h9 : m = j
      · have h8 := i2 (by omega) (by omega)
        subst h9
        simp only [h1, hj, if_true]
        simp
        omega
      · have h8 := i3 (by omega)
        rw [h3 m h9 (by omega)]
        omega
theorem BUD_init : BUD (fun _ => True) 256 := by
  refine ⟨fun j => j == 8, fun _ => 0, fun x hx => ⟨fun _ => ⟨8, by omega, rfl, by show x / 256 = 0; omega⟩, fun _ => trivial⟩, fun i j h1 h2 h3 h4 => ?_, fun j h1 h2 => ?_, by decide⟩
  · simp at h3 h4; omega
  · simp at h2; subst h2; decide
theorem BUD_step {F : Nat → Prop} {R i : Nat} (hF : BUD F R) (hi : i ≤ 8) (hR : 2 ^ i ≤ R) : ∃ v, v < 2 ^ (8 - i) ∧ (∀ x, x < 256 → x / 2 ^ i = v → F x) ∧ (∀ u, u < 2 ^ (8 - i) → (∀ x, x < 256 → x / 2 ^ i = u → F x) → v ≤ u) ∧ BUD (fun x => F x ∧ x / 2 ^ i ≠ v) (R - 2 ^ i) := by
  obtain ⟨H, A, ha, hb, hc, hd⟩ := hF
  subst hd
  obtain ⟨j, j1, j2, j3, j4⟩ := bsH_least 9 hR
  have e256 : 2 ^ (8 - i) * 2 ^ i = 256 := by
    rw [Nat.mul_comm, ← p2split hi]
  have hjv : A j * 2 ^ (j - i) * 2 ^ i = A j * 2 ^ j := by rw [Nat.mul_assoc, Nat.mul_comm (2 ^ (j - i)), ← p2split j1]
  have hin : ∀ x, x / 2 ^ i = A j * 2 ^ (j - i) → x / 2 ^ j = A j := by
    intro x h
    rw [divdiv j1, h, Nat.mul_div_cancel _ (p2pos _)]
  have hdis : ∀ x k1 k2, k1 ≤ 8 → k2 ≤ 8 → H k1 = true → H k2 = true → x / 2 ^ k1 = A k1 → x / 2 ^ k2 = A k2 → k1 = k2 := by
    intro x k1 k2 a1 a2 a3 a4 a5 a6
    have b1 := inblk a5
    have b2 := inblk a6
    rcases Nat.lt_trichotomy k1 k2 with h | h | h
    · have := hb k1 k2 h a2 a3 a4; omega
    · exact h
    · have := hb k2 k1 h a1 a4 a3; omega
  have pj := p2pos j
  have hcj := hc j (by omega) j3
  rw [Nat.add_mul, Nat.one_mul] at hcj
  refine ⟨A j * 2 ^ (j - i), ?_, fun x hx h => (ha x hx).2 ⟨j, by omega, j3, hin x h⟩, fun u hu hall => ?_, ?_⟩
  · apply Nat.lt_of_mul_lt_mul_right (a := 2 ^ i)
    rw [hjv, e256]; omega
  · have hx : u * 2 ^ i < 256 := by
      rw [← e256]; exact Nat.mul_lt_mul_of_pos_right hu (p2pos i)
    have hu1 : u * 2 ^ i + 2 ^ i ≤ 256 := by
      have := Nat.mul_le_mul_right (2 ^ i) (show u + 1 ≤ 2 ^ (8 - i) by omega)
      rw [e256, Nat.add_mul, Nat.one_mul] at this
      exact this
    obtain ⟨k, k1, k2, k3⟩ := (ha _ hx).1 (hall _ hx (Nat.mul_div_cancel _ (p2pos i)))
    by_cases hki : i ≤ k
    · have hkj : j ≤ k := by
        apply Nat.le_of_not_lt
        intro h
        rw [j4 k hki h] at k2; cases k2
      have b := (inblk k3).1
      have h2 : A j * 2 ^ j ≤ A k * 2 ^ k := by
        by_cases h : j = k
        · subst h; exact Nat.le_refl _
        · have := hb j k (by omega) k1 j3 k2
          rw [Nat.add_mul] at this; omega
      apply Nat.le_of_mul_le_mul_right (c := 2 ^ i) _ (p2pos i)
      rw [hjv]; omega
    · exfalso
      have hkl := p2lt (show k < i by omega)
      have pk := p2pos k
      have ek : u * 2 ^ i = (u * 2 ^ (i - k)) * 2 ^ k := by rw [Nat.mul_assoc, Nat.mul_comm (2 ^ (i - k)), ← p2split (by omega)]
      have eA : A k = u * 2 ^ (i - k) := by rw [← k3, ek, Nat.mul_div_cancel _ pk]
      have eA2 : A k * 2 ^ k = u * 2 ^ i := by rw [eA, ek]
      obtain ⟨m, m1, m2, m3⟩ := (ha (u * 2 ^ i + 2 ^ k) (by omega)).1 (hall _ (by omega) (blkin (by omega) (by rw [Nat.add_mul, Nat.one_mul]; omega)))
      have bm := inblk m3
      rcases Nat.lt_trichotomy m k with h | h | h
      · have := hb m k h k1 m2 k2
        omega
      · subst h
        have bk := bm.2
        rw [Nat.add_mul, Nat.one_mul] at bk; omega
      · have h5 := hb k m h m1 k2 m2
        have h6 : A m * 2 ^ m = (A k + 1) * 2 ^ k := by
          rw [Nat.add_mul, Nat.one_mul] at h5 ⊢; omega
        rw [p2split (show k ≤ m by omega), Nat.mul_comm (2 ^ k), ← Nat.mul_assoc] at h6
        have h7 := Nat.eq_of_mul_eq_mul_right pk h6
        rw [show m - k = (m - k - 1) + 1 by omega, Nat.pow_succ, ← Nat.mul_assoc] at h7
        rw [eA, show i - k = (i - k - 1) + 1 by omega, Nat.pow_succ, ← Nat.mul_assoc] at h7
        omega
  · have hnew : ∀ m, i ≤ m → m < j → (A j * 2 ^ (j - m) + 1) * 2 ^ m = A j * 2 ^ j + 2 ^ m := by
      intro m m1 m2
      rw [Nat.add_mul, Nat.one_mul, Nat.mul_assoc, Nat.mul_comm (2 ^ (j - m)), ← p2split (by omega)]
    refine ⟨fun m => if m = j then false else if i ≤ m ∧ m < j then true else H m, fun m => if i ≤ m ∧ m < j then A j * 2 ^ (j - m) + 1 else A m, fun x hx => ⟨fun ⟨h1, h2⟩ => ?_, fun ⟨m, m1, m2, m3⟩ => ?_⟩, fun a b h1 h2 h3 h4 => ?_, fun m m1 m2 => ?_, ?_⟩
    · obtain ⟨k, k1, k2, k3⟩ := (ha x hx).1 h1
      by_cases hk : k = j
      · subst hk
        obtain ⟨m, m1, m2, m3⟩ := blk_find (k - i) i k (A k) (by omega) k3 h2
        exact ⟨m, by omega, by simp [show m ≠ k by omega, m1, m2], by simp [m1, m2, m3]⟩
      · have hn : ¬ (i ≤ k ∧ k < j) := by
          intro ⟨p, q⟩
          rw [j4 k p q] at k2; cases k2
        exact ⟨k, k1, by simp only [hk, hn, if_false]; exact k2, by simp only [hn, if_false]; exact k3⟩
    · by_cases hm : m = j
      · simp [hm] at m2
      · by_cases hn : i ≤ m ∧ m < j
        · simp only [hn, and_self, if_true] at m3
          have e1 : x / 2 ^ j = A j := by
            rw [divdiv (show m ≤ j by omega), m3]
            have : 2 ≤ 2 ^ (j - m) := by
              have := p2lt (show 0 < j - m by omega); omega
            rw [Nat.mul_comm, Nat.mul_add_div (by omega), Nat.div_eq_of_lt (by omega)]; omega
          refine ⟨(ha x hx).2 ⟨j, by omega, j3, e1⟩, fun h => ?_⟩
          have : x / 2 ^ m = A j * 2 ^ (j - m) := by
            rw [divdiv hn.1, h, show j - i = (m - i) + (j - m) by omega, Nat.pow_add, Nat.mul_comm (2 ^ (m - i)), ← Nat.mul_assoc, Nat.mul_div_cancel _ (p2pos _)]
          omega
        · simp only [hm, hn, if_false] at m2 m3
          refine ⟨(ha x hx).2 ⟨m, m1, m2, m3⟩, fun h => hm (hdis x m j m1 (by omega) m2 j3 m3 (hin x h))⟩
    · by_cases ea : a = j
      · simp [ea] at h3
      · by_cases eb : b = j
        · simp [eb] at h4
        · simp only [ea, eb, if_false] at h3 h4
          by_cases na : i ≤ a ∧ a < j
          · by_cases nb : i ≤ b ∧ b < j
            · simp only [na, nb, and_self, if_true]
              rw [show A j * 2 ^ (j - a) + 1 + 1 = (A j * 2 ^ (j - a) + 1) + 1 from rfl, Nat.add_mul, Nat.one_mul, hnew a na.1 na.2, hnew b nb.1 nb.2]
              have := p2lt h1; omega
            · simp only [na, nb, and_self, if_true, if_false] at h4 ⊢
              rw [Nat.add_mul, Nat.one_mul, hnew a na.1 na.2]
              have := p2lt na.2
              have h5 := hb j b (by omega) h2 j3 h4
              rw [Nat.add_mul, Nat.one_mul] at h5
              omega
          · by_cases nb : i ≤ b ∧ b < j
            · simp only [na, nb, and_self, if_true, if_false] at h3 ⊢
              rw [hnew b nb.1 nb.2]
              have h5 := hb a j (by omega) (by omega) h3 j3
              have := p2pos b
              omega
            · simp only [na, nb, if_false] at h3 h4 ⊢
              exact hb a b h1 h2 h3 h4
    · by_cases em : m = j
      · simp [em] at m2
      · by_cases nm : i ≤ m ∧ m < j
        · simp only [nm, and_self, if_true]
          rw [Nat.add_mul, Nat.one_mul, hnew m nm.1 nm.2]
          have := p2lt nm.2
          omega
        · simp only [em, nm, if_false] at m2 ⊢
          exact hc m m1 m2
    · have := bsH_key (H := H) (H' := fun m => if m = j then false else if i ≤ m ∧ m < j then true else H m) j1 j3 (by simp) (fun m m1 m2 => ⟨by simp only [show m ≠ j by omega, m1, m2, and_self, if_true, if_false], j4 m m1 m2⟩) (fun m m1 m2 => by simp only [m1, m2, if_false]) 9
      have := this.2.2 (by omega)
      omega

/-- a word of entry e that no word before it meets -/
def fre (ln cd : Nat → Nat) (e v : Nat) : Prop := ∀ j, j < e → 0 < ln j → v / 2 ^ (ln e - min (ln e) (ln j)) ≠ cd j / 2 ^ (ln j - min (ln e) (ln j))
def GRE (ln cd : Nat → Nat) (E : Nat) : Prop := ∀ e, e < E → (ln e = 0 → cd e = 0) ∧ (0 < ln e → cd e < 2 ^ ln e ∧ fre ln cd e (cd e) ∧ ∀ u, u < cd e → ¬ fre ln cd e u)
def krs (ln : Nat → Nat) : Nat → Nat
  | 0 => 0
  | k + 1 => krs ln k + (if 0 < ln k then 2 ^ (8 - ln k) else 0)
def frc (ln cd : Nat → Nat) (e x : Nat) : Prop := ∀ j, j < e → 0 < ln j → x / 2 ^ (8 - ln j) ≠ cd j
theorem clash_iff {l m v c : Nat} (hl : l ≤ 8) (hm : m ≤ 8) (hv : v < 2 ^ l) (hc : c < 2 ^ m) : v / 2 ^ (l - min l m) = c / 2 ^ (m - min l m) ↔ ∃ x, x < 256 ∧ x / 2 ^ (8 - l) = v ∧ x / 2 ^ (8 - m) = c := by
  have e1 : 2 ^ (8 - l) * 2 ^ l = 256 := by rw [← Nat.pow_add, show 8 - l + l = 8 by omega]
  have e2 : 2 ^ (8 - m) * 2 ^ m = 256 := by rw [← Nat.pow_add, show 8 - m + m = 8 by omega]
  by_cases h : l ≤ m
  · rw [Nat.min_eq_left h, Nat.sub_self, Nat.pow_zero, Nat.div_one]
    constructor
    · intro q
      refine ⟨c * 2 ^ (8 - m), ?_, ?_, Nat.mul_div_cancel _ (p2pos _)⟩
      · rw [← e2, Nat.mul_comm]; exact Nat.mul_lt_mul_of_pos_left hc (p2pos _)
      · rw [show 8 - l = (8 - m) + (m - l) by omega, Nat.pow_add, ← Nat.div_div_eq_div_mul, Nat.mul_div_cancel _ (p2pos _)]; exact q.symm
    · rintro ⟨x, x1, rfl, rfl⟩
      rw [Nat.div_div_eq_div_mul, ← Nat.pow_add, show 8 - m + (m - l) = 8 - l by omega]
  · have h' : m ≤ l := by omega
    rw [Nat.min_eq_right h', Nat.sub_self, Nat.pow_zero, Nat.div_one]
    constructor
    · intro q
      refine ⟨v * 2 ^ (8 - l), ?_, Nat.mul_div_cancel _ (p2pos _), ?_⟩
      · rw [← e1, Nat.mul_comm]; exact Nat.mul_lt_mul_of_pos_left hv (p2pos _)
      · rw [show 8 - m = (8 - l) + (l - m) by omega, Nat.pow_add, ← Nat.div_div_eq_div_mul, Nat.mul_div_cancel _ (p2pos _)]; exact q
    · rintro ⟨x, x1, rfl, rfl⟩
      rw [Nat.div_div_eq_div_mul, ← Nat.pow_add, show 8 - l + (l - m) = 8 - m by omega]
theorem fre_iff {ln cd : Nat → Nat} {e v : Nat} (hln : ∀ j, j ≤ e → ln j ≤ 8) (hcd : ∀ j, j < e → 0 < ln j → cd j < 2 ^ ln j) (hv : v < 2 ^ ln e) : fre ln cd e v ↔ ∀ x, x < 256 → x / 2 ^ (8 - ln e) = v → frc ln cd e x := by
  constructor
  · intro h x hx hxv j hj hp hc
    exact h j hj hp ((clash_iff (hln e (by omega)) (hln j (by omega)) hv (hcd j hj hp)).2 ⟨x, hx, hxv, hc⟩)
  · intro h j hj hp hc
    obtain ⟨x, x1, x2, x3⟩ := (clash_iff (hln e (by omega)) (hln j (by omega)) hv (hcd j hj hp)).1 hc
    exact h x x1 x2 j hj hp x3
theorem BUD_congr {F G : Nat → Prop} {R : Nat} (h : ∀ x, x < 256 → (F x ↔ G x)) (hF : BUD F R) : BUD G R := by
  obtain ⟨H, A, a, b⟩ := hF
  exact ⟨H, A, fun x hx => (h x hx).symm.trans (a x hx), b⟩
theorem words_exist {ln : Nat → Nat} : ∀ E, (∀ e, e < E → ln e ≤ 8) → krs ln E ≤ 256 → ∃ cd, GRE ln cd E ∧ BUD (frc ln cd E) (256 - krs ln E)
  | 0, _, _ => ⟨fun _ => 0, fun e he => (by omega), BUD_congr (fun x _ => ⟨fun _ j hj => (by omega), fun _ => trivial⟩) BUD_init⟩
  | E + 1, hl, hk => by
    have hk' : krs ln E + (if 0 < ln E then 2 ^ (8 - ln E) else 0) ≤ 256 := hk
    obtain ⟨cd, g, b⟩ := words_exist E (fun e he => hl e (by omega)) (by omega)
    have cong : ∀ v e u, e ≤ E → (fre ln (fun j => if j = E then v else cd j) e u ↔ fre ln cd e u) := by
      intro v e u he
      unfold fre
      constructor
      · intro h j hj hp
        have := h j hj hp
        simp only [show j ≠ E by omega, if_false] at this
        exact this
      · intro h j hj hp
        simp only [show j ≠ E by omega, if_false]
        exact h j hj hp
    have old : ∀ v e, e < E → (ln e = 0 → (fun j => if j = E then v else cd j) e = 0) ∧ (0 < ln e → (fun j => if j = E then v else cd j) e < 2 ^ ln e ∧ fre ln (fun j => if j = E then v else cd j) e ((fun j => if j = E then v else cd j) e) ∧ ∀ u, u < (fun j => if j = E then v else cd j) e → ¬ fre ln (fun j => if j = E then v else cd j) e u) := by
      intro v e he
      obtain ⟨g1, g2⟩ := g e he
      simp only [show e ≠ E by omega, if_false]
      refine ⟨g1, fun hp => ?_⟩
      obtain ⟨a1, a2, a3⟩ := g2 hp
      exact ⟨a1, (cong v e _ (by omega)).2 a2, fun u hu h => a3 u hu ((cong v e u (by omega)).1 h)⟩
    by_cases hp : 0 < ln E
    · rw [if_pos hp] at hk'
      obtain ⟨v, v1, v2, v3, v4⟩ := BUD_step b (i := 8 - ln E) (by omega) (by omega)
      have hle := hl E (by omega)
      rw [show 8 - (8 - ln E) = ln E by omega] at v1 v3
      have hcd : ∀ j, j < E → 0 < ln j → cd j < 2 ^ ln j := fun j hj h => ((g j hj).2 h).1
      have fi : ∀ u, u < 2 ^ ln E → _ := fun u hu => fre_iff (ln := ln) (cd := cd) (e := E) (v := u) (fun j hj => hl j (by omega)) hcd hu
      refine ⟨fun j => if j = E then v else cd j, fun e he => ?_, ?_⟩
      · by_cases hE : e = E
        · subst hE
          refine ⟨fun h => (by omega), fun _ => ?_⟩
          simp only [if_true]
          refine ⟨v1, (cong v e v (by omega)).2 ((fi v v1).2 v2), fun u hu h => ?_⟩
          have := v3 u (by omega) ((fi u (by omega)).1 ((cong v e u (by omega)).1 h))
          omega
        · exact old v e (by omega)
      · have ek : krs ln (E + 1) = krs ln E + 2 ^ (8 - ln E) := by show krs ln E + _ = _; rw [if_pos hp]
        rw [ek, ← Nat.sub_sub]
        refine BUD_congr (fun x hx => ⟨fun ⟨h1, h2⟩ j hj hpj => ?_, fun h => ⟨fun j hj hpj => ?_, ?_⟩⟩) v4
        · by_cases hE : j = E
          · subst hE; simp only [if_true]; exact h2
          · simp only [hE, if_false]; exact h1 j (by omega) hpj
        · have := h j (by omega) hpj
          simp only [show j ≠ E by omega, if_false] at this
          exact this
        · have := h E (by omega) hp
          simp only [if_true] at this
          exact this
    · refine ⟨fun j => if j = E then 0 else cd j, fun e he => ?_, ?_⟩
      · by_cases hE : e = E
        · subst hE
          exact ⟨fun _ => by simp, fun h => absurd h hp⟩
        · exact old 0 e (by omega)
      · have ek : krs ln (E + 1) = krs ln E := by show krs ln E + _ = _; rw [if_neg hp]; omega
        rw [ek]
        refine BUD_congr (fun x hx => ⟨fun h j hj hpj => ?_, fun h j hj hpj => ?_⟩) b
        · by_cases hE : j = E
          · subst hE; exact absurd hpj hp
          · simp only [hE, if_false]; exact h j (by omega) hpj
        · have := h j (by omega) hpj
          simp only [show j ≠ E by omega, if_false] at this
          exact this
theorem words_cover {ln cd : Nat → Nat} {E x : Nat} (hb : BUD (frc ln cd E) 0) (hx : x < 256) : ∃ e, e < E ∧ 0 < ln e ∧ x / 2 ^ (8 - ln e) = cd e := by
  obtain ⟨H, A, a, b, c, d⟩ := hb
  apply Classical.byContradiction
  intro hn
  have hf : frc ln cd E x := fun j hj hp h => hn ⟨j, hj, hp, h⟩
  obtain ⟨j, j1, j2, j3⟩ := (a x hx).1 hf
  have := bsH_ge j2 9 (by omega)
  have := p2pos j
  omega
