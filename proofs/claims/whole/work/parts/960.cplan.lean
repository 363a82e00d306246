-- the plan of the curves is read
def sbO (x : Nat) : Option Nat := if x = 0 then none else some (x - 1)
theorem sbO_v (x : Nat) : nI x - 1 = nO (sbO x) := by
  unfold sbO
  by_cases h : x = 0
  · subst h; rw [if_pos rfl]; decide
  · rw [if_neg h]
    show nI x - nI 1 = nI (x - 1)
    rw [pk_sub (by omega)]
def kz (p : PK) (u : RS) : Nat := rdV p 2 u + 1
def ku2 (p : PK) (u : RS) : RS := rdS p 1 (rdS p 2 u)
def ksp (p : PK) (u : RS) : Bool := spB p (rdS p 2 u)
def kms (p : PK) (u : RS) : Nat := rdV p 2 (ku2 p u)
def ku3 (p : PK) (u : RS) : RS := if ksp p u = true then rdS p 2 (ku2 p u) else ku2 p u
def ku4 (p : PK) (u : RS) : RS := rdS p 3 (ku3 p u)
def ku5 (p : PK) (u : RS) : RS := if ksp p u = true then rdS p 3 (ku4 p u) else ku4 p u
def ksb (p : PK) (u : RS) (q : Nat) : Option Nat := if q = 0 then sbO (rdV p 3 (ku3 p u)) else sbO (rdV p 3 (ku4 p u))
def kOK (p : PK) (B : Nat) (u : RS) : Prop := (ksp p u = true → kms p u < B) ∧ (∀ m, ksb p u 0 = some m → m < B) ∧ (ksp p u = true → ∀ m, ksb p u 1 = some m → m < B)
def cvg (p : PK) (s : RS) : Nat := rdV p 2 s
def cvP (p : PK) (s : RS) : Nat := rdV p 2 (rdS p 2 s)
def cv2 (p : PK) (s : RS) : RS := rdS p 2 (rdS p 2 s)
def cvl (p : PK) (s : RS) (k : Nat) : Nat := rdV p 1 (itS p 1 (cv2 p s) k)
def cvn (p : PK) (s : RS) : Nat → Nat
  | 0 => 0
  | k + 1 => max (cvn p s k) (cvl p s k + 1)
def cvC (p : PK) (s : RS) : Nat := cvn p s (cvP p s)
def cv3 (p : PK) (s : RS) : RS := itS p 1 (cv2 p s) (cvP p s)
def cvk (p : PK) (s : RS) : Nat → RS
  | 0 => cv3 p s
  | q + 1 => ku5 p (cvk p s q)
def cv4 (p : PK) (s : RS) : RS := cvk p s (cvC p s)
def cvw (p : PK) (s : RS) : Nat := rdV p 2 (cv4 p s) + 2
def cv5 (p : PK) (s : RS) : RS := rdS p 2 (cv4 p s)
def cvp (p : PK) (s : RS) : Nat → Nat
  | 0 => 0
  | 1 => 2 ^ cvw p s
  | i + 2 => rdV p (cvw p s) (itS p (cvw p s) (cv5 p s) i)
def cvm (p : PK) (s : RS) (k : Nat) : Nat := smN (fun k => kz p (cvk p s (cvl p s k))) k
def cvN (p : PK) (s : RS) : Nat := 2 + cvm p s (cvP p s)
def cv6 (p : PK) (s : RS) : RS := itS p (cvw p s) (cv5 p s) (cvm p s (cvP p s))
def DST (f : Nat → Nat) (n : Nat) : Prop := ∀ i j, i < j → j < n → f i ≠ f j
def CVO (p : PK) (B : Nat) (s : RS) : Prop := (∀ q, q < cvC p s → kOK p B (cvk p s q)) ∧ DST (cvp p s) (cvN p s)
def cvD (p : PK) (s : RS) : CD := (cvg p s, cvP p s, cvN p s, cvC p s, cvl p s, fun q => kz p (cvk p s q), fun q => ksp p (cvk p s q), fun q => kms p (cvk p s q), fun q => ksb p (cvk p s q), cvp p s)
section CPLAN
variable {θ : TH} {V : VT} {U : UT} {sw : Bool} {p : PK} {s u : RS} {c B : Nat}
theorem cvl_lt (k : Nat) : cvl p s k < 2 := by
  have := rdV_lt p 1 (itS p 1 (cv2 p s) k); unfold cvl; omega
theorem cvn_le : ∀ k, cvn p s k ≤ 2
  | 0 => Nat.zero_le _
  | k + 1 => by
    have h1 := cvn_le k
    have h2 := cvl_lt (p := p) (s := s) k
    show max (cvn p s k) (cvl p s k + 1) ≤ 2
    omega
theorem cvn_gt : ∀ {k j : Nat}, j < k → cvl p s j < cvn p s k
  | 0, j, h => by omega
  | k + 1, j, h => by
    show _ < max (cvn p s k) (cvl p s k + 1)
    by_cases e : j = k
    · subst e; omega
    · have := cvn_gt (show j < k by omega); omega
theorem kz_b : 1 ≤ kz p u ∧ kz p u ≤ 4 := by
  have := rdV_lt p 2 u
  unfold kz; omega
theorem cvP_lt : cvP p s < 4 := rdV_lt p 2 _
theorem cvm_le : ∀ k, cvm p s k ≤ 4 * k
  | 0 => Nat.le_refl _
  | k + 1 => by
    have h1 := cvm_le k
    have h2 := (kz_b (p := p) (u := cvk p s (cvl p s k))).2
    show cvm p s k + kz p (cvk p s (cvl p s k)) ≤ _
    omega
theorem cvm_mono : ∀ {k j : Nat}, j ≤ k → cvm p s j ≤ cvm p s k
  | 0, j, h => by obtain rfl : j = 0 := by omega
                  exact Nat.le_refl _
  | k + 1, j, h => by
    by_cases e : j = k + 1
    · subst e; exact Nat.le_refl _
    · have := cvm_mono (show j ≤ k by omega)
      show _ ≤ cvm p s k + _
      omega
theorem cvw_b : 2 ≤ cvw p s ∧ cvw p s ≤ 5 := by
  have := rdV_lt p 2 (cv4 p s)
  unfold cvw; omega
theorem ku2_ok (h : u.1 ≤ 8 * p.L) : (ku2 p u).1 ≤ 8 * p.L := rdS_ok _ (rdS_ok _ h)
theorem ku3_ok (h : u.1 ≤ 8 * p.L) : (ku3 p u).1 ≤ 8 * p.L := by
  unfold ku3; split
  · exact rdS_ok _ (ku2_ok h)
  · exact ku2_ok h
theorem ku4_ok (h : u.1 ≤ 8 * p.L) : (ku4 p u).1 ≤ 8 * p.L := rdS_ok _ (ku3_ok h)
theorem ku5_ok (h : u.1 ≤ 8 * p.L) : (ku5 p u).1 ≤ 8 * p.L := by
  unfold ku5; split
  · exact rdS_ok _ (ku4_ok h)
  · exact ku4_ok h
theorem cv2_ok (h : s.1 ≤ 8 * p.L) : (cv2 p s).1 ≤ 8 * p.L := rdS_ok _ (rdS_ok _ h)
theorem cvk_ok (h : s.1 ≤ 8 * p.L) : ∀ q, (cvk p s q).1 ≤ 8 * p.L
  | 0 => itS_ok (cv2_ok h) _
  | q + 1 => ku5_ok (cvk_ok h q)
theorem cv5_ok (h : s.1 ≤ 8 * p.L) : (cv5 p s).1 ≤ 8 * p.L := rdS_ok _ (cvk_ok h _)
theorem cv6_ok (h : s.1 ≤ 8 * p.L) : (cv6 p s).1 ≤ 8 * p.L := itS_ok (cv5_ok h) _
theorem CVO_P (h : CVO p B s) : CPP (cvD p s) B := by
  obtain ⟨h1, h2⟩ := h
  have hP := cvP_lt (p := p) (s := s)
  have hg := rdV_lt p 2 s
  have hw := cvw_b (p := p) (s := s)
  have hw5 : 2 ^ cvw p s ≤ 2 ^ 5 := p2le hw.2
  have hp0 := p2pos (cvw p s)
  refine ⟨by show rdV p 2 s ≤ 3; omega, by show cvP p s ≤ 3; omega, cvn_le _, fun k hk => cvn_gt hk, fun q hq => ⟨kz_b.1, kz_b.2, (h1 q hq).1, (h1 q hq).2.1, (h1 q hq).2.2⟩, rfl, rfl, by show 2 ^ cvw p s ≤ 32; omega, fun i hi hi1 => ?_, fun i j hi hj e => ?_⟩
  · show cvp p s i < 2 ^ cvw p s
    cases i with
    | zero => exact hp0
    | succ i =>
      cases i with
      | zero => exact absurd rfl hi1
      | succ i => exact rdV_lt _ _ _
  · rcases Nat.lt_trichotomy i j with q | q | q
    · exact absurd e (h2 i j q hj)
    · exact q
    · exact absurd e.symm (h2 j i q hi)
theorem cpU (hθ : OKt θ) (hU : US θ sw U) (hc : c = 68 ∨ c = 84) : isO θ (tb θ + c) 9 ∧ U (tb θ + c) 2 = tb θ + (c + 1) ∧ U (tb θ + c) 3 = tb θ + (c + 2) ∧ U (tb θ + c) 4 = tb θ + (c + 3) ∧ U (tb θ + c) 5 = tb θ + (c + 4) ∧ U (tb θ + c) 6 = tb θ + (c + 5) ∧ U (tb θ + c) 8 = tb θ + (c + 6) ∧ U (tb θ + c) 9 = tb θ + (c + 7) ∧ U (tb θ + c) 10 = tb θ + (c + 8) ∧ U (tb θ + c) 11 = tb θ + (c + 9) ∧ (∀ m, isA θ (tb θ + (c + 1)) 0 m ↔ m = 3) ∧ (∀ m, isA θ (tb θ + (c + 2)) 0 m ↔ m = 2) ∧ (∀ m, isA θ (tb θ + (c + 3)) 1 m ↔ m = 2) ∧ (∀ m, isA θ (tb θ + (c + 4)) 0 m ↔ m = 2) ∧ (∀ m, isA θ (tb θ + (c + 5)) 0 m ↔ m = 4) ∧ (∀ m, isA θ (tb θ + (c + 6)) 0 m ↔ m = 14) ∧ (∀ m, isA θ (tb θ + (c + 7)) 0 m ↔ m = 14) ∧ (∀ m, isA θ (tb θ + (c + 8)) 0 m ↔ m = 14) ∧ (∀ m, isA θ (tb θ + (c + 9)) 1 m ↔ m = 14) ∧ isO θ (tb θ + 25) 7 := by
  rcases hc with rfl | rfl
  · exact ⟨kO hθ (by decide) rfl, uq hU (by cases sw <;> decide +kernel), uq hU (by cases sw <;> decide +kernel), uq hU (by cases sw <;> decide +kernel), uq hU (by cases sw <;> decide +kernel), uq hU (by cases sw <;> decide +kernel), uq hU (by cases sw <;> decide +kernel), uq hU (by cases sw <;> decide +kernel), uq hU (by cases sw <;> decide +kernel), uq hU (by cases sw <;> decide +kernel), kA hθ (by decide) rfl, kA hθ (by decide) rfl, kA hθ (by decide) rfl, kA hθ (by decide) rfl, kA hθ (by decide) rfl, kA hθ (by decide) rfl, kA hθ (by decide) rfl, kA hθ (by decide) rfl, kA hθ (by decide) rfl, kO hθ (by decide) rfl⟩
  · exact ⟨kO hθ (by decide) rfl, uq hU (by cases sw <;> decide +kernel), uq hU (by cases sw <;> decide +kernel), uq hU (by cases sw <;> decide +kernel), uq hU (by cases sw <;> decide +kernel), uq hU (by cases sw <;> decide +kernel), uq hU (by cases sw <;> decide +kernel), uq hU (by cases sw <;> decide +kernel), uq hU (by cases sw <;> decide +kernel), uq hU (by cases sw <;> decide +kernel), kA hθ (by decide) rfl, kA hθ (by decide) rfl, kA hθ (by decide) rfl, kA hθ (by decide) rfl, kA hθ (by decide) rfl, kA hθ (by decide) rfl, kA hθ (by decide) rfl, kA hθ (by decide) rfl, kA hθ (by decide) rfl, kO hθ (by decide) rfl⟩
/-- what is written of one kind of part -/
def clW (θ : TH) (V : VT) (c : Nat) (p : PK) (u : RS) (q : Nat) : VT := up2 (up2 (up2 (up2 (up2 V (tb θ + (c + 2)) q (nI (kz p u))) (tb θ + (c + 3)) q (bZ (ksp p u))) (tb θ + (c + 4)) q (if ksp p u = true then nI (kms p u) else -1)) (tb θ + (c + 5)) (2 * q) (nO (ksb p u 0))) (tb θ + (c + 5)) (2 * q + 1) (if ksp p u = true then nO (ksb p u 1) else -1)
theorem nO_lt {o : Option Nat} (hB : B ≤ 4) (ho : ∀ m, o = some m → m < 8) : (nI B ≤ nO o ↔ ¬ ∀ m, o = some m → m < B) := by
  cases o with
  | none =>
    constructor
    · intro h
      exact absurd h (by have : B = 0 ∨ B = 1 ∨ B = 2 ∨ B = 3 ∨ B = 4 := by omega
                         rcases this with rfl | rfl | rfl | rfl | rfl <;> decide)
    · intro h; exact absurd (fun m e => by cases e) h
  | some x =>
    have := ho x rfl
    show nI B ≤ nI x ↔ _
    rw [nI_leI (by omega) (by omega)]
    constructor
    · intro h g; have := g x rfl; omega
    · intro h
      apply Nat.le_of_not_lt
      intro g
      exact h (fun m e => by cases e; exact g)
theorem sbO_lt {x m : Nat} (hx : x < 8) (h : sbO x = some m) : m < 8 := by
  unfold sbO at h
  split at h
  · cases h
  · cases h; omega
theorem ksb_lt {q m : Nat} (h : ksb p u q = some m) : m < 8 := by
  unfold ksb at h
  split at h
  · exact sbO_lt (rdV_lt p 3 _) h
  · exact sbO_lt (rdV_lt p 3 _) h
theorem s_class {K : Int32 → VT → UT → Prop} (hθ : OKt θ) (hU : US θ sw U) (hc : c = 68 ∨ c = 84) (hp : HP θ V p) (hu : u.1 ≤ 8 * p.L) (hB : B ≤ 4) {q : Nat} (hq : q < 2) (h1 : kOK p B u → K 1 (cS θ (clW θ V c p u q) (ku5 p u)) U) (h0 : ¬ kOK p B u → K 0 (cS θ (clW θ V c p u q) (ku5 p u)) U) : wp_C_loadClass θ (tb θ + c) (tb θ + 25) (nI q) (nI B) (cS θ V u) U K := by
  unfold wp_C_loadClass
  simp only [cpU hθ hU hc, true_and, exists_eq_left]
  have hin : vp_in (nI q) 2 := vp_in_nI (by omega) (by decide)
  have hne : ∀ x : Nat, tb θ + (c + x) ≠ 0 := fun x => by omega
  refine ⟨by omega, s_read hθ hU hp hu (k := 2) (by decide) ⟨hin, fun V10 h10 => ?_⟩⟩
  rw [nI_1, nI_clamp (show q < 2 ^ 31 by omega), cS_up (by omega)] at h10
  subst h10
  simp only [cpU hθ hU hc, true_and, exists_eq_left]
  have hp1 : HP θ (up2 V (tb θ + (c + 2)) q (nI (kz p u))) p := hp.up (by omega) (by omega)
  refine ⟨by omega, s_flag hθ hU hp1 (rdS_ok 2 hu) ?_⟩
  have ez : nI (rdV p 1 (rdS p 2 u)) = bZ (ksp p u) := by
    unfold ksp spB
    rcases rdV1 p (rdS p 2 u) with z | z <;> rw [z] <;> rfl
  rw [ez]
  refine ⟨hin, bZ_Z _, fun V19 h19 => ?_⟩
  rw [nI_clamp (show q < 2 ^ 31 by omega), cS_up (by omega)] at h19
  subst h19
  simp only [cpU hθ hU hc, true_and, exists_eq_left]
  rw [nI_clamp (show q < 2 ^ 31 by omega), cS_ne (show tb θ + (c + 3) ≠ tb θ + 25 by omega), up2_aa]
  have hp2 : HP θ (up2 (up2 V (tb θ + (c + 2)) q (nI (kz p u))) (tb θ + (c + 3)) q (bZ (ksp p u))) p := hp1.up (by omega) (by omega)
  -- the end
  have last : ∀ (W : VT) (x y : Int32), x = nO (ksb p u 0) → y = (if ksp p u = true then nO (ksb p u 1) else -1) → W = up2 (up2 (up2 V (tb θ + (c + 2)) q (nI (kz p u))) (tb θ + (c + 3)) q (bZ (ksp p u))) (tb θ + (c + 4)) q (if ksp p u = true then nI (kms p u) else -1) → wb_C_loadClass_76 θ (tb θ + c) (nI q) (nI B) x y K (cS θ W (ku5 p u)) U := by
    intro W x y hx hy hW
    unfold wb_C_loadClass_76 wb_C_loadClass_126
    simp only [cpU hθ hU hc, true_and, exists_eq_left]
    rw [show nI q * (2 : Int32) = nI (2 * q) by rw [show (2 : Int32) = nI 2 from rfl, pk_mul, Nat.mul_comm], nI_1, nI_clamp (show 2 * q < 2 ^ 31 by omega), nI_clamp (show 2 * q + 1 < 2 ^ 31 by omega), nI_clamp (show q < 2 ^ 31 by omega)]
    refine ⟨by omega, vp_in_nI (by omega) (by decide), fun V52 h52 => ⟨vp_in_nI (by omega) (by decide), fun V54 h54 => ⟨by omega, hin, ?_⟩⟩⟩
    rw [cS_up (by omega)] at h52
    rw [h52, cS_up (by omega), hx, hy, hW] at h54
    rw [h54]
    show _ ∧ _
    have hm : cS θ (clW θ V c p u q) (ku5 p u) (tb θ + (c + 4)) q = (if ksp p u = true then nI (kms p u) else -1) := by
      rw [cS_ne (by omega)]; unfold clW
      rw [up2_ne (by omega), up2_ne (by omega), up2_aa]
    have hm' : nI B ≤ (if ksp p u = true then nI (kms p u) else -1) ↔ ¬ (ksp p u = true → kms p u < B) := by
      have hms := rdV_lt p 2 (ku2 p u)
      cases hsp : ksp p u
      · have := nO_lt (o := none) hB (fun m e => by cases e)
        simp only [Bool.false_eq_true, if_false, false_implies]
        constructor
        · intro g; exact absurd (fun m e => by cases e) (this.1 g)
        · intro g; exact absurd trivial g
      · simp only [if_true, true_implies]
        rw [nI_leI (by omega) (by show rdV p 2 (ku2 p u) < _; omega)]
        omega
    have ha := nO_lt (B := B) hB (fun m => ksb_lt (p := p) (u := u) (q := 0) (m := m))
    have hb : nI B ≤ (if ksp p u = true then nO (ksb p u 1) else -1) ↔ ¬ (ksp p u = true → ∀ m, ksb p u 1 = some m → m < B) := by
      cases hsp : ksp p u
      · have := nO_lt (o := none) hB (fun m e => by cases e)
        simp only [Bool.false_eq_true, if_false, false_implies]
        constructor
        · intro g; exact absurd (fun m e => by cases e) (this.1 g)
        · intro g; exact absurd trivial g
      · simp only [if_true, true_implies]
        exact nO_lt hB (fun m => ksb_lt)
    rw [show cS θ (up2 (up2 (up2 (up2 (up2 V (tb θ + (c + 2)) q (nI (kz p u))) (tb θ + (c + 3)) q (bZ (ksp p u))) (tb θ + (c + 4)) q (if ksp p u = true then nI (kms p u) else -1)) (tb θ + (c + 5)) (2 * q) (nO (ksb p u 0))) (tb θ + (c + 5)) (2 * q + 1) (if ksp p u = true then nO (ksb p u 1) else -1)) (ku5 p u) = cS θ (clW θ V c p u q) (ku5 p u) from rfl, hm, hx, hy, hm', ha, hb]
    refine ⟨fun z => h0 (fun k => z k.1), fun z => ⟨fun z2 => h0 (fun k => z2 k.2.1), fun z2 => ⟨fun z3 => h0 (fun k => z3 k.2.2), fun z3 => h1 ⟨Classical.not_not.1 z, Classical.not_not.1 z2, Classical.not_not.1 z3⟩⟩⟩⟩
  have mid : ∀ x : Int32, x = (if ksp p u = true then nI (kms p u) else -1) → wb_C_loadClass_46 θ (tb θ + c) (tb θ + 25) (nI q) (nI B) x (nI q) (tb θ + (c + 4)) K (cS θ (up2 (up2 V (tb θ + (c + 2)) q (nI (kz p u))) (tb θ + (c + 3)) q (bZ (ksp p u))) (ku3 p u)) U := by
    intro x hx
    unfold wb_C_loadClass_46
    simp only [cpU hθ hU hc, true_and, exists_eq_left]
    refine ⟨hin, fun V32 h32 => ?_⟩
    rw [nI_clamp (show q < 2 ^ 31 by omega), cS_up (by omega), hx] at h32
    subst h32
    refine s_read hθ hU (hp2.up (by omega) (by omega)) (ku3_ok hu) (k := 3) (by decide) ?_
    intro y hy
    simp only [cpU hθ hU hc, true_and, exists_eq_left]
    rw [nI_clamp (show q < 2 ^ 31 by omega), cS_ne (show tb θ + (c + 3) ≠ tb θ + 25 by omega), up2_ne (by omega), up2_aa]
    refine ⟨by omega, hin, fun z => ?_, fun z => ?_⟩
    · have hsp : ksp p u = false := bZ_0.1 z
      have := last _ y (-1) (by rw [hy, sbO_v]; rfl) (by rw [hsp]; rfl) rfl
      have e5 : ku5 p u = rdS p 3 (ku3 p u) := by unfold ku5; rw [hsp]; rfl
      rw [e5] at this
      exact this
    · have hsp : ksp p u = true := by
        cases e : ksp p u
        · rw [e] at z; exact absurd rfl z
        · rfl
      refine s_read hθ hU (hp2.up (by omega) (by omega)) (rdS_ok 3 (ku3_ok hu)) (k := 3) (by decide) ?_
      have := last _ y (nI (rdV p 3 (ku4 p u)) - 1) (by rw [hy, sbO_v]; rfl) (by rw [hsp, sbO_v]; rfl) rfl
      have e5 : ku5 p u = rdS p 3 (rdS p 3 (ku3 p u)) := by unfold ku5; rw [hsp]; rfl
      rw [e5] at this
      exact this
  refine ⟨by omega, by omega, hin, fun z => ?_, fun z => ?_⟩
  · have hsp : ksp p u = false := bZ_0.1 z
    have := mid (-1) (by rw [hsp]; rfl)
    have e3 : ku3 p u = rdS p 1 (rdS p 2 u) := by unfold ku3; rw [hsp]; rfl
    rw [e3] at this
    exact this
  · have hsp : ksp p u = true := by
      cases e : ksp p u
      · rw [e] at z; exact absurd rfl z
      · rfl
    refine s_read hθ hU hp2 (ku2_ok hu) (k := 2) (by decide) ?_
    have := mid (nI (kms p u)) (by rw [hsp]; rfl)
    have e3 : ku3 p u = rdS p 2 (rdS p 1 (rdS p 2 u)) := by unfold ku3; rw [hsp]; rfl
    rw [e3] at this
    exact this
end CPLAN
