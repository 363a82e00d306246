-- numbers: literals as nI, a few facts of Int32
theorem LT : (0 : Int32) = nI 0 ∧ (1 : Int32) = nI 1 ∧ (2 : Int32) = nI 2 ∧ (3 : Int32) = nI 3 ∧ (4 : Int32) = nI 4 ∧ (5 : Int32) = nI 5 ∧ (6 : Int32) = nI 6 ∧ (7 : Int32) = nI 7 ∧ (8 : Int32) = nI 8 ∧ (9 : Int32) = nI 9 ∧ (10 : Int32) = nI 10 ∧ (13 : Int32) = nI 13 ∧ (14 : Int32) = nI 14 ∧ (15 : Int32) = nI 15 ∧ (16 : Int32) = nI 16 ∧ (20 : Int32) = nI 20 ∧ (32 : Int32) = nI 32 ∧ (64 : Int32) = nI 64 ∧ (76 : Int32) = nI 76 ∧ (83 : Int32) = nI 83 ∧ (97 : Int32) = nI 97 ∧ (255 : Int32) = nI 255 ∧ (256 : Int32) = nI 256 ∧ (1000 : Int32) = nI 1000 ∧ (65535 : Int32) = nI 65535 := ⟨rfl, rfl, rfl, rfl, rfl, rfl, rfl, rfl, rfl, rfl, rfl, rfl, rfl, rfl, rfl, rfl, rfl, rfl, rfl, rfl, rfl, rfl, rfl, rfl, rfl⟩
theorem nI_nm1 {a : Nat} (h : a < 2 ^ 31) : ¬ nI a = -1 := by
  intro e
  have h1 := congrArg Int32.toInt e
  rw [nI_toInt h] at h1
  have h2 : (-1 : Int32).toInt = -1 := by decide
  omega
theorem m1_lt {a : Nat} (h : a < 2 ^ 31) : ¬ nI a < -1 := by
  intro e
  have h1 := Int32.lt_iff_toInt_lt.mp e
  rw [nI_toInt h] at h1
  have h2 : (-1 : Int32).toInt = -1 := by decide
  omega
theorem i32_neg (r : Int32) : r < 0 ↔ 2 ^ 31 ≤ r.toBitVec.toNat := by
  rw [Int32.lt_iff_toInt_lt]
  have h1 : r.toInt = if 2 * r.toBitVec.toNat < 2 ^ 32 then (r.toBitVec.toNat : Int) else (r.toBitVec.toNat : Int) - ((2 ^ 32 : Nat) : Int) := BitVec.toInt_eq_toNat_cond r.toBitVec
  have h2 : (0 : Int32).toInt = 0 := by decide
  have h3 := r.toBitVec.isLt
  rw [h1, h2]
  split <;> omega
theorem i32_of {a b : Int32} (h : a.toBitVec.toNat = b.toBitVec.toNat) : a = b := Int32.toBitVec_inj.mp (BitVec.eq_of_toNat_eq h)
theorem ush31 (r : Int32) : (r.toUInt32 >>> ((31 : Int32).toUInt32 &&& Int32.toUInt32 31)).toInt32 = if r < 0 then 1 else 0 := by
  have h := pk_ushr r 31 31 (by decide)
  have h3 := r.toBitVec.isLt
  by_cases hr : r < 0
  · rw [if_pos hr]
    rw [i32_neg] at hr
    refine i32_of ?_
    rw [h]
    show _ = 1
    omega
  · rw [if_neg hr]
    rw [i32_neg] at hr
    refine i32_of ?_
    rw [h]
    show _ = 0
    omega
theorem and1 (x : Int32) : x &&& 1 = 0 ∨ x &&& 1 = 1 := by
  obtain ⟨j, hj, e⟩ := pk_andE x (m := 1) 1 (by decide)
  have h2 : j = 0 ∨ j = 1 := by omega
  rcases h2 with rfl | rfl
  · exact Or.inl e
  · exact Or.inr e
-- the check, bit by bit
def crcS (r o : Int32) (k : Nat) : Int32 := if (r < 0 ↔ ((o >>> (nI k &&& 31)) &&& 1) = 1) then r <<< ((1 : Int32) &&& 31) else (r <<< ((1 : Int32) &&& 31)) ^^^ 79764919
def crcB (o : Int32) : Nat → Int32 → Int32
  | 0, r => r
  | k + 1, r => crcB o k (crcS r o k)
def crcN (f : Nat → Int32) : Nat → Int32
  | 0 => 0
  | k + 1 => crcB (f k) 8 (crcN f k)
-- what stands on the wire
def WV (θ : TH) (V : VT) (n r : Nat) (w : Nat → Nat) : Prop := V (tb θ + 1) 1 = nI n ∧ n ≤ 1000 ∧ V (tb θ + 1) 2 = nI r ∧ r ≤ n ∧ ∀ i, i < n → V (tb θ + 2) i = nI (w i) ∧ w i < 256
def WM (θ : TH) (V : VT) (n r : Nat) (w : Nat → Nat) : Prop := V (tb θ + 126) 1 = nI n ∧ n ≤ 1000 ∧ V (tb θ + 126) 2 = nI r ∧ r ≤ n ∧ ∀ i, i < n → V (tb θ + 127) i = nI (w i) ∧ w i < 256
def bw (n : Nat) (w : Nat → Nat) (p : Nat) : Int32 := if p < n then nI (w p) else -1
/-- the bytes that the check runs over: its own four count as zero -/
def ckf (w : Nat → Nat) (p k : Nat) : Int32 := if 9 ≤ k ∧ k < 13 then 0 else nI (w (p + k))
section WIRE
variable {θ : TH} {sw : Bool} {U : UT} {V : VT} {n r : Nat} {w : Nat → Nat}
theorem s_at {K : Int32 → VT → UT → Prop} (hθ : OKt θ) (hU : US θ sw U) (hV : WV θ V n r w) (p : Nat) (hp : p < 100000) (hk : K (bw n w p) V U) : wp_W_at θ (tb θ + 1) (nI p) V U K := by
  obtain ⟨h1, h2, h3, h4, h5⟩ := hV
  unfold wp_W_at wb_W_at_21
  simp only [UC hU, IC hθ, h1, exists_eq_left, true_and]
  refine br_f (nI_pos (by omega)) (pk_le n p (fun h => ?_) (fun h => ?_))
  · simpa [bw, Nat.not_lt.mpr h] using hk
  · refine ⟨by omega, vp_in_nI (by omega) (by omega), ?_⟩
    rw [nI_clamp (by omega), (h5 p h).1]
    simpa [bw, h] using hk
/-- the inner loop of the check: the bits of one byte -/
theorem s_crcB {K : Int32 → VT → UT → Prop} {kb5 : Int32 → Int32 → VT → UT → Prop} {a0 : Nat} {x1 x2 x4 o : Int32} : ∀ (k : Nat) (q : Int32), k < 2 ^ 31 → kb5 (crcB o k q) (x4 + 1) V U → wl_W_checkOf_55 θ a0 x1 x2 x4 o kb5 K (k + 1) q (nI k + (-1)) V U := by
  intro k
  induction k with
  | zero =>
    intro q _ hk
    show bl_W_checkOf_55 _ _ _ _ _ _ _ _ _ _ _ _ _
    unfold bl_W_checkOf_55
    exact br_t (by decide) (fun y hy => by rw [hy]; exact hk)
  | succ k ih =>
    intro q hlt hk
    show bl_W_checkOf_55 _ _ _ _ _ _ _ _ _ _ _ _ _
    unfold bl_W_checkOf_55
    rw [pk_m1]
    refine br_f (nI_pos (by omega)) ?_
    rw [ush31]
    have hgo := ih (crcS q o k) (by omega) hk
    have hb := and1 (o >>> (nI k &&& 31))
    unfold wb_W_checkOf_79
    refine br_c (fun hc => ?_) (fun hc => ?_)
    · refine br_t rfl (fun y hy z hz => ?_)
      have e : crcS q o k = q <<< ((1 : Int32) &&& 31) := by
        unfold crcS
        rw [if_pos]
        by_cases hq : q < 0
        · rw [if_pos hq] at hc; simp [hq, ← hc]
        · rw [if_neg hq] at hc; simp [hq, ← hc]
      rw [hy, hz, ← e]
      exact hgo
    · refine br_f (by decide) (fun y hy z hz => ?_)
      have e : crcS q o k = (q <<< ((1 : Int32) &&& 31)) ^^^ 79764919 := by
        unfold crcS
        rw [if_neg]
        by_cases hq : q < 0
        · rw [if_pos hq] at hc
          rcases hb with hb | hb
          · simp [hq, hb]
          · exact absurd hb.symm hc
        · rw [if_neg hq] at hc
          rcases hb with hb | hb
          · exact absurd hb.symm hc
          · simp [hq, hb]
      rw [hy, hz, ← e]
      exact hgo
/-- the class's check of a page that lies whole on the wire -/
theorem s_checkOf {K : Int32 → VT → UT → Prop} (hθ : OKt θ) (hU : US θ sw U) (hV : WV θ V n r w) (p t : Nat) (ht : p + t ≤ n) (hk : K (crcN (ckf w p) t) V U) : wp_W_checkOf θ (tb θ + 1) (nI p) (nI t) V U K := by
  have hn := hV.2.1
  have key : ∀ m k, k + m = t → wl_W_checkOf_5 θ (tb θ + 1) (nI p) (nI t) K (m + 1) (crcN (ckf w p) k) (nI k) V U := by
    intro m
    induction m with
    | zero =>
      intro k e
      show bl_W_checkOf_5 _ _ _ _ _ _ _ _ _ _
      unfold bl_W_checkOf_5
      have e2 : k = t := by omega
      subst e2
      exact br_t (nI_le (Nat.le_refl _) (by omega)) hk
    | succ m ih =>
      intro k e
      show bl_W_checkOf_5 _ _ _ _ _ _ _ _ _ _
      unfold bl_W_checkOf_5 wb_W_checkOf_29 wb_W_checkOf_30
      have hgo := ih (k + 1) (by omega)
      have hin : ∀ o : Int32, o = ckf w p k → ∃ f, wl_W_checkOf_55 θ (tb θ + 1) (nI p) (nI t) (nI k) o (wl_W_checkOf_5 θ (tb θ + 1) (nI p) (nI t) K (m + 1)) K f (crcN (ckf w p) k) (7 : Int32) V U := by
        intro o ho
        refine ⟨9, ?_⟩
        have h := s_crcB (θ := θ) (V := V) (U := U) (K := K) (a0 := tb θ + 1) (x1 := nI p) (x2 := nI t) (x4 := nI k) (o := o) (kb5 := wl_W_checkOf_5 θ (tb θ + 1) (nI p) (nI t) K (m + 1)) 8 (crcN (ckf w p) k) (by decide) (by
          rw [show nI k + 1 = nI (k + 1) from nI_1 k, ho]
          exact hgo)
        exact h
      have hat : isO θ (tb θ + 1) 1 := by simp only [IC hθ]
      have hrd : ¬ (9 ≤ k ∧ k < 13) → wp_W_at θ (tb θ + 1) (nI p + nI k) V U (fun r_8 V_5 U_6 => ∃ f, wl_W_checkOf_55 θ (tb θ + 1) (nI p) (nI t) (nI k) r_8 (wl_W_checkOf_5 θ (tb θ + 1) (nI p) (nI t) K (m + 1)) K f (crcN (ckf w p) k) (7 : Int32) V_5 U_6) := by
        intro h9
        rw [nI_add]
        refine s_at hθ hU hV (p + k) (by omega) (hin _ ?_)
        rw [bw, if_pos (by omega), ckf, if_neg h9]
      refine br_f (nI_ge (by omega) (by omega)) ?_
      refine pk_lt k 9 (fun h => ?_) (fun h => ?_)
      · exact br_t rfl ⟨hat, hrd (by omega)⟩
      · refine pk_le 13 k (fun h2 => ?_) (fun h2 => ?_)
        · exact br_t rfl ⟨hat, hrd (by omega)⟩
        · refine br_f (by decide) (hin _ ?_)
          rw [ckf, if_pos ⟨h, h2⟩]
  exact ⟨t + 1, key t 0 (by omega)⟩
/-- the reference's check -/
theorem m_crcB {K : Int32 → VT → UT → Prop} {kb5 : Int32 → Int32 → VT → UT → Prop} {a0 : Nat} {x1 x2 x4 o : Int32} : ∀ (k : Nat) (q : Int32), k < 2 ^ 31 → kb5 (crcB o k q) (x4 + 1) V U → wl_M_check_44 θ a0 x1 x2 x4 o kb5 K (k + 1) q (nI k + (-1)) V U := by
  intro k
  induction k with
  | zero =>
    intro q _ hk
    show bl_M_check_44 _ _ _ _ _ _ _ _ _ _ _ _ _
    unfold bl_M_check_44
    exact br_t (by decide) (fun y hy => by rw [hy]; exact hk)
  | succ k ih =>
    intro q hlt hk
    show bl_M_check_44 _ _ _ _ _ _ _ _ _ _ _ _ _
    unfold bl_M_check_44
    rw [pk_m1]
    refine br_f (nI_pos (by omega)) ?_
    have hgo := ih (crcS q o k) (by omega) hk
    have hb := and1 (o >>> (nI k &&& 31))
    have hneg : 0 ≤ q ↔ ¬ q < 0 := Int32.not_lt.symm
    have h01 : ∀ {A B : Prop}, A → (((0 : Int32) = 0 → A) ∧ (¬ (0 : Int32) = 0 → B)) := fun a => br_t rfl a
    unfold wb_M_check_58 wb_M_check_76
    have e0 : (q < 0 ↔ ((o >>> (nI k &&& 31)) &&& 1) = 1) → crcS q o k = q <<< ((1 : Int32) &&& 31) := fun h => by unfold crcS; rw [if_pos h]
    have e1 : ¬ (q < 0 ↔ ((o >>> (nI k &&& 31)) &&& 1) = 1) → crcS q o k = (q <<< ((1 : Int32) &&& 31)) ^^^ 79764919 := fun h => by unfold crcS; rw [if_neg h]
    refine br_c (fun hq => ?_) (fun hq => ?_)
    · have hq' : ¬ q < 0 := hneg.mp hq
      refine ⟨fun h1 => fun y hy => ?_, fun h1 => fun y hy => ?_⟩
      · refine br_t rfl (fun z hz => ?_)
        rw [hz, hy, ← e0 (by simp [hq', h1])]
        exact hgo
      · refine br_f (by decide) (fun z hz v hv => ?_)
        rw [hv, hz, hy, ← e1 (by simp [hq', h1])]
        exact hgo
    · have hq' : q < 0 := by
        by_cases h : q < 0
        · exact h
        · exact absurd (hneg.mpr h) hq
      refine ⟨fun h1 => fun y hy => ?_, fun h1 => fun y hy => ?_⟩
      · refine br_f (by decide) (fun z hz v hv => ?_)
        rw [hv, hz, hy, ← e1 (by simp [hq', h1])]
        exact hgo
      · refine br_t rfl (fun z hz => ?_)
        rw [hz, hy, ← e0 (by simp [hq', h1])]
        exact hgo
theorem m_check {K : Int32 → VT → UT → Prop} (hθ : OKt θ) (hU : US θ sw U) (hV : WM θ V n r w) (p t : Nat) (ht : p + t ≤ n) (hk : K (crcN (ckf w p) t) V U) : wp_M_check θ (tb θ + 126) (nI p) (nI t) V U K := by
  obtain ⟨h1, h2, h3, h4, h5⟩ := hV
  have key : ∀ m k, k + m = t → wl_M_check_5 θ (tb θ + 126) (nI p) (nI t) K (m + 1) (crcN (ckf w p) k) (nI k) V U := by
    intro m
    induction m with
    | zero =>
      intro k e
      show bl_M_check_5 _ _ _ _ _ _ _ _ _ _
      unfold bl_M_check_5
      have e2 : k = t := by omega
      subst e2
      exact br_t (nI_le (Nat.le_refl _) (by omega)) hk
    | succ m ih =>
      intro k e
      show bl_M_check_5 _ _ _ _ _ _ _ _ _ _
      unfold bl_M_check_5 wb_M_check_29
      have hgo := ih (k + 1) (by omega)
      have hin : ∀ o : Int32, o = ckf w p k → ∃ f, wl_M_check_44 θ (tb θ + 126) (nI p) (nI t) (nI k) o (wl_M_check_5 θ (tb θ + 126) (nI p) (nI t) K (m + 1)) K f (crcN (ckf w p) k) (7 : Int32) V U := by
        intro o ho
        refine ⟨9, ?_⟩
        exact m_crcB (θ := θ) (V := V) (U := U) (K := K) (a0 := tb θ + 126) (x1 := nI p) (x2 := nI t) (x4 := nI k) (o := o) (kb5 := wl_M_check_5 θ (tb θ + 126) (nI p) (nI t) K (m + 1)) 8 (crcN (ckf w p) k) (by decide) (by
          rw [show nI k + 1 = nI (k + 1) from nI_1 k, ho]
          exact hgo)
      have hrd : ¬ (9 ≤ k ∧ k < 13) → isO θ (tb θ + 126) 12 ∧ (U (tb θ + 126) 0) ≠ 0 ∧ ∃ n_6, isA θ (U (tb θ + 126) 0) 0 n_6 ∧ vp_in (nI p + nI k) n_6 ∧ ∀ y_9 : Int32, y_9 = (V (U (tb θ + 126) 0) (nI p + nI k).toNatClampNeg) → ∃ f, wl_M_check_44 θ (tb θ + 126) (nI p) (nI t) (nI k) y_9 (wl_M_check_5 θ (tb θ + 126) (nI p) (nI t) K (m + 1)) K f (crcN (ckf w p) k) (7 : Int32) V U := by
        intro h9
        simp only [UM hU, IM hθ, exists_eq_left, true_and, nI_add]
        refine ⟨by omega, vp_in_nI (by omega) (by omega), fun y hy => hin y ?_⟩
        rw [hy, nI_clamp (by omega), (h5 (p + k) (by omega)).1, ckf, if_neg h9]
      refine br_f (nI_ge (by omega) (by omega)) ?_
      refine pk_lt k 9 (fun h => ?_) (fun h => ?_)
      · exact hrd (by omega)
      · refine pk_le 13 k (fun h2 => ?_) (fun h2 => ?_)
        · exact hrd (by omega)
        · refine hin _ ?_
          rw [ckf, if_pos ⟨h, h2⟩]
  exact ⟨t + 1, key t 0 (by omega)⟩
end WIRE
