-- the store at the start: closed functions of offsets
def uf (u : Nat → Nat → Nat) (b : Nat) : UT := fun a j => if b ≤ a then (if u (a - b) j = 0 then 0 else b + (u (a - b) j - 1)) else 0
def vf (v : Nat → Nat → Int32) (b : Nat) : VT := fun a j => if b ≤ a then v (a - b) j else 0
theorem uf_at {u : Nat → Nat → Nat} {b i j : Nat} : uf u b (b + i) j = if u i j = 0 then 0 else b + (u i j - 1) := by
  simp [uf, Nat.add_sub_cancel_left]
theorem vf_at {v : Nat → Nat → Int32} {b i j : Nat} : vf v b (b + i) j = v i j := by
  simp [vf, Nat.add_sub_cancel_left]
theorem uf_eq {u : Nat → Nat → Nat} {b i j r : Nat} (h : u i j = r + 1) : uf u b (b + i) j = b + r := by
  rw [uf_at, h]; simp
theorem uf_nz {u : Nat → Nat → Nat} {b i j r : Nat} (h0 : 0 < b) (h : u i j = r + 1) : uf u b (b + i) j ≠ 0 := by
  rw [uf_eq h]; omega
theorem uf_up {u : Nat → Nat → Nat} {b i j r : Nat} : up2 (uf u b) (b + i) j (b + r) = uf (up2 u i j (r + 1)) b := by
  funext a k
  unfold up2 uf
  by_cases h : b ≤ a
  · simp only [h, if_true]
    by_cases ha : a = b + i
    · subst ha
      simp only [Nat.add_sub_cancel_left, if_true]
      by_cases hk : k = j
      · simp [hk]
      · simp [hk]
    · have : ¬ a - b = i := by omega
      simp [ha, this]
  · have ha : ¬ a = b + i := by omega
    simp [h, ha]
theorem vf_up {v : Nat → Nat → Int32} {b i j : Nat} {x : Int32} : up2 (vf v b) (b + i) j x = vf (up2 v i j x) b := by
  funext a k
  unfold up2 vf
  by_cases h : b ≤ a
  · simp only [h, if_true]
    by_cases ha : a = b + i
    · subst ha
      simp only [Nat.add_sub_cancel_left, if_true]
    · have : ¬ a - b = i := by omega
      simp [ha, this]
  · have ha : ¬ a = b + i := by omega
    simp [h, ha]
theorem uf_z (b : Nat) : ((fun _ _ => 0) : UT) = uf (fun _ _ => 0) b := by
  funext a j; simp [uf]
theorem vf_z (b : Nat) : ((fun _ _ => 0) : VT) = vf (fun _ _ => 0) b := by
  funext a j; simp [vf]
def zz (N : Nat) (v : Nat → Nat → Int32) (u : Nat → Nat → Nat) : Prop := ∀ i, N ≤ i → v i = (fun _ => 0) ∧ u i = (fun _ => 0)
theorem zz.m {N M : Nat} {v : Nat → Nat → Int32} {u : Nat → Nat → Nat} (h : zz N v u) (hM : N ≤ M) : zz M v u := fun i hi => h i (Nat.le_trans hM hi)
theorem zz.u {N i j r : Nat} {v : Nat → Nat → Int32} {u : Nat → Nat → Nat} (h : zz N v u) (hi : i < N) : zz N v (up2 u i j r) := fun q hq => ⟨(h q hq).1, by rw [up2_ne (by omega)]; exact (h q hq).2⟩
theorem zz.v {N i j : Nat} {x : Int32} {v : Nat → Nat → Int32} {u : Nat → Nat → Nat} (h : zz N v u) (hi : i < N) : zz N (up2 v i j x) u := fun q hq => ⟨by rw [up2_ne (by omega)]; exact (h q hq).1, (h q hq).2⟩
theorem vz_of {θ : TH} {N : Nat} {v : Nat → Nat → Int32} {u : Nat → Nat → Nat} (h : zz N v u) : vz θ N (vf v (tb θ)) (uf u (tb θ)) := by
  intro a ha
  have hb : tb θ ≤ a := by omega
  obtain ⟨h1, h2⟩ := h (a - tb θ) (by omega)
  constructor
  · funext j; simp [vf, hb, h1]
  · funext j; simp [uf, hb, h2]
theorem isO_k {θ : TH} (hL : tL θ = lay) {N k c : Nat} (hk : k < N) (hl : lay k = (0, c, nF c)) : isO (θn θ N) (tb θ + k) c := by
  refine ⟨Nat.le_add_right _ _, ?_, ?_⟩
  · show tb θ + k - tb θ < N
    omega
  · show tL θ (tb θ + k - tb θ) = _
    rw [Nat.add_sub_cancel_left, hL, hl]
theorem isR_k {θ : TH} (hL : tL θ = lay) {N k t n : Nat} (hk : k < N) (hl : lay k = (2, t, n)) : isR (θn θ N) (tb θ + k) t n := by
  refine ⟨Nat.le_add_right _ _, ?_, ?_⟩
  · show tb θ + k - tb θ < N
    omega
  · show tL θ (tb θ + k - tb θ) = _
    rw [Nat.add_sub_cancel_left, hL, hl]
def uL : List (Nat × Nat × Nat) := [(1, 0, 3), (0, 0, 2), (0, 1, 4), (0, 3, 5), (5, 1, 7), (5, 2, 8), (5, 3, 9), (5, 4, 10), (4, 0, 6), (10, 1, 12), (10, 2, 13), (10, 3, 14), (10, 4, 15), (4, 1, 11), (15, 1, 17), (15, 2, 18), (15, 3, 19), (15, 4, 20), (4, 2, 16), (20, 1, 22), (20, 2, 23), (20, 3, 24), (20, 4, 25), (4, 3, 21), (25, 0, 27), (0, 4, 26), (27, 2, 29), (27, 3, 30), (31, 0, 33), (30, 5, 32), (27, 6, 31), (27, 0, 2), (27, 1, 26), (34, 0, 36), (33, 4, 35), (28, 0, 34), (37, 0, 39), (36, 4, 38), (28, 1, 37), (40, 0, 42), (39, 4, 41), (28, 2, 40), (43, 0, 45), (42, 5, 44), (29, 0, 43), (46, 0, 48), (45, 5, 47), (29, 1, 46), (49, 0, 51), (48, 5, 50), (29, 2, 49), (52, 0, 54), (51, 5, 53), (29, 3, 52), (55, 0, 57), (54, 5, 56), (29, 4, 55), (58, 0, 60), (57, 5, 59), (29, 5, 58), (61, 0, 63), (60, 5, 62), (29, 6, 61), (64, 0, 66), (63, 5, 65), (29, 7, 64), (0, 5, 28), (66, 1, 68), (68, 2, 70), (68, 3, 71), (68, 4, 72), (68, 5, 73), (68, 6, 74), (68, 8, 75), (68, 9, 76), (68, 10, 77), (68, 11, 78), (66, 7, 69), (78, 7, 80), (78, 10, 81), (81, 0, 83), (81, 1, 84), (78, 11, 82), (66, 8, 79), (84, 2, 86), (84, 3, 87), (84, 4, 88), (84, 5, 89), (84, 6, 90), (84, 8, 91), (84, 9, 92), (84, 10, 93), (84, 11, 94), (66, 9, 85), (94, 7, 96), (94, 10, 97), (97, 0, 99), (97, 1, 100), (94, 11, 98), (66, 10, 95), (100, 0, 102), (100, 1, 103), (66, 13, 101), (103, 0, 105), (103, 1, 106), (66, 14, 104), (66, 0, 26), (106, 2, 108), (106, 3, 109), (106, 6, 110), (106, 7, 111), (67, 0, 107), (111, 2, 113), (111, 3, 114), (111, 6, 115), (111, 7, 116), (67, 1, 112), (116, 2, 118), (116, 3, 119), (116, 6, 120), (116, 7, 121), (67, 2, 117), (121, 2, 123), (121, 3, 124), (121, 6, 125), (121, 7, 126), (67, 3, 122), (0, 6, 67), (126, 0, 128), (126, 3, 129), (126, 5, 130), (126, 6, 131), (126, 7, 132), (126, 8, 133), (126, 9, 134), (126, 10, 135), (126, 11, 136), (126, 12, 137), (126, 15, 138), (126, 16, 139), (126, 17, 140), (126, 18, 141), (126, 19, 142), (126, 20, 143), (126, 23, 144), (126, 24, 145), (126, 25, 146), (126, 26, 147), (126, 27, 148), (126, 28, 149), (126, 35, 150), (126, 45, 151), (126, 46, 152), (126, 47, 153), (126, 48, 154), (126, 49, 155), (126, 50, 156), (126, 51, 157), (126, 52, 158), (126, 59, 159), (126, 60, 160), (126, 61, 161), (126, 62, 162), (126, 63, 163), (126, 64, 164), (126, 66, 165), (126, 67, 166)]
def vL : List (Nat × Nat × Int32) := [(5, 0, 0), (10, 0, 1), (15, 0, 2), (20, 0, 3), (30, 0, 0), (42, 0, 0), (45, 0, 0), (48, 0, 0), (51, 0, 0), (54, 0, 0), (57, 0, 0), (60, 0, 0), (63, 0, 0), (78, 0, 1), (78, 4, 1), (78, 5, 1), (94, 0, 1), (94, 4, 1), (94, 5, 1), (106, 1, 1), (111, 1, 1), (116, 1, 1), (121, 1, 1), (126, 53, -1)]
def uI : Nat → Nat → Nat := uL.foldl (fun u x => up2 u x.1 x.2.1 x.2.2) (fun _ _ => 0)
def vI : Nat → Nat → Int32 := vL.foldl (fun v x => up2 v x.1 x.2.1 x.2.2) (fun _ _ => 0)
set_option maxRecDepth 100000 in
set_option maxHeartbeats 8000000 in
theorem math_init (θ : TH) (K : Nat × (Nat → Int32)) (h0 : 0 < tb θ) (hL : tL θ = lay) (hloop : ∃ n, wl_L_law_18 (θn θ 166) (tb θ + 0) (tb θ + 126) K n 0 (vf vI (tb θ)) (uf uI (tb θ))) : MATH θ K := by
  unfold MATH
  rw [uf_z (tb θ), vf_z (tb θ)]
  have hz : zz 1 (fun _ _ => 0) (fun _ _ => 0) := fun _ _ => ⟨rfl, rfl⟩
  try unfold wp_S_init
  refine ⟨vz_of hz, ?_⟩
  refine ⟨by rw [hL]; rfl, ?_⟩
  replace hz := hz.m (show 1 ≤ 2 by decide)
  try unfold wp_W_init
  refine ⟨vz_of hz, ?_⟩
  refine ⟨by rw [hL]; rfl, ?_⟩
  replace hz := hz.m (show 2 ≤ 3 by decide)
  refine ⟨isO_k hL (by decide) rfl, ?_⟩
  refine ⟨by omega, ?_⟩
  intro U_4 eU_4
  subst eU_4
  rw [uf_up]
  replace hz := hz.u (i := 1) (j := 0) (r := 3) (by decide)
  try simp only [Nat.reduceAdd]
  refine ⟨vz_of hz, ?_⟩
  refine ⟨isO_k hL (by decide) rfl, ?_⟩
  refine ⟨by omega, ?_⟩
  intro U_7 eU_7
  subst eU_7
  rw [uf_up]
  replace hz := hz.u (i := 0) (j := 0) (r := 2) (by decide)
  refine ⟨by rw [hL]; rfl, ?_⟩
  replace hz := hz.m (show 3 ≤ 4 by decide)
  refine ⟨isO_k hL (by decide) rfl, ?_⟩
  refine ⟨by omega, ?_⟩
  intro U_11 eU_11
  subst eU_11
  rw [uf_up]
  replace hz := hz.u (i := 0) (j := 1) (r := 4) (by decide)
  refine ⟨by rw [hL]; rfl, ?_⟩
  replace hz := hz.m (show 4 ≤ 5 by decide)
  refine ⟨isO_k hL (by decide) rfl, ?_⟩
  refine ⟨by omega, ?_⟩
  intro U_15 eU_15
  subst eU_15
  rw [uf_up]
  replace hz := hz.u (i := 0) (j := 3) (r := 5) (by decide)
  refine ⟨uf_nz (i := 0) (j := 3) (r := 4) h0 (by decide +kernel), ?_⟩
  rw [uf_eq (i := 0) (j := 3) (r := 4) (by decide +kernel)]
  refine ⟨by rw [hL]; rfl, ?_⟩
  replace hz := hz.m (show 5 ≤ 6 by decide)
  try unfold wp_O_init
  refine ⟨vz_of hz, ?_⟩
  refine ⟨by rw [hL]; rfl, ?_⟩
  replace hz := hz.m (show 6 ≤ 7 by decide)
  refine ⟨isO_k hL (by decide) rfl, ?_⟩
  refine ⟨by omega, ?_⟩
  intro U_4 eU_4
  subst eU_4
  rw [uf_up]
  replace hz := hz.u (i := 5) (j := 1) (r := 7) (by decide)
  refine ⟨by rw [hL]; rfl, ?_⟩
  replace hz := hz.m (show 7 ≤ 8 by decide)
  refine ⟨isO_k hL (by decide) rfl, ?_⟩
  refine ⟨by omega, ?_⟩
  intro U_8 eU_8
  subst eU_8
  rw [uf_up]
  replace hz := hz.u (i := 5) (j := 2) (r := 8) (by decide)
  refine ⟨by rw [hL]; rfl, ?_⟩
  replace hz := hz.m (show 8 ≤ 9 by decide)
  refine ⟨isO_k hL (by decide) rfl, ?_⟩
  refine ⟨by omega, ?_⟩
  intro U_12 eU_12
  subst eU_12
  rw [uf_up]
  replace hz := hz.u (i := 5) (j := 3) (r := 9) (by decide)
  refine ⟨by rw [hL]; rfl, ?_⟩
  replace hz := hz.m (show 9 ≤ 10 by decide)
  refine ⟨isO_k hL (by decide) rfl, ?_⟩
  refine ⟨by omega, ?_⟩
  intro U_16 eU_16
  subst eU_16
  rw [uf_up]
  replace hz := hz.u (i := 5) (j := 4) (r := 10) (by decide)
  intro V_17 eV_17
  subst eV_17
  rw [vf_up]
  replace hz := hz.v (i := 5) (j := 0) (x := 0) (by decide)
  try simp only [Nat.reduceAdd]
  refine ⟨vz_of hz, ?_⟩
  refine ⟨_, isR_k hL (by decide) rfl, ?_⟩
  refine ⟨isO_k hL (by decide) rfl, ?_⟩
  refine ⟨by omega, ?_⟩
  refine ⟨by show ¬ (_ ∨ _); decide, ?_⟩
  intro U_26 eU_26
  subst eU_26
  rw [uf_up]
  replace hz := hz.u (i := 4) (j := 0) (r := 6) (by decide)
  refine ⟨isO_k hL (by decide) rfl, ?_⟩
  refine ⟨uf_nz (i := 0) (j := 3) (r := 4) h0 (by decide +kernel), ?_⟩
  rw [uf_eq (i := 0) (j := 3) (r := 4) (by decide +kernel)]
  refine ⟨by rw [hL]; rfl, ?_⟩
  replace hz := hz.m (show 10 ≤ 11 by decide)
  try unfold wp_O_init
  refine ⟨vz_of hz, ?_⟩
  refine ⟨by rw [hL]; rfl, ?_⟩
  replace hz := hz.m (show 11 ≤ 12 by decide)
  refine ⟨isO_k hL (by decide) rfl, ?_⟩
  refine ⟨by omega, ?_⟩
  intro U_4 eU_4
  subst eU_4
  rw [uf_up]
  replace hz := hz.u (i := 10) (j := 1) (r := 12) (by decide)
  refine ⟨by rw [hL]; rfl, ?_⟩
  replace hz := hz.m (show 12 ≤ 13 by decide)
  refine ⟨isO_k hL (by decide) rfl, ?_⟩
  refine ⟨by omega, ?_⟩
  intro U_8 eU_8
  subst eU_8
  rw [uf_up]
  replace hz := hz.u (i := 10) (j := 2) (r := 13) (by decide)
  refine ⟨by rw [hL]; rfl, ?_⟩
  replace hz := hz.m (show 13 ≤ 14 by decide)
  refine ⟨isO_k hL (by decide) rfl, ?_⟩
  refine ⟨by omega, ?_⟩
  intro U_12 eU_12
  subst eU_12
  rw [uf_up]
  replace hz := hz.u (i := 10) (j := 3) (r := 14) (by decide)
  refine ⟨by rw [hL]; rfl, ?_⟩
  replace hz := hz.m (show 14 ≤ 15 by decide)
  refine ⟨isO_k hL (by decide) rfl, ?_⟩
  refine ⟨by omega, ?_⟩
  intro U_16 eU_16
  subst eU_16
  rw [uf_up]
  replace hz := hz.u (i := 10) (j := 4) (r := 15) (by decide)
  intro V_17 eV_17
  subst eV_17
  rw [vf_up]
  replace hz := hz.v (i := 10) (j := 0) (x := 1) (by decide)
  try simp only [Nat.reduceAdd]
  refine ⟨vz_of hz, ?_⟩
  refine ⟨_, isR_k hL (by decide) rfl, ?_⟩
  refine ⟨isO_k hL (by decide) rfl, ?_⟩
  refine ⟨by omega, ?_⟩
  refine ⟨by show ¬ (_ ∨ _); decide, ?_⟩
  intro U_38 eU_38
  subst eU_38
  rw [uf_up]
  replace hz := hz.u (i := 4) (j := 1) (r := 11) (by decide)
  refine ⟨isO_k hL (by decide) rfl, ?_⟩
  refine ⟨uf_nz (i := 0) (j := 3) (r := 4) h0 (by decide +kernel), ?_⟩
  rw [uf_eq (i := 0) (j := 3) (r := 4) (by decide +kernel)]
  refine ⟨by rw [hL]; rfl, ?_⟩
  replace hz := hz.m (show 15 ≤ 16 by decide)
  try unfold wp_O_init
  refine ⟨vz_of hz, ?_⟩
  refine ⟨by rw [hL]; rfl, ?_⟩
  replace hz := hz.m (show 16 ≤ 17 by decide)
  refine ⟨isO_k hL (by decide) rfl, ?_⟩
  refine ⟨by omega, ?_⟩
  intro U_4 eU_4
  subst eU_4
  rw [uf_up]
  replace hz := hz.u (i := 15) (j := 1) (r := 17) (by decide)
  refine ⟨by rw [hL]; rfl, ?_⟩
  replace hz := hz.m (show 17 ≤ 18 by decide)
  refine ⟨isO_k hL (by decide) rfl, ?_⟩
  refine ⟨by omega, ?_⟩
  intro U_8 eU_8
  subst eU_8
  rw [uf_up]
  replace hz := hz.u (i := 15) (j := 2) (r := 18) (by decide)
  refine ⟨by rw [hL]; rfl, ?_⟩
  replace hz := hz.m (show 18 ≤ 19 by decide)
  refine ⟨isO_k hL (by decide) rfl, ?_⟩
  refine ⟨by omega, ?_⟩
  intro U_12 eU_12
  subst eU_12
  rw [uf_up]
  replace hz := hz.u (i := 15) (j := 3) (r := 19) (by decide)
  refine ⟨by rw [hL]; rfl, ?_⟩
  replace hz := hz.m (show 19 ≤ 20 by decide)
  refine ⟨isO_k hL (by decide) rfl, ?_⟩
  refine ⟨by omega, ?_⟩
  intro U_16 eU_16
  subst eU_16
  rw [uf_up]
  replace hz := hz.u (i := 15) (j := 4) (r := 20) (by decide)
  intro V_17 eV_17
  subst eV_17
  rw [vf_up]
  replace hz := hz.v (i := 15) (j := 0) (x := 2) (by decide)
  try simp only [Nat.reduceAdd]
  refine ⟨vz_of hz, ?_⟩
  refine ⟨_, isR_k hL (by decide) rfl, ?_⟩
  refine ⟨isO_k hL (by decide) rfl, ?_⟩
  refine ⟨by omega, ?_⟩
  refine ⟨by show ¬ (_ ∨ _); decide, ?_⟩
  intro U_50 eU_50
  subst eU_50
  rw [uf_up]
  replace hz := hz.u (i := 4) (j := 2) (r := 16) (by decide)
  refine ⟨isO_k hL (by decide) rfl, ?_⟩
  refine ⟨uf_nz (i := 0) (j := 3) (r := 4) h0 (by decide +kernel), ?_⟩
  rw [uf_eq (i := 0) (j := 3) (r := 4) (by decide +kernel)]
  refine ⟨by rw [hL]; rfl, ?_⟩
  replace hz := hz.m (show 20 ≤ 21 by decide)
  try unfold wp_O_init
  refine ⟨vz_of hz, ?_⟩
  refine ⟨by rw [hL]; rfl, ?_⟩
  replace hz := hz.m (show 21 ≤ 22 by decide)
  refine ⟨isO_k hL (by decide) rfl, ?_⟩
  refine ⟨by omega, ?_⟩
  intro U_4 eU_4
  subst eU_4
  rw [uf_up]
  replace hz := hz.u (i := 20) (j := 1) (r := 22) (by decide)
  refine ⟨by rw [hL]; rfl, ?_⟩
  replace hz := hz.m (show 22 ≤ 23 by decide)
  refine ⟨isO_k hL (by decide) rfl, ?_⟩
  refine ⟨by omega, ?_⟩
  intro U_8 eU_8
  subst eU_8
  rw [uf_up]
  replace hz := hz.u (i := 20) (j := 2) (r := 23) (by decide)
  refine ⟨by rw [hL]; rfl, ?_⟩
  replace hz := hz.m (show 23 ≤ 24 by decide)
  refine ⟨isO_k hL (by decide) rfl, ?_⟩
  refine ⟨by omega, ?_⟩
  intro U_12 eU_12
  subst eU_12
  rw [uf_up]
  replace hz := hz.u (i := 20) (j := 3) (r := 24) (by decide)
  refine ⟨by rw [hL]; rfl, ?_⟩
  replace hz := hz.m (show 24 ≤ 25 by decide)
  refine ⟨isO_k hL (by decide) rfl, ?_⟩
  refine ⟨by omega, ?_⟩
  intro U_16 eU_16
  subst eU_16
  rw [uf_up]
  replace hz := hz.u (i := 20) (j := 4) (r := 25) (by decide)
  intro V_17 eV_17
  subst eV_17
  rw [vf_up]
  replace hz := hz.v (i := 20) (j := 0) (x := 3) (by decide)
  try simp only [Nat.reduceAdd]
  refine ⟨vz_of hz, ?_⟩
  refine ⟨_, isR_k hL (by decide) rfl, ?_⟩
  refine ⟨isO_k hL (by decide) rfl, ?_⟩
  refine ⟨by omega, ?_⟩
  refine ⟨by show ¬ (_ ∨ _); decide, ?_⟩
  intro U_62 eU_62
  subst eU_62
  rw [uf_up]
  replace hz := hz.u (i := 4) (j := 3) (r := 21) (by decide)
  refine ⟨by rw [hL]; rfl, ?_⟩
  replace hz := hz.m (show 25 ≤ 26 by decide)
  try unfold wp_H_init
  refine ⟨vz_of hz, ?_⟩
  refine ⟨by rw [hL]; rfl, ?_⟩
  replace hz := hz.m (show 26 ≤ 27 by decide)
  refine ⟨isO_k hL (by decide) rfl, ?_⟩
  refine ⟨by omega, ?_⟩
  intro U_4 eU_4
  subst eU_4
  rw [uf_up]
  replace hz := hz.u (i := 25) (j := 0) (r := 27) (by decide)
  try simp only [Nat.reduceAdd]
  refine ⟨vz_of hz, ?_⟩
  refine ⟨isO_k hL (by decide) rfl, ?_⟩
  refine ⟨by omega, ?_⟩
  intro U_69 eU_69
  subst eU_69
  rw [uf_up]
  replace hz := hz.u (i := 0) (j := 4) (r := 26) (by decide)
  refine ⟨by rw [hL]; rfl, ?_⟩
  replace hz := hz.m (show 27 ≤ 28 by decide)
  refine ⟨isO_k hL (by decide) rfl, ?_⟩
  refine ⟨uf_nz (i := 0) (j := 0) (r := 1) h0 (by decide +kernel), ?_⟩
  rw [uf_eq (i := 0) (j := 0) (r := 1) (by decide +kernel)]
  refine ⟨uf_nz (i := 0) (j := 4) (r := 25) h0 (by decide +kernel), ?_⟩
  rw [uf_eq (i := 0) (j := 4) (r := 25) (by decide +kernel)]
  try unfold wp_R_init
  refine ⟨vz_of hz, ?_⟩
  refine ⟨by rw [hL]; rfl, ?_⟩
  replace hz := hz.m (show 28 ≤ 29 by decide)
  refine ⟨isO_k hL (by decide) rfl, ?_⟩
  refine ⟨by omega, ?_⟩
  intro U_4 eU_4
  subst eU_4
  rw [uf_up]
  replace hz := hz.u (i := 27) (j := 2) (r := 29) (by decide)
  refine ⟨by rw [hL]; rfl, ?_⟩
  replace hz := hz.m (show 29 ≤ 30 by decide)
  refine ⟨isO_k hL (by decide) rfl, ?_⟩
  refine ⟨by omega, ?_⟩
  intro U_8 eU_8
  subst eU_8
  rw [uf_up]
  replace hz := hz.u (i := 27) (j := 3) (r := 30) (by decide)
  refine ⟨by rw [hL]; rfl, ?_⟩
  replace hz := hz.m (show 30 ≤ 31 by decide)
  try unfold wp_E_init
  refine ⟨vz_of hz, ?_⟩
  refine ⟨isO_k hL (by decide) rfl, ?_⟩
  intro V_2 eV_2
  subst eV_2
  rw [vf_up]
  replace hz := hz.v (i := 30) (j := 0) (x := 0) (by decide)
  refine ⟨by rw [hL]; rfl, ?_⟩
  replace hz := hz.m (show 31 ≤ 32 by decide)
  try unfold wp_K_init
  refine ⟨vz_of hz, ?_⟩
  refine ⟨by rw [hL]; rfl, ?_⟩
  replace hz := hz.m (show 32 ≤ 33 by decide)
  refine ⟨isO_k hL (by decide) rfl, ?_⟩
  refine ⟨by omega, ?_⟩
  intro U_4 eU_4
  subst eU_4
  rw [uf_up]
  replace hz := hz.u (i := 31) (j := 0) (r := 33) (by decide)
  try simp only [Nat.reduceAdd]
  refine ⟨vz_of hz, ?_⟩
  refine ⟨isO_k hL (by decide) rfl, ?_⟩
  refine ⟨by omega, ?_⟩
  intro U_9 eU_9
  subst eU_9
  rw [uf_up]
  replace hz := hz.u (i := 30) (j := 5) (r := 32) (by decide)
  try simp only [Nat.reduceAdd]
  refine ⟨vz_of hz, ?_⟩
  refine ⟨isO_k hL (by decide) rfl, ?_⟩
  refine ⟨by omega, ?_⟩
  intro U_15 eU_15
  subst eU_15
  rw [uf_up]
  replace hz := hz.u (i := 27) (j := 6) (r := 31) (by decide)
  refine ⟨by omega, ?_⟩
  intro U_17 eU_17
  subst eU_17
  rw [uf_up]
  replace hz := hz.u (i := 27) (j := 0) (r := 2) (by decide)
  refine ⟨by omega, ?_⟩
  intro U_19 eU_19
  subst eU_19
  rw [uf_up]
  replace hz := hz.u (i := 27) (j := 1) (r := 26) (by decide)
  refine ⟨uf_nz (i := 27) (j := 2) (r := 28) h0 (by decide +kernel), ?_⟩
  rw [uf_eq (i := 27) (j := 2) (r := 28) (by decide +kernel)]
  refine ⟨by rw [hL]; rfl, ?_⟩
  replace hz := hz.m (show 33 ≤ 34 by decide)
  try unfold wp_I_init
  refine ⟨vz_of hz, ?_⟩
  refine ⟨by rw [hL]; rfl, ?_⟩
  replace hz := hz.m (show 34 ≤ 35 by decide)
  try unfold wp_K_init
  refine ⟨vz_of hz, ?_⟩
  refine ⟨by rw [hL]; rfl, ?_⟩
  replace hz := hz.m (show 35 ≤ 36 by decide)
  refine ⟨isO_k hL (by decide) rfl, ?_⟩
  refine ⟨by omega, ?_⟩
  intro U_4 eU_4
  subst eU_4
  rw [uf_up]
  replace hz := hz.u (i := 34) (j := 0) (r := 36) (by decide)
  try simp only [Nat.reduceAdd]
  refine ⟨vz_of hz, ?_⟩
  refine ⟨isO_k hL (by decide) rfl, ?_⟩
  refine ⟨by omega, ?_⟩
  intro U_7 eU_7
  subst eU_7
  rw [uf_up]
  replace hz := hz.u (i := 33) (j := 4) (r := 35) (by decide)
  try simp only [Nat.reduceAdd]
  refine ⟨vz_of hz, ?_⟩
  refine ⟨_, isR_k hL (by decide) rfl, ?_⟩
  refine ⟨isO_k hL (by decide) rfl, ?_⟩
  refine ⟨by omega, ?_⟩
  refine ⟨by show ¬ (_ ∨ _); decide, ?_⟩
  intro U_30 eU_30
  subst eU_30
  rw [uf_up]
  replace hz := hz.u (i := 28) (j := 0) (r := 34) (by decide)
  refine ⟨isO_k hL (by decide) rfl, ?_⟩
  refine ⟨uf_nz (i := 27) (j := 2) (r := 28) h0 (by decide +kernel), ?_⟩
  rw [uf_eq (i := 27) (j := 2) (r := 28) (by decide +kernel)]
  refine ⟨by rw [hL]; rfl, ?_⟩
  replace hz := hz.m (show 36 ≤ 37 by decide)
  try unfold wp_I_init
  refine ⟨vz_of hz, ?_⟩
  refine ⟨by rw [hL]; rfl, ?_⟩
  replace hz := hz.m (show 37 ≤ 38 by decide)
  try unfold wp_K_init
  refine ⟨vz_of hz, ?_⟩
  refine ⟨by rw [hL]; rfl, ?_⟩
  replace hz := hz.m (show 38 ≤ 39 by decide)
  refine ⟨isO_k hL (by decide) rfl, ?_⟩
  refine ⟨by omega, ?_⟩
  intro U_4 eU_4
  subst eU_4
  rw [uf_up]
  replace hz := hz.u (i := 37) (j := 0) (r := 39) (by decide)
  try simp only [Nat.reduceAdd]
  refine ⟨vz_of hz, ?_⟩
  refine ⟨isO_k hL (by decide) rfl, ?_⟩
  refine ⟨by omega, ?_⟩
  intro U_7 eU_7
  subst eU_7
  rw [uf_up]
  replace hz := hz.u (i := 36) (j := 4) (r := 38) (by decide)
  try simp only [Nat.reduceAdd]
  refine ⟨vz_of hz, ?_⟩
  refine ⟨_, isR_k hL (by decide) rfl, ?_⟩
  refine ⟨isO_k hL (by decide) rfl, ?_⟩
  refine ⟨by omega, ?_⟩
  refine ⟨by show ¬ (_ ∨ _); decide, ?_⟩
  intro U_42 eU_42
  subst eU_42
  rw [uf_up]
  replace hz := hz.u (i := 28) (j := 1) (r := 37) (by decide)
  refine ⟨isO_k hL (by decide) rfl, ?_⟩
  refine ⟨uf_nz (i := 27) (j := 2) (r := 28) h0 (by decide +kernel), ?_⟩
  rw [uf_eq (i := 27) (j := 2) (r := 28) (by decide +kernel)]
  refine ⟨by rw [hL]; rfl, ?_⟩
  replace hz := hz.m (show 39 ≤ 40 by decide)
  try unfold wp_I_init
  refine ⟨vz_of hz, ?_⟩
  refine ⟨by rw [hL]; rfl, ?_⟩
  replace hz := hz.m (show 40 ≤ 41 by decide)
  try unfold wp_K_init
  refine ⟨vz_of hz, ?_⟩
  refine ⟨by rw [hL]; rfl, ?_⟩
  replace hz := hz.m (show 41 ≤ 42 by decide)
  refine ⟨isO_k hL (by decide) rfl, ?_⟩
  refine ⟨by omega, ?_⟩
  intro U_4 eU_4
  subst eU_4
  rw [uf_up]
  replace hz := hz.u (i := 40) (j := 0) (r := 42) (by decide)
  try simp only [Nat.reduceAdd]
  refine ⟨vz_of hz, ?_⟩
  refine ⟨isO_k hL (by decide) rfl, ?_⟩
  refine ⟨by omega, ?_⟩
  intro U_7 eU_7
  subst eU_7
  rw [uf_up]
  replace hz := hz.u (i := 39) (j := 4) (r := 41) (by decide)
  try simp only [Nat.reduceAdd]
  refine ⟨vz_of hz, ?_⟩
  refine ⟨_, isR_k hL (by decide) rfl, ?_⟩
  refine ⟨isO_k hL (by decide) rfl, ?_⟩
  refine ⟨by omega, ?_⟩
  refine ⟨by show ¬ (_ ∨ _); decide, ?_⟩
  intro U_54 eU_54
  subst eU_54
  rw [uf_up]
  replace hz := hz.u (i := 28) (j := 2) (r := 40) (by decide)
  refine ⟨isO_k hL (by decide) rfl, ?_⟩
  refine ⟨uf_nz (i := 27) (j := 3) (r := 29) h0 (by decide +kernel), ?_⟩
  rw [uf_eq (i := 27) (j := 3) (r := 29) (by decide +kernel)]
  refine ⟨by rw [hL]; rfl, ?_⟩
  replace hz := hz.m (show 42 ≤ 43 by decide)
  try unfold wp_E_init
  refine ⟨vz_of hz, ?_⟩
  refine ⟨isO_k hL (by decide) rfl, ?_⟩
  intro V_2 eV_2
  subst eV_2
  rw [vf_up]
  replace hz := hz.v (i := 42) (j := 0) (x := 0) (by decide)
  refine ⟨by rw [hL]; rfl, ?_⟩
  replace hz := hz.m (show 43 ≤ 44 by decide)
  try unfold wp_K_init
  refine ⟨vz_of hz, ?_⟩
  refine ⟨by rw [hL]; rfl, ?_⟩
  replace hz := hz.m (show 44 ≤ 45 by decide)
  refine ⟨isO_k hL (by decide) rfl, ?_⟩
  refine ⟨by omega, ?_⟩
  intro U_4 eU_4
  subst eU_4
  rw [uf_up]
  replace hz := hz.u (i := 43) (j := 0) (r := 45) (by decide)
  try simp only [Nat.reduceAdd]
  refine ⟨vz_of hz, ?_⟩
  refine ⟨isO_k hL (by decide) rfl, ?_⟩
  refine ⟨by omega, ?_⟩
  intro U_9 eU_9
  subst eU_9
  rw [uf_up]
  replace hz := hz.u (i := 42) (j := 5) (r := 44) (by decide)
  try simp only [Nat.reduceAdd]
  refine ⟨vz_of hz, ?_⟩
  refine ⟨_, isR_k hL (by decide) rfl, ?_⟩
  refine ⟨isO_k hL (by decide) rfl, ?_⟩
  refine ⟨by omega, ?_⟩
  refine ⟨by show ¬ (_ ∨ _); decide, ?_⟩
  intro U_66 eU_66
  subst eU_66
  rw [uf_up]
  replace hz := hz.u (i := 29) (j := 0) (r := 43) (by decide)
  refine ⟨isO_k hL (by decide) rfl, ?_⟩
  refine ⟨uf_nz (i := 27) (j := 3) (r := 29) h0 (by decide +kernel), ?_⟩
  rw [uf_eq (i := 27) (j := 3) (r := 29) (by decide +kernel)]
  refine ⟨by rw [hL]; rfl, ?_⟩
  replace hz := hz.m (show 45 ≤ 46 by decide)
  try unfold wp_E_init
  refine ⟨vz_of hz, ?_⟩
  refine ⟨isO_k hL (by decide) rfl, ?_⟩
  intro V_2 eV_2
  subst eV_2
  rw [vf_up]
  replace hz := hz.v (i := 45) (j := 0) (x := 0) (by decide)
  refine ⟨by rw [hL]; rfl, ?_⟩
  replace hz := hz.m (show 46 ≤ 47 by decide)
  try unfold wp_K_init
  refine ⟨vz_of hz, ?_⟩
  refine ⟨by rw [hL]; rfl, ?_⟩
  replace hz := hz.m (show 47 ≤ 48 by decide)
  refine ⟨isO_k hL (by decide) rfl, ?_⟩
  refine ⟨by omega, ?_⟩
  intro U_4 eU_4
  subst eU_4
  rw [uf_up]
  replace hz := hz.u (i := 46) (j := 0) (r := 48) (by decide)
  try simp only [Nat.reduceAdd]
  refine ⟨vz_of hz, ?_⟩
  refine ⟨isO_k hL (by decide) rfl, ?_⟩
  refine ⟨by omega, ?_⟩
  intro U_9 eU_9
  subst eU_9
  rw [uf_up]
  replace hz := hz.u (i := 45) (j := 5) (r := 47) (by decide)
  try simp only [Nat.reduceAdd]
  refine ⟨vz_of hz, ?_⟩
  refine ⟨_, isR_k hL (by decide) rfl, ?_⟩
  refine ⟨isO_k hL (by decide) rfl, ?_⟩
  refine ⟨by omega, ?_⟩
  refine ⟨by show ¬ (_ ∨ _); decide, ?_⟩
  intro U_78 eU_78
  subst eU_78
  rw [uf_up]
  replace hz := hz.u (i := 29) (j := 1) (r := 46) (by decide)
  refine ⟨isO_k hL (by decide) rfl, ?_⟩
  refine ⟨uf_nz (i := 27) (j := 3) (r := 29) h0 (by decide +kernel), ?_⟩
  rw [uf_eq (i := 27) (j := 3) (r := 29) (by decide +kernel)]
  refine ⟨by rw [hL]; rfl, ?_⟩
  replace hz := hz.m (show 48 ≤ 49 by decide)
  try unfold wp_E_init
  refine ⟨vz_of hz, ?_⟩
  refine ⟨isO_k hL (by decide) rfl, ?_⟩
  intro V_2 eV_2
  subst eV_2
  rw [vf_up]
  replace hz := hz.v (i := 48) (j := 0) (x := 0) (by decide)
  refine ⟨by rw [hL]; rfl, ?_⟩
  replace hz := hz.m (show 49 ≤ 50 by decide)
  try unfold wp_K_init
  refine ⟨vz_of hz, ?_⟩
  refine ⟨by rw [hL]; rfl, ?_⟩
  replace hz := hz.m (show 50 ≤ 51 by decide)
  refine ⟨isO_k hL (by decide) rfl, ?_⟩
  refine ⟨by omega, ?_⟩
  intro U_4 eU_4
  subst eU_4
  rw [uf_up]
  replace hz := hz.u (i := 49) (j := 0) (r := 51) (by decide)
  try simp only [Nat.reduceAdd]
  refine ⟨vz_of hz, ?_⟩
  refine ⟨isO_k hL (by decide) rfl, ?_⟩
  refine ⟨by omega, ?_⟩
  intro U_9 eU_9
  subst eU_9
  rw [uf_up]
  replace hz := hz.u (i := 48) (j := 5) (r := 50) (by decide)
  try simp only [Nat.reduceAdd]
  refine ⟨vz_of hz, ?_⟩
  refine ⟨_, isR_k hL (by decide) rfl, ?_⟩
  refine ⟨isO_k hL (by decide) rfl, ?_⟩
  refine ⟨by omega, ?_⟩
  refine ⟨by show ¬ (_ ∨ _); decide, ?_⟩
  intro U_90 eU_90
  subst eU_90
  rw [uf_up]
  replace hz := hz.u (i := 29) (j := 2) (r := 49) (by decide)
  refine ⟨isO_k hL (by decide) rfl, ?_⟩
  refine ⟨uf_nz (i := 27) (j := 3) (r := 29) h0 (by decide +kernel), ?_⟩
  rw [uf_eq (i := 27) (j := 3) (r := 29) (by decide +kernel)]
  refine ⟨by rw [hL]; rfl, ?_⟩
  replace hz := hz.m (show 51 ≤ 52 by decide)
  try unfold wp_E_init
  refine ⟨vz_of hz, ?_⟩
  refine ⟨isO_k hL (by decide) rfl, ?_⟩
  intro V_2 eV_2
  subst eV_2
  rw [vf_up]
  replace hz := hz.v (i := 51) (j := 0) (x := 0) (by decide)
  refine ⟨by rw [hL]; rfl, ?_⟩
  replace hz := hz.m (show 52 ≤ 53 by decide)
  try unfold wp_K_init
  refine ⟨vz_of hz, ?_⟩
  refine ⟨by rw [hL]; rfl, ?_⟩
  replace hz := hz.m (show 53 ≤ 54 by decide)
  refine ⟨isO_k hL (by decide) rfl, ?_⟩
  refine ⟨by omega, ?_⟩
  intro U_4 eU_4
  subst eU_4
  rw [uf_up]
  replace hz := hz.u (i := 52) (j := 0) (r := 54) (by decide)
  try simp only [Nat.reduceAdd]
  refine ⟨vz_of hz, ?_⟩
  refine ⟨isO_k hL (by decide) rfl, ?_⟩
  refine ⟨by omega, ?_⟩
  intro U_9 eU_9
  subst eU_9
  rw [uf_up]
  replace hz := hz.u (i := 51) (j := 5) (r := 53) (by decide)
  try simp only [Nat.reduceAdd]
  refine ⟨vz_of hz, ?_⟩
  refine ⟨_, isR_k hL (by decide) rfl, ?_⟩
  refine ⟨isO_k hL (by decide) rfl, ?_⟩
  refine ⟨by omega, ?_⟩
  refine ⟨by show ¬ (_ ∨ _); decide, ?_⟩
  intro U_102 eU_102
  subst eU_102
  rw [uf_up]
  replace hz := hz.u (i := 29) (j := 3) (r := 52) (by decide)
  refine ⟨isO_k hL (by decide) rfl, ?_⟩
  refine ⟨uf_nz (i := 27) (j := 3) (r := 29) h0 (by decide +kernel), ?_⟩
  rw [uf_eq (i := 27) (j := 3) (r := 29) (by decide +kernel)]
  refine ⟨by rw [hL]; rfl, ?_⟩
  replace hz := hz.m (show 54 ≤ 55 by decide)
  try unfold wp_E_init
  refine ⟨vz_of hz, ?_⟩
  refine ⟨isO_k hL (by decide) rfl, ?_⟩
  intro V_2 eV_2
  subst eV_2
  rw [vf_up]
  replace hz := hz.v (i := 54) (j := 0) (x := 0) (by decide)
  refine ⟨by rw [hL]; rfl, ?_⟩
  replace hz := hz.m (show 55 ≤ 56 by decide)
  try unfold wp_K_init
  refine ⟨vz_of hz, ?_⟩
  refine ⟨by rw [hL]; rfl, ?_⟩
  replace hz := hz.m (show 56 ≤ 57 by decide)
  refine ⟨isO_k hL (by decide) rfl, ?_⟩
  refine ⟨by omega, ?_⟩
  intro U_4 eU_4
  subst eU_4
  rw [uf_up]
  replace hz := hz.u (i := 55) (j := 0) (r := 57) (by decide)
  try simp only [Nat.reduceAdd]
  refine ⟨vz_of hz, ?_⟩
  refine ⟨isO_k hL (by decide) rfl, ?_⟩
  refine ⟨by omega, ?_⟩
  intro U_9 eU_9
  subst eU_9
  rw [uf_up]
  replace hz := hz.u (i := 54) (j := 5) (r := 56) (by decide)
  try simp only [Nat.reduceAdd]
  refine ⟨vz_of hz, ?_⟩
  refine ⟨_, isR_k hL (by decide) rfl, ?_⟩
  refine ⟨isO_k hL (by decide) rfl, ?_⟩
  refine ⟨by omega, ?_⟩
  refine ⟨by show ¬ (_ ∨ _); decide, ?_⟩
  intro U_114 eU_114
  subst eU_114
  rw [uf_up]
  replace hz := hz.u (i := 29) (j := 4) (r := 55) (by decide)
  refine ⟨isO_k hL (by decide) rfl, ?_⟩
  refine ⟨uf_nz (i := 27) (j := 3) (r := 29) h0 (by decide +kernel), ?_⟩
  rw [uf_eq (i := 27) (j := 3) (r := 29) (by decide +kernel)]
  refine ⟨by rw [hL]; rfl, ?_⟩
  replace hz := hz.m (show 57 ≤ 58 by decide)
  try unfold wp_E_init
  refine ⟨vz_of hz, ?_⟩
  refine ⟨isO_k hL (by decide) rfl, ?_⟩
  intro V_2 eV_2
  subst eV_2
  rw [vf_up]
  replace hz := hz.v (i := 57) (j := 0) (x := 0) (by decide)
  refine ⟨by rw [hL]; rfl, ?_⟩
  replace hz := hz.m (show 58 ≤ 59 by decide)
  try unfold wp_K_init
  refine ⟨vz_of hz, ?_⟩
  refine ⟨by rw [hL]; rfl, ?_⟩
  replace hz := hz.m (show 59 ≤ 60 by decide)
  refine ⟨isO_k hL (by decide) rfl, ?_⟩
  refine ⟨by omega, ?_⟩
  intro U_4 eU_4
  subst eU_4
  rw [uf_up]
  replace hz := hz.u (i := 58) (j := 0) (r := 60) (by decide)
  try simp only [Nat.reduceAdd]
  refine ⟨vz_of hz, ?_⟩
  refine ⟨isO_k hL (by decide) rfl, ?_⟩
  refine ⟨by omega, ?_⟩
  intro U_9 eU_9
  subst eU_9
  rw [uf_up]
  replace hz := hz.u (i := 57) (j := 5) (r := 59) (by decide)
  try simp only [Nat.reduceAdd]
  refine ⟨vz_of hz, ?_⟩
  refine ⟨_, isR_k hL (by decide) rfl, ?_⟩
  refine ⟨isO_k hL (by decide) rfl, ?_⟩
  refine ⟨by omega, ?_⟩
  refine ⟨by show ¬ (_ ∨ _); decide, ?_⟩
  intro U_126 eU_126
  subst eU_126
  rw [uf_up]
  replace hz := hz.u (i := 29) (j := 5) (r := 58) (by decide)
  refine ⟨isO_k hL (by decide) rfl, ?_⟩
  refine ⟨uf_nz (i := 27) (j := 3) (r := 29) h0 (by decide +kernel), ?_⟩
  rw [uf_eq (i := 27) (j := 3) (r := 29) (by decide +kernel)]
  refine ⟨by rw [hL]; rfl, ?_⟩
  replace hz := hz.m (show 60 ≤ 61 by decide)
  try unfold wp_E_init
  refine ⟨vz_of hz, ?_⟩
  refine ⟨isO_k hL (by decide) rfl, ?_⟩
  intro V_2 eV_2
  subst eV_2
  rw [vf_up]
  replace hz := hz.v (i := 60) (j := 0) (x := 0) (by decide)
  refine ⟨by rw [hL]; rfl, ?_⟩
  replace hz := hz.m (show 61 ≤ 62 by decide)
  try unfold wp_K_init
  refine ⟨vz_of hz, ?_⟩
  refine ⟨by rw [hL]; rfl, ?_⟩
  replace hz := hz.m (show 62 ≤ 63 by decide)
  refine ⟨isO_k hL (by decide) rfl, ?_⟩
  refine ⟨by omega, ?_⟩
  intro U_4 eU_4
  subst eU_4
  rw [uf_up]
  replace hz := hz.u (i := 61) (j := 0) (r := 63) (by decide)
  try simp only [Nat.reduceAdd]
  refine ⟨vz_of hz, ?_⟩
  refine ⟨isO_k hL (by decide) rfl, ?_⟩
  refine ⟨by omega, ?_⟩
  intro U_9 eU_9
  subst eU_9
  rw [uf_up]
  replace hz := hz.u (i := 60) (j := 5) (r := 62) (by decide)
  try simp only [Nat.reduceAdd]
  refine ⟨vz_of hz, ?_⟩
  refine ⟨_, isR_k hL (by decide) rfl, ?_⟩
  refine ⟨isO_k hL (by decide) rfl, ?_⟩
  refine ⟨by omega, ?_⟩
  refine ⟨by show ¬ (_ ∨ _); decide, ?_⟩
  intro U_138 eU_138
  subst eU_138
  rw [uf_up]
  replace hz := hz.u (i := 29) (j := 6) (r := 61) (by decide)
  refine ⟨isO_k hL (by decide) rfl, ?_⟩
  refine ⟨uf_nz (i := 27) (j := 3) (r := 29) h0 (by decide +kernel), ?_⟩
  rw [uf_eq (i := 27) (j := 3) (r := 29) (by decide +kernel)]
  refine ⟨by rw [hL]; rfl, ?_⟩
  replace hz := hz.m (show 63 ≤ 64 by decide)
  try unfold wp_E_init
  refine ⟨vz_of hz, ?_⟩
  refine ⟨isO_k hL (by decide) rfl, ?_⟩
  intro V_2 eV_2
  subst eV_2
  rw [vf_up]
  replace hz := hz.v (i := 63) (j := 0) (x := 0) (by decide)
  refine ⟨by rw [hL]; rfl, ?_⟩
  replace hz := hz.m (show 64 ≤ 65 by decide)
  try unfold wp_K_init
  refine ⟨vz_of hz, ?_⟩
  refine ⟨by rw [hL]; rfl, ?_⟩
  replace hz := hz.m (show 65 ≤ 66 by decide)
  refine ⟨isO_k hL (by decide) rfl, ?_⟩
  refine ⟨by omega, ?_⟩
  intro U_4 eU_4
  subst eU_4
  rw [uf_up]
  replace hz := hz.u (i := 64) (j := 0) (r := 66) (by decide)
  try simp only [Nat.reduceAdd]
  refine ⟨vz_of hz, ?_⟩
  refine ⟨isO_k hL (by decide) rfl, ?_⟩
  refine ⟨by omega, ?_⟩
  intro U_9 eU_9
  subst eU_9
  rw [uf_up]
  replace hz := hz.u (i := 63) (j := 5) (r := 65) (by decide)
  try simp only [Nat.reduceAdd]
  refine ⟨vz_of hz, ?_⟩
  refine ⟨_, isR_k hL (by decide) rfl, ?_⟩
  refine ⟨isO_k hL (by decide) rfl, ?_⟩
  refine ⟨by omega, ?_⟩
  refine ⟨by show ¬ (_ ∨ _); decide, ?_⟩
  intro U_150 eU_150
  subst eU_150
  rw [uf_up]
  replace hz := hz.u (i := 29) (j := 7) (r := 64) (by decide)
  try simp only [Nat.reduceAdd]
  refine ⟨vz_of hz, ?_⟩
  refine ⟨isO_k hL (by decide) rfl, ?_⟩
  refine ⟨by omega, ?_⟩
  intro U_79 eU_79
  subst eU_79
  rw [uf_up]
  replace hz := hz.u (i := 0) (j := 5) (r := 28) (by decide)
  refine ⟨by rw [hL]; rfl, ?_⟩
  replace hz := hz.m (show 66 ≤ 67 by decide)
  refine ⟨isO_k hL (by decide) rfl, ?_⟩
  refine ⟨uf_nz (i := 0) (j := 4) (r := 25) h0 (by decide +kernel), ?_⟩
  rw [uf_eq (i := 0) (j := 4) (r := 25) (by decide +kernel)]
  try unfold wp_D_init
  refine ⟨vz_of hz, ?_⟩
  refine ⟨by rw [hL]; rfl, ?_⟩
  replace hz := hz.m (show 67 ≤ 68 by decide)
  refine ⟨isO_k hL (by decide) rfl, ?_⟩
  refine ⟨by omega, ?_⟩
  intro U_4 eU_4
  subst eU_4
  rw [uf_up]
  replace hz := hz.u (i := 66) (j := 1) (r := 68) (by decide)
  refine ⟨by rw [hL]; rfl, ?_⟩
  replace hz := hz.m (show 68 ≤ 69 by decide)
  try unfold wp_C_init
  refine ⟨vz_of hz, ?_⟩
  refine ⟨by rw [hL]; rfl, ?_⟩
  replace hz := hz.m (show 69 ≤ 70 by decide)
  refine ⟨isO_k hL (by decide) rfl, ?_⟩
  refine ⟨by omega, ?_⟩
  intro U_4 eU_4
  subst eU_4
  rw [uf_up]
  replace hz := hz.u (i := 68) (j := 2) (r := 70) (by decide)
  refine ⟨by rw [hL]; rfl, ?_⟩
  replace hz := hz.m (show 70 ≤ 71 by decide)
  refine ⟨isO_k hL (by decide) rfl, ?_⟩
  refine ⟨by omega, ?_⟩
  intro U_8 eU_8
  subst eU_8
  rw [uf_up]
  replace hz := hz.u (i := 68) (j := 3) (r := 71) (by decide)
  refine ⟨by rw [hL]; rfl, ?_⟩
  replace hz := hz.m (show 71 ≤ 72 by decide)
  refine ⟨isO_k hL (by decide) rfl, ?_⟩
  refine ⟨by omega, ?_⟩
  intro U_12 eU_12
  subst eU_12
  rw [uf_up]
  replace hz := hz.u (i := 68) (j := 4) (r := 72) (by decide)
  refine ⟨by rw [hL]; rfl, ?_⟩
  replace hz := hz.m (show 72 ≤ 73 by decide)
  refine ⟨isO_k hL (by decide) rfl, ?_⟩
  refine ⟨by omega, ?_⟩
  intro U_16 eU_16
  subst eU_16
  rw [uf_up]
  replace hz := hz.u (i := 68) (j := 5) (r := 73) (by decide)
  refine ⟨by rw [hL]; rfl, ?_⟩
  replace hz := hz.m (show 73 ≤ 74 by decide)
  refine ⟨isO_k hL (by decide) rfl, ?_⟩
  refine ⟨by omega, ?_⟩
  intro U_20 eU_20
  subst eU_20
  rw [uf_up]
  replace hz := hz.u (i := 68) (j := 6) (r := 74) (by decide)
  refine ⟨by rw [hL]; rfl, ?_⟩
  replace hz := hz.m (show 74 ≤ 75 by decide)
  refine ⟨isO_k hL (by decide) rfl, ?_⟩
  refine ⟨by omega, ?_⟩
  intro U_24 eU_24
  subst eU_24
  rw [uf_up]
  replace hz := hz.u (i := 68) (j := 8) (r := 75) (by decide)
  refine ⟨by rw [hL]; rfl, ?_⟩
  replace hz := hz.m (show 75 ≤ 76 by decide)
  refine ⟨isO_k hL (by decide) rfl, ?_⟩
  refine ⟨by omega, ?_⟩
  intro U_28 eU_28
  subst eU_28
  rw [uf_up]
  replace hz := hz.u (i := 68) (j := 9) (r := 76) (by decide)
  refine ⟨by rw [hL]; rfl, ?_⟩
  replace hz := hz.m (show 76 ≤ 77 by decide)
  refine ⟨isO_k hL (by decide) rfl, ?_⟩
  refine ⟨by omega, ?_⟩
  intro U_32 eU_32
  subst eU_32
  rw [uf_up]
  replace hz := hz.u (i := 68) (j := 10) (r := 77) (by decide)
  refine ⟨by rw [hL]; rfl, ?_⟩
  replace hz := hz.m (show 77 ≤ 78 by decide)
  refine ⟨isO_k hL (by decide) rfl, ?_⟩
  refine ⟨by omega, ?_⟩
  intro U_36 eU_36
  subst eU_36
  rw [uf_up]
  replace hz := hz.u (i := 68) (j := 11) (r := 78) (by decide)
  try simp only [Nat.reduceAdd]
  refine ⟨vz_of hz, ?_⟩
  refine ⟨isO_k hL (by decide) rfl, ?_⟩
  refine ⟨by omega, ?_⟩
  intro U_11 eU_11
  subst eU_11
  rw [uf_up]
  replace hz := hz.u (i := 66) (j := 7) (r := 69) (by decide)
  refine ⟨by rw [hL]; rfl, ?_⟩
  replace hz := hz.m (show 78 ≤ 79 by decide)
  try unfold wp_P_init
  refine ⟨vz_of hz, ?_⟩
  refine ⟨isO_k hL (by decide) rfl, ?_⟩
  intro V_2 eV_2
  subst eV_2
  rw [vf_up]
  replace hz := hz.v (i := 78) (j := 0) (x := 1) (by decide)
  intro V_3 eV_3
  subst eV_3
  rw [vf_up]
  replace hz := hz.v (i := 78) (j := 4) (x := 1) (by decide)
  intro V_4 eV_4
  subst eV_4
  rw [vf_up]
  replace hz := hz.v (i := 78) (j := 5) (x := 1) (by decide)
  refine ⟨by rw [hL]; rfl, ?_⟩
  replace hz := hz.m (show 79 ≤ 80 by decide)
  refine ⟨isO_k hL (by decide) rfl, ?_⟩
  refine ⟨by omega, ?_⟩
  intro U_8 eU_8
  subst eU_8
  rw [uf_up]
  replace hz := hz.u (i := 78) (j := 7) (r := 80) (by decide)
  refine ⟨by rw [hL]; rfl, ?_⟩
  replace hz := hz.m (show 80 ≤ 81 by decide)
  refine ⟨isO_k hL (by decide) rfl, ?_⟩
  refine ⟨by omega, ?_⟩
  intro U_12 eU_12
  subst eU_12
  rw [uf_up]
  replace hz := hz.u (i := 78) (j := 10) (r := 81) (by decide)
  refine ⟨by rw [hL]; rfl, ?_⟩
  replace hz := hz.m (show 81 ≤ 82 by decide)
  refine ⟨by rw [hL]; rfl, ?_⟩
  replace hz := hz.m (show 82 ≤ 83 by decide)
  refine ⟨by rw [hL]; rfl, ?_⟩
  replace hz := hz.m (show 83 ≤ 84 by decide)
  intro U_16 eU_16
  subst eU_16
  rw [uf_up]
  rw [uf_up]
  replace hz := (hz.u (i := 81) (j := 0) (r := 83) (by decide)).u (i := 81) (j := 1) (r := 84) (by decide)
  refine ⟨isO_k hL (by decide) rfl, ?_⟩
  refine ⟨by omega, ?_⟩
  intro U_19 eU_19
  subst eU_19
  rw [uf_up]
  replace hz := hz.u (i := 78) (j := 11) (r := 82) (by decide)
  try simp only [Nat.reduceAdd]
  refine ⟨vz_of hz, ?_⟩
  refine ⟨isO_k hL (by decide) rfl, ?_⟩
  refine ⟨by omega, ?_⟩
  intro U_18 eU_18
  subst eU_18
  rw [uf_up]
  replace hz := hz.u (i := 66) (j := 8) (r := 79) (by decide)
  refine ⟨by rw [hL]; rfl, ?_⟩
  replace hz := hz.m (show 84 ≤ 85 by decide)
  try unfold wp_C_init
  refine ⟨vz_of hz, ?_⟩
  refine ⟨by rw [hL]; rfl, ?_⟩
  replace hz := hz.m (show 85 ≤ 86 by decide)
  refine ⟨isO_k hL (by decide) rfl, ?_⟩
  refine ⟨by omega, ?_⟩
  intro U_4 eU_4
  subst eU_4
  rw [uf_up]
  replace hz := hz.u (i := 84) (j := 2) (r := 86) (by decide)
  refine ⟨by rw [hL]; rfl, ?_⟩
  replace hz := hz.m (show 86 ≤ 87 by decide)
  refine ⟨isO_k hL (by decide) rfl, ?_⟩
  refine ⟨by omega, ?_⟩
  intro U_8 eU_8
  subst eU_8
  rw [uf_up]
  replace hz := hz.u (i := 84) (j := 3) (r := 87) (by decide)
  refine ⟨by rw [hL]; rfl, ?_⟩
  replace hz := hz.m (show 87 ≤ 88 by decide)
  refine ⟨isO_k hL (by decide) rfl, ?_⟩
  refine ⟨by omega, ?_⟩
  intro U_12 eU_12
  subst eU_12
  rw [uf_up]
  replace hz := hz.u (i := 84) (j := 4) (r := 88) (by decide)
  refine ⟨by rw [hL]; rfl, ?_⟩
  replace hz := hz.m (show 88 ≤ 89 by decide)
  refine ⟨isO_k hL (by decide) rfl, ?_⟩
  refine ⟨by omega, ?_⟩
  intro U_16 eU_16
  subst eU_16
  rw [uf_up]
  replace hz := hz.u (i := 84) (j := 5) (r := 89) (by decide)
  refine ⟨by rw [hL]; rfl, ?_⟩
  replace hz := hz.m (show 89 ≤ 90 by decide)
  refine ⟨isO_k hL (by decide) rfl, ?_⟩
  refine ⟨by omega, ?_⟩
  intro U_20 eU_20
  subst eU_20
  rw [uf_up]
  replace hz := hz.u (i := 84) (j := 6) (r := 90) (by decide)
  refine ⟨by rw [hL]; rfl, ?_⟩
  replace hz := hz.m (show 90 ≤ 91 by decide)
  refine ⟨isO_k hL (by decide) rfl, ?_⟩
  refine ⟨by omega, ?_⟩
  intro U_24 eU_24
  subst eU_24
  rw [uf_up]
  replace hz := hz.u (i := 84) (j := 8) (r := 91) (by decide)
  refine ⟨by rw [hL]; rfl, ?_⟩
  replace hz := hz.m (show 91 ≤ 92 by decide)
  refine ⟨isO_k hL (by decide) rfl, ?_⟩
  refine ⟨by omega, ?_⟩
  intro U_28 eU_28
  subst eU_28
  rw [uf_up]
  replace hz := hz.u (i := 84) (j := 9) (r := 92) (by decide)
  refine ⟨by rw [hL]; rfl, ?_⟩
  replace hz := hz.m (show 92 ≤ 93 by decide)
  refine ⟨isO_k hL (by decide) rfl, ?_⟩
  refine ⟨by omega, ?_⟩
  intro U_32 eU_32
  subst eU_32
  rw [uf_up]
  replace hz := hz.u (i := 84) (j := 10) (r := 93) (by decide)
  refine ⟨by rw [hL]; rfl, ?_⟩
  replace hz := hz.m (show 93 ≤ 94 by decide)
  refine ⟨isO_k hL (by decide) rfl, ?_⟩
  refine ⟨by omega, ?_⟩
  intro U_36 eU_36
  subst eU_36
  rw [uf_up]
  replace hz := hz.u (i := 84) (j := 11) (r := 94) (by decide)
  try simp only [Nat.reduceAdd]
  refine ⟨vz_of hz, ?_⟩
  refine ⟨isO_k hL (by decide) rfl, ?_⟩
  refine ⟨by omega, ?_⟩
  intro U_25 eU_25
  subst eU_25
  rw [uf_up]
  replace hz := hz.u (i := 66) (j := 9) (r := 85) (by decide)
  refine ⟨by rw [hL]; rfl, ?_⟩
  replace hz := hz.m (show 94 ≤ 95 by decide)
  try unfold wp_P_init
  refine ⟨vz_of hz, ?_⟩
  refine ⟨isO_k hL (by decide) rfl, ?_⟩
  intro V_2 eV_2
  subst eV_2
  rw [vf_up]
  replace hz := hz.v (i := 94) (j := 0) (x := 1) (by decide)
  intro V_3 eV_3
  subst eV_3
  rw [vf_up]
  replace hz := hz.v (i := 94) (j := 4) (x := 1) (by decide)
  intro V_4 eV_4
  subst eV_4
  rw [vf_up]
  replace hz := hz.v (i := 94) (j := 5) (x := 1) (by decide)
  refine ⟨by rw [hL]; rfl, ?_⟩
  replace hz := hz.m (show 95 ≤ 96 by decide)
  refine ⟨isO_k hL (by decide) rfl, ?_⟩
  refine ⟨by omega, ?_⟩
  intro U_8 eU_8
  subst eU_8
  rw [uf_up]
  replace hz := hz.u (i := 94) (j := 7) (r := 96) (by decide)
  refine ⟨by rw [hL]; rfl, ?_⟩
  replace hz := hz.m (show 96 ≤ 97 by decide)
  refine ⟨isO_k hL (by decide) rfl, ?_⟩
  refine ⟨by omega, ?_⟩
  intro U_12 eU_12
  subst eU_12
  rw [uf_up]
  replace hz := hz.u (i := 94) (j := 10) (r := 97) (by decide)
  refine ⟨by rw [hL]; rfl, ?_⟩
  replace hz := hz.m (show 97 ≤ 98 by decide)
  refine ⟨by rw [hL]; rfl, ?_⟩
  replace hz := hz.m (show 98 ≤ 99 by decide)
  refine ⟨by rw [hL]; rfl, ?_⟩
  replace hz := hz.m (show 99 ≤ 100 by decide)
  intro U_16 eU_16
  subst eU_16
  rw [uf_up]
  rw [uf_up]
  replace hz := (hz.u (i := 97) (j := 0) (r := 99) (by decide)).u (i := 97) (j := 1) (r := 100) (by decide)
  refine ⟨isO_k hL (by decide) rfl, ?_⟩
  refine ⟨by omega, ?_⟩
  intro U_19 eU_19
  subst eU_19
  rw [uf_up]
  replace hz := hz.u (i := 94) (j := 11) (r := 98) (by decide)
  try simp only [Nat.reduceAdd]
  refine ⟨vz_of hz, ?_⟩
  refine ⟨isO_k hL (by decide) rfl, ?_⟩
  refine ⟨by omega, ?_⟩
  intro U_32 eU_32
  subst eU_32
  rw [uf_up]
  replace hz := hz.u (i := 66) (j := 10) (r := 95) (by decide)
  refine ⟨by rw [hL]; rfl, ?_⟩
  replace hz := hz.m (show 100 ≤ 101 by decide)
  refine ⟨by rw [hL]; rfl, ?_⟩
  replace hz := hz.m (show 101 ≤ 102 by decide)
  refine ⟨by rw [hL]; rfl, ?_⟩
  replace hz := hz.m (show 102 ≤ 103 by decide)
  intro U_36 eU_36
  subst eU_36
  rw [uf_up]
  rw [uf_up]
  replace hz := (hz.u (i := 100) (j := 0) (r := 102) (by decide)).u (i := 100) (j := 1) (r := 103) (by decide)
  refine ⟨isO_k hL (by decide) rfl, ?_⟩
  refine ⟨by omega, ?_⟩
  intro U_39 eU_39
  subst eU_39
  rw [uf_up]
  replace hz := hz.u (i := 66) (j := 13) (r := 101) (by decide)
  refine ⟨by rw [hL]; rfl, ?_⟩
  replace hz := hz.m (show 103 ≤ 104 by decide)
  refine ⟨by rw [hL]; rfl, ?_⟩
  replace hz := hz.m (show 104 ≤ 105 by decide)
  refine ⟨by rw [hL]; rfl, ?_⟩
  replace hz := hz.m (show 105 ≤ 106 by decide)
  intro U_43 eU_43
  subst eU_43
  rw [uf_up]
  rw [uf_up]
  replace hz := (hz.u (i := 103) (j := 0) (r := 105) (by decide)).u (i := 103) (j := 1) (r := 106) (by decide)
  refine ⟨isO_k hL (by decide) rfl, ?_⟩
  refine ⟨by omega, ?_⟩
  intro U_46 eU_46
  subst eU_46
  rw [uf_up]
  replace hz := hz.u (i := 66) (j := 14) (r := 104) (by decide)
  refine ⟨by omega, ?_⟩
  intro U_48 eU_48
  subst eU_48
  rw [uf_up]
  replace hz := hz.u (i := 66) (j := 0) (r := 26) (by decide)
  refine ⟨uf_nz (i := 66) (j := 1) (r := 67) h0 (by decide +kernel), ?_⟩
  rw [uf_eq (i := 66) (j := 1) (r := 67) (by decide +kernel)]
  refine ⟨by rw [hL]; rfl, ?_⟩
  replace hz := hz.m (show 106 ≤ 107 by decide)
  try unfold wp_B_init
  refine ⟨vz_of hz, ?_⟩
  refine ⟨isO_k hL (by decide) rfl, ?_⟩
  intro V_2 eV_2
  subst eV_2
  rw [vf_up]
  replace hz := hz.v (i := 106) (j := 1) (x := 1) (by decide)
  refine ⟨by rw [hL]; rfl, ?_⟩
  replace hz := hz.m (show 107 ≤ 108 by decide)
  refine ⟨isO_k hL (by decide) rfl, ?_⟩
  refine ⟨by omega, ?_⟩
  intro U_6 eU_6
  subst eU_6
  rw [uf_up]
  replace hz := hz.u (i := 106) (j := 2) (r := 108) (by decide)
  refine ⟨by rw [hL]; rfl, ?_⟩
  replace hz := hz.m (show 108 ≤ 109 by decide)
  refine ⟨isO_k hL (by decide) rfl, ?_⟩
  refine ⟨by omega, ?_⟩
  intro U_10 eU_10
  subst eU_10
  rw [uf_up]
  replace hz := hz.u (i := 106) (j := 3) (r := 109) (by decide)
  refine ⟨by rw [hL]; rfl, ?_⟩
  replace hz := hz.m (show 109 ≤ 110 by decide)
  refine ⟨isO_k hL (by decide) rfl, ?_⟩
  refine ⟨by omega, ?_⟩
  intro U_14 eU_14
  subst eU_14
  rw [uf_up]
  replace hz := hz.u (i := 106) (j := 6) (r := 110) (by decide)
  refine ⟨by rw [hL]; rfl, ?_⟩
  replace hz := hz.m (show 110 ≤ 111 by decide)
  refine ⟨isO_k hL (by decide) rfl, ?_⟩
  refine ⟨by omega, ?_⟩
  intro U_18 eU_18
  subst eU_18
  rw [uf_up]
  replace hz := hz.u (i := 106) (j := 7) (r := 111) (by decide)
  try simp only [Nat.reduceAdd]
  refine ⟨vz_of hz, ?_⟩
  refine ⟨_, isR_k hL (by decide) rfl, ?_⟩
  refine ⟨isO_k hL (by decide) rfl, ?_⟩
  refine ⟨by omega, ?_⟩
  refine ⟨by show ¬ (_ ∨ _); decide, ?_⟩
  intro U_59 eU_59
  subst eU_59
  rw [uf_up]
  replace hz := hz.u (i := 67) (j := 0) (r := 107) (by decide)
  refine ⟨isO_k hL (by decide) rfl, ?_⟩
  refine ⟨uf_nz (i := 66) (j := 1) (r := 67) h0 (by decide +kernel), ?_⟩
  rw [uf_eq (i := 66) (j := 1) (r := 67) (by decide +kernel)]
  refine ⟨by rw [hL]; rfl, ?_⟩
  replace hz := hz.m (show 111 ≤ 112 by decide)
  try unfold wp_B_init
  refine ⟨vz_of hz, ?_⟩
  refine ⟨isO_k hL (by decide) rfl, ?_⟩
  intro V_2 eV_2
  subst eV_2
  rw [vf_up]
  replace hz := hz.v (i := 111) (j := 1) (x := 1) (by decide)
  refine ⟨by rw [hL]; rfl, ?_⟩
  replace hz := hz.m (show 112 ≤ 113 by decide)
  refine ⟨isO_k hL (by decide) rfl, ?_⟩
  refine ⟨by omega, ?_⟩
  intro U_6 eU_6
  subst eU_6
  rw [uf_up]
  replace hz := hz.u (i := 111) (j := 2) (r := 113) (by decide)
  refine ⟨by rw [hL]; rfl, ?_⟩
  replace hz := hz.m (show 113 ≤ 114 by decide)
  refine ⟨isO_k hL (by decide) rfl, ?_⟩
  refine ⟨by omega, ?_⟩
  intro U_10 eU_10
  subst eU_10
  rw [uf_up]
  replace hz := hz.u (i := 111) (j := 3) (r := 114) (by decide)
  refine ⟨by rw [hL]; rfl, ?_⟩
  replace hz := hz.m (show 114 ≤ 115 by decide)
  refine ⟨isO_k hL (by decide) rfl, ?_⟩
  refine ⟨by omega, ?_⟩
  intro U_14 eU_14
  subst eU_14
  rw [uf_up]
  replace hz := hz.u (i := 111) (j := 6) (r := 115) (by decide)
  refine ⟨by rw [hL]; rfl, ?_⟩
  replace hz := hz.m (show 115 ≤ 116 by decide)
  refine ⟨isO_k hL (by decide) rfl, ?_⟩
  refine ⟨by omega, ?_⟩
  intro U_18 eU_18
  subst eU_18
  rw [uf_up]
  replace hz := hz.u (i := 111) (j := 7) (r := 116) (by decide)
  try simp only [Nat.reduceAdd]
  refine ⟨vz_of hz, ?_⟩
  refine ⟨_, isR_k hL (by decide) rfl, ?_⟩
  refine ⟨isO_k hL (by decide) rfl, ?_⟩
  refine ⟨by omega, ?_⟩
  refine ⟨by show ¬ (_ ∨ _); decide, ?_⟩
  intro U_71 eU_71
  subst eU_71
  rw [uf_up]
  replace hz := hz.u (i := 67) (j := 1) (r := 112) (by decide)
  refine ⟨isO_k hL (by decide) rfl, ?_⟩
  refine ⟨uf_nz (i := 66) (j := 1) (r := 67) h0 (by decide +kernel), ?_⟩
  rw [uf_eq (i := 66) (j := 1) (r := 67) (by decide +kernel)]
  refine ⟨by rw [hL]; rfl, ?_⟩
  replace hz := hz.m (show 116 ≤ 117 by decide)
  try unfold wp_B_init
  refine ⟨vz_of hz, ?_⟩
  refine ⟨isO_k hL (by decide) rfl, ?_⟩
  intro V_2 eV_2
  subst eV_2
  rw [vf_up]
  replace hz := hz.v (i := 116) (j := 1) (x := 1) (by decide)
  refine ⟨by rw [hL]; rfl, ?_⟩
  replace hz := hz.m (show 117 ≤ 118 by decide)
  refine ⟨isO_k hL (by decide) rfl, ?_⟩
  refine ⟨by omega, ?_⟩
  intro U_6 eU_6
  subst eU_6
  rw [uf_up]
  replace hz := hz.u (i := 116) (j := 2) (r := 118) (by decide)
  refine ⟨by rw [hL]; rfl, ?_⟩
  replace hz := hz.m (show 118 ≤ 119 by decide)
  refine ⟨isO_k hL (by decide) rfl, ?_⟩
  refine ⟨by omega, ?_⟩
  intro U_10 eU_10
  subst eU_10
  rw [uf_up]
  replace hz := hz.u (i := 116) (j := 3) (r := 119) (by decide)
  refine ⟨by rw [hL]; rfl, ?_⟩
  replace hz := hz.m (show 119 ≤ 120 by decide)
  refine ⟨isO_k hL (by decide) rfl, ?_⟩
  refine ⟨by omega, ?_⟩
  intro U_14 eU_14
  subst eU_14
  rw [uf_up]
  replace hz := hz.u (i := 116) (j := 6) (r := 120) (by decide)
  refine ⟨by rw [hL]; rfl, ?_⟩
  replace hz := hz.m (show 120 ≤ 121 by decide)
  refine ⟨isO_k hL (by decide) rfl, ?_⟩
  refine ⟨by omega, ?_⟩
  intro U_18 eU_18
  subst eU_18
  rw [uf_up]
  replace hz := hz.u (i := 116) (j := 7) (r := 121) (by decide)
  try simp only [Nat.reduceAdd]
  refine ⟨vz_of hz, ?_⟩
  refine ⟨_, isR_k hL (by decide) rfl, ?_⟩
  refine ⟨isO_k hL (by decide) rfl, ?_⟩
  refine ⟨by omega, ?_⟩
  refine ⟨by show ¬ (_ ∨ _); decide, ?_⟩
  intro U_83 eU_83
  subst eU_83
  rw [uf_up]
  replace hz := hz.u (i := 67) (j := 2) (r := 117) (by decide)
  refine ⟨isO_k hL (by decide) rfl, ?_⟩
  refine ⟨uf_nz (i := 66) (j := 1) (r := 67) h0 (by decide +kernel), ?_⟩
  rw [uf_eq (i := 66) (j := 1) (r := 67) (by decide +kernel)]
  refine ⟨by rw [hL]; rfl, ?_⟩
  replace hz := hz.m (show 121 ≤ 122 by decide)
  try unfold wp_B_init
  refine ⟨vz_of hz, ?_⟩
  refine ⟨isO_k hL (by decide) rfl, ?_⟩
  intro V_2 eV_2
  subst eV_2
  rw [vf_up]
  replace hz := hz.v (i := 121) (j := 1) (x := 1) (by decide)
  refine ⟨by rw [hL]; rfl, ?_⟩
  replace hz := hz.m (show 122 ≤ 123 by decide)
  refine ⟨isO_k hL (by decide) rfl, ?_⟩
  refine ⟨by omega, ?_⟩
  intro U_6 eU_6
  subst eU_6
  rw [uf_up]
  replace hz := hz.u (i := 121) (j := 2) (r := 123) (by decide)
  refine ⟨by rw [hL]; rfl, ?_⟩
  replace hz := hz.m (show 123 ≤ 124 by decide)
  refine ⟨isO_k hL (by decide) rfl, ?_⟩
  refine ⟨by omega, ?_⟩
  intro U_10 eU_10
  subst eU_10
  rw [uf_up]
  replace hz := hz.u (i := 121) (j := 3) (r := 124) (by decide)
  refine ⟨by rw [hL]; rfl, ?_⟩
  replace hz := hz.m (show 124 ≤ 125 by decide)
  refine ⟨isO_k hL (by decide) rfl, ?_⟩
  refine ⟨by omega, ?_⟩
  intro U_14 eU_14
  subst eU_14
  rw [uf_up]
  replace hz := hz.u (i := 121) (j := 6) (r := 125) (by decide)
  refine ⟨by rw [hL]; rfl, ?_⟩
  replace hz := hz.m (show 125 ≤ 126 by decide)
  refine ⟨isO_k hL (by decide) rfl, ?_⟩
  refine ⟨by omega, ?_⟩
  intro U_18 eU_18
  subst eU_18
  rw [uf_up]
  replace hz := hz.u (i := 121) (j := 7) (r := 126) (by decide)
  try simp only [Nat.reduceAdd]
  refine ⟨vz_of hz, ?_⟩
  refine ⟨_, isR_k hL (by decide) rfl, ?_⟩
  refine ⟨isO_k hL (by decide) rfl, ?_⟩
  refine ⟨by omega, ?_⟩
  refine ⟨by show ¬ (_ ∨ _); decide, ?_⟩
  intro U_95 eU_95
  subst eU_95
  rw [uf_up]
  replace hz := hz.u (i := 67) (j := 3) (r := 122) (by decide)
  try simp only [Nat.reduceAdd]
  refine ⟨vz_of hz, ?_⟩
  refine ⟨isO_k hL (by decide) rfl, ?_⟩
  refine ⟨by omega, ?_⟩
  intro U_88 eU_88
  subst eU_88
  rw [uf_up]
  replace hz := hz.u (i := 0) (j := 6) (r := 67) (by decide)
  try simp only [Nat.reduceAdd]
  refine ⟨vz_of hz, by rw [hL]; rfl, ?_⟩
  replace hz := hz.m (show 126 ≤ 127 by decide)
  try unfold wp_M_init
  refine ⟨vz_of hz, ?_⟩
  refine ⟨by rw [hL]; rfl, ?_⟩
  replace hz := hz.m (show 127 ≤ 128 by decide)
  refine ⟨isO_k hL (by decide) rfl, ?_⟩
  refine ⟨by omega, ?_⟩
  intro U_4 eU_4
  subst eU_4
  rw [uf_up]
  replace hz := hz.u (i := 126) (j := 0) (r := 128) (by decide)
  refine ⟨by rw [hL]; rfl, ?_⟩
  replace hz := hz.m (show 128 ≤ 129 by decide)
  refine ⟨isO_k hL (by decide) rfl, ?_⟩
  refine ⟨by omega, ?_⟩
  intro U_8 eU_8
  subst eU_8
  rw [uf_up]
  replace hz := hz.u (i := 126) (j := 3) (r := 129) (by decide)
  refine ⟨by rw [hL]; rfl, ?_⟩
  replace hz := hz.m (show 129 ≤ 130 by decide)
  refine ⟨isO_k hL (by decide) rfl, ?_⟩
  refine ⟨by omega, ?_⟩
  intro U_12 eU_12
  subst eU_12
  rw [uf_up]
  replace hz := hz.u (i := 126) (j := 5) (r := 130) (by decide)
  refine ⟨by rw [hL]; rfl, ?_⟩
  replace hz := hz.m (show 130 ≤ 131 by decide)
  refine ⟨isO_k hL (by decide) rfl, ?_⟩
  refine ⟨by omega, ?_⟩
  intro U_16 eU_16
  subst eU_16
  rw [uf_up]
  replace hz := hz.u (i := 126) (j := 6) (r := 131) (by decide)
  refine ⟨by rw [hL]; rfl, ?_⟩
  replace hz := hz.m (show 131 ≤ 132 by decide)
  refine ⟨isO_k hL (by decide) rfl, ?_⟩
  refine ⟨by omega, ?_⟩
  intro U_20 eU_20
  subst eU_20
  rw [uf_up]
  replace hz := hz.u (i := 126) (j := 7) (r := 132) (by decide)
  refine ⟨by rw [hL]; rfl, ?_⟩
  replace hz := hz.m (show 132 ≤ 133 by decide)
  refine ⟨isO_k hL (by decide) rfl, ?_⟩
  refine ⟨by omega, ?_⟩
  intro U_24 eU_24
  subst eU_24
  rw [uf_up]
  replace hz := hz.u (i := 126) (j := 8) (r := 133) (by decide)
  refine ⟨by rw [hL]; rfl, ?_⟩
  replace hz := hz.m (show 133 ≤ 134 by decide)
  refine ⟨isO_k hL (by decide) rfl, ?_⟩
  refine ⟨by omega, ?_⟩
  intro U_28 eU_28
  subst eU_28
  rw [uf_up]
  replace hz := hz.u (i := 126) (j := 9) (r := 134) (by decide)
  refine ⟨by rw [hL]; rfl, ?_⟩
  replace hz := hz.m (show 134 ≤ 135 by decide)
  refine ⟨isO_k hL (by decide) rfl, ?_⟩
  refine ⟨by omega, ?_⟩
  intro U_32 eU_32
  subst eU_32
  rw [uf_up]
  replace hz := hz.u (i := 126) (j := 10) (r := 135) (by decide)
  refine ⟨by rw [hL]; rfl, ?_⟩
  replace hz := hz.m (show 135 ≤ 136 by decide)
  refine ⟨isO_k hL (by decide) rfl, ?_⟩
  refine ⟨by omega, ?_⟩
  intro U_36 eU_36
  subst eU_36
  rw [uf_up]
  replace hz := hz.u (i := 126) (j := 11) (r := 136) (by decide)
  refine ⟨by rw [hL]; rfl, ?_⟩
  replace hz := hz.m (show 136 ≤ 137 by decide)
  refine ⟨isO_k hL (by decide) rfl, ?_⟩
  refine ⟨by omega, ?_⟩
  intro U_40 eU_40
  subst eU_40
  rw [uf_up]
  replace hz := hz.u (i := 126) (j := 12) (r := 137) (by decide)
  refine ⟨by rw [hL]; rfl, ?_⟩
  replace hz := hz.m (show 137 ≤ 138 by decide)
  refine ⟨isO_k hL (by decide) rfl, ?_⟩
  refine ⟨by omega, ?_⟩
  intro U_44 eU_44
  subst eU_44
  rw [uf_up]
  replace hz := hz.u (i := 126) (j := 15) (r := 138) (by decide)
  refine ⟨by rw [hL]; rfl, ?_⟩
  replace hz := hz.m (show 138 ≤ 139 by decide)
  refine ⟨isO_k hL (by decide) rfl, ?_⟩
  refine ⟨by omega, ?_⟩
  intro U_48 eU_48
  subst eU_48
  rw [uf_up]
  replace hz := hz.u (i := 126) (j := 16) (r := 139) (by decide)
  refine ⟨by rw [hL]; rfl, ?_⟩
  replace hz := hz.m (show 139 ≤ 140 by decide)
  refine ⟨isO_k hL (by decide) rfl, ?_⟩
  refine ⟨by omega, ?_⟩
  intro U_52 eU_52
  subst eU_52
  rw [uf_up]
  replace hz := hz.u (i := 126) (j := 17) (r := 140) (by decide)
  refine ⟨by rw [hL]; rfl, ?_⟩
  replace hz := hz.m (show 140 ≤ 141 by decide)
  refine ⟨isO_k hL (by decide) rfl, ?_⟩
  refine ⟨by omega, ?_⟩
  intro U_56 eU_56
  subst eU_56
  rw [uf_up]
  replace hz := hz.u (i := 126) (j := 18) (r := 141) (by decide)
  refine ⟨by rw [hL]; rfl, ?_⟩
  replace hz := hz.m (show 141 ≤ 142 by decide)
  refine ⟨isO_k hL (by decide) rfl, ?_⟩
  refine ⟨by omega, ?_⟩
  intro U_60 eU_60
  subst eU_60
  rw [uf_up]
  replace hz := hz.u (i := 126) (j := 19) (r := 142) (by decide)
  refine ⟨by rw [hL]; rfl, ?_⟩
  replace hz := hz.m (show 142 ≤ 143 by decide)
  refine ⟨isO_k hL (by decide) rfl, ?_⟩
  refine ⟨by omega, ?_⟩
  intro U_64 eU_64
  subst eU_64
  rw [uf_up]
  replace hz := hz.u (i := 126) (j := 20) (r := 143) (by decide)
  refine ⟨by rw [hL]; rfl, ?_⟩
  replace hz := hz.m (show 143 ≤ 144 by decide)
  refine ⟨isO_k hL (by decide) rfl, ?_⟩
  refine ⟨by omega, ?_⟩
  intro U_68 eU_68
  subst eU_68
  rw [uf_up]
  replace hz := hz.u (i := 126) (j := 23) (r := 144) (by decide)
  refine ⟨by rw [hL]; rfl, ?_⟩
  replace hz := hz.m (show 144 ≤ 145 by decide)
  refine ⟨isO_k hL (by decide) rfl, ?_⟩
  refine ⟨by omega, ?_⟩
  intro U_72 eU_72
  subst eU_72
  rw [uf_up]
  replace hz := hz.u (i := 126) (j := 24) (r := 145) (by decide)
  refine ⟨by rw [hL]; rfl, ?_⟩
  replace hz := hz.m (show 145 ≤ 146 by decide)
  refine ⟨isO_k hL (by decide) rfl, ?_⟩
  refine ⟨by omega, ?_⟩
  intro U_76 eU_76
  subst eU_76
  rw [uf_up]
  replace hz := hz.u (i := 126) (j := 25) (r := 146) (by decide)
  refine ⟨by rw [hL]; rfl, ?_⟩
  replace hz := hz.m (show 146 ≤ 147 by decide)
  refine ⟨isO_k hL (by decide) rfl, ?_⟩
  refine ⟨by omega, ?_⟩
  intro U_80 eU_80
  subst eU_80
  rw [uf_up]
  replace hz := hz.u (i := 126) (j := 26) (r := 147) (by decide)
  refine ⟨by rw [hL]; rfl, ?_⟩
  replace hz := hz.m (show 147 ≤ 148 by decide)
  refine ⟨isO_k hL (by decide) rfl, ?_⟩
  refine ⟨by omega, ?_⟩
  intro U_84 eU_84
  subst eU_84
  rw [uf_up]
  replace hz := hz.u (i := 126) (j := 27) (r := 148) (by decide)
  refine ⟨by rw [hL]; rfl, ?_⟩
  replace hz := hz.m (show 148 ≤ 149 by decide)
  refine ⟨isO_k hL (by decide) rfl, ?_⟩
  refine ⟨by omega, ?_⟩
  intro U_88 eU_88
  subst eU_88
  rw [uf_up]
  replace hz := hz.u (i := 126) (j := 28) (r := 149) (by decide)
  refine ⟨by rw [hL]; rfl, ?_⟩
  replace hz := hz.m (show 149 ≤ 150 by decide)
  refine ⟨isO_k hL (by decide) rfl, ?_⟩
  refine ⟨by omega, ?_⟩
  intro U_92 eU_92
  subst eU_92
  rw [uf_up]
  replace hz := hz.u (i := 126) (j := 35) (r := 150) (by decide)
  refine ⟨by rw [hL]; rfl, ?_⟩
  replace hz := hz.m (show 150 ≤ 151 by decide)
  refine ⟨isO_k hL (by decide) rfl, ?_⟩
  refine ⟨by omega, ?_⟩
  intro U_96 eU_96
  subst eU_96
  rw [uf_up]
  replace hz := hz.u (i := 126) (j := 45) (r := 151) (by decide)
  refine ⟨by rw [hL]; rfl, ?_⟩
  replace hz := hz.m (show 151 ≤ 152 by decide)
  refine ⟨isO_k hL (by decide) rfl, ?_⟩
  refine ⟨by omega, ?_⟩
  intro U_100 eU_100
  subst eU_100
  rw [uf_up]
  replace hz := hz.u (i := 126) (j := 46) (r := 152) (by decide)
  refine ⟨by rw [hL]; rfl, ?_⟩
  replace hz := hz.m (show 152 ≤ 153 by decide)
  refine ⟨isO_k hL (by decide) rfl, ?_⟩
  refine ⟨by omega, ?_⟩
  intro U_104 eU_104
  subst eU_104
  rw [uf_up]
  replace hz := hz.u (i := 126) (j := 47) (r := 153) (by decide)
  refine ⟨by rw [hL]; rfl, ?_⟩
  replace hz := hz.m (show 153 ≤ 154 by decide)
  refine ⟨isO_k hL (by decide) rfl, ?_⟩
  refine ⟨by omega, ?_⟩
  intro U_108 eU_108
  subst eU_108
  rw [uf_up]
  replace hz := hz.u (i := 126) (j := 48) (r := 154) (by decide)
  refine ⟨by rw [hL]; rfl, ?_⟩
  replace hz := hz.m (show 154 ≤ 155 by decide)
  refine ⟨isO_k hL (by decide) rfl, ?_⟩
  refine ⟨by omega, ?_⟩
  intro U_112 eU_112
  subst eU_112
  rw [uf_up]
  replace hz := hz.u (i := 126) (j := 49) (r := 155) (by decide)
  refine ⟨by rw [hL]; rfl, ?_⟩
  replace hz := hz.m (show 155 ≤ 156 by decide)
  refine ⟨isO_k hL (by decide) rfl, ?_⟩
  refine ⟨by omega, ?_⟩
  intro U_116 eU_116
  subst eU_116
  rw [uf_up]
  replace hz := hz.u (i := 126) (j := 50) (r := 156) (by decide)
  refine ⟨by rw [hL]; rfl, ?_⟩
  replace hz := hz.m (show 156 ≤ 157 by decide)
  refine ⟨isO_k hL (by decide) rfl, ?_⟩
  refine ⟨by omega, ?_⟩
  intro U_120 eU_120
  subst eU_120
  rw [uf_up]
  replace hz := hz.u (i := 126) (j := 51) (r := 157) (by decide)
  refine ⟨by rw [hL]; rfl, ?_⟩
  replace hz := hz.m (show 157 ≤ 158 by decide)
  refine ⟨isO_k hL (by decide) rfl, ?_⟩
  refine ⟨by omega, ?_⟩
  intro U_124 eU_124
  subst eU_124
  rw [uf_up]
  replace hz := hz.u (i := 126) (j := 52) (r := 158) (by decide)
  intro V_125 eV_125
  subst eV_125
  rw [vf_up]
  replace hz := hz.v (i := 126) (j := 53) (x := -1) (by decide)
  refine ⟨by rw [hL]; rfl, ?_⟩
  replace hz := hz.m (show 158 ≤ 159 by decide)
  refine ⟨isO_k hL (by decide) rfl, ?_⟩
  refine ⟨by omega, ?_⟩
  intro U_129 eU_129
  subst eU_129
  rw [uf_up]
  replace hz := hz.u (i := 126) (j := 59) (r := 159) (by decide)
  refine ⟨by rw [hL]; rfl, ?_⟩
  replace hz := hz.m (show 159 ≤ 160 by decide)
  refine ⟨isO_k hL (by decide) rfl, ?_⟩
  refine ⟨by omega, ?_⟩
  intro U_133 eU_133
  subst eU_133
  rw [uf_up]
  replace hz := hz.u (i := 126) (j := 60) (r := 160) (by decide)
  refine ⟨by rw [hL]; rfl, ?_⟩
  replace hz := hz.m (show 160 ≤ 161 by decide)
  refine ⟨isO_k hL (by decide) rfl, ?_⟩
  refine ⟨by omega, ?_⟩
  intro U_137 eU_137
  subst eU_137
  rw [uf_up]
  replace hz := hz.u (i := 126) (j := 61) (r := 161) (by decide)
  refine ⟨by rw [hL]; rfl, ?_⟩
  replace hz := hz.m (show 161 ≤ 162 by decide)
  refine ⟨isO_k hL (by decide) rfl, ?_⟩
  refine ⟨by omega, ?_⟩
  intro U_141 eU_141
  subst eU_141
  rw [uf_up]
  replace hz := hz.u (i := 126) (j := 62) (r := 162) (by decide)
  refine ⟨by rw [hL]; rfl, ?_⟩
  replace hz := hz.m (show 162 ≤ 163 by decide)
  refine ⟨isO_k hL (by decide) rfl, ?_⟩
  refine ⟨by omega, ?_⟩
  intro U_145 eU_145
  subst eU_145
  rw [uf_up]
  replace hz := hz.u (i := 126) (j := 63) (r := 163) (by decide)
  refine ⟨by rw [hL]; rfl, ?_⟩
  replace hz := hz.m (show 163 ≤ 164 by decide)
  refine ⟨isO_k hL (by decide) rfl, ?_⟩
  refine ⟨by omega, ?_⟩
  intro U_149 eU_149
  subst eU_149
  rw [uf_up]
  replace hz := hz.u (i := 126) (j := 64) (r := 164) (by decide)
  refine ⟨by rw [hL]; rfl, ?_⟩
  replace hz := hz.m (show 164 ≤ 165 by decide)
  refine ⟨isO_k hL (by decide) rfl, ?_⟩
  refine ⟨by omega, ?_⟩
  intro U_153 eU_153
  subst eU_153
  rw [uf_up]
  replace hz := hz.u (i := 126) (j := 66) (r := 165) (by decide)
  refine ⟨by rw [hL]; rfl, ?_⟩
  replace hz := hz.m (show 165 ≤ 166 by decide)
  refine ⟨isO_k hL (by decide) rfl, ?_⟩
  refine ⟨by omega, ?_⟩
  intro U_157 eU_157
  subst eU_157
  rw [uf_up]
  replace hz := hz.u (i := 126) (j := 67) (r := 166) (by decide)
  try simp only [Nat.reduceAdd]
  exact hloop
