-- loops that count up
theorem loop1 {wl : Nat → Int32 → VT → UT → Prop} {U : UT} {V : VT} (N : Nat) (J : Nat → VT → Prop) (h0 : J 0 V) (hs : ∀ f k V1, k < N → J k V1 → (∀ V2, J (k + 1) V2 → wl f (nI (k + 1)) V2 U) → wl (f + 1) (nI k) V1 U) (he : ∀ f V1, J N V1 → wl (f + 1) (nI N) V1 U) : ∃ n, wl n (0 : Int32) V U := by
  have key : ∀ d k V1, k + d = N → J k V1 → wl (d + 1) (nI k) V1 U := by
    intro d
    induction d with
    | zero => intro k V1 e hJ; obtain rfl : k = N := by omega
              exact he 0 V1 hJ
    | succ d ih => intro k V1 e hJ; exact hs (d + 1) k V1 (by omega) hJ (fun V2 h2 => ih (k + 1) V2 (by omega) h2)
  exact ⟨N + 1, key N 0 V (by omega) h0⟩
/-- a loop with a number that grows with it, first -/
theorem loop2 {wl : Nat → Int32 → Int32 → VT → UT → Prop} {U : UT} {V : VT} {a : Int32} (N : Nat) (J : Nat → Int32 → VT → Prop) (h0 : J 0 a V) (hs : ∀ f k b V1, k < N → J k b V1 → (∀ c V2, J (k + 1) c V2 → wl f c (nI (k + 1)) V2 U) → wl (f + 1) b (nI k) V1 U) (he : ∀ f b V1, J N b V1 → wl (f + 1) b (nI N) V1 U) : ∃ n, wl n a (0 : Int32) V U := by
  have key : ∀ d k b V1, k + d = N → J k b V1 → wl (d + 1) b (nI k) V1 U := by
    intro d
    induction d with
    | zero => intro k b V1 e hJ; obtain rfl : k = N := by omega
              exact he 0 b V1 hJ
    | succ d ih => intro k b V1 e hJ; exact hs (d + 1) k b V1 (by omega) hJ (fun c V2 h2 => ih (k + 1) c V2 (by omega) h2)
  exact ⟨N + 1, key N 0 a V (by omega) h0⟩
theorem crcN_congr {f g : Nat → Int32} : ∀ {n : Nat}, (∀ i, i < n → f i = g i) → crcN f n = crcN g n
  | 0, _ => rfl
  | n + 1, h => by
    show crcB (f n) 8 (crcN f n) = crcB (g n) 8 (crcN g n)
    rw [h n (by omega), crcN_congr (fun i hi => h i (by omega))]
-- an array that grew by a list
def GL (a f s : Nat) (V V' : VT) (n : Nat) (l : List Int32) : Prop := (∀ q, q ≠ a → q ≠ f → V' q = V q) ∧ (∀ j, j ≠ s → V' a j = V a j) ∧ V' a s = nI (n + l.length) ∧ ∀ i, V' f i = if n ≤ i ∧ i < n + l.length then l.getD (i - n) 0 else V f i
section LISTS
variable {θ : TH} {sw : Bool} {U : UT} {V V1 V2 : VT} {n : Nat} {l : List Int32} {a f s : Nat}
theorem GL.refl (h : V a s = nI n) : GL a f s V V n [] := ⟨fun _ _ _ => rfl, fun _ _ => rfl, h, fun i => by rw [if_neg (by rw [List.length_nil]; omega)]⟩
theorem GL.put (haf : a ≠ f) (h : GL a f s V V1 n l) {x : Int32} : GL a f s V (up2 (up2 V1 f (n + l.length) x) a s (nI (n + l.length + 1))) n (l ++ [x]) := by
  obtain ⟨h1, h2, h3, h4⟩ := h
  refine ⟨fun q p1 p2 => ?_, fun j hj => ?_, ?_, fun i => ?_⟩
  · rw [up2_ne p1, up2_ne p2, h1 q p1 p2]
  · rw [up2_ab hj, up2_ne haf, h2 j hj]
  · rw [up2_aa, List.length_append]; rfl
  · rw [up2_ne (Ne.symm haf), List.length_append, List.length_singleton]
    by_cases hi : i = n + l.length
    · subst hi
      rw [up2_aa, if_pos (by omega), List.getD_eq_getElem?_getD, List.getElem?_append_right (by omega), show n + l.length - n - l.length = 0 by omega]
      rfl
    · rw [up2_ab hi, h4 i]
      by_cases hr : n ≤ i ∧ i < n + l.length
      · rw [if_pos hr, if_pos (by omega), List.getD_eq_getElem?_getD, List.getD_eq_getElem?_getD, List.getElem?_append_left (by omega)]
      · rw [if_neg hr, if_neg (by omega)]
/-- the count moves on, what lay there stays -/
theorem GL.skip (haf : a ≠ f) (h : GL a f s V V1 n l) : GL a f s V (up2 V1 a s (nI (n + l.length + 1))) n (l ++ [V f (n + l.length)]) := by
  have h9 := h.put haf (x := V f (n + l.length))
  have e : up2 V1 f (n + l.length) (V f (n + l.length)) = V1 := by
    funext q j
    by_cases hq : q = f
    · subst hq
      by_cases hj : j = n + l.length
      · subst hj; rw [up2_aa, h.2.2.2 _, if_neg (by omega)]
      · rw [up2_ab hj]
    · rw [up2_ne hq]
  rwa [e] at h9
theorem GL.set (haf : a ≠ f) (h : GL a f s V V1 n l) {i : Nat} (hi : i < l.length) {x : Int32} : GL a f s V (up2 V1 f (n + i) x) n (l.set i x) := by
  obtain ⟨h1, h2, h3, h4⟩ := h
  refine ⟨fun q p1 p2 => ?_, fun j hj => ?_, ?_, fun k => ?_⟩
  · rw [up2_ne p2, h1 q p1 p2]
  · rw [up2_ne haf, h2 j hj]
  · rw [up2_ne haf, List.length_set, h3]
  · rw [List.length_set]
    by_cases hk : k = n + i
    · subst hk
      rw [up2_aa, if_pos (by omega), List.getD_eq_getElem?_getD, show n + i - n = i by omega, List.getElem?_set_self hi]
      rfl
    · rw [up2_ab hk, h4 k]
      by_cases hr : n ≤ k ∧ k < n + l.length
      · rw [if_pos hr, if_pos hr, List.getD_eq_getElem?_getD, List.getD_eq_getElem?_getD, List.getElem?_set_ne (by omega)]
      · rw [if_neg hr, if_neg hr]
theorem s_app {K : VT → UT → Prop} {x c : Int32} (hθ : OKt θ) (hU : US θ sw U) (hg : GL (tb θ + 1) (tb θ + 2) 1 V V1 n l) (hn : n + l.length < 1000) (hx : x &&& 255 = c) (hk : ∀ V2, GL (tb θ + 1) (tb θ + 2) 1 V V2 n (l ++ [c]) → K V2 U) : wp_W_append θ (tb θ + 1) x V1 U K := by
  have h3 := hg.2.2.1
  unfold wp_W_append
  simp only [UC hU, IC hθ, exists_eq_left, true_and, h3]
  refine br_f (nI_ge (a := n + l.length) (b := 1000) hn (by decide)) ⟨by omega, vp_in_nI hn (by decide), fun W1 e1 W2 e2 => ?_⟩
  rw [nI_clamp (by omega), hx] at e1
  have e3 : W1 (tb θ + 1) 1 + 1 = nI (n + l.length + 1) := by
    rw [e1, up2_ne (by omega), h3, nI_1]
  rw [e3, e1] at e2
  rw [e2]
  exact hk _ (hg.put (by omega))
theorem m_put {K : VT → UT → Prop} {x c : Int32} (hθ : OKt θ) (hU : US θ sw U) (hg : GL (tb θ + 126) (tb θ + 127) 1 V V1 n l) (hn : n + l.length < 1000) (hx : x &&& 255 = c) (hk : ∀ V2, GL (tb θ + 126) (tb θ + 127) 1 V V2 n (l ++ [c]) → K V2 U) : wp_M_put θ (tb θ + 126) x V1 U K := by
  have h3 := hg.2.2.1
  unfold wp_M_put
  simp only [UM hU, IM hθ, exists_eq_left, true_and, h3]
  refine ⟨by omega, vp_in_nI hn (by decide), fun W1 e1 W2 e2 => ?_⟩
  rw [nI_clamp (by omega), hx] at e1
  have e3 : W1 (tb θ + 126) 1 + 1 = nI (n + l.length + 1) := by
    rw [e1, up2_ne (by omega), h3, nI_1]
  rw [e3, e1] at e2
  rw [e2]
  exact hk _ (hg.put (by omega))
/-- the reference's check, of bytes that lie there but for the check's own -/
theorem m_check2 {K : Int32 → VT → UT → Prop} {g : Nat → Int32} (hθ : OKt θ) (hU : US θ sw U) (p t : Nat) (ht : p + t ≤ 1000) (hg : ∀ k, k < t → g k = if 9 ≤ k ∧ k < 13 then 0 else V (tb θ + 127) (p + k)) (hk : K (crcN g t) V U) : wp_M_check θ (tb θ + 126) (nI p) (nI t) V U K := by
  unfold wp_M_check
  refine loop2 (wl := wl_M_check_5 θ (tb θ + 126) (nI p) (nI t) K) t (fun k b W => b = crcN g k ∧ W = V) ⟨rfl, rfl⟩ ?_ ?_
  · rintro f k b W hkt ⟨rfl, rfl⟩ hgo
    have hgo := hgo (crcN g (k + 1)) W ⟨rfl, rfl⟩
    show bl_M_check_5 _ _ _ _ _ _ _ _ _ _
    unfold bl_M_check_5 wb_M_check_29
    have hin : ∀ o : Int32, o = g k → ∃ f2, wl_M_check_44 θ (tb θ + 126) (nI p) (nI t) (nI k) o (wl_M_check_5 θ (tb θ + 126) (nI p) (nI t) K f) K f2 (crcN g k) (7 : Int32) W U := by
      intro o ho
      refine ⟨9, ?_⟩
      exact m_crcB (θ := θ) (V := W) (U := U) (K := K) (a0 := tb θ + 126) (x1 := nI p) (x2 := nI t) (x4 := nI k) (o := o) (kb5 := wl_M_check_5 θ (tb θ + 126) (nI p) (nI t) K f) 8 (crcN g k) (by decide) (by
        rw [show nI k + 1 = nI (k + 1) from nI_1 k, ho]
        exact hgo)
    have hrd : ¬ (9 ≤ k ∧ k < 13) → isO θ (tb θ + 126) 12 ∧ (U (tb θ + 126) 0) ≠ 0 ∧ ∃ n_6, isA θ (U (tb θ + 126) 0) 0 n_6 ∧ vp_in (nI p + nI k) n_6 ∧ ∀ y_9 : Int32, y_9 = (W (U (tb θ + 126) 0) (nI p + nI k).toNatClampNeg) → ∃ f2, wl_M_check_44 θ (tb θ + 126) (nI p) (nI t) (nI k) y_9 (wl_M_check_5 θ (tb θ + 126) (nI p) (nI t) K f) K f2 (crcN g k) (7 : Int32) W U := by
      intro h9
      simp only [UM hU, IM hθ, exists_eq_left, true_and, nI_add]
      refine ⟨by omega, vp_in_nI (by omega) (by omega), fun y hy => hin y ?_⟩
      rw [hy, nI_clamp (by omega), hg k hkt, if_neg h9]
    refine br_f (nI_ge (by omega) (by omega)) ?_
    refine pk_lt k 9 (fun h => hrd (by omega)) (fun h => pk_le 13 k (fun h2 => hrd (by omega)) (fun h2 => hin _ ?_))
    rw [hg k hkt, if_pos ⟨h, h2⟩]
  · rintro f b W ⟨rfl, rfl⟩
    show bl_M_check_5 _ _ _ _ _ _ _ _ _ _
    unfold bl_M_check_5
    exact br_t (nI_le (Nat.le_refl _) (by omega)) hk
theorem n_cases {y : Int32} (h : ¬ y < 1) (h2 : ¬ 8 < y) : ∃ m, 1 ≤ m ∧ m ≤ 8 ∧ y = nI m := by
  have h3 : ¬ y < 0 := fun h9 => h (by
    have a1 := Int32.lt_iff_toInt_lt.mp h9
    refine Int32.lt_iff_toInt_lt.mpr ?_
    have b1 : (0 : Int32).toInt = 0 := by decide
    have b2 : (1 : Int32).toInt = 1 := by decide
    omega)
  obtain ⟨m, hm31, rfl⟩ := nI_of h3
  refine ⟨m, ?_, ?_, rfl⟩
  · by_cases q : 1 ≤ m
    · exact q
    · exact absurd (nI_lt (a := m) (b := 1) (by omega) (by decide)) h
  · by_cases q : m ≤ 8
    · exact q
    · exact absurd (nI_lt (a := 8) (b := m) (by omega) hm31) h2
theorem ocl_step (x : Int64) (k : Nat) : (List.range (k + 1)).map (oc x) = (List.range k).map (oc x) ++ [oc x k] := by
  rw [List.range_succ, List.map_append]; rfl
/-- bytes laid at hand -/
theorem s_add {K : Int32 → VT → UT → Prop} {x : Int64} {y : Int32} (hθ : OKt θ) (hU : US θ sw U) (hv : V (tb θ + 0) 2 = nI n) (hn : n ≤ 64)
    (h0 : (∀ m, 1 ≤ m → m ≤ 8 → n + m ≤ 64 → y ≠ nI m) → K (-1) V U) (h1 : ∀ m, 1 ≤ m → m ≤ 8 → n + m ≤ 64 → y = nI m → ∀ V2, GL (tb θ + 0) (tb θ + 3) 2 V V2 n ((List.range m).map (oc x)) → K (nI (n + m)) V2 U) : wp_S_add θ (tb θ + 0) x y V U K := by
  unfold wp_S_add
  simp only [UC hU, IC hθ, true_and, hv]
  refine br_c (fun h => ?_) (fun h => br_c (fun h2 => ?_) (fun h2 => ?_))
  · refine h0 (fun m hm _ _ e => ?_)
    rw [e] at h
    exact nI_nlt (a := m) (b := 1) hm (by omega) h
  · refine h0 (fun m _ hm _ e => ?_)
    rw [e] at h2
    exact nI_nlt (a := 8) (b := m) hm (by decide) h2
  · obtain ⟨m, hm1, hm8, rfl⟩ := n_cases h h2
    rw [nI_add]
    refine pk_le (n + m) 64 (fun hc => ?_) (fun hc => h0 (fun m2 a b c e => ?_))
    · refine loop1 (wl := wl_S_add_27 θ (tb θ + 0) x (nI m) K) m (fun k W => GL (tb θ + 0) (tb θ + 3) 2 V (up2 W (tb θ + 0) 2 (nI (n + k))) n ((List.range k).map (oc x)) ∧ W (tb θ + 0) 2 = nI n) ?_ ?_ ?_
      · refine ⟨?_, hv⟩
        have e9 : up2 V (tb θ + 0) 2 (nI (n + 0)) = V := by
          funext q j
          by_cases hq : q = tb θ + 0
          · subst hq
            by_cases hj : j = 2
            · subst hj; rw [up2_aa, hv]; rfl
            · rw [up2_ab hj]
          · rw [up2_ne hq]
        rw [e9]
        exact GL.refl hv
      · rintro f k W hk ⟨hg, hw⟩ hgo
        show bl_S_add_27 _ _ _ _ _ _ _ _ _
        unfold bl_S_add_27
        simp only [UC hU, IC hθ, true_and, hw]
        refine br_f (nI_ge (by omega) (by omega)) ⟨by omega, s_octetOf ?_⟩
        simp only [IC hθ, exists_eq_left, nI_add]
        refine ⟨vp_in_nI (by omega) (by decide), fun W2 e2 z hz => ?_⟩
        rw [nI_clamp (by omega)] at e2
        rw [hz, nI_1]
        refine hgo W2 ⟨?_, ?_⟩
        · have h9 := hg.put (by omega) (x := oc x k)
          rw [List.length_map, List.length_range, ← ocl_step] at h9
          have e3 : up2 W2 (tb θ + 0) 2 (nI (n + (k + 1))) = up2 (up2 (up2 W (tb θ + 0) 2 (nI (n + k))) (tb θ + 3) (n + k) (oc x k)) (tb θ + 0) 2 (nI (n + k + 1)) := by
            rw [e2]
            funext q j
            by_cases hq : q = tb θ + 0
            · subst hq
              by_cases hj : j = 2
              · subst hj; rw [up2_aa, up2_aa]; rfl
              · rw [up2_ab hj, up2_ab hj, up2_ne (by omega), up2_ne (by omega), up2_ab hj]
            · rw [up2_ne hq, up2_ne hq]
              by_cases hq3 : q = tb θ + 3
              · subst hq3
                rw [up2_at, up2_at, up2_ne (by omega)]
              · rw [up2_ne hq3, up2_ne hq3, up2_ne hq]
          rw [e3]
          exact h9
        · rw [e2, up2_ne (by omega), hw]
      · rintro f W ⟨hg, hw⟩
        show bl_S_add_27 _ _ _ _ _ _ _ _ _
        unfold bl_S_add_27
        simp only [IC hθ, true_and, hw, nI_add]
        refine br_t (nI_le (Nat.le_refl _) (by omega)) (fun W2 e2 => ?_)
        rw [e2, up2_aa]
        exact h1 m hm1 hm8 hc rfl _ hg
    · have e1 := (nI_eq (by omega) (by omega)).mp e; omega
theorem m_add {K : Int32 → VT → UT → Prop} {x : Int64} {y : Int32} (hθ : OKt θ) (hU : US θ sw U) (hv : V (tb θ + 126) 4 = nI n) (hn : n ≤ 64)
    (h0 : (∀ m, 1 ≤ m → m ≤ 8 → n + m ≤ 64 → y ≠ nI m) → K (-1) V U) (h1 : ∀ m, 1 ≤ m → m ≤ 8 → n + m ≤ 64 → y = nI m → ∀ V2, GL (tb θ + 126) (tb θ + 128) 4 V V2 n ((List.range m).map (oc x)) → K (nI (n + m)) V2 U) : wp_M_add θ (tb θ + 126) x y V U K := by
  unfold wp_M_add
  simp only [UM hU, IM hθ, true_and, hv]
  refine br_c (fun h => ?_) (fun h => br_c (fun h2 => ?_) (fun h2 => ?_))
  · refine h0 (fun m hm _ _ e => ?_)
    rw [e] at h
    exact nI_nlt (a := m) (b := 1) hm (by omega) h
  · refine h0 (fun m _ hm _ e => ?_)
    rw [e] at h2
    exact nI_nlt (a := 8) (b := m) hm (by decide) h2
  · obtain ⟨m, hm1, hm8, rfl⟩ := n_cases h h2
    rw [nI_add]
    refine pk_le (n + m) 64 (fun hc => ?_) (fun hc => h0 (fun m2 a b c e => ?_))
    · refine loop1 (wl := wl_M_add_27 θ (tb θ + 126) x (nI m) K) m (fun k W => GL (tb θ + 126) (tb θ + 128) 4 V W n ((List.range k).map (oc x))) (GL.refl hv) ?_ ?_
      · intro f k W hk hg hgo
        have hw := hg.2.2.1
        rw [List.length_map, List.length_range] at hw
        show bl_M_add_27 _ _ _ _ _ _ _ _ _
        unfold bl_M_add_27
        simp only [UM hU, IM hθ, exists_eq_left, true_and, hw]
        refine br_f (nI_ge (by omega) (by omega)) ⟨by omega, vp_in_nI (by omega) (by decide), fun W1 e1 W2 e2 z hz => ?_⟩
        rw [nI_clamp (by omega), oct_eq x k (by omega)] at e1
        have e3 : W1 (tb θ + 126) 4 + 1 = nI (n + k + 1) := by
          rw [e1, up2_ne (by omega), hw, nI_1]
        rw [e3, e1] at e2
        rw [hz, nI_1]
        refine hgo W2 ?_
        have h9 := hg.put (by omega) (x := oc x k)
        rw [List.length_map, List.length_range, ← ocl_step] at h9
        rw [e2]
        exact h9
      · intro f W hg
        have hw := hg.2.2.1
        rw [List.length_map, List.length_range] at hw
        show bl_M_add_27 _ _ _ _ _ _ _ _ _
        unfold bl_M_add_27
        simp only [IM hθ, true_and, hw]
        exact br_t (nI_le (Nat.le_refl _) (by omega)) (h1 m hm1 hm8 hc rfl _ hg)
    · have e1 := (nI_eq (by omega) (by omega)).mp e; omega
end LISTS
