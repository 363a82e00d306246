-- a page as a list of bytes
def BY (l : List Int32) : Prop := ∀ x, x ∈ l → ∃ j, j < 256 ∧ x = nI j
def apw (n : Nat) (w : Nat → Nat) (l : List Int32) : Nat → Nat := fun i => if i < n then w i else (l.getD (i - n) 0).toNatClampNeg
def sumL (L : Nat → Nat) : Nat → Nat
  | 0 => 0
  | k + 1 => sumL L k + L k
def segB (L : Nat → Nat) (O : Nat → Nat → Nat) (c : Nat) : List Int32 := (List.range c).flatMap (fun j => (List.range (L j)).map (fun i => nI (O j i)))
def lacB (L : Nat → Nat) (c : Nat) : List Int32 := (List.range c).map (fun j => nI (L j))
def pgL (fl k P t8 t9 s0 s1 s2 s3 : Int32) (rest : List Int32) : List Int32 := 76 :: 97 :: 76 :: 83 :: fl :: k :: P :: t8 :: t9 :: s0 :: s1 :: s2 :: s3 :: rest
def pgR (L : Nat → Nat) (O : Nat → Nat → Nat) (c : Nat) : List Int32 := nI c :: (lacB L c ++ segB L O c)
def ckl (l : List Int32) : Int32 := crcN (fun i => if 9 ≤ i ∧ i < 13 then 0 else l.getD i 0) l.length
def ckb (c : Int32) (k : Nat) : Int32 := (c.toUInt32 >>> (((8 : Int32) * nI k).toUInt32 &&& Int32.toUInt32 31)).toInt32 &&& (255 : Int32)
def tmF (L T : Nat → Nat) : Nat → Nat
  | 0 => 65535
  | k + 1 => if L k < 15 then T k else tmF L T k
def flg (c : Nat) (B0 P y : Int32) : Int32 := ((if 0 < c ∧ B0 = 0 then 1 else 0) ||| (if P = 0 then 2 else 0)) ||| (if y = 0 then 0 else 4)
theorem BY.nil : BY [] := fun x h => by simp at h
theorem BY.cons {x : Int32} {l : List Int32} (hx : ∃ j, j < 256 ∧ x = nI j) (hl : BY l) : BY (x :: l) := by
  intro z hz
  rcases List.mem_cons.mp hz with rfl | h
  · exact hx
  · exact hl z h
theorem BY.app {l m : List Int32} (hl : BY l) (hm : BY m) : BY (l ++ m) := by
  intro z hz
  rcases List.mem_append.mp hz with h | h
  · exact hl z h
  · exact hm z h
theorem BY.at {l : List Int32} (h : BY l) {i : Nat} (hi : i < l.length) : ∃ j, j < 256 ∧ l.getD i 0 = nI j := by
  refine h _ ?_
  rw [List.getD_eq_getElem?_getD, List.getElem?_eq_getElem hi]
  exact List.getElem_mem hi
theorem BY.clamp {l : List Int32} (h : BY l) {i : Nat} (hi : i < l.length) : nI (l.getD i 0).toNatClampNeg = l.getD i 0 ∧ (l.getD i 0).toNatClampNeg < 256 := by
  obtain ⟨j, hj, e⟩ := h.at hi
  rw [e, nI_clamp (by omega)]
  exact ⟨rfl, hj⟩
theorem lac_len (L : Nat → Nat) (c : Nat) : (lacB L c).length = c := by simp [lacB]
theorem lac_step (L : Nat → Nat) (c : Nat) : lacB L (c + 1) = lacB L c ++ [nI (L c)] := by
  unfold lacB; rw [List.range_succ, List.map_append]; rfl
theorem seg_step (L : Nat → Nat) (O : Nat → Nat → Nat) (c : Nat) : segB L O (c + 1) = segB L O c ++ (List.range (L c)).map (fun i => nI (O c i)) := by
  unfold segB; rw [List.range_succ, List.flatMap_append]; simp
theorem seg_len (L : Nat → Nat) (O : Nat → Nat → Nat) : ∀ c, (segB L O c).length = sumL L c
  | 0 => rfl
  | c + 1 => by rw [seg_step, List.length_append, seg_len L O c, List.length_map, List.length_range]; rfl
theorem pgR_len (L : Nat → Nat) (O : Nat → Nat → Nat) (c : Nat) : (pgR L O c).length = 1 + c + sumL L c := by
  unfold pgR; rw [List.length_cons, List.length_append, lac_len, seg_len]; omega
theorem pgL_len (fl k P t8 t9 s0 s1 s2 s3 : Int32) (r : List Int32) : (pgL fl k P t8 t9 s0 s1 s2 s3 r).length = 13 + r.length := by
  unfold pgL; simp only [List.length_cons]; omega
theorem sumL_mono (L : Nat → Nat) : ∀ {a b : Nat}, a ≤ b → sumL L a ≤ sumL L b := by
  intro a b
  induction b with
  | zero => intro h; obtain rfl : a = 0 := by omega
            exact Nat.le_refl _
  | succ b ih =>
    intro h
    by_cases e : a = b + 1
    · subst e; exact Nat.le_refl _
    · have := ih (by omega); show _ ≤ sumL L b + L b; omega
theorem BY_lac {L : Nat → Nat} : ∀ {c : Nat}, (∀ j, j < c → L j ≤ 15) → BY (lacB L c)
  | 0, _ => BY.nil
  | c + 1, h => by
    rw [lac_step]
    exact (BY_lac (fun j hj => h j (by omega))).app (BY.cons ⟨L c, by have := h c (by omega); omega, rfl⟩ BY.nil)
theorem BY_row {g : Nat → Nat} : ∀ {k : Nat}, (∀ i, i < k → g i < 256) → BY ((List.range k).map (fun i => nI (g i)))
  | 0, _ => BY.nil
  | k + 1, h => by
    rw [List.range_succ, List.map_append]
    exact (BY_row (fun j hj => h j (by omega))).app (BY.cons ⟨g k, h k (by omega), rfl⟩ BY.nil)
theorem BY_seg {L : Nat → Nat} {O : Nat → Nat → Nat} : ∀ {c : Nat}, (∀ j, j < c → ∀ i, i < L j → O j i < 256) → BY (segB L O c)
  | 0, _ => BY.nil
  | c + 1, h => by
    rw [seg_step]
    exact (BY_seg (fun j hj => h j (by omega))).app (BY_row (fun i hi => h c (by omega) i hi))
theorem BY_b (n : Nat) (h : n < 256) : ∃ j, j < 256 ∧ nI n = nI j := ⟨n, h, rfl⟩
theorem BY_page {fl k P t8 t9 s0 s1 s2 s3 : Int32} {r : List Int32} (h4 : ∃ j, j < 256 ∧ fl = nI j) (h5 : ∃ j, j < 256 ∧ k = nI j) (h6 : ∃ j, j < 256 ∧ P = nI j) (h7 : ∃ j, j < 256 ∧ t8 = nI j) (h8 : ∃ j, j < 256 ∧ t9 = nI j) (h9 : ∃ j, j < 256 ∧ s0 = nI j) (ha : ∃ j, j < 256 ∧ s1 = nI j) (hb : ∃ j, j < 256 ∧ s2 = nI j) (hc : ∃ j, j < 256 ∧ s3 = nI j) (hr : BY r) : BY (pgL fl k P t8 t9 s0 s1 s2 s3 r) :=
  BY.cons (BY_b 76 (by decide)) (BY.cons (BY_b 97 (by decide)) (BY.cons (BY_b 76 (by decide)) (BY.cons (BY_b 83 (by decide)) (BY.cons h4 (BY.cons h5 (BY.cons h6 (BY.cons h7 (BY.cons h8 (BY.cons h9 (BY.cons ha (BY.cons hb (BY.cons hc hr))))))))))))
theorem BY_R {L : Nat → Nat} {O : Nat → Nat → Nat} {c : Nat} (hc : c < 256) (h : ∀ j, j < c → L j ≤ 15) (h2 : ∀ j, j < c → ∀ i, i < L j → O j i < 256) : BY (pgR L O c) :=
  BY.cons ⟨c, hc, rfl⟩ ((BY_lac h).app (BY_seg h2))
/-- the check does not see its own bytes -/
theorem ckl_own (fl k P t8 t9 s0 s1 s2 s3 u0 u1 u2 u3 : Int32) (r : List Int32) : ckl (pgL fl k P t8 t9 s0 s1 s2 s3 r) = ckl (pgL fl k P t8 t9 u0 u1 u2 u3 r) := by
  unfold ckl
  rw [pgL_len, pgL_len]
  refine crcN_congr (fun i hi => ?_)
  by_cases h : 9 ≤ i ∧ i < 13
  · rw [if_pos h, if_pos h]
  · rw [if_neg h, if_neg h]
    by_cases h9 : i < 9
    · have h4 : i = 0 ∨ i = 1 ∨ i = 2 ∨ i = 3 ∨ i = 4 ∨ i = 5 ∨ i = 6 ∨ i = 7 ∨ i = 8 := by omega
      rcases h4 with rfl | rfl | rfl | rfl | rfl | rfl | rfl | rfl | rfl <;> rfl
    · obtain ⟨j, rfl⟩ : ∃ j, i = j + 13 := ⟨i - 13, by omega⟩
      rfl
theorem ckb_b (c : Int32) (k : Nat) : ∃ j, j < 256 ∧ ckb c k = nI j := and255 _
/-- the page as it goes out -/
def pgO (fl k P t8 t9 : Int32) (r : List Int32) : List Int32 := pgL fl k P t8 t9 (ckb (ckl (pgL fl k P t8 t9 0 0 0 0 r)) 0) (ckb (ckl (pgL fl k P t8 t9 0 0 0 0 r)) 1) (ckb (ckl (pgL fl k P t8 t9 0 0 0 0 r)) 2) (ckb (ckl (pgL fl k P t8 t9 0 0 0 0 r)) 3) r
theorem pgO_len (fl k P t8 t9 : Int32) (r : List Int32) : (pgO fl k P t8 t9 r).length = 13 + r.length := pgL_len ..
section SHEET
variable {θ : TH} {sw : Bool} {U : UT} {V V1 V2 : VT} {n r : Nat} {w : Nat → Nat} {l : List Int32}
theorem GL_WV (hW : WV θ V n r w) (hg : GL (tb θ + 1) (tb θ + 2) 1 V V1 n l) (hb : BY l) (hn : n + l.length ≤ 1000) : WV θ V1 (n + l.length) r (apw n w l) := by
  obtain ⟨g1, g2, g3, g4, g5⟩ := hW
  obtain ⟨p1, p2, p3, p4⟩ := hg
  refine ⟨p3, hn, by rw [p2 2 (by decide), g3], by omega, fun i hi => ?_⟩
  rw [p4 i]
  unfold apw
  by_cases h : i < n
  · rw [if_pos h, if_neg (by omega)]; exact g5 i h
  · rw [if_neg h, if_pos (by omega)]
    obtain ⟨e1, e2⟩ := hb.clamp (i := i - n) (by omega)
    exact ⟨e1.symm, e2⟩
theorem GL_WM (hW : WM θ V n r w) (hg : GL (tb θ + 126) (tb θ + 127) 1 V V1 n l) (hb : BY l) (hn : n + l.length ≤ 1000) : WM θ V1 (n + l.length) r (apw n w l) := by
  obtain ⟨g1, g2, g3, g4, g5⟩ := hW
  obtain ⟨p1, p2, p3, p4⟩ := hg
  refine ⟨p3, hn, by rw [p2 2 (by decide), g3], by omega, fun i hi => ?_⟩
  rw [p4 i]
  unfold apw
  by_cases h : i < n
  · rw [if_pos h, if_neg (by omega)]; exact g5 i h
  · rw [if_neg h, if_pos (by omega)]
    obtain ⟨e1, e2⟩ := hb.clamp (i := i - n) (by omega)
    exact ⟨e1.symm, e2⟩
theorem crc_apw (hb : BY l) : crcN (ckf (apw n w l) n) l.length = ckl l := by
  unfold ckl
  refine crcN_congr (fun i hi => ?_)
  unfold ckf
  by_cases h : 9 ≤ i ∧ i < 13
  · rw [if_pos h, if_pos h]
  · rw [if_neg h, if_neg h]
    unfold apw
    rw [if_neg (by omega), show n + i - n = i by omega]
    exact (hb.clamp hi).1
/-- the check goes into the class's page -/
theorem s_seal {K : VT → UT → Prop} {fl k P t8 t9 : Int32} {rest : List Int32} (hθ : OKt θ) (hU : US θ sw U) (hW : WV θ V n r w) (hg : GL (tb θ + 1) (tb θ + 2) 1 V V1 n (pgL fl k P t8 t9 0 0 0 0 rest)) (hb : BY (pgL fl k P t8 t9 0 0 0 0 rest)) (hr : 1 ≤ rest.length) (hn : n + (13 + rest.length) ≤ 1000) (hk : ∀ V2, GL (tb θ + 1) (tb θ + 2) 1 V V2 n (pgO fl k P t8 t9 rest) → K V2 U) : wp_W_seal θ (tb θ + 1) (nI n) V1 U K := by
  have hn2 : n + (pgL fl k P t8 t9 0 0 0 0 rest).length ≤ 1000 := by rw [pgL_len]; exact hn
  have hW1 := GL_WV hW hg hb hn2
  have h3 := hg.2.2.1
  unfold wp_W_seal
  simp only [UC hU, IC hθ, exists_eq_left, true_and, h3]
  have e1 : nI (n + (pgL fl k P t8 t9 0 0 0 0 rest).length) - nI n = nI (pgL fl k P t8 t9 0 0 0 0 rest).length := by
    rw [pk_sub (by omega)]; congr 1; omega
  rw [e1]
  refine br_f (nI_pos (by omega)) (br_t (nI_le (a := 14) (by rw [pgL_len]; omega) (by omega)) ?_)
  refine s_checkOf hθ hU hW1 n _ (Nat.le_refl _) ?_
  rw [crc_apw hb]
  generalize hC : ckl (pgL fl k P t8 t9 0 0 0 0 rest) = C
  have hst : ∀ (j : Nat) (W : VT) (l : List Int32) (kb : Int32 → VT → UT → Prop), j < 4 → l.length = 13 + rest.length → GL (tb θ + 1) (tb θ + 2) 1 V W n l → (∀ W2, GL (tb θ + 1) (tb θ + 2) 1 V W2 n (l.set (9 + j) (ckb C j)) → kb (nI (j + 1)) W2 U) → bl_W_seal_30 θ (tb θ + 1) (nI n) C K kb (nI j) W U := by
    intro j W l kb hj hl hgl hkb
    unfold bl_W_seal_30
    simp only [UC hU, IC hθ, exists_eq_left, true_and]
    rw [show nI n + (9 : Int32) + nI j = nI (n + (9 + j)) by rw [show nI n + (9 : Int32) = nI (n + 9) from nI_add n 9, nI_add, Nat.add_assoc]]
    refine br_f (nI_ge (a := j) (b := 4) hj (by decide)) ⟨by omega, vp_in_nI (by omega) (by decide), fun W2 e2 z hz => ?_⟩
    rw [nI_clamp (by omega)] at e2
    rw [hz, nI_1, e2]
    exact hkb _ (hgl.set (by omega) (by omega))
  refine ⟨5, ?_⟩
  refine hst 0 V1 _ _ (by decide) (by rw [pgL_len]) hg (fun W1 g1 => ?_)
  refine hst 1 W1 _ _ (by decide) (by rw [List.length_set, pgL_len]) g1 (fun W2 g2 => ?_)
  refine hst 2 W2 _ _ (by decide) (by rw [List.length_set, List.length_set, pgL_len]) g2 (fun W3 g3 => ?_)
  refine hst 3 W3 _ _ (by decide) (by rw [List.length_set, List.length_set, List.length_set, pgL_len]) g3 (fun W4 g4 => ?_)
  show bl_W_seal_30 _ _ _ _ _ _ _ _ _
  unfold bl_W_seal_30
  refine br_t (by decide) (hk W4 ?_)
  rw [← hC] at g4
  exact g4
end SHEET
