-- the share of the decoder: data of books and plans, what both sides show of them
def bZ (b : Bool) : Int32 := if b = true then 1 else 0
def nO : Option Nat → Int32
  | none => -1
  | some e => nI e
def cnU (ln : Nat → Nat) : Nat → Nat
  | 0 => 0
  | k + 1 => cnU ln k + (if 0 < ln k then 1 else 0)
def smN (f : Nat → Nat) : Nat → Nat
  | 0 => 0
  | k + 1 => smN f k + f k
/-- a used book's words: alone, or every run of eight bits begins with one -/
def CWok (E : Nat) (ln cd : Nat → Nat) : Prop := (∀ e, e < E → ln e ≤ 8 ∧ (0 < ln e → cd e < 2 ^ ln e)) ∧ (cnU ln E = 1 ∨ (∀ v, v < 256 → ∃ e, e < E ∧ 0 < ln e ∧ v / 2 ^ (8 - ln e) = cd e))
/-- a book: entries, dimension, lengths, codes, whether it has vectors, these -/
def BD : Type := Nat × Nat × (Nat → Nat) × (Nat → Nat) × Bool × (Nat → Nat → Int32)
def BD.E (b : BD) : Nat := b.1
def BD.d (b : BD) : Nat := b.2.1
def BD.ln (b : BD) : Nat → Nat := b.2.2.1
def BD.cd (b : BD) : Nat → Nat := b.2.2.2.1
def BD.hv (b : BD) : Bool := b.2.2.2.2.1
def BD.cm (b : BD) : Nat → Nat → Int32 := b.2.2.2.2.2
def BKP (b : BD) : Prop := 1 ≤ b.E ∧ b.E ≤ 8 ∧ 1 ≤ b.d ∧ b.d ≤ 4 ∧ CWok b.E b.ln b.cd
def BKC (θ : TH) (V : VT) (k : Nat) (b : BD) : Prop := V (tb θ + (106 + 5 * k)) 0 = nI b.E ∧ V (tb θ + (106 + 5 * k)) 1 = nI b.d ∧ (∀ e, e < b.E → V (tb θ + (108 + 5 * k)) e = (if b.ln e = 0 then 0 else nI (2 ^ b.ln e + b.cd e))) ∧ V (tb θ + (106 + 5 * k)) 4 = nI (cnU b.ln b.E) ∧ V (tb θ + (106 + 5 * k)) 5 = bZ b.hv ∧ (b.hv = true → ∀ e i, e < b.E → i < b.d → V (tb θ + (110 + 5 * k)) (e * b.d + i) = b.cm e i)
def BKM (θ : TH) (V : VT) (k : Nat) (b : BD) : Prop := V (tb θ + 151) k = nI b.E ∧ V (tb θ + 150) k = nI b.d ∧ (∀ e, e < b.E → V (tb θ + 152) (8 * k + e) = nI (b.ln e) ∧ V (tb θ + 153) (8 * k + e) = nI (b.cd e)) ∧ V (tb θ + 154) k = bZ b.hv ∧ (b.hv = true → ∀ e i, e < b.E → i < b.d → V (tb θ + 155) (32 * k + 4 * e + i) = b.cm e i)
/-- the plan of the curves: grain, parts, points, number of kinds of part; of a part its kind; of a kind its size, whether split, the master, the books; the places -/
def CD : Type := Nat × Nat × Nat × Nat × (Nat → Nat) × (Nat → Nat) × (Nat → Bool) × (Nat → Nat) × (Nat → Nat → Option Nat) × (Nat → Nat)
def CD.gr (c : CD) : Nat := c.1
def CD.P (c : CD) : Nat := c.2.1
def CD.N (c : CD) : Nat := c.2.2.1
def CD.C (c : CD) : Nat := c.2.2.2.1
def CD.cl (c : CD) : Nat → Nat := c.2.2.2.2.1
def CD.sz (c : CD) : Nat → Nat := c.2.2.2.2.2.1
def CD.sp (c : CD) : Nat → Bool := c.2.2.2.2.2.2.1
def CD.ms (c : CD) : Nat → Nat := c.2.2.2.2.2.2.2.1
def CD.sb (c : CD) : Nat → Nat → Option Nat := c.2.2.2.2.2.2.2.2.1
def CD.pl (c : CD) : Nat → Nat := c.2.2.2.2.2.2.2.2.2
def CPP (c : CD) (B : Nat) : Prop := c.gr ≤ 3 ∧ c.P ≤ 3 ∧ c.C ≤ 2 ∧ (∀ k, k < c.P → c.cl k < c.C) ∧ (∀ q, q < c.C → 1 ≤ c.sz q ∧ c.sz q ≤ 4 ∧ (c.sp q = true → c.ms q < B) ∧ (∀ m, c.sb q 0 = some m → m < B) ∧ (c.sp q = true → ∀ m, c.sb q 1 = some m → m < B)) ∧ c.N = 2 + smN (fun k => c.sz (c.cl k)) c.P ∧ c.pl 0 = 0 ∧ c.pl 1 ≤ 32 ∧ (∀ i, i < c.N → i ≠ 1 → c.pl i < c.pl 1) ∧ (∀ i j, i < c.N → j < c.N → c.pl i = c.pl j → i = j)
def CPC (θ : TH) (V : VT) (p : Nat) (c : CD) : Prop := V (tb θ + p) 0 = nI c.gr ∧ V (tb θ + p) 1 = nI c.P ∧ (∀ k, k < c.P → V (tb θ + (p + 1)) k = nI (c.cl k)) ∧ (∀ q, q < c.C → V (tb θ + (p + 2)) q = nI (c.sz q) ∧ V (tb θ + (p + 3)) q = bZ (c.sp q) ∧ (c.sp q = true → V (tb θ + (p + 4)) q = nI (c.ms q)) ∧ V (tb θ + (p + 5)) (2 * q) = nO (c.sb q 0) ∧ (c.sp q = true → V (tb θ + (p + 5)) (2 * q + 1) = nO (c.sb q 1))) ∧ V (tb θ + p) 7 = nI c.N ∧ (∀ i, i < c.N → V (tb θ + (p + 6)) i = nI (c.pl i))
def CPM (θ : TH) (V : VT) (la : Nat) (c : CD) : Prop := V (tb θ + 157) la = nI (c.gr + 1) ∧ V (tb θ + 157) (la + 1) = nI c.P ∧ (∀ k, k < c.P → V (tb θ + 157) (la + 2 + k) = nI (c.cl k)) ∧ (∀ q, q < c.C → V (tb θ + 157) (la + 5 + q) = nI (c.sz q) ∧ V (tb θ + 157) (la + 7 + q) = bZ (c.sp q) ∧ (c.sp q = true → V (tb θ + 157) (la + 9 + q) = nI (c.ms q)) ∧ V (tb θ + 157) (la + 11 + 2 * q) = nO (c.sb q 0) ∧ (c.sp q = true → V (tb θ + 157) (la + 11 + 2 * q + 1) = nO (c.sb q 1))) ∧ V (tb θ + 157) (la + 15) = nI c.N ∧ (∀ i, i < c.N → V (tb θ + 157) (la + 16 + i) = nI (c.pl i))
/-- the plan of the values: mode, begin, end, size of a part, kinds, their book, the books of the passes, joined -/
def VD : Type := Nat × Nat × Nat × Nat × Nat × Nat × (Nat → Option Nat) × Bool
def VD.mo (v : VD) : Nat := v.1
def VD.be (v : VD) : Nat := v.2.1
def VD.en (v : VD) : Nat := v.2.2.1
def VD.ps (v : VD) : Nat := v.2.2.2.1
def VD.ki (v : VD) : Nat := v.2.2.2.2.1
def VD.kb (v : VD) : Nat := v.2.2.2.2.2.1
def VD.pb (v : VD) : Nat → Option Nat := v.2.2.2.2.2.2.1
def VD.jo (v : VD) : Bool := v.2.2.2.2.2.2.2
def VPP (v : VD) (B c : Nat) (bk : Nat → BD) : Prop := v.mo ≤ 2 ∧ v.be ≤ v.en ∧ v.en ≤ 63 ∧ 1 ≤ v.ps ∧ v.ps ≤ 8 ∧ 1 ≤ v.ki ∧ v.ki ≤ 2 ∧ v.kb < B ∧ (∀ k m, k < 2 * v.ki → v.pb k = some m → m < B ∧ (bk m).hv = true ∧ v.ps % (bk m).d = 0) ∧ (v.jo = true → c = 2)
def VPC (θ : TH) (V : VT) (p c : Nat) (v : VD) : Prop := V (tb θ + p) 0 = nI c ∧ V (tb θ + p) 1 = nI v.mo ∧ V (tb θ + p) 2 = nI v.be ∧ V (tb θ + p) 3 = nI v.en ∧ V (tb θ + p) 4 = nI v.ps ∧ V (tb θ + p) 5 = nI v.ki ∧ V (tb θ + p) 6 = nI v.kb ∧ (∀ k, k < 2 * v.ki → V (tb θ + (p + 1)) k = nO (v.pb k)) ∧ V (tb θ + p) 8 = bZ v.jo
def VPM (θ : TH) (V : VT) (la : Nat) (v : VD) : Prop := V (tb θ + 157) (la + 30) = nI v.mo ∧ V (tb θ + 157) (la + 31) = nI v.be ∧ V (tb θ + 157) (la + 32) = nI v.en ∧ V (tb θ + 157) (la + 33) = nI v.ps ∧ V (tb θ + 157) (la + 34) = nI v.ki ∧ V (tb θ + 157) (la + 35) = nI v.kb ∧ (∀ k, k < 2 * v.ki → V (tb θ + 157) (la + 36 + k) = nO (v.pb k)) ∧ V (tb θ + 157) (la + 40) = bZ v.jo
def mrk (V : VT) (θ : TH) : Int32 := ((((if V (tb θ + 126) 55 = 0 then (0 : Int32) else 1) + (2 : Int32) * V (tb θ + 126) 56) + (if V (tb θ + 158) 0 = 0 then 0 else 8)) + (if V (tb θ + 158) 1 = 0 then 0 else 16)) + (if V (tb θ + 126) 58 = 0 then 0 else 32)
def BLK (θ : TH) (V : VT) (c : Nat) : Prop := (V (tb θ + 126) 54 = 0 ∧ V (tb θ + 66) 11 = 0) ∨ (V (tb θ + 126) 54 = 1 ∧ ∃ sz, 0 < sz ∧ sz ≤ 64 ∧ V (tb θ + 66) 11 = nI sz ∧ V (tb θ + 126) 57 = nI sz ∧ V (tb θ + 66) 12 = mrk V θ ∧ ∀ ch x, ch < c → x < sz / 2 → V (tb θ + (101 + ch)) x = V (tb θ + 159) (32 * ch + x) ∧ V (tb θ + (104 + ch)) x = V (tb θ + 160) (32 * ch + x))
def cpA (sw : Bool) : Nat := if sw = true then 84 else 68
def vpA (sw : Bool) : Nat := if sw = true then 94 else 78
def DCR (θ : TH) (V : VT) (sw : Bool) : Prop := ∃ (c s L B : Nat) (bk : Nat → BD), c ≤ 2 ∧ V (tb θ + 66) 3 = nI c ∧ V (tb θ + 126) 41 = nI c ∧ (0 < c → 8 ≤ s ∧ s ≤ 64 ∧ s % 2 = 0 ∧ 8 ≤ L ∧ L ≤ 64 ∧ L % 2 = 0) ∧ V (tb θ + 66) 4 = nI s ∧ V (tb θ + 126) 42 = nI s ∧ V (tb θ + 66) 5 = nI L ∧ V (tb θ + 126) 43 = nI L ∧ V (tb θ + 66) 15 = V (tb θ + 126) 68 ∧ B ≤ 4 ∧ V (tb θ + 66) 2 = nI B ∧ V (tb θ + 126) 44 = nI B ∧ (∀ k, k < B → BKP (bk k) ∧ BKC θ V k (bk k) ∧ BKM θ V k (bk k)) ∧ BLK θ V c ∧ ((V (tb θ + 66) 6 = 0 ∧ V (tb θ + 126) 53 = -1) ∨ (V (tb θ + 66) 6 = 1 ∧ 0 < c ∧ ∃ (la : Nat) (cd : CD) (vd : VD), (la = 0 ∨ la = 48) ∧ V (tb θ + 126) 53 = nI la ∧ CPP cd B ∧ CPC θ V (cpA sw) cd ∧ CPM θ V la cd ∧ VPP vd B c bk ∧ VPC θ V (vpA sw) c vd ∧ VPM θ V la vd))
section DEC
variable {θ : TH} {V V2 : VT}
theorem BKC.eq {k : Nat} {b : BD} (q : BKC θ V k b) (h0 : V2 (tb θ + (106 + 5 * k)) = V (tb θ + (106 + 5 * k))) (h2 : V2 (tb θ + (108 + 5 * k)) = V (tb θ + (108 + 5 * k))) (h4 : V2 (tb θ + (110 + 5 * k)) = V (tb θ + (110 + 5 * k))) : BKC θ V2 k b := by
  unfold BKC at q ⊢; rw [h0, h2, h4]; exact q
theorem BKM.eq {k : Nat} {b : BD} (q : BKM θ V k b) (h : ∀ a, 150 ≤ a → a ≤ 155 → V2 (tb θ + a) = V (tb θ + a)) : BKM θ V2 k b := by
  unfold BKM at q ⊢; rw [h 150 (by decide) (by decide), h 151 (by decide) (by decide), h 152 (by decide) (by decide), h 153 (by decide) (by decide), h 154 (by decide) (by decide), h 155 (by decide) (by decide)]; exact q
theorem CPC.eq {p : Nat} {c : CD} (q : CPC θ V p c) (h : ∀ a, p ≤ a → a ≤ p + 6 → V2 (tb θ + a) = V (tb θ + a)) : CPC θ V2 p c := by
  unfold CPC at q ⊢; rw [h p (by omega) (by omega), h (p + 1) (by omega) (by omega), h (p + 2) (by omega) (by omega), h (p + 3) (by omega) (by omega), h (p + 4) (by omega) (by omega), h (p + 5) (by omega) (by omega), h (p + 6) (by omega) (by omega)]; exact q
theorem CPM.eq {la : Nat} {c : CD} (q : CPM θ V la c) (h : V2 (tb θ + 157) = V (tb θ + 157)) : CPM θ V2 la c := by
  unfold CPM at q ⊢; rw [h]; exact q
theorem VPC.eq {p c : Nat} {v : VD} (q : VPC θ V p c v) (h0 : ∀ j, j ≤ 8 → V2 (tb θ + p) j = V (tb θ + p) j) (h1 : V2 (tb θ + (p + 1)) = V (tb θ + (p + 1))) : VPC θ V2 p c v := by
  unfold VPC at q ⊢; rw [h0 0 (by decide), h0 1 (by decide), h0 2 (by decide), h0 3 (by decide), h0 4 (by decide), h0 5 (by decide), h0 6 (by decide), h0 8 (by decide), h1]; exact q
theorem VPM.eq {la : Nat} {v : VD} (q : VPM θ V la v) (h : V2 (tb θ + 157) = V (tb θ + 157)) : VPM θ V2 la v := by
  unfold VPM at q ⊢; rw [h]; exact q
theorem DG_DCR : DG θ (DCR θ) := by
  intro V V2 sw ⟨h1, h2, h3⟩ h
  obtain ⟨c, s, L, B, bk, g⟩ := h
  refine ⟨c, s, L, B, bk, ?_⟩
  have e66 : V2 (tb θ + 66) = V (tb θ + 66) := h1 _ (by omega) (by omega)
  obtain ⟨g1, g2, g3, g4, g5, g6, g7, g8, g9, g10, g11, g12, g13, g14, g15⟩ := g
  refine ⟨g1, by rw [e66]; exact g2, by rw [h3 _ (by decide)]; exact g3, g4, by rw [e66]; exact g5, by rw [h3 _ (by decide)]; exact g6, by rw [e66]; exact g7, by rw [h3 _ (by decide)]; exact g8, by rw [e66, h3 _ (by decide)]; exact g9, g10, by rw [e66]; exact g11, by rw [h3 _ (by decide)]; exact g12, fun b hb => ?_, ?_, ?_⟩
  · obtain ⟨q1, q2, q3⟩ := g13 b hb
    exact ⟨q1, q2.eq (h1 _ (by omega) (by omega)) (h1 _ (by omega) (by omega)) (h1 _ (by omega) (by omega)), q3.eq (fun a _ _ => h2 _ (by omega))⟩
  · rcases g14 with ⟨a, b⟩ | ⟨a, sz, b1, b2, b3, b4, b5, b6⟩
    · exact Or.inl ⟨by rw [h3 _ (by decide)]; exact a, by rw [e66]; exact b⟩
    · refine Or.inr ⟨by rw [h3 _ (by decide)]; exact a, sz, b1, b2, by rw [e66]; exact b3, by rw [h3 _ (by decide)]; exact b4, ?_, fun ch x hc hx => ?_⟩
      · unfold mrk at b5 ⊢
        rw [e66, h3 _ (by decide), h3 _ (by decide), h3 _ (by decide), h2 (tb θ + 158) (by omega)]; exact b5
      · rw [h1 (tb θ + (101 + ch)) (by omega) (by omega), h1 (tb θ + (104 + ch)) (by omega) (by omega), h2 (tb θ + 159) (by omega), h2 (tb θ + 160) (by omega)]
        exact b6 ch x hc hx
  · rcases g15 with ⟨a, b⟩ | ⟨a, b, la, cd, vd, x1, x2, x3, x4, x5, x6, x7, x8⟩
    · exact Or.inl ⟨by rw [e66]; exact a, by rw [h3 _ (by decide)]; exact b⟩
    · have hc : cpA sw = 84 ∨ cpA sw = 68 := by cases sw <;> simp [cpA]
      have hv : vpA sw = 94 ∨ vpA sw = 78 := by cases sw <;> simp [vpA]
      refine Or.inr ⟨by rw [e66]; exact a, b, la, cd, vd, x1, by rw [h3 _ (by decide)]; exact x2, x3, x4.eq (fun a _ _ => h1 _ (by omega) (by omega)), x5.eq (h2 _ (by omega)), x6, x7.eq (fun j _ => by rw [h1 _ (by omega) (by omega)]) (h1 _ (by omega) (by omega)), x8.eq (h2 _ (by omega))⟩
end DEC
