-- the abstract store: V holds the ints (fields and array elements), U the references (0: null), by address and place
abbrev VT : Type := Nat → Nat → Int32
abbrev UT : Type := Nat → Nat → Nat
-- the world's constants: first address, number of cells, layout (kind, class or array tag, size), the classes' numbers, the array classes, the static tables' addresses
abbrev TH : Type := Nat × Nat × (Nat → Nat × Nat × Nat) × va_G × (Nat → ClassId) × (Nat → Nat)
abbrev tb (θ : TH) : Nat := θ.1
abbrev tN (θ : TH) : Nat := θ.2.1
abbrev tL (θ : TH) : Nat → Nat × Nat × Nat := θ.2.2.1
abbrev tD (θ : TH) : va_G := θ.2.2.2.1
abbrev tC (θ : TH) : Nat → ClassId := θ.2.2.2.2.1
abbrev tS (θ : TH) : Nat → Nat := θ.2.2.2.2.2
def up2 {α : Type} (f : Nat → Nat → α) (a i : Nat) (x : α) : Nat → Nat → α := fun b j => if b = a then (if j = i then x else f b j) else f b j
theorem up2_ne {α : Type} {f : Nat → Nat → α} {a i b : Nat} {x : α} (h : b ≠ a) : up2 f a i x b = f b := by
  funext j; simp [up2, h]
theorem up2_at {α : Type} {f : Nat → Nat → α} {a i : Nat} {x : α} : up2 f a i x a = fun j => if j = i then x else f a j := by
  funext j; simp [up2]
def vr (r : Nat) : Value := if r = 0 then .null else .ref r
def orf (r : Nat) : Option Nat := if r = 0 then none else some r
theorem orf_rf (r : Nat) : va_rf (orf r) = vr r := by
  unfold orf vr; by_cases h : r = 0 <;> simp [h, va_rf]
theorem vr_pos {r : Nat} (h : r ≠ 0) : vr r = .ref r := by simp [vr, h]
def nF (c : Nat) : Nat := match vwCl[c]? with
  | some q => q.2.2
  | none => 0
def fv (V : VT) (U : UT) (a c k : Nat) : Value := if fkR c k = true then vr (U a k) else .int (V a k)
def ce (C : Nat → ClassId) (V : VT) (U : UT) (a : Nat) (i : Nat × Nat × Nat) : va_E :=
  if i.1 = 0 then .inr (i.2.1, (List.range i.2.2).map (fv V U a i.2.1))
  else if i.1 = 1 then .inl (C i.2.1, i.2.2, .inl (V a))
  else .inl (C i.2.1, i.2.2, .inr (.inr (.inr (.inr (fun j => orf (U a j))))))
def wl (θ : TH) (V : VT) (U : UT) : va_W := (List.range (tN θ)).map (fun k => (tb θ + k, ce (tC θ) V U (tb θ + k) (tL θ k)))
def wo (θ : TH) (V : VT) (U : UT) (H : Heap) : Prop := va_P (tD θ) vwCl (wl θ V U) H
def isO (θ : TH) (a c : Nat) : Prop := tb θ ≤ a ∧ a - tb θ < tN θ ∧ tL θ (a - tb θ) = (0, c, nF c)
def isA (θ : TH) (a t n : Nat) : Prop := tb θ ≤ a ∧ a - tb θ < tN θ ∧ tL θ (a - tb θ) = (1, t, n)
def isR (θ : TH) (a t n : Nat) : Prop := tb θ ≤ a ∧ a - tb θ < tN θ ∧ tL θ (a - tb θ) = (2, t, n)
def isZ (x : Int32) : Prop := x = 0 ∨ x = 1
theorem isZ.n {x : Int32} (h : isZ x) : narrow .boolean (.int x) = .int x := by
  rcases h with rfl | rfl <;> decide +kernel
theorem isZ.f {x : Int32} (h : isZ x) : fits .boolean (.int x) = true := by
  rcases h with rfl | rfl <;> decide +kernel
theorem isZ.v {x : Int32} (h : isZ x) : vp_nar .boolean x = x := by
  rcases h with rfl | rfl <;> decide +kernel
theorem ce_congr {C : Nat → ClassId} {V V' : VT} {U U' : UT} {a : Nat} {i : Nat × Nat × Nat} (hV : V a = V' a) (hU : U a = U' a) : ce C V U a i = ce C V' U' a i := by
  have h : fv V U a i.2.1 = fv V' U' a i.2.1 := by
    funext k; simp [fv, hV, hU]
  simp only [ce, h, hV, hU]
theorem wl_len {θ : TH} {V : VT} {U : UT} : (wl θ V U).length = tN θ := by simp [wl]
theorem wl_get {θ : TH} {V : VT} {U : UT} {k : Nat} (h : k < tN θ) : (wl θ V U)[k]? = some (tb θ + k, ce (tC θ) V U (tb θ + k) (tL θ k)) := by
  simp [wl, h]
theorem wl_set {θ : TH} {V V' : VT} {U U' : UT} {k : Nat} {e : va_E} (hk : k < tN θ) (h1 : ce (tC θ) V' U' (tb θ + k) (tL θ k) = e) (h2 : ∀ q, q ≠ tb θ + k → V' q = V q ∧ U' q = U q) : (wl θ V U).set k (tb θ + k, e) = wl θ V' U' := by
  apply List.ext_getElem?
  intro j
  by_cases hj : j < tN θ
  · rw [wl_get hj]
    by_cases hjk : j = k
    · subst hjk
      rw [List.getElem?_set_self (by rw [wl_len]; exact hj), h1]
    · have h3 := h2 (tb θ + j) (by omega)
      rw [List.getElem?_set_ne (Ne.symm hjk), wl_get hj, ce_congr (V' := V') (U' := U') h3.1.symm h3.2.symm]
  · rw [List.getElem?_eq_none (by rw [List.length_set, wl_len]; omega), List.getElem?_eq_none (by rw [wl_len]; omega)]
theorem wl_D {θ : TH} {V : VT} {U : UT} : va_D (fun q => tb θ ≤ q) (wl θ V U) := by
  have key : ∀ (k : Nat) (q : Nat × va_E), (wl θ V U)[k]? = some q → q.1 = tb θ + k := by
    intro k q h
    have hk : k < tN θ := by
      have := (List.getElem?_eq_some_iff.mp h).1
      rw [wl_len] at this; exact this
    rw [wl_get hk] at h
    cases h
    rfl
  refine ⟨fun i j x y hi hj hxy => ?_, fun k q hk => ?_⟩
  · have h1 := key i x hi
    have h2 := key j y hj
    omega
  · have h1 := key k q hk
    show tb θ ≤ q.1
    omega
theorem isO.at {θ : TH} {a c : Nat} {V : VT} {U : UT} (h : isO θ a c) : (wl θ V U)[a - tb θ]? = some (a, .inr (c, (List.range (nF c)).map (fv V U a c))) := by
  obtain ⟨h1, h2, h3⟩ := h
  have e : tb θ + (a - tb θ) = a := by omega
  rw [wl_get h2, h3, e]
  rfl
theorem isA.at {θ : TH} {a t n : Nat} {V : VT} {U : UT} (h : isA θ a t n) : (wl θ V U)[a - tb θ]? = some (a, .inl (tC θ t, n, .inl (V a))) := by
  obtain ⟨h1, h2, h3⟩ := h
  have e : tb θ + (a - tb θ) = a := by omega
  rw [wl_get h2, h3, e]
  rfl
theorem isR.at {θ : TH} {a t n : Nat} {V : VT} {U : UT} (h : isR θ a t n) : (wl θ V U)[a - tb θ]? = some (a, .inl (tC θ t, n, .inr (.inr (.inr (.inr (fun j => orf (U a j))))))) := by
  obtain ⟨h1, h2, h3⟩ := h
  have e : tb θ + (a - tb θ) = a := by omega
  rw [wl_get h2, h3, e]
  rfl
theorem fv_get {V : VT} {U : UT} {a c k : Nat} (hk : k < nF c) : ((List.range (nF c)).map (fv V U a c))[k]? = some (fv V U a c k) := by
  simp [hk]
theorem fv_int {V : VT} {U : UT} {a c k : Nat} (h : fkR c k = false) : fv V U a c k = .int (V a k) := by simp [fv, h]
theorem fv_ref {V : VT} {U : UT} {a c k : Nat} (h : fkR c k = true) (h0 : U a k ≠ 0) : fv V U a c k = .ref (U a k) := by simp [fv, h, vr, h0]
theorem fv_setI {V : VT} {U : UT} {a c k : Nat} {x : Int32} (h : fkR c k = false) : (List.range (nF c)).map (fv (up2 V a k x) U a c) = ((List.range (nF c)).map (fv V U a c)).set k (.int x) := by
  apply List.ext_getElem?
  intro j
  by_cases hj : j < nF c
  · by_cases hjk : j = k
    · subst hjk
      rw [List.getElem?_set_self (by simpa using hj)]
      simp [hj, fv, h, up2]
    · rw [List.getElem?_set_ne (Ne.symm hjk)]
      simp [hj, fv, up2, hjk]
  · rw [List.getElem?_eq_none (by simp; omega), List.getElem?_eq_none (by simp; omega)]
theorem fv_setR {V : VT} {U : UT} {a c k r : Nat} (h : fkR c k = true) (h0 : r ≠ 0) : (List.range (nF c)).map (fv V (up2 U a k r) a c) = ((List.range (nF c)).map (fv V U a c)).set k (.ref r) := by
  apply List.ext_getElem?
  intro j
  by_cases hj : j < nF c
  · by_cases hjk : j = k
    · subst hjk
      rw [List.getElem?_set_self (by simpa using hj)]
      simp [hj, fv, h, up2, vr, h0]
    · rw [List.getElem?_set_ne (Ne.symm hjk)]
      simp [hj, fv, up2, hjk]
  · rw [List.getElem?_eq_none (by simp; omega), List.getElem?_eq_none (by simp; omega)]
-- the tables' words: those that any later state keeps, and those of nest mates
def isNest : Cond → Bool
  | .fieldLinkNest .. => true
  | .methodLinkNest .. => true
  | _ => false
def WA : List Cond := lw_tbl.filter goodWord
def NW : List Cond := lw_tbl.filter isNest
theorem wa_of {w : Cond} (h : w ∈ lw_tbl) (hg : goodWord w = true) : w ∈ WA := List.mem_filter.mpr ⟨h, hg⟩
theorem nw_of {w : Cond} (h : w ∈ lw_tbl) (hg : isNest w = true) : w ∈ NW := List.mem_filter.mpr ⟨h, hg⟩
theorem wa_in {a b : Cond} (hb : b ∈ WA) : GoodIn (a :: WA) (b :: WA) := by
  have key : ∀ w ∈ WA, w ∈ (a :: WA) ∧ ((w.onTables && w.keeps) = true ∨ ∃ ty, w = .arrayClass ty) := fun w h => ⟨List.mem_cons_of_mem _ h, good_of_word (List.mem_filter.mp h).2⟩
  intro w hw
  rcases List.mem_cons.mp hw with rfl | h
  · exact key _ hb
  · exact key _ h
theorem nest_warm {w : Cond} (hn : isNest w = true) {s U : State} (hW : s.WarmedH U.vm) (h : va_Nw w s) : va_Nw w U := by
  cases w <;> first | exact va_Nw.warmF hW h | exact va_Nw.warmM hW h | cases hn
theorem nest_same {w : Cond} (hn : isNest w = true) {s U : State} (hv : s.vm = U.vm) (h : va_Nw w s) : va_Nw w U := by
  cases w <;> first | exact va_Nw.same rfl hv h | cases hn
theorem nest_use {w : Cond} (hn : isNest w = true) {s : State} {A : Array Value} (h : va_Nw w s) : w.before A s = true := by
  cases w <;> first | exact va_Nw.use rfl h | cases hn
