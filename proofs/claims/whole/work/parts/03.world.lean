abbrev aT (θ : TH) : Nat → Prop := fun q => tb θ ≤ q
def tysO (C : Nat → ClassId) : List (ClassId × FieldType) := (List.range 7).map (fun t => (C t, tyT t))
theorem tysO_at {C : Nat → ClassId} {t : Nat} (h : t < 7) : (tysO C)[t]? = some (C t, tyT t) := by simp [tysO, h]
/-- what a state's tables and statics must say -/
def kn (θ : TH) (s : State) : Prop := va_K (tD θ) vwCl (tysO (tC θ)) s ∧ (∀ w ∈ NW, va_Nw w s) ∧ 0 < tb θ ∧
  ∀ j, j < 3 → va_Z (sCl j) (sNm j) "[I" (.ref (tS θ j)) (aT θ) s s.heap ∧ va_T .int (tS θ j) (sLen j) (fun i => .int (sV j i)) (aT θ) s s.heap
abbrev Sx (θ : TH) (s : State) (H : Heap) (locs : List Loc) : Prop := va_S (aT θ) s.heap H locs
theorem kn.call {θ : TH} {s U : State} {H : Heap} {locs : List Loc} (h : kn θ s) (hS : Sx θ s H locs) (hU : U.heap = H) (hW : s.WarmedH U.vm) : kn θ U := by
  obtain ⟨h1, h2, h3, h4⟩ := h
  refine ⟨va_K.moved hW.alike h1, fun w hw => nest_warm (List.mem_filter.mp hw).2 hW (h2 w hw), h3, fun j hj => ?_⟩
  obtain ⟨z1, z2⟩ := h4 j hj
  rw [hU]
  exact ⟨(va_Z.moved hW.alike z1).kept hS.2.1, (va_T.moved hW.alike z2).kept hS.2.1⟩
theorem kn.calling {θ : TH} {U : State} {g : JFrame} {mk : MethodId} {a : Array Value} (h : kn θ U) : kn θ (U.calling g mk a) := by
  obtain ⟨h1, h2, h3, h4⟩ := h
  refine ⟨va_K.moved (u := U) (U := U.calling g mk a) (Vm.Alike.refl U.vm) h1, fun w hw => nest_same (s := U) (U := U.calling g mk a) (List.mem_filter.mp hw).2 rfl (h2 w hw), h3, fun j hj => ?_⟩
  obtain ⟨z1, z2⟩ := h4 j hj
  exact ⟨va_Z.moved (u := U) (U := U.calling g mk a) (Vm.Alike.refl U.vm) z1, va_T.moved (u := U) (U := U.calling g mk a) (Vm.Alike.refl U.vm) z2⟩
/-- a class's table: its number, what the words say of its fields, its types, its names -/
def CI (ci : Nat) (C : String) (T : u_T) (N : Nat) : Prop := vwCl[ci]? = some (C, T, N) ∧ (∀ w ∈ u_ws C T N, w ∈ WA) ∧ (∃ ty0 : Nat → FieldType, ∀ k, k < N → parseFieldDescriptor (T k).2.2.1 = some (ty0 k)) ∧ (∀ a, a < N → ∀ b, b < N → a ≠ b → (T a).2.1 ≠ (T b).2.1)
def Lk (own : String) (index : Nat) (q : String × String × String × Bool) : Prop := Cond.fieldLink own index q.1 q.2.1 q.2.2.1 ∈ WA ∨ ∃ host : String, Cond.fieldLinkNest own index q.1 q.2.1 q.2.2.1 host ∈ NW
/-- the field that a pool entry names: class, place, type, final or not -/
def FK (own : String) (index ci k : Nat) (ty : FieldType) (fin : Bool) : Prop := ∃ (C : String) (T : u_T) (N : Nat), CI ci C T N ∧ k < N ∧ Lk own index (T k) ∧ (T k).2.2.2 = fin ∧ parseFieldDescriptor (T k).2.2.1 = some ty ∧ (T k).1 = C
theorem CI.n {ci : Nat} {C : String} {T : u_T} {N : Nat} (h : CI ci C T N) : nF ci = N := by simp [nF, h.1]
/-- a method's frame of facts -/
def Cx (p : Program) (s : State) (m : MethodId) (args : Array Value) (c : Code) (cc : ByteArray) (nL : Nat) (own : String) (θ : TH) : Prop :=
  p.tables.exec = Jvm.exec ∧ c.code = cc ∧ c.maxLocals = nL ∧ s.vm.findClass own = some m.cls ∧ (∀ w ∈ WA, w.before args s = true) ∧ kn θ s
section ROWS
variable {p : Program} {l : Launch} {e : Env} {R : Room} {s : State} {m : MethodId} {args : Array Value} {below : List Frame} {meth : Method} {c : Code} {H : Heap} {locs : List Loc} {cells slots : Nat} {Q : State → Prop}
variable {cc : ByteArray} {pc nL : Nat} {ls : Array Slot} {rest : List Value} {own : String} {θ : TH} {V : VT} {U : UT} {index ci k a : Nat} {ty : FieldType} {fin : Bool}
theorem g_get (hC : Cx p s m args c cc nL own θ) (hf : FK own index ci k ty fin) (hw : wo θ V U H) (ho : isO θ a ci) {v : Value} (hv : fv V U a ci k = v) (hdg : decode cc pc = .ok (.getfield index, 3))
    (kk : W p l e R s m args below meth c H locs cells slots Q (F0 m (pc + 3) ls (v :: rest))) : W p l e R s m args below meth c H locs cells slots Q (F0 m pc ls (.ref a :: rest)) := by
  obtain ⟨hx, hb, hml, hown, hA, hkn⟩ := hC
  obtain ⟨C, T, N, hci, hk, hlk, hfin, hty, hdecl⟩ := hf
  have hN := hci.n
  obtain ⟨hc, hin, hty0, hnm⟩ := hci
  have hg : ((List.range (nF ci)).map (fv V U a ci))[k]? = some v := by rw [fv_get (by omega), hv]
  rcases hlk with hl | ⟨host, hl⟩
  · exact va_get hx hb hA hin hown hkn.1 hw (a - tb θ) ho.at hc k hk (hA _ hl) (fun _ h => h) hg hdg kk
  · exact va_getN (host := host) hx hb hA hin hown hkn.1 hw (a - tb θ) ho.at hc k hk (nest_use rfl (hkn.2.1 _ hl)) (fun _ h => h) hg hdg kk
theorem g_getI (hC : Cx p s m args c cc nL own θ) (hf : FK own index ci k ty fin) (hr : fkR ci k = false) (hw : wo θ V U H) (ho : isO θ a ci) (hdg : decode cc pc = .ok (.getfield index, 3))
    (kk : W p l e R s m args below meth c H locs cells slots Q (F0 m (pc + 3) ls (.int (V a k) :: rest))) : W p l e R s m args below meth c H locs cells slots Q (F0 m pc ls (.ref a :: rest)) :=
  g_get hC hf hw ho (fv_int hr) hdg kk
theorem g_getR (hC : Cx p s m args c cc nL own θ) (hf : FK own index ci k ty fin) (hr : fkR ci k = true) (hw : wo θ V U H) (ho : isO θ a ci) (h0 : U a k ≠ 0) (hdg : decode cc pc = .ok (.getfield index, 3))
    (kk : W p l e R s m args below meth c H locs cells slots Q (F0 m (pc + 3) ls (.ref (U a k) :: rest))) : W p l e R s m args below meth c H locs cells slots Q (F0 m pc ls (.ref a :: rest)) :=
  g_get hC hf hw ho (fv_ref hr h0) hdg kk
theorem g_put (hC : Cx p s m args c cc nL own θ) (hf : FK own index ci k ty false) (hw : wo θ V U H) (hS : Sx θ s H locs) (ho : isO θ a ci) {v : Value} {V' : VT} {U' : UT} (hn : narrow ty v = v) (hft : fits ty v = true)
    (h1 : (List.range (nF ci)).map (fv V' U' a ci) = ((List.range (nF ci)).map (fv V U a ci)).set k v) (h2 : ∀ q, q ≠ a → V' q = V q ∧ U' q = U q) (hdg : decode cc pc = .ok (.putfield index, 3))
    (kk : ∀ (H1 : Heap) (locs1 : List Loc), wo θ V' U' H1 → Sx θ s H1 locs1 → W p l e R s m args below meth c H1 locs1 cells slots Q (F0 m (pc + 3) ls rest)) : W p l e R s m args below meth c H locs cells slots Q (F0 m pc ls (v :: .ref a :: rest)) := by
  obtain ⟨hx, hb, hml, hown, hA, hkn⟩ := hC
  obtain ⟨C, T, N, hci, hk, hlk, hfin, hty, hdecl⟩ := hf
  have hN := hci.n
  obtain ⟨hc, hin, ⟨ty0, hty0⟩, hnm⟩ := hci
  have hlen : k < ((List.range (nF ci)).map (fv V U a ci)).length := by simp; omega
  have ea : tb θ + (a - tb θ) = a := by have := ho.1; omega
  have hset : (wl θ V U).set (a - tb θ) (a, .inr (ci, ((List.range (nF ci)).map (fv V U a ci)).set k v)) = wl θ V' U' := by
    have := wl_set (θ := θ) (V := V) (U := U) (V' := V') (U' := U') (k := a - tb θ) (e := .inr (ci, ((List.range (nF ci)).map (fv V U a ci)).set k v)) ho.2.1 (by rw [ea, ho.2.2, ← h1]; rfl) (by rw [ea]; exact h2)
    rw [ea] at this
    exact this
  rcases hlk with hl | ⟨host, hl⟩
  · refine va_put hx hb hA hin ty0 hty0 hnm hown hkn.1 hw wl_D hS (a - tb θ) ho.at hc k hk (hA _ hl) (fun _ h => h) hfin hty hn hft hlen hdg (fun H1 locs1 q1 _ q3 => ?_)
    rw [hset] at q1
    exact kk H1 locs1 q1 q3
  · refine va_putN (host := host) hx hb hA hin ty0 hty0 hnm hown hkn.1 hw wl_D hS (a - tb θ) ho.at hc k hk (nest_use rfl (hkn.2.1 _ hl)) (fun _ h => h) hfin hty hn hft hlen hdg (fun H1 locs1 q1 _ q3 => ?_)
    rw [hset] at q1
    exact kk H1 locs1 q1 q3
theorem g_putI (hC : Cx p s m args c cc nL own θ) (hf : FK own index ci k .int false) (hr : fkR ci k = false) (hw : wo θ V U H) (hS : Sx θ s H locs) (ho : isO θ a ci) {x : Int32} (hdg : decode cc pc = .ok (.putfield index, 3))
    (kk : ∀ (V' : VT), V' = up2 V a k x → ∀ (H1 : Heap) (locs1 : List Loc), wo θ V' U H1 → Sx θ s H1 locs1 → W p l e R s m args below meth c H1 locs1 cells slots Q (F0 m (pc + 3) ls rest)) : W p l e R s m args below meth c H locs cells slots Q (F0 m pc ls (.int x :: .ref a :: rest)) :=
  g_put hC hf hw hS ho rfl rfl (fv_setI hr) (fun q hq => ⟨up2_ne hq, rfl⟩) hdg (kk _ rfl)
theorem g_putZ (hC : Cx p s m args c cc nL own θ) (hf : FK own index ci k .boolean false) (hr : fkR ci k = false) (hw : wo θ V U H) (hS : Sx θ s H locs) (ho : isO θ a ci) {x : Int32} (hz : isZ x) (hdg : decode cc pc = .ok (.putfield index, 3))
    (kk : ∀ (V' : VT), V' = up2 V a k x → ∀ (H1 : Heap) (locs1 : List Loc), wo θ V' U H1 → Sx θ s H1 locs1 → W p l e R s m args below meth c H1 locs1 cells slots Q (F0 m (pc + 3) ls rest)) : W p l e R s m args below meth c H locs cells slots Q (F0 m pc ls (.int x :: .ref a :: rest)) :=
  g_put hC hf hw hS ho hz.n hz.f (fv_setI hr) (fun q hq => ⟨up2_ne hq, rfl⟩) hdg (kk _ rfl)
theorem g_putR (hC : Cx p s m args c cc nL own θ) {cn : String} (hf : FK own index ci k (.object cn) false) (hr : fkR ci k = true) (hw : wo θ V U H) (hS : Sx θ s H locs) (ho : isO θ a ci) {r : Nat} (h0 : r ≠ 0) (hdg : decode cc pc = .ok (.putfield index, 3))
    (kk : ∀ (U' : UT), U' = up2 U a k r → ∀ (H1 : Heap) (locs1 : List Loc), wo θ V U' H1 → Sx θ s H1 locs1 → W p l e R s m args below meth c H1 locs1 cells slots Q (F0 m (pc + 3) ls rest)) : W p l e R s m args below meth c H locs cells slots Q (F0 m pc ls (.ref r :: .ref a :: rest)) :=
  g_put hC hf hw hS ho rfl rfl (fv_setR hr h0) (fun q hq => ⟨rfl, up2_ne hq⟩) hdg (kk _ rfl)
-- arrays
theorem g_iald (hC : Cx p s m args c cc nL own θ) (hw : wo θ V U H) {n : Nat} (ha : isA θ a 0 n) {i : Int32} (hin : vp_in i n) (hdg : decode cc pc = .ok (.iaload, 1))
    (kk : W p l e R s m args below meth c H locs cells slots Q (F0 m (pc + 1) ls (.int (V a i.toNatClampNeg) :: rest))) : W p l e R s m args below meth c H locs cells slots Q (F0 m pc ls (.int i :: .ref a :: rest)) :=
  va_iald hC.1 hC.2.1 hC.2.2.2.2.2.1 hw (a - tb θ) 0 ha.at (tysO_at (by decide)) hin hdg kk
theorem g_zald (hC : Cx p s m args c cc nL own θ) (hw : wo θ V U H) {n : Nat} (ha : isA θ a 1 n) {i : Int32} (hin : vp_in i n) (hdg : decode cc pc = .ok (.baload, 1))
    (kk : W p l e R s m args below meth c H locs cells slots Q (F0 m (pc + 1) ls (.int (V a i.toNatClampNeg) :: rest))) : W p l e R s m args below meth c H locs cells slots Q (F0 m pc ls (.int i :: .ref a :: rest)) :=
  va_zald hC.1 hC.2.1 hC.2.2.2.2.2.1 hw (a - tb θ) 1 ha.at (tysO_at (by decide)) hin hdg kk
theorem upd_up2 {a i : Nat} {x : Int32} : upd (V a) i x = up2 V a i x a := by rw [up2_at]; rfl
theorem g_arr {t n : Nat} {V' : VT} (ha : isA θ a t n) (h2 : ∀ q, q ≠ a → V' q = V q) : (wl θ V U).set (a - tb θ) (a, .inl (tC θ t, n, .inl (V' a))) = wl θ V' U := by
  have ea : tb θ + (a - tb θ) = a := by have := ha.1; omega
  have := wl_set (θ := θ) (V := V) (U := U) (V' := V') (U' := U) (k := a - tb θ) (e := .inl (tC θ t, n, .inl (V' a))) ha.2.1 (by rw [ea, ha.2.2]; rfl) (by rw [ea]; exact fun q hq => ⟨h2 q hq, rfl⟩)
  rw [ea] at this
  exact this
theorem g_iast (hC : Cx p s m args c cc nL own θ) (hw : wo θ V U H) (hS : Sx θ s H locs) {n : Nat} (ha : isA θ a 0 n) {i x : Int32} (hin : vp_in i n) (hdg : decode cc pc = .ok (.iastore, 1))
    (kk : ∀ (V' : VT), V' = up2 V a i.toNatClampNeg x → ∀ (H1 : Heap) (locs1 : List Loc), wo θ V' U H1 → Sx θ s H1 locs1 → W p l e R s m args below meth c H1 locs1 cells slots Q (F0 m (pc + 1) ls rest)) : W p l e R s m args below meth c H locs cells slots Q (F0 m pc ls (.int x :: .int i :: .ref a :: rest)) := by
  refine va_iast hC.1 hC.2.1 hC.2.2.2.2.2.1 hw wl_D hS (a - tb θ) 0 ha.at (tysO_at (by decide)) hin hdg (fun H1 locs1 q1 _ q3 => ?_)
  rw [upd_up2, g_arr ha (fun q hq => up2_ne hq)] at q1
  exact kk _ rfl H1 locs1 q1 q3
theorem g_zast (hC : Cx p s m args c cc nL own θ) (hw : wo θ V U H) (hS : Sx θ s H locs) {n : Nat} (ha : isA θ a 1 n) {i x : Int32} (hin : vp_in i n) (hz : isZ x) (hdg : decode cc pc = .ok (.bastore, 1))
    (kk : ∀ (V' : VT), V' = up2 V a i.toNatClampNeg x → ∀ (H1 : Heap) (locs1 : List Loc), wo θ V' U H1 → Sx θ s H1 locs1 → W p l e R s m args below meth c H1 locs1 cells slots Q (F0 m (pc + 1) ls rest)) : W p l e R s m args below meth c H locs cells slots Q (F0 m pc ls (.int x :: .int i :: .ref a :: rest)) := by
  refine va_zast hC.1 hC.2.1 hC.2.2.2.2.2.1 hw wl_D hS (a - tb θ) 1 ha.at (tysO_at (by decide)) hin hdg (fun H1 locs1 q1 _ q3 => ?_)
  rw [hz.v, upd_up2, g_arr ha (fun q hq => up2_ne hq)] at q1
  exact kk _ rfl H1 locs1 q1 q3
theorem g_ilen (hC : Cx p s m args c cc nL own θ) (hw : wo θ V U H) {t n : Nat} (ht : t < 7) (ha : isA θ a t n) (hdg : decode cc pc = .ok (.arraylength, 1))
    (kk : W p l e R s m args below meth c H locs cells slots Q (F0 m (pc + 1) ls (.int (nI n) :: rest))) : W p l e R s m args below meth c H locs cells slots Q (F0 m pc ls (.ref a :: rest)) :=
  va_alen hC.1 hC.2.1 hC.2.2.2.2.2.1 hw (a - tb θ) t ha.at (tysO_at ht) rfl hdg kk
theorem g_aald (hC : Cx p s m args c cc nL own θ) (hw : wo θ V U H) {t n : Nat} (ht : t < 7) (htr : (tyT t).isReference = true) (ha : isR θ a t n) {i : Int32} (hin : vp_in i n) (h0 : U a i.toNatClampNeg ≠ 0) (hdg : decode cc pc = .ok (.aaload, 1))
    (kk : W p l e R s m args below meth c H locs cells slots Q (F0 m (pc + 1) ls (.ref (U a i.toNatClampNeg) :: rest))) : W p l e R s m args below meth c H locs cells slots Q (F0 m pc ls (.int i :: .ref a :: rest)) := by
  have hlt : i.toNatClampNeg < n := Nat.not_le.mp fun q => hin (Or.inr q)
  have hat := hw (a - tb θ) _ ha.at
  refine W.aald (v := .ref (U a i.toNatClampNeg)) (ty := tyT t) hC.1 hC.2.1 hat ((hC.2.2.2.2.2.1.2 t _ (tysO_at ht)).1 n (fun j => va_rf (orf (U a j)))) htr (fun q => by cases q) (by show ¬ (i < 0 ∨ (arrV _ _ _).slots.size ≤ _); rw [arrV_size]; exact hin) ?_ rfl rfl hdg kk
  show (arrV _ _ _).slots[_]? = _
  rw [arrV_read _ _ hlt]
  simp [orf_rf, vr, h0]
-- static tables
theorem g_gets (hC : Cx p s m args c cc nL own θ) (hS : Sx θ s H locs) {j : Nat} (hj : j < 3) (hlk : Cond.fieldLink own index (sCl j) (sNm j) "[I" ∈ WA ∨ ∃ host : String, Cond.fieldLinkNest own index (sCl j) (sNm j) "[I" host ∈ NW) (hdg : decode cc pc = .ok (.getstatic index, 3))
    (kk : W p l e R s m args below meth c H locs cells slots Q (F0 m (pc + 3) ls (.ref (tS θ j) :: rest))) : W p l e R s m args below meth c H locs cells slots Q (F0 m pc ls rest) := by
  obtain ⟨hx, hb, hml, hown, hA, hkn⟩ := hC
  rcases hlk with hl | ⟨host, hl⟩
  · exact va_gets hx hb (hkn.2.2.2 j hj).1 hS hown (hA _ hl) (fun _ h => h) hdg kk
  · exact va_getsN (host := host) hx hb (hkn.2.2.2 j hj).1 hS hown (nest_use rfl (hkn.2.1 _ hl)) (fun _ h => h) hdg kk
theorem g_tald (hC : Cx p s m args c cc nL own θ) (hS : Sx θ s H locs) {j : Nat} (hj : j < 3) {i : Int32} (hin : vp_in i (sLen j)) (hdg : decode cc pc = .ok (.iaload, 1))
    (kk : W p l e R s m args below meth c H locs cells slots Q (F0 m (pc + 1) ls (.int (sV j i.toNatClampNeg) :: rest))) : W p l e R s m args below meth c H locs cells slots Q (F0 m pc ls (.int i :: .ref (tS θ j) :: rest)) :=
  va_ti hC.1 hC.2.1 (hC.2.2.2.2.2.2.2.2 j hj).2 hS hin rfl hdg kk
theorem g_tlen (hC : Cx p s m args c cc nL own θ) (hS : Sx θ s H locs) {j : Nat} (hj : j < 3) {v : Int32} (hv : Int32.ofNat (sLen j) = v) (hdg : decode cc pc = .ok (.arraylength, 1))
    (kk : W p l e R s m args below meth c H locs cells slots Q (F0 m (pc + 1) ls (.int v :: rest))) : W p l e R s m args below meth c H locs cells slots Q (F0 m pc ls (.ref (tS θ j) :: rest)) :=
  va_tlen hC.1 hC.2.1 (hC.2.2.2.2.2.2.2.2 j hj).2 hS hv hdg kk
end ROWS
