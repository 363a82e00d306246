-- constructors: the world grows; new cells are blank because the store is blank above the last one
abbrev θn (θ : TH) (N : Nat) : TH := (tb θ, N, tL θ, tD θ, tC θ, tS θ)
def vz (θ : TH) (N : Nat) (V : VT) (U : UT) : Prop := ∀ a, tb θ + N ≤ a → V a = (fun _ => 0) ∧ U a = (fun _ => 0)
theorem vz.mono {θ : TH} {N M : Nat} {V : VT} {U : UT} (h : vz θ N V U) (hN : N ≤ M) : vz θ M V U := fun a ha => h a (by omega)
theorem vz.upV {θ : TH} {N a k : Nat} {x : Int32} {V : VT} {U : UT} (h : vz θ N V U) (ha : a < tb θ + N) : vz θ N (up2 V a k x) U := fun q hq => ⟨by rw [up2_ne (by omega)]; exact (h q hq).1, (h q hq).2⟩
theorem vz.upU {θ : TH} {N a k r : Nat} {V : VT} {U : UT} (h : vz θ N V U) (ha : a < tb θ + N) : vz θ N V (up2 U a k r) := fun q hq => ⟨(h q hq).1, by rw [up2_ne (by omega)]; exact (h q hq).2⟩
theorem isO.lt {θ : TH} {N a c : Nat} (h : isO (θn θ N) a c) : a < tb θ + N := by
  have h1 : tb θ ≤ a := h.1
  have h2 : a - tb θ < N := h.2.1
  omega
theorem isR.lt {θ : TH} {N a t n : Nat} (h : isR (θn θ N) a t n) : a < tb θ + N := by
  have h1 : tb θ ≤ a := h.1
  have h2 : a - tb θ < N := h.2.1
  omega
theorem wo_of {θ : TH} {M : Nat} {V : VT} {U : UT} {H : Heap} (h : ∀ k, k < M → va_at (tD θ) vwCl (tb θ + k, ce (tC θ) V U (tb θ + k) (tL θ k)) H) : wo (θn θ M) V U H := by
  intro k q hk
  have hl : k < M := by
    have := (List.getElem?_eq_some_iff.mp hk).1
    rw [wl_len] at this; exact this
  rw [wl_get (θ := θn θ M) hl] at hk
  cases hk
  exact h k hl
theorem wo_at {θ : TH} {N k : Nat} {V : VT} {U : UT} {H : Heap} (hw : wo (θn θ N) V U H) (hk : k < N) : va_at (tD θ) vwCl (tb θ + k, ce (tC θ) V U (tb θ + k) (tL θ k)) H := hw k _ (wl_get (θ := θn θ N) hk)
theorem wo_succ {θ : TH} {N : Nat} {V : VT} {U : UT} {H H1 : Heap} (hw : wo (θn θ N) V U H) (hsz : H.size = tb θ + N) (hk : ∀ q, q < H.size → H1[q]? = H[q]?) (he : va_at (tD θ) vwCl (tb θ + N, ce (tC θ) V U (tb θ + N) (tL θ N)) H1) : wo (θn θ (N + 1)) V U H1 := by
  refine wo_of (fun k hk1 => ?_)
  by_cases h : k < N
  · exact (wo_at hw h).kept (hk _ (by omega))
  · have e : k = N := by omega
    subst e
    exact he
theorem Cx.n {p : Program} {s : State} {m : MethodId} {args : Array Value} {c : Code} {cc : ByteArray} {nL : Nat} {own : String} {θ : TH} (h : Cx p s m args c cc nL own θ) (N : Nat) : Cx p s m args c cc nL own (θn θ N) := h
/-- what the tables say of arrays of references -/
def ovs (s : State) : Prop := va_AO "LacedSound$Outbox" s ∧ va_AO "LacedSound$Inbox" s ∧ va_AO "LacedSound$Event" s ∧ va_AO "LacedSound$Book" s ∧ (Cond.arrayOver (.array .int)).before #[] s = true
theorem ovs.moved {u U : State} (hvm : u.vm.Alike U.vm) (h : ovs u) : ovs U := ⟨h.1.moved hvm, h.2.1.moved hvm, h.2.2.1.moved hvm, h.2.2.2.1.moved hvm, over_moved hvm h.2.2.2.2⟩
abbrev PC (θ : TH) (avs : List Value) (N : Nat) (V : VT) (U : UT) : Array Value → State → Prop := va_Pc avs (fun St => kn θ St ∧ ovs St ∧ wo (θn θ N) V U St.heap ∧ St.heap.size = tb θ + N)
abbrev QC (θ : TH) (K : Nat → VT → UT → Prop) : Array Value → State → Outcome → State → Prop := va_Qv (S := Nat × VT × UT) (fun u => K u.1 u.2.1 u.2.2) (fun u t => wo (θn θ u.1) u.2.1 u.2.2 t.heap ∧ t.heap.size = tb θ + u.1) (aT θ)
def CMc (l : Launch) (y : MethodName) (cc : ByteArray) (nL : Nat) (rm : Room) (θ : TH) (avs : List Value) (N : Nat) (V : VT) (U : UT) (K : Nat → VT → UT → Prop) (mc ms : Nat) : Prop := Met l y (Cond.code y cc nL none :: WA) rm (PC θ avs N V U) (QC θ K) mc ms (aT θ)
theorem n_met {l : Launch} {y : MethodName} {cc : ByteArray} {nL mc ms : Nat} {rm : Room} {θ : TH} {avs : List Value} {N : Nat} {V : VT} {U : UT} {Qc : Array Value → State → Outcome → State → Prop} (own : String) (hy : plainName y.cls = true) (ho : y.cls = own) (hyn : y.name = "<init>") (hle : (lg_sl avs).length ≤ nL)
    (body : ∀ (p : Program) (e : Env) (s : State) (m : MethodId) (args : Array Value) (below : List Frame) (meth : Method) (c : Code) (ls : Array Slot), Cx p s m args c cc nL own θ → ovs s → meth.name = "<init>" → meth.sig.returnType = none → meth.locks = false → wo (θn θ N) V U s.heap → s.heap.size = tb θ + N → lv_has ls nL (lv_args 0 avs) →
      W p l e rm s m args below meth c s.heap [] 0 0 (MQ below Qc args s mc ms (aT θ)) (F0 m 0 ls [])) : Met l y (Cond.code y cc nL none :: WA) rm (PC θ avs N V U) Qc mc ms (aT θ) := by
  refine Met.ofW (cc := cc) (maxL := nL) (ret := none) hy rfl ?_
  intro p e s m args below meth c s₁ B hml hv
  obtain ⟨rfl, hkn, hov, hwo, hsz⟩ := hv
  have hA : ∀ w ∈ WA, w.before avs.toArray s = true := fun w h => atoms_spec (ws := Cond.code y cc nL none :: WA) B.pre w (List.mem_cons_of_mem _ h)
  have hl := lv_entry avs hle
  have hin : meth.name = "<init>" := (name_of_methodNamed B.named B.method).1.trans hyn
  have hb := body p e s m avs.toArray below meth c _ ⟨B.exec, B.bytes, hml, ho ▸ findClass_of_methodNamed B.named, hA, hkn⟩ hov hin B.returns B.notSynchronized hwo hsz hl
  rw [lg_entry_eq]
  exact hb
/-- a field of the constructor's own class -/
def FL (own : String) (index ci k : Nat) (ty : FieldType) (fin : Bool) : Prop := ∃ (C : String) (T : u_T) (N : Nat), CI ci C T N ∧ k < N ∧ Cond.fieldLink own index (T k).1 (T k).2.1 (T k).2.2.1 ∈ WA ∧ (T k).2.2.2 = fin ∧ parseFieldDescriptor (T k).2.2.1 = some ty ∧ (T k).1 = C ∧ C = own
section CROWS
variable {p : Program} {l : Launch} {e : Env} {R : Room} {s : State} {m : MethodId} {args : Array Value} {below : List Frame} {meth : Method} {c : Code} {H : Heap} {locs : List Loc} {cells slots : Nat} {Q : State → Prop}
variable {cc : ByteArray} {pc nL N : Nat} {ls : Array Slot} {rest st0 As : List Value} {own : String} {θ : TH} {V : VT} {U : UT} {index ci k a b n ny : Nat} {ty : FieldType} {fin : Bool} {y : MethodName} {cy : ByteArray} {rm : Room}
theorem n_grow {H1 : Heap} (hS : Sx θ s H locs) (z : H.size ≤ H1.size) (o1 : ∀ q, q < H.size → H1[q]? = H[q]?) : Sx θ s H1 locs := ⟨Nat.le_trans hS.1 z, fun x h1 h2 => (o1 x (Nat.lt_of_lt_of_le h1 hS.1)).trans (hS.2.1 x h1 h2), hS.2.2⟩
theorem n_new (hC : Cx p s m args c cc nL own θ) {C : String} {T : u_T} (hci : CI ci C T n) (ty0 : Nat → FieldType) (hty : ∀ k, k < n → parseFieldDescriptor (T k).2.2.1 = some (ty0 k)) (hdf : ∀ k, k < n → defaultValue (ty0 k) = if fkR ci k = true then .null else .int 0) (hcl : Cond.classLink own index C ∈ WA) (hinst : Cond.instantiable C n ∈ WA) (hini : Cond.initialized C ∈ WA) (hw : wo (θn θ N) V U H) (hsz : H.size = tb θ + N) (hS : Sx θ s H locs) (hv : vz θ N V U) (hL : tL θ N = (0, ci, n)) (hcells : cells + 1 ≤ R.cells) (hslots : slots + n ≤ R.slots) (hdg : decode cc pc = .ok (.new index, 3))
    (kk : ∀ (H1 : Heap), wo (θn θ (N + 1)) V U H1 → H1.size = tb θ + (N + 1) → Sx θ s H1 locs → W p l e R s m args below meth c H1 locs (cells + 1) (slots + n) Q (F0 m (pc + 3) ls (.ref (tb θ + N) :: rest))) : W p l e R s m args below meth c H locs cells slots Q (F0 m pc ls rest) := by
  obtain ⟨hx, hb, hml, hown, hA, hkn⟩ := hC
  have hKn := hkn.1.1 ci _ hci.1
  refine W.newcK hx hb hown (hA _ hcl) (hA _ hinst) (hA _ hini) rfl hdg hcells hslots hKn.2.1 hsz fun H1 kC hkC e1 z1 o1 => ?_
  have o1' : ∀ q, q < H.size → H1[q]? = H[q]? := fun q hq => o1 q (by omega)
  refine kk H1 (wo_succ hw hsz o1' ?_) (by rw [z1]; omega) (n_grow hS (by omega) o1')
  rw [hL]
  refine ⟨_, hci.1, (u_born ty0 hA hci.2.1 hKn hkC e1 hty).to (fun j hj => ?_)⟩
  rw [hdf j hj]
  obtain ⟨hv1, hv2⟩ := hv (tb θ + N) (Nat.le_refl _)
  have hj2 : j < n := hj
  simp [vp_V, fv, hv1, hv2, vr, hj2]
theorem n_newI (hC : Cx p s m args c cc nL own θ) (harr : Cond.arrayClass .int ∈ WA) (hw : wo (θn θ N) V U H) (hsz : H.size = tb θ + N) (hS : Sx θ s H locs) (hv : vz θ N V U) {x : Int32} {M : Nat} (hL : tL θ N = (1, 0, M)) (hn : ¬ x < 0) (hM : x.toNatClampNeg = M) (hby : M * 4 ≤ 536870912) (hcells : cells + 1 ≤ R.cells) (hslots : slots + M ≤ R.slots) (hdg : decode cc pc = .ok (.newarray .int, 2))
    (kk : ∀ (H1 : Heap), wo (θn θ (N + 1)) V U H1 → H1.size = tb θ + (N + 1) → Sx θ s H1 locs → W p l e R s m args below meth c H1 locs (cells + 1) (slots + M) Q (F0 m (pc + 2) ls (.ref (tb θ + N) :: rest))) : W p l e R s m args below meth c H locs cells slots Q (F0 m pc ls (.int x :: rest)) := by
  obtain ⟨hx, hb, hml, hown, hA, hkn⟩ := hC
  refine va_newaK (atype := .int) hx hb (hA _ harr) rfl hdg rfl hn hM hby hcells hslots hsz fun H1 cA e1 z1 o1 hAr hNm => ?_
  have o1' : ∀ q, q < H.size → H1[q]? = H[q]? := fun q hq => o1 q (by omega)
  have hc : tC θ 0 = cA := Option.some.inj ((hkn.1.2 0 _ (tysO_at (by decide))).2.symm.trans hNm)
  refine kk H1 (wo_succ hw hsz o1' ?_) (by rw [z1]; omega) (n_grow hS (by omega) o1')
  rw [hL]
  show H1[tb θ + N]? = some (vp_cell (tC θ 0) (M, .inl (V (tb θ + N))))
  rw [hc, (hv _ (Nat.le_refl _)).1, e1]
  rfl
theorem n_newZ (hC : Cx p s m args c cc nL own θ) (harr : Cond.arrayClass .boolean ∈ WA) (hw : wo (θn θ N) V U H) (hsz : H.size = tb θ + N) (hS : Sx θ s H locs) (hv : vz θ N V U) {x : Int32} {M : Nat} (hL : tL θ N = (1, 1, M)) (hn : ¬ x < 0) (hM : x.toNatClampNeg = M) (hby : M * 1 ≤ 536870912) (hcells : cells + 1 ≤ R.cells) (hslots : slots + M ≤ R.slots) (hdg : decode cc pc = .ok (.newarray .boolean, 2))
    (kk : ∀ (H1 : Heap), wo (θn θ (N + 1)) V U H1 → H1.size = tb θ + (N + 1) → Sx θ s H1 locs → W p l e R s m args below meth c H1 locs (cells + 1) (slots + M) Q (F0 m (pc + 2) ls (.ref (tb θ + N) :: rest))) : W p l e R s m args below meth c H locs cells slots Q (F0 m pc ls (.int x :: rest)) := by
  obtain ⟨hx, hb, hml, hown, hA, hkn⟩ := hC
  refine va_newaK (atype := .boolean) hx hb (hA _ harr) rfl hdg rfl hn hM hby hcells hslots hsz fun H1 cA e1 z1 o1 hAr hNm => ?_
  have o1' : ∀ q, q < H.size → H1[q]? = H[q]? := fun q hq => o1 q (by omega)
  have hc : tC θ 1 = cA := Option.some.inj ((hkn.1.2 1 _ (tysO_at (by decide))).2.symm.trans hNm)
  refine kk H1 (wo_succ hw hsz o1' ?_) (by rw [z1]; omega) (n_grow hS (by omega) o1')
  rw [hL]
  show H1[tb θ + N]? = some (vp_cell (tC θ 1) (M, .inl (V (tb θ + N))))
  rw [hc, (hv _ (Nat.le_refl _)).1, e1]
  rfl
theorem n_newQ (hC : Cx p s m args c cc nL own θ) {C : String} {t : Nat} (ht : t < 7) (htC : tyT t = .object C) (hcl : Cond.classLink own index C ∈ WA) (hover : va_AO C s) (hw : wo (θn θ N) V U H) (hsz : H.size = tb θ + N) (hS : Sx θ s H locs) (hv : vz θ N V U) {x : Int32} {M : Nat} (hL : tL θ N = (2, t, M)) (hn : ¬ x < 0) (hM : x.toNatClampNeg = M) (hby : M * 4 ≤ 536870912) (hcells : cells + 1 ≤ R.cells) (hslots : slots + M ≤ R.slots) (hdg : decode cc pc = .ok (.anewarray index, 3))
    (kk : ∀ (H1 : Heap), wo (θn θ (N + 1)) V U H1 → H1.size = tb θ + (N + 1) → Sx θ s H1 locs → W p l e R s m args below meth c H1 locs (cells + 1) (slots + M) Q (F0 m (pc + 3) ls (.ref (tb θ + N) :: rest))) : W p l e R s m args below meth c H locs cells slots Q (F0 m pc ls (.int x :: rest)) := by
  obtain ⟨hx, hb, hml, hown, hA, hkn⟩ := hC
  subst hM
  refine W.anew hx hb hown (hA _ hcl) (va_AO.use hover) rfl hdg rfl hn hby hcells hslots fun cA kA comp f1 f2 f3 f4 => ?_
  generalize hH1 : H.push ({ cls := cA, slots := Array.replicate x.toNatClampNeg .null, vm := .none } : Cell) = H1
  have z1 : H1.size = H.size + 1 := by rw [← hH1, Array.size_push]
  have e1 : H1[H.size]? = some (arrV cA x.toNatClampNeg (fun _ => .null)) := by rw [← hH1, Array.getElem?_push_size, ← arrV_new]
  have o1 : ∀ q : Nat, q < H.size → H1[q]? = H[q]? := fun q hq => by rw [← hH1, Array.getElem?_push, if_neg (Nat.ne_of_lt hq)]
  have hra := (hkn.1.2 t _ (tysO_at ht)).2
  rw [htC] at hra
  obtain ⟨-, -, -, -, -, hNm⟩ := hra
  have hc : tC θ t = cA := Option.some.inj (hNm.symm.trans f1)
  rw [hsz] at e1
  have k9 := kk H1 (wo_succ hw hsz o1 (by
    rw [hL]
    show H1[tb θ + N]? = some (vp_cell (tC θ t) (x.toNatClampNeg, .inr (.inr (.inr (.inr (fun j => orf (U (tb θ + N) j)))))))
    rw [hc, (hv _ (Nat.le_refl _)).2, e1]
    rfl)) (by rw [z1]; omega) (n_grow hS (by omega) o1)
  refine W.eq ?_ k9
  rw [hsz]
theorem n_getR (hC : Cx p s m args c cc nL own θ) (hf : FK own index ci k ty fin) (hr : fkR ci k = true) (hw : wo (θn θ N) V U H) (ho : isO (θn θ N) a ci) (h0 : U a k ≠ 0) (hdg : decode cc pc = .ok (.getfield index, 3))
    (kk : W p l e R s m args below meth c H locs cells slots Q (F0 m (pc + 3) ls (.ref (U a k) :: rest))) : W p l e R s m args below meth c H locs cells slots Q (F0 m pc ls (.ref a :: rest)) :=
  g_getR (hC.n N) hf hr hw ho h0 hdg kk
theorem n_put (hC : Cx p s m args c cc nL own θ) (hin2 : meth.name = "<init>") (hf : FL own index ci k ty fin) (hw : wo (θn θ N) V U H) (hS : Sx θ s H locs) (ho : isO (θn θ N) a ci) {v : Value} {V' : VT} {U' : UT} (hn : narrow ty v = v) (hft : fits ty v = true)
    (h1 : (List.range (nF ci)).map (fv V' U' a ci) = ((List.range (nF ci)).map (fv V U a ci)).set k v) (h2 : ∀ q, q ≠ a → V' q = V q ∧ U' q = U q) (hdg : decode cc pc = .ok (.putfield index, 3))
    (kk : ∀ (H1 : Heap) (locs1 : List Loc), H1.size = H.size → wo (θn θ N) V' U' H1 → Sx θ s H1 locs1 → W p l e R s m args below meth c H1 locs1 cells slots Q (F0 m (pc + 3) ls rest)) : W p l e R s m args below meth c H locs cells slots Q (F0 m pc ls (v :: .ref a :: rest)) := by
  obtain ⟨hx, hb, hml, hown, hA, hkn⟩ := hC
  obtain ⟨C, T, n, hci, hk, hl, hfin, hty, hdc, hown2⟩ := hf
  have hN := hci.n
  obtain ⟨hc, hin, ⟨ty0, hty0⟩, hnm⟩ := hci
  have hlen : k < ((List.range (nF ci)).map (fv V U a ci)).length := by simp; omega
  have ea : tb θ + (a - tb θ) = a := by have : tb θ ≤ a := ho.1; omega
  have hset : (wl (θn θ N) V U).set (a - tb θ) (a, .inr (ci, ((List.range (nF ci)).map (fv V U a ci)).set k v)) = wl (θn θ N) V' U' := by
    have := wl_set (θ := θn θ N) (V := V) (U := U) (V' := V') (U' := U') (k := a - tb θ) (e := .inr (ci, ((List.range (nF ci)).map (fv V U a ci)).set k v)) ho.2.1 (by show ce _ _ _ (tb θ + (a - tb θ)) (tL θ (a - tb θ)) = _; have h9 := ho.2.2; rw [ea]; rw [show tL θ (a - tb θ) = (0, ci, nF ci) from h9, ← h1]; rfl) (by show ∀ q, q ≠ tb θ + (a - tb θ) → _; rw [ea]; exact h2)
    have e2 : tb (θn θ N) + (a - tb θ) = a := ea
    rw [e2] at this
    exact this
  have hat := ho.at (θ := θn θ N) (V := V) (U := U)
  obtain ⟨r, hr1, cell, q1, q2, q3, q4⟩ := hw _ _ hat
  have hr : r = (C, T, n) := Option.some.inj (hr1.symm.trans hc)
  subst hr
  obtain ⟨hSl, hfc, kC, hkC, hkind⟩ := hkn.1.1 ci _ hc
  obtain ⟨cf, kf, fi, f, hi, hsl⟩ := hSl k hk
  have hst := (u_facts hfc hkC (u_lays hA hin hk) hi).1
  have hfit := u_fits hfc hkC hkind (u_lays hA hin hk) hi hty hn hft
  have hap := va_apart (own := own) hA hin ty0 hty0 hnm hkn.1 hc
  have ha : a < H.size := (Array.getElem?_eq_some_iff.mp q1).1
  have hlay := hA _ (hin _ (u_in_lay hk))
  unfold u_lay at hlay
  have hfo : hasFlag f.accessFlags Acc.final = false ∨ (m.cls = cf ∧ meth.name = "<init>") := by
    cases hf2 : (T k).2.2.2 with
    | true =>
      rw [if_pos hf2] at hlay
      obtain ⟨_, _, c', _, _, _, -, -, hf', -, -, -, hown3, -⟩ := Cond.laysFinal_spec hlay
      have e1 : c' = cf := by have := hi.symm.trans hf'; simp at this; exact this.1.symm
      rw [hdc, hown2] at hown3
      exact Or.inr ⟨by rw [← e1]; exact Option.some.inj (hown.symm.trans hown3), hin2⟩
    | false =>
      rw [if_neg (by rw [hf2]; decide)] at hlay
      exact Or.inl (u_store hfc hkC hkind hlay hi hty hn hft).1
  refine W.putf hx hb hown (hA _ hl) hi hst hfo q1 (by rw [q3]; exact fun h => by cases h) (by rw [hsl]; exact k2_hasslot (q4 k hk)) hfit.1 (by rw [q2, q3]; exact hfit.2) rfl rfl hdg ?_
  generalize hH1 : H.setIfInBounds a (cell.setSlot f.slot v) = H1
  have e1 : H1[a]? = some (cell.setSlot f.slot v) := by rw [← hH1]; simp [Array.getElem?_setIfInBounds, ha]
  have e2 : H1.size = H.size := by rw [← hH1]; simp
  have e3 : ∀ q : Nat, q ≠ a → H1[q]? = H[q]? := fun q hq => by rw [← hH1]; simp [Array.getElem?_setIfInBounds, Ne.symm hq]
  rw [hsl] at e1 ⊢
  have hPn := va_P.set (D := tD θ) (cl := vwCl) hw (wl_D (θ := θn θ N)) hat (e := .inr (ci, ((List.range (nF ci)).map (fv V U a ci)).set k v)) ⟨_, hc, t_OB.to (V := updV (vp_V ((List.range (nF ci)).map (fv V U a ci))) k v) ⟨_, e1, q2, q3, t_set q4 hap hk v⟩ (fun j _ => vp_updV_set hlen v j)⟩ e3
  have e9 : (wl (θn θ N) V U).set (a - tb (θn θ N)) (a, .inr (ci, ((List.range (nF ci)).map (fv V U a ci)).set k v)) = wl (θn θ N) V' U' := hset
  rw [e9] at hPn
  exact kk H1 _ e2 hPn (va_S.put hS e2 e3 ho.1)
theorem n_putI (hC : Cx p s m args c cc nL own θ) (hin2 : meth.name = "<init>") (hf : FL own index ci k .int fin) (hr : fkR ci k = false) (hw : wo (θn θ N) V U H) (hsz : H.size = tb θ + N) (hS : Sx θ s H locs) (hv : vz θ N V U) (ho : isO (θn θ N) a ci) {x : Int32} (hdg : decode cc pc = .ok (.putfield index, 3))
    (kk : ∀ (V' : VT), V' = up2 V a k x → vz θ N V' U → ∀ (H1 : Heap) (locs1 : List Loc), wo (θn θ N) V' U H1 → H1.size = tb θ + N → Sx θ s H1 locs1 → W p l e R s m args below meth c H1 locs1 cells slots Q (F0 m (pc + 3) ls rest)) : W p l e R s m args below meth c H locs cells slots Q (F0 m pc ls (.int x :: .ref a :: rest)) :=
  n_put hC hin2 hf hw hS ho rfl rfl (fv_setI hr) (fun q hq => ⟨up2_ne hq, rfl⟩) hdg (fun H1 locs1 e w S1 => kk _ rfl (hv.upV ho.lt) H1 locs1 w (e.trans hsz) S1)
theorem n_putR (hC : Cx p s m args c cc nL own θ) (hin2 : meth.name = "<init>") (hf : FL own index ci k ty fin) (hn : ∀ r : Nat, narrow ty (.ref r) = .ref r ∧ fits ty (.ref r) = true) (hr : fkR ci k = true) (hw : wo (θn θ N) V U H) (hsz : H.size = tb θ + N) (hS : Sx θ s H locs) (hv : vz θ N V U) (ho : isO (θn θ N) a ci) {r : Nat} (h0 : r ≠ 0) (hdg : decode cc pc = .ok (.putfield index, 3))
    (kk : ∀ (U' : UT), U' = up2 U a k r → vz θ N V U' → ∀ (H1 : Heap) (locs1 : List Loc), wo (θn θ N) V U' H1 → H1.size = tb θ + N → Sx θ s H1 locs1 → W p l e R s m args below meth c H1 locs1 cells slots Q (F0 m (pc + 3) ls rest)) : W p l e R s m args below meth c H locs cells slots Q (F0 m pc ls (.ref r :: .ref a :: rest)) :=
  n_put hC hin2 hf hw hS ho (hn r).1 (hn r).2 (fv_setR hr h0) (fun q hq => ⟨rfl, up2_ne hq⟩) hdg (fun H1 locs1 e w S1 => kk _ rfl (hv.upU ho.lt) H1 locs1 w (e.trans hsz) S1)
/-- an array's place gets an object -/
theorem n_aast (hC : Cx p s m args c cc nL own θ) {t : Nat} {C : String} {T : u_T} (ht : t < 7) (htC : tyT t = .object C) (hci : CI ci C T n) (hw : wo (θn θ N) V U H) (hsz : H.size = tb θ + N) (hS : Sx θ s H locs) (hv : vz θ N V U) {M : Nat} (ha : isR (θn θ N) a t M) {r : Nat} (ho : isO (θn θ N) r ci) (h0 : r ≠ 0) {i : Int32} (hin : vp_in i M) (hdg : decode cc pc = .ok (.aastore, 1))
    (kk : ∀ (U' : UT), U' = up2 U a i.toNatClampNeg r → vz θ N V U' → ∀ (H1 : Heap) (locs1 : List Loc), wo (θn θ N) V U' H1 → H1.size = tb θ + N → Sx θ s H1 locs1 → W p l e R s m args below meth c H1 locs1 cells slots Q (F0 m (pc + 1) ls rest)) : W p l e R s m args below meth c H locs cells slots Q (F0 m pc ls (.ref r :: .int i :: .ref a :: rest)) := by
  obtain ⟨hx, hb, hml, hown, hA, hkn⟩ := hC
  have hlt : i.toNatClampNeg < M := Nat.not_le.mp fun q => hin (Or.inr q)
  have hi0 : ¬ i < 0 := fun q => hin (Or.inl q)
  have hat := ha.at (θ := θn θ N) (V := V) (U := U)
  have hot := ho.at (θ := θn θ N) (V := V) (U := U)
  obtain ⟨r', hr', cellV, g1, g2, g3, -⟩ := hw _ _ hot
  have hcls := (hkn.1.1 ci _ hci.1).2
  have hra := (hkn.1.2 t _ (tysO_at ht)).2
  rw [htC] at hra
  obtain ⟨kA, comp, k1, k2, k3, -⟩ := hra
  have hcomp : comp = (tD θ).1 ci := Option.some.inj (k3.symm.trans hcls.1)
  subst hcomp
  obtain ⟨kC, hkC, -⟩ := hcls.2
  have hca : H[a]? = some (vp_cell (tC θ t) (M, .inr (.inr (.inr (.inr (fun j => orf (U a j))))))) := hw _ _ hat
  have g1' : H[r]? = some cellV := g1
  have g2' : cellV.cls = (tD θ).1 ci := g2
  refine W.aast hx hb hca (fun q h => by cases h) (fun h => by cases h) k1 k2 rfl hkC ⟨hi0, by show _ < (arrV _ _ _).slots.size; rw [arrV_size]; exact hlt⟩ g1' (fun q h => by rw [g3] at h; cases h) (by rw [g2']; exact hkC) (by rw [g2']; exact va_assign hcls) rfl rfl hdg fun H1 e z oq => ?_
  have ea : tb θ + (a - tb θ) = a := by have : tb θ ≤ a := ha.1; omega
  have hce : va_at (tD θ) vwCl (a, .inl (tC θ t, M, .inr (.inr (.inr (.inr (fun j => orf (up2 U a i.toNatClampNeg r a j))))))) H1 := by
    show H1[a]? = some (vp_cell _ _)
    rw [e, vp_cell_q, vp_cell_q, arrV_store]
    congr 2
    funext q
    by_cases hq : q = i.toNatClampNeg
    · subst hq
      simp [updV, up2, orf, va_rf, h0]
    · simp [updV, up2, hq]
  have hPn := va_P.set (D := tD θ) (cl := vwCl) hw (wl_D (θ := θn θ N)) hat hce oq
  have hset := wl_set (θ := θn θ N) (V := V) (U := U) (V' := V) (U' := up2 U a i.toNatClampNeg r) (k := a - tb θ) (e := .inl (tC θ t, M, .inr (.inr (.inr (.inr (fun j => orf (up2 U a i.toNatClampNeg r a j))))))) ha.2.1 (by show ce _ _ _ (tb θ + (a - tb θ)) (tL θ (a - tb θ)) = _; have h9 := ha.2.2; rw [ea]; rw [show tL θ (a - tb θ) = (2, t, M) from h9]; rfl) (by show ∀ q, q ≠ tb θ + (a - tb θ) → _; rw [ea]; exact fun q hq => ⟨rfl, up2_ne hq⟩)
  have e2 : tb (θn θ N) + (a - tb θ) = a := ea
  rw [e2] at hset
  have e9 : (wl (θn θ N) V U).set (a - tb (θn θ N)) (a, .inl (tC θ t, M, .inr (.inr (.inr (.inr (fun j => orf (up2 U a i.toNatClampNeg r a j))))))) = wl (θn θ N) V (up2 U a i.toNatClampNeg r) := hset
  rw [e9] at hPn
  exact kk _ rfl (hv.upU ha.lt) H1 _ hPn (z.trans hsz) (va_S.put hS z oq ha.1)
/-- new int[2][k]: the outer array and two rows -/
theorem n_mna (hC : Cx p s m args c cc nL own θ) (hov : ovs s) (hcl : Cond.classLink own index "[[I" ∈ WA) (harr : Cond.arrayClass .int ∈ WA) (hw : wo (θn θ N) V U H) (hsz : H.size = tb θ + N) (hS : Sx θ s H locs) (hv : vz θ N V U) {x : Int32} {M : Nat} (hL0 : tL θ N = (2, 6, 2)) (hL1 : tL θ (N + 1) = (1, 0, M)) (hL2 : tL θ (N + 2) = (1, 0, M)) (hn : ¬ x < 0) (hM : x.toNatClampNeg = M) (hby : M * 4 ≤ 536870912) (hcells : cells + 3 ≤ R.cells) (hslots : slots + (2 + 2 * M) ≤ R.slots) (hdg : decode cc pc = .ok (.multianewarray index 2, 4))
    (kk : ∀ (U' : UT), U' = up2 (up2 U (tb θ + N) 0 (tb θ + (N + 1))) (tb θ + N) 1 (tb θ + (N + 2)) → vz θ (N + 3) V U' → ∀ (H1 : Heap), wo (θn θ (N + 3)) V U' H1 → H1.size = tb θ + (N + 3) → Sx θ s H1 locs → W p l e R s m args below meth c H1 locs (cells + 3) (slots + (2 + 2 * M)) Q (F0 m (pc + 4) ls (.ref (tb θ + N) :: rest))) : W p l e R s m args below meth c H locs cells slots Q (F0 m pc ls (.int x :: .int 2 :: rest)) := by
  obtain ⟨hx, hb, hml, hown, hA, hkn⟩ := hC
  subst hM
  intro T hT Xs
  have h2 : (2 : Int32).toNatClampNeg = 2 := by decide
  obtain ⟨vm₁, cA, comp, -, fA, fC, hO, -, X', step⟩ := Xs.multianewarray2F (ty := .int) hx hown (hA _ hcl) (over_moved (Vm.Alike.refl s.vm) hov.2.2.2.2) (hA _ harr) (g := F0 m pc ls (.int x :: .int 2 :: rest)) rfl (by rw [hb]; exact hdg) rfl (by decide) hn (by decide) (by show x.toNatClampNeg * 4 ≤ _; exact hby) (by omega) rfl rfl (by rw [h2]; exact hcells) (by rw [h2]; exact hslots)
  rw [h2] at X' step
  generalize hF : Jvm.Free.Multi.fill (T.setVm vm₁) cA comp 2 x.toNatClampNeg (defaultValue .int) 2 = F at X' step
  have hTh : (T.setVm vm₁).heap = H := hT
  obtain ⟨f1, f2, -, -⟩ := Jvm.Free.Multi.fill_facts (T.setVm vm₁) cA comp 2 x.toNatClampNeg (defaultValue .int) 2
  rw [hF, hTh] at f1 f2
  have hold : ∀ q : Nat, q < H.size → F.heap[q]? = H[q]? := fun q hq => by
    have := Jvm.Free.Multi.fill_old (T.setVm vm₁) cA comp 2 x.toNatClampNeg (defaultValue .int) (a := q) (by rw [hTh]; exact hq) 2
    rw [hF, hTh] at this
    exact this
  have hrow : ∀ j : Nat, j < 2 → F.heap[H.size + 1 + j]? = some (Jvm.Free.Multi.innerC comp x.toNatClampNeg (defaultValue .int)) := fun j hj => by
    have := Jvm.Free.Multi.fill_inner (T.setVm vm₁) cA comp 2 x.toNatClampNeg (defaultValue .int) 2 j hj
    rw [hF, hTh] at this
    exact this
  have hcI : tC θ 0 = comp := Option.some.inj ((hkn.1.2 0 _ (tysO_at (by decide))).2.symm.trans fC)
  have hcA : tC θ 6 = cA := Option.some.inj ((hkn.1.2 6 _ (tysO_at (by decide))).2.symm.trans fA)
  obtain ⟨hv0, hu0⟩ := hv (tb θ + N) (Nat.le_refl _)
  obtain ⟨hv1, hu1⟩ := hv (tb θ + (N + 1)) (by omega)
  obtain ⟨hv2, hu2⟩ := hv (tb θ + (N + 2)) (by omega)
  have hin : ∀ cI : ClassId, Jvm.Free.Multi.innerC cI x.toNatClampNeg (defaultValue .int) = arrV cI x.toNatClampNeg (fun _ => .int 0) := fun cI => by
    rw [← arrV_new]; rfl
  have hwn : wo (θn θ (N + 3)) V (up2 (up2 U (tb θ + N) 0 (tb θ + (N + 1))) (tb θ + N) 1 (tb θ + (N + 2))) F.heap := by
    refine wo_of (fun k hk => ?_)
    by_cases h : k < N
    · have h9 := (wo_at hw h).kept (hold (tb θ + k) (by omega))
      rw [ce_congr (V' := V) (U' := up2 (up2 U (tb θ + N) 0 (tb θ + (N + 1))) (tb θ + N) 1 (tb θ + (N + 2))) rfl (by rw [up2_ne (by omega), up2_ne (by omega)])] at h9
      exact h9
    · have hk3 : k = N ∨ k = N + 1 ∨ k = N + 2 := by omega
      rcases hk3 with rfl | rfl | rfl
      · rw [hL0]
        show F.heap[tb θ + k]? = some (vp_cell (tC θ 6) (2, .inr (.inr (.inr (.inr (fun j => orf (up2 (up2 U (tb θ + k) 0 (tb θ + (k + 1))) (tb θ + k) 1 (tb θ + (k + 2)) (tb θ + k) j)))))))
        rw [hcA, ← hsz, f2, vp_cell_q]
        show some ((Jvm.Free.Multi.outerC cA 2 H.size 0).setSlot 0 (.ref (H.size + 1 + 0)) |>.setSlot 1 (.ref (H.size + 1 + 1))) = _
        rw [show Jvm.Free.Multi.outerC cA 2 H.size 0 = arrV cA 2 (fun _ => .null) from by rw [← arrV_new]; rfl, arrV_store, arrV_store]
        congr 2
        funext j
        rw [hsz]
        by_cases h1 : j = 1
        · subst h1
          have h8 : orf (up2 (up2 U (tb θ + k) 0 (tb θ + (k + 1))) (tb θ + k) 1 (tb θ + (k + 2)) (tb θ + k) 1) = some (tb θ + (k + 2)) := by
            have : tb θ + (k + 2) ≠ 0 := by omega
            simp [up2, orf]
          rw [h8]
          exact congrArg Value.ref (show (tb θ + k + 1 + 1 : Nat) = tb θ + (k + 2) by omega)
        · by_cases h0 : j = 0
          · subst h0
            have h8 : orf (up2 (up2 U (tb θ + k) 0 (tb θ + (k + 1))) (tb θ + k) 1 (tb θ + (k + 2)) (tb θ + k) 0) = some (tb θ + (k + 1)) := by
              have : tb θ + (k + 1) ≠ 0 := by omega
              simp [up2, orf]
            rw [h8]
            exact congrArg Value.ref (show (tb θ + k + 1 + 0 : Nat) = tb θ + (k + 1) by omega)
          · simp [updV, up2, h1, h0, hu0, orf, va_rf]
      · rw [hL1]
        show F.heap[tb θ + (N + 1)]? = some (vp_cell (tC θ 0) (x.toNatClampNeg, .inl (V (tb θ + (N + 1)))))
        rw [show tb θ + (N + 1) = H.size + 1 + 0 by omega, hrow 0 (by decide), hin, hcI, show H.size + 1 + 0 = tb θ + (N + 1) by omega, hv1]
        rfl
      · rw [hL2]
        show F.heap[tb θ + (N + 2)]? = some (vp_cell (tC θ 0) (x.toNatClampNeg, .inl (V (tb θ + (N + 2)))))
        rw [show tb θ + (N + 2) = H.size + 1 + 1 by omega, hrow 1 (by decide), hin, hcI, show H.size + 1 + 1 = tb θ + (N + 2) by omega, hv2]
        rfl
  have hvn : vz θ (N + 3) V (up2 (up2 U (tb θ + N) 0 (tb θ + (N + 1))) (tb θ + N) 1 (tb θ + (N + 2))) := ((hv.mono (by omega : N ≤ N + 3)).upU (by omega)).upU (by omega)
  obtain ⟨t, a1, b1⟩ := kk _ rfl hvn F.heap hwn (by rw [f1]; omega) (n_grow hS (by rw [f1]; omega) hold) F rfl (by
    have e1 : cells + 1 + 2 = cells + 3 := by omega
    have e2 : slots + 2 + 2 * x.toNatClampNeg = slots + (2 + 2 * x.toNatClampNeg) := by omega
    rw [e1, e2] at X'
    exact X')
  refine ⟨t, step t ?_, b1⟩
  have e3 : T.heap.size = tb θ + N := by rw [hT]; exact hsz
  rw [e3]
  exact a1
/-- a call of a constructor -/
theorem n_ctor {mc ms : Nat} {K : Nat → VT → UT → Prop} (hC : Cx p s m args c cc nL own θ) (hov : ovs s) (hM : CMc l y cy ny rm θ (.ref b :: As) N V U K mc ms) (hmi : MI y cy ny none n) (hlk : ML own index y) (hyn : y.name = "<init>") (hmin : Cond.instanceMethod y ∈ WA) (hw : wo (θn θ N) V U H) (hsz : H.size = tb θ + N) (hS : Sx θ s H locs) (hrm : rm.cells = mc ∧ rm.slots = ms) (hR : rm.frames + 1 ≤ R.frames ∧ 8 + (ny + 11) + rm.locals ≤ R.locals) (hn : As.length = n) (hls : ls.size = nL) (hst : st0 = As.reverse ++ .ref b :: rest) (hroom : (rest.map fun v => v.category).sum ≤ 8) (hf : cells + mc ≤ R.cells ∧ slots + ms ≤ R.slots) (hdg : decode cc pc = .ok (.invokespecial index, 3))
    (kk : ∀ (N' : Nat) (V' : VT) (U' : UT), K N' V' U' → ∀ (H1 : Heap) (locs1 : List Loc), wo (θn θ N') V' U' H1 → H1.size = tb θ + N' → Sx θ s H1 locs1 → W p l e R s m args below meth c H1 locs1 (cells + mc) (slots + ms) Q (F0 m (pc + 3) ls rest)) : W p l e R s m args below meth c H locs cells slots Q (F0 m pc ls st0) := by
  have hpre : PreS s H (PC θ (.ref b :: As) N V U) (.ref b :: As) := ⟨fun a St g mk q => ⟨q.1, q.2.1.calling, ovs.moved (u := St) (U := St.calling g mk a) (Vm.Alike.refl St.vm) q.2.2.1, q.2.2.2.1, q.2.2.2.2⟩, fun St hU hW => ⟨rfl, hC.2.2.2.2.2.call hS hU hW, hov.moved hW.alike, by rw [hU]; exact hw, by rw [hU]; exact hsz⟩⟩
  obtain ⟨hx, hb, hml, hown, hA, hkn⟩ := hC
  have hA' := g_words hA hmi
  have hG : GoodIn (Cond.code y cy ny none :: WA) (Cond.code y cy ny none :: WA) := wa_in hmi.1
  have hrun : va_Run p l e R s m args below meth c H locs cells slots mc ms (F0 m pc ls st0) rest (QC θ K (Value.ref b :: As).toArray) (aT θ) := by
    rcases hlk with hl | ⟨host, hl⟩
    · exact va_runI (Ts := Cond.code y cy ny none :: WA) ⟨hx, hb, hml, hown, hA'⟩ hM ⟨callB_of n hA' hG rfl hrm.1 hrm.2 (hA _ hmi.2.1) (hA _ hl) hmi.2.2 hR, hyn, hA _ hmin⟩ hpre rfl hn hls hst (lv_room hroom) hdg hf
    · exact va_runIN (Ts := Cond.code y cy ny none :: WA) (host := host) ⟨hx, hb, hml, hown, hA'⟩ hM ⟨va_cnB n hA' hG rfl hrm.1 hrm.2 (hkn.2.1 _ hl) (hA _ hmi.2.1) hmi.2.2 hR, hyn, hA _ hmin⟩ hpre rfl hn hls hst (lv_room hroom) hdg hf
  exact va_callv hrun hS (fun q _ h => h) (fun q h => h) (fun u t H1 locs1 ht _ hpost hB _ _ hS1 => kk u.1 u.2.1 u.2.2 hpost H1 locs1 (by rw [← ht]; exact hB.1) (by rw [← ht]; exact hB.2) hS1)
theorem n_ret {K : Nat → VT → UT → Prop} (hC : Cx p s m args c cc nL own θ) (hr : meth.sig.returnType = none) (hlk : meth.locks = false) (hk : K N V U) (hw : wo (θn θ N) V U H) (hsz : H.size = tb θ + N) (hS : Sx θ s H locs) (hdg : decode cc pc = .ok (.return_, 1)) : W p l e R s m args below meth c H locs cells slots (MQ below (QC θ K) args s cells slots (aT θ)) (F0 m pc ls []) :=
  W.vret hC.1 hC.2.1 hr (fun t ht hW => ⟨⟨(N, V, U), rfl, hk, by show wo (θn θ N) V U t.heap ∧ t.heap.size = tb θ + N; rw [ht]; exact ⟨hw, hsz⟩⟩, hS.F ht⟩) hS.2.2 hdg hlk
theorem n_obj (hC : Cx p s m args c cc nL own θ) (hlk : Cond.methodLink own index Lib.objectInit ∈ WA) (hna : Cond.instanceMethod Lib.objectInit ∈ WA ∧ Cond.code Lib.objectInit ⟨#[0xb1]⟩ 1 none ∈ WA) (hls : ls.size = nL) (hfr : 1 ≤ R.frames) (hlo : 12 ≤ R.locals) (hdg : decode cc pc = .ok (.invokespecial index, 3))
    (kk : W p l e R s m args below meth c H locs cells slots Q (F0 m (pc + 3) ls [])) : W p l e R s m args below meth c H locs cells slots Q (F0 m pc ls [.ref a]) :=
  W.objInit hC.1 hC.2.1 hC.2.2.2.1 (hC.2.2.2.2.1 _ hlk) (hC.2.2.2.2.1 _ hna.1) (hC.2.2.2.2.1 _ hna.2) rfl (by rw [hC.2.2.1]; exact hls) rfl hdg hfr (by show 2 * 0 + 0 + 12 ≤ _; omega) kk
end CROWS
