abbrev QI (θ : TH) (K : Int32 → VT → UT → Prop) : Array Value → State → Outcome → State → Prop := va_Qi (S := VT × UT) (fun r u => K r u.1 u.2) (fun u t => wo θ u.1 u.2 t.heap) (aT θ)
abbrev QV (θ : TH) (K : VT → UT → Prop) : Array Value → State → Outcome → State → Prop := va_Qv (S := VT × UT) (fun u => K u.1 u.2) (fun u t => wo θ u.1 u.2 t.heap) (aT θ)
abbrev QR (θ : TH) (K : Nat → VT → UT → Prop) : Array Value → State → Outcome → State → Prop := va_Qq (S := VT × UT) (fun r u => ∃ x, r = orf x ∧ K x u.1 u.2) (fun u t => wo θ u.1 u.2 t.heap) (aT θ)
abbrev PR (θ : TH) (avs : List Value) (V : VT) (U : UT) : Array Value → State → Prop := va_Pc avs (fun St => kn θ St ∧ wo θ V U St.heap)
def CMi (l : Launch) (y : MethodName) (cc : ByteArray) (nL : Nat) (rt : Option FieldType) (rm : Room) (θ : TH) (avs : List Value) (V : VT) (U : UT) (K : Int32 → VT → UT → Prop) : Prop := Met l y (Cond.code y cc nL rt :: WA) rm (PR θ avs V U) (QI θ K) 0 0 (aT θ)
def CMv (l : Launch) (y : MethodName) (cc : ByteArray) (nL : Nat) (rt : Option FieldType) (rm : Room) (θ : TH) (avs : List Value) (V : VT) (U : UT) (K : VT → UT → Prop) : Prop := Met l y (Cond.code y cc nL rt :: WA) rm (PR θ avs V U) (QV θ K) 0 0 (aT θ)
def CMr (l : Launch) (y : MethodName) (cc : ByteArray) (nL : Nat) (rt : Option FieldType) (rm : Room) (θ : TH) (avs : List Value) (V : VT) (U : UT) (K : Nat → VT → UT → Prop) : Prop := Met l y (Cond.code y cc nL rt :: WA) rm (PR θ avs V U) (QR θ K) 0 0 (aT θ)
/-- any method: its contract out of a walk from its entry -/
theorem g_met {l : Launch} {y : MethodName} {cc : ByteArray} {nL : Nat} {rt : Option FieldType} {rm : Room} {θ : TH} {avs : List Value} {V : VT} {U : UT} {Qc : Array Value → State → Outcome → State → Prop} (own : String) (hy : plainName y.cls = true) (ho : y.cls = own) (hle : (lg_sl avs).length ≤ nL)
    (body : ∀ (p : Program) (e : Env) (s : State) (m : MethodId) (args : Array Value) (below : List Frame) (meth : Method) (c : Code) (ls : Array Slot), Cx p s m args c cc nL own θ → meth.sig.returnType = rt → meth.locks = false → wo θ V U s.heap → lv_has ls nL (lv_args 0 avs) →
      W p l e rm s m args below meth c s.heap [] 0 0 (MQ below Qc args s 0 0 (aT θ)) (F0 m 0 ls [])) : Met l y (Cond.code y cc nL rt :: WA) rm (PR θ avs V U) Qc 0 0 (aT θ) := by
  refine Met.ofW (cc := cc) (maxL := nL) (ret := rt) hy rfl ?_
  intro p e s m args below meth c s₁ B hml hv
  obtain ⟨rfl, hkn, hwo⟩ := hv
  have hA : ∀ w ∈ WA, w.before avs.toArray s = true := fun w h => atoms_spec (ws := Cond.code y cc nL rt :: WA) B.pre w (List.mem_cons_of_mem _ h)
  have hl := lv_entry avs hle
  have hb := body p e s m avs.toArray below meth c _ ⟨B.exec, B.bytes, hml, ho ▸ findClass_of_methodNamed B.named, hA, hkn⟩ B.returns B.notSynchronized hwo hl
  rw [lg_entry_eq]
  exact hb
def MI (y : MethodName) (cc : ByteArray) (nL : Nat) (rt : Option FieldType) (n : Nat) : Prop := Cond.code y cc nL rt ∈ WA ∧ Cond.initialized y.cls ∈ WA ∧ (y.cls ≠ "java/lang/invoke/MethodHandle" ∧ y.cls ≠ "java/lang/invoke/VarHandle" ∧ (parseMethodDescriptor y.desc).map (fun d => d.parameters.length) = some n)
def ML (own : String) (index : Nat) (y : MethodName) : Prop := Cond.methodLink own index y ∈ WA ∨ ∃ host : String, Cond.methodLinkNest own index y host ∈ NW
def MV (y : MethodName) : Prop := Cond.instanceMethod y ∈ WA ∧ Cond.selects y.cls y y ∈ WA
section CALLS
variable {p : Program} {l : Launch} {e : Env} {R : Room} {s : State} {m : MethodId} {args : Array Value} {below : List Frame} {meth : Method} {c : Code} {H : Heap} {locs : List Loc} {cells slots : Nat} {Q : State → Prop}
variable {cc : ByteArray} {pc nL : Nat} {ls : Array Slot} {rest st0 As : List Value} {own : String} {θ : TH} {V : VT} {U : UT} {index ci k a b n ny : Nat} {y : MethodName} {cy : ByteArray} {rt : Option FieldType} {rm : Room}
theorem g_preS (hC : Cx p s m args c cc nL own θ) (hw : wo θ V U H) (hS : Sx θ s H locs) : PreS s H (PR θ As V U) As :=
  ⟨fun a St g mk q => ⟨q.1, q.2.1.calling, q.2.2⟩, fun St hU hW => ⟨rfl, hC.2.2.2.2.2.call hS hU hW, by rw [hU]; exact hw⟩⟩
theorem g_preV (hC : Cx p s m args c cc nL own θ) {C : String} {T : u_T} {N : Nat} (hci : CI ci C T N) (ho : isO θ b ci) (hw : wo θ V U H) (hS : Sx θ s H locs) : PreV s H C b (PR θ (.ref b :: As) V U) As := by
  refine ⟨fun a St g mk q => ⟨q.1, q.2.1.calling, q.2.2⟩, ?_, fun St hU hW => ⟨rfl, hC.2.2.2.2.2.call hS hU hW, by rw [hU]; exact hw⟩⟩
  obtain ⟨r, hr, cell, q1, q2, q3, -⟩ := hw (b - tb θ) _ ho.at
  obtain ⟨-, hfc, -⟩ := hC.2.2.2.2.2.1.1 ci _ hci.1
  exact ⟨cell, q1, by rw [q3]; rfl, by rw [q2]; exact hfc⟩
theorem g_words (hA : ∀ w ∈ WA, w.before args s = true) (hmi : MI y cy ny rt n) : ∀ w ∈ (Cond.code y cy ny rt :: WA), w.before args s = true := fun w h => by
  rcases List.mem_cons.mp h with rfl | h
  · exact hA _ hmi.1
  · exact hA _ h
theorem g_runV {Pc : Array Value → State → Prop} {Qc : Array Value → State → Outcome → State → Prop} {free : Addr → Prop} (hC : Cx p s m args c cc nL own θ) (hM : Met l y (Cond.code y cy ny rt :: WA) rm Pc Qc 0 0 free) (hmi : MI y cy ny rt n) (hlk : ML own index y) (hmv : MV y) (hp : PreV s H y.cls b Pc As) (hrm : rm.cells = 0 ∧ rm.slots = 0) (hR : rm.frames + 1 ≤ R.frames ∧ 8 + (ny + 11) + rm.locals ≤ R.locals) (hn : As.length = n) (hls : ls.size = nL) (hst : st0 = As.reverse ++ .ref b :: rest) (hroom : (rest.map fun v => v.category).sum ≤ 8) (hdg : decode cc pc = .ok (.invokevirtual index, 3)) :
    va_Run p l e R s m args below meth c H locs 0 0 0 0 (F0 m pc ls st0) rest (Qc (Value.ref b :: As).toArray) free := by
  obtain ⟨hx, hb, hml, hown, hA, hkn⟩ := hC
  have hA' := g_words hA hmi
  have hG : GoodIn (Cond.code y cy ny rt :: WA) (Cond.code y cy ny rt :: WA) := wa_in hmi.1
  rcases hlk with hl | ⟨host, hl⟩
  · exact va_runV (Ts := Cond.code y cy ny rt :: WA) (C := y.cls) ⟨hx, hb, hml, hown, hA'⟩ hM ⟨callB_of n hA' hG rfl hrm.1 hrm.2 (hA _ hmi.2.1) (hA _ hl) hmi.2.2 hR, hA _ hmv.1, hA _ hmv.2⟩ hp rfl hn hls hst (lv_room hroom) hdg ⟨Nat.zero_le _, Nat.zero_le _⟩
  · exact va_runVN (Ts := Cond.code y cy ny rt :: WA) (C := y.cls) (host := host) ⟨hx, hb, hml, hown, hA'⟩ hM ⟨va_cnB n hA' hG rfl hrm.1 hrm.2 (hkn.2.1 _ hl) (hA _ hmi.2.1) hmi.2.2 hR, hA _ hmv.1, hA _ hmv.2⟩ hp rfl hn hls hst (lv_room hroom) hdg ⟨Nat.zero_le _, Nat.zero_le _⟩
theorem g_runS {Pc : Array Value → State → Prop} {Qc : Array Value → State → Outcome → State → Prop} {free : Addr → Prop} (hC : Cx p s m args c cc nL own θ) (hM : Met l y (Cond.code y cy ny rt :: WA) rm Pc Qc 0 0 free) (hmi : MI y cy ny rt n) (hlk : ML own index y) (hms : Cond.static y ∈ WA) (hp : PreS s H Pc As) (hrm : rm.cells = 0 ∧ rm.slots = 0) (hR : rm.frames + 1 ≤ R.frames ∧ 8 + (ny + 11) + rm.locals ≤ R.locals) (hn : As.length = n) (hls : ls.size = nL) (hst : st0 = As.reverse ++ rest) (hroom : (rest.map fun v => v.category).sum ≤ 8) (hdg : decode cc pc = .ok (.invokestatic index, 3)) :
    va_Run p l e R s m args below meth c H locs 0 0 0 0 (F0 m pc ls st0) rest (Qc As.toArray) free := by
  obtain ⟨hx, hb, hml, hown, hA, hkn⟩ := hC
  have hA' := g_words hA hmi
  have hG : GoodIn (Cond.code y cy ny rt :: WA) (Cond.code y cy ny rt :: WA) := wa_in hmi.1
  rcases hlk with hl | ⟨host, hl⟩
  · exact va_runS (Ts := Cond.code y cy ny rt :: WA) ⟨hx, hb, hml, hown, hA'⟩ hM ⟨callB_of n hA' hG rfl hrm.1 hrm.2 (hA _ hmi.2.1) (hA _ hl) hmi.2.2 hR, hA _ hms⟩ hp rfl hn hls hst (lv_room hroom) hdg ⟨Nat.zero_le _, Nat.zero_le _⟩
  · exact va_runSN (Ts := Cond.code y cy ny rt :: WA) (host := host) ⟨hx, hb, hml, hown, hA'⟩ hM ⟨va_cnB n hA' hG rfl hrm.1 hrm.2 (hkn.2.1 _ hl) (hA _ hmi.2.1) hmi.2.2 hR, hA _ hms, trivial⟩ hp rfl hn hls hst (lv_room hroom) hdg ⟨Nat.zero_le _, Nat.zero_le _⟩
theorem g_Vi {K : Int32 → VT → UT → Prop} (hC : Cx p s m args c cc nL own θ) (hM : CMi l y cy ny rt rm θ (.ref b :: As) V U K) (hmi : MI y cy ny rt n) (hlk : ML own index y) (hmv : MV y) {T : u_T} {N : Nat} (hci : CI ci y.cls T N) (ho : isO θ b ci) (hw : wo θ V U H) (hS : Sx θ s H locs) (hrm : rm.cells = 0 ∧ rm.slots = 0) (hR : rm.frames + 1 ≤ R.frames ∧ 8 + (ny + 11) + rm.locals ≤ R.locals) (hn : As.length = n) (hls : ls.size = nL) (hst : st0 = As.reverse ++ .ref b :: rest) (hroom : (rest.map fun v => v.category).sum ≤ 8) (hdg : decode cc pc = .ok (.invokevirtual index, 3))
    (kk : ∀ (r : Int32) (V' : VT) (U' : UT), K r V' U' → ∀ (H1 : Heap) (locs1 : List Loc), wo θ V' U' H1 → Sx θ s H1 locs1 → W p l e R s m args below meth c H1 locs1 0 0 Q (F0 m (pc + 3) ls (.int r :: rest))) : W p l e R s m args below meth c H locs 0 0 Q (F0 m pc ls st0) :=
  va_calli (g_runV hC hM hmi hlk hmv (g_preV hC hci ho hw hS) hrm hR hn hls hst hroom hdg) hS (fun q _ h => h) (fun q h => h) (fun r u t H1 locs1 ht _ hpost hB _ _ hS1 => kk r u.1 u.2 hpost H1 locs1 (by rw [← ht]; exact hB) hS1)
theorem g_Vv {K : VT → UT → Prop} (hC : Cx p s m args c cc nL own θ) (hM : CMv l y cy ny rt rm θ (.ref b :: As) V U K) (hmi : MI y cy ny rt n) (hlk : ML own index y) (hmv : MV y) {T : u_T} {N : Nat} (hci : CI ci y.cls T N) (ho : isO θ b ci) (hw : wo θ V U H) (hS : Sx θ s H locs) (hrm : rm.cells = 0 ∧ rm.slots = 0) (hR : rm.frames + 1 ≤ R.frames ∧ 8 + (ny + 11) + rm.locals ≤ R.locals) (hn : As.length = n) (hls : ls.size = nL) (hst : st0 = As.reverse ++ .ref b :: rest) (hroom : (rest.map fun v => v.category).sum ≤ 8) (hdg : decode cc pc = .ok (.invokevirtual index, 3))
    (kk : ∀ (V' : VT) (U' : UT), K V' U' → ∀ (H1 : Heap) (locs1 : List Loc), wo θ V' U' H1 → Sx θ s H1 locs1 → W p l e R s m args below meth c H1 locs1 0 0 Q (F0 m (pc + 3) ls rest)) : W p l e R s m args below meth c H locs 0 0 Q (F0 m pc ls st0) :=
  va_callv (g_runV hC hM hmi hlk hmv (g_preV hC hci ho hw hS) hrm hR hn hls hst hroom hdg) hS (fun q _ h => h) (fun q h => h) (fun u t H1 locs1 ht _ hpost hB _ _ hS1 => kk u.1 u.2 hpost H1 locs1 (by rw [← ht]; exact hB) hS1)
theorem g_Vr {K : Nat → VT → UT → Prop} (hC : Cx p s m args c cc nL own θ) (hM : CMr l y cy ny rt rm θ (.ref b :: As) V U K) (hmi : MI y cy ny rt n) (hlk : ML own index y) (hmv : MV y) {T : u_T} {N : Nat} (hci : CI ci y.cls T N) (ho : isO θ b ci) (hw : wo θ V U H) (hS : Sx θ s H locs) (hrm : rm.cells = 0 ∧ rm.slots = 0) (hR : rm.frames + 1 ≤ R.frames ∧ 8 + (ny + 11) + rm.locals ≤ R.locals) (hn : As.length = n) (hls : ls.size = nL) (hst : st0 = As.reverse ++ .ref b :: rest) (hroom : (rest.map fun v => v.category).sum ≤ 8) (hdg : decode cc pc = .ok (.invokevirtual index, 3))
    (kk : ∀ (r : Nat) (V' : VT) (U' : UT), K r V' U' → ∀ (H1 : Heap) (locs1 : List Loc), wo θ V' U' H1 → Sx θ s H1 locs1 → W p l e R s m args below meth c H1 locs1 0 0 Q (F0 m (pc + 3) ls (vr r :: rest))) : W p l e R s m args below meth c H locs 0 0 Q (F0 m pc ls st0) :=
  va_callq (g_runV hC hM hmi hlk hmv (g_preV hC hci ho hw hS) hrm hR hn hls hst hroom hdg) hS (fun q _ h => h) (fun q h => h) (fun r u t H1 locs1 ht _ hpost hB _ _ hS1 => by
    obtain ⟨x, rfl, hK⟩ := hpost
    rw [orf_rf]
    exact kk x u.1 u.2 hK H1 locs1 (by rw [← ht]; exact hB) hS1)
theorem g_Si {K : Int32 → VT → UT → Prop} (hC : Cx p s m args c cc nL own θ) (hM : CMi l y cy ny rt rm θ As V U K) (hmi : MI y cy ny rt n) (hlk : ML own index y) (hms : Cond.static y ∈ WA) (hw : wo θ V U H) (hS : Sx θ s H locs) (hrm : rm.cells = 0 ∧ rm.slots = 0) (hR : rm.frames + 1 ≤ R.frames ∧ 8 + (ny + 11) + rm.locals ≤ R.locals) (hn : As.length = n) (hls : ls.size = nL) (hst : st0 = As.reverse ++ rest) (hroom : (rest.map fun v => v.category).sum ≤ 8) (hdg : decode cc pc = .ok (.invokestatic index, 3))
    (kk : ∀ (r : Int32) (V' : VT) (U' : UT), K r V' U' → ∀ (H1 : Heap) (locs1 : List Loc), wo θ V' U' H1 → Sx θ s H1 locs1 → W p l e R s m args below meth c H1 locs1 0 0 Q (F0 m (pc + 3) ls (.int r :: rest))) : W p l e R s m args below meth c H locs 0 0 Q (F0 m pc ls st0) :=
  va_calli (g_runS hC hM hmi hlk hms (g_preS hC hw hS) hrm hR hn hls hst hroom hdg) hS (fun q _ h => h) (fun q h => h) (fun r u t H1 locs1 ht _ hpost hB _ _ hS1 => kk r u.1 u.2 hpost H1 locs1 (by rw [← ht]; exact hB) hS1)
theorem g_Sv {K : VT → UT → Prop} (hC : Cx p s m args c cc nL own θ) (hM : CMv l y cy ny rt rm θ As V U K) (hmi : MI y cy ny rt n) (hlk : ML own index y) (hms : Cond.static y ∈ WA) (hw : wo θ V U H) (hS : Sx θ s H locs) (hrm : rm.cells = 0 ∧ rm.slots = 0) (hR : rm.frames + 1 ≤ R.frames ∧ 8 + (ny + 11) + rm.locals ≤ R.locals) (hn : As.length = n) (hls : ls.size = nL) (hst : st0 = As.reverse ++ rest) (hroom : (rest.map fun v => v.category).sum ≤ 8) (hdg : decode cc pc = .ok (.invokestatic index, 3))
    (kk : ∀ (V' : VT) (U' : UT), K V' U' → ∀ (H1 : Heap) (locs1 : List Loc), wo θ V' U' H1 → Sx θ s H1 locs1 → W p l e R s m args below meth c H1 locs1 0 0 Q (F0 m (pc + 3) ls rest)) : W p l e R s m args below meth c H locs 0 0 Q (F0 m pc ls st0) :=
  va_callv (g_runS hC hM hmi hlk hms (g_preS hC hw hS) hrm hR hn hls hst hroom hdg) hS (fun q _ h => h) (fun q h => h) (fun u t H1 locs1 ht _ hpost hB _ _ hS1 => kk u.1 u.2 hpost H1 locs1 (by rw [← ht]; exact hB) hS1)
-- ends
theorem g_iret {K : Int32 → VT → UT → Prop} {v : Int32} (hC : Cx p s m args c cc nL own θ) (hr : meth.sig.returnType = some .int) (hlk : meth.locks = false) (hk : K v V U) (hw : wo θ V U H) (hS : Sx θ s H locs) (hdg : decode cc pc = .ok (.ireturn, 1)) : W p l e R s m args below meth c H locs 0 0 (MQ below (QI θ K) args s 0 0 (aT θ)) (F0 m pc ls [.int v]) :=
  W.iret hC.1 hC.2.1 hr (fun t ht hW => ⟨⟨v, (V, U), rfl, hk, by show wo θ V U t.heap; rw [ht]; exact hw⟩, hS.F ht⟩) hS.2.2 hdg hlk
theorem g_zret {K : Int32 → VT → UT → Prop} {v : Int32} (hC : Cx p s m args c cc nL own θ) (hr : meth.sig.returnType = some .boolean) (hlk : meth.locks = false) (hz : isZ v) (hk : K v V U) (hw : wo θ V U H) (hS : Sx θ s H locs) (hdg : decode cc pc = .ok (.ireturn, 1)) : W p l e R s m args below meth c H locs 0 0 (MQ below (QI θ K) args s 0 0 (aT θ)) (F0 m pc ls [.int v]) :=
  W.zret hC.1 hC.2.1 hr hz.n (fun t ht hW => ⟨⟨v, (V, U), rfl, hk, by show wo θ V U t.heap; rw [ht]; exact hw⟩, hS.F ht⟩) hS.2.2 hdg hlk
theorem g_vret {K : VT → UT → Prop} (hC : Cx p s m args c cc nL own θ) (hr : meth.sig.returnType = none) (hlk : meth.locks = false) (hk : K V U) (hw : wo θ V U H) (hS : Sx θ s H locs) (hdg : decode cc pc = .ok (.return_, 1)) : W p l e R s m args below meth c H locs 0 0 (MQ below (QV θ K) args s 0 0 (aT θ)) (F0 m pc ls []) :=
  W.vret hC.1 hC.2.1 hr (fun t ht hW => ⟨⟨(V, U), rfl, hk, by show wo θ V U t.heap; rw [ht]; exact hw⟩, hS.F ht⟩) hS.2.2 hdg hlk
theorem vr_is (x : Nat) : vr x = .null ∨ ∃ a, vr x = .ref a := by
  by_cases h : x = 0
  · exact Or.inl (by simp [vr, h])
  · exact Or.inr ⟨x, vr_pos h⟩
theorem g_aretN {K : Nat → VT → UT → Prop} {x : Nat} {cn : String} (hC : Cx p s m args c cc nL own θ) (hr : meth.sig.returnType = some (.object cn)) (hlk : meth.locks = false) (hk : K x V U) (hw : wo θ V U H) (hS : Sx θ s H locs) (hdg : decode cc pc = .ok (.areturn, 1)) : W p l e R s m args below meth c H locs 0 0 (MQ below (QR θ K) args s 0 0 (aT θ)) (F0 m pc ls [vr x]) :=
  W.aret hC.1 hC.2.1 hr (Or.inl ⟨_, rfl⟩) (vr_is x) (fun t ht hW => ⟨⟨orf x, (V, U), by rw [orf_rf], ⟨x, rfl, hk⟩, by show wo θ V U t.heap; rw [ht]; exact hw⟩, hS.F ht⟩) hS.2.2 hdg hlk
theorem g_aret {K : Nat → VT → UT → Prop} {x : Nat} {cn : String} (hC : Cx p s m args c cc nL own θ) (hr : meth.sig.returnType = some (.object cn)) (hlk : meth.locks = false) (h0 : x ≠ 0) (hk : K x V U) (hw : wo θ V U H) (hS : Sx θ s H locs) (hdg : decode cc pc = .ok (.areturn, 1)) : W p l e R s m args below meth c H locs 0 0 (MQ below (QR θ K) args s 0 0 (aT θ)) (F0 m pc ls [.ref x]) := by
  rw [← vr_pos h0]
  exact g_aretN hC hr hlk hk hw hS hdg
-- references that may be null
theorem g_nn {x : Nat} (h : x ≠ 0) (kk : W p l e R s m args below meth c H locs cells slots Q (F0 m pc ls (.ref x :: rest))) : W p l e R s m args below meth c H locs cells slots Q (F0 m pc ls (vr x :: rest)) := by
  rw [vr_pos h]; exact kk
theorem g_ifnull {x : Nat} (hC : Cx p s m args c cc nL own θ) {off : Int} {tgt : Nat} (hdg : decode cc pc = .ok (.ifnull off, 3)) (ht : (pc : Int) + off = (tgt : Int)) (kt : x = 0 → W p l e R s m args below meth c H locs cells slots Q (F0 m tgt ls rest)) (kf : ¬ x = 0 → W p l e R s m args below meth c H locs cells slots Q (F0 m (pc + 3) ls rest)) : W p l e R s m args below meth c H locs cells slots Q (F0 m pc ls (vr x :: rest)) := by
  by_cases h : x = 0
  · rw [show vr x = .null by simp [vr, h]]
    exact lv_ifnullN hC.1 hC.2.1 hdg ht (kt h)
  · rw [vr_pos h]
    exact lv_ifnull hC.1 hC.2.1 hdg (kf h)
theorem g_ifnonnull {x : Nat} (hC : Cx p s m args c cc nL own θ) {off : Int} {tgt : Nat} (hdg : decode cc pc = .ok (.ifnonnull off, 3)) (ht : (pc : Int) + off = (tgt : Int)) (kt : ¬ x = 0 → W p l e R s m args below meth c H locs cells slots Q (F0 m tgt ls rest)) (kf : x = 0 → W p l e R s m args below meth c H locs cells slots Q (F0 m (pc + 3) ls rest)) : W p l e R s m args below meth c H locs cells slots Q (F0 m pc ls (vr x :: rest)) := by
  by_cases h : x = 0
  · rw [show vr x = .null by simp [vr, h]]
    exact lv_ifnonnullN hC.1 hC.2.1 hdg (kf h)
  · rw [vr_pos h]
    exact lv_ifnonnull hC.1 hC.2.1 hdg ht (kt h)
theorem vr_cat (x : Nat) : (vr x).category = 1 := by
  unfold vr; split <;> rfl
theorem g_topr {x : Nat} (kk : ∀ y : Nat, y = x → W p l e R s m args below meth c H locs cells slots Q (F0 m pc ls (.ref y :: rest))) : W p l e R s m args below meth c H locs cells slots Q (F0 m pc ls (.ref x :: rest)) := kk x rfl
theorem g_tonull {x : Nat} (h : x ≠ 0) (kk : W p l e R s m args below meth c H locs cells slots Q (F0 m pc ls (vr x :: rest))) : W p l e R s m args below meth c H locs cells slots Q (F0 m pc ls (.ref x :: rest)) := by
  rw [vr_pos h] at kk; exact kk
theorem g_aloadq_n {x i : Nat} {kf : Fin 4} (hC : Cx p s m args c cc nL own θ) (hdg : decode cc pc = .ok (.aload_n kf, 1)) (hi : (kf : Nat) = i) (hl : ls[i]? = some (.val (vr x))) (kk : W p l e R s m args below meth c H locs cells slots Q (F0 m (pc + 1) ls (vr x :: rest))) : W p l e R s m args below meth c H locs cells slots Q (F0 m pc ls rest) := by
  by_cases h : x = 0
  · have e : vr x = .null := by simp [vr, h]
    rw [e] at hl kk
    exact lv_aload_nN hC.1 hC.2.1 hdg hi hl kk
  · rw [vr_pos h] at hl kk
    exact lv_aload_n hC.1 hC.2.1 hdg hi hl kk
theorem g_aloadq {x i : Nat} (hC : Cx p s m args c cc nL own θ) (hdg : decode cc pc = .ok (.aload i, 2)) (hl : ls[i]? = some (.val (vr x))) (kk : W p l e R s m args below meth c H locs cells slots Q (F0 m (pc + 2) ls (vr x :: rest))) : W p l e R s m args below meth c H locs cells slots Q (F0 m pc ls rest) := by
  by_cases h : x = 0
  · have e : vr x = .null := by simp [vr, h]
    rw [e] at hl kk
    exact lv_aloadN hC.1 hC.2.1 hdg hl kk
  · rw [vr_pos h] at hl kk
    exact lv_aload hC.1 hC.2.1 hdg hl kk
theorem g_astoreq_n {x i nv : Nat} {kf : Fin 4} {lv lv' : List (Nat × Value)} (hC : Cx p s m args c cc nL own θ) (hdg : decode cc pc = .ok (.astore_n kf, 1)) (hi : (kf : Nat) = i) (h : lv_has ls nv lv) (hn : i < nv) (hl : (i, vr x) :: lv.filter (fun q => !(q.1 == i) && !(q.1 + 1 == i && q.2.category == 2)) = lv') (kk : ∀ ls' : Array Slot, lv_has ls' nv lv' → W p l e R s m args below meth c H locs cells slots Q (F0 m (pc + 1) ls' rest)) : W p l e R s m args below meth c H locs cells slots Q (F0 m pc ls (vr x :: rest)) := by
  by_cases h0 : x = 0
  · have e : vr x = .null := by simp [vr, h0]
    rw [e] at hl ⊢
    exact lv_astore_nN hC.1 hC.2.1 hdg hi h hn hl kk
  · rw [vr_pos h0] at hl ⊢
    exact lv_astore_n hC.1 hC.2.1 hdg hi h hn hl kk
theorem g_astoreq {x i nv : Nat} {lv lv' : List (Nat × Value)} (hC : Cx p s m args c cc nL own θ) (hdg : decode cc pc = .ok (.astore i, 2)) (h : lv_has ls nv lv) (hn : i < nv) (hl : (i, vr x) :: lv.filter (fun q => !(q.1 == i) && !(q.1 + 1 == i && q.2.category == 2)) = lv') (kk : ∀ ls' : Array Slot, lv_has ls' nv lv' → W p l e R s m args below meth c H locs cells slots Q (F0 m (pc + 2) ls' rest)) : W p l e R s m args below meth c H locs cells slots Q (F0 m pc ls (vr x :: rest)) := by
  by_cases h0 : x = 0
  · have e : vr x = .null := by simp [vr, h0]
    rw [e] at hl ⊢
    exact lv_astoreN hC.1 hC.2.1 hdg h hn hl kk
  · rw [vr_pos h0] at hl ⊢
    exact lv_astore hC.1 hC.2.1 hdg h hn hl kk
-- System.arraycopy of ints
theorem g_copy (hC : Cx p s m args c cc nL own θ) (hls : ls.size = nL) (hlk : Cond.methodLink own index arraycopyName ∈ WA) (hna : Cond.native arraycopyName ∈ WA ∧ Cond.static arraycopyName ∈ WA ∧ Cond.initialized "java/lang/System" ∈ WA) (hw : wo θ V U H) (hS : Sx θ s H locs) {a0 n0 n1 : Nat} (h0 : isA θ a0 0 n0) (h1 : isA θ a 0 n1) {sp dp n : Int32} (hsp : ¬ sp < 0) (hdp : ¬ dp < 0) (hn : ¬ n < 0) (h4 : sp.toNatClampNeg + n.toNatClampNeg ≤ n0) (h5 : dp.toNatClampNeg + n.toNatClampNeg ≤ n1)
    (hfr : 1 ≤ R.frames) (hlo : (rest.map fun v => v.category).sum + (nativeFrameWords "java/lang/System" "arraycopy" 5 + 11) ≤ R.locals) (hdg : decode cc pc = .ok (.invokestatic index, 3))
    (kk : ∀ (V' : VT), V' = (fun q => if q = a then va_cpy (V a0) (V a) sp.toNatClampNeg dp.toNatClampNeg n.toNatClampNeg else V q) → ∀ (H1 : Heap) (locs1 : List Loc), wo θ V' U H1 → Sx θ s H1 locs1 → W p l e R s m args below meth c H1 locs1 cells slots Q (F0 m (pc + 3) ls rest)) : W p l e R s m args below meth c H locs cells slots Q (F0 m pc ls (.int n :: .int dp :: .ref a :: .int sp :: .ref a0 :: rest)) := by
  obtain ⟨hx, hb, hml, hown, hA, hkn⟩ := hC
  refine va_copyi hx hb (by rw [hml, hls]) hown (hA _ hlk) (hA _ hna.1) (hA _ hna.2.1) (hA _ hna.2.2) hkn.1 hw wl_D hS (a0 - tb θ) (a - tb θ) 0 0 (ty := .int) h0.at h1.at (tysO_at (by decide)) (tysO_at (by decide)) rfl hsp hdp hn h4 h5 (fun i _ => rfl) hfr hlo hdg (fun H1 locs1 q1 _ q3 => ?_)
  have e := g_arr (V := V) (U := U) (V' := fun q => if q = a then va_cpy (V a0) (V a) sp.toNatClampNeg dp.toNatClampNeg n.toNatClampNeg else V q) h1 (fun q hq => by simp [hq])
  simp only [if_true] at e
  rw [e] at q1
  exact kk _ rfl H1 locs1 q1 q3
theorem g_min (hC : Cx p s m args c cc nL own θ) (hls : ls.size = nL) (hlk : Cond.methodLink own index Lib.Math.min.name ∈ WA) (hna : Cond.static Lib.Math.min.name ∈ WA ∧ Cond.initialized "java/lang/Math" ∈ WA ∧ Cond.code Lib.Math.min.name Lib.Math.min.code 2 (some .int) ∈ WA) (hfr : 1 ≤ R.frames) (hlo : (rest.map fun v => v.category).sum + 13 ≤ R.locals) {x y : Int32} (hdg : decode cc pc = .ok (.invokestatic index, 3))
    (kk : W p l e R s m args below meth c H locs 0 0 Q (F0 m (pc + 3) ls (.int (if y < x then y else x) :: rest))) : W p l e R s m args below meth c H locs 0 0 Q (F0 m pc ls (.int y :: .int x :: rest)) :=
  va_mmin hC.1 hC.2.1 (by rw [hC.2.2.1, hls]) hC.2.2.2.1 (hC.2.2.2.2.1 _ hlk) (hC.2.2.2.2.1 _ hna.1) (hC.2.2.2.2.1 _ hna.2.1) (hC.2.2.2.2.1 _ hna.2.2) hfr hlo (Nat.zero_le _) (Nat.zero_le _) hdg kk
theorem g_max (hC : Cx p s m args c cc nL own θ) (hls : ls.size = nL) (hlk : Cond.methodLink own index Lib.Math.max.name ∈ WA) (hna : Cond.static Lib.Math.max.name ∈ WA ∧ Cond.initialized "java/lang/Math" ∈ WA ∧ Cond.code Lib.Math.max.name Lib.Math.max.code 2 (some .int) ∈ WA) (hfr : 1 ≤ R.frames) (hlo : (rest.map fun v => v.category).sum + 13 ≤ R.locals) {x y : Int32} (hdg : decode cc pc = .ok (.invokestatic index, 3))
    (kk : W p l e R s m args below meth c H locs 0 0 Q (F0 m (pc + 3) ls (.int (if x < y then y else x) :: rest))) : W p l e R s m args below meth c H locs 0 0 Q (F0 m pc ls (.int y :: .int x :: rest)) :=
  va_mmax hC.1 hC.2.1 (by rw [hC.2.2.1, hls]) hC.2.2.2.1 (hC.2.2.2.2.1 _ hlk) (hC.2.2.2.2.1 _ hna.1) (hC.2.2.2.2.1 _ hna.2.1) (hC.2.2.2.2.1 _ hna.2.2) hfr hlo (Nat.zero_le _) (Nat.zero_le _) hdg kk
theorem g_abs (hC : Cx p s m args c cc nL own θ) (hls : ls.size = nL) (hlk : Cond.methodLink own index Lib.Math.abs.name ∈ WA) (hna : Cond.static Lib.Math.abs.name ∈ WA ∧ Cond.initialized "java/lang/Math" ∈ WA ∧ Cond.code Lib.Math.abs.name Lib.Math.abs.code 1 (some .int) ∈ WA) (hfr : 1 ≤ R.frames) (hlo : (rest.map fun v => v.category).sum + 13 ≤ R.locals) {x : Int32} (hdg : decode cc pc = .ok (.invokestatic index, 3))
    (kk : W p l e R s m args below meth c H locs 0 0 Q (F0 m (pc + 3) ls (.int (if 0 ≤ x then x else 0 - x) :: rest))) : W p l e R s m args below meth c H locs 0 0 Q (F0 m pc ls (.int x :: rest)) :=
  va_mabs hC.1 hC.2.1 (by rw [hC.2.2.1, hls]) hC.2.2.2.1 (hC.2.2.2.2.1 _ hlk) (hC.2.2.2.2.1 _ hna.1) (hC.2.2.2.2.1 _ hna.2.1) (hC.2.2.2.2.1 _ hna.2.2) hfr hlo (Nat.zero_le _) (Nat.zero_le _) hdg kk
theorem sw_eq {x k : Int32} {z : Int} (h : x.toInt = z) (hk : k.toInt = z) : x = k := Int32.toInt_inj.mp (h.trans hk.symm)
theorem sw_ne {x k : Int32} {lo hi : Int} (ho : x.toInt < lo ∨ hi < x.toInt) (h1 : lo ≤ k.toInt) (h2 : k.toInt ≤ hi) : ¬ x = k := by
  intro e; subst e; omega
theorem g_sw {x : Int32} (hC : Cx p s m args c cc nL own θ) {dflt lo hi : Int} {offs : Array Int} {len : Nat} (hdg : decode cc pc = .ok (.tableswitch dflt lo hi offs, len)) (hsz : (hi - lo + 1).toNat = offs.size) (td : Nat) (htd : (pc : Int) + dflt = (td : Int))
    (ko : x.toInt < lo ∨ hi < x.toInt → W p l e R s m args below meth c H locs cells slots Q (F0 m td ls rest))
    (ki : ∀ (j : Nat) (off : Int), offs[j]? = some off → x.toInt = lo + (j : Int) → ∀ tgt : Nat, (pc : Int) + off = (tgt : Int) → 0 ≤ (pc : Int) + off → W p l e R s m args below meth c H locs cells slots Q (F0 m tgt ls rest))
    (hpos : ∀ (j : Nat) (off : Int), offs[j]? = some off → 0 ≤ (pc : Int) + off) : W p l e R s m args below meth c H locs cells slots Q (F0 m pc ls (.int x :: rest)) := by
  by_cases h1 : x.toInt < lo
  · exact lv_tableOut hC.1 hC.2.1 hdg (Or.inl h1) htd (ko (Or.inl h1))
  by_cases h2 : hi < x.toInt
  · exact lv_tableOut hC.1 hC.2.1 hdg (Or.inr h2) htd (ko (Or.inr h2))
  have hj : (x.toInt - lo).toNat < offs.size := by omega
  have hg : offs[(x.toInt - lo).toNat]? = some offs[(x.toInt - lo).toNat] := Array.getElem?_eq_getElem hj
  have hp := hpos _ _ hg
  have ht : (pc : Int) + offs[(x.toInt - lo).toNat] = ((((pc : Int) + offs[(x.toInt - lo).toNat]).toNat : Nat) : Int) := by omega
  exact lv_tableIn hC.1 hC.2.1 hdg h1 h2 hg ht (ki _ _ hg (by omega) _ ht hp)
end CALLS
