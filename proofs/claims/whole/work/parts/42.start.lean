def layT : List (Nat × Nat × Nat) := [(0, 0, 7), (0, 1, 3), (1, 0, 1000), (1, 0, 64), (2, 2, 4), (0, 2, 8), (1, 0, 10), (1, 0, 150), (1, 0, 10), (1, 1, 10), (0, 2, 8), (1, 0, 10), (1, 0, 150), (1, 0, 10), (1, 1, 10), (0, 2, 8), (1, 0, 10), (1, 0, 150), (1, 0, 10), (1, 1, 10), (0, 2, 8), (1, 0, 10), (1, 0, 150), (1, 0, 10), (1, 1, 10), (0, 7, 7), (1, 0, 1000), (0, 6, 8), (2, 3, 3), (2, 4, 8), (0, 5, 6), (0, 3, 3), (1, 0, 64), (0, 4, 5), (0, 3, 3), (1, 0, 64), (0, 4, 5), (0, 3, 3), (1, 0, 64), (0, 4, 5), (0, 3, 3), (1, 0, 64), (0, 5, 6), (0, 3, 3), (1, 0, 64), (0, 5, 6), (0, 3, 3), (1, 0, 64), (0, 5, 6), (0, 3, 3), (1, 0, 64), (0, 5, 6), (0, 3, 3), (1, 0, 64), (0, 5, 6), (0, 3, 3), (1, 0, 64), (0, 5, 6), (0, 3, 3), (1, 0, 64), (0, 5, 6), (0, 3, 3), (1, 0, 64), (0, 5, 6), (0, 3, 3), (1, 0, 64), (0, 11, 16), (2, 5, 4), (0, 9, 12), (1, 0, 3), (1, 0, 2), (1, 1, 2), (1, 0, 2), (1, 0, 4), (1, 0, 14), (1, 0, 14), (1, 0, 14), (1, 1, 14), (0, 10, 12), (1, 0, 4), (1, 0, 2), (2, 6, 2), (1, 0, 64), (1, 0, 64), (0, 9, 12), (1, 0, 3), (1, 0, 2), (1, 1, 2), (1, 0, 2), (1, 0, 4), (1, 0, 14), (1, 0, 14), (1, 0, 14), (1, 1, 14), (0, 10, 12), (1, 0, 4), (1, 0, 2), (2, 6, 2), (1, 0, 64), (1, 0, 64), (2, 6, 2), (1, 0, 32), (1, 0, 32), (2, 6, 2), (1, 0, 32), (1, 0, 32), (0, 8, 8), (1, 0, 8), (1, 0, 8), (1, 0, 32), (1, 0, 32), (0, 8, 8), (1, 0, 8), (1, 0, 8), (1, 0, 32), (1, 0, 32), (0, 8, 8), (1, 0, 8), (1, 0, 8), (1, 0, 32), (1, 0, 32), (0, 8, 8), (1, 0, 8), (1, 0, 8), (1, 0, 32), (1, 0, 32), (0, 12, 69), (1, 0, 1000), (1, 0, 64), (1, 0, 64), (1, 0, 64), (1, 0, 64), (1, 0, 960), (1, 0, 4), (1, 0, 4), (1, 1, 4), (1, 0, 72), (1, 0, 3), (1, 0, 3), (1, 0, 3), (1, 1, 3), (1, 0, 3), (1, 0, 3000), (1, 0, 8), (1, 0, 8), (1, 0, 8), (1, 1, 8), (1, 0, 8), (1, 0, 1000), (1, 0, 1000), (1, 0, 4), (1, 0, 4), (1, 0, 32), (1, 0, 32), (1, 1, 4), (1, 0, 128), (1, 0, 32), (1, 0, 96), (1, 1, 2), (1, 0, 64), (1, 0, 64), (1, 0, 14), (1, 0, 14), (1, 1, 14), (1, 0, 2), (1, 0, 128)]
def lay (k : Nat) : Nat × Nat × Nat := layT.getD k (9, 0, 0)
theorem law_classes {s : State} {A : Array Value} (hA : ∀ w ∈ WA, w.before A s = true) (c : Nat) : ∃ (cC : ClassId) (iS : Nat → Nat), ∀ q : vw_C, vwCl[c]? = some q → u_Kn s q.1 q.2.1 q.2.2 cC iS := by
  have key : ∀ q : vw_C, vwCl[c]? = some q → ∃ (cC : ClassId) (iS : Nat → Nat), u_Kn s q.1 q.2.1 q.2.2 cC iS := by
    intro q hq
    have hl : c < 13 := (List.getElem?_eq_some_iff.mp hq).1
    have h13 : c = 0 ∨ c = 1 ∨ c = 2 ∨ c = 3 ∨ c = 4 ∨ c = 5 ∨ c = 6 ∨ c = 7 ∨ c = 8 ∨ c = 9 ∨ c = 10 ∨ c = 11 ∨ c = 12 := by omega
    rcases h13 with rfl | rfl | rfl | rfl | rfl | rfl | rfl | rfl | rfl | rfl | rfl | rfl | rfl
    · cases hq; exact u_known hA nuS (hA _ inS)
    · cases hq; exact u_known hA nuW (hA _ inW)
    · cases hq; exact u_known hA nuO (hA _ inO)
    · cases hq; exact u_known hA nuK (hA _ inK)
    · cases hq; exact u_known hA nuI (hA _ inI)
    · cases hq; exact u_known hA nuE (hA _ inE)
    · cases hq; exact u_known hA nuR (hA _ inR)
    · cases hq; exact u_known hA nuH (hA _ inH)
    · cases hq; exact u_known hA nuB (hA _ inB)
    · cases hq; exact u_known hA nuC (hA _ inC)
    · cases hq; exact u_known hA nuP (hA _ inP)
    · cases hq; exact u_known hA nuD (hA _ inD)
    · cases hq; exact u_known hA nuM (hA _ inM)
  by_cases h : ∃ q, vwCl[c]? = some q
  · obtain ⟨q, hq⟩ := h
    obtain ⟨cC, iS, hk⟩ := key q hq
    exact ⟨cC, iS, fun q' hq' => by cases hq.symm.trans hq'; exact hk⟩
  · exact ⟨0, fun _ => 0, fun q hq => absurd ⟨q, hq⟩ h⟩
theorem law_arrays {s : State} {A : Array Value} (hA : ∀ w ∈ WA, w.before A s = true) (hts : ∀ w ∈ lw_tbl, w.before A s = true) (t : Nat) : ∃ cA : ClassId, t < 7 → ArrOfT s cA (tyT t) ∧ va_RA s cA (tyT t) := by
  have hob : ∀ C : String, Cond.arrayOver (.object C) ∈ lw_tbl → ∃ cA : ClassId, ArrOfT s cA (.object C) ∧ va_RA s cA (.object C) := by
    intro C hm
    obtain ⟨comp, c, k, h1, h2, h3, h4, h5⟩ := Cond.arrayOver_spec (hts _ hm)
    exact ⟨c, fun N z => ⟨(fun q hq => by cases hq), k, h3, comp, h4⟩, k, comp, h3, h4, h1, h5⟩
  by_cases ht : t < 7
  · have h7 : t = 0 ∨ t = 1 ∨ t = 2 ∨ t = 3 ∨ t = 4 ∨ t = 5 ∨ t = 6 := by omega
    rcases h7 with rfl | rfl | rfl | rfl | rfl | rfl | rfl
    · obtain ⟨c, k, comp, h1, h2, h3⟩ := Cond.arrayClass_spec (hA _ ka_ai)
      exact ⟨c, fun _ => ⟨fun N z => ⟨(fun q hq => by cases hq), k, h2, comp, h3⟩, h1⟩⟩
    · obtain ⟨c, k, comp, h1, h2, h3⟩ := Cond.arrayClass_spec (hA _ ka_az)
      exact ⟨c, fun _ => ⟨fun N z => ⟨(fun q hq => by cases hq), k, h2, comp, h3⟩, h1⟩⟩
    · obtain ⟨c, h⟩ := hob "LacedSound$Outbox" (tw_1 47 rfl)
      exact ⟨c, fun _ => h⟩
    · obtain ⟨c, h⟩ := hob "LacedSound$Inbox" (tw_1 122 rfl)
      exact ⟨c, fun _ => h⟩
    · obtain ⟨c, h⟩ := hob "LacedSound$Event" (tw_1 124 rfl)
      exact ⟨c, fun _ => h⟩
    · obtain ⟨c, h⟩ := hob "LacedSound$Book" (tw_2 1 rfl)
      exact ⟨c, fun _ => h⟩
    · obtain ⟨comp, c, k, hc, hi, hk, hkind, hn⟩ := arrayOverA_spec (hts (Cond.arrayOver (.array .int)) (tw_2 52 rfl))
      exact ⟨c, fun _ => ⟨fun N z => ⟨(fun q hq => by cases hq), k, hk, comp, hkind⟩, hn⟩⟩
  · exact ⟨0, fun h => absurd h ht⟩
theorem law_static {s : State} {b : Nat} {A : Nat → Prop} (C n : String) (f : Nat → Int32) (hA : ∀ a : Nat, a < s.heap.size → ¬ A a) (hl : (Cond.laysStatic C n "[I").before #[Value.ref b] s = true) (hini : (Cond.initialized C).before #[Value.ref b] s = true) (harr : (Cond.arrayOf (.static C n "[I") .int).before #[Value.ref b] s = true) (hlen : (Cond.eq (.length (.static C n "[I")) (.int 4)).before #[Value.ref b] s = true)
    (h0 : (Cond.eq (.elem (.static C n "[I") (.int 0)) (.int (f 0))).before #[Value.ref b] s = true) (h1 : (Cond.eq (.elem (.static C n "[I") (.int 1)) (.int (f 1))).before #[Value.ref b] s = true) (h2 : (Cond.eq (.elem (.static C n "[I") (.int 2)) (.int (f 2))).before #[Value.ref b] s = true) (h3 : (Cond.eq (.elem (.static C n "[I") (.int 3)) (.int (f 3))).before #[Value.ref b] s = true) :
    ∃ t : Nat, va_Z C n "[I" (.ref t) A s s.heap ∧ va_T .int t 4 (fun i => .int (f i)) A s s.heap := by
  obtain ⟨t, ht, hT⟩ := va_Tof (N := 4) (f := fun i => .int (f i)) (by decide) harr (va_eqt hlen) (fun j hj => by
    have h4 : j = 0 ∨ j = 1 ∨ j = 2 ∨ j = 3 := by omega
    rcases h4 with rfl | rfl | rfl | rfl
    · exact va_eqt h0
    · exact va_eqt h1
    · exact va_eqt h2
    · exact va_eqt h3) hA
  exact ⟨t, va_Zref hl hini ht hA, hT⟩
theorem law_known {p : Program} {s : State} {m : MethodId} {meth : Method} {c : Code} {b L : Nat} {xs : Nat → Int32} (C0 : lw_At p s m meth c b L xs) : ∃ (D : va_G) (C : Nat → ClassId) (S : Nat → Nat), (∀ (N : Nat) (Ly : Nat → Nat × Nat × Nat), kn (s.heap.size, N, Ly, D, C, S) s) ∧ ovs s := by
  obtain ⟨hx, hb, hr, hml, hown, hts, hX, hbl, hlk, hgv⟩ := C0
  have hA : ∀ w ∈ WA, w.before #[Value.ref b] s = true := fun w h => hts w (List.mem_filter.mp h).1
  have hs := flat_of_before _ hgv
  have hnA : ∀ a : Nat, a < s.heap.size → ¬ (fun q => s.heap.size ≤ q) a := fun a ha h => by
    have : s.heap.size ≤ a := h
    omega
  obtain ⟨t0, z0, y0⟩ := law_static (A := fun q => s.heap.size ≤ q) "LacedSound" "SIGN" (sV 0) hnA (hts _ (tw_3 2 rfl)) (hts _ (tw_1 1 rfl)) (hs _ (by decide +kernel)) (hs _ (by decide +kernel)) (hs _ (by decide +kernel)) (hs _ (by decide +kernel)) (hs _ (by decide +kernel)) (hs _ (by decide +kernel))
  obtain ⟨t1, z1, y1⟩ := law_static (A := fun q => s.heap.size ≤ q) "LacedSound$CurvePlan" "RANGES" (sV 1) hnA (hts _ (tw_3 234 rfl)) (hts _ (tw_1 10 rfl)) (hs _ (by decide +kernel)) (hs _ (by decide +kernel)) (hs _ (by decide +kernel)) (hs _ (by decide +kernel)) (hs _ (by decide +kernel)) (hs _ (by decide +kernel))
  obtain ⟨t2, z2, y2⟩ := law_static (A := fun q => s.heap.size ≤ q) "LacedSound$CurvePlan" "NUMBER_BITS" (sV 2) hnA (hts _ (tw_3 231 rfl)) (hts _ (tw_1 10 rfl)) (hs _ (by decide +kernel)) (hs _ (by decide +kernel)) (hs _ (by decide +kernel)) (hs _ (by decide +kernel)) (hs _ (by decide +kernel)) (hs _ (by decide +kernel))
  refine ⟨(fun c => Classical.choose (law_classes hA c), fun c => Classical.choose (Classical.choose_spec (law_classes hA c))), fun t => Classical.choose (law_arrays hA hts t), fun j => if j = 0 then t0 else if j = 1 then t1 else t2, fun N Ly => ⟨⟨fun c q hq => Classical.choose_spec (Classical.choose_spec (law_classes hA c)) q hq, fun k q hk => ?_⟩, fun w hw => ?_, ?_, fun j hj => ?_⟩, ?_⟩
  · have hl : k < 7 := by
      have := (List.getElem?_eq_some_iff.mp hk).1
      simpa [tysO] using this
    rw [tysO_at hl] at hk
    cases hk
    exact Classical.choose_spec (law_arrays hA hts k) hl
  · have h1 := List.mem_filter.mp hw
    have h2 := hts w h1.1
    have h3 := h1.2
    cases w <;> first | exact va_Nw.of rfl h2 | cases h3
  · show 0 < s.heap.size
    omega
  · have h3 : j = 0 ∨ j = 1 ∨ j = 2 := by omega
    rcases h3 with rfl | rfl | rfl
    · exact ⟨z0, y0⟩
    · exact ⟨z1, y1⟩
    · exact ⟨z2, y2⟩
  · exact ⟨va_AO.of (hts _ (tw_1 47 rfl)), va_AO.of (hts _ (tw_1 122 rfl)), va_AO.of (hts _ (tw_1 124 rfl)), va_AO.of (hts _ (tw_2 1 rfl)), over_moved (Vm.Alike.refl s.vm) (hts (Cond.arrayOver (.array .int)) (tw_2 52 rfl))⟩
/-- what is left for mathematics: the constructors' and the loop's predicates, at the start -/
def MATH (θ : TH) (K : Nat × (Nat → Int32)) : Prop := wp_S_init θ (tb θ + 0) (0 + 1) (fun _ _ => 0) (fun _ _ => 0) (fun N1 V1 U1 => vz θ N1 V1 U1 ∧ tL θ N1 = (0, 12, 69) ∧ wp_M_init θ (tb θ + N1) (N1 + 1) V1 U1 (fun N2 V2 U2 => ∃ n, wl_L_law_18 (θn θ N2) (tb θ + 0) (tb θ + N1) K n 0 V2 U2))
set_option maxRecDepth 100000 in
set_option maxHeartbeats 4000000 in
theorem whole_start_open (hm : ∀ (θ : TH) (K : Nat × (Nat → Int32)), 0 < tb θ → tL θ = lay → K.1 ≤ 2048 → MATH θ K) {p : Program} {e : Env} {s : State} {m : MethodId} {below : List Frame} {meth : Method} {c : Code} (l : Launch) {b L : Nat} {xs : Nat → Int32} (hL : L ≤ 2048) (C0 : lw_At p s m meth c b L xs) : W p l e room_1 s m #[Value.ref b] below meth c s.heap [] 0 0 (lw_Z below #[Value.ref b] s) (entryFrame m ([Value.ref b] : List Value).toArray 4) := by
  obtain ⟨D, C, S, hkn, hov⟩ := law_known C0
  obtain ⟨hx, hb, hr, hml, hown, hts, hX, hbl, hlk, hgv⟩ := C0
  have hA : ∀ w ∈ WA, w.before #[Value.ref b] s = true := fun w h => hts w (List.mem_filter.mp h).1
  obtain ⟨θ, hθ⟩ : ∃ θ : TH, θ = (s.heap.size, 0, lay, D, C, S) := ⟨_, rfl⟩
  have hC : Cx p s m #[Value.ref b] c kL_law 4 nRL θ := ⟨hx, hb, hml, hown, hA, by rw [hθ]; exact hkn 0 lay⟩
  have hbs : tb θ = s.heap.size := by rw [hθ]
  have hly : tL θ = lay := by rw [hθ]
  have hw : MATH θ (L, xs) := hm θ (L, xs) (by omega) hly hL
  have hl := lv_entry ([.ref b]) (n := 4) (Nat.le_of_ble_eq_true rfl)
  rw [lg_entry_eq]
  generalize (lg_sl ([.ref b]) ++ List.replicate (4 - (lg_sl ([.ref b])).length) Slot.unset).toArray = ls at hl ⊢
  have hl : lv_has ls 4 [(0, .ref b)] := hl
  have hS : Sx θ s s.heap [] := va_S.rf
  have hwo : wo (θn θ 0) (fun _ _ => 0) (fun _ _ => 0) s.heap := wo_of (fun k hk => absurd hk (Nat.not_lt_zero _))
  have hsz : s.heap.size = tb θ + 0 := hbs.symm
  have hv : vz θ 0 (fun _ _ => 0) (fun _ _ => 0) := fun a _ => ⟨rfl, rfl⟩
  refine n_new hC ci_0 nYS npS ndS clL_7 inS izS hwo hsz hS hv (by rw [hly]; rfl) (by decide) (by decide) dL_law_0 (fun H hwo hsz hS => ?_)
  refine lv_dup hx hb dL_law_3 rfl ?_
  unfold MATH at hw
  refine n_ctor (rest := [.ref (tb θ + 0)]) hC hov (c_S_init l θ _ _ _ _ _ hw) mi_S_init mlL_9 rfl mj_S_init hwo hsz hS ⟨rfl, rfl⟩ ⟨by decide, by decide⟩ rfl hl.1 rfl (Nat.le_of_ble_eq_true rfl) ⟨by decide, by decide⟩ dL_law_4 (fun N1 V1 U1 hw H locs hwo hsz hS => ?_)
  refine lv_astore_n (i := 1) (lv' := [(1, .ref (tb θ + 0)), (0, .ref b)]) hx hb dL_law_7 rfl hl (by decide) rfl (fun ls hl => ?_)
  obtain ⟨hv, hLM, hw⟩ := hw
  refine n_new hC ci_12 nYM npM ndM clL_10 inM izM hwo hsz hS hv hLM (by decide) (by decide) dL_law_8 (fun H hwo hsz hS => ?_)
  refine lv_dup hx hb dL_law_11 rfl ?_
  refine n_ctor (rest := [.ref (tb θ + N1)]) hC hov (c_M_init l θ _ _ _ _ _ hw) mi_M_init mlL_12 rfl mj_M_init hwo hsz hS ⟨rfl, rfl⟩ ⟨by decide, by decide⟩ rfl hl.1 rfl (Nat.le_of_ble_eq_true rfl) ⟨by decide, by decide⟩ dL_law_12 (fun N2 V2 U2 hw H locs hwo hsz hS => ?_)
  refine lv_astore_n (i := 2) (lv' := [(2, .ref (tb θ + N1)), (1, .ref (tb θ + 0)), (0, .ref b)]) hx hb dL_law_15 rfl hl (by decide) rfl (fun ls hl => ?_)
  refine lv_iconst (v := 0) hx hb dL_law_16 (by decide) ?_
  refine lv_istore_n (i := 3) (lv' := [(3, .int (0 : Int32)), (2, .ref (tb θ + N1)), (1, .ref (tb θ + 0)), (0, .ref b)]) hx hb dL_law_17 rfl hl (by decide) rfl (fun ls hl => ?_)
  obtain ⟨n, hw⟩ := hw
  exact law_loop l (θn θ N2) b (L, xs) (hC.n N2) hX hbl hbs hr hlk _ _ n _ _ _ _ _ _ hw hwo hS (lv_sub hl [3, 2, 1, 0] rfl)
