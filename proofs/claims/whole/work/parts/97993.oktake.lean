-- the call take
section OKTAKE
variable {θ : TH}
set_option maxHeartbeats 4000000 in
theorem ok_take (hθ : OKt θ) : OP_take θ (IW θ (RR θ (DCR θ))) := by
  intro V U Kc hI hk
  have hI' := hI
  obtain ⟨sw, n, r, w, h, hb, hU, hWV, hWM, hH, hO, hR, hLT, hHN, c, s, L, B, bk, g⟩ := hI
  have hDX : DCX θ V sw c s L B bk := g
  have hB4 : B ≤ 4 := hDX.2.2.2.2.2.2.2.2.2.1
  clear g
  have hco := cpA_or sw
  have hvo := vpA_or sw
  have hHN' := hHN
  obtain ⟨Ln, ob, a1, a2, a3, a4, a5, a6, a7, a8, a9⟩ := hHN
  unfold wp_S_take
  simp only [UC hU, IC hθ, true_and]
  refine ⟨by omega, fun q V5 h5 => ⟨by omega, ?_⟩, fun q => hk _ _ _ (fun Kf hf => ?_)⟩
  case refine_2 =>
    unfold wp_M_take
    simp only [IM hθ, true_and]
    rw [← a2]
    exact ⟨fun z => absurd q z, fun _ => hf V U hI'⟩
  obtain ⟨p, hpL, hpo⟩ : ∃ p : PK, p.L = Ln ∧ p.oc = ob := ⟨(ob, Ln), rfl, rfl⟩
  subst hpL hpo
  have hp : HP θ V5 p := ⟨a1, by rw [h5, up2_ab (by decide)]; exact a4, fun i hi => by rw [h5, up2_ne (by omega)]; exact ⟨(a9 i hi).1, (a9 i hi).2.2⟩⟩
  have hm : MP θ V5 p := ⟨a1, by rw [h5, up2_ne (by omega)]; exact a5, fun i hi => by rw [h5, up2_ne (by omega)]; exact (a9 i hi).2⟩
  have h38 : V5 (tb θ + 25) 4 = V5 (tb θ + 126) 38 := by rw [h5, up2_ab (by decide), up2_ne (by omega)]; exact a7
  have h37 : V5 (tb θ + 25) 3 = V5 (tb θ + 126) 37 := by rw [h5, up2_ab (by decide), up2_ne (by omega)]; exact a6
  have hD5 : DCX θ V5 sw c s L B bk := hDX.keep (fun j => by rw [h5, up2_ne (by omega)]) (fun j _ => by rw [h5, up2_ne (by omega)]) (fun k _ => ⟨by rw [h5, up2_ne (by omega)], by rw [h5, up2_ne (by omega)], by rw [h5, up2_ne (by omega)]⟩) (fun k b _ _ hb => hb.eq (fun a _ _ => by rw [h5, up2_ne (by omega)])) (fun a _ _ => by rw [h5, up2_ne (by omega)]) (fun a _ _ => by rw [h5, up2_ne (by omega)]) (fun a _ _ => by rw [h5, up2_ne (by omega)]) (fun j _ => by rw [h5, up2_ne (by omega)]) (by rw [h5, up2_ne (by omega)]) (fun la _ _ j _ _ => by rw [h5, up2_ne (by omega)])
  have fin : ∀ V1 V2 U2 sw2, CF θ V5 V1 → US θ sw2 U2 → DCR θ V2 sw2 → MF θ (up2 V1 (tb θ + 126) 34 0) V2 → IW θ (RR θ (DCR θ)) V2 U2 := by
    intro V1 V2 U2 sw2 hcf hU2 hD2 hmf
    have e126 : ∀ j, j ≠ 34 → j < 39 → V2 (tb θ + 126) j = V (tb θ + 126) j := fun j j1 j2 => by rw [hmf.2 j j2, up2_ab j1, hcf.1 _ (by omega) (by omega), h5, up2_ne (by omega)]
    exact IW_keep hWV hWM hH hO hR hLT hHN' (fun q q1 q2 => by rw [hmf.1 q (by omega), up2_ne (by omega), hcf.1 q q2 (by omega), h5, up2_ne q2]) (fun q q1 q2 => by rw [hmf.1 q (by omega), up2_ne (by omega), hcf.1 q (by omega) (by omega), h5, up2_ne (by omega)]) (fun j hj => e126 j (by omega) (by omega)) (e126 36 (by decide) (by decide)) (e126 37 (by decide) (by decide)) (e126 38 (by decide) (by decide)) (fun j j1 j2 => by rw [hmf.1 _ (by omega), up2_ne (by omega), hcf.2 j (by omega) (by omega), h5, up2_ab (by omega)]) (by rw [hmf.1 _ (by omega), up2_ne (by omega), hcf.2 1 (by decide) (by decide), h5, up2_aa]) (by rw [hmf.2 34 (by decide), up2_aa]) hU2 hD2
  have hcf0 : ∀ v, CF θ V5 (cS θ V5 v) := fun v => ⟨fun q a _ => cS_ne a, fun j a b => cS_j a b⟩
  have same : ∀ v u, IW θ (RR θ (DCR θ)) (mS θ (up2 (cS θ V5 v) (tb θ + 126) 34 0) u) U := fun v u => fin _ _ _ sw (hcf0 v) hU (DCR_of (hD5.keep (fun j => by rw [mS_ne (by omega), up2_ne (by omega), cS_ne (by omega)]) (fun j hj => by rw [mS_j (by omega) (by omega)]; exact (hcf0 v).j (by omega)) (fun k _ => ⟨by rw [mS_ne (by omega), up2_ne (by omega), cS_ne (by omega)], by rw [mS_ne (by omega), up2_ne (by omega), cS_ne (by omega)], by rw [mS_ne (by omega), up2_ne (by omega), cS_ne (by omega)]⟩) (fun k b _ _ hb => hb.eq (fun a _ _ => by rw [mS_ne (by omega)]; exact (hcf0 v).m (by omega))) (fun a _ _ => by rw [mS_ne (by omega), up2_ne (by omega), cS_ne (by omega)]) (fun a _ _ => by rw [mS_ne (by omega)]; exact (hcf0 v).m (by omega)) (fun a _ _ => by rw [mS_ne (by omega), up2_ne (by omega), cS_ne (by omega)]) (fun j _ => by rw [mS_ne (by omega), up2_ne (by omega), cS_ne (by omega)]) (by rw [mS_ne (by omega), up2_ne (by omega), cS_ne (by omega)]) (fun la _ _ j _ _ => by rw [mS_ne (by omega), (hcf0 v).m (by omega)]))) ⟨fun q hq => by rw [mS_ne (by omega)], fun j hj => by rw [mS_j (by omega) (by omega)]⟩
  obtain ⟨t0, ht0⟩ : ∃ t0 : RS, t0 = (0, false) := ⟨_, rfl⟩
  have h00 : t0.1 ≤ 8 * p.L := by rw [ht0]; exact Nat.zero_le _
  have r1 := rdV_lt p 1 t0
  have r7 := rdV_lt p 7 (rdS p 1 t0)
  have mod : ∀ V1 U1 sw1, CF θ V5 V1 → US θ sw1 U1 → ∀ Kf : Int32 → VT → UT → Prop, ((rdS p 1 t0).2 = true → Kf 0 (mS θ (up2 V1 (tb θ + 126) 34 0) (rdS p 1 t0)) U1) → ((rdS p 1 t0).2 = false → (¬ rdV p 1 t0 = 0 → wb_M_take_57 θ (tb θ + 126) (1 + 2 * nI (rdV p 7 (rdS p 1 t0))) Kf (mS θ (up2 V1 (tb θ + 126) 34 0) (rdS p 7 (rdS p 1 t0))) U1) ∧ (rdV p 1 t0 = 0 → wb_M_take_57 θ (tb θ + 126) 2 Kf (mS θ (up2 V1 (tb θ + 126) 34 0) (rdS p 1 t0)) U1)) → wp_M_take θ (tb θ + 126) V1 U1 Kf := by
    intro V1 U1 sw1 hcf hU1 Kf k0 k1
    unfold wp_M_take
    simp only [IM hθ, true_and]
    have e34 : V1 (tb θ + 126) 34 = V (tb θ + 25) 1 := by rw [hcf.1 _ (by omega) (by omega), h5, up2_ne (by omega)]; exact a2.symm
    rw [e34]
    refine ⟨fun _ V3 h3 V4 h4 V6 h6 => ?_, fun z => absurd z q⟩
    rw [h3] at h4
    rw [h4] at h6
    have h6' : V6 = mS θ (up2 V1 (tb θ + 126) 34 0) t0 := by rw [ht0]; exact h6
    rw [h6']
    refine m_read hθ hU1 (hcf.mp hm) h00 (k := 1) (by decide) ⟨fun z => ?_, fun z => ?_⟩
    · rw [mS_40] at z
      obtain ⟨x1, x2⟩ := k1 (bZ_0.1 z)
      exact ⟨fun y => m_read hθ hU1 (hcf.mp hm) (rdS_ok 1 h00) (k := 7) (by decide) (x1 (fun e => y (by rw [e]; rfl))), fun y => x2 ((nI_eq (b := 0) (by omega) (by decide)).1 y)⟩
    · cases e : (rdS p 1 t0).2
      · rw [mS_40, e] at z; exact absurd rfl z
      · exact k0 e
  have use : ∀ (x : Int32) (u : RS) (wpD wpM : VT → UT → (Int32 → VT → UT → Prop) → Prop), DEC θ V5 U u wpD wpM → (∀ V1 U1 sw1, CF θ V5 V1 → US θ sw1 U1 → ∀ Kf : Int32 → VT → UT → Prop, wpM (mS θ (up2 V1 (tb θ + 126) 34 0) u) U1 (fun r V2 U2 => wb_M_take_107 θ x r Kf V2 U2) → wp_M_take θ (tb θ + 126) V1 U1 Kf) → wpD (cS θ V5 u) U (fun r V1 U1 => (r = 0 → Kc 0 V1 U1) ∧ (¬ r = 0 → Kc x V1 U1)) := by
    intro x u wpD wpM hd hmod
    refine hd _ (fun b V1 U1 hcf hUe hw => ?_)
    obtain ⟨sw1, hU1⟩ := hUe
    cases b
    · refine ⟨fun _ => hk 0 V1 U1 (fun Kf hf => hmod V1 U1 sw1 hcf hU1 Kf (hw _ (fun V2 U2 sw2 h1 h2 h3 => ?_))), fun z => absurd rfl z⟩
      unfold wb_M_take_107
      exact ⟨fun _ => hf V2 U2 (fin V1 V2 U2 sw2 hcf h1 h2 h3), fun z => absurd rfl z⟩
    · refine ⟨fun z => absurd z (by decide), fun _ => hk x V1 U1 (fun Kf hf => hmod V1 U1 sw1 hcf hU1 Kf (hw _ (fun V2 U2 sw2 h1 h2 h3 => ?_)))⟩
      unfold wb_M_take_107
      exact ⟨fun z => absurd z (by decide), fun _ => hf V2 U2 (fin V1 V2 U2 sw2 hcf h1 h2 h3)⟩
  unfold wp_D_decode wp_H_rewind
  simp only [dcU hθ hU, true_and]
  refine ⟨by omega, fun V3 h3 V4 h4 => ?_⟩
  rw [h3] at h4
  have h4' : V4 = cS θ V5 t0 := by rw [ht0]; exact h4
  rw [h4']
  clear h4 h3 h4'
  rw [cS_j (by decide) (by decide), hp.2.1]
  have l0 : nI p.L = 0 ↔ p.L = 0 := nI_eq (b := 0) (by omega) (by decide)
  rw [l0]
  refine ⟨by omega, fun hl => ?_, fun hl => hk 0 _ _ (fun Kf hf => mod _ U sw (hcf0 t0) hU Kf (fun _ => hf _ _ (same _ _)) (fun e => ?_))⟩
  case refine_2 =>
    exfalso
    have : (rdS p 1 t0) = (t0.1, true) := by
      unfold rdS; rw [if_pos (Or.inr (by rw [ht0]; show 8 * p.L < 0 + 1; omega))]
    rw [this] at e; cases e
  have t12 : (rdS p 1 t0).2 = false := by
    unfold rdS; rw [if_neg (fun z => ?_)]
    rcases z with z | z
    · rw [ht0] at z; cases z
    · rw [ht0] at z; have z' : 8 * p.L < 0 + 1 := z; omega
  have no12 : ∀ P : Prop, (rdS p 1 t0).2 = true → P := fun P z => by rw [t12] at z; cases z
  have ht1 : (rdS p 1 t0).1 ≤ 8 * p.L := rdS_ok 1 h00
  have ht2 : (rdS p 7 (rdS p 1 t0)).1 ≤ 8 * p.L := rdS_ok 7 ht1
  refine s_flag hθ hU hp h00 ⟨fun hr => ?_, fun hr => ?_⟩
  · have hr' : ¬ rdV p 1 t0 = 0 := fun e => hr (by rw [e]; rfl)
    simp only [dcU hθ hU, true_and]
    refine ⟨by omega, s_read hθ hU hp ht1 (k := 7) (by decide) (fun y e => ?_)⟩
    have ey : y = nI (2 * rdV p 7 (rdS p 1 t0) + 1) := by
      rw [e, pk_shlN _ 1 (by decide) (by omega), show (1 : Int32) = nI 1 from rfl, or_add (k := 1) (by decide) (by omega) (by decide)]
      congr 1
      omega
    have ev : (1 : Int32) + 2 * nI (rdV p 7 (rdS p 1 t0)) = y := by
      rw [ey, show (2 : Int32) * nI (rdV p 7 (rdS p 1 t0)) = nI (2 * rdV p 7 (rdS p 1 t0)) from pk_mul 2 _, show (1 : Int32) = nI 1 from rfl, nI_add, Nat.add_comm]
    clear e
    refine ⟨fun e => ?_, fun e => ?_, fun e => ?_, fun e1 e3 e5 => ?_⟩
    · refine use 1 _ _ _ (dec_format hθ hU hp hm ht2 hD5) (fun V1 U1 sw1 hcf hU1 Kf hw => mod V1 U1 sw1 hcf hU1 Kf (no12 _) (fun _ => ⟨fun _ => ?_, fun z => absurd z hr'⟩))
      rw [ev, e]
      unfold wb_M_take_57
      exact ⟨fun z => absurd rfl z, fun _ => ⟨(IM hθ).1, hw⟩⟩
    · refine use 3 _ _ _ (dec_book hθ hU hp hm ht2 hD5) (fun V1 U1 sw1 hcf hU1 Kf hw => mod V1 U1 sw1 hcf hU1 Kf (no12 _) (fun _ => ⟨fun _ => ?_, fun z => absurd z hr'⟩))
      rw [ev, e]
      unfold wb_M_take_57
      exact ⟨fun _ => ⟨fun z => absurd rfl z, fun _ => ⟨(IM hθ).1, hw⟩⟩, fun z => absurd z (by decide)⟩
    · refine use 5 _ _ _ (dec_setup hθ hU hp hm ht2 hD5) (fun V1 U1 sw1 hcf hU1 Kf hw => mod V1 U1 sw1 hcf hU1 Kf (no12 _) (fun _ => ⟨fun _ => ?_, fun z => absurd z hr'⟩))
      rw [ev, e]
      unfold wb_M_take_57
      exact ⟨fun _ => ⟨fun _ => ⟨fun z => absurd rfl z, fun _ => ⟨(IM hθ).1, hw⟩⟩, fun z => absurd z (by decide)⟩, fun z => absurd z (by decide)⟩
    · refine hk 0 _ _ (fun Kf hf => mod _ U sw (hcf0 _) hU Kf (no12 _) (fun _ => ⟨fun _ => ?_, fun z => absurd z hr'⟩))
      rw [ev]
      unfold wb_M_take_57 wb_M_take_107
      refine ⟨fun _ => ⟨fun _ => ⟨fun _ => ⟨fun _ => ⟨fun _ => hf _ _ (same _ _), fun z => absurd rfl z⟩, fun z => ?_⟩, fun z => absurd z e5⟩, fun z => absurd z e3⟩, fun z => absurd z e1⟩
      exfalso
      rw [ey] at z
      have := (nI_eq (a := 2 * rdV p 7 (rdS p 1 t0) + 1) (b := 2) (by omega) (by decide)).1 z
      omega
  · have hr' : rdV p 1 t0 = 0 := (nI_eq (b := 0) (by omega) (by decide)).1 hr
    refine use 2 _ _ _ (dec_sound hθ hU hp hm ht1 hD5 h38 h37) (fun V1 U1 sw1 hcf hU1 Kf hw => mod V1 U1 sw1 hcf hU1 Kf (no12 _) (fun _ => ⟨fun z => absurd hr' z, fun _ => ?_⟩))
    unfold wb_M_take_57
    exact ⟨fun _ => ⟨fun _ => ⟨fun _ => ⟨fun z => absurd rfl z, fun _ => ⟨(IM hθ).1, hw⟩⟩, fun z => absurd z (by decide)⟩, fun z => absurd z (by decide)⟩, fun z => absurd z (by decide)⟩
end OKTAKE
