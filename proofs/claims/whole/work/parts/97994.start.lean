-- the store that the constructors leave
theorem I_start (θ : TH) : IW θ (RR θ (DCR θ)) (vf vI (tb θ)) (uf uI (tb θ)) := by
  have z : ∀ (i j : Nat) (x : Int32), vI i j = x → vf vI (tb θ) (tb θ + i) j = x := fun i j x h => by rw [vf_at, h]
  have z2 : ∀ (i j i2 j2 : Nat), vI i j = vI i2 j2 → vf vI (tb θ) (tb θ + i) j = vf vI (tb θ) (tb θ + i2) j2 := fun i j i2 j2 h => by rw [vf_at, vf_at, h]
  have no : ∀ {P : Nat → Prop} (i : Nat), i < 0 → P i := fun i hi => absurd hi (Nat.not_lt_zero i)
  refine ⟨false, 0, 0, fun _ => 0, 0, fun _ => 0, rfl, ?_, ?_, ?_, ?_, ?_, ?_, ?_, ?_⟩
  · exact ⟨z 1 1 _ (by decide +kernel), by decide, z 1 2 _ (by decide +kernel), by decide, fun i hi => absurd hi (Nat.not_lt_zero i)⟩
  · exact ⟨z 126 1 _ (by decide +kernel), by decide, z 126 2 _ (by decide +kernel), by decide, fun i hi => absurd hi (Nat.not_lt_zero i)⟩
  · exact ⟨by decide, z 0 2 _ (by decide +kernel), z 126 4 _ (by decide +kernel), fun i hi => absurd hi (Nat.not_lt_zero i)⟩
  · intro k hk
    have : k = 0 ∨ k = 1 ∨ k = 2 ∨ k = 3 := by omega
    rcases this with rfl | rfl | rfl | rfl <;> exact ⟨0, fun _ => 0, fun _ => 0, fun _ => 0, fun _ _ => 0, by decide, z _ _ _ (by decide +kernel), z _ _ _ (by decide +kernel), fun i hi => absurd hi (Nat.not_lt_zero i), z _ _ _ (by decide +kernel), fun i hi => absurd hi (Nat.not_lt_zero i), z2 _ _ _ _ (by decide +kernel), z2 _ _ _ _ (by decide +kernel), Or.inl (z _ _ _ (by decide +kernel))⟩
  · refine ⟨[], 0, Nat.le_refl 0, by decide, ⟨0, ⟨fun k hk => ?_, z 27 4 _ (by decide +kernel), z 27 7 _ (by decide +kernel), fun j hj => absurd hj (Nat.not_lt_zero j)⟩, fun pg h => by cases h⟩, z 27 5 _ (by decide +kernel), Nat.zero_le _, z 126 13 _ (by decide +kernel), fun j hj => absurd hj (Nat.not_lt_zero j), z 126 14 _ (by decide +kernel), z 126 21 _ (by decide +kernel), z 126 22 _ (by decide +kernel), fun j hj => absurd hj (Nat.not_lt_zero j)⟩
    have : k = 0 ∨ k = 1 ∨ k = 2 := by omega
    rcases this with rfl | rfl | rfl
    · exact ⟨Or.inl ⟨rfl, z 33 0 _ (by decide +kernel)⟩, ⟨z 34 1 _ (by decide +kernel), z 34 2 _ (by decide +kernel), fun j hj => absurd hj (Nat.not_lt_zero j)⟩, Nat.zero_le _⟩
    · exact ⟨Or.inl ⟨rfl, z 36 0 _ (by decide +kernel)⟩, ⟨z 37 1 _ (by decide +kernel), z 37 2 _ (by decide +kernel), fun j hj => absurd hj (Nat.not_lt_zero j)⟩, Nat.zero_le _⟩
    · exact ⟨Or.inl ⟨rfl, z 39 0 _ (by decide +kernel)⟩, ⟨z 40 1 _ (by decide +kernel), z 40 2 _ (by decide +kernel), fun j hj => absurd hj (Nat.not_lt_zero j)⟩, Nat.zero_le _⟩
  · exact ⟨z2 30 0 126 30 (by decide +kernel), Or.inl (z 30 0 0 (by decide +kernel))⟩
  · exact ⟨0, fun _ => 0, by decide, z2 25 1 126 34 (by decide +kernel), Or.inl (z 25 1 0 (by decide +kernel)), z 25 2 _ (by decide +kernel), z 126 36 _ (by decide +kernel), z2 25 3 126 37 (by decide +kernel), z2 25 4 126 38 (by decide +kernel), Or.inl (z 25 4 0 (by decide +kernel)), fun i hi => absurd hi (Nat.not_lt_zero i)⟩
  · exact ⟨0, 0, 0, 0, fun _ => (0, 0, fun _ => 0, fun _ => 0, false, fun _ _ => 0), by decide, z 66 3 _ (by decide +kernel), z 126 41 _ (by decide +kernel), fun h => absurd h (Nat.lt_irrefl 0), z 66 4 _ (by decide +kernel), z 126 42 _ (by decide +kernel), z 66 5 _ (by decide +kernel), z 126 43 _ (by decide +kernel), z2 66 15 126 68 (by decide +kernel), by decide, z 66 2 _ (by decide +kernel), z 126 44 _ (by decide +kernel), fun i hi => absurd hi (Nat.not_lt_zero i), Or.inl ⟨z 126 54 0 (by decide +kernel), z 66 11 0 (by decide +kernel)⟩, Or.inl ⟨z 66 6 0 (by decide +kernel), z 126 53 (-1) (by decide +kernel)⟩⟩
/-- the twenty calls keep it -/
theorem ops_keep {θ : TH} (hθ : OKt θ) : OPS θ (IW θ (RR θ (DCR θ))) := by
  have hG : RG θ (RR θ (DCR θ)) := RG_RR DG_DCR
  exact ⟨ok_add hθ hG, ok_send hθ hG, ok_flush hθ hG, ok_raw hθ hG, ok_alter hθ hG, ok_cut hθ hG, ok_wire hθ, ok_length hθ, ok_next hθ DG_DCR, ok_amount hθ, ok_serial hθ, ok_time hθ, ok_octet hθ, ok_pieces hθ, ok_take hθ, ok_entry hθ, ok_block hθ, ok_curve hθ, ok_value hθ, ok_samples hθ⟩
