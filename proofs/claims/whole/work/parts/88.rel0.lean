/-! ===== the two new objects stand for one another ===== -/
theorem zσX_z {b j : Nat} (h : ¬ ((b = 17 ∨ b = 28) ∧ j = 9)) : zσX.1 b j = nI 0 := by
  show (if b = 17 then (fun j => if j = 9 then (2 : Int32) else 0) else if b = 28 then (fun j => if j = 9 then 2 else 0) else fun _ => 0) j = nI 0
  by_cases h1 : b = 17
  · rw [if_pos h1]
    show (if j = 9 then (2 : Int32) else 0) = nI 0
    rw [if_neg (by omega)]; rfl
  · rw [if_neg h1]
    by_cases h2 : b = 28
    · rw [if_pos h2]
      show (if j = 9 then (2 : Int32) else 0) = nI 0
      rw [if_neg (by omega)]; rfl
    · rw [if_neg h2]; rfl
theorem zσM_z {b j : Nat} (h : ¬ (b = 2 ∧ j = 2)) : zσM.1 b j = nI 0 := by
  unfold zσM
  rw [si1, if_neg h, si1]
  split
  · rfl
  · rw [si1]
    split <;> rfl
theorem Rel_0 : Rel 0 zσX zσM := by
  have n0 : ∀ i : Nat, ¬ i < 0 := Nat.not_lt_zero
  refine ⟨fun a i => if a = 0 ∧ i = 2 then 2 else 0, fun _ _ _ _ => 1, fun _ => 0, fun _ _ => 0, fun _ _ => 0, ⟨Or.inl ⟨rfl, rfl⟩, Or.inl ⟨rfl, rfl⟩⟩, ⟨by decide, by decide, by decide, by decide, fun i hi => absurd hi (n0 i), fun i hi => absurd hi (n0 i)⟩, fun _ _ _ _ => (by decide : (1 : Nat) ≤ 9), ⟨rfl, ?_, ?_, ?_, fun i hi => absurd hi (n0 i), fun i hi => absurd hi (n0 i)⟩, ?_, ⟨?_, ?_, ?_, fun i hi => absurd hi (n0 i), fun i hi => absurd hi (n0 i)⟩, ?_, ⟨fun _ => [], fun _ => [], fun i hi => absurd hi (n0 i), fun i hi => absurd hi (n0 i)⟩, ⟨rfl, ?_, ?_, ?_, ?_, ?_⟩, ?_, ⟨Nat.le_refl 0, Nat.le_refl _, Nat.le_refl 0, fun i hi => absurd hi (n0 i), fun _ _ _ => rfl, fun i hi => absurd hi (n0 i), fun _ _ _ => rfl⟩, ⟨rfl, ?_, fun k hk => absurd hk (n0 k)⟩, ⟨?_, fun k hk => absurd hk (n0 k)⟩, ⟨by decide, fun k hk => absurd hk (n0 k)⟩, ⟨rfl, ?_, fun k hk => absurd hk (n0 k)⟩, ⟨?_, fun k hk => absurd hk (n0 k)⟩, ⟨by decide, fun k hk => absurd hk (n0 k)⟩, ⟨0, fun _ => 0, by decide, ?_, ?_, fun k hk => absurd hk (n0 k)⟩, ⟨0, 0, fun _ _ => 0, by decide, by decide, ?_, ?_, ?_, fun k hk => absurd hk (n0 k)⟩, fun j hj => ⟨0, by decide, ?_, ?_, fun h => absurd h (by decide)⟩⟩
  · exact zσX_z (b := 17) (by omega)
  · exact zσX_z (b := 17) (by omega)
  · rfl
  · exact EX_0 (T := 17) (Or.inl rfl) (zσX_z (by omega))
  · exact zσM_z (by omega)
  · exact zσM_z (by omega)
  · rfl
  · exact EM_0 ((zσM_z (by omega)).trans (zσM_z (by omega)).symm)
  · exact zσX_z (by omega)
  · exact zσX_z (by omega)
  · exact zσX_z (by omega)
  · exact fun i hi => zσX_z (by omega)
  · exact fun i hi => zσX_z (by omega)
  · exact fun k hk => zσM_z (by omega)
  · exact zσX_z (b := 39) (by omega)
  · exact zσM_z (by omega)
  · exact zσX_z (by omega)
  · exact zσM_z (by omega)
  · exact zσX_z (by omega)
  · exact zσM_z (by omega)
  · exact zσX_z (by omega)
  · exact zσX_z (by omega)
  · exact zσM_z (by omega)
  · exact zσX_z (by omega)
  · exact zσM_z (by omega)
