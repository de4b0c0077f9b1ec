/-! PURE: at the start -/
theorem gp_rel0 : gp_rel gn_0 := by
  refine ⟨⟨rfl, fun r hr => ?_⟩, ⟨rfl, fun t ht => ?_⟩, ⟨rfl, rfl, rfl, rfl, fun f hf => ?_⟩, ⟨0, fun _ => 0, fun _ => 0, fun _ => 0, 0, fun _ => 0, ⟨Or.inl rfl, rfl, rfl, fun i hi => by omega, fun c hc => ?_⟩, ⟨by omega, fun _ => rfl, rfl, rfl, fun k hk => by omega, ⟨fun i hi => by omega, rfl, rfl, rfl⟩, fun k hk => ?_⟩, fun p hp => ?_⟩⟩
  · rcases (show r = 0 ∨ r = 1 ∨ r = 2 ∨ r = 3 ∨ r = 4 ∨ r = 5 by omega) with rfl | rfl | rfl | rfl | rfl | rfl <;> exact ⟨rfl, Or.inl rfl, fun i hi => rfl⟩
  · rcases (show t = 0 ∨ t = 1 ∨ t = 2 ∨ t = 3 by omega) with rfl | rfl | rfl | rfl <;> exact ⟨rfl, Or.inl rfl, fun i hi => rfl⟩
  · rfl
  · rfl
  · rw [show k = 0 by omega]
    exact ⟨fun i hi => by omega, rfl, rfl, rfl⟩
  · rcases (show p = 0 ∨ p = 1 ∨ p = 2 by omega) with rfl | rfl | rfl <;> exact ⟨rfl, Or.inl rfl⟩
