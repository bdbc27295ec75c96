/-! 27: the start -/
theorem GP.zero : GP (0, fun _ => 0, fun _ => 0, fun _ => 0, fun _ => 0, fun _ => 0) mc0 mm0 := by
  refine ⟨by decide, rfl, rfl, fun k hk => absurd hk (Nat.not_lt_zero k), fun S hS => ?_⟩
  have h0 : S = 0 := by
    have : S < 1 := hS
    omega
  subst h0
  refine ⟨?_, ?_, ?_, ?_⟩
  · have e : un (0, fun _ => 0, fun _ => 0, fun _ => 0, fun _ => 0, fun _ => 0) 0 = 0 := by decide +kernel
    rw [e]; rfl
  · have e : sm (0, fun _ => 0, fun _ => 0, fun _ => 0, fun _ => 0, fun _ => 0) 0 = 0 := by decide +kernel
    rw [e]; rfl
  · have e : apt (0, fun _ => 0, fun _ => 0, fun _ => 0, fun _ => 0, fun _ => 0) 0 = true := by decide +kernel
    rw [e]; rfl
  · have e : mx (0, fun _ => 0, fun _ => 0, fun _ => 0, fun _ => 0, fun _ => 0) 0 = 0 := by decide +kernel
    rw [e]; rfl
theorem Rel.init : Rel mc0 mm0 := by
  refine ⟨(0, fun _ => 0, fun _ => 0, fun _ => 0, fun _ => 0, fun _ => 0), ⟨rfl, rfl, rfl, rfl, ?_⟩, ?_, ?_, GP.zero, ?_, ?_⟩
  · intro f hf; rfl
  · intro r hr
    rcases (show r = 0 ∨ r = 1 ∨ r = 2 ∨ r = 3 ∨ r = 4 ∨ r = 5 by omega) with rfl | rfl | rfl | rfl | rfl | rfl <;> exact ⟨rfl, Or.inl rfl⟩
  · intro r hr
    rcases (show r = 0 ∨ r = 1 ∨ r = 2 ∨ r = 3 by omega) with rfl | rfl | rfl | rfl <;> exact ⟨rfl, Or.inl rfl⟩
  · refine ⟨0, fun _ _ => nI 0, by omega, rfl, rfl, ⟨rfl, fun k hk => absurd hk (Nat.not_lt_zero k), fun i hi => absurd hi (Nat.not_lt_zero i), fun i _ => ⟨⟨0, by omega, rfl⟩, fun k hk => absurd hk (Nat.not_lt_zero k)⟩, fun i hi => absurd hi (Nat.not_lt_zero i)⟩, fun i hi => absurd hi (Nat.not_lt_zero i), fun j hj => ?_, ⟨rfl, rfl, rfl, fun k hk => absurd hk (Nat.not_lt_zero k)⟩⟩
    have : j = 0 := Nat.le_zero.mp hj
    subst this
    rfl
  · intro j hj
    rcases (show j = 0 ∨ j = 1 ∨ j = 2 by omega) with rfl | rfl | rfl <;> exact ⟨rfl, Or.inl rfl⟩
