theorem inv0 : Inv (z0S, z0B) z0M := by
  refine ⟨4, 4, 4, 0, 0, fun _ _ => 0, ⟨by decide, by decide, by decide, by decide, by decide, fun _ _ => Nat.two_pow_pos 4, fun _ _ _ => rfl⟩, ⟨rfl, rfl, rfl, rfl, rfl, fun _ _ _ _ => rfl⟩, ⟨rfl, rfl, rfl, rfl, rfl, fun _ _ _ _ _ _ => by rw [Nat.zero_testBit]; rfl⟩, rfl, Or.inl rfl⟩
