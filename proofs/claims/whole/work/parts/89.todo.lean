theorem op_about {ux : St × St} {um : St} (hI : Inv ux um) (a p w : Int32) : P_X4_about ux a p w (fun r => P_X5_about um a p w (fun r' um' => r = r' ∧ Inv ux um')) := by
  sorry
theorem op_best {ux : St × St} {um : St} (hI : Inv ux um) (a b : Int32) : P_X4_best ux a b (fun r ux' => P_X5_best um a b (fun r' um' => r = r' ∧ Inv ux' um')) := by
  sorry
theorem op_told {ux : St × St} {um : St} (hI : Inv ux um) (w : Int32) : P_X4_told ux w (fun r => P_X5_told um w (fun r' um' => r = r' ∧ Inv ux um')) := by
  sorry
theorem op_lay {ux : St × St} {um : St} (hI : Inv ux um) (w h k : Int32) : P_X4_lay ux w h k (fun r ux' => P_X5_lay um w h k (fun r' um' => r = r' ∧ Inv ux' um')) := by
  sorry
theorem inv0 : Inv (z0S, z0B) z0M := by
  refine ⟨4, 4, 4, 0, 0, fun _ _ => 0, ⟨by decide, by decide, by decide, by decide, by decide, fun _ _ => Nat.two_pow_pos 4, fun _ _ _ => rfl⟩, ⟨rfl, rfl, rfl, rfl, rfl, fun _ _ _ _ => rfl⟩, ⟨rfl, rfl, rfl, rfl, rfl, fun _ _ _ _ _ _ => by rw [Nat.zero_testBit]; rfl⟩, rfl, Or.inl rfl⟩
