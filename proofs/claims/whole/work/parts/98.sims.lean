/-! what is left to show -/
theorem sims_ok : ∃ Inv : Nat → xSt → Prop, Inv 513 xInit ∧ (∀ n, Sims (Inv (n + 1)) (Inv n)) ∧ ∀ n σ, Inv (n + 1) σ → Inv n σ := sorry
