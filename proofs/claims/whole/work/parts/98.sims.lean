/-! what is left to show -/
theorem sims_ok : ∃ Inv : xSt → Prop, Inv xInit ∧ Sims Inv := sorry
