/-! the 48 calls keep the invariant -/
theorem sims_ok : ∃ Inv : Nat → xSt → Prop, Inv 513 xInit ∧ (∀ n, Sims (Inv (n + 1)) (Inv n)) ∧ ∀ n σ, Inv (n + 1) σ → Inv n σ := by
  refine ⟨InvN, inv_init, fun n => ⟨sim_feed, sim_end, sorry, sim_fault, sim_thing, sim_side, sim_share, sorry, sim_node, sim_nodeOf, sim_next, sim_deep, sorry, sorry, sorry, sorry, sorry, sorry, sorry, sim_judged, sim_pairs, sim_spared, sim_pasts, sim_counted, sim_bit, sim_countedMean, sim_shared, sim_took, sorry, sorry, sorry, sorry, sim_luck, sim_runs, sim_seldom, sorry, sim_bestMean, sorry, sorry, sim_byteAt, sorry, sim_tosses, sorry, sorry, sorry, sorry, sorry, sim_count⟩, fun n σ h => ⟨h.1, ?_⟩⟩
  have := h.2
  omega
