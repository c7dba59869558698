/-! the 48 calls keep the invariant -/
theorem sims_ok : ∃ Inv : Nat → xSt → Prop, Inv 513 xInit ∧ (∀ n, Sims (Inv (n + 1)) (Inv n)) ∧ ∀ n σ, Inv (n + 1) σ → Inv n σ := by
  refine ⟨InvN, inv_init, fun n => ⟨sim_feed, sim_end, sim_table, sim_fault, sim_thing, sim_side, sim_share, sim_way, sim_node, sim_nodeOf, sim_next, sim_deep, sim_chance, sim_chanceAt, sim_mean, sim_poly, sim_like, sim_even, sim_evening, sim_judged, sim_pairs, sim_spared, sim_pasts, sim_counted, sim_bit, sim_countedMean, sim_shared, sim_took, sim_fewest, sim_nearest, sim_off, sim_mixed, sim_luck, sim_runs, sim_seldom, sim_best, sim_bestMean, sim_take, sim_write, sim_byteAt, sim_cast, sim_tosses, sim_casts, sim_sentence, sim_said, sim_image, sim_restore, sim_count⟩, fun n σ h => ⟨h.1, ?_⟩⟩
  have := h.2
  omega
