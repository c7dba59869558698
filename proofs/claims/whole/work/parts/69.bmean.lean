/-! bestMean -/
theorem sim_bestMean {n : Nat} : ∀ p1 : Int, in32 p1 → SimT (InvN (n + 1)) (InvN n) (f_X_bestMean p1) (f_M_bestMean p1) := by
  intro p1 _
  refine simT0 (fun σ h => ?_)
  obtain ⟨-, -, -, hr, -⟩ := h.2.2.2.2.2.2.2
  by_cases hp : σ 106 0 = 1 ∧ 0 ≤ p1 ∧ p1 ≤ 1
  · obtain ⟨h0, hp0, hp1⟩ := hp
    obtain ⟨hx, -⟩ | ⟨-, h58, -, -, -, e1, e2, -⟩ := hr
    · omega
    by_cases hz : p1 = 0
    · refine ⟨some (σ 106 1), σ, σ 106 1, upS (upS σ 139 0 (σ 106 1)) 111 0 0, ?_, ?_, Or.inr ⟨rfl, _, rfl, rfl, rfl⟩, inv_thr (inv_out h), rfl⟩
      · unfold f_X_bestMean f_Fraction_part
        rw [if_neg (by omega), x_isWithin, if_pos (by omega), xbR_s, if_neg (by decide), if_pos hz, xbR_s]
      · show f_M_bestMean p1 (upS σ 139 0 (σ 106 1)) = _
        have q2 : upS σ 139 0 (σ 106 1) 111 58 = σ 111 58 := rfl
        have q3 : upS (upS σ 139 0 (σ 106 1)) 111 0 0 111 60 = σ 111 60 := rfl
        unfold f_M_bestMean
        rw [q2, if_neg (by omega), m_isIn, if_pos (by omega), xbR_s, if_neg (by decide), xlet_s, if_pos hz, q3, e1]
    · refine ⟨some (σ 106 2), σ, σ 106 2, upS (upS σ 139 0 (σ 106 2)) 111 0 0, ?_, ?_, Or.inr ⟨rfl, _, rfl, rfl, rfl⟩, inv_thr (inv_out h), rfl⟩
      · unfold f_X_bestMean f_Fraction_part
        rw [if_neg (by omega), x_isWithin, if_pos (by omega), xbR_s, if_neg (by decide), if_neg hz, xbR_s]
      · show f_M_bestMean p1 (upS σ 139 0 (σ 106 2)) = _
        have q2 : upS σ 139 0 (σ 106 2) 111 58 = σ 111 58 := rfl
        have q3 : upS (upS σ 139 0 (σ 106 2)) 111 0 0 111 61 = σ 111 61 := rfl
        unfold f_M_bestMean
        rw [q2, if_neg (by omega), m_isIn, if_pos (by omega), xbR_s, if_neg (by decide), xlet_s, if_neg hz, q3, e2]
  · refine ⟨none, σ, 0, upS σ 111 0 1, ?_, ?_, Or.inl ⟨rfl, rfl⟩, inv_thr h, rfl⟩
    · unfold f_X_bestMean
      by_cases h0 : σ 106 0 = 0
      · rw [if_pos h0]
      · rw [if_neg h0, x_isWithin]
        rcases hr with ⟨hx, -⟩ | ⟨hx, -⟩
        · omega
        · rw [if_neg (by omega), xbR_s, if_pos rfl]
    · show f_M_bestMean p1 σ = _
      unfold f_M_bestMean f_M_bestMean_17 f_M_refuseLong
      by_cases h0 : σ 111 58 = -1
      · rw [if_pos h0, xlet_s, xbW_s]
      · rw [if_neg h0, m_isIn]
        rcases hr with ⟨-, hx⟩ | ⟨hx, -⟩
        · omega
        · rw [if_neg (by omega), xbR_s, if_pos rfl, xlet_s, xbW_s]
