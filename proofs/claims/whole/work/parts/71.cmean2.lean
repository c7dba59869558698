/-! countedMean: the call -/
theorem cm35 {l1 l2 l3 l4 : Int} {σ : xSt} : f_X_countedMean_35 l1 l2 l3 l4 σ = some (none, σ) := by
  unfold f_X_countedMean_35 f_X_countedMean_36
  rw [if_pos rfl]
theorem cm36n {l1 l2 l3 l4 : Int} {σ : xSt} (h : ¬ (0 ≤ l4 ∧ l4 < 2)) : f_X_countedMean_36 l1 l2 l3 l4 1 σ = some (none, σ) := by
  unfold f_X_countedMean_36
  rw [if_neg (by decide), x_isWithin, if_neg h, xbR_s, if_pos rfl]
theorem sim_countedMean {n : Nat} : ∀ p1 p2 p3 p4 : Int, in32 p1 → in32 p2 → in32 p3 → in32 p4 → SimT (InvN (n + 1)) (InvN n) (f_X_countedMean p1 p2 p3 p4) (f_M_countedMean p1 p2 p3 p4) := by
  intro p1 p2 p3 p4 _ _ _ _
  refine simT0 (fun σ h => ?_)
  by_cases hp : (1 ≤ p1 ∧ p1 ≤ 16) ∧ (2 ≤ p3 ∧ p3 ≤ 9) ∧ (0 ≤ p2 ∧ p2 ≤ p3) ∧ 0 ≤ p4 ∧ p4 ≤ 1
  · obtain ⟨N, rfl⟩ : ∃ a : Nat, p1 = (a : Int) := ⟨p1.toNat, by omega⟩
    obtain ⟨a, rfl⟩ : ∃ a : Nat, p2 = (a : Int) := ⟨p2.toNat, by omega⟩
    obtain ⟨d, rfl⟩ : ∃ d : Nat, p3 = ((a + d : Nat) : Int) := ⟨p3.toNat - a, by omega⟩
    have hN : N ≤ 16 := by omega
    have ha : a + d ≤ 9 := by omega
    have hu := cs_lt (N := N) (a := a) (d := d) (h := N + 1) hN ha (Nat.le_refl _)
    have hb2 := pw_le (a := a + d) (h := N) ha hN
    have hpos : 0 < (a + d) ^ N := Nat.pow_pos (by omega)
    have x0 := x_cs5 (N := N) (a := a) (d := d) (σ := σ) hN ha (N + 1) 1000000 0 (by omega) (by omega)
    have z : csN N a d 0 = 0 := Eq.trans rfl rfl
    have m0 : ∀ τ : xSt, f_M_countedMean_55 1000000 (N : Int) (a : Int) ((a + d : Nat) : Int) p4 0 0 τ = some (rdI (csN N a d (N + 1) : Int) ((a + d) ^ N) p4, τ) := by
      intro τ
      have k := m_cm55 (N := N) (a := a) (d := d) (what := p4) (σ := τ) hN ha (N + 1) 1000000 0 (by omega) (by omega)
      rw [z, c0n] at k
      rw [k, m_power (by omega) hb2, xbR_s, m_part (by omega) (by omega) hpos hb2, xbR_s]
    have e2 : w32 (((a + d : Nat) : Int) - (a : Int)) = (d : Int) := (w32_o (by omega) (by omega)).trans (by omega)
    have pw : f_Fraction_power ((a + d : Nat) : Int) (N : Int) σ = some ((((a + d) ^ N : Nat)) : Int) := x_power (by omega) hb2
    have ht := x_told (σ := σ) (u := (csN N a d (N + 1) : Int)) (b := (a + d) ^ N) (what := p4) (by omega) (by omega) hpos hb2
    rw [z, c0n] at x0
    have hX : f_X_countedMean (N : Int) (a : Int) ((a + d : Nat) : Int) p4 σ = some (some (rdI (csN N a d (N + 1) : Int) ((a + d) ^ N) p4), upS (upS (upS σ 95 1 (rdI (csN N a d (N + 1) : Int) ((a + d) ^ N) 0)) 95 2 (rdI (csN N a d (N + 1) : Int) ((a + d) ^ N) 1)) 95 0 1) := by
      unfold f_X_countedMean
      rw [if_neg (by omega), if_neg (by omega), if_neg (by omega), if_neg (by omega), if_neg (by omega), if_neg (by omega)]
      unfold f_X_countedMean_36 f_Bits_countedSum
      rw [if_neg (by decide), x_isWithin, if_pos (by omega), xbR_s, if_neg (by decide), e2, x0, xbR_s, pw, xbR_s, ht, xbW_s]
    generalize rdI (csN N a d (N + 1) : Int) ((a + d) ^ N) p4 = v at hX m0
    generalize rdI (csN N a d (N + 1) : Int) ((a + d) ^ N) 0 = v0 at hX
    generalize rdI (csN N a d (N + 1) : Int) ((a + d) ^ N) 1 = v1 at hX
    refine ⟨_, _, v, upS (upS (upS (upS (upS σ 95 1 v0) 95 2 v1) 95 0 1) 139 0 v) 111 0 0, hX, ?_, Or.inr ⟨rfl, _, rfl, rfl, rfl⟩, fin_told h _ _ _ _, rfl⟩
    show f_M_countedMean (N : Int) (a : Int) ((a + d : Nat) : Int) p4 (upS (upS (upS (upS σ 95 1 v0) 95 2 v1) 95 0 1) 139 0 v) = _
    unfold f_M_countedMean
    rw [m_isIn, if_pos (by omega), xbR_s, if_neg (by decide), m_isIn, if_pos (by omega), xbR_s, if_neg (by decide), m_isIn, if_pos (by omega), xbR_s, if_neg (by decide), m_isIn, if_pos (by omega), xbR_s, if_neg (by decide), xlet_s, m0]
  · refine ⟨none, σ, 0, upS σ 111 0 1, ?_, ?_, Or.inl ⟨rfl, rfl⟩, inv_thr h, rfl⟩
    · unfold f_X_countedMean
      simp only [cm35]
      (repeat' split) <;> first | rfl | (exact cm36n (by omega)) | (exfalso; omega)
    · unfold f_M_countedMean f_M_countedMean_39 f_M_refuseLong
      show _ = some (0, upS σ 111 0 1)
      simp only [m_isIn, xbR_s, xbW_s, xlet_s, wSt]
      (repeat' split) <;> first | rfl | (exfalso; omega)
