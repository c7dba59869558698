/-! chance, mean -/
theorem sim_mean {n : Nat} : ∀ p1 p2 p3 : Int, in32 p1 → in32 p2 → in32 p3 → SimT (InvN (n + 1)) (InvN n) (f_X_mean p1 p2 p3) (f_M_mean p1 p2 p3) := by
  intro p1 p2 p3 _ _ _
  refine simT_scr (fun σ h => ?_)
  have nul : ∀ σ1, f_X_mean p1 p2 p3 σ = some (none, σ1) → (∀ W L : xSt, f_M_lay W = some L → Inv0 L → L 111 22 ≠ 0 → (∀ a k, a ≤ 86 → L a k = σ a k) → ∃ M, f_M_mean p1 p2 p3 W = f_M_mean_37 M ∧ Fr s_sc L M) → ∃ r σ1, f_X_mean p1 p2 p3 σ = some (r, σ1) ∧ Fr s_sc σ σ1 ∧ ∀ L, f_M_lay (wSt (r, σ1)) = some L → Inv0 L → L 111 22 ≠ 0 → (∀ a k, a ≤ 86 → L a k = σ a k) → ∃ bb M, f_M_mean p1 p2 p3 (wSt (r, σ1)) = some (bb, M) ∧ Fr s_sc L M ∧ (r = none ∧ M 111 0 = 1 ∨ M 111 0 = 0 ∧ r = some bb) := fun σ1 hX hM => ⟨none, σ1, hX, (fr_X_mean hX).mono rfl, fun L l1 l2 l3 l4 => by
    obtain ⟨M, m1, m2⟩ := hM _ L l1 l2 l3 l4
    exact ⟨0, upS M 111 0 1, m1.trans rfl, Fr.up m2 rfl rfl, Or.inl ⟨rfl, by rw [upS_eq]⟩⟩⟩
  rcases sb_ok h p1 p2 p3 with ⟨s1, s2⟩ | ⟨⟨g1, g2, g3⟩, σ1, hd, wh, al, nA, nT, nE, c1, c2, c3, c4, c5, c6, c7, c8, c9, c10, c11, c12⟩
  · refine nul σ ?_ (fun W L hl l1 l2 l3 => ⟨L, ?_, Fr.rf⟩)
    · unfold f_X_mean
      rw [s1, xbW_s, if_pos rfl]
    · unfold f_M_mean
      rw [hl, xbR_s]
      by_cases g1 : gdB p1 p2
      · rw [m_isBend.1 g1, xbR_s, if_neg (by decide), m_isIn]
        by_cases g2 : 0 ≤ p3 ∧ p3 < 2
        · rw [if_pos (by omega), xbR_s, if_neg (by decide), m_hasWay, ← l1.nodes.1, l3 16 0 (by decide), if_neg (fun z => s2 ⟨g1, g2, z⟩), xbR_s, if_pos rfl]
        · rw [if_neg (by omega), xbR_s, if_pos rfl]
      · rw [m_isBend.2 g1, xbR_s, if_pos rfl]
  · have hm2 : ∀ W L : xSt, f_M_lay W = some L → Inv0 L → (∀ a k, a ≤ 86 → L a k = σ a k) → f_M_mean p1 p2 p3 W = (xbW (f_M_layWeights p1 p2 L) fun r5 σ6 =>
  if r5 = 0 then (f_M_mean_37 σ6)
  else (xlet (upS σ6 111 0 0) fun σ7 =>
  xbR (f_M_part (σ7 111 30) (w64 ((σ7 111 29) - (σ7 121 6))) p3 σ7) fun r8 =>
  some (r8, σ7))) := fun W L hl l1 l3 => by
      unfold f_M_mean
      rw [hl, xbR_s, m_isBend.1 g1, xbR_s, if_neg (by decide), m_isIn, if_pos (by omega), xbR_s, if_neg (by decide), m_hasWay, ← l1.nodes.1, l3 16 0 (by decide), if_pos g3, xbR_s, if_neg (by decide)]
    by_cases hz : nA < al
    · obtain ⟨σ2, f1⟩ := fin_x (what := p3) (σ := σ1) hz c8 c10
      have hX : f_X_mean p1 p2 p3 σ = some (some (rdI (nT : Int) (al - nA) p3), σ2) := by
        unfold f_X_mean
        rw [c3, xbW_s, if_pos hz, if_neg (by decide), c6, c4, c5, f1, xbW_s]
      refine ⟨_, σ2, hX, (fr_X_mean hX).mono rfl, fun L hl l1 l2 l3 => ?_⟩
      obtain ⟨M, C, B, A, S, E, d1, d2, d3, d4, d5, d6, d7, d8, d9, d10⟩ := c12 L l1 l2 l3
      obtain ⟨hAB, f2⟩ := fin_m (τ := upS M 111 0 0) (what := p3) hz d6 d7 d8 d9 c8 c10
      refine ⟨_, upS M 111 0 0, ?_, Fr.up ((fr_M_layWeights d1).mono rfl) rfl rfl, Or.inr ⟨upS_eq, rfl⟩⟩
      rw [hm2 _ L hl l1 l3, c1, c2, d1, xbW_s, if_pos hAB, if_neg (by decide), xlet_s, upS_nk (by decide), upS_nk (by decide), upS_ne (by decide), d4, d2, d3, f2, xbR_s]
    · refine nul σ1 ?_ (fun W L hl l1 l2 l3 => ?_)
      · unfold f_X_mean
        rw [c3, xbW_s, if_neg hz, if_pos rfl]
      · obtain ⟨M, C, B, A, S, E, d1, d2, d3, d4, d5, d6, d7, d8, d9, d10⟩ := c12 L l1 l2 l3
        have hz2 : ¬ A < B := fun z => hz (by rw [d7, d8]; exact Nat.mul_lt_mul_of_pos_left z d6)
        refine ⟨M, ?_, (fr_M_layWeights d1).mono rfl⟩
        rw [hm2 W L hl l1 l3, c1, c2, d1, xbW_s, if_neg hz2, if_pos rfl]
theorem sim_chance {n : Nat} : ∀ p1 p2 : Int, in32 p1 → in32 p2 → SimT (InvN (n + 1)) (InvN n) (f_X_chance p1 p2) (f_M_chance p1 p2) := by
  intro p1 p2 _ _
  refine simT_scr (fun σ h => ?_)
  have he := h.ends
  have nul : ∀ σ1, f_X_chance p1 p2 σ = some (none, σ1) → (∀ W L : xSt, f_M_lay W = some L → Inv0 L → L 111 22 ≠ 0 → (∀ a k, a ≤ 86 → L a k = σ a k) → ∃ M, f_M_chance p1 p2 W = f_M_chance_44 M ∧ Fr s_sc L M) → ∃ r σ1, f_X_chance p1 p2 σ = some (r, σ1) ∧ Fr s_sc σ σ1 ∧ ∀ L, f_M_lay (wSt (r, σ1)) = some L → Inv0 L → L 111 22 ≠ 0 → (∀ a k, a ≤ 86 → L a k = σ a k) → ∃ bb M, f_M_chance p1 p2 (wSt (r, σ1)) = some (bb, M) ∧ Fr s_sc L M ∧ (r = none ∧ M 111 0 = 1 ∨ M 111 0 = 0 ∧ r = some bb) := fun σ1 hX hM => ⟨none, σ1, hX, (fr_X_chance hX).mono rfl, fun L l1 l2 l3 l4 => by
    obtain ⟨M, m1, m2⟩ := hM _ L l1 l2 l3 l4
    exact ⟨0, upS M 111 0 1, m1.trans rfl, Fr.up m2 rfl rfl, Or.inl ⟨rfl, by rw [upS_eq]⟩⟩⟩
  have gB : gdB 0 1 := ⟨by decide, by decide, by decide, by decide⟩
  have mref : ∀ W L : xSt, f_M_lay W = some L → Inv0 L → L 111 22 ≠ 0 → (∀ a k, a ≤ 86 → L a k = σ a k) → ¬ ((0 ≤ p1 ∧ p1 < σ 7 2) ∧ (0 ≤ p2 ∧ p2 < 2) ∧ 0 < σ 16 0 ∧ ¬ Has σ 0 (σ 16 0).toNat (σ 7 3)) → ∃ M, f_M_chance p1 p2 W = f_M_chance_44 M ∧ Fr s_sc L M := fun W L hl l1 l2 l3 hn => by
    refine ⟨L, ?_, Fr.rf⟩
    unfold f_M_chance
    rw [hl, xbR_s, m_isEnd, ← l1.ends.1, l3 7 2 (by decide)]
    by_cases hp : 0 ≤ p1 ∧ p1 < σ 7 2
    · rw [if_pos hp, xbR_s, if_neg (by decide), m_isIn]
      by_cases hq : 0 ≤ p2 ∧ p2 < 2
      · rw [if_pos (by omega), xbR_s, if_neg (by decide), m_hasWay, ← l1.nodes.1, l3 16 0 (by decide)]
        by_cases hw : 0 < σ 16 0
        · obtain ⟨v, v1, v2⟩ := m_open l1 l2 l3 hw
          rw [if_pos hw, xbR_s, if_neg (by decide), v1, xbR_s]
          rcases v2 with ⟨rfl, -⟩ | ⟨-, z⟩
          · rw [if_neg (by decide)]
          · exact absurd ⟨hp, hq, hw, z⟩ hn
        · rw [if_neg hw, xbR_s, if_pos rfl]
      · rw [if_neg (by omega), xbR_s, if_pos rfl]
    · rw [if_neg hp, xbR_s, if_pos rfl]
  obtain ⟨v, v1, v2⟩ := x_wayHas h (σ 7 3)
  rcases v2 with ⟨rfl, hH⟩ | ⟨rfl, hH⟩
  · refine nul σ ?_ (fun W L hl l1 l2 l3 => mref W L hl l1 l2 l3 (fun z => z.2.2.2 hH))
    unfold f_X_chance
    rw [v1, xbR_s, if_neg (by decide)]
  · by_cases hp : 0 ≤ p1 ∧ p1 < σ 7 2
    · have hx : f_Table_hasEnd p1 σ = some 1 := by rw [x_hasEnd (by omega), if_pos hp]
      rcases sb_ok h 0 1 p2 with ⟨s1, s2⟩ | ⟨⟨g1, g2, g3⟩, σ1, hd, wh, al, nA, nT, nE, c1, c2, c3, c4, c5, c6, c7, c8, c9, c10, c11, c12⟩
      · refine nul σ ?_ (fun W L hl l1 l2 l3 => mref W L hl l1 l2 l3 (fun z => s2 ⟨gB, z.2.1, z.2.2.1⟩))
        unfold f_X_chance
        rw [v1, xbR_s, if_pos rfl, hx, xbR_s, if_neg (by decide), s1, xbW_s, if_pos rfl]
      · have hm2 : ∀ W L : xSt, f_M_lay W = some L → Inv0 L → L 111 22 ≠ 0 → (∀ a k, a ≤ 86 → L a k = σ a k) → f_M_chance p1 p2 W = (xbW (f_M_layWeights 0 1 L) fun r6 σ7 =>
  if r6 = 0 then (f_M_chance_44 σ7)
  else (xlet (upS σ7 111 0 0) fun σ8 =>
  if 0 ≤ p1 ∧ p1 < 8 then (
  xbR (f_M_part (σ8 121 p1.toNat) (w64 ((σ8 111 29) - (σ8 121 6))) p2 σ8) fun r9 =>
  some (r9, σ8)) else none)) := fun W L hl l1 l2 l3 => by
          obtain ⟨u, u1, u2⟩ := m_open l1 l2 l3 g3
          obtain rfl : u = 0 := by
            rcases u2 with ⟨-, z⟩ | ⟨z, -⟩
            · exact absurd z hH
            · exact z
          unfold f_M_chance
          rw [hl, xbR_s, m_isEnd, ← l1.ends.1, l3 7 2 (by decide), if_pos hp, xbR_s, if_neg (by decide), m_isIn, if_pos (by omega), xbR_s, if_neg (by decide), m_hasWay, ← l1.nodes.1, l3 16 0 (by decide), if_pos g3, xbR_s, if_neg (by decide), u1, xbR_s, if_pos rfl]
        by_cases hz : nA < al
        · obtain ⟨i, hi⟩ : ∃ i : Nat, p1 = (i : Int) := ⟨p1.toNat, by omega⟩
          have i6 : i < 6 := by omega
          have bi := c11 i i6
          have hu : nE i ≤ 6 * al := by omega
          obtain ⟨σ2, f1⟩ := fin_x (what := p2) (σ := σ1) hz c8 hu
          have hX : f_X_chance p1 p2 σ = some (some (rdI (nE i : Int) (al - nA) p2), σ2) := by
            unfold f_X_chance
            rw [v1, xbR_s, if_pos rfl, hx, xbR_s, if_neg (by decide), c3, xbW_s, if_pos hz, if_neg (by decide), x_endW (by omega), xbR_s, hi, Int.toNat_natCast, c7 i i6, c4, c5, f1, xbW_s]
          refine ⟨_, σ2, hX, (fr_X_chance hX).mono rfl, fun L hl l1 l2 l3 => ?_⟩
          obtain ⟨M, C, B, A, S, E, d1, d2, d3, d4, d5, d6, d7, d8, d9, d10⟩ := c12 L l1 l2 l3
          rw [← c1, ← c2] at d1
          obtain ⟨hAB, f2⟩ := fin_m (τ := upS M 111 0 0) (what := p2) hz d6 d7 d8 (d10 i i6) c8 hu
          refine ⟨_, upS M 111 0 0, ?_, Fr.up ((fr_M_layWeights d1).mono rfl) rfl rfl, Or.inr ⟨upS_eq, rfl⟩⟩
          rw [hm2 _ L hl l1 l2 l3, d1, xbW_s, if_pos hAB, if_neg (by decide), xlet_s, if_pos (by omega), hi, Int.toNat_natCast, upS_ne (by decide), upS_nk (by decide), upS_ne (by decide), d5 i i6, d2, d3, f2, xbR_s]
        · refine nul σ1 ?_ (fun W L hl l1 l2 l3 => ?_)
          · unfold f_X_chance
            rw [v1, xbR_s, if_pos rfl, hx, xbR_s, if_neg (by decide), c3, xbW_s, if_neg hz, if_pos rfl]
          · obtain ⟨M, C, B, A, S, E, d1, d2, d3, d4, d5, d6, d7, d8, d9, d10⟩ := c12 L l1 l2 l3
            rw [← c1, ← c2] at d1
            have hz2 : ¬ A < B := fun z => hz (by rw [d7, d8]; exact Nat.mul_lt_mul_of_pos_left z d6)
            refine ⟨M, ?_, (fr_M_layWeights d1).mono rfl⟩
            rw [hm2 W L hl l1 l2 l3, d1, xbW_s, if_neg hz2, if_pos rfl]
    · refine nul σ ?_ (fun W L hl l1 l2 l3 => mref W L hl l1 l2 l3 (fun z => hp z.1))
      unfold f_X_chance
      rw [v1, xbR_s, if_pos rfl, x_hasEnd (by omega), if_neg hp, xbR_s, if_pos rfl]
