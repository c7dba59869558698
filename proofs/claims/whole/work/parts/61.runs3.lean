/-! runs and seldom: the calls -/
theorem sim_runs {n : Nat} : SimW (InvN (n + 1)) (InvN n) f_X_runs f_M_runs := by
  refine simW0 (fun σ h => ?_)
  obtain ⟨p1, p2, p3, p4, p5, p6, p7, p8⟩ := h
  obtain ⟨v, σx, a1, a2, a3, a4⟩ := row_ok (σ := σ) (lo := 1) (hi := 60) p1 (by decide) (by decide)
  have F1 := fr_X_takeRow a1
  by_cases hv : v = -1
  · obtain ⟨σm, b1, b2, -, b3⟩ := a4 (upS σx 111 0 0) (F1 111 2 rfl) (fun k => F1 112 k rfl)
    have F2 := fr_M_takeRow b1
    have F : Fr (s_X_takeRow ++ ((111, [0]) :: s_M_takeRow)) σ σm := Fr.call (Fr.up (Fr.mono F1 rfl) rfl rfl) F2 rfl
    refine ⟨-1, σx, σm, ?_, ?_, ⟨tape0 ?_ b2, p2.ag (F.ag rfl), p3.ag (F.ag rfl), p4.ag (F.ag rfl), p5.ag (F.ag rfl), p6.ag (F.ag rfl), p7.ag (F.ag rfl), p8.ag (F.ag rfl)⟩, F 0 7 rfl⟩
    · unfold f_X_runs
      rw [a1, xbW_s, if_pos hv]
    · unfold f_M_runs
      rw [xlet_s, b1, xbW_s, if_pos hv]
    · have e : σm 0 1 = (upS σx 111 0 0) 0 1 := F2 0 1 rfl
      rw [e]
      exact a2
  · obtain ⟨v0, v1, v2⟩ := a3.resolve_left hv
    obtain ⟨L, rfl⟩ : ∃ L : Nat, v = (L : Int) := ⟨v.toNat, by omega⟩
    have hg : ∀ k : Nat, k < L → σx 98 k = 0 ∨ σx 98 k = 1 := fun k hk => v2 k (by omega)
    have bp := psum_b hg L (Nat.le_refl _)
    have br := rnN_b (g := σx 98) L
    obtain ⟨hh, eh⟩ : ∃ q : Nat, psum (σx 98) L = (q : Int) := ⟨(psum (σx 98) L).toNat, by omega⟩
    obtain ⟨R, eR⟩ : ∃ q : Nat, rnN (σx 98) L = (q : Int) := ⟨(rnN (σx 98) L).toNat, by omega⟩
    obtain ⟨t, et⟩ : ∃ t : Nat, L = hh + t := ⟨L - hh, by omega⟩
    have hn : hh + t ≤ 60 := by omega
    have hR : R ≤ 60 := by omega
    have hu : rwsN hh t R ≤ 118264581564861424 * 60 := Nat.le_trans (rws_le hn R) (Nat.mul_le_mul_left _ hR)
    have hc1 := ch_pos (n := hh + t) (k := hh) hn (by omega)
    have hc2 := chN_le (n := hh + t) (k := hh) hn
    have hX : f_X_runs σ = some ((R : Int), upS (upS (upS σx 104 1 (rdI (rwsN hh t R : Int) (chN (hh + t) hh) 0)) 104 2 (rdI (rwsN hh t R : Int) (chN (hh + t) hh) 1)) 104 0 1) := by
      unfold f_X_runs
      rw [a1, xbW_s, if_neg hv]
      have e1 := x_runs22 (L := L) (σ := σx) (by omega) hg L 1000000 0 (by omega) (by omega)
      have e2 := x_runs87 (h := hh) (t := t) (R := R) (σ := σx) hn hR R 1000000 0 (by omega) (by omega)
      have e3 : psum (σx 98) 0 = 0 := Eq.trans rfl rfl
      have e4 : rnN (σx 98) 0 = 0 := Eq.trans rfl rfl
      have e5 : rwsN hh t 0 = 0 := Eq.trans rfl rfl
      have e6 : ((0 + 1 : Nat) : Int) = 1 := by decide
      rw [e3, e4, c0n, eh, eR] at e1
      rw [e5, c0n, e6, ← et] at e2
      rw [e1, e2, x_put (by omega) (by omega) (by rw [← et] at hc1; omega) (by rw [← et] at hc2; omega), xbW_s, ← et]
    generalize hw1 : rdI (rwsN hh t R : Int) (chN (hh + t) hh) 0 = w1 at hX
    generalize hw2 : rdI (rwsN hh t R : Int) (chN (hh + t) hh) 1 = w2 at hX
    obtain ⟨σm, b1, b2, -, b3⟩ := a4 (upS (upS (upS (upS σx 104 1 w1) 104 2 w2) 104 0 1) 111 0 0) (F1 111 2 rfl) (fun k => F1 112 k rfl)
    have F2 := fr_M_takeRow b1
    obtain ⟨σ', c1, c2, c3, c4, c5⟩ := m_runs32 (L := L) (g := σx 98) (by omega) (by omega) hg L 1000000 0 (upS (upS σm 111 52 1) 111 53 0) (by omega) (by omega) (fun k hk => b3 k (by omega)) rfl rfl
    have hM : f_M_runs (upS (upS (upS σx 104 1 w1) 104 2 w2) 104 0 1) = some ((R : Int), σ') := by
      unfold f_M_runs
      rw [c0n, eR] at c1
      rw [xlet_s, b1, xbW_s, if_neg hv, xlet_s, xlet_s, c1]
    have FX := fr_X_runs hX
    have FM := fr_M_runs hM
    have F : Fr (s_X_runs ++ s_M_runs) σ σ' := Fr.call (Fr.mono FX rfl) FM rfl
    refine ⟨(R : Int), _, σ', hX, hM, ⟨tape0 ?_ ?_, p2.ag (F.ag rfl), p3.ag (F.ag rfl), p4.ag (F.ag rfl), p5.ag (F.ag rfl), p6.ag (F.ag rfl), Or.inr ⟨?_, hh, t, R, ?_, ?_, ?_, by omega, by omega, by omega, by omega, ?_, ?_⟩, p8.ag (F.ag rfl)⟩, F 0 7 rfl⟩
    · have e : σ' 0 1 = (upS (upS (upS σx 104 1 w1) 104 2 w2) 104 0 1) 0 1 := FM 0 1 rfl
      rw [e]
      exact a2
    · rw [c5]
      exact b2
    · exact FM 104 0 rfl
    · rw [c3, eh]
    · rw [c4, eh]
      omega
    · rw [c2, eR]
    · have e : σ' 104 1 = w1 := FM 104 1 rfl
      rw [e, ← hw1, rdI_nat, if_pos rfl]
    · have e : σ' 104 2 = w2 := FM 104 2 rfl
      rw [e, ← hw2, rdI_nat, if_neg (by decide)]
theorem sim_seldom {n : Nat} : ∀ p1 : Int, in32 p1 → SimT (InvN (n + 1)) (InvN n) (f_X_seldom p1) (f_M_seldom p1) := by
  intro p1 _
  refine simT0 (fun σ h => ?_)
  have hr := h.2.2.2.2.2.2.1
  by_cases hp : σ 104 0 = 1 ∧ 0 ≤ p1 ∧ p1 ≤ 1
  · obtain ⟨h0, hp0, hp1⟩ := hp
    obtain ⟨hx, -⟩ | ⟨-, hh, t, R, s3, s4, s2, hn1, hn, hR1, hR, e1, e2⟩ := hr
    · omega
    have hu : rwsN hh t R ≤ 118264581564861424 * 60 := Nat.le_trans (rws_le hn R) (Nat.mul_le_mul_left _ hR)
    have hc1 := ch_pos (n := hh + t) (k := hh) hn (by omega)
    have hc2 := chN_le (n := hh + t) (k := hh) hn
    have hv : (if p1 = 0 then σ 104 1 else σ 104 2) = rdI (rwsN hh t R : Int) (chN (hh + t) hh) p1 := by
      rw [rdI_nat]
      split
      · exact e1
      · exact e2
    have hX : f_X_seldom p1 σ = some (some (rdI (rwsN hh t R : Int) (chN (hh + t) hh) p1), σ) := by
      unfold f_X_seldom f_Fraction_part
      rw [if_neg (by omega), x_isWithin, if_pos (by omega), xbR_s, if_neg (by decide), ← hv]
      by_cases hz : p1 = 0
      · rw [if_pos hz, if_pos hz, xbR_s]
      · rw [if_neg hz, if_neg hz, xbR_s]
    generalize hw : rdI (rwsN hh t R : Int) (chN (hh + t) hh) p1 = w at hX hv
    refine ⟨_, _, w, upS (upS σ 139 0 w) 111 0 0, hX, ?_, Or.inr ⟨rfl, w, rfl, rfl, rfl⟩, inv_thr (inv_out h), rfl⟩
    show f_M_seldom p1 (upS σ 139 0 w) = _
    have q2 : upS σ 139 0 w 111 52 = (R : Int) := s2
    have e3 := m_seldom32 (h := hh) (t := t) (R := R) (what := p1) (σ := upS (upS σ 139 0 w) 111 0 0) hn hn1 hR s2 s3 s4 R 1000000 0 (by omega) (by omega)
    have e5 : rwsN hh t 0 = 0 := Eq.trans rfl rfl
    have e6 : ((0 + 1 : Nat) : Int) = 1 := by decide
    rw [e5, c0n, e6, m_part (by omega) (by omega) (by omega) (by omega), xbR_s, hw] at e3
    unfold f_M_seldom
    rw [q2, if_neg (by omega), m_isIn, if_pos (by omega), xbR_s, if_neg (by decide), xlet_s, e3]
  · refine ⟨none, σ, 0, upS σ 111 0 1, ?_, ?_, Or.inl ⟨rfl, rfl⟩, inv_thr h, rfl⟩
    · unfold f_X_seldom
      by_cases h0 : σ 104 0 = 0
      · rw [if_pos h0]
      · rw [if_neg h0, x_isWithin]
        rcases hr with ⟨hx, -⟩ | ⟨hx, -⟩
        · omega
        · rw [if_neg (by omega), xbR_s, if_pos rfl]
    · show f_M_seldom p1 σ = _
      unfold f_M_seldom f_M_seldom_17 f_M_refuseLong
      by_cases h0 : σ 111 52 = -1
      · rw [if_pos h0, xlet_s, xbW_s]
      · rw [if_neg h0, m_isIn]
        rcases hr with ⟨-, hx⟩ | ⟨hx, -⟩
        · omega
        · rw [if_neg (by omega), xbR_s, if_pos rfl, xlet_s, xbW_s]
