/-! even, poly -/
theorem even_lock {s M : xSt} (h : PTab s M) {E : Nat} (h6 : E ≤ 6) (h1 : s 7 2 = (E : Int)) (h2 : M 113 1 = (E : Int)) : ∀ (j fu fu2 l : Nat), l + j = E → j < fu → j < fu2 → ∃ v, f_X_even_51 fu (l : Int) s = some (v, s) ∧ f_M_even_27 fu2 (l : Int) M = some (v, M) := by
  intro j
  induction j with
  | zero =>
    intro fu fu2 l g1 g2 g3
    obtain ⟨fu, rfl⟩ : ∃ n2, fu = n2 + 1 := ⟨fu - 1, by omega⟩
    obtain ⟨fu2, rfl⟩ : ∃ n2, fu2 = n2 + 1 := ⟨fu2 - 1, by omega⟩
    obtain rfl : l = E := by omega
    exact ⟨1, by rw [f_X_even_51.eq_2, h1, if_neg (Int.lt_irrefl _)], by rw [f_M_even_27.eq_2, m_ends_, h2, xbR_s, if_neg (Int.lt_irrefl _)]⟩
  | succ j ih =>
    intro fu fu2 l g1 g2 g3
    obtain ⟨fu, rfl⟩ : ∃ n2, fu = n2 + 1 := ⟨fu - 1, by omega⟩
    obtain ⟨fu2, rfl⟩ : ∃ n2, fu2 = n2 + 1 := ⟨fu2 - 1, by omega⟩
    have l7 : l < 7 := by omega
    have c2 : (l : Int) < (E : Int) := by omega
    have l1 : l < 100000 := by omega
    obtain ⟨v, v1, v2, v3⟩ := comes_lock h l7 7 1000000 1000000 0 (by omega) (by omega) (by omega)
    obtain ⟨u, u1, u2, u3⟩ := like_lock h (a := 0) (by decide) l7 7 1000000 1000000 0 (by omega) (by omega) (by omega)
    rw [c0n] at v1 v2 u1 u2
    have v1 : f_Odds_comes (l : Int) s = some v := v1
    have v2 : f_M_comes (l : Int) M = some v := v2
    have u1 : f_Odds_areLike 0 (l : Int) s = some u := u1
    have u2 : f_M_areLike 0 (l : Int) M = some u := u2
    by_cases hv : v = 0
    · refine ⟨0, ?_, ?_⟩
      · rw [f_X_even_51.eq_2, h1, if_pos c2, v1, xbR_s, if_pos hv]
      · rw [f_M_even_27.eq_2, m_ends_, h2, xbR_s, if_pos c2, u2, xbR_s, v2, xbR_s, if_pos hv]
        split <;> rfl
    · by_cases hu : u = 0
      · refine ⟨0, ?_, ?_⟩
        · rw [f_X_even_51.eq_2, h1, if_pos c2, v1, xbR_s, if_neg hv, u1, xbR_s, if_pos hu]
        · rw [f_M_even_27.eq_2, m_ends_, h2, xbR_s, if_pos c2, u2, xbR_s, if_pos hu]
      · obtain ⟨r, r1, r2⟩ := ih fu fu2 (l + 1) (by omega) (by omega) (by omega)
        refine ⟨r, ?_, ?_⟩
        · rw [f_X_even_51.eq_2, h1, if_pos c2, v1, xbR_s, if_neg hv, u1, xbR_s, if_neg hu, w32_n1 l1, xlet_s, r1]
        · rw [f_M_even_27.eq_2, m_ends_, h2, xbR_s, if_pos c2, u2, xbR_s, if_neg hu, v2, xbR_s, if_neg hv, w32_n1 l1, xlet_s, r2]
theorem sim_even {n : Nat} : SimW (InvN (n + 1)) (InvN n) f_X_even f_M_even := by
  refine simW0 (fun σ h => ?_)
  have he := h.ends
  by_cases h3 : 0 < σ 16 0
  · by_cases h4 : σ 7 2 = 0
    · refine ⟨-1, σ, upS σ 111 0 0, ?_, ?_, inv_thr h, by rw [upS_ne (by decide)]⟩
      · unfold f_X_even f_Way_isTold
        rw [if_pos h3, xbR_s, if_neg (by decide), if_pos h4]
      · unfold f_M_even
        rw [xlet_s, m_hasWay, upS_ne (by decide), ← h.nodes.1, if_pos h3, xbR_s, if_neg (by decide), m_ends_, upS_ne (by decide), ← he.1, xbR_s, if_pos h4]
    · obtain ⟨E, hE⟩ : ∃ n : Nat, σ 7 2 = (n : Int) := ⟨(σ 7 2).toNat, by omega⟩
      obtain ⟨s, al, nP, t1, t2, t3, t4, t5, t6⟩ := tp_ok h h3
      have Fs : Fr s_sc σ s := (fr_Odds_tellPolynomials t1).mono rfl
      have es := e86 Fs
      have is : Inv0 s := h.fr Fs rfl
      have h22 : σ 111 22 ≠ 0 := fun z => by have := h.2.2.1.2 z; omega
      obtain ⟨M, m1, m2⟩ := t6.tab t5 (inv_thr (v := 0) is) (by rw [upS_nk (by decide), Fs 111 22 rfl]; exact h22) (fun a k ha => by rw [upS_ne (by omega)]; exact es a k ha)
      have FM : Fr s_sc (upS s 111 0 0) M := (fr_M_layPowers m1).mono rfl
      have e72 : (upS s 111 0 0) 113 1 = σ 7 2 := by rw [upS_ne (by decide), ← is.ends.1, es 7 2 (by decide)]
      have e16 : (upS s 111 0 0) 113 41 = σ 16 0 := by rw [upS_ne (by decide), ← is.nodes.1, es 16 0 (by decide)]
      obtain ⟨v, v1, v2⟩ := even_lock m2 (E := E) (by omega) (by rw [es 7 2 (by decide), hE]) (by rw [FM 113 1 rfl, e72, hE]) E 1000000 1000000 0 (by omega) (by omega) (by omega)
      rw [c0n] at v1 v2
      refine ⟨v, s, M, ?_, ?_, (inv_thr is).fr FM rfl, by rw [FM 0 7 rfl, upS_ne (by decide), Fs 0 7 rfl]⟩
      · unfold f_X_even f_Way_isTold
        rw [if_pos h3, xbR_s, if_neg (by decide), if_neg h4, t1, xbR_s, v1]
      · unfold f_M_even
        rw [xlet_s, m_hasWay, e16, if_pos h3, xbR_s, if_neg (by decide), m_ends_, e72, xbR_s, if_neg h4, m1, xbR_s, v2]
  · refine ⟨-1, σ, upS σ 111 0 0, ?_, ?_, inv_thr h, by rw [upS_ne (by decide)]⟩
    · unfold f_X_even f_Way_isTold
      rw [if_neg h3, xbR_s, if_pos rfl]
    · unfold f_M_even
      rw [xlet_s, m_hasWay, upS_ne (by decide), ← h.nodes.1, if_neg h3, xbR_s, if_pos rfl]
theorem sim_poly {n : Nat} : ∀ p1 p2 p3 : Int, in32 p1 → in32 p2 → in32 p3 → SimT (InvN (n + 1)) (InvN n) (f_X_poly p1 p2 p3) (f_M_poly p1 p2 p3) := by
  intro p1 p2 p3 _ _ _
  refine simT_scr (fun σ h => ?_)
  have he := h.ends
  have nul : f_X_poly p1 p2 p3 σ = some (none, σ) → (∀ W L : xSt, f_M_lay W = some L → Inv0 L → L 111 22 ≠ 0 → (∀ a k, a ≤ 86 → L a k = σ a k) → f_M_poly p1 p2 p3 W = f_M_poly_43 L) → ∃ r σ1, f_X_poly p1 p2 p3 σ = some (r, σ1) ∧ Fr s_sc σ σ1 ∧ ∀ L, f_M_lay (wSt (r, σ1)) = some L → Inv0 L → L 111 22 ≠ 0 → (∀ a k, a ≤ 86 → L a k = σ a k) → ∃ bb M, f_M_poly p1 p2 p3 (wSt (r, σ1)) = some (bb, M) ∧ Fr s_sc L M ∧ (r = none ∧ M 111 0 = 1 ∨ M 111 0 = 0 ∧ r = some bb) := fun hX hM => ⟨none, σ, hX, Fr.rf, fun L l1 l2 l3 l4 => ⟨0, upS L 111 0 1, (hM _ L l1 l2 l3 l4).trans rfl, Fr.up Fr.rf rfl rfl, Or.inl ⟨rfl, by rw [upS_eq]⟩⟩⟩
  by_cases hp : p1 = -1 ∨ (0 ≤ p1 ∧ p1 < σ 7 2)
  · have hX : f_X_poly p1 p2 p3 σ = f_X_poly_24 p1 p2 p3 1 σ := by
      unfold f_X_poly
      by_cases h1 : p1 = -1
      · rw [if_pos h1]
        rfl
      · rw [if_neg h1, x_hasEnd (by omega), if_pos (by omega), xbR_s, if_neg (by decide)]
        rfl
    have hM : ∀ W L : xSt, f_M_lay W = some L → Inv0 L → (∀ a k, a ≤ 86 → L a k = σ a k) → f_M_poly p1 p2 p3 W = f_M_poly_17 p1 p2 p3 L := fun W L hl l1 l3 => by
      unfold f_M_poly
      rw [hl, xbR_s]
      by_cases h1 : p1 = -1
      · rw [if_pos h1]
      · rw [if_neg h1, m_isEnd, ← l1.ends.1, l3 7 2 (by decide), if_pos (by omega), xbR_s, if_neg (by decide)]
    by_cases hq : (0 ≤ p2 ∧ p2 < 7) ∧ (0 ≤ p3 ∧ p3 < 2) ∧ 0 < σ 16 0
    · obtain ⟨q1, q2, q3⟩ := hq
      obtain ⟨e, he2, e7⟩ : ∃ e : Nat, (if p1 = -1 then 6 else p1) = (e : Int) ∧ e < 7 := by
        by_cases h1 : p1 = -1
        · exact ⟨6, by rw [if_pos h1]; rfl, by decide⟩
        · exact ⟨p1.toNat, by rw [if_neg h1]; omega, by omega⟩
      obtain ⟨w, hw⟩ : ∃ n : Nat, p2 = (n : Int) := ⟨p2.toNat, by omega⟩
      have w7 : w < 7 := by omega
      have i49 : 7 * e + w < 49 := by omega
      obtain ⟨s, al, nP, t1, t2, t3, t4, t5, t6⟩ := tp_ok h q3
      obtain ⟨b1, b2, b3⟩ := t5 _ i49
      have f1 := x_told (σ := s) (u := nP (7 * e + w)) (b := al) (what := p3) (by omega) (by omega) (by omega) (by omega)
      obtain ⟨σ2, f1⟩ : ∃ σ2, f_X_told (nP (7 * e + w)) (al : Int) p3 s = some (rdI (nP (7 * e + w)) al p3, σ2) := ⟨_, f1⟩
      have h106 : f_X_poly_106 p2 p3 (if p1 = -1 then 6 else p1) s = some (some (rdI (nP (7 * e + w)) al p3), σ2) := by
        unfold f_X_poly_106
        rw [he2, hw, x_powerOf e7 w7, xbR_s, b1, t2, f1, xbW_s]
      have hX2 : f_X_poly p1 p2 p3 σ = some (some (rdI (nP (7 * e + w)) al p3), σ2) := by
        rw [hX]
        unfold f_X_poly_24 f_Way_isTold
        rw [if_neg (by decide), x_isWithin, if_pos q1, xbR_s, if_neg (by decide), x_isWithin, if_pos q2, xbR_s, if_neg (by decide), if_pos q3, xbR_s, if_neg (by decide), t1, xbR_s]
        by_cases h1 : p1 = -1
        · rw [if_pos h1] at h106 ⊢
          exact h106
        · rw [if_neg h1] at h106 ⊢
          exact h106
      refine ⟨_, σ2, hX2, (fr_X_poly hX2).mono rfl, fun L hl l1 l2 l3 => ?_⟩
      have l1' : Inv0 (upS L 111 0 0) := inv_thr l1
      obtain ⟨M, C, B, E, d1, d2, d3, d4, d5, d6⟩ := t6 (upS L 111 0 0) l1' (by rw [upS_nk (by decide)]; exact l2) (fun a k ha => by rw [upS_ne (by omega)]; exact l3 a k ha)
      have FM : Fr s_sc (upS L 111 0 0) M := (fr_M_layPowers d1).mono rfl
      have F0 : M 111 0 = 0 := by rw [fr_M_layPowers d1 111 0 rfl, upS_eq]
      refine ⟨rdI (nP (7 * e + w)) al p3, M, ?_, Fr.tr (Fr.up Fr.rf rfl rfl) FM, Or.inr ⟨F0, rfl⟩⟩
      have hB : 1 ≤ B := by
        rcases Nat.eq_zero_or_pos B with z | z
        · rw [z, Nat.mul_zero] at d5
          omega
        · exact z
      have hBl : B ≤ al := by rw [d5]; exact Nat.le_mul_of_pos_left _ d4
      have hEl : (E (7 * e + w)).natAbs ≤ (nP (7 * e + w)).natAbs := by
        rw [d6 _ i49, Int.natAbs_mul, Int.natAbs_natCast]
        exact Nat.le_mul_of_pos_left _ d4
      have er : rdI (nP (7 * e + w)) al p3 = rdI (E (7 * e + w)) B p3 := by
        rw [d5, d6 _ i49, Int.mul_comm (C : Int), Nat.mul_comm C B]
        exact rdI_mul d4
      have f2 := m_part (σ := M) (u := E (7 * e + w)) (b := B) (what := p3) (by omega) (by omega) (by omega) (by omega)
      have c6 : 0 ≤ ((7 * e + w : Nat) : Int) ∧ ((7 * e + w : Nat) : Int) < 49 := by omega
      have h74 : f_M_poly_74 p2 p3 (if p1 = -1 then 6 else p1) 7 M = some (rdI (nP (7 * e + w)) al p3, M) := by
        unfold f_M_poly_74
        rw [he2, hw, w32_7l (by omega) (by omega), if_pos c6, Int.toNat_natCast, d3 _ i49, d2, f2, xbR_s, er]
      rw [hM _ L hl l1 l3]
      unfold f_M_poly_17
      rw [m_isIn, if_pos (by omega), xbR_s, if_neg (by decide), m_isIn, if_pos (by omega), xbR_s, if_neg (by decide), m_hasWay, ← l1.nodes.1, l3 16 0 (by decide), if_pos q3, xbR_s, if_neg (by decide), xlet_s, d1, xbR_s]
      by_cases h1 : p1 = -1
      · rw [if_pos h1] at h74 ⊢
        exact h74
      · rw [if_neg h1] at h74 ⊢
        exact h74
    · refine nul ?_ (fun W L hl l1 l2 l3 => ?_)
      · rw [hX]
        unfold f_X_poly_24 f_Way_isTold
        rw [if_neg (by decide), x_isWithin]
        by_cases q1 : 0 ≤ p2 ∧ p2 < 7
        · rw [if_pos q1, xbR_s, if_neg (by decide), x_isWithin]
          by_cases q2 : 0 ≤ p3 ∧ p3 < 2
          · rw [if_pos q2, xbR_s, if_neg (by decide), if_neg (fun z => hq ⟨q1, q2, z⟩), xbR_s, if_pos rfl]
          · rw [if_neg q2, xbR_s, if_pos rfl]
        · rw [if_neg q1, xbR_s, if_pos rfl]
      · rw [hM W L hl l1 l3]
        unfold f_M_poly_17
        rw [m_isIn]
        by_cases q1 : 0 ≤ p2 ∧ p2 < 7
        · rw [if_pos (by omega), xbR_s, if_neg (by decide), m_isIn]
          by_cases q2 : 0 ≤ p3 ∧ p3 < 2
          · rw [if_pos (by omega), xbR_s, if_neg (by decide), m_hasWay, ← l1.nodes.1, l3 16 0 (by decide), if_neg (fun z => hq ⟨q1, q2, z⟩), xbR_s, if_pos rfl]
          · rw [if_neg (by omega), xbR_s, if_pos rfl]
        · rw [if_neg (by omega), xbR_s, if_pos rfl]
  · refine nul ?_ (fun W L hl l1 l2 l3 => ?_)
    · unfold f_X_poly
      rw [if_neg (fun z => hp (Or.inl z)), x_hasEnd (by omega), if_neg (fun z => hp (Or.inr z)), xbR_s, if_pos rfl]
      unfold f_X_poly_24
      rw [if_pos rfl]
    · unfold f_M_poly
      rw [hl, xbR_s, if_neg (fun z => hp (Or.inl z)), m_isEnd, ← l1.ends.1, l3 7 2 (by decide), if_neg (fun z => hp (Or.inr z)), xbR_s, if_pos rfl]
