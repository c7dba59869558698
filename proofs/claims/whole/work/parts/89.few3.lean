/-! fewest: the call -/
theorem nsum_ge1 {K : Nat → Nat} {e : Nat} : ∀ n : Nat, e < n → K e ≤ nsum K n := by
  intro n
  induction n with
  | zero => exact fun h => absurd h (Nat.not_lt_zero _)
  | succ n ih =>
    intro h
    show K e ≤ nsum K n + K n
    by_cases he : e = n
    · rw [he]
      omega
    · have := ih (by omega)
      omega
theorem nsum_ge2 {K : Nat → Nat} {e f : Nat} (hef : e < f) : ∀ n : Nat, f < n → K e + K f ≤ nsum K n := by
  intro n
  induction n with
  | zero => exact fun h => absurd h (Nat.not_lt_zero _)
  | succ n ih =>
    intro h
    show K e + K f ≤ nsum K n + K n
    by_cases he : f = n
    · have := nsum_ge1 (K := K) (e := e) n (by omega)
      rw [he]
      omega
    · have := ih (by omega)
      omega
theorem m_allF {τ : xSt} {E M : Nat} {K : Nat → Nat} (h6 : E ≤ 6) (h : ShM τ E K M) : ∀ (j fu e : Nat), e + j = E → j < fu → (∃ x : Nat, x < E ∧ K x = M ∧ f_M_all_2 fu (e : Int) τ = some (x : Int)) ∨ (f_M_all_2 fu (e : Int) τ = some (-1) ∧ ∀ x : Nat, e ≤ x → x < E → K x ≠ M) := by
  obtain ⟨s1, s2, s3⟩ := h
  intro j
  induction j with
  | zero =>
    intro fu e g1 g2
    obtain ⟨fu, rfl⟩ : ∃ n2, fu = n2 + 1 := ⟨fu - 1, by omega⟩
    refine Or.inr ⟨?_, fun x a b => by omega⟩
    rw [f_M_all_2.eq_2, m_ends_, s1, xbR_s, if_neg (by omega)]
  | succ j ih =>
    intro fu e g1 g2
    obtain ⟨fu, rfl⟩ : ∃ n2, fu = n2 + 1 := ⟨fu - 1, by omega⟩
    have he : e < E := by omega
    have he2 : (e : Int) < (E : Int) := by omega
    have e6 : e < 6 := by omega
    have b3 : e < 100000 := by omega
    by_cases hk : K e = M
    · refine Or.inl ⟨e, he, hk, ?_⟩
      rw [f_M_all_2.eq_2, m_ends_, s1, xbR_s, if_pos he2, m_shareOf e6, s3 e he, xbR_s, m_shareBelow, s2, xbR_s, if_pos (by omega)]
    · have step : f_M_all_2 (fu + 1) (e : Int) τ = f_M_all_2 fu ((e + 1 : Nat) : Int) τ := by
        rw [f_M_all_2.eq_2, m_ends_, s1, xbR_s, if_pos he2, m_shareOf e6, s3 e he, xbR_s, m_shareBelow, s2, xbR_s, if_neg (by omega), w32_n1 b3, xlet_s]
      rw [step]
      rcases ih fu (e + 1) (by omega) (by omega) with z | ⟨z1, z2⟩
      · exact Or.inl z
      · refine Or.inr ⟨z1, fun x a b => ?_⟩
        by_cases hx : x = e
        · rw [hx]
          exact hk
        · exact z2 x (by omega) b
theorem m_few50 {E M : Nat} {K : Nat → Nat} (h6 : E ≤ 6) {what : Int} : ∀ (j fu e : Nat) (τ : xSt), e + j = E → j < fu → ShM τ E K M → (∀ x : Nat, x < e → τ 128 x = (K x : Int)) → ∃ τ', f_M_fewest_50 fu what (e : Int) τ = f_M_fewest_80 1000000 what 0 0 τ' ∧ ShM τ' E K M ∧ (∀ x : Nat, x < E → τ' 128 x = (K x : Int)) ∧ ∀ a q, a ≠ 128 → τ' a q = τ a q := by
  intro j
  induction j with
  | zero =>
    intro fu e τ g1 g2 hs h8
    obtain ⟨fu, rfl⟩ : ∃ n2, fu = n2 + 1 := ⟨fu - 1, by omega⟩
    obtain rfl : e = E := by omega
    refine ⟨τ, ?_, hs, h8, fun _ _ _ => rfl⟩
    rw [f_M_fewest_50.eq_2, m_ends_, hs.1, xbR_s, if_neg (by omega)]
  | succ j ih =>
    intro fu e τ g1 g2 hs h8
    obtain ⟨fu, rfl⟩ : ∃ n2, fu = n2 + 1 := ⟨fu - 1, by omega⟩
    have he : e < E := by omega
    have he2 : (e : Int) < (E : Int) := by omega
    have e6 : e < 6 := by omega
    have b6 : 0 ≤ (e : Int) ∧ (e : Int) < 6 := by omega
    have b3 : e < 100000 := by omega
    obtain ⟨τ', t1, t2, t3, t4⟩ := ih fu (e + 1) (upS τ 128 e (K e : Int)) (by omega) (by omega) ⟨by rw [upS_ne (by decide)]; exact hs.1, by rw [upS_ne (by decide)]; exact hs.2.1, fun x hx => by rw [upS_ne (by decide)]; exact hs.2.2 x hx⟩ (fun x hx => by
      by_cases hz : x = e
      · rw [hz, upS_eq]
      · rw [upS_nk hz]
        exact h8 x (by omega))
    refine ⟨τ', ?_, t2, t3, fun a q ha => by rw [t4 a q ha, upS_ne ha]⟩
    rw [f_M_fewest_50.eq_2, m_ends_, hs.1, xbR_s, if_pos he2, m_shareOf e6, hs.2.2 e he, xbR_s, if_pos b6, Int.toNat_natCast, xlet_s, w32_n1 b3, xlet_s, t1]
theorem rdI_zero {b : Nat} {what : Int} (hb : 0 < b) : rdI 0 b what = if what = 0 then 0 else 1 := by
  have e : Nat.gcd (0 : Int).natAbs b = b := Nat.gcd_zero_left b
  unfold rdI
  rw [e]
  by_cases hw : what = 0
  · rw [if_pos hw, if_pos hw, Int.zero_tdiv]
  · rw [if_neg hw, if_neg hw]
    exact Int.tdiv_self (by omega)
theorem x_part {what : Int} {s : xSt} {u : Int} {b : Nat} : f_Fraction_part 95 what (upS (upS (upS s 95 1 (rdI u b 0)) 95 2 (rdI u b 1)) 95 0 1) = some (rdI u b what) := by
  unfold f_Fraction_part
  by_cases hw : what = 0
  · rw [if_pos hw, hw]
    rfl
  · rw [if_neg hw]
    have e : rdI u b what = rdI u b 1 := by
      unfold rdI
      rw [if_neg hw, if_neg (by decide)]
    rw [e]
    rfl
/-- the model's shares behind the class's -/
theorem mtold {σ L : xSt} {v : Int} (v1 : f_Shares_areTold σ = some v) (l1 : Inv0 L) (l2 : ∀ a k, a ≤ 86 → L a k = σ a k) : f_M_hasShares L = some v ∧ ∀ (E M : Nat) (K : Nat → Nat), ShX σ E K M → ShM L E K M := by
  obtain ⟨E, h6, hE, mE, hs⟩ := l1.shares
  obtain ⟨u, u1, u2, -⟩ := told_lock (fa := σ 14) (fb := σ 15) (σ := σ) (σm := L) h6 (fun e he => by rw [← l2 14 e (by decide), ← l2 15 e (by decide)]; exact (hs e he).1) (by rw [← l2 7 2 (by decide)]; exact hE) (fun _ _ => rfl) (fun _ _ => rfl) mE (fun e he => by rw [← l2 14 e (by decide)]; exact (hs e he).2.1) (fun e he => by rw [← l2 15 e (by decide)]; exact (hs e he).2.2)
  rw [v1] at u1
  refine ⟨by rw [u2, Option.some.inj u1], fun E' M K sX => ?_⟩
  obtain ⟨q1, q6, qE, q0, q20, qs, qk⟩ := sX
  have eE : E' = E := by
    have := hE.symm.trans ((l2 7 2 (by decide)).trans q1)
    omega
  subst eE
  exact ⟨mE, ((hs 0 qE).2.2.trans (l2 15 0 (by decide))).trans (qk 0 qE).2.1, fun e he => ((hs e he).2.1.trans (l2 14 e (by decide))).trans (qk e he).1⟩
theorem sim_fewest {n : Nat} : ∀ p1 : Int, in32 p1 → SimT (InvN (n + 1)) (InvN n) (f_X_fewest p1) (f_M_fewest p1) := by
  intro p1 _
  refine simT_scr (fun σ h => ?_)
  have h0 := lay0 h
  have refuse : ∀ L : xSt, f_M_fewest_20 L = some (0, upS L 111 0 1) := fun L => rfl
  have nul : ∀ (hX : f_X_fewest p1 σ = some (none, σ)), (∀ L : xSt, f_M_lay (wSt (none, σ)) = some L → Inv0 L → (∀ a k, a ≤ 86 → L a k = σ a k) → f_M_fewest p1 (wSt (none, σ)) = f_M_fewest_20 L) → ∃ r σ1, f_X_fewest p1 σ = some (r, σ1) ∧ Fr s_sc σ σ1 ∧ ∀ L, f_M_lay (wSt (r, σ1)) = some L → Inv0 L → L 111 22 ≠ 0 → (∀ a k, a ≤ 86 → L a k = σ a k) → ∃ bb M, f_M_fewest p1 (wSt (r, σ1)) = some (bb, M) ∧ Fr s_sc L M ∧ (r = none ∧ M 111 0 = 1 ∨ M 111 0 = 0 ∧ r = some bb) := fun hX hM => ⟨none, σ, hX, Fr.rf, fun L l1 l2 l3 l4 => ⟨0, upS L 111 0 1, (hM L l1 l2 l4).trans (refuse L), Fr.up Fr.rf rfl rfl, Or.inl ⟨rfl, rfl⟩⟩⟩
  obtain ⟨v, v1, -, v3⟩ := told_sim h0.2.1 h0.2.2.2.2
  by_cases hq : 0 ≤ p1 ∧ p1 < 2
  · rcases v3 with rfl | ⟨rfl, E, M, K, sX, -⟩
    · refine nul ?_ (fun L l1 l2 l3 => ?_)
      · unfold f_X_fewest
        rw [v1, xbR_s, if_pos rfl]
      · unfold f_M_fewest
        rw [l1, xbR_s, m_isIn, if_pos (by omega), xbR_s, if_neg (by decide), (mtold v1 l2 l3).1, xbR_s, if_pos rfl]
    · have sX2 := sX
      obtain ⟨q1, q6, qE, q0, q20, qs, qk⟩ := sX2
      have hK : ∀ e : Nat, e < E → K e ≤ M := fun e he => (qk e he).2.2
      obtain ⟨f1, f2, f3, f4, f5, f6, f7⟩ := few_nums q0 q20
      have pp := p18 f7
      have p2 : 2 ≤ 2 ^ perN M := by
        have : 2 ^ 1 ≤ 2 ^ perN M := Nat.pow_le_pow_right (by decide) f6
        omega
      have p44 := p4 f4
      have b0 : 0 < (2 ^ perN M - 1) * 2 ^ twoN M := Nat.mul_pos (by omega) (by omega)
      have b1 : 0 < 16 * (2 ^ perN M - 1) := by omega
      have same : rdI (cX K E M : Int) ((2 ^ perN M - 1) * 2 ^ twoN M) p1 = rdI (cM K E M : Int) (16 * (2 ^ perN M - 1)) p1 := by
        refine rdI_eq b0 b1 ?_
        have fs := few_same q0 q20 qs hK
        have e1 : cX K E M * (16 * (2 ^ perN M - 1)) = cM K E M * ((2 ^ perN M - 1) * 2 ^ twoN M) := by
          rw [← Nat.mul_assoc, Nat.mul_comm (cX K E M) 16, fs, Nat.mul_assoc, Nat.mul_comm (2 ^ twoN M)]
        rw [← Int.natCast_mul, ← Int.natCast_mul, e1]
      have xf := x_fewest sX
      refine ⟨some (rdI (cX K E M : Int) ((2 ^ perN M - 1) * 2 ^ twoN M) p1), upS (upS (upS σ 95 1 (rdI (cX K E M : Int) ((2 ^ perN M - 1) * 2 ^ twoN M) 0)) 95 2 (rdI (cX K E M : Int) ((2 ^ perN M - 1) * 2 ^ twoN M) 1)) 95 0 1, ?_, Fr.up (Fr.up (Fr.up Fr.rf rfl rfl) rfl rfl) rfl rfl, fun L l1 l2 l3 l4 => ?_⟩
      · unfold f_X_fewest
        rw [v1, xbR_s, if_neg (by decide), x_isWithin, if_pos hq, xbR_s, if_neg (by decide), xf, xbR_s, x_part, xbR_s]
      · obtain ⟨m1, m2⟩ := mtold v1 l2 l4
        have sM0 := m2 E M K sX
        have sM : ShM (upS L 111 0 0) E K M := ⟨by rw [upS_ne (by decide)]; exact sM0.1, by rw [upS_ne (by decide)]; exact sM0.2.1, fun e he => by rw [upS_ne (by decide)]; exact sM0.2.2 e he⟩
        rcases m_allF q6 sM E 1000000 0 (by omega) (by omega) with ⟨x, x1, x2, x3⟩ | ⟨x1, x2⟩
        · have hop : ∀ i, opN K E M i = 0 := by
            intro i
            have hz : ∀ e : Nat, e < E → K e * 2 ^ i % M = 0 := fun e he => by
              by_cases hx : e = x
              · rw [hx, x2]
                exact Nat.mul_mod_right _ _
              · have hk : K e = 0 := by
                  by_cases hl : e < x
                  · have := nsum_ge2 (K := K) hl E x1
                    omega
                  · have := nsum_ge2 (K := K) (e := x) (f := e) (by omega) E he
                    omega
                rw [hk, Nat.zero_mul, Nat.zero_mod]
            unfold opN
            rw [nsum_cg (g := fun _ => 0) E hz, nsum_zero, Nat.zero_div]
          have hcX : cX K E M = 0 := by
            unfold cX
            rw [nsum_cg (g := fun _ => 0) (twoN M) (fun i _ => by rw [hop, Nat.zero_mul]), nsum_cg (g := fun _ => 0) (perN M) (fun i _ => by rw [hop, Nat.zero_mul]), nsum_zero, nsum_zero]
          have x3 : f_M_all (upS L 111 0 0) = some (x : Int) := x3
          have hxn : ¬ (x : Int) = -1 := by omega
          have e0 : rdI (cX K E M : Int) ((2 ^ perN M - 1) * 2 ^ twoN M) p1 = if p1 = 0 then 0 else 1 := by rw [hcX, c0n, rdI_zero b0]
          by_cases hw : p1 = 0
          · refine ⟨0, upS L 111 0 0, ?_, Fr.up Fr.rf rfl rfl, Or.inr ⟨rfl, by rw [e0, if_pos hw]⟩⟩
            unfold f_M_fewest
            rw [l1, xbR_s, m_isIn, if_pos (by omega), xbR_s, if_neg (by decide), m1, xbR_s, if_neg (by decide), xlet_s, x3, xbR_s, if_neg hxn, if_pos hw]
          · refine ⟨1, upS L 111 0 0, ?_, Fr.up Fr.rf rfl rfl, Or.inr ⟨rfl, by rw [e0, if_neg hw]⟩⟩
            unfold f_M_fewest
            rw [l1, xbR_s, m_isIn, if_pos (by omega), xbR_s, if_neg (by decide), m1, xbR_s, if_neg (by decide), xlet_s, x3, xbR_s, if_neg hxn, if_neg hw]
        · have x1 : f_M_all (upS L 111 0 0) = some (-1) := x1
          obtain ⟨τ1, t1, t2, t3, t4⟩ := m_few50 q6 (what := p1) E 1000000 0 (upS L 111 0 0) (by omega) (by omega) sM (fun x hx => absurd hx (Nat.not_lt_zero _))
          have hF : FwM τ1 E K M 0 := ⟨t2, fun e he => by
            have h1 := x2 e (Nat.zero_le e) he
            have h2 := hK e he
            rw [t3 e he, Nat.pow_zero, Nat.mul_one, Nat.mod_eq_of_lt (by omega)]⟩
          obtain ⟨τ2, u1, u2⟩ := m_few80 q6 q0 q20 (what := p1) 5 1000000 0 τ1 (by omega) (by omega) hF
          have u1 : f_M_fewest_80 1000000 p1 0 0 τ1 = some (rdI (cM K E M : Int) (16 * (2 ^ perN M - 1)) p1, τ2) := u1
          refine ⟨rdI (cM K E M : Int) (16 * (2 ^ perN M - 1)) p1, τ2, ?_, ?_, Or.inr ⟨?_, by rw [same]⟩⟩
          · unfold f_M_fewest
            rw [c0n] at t1
            rw [l1, xbR_s, m_isIn, if_pos (by omega), xbR_s, if_neg (by decide), m1, xbR_s, if_neg (by decide), xlet_s, x1, xbR_s, if_pos rfl, t1, u1]
          · refine Fr.tr (Fr.up (Fr.rf (σ := L)) (rfl : upS L 111 0 0 = upS L 111 0 0) rfl) (fun a k hk => ?_)
            have hne : a ≠ 128 := by
              rintro rfl
              cases hk
            rw [u2 a k hne, t4 a k hne]
          · rw [u2 111 0 (by decide), t4 111 0 (by decide), upS_eq]
  · refine nul ?_ (fun L l1 l2 l3 => ?_)
    · unfold f_X_fewest
      rcases v3 with rfl | ⟨rfl, -⟩
      · rw [v1, xbR_s, if_pos rfl]
      · rw [v1, xbR_s, if_neg (by decide), x_isWithin, if_neg hq, xbR_s, if_pos rfl]
    · unfold f_M_fewest
      rw [l1, xbR_s, m_isIn, if_neg (by omega), xbR_s, if_pos rfl]
