/-! nearest, off: the model, the calls -/
theorem m_shareBelow {τ : xSt} : f_M_shareBelow τ = some (τ 113 29) := rfl
theorem m_ends_ {τ : xSt} : f_M_ends τ = some (τ 113 1) := rfl
theorem p20 {n : Nat} (hn : n ≤ 20) : 2 ^ n ≤ 1048576 := by
  have h1 : 2 ^ n ≤ 2 ^ 20 := Nat.pow_le_pow_right (by decide) hn
  have h2 : (2 : Nat) ^ 20 = 1048576 := by decide
  omega
/-- the best of the rests from 0 to e, the first -/
def Mx (τ : xSt) (b e : Nat) : Prop := b < e ∧ (∀ i : Nat, i < e → τ 128 i ≤ τ 128 b) ∧ ∀ i : Nat, i < b → τ 128 i < τ 128 b
theorem m_near95 {τ : xSt} {E : Nat} (hE : τ 113 1 = (E : Int)) (h6 : E ≤ 6) {K : Int → xSt → Option xSt} {l4 : Int} : ∀ (j fu e b : Nat), e + j = E → j < fu → Mx τ b e → ∃ b2, Mx τ b2 E ∧ f_M_layNear_95 K fu l4 (b : Int) (e : Int) τ = K (w64 (l4 - 1)) (upS (upS τ 129 b2 (w64 (τ 129 b2 + 1))) 128 b2 (-1)) := by
  intro j
  induction j with
  | zero =>
    intro fu e b g1 g2 hm
    obtain ⟨fu, rfl⟩ : ∃ n2, fu = n2 + 1 := ⟨fu - 1, by omega⟩
    obtain rfl : e = E := by omega
    have hb : b < e := hm.1
    have b2 : 0 ≤ (b : Int) ∧ (b : Int) < 6 := by omega
    refine ⟨b, hm, ?_⟩
    rw [f_M_layNear_95.eq_2, m_ends_, hE, xbR_s, if_neg (by omega), if_pos b2, if_pos b2, Int.toNat_natCast, xlet_s, if_pos b2, xlet_s, xlet_s]
  | succ j ih =>
    intro fu e b g1 g2 hm
    obtain ⟨fu, rfl⟩ : ∃ n2, fu = n2 + 1 := ⟨fu - 1, by omega⟩
    obtain ⟨m1, m2, m3⟩ := hm
    have b2 : 0 ≤ (b : Int) ∧ (b : Int) < 6 := by omega
    have b1 : 0 ≤ (e : Int) ∧ (e : Int) < 6 := by omega
    have b3 : e < 100000 := by omega
    have b4 : (e : Int) < (E : Int) := by omega
    by_cases hlt : τ 128 b < τ 128 e
    · obtain ⟨b', q1, q2⟩ := ih fu (e + 1) e (by omega) (by omega) ⟨by omega, fun i hi => by
        by_cases he : i = e
        · rw [he]
          exact Int.le_refl _
        · have := m2 i (by omega)
          omega, fun i hi => by
        have := m2 i hi
        omega⟩
      refine ⟨b', q1, ?_⟩
      rw [f_M_layNear_95.eq_2, m_ends_, hE, xbR_s, if_pos b4, if_pos b1, if_pos b2, Int.toNat_natCast, Int.toNat_natCast, if_pos hlt, w32_n1 b3, xlet_s]
      exact q2
    · obtain ⟨b', q1, q2⟩ := ih fu (e + 1) b (by omega) (by omega) ⟨by omega, fun i hi => by
        by_cases he : i = e
        · rw [he]
          omega
        · exact m2 i (by omega), m3⟩
      refine ⟨b', q1, ?_⟩
      rw [f_M_layNear_95.eq_2, m_ends_, hE, xbR_s, if_pos b4, if_pos b1, if_pos b2, Int.toNat_natCast, Int.toNat_natCast, if_neg hlt, w32_n1 b3, xlet_s]
      exact q2
theorem m_near82 {R Q : Nat → Nat} {E T : Nat} (h6 : E ≤ 6) (h0 : 0 < E) (hT : T < E) (hQ : ∀ e : Nat, e < E → Q e ≤ 30000000) : ∀ (j fu : Nat) (pk : Nat → Bool) (τ : xSt), cntB pk E + j = T → j < fu → τ 113 1 = (E : Int) → (∀ o e : Nat, o < E → e < E → pk e = true → ah R o e = true → pk o = true) →
    (∀ e : Nat, e < E → τ 128 e = (if pk e = true then -1 else (R e : Int))) → (∀ e : Nat, e < E → τ 129 e = ((Q e + (if pk e = true then 1 else 0) : Nat) : Int)) →
    ∃ τ', f_M_layNear_82 fu (j : Int) τ = some τ' ∧ (∀ e : Nat, e < E → τ' 129 e = ((Q e + (if cntB (fun o => ah R o e) E < T then 1 else 0) : Nat) : Int)) ∧ ∀ a q, a ≠ 128 → a ≠ 129 → τ' a q = τ a q := by
  intro j
  induction j with
  | zero =>
    intro fu pk τ g1 g2 hE hd h128 h129
    obtain ⟨fu, rfl⟩ : ∃ n2, fu = n2 + 1 := ⟨fu - 1, by omega⟩
    refine ⟨τ, ?_, fun e he => ?_, fun _ _ _ _ => rfl⟩
    · rw [f_M_layNear_82.eq_2, if_neg (fun z => by have := xlc_gt.mp z; omega)]
    · rw [h129 e he]
      have hr := rank_ok (R := R) (pk := pk) (E := E) (T := T) (by omega) hd he
      by_cases hp : pk e = true
      · rw [if_pos hp, if_pos (hr.mp hp)]
      · rw [if_neg hp, if_neg (fun z => hp (hr.mpr z))]
  | succ j ih =>
    intro fu pk τ g1 g2 hE hd h128 h129
    obtain ⟨fu, rfl⟩ : ∃ n2, fu = n2 + 1 := ⟨fu - 1, by omega⟩
    have hm : Mx τ 0 1 := ⟨by omega, fun i hi => by rw [show i = 0 by omega]; exact Int.le_refl _, fun i hi => absurd hi (Nat.not_lt_zero _)⟩
    obtain ⟨b, ⟨b1, b2, b3⟩, q2⟩ := m_near95 (τ := τ) (E := E) hE h6 (K := fun z0 sz => f_M_layNear_82 fu z0 sz) (l4 := ((j + 1 : Nat) : Int)) (E - 1) 1000000 1 0 (by omega) (by omega) hm
    -- one is not picked yet
    have hex : ∃ x : Nat, x < E ∧ pk x ≠ true := by
      by_cases hx : ∀ x : Nat, x < E → pk x = true
      · have := cntB_all E hx
        omega
      · obtain ⟨x, hx⟩ := Classical.not_forall.mp hx
        obtain ⟨hx1, hx2⟩ := Classical.not_imp.mp hx
        exact ⟨x, hx1, hx2⟩
    obtain ⟨x, x1, x2⟩ := hex
    have hb : pk b ≠ true := by
      intro hpb
      have e1 := b2 x x1
      rw [h128 x x1, if_neg x2, h128 b b1, if_pos hpb] at e1
      omega
    have hn : nsum Q E + j < 9223372036854775807 := by
      have := nsum_le (f := Q) (c := 30000000) E hQ
      omega
    have hQb := hQ b b1
    have e1 : w64 (((j + 1 : Nat) : Int) - 1) = (j : Int) := (w64_o (by omega) (by omega)).trans (by omega)
    have e2 : w64 (τ 129 b + 1) = ((Q b + 1 : Nat) : Int) := by
      rw [h129 b b1, if_neg hb, Nat.add_zero]
      exact (w64_o (by omega) (by omega)).trans (by omega)
    obtain ⟨τ', t1, t2, t3⟩ := ih fu (fun i => pk i || Nat.beq i b) (upS (upS τ 129 b ((Q b + 1 : Nat) : Int)) 128 b (-1)) (by rw [cntB_add hb, if_pos b1]; omega) (by omega) (by rw [upS_ne (by decide), upS_ne (by decide)]; exact hE) (fun o e ho he hp ha => by
        show (pk o || Nat.beq o b) = true
        have hp : (pk e || Nat.beq e b) = true := hp
        rcases Bool.or_eq_true_iff.mp hp with hp | hp
        · rw [hd o e ho he hp ha]
          rfl
        · obtain rfl := Nat.eq_of_beq_eq_true hp
          cases hpo : pk o with
          | true => rfl
          | false =>
            have hne : pk o ≠ true := by
              rw [hpo]
              decide
            have f1 := b2 o ho
            rw [h128 o ho, if_neg hne, h128 e he, if_neg hb] at f1
            rcases ah_of.mp ha with z | ⟨z1, z2⟩
            · omega
            · have f2 := b3 o z2
              rw [h128 o ho, if_neg hne, h128 e he, if_neg hb] at f2
              omega) (fun e he => by
        show _ = if (pk e || Nat.beq e b) = true then (-1 : Int) else (R e : Int)
        by_cases hz : e = b
        · rw [hz, upS_eq, Nat.beq_refl, Bool.or_true, if_pos rfl]
        · have e0 : Nat.beq e b = false := by
            cases hq : Nat.beq e b with
            | false => rfl
            | true => exact absurd (Nat.eq_of_beq_eq_true hq) hz
          rw [upS_nk hz, upS_ne (by decide), e0, Bool.or_false]
          exact h128 e he) (fun e he => by
        show _ = ((Q e + (if (pk e || Nat.beq e b) = true then 1 else 0) : Nat) : Int)
        by_cases hz : e = b
        · rw [hz, upS_ne (by decide), upS_eq, Nat.beq_refl, Bool.or_true, if_pos rfl]
        · have e0 : Nat.beq e b = false := by
            cases hq : Nat.beq e b with
            | false => rfl
            | true => exact absurd (Nat.eq_of_beq_eq_true hq) hz
          rw [upS_ne (by decide), upS_nk hz, e0, Bool.or_false]
          exact h129 e he)
    refine ⟨τ', ?_, t2, fun a q ha hb2 => by rw [t3 a q ha hb2, upS_ne ha, upS_ne hb2]⟩
    have q2 : f_M_layNear_95 (fun z0 sz => f_M_layNear_82 fu z0 sz) 1000000 ((j + 1 : Nat) : Int) 0 1 τ = _ := q2
    rw [f_M_layNear_82.eq_2, if_pos (xlc_gt.mpr (by omega)), q2, e1, e2]
    exact t1
theorem m_near10 {E M n : Nat} {K : Nat → Nat} (h6 : E ≤ 6) (h0 : 0 < M) (h20 : M ≤ 20) (hK : ∀ e : Nat, e < E → K e ≤ M) (hn : n ≤ 20) : ∀ (j fu e : Nat) (τ : xSt), e + j = E → j < fu → ShM τ E K M → (∀ i : Nat, i < e → τ 129 i = ((K i * 2 ^ n / M : Nat) : Int) ∧ τ 128 i = ((K i * 2 ^ n % M : Nat) : Int)) →
    ∃ τ', f_M_layNear_10 fu ((2 ^ n : Nat) : Int) (((2 ^ n : Nat) : Int) - ((nsum (fun i => K i * 2 ^ n / M) e : Nat) : Int)) (e : Int) τ = f_M_layNear_82 1000000 (((2 ^ n : Nat) : Int) - ((nsum (fun i => K i * 2 ^ n / M) E : Nat) : Int)) τ' ∧ (∀ i : Nat, i < E → τ' 129 i = ((K i * 2 ^ n / M : Nat) : Int) ∧ τ' 128 i = ((K i * 2 ^ n % M : Nat) : Int)) ∧ ∀ a q, a ≠ 128 → a ≠ 129 → τ' a q = τ a q := by
  have pw := p20 hn
  have qb : ∀ e : Nat, e < E → K e * 2 ^ n / M ≤ 20971520 ∧ 2 ^ n * K e < 9223372036854775808 ∧ K e * 2 ^ n = 2 ^ n * K e ∧ K e * 2 ^ n < 9223372036854775808 ∧ K e * 2 ^ n % M < 20 := fun e he => by
    have hk := hK e he
    have h3 : K e * 2 ^ n ≤ 20 * 1048576 := Nat.mul_le_mul (by omega) pw
    have h4 := Nat.div_le_self (K e * 2 ^ n) M
    have h5 := Nat.mul_comm (K e) (2 ^ n)
    have h7 := Nat.mod_lt (K e * 2 ^ n) h0
    omega
  intro j
  induction j with
  | zero =>
    intro fu e τ g1 g2 hs hq
    obtain ⟨fu, rfl⟩ : ∃ n2, fu = n2 + 1 := ⟨fu - 1, by omega⟩
    obtain rfl : e = E := by omega
    refine ⟨τ, ?_, hq, fun _ _ _ _ => rfl⟩
    rw [f_M_layNear_10.eq_2, m_ends_, hs.1, xbR_s, if_neg (by omega)]
  | succ j ih =>
    intro fu e τ g1 g2 hs hq
    obtain ⟨fu, rfl⟩ : ∃ n2, fu = n2 + 1 := ⟨fu - 1, by omega⟩
    obtain ⟨s1, s2, s3⟩ := hs
    have he : e < E := by omega
    obtain ⟨w1, w2, w3, w4, w5⟩ := qb e he
    have b1 : 0 ≤ (e : Int) ∧ (e : Int) < 6 := by omega
    have b3 : e < 100000 := by omega
    have b4 : (e : Int) < (E : Int) := by omega
    have b5 : e < 6 := by omega
    have m0 : ¬ (M : Int) = 0 := by omega
    have ns : nsum (fun i => K i * 2 ^ n / M) (e + 1) = nsum (fun i => K i * 2 ^ n / M) e + K e * 2 ^ n / M := rfl
    have nb := nsum_le (f := fun i => K i * 2 ^ n / M) (c := 20971520) e (fun i hi => (qb i (by omega)).1)
    have nb2 : e * 20971520 ≤ 6 * 20971520 := Nat.mul_le_mul (by omega) (Nat.le_refl _)
    have left : w64 (((2 ^ n : Nat) : Int) - ((nsum (fun i => K i * 2 ^ n / M) e : Nat) : Int) - ((K e * 2 ^ n / M : Nat) : Int)) = ((2 ^ n : Nat) : Int) - ((nsum (fun i => K i * 2 ^ n / M) (e + 1) : Nat) : Int) := by
      rw [ns]
      generalize nsum (fun i => K i * 2 ^ n / M) e = S at nb
      generalize K e * 2 ^ n / M = Q at w1
      generalize 2 ^ n = P at pw
      exact (w64_o (by omega) (by omega)).trans (by omega)
    have hS2 : ShM (upS (upS τ 129 e ((K e * 2 ^ n / M : Nat) : Int)) 128 e ((K e * 2 ^ n % M : Nat) : Int)) E K M := ⟨by rw [upS_ne (by decide), upS_ne (by decide)]; exact s1, by rw [upS_ne (by decide), upS_ne (by decide)]; exact s2, fun i hi => by rw [upS_ne (by decide), upS_ne (by decide)]; exact s3 i hi⟩
    obtain ⟨τ', t1, t2, t3⟩ := ih fu (e + 1) _ (by omega) (by omega) hS2 (fun i hi => by
      by_cases hz : i = e
      · rw [hz, upS_ne (by decide), upS_eq, upS_eq]
        exact ⟨rfl, rfl⟩
      · rw [upS_ne (by decide), upS_nk hz, upS_nk hz, upS_ne (by decide)]
        exact hq i (by omega))
    refine ⟨τ', ?_, t2, fun a q ha hb => by rw [t3 a q ha hb, upS_ne ha, upS_ne hb]⟩
    have so : ∀ v : Int, f_M_shareOf (e : Int) (upS τ 129 e v) = some (K e : Int) := fun v => by rw [m_shareOf b5, upS_ne (by decide), s3 e he]
    have sb : ∀ v : Int, f_M_shareBelow (upS τ 129 e v) = some (M : Int) := fun v => by rw [m_shareBelow, upS_ne (by decide), s2]
    have dv : xldiv (((2 ^ n * K e : Nat)) : Int) (M : Int) = ((K e * 2 ^ n / M : Nat) : Int) := by rw [xldiv_n w2, w3]
    have rm : w32 (xlrem ((2 ^ n * K e : Nat) : Int) (M : Int)) = ((K e * 2 ^ n % M : Nat) : Int) := by
      rw [xlrem_nat h0 w2, ← w3]
      generalize K e * 2 ^ n % M = r at w5
      exact w32_o (by omega) (by omega)
    have r129 : (upS (upS τ 129 e ((K e * 2 ^ n / M : Nat) : Int)) 128 e ((K e * 2 ^ n % M : Nat) : Int)) 129 e = ((K e * 2 ^ n / M : Nat) : Int) := by rw [upS_ne (by decide), upS_eq]
    rw [f_M_layNear_10.eq_2, m_ends_, s1, xbR_s, if_pos b4, m_shareOf b5, s3 e he, xbR_s, m_shareBelow, s2, xbR_s, if_neg m0, if_pos b1, Int.toNat_natCast, w64_mul w2, dv, xlet_s, so, xbR_s, sb, xbR_s, if_neg m0, if_pos b1, w64_mul w2, rm, xlet_s, if_pos b1, r129, left, xlet_s, w32_n1 b3, xlet_s, t1]
theorem m_layNear {E M n : Nat} {K : Nat → Nat} {τ : xSt} (h6 : E ≤ 6) (hE : 0 < E) (h0 : 0 < M) (h20 : M ≤ 20) (hK : ∀ e : Nat, e < E → K e ≤ M) (hsum : nsum K E = M) (hn : n ≤ 20) (hs : ShM τ E K M) : ∃ τ', f_M_layNear (n : Int) τ = some τ' ∧ (∀ e : Nat, e < E → τ' 129 e = ((nrN K E M n e : Nat) : Int)) ∧ ∀ a q, a ≠ 128 → a ≠ 129 → τ' a q = τ a q := by
  obtain ⟨τ1, a1, a2, a3⟩ := m_near10 (n := n) h6 h0 h20 hK hn E 1000000 0 τ (by omega) (by omega) hs (fun i hi => absurd hi (Nat.not_lt_zero _))
  have z0 : nsum (fun i => K i * 2 ^ n / M) 0 = 0 := rfl
  rw [z0, c0n, Int.sub_zero] at a1
  have lin := nsum_lin (K := K) (R := fun i => K i * 2 ^ n % M) (Q := fun i => K i * 2 ^ n / M) (P := 2 ^ n) (M := M) E (fun i _ => (Nat.div_add_mod _ _).symm)
  rw [hsum] at lin
  have lt := nsum_lt (f := fun i => K i * 2 ^ n % M) (c := M) hE (fun i _ => Nat.mod_lt _ h0)
  -- how many are left
  have hT : nsum (fun i => K i * 2 ^ n / M) E + nsum (fun i => K i * 2 ^ n % M) E / M = 2 ^ n := by
    have h1 : (M * nsum (fun i => K i * 2 ^ n / M) E + nsum (fun i => K i * 2 ^ n % M) E) / M = 2 ^ n := by
      rw [← lin]
      exact Nat.mul_div_cancel_left _ h0
    rw [Nat.mul_add_div h0] at h1
    exact h1
  have hTE : nsum (fun i => K i * 2 ^ n % M) E / M < E := (Nat.div_lt_iff_lt_mul h0).mpr lt
  have pw := p20 hn
  have qb : ∀ e : Nat, e < E → K e * 2 ^ n / M ≤ 30000000 := fun e he => by
    have hk := hK e he
    have h3 : K e * 2 ^ n ≤ 20 * 1048576 := Nat.mul_le_mul (by omega) pw
    have h4 := Nat.div_le_self (K e * 2 ^ n) M
    omega
  have el : ((2 ^ n : Nat) : Int) - ((nsum (fun i => K i * 2 ^ n / M) E : Nat) : Int) = ((nsum (fun i => K i * 2 ^ n % M) E / M : Nat) : Int) := by omega
  have c00 : ∀ m : Nat, cntB (fun _ => false) m = 0 := by
    intro m
    induction m with
    | zero => rfl
    | succ m ih =>
      show cntB (fun _ => false) m + (if false = true then 1 else 0) = 0
      rw [ih]
      rfl
  obtain ⟨τ2, d1, d2, d3⟩ := m_near82 (R := fun i => K i * 2 ^ n % M) (Q := fun i => K i * 2 ^ n / M) (T := nsum (fun i => K i * 2 ^ n % M) E / M) h6 hE hTE qb (nsum (fun i => K i * 2 ^ n % M) E / M) 1000000 (fun _ => false) τ1 (by rw [c00, Nat.zero_add]) (by omega) (by rw [a3 113 1 (by decide) (by decide)]; exact hs.1) (fun _ _ _ _ z _ => by cases z) (fun e he => by
      rw [(a2 e he).2]
      rfl) (fun e he => by
      rw [(a2 e he).1]
      rfl)
  refine ⟨τ2, ?_, d2, fun a q ha hb => by rw [d3 a q ha hb, a3 a q ha hb]⟩
  unfold f_M_layNear
  rw [shl_n (by omega), xlet_s, a1, el, d1]
/-- the shares told, as the calls have them -/
theorem told_sim {σ G : xSt} (h : Inv0 G) (gc : ∀ a k, a ≤ 110 → G a k = σ a k) : ∃ v, f_Shares_areTold σ = some v ∧ (∀ τ : xSt, (∀ k, τ 113 k = G 113 k) → f_M_hasShares τ = some v) ∧ (v = 0 ∨ v = 1 ∧ ∃ (E M : Nat) (K : Nat → Nat), ShX σ E K M ∧ ∀ τ : xSt, (∀ k, τ 113 k = G 113 k) → ShM τ E K M) := by
  obtain ⟨E, h6, hE, mE, hs⟩ := h.shares
  have e7 : σ 7 2 = (E : Int) := by rw [← gc 7 2 (by decide)]; exact hE
  have e14 : ∀ e, G 14 e = σ 14 e := fun e => gc 14 e (by decide)
  have e15 : ∀ e, G 15 e = σ 15 e := fun e => gc 15 e (by decide)
  obtain ⟨v, v1, v2, v3⟩ := told_lock (fa := σ 14) (fb := σ 15) (σ := σ) (σm := G) h6 (fun e he => by rw [← e14, ← e15]; exact (hs e he).1) e7 (fun _ _ => rfl) (fun _ _ => rfl) mE (fun e he => by rw [← e14]; exact (hs e he).2.1) (fun e he => by rw [← e15]; exact (hs e he).2.2)
  have all : ∀ τ : xSt, (∀ k, τ 113 k = G 113 k) → f_M_hasShares τ = some v := fun τ hτ => by
    obtain ⟨u, u1, u2, -⟩ := told_lock (fa := σ 14) (fb := σ 15) (σ := σ) (σm := τ) h6 (fun e he => by rw [← e14, ← e15]; exact (hs e he).1) e7 (fun _ _ => rfl) (fun _ _ => rfl) (by rw [hτ]; exact mE) (fun e he => by rw [hτ, ← e14]; exact (hs e he).2.1) (fun e he => by rw [hτ, ← e15]; exact (hs e he).2.2)
    rw [v1] at u1
    rw [u2, Option.some.inj u1]
  refine ⟨v, v1, all, ?_⟩
  rcases v3 with v3 | ⟨v3, vE, v4, v5, v6, v7⟩
  · exact Or.inl v3
  · refine Or.inr ⟨v3, E, (σ 15 0).toNat, fun e => (σ 14 e).toNat, ?_, ?_⟩
    · have hb : ∀ e : Nat, e < E → 0 ≤ σ 14 e ∧ σ 14 e ≤ σ 15 e ∧ σ 15 e ≤ 20 := fun e he => by rw [← e14, ← e15]; exact (hs e he).1
      have h20 := (hb 0 vE).2.2
      have hk : ∀ e : Nat, e < E → σ 14 e = (((σ 14 e).toNat : Nat) : Int) := fun e he => by have := (hb e he).1; omega
      refine ⟨e7, h6, vE, by omega, by omega, ?_, fun e he => ⟨hk e he, by rw [v6 e he]; omega, ?_⟩⟩
      · have := nsum_psum (K := fun e => (σ 14 e).toNat) (f := σ 14) E hk
        omega
      · have h1 := hb e he
        have h2 := v6 e he
        show (σ 14 e).toNat ≤ (σ 15 0).toNat
        omega
    · intro τ hτ
      have hb : ∀ e : Nat, e < E → 0 ≤ σ 14 e := fun e he => by rw [← e14]; exact (hs e he).1.1
      refine ⟨by rw [hτ]; exact mE, ?_, fun e he => ?_⟩
      · have := (hs 0 vE).2.2
        rw [hτ, show G 113 29 = σ 15 0 from this.trans (e15 0)]
        omega
      · rw [hτ, (hs e he).2.1, e14]
        have := hb e he
        show σ 14 e = (((σ 14 e).toNat : Nat) : Int)
        omega
theorem inv_nr {G M : xSt} (h : Inv0 G) (F : ∀ a q, a ≠ 128 → a ≠ 129 → M a q = G a q) : Inv0 M ∧ M 0 7 = G 0 7 := by
  have F2 : Fr [(128, []), (129, [])] G M := fun a k hk => F a k (by
    rintro rfl
    cases hk) (by
    rintro rfl
    cases hk)
  exact ⟨h.fr F2 rfl, F 0 7 (by decide) (by decide)⟩
theorem sim_nearest {n : Nat} : ∀ p1 p2 : Int, in32 p1 → in32 p2 → SimR (InvN (n + 1)) (InvN n) (f_X_nearest p1 p2) (f_M_nearest p1 p2) := by
  intro p1 p2 _ _
  refine simR0 (fun σ h => ?_)
  obtain ⟨hl, hIG, h22, g7, gc⟩ := lay0 h
  obtain ⟨he1, he2, he3⟩ := h.ends
  have hme : gLay (σ 111 22) (upS σ 111 0 0) 113 1 = σ 7 2 := by rw [← hIG.ends.1, gc 7 2 (by omega)]
  obtain ⟨v, v1, v2, v3⟩ := told_sim hIG gc
  have no : ∀ r : Int, f_X_nearest p1 p2 σ = some (-1) → f_M_nearest p1 p2 σ = some (-1, gLay (σ 111 22) (upS σ 111 0 0)) → ∃ r σ2, f_X_nearest p1 p2 σ = some r ∧ f_M_nearest p1 p2 σ = some (r, σ2) ∧ Inv0 σ2 ∧ σ2 0 7 = σ 0 7 := fun _ h1 h2 => ⟨-1, _, h1, h2, hIG, g7⟩
  by_cases hp : 0 ≤ p1 ∧ p1 < 21
  · by_cases hq : 0 ≤ p2 ∧ p2 < σ 7 2
    · rcases v3 with rfl | ⟨rfl, E, M, K, sX, sM⟩
      · refine no 0 ?_ ?_
        · unfold f_X_nearest
          rw [x_isWithin, if_pos hp, xbR_s, if_neg (by decide), x_hasEnd he3, if_pos hq, xbR_s, if_neg (by decide), v1, xbR_s, if_pos rfl]
        · unfold f_M_nearest
          rw [xlet_s, hl, xbR_s, m_isIn, if_pos (by omega), xbR_s, if_neg (by decide), m_isEnd, hme, if_pos hq, xbR_s, if_neg (by decide), v2 _ (fun _ => rfl), xbR_s, if_pos rfl]
      · have sX2 := sX
        obtain ⟨q1, q6, qE, q0, q20, qs, qk⟩ := sX2
        obtain ⟨m, rfl⟩ : ∃ m : Nat, p1 = (m : Int) := ⟨p1.toNat, by omega⟩
        obtain ⟨e, rfl⟩ : ∃ m : Nat, p2 = (m : Int) := ⟨p2.toNat, by omega⟩
        have he : e < E := by omega
        obtain ⟨τ', t1, t2, t3⟩ := m_layNear (n := m) q6 qE q0 q20 (fun e he => (qk e he).2.2) qs (by omega) (sM _ (fun _ => rfl))
        obtain ⟨i1, i2⟩ := inv_nr hIG t3
        have b6 : 0 ≤ (e : Int) ∧ (e : Int) < 6 := by omega
        have nb : nrN K E M m e < 2000000000 := by
          have hk := (qk e he).2.2
          have pw := p20 (n := m) (by omega)
          have h3 : K e * 2 ^ m ≤ 20 * 1048576 := Nat.mul_le_mul (by omega) pw
          have h4 := Nat.div_le_self (K e * 2 ^ m) M
          unfold nrN
          split <;> omega
        refine ⟨((nrN K E M m e : Nat) : Int), τ', ?_, ?_, i1, i2.trans g7⟩
        · unfold f_X_nearest
          rw [x_isWithin, if_pos hp, xbR_s, if_neg (by decide), x_hasEnd he3, if_pos hq, xbR_s, if_neg (by decide), v1, xbR_s, if_neg (by decide), x_nearestRows sX he (by omega), xbR_s]
        · unfold f_M_nearest
          rw [xlet_s, hl, xbR_s, m_isIn, if_pos (by omega), xbR_s, if_neg (by decide), m_isEnd, hme, if_pos hq, xbR_s, if_neg (by decide), v2 _ (fun _ => rfl), xbR_s, if_neg (by decide), t1, xbR_s, if_pos b6, Int.toNat_natCast, t2 e he]
          generalize nrN K E M m e = z at nb
          rw [w32_o (by omega) (by omega)]
    · refine no 0 ?_ ?_
      · unfold f_X_nearest
        rw [x_isWithin, if_pos hp, xbR_s, if_neg (by decide), x_hasEnd he3, if_neg hq, xbR_s, if_pos rfl]
      · unfold f_M_nearest
        rw [xlet_s, hl, xbR_s, m_isIn, if_pos (by omega), xbR_s, if_neg (by decide), m_isEnd, hme, if_neg hq, xbR_s, if_pos rfl]
  · refine no 0 ?_ ?_
    · unfold f_X_nearest
      rw [x_isWithin, if_neg hp, xbR_s, if_pos rfl]
    · unfold f_M_nearest
      rw [xlet_s, hl, xbR_s, m_isIn, if_neg (by omega), xbR_s, if_pos rfl]
