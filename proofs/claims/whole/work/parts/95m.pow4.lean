/-! powers: the model's table, bounds -/
theorem m_lp17 {G : xSt} (h : Inv0 G) (h22 : G 111 22 ≠ 0) (hn0 : 0 < G 16 0) {t : Nat} (ht : (t : Int) < G 7 1) (hno : (t : Int) ≠ G 7 3) (hH : Has G 0 (G 16 0).toNat (t : Int)) (w1 : 1 ≤ wo G 1 t) {k7 : Int → xSt → Option xSt} {v : Nat} (hv : v * wo G 1 t ^ 6 < 9223372036854775808) : ∀ (j fu l : Nat) (τ : xSt), l + j = 6 → j < fu → (∀ q, τ 113 q = G 113 q) → τ 111 32 = ((v * wo G 1 t ^ l : Nat) : Int) →
    ∃ τ', f_M_layPowers_17 k7 fu (t : Int) (l : Int) τ = k7 ((t + 1 : Nat) : Int) τ' ∧ τ' 111 32 = ((v * wo G 1 t ^ 6 : Nat) : Int) ∧ ∀ c q, c ≠ 111 → τ' c q = τ c q := by
  have h3 := h.things.2.2
  have t1 : t < 100000 := by omega
  have hop := opG h h22
  intro j
  induction j with
  | zero =>
    intro fu l τ g1 g2 hB h29
    obtain ⟨fu, rfl⟩ : ∃ n2, fu = n2 + 1 := ⟨fu - 1, by omega⟩
    obtain rfl : l = 6 := by omega
    refine ⟨τ, ?_, h29, fun _ _ _ => rfl⟩
    rw [f_M_layPowers_17.eq_2, if_neg (by decide), w32_n1 t1, xlet_s]
  | succ j ih =>
    intro fu l τ g1 g2 hB h29
    obtain ⟨fu, rfl⟩ : ∃ n2, fu = n2 + 1 := ⟨fu - 1, by omega⟩
    have l6 : (l : Int) < 6 := by omega
    have l1 : l < 100000 := by omega
    obtain ⟨u, u1, u2⟩ := m_wayHas (τ := τ) h hB hn0 (t : Int)
    obtain rfl : u = 1 := by
      rcases u2 with ⟨z, -⟩ | ⟨-, z⟩
      · exact z
      · exact absurd hH z
    have hth := h.th (p := (t : Int)) (by omega) ht
    rw [Int.toNat_natCast] at hth
    have woe : wo G 1 t = (G 11 t).toNat := if_neg hno
    have q5 := hth.2.2.2.2.1
    have ao : f_M_partsOf (t : Int) τ = some (wo G 1 t : Int) := by
      rw [m_partsOf (by omega) (by omega), Int.toNat_natCast, hB, ← hth.2.2.2.1, woe, Int.toNat_of_nonneg (by omega)]
    have p1 : wo G 1 t ^ (l + 1) ≤ wo G 1 t ^ 6 := Nat.pow_le_pow_right w1 (by omega)
    have p2 : v * wo G 1 t ^ (l + 1) ≤ v * wo G 1 t ^ 6 := Nat.mul_le_mul_left _ p1
    have p3 : v * wo G 1 t ^ (l + 1) = v * wo G 1 t ^ l * wo G 1 t := by rw [Nat.pow_succ, Nat.mul_assoc]
    have p4 : v * wo G 1 t ^ l * wo G 1 t < 9223372036854775808 := by omega
    obtain ⟨τ', d1, d2, d3⟩ := ih fu (l + 1) (upS τ 111 32 ((v * wo G 1 t ^ (l + 1) : Nat) : Int)) (by omega) (by omega) (fun q => by rw [upS_ne (by decide)]; exact hB q) upS_eq
    refine ⟨τ', ?_, d2, fun c q hc => by rw [d3 c q hc, upS_ne hc]⟩
    rw [f_M_layPowers_17.eq_2, if_pos l6, if_neg (by rw [hB, hop]; exact hno), u1, xbR_s, if_neg (by decide), ao, xbR_s, h29, w64_mul p4, ← p3, xlet_s, w32_n1 l1, xlet_s, d1]
theorem m_lp7 {G : xSt} (h : Inv0 G) (h22 : G 111 22 ≠ 0) (hn0 : 0 < G 16 0) {Tn : Nat} (hT : G 7 1 = (Tn : Int)) {hs : Nat → Bool} (hhs : ∀ t : Nat, hs t = true ↔ Has G 0 (G 16 0).toNat (t : Int)) : ∀ (j fu t : Nat) (τ : xSt), t + j = Tn → j < fu → (∀ q, τ 113 q = G 113 q) → τ 111 32 = ((PM G 1 hs t ^ 6 : Nat) : Int) →
    ∃ τ', f_M_layPowers_7 fu (t : Int) τ = f_M_layPowers_74 1000000 0 τ' ∧ τ' 111 32 = ((PM G 1 hs Tn ^ 6 : Nat) : Int) ∧ ∀ c q, c ≠ 111 → τ' c q = τ c q := by
  obtain ⟨t1, t2, t3⟩ := h.things
  have hb : Bnd 1 1 1 := ⟨by decide, by decide, by decide, by decide⟩
  have hop := opG h h22
  intro j
  induction j with
  | zero =>
    intro fu t τ g1 g2 hB h29
    obtain ⟨fu, rfl⟩ : ∃ n2, fu = n2 + 1 := ⟨fu - 1, by omega⟩
    obtain rfl : t = Tn := by omega
    have hth : f_M_things τ = some (t : Int) := by
      unfold f_M_things
      rw [hB, ← t1, hT]
    refine ⟨τ, ?_, h29, fun _ _ _ => rfl⟩
    rw [f_M_layPowers_7.eq_2, hth, xbR_s, if_neg (Int.lt_irrefl _)]
  | succ j ih =>
    intro fu t τ g1 g2 hB h29
    obtain ⟨fu, rfl⟩ : ∃ n2, fu = n2 + 1 := ⟨fu - 1, by omega⟩
    have ht : (t : Int) < G 7 1 := by omega
    have hti : (t : Int) < (Tn : Int) := by omega
    have b3 : t < 100000 := by omega
    have hth : f_M_things τ = some (Tn : Int) := by
      unfold f_M_things
      rw [hB, ← t1, hT]
    have e3 : PM G 1 hs (t + 1) = PM G 1 hs t * (if hs t = true then wo G 1 t else 1) := rfl
    have pl := PM_le (hs := hs) (t := t + 1) h hb (by omega)
    have skip : PM G 1 hs (t + 1) = PM G 1 hs t → (∀ k7 : Int → xSt → Option xSt, f_M_layPowers_17 k7 1000000 (t : Int) 0 τ = k7 ((t + 1 : Nat) : Int) τ) → ∃ τ', f_M_layPowers_7 (fu + 1) (t : Int) τ = f_M_layPowers_74 1000000 0 τ' ∧ τ' 111 32 = ((PM G 1 hs Tn ^ 6 : Nat) : Int) ∧ ∀ c q, c ≠ 111 → τ' c q = τ c q := fun e st => by
      obtain ⟨τ', d1, d2, d3⟩ := ih fu (t + 1) τ (by omega) (by omega) hB (by rw [h29, e])
      refine ⟨τ', ?_, d2, d3⟩
      rw [f_M_layPowers_7.eq_2, hth, xbR_s, if_pos hti, st]
      exact d1
    by_cases ho : (t : Int) = G 7 3
    · have wo1 : wo G 1 t = 1 := if_pos ho
      refine skip (by rw [e3, wo1]; split <;> exact Nat.mul_one _) (fun k7 => ?_)
      obtain ⟨n2, hn2⟩ : ∃ n2, 1000000 = n2 + 1 := ⟨999999, rfl⟩
      rw [hn2, f_M_layPowers_17.eq_2, if_pos (by decide), if_pos (by rw [hB, hop]; exact ho), w32_n1 b3, xlet_s]
    · by_cases hz : hs t = true
      · have q := h.th (p := (t : Int)) (by omega) ht
        rw [Int.toNat_natCast] at q
        obtain ⟨w1, w2, -⟩ := wp_f (s := 0) h hb ht (by have := q.2.1; omega)
        rw [if_pos hz] at e3
        have e4 : PM G 1 hs (t + 1) ^ 6 = PM G 1 hs t ^ 6 * wo G 1 t ^ 6 := by rw [e3, Nat.mul_pow]
        have e5 : PM G 1 hs t ^ 6 * wo G 1 t ^ 6 < 9223372036854775808 := by omega
        obtain ⟨τ1, a1, a2, a3⟩ := m_lp17 (k7 := fun z0 sz => f_M_layPowers_7 fu z0 sz) h h22 hn0 ht ho ((hhs t).mp hz) w1 e5 6 1000000 0 τ (by omega) (by omega) hB (by rw [Nat.pow_zero, Nat.mul_one]; exact h29)
        obtain ⟨τ', d1, d2, d3⟩ := ih fu (t + 1) τ1 (by omega) (by omega) (fun q => by rw [a3 113 q (by decide)]; exact hB q) (by rw [a2, e4])
        rw [c0n] at a1
        refine ⟨τ', ?_, d2, fun c q hc => by rw [d3 c q hc, a3 c q hc]⟩
        rw [f_M_layPowers_7.eq_2, hth, xbR_s, if_pos hti, a1]
        exact d1
      · obtain ⟨u, u1, u2⟩ := m_wayHas (τ := τ) h hB hn0 (t : Int)
        obtain rfl : u = 0 := by
          rcases u2 with ⟨-, z⟩ | ⟨z, -⟩
          · exact absurd ((hhs t).mpr z) hz
          · exact z
        refine skip (by rw [e3, if_neg hz, Nat.mul_one]) (fun k7 => ?_)
        obtain ⟨n2, hn2⟩ : ∃ n2, 1000000 = n2 + 1 := ⟨999999, rfl⟩
        rw [hn2, f_M_layPowers_17.eq_2, if_pos (by decide), if_neg (by rw [hB, hop]; exact ho), u1, xbR_s, if_pos rfl, w32_n1 b3, xlet_s]
theorem m_lp74 : ∀ (j fu i : Nat) (τ : xSt), i + j = 49 → j < fu → (∀ k : Nat, k < i → τ 123 k = 0) → ∃ τ', f_M_layPowers_74 fu (i : Int) τ = (xbR (f_M_raise 60 0 (τ' 111 32) 0 0 τ') fun σ12 => some σ12) ∧ (∀ k : Nat, k < 49 → τ' 123 k = 0) ∧ ∀ a q, a ≠ 123 → τ' a q = τ a q := by
  intro j
  induction j with
  | zero =>
    intro fu i τ g1 g2 h0
    obtain ⟨fu, rfl⟩ : ∃ n2, fu = n2 + 1 := ⟨fu - 1, by omega⟩
    obtain rfl : i = 49 := by omega
    refine ⟨τ, ?_, h0, fun _ _ _ => rfl⟩
    rw [f_M_layPowers_74.eq_2, if_neg (by decide)]
  | succ j ih =>
    intro fu i τ g1 g2 h0
    obtain ⟨fu, rfl⟩ : ∃ n2, fu = n2 + 1 := ⟨fu - 1, by omega⟩
    have b2 : 0 ≤ (i : Int) ∧ (i : Int) < 49 := by omega
    have b3 : i < 100000 := by omega
    obtain ⟨τ', t1, t2, t3⟩ := ih fu (i + 1) (upS τ 123 i 0) (by omega) (by omega) (fun k hk => by
      by_cases hz : k = i
      · rw [hz, upS_eq]
      · rw [upS_nk hz]
        exact h0 k (by omega))
    refine ⟨τ', ?_, t2, fun a q ha => by rw [t3 a q ha, upS_ne ha]⟩
    rw [f_M_layPowers_74.eq_2, if_pos b2.2, if_pos b2, Int.toNat_natCast, xlet_s, w32_n1 b3, xlet_s, t1]
theorem ht_tree {G : xSt} (h : Inv0 G) {al n : Nat} {X H T : Nat → Nat} (hn : G 16 0 = (n : Int)) (hR : ∀ j : Nat, j < n → XRec G 1 1 1 al X H T j) : ∀ (d k e m : Nat), Sub G 7 16 d k e m → e ≤ n → ∀ j : Nat, k ≤ j → j < e → H j + T j ≤ H k + T k + d := by
  intro d
  induction d with
  | zero =>
    intro k e m hS he j h1 h2
    obtain ⟨h3, -⟩ := hS
    rw [show j = k by omega]
    omega
  | succ d ih =>
    intro k e m hS he j h1 h2
    rcases hS with ⟨h3, -⟩ | ⟨a1, a2, a3, f, hh, f0, fe, fs, fm⟩
    · rw [show j = k by omega]
      omega
    · by_cases hj : j = k
      · rw [hj]
        omega
      · have a2 : 0 ≤ G 18 k := a2
        obtain ⟨t, ht⟩ : ∃ t : Nat, G 18 k = (t : Int) := ⟨(G 18 k).toNat, by omega⟩
        obtain ⟨s, s1, s2, s3⟩ := cover (f := f) (i := j) (by omega) (G (7 + 3) (G (16 + 2) k).toNat).toNat (by omega)
        have hs : (s : Int) < G (7 + 3) (G (16 + 2) k).toNat := by omega
        obtain ⟨g1, g2, g3, g4, g5⟩ := fs s hs
        have hin := sons_in (f := f) (N := G (7 + 3) (G (16 + 2) k).toNat) (k := k) (e := e) (fun s hs => (Sub_lt d _ _ _ (fs s hs).1).1) f0 fe hs
        have g2 : G 19 (f s) = (k : Int) := g2
        have g3 : G 20 (f s) = (s : Int) := g3
        obtain ⟨-, r2, r3⟩ := (hR (f s) (by omega)).2 (by omega) k s t g2 g3 ht
        have q := ih _ _ _ g1 (by omega) j (by omega) s3
        have r : (if (t : Int) = G 7 3 ∧ s = 0 then 1 else 0) + (if (t : Int) = G 7 3 ∧ s = 1 then 1 else 0) ≤ 1 := by
          split <;> split <;> omega
        omega
theorem ht_no {G : xSt} (h : Inv0 G) {al n : Nat} {X H T : Nat → Nat} (hn : G 16 0 = (n : Int)) (hR : ∀ j : Nat, j < n → XRec G 1 1 1 al X H T j) (ho : ∀ t : Nat, (t : Int) < G 7 1 → (t : Int) ≠ G 7 3) : ∀ i j : Nat, j ≤ i → j < n → H j = 0 ∧ T j = 0 := by
  intro i
  induction i with
  | zero =>
    intro j h1 h2
    obtain rfl : j = 0 := by omega
    exact ((hR 0 h2).1 rfl).2
  | succ i ih =>
    intro j h1 h2
    by_cases hz : j = 0
    · subst hz
      exact ((hR 0 h2).1 rfl).2
    · obtain ⟨p, s, q1, q2, q3, q4, q5, q6, q7⟩ := h.par (i := j) (by omega) (by omega)
      obtain ⟨t, ht⟩ : ∃ t : Nat, G 18 p = (t : Int) := ⟨(G 18 p).toNat, by omega⟩
      obtain ⟨-, r2, r3⟩ := (hR j h2).2 (by omega) p s t q6 q7 ht
      have hno := ho t (by omega)
      rw [if_neg (fun z => hno z.1)] at r2 r3
      have := ih p (by omega) (by omega)
      omega
