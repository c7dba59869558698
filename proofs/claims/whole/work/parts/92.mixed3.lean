/-! mixed: the call -/
theorem xshl_ok : (List.range 4).all (fun k => decide (xshl 1 (k : Int) = ((2 ^ k : Nat) : Int))) = true := by decide +kernel
theorem xshl_n {k : Nat} (h : k ≤ 3) : xshl 1 (k : Int) = ((2 ^ k : Nat) : Int) := of_decide_eq_true (List.all_eq_true.mp xshl_ok k (List.mem_range.mpr (by omega)))
theorem p8 {k : Nat} (h : k ≤ 3) : 1 ≤ 2 ^ k ∧ 2 ^ k ≤ 8 := by
  have h1 : 2 ^ k ≤ 2 ^ 3 := Nat.pow_le_pow_right (by decide) h
  have h2 : (2 : Nat) ^ 3 = 8 := by decide
  have h3 := Nat.two_pow_pos k
  omega
def pt9 (f : Nat → Int) (t s : Nat) : Nat := if (f (6 * t + s)).toNat ≤ 9 then (f (6 * t + s)).toNat else 0
theorem x_mixAll {σ : xSt} {set : Int} {N T : Nat} (h : Inv0 σ) (hT : σ 7 1 = (T : Int)) (h3 : T ≤ 3) (h6 : N ≤ 6) (hx : ∀ x : Nat, x < T → xand (xshr set (x : Int)) 1 = 1 → (x : Int) ≠ σ 7 3 ∧ (σ 10 x).toNat = N) :
    ∃ σ', f_Odds_mix set (N : Int) σ = some σ' ∧ σ' 87 7 = (aT set (fun t => (σ 11 t).toNat) T : Int) ∧ (∀ k : Nat, k < N → σ' 93 k = (vT set (pt9 (σ 12)) N T k : Int)) ∧ Fr s_sc σ σ' := by
  obtain ⟨σ1, a1, a2, -, a4⟩ := x_mix8 (set := set) (N := (N : Int)) 6 1000000 0 (upS σ 87 7 1) (by omega) (by omega)
  have s1 : ∀ a q, 7 ≤ a → a ≤ 15 → σ1 a q = σ a q := fun a q z1 z2 => by rw [a4 a q (by omega), upS_ne (by omega)]
  have hth : ∀ t : Nat, t < T → _ := fun t ht => h.th (p := (t : Int)) (by omega) (by omega)
  obtain ⟨σ2, b1, b2, b3, b4⟩ := x_mix41 (σ0 := σ) (set := set) (P := pt9 (σ 12)) (A := fun t => (σ 11 t).toNat) (N := N) (T := T) h6 h3 (fun t s _ => by unfold pt9; split <;> omega) (fun t ht hb => by
      obtain ⟨c1, c2⟩ := hx t ht hb
      have q := hth t ht
      rw [Int.toNat_natCast] at q
      obtain ⟨-, -, -, -, q5, q6, -, -, -, -, -, q12⟩ := q
      have := (q12 (fun z => c1 z.symm)).1
      show 1 ≤ (σ 11 t).toNat ∧ (σ 11 t).toNat ≤ 9
      omega) hT (fun t ht hb s hs σ2 h2 => by
      obtain ⟨c1, c2⟩ := hx t ht hb
      have q := hth t ht
      rw [Int.toNat_natCast] at q
      obtain ⟨-, -, q3, -, -, -, q7, -⟩ := q
      have r := (q7 s (by omega)).2
      have e71 : σ2 7 1 = σ 7 1 := h2 7 1 (by decide) (by decide)
      rw [x_partsOf (by omega), if_pos (by omega), Int.toNat_natCast, Int.toNat_natCast, h2 12 _ (by decide) (by decide)]
      unfold pt9
      rw [if_pos (by omega)]
      congr 1
      omega) (fun t ht hb σ2 h2 => by
      have q := hth t ht
      rw [Int.toNat_natCast] at q
      obtain ⟨-, -, -, -, q5, -⟩ := q
      have e71 : σ2 7 1 = σ 7 1 := h2 7 1 (by decide) (by decide)
      rw [x_allParts (by omega), if_pos (by omega), Int.toNat_natCast, h2 11 _ (by decide) (by decide)]
      congr 1
      show σ 11 t = (((σ 11 t).toNat : Nat) : Int)
      omega) T 1000000 0 σ1 (by omega) (by omega) s1 (by rw [a4 87 7 (by decide), upS_eq]; rfl) (fun k hk => by rw [a2 k (by omega) (by omega)]; rfl)
  rw [c0n] at a1 b1
  refine ⟨σ2, ?_, b2, b3, fun a k hk => ?_⟩
  · unfold f_Odds_mix
    rw [xlet_s, a1, b1]
  · have n1 : a = 87 → k ≠ 7 := by
      rintro rfl rfl
      cases hk
    have n2 : a ≠ 93 := by
      rintro rfl
      cases hk
    have n3 : a ≠ 94 := by
      rintro rfl
      cases hk
    rw [b4 a k n1 n2 n3, a4 a k n2, upS_rd, if_neg (fun z => n1 z.1 z.2)]
theorem sim_mixed {n : Nat} : ∀ p1 p2 p3 : Int, in32 p1 → in32 p2 → in32 p3 → SimT (InvN (n + 1)) (InvN n) (f_X_mixed p1 p2 p3) (f_M_mixed p1 p2 p3) := by
  intro p1 p2 p3 _ _ _
  refine simT_scr (fun σ h => ?_)
  obtain ⟨ht, ht0, ht3⟩ := h.things
  obtain ⟨T, hT⟩ : ∃ T : Nat, σ 7 1 = (T : Int) := ⟨(σ 7 1).toNat, by omega⟩
  have hT3 : T ≤ 3 := by omega
  have pp := p8 hT3
  have refuse : ∀ L : xSt, f_M_mixed_29 L = some (0, upS L 111 0 1) := fun L => rfl
  have refuse2 : ∀ L : xSt, f_M_mixed_91 L = some (0, upS L 111 0 1) := fun L => rfl
  have nul : ∀ (hX : f_X_mixed p1 p2 p3 σ = some (none, σ)), (∀ L : xSt, f_M_lay (wSt (none, σ)) = some L → Inv0 L → L 111 22 ≠ 0 → (∀ a k, a ≤ 86 → L a k = σ a k) → f_M_mixed p1 p2 p3 (wSt (none, σ)) = some (0, upS L 111 0 1)) → ∃ r σ1, f_X_mixed p1 p2 p3 σ = some (r, σ1) ∧ Fr s_sc σ σ1 ∧ ∀ L, f_M_lay (wSt (r, σ1)) = some L → Inv0 L → L 111 22 ≠ 0 → (∀ a k, a ≤ 86 → L a k = σ a k) → ∃ bb M, f_M_mixed p1 p2 p3 (wSt (r, σ1)) = some (bb, M) ∧ Fr s_sc L M ∧ (r = none ∧ M 111 0 = 1 ∨ M 111 0 = 0 ∧ r = some bb) := fun hX hM => ⟨none, σ, hX, Fr.rf, fun L l1 l2 l3 l4 => ⟨0, upS L 111 0 1, hM L l1 l2 l3 l4, Fr.up Fr.rf rfl rfl, Or.inl ⟨rfl, rfl⟩⟩⟩
  have mT : ∀ L : xSt, Inv0 L → (∀ a k, a ≤ 86 → L a k = σ a k) → f_M_things L = some (T : Int) ∧ L 113 0 = (T : Int) := fun L l2 l4 => by
    have e : L 113 0 = (T : Int) := by rw [← l2.things.1, l4 7 1 (by decide), hT]
    exact ⟨by unfold f_M_things; rw [e], e⟩
  have wT : w32 (((2 ^ T : Nat) : Int) - 1) = ((2 ^ T : Nat) : Int) - 1 := w32_o (by omega) (by omega)
  by_cases hA : 1 ≤ p1 ∧ p1 < ((2 ^ T : Nat) : Int)
  · have hA2 : 1 ≤ p1 ∧ p1 ≤ ((2 ^ T : Nat) : Int) - 1 := by omega
    have xsa : f_Table_sidesAlike p1 σ = f_Table_sidesAlike_21 1000000 p1 0 0 σ := by
      unfold f_Table_sidesAlike
      rw [if_neg (by omega), hT, xshl_n hT3, if_pos hA.2]
    have hS : ∀ t : Nat, t < T → (σ 10 t).toNat ≤ 6 ∧ 2 ≤ (σ 10 t).toNat ∧ f_Table_sidesOf (t : Int) σ = some (((σ 10 t).toNat : Nat) : Int) := fun t ht2 => by
      have q := h.th (p := (t : Int)) (by omega) (by omega)
      rw [Int.toNat_natCast] at q
      obtain ⟨-, q2, q3, -⟩ := q
      refine ⟨by omega, by omega, ?_⟩
      rw [x_sidesOf ht3, if_pos (by omega), Int.toNat_natCast]
      congr 1
      omega
    have lock : ∀ L : xSt, Inv0 L → L 111 22 ≠ 0 → (∀ a k, a ≤ 86 → L a k = σ a k) → _ := fun L l2 l3 l4 => sa_lock (σ := σ) (τ := L) (set := p1) (rest := p2) (what := p3) (op := σ 7 3) (T := T) (S := fun t => (σ 10 t).toNat) hT3 hT rfl (mT L l2 l4).2 (by
        have h1 := l2.op
        unfold opM at h1
        rw [if_neg l3] at h1
        rw [← h1, l4 7 3 (by decide)]) (fun t ht2 => by
        obtain ⟨r1, r2, r3⟩ := hS t ht2
        refine ⟨r1, r2, r3, ?_⟩
        have q := l2.th (p := (t : Int)) (by omega) (by rw [l4 7 1 (by decide)]; omega)
        rw [Int.toNat_natCast] at q
        rw [m_sidesOf (by omega) (by omega), Int.toNat_natCast, ← q.1, l4 10 t (by decide)]
        congr 1
        show σ 10 t = (((σ 10 t).toNat : Nat) : Int)
        omega) T 1000000 1000000 0 0 (by omega) (by omega) (by omega) (by omega) (fun x hx => absurd hx (Nat.not_lt_zero _))
    obtain ⟨G, hGl, hGi, hG22, hGc⟩ : ∃ G : xSt, True ∧ Inv0 G ∧ G 111 22 ≠ 0 ∧ ∀ a k, a ≤ 86 → G a k = σ a k := ⟨_, trivial, (lay0 h).2.1, (lay0 h).2.2.1, fun a k ha => (lay0 h).2.2.2.2 a k (by omega)⟩
    have mrun : ∀ τ L : xSt, f_M_lay τ = some L → Inv0 L → (∀ a k, a ≤ 86 → L a k = σ a k) → (0 ≤ p3 ∧ p3 ≤ 1) → f_M_mixed p1 p2 p3 τ = f_M_mixed_40 1000000 p1 p2 p3 0 0 L := fun τ L l1 l2 l4 h3 => by
      unfold f_M_mixed
      rw [l1, xbR_s, (mT L l2 l4).1, xbR_s, xshl_n hT3, wT, m_isIn, if_pos hA2, xbR_s, if_neg (by decide), m_isIn, if_pos h3, xbR_s, if_neg (by decide)]
    have mno : ∀ τ L : xSt, f_M_lay τ = some L → Inv0 L → (∀ a k, a ≤ 86 → L a k = σ a k) → ¬ (0 ≤ p3 ∧ p3 ≤ 1) → f_M_mixed p1 p2 p3 τ = some (0, upS L 111 0 1) := fun τ L l1 l2 l4 h3 => by
      unfold f_M_mixed
      rw [l1, xbR_s, (mT L l2 l4).1, xbR_s, xshl_n hT3, wT, m_isIn, if_pos hA2, xbR_s, if_neg (by decide), m_isIn, if_neg h3, xbR_s, if_pos rfl]
      rfl
    rcases lock G hGi hG22 hGc with ⟨z1, -⟩ | ⟨N, hN6, z1, z2, z3⟩
    · rw [c0n] at z1
      refine nul ?_ (fun L l1 l2 l3 l4 => ?_)
      · unfold f_X_mixed
        rw [xsa, z1, xbR_s, x_isWithin, if_neg (by omega), xbR_s, if_pos rfl]
      · by_cases h3 : 0 ≤ p3 ∧ p3 ≤ 1
        · rw [mrun _ L l1 l2 l4 h3]
          rcases lock L l2 l3 l4 with ⟨-, y2⟩ | ⟨N, hN6, y1, y2, y3⟩
          · rw [c0n] at y2
            rw [y2]
            rfl
          · rw [c0n] at y1 y2
            rw [z1] at y1
            have e0 : (N : Int) = 0 := (Option.some.inj y1).symm
            rw [y2]
            unfold mxE
            rw [e0, m_isIn, if_neg (by have : w32 ((0 : Int) - 1) = -1 := rfl; omega), xbR_s, if_pos rfl]
            rfl
        · exact mno _ L l1 l2 l4 h3
    · rw [c0n] at z1
      have wN : w32 ((N : Int) - 1) = (N : Int) - 1 := w32_o (by omega) (by omega)
      by_cases hr : 0 ≤ p2 ∧ p2 < (N : Int)
      · by_cases h3 : 0 ≤ p3 ∧ p3 < 2
        · have h32 : 0 ≤ p3 ∧ p3 ≤ 1 := by omega
          obtain ⟨r, rfl⟩ : ∃ r : Nat, p2 = (r : Int) := ⟨p2.toNat, by omega⟩
          obtain ⟨σ1, a1, a2, a3, a4⟩ := x_mixAll (set := p1) (N := N) h hT hT3 hN6 z3
          have hAb : ∀ t, t < T → xand (xshr p1 (t : Int)) 1 = 1 → 1 ≤ (σ 11 t).toNat ∧ (σ 11 t).toNat ≤ 9 := fun t ht2 hb => by
            obtain ⟨c1, c2⟩ := z3 t ht2 hb
            have q := h.th (p := (t : Int)) (by omega) (by omega)
            rw [Int.toNat_natCast] at q
            obtain ⟨-, -, -, -, q5, q6, -, -, -, -, -, q12⟩ := q
            have := (q12 (fun z => c1 z.symm)).1
            omega
          obtain ⟨b1, b2⟩ := aT_le (set := p1) (A := fun t => (σ 11 t).toNat) (T := T) hAb T (Nat.le_refl T)
          have hp9 : ∀ t s, s < N → pt9 (σ 12) t s ≤ 9 := fun t s _ => by unfold pt9; split <;> omega
          have vb := vT_le (set := p1) (P := pt9 (σ 12)) hN6 hp9 T r
          have hpow : 9 ^ T ≤ 9 ^ 3 := Nat.pow_le_pow_right (by decide) hT3
          have hp3 : (9 : Nat) ^ 3 = 729 := by decide
          have hvp : 324 ^ T ≤ 324 ^ 3 := Nat.pow_le_pow_right (by decide) hT3
          have hv3 : (324 : Nat) ^ 3 = 34012224 := by decide
          have q1 : -9223372036854775808 < ((vT p1 (pt9 (σ 12)) N T r : Nat) : Int) := by omega
          have q2 : ((vT p1 (pt9 (σ 12)) N T r : Nat) : Int) < 9223372036854775808 := by omega
          have q3 : aT p1 (fun t => (σ 11 t).toNat) T < 9223372036854775808 := by omega
          have b6 : 0 ≤ (r : Int) ∧ (r : Int) < 6 := by omega
          have hrN : r < N := by omega
          have tl := x_told (σ := σ1) (u := ((vT p1 (pt9 (σ 12)) N T r : Nat) : Int)) (b := aT p1 (fun t => (σ 11 t).toNat) T) (what := p3) q1 q2 b1 q3
          have rw93 := a3 r hrN
          generalize hv : rdI ((vT p1 (pt9 (σ 12)) N T r : Nat) : Int) (aT p1 (fun t => (σ 11 t).toNat) T) p3 = v at tl
          generalize rdI ((vT p1 (pt9 (σ 12)) N T r : Nat) : Int) (aT p1 (fun t => (σ 11 t).toNat) T) 0 = v0 at tl
          generalize rdI ((vT p1 (pt9 (σ 12)) N T r : Nat) : Int) (aT p1 (fun t => (σ 11 t).toNat) T) 1 = v1 at tl
          refine ⟨some v, upS (upS (upS σ1 95 1 v0) 95 2 v1) 95 0 1, ?_, Fr.up (Fr.up (Fr.up a4 rfl rfl) rfl rfl) rfl rfl, fun L l1 l2 l3 l4 => ?_⟩
          · unfold f_X_mixed f_Odds_restWeight
            rw [xsa, z1, xbR_s, x_isWithin, if_pos hr, xbR_s, if_neg (by decide), x_isWithin, if_pos h3, xbR_s, if_neg (by decide), a1, xbR_s, x_isWithin, if_pos b6, xbR_s, if_neg (by decide), if_pos b6, xbR_s, Int.toNat_natCast, rw93, a2, tl, xbW_s]
          · rcases lock L l2 l3 l4 with ⟨y1, -⟩ | ⟨N', hN6', y1, y2, y3⟩
            · rw [c0n, z1] at y1
              have := Option.some.inj y1
              omega
            · rw [c0n] at y1 y2
              rw [z1] at y1
              have e0 : N' = N := by
                have := Option.some.inj y1
                omega
              subst e0
              obtain ⟨τ1, d1, d2, d3⟩ := m_mx141 (l1 := p1) (l2 := (r : Int)) (l3 := p3) (l5 := 1) hN6 N' 1000000 0 (upS L 111 0 0) (by omega) (by omega) (fun k hk => absurd hk (Nat.not_lt_zero _))
              have s1 : ∀ q, τ1 113 q = L 113 q := fun q => by rw [d3 113 q (by decide), upS_ne (by decide)]
              have m71 : L 7 1 = (T : Int) := (l4 7 1 (by decide)).trans hT
              obtain ⟨τ2, e1, e2⟩ := m_mx174 (τ0 := L) (set := p1) (P := pt9 (σ 12)) (A := fun t => (σ 11 t).toNat) (N := N') (T := T) (r := r) (what := p3) hN6 hT3 hrN hp9 hAb (mT L l2 l4).2 (fun t ht2 hb s hs τ2 h2 => by
                  obtain ⟨c1, c2⟩ := z3 t ht2 hb
                  have q := l2.th (p := (t : Int)) (by omega) (by omega)
                  rw [Int.toNat_natCast, l4 10 t (by decide)] at q
                  obtain ⟨-, q2, q3, -, -, -, q7, -⟩ := q
                  obtain ⟨r1, r2, r3⟩ := q7 s (by omega)
                  rw [l4 12 _ (by decide)] at r1 r2 r3
                  rw [m_sideOf (by omega) (by omega) (by omega) (by omega), Int.toNat_natCast, Int.toNat_natCast, h2, ← r1]
                  unfold pt9
                  rw [if_pos (by omega)]
                  congr 1
                  omega) (fun t ht2 hb τ2 h2 => by
                  have q := l2.th (p := (t : Int)) (by omega) (by omega)
                  rw [Int.toNat_natCast] at q
                  obtain ⟨-, -, -, q4, q5, -⟩ := q
                  rw [m_partsOf (by omega) (by omega), Int.toNat_natCast, h2, ← q4]
                  rw [l4 11 t (by decide)] at q5 ⊢
                  congr 1
                  show σ 11 t = (((σ 11 t).toNat : Nat) : Int)
                  omega) T 1000000 0 τ1 (by omega) (by omega) s1 d2
              have e1 : f_M_mixed_174 1000000 p1 (r : Int) p3 (N' : Int) 1 0 τ1 = _ := e1
              refine ⟨v, τ2, ?_, ?_, Or.inr ⟨?_, rfl⟩⟩
              · rw [c0n] at d1
                rw [mrun _ L l1 l2 l4 h32, y2]
                unfold mxE
                rw [wN, m_isIn, if_pos (by omega), xbR_s, if_neg (by decide), xlet_s, d1, e1, hv]
              · refine Fr.tr (Fr.up (Fr.rf (σ := L)) (rfl : upS L 111 0 0 = upS L 111 0 0) rfl) (fun a k hk => ?_)
                have n1 : a ≠ 130 := by
                  rintro rfl
                  cases hk
                have n2 : a ≠ 131 := by
                  rintro rfl
                  cases hk
                rw [e2 a k n1 n2, d3 a k n1]
              · rw [e2 111 0 (by decide) (by decide), d3 111 0 (by decide), upS_eq]
        · refine nul ?_ (fun L l1 l2 l3 l4 => mno _ L l1 l2 l4 (by omega))
          unfold f_X_mixed
          rw [xsa, z1, xbR_s, x_isWithin, if_pos hr, xbR_s, if_neg (by decide), x_isWithin, if_neg h3, xbR_s, if_pos rfl]
      · refine nul ?_ (fun L l1 l2 l3 l4 => ?_)
        · unfold f_X_mixed
          rw [xsa, z1, xbR_s, x_isWithin, if_neg hr, xbR_s, if_pos rfl]
        · by_cases h3 : 0 ≤ p3 ∧ p3 ≤ 1
          · rw [mrun _ L l1 l2 l4 h3]
            rcases lock L l2 l3 l4 with ⟨-, y2⟩ | ⟨N', hN6', y1, y2, y3⟩
            · rw [c0n] at y2
              rw [y2]
              rfl
            · rw [c0n] at y1 y2
              rw [z1] at y1
              have e0 : (N' : Int) = (N : Int) := (Option.some.inj y1).symm
              rw [y2]
              unfold mxE
              rw [e0, wN, m_isIn, if_neg (by omega), xbR_s, if_pos rfl]
              rfl
          · exact mno _ L l1 l2 l4 h3
  · have xsa : f_Table_sidesAlike p1 σ = some 0 := by
      unfold f_Table_sidesAlike
      by_cases h1 : p1 < 1
      · rw [if_pos h1]
      · rw [if_neg h1, hT, xshl_n hT3, if_neg (by omega)]
    refine nul ?_ (fun L l1 l2 l3 l4 => ?_)
    · unfold f_X_mixed
      rw [xsa, xbR_s, x_isWithin, if_neg (by omega), xbR_s, if_pos rfl]
    · unfold f_M_mixed
      rw [l1, xbR_s, (mT L l2 l4).1, xbR_s, xshl_n hT3, wT, m_isIn, if_neg (by omega), xbR_s, if_pos rfl]
      rfl
