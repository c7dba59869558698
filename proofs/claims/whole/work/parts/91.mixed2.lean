/-! mixed: the model, the call -/
theorem m_mx232 {k174 : Int → Int → Int → Int → Int → Int → xSt → Option (Int × xSt)} {k222 : Int → Int → Int → Int → Int → Int → Int → xSt → Option (Int × xSt)} {v p : Nat → Nat} {N i t B : Nat} {w : Nat → Nat} {l1 l2 l3 l5 : Int} (h6 : N ≤ 6) (hi : i < N) (hB : B ≤ 1000000000) (hw : ∀ k, w k ≤ 1000000000000) (hv : v i ≤ B) (hp : ∀ s, s < N → p s ≤ 9) : ∀ (j fu s : Nat) (τ : xSt), s + j = N → j < fu → (∀ s : Nat, s < N → ∀ τ2 : xSt, (∀ q, τ2 113 q = τ 113 q) → f_M_sideOf (t : Int) (s : Int) τ2 = some (p s : Int)) → τ 130 i = (v i : Int) → (∀ k : Nat, k < N → τ 131 k = (wI v p N i w s k : Int)) →
    ∃ τ', f_M_mixed_232 k174 k222 fu l1 l2 l3 (N : Int) l5 (t : Int) (i : Int) (s : Int) τ = k222 l1 l2 l3 (N : Int) l5 (t : Int) ((i + 1 : Nat) : Int) τ' ∧ (∀ k : Nat, k < N → τ' 131 k = (wI v p N i w N k : Int)) ∧ ∀ a q, a ≠ 131 → τ' a q = τ a q := by
  intro j
  induction j with
  | zero =>
    intro fu s τ g1 g2 _ h130 h131
    obtain ⟨fu, rfl⟩ : ∃ n2, fu = n2 + 1 := ⟨fu - 1, by omega⟩
    obtain rfl : s = N := by omega
    have b3 : i < 100000 := by omega
    refine ⟨τ, ?_, h131, fun _ _ _ => rfl⟩
    rw [f_M_mixed_232.eq_2, if_neg (by omega), w32_n1 b3, xlet_s]
  | succ j ih =>
    intro fu s τ g1 g2 hpb h130 h131
    obtain ⟨fu, rfl⟩ : ∃ n2, fu = n2 + 1 := ⟨fu - 1, by omega⟩
    have hs : s < N := by omega
    have hs2 : (s : Int) < (N : Int) := by omega
    have hN0 : ¬ (N : Int) = 0 := by omega
    have b3 : s < 100000 := by omega
    have bis : i + s < 100000 := by omega
    have bis2 : i + s < 2147483648 := by omega
    have bi : 0 ≤ (i : Int) ∧ (i : Int) < 6 := by omega
    have hmod : (i + s) % N < N := Nat.mod_lt _ (by omega)
    have wb := wI_le (v := v) (p := p) (N := N) (i := i) hw hv hp s (by omega) ((i + s) % N)
    have pb : v i * p s ≤ B * 9 := Nat.mul_le_mul hv (hp s hs)
    have sb : s * (B * 9) ≤ 6 * (B * 9) := Nat.mul_le_mul (by omega) (Nat.le_refl _)
    have c1 : v i * p s < 9223372036854775808 := by omega
    have c2 : wI v p N i w s ((i + s) % N) + v i * p s < 9223372036854775808 := by omega
    have bto : 0 ≤ (((i + s) % N : Nat) : Int) ∧ (((i + s) % N : Nat) : Int) < 6 := by omega
    obtain ⟨τ', t1, t2, t3⟩ := ih fu (s + 1) (upS τ 131 ((i + s) % N) ((wI v p N i w s ((i + s) % N) + v i * p s : Nat) : Int)) (by omega) (by omega) (fun s2 hs2 τ2 h2 => hpb s2 hs2 τ2 (fun q => by rw [h2 q, upS_ne (by decide)])) (by rw [upS_ne (by decide)]; exact h130) (fun k hk => by
      show _ = (((if k = (i + s) % N then wI v p N i w s k + v i * p s else wI v p N i w s k) : Nat) : Int)
      by_cases hz : k = (i + s) % N
      · rw [if_pos hz, hz, upS_eq]
      · rw [if_neg hz, upS_nk hz]
        exact h131 k hk)
    refine ⟨τ', ?_, t2, fun a q ha => by rw [t3 a q ha, upS_ne ha]⟩
    have sd := hpb s hs τ (fun _ => rfl)
    rw [f_M_mixed_232.eq_2, if_pos hs2, if_neg hN0, w32_nn bis, xrem_n bis2, if_pos bto, if_pos bi, sd, xbR_s, if_pos bto, Int.toNat_natCast, Int.toNat_natCast, h131 _ hmod, h130, w64_mul c1, w64_add c2, xlet_s, w32_n1 b3, xlet_s, t1]
theorem m_mx222 {k174 : Int → Int → Int → Int → Int → Int → xSt → Option (Int × xSt)} {v p : Nat → Nat} {N t B : Nat} {l1 l2 l3 l5 : Int} (h6 : N ≤ 6) (hB : B ≤ 1000000000) (hv : ∀ i, i < N → v i ≤ B) (hp : ∀ s, s < N → p s ≤ 9) : ∀ (j fu i : Nat) (τ : xSt), i + j = N → j < fu → (∀ s : Nat, s < N → ∀ τ2 : xSt, (∀ q, τ2 113 q = τ 113 q) → f_M_sideOf (t : Int) (s : Int) τ2 = some (p s : Int)) → (∀ k : Nat, k < N → τ 130 k = (v k : Int)) → (∀ k : Nat, k < N → τ 131 k = (wO v p N i k : Int)) →
    ∃ τ', f_M_mixed_222 k174 fu l1 l2 l3 (N : Int) l5 (t : Int) (i : Int) τ = f_M_mixed_290 k174 1000000 l1 l2 l3 (N : Int) l5 (t : Int) 0 τ' ∧ (∀ k : Nat, k < N → τ' 131 k = (wO v p N N k : Int)) ∧ ∀ a q, a ≠ 131 → τ' a q = τ a q := by
  have wb : ∀ i, i ≤ N → ∀ k, wO v p N i k ≤ 1000000000000 := fun i hi k => by
    have h1 := wO_le hv hp i hi k
    have h2 : i * (N * (B * 9)) ≤ 6 * (6 * (1000000000 * 9)) := Nat.mul_le_mul (by omega) (Nat.mul_le_mul h6 (Nat.mul_le_mul hB (Nat.le_refl _)))
    omega
  intro j
  induction j with
  | zero =>
    intro fu i τ g1 g2 _ h130 h131
    obtain ⟨fu, rfl⟩ : ∃ n2, fu = n2 + 1 := ⟨fu - 1, by omega⟩
    obtain rfl : i = N := by omega
    refine ⟨τ, ?_, h131, fun _ _ _ => rfl⟩
    rw [f_M_mixed_222.eq_2, if_neg (by omega)]
  | succ j ih =>
    intro fu i τ g1 g2 hpb h130 h131
    obtain ⟨fu, rfl⟩ : ∃ n2, fu = n2 + 1 := ⟨fu - 1, by omega⟩
    have hi : i < N := by omega
    have hi2 : (i : Int) < (N : Int) := by omega
    obtain ⟨τ1, d1, d2, d3⟩ := m_mx232 (k174 := k174) (k222 := fun z0 z1 z2 z3 z4 z5 z6 sz => f_M_mixed_222 k174 fu z0 z1 z2 z3 z4 z5 z6 sz) (t := t) (l1 := l1) (l2 := l2) (l3 := l3) (l5 := l5) h6 hi hB (wb i (by omega)) (hv i hi) hp N 1000000 0 τ (by omega) (by omega) hpb (h130 i hi) h131
    rw [c0n] at d1
    obtain ⟨τ', t1, t2, t3⟩ := ih fu (i + 1) τ1 (by omega) (by omega) (fun s hs τ2 h2 => hpb s hs τ2 (fun q => by rw [h2 q, d3 113 q (by decide)])) (fun k hk => by rw [d3 130 k (by decide)]; exact h130 k hk) d2
    refine ⟨τ', ?_, t2, fun a q ha => by rw [t3 a q ha, d3 a q ha]⟩
    rw [f_M_mixed_222.eq_2, if_pos hi2, d1]
    exact t1
theorem m_mx198 {k174 : Int → Int → Int → Int → Int → Int → xSt → Option (Int × xSt)} {N : Nat} (h6 : N ≤ 6) {l1 l2 l3 l5 l7 : Int} : ∀ (j fu i : Nat) (τ : xSt), i + j = N → j < fu → (∀ k : Nat, k < i → τ 131 k = 0) → ∃ τ', f_M_mixed_198 k174 fu l1 l2 l3 (N : Int) l5 l7 (i : Int) τ = f_M_mixed_222 k174 1000000 l1 l2 l3 (N : Int) l5 l7 0 τ' ∧ (∀ k : Nat, k < N → τ' 131 k = 0) ∧ ∀ a q, a ≠ 131 → τ' a q = τ a q := by
  intro j
  induction j with
  | zero =>
    intro fu i τ g1 g2 h0
    obtain ⟨fu, rfl⟩ : ∃ n2, fu = n2 + 1 := ⟨fu - 1, by omega⟩
    obtain rfl : i = N := by omega
    refine ⟨τ, ?_, h0, fun _ _ _ => rfl⟩
    rw [f_M_mixed_198.eq_2, if_neg (by omega)]
  | succ j ih =>
    intro fu i τ g1 g2 h0
    obtain ⟨fu, rfl⟩ : ∃ n2, fu = n2 + 1 := ⟨fu - 1, by omega⟩
    have hi2 : (i : Int) < (N : Int) := by omega
    have b2 : 0 ≤ (i : Int) ∧ (i : Int) < 6 := by omega
    have b3 : i < 100000 := by omega
    obtain ⟨τ', t1, t2, t3⟩ := ih fu (i + 1) (upS τ 131 i 0) (by omega) (by omega) (fun k hk => by
      by_cases hz : k = i
      · rw [hz, upS_eq]
      · rw [upS_nk hz]
        exact h0 k (by omega))
    refine ⟨τ', ?_, t2, fun a q ha => by rw [t3 a q ha, upS_ne ha]⟩
    rw [f_M_mixed_198.eq_2, if_pos hi2, if_pos b2, Int.toNat_natCast, xlet_s, w32_n1 b3, xlet_s, t1]
theorem m_mx290 {k174 : Int → Int → Int → Int → Int → Int → xSt → Option (Int × xSt)} {N : Nat} (h6 : N ≤ 6) {l1 l2 l3 l5 l7 : Int} : ∀ (j fu i : Nat) (τ : xSt), i + j = N → j < fu → (∀ k : Nat, k < i → τ 130 k = τ 131 k) → ∃ τ', f_M_mixed_290 k174 fu l1 l2 l3 (N : Int) l5 l7 (i : Int) τ = (xbR (f_M_partsOf l7 τ') fun r33 => xlet (w64 (l5 * r33)) fun x34 => xlet (w32 (l7 + 1)) fun x35 => k174 l1 l2 l3 (N : Int) x34 x35 τ') ∧ (∀ k : Nat, k < N → τ' 130 k = τ 131 k) ∧ ∀ a q, a ≠ 130 → τ' a q = τ a q := by
  intro j
  induction j with
  | zero =>
    intro fu i τ g1 g2 h0
    obtain ⟨fu, rfl⟩ : ∃ n2, fu = n2 + 1 := ⟨fu - 1, by omega⟩
    obtain rfl : i = N := by omega
    refine ⟨τ, ?_, h0, fun _ _ _ => rfl⟩
    rw [f_M_mixed_290.eq_2, if_neg (by omega)]
  | succ j ih =>
    intro fu i τ g1 g2 h0
    obtain ⟨fu, rfl⟩ : ∃ n2, fu = n2 + 1 := ⟨fu - 1, by omega⟩
    have hi2 : (i : Int) < (N : Int) := by omega
    have b2 : 0 ≤ (i : Int) ∧ (i : Int) < 6 := by omega
    have b3 : i < 100000 := by omega
    obtain ⟨τ', t1, t2, t3⟩ := ih fu (i + 1) (upS τ 130 i (τ 131 i)) (by omega) (by omega) (fun k hk => by
      by_cases hz : k = i
      · rw [hz, upS_eq, upS_ne (by decide)]
      · rw [upS_nk hz, upS_ne (by decide)]
        exact h0 k (by omega))
    refine ⟨τ', ?_, fun k hk => by rw [t2 k hk, upS_ne (by decide)], fun a q ha => by rw [t3 a q ha, upS_ne ha]⟩
    rw [f_M_mixed_290.eq_2, if_pos hi2, if_pos b2, if_pos b2, Int.toNat_natCast, xlet_s, w32_n1 b3, xlet_s, t1]
theorem m_mx174 {τ0 : xSt} {set : Int} {P : Nat → Nat → Nat} {A : Nat → Nat} {N T r : Nat} {what : Int} (h6 : N ≤ 6) (hT : T ≤ 3) (hr : r < N) (hp : ∀ t s, s < N → P t s ≤ 9) (hA : ∀ t, t < T → xand (xshr set (t : Int)) 1 = 1 → 1 ≤ A t ∧ A t ≤ 9) (h0 : τ0 113 0 = (T : Int))
    (hP : ∀ t : Nat, t < T → xand (xshr set (t : Int)) 1 = 1 → ∀ s : Nat, s < N → ∀ τ2 : xSt, (∀ q, τ2 113 q = τ0 113 q) → f_M_sideOf (t : Int) (s : Int) τ2 = some (P t s : Int)) (hAll : ∀ t : Nat, t < T → xand (xshr set (t : Int)) 1 = 1 → ∀ τ2 : xSt, (∀ q, τ2 113 q = τ0 113 q) → f_M_partsOf (t : Int) τ2 = some (A t : Int)) :
    ∀ (j fu t : Nat) (τ : xSt), t + j = T → j < fu → (∀ q, τ 113 q = τ0 113 q) → (∀ k : Nat, k < N → τ 130 k = (vT set P N t k : Int)) → ∃ τ', f_M_mixed_174 fu set (r : Int) what (N : Int) (aT set A t : Int) (t : Int) τ = some (rdI (vT set P N T r : Int) (aT set A T) what, τ') ∧ ∀ a q, a ≠ 130 → a ≠ 131 → τ' a q = τ a q := by
  have things : ∀ τ : xSt, f_M_things τ = some (τ 113 0) := fun τ => rfl
  intro j
  induction j with
  | zero =>
    intro fu t τ g1 g2 hs h130
    obtain ⟨fu, rfl⟩ : ∃ n2, fu = n2 + 1 := ⟨fu - 1, by omega⟩
    obtain rfl : t = T := by omega
    obtain ⟨a1, a2⟩ := aT_le hA t (Nat.le_refl t)
    have hpow : 9 ^ t ≤ 9 ^ 3 := Nat.pow_le_pow_right (by decide) hT
    have hp3 : (9 : Nat) ^ 3 = 729 := by decide
    have vb := vT_le (set := set) h6 hp t r
    have hvp : 324 ^ t ≤ 324 ^ 3 := Nat.pow_le_pow_right (by decide) (by omega)
    have hv3 : (324 : Nat) ^ 3 = 34012224 := by decide
    have br : 0 ≤ (r : Int) ∧ (r : Int) < 6 := by omega
    have q1 : -9223372036854775808 < ((vT set P N t r : Nat) : Int) := by omega
    have q2 : ((vT set P N t r : Nat) : Int) < 9223372036854775808 := by omega
    have q3 : aT set A t < 9223372036854775808 := by omega
    refine ⟨τ, ?_, fun _ _ _ _ => rfl⟩
    rw [f_M_mixed_174.eq_2, things, hs, h0, xbR_s, if_neg (by omega), if_pos br, Int.toNat_natCast, h130 r hr, m_part q1 q2 a1 q3, xbR_s]
  | succ j ih =>
    intro fu t τ g1 g2 hs h130
    obtain ⟨fu, rfl⟩ : ∃ n2, fu = n2 + 1 := ⟨fu - 1, by omega⟩
    have ht : t < T := by omega
    have ht2 : (t : Int) < (T : Int) := by omega
    have b3 : t < 100000 := by omega
    by_cases hb : xand (xshr set (t : Int)) 1 = 1
    · obtain ⟨a1, a2⟩ := aT_le hA t (by omega)
      obtain ⟨a3, a4⟩ := hA t ht hb
      have hpow : 9 ^ t ≤ 9 ^ 3 := Nat.pow_le_pow_right (by decide) (by omega)
      have hp3 : (9 : Nat) ^ 3 = 729 := by decide
      have hm : aT set A t * A t ≤ 729 * 9 := Nat.mul_le_mul (by omega) a4
      have hm2 : aT set A t * A t < 9223372036854775808 := by omega
      have vb : ∀ i, i < N → vT set P N t i ≤ 324 ^ t := fun i _ => vT_le h6 hp t i
      have hvp : 324 ^ t ≤ 324 ^ 3 := Nat.pow_le_pow_right (by decide) (by omega)
      have hv3 : (324 : Nat) ^ 3 = 34012224 := by decide
      have hbB : 324 ^ t ≤ 1000000000 := by omega
      have hhas : f_M_has set (t : Int) τ = some 1 := by
        unfold f_M_has
        rw [if_pos hb]
      obtain ⟨τ1, d1, d2, d3⟩ := m_mx198 (k174 := fun z0 z1 z2 z3 z4 z5 sz => f_M_mixed_174 fu z0 z1 z2 z3 z4 z5 sz) (l1 := set) (l2 := (r : Int)) (l3 := what) (l5 := (aT set A t : Int)) (l7 := (t : Int)) h6 N 1000000 0 τ (by omega) (by omega) (fun k hk => absurd hk (Nat.not_lt_zero _))
      have s1 : ∀ q, τ1 113 q = τ0 113 q := fun q => (d3 113 q (by decide)).trans (hs q)
      obtain ⟨τ2, e1, e2, e3⟩ := m_mx222 (k174 := fun z0 z1 z2 z3 z4 z5 sz => f_M_mixed_174 fu z0 z1 z2 z3 z4 z5 sz) (v := vT set P N t) (p := P t) (t := t) (l1 := set) (l2 := (r : Int)) (l3 := what) (l5 := (aT set A t : Int)) (B := 324 ^ t) h6 hbB vb (hp t) N 1000000 0 τ1 (by omega) (by omega) (fun s hs2 τ2 h2 => hP t ht hb s hs2 τ2 (fun q => (h2 q).trans (s1 q))) (fun k hk => by rw [d3 130 k (by decide)]; exact h130 k hk) (fun k hk => by rw [d2 k hk]; rfl)
      obtain ⟨τ3, f1, f2, f3⟩ := m_mx290 (k174 := fun z0 z1 z2 z3 z4 z5 sz => f_M_mixed_174 fu z0 z1 z2 z3 z4 z5 sz) (l1 := set) (l2 := (r : Int)) (l3 := what) (l5 := (aT set A t : Int)) (l7 := (t : Int)) h6 N 1000000 0 τ2 (by omega) (by omega) (fun k hk => absurd hk (Nat.not_lt_zero _))
      have s3 : ∀ q, τ3 113 q = τ0 113 q := fun q => by rw [f3 113 q (by decide), e3 113 q (by decide)]; exact s1 q
      obtain ⟨τ', t1, t2⟩ := ih fu (t + 1) τ3 (by omega) (by omega) s3 (fun k hk => by
        rw [f2 k hk, e2 k hk]
        show _ = ((((if xand (xshr set (t : Int)) 1 = 1 then wO (vT set P N t) (P t) N N else vT set P N t) k) : Nat) : Int)
        rw [if_pos hb])
      have ea : aT set A (t + 1) = aT set A t * A t := by
        show (if xand (xshr set (t : Int)) 1 = 1 then aT set A t * A t else aT set A t) = _
        rw [if_pos hb]
      rw [ea] at t1
      rw [c0n] at d1 e1 f1
      refine ⟨τ', ?_, fun a q h1 h2 => by rw [t2 a q h1 h2, f3 a q h1, e3 a q h2, d3 a q h2]⟩
      rw [f_M_mixed_174.eq_2, things, hs, h0, xbR_s, if_pos ht2, hhas, xbR_s, if_neg (by decide), d1, e1, f1, hAll t ht hb τ3 s3, xbR_s, w64_mul hm2, xlet_s, w32_n1 b3, xlet_s]
      exact t1
    · have hhas : f_M_has set (t : Int) τ = some 0 := by
        unfold f_M_has
        rw [if_neg hb]
      have ea : aT set A (t + 1) = aT set A t := by
        show (if xand (xshr set (t : Int)) 1 = 1 then aT set A t * A t else aT set A t) = _
        rw [if_neg hb]
      obtain ⟨τ', t1, t2⟩ := ih fu (t + 1) τ (by omega) (by omega) hs (fun k hk => by
        rw [h130 k hk]
        show _ = ((((if xand (xshr set (t : Int)) 1 = 1 then wO (vT set P N t) (P t) N N else vT set P N t) k) : Nat) : Int)
        rw [if_neg hb])
      rw [ea] at t1
      refine ⟨τ', ?_, t2⟩
      rw [f_M_mixed_174.eq_2, things, hs, h0, xbR_s, if_pos ht2, hhas, xbR_s, if_pos rfl, w32_n1 b3, xlet_s, t1]
theorem m_mx141 {N : Nat} (h6 : N ≤ 6) {l1 l2 l3 l5 : Int} : ∀ (j fu i : Nat) (τ : xSt), i + j = N → j < fu → (∀ k : Nat, k < i → τ 130 k = (((if k = 0 then 1 else 0) : Nat) : Int)) → ∃ τ', f_M_mixed_141 fu l1 l2 l3 (N : Int) l5 (i : Int) τ = f_M_mixed_174 1000000 l1 l2 l3 (N : Int) l5 0 τ' ∧ (∀ k : Nat, k < N → τ' 130 k = (((if k = 0 then 1 else 0) : Nat) : Int)) ∧ ∀ a q, a ≠ 130 → τ' a q = τ a q := by
  intro j
  induction j with
  | zero =>
    intro fu i τ g1 g2 h0
    obtain ⟨fu, rfl⟩ : ∃ n2, fu = n2 + 1 := ⟨fu - 1, by omega⟩
    obtain rfl : i = N := by omega
    refine ⟨τ, ?_, h0, fun _ _ _ => rfl⟩
    rw [f_M_mixed_141.eq_2, if_neg (by omega)]
  | succ j ih =>
    intro fu i τ g1 g2 h0
    obtain ⟨fu, rfl⟩ : ∃ n2, fu = n2 + 1 := ⟨fu - 1, by omega⟩
    have hi2 : (i : Int) < (N : Int) := by omega
    have b2 : 0 ≤ (i : Int) ∧ (i : Int) < 6 := by omega
    have b3 : i < 100000 := by omega
    obtain ⟨τ', t1, t2, t3⟩ := ih fu (i + 1) (upS τ 130 i (((if i = 0 then 1 else 0) : Nat) : Int)) (by omega) (by omega) (fun k hk => by
      by_cases hz : k = i
      · rw [hz, upS_eq]
      · rw [upS_nk hz]
        exact h0 k (by omega))
    refine ⟨τ', ?_, t2, fun a q ha => by rw [t3 a q ha, upS_ne ha]⟩
    rw [f_M_mixed_141.eq_2, if_pos hi2]
    unfold f_M_mixed_164
    by_cases hz : i = 0
    · rw [if_pos (by omega), if_pos b2, Int.toNat_natCast, xlet_s, w32_n1 b3, xlet_s]
      rw [if_pos hz] at t1
      exact t1
    · rw [if_neg (by omega), if_pos b2, Int.toNat_natCast, xlet_s, w32_n1 b3, xlet_s]
      rw [if_neg hz] at t1
      exact t1
/-- behind the model's sides -/
def mxE (l1 l2 l3 l4 : Int) (τ : xSt) : Option (Int × xSt) :=
  xbR (f_M_isIn l2 0 (w32 (l4 - 1)) τ) fun r11 =>
    if r11 = 0 then (xbW (f_M_refuseLong τ) fun r12 σ13 =>
    some (r12, σ13))
    else (xlet (upS τ 111 0 0) fun σ14 =>
    f_M_mixed_141 1000000 l1 l2 l3 l4 1 0 σ14)
/-- the SIDES that all have: both sides -/
theorem sa_lock {σ τ : xSt} {set rest what op : Int} {T : Nat} {S : Nat → Nat} (hT : T ≤ 3) (h7 : σ 7 1 = (T : Int)) (h73 : σ 7 3 = op) (m0 : τ 113 0 = (T : Int)) (m2 : τ 113 2 = op) (hS : ∀ t : Nat, t < T → S t ≤ 6 ∧ 2 ≤ S t ∧ f_Table_sidesOf (t : Int) σ = some (S t : Int) ∧ f_M_sidesOf (t : Int) τ = some (S t : Int)) :
    ∀ (j f1 f2 t N : Nat), t + j = T → j < f1 → j < f2 → N ≤ 6 → (∀ x : Nat, x < t → xand (xshr set (x : Int)) 1 = 1 → (x : Int) ≠ op ∧ S x = N) → (f_Table_sidesAlike_21 f1 set (N : Int) (t : Int) σ = some 0 ∧ f_M_mixed_40 f2 set rest what (N : Int) (t : Int) τ = f_M_mixed_91 τ) ∨
      ∃ N2 : Nat, N2 ≤ 6 ∧ f_Table_sidesAlike_21 f1 set (N : Int) (t : Int) σ = some (N2 : Int) ∧ f_M_mixed_40 f2 set rest what (N : Int) (t : Int) τ = mxE set rest what (N2 : Int) τ ∧ ∀ x : Nat, x < T → xand (xshr set (x : Int)) 1 = 1 → (x : Int) ≠ op ∧ S x = N2 := by
  have things : f_M_things τ = some (τ 113 0) := rfl
  intro j
  induction j with
  | zero =>
    intro f1 f2 t N g1 g2 g3 hN hx
    obtain ⟨f1, rfl⟩ : ∃ n2, f1 = n2 + 1 := ⟨f1 - 1, by omega⟩
    obtain ⟨f2, rfl⟩ : ∃ n2, f2 = n2 + 1 := ⟨f2 - 1, by omega⟩
    obtain rfl : t = T := by omega
    refine Or.inr ⟨N, hN, ?_, ?_, hx⟩
    · rw [f_Table_sidesAlike_21.eq_2, h7, if_neg (by omega)]
    · rw [f_M_mixed_40.eq_2, things, m0, xbR_s, if_neg (by omega)]
      rfl
  | succ j ih =>
    intro f1 f2 t N g1 g2 g3 hN hx
    obtain ⟨f1, rfl⟩ : ∃ n2, f1 = n2 + 1 := ⟨f1 - 1, by omega⟩
    obtain ⟨f2, rfl⟩ : ∃ n2, f2 = n2 + 1 := ⟨f2 - 1, by omega⟩
    have ht : t < T := by omega
    have ht2 : (t : Int) < (T : Int) := by omega
    have b3 : t < 100000 := by omega
    obtain ⟨s1, s0, s2, s3⟩ := hS t ht
    by_cases hb : xand (xshr set (t : Int)) 1 = 1
    · have hhas : f_M_has set (t : Int) τ = some 1 := by
        unfold f_M_has
        rw [if_pos hb]
      by_cases ho : (t : Int) = op
      · refine Or.inl ⟨?_, ?_⟩
        · rw [f_Table_sidesAlike_21.eq_2, h7, if_pos ht2, if_pos hb, h73, if_pos ho]
        · rw [f_M_mixed_40.eq_2, things, m0, xbR_s, if_pos ht2, hhas, xbR_s, if_neg (by decide), m2, if_pos ho]
      · by_cases hN0 : N = 0
        · subst hN0
          have go := ih f1 f2 (t + 1) (S t) (by omega) (by omega) (by omega) s1 (fun x hx2 hb2 => by
            by_cases hz : x = t
            · rw [hz]
              exact ⟨ho, rfl⟩
            · have := (hx x (by omega) hb2).2
              have := (hS x (by omega)).2.1
              omega)
          have e1 : f_Table_sidesAlike_21 (f1 + 1) set ((0 : Nat) : Int) (t : Int) σ = f_Table_sidesAlike_21 f1 set (S t : Int) ((t + 1 : Nat) : Int) σ := by
            rw [f_Table_sidesAlike_21.eq_2, h7, if_pos ht2, if_pos hb, h73, if_neg ho, if_pos c0n]
            unfold f_Table_sidesAlike_61
            rw [s2, xbR_s, w32_n1 b3, xlet_s]
          have e2 : f_M_mixed_40 (f2 + 1) set rest what ((0 : Nat) : Int) (t : Int) τ = f_M_mixed_40 f2 set rest what (S t : Int) ((t + 1 : Nat) : Int) τ := by
            rw [f_M_mixed_40.eq_2, things, m0, xbR_s, if_pos ht2, hhas, xbR_s, if_neg (by decide), m2, if_neg ho, if_neg (by decide)]
            unfold f_M_mixed_96
            rw [s3, xbR_s, w32_n1 b3, xlet_s]
          rw [e1, e2]
          exact go
        · have hN1 : ¬ (N : Int) = 0 := by omega
          have hN2 : 0 < (N : Int) := by omega
          by_cases hSN : N = S t
          · have go := ih f1 f2 (t + 1) (S t) (by omega) (by omega) (by omega) s1 (fun x hx2 hb2 => by
              by_cases hz : x = t
              · rw [hz]
                exact ⟨ho, rfl⟩
              · have := hx x (by omega) hb2
                exact ⟨this.1, by omega⟩)
            have hS2 : (N : Int) = (S t : Int) := by omega
            have e1 : f_Table_sidesAlike_21 (f1 + 1) set (N : Int) (t : Int) σ = f_Table_sidesAlike_21 f1 set (S t : Int) ((t + 1 : Nat) : Int) σ := by
              rw [f_Table_sidesAlike_21.eq_2, h7, if_pos ht2, if_pos hb, h73, if_neg ho, if_neg hN1, s2, xbR_s, if_pos hS2]
              unfold f_Table_sidesAlike_61
              rw [s2, xbR_s, w32_n1 b3, xlet_s]
            have e2 : f_M_mixed_40 (f2 + 1) set rest what (N : Int) (t : Int) τ = f_M_mixed_40 f2 set rest what (S t : Int) ((t + 1 : Nat) : Int) τ := by
              rw [f_M_mixed_40.eq_2, things, m0, xbR_s, if_pos ht2, hhas, xbR_s, if_neg (by decide), m2, if_neg ho, if_pos hN2, s3, xbR_s, if_pos hS2]
              unfold f_M_mixed_96
              rw [s3, xbR_s, w32_n1 b3, xlet_s]
            rw [e1, e2]
            exact go
          · have hS2 : ¬ (N : Int) = (S t : Int) := by omega
            refine Or.inl ⟨?_, ?_⟩
            · rw [f_Table_sidesAlike_21.eq_2, h7, if_pos ht2, if_pos hb, h73, if_neg ho, if_neg hN1, s2, xbR_s, if_neg hS2]
            · rw [f_M_mixed_40.eq_2, things, m0, xbR_s, if_pos ht2, hhas, xbR_s, if_neg (by decide), m2, if_neg ho, if_pos hN2, s3, xbR_s, if_neg hS2]
    · have hhas : f_M_has set (t : Int) τ = some 0 := by
        unfold f_M_has
        rw [if_neg hb]
      have go := ih f1 f2 (t + 1) N (by omega) (by omega) (by omega) hN (fun x hx2 hb2 => by
        by_cases hz : x = t
        · rw [hz] at hb2
          exact absurd hb2 hb
        · exact hx x (by omega) hb2)
      have e1 : f_Table_sidesAlike_21 (f1 + 1) set (N : Int) (t : Int) σ = f_Table_sidesAlike_21 f1 set (N : Int) ((t + 1 : Nat) : Int) σ := by
        rw [f_Table_sidesAlike_21.eq_2, h7, if_pos ht2, if_neg hb, w32_n1 b3, xlet_s]
      have e2 : f_M_mixed_40 (f2 + 1) set rest what (N : Int) (t : Int) τ = f_M_mixed_40 f2 set rest what (N : Int) ((t + 1 : Nat) : Int) τ := by
        rw [f_M_mixed_40.eq_2, things, m0, xbR_s, if_pos ht2, hhas, xbR_s, if_pos rfl, w32_n1 b3, xlet_s]
      rw [e1, e2]
      exact go
