/-! fewest: both sides' loops, the call -/
theorem p18 {p : Nat} (hp : p ≤ 18) : 2 ^ p ≤ 262144 ∧ 1 ≤ 2 ^ p := by
  have h1 : 2 ^ p ≤ 2 ^ 18 := Nat.pow_le_pow_right (by decide) hp
  have h2 : (2 : Nat) ^ 18 = 262144 := by decide
  have h3 := Nat.two_pow_pos p
  omega
theorem p4 {p : Nat} (hp : p ≤ 4) : 2 ^ p ≤ 16 ∧ 1 ≤ 2 ^ p := by
  have h1 : 2 ^ p ≤ 2 ^ 4 := Nat.pow_le_pow_right (by decide) hp
  have h2 : (2 : Nat) ^ 4 = 16 := by decide
  have h3 := Nat.two_pow_pos p
  omega
theorem x_few83 {σ : xSt} {E M : Nat} {K : Nat → Nat} (h : ShX σ E K M) {S : Nat} (hS : S ≤ 1000000000) {l5 : Int} : ∀ (j fu i : Nat), i + j = perN M → j < fu → f_Shares_tellFewest_83 fu (twoN M : Int) (perN M : Int) l5 ((S + nsum (fun j => opN K E M (twoN M + j) * 2 ^ (perN M - j)) i : Nat) : Int) (i : Int) σ = (xbW (f_Fraction_put 95 ((S + nsum (fun j => opN K E M (twoN M + j) * 2 ^ (perN M - j)) (perN M) : Nat) : Int) (xlshl l5 (twoN M : Int)) σ) fun r12 σ13 => some σ13) := by
  have hh := h
  obtain ⟨-, h6, -, h0, h20, -, -⟩ := hh
  obtain ⟨-, -, -, f4, -, f6, f7⟩ := few_nums h0 h20
  have tb : ∀ i, opN K E M (twoN M + i) * 2 ^ (perN M - i) ≤ 6 * 262144 := fun i => Nat.mul_le_mul (op_le h0 h6 _) (p18 (p := perN M - i) (by omega)).1
  intro j
  induction j with
  | zero =>
    intro fu i g1 g2
    obtain ⟨fu, rfl⟩ : ∃ n2, fu = n2 + 1 := ⟨fu - 1, by omega⟩
    obtain rfl : i = perN M := by omega
    rw [f_Shares_tellFewest_83.eq_2, if_neg (by omega)]
  | succ j ih =>
    intro fu i g1 g2
    obtain ⟨fu, rfl⟩ : ∃ n2, fu = n2 + 1 := ⟨fu - 1, by omega⟩
    have b3 : i < 100000 := by omega
    have b4 : twoN M + i < 100000 := by omega
    have b5 : twoN M + i ≤ 40 := by omega
    have b6 : (i : Int) < (perN M : Int) := by omega
    have nb := nsum_le (f := fun j => opN K E M (twoN M + j) * 2 ^ (perN M - j)) (c := 6 * 262144) i (fun i _ => tb i)
    have t1 := tb i
    have nb2 : S + nsum (fun j => opN K E M (twoN M + j) * 2 ^ (perN M - j)) i + opN K E M (twoN M + i) * 2 ^ (perN M - i) < 9223372036854775808 := by omega
    have t2 : opN K E M (twoN M + i) * 2 ^ (perN M - i) < 9223372036854775808 := by omega
    have b7 : perN M - i ≤ 61 := by omega
    have ns : S + nsum (fun j => opN K E M (twoN M + j) * 2 ^ (perN M - j)) (i + 1) = S + nsum (fun j => opN K E M (twoN M + j) * 2 ^ (perN M - j)) i + opN K E M (twoN M + i) * 2 ^ (perN M - i) := by
      show S + (nsum (fun j => opN K E M (twoN M + j) * 2 ^ (perN M - j)) i + opN K E M (twoN M + i) * 2 ^ (perN M - i)) = _
      omega
    have ih2 := ih fu (i + 1) (by omega) (by omega)
    rw [ns] at ih2
    have e1 : w32 ((perN M : Int) - (i : Int)) = ((perN M - i : Nat) : Int) := (w32_o (by omega) (by omega)).trans (by omega)
    have op : f_Shares_openRows ((twoN M + i : Nat) : Int) σ = some (opN K E M (twoN M + i) : Int) := x_openRows h b5
    rw [f_Shares_tellFewest_83.eq_2, if_pos b6, w32_nn b4, op, xbR_s, e1, xlshl_n b7 t2, w64_add nb2, xlet_s, w32_n1 b3, xlet_s]
    exact ih2
theorem x_few49 {σ : xSt} {E M : Nat} {K : Nat → Nat} (h : ShX σ E K M) : ∀ (j fu i : Nat), i + j = twoN M → j < fu → f_Shares_tellFewest_49 fu (twoN M : Int) (perN M : Int) ((2 ^ perN M - 1 : Nat) : Int) ((nsum (fun i => opN K E M i * (2 ^ (twoN M - i) * (2 ^ perN M - 1))) i : Nat) : Int) (i : Int) σ = f_Shares_tellFewest_83 1000000 (twoN M : Int) (perN M : Int) ((2 ^ perN M - 1 : Nat) : Int) ((nsum (fun i => opN K E M i * (2 ^ (twoN M - i) * (2 ^ perN M - 1))) (twoN M) : Nat) : Int) 0 σ := by
  have hh := h
  obtain ⟨-, h6, -, h0, h20, -, -⟩ := hh
  obtain ⟨-, -, -, f4, -, f6, f7⟩ := few_nums h0 h20
  have pp := p18 f7
  have tb : ∀ i, opN K E M i * (2 ^ (twoN M - i) * (2 ^ perN M - 1)) ≤ 6 * (16 * 262144) := fun i => Nat.mul_le_mul (op_le h0 h6 _) (Nat.mul_le_mul (p4 (p := twoN M - i) (by omega)).1 (by omega))
  intro j
  induction j with
  | zero =>
    intro fu i g1 g2
    obtain ⟨fu, rfl⟩ : ∃ n2, fu = n2 + 1 := ⟨fu - 1, by omega⟩
    obtain rfl : i = twoN M := by omega
    rw [f_Shares_tellFewest_49.eq_2, if_neg (by omega)]
  | succ j ih =>
    intro fu i g1 g2
    obtain ⟨fu, rfl⟩ : ∃ n2, fu = n2 + 1 := ⟨fu - 1, by omega⟩
    have b3 : i < 100000 := by omega
    have b5 : i ≤ 40 := by omega
    have b6 : (i : Int) < (twoN M : Int) := by omega
    have nb := nsum_le (f := fun i => opN K E M i * (2 ^ (twoN M - i) * (2 ^ perN M - 1))) (c := 6 * (16 * 262144)) i (fun i _ => tb i)
    have t1 := tb i
    have nb2 : nsum (fun i => opN K E M i * (2 ^ (twoN M - i) * (2 ^ perN M - 1))) i + opN K E M i * (2 ^ (twoN M - i) * (2 ^ perN M - 1)) < 9223372036854775808 := by omega
    have o1 : opN K E M i * 2 ^ (twoN M - i) ≤ 6 * 16 := Nat.mul_le_mul (op_le h0 h6 _) (p4 (p := twoN M - i) (by omega)).1
    have t2 : opN K E M i * 2 ^ (twoN M - i) < 9223372036854775808 := by omega
    have as : opN K E M i * 2 ^ (twoN M - i) * (2 ^ perN M - 1) = opN K E M i * (2 ^ (twoN M - i) * (2 ^ perN M - 1)) := Nat.mul_assoc _ _ _
    have t3 : opN K E M i * 2 ^ (twoN M - i) * (2 ^ perN M - 1) < 9223372036854775808 := by omega
    have b7 : twoN M - i ≤ 61 := by omega
    have ns : nsum (fun i => opN K E M i * (2 ^ (twoN M - i) * (2 ^ perN M - 1))) (i + 1) = nsum (fun i => opN K E M i * (2 ^ (twoN M - i) * (2 ^ perN M - 1))) i + opN K E M i * (2 ^ (twoN M - i) * (2 ^ perN M - 1)) := rfl
    have ih2 := ih fu (i + 1) (by omega) (by omega)
    rw [ns] at ih2
    have e1 : w32 ((twoN M : Int) - (i : Int)) = ((twoN M - i : Nat) : Int) := (w32_o (by omega) (by omega)).trans (by omega)
    have op : f_Shares_openRows (i : Int) σ = some (opN K E M i : Int) := x_openRows h b5
    rw [f_Shares_tellFewest_49.eq_2, if_pos b6, op, xbR_s, e1, xlshl_n b7 t2, w64_mul t3, as, w64_add nb2, xlet_s, w32_n1 b3, xlet_s]
    exact ih2
theorem cX_le {K : Nat → Nat} {E M : Nat} (h0 : 0 < M) (h20 : M ≤ 20) (h6 : E ≤ 6) : nsum (fun i => opN K E M i * (2 ^ (twoN M - i) * (2 ^ perN M - 1))) (twoN M) ≤ 200000000 ∧ cX K E M ≤ 400000000 ∧ cM K E M ≤ 400000000 := by
  obtain ⟨-, -, -, f4, -, f6, f7⟩ := few_nums h0 h20
  have pp := p18 f7
  have n1 := nsum_le (f := fun i => opN K E M i * (2 ^ (twoN M - i) * (2 ^ perN M - 1))) (c := 6 * (16 * 262144)) (twoN M) (fun i _ => Nat.mul_le_mul (op_le h0 h6 _) (Nat.mul_le_mul (p4 (p := twoN M - i) (by omega)).1 (by omega)))
  have n2 := nsum_le (f := fun j => opN K E M (twoN M + j) * 2 ^ (perN M - j)) (c := 6 * 262144) (perN M) (fun i _ => Nat.mul_le_mul (op_le h0 h6 _) (p18 (p := perN M - i) (by omega)).1)
  have m1 := hor_le (op := opN K E M) (fun i => op_le h0 h6 i) 5
  have m2 := hor_le (op := fun i => opN K E M (5 + i)) (fun i => op_le h0 h6 (5 + i)) (perN M)
  have m3 : hor (opN K E M) 5 * (2 ^ perN M - 1) ≤ 192 * 262144 := Nat.mul_le_mul (by omega) (by omega)
  have q1 : twoN M * (6 * (16 * 262144)) ≤ 4 * (6 * (16 * 262144)) := Nat.mul_le_mul f4 (Nat.le_refl _)
  have q2 : perN M * (6 * 262144) ≤ 18 * (6 * 262144) := Nat.mul_le_mul f7 (Nat.le_refl _)
  unfold cX cM
  omega
theorem x_fewest {σ : xSt} {E M : Nat} {K : Nat → Nat} (h : ShX σ E K M) : f_Shares_tellFewest σ = some (upS (upS (upS σ 95 1 (rdI (cX K E M : Int) ((2 ^ perN M - 1) * 2 ^ twoN M) 0)) 95 2 (rdI (cX K E M : Int) ((2 ^ perN M - 1) * 2 ^ twoN M) 1)) 95 0 1) := by
  have hh := h
  obtain ⟨h1, h6, hE, h0, h20, -, hs⟩ := hh
  obtain ⟨f1, f2, f3, f4, f5, f6, f7⟩ := few_nums h0 h20
  obtain ⟨c1, c2, -⟩ := cX_le (K := K) (E := E) h0 h20 h6
  have pp := p18 f7
  have p2 : 2 ≤ 2 ^ perN M := by
    have : 2 ^ 1 ≤ 2 ^ perN M := Nat.pow_le_pow_right (by decide) f6
    omega
  have p44 := p4 f4
  have b1 : (2 ^ perN M - 1) * 2 ^ twoN M ≤ 262144 * 16 := Nat.mul_le_mul (by omega) p44.1
  have b0 : 0 < (2 ^ perN M - 1) * 2 ^ twoN M := Nat.mul_pos (by omega) (by omega)
  have b2 : (2 ^ perN M - 1) * 2 ^ twoN M < 9223372036854775808 := by omega
  have b3 : twoN M ≤ 61 := by omega
  have b4 : perN M ≤ 61 := by omega
  have b6 : -9223372036854775808 < ((cX K E M : Nat) : Int) := by omega
  have b7 : ((cX K E M : Nat) : Int) < 9223372036854775808 := by omega
  have bl := x_below (σ := σ) h1 h6 hE
  rw [c0n, (hs 0 hE).2.1] at bl
  have x8 := x_few8 (σ := σ) f2 (twoN M) 1000000 0 (by omega) (by omega) (by omega)
  rw [f1, c0n, Nat.zero_add] at x8
  have x49 := x_few49 h (twoN M) 1000000 0 (by omega) (by omega)
  have x83 := x_few83 h (S := nsum (fun i => opN K E M i * (2 ^ (twoN M - i) * (2 ^ perN M - 1))) (twoN M)) (l5 := ((2 ^ perN M - 1 : Nat) : Int)) (by omega) (perN M) 1000000 0 (by omega) (by omega)
  have z1 : nsum (fun i => opN K E M i * (2 ^ (twoN M - i) * (2 ^ perN M - 1))) 0 = 0 := rfl
  have z2 : nsum (fun j => opN K E M (twoN M + j) * 2 ^ (perN M - j)) 0 = 0 := rfl
  rw [z1, c0n] at x49
  rw [z2, c0n, Nat.add_zero, xlshl_n b3 b2] at x83
  have x83 : f_Shares_tellFewest_83 1000000 (twoN M : Int) (perN M : Int) ((2 ^ perN M - 1 : Nat) : Int) ((nsum (fun i => opN K E M i * (2 ^ (twoN M - i) * (2 ^ perN M - 1))) (twoN M) : Nat) : Int) 0 σ = (xbW (f_Fraction_put 95 ((cX K E M : Nat) : Int) (((2 ^ perN M - 1) * 2 ^ twoN M : Nat) : Int) σ) fun r12 σ13 => some σ13) := x83
  have tn : w64 (((2 ^ perN M : Nat) : Int) - 1) = ((2 ^ perN M - 1 : Nat) : Int) := (w64_o (by omega) (by omega)).trans (by omega)
  unfold f_Shares_tellFewest
  rw [bl, xbR_s, x8]
  unfold f_Shares_tellFewest_29
  rw [x_period h0 h20, xbR_s, shl_n b4, tn, xlet_s, x49, x83, x_put b6 b7 b0 b2, xbW_s]
/-- the model's rests behind i throws -/
def FwM (τ : xSt) (E : Nat) (K : Nat → Nat) (M i : Nat) : Prop := ShM τ E K M ∧ ∀ e : Nat, e < E → τ 128 e = ((K e * 2 ^ i % M : Nat) : Int)
theorem m_goes4 {τ : xSt} {E M i : Nat} {K : Nat → Nat} (h6 : E ≤ 6) (h0 : 0 < M) (h20 : M ≤ 20) (h : FwM τ E K M i) : ∀ (j fu e : Nat), e + j = E → j < fu → f_M_goesOn_4 fu ((nsum (fun e => K e * 2 ^ i % M) e : Nat) : Int) (e : Int) τ = some (opN K E M i : Int) := by
  obtain ⟨⟨s1, s2, s3⟩, s4⟩ := h
  have hb : ∀ e, e ≤ 6 → nsum (fun e => K e * 2 ^ i % M) e ≤ 120 := fun e he => by
    have := nsum_le (f := fun e => K e * 2 ^ i % M) (c := 20) e (fun e _ => by have := Nat.mod_lt (K e * 2 ^ i) h0; show K e * 2 ^ i % M ≤ 20; omega)
    omega
  intro j
  induction j with
  | zero =>
    intro fu e g1 g2
    obtain ⟨fu, rfl⟩ : ∃ n2, fu = n2 + 1 := ⟨fu - 1, by omega⟩
    obtain rfl : e = E := by omega
    have b := hb e h6
    have b2 : nsum (fun e => K e * 2 ^ i % M) e < 2147483648 := by omega
    rw [f_M_goesOn_4.eq_2, m_ends_, s1, xbR_s, if_neg (by omega), m_shareBelow, s2, xbR_s, if_neg (by omega), xdiv_n b2]
    rfl
  | succ j ih =>
    intro fu e g1 g2
    obtain ⟨fu, rfl⟩ : ∃ n2, fu = n2 + 1 := ⟨fu - 1, by omega⟩
    have b := hb e (by omega)
    have c := Nat.mod_lt (K e * 2 ^ i) h0
    have b3 : e < 100000 := by omega
    have b4 : nsum (fun e => K e * 2 ^ i % M) e + K e * 2 ^ i % M < 100000 := by omega
    have he : (e : Int) < (E : Int) := by omega
    have b6 : 0 ≤ (e : Int) ∧ (e : Int) < 6 := by omega
    have ih2 := ih fu (e + 1) (by omega) (by omega)
    rw [f_M_goesOn_4.eq_2, m_ends_, s1, xbR_s, if_pos he, if_pos b6, Int.toNat_natCast, s4 e (by omega), w32_nn b4, xlet_s, w32_n1 b3, xlet_s]
    exact ih2
theorem m_goesOn {τ : xSt} {E M i : Nat} {K : Nat → Nat} (h6 : E ≤ 6) (h0 : 0 < M) (h20 : M ≤ 20) (h : FwM τ E K M i) : f_M_goesOn τ = some (opN K E M i : Int) := m_goes4 h6 h0 h20 h E 1000000 0 (by omega) (by omega)
theorem m_digit_ {τ : xSt} {M e r : Nat} (h0 : 0 < M) (h20 : M ≤ 20) (he : e < 6) (hr : τ 128 e = (r : Int)) (hrM : r < M) (hM : τ 113 29 = (M : Int)) : ∃ v τ', f_M_digit (e : Int) τ = some (v, τ') ∧ τ' 128 e = ((2 * r % M : Nat) : Int) ∧ ∀ a q, (a = 128 → q ≠ e) → τ' a q = τ a q := by
  have b6 : 0 ≤ (e : Int) ∧ (e : Int) < 6 := by omega
  have e1 : w32 ((r : Int) * 2) = ((2 * r : Nat) : Int) := (w32_o (by omega) (by omega)).trans (by omega)
  have hM2 : ∀ v, f_M_shareBelow (upS τ 128 e v) = some (M : Int) := fun v => by rw [m_shareBelow, upS_ne (by decide), hM]
  by_cases hl : 2 * r < M
  · refine ⟨0, upS τ 128 e ((2 * r : Nat) : Int), ?_, by rw [upS_eq, Nat.mod_eq_of_lt hl], fun a q h => by rw [upS_rd, if_neg (fun z => h z.1 z.2)]⟩
    unfold f_M_digit
    rw [if_pos b6, if_pos b6, Int.toNat_natCast, hr, e1, xlet_s, if_pos b6, hM2, xbR_s, upS_eq, if_pos (by omega)]
  · have hm : 2 * r % M = 2 * r - M := by
      rw [Nat.mod_eq_sub_mod (by omega), Nat.mod_eq_of_lt (by omega)]
    have hl2 : ¬ ((2 * r : Nat) : Int) < (M : Int) := by omega
    have e2 : w32 (((2 * r : Nat) : Int) - (M : Int)) = ((2 * r - M : Nat) : Int) := (w32_o (by omega) (by omega)).trans (by omega)
    refine ⟨1, upS (upS τ 128 e ((2 * r : Nat) : Int)) 128 e ((2 * r - M : Nat) : Int), ?_, by rw [upS_eq, hm], fun a q h => by rw [upS_rd, if_neg (fun z => h z.1 z.2), upS_rd, if_neg (fun z => h z.1 z.2)]⟩
    unfold f_M_digit
    rw [if_pos b6, if_pos b6, Int.toNat_natCast, hr, e1, xlet_s, if_pos b6, hM2, xbR_s, upS_eq, if_neg hl2, if_pos b6, xbR_s, if_pos b6, e2, xlet_s]
theorem pow_step (k i M : Nat) : 2 * (k * 2 ^ i % M) % M = k * 2 ^ (i + 1) % M := by
  rw [Nat.pow_succ, ← Nat.mul_assoc, Nat.mul_comm (k * 2 ^ i) 2, Nat.mul_mod 2 (k * 2 ^ i % M), Nat.mod_mod, ← Nat.mul_mod]
/-- a loop of digits -/
theorem dig_step {E M i : Nat} {K : Nat → Nat} (h6 : E ≤ 6) (h0 : 0 < M) (h20 : M ≤ 20) {R : Type} {f : Nat → Int → xSt → Option R} {g : xSt → Option R} (hf : ∀ n (l : Int) τ, f (n + 1) l τ = (xbR (f_M_ends τ) fun r15 => if l < r15 then (xbW (f_M_digit l τ) fun r16 σ17 => xlet (w32 (l + 1)) fun x18 => f n x18 σ17) else g τ)) :
    ∀ (j fu e : Nat) (τ : xSt), e + j = E → j < fu → ShM τ E K M → (∀ x : Nat, x < E → τ 128 x = (((if x < e then K x * 2 ^ (i + 1) % M else K x * 2 ^ i % M) : Nat) : Int)) → ∃ τ', f fu (e : Int) τ = g τ' ∧ FwM τ' E K M (i + 1) ∧ ∀ a q, a ≠ 128 → τ' a q = τ a q := by
  intro j
  induction j with
  | zero =>
    intro fu e τ g1 g2 hs h8
    obtain ⟨fu, rfl⟩ : ∃ n2, fu = n2 + 1 := ⟨fu - 1, by omega⟩
    obtain rfl : e = E := by omega
    refine ⟨τ, ?_, ⟨hs, fun x hx => by rw [h8 x hx, if_pos hx]⟩, fun _ _ _ => rfl⟩
    rw [hf, m_ends_, hs.1, xbR_s, if_neg (by omega)]
  | succ j ih =>
    intro fu e τ g1 g2 hs h8
    obtain ⟨fu, rfl⟩ : ∃ n2, fu = n2 + 1 := ⟨fu - 1, by omega⟩
    have he : e < E := by omega
    have he2 : (e : Int) < (E : Int) := by omega
    have b3 : e < 100000 := by omega
    have r1 := h8 e he
    rw [if_neg (Nat.lt_irrefl e)] at r1
    obtain ⟨v, τ1, d1, d2, d3⟩ := m_digit_ h0 h20 (by omega) r1 (Nat.mod_lt _ h0) hs.2.1
    rw [pow_step] at d2
    have hs1 : ShM τ1 E K M := ⟨by rw [d3 113 1 (fun z => absurd z (by decide))]; exact hs.1, by rw [d3 113 29 (fun z => absurd z (by decide))]; exact hs.2.1, fun x hx => by rw [d3 113 _ (fun z => absurd z (by decide))]; exact hs.2.2 x hx⟩
    obtain ⟨τ', t1, t2, t3⟩ := ih fu (e + 1) τ1 (by omega) (by omega) hs1 (fun x hx => by
      by_cases hz : x = e
      · rw [hz, d2, if_pos (Nat.lt_succ_self e)]
      · rw [d3 128 x (fun _ => hz), h8 x hx]
        by_cases hl : x < e
        · rw [if_pos hl, if_pos (by omega)]
        · rw [if_neg hl, if_neg (by omega)])
    refine ⟨τ', ?_, t2, fun a q ha => by rw [t3 a q ha, d3 a q (fun z => absurd z ha)]⟩
    rw [hf, m_ends_, hs.1, xbR_s, if_pos he2, d1, xbW_s, w32_n1 b3, xlet_s, t1]
theorem dig_all {E M i : Nat} {K : Nat → Nat} (h6 : E ≤ 6) (h0 : 0 < M) (h20 : M ≤ 20) {R : Type} {f : Nat → Int → xSt → Option R} {g : xSt → Option R} (hf : ∀ n (l : Int) τ, f (n + 1) l τ = (xbR (f_M_ends τ) fun r15 => if l < r15 then (xbW (f_M_digit l τ) fun r16 σ17 => xlet (w32 (l + 1)) fun x18 => f n x18 σ17) else g τ)) (τ : xSt) (h : FwM τ E K M i) : ∃ τ', f 1000000 0 τ = g τ' ∧ FwM τ' E K M (i + 1) ∧ ∀ a q, a ≠ 128 → τ' a q = τ a q :=
  dig_step h6 h0 h20 hf E 1000000 0 τ (by omega) (by omega) h.1 (fun x hx => by rw [if_neg (Nat.not_lt_zero x)]; exact h.2 x hx)
theorem m_few190 {E M : Nat} {K : Nat → Nat} (h6 : E ≤ 6) (h0 : 0 < M) (h20 : M ≤ 20) {what : Int} : ∀ (j fu i : Nat) (τ : xSt), i + j = perN M → j < fu → FwM τ E K M (5 + i) → ∃ τ', f_M_fewest_190 fu what ((hor (opN K E M) 5 : Nat) : Int) (perN M : Int) ((hor (fun i => opN K E M (5 + i)) i : Nat) : Int) (i : Int) τ = some (rdI (cM K E M : Int) (16 * (2 ^ perN M - 1)) what, τ') ∧ ∀ a q, a ≠ 128 → τ' a q = τ a q := by
  obtain ⟨-, -, -, f4, -, f6, f7⟩ := few_nums h0 h20
  have pp := p18 f7
  have p2 : 2 ≤ 2 ^ perN M := by
    have : 2 ^ 1 ≤ 2 ^ perN M := Nat.pow_le_pow_right (by decide) f6
    omega
  obtain ⟨-, -, cb⟩ := cX_le (K := K) (E := E) h0 h20 h6
  have m1 := hor_le (op := opN K E M) (fun i => op_le h0 h6 i) 5
  have m3 : hor (opN K E M) 5 * (2 ^ perN M - 1) ≤ 192 * 262144 := Nat.mul_le_mul (by omega) (by omega)
  have hb : ∀ i, i ≤ perN M → hor (fun i => opN K E M (5 + i)) i ≤ 1572864 := fun i hi => by
    have m2 := hor_le (op := fun i => opN K E M (5 + i)) (fun i => op_le h0 h6 (5 + i)) i
    have := (p18 (p := i) (by omega)).1
    omega
  intro j
  induction j with
  | zero =>
    intro fu i τ g1 g2 hF
    obtain ⟨fu, rfl⟩ : ∃ n2, fu = n2 + 1 := ⟨fu - 1, by omega⟩
    obtain rfl : i = perN M := by omega
    have hb2 := hb (perN M) (Nat.le_refl _)
    have q1 : hor (opN K E M) 5 * (2 ^ perN M - 1) < 9223372036854775808 := by omega
    have q2 : hor (opN K E M) 5 * (2 ^ perN M - 1) + hor (fun i => opN K E M (5 + i)) (perN M) < 9223372036854775808 := by omega
    have q3 : 16 * (2 ^ perN M - 1) < 9223372036854775808 := by omega
    have q0 : 0 < 16 * (2 ^ perN M - 1) := by omega
    have q4 : perN M ≤ 61 := by omega
    have q5 : -9223372036854775808 < ((cM K E M : Nat) : Int) := by omega
    have q6 : ((cM K E M : Nat) : Int) < 9223372036854775808 := by omega
    have q7 : ¬ (perN M : Int) < (perN M : Int) := by omega
    have tn : w64 (((2 ^ perN M : Nat) : Int) - 1) = ((2 ^ perN M - 1 : Nat) : Int) := (w64_o (by omega) (by omega)).trans (by omega)
    have t16 : w64 (16 * ((2 ^ perN M - 1 : Nat) : Int)) = ((16 * (2 ^ perN M - 1) : Nat) : Int) := w64_mul (a := 16) q3
    have cm : hor (opN K E M) 5 * (2 ^ perN M - 1) + hor (fun i => opN K E M (5 + i)) (perN M) = cM K E M := rfl
    refine ⟨τ, ?_, fun _ _ _ => rfl⟩
    rw [f_M_fewest_190.eq_2, if_neg q7, shl_n q4, tn, xlet_s, w64_mul q1, w64_add q2, cm, t16, m_part q5 q6 q0 q3, xbR_s]
  | succ j ih =>
    intro fu i τ g1 g2 hF
    obtain ⟨fu, rfl⟩ : ∃ n2, fu = n2 + 1 := ⟨fu - 1, by omega⟩
    have hb2 := hb i (by omega)
    have ob := op_le (K := K) (E := E) (M := M) h0 h6 (5 + i)
    have b3 : i < 100000 := by omega
    have b6 : (i : Int) < (perN M : Int) := by omega
    have w1 : 2 * hor (fun i => opN K E M (5 + i)) i < 9223372036854775808 := by omega
    have w2 : 2 * hor (fun i => opN K E M (5 + i)) i + opN K E M (5 + i) < 9223372036854775808 := by omega
    obtain ⟨τ1, d1, d2, d3⟩ := dig_all (f := fun n l τ => f_M_fewest_214 (fun z0 z1 z2 z3 z4 sz => f_M_fewest_190 fu z0 z1 z2 z3 z4 sz) n what ((hor (opN K E M) 5 : Nat) : Int) (perN M : Int) ((hor (fun i => opN K E M (5 + i)) (i + 1) : Nat) : Int) (i : Int) l τ) (g := fun τ => f_M_fewest_190 fu what ((hor (opN K E M) 5 : Nat) : Int) (perN M : Int) ((hor (fun i => opN K E M (5 + i)) (i + 1) : Nat) : Int) ((i + 1 : Nat) : Int) τ) h6 h0 h20 (fun n l τ => by
      show f_M_fewest_214 _ (n + 1) _ _ _ _ _ _ _ = _
      rw [f_M_fewest_214.eq_2, w32_n1 b3, xlet_s]) τ hF
    obtain ⟨τ', t1, t2⟩ := ih fu (i + 1) τ1 (by omega) (by omega) d2
    refine ⟨τ', ?_, fun a q ha => by rw [t2 a q ha, d3 a q ha]⟩
    have hs : hor (fun i => opN K E M (5 + i)) (i + 1) = 2 * hor (fun i => opN K E M (5 + i)) i + opN K E M (5 + i) := rfl
    have e2 : w64 (2 * ((hor (fun i => opN K E M (5 + i)) i : Nat) : Int)) = ((2 * hor (fun i => opN K E M (5 + i)) i : Nat) : Int) := w64_mul (a := 2) w1
    rw [f_M_fewest_190.eq_2, if_pos b6, m_goesOn h6 h0 h20 hF, xbR_s, e2, w64_add w2, xlet_s, ← hs]
    exact d1.trans t1
theorem m_few160 {o : Nat} (h0 : 0 < o) (h19 : o ≤ 19) {l1 l2 : Int} {τ : xSt} : ∀ (f fu v k p : Nat), pS f o v k = some p → v < o → k < 1000 → f ≤ 100 → p ≤ 100 → f ≤ fu → f_M_fewest_160 fu l1 l2 (o : Int) (k : Int) (v : Int) τ = f_M_fewest_190 1000000 l1 l2 (p : Int) 0 0 τ := by
  intro f
  induction f with
  | zero => exact fun fu v k p h => by cases h
  | succ f ih =>
    intro fu v k p h hv hk hf100 hp hf
    obtain ⟨fu, rfl⟩ : ∃ n2, fu = n2 + 1 := ⟨fu - 1, by omega⟩
    have e1 : xrem 1 (o : Int) = ((1 % o : Nat) : Int) := xrem_n (a := 1) (by decide)
    have b4 : ¬ (o : Int) = 0 := by omega
    have h1 : 1 % o < 100 := by
      have := Nat.mod_lt 1 h0
      omega
    unfold pS at h
    by_cases hv1 : v = 1 % o
    · rw [if_pos hv1] at h
      cases h
      rw [f_M_fewest_160.eq_2, if_neg b4, e1, hv1, if_pos rfl]
    · rw [if_neg hv1] at h
      have hk2 := pS_ge _ _ _ _ _ h
      have hv2 : 2 * v % o < o := Nat.mod_lt _ h0
      have b1 : ¬ (v : Int) = ((1 % o : Nat) : Int) := by omega
      have b3 : k < 100000 := by omega
      have b5 : 2 * v < 2147483648 := by omega
      have b6 : k + 1 < 1000 := by omega
      have b7 : f ≤ 100 := by omega
      have e2 : w32 (2 * (v : Int)) = ((2 * v : Nat) : Int) := (w32_o (by omega) (by omega)).trans (by omega)
      rw [f_M_fewest_160.eq_2, if_neg b4, e1, if_neg b1, w32_n1 b3, xlet_s, if_neg b4, e2, xrem_n b5, xlet_s]
      exact ih fu _ (k + 1) p h hv2 b6 b7 hp (Nat.le_of_succ_le_succ hf)
theorem m_few135 {o : Nat} (ho : o % 2 = 1) {l1 l2 : Int} {τ : xSt} : ∀ (j fu : Nat), o * 2 ^ j ≤ 20 → j < fu → f_M_fewest_135 fu l1 l2 ((o * 2 ^ j : Nat) : Int) τ = f_M_fewest_160 1000000 l1 l2 (o : Int) 1 ((2 % o : Nat) : Int) τ := by
  intro j
  induction j with
  | zero =>
    intro fu h1 h3
    obtain ⟨fu, rfl⟩ : ∃ n2, fu = n2 + 1 := ⟨fu - 1, by omega⟩
    rw [Nat.pow_zero, Nat.mul_one] at h1 ⊢
    have b : o < 2147483648 := by omega
    have b4 : ¬ (o : Int) = 0 := by omega
    have e1 : xrem (o : Int) 2 = ((o % 2 : Nat) : Int) := xrem_n (b := 2) b
    have e2 : xrem 2 (o : Int) = ((2 % o : Nat) : Int) := xrem_n (a := 2) (by decide)
    rw [f_M_fewest_135.eq_2, e1, ho, if_neg (by decide), if_neg b4, e2, xlet_s]
  | succ j ih =>
    intro fu h1 h3
    obtain ⟨fu, rfl⟩ : ∃ n2, fu = n2 + 1 := ⟨fu - 1, by omega⟩
    have e1 : o * 2 ^ (j + 1) % 2 = 0 := by rw [Nat.pow_succ, ← Nat.mul_assoc, Nat.mul_mod_left]
    have e2 : o * 2 ^ (j + 1) / 2 = o * 2 ^ j := by rw [Nat.pow_succ, ← Nat.mul_assoc, Nat.mul_div_cancel _ (by decide)]
    have h4 : o * 2 ^ j ≤ 20 := by omega
    have b : o * 2 ^ (j + 1) < 2147483648 := by omega
    have ih2 := ih fu h4 (by omega)
    have e3 : xrem ((o * 2 ^ (j + 1) : Nat) : Int) 2 = ((o * 2 ^ (j + 1) % 2 : Nat) : Int) := xrem_n (b := 2) b
    have e4 : xdiv ((o * 2 ^ (j + 1) : Nat) : Int) 2 = ((o * 2 ^ (j + 1) / 2 : Nat) : Int) := xdiv_n (b := 2) b
    rw [f_M_fewest_135.eq_2, e3, e1, if_pos c0n, e4, e2, xlet_s]
    exact ih2
theorem m_few80 {E M : Nat} {K : Nat → Nat} (h6 : E ≤ 6) (h0 : 0 < M) (h20 : M ≤ 20) {what : Int} : ∀ (j fu i : Nat) (τ : xSt), i + j = 5 → j < fu → FwM τ E K M i → ∃ τ', f_M_fewest_80 fu what ((hor (opN K E M) i : Nat) : Int) (i : Int) τ = some (rdI (cM K E M : Int) (16 * (2 ^ perN M - 1)) what, τ') ∧ ∀ a q, a ≠ 128 → τ' a q = τ a q := by
  obtain ⟨f1, f2, f3, f4, f5, f6, f7⟩ := few_nums h0 h20
  intro j
  induction j with
  | zero =>
    intro fu i τ g1 g2 hF
    obtain ⟨fu, rfl⟩ : ∃ n2, fu = n2 + 1 := ⟨fu - 1, by omega⟩
    obtain rfl : i = 5 := by omega
    obtain ⟨τ', t1, t2⟩ := m_few190 h6 h0 h20 (K := K) (what := what) (perN M) 1000000 0 τ (by omega) (by omega) hF
    have o0 : 0 < oddN M := by omega
    refine ⟨τ', ?_, t2⟩
    have m135 := m_few135 (o := oddN M) f2 (l1 := what) (l2 := ((hor (opN K E M) 5 : Nat) : Int)) (τ := τ) (twoN M) 1000000 (by omega) (by omega)
    rw [f1] at m135
    have m160 := m_few160 (o := oddN M) o0 f3 (l1 := what) (l2 := ((hor (opN K E M) 5 : Nat) : Int)) (τ := τ) 20 1000000 (2 % oddN M) 1 (perN M) f5 (Nat.mod_lt _ o0) (by decide) (by decide) (by omega) (by decide)
    rw [f_M_fewest_80.eq_2, if_neg (by decide), m_shareBelow, hF.1.2.1, xbR_s, m135]
    exact m160.trans t1
  | succ j ih =>
    intro fu i τ g1 g2 hF
    obtain ⟨fu, rfl⟩ : ∃ n2, fu = n2 + 1 := ⟨fu - 1, by omega⟩
    have m2 := hor_le (op := opN K E M) (fun i => op_le h0 h6 i) i
    have pb := (p4 (p := i) (by omega)).1
    have ob := op_le (K := K) (E := E) (M := M) h0 h6 i
    have b3 : i < 100000 := by omega
    have b6 : (i : Int) < 5 := by omega
    have w1 : 2 * hor (opN K E M) i < 9223372036854775808 := by omega
    have w2 : 2 * hor (opN K E M) i + opN K E M i < 9223372036854775808 := by omega
    obtain ⟨τ1, d1, d2, d3⟩ := dig_all (f := fun n l τ => f_M_fewest_101 (fun z0 z1 z2 sz => f_M_fewest_80 fu z0 z1 z2 sz) n what ((hor (opN K E M) (i + 1) : Nat) : Int) (i : Int) l τ) (g := fun τ => f_M_fewest_80 fu what ((hor (opN K E M) (i + 1) : Nat) : Int) ((i + 1 : Nat) : Int) τ) h6 h0 h20 (fun n l τ => by
      show f_M_fewest_101 _ (n + 1) _ _ _ _ _ = _
      rw [f_M_fewest_101.eq_2, w32_n1 b3, xlet_s]) τ hF
    obtain ⟨τ', t1, t2⟩ := ih fu (i + 1) τ1 (by omega) (by omega) d2
    refine ⟨τ', ?_, fun a q ha => by rw [t2 a q ha, d3 a q ha]⟩
    have hs : hor (opN K E M) (i + 1) = 2 * hor (opN K E M) i + opN K E M i := rfl
    have e2 : w64 (2 * ((hor (opN K E M) i : Nat) : Int)) = ((2 * hor (opN K E M) i : Nat) : Int) := w64_mul (a := 2) w1
    rw [f_M_fewest_80.eq_2, if_pos b6, m_goesOn h6 h0 h20 hF, xbR_s, e2, w64_add w2, xlet_s, ← hs]
    exact d1.trans t1
