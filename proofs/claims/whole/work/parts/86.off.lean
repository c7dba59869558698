/-! calls that tell fractions: what they may write; off -/
def s_sc : xZ := [(87, [7, 8, 9, 10, 11, 12]), (88, []), (89, []), (90, []), (91, []), (92, []), (93, []), (94, []), (95, [0, 1, 2]), (111, [0, 29, 30, 32]), (121, []), (122, []), (123, []), (128, []), (129, []), (130, []), (131, [])]
theorem simT_scr {n : Nat} {fx : xSt → Option (Option Int × xSt)} {fm : xSt → Option (Int × xSt)} (h : ∀ σ, Inv0 σ → ∃ r σ1, fx σ = some (r, σ1) ∧ Fr s_sc σ σ1 ∧ ∀ L, f_M_lay (wSt (r, σ1)) = some L → Inv0 L → L 111 22 ≠ 0 → (∀ a k, a ≤ 86 → L a k = σ a k) →
    ∃ bb M, fm (wSt (r, σ1)) = some (bb, M) ∧ Fr s_sc L M ∧ (r = none ∧ M 111 0 = 1 ∨ M 111 0 = 0 ∧ r = some bb)) : SimT (InvN (n + 1)) (InvN n) fx fm := by
  refine simT0 (fun σ hσ => ?_)
  obtain ⟨r, σ1, h1, h2, h3⟩ := h σ hσ
  have hw : Inv0 (wSt (r, σ1)) := inv_wst (r := (r, σ1)) (hσ.fr h2 rfl)
  obtain ⟨L, hl, hF, hi, h22, -⟩ := lay_ok hw
  have e1 : ∀ a k, a ≤ 86 → L a k = σ a k := fun a k ha => by
    rw [hF a k (inS_no (fun e he => by
      unfold s_M_lay at he
      simp only [List.mem_cons, List.not_mem_nil, or_false] at he
      rcases he with rfl | rfl <;> (dsimp only; omega))), wst_rd (by omega)]
    exact h2 a k (inS_no (fun e he => by
      unfold s_sc at he
      simp only [List.mem_cons, List.not_mem_nil, or_false] at he
      rcases he with rfl | rfl | rfl | rfl | rfl | rfl | rfl | rfl | rfl | rfl | rfl | rfl | rfl | rfl | rfl | rfl | rfl <;> (dsimp only; omega)))
  obtain ⟨bb, M, m1, m2, m3⟩ := h3 L hl hi h22 e1
  refine ⟨r, σ1, bb, M, h1, m1, ?_, hi.fr m2 rfl, ?_⟩
  · rcases m3 with ⟨z1, z2⟩ | ⟨z1, z2⟩
    · exact Or.inl ⟨z1, z2⟩
    · refine Or.inr ⟨z1, bb, z2, rfl, ?_⟩
      rw [m2 139 0 rfl, hF 139 0 rfl, z2]
      rfl
  · rw [m2 0 7 rfl, e1 0 7 (by decide)]
/-- how far END e is off -/
def dfN (K : Nat → Nat) (E M n e : Nat) : Nat := (((nrN K E M n e * M : Nat) : Int) - ((K e * 2 ^ n : Nat) : Int)).natAbs
theorem nr_b {K : Nat → Nat} {E M n e : Nat} (hk : K e ≤ M) (h0 : 0 < M) (h20 : M ≤ 20) (hn : n ≤ 20) : nrN K E M n e ≤ 20971521 ∧ nrN K E M n e * M ≤ 419430420 ∧ K e * 2 ^ n ≤ 20971520 ∧ dfN K E M n e ≤ 20 := by
  have pw := p20 hn
  have h3 : K e * 2 ^ n ≤ 20 * 1048576 := Nat.mul_le_mul (by omega) pw
  have h4 := Nat.div_le_self (K e * 2 ^ n) M
  have h5 : nrN K E M n e ≤ 20971521 := by
    unfold nrN
    split <;> omega
  have h6 : nrN K E M n e * M ≤ 20971521 * 20 := Nat.mul_le_mul h5 h20
  have h7 := Nat.div_add_mod (K e * 2 ^ n) M
  have h8 := Nat.mod_lt (K e * 2 ^ n) h0
  refine ⟨h5, by omega, by omega, ?_⟩
  unfold dfN
  have h9 : nrN K E M n e * M = M * (K e * 2 ^ n / M) ∨ nrN K E M n e * M = M * (K e * 2 ^ n / M) + M := by
    unfold nrN
    split
    · exact Or.inr (by rw [Nat.add_mul, Nat.one_mul, Nat.mul_comm])
    · exact Or.inl (by rw [Nat.add_zero, Nat.mul_comm])
  generalize M * (K e * 2 ^ n / M) = A at h7 h9
  generalize K e * 2 ^ n % M = r at h7 h8
  generalize nrN K E M n e * M = B at h9
  generalize K e * 2 ^ n = C at h7
  omega
theorem abs_num {a b : Nat} (ha : a ≤ 500000000) (hb : b ≤ 500000000) (hd : ((a : Int) - (b : Int)).natAbs ≤ 20) : xlabs (w64 ((a : Int) - (b : Int))) = ((((a : Int) - (b : Int)).natAbs : Nat) : Int) ∧ w64 ((a : Int) - (b : Int)) = (a : Int) - (b : Int) := by
  have h1 : w64 ((a : Int) - (b : Int)) = (a : Int) - (b : Int) := w64_o (by omega) (by omega)
  refine ⟨?_, h1⟩
  rw [h1]
  clear h1
  unfold xlabs
  by_cases h : 0 < (a : Int) - (b : Int)
  · rw [if_pos h]
    omega
  · rw [if_neg h, w64_o (by omega) (by omega)]
    omega
theorem x_off13 {σ : xSt} {E M : Nat} {K : Nat → Nat} (h : ShX σ E K M) {n : Nat} (hn : n ≤ 20) : ∀ (j fu e : Nat), e + j = E → j < fu → f_Shares_tellOff_13 fu (n : Int) (M : Int) ((nsum (dfN K E M n) e : Nat) : Int) (e : Int) σ = (xbW (f_Fraction_put 95 ((nsum (dfN K E M n) E : Nat) : Int) (xlshl (M : Int) (w32 ((n : Int) + 1))) σ) fun r6 σ7 => some σ7) := by
  have hh := h
  obtain ⟨h1, h6, -, h0, h20, -, hs⟩ := hh
  intro j
  induction j with
  | zero =>
    intro fu e g1 g2
    obtain ⟨fu, rfl⟩ : ∃ n2, fu = n2 + 1 := ⟨fu - 1, by omega⟩
    obtain rfl : e = E := by omega
    rw [f_Shares_tellOff_13.eq_2, h1, if_neg (by omega)]
  | succ j ih =>
    intro fu e g1 g2
    obtain ⟨fu, rfl⟩ : ∃ n2, fu = n2 + 1 := ⟨fu - 1, by omega⟩
    have he : e < E := by omega
    have he2 : (e : Int) < (E : Int) := by omega
    obtain ⟨a1, a2, a3⟩ := hs e he
    obtain ⟨b1, b2, b4, b5⟩ := nr_b (E := E) a3 h0 h20 hn
    have b3 : e < 100000 := by omega
    have nb := nsum_le (f := dfN K E M n) (c := 20) e (fun i hi => (nr_b (E := E) (hs i (by omega)).2.2 h0 h20 hn).2.2.2)
    have nb2 : nsum (dfN K E M n) e + dfN K E M n e < 9223372036854775808 := by omega
    obtain ⟨c1, -⟩ := abs_num (a := nrN K E M n e * M) (b := K e * 2 ^ n) (by omega) (by omega) b5
    have ns : nsum (dfN K E M n) (e + 1) = nsum (dfN K E M n) e + dfN K E M n e := rfl
    have c1 : xlabs (w64 (((nrN K E M n e * M : Nat) : Int) - ((K e * 2 ^ n : Nat) : Int))) = ((dfN K E M n e : Nat) : Int) := c1
    have ih2 := ih fu (e + 1) (by omega) (by omega)
    rw [ns] at ih2
    rw [f_Shares_tellOff_13.eq_2, h1, if_pos he2, x_nearestRows h he hn, xbR_s, x_above h1 h6 he, a1, xbR_s, w64_mul (Nat.lt_of_le_of_lt b2 (by decide)), xlshl_n (Nat.le_trans hn (by decide)) (Nat.lt_of_le_of_lt b4 (by decide)), c1, w64_add nb2, xlet_s, w32_n1 b3, xlet_s]
    exact ih2
theorem m_off50 {τ : xSt} {E M : Nat} {K : Nat → Nat} (h : ShM τ E K M) (h6 : E ≤ 6) (h0 : 0 < M) (h20 : M ≤ 20) (hK : ∀ e : Nat, e < E → K e ≤ M) {n : Nat} (hn : n ≤ 20) (hN : ∀ e : Nat, e < E → τ 129 e = ((nrN K E M n e : Nat) : Int)) {what : Int} : ∀ (j fu e : Nat), e + j = E → j < fu → f_M_off_50 fu (n : Int) what ((nsum (dfN K E M n) e : Nat) : Int) (e : Int) τ = some (rdI ((nsum (dfN K E M n) E : Nat) : Int) (2 * 2 ^ n * M) what, τ) := by
  obtain ⟨s1, s2, s3⟩ := h
  have pw := p20 hn
  have nbE := nsum_le (f := dfN K E M n) (c := 20) E (fun i hi => (nr_b (E := E) (hK i (by omega)) h0 h20 hn).2.2.2)
  intro j
  induction j with
  | zero =>
    intro fu e g1 g2
    obtain ⟨fu, rfl⟩ : ∃ n2, fu = n2 + 1 := ⟨fu - 1, by omega⟩
    obtain rfl : e = E := by omega
    have q1 : 2 * 2 ^ n * M ≤ 2097152 * 20 := Nat.mul_le_mul (by omega) h20
    have q0 : 0 < 2 * 2 ^ n * M := Nat.mul_pos (by have := Nat.two_pow_pos n; omega) h0
    have q2 : 2 * 2 ^ n < 9223372036854775808 := by omega
    have q3 : 2 * 2 ^ n * M < 9223372036854775808 := by omega
    have q4 : -9223372036854775808 < ((nsum (dfN K e M n) e : Nat) : Int) := by omega
    have q5 : ((nsum (dfN K e M n) e : Nat) : Int) < 9223372036854775808 := by omega
    have e1 : w64 (2 * ((2 ^ n : Nat) : Int)) = ((2 * 2 ^ n : Nat) : Int) := w64_mul (a := 2) q2
    rw [f_M_off_50.eq_2, m_ends_, s1, xbR_s, if_neg (by omega), m_shareBelow, s2, xbR_s, shl_n (Nat.le_trans hn (by decide)), e1, w64_mul q3, m_part q4 q5 q0 q3, xbR_s]
  | succ j ih =>
    intro fu e g1 g2
    obtain ⟨fu, rfl⟩ : ∃ n2, fu = n2 + 1 := ⟨fu - 1, by omega⟩
    have he : e < E := by omega
    have he2 : (e : Int) < (E : Int) := by omega
    have b6 : 0 ≤ (e : Int) ∧ (e : Int) < 6 := by omega
    have e6 : e < 6 := by omega
    have a3 := hK e he
    obtain ⟨b1, b2, b4, b5⟩ := nr_b (E := E) a3 h0 h20 hn
    have b3 : e < 100000 := by omega
    have nb := nsum_le (f := dfN K E M n) (c := 20) e (fun i hi => (nr_b (E := E) (hK i (by omega)) h0 h20 hn).2.2.2)
    have nb2 : nsum (dfN K E M n) e + dfN K E M n e < 9223372036854775808 := by omega
    have ns : nsum (dfN K E M n) (e + 1) = nsum (dfN K E M n) e + dfN K E M n e := rfl
    have ih2 := ih fu (e + 1) (by omega) (by omega)
    rw [ns] at ih2
    have hc : 2 ^ n * K e = K e * 2 ^ n := Nat.mul_comm _ _
    have k1 : 2 ^ n * K e < 9223372036854775808 := by omega
    have hd : dfN K E M n e = (((nrN K E M n e * M : Nat) : Int) - ((K e * 2 ^ n : Nat) : Int)).natAbs := rfl
    have neg : ((nrN K E M n e * M : Nat) : Int) - ((K e * 2 ^ n : Nat) : Int) < 0 → w64 (-(((nrN K E M n e * M : Nat) : Int) - ((K e * 2 ^ n : Nat) : Int))) = ((dfN K E M n e : Nat) : Int) := fun z => by
      rw [hd]
      exact (w64_o (by omega) (by omega)).trans (by omega)
    have pos : ¬ ((nrN K E M n e * M : Nat) : Int) - ((K e * 2 ^ n : Nat) : Int) < 0 → ((nrN K E M n e * M : Nat) : Int) - ((K e * 2 ^ n : Nat) : Int) = ((dfN K E M n e : Nat) : Int) := fun z => by
      rw [hd]
      omega
    obtain ⟨-, c2⟩ := abs_num (a := nrN K E M n e * M) (b := K e * 2 ^ n) (Nat.le_trans b2 (by decide)) (Nat.le_trans b4 (by decide)) b5
    rw [f_M_off_50.eq_2, m_ends_, s1, xbR_s, if_pos he2, if_pos b6, m_shareBelow, s2, xbR_s, m_shareOf e6, s3 e he, xbR_s, Int.toNat_natCast, hN e he, w64_mul (Nat.lt_of_le_of_lt b2 (by decide)), shl_n (Nat.le_trans hn (by decide)), w64_mul k1, hc, c2, xlet_s]
    by_cases hz : ((nrN K E M n e * M : Nat) : Int) - ((K e * 2 ^ n : Nat) : Int) < 0
    · rw [if_pos (xlc_lt.mpr hz), neg hz, w64_add nb2, xlet_s, w32_n1 b3, xlet_s]
      exact ih2
    · rw [if_neg (fun z => hz (xlc_lt.mp z)), pos hz, w64_add nb2, xlet_s, w32_n1 b3, xlet_s]
      exact ih2
theorem sim_off {n : Nat} : ∀ p1 p2 : Int, in32 p1 → in32 p2 → SimT (InvN (n + 1)) (InvN n) (f_X_off p1 p2) (f_M_off p1 p2) := by
  intro p1 p2 _ _
  refine simT_scr (fun σ h => ?_)
  have h0 := lay0 h
  have refuse : ∀ L : xSt, f_M_off_30 L = some (0, upS L 111 0 1) := fun L => rfl
  have nul : ∀ (hX : f_X_off p1 p2 σ = some (none, σ)), (∀ L : xSt, f_M_lay (wSt (none, σ)) = some L → Inv0 L → (∀ a k, a ≤ 86 → L a k = σ a k) → f_M_off p1 p2 (wSt (none, σ)) = f_M_off_30 L) → ∃ r σ1, f_X_off p1 p2 σ = some (r, σ1) ∧ Fr s_sc σ σ1 ∧ ∀ L, f_M_lay (wSt (r, σ1)) = some L → Inv0 L → L 111 22 ≠ 0 → (∀ a k, a ≤ 86 → L a k = σ a k) → ∃ bb M, f_M_off p1 p2 (wSt (r, σ1)) = some (bb, M) ∧ Fr s_sc L M ∧ (r = none ∧ M 111 0 = 1 ∨ M 111 0 = 0 ∧ r = some bb) := fun hX hM => ⟨none, σ, hX, Fr.rf, fun L l1 l2 l3 l4 => ⟨0, upS L 111 0 1, (hM L l1 l2 l4).trans (refuse L), Fr.up Fr.rf rfl rfl, Or.inl ⟨rfl, rfl⟩⟩⟩
  obtain ⟨he1, he2, he3⟩ := h.ends
  by_cases hp : 0 ≤ p1 ∧ p1 < 21
  · by_cases hq : 0 ≤ p2 ∧ p2 < 2
    · obtain ⟨v, v1, -, v3⟩ := told_sim h0.2.1 h0.2.2.2.2
      have mtold : ∀ L : xSt, Inv0 L → (∀ a k, a ≤ 86 → L a k = σ a k) → ∃ u, f_M_hasShares L = some u ∧ u = v := fun L l1 l2 => by
        obtain ⟨E, h6, hE, mE, hs⟩ := l1.shares
        obtain ⟨u, u1, u2, -⟩ := told_lock (fa := σ 14) (fb := σ 15) (σ := σ) (σm := L) h6 (fun e he => by rw [← l2 14 e (by decide), ← l2 15 e (by decide)]; exact (hs e he).1) (by rw [← l2 7 2 (by decide)]; exact hE) (fun _ _ => rfl) (fun _ _ => rfl) mE (fun e he => by rw [← l2 14 e (by decide)]; exact (hs e he).2.1) (fun e he => by rw [← l2 15 e (by decide)]; exact (hs e he).2.2)
        rw [v1] at u1
        exact ⟨u, u2, (Option.some.inj u1).symm⟩
      rcases v3 with rfl | ⟨rfl, E, M, K, sX, -⟩
      · refine nul ?_ (fun L l1 l2 l3 => ?_)
        · unfold f_X_off
          rw [x_isWithin, if_pos hp, xbR_s, if_neg (by decide), x_isWithin, if_pos hq, xbR_s, if_neg (by decide), v1, xbR_s, if_pos rfl]
        · obtain ⟨u, u1, rfl⟩ := mtold L l2 l3
          unfold f_M_off
          rw [l1, xbR_s, m_isIn, if_pos (by omega), xbR_s, if_neg (by decide), m_isIn, if_pos (by omega), xbR_s, if_neg (by decide), u1, xbR_s, if_pos rfl]
      · have sX2 := sX
        obtain ⟨q1, q6, qE, q0, q20, qs, qk⟩ := sX2
        obtain ⟨m, rfl⟩ : ∃ m : Nat, p1 = (m : Int) := ⟨p1.toNat, by omega⟩
        have hm : m ≤ 20 := by omega
        have pw := p20 hm
        have hK : ∀ e : Nat, e < E → K e ≤ M := fun e he => (qk e he).2.2
        have nbE := nsum_le (f := dfN K E M m) (c := 20) E (fun i hi => (nr_b (E := E) (hK i (by omega)) q0 q20 hm).2.2.2)
        have e1 : M * 2 ^ (m + 1) = 2 * 2 ^ m * M := by rw [Nat.pow_succ, Nat.mul_comm M, Nat.mul_comm (2 ^ m) 2]
        have b1 : 2 * 2 ^ m * M ≤ 2097152 * 20 := Nat.mul_le_mul (by omega) q20
        have b0 : 0 < 2 * 2 ^ m * M := Nat.mul_pos (by have := Nat.two_pow_pos m; omega) q0
        have b2 : 2 * 2 ^ m * M < 9223372036854775808 := by omega
        have b3 : M * 2 ^ (m + 1) < 9223372036854775808 := by omega
        have b4 : m < 100000 := by omega
        have b5 : m + 1 ≤ 61 := by omega
        have b6 : -9223372036854775808 < ((nsum (dfN K E M m) E : Nat) : Int) := by omega
        have b7 : ((nsum (dfN K E M m) E : Nat) : Int) < 9223372036854775808 := by omega
        have xo := x_off13 sX hm E 1000000 0 (by omega) (by omega)
        have z0 : nsum (dfN K E M m) 0 = 0 := rfl
        rw [z0, c0n, w32_n1 b4, xlshl_n b5 b3, e1, x_put b6 b7 b0 b2, xbW_s] at xo
        have bl := x_below (σ := σ) q1 q6 qE
        rw [c0n, (qk 0 qE).2.1] at bl
        have pt : ∀ (what : Int) (s : xSt) (u : Int) (b : Nat), f_Fraction_part 95 what (upS (upS (upS s 95 1 (rdI u b 0)) 95 2 (rdI u b 1)) 95 0 1) = some (rdI u b what) := by
          intro what s u b
          unfold f_Fraction_part
          by_cases hw : what = 0
          · rw [if_pos hw, hw]
            rfl
          · rw [if_neg hw]
            have e : rdI u b what = rdI u b 1 := by
              unfold rdI
              rw [if_neg hw, if_neg (by decide)]
            rw [e]
            rfl
        have hX : f_X_off (m : Int) p2 σ = some (some (rdI ((nsum (dfN K E M m) E : Nat) : Int) (2 * 2 ^ m * M) p2), upS (upS (upS σ 95 1 (rdI ((nsum (dfN K E M m) E : Nat) : Int) (2 * 2 ^ m * M) 0)) 95 2 (rdI ((nsum (dfN K E M m) E : Nat) : Int) (2 * 2 ^ m * M) 1)) 95 0 1) := by
          unfold f_X_off f_Shares_tellOff
          rw [x_isWithin, if_pos hp, xbR_s, if_neg (by decide), x_isWithin, if_pos hq, xbR_s, if_neg (by decide), v1, xbR_s, if_neg (by decide), bl, xbR_s, xo, xbR_s, pt, xbR_s]
        refine ⟨_, _, hX, Fr.up (Fr.up (Fr.up Fr.rf rfl rfl) rfl rfl) rfl rfl, fun L l1 l2 l3 l4 => ?_⟩
        obtain ⟨u, u1, rfl⟩ := mtold L l2 l4
        -- the model's shares
        have sM : ShM (upS L 111 0 0) E K M := by
          obtain ⟨E', h6', hE', mE', hs'⟩ := l2.shares
          have eE : E' = E := by
            have := hE'.symm.trans ((l4 7 2 (by decide)).trans q1)
            omega
          subst eE
          refine ⟨by rw [upS_ne (by decide)]; exact mE', ?_, fun e he => ?_⟩
          · rw [upS_ne (by decide)]
            exact ((hs' 0 qE).2.2.trans (l4 15 0 (by decide))).trans (qk 0 qE).2.1
          · rw [upS_ne (by decide)]
            exact ((hs' e he).2.1.trans (l4 14 e (by decide))).trans (qk e he).1
        obtain ⟨τ', t1, t2, t3⟩ := m_layNear (n := m) q6 qE q0 q20 hK qs hm sM
        have sM2 : ShM τ' E K M := ⟨by rw [t3 113 1 (by decide) (by decide)]; exact sM.1, by rw [t3 113 29 (by decide) (by decide)]; exact sM.2.1, fun e he => by rw [t3 113 _ (by decide) (by decide)]; exact sM.2.2 e he⟩
        have mo := m_off50 sM2 q6 q0 q20 hK hm t2 (what := p2) E 1000000 0 (by omega) (by omega)
        rw [z0, c0n] at mo
        refine ⟨rdI ((nsum (dfN K E M m) E : Nat) : Int) (2 * 2 ^ m * M) p2, τ', ?_, ?_, Or.inr ⟨?_, rfl⟩⟩
        · unfold f_M_off
          rw [l1, xbR_s, m_isIn, if_pos (by omega), xbR_s, if_neg (by decide), m_isIn, if_pos (by omega), xbR_s, if_neg (by decide), u1, xbR_s, if_neg (by decide), xlet_s, t1, xbR_s, mo]
        · refine Fr.tr (Fr.up (Fr.rf (σ := L)) (rfl : upS L 111 0 0 = upS L 111 0 0) rfl) (fun a k hk => t3 a k (by
            rintro rfl
            cases hk) (by
            rintro rfl
            cases hk))
        · rw [t3 111 0 (by decide) (by decide), upS_eq]
    · refine nul ?_ (fun L l1 l2 l3 => ?_)
      · unfold f_X_off
        rw [x_isWithin, if_pos hp, xbR_s, if_neg (by decide), x_isWithin, if_neg hq, xbR_s, if_pos rfl]
      · unfold f_M_off
        rw [l1, xbR_s, m_isIn, if_pos (by omega), xbR_s, if_neg (by decide), m_isIn, if_neg (by omega), xbR_s, if_pos rfl]
  · refine nul ?_ (fun L l1 l2 l3 => ?_)
    · unfold f_X_off
      rw [x_isWithin, if_neg hp, xbR_s, if_pos rfl]
    · unfold f_M_off
      rw [l1, xbR_s, m_isIn, if_neg (by omega), xbR_s, if_pos rfl]
