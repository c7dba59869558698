/-! nearest, off: ranks of rests -/
theorem xlshl_n {a k : Nat} (hk : k ≤ 61) (h : a * 2 ^ k < 9223372036854775808) : xlshl (a : Int) (k : Int) = ((a * 2 ^ k : Nat) : Int) := by
  have h0 : (((Int32.ofInt (k : Int)).toInt64 &&& 63).toBitVec.smod 64).toNat = k := of_decide_eq_true (List.all_eq_true.mp sh_ok k (List.mem_range.mpr (by omega)))
  have ha : a ≤ a * 2 ^ k := Nat.le_mul_of_pos_right a (Nat.two_pow_pos k)
  have ha2 : a < 9223372036854775808 := by omega
  unfold xlshl
  show ((Int64.ofInt (a : Int)) <<< ((Int32.ofInt (k : Int)).toInt64 &&& 63)).toBitVec.toInt = _
  rw [Int64.toBitVec_shiftLeft]
  have h2 : ((Int64.ofInt (a : Int)).toBitVec <<< (((Int32.ofInt (k : Int)).toInt64 &&& 63).toBitVec.smod 64)).toNat = a * 2 ^ k := by
    show ((Int64.ofInt (a : Int)).toBitVec <<< (((Int32.ofInt (k : Int)).toInt64 &&& 63).toBitVec.smod 64).toNat).toNat = a * 2 ^ k
    rw [h0, BitVec.toNat_shiftLeft, i64_n ha2, Nat.shiftLeft_eq]
    exact Nat.mod_eq_of_lt (by omega)
  rw [BitVec.toInt_eq_toNat_of_lt (by rw [h2]; omega), h2]
theorem xldiv_n {a b : Nat} (ha : a < 9223372036854775808) : xldiv (a : Int) (b : Int) = ((a / b : Nat) : Int) := by
  unfold xldiv
  have h : a / b ≤ a := Nat.div_le_self a b
  rw [Int.tdiv_eq_ediv_of_nonneg (by omega), ← Int.natCast_ediv]
  generalize a / b = q at h
  exact w64_o (by omega) (by omega)
def nsum (f : Nat → Nat) : Nat → Nat
  | 0 => 0
  | n + 1 => nsum f n + f n
theorem nsum_le {f : Nat → Nat} {c : Nat} : ∀ n : Nat, (∀ i : Nat, i < n → f i ≤ c) → nsum f n ≤ n * c := by
  intro n
  induction n with
  | zero => exact fun _ => Nat.zero_le _
  | succ n ih =>
    intro h
    have h1 := ih (fun i hi => h i (by omega))
    have h2 := h n (by omega)
    have e : nsum f (n + 1) = nsum f n + f n := rfl
    rw [e, Nat.add_mul, Nat.one_mul]
    omega
theorem nsum_lt {f : Nat → Nat} {c : Nat} {n : Nat} (h0 : 0 < n) (h : ∀ i : Nat, i < n → f i < c) : nsum f n < n * c := by
  have h1 : nsum f n ≤ n * (c - 1) := nsum_le n (fun i hi => by have := h i hi; omega)
  have h2 := h 0 h0
  have h3 : n * (c - 1) + n * 1 = n * c := by rw [← Nat.mul_add]; congr 1; omega
  omega
theorem nsum_lin {K R Q : Nat → Nat} {P M : Nat} : ∀ n : Nat, (∀ i : Nat, i < n → K i * P = M * Q i + R i) → nsum K n * P = M * nsum Q n + nsum R n := by
  intro n
  induction n with
  | zero => exact fun _ => by simp [nsum]
  | succ n ih =>
    intro h
    have h1 := ih (fun i hi => h i (by omega))
    have h2 := h n (by omega)
    show (nsum K n + K n) * P = M * (nsum Q n + Q n) + (nsum R n + R n)
    rw [Nat.add_mul, Nat.mul_add, h1, h2]
    omega
theorem nsum_psum {K : Nat → Nat} {f : Nat → Int} : ∀ n : Nat, (∀ i : Nat, i < n → f i = (K i : Int)) → psum f n = (nsum K n : Int) := by
  intro n
  induction n with
  | zero => exact fun _ => rfl
  | succ n ih =>
    intro h
    have e : psum f (n + 1) = psum f n + f n := rfl
    have e2 : nsum K (n + 1) = nsum K n + K n := rfl
    rw [e, e2, ih (fun i hi => h i (by omega)), h n (by omega)]
    omega
/-- how many have it -/
def cntB (p : Nat → Bool) : Nat → Nat
  | 0 => 0
  | n + 1 => cntB p n + (if p n = true then 1 else 0)
theorem cntB_mono {p q : Nat → Bool} : ∀ n : Nat, (∀ i : Nat, i < n → p i = true → q i = true) → cntB p n ≤ cntB q n := by
  intro n
  induction n with
  | zero => exact fun _ => Nat.le_refl _
  | succ n ih =>
    intro h
    have h1 := ih (fun i hi => h i (by omega))
    have h2 := h n (by omega)
    show cntB p n + (if p n = true then 1 else 0) ≤ cntB q n + (if q n = true then 1 else 0)
    by_cases hp : p n = true
    · rw [if_pos hp, if_pos (h2 hp)]
      omega
    · rw [if_neg hp]
      omega
theorem cntB_strict {p q : Nat → Bool} {x : Nat} (hq : q x = true) (hp : p x ≠ true) : ∀ n : Nat, x < n → (∀ i : Nat, i < n → p i = true → q i = true) → cntB p n + 1 ≤ cntB q n := by
  intro n
  induction n with
  | zero => exact fun h => absurd h (Nat.not_lt_zero _)
  | succ n ih =>
    intro hx h
    show cntB p n + (if p n = true then 1 else 0) + 1 ≤ cntB q n + (if q n = true then 1 else 0)
    by_cases he : x = n
    · have h1 := cntB_mono (p := p) (q := q) n (fun i hi => h i (by omega))
      rw [← he, if_neg hp, if_pos hq]
      rw [← he] at h1
      omega
    · have h1 := ih (by omega) (fun i hi => h i (by omega))
      by_cases hp2 : p n = true
      · rw [if_pos hp2, if_pos (h n (by omega) hp2)]
        omega
      · rw [if_neg hp2]
        omega
theorem cntB_le {p : Nat → Bool} : ∀ n : Nat, cntB p n ≤ n := by
  intro n
  induction n with
  | zero => exact Nat.le_refl _
  | succ n ih =>
    show cntB p n + (if p n = true then 1 else 0) ≤ n + 1
    split <;> omega
theorem cntB_all {p : Nat → Bool} : ∀ n : Nat, (∀ i : Nat, i < n → p i = true) → cntB p n = n := by
  intro n
  induction n with
  | zero => exact fun _ => rfl
  | succ n ih =>
    intro h
    show cntB p n + (if p n = true then 1 else 0) = n + 1
    rw [ih (fun i hi => h i (by omega)), if_pos (h n (by omega))]
theorem cntB_add {p : Nat → Bool} {b : Nat} (hb : p b ≠ true) : ∀ n : Nat, cntB (fun i => p i || Nat.beq i b) n = cntB p n + (if b < n then 1 else 0) := by
  intro n
  induction n with
  | zero => rfl
  | succ n ih =>
    show cntB (fun i => p i || Nat.beq i b) n + (if (p n || Nat.beq n b) = true then 1 else 0) = cntB p n + (if p n = true then 1 else 0) + (if b < n + 1 then 1 else 0)
    rw [ih]
    by_cases he : n = b
    · rw [he, Nat.beq_refl, Bool.or_true, if_pos rfl, if_neg (by omega), if_neg hb, if_pos (by omega)]
    · have e : Nat.beq n b = false := by
        cases hz : Nat.beq n b with
        | false => rfl
        | true => exact absurd (Nat.eq_of_beq_eq_true hz) he
      rw [e, Bool.or_false]
      by_cases hl : b < n
      · rw [if_pos hl, if_pos (show b < n + 1 by omega)]
        omega
      · rw [if_neg hl, if_neg (show ¬ b < n + 1 by omega)]
        omega
/-- o stands ahead of e -/
def ah (R : Nat → Nat) (o e : Nat) : Bool := decide (R e < R o ∨ R o = R e ∧ o < e)
theorem ah_of {R : Nat → Nat} {o e : Nat} : ah R o e = true ↔ R e < R o ∨ R o = R e ∧ o < e := decide_eq_true_iff
/-- first come those of the lesser ranks -/
theorem rank_ok {R : Nat → Nat} {pk : Nat → Bool} {E T : Nat} (hc : cntB pk E = T) (hd : ∀ o e : Nat, o < E → e < E → pk e = true → ah R o e = true → pk o = true) {e : Nat} (he : e < E) : pk e = true ↔ cntB (fun o => ah R o e) E < T := by
  constructor
  · intro hp
    have h1 := cntB_strict (p := fun o => ah R o e) (q := pk) (x := e) hp (by
      show ah R e e ≠ true
      rw [ne_eq, ah_of]
      omega) E he (fun i hi hi2 => hd i e hi he hp hi2)
    omega
  · intro hr
    cases hp : pk e with
    | true => rfl
    | false =>
      have h1 := cntB_mono (p := pk) (q := fun o => ah R o e) E (fun i hi hi2 => by
        show ah R i e = true
        cases hz : ah R i e with
        | true => rfl
        | false =>
          have hne : i ≠ e := fun z => by
            rw [z, hp] at hi2
            cases hi2
          have h2 : ah R e i = true := by
            rw [ah_of]
            have h3 : ¬ (R e < R i ∨ R i = R e ∧ i < e) := fun z => by
              rw [ah_of.mpr z] at hz
              cases hz
            omega
          rw [hd e i he hi hi2 h2] at hp
          cases hp)
      omega
def ShX (σ : xSt) (E : Nat) (K : Nat → Nat) (M : Nat) : Prop := σ 7 2 = (E : Int) ∧ E ≤ 6 ∧ 0 < E ∧ 0 < M ∧ M ≤ 20 ∧ nsum K E = M ∧ ∀ e : Nat, e < E → σ 14 e = (K e : Int) ∧ σ 15 e = (M : Int) ∧ K e ≤ M
def ShM (τ : xSt) (E : Nat) (K : Nat → Nat) (M : Nat) : Prop := τ 113 1 = (E : Int) ∧ τ 113 29 = (M : Int) ∧ ∀ e : Nat, e < E → τ 113 (28 + 2 * e) = (K e : Int)
theorem kp_lt {k m n : Nat} (hk : k ≤ m) (hm : m ≤ 20) (hn : n ≤ 40) : k * 2 ^ n < 30000000000000 := by
  have h1 : 2 ^ n ≤ 2 ^ 40 := Nat.pow_le_pow_right (by decide) hn
  have h2 : (2 : Nat) ^ 40 = 1099511627776 := by decide
  have h3 : k * 2 ^ n ≤ 20 * 2 ^ 40 := Nat.mul_le_mul (by omega) h1
  omega
theorem x_restOf {σ : xSt} {E M : Nat} {K : Nat → Nat} (h : ShX σ E K M) {e n : Nat} (he : e < E) (hn : n ≤ 40) : f_Shares_restOf (n : Int) (e : Int) σ = some ((K e * 2 ^ n % M : Nat) : Int) := by
  obtain ⟨h1, h6, -, h0, h20, -, hs⟩ := h
  obtain ⟨a1, a2, a3⟩ := hs e he
  have b := kp_lt a3 h20 hn
  unfold f_Shares_restOf
  rw [x_below h1 h6 he, xbR_s, a2, if_neg (by omega), x_above h1 h6 he, xbR_s, a1, if_neg (by omega), xlshl_n (by omega) (by omega), xlrem_nat h0 (by omega)]
theorem x_open18 {σ : xSt} {E M : Nat} {K : Nat → Nat} (h : ShX σ E K M) {n : Nat} (hn : n ≤ 40) : ∀ (j fu e : Nat), e + j = E → j < fu → f_Shares_openRows_18 fu (n : Int) (M : Int) ((nsum (fun i => K i * 2 ^ n % M) e : Nat) : Int) (e : Int) σ = some ((nsum (fun i => K i * 2 ^ n % M) E / M : Nat) : Int) := by
  have hh := h
  obtain ⟨h1, h6, -, h0, h20, -, hs⟩ := hh
  have hb : ∀ e, e ≤ 6 → nsum (fun i => K i * 2 ^ n % M) e ≤ 120 := fun e he => by
    have := nsum_le (f := fun i => K i * 2 ^ n % M) (c := 20) e (fun i _ => by have := Nat.mod_lt (K i * 2 ^ n) h0; show K i * 2 ^ n % M ≤ 20; omega)
    omega
  intro j
  induction j with
  | zero =>
    intro fu e g1 g2
    obtain ⟨fu, rfl⟩ : ∃ n2, fu = n2 + 1 := ⟨fu - 1, by omega⟩
    obtain rfl : e = E := by omega
    have b := hb e h6
    rw [f_Shares_openRows_18.eq_2, h1, if_neg (by omega), if_neg (by omega), xldiv_n (by omega)]
  | succ j ih =>
    intro fu e g1 g2
    obtain ⟨fu, rfl⟩ : ∃ n2, fu = n2 + 1 := ⟨fu - 1, by omega⟩
    have b := hb e (by omega)
    have c := Nat.mod_lt (K e * 2 ^ n) h0
    have b3 : e < 100000 := by omega
    have he : (e : Int) < (E : Int) := by omega
    rw [f_Shares_openRows_18.eq_2, h1, if_pos he, x_restOf h (by omega) hn, xbR_s, w64_add (by omega), xlet_s, w32_n1 b3, xlet_s]
    exact ih fu (e + 1) (by omega) (by omega)
theorem x_openRows {σ : xSt} {E M : Nat} {K : Nat → Nat} (h : ShX σ E K M) {n : Nat} (hn : n ≤ 40) : f_Shares_openRows (n : Int) σ = some ((nsum (fun i => K i * 2 ^ n % M) E / M : Nat) : Int) := by
  have h1 := x_open18 h hn E 1000000 0 (by omega) (by have := h.2.1; omega)
  obtain ⟨h2, h6, hE, h0, h20, -, hs⟩ := h
  have b := x_below (σ := σ) h2 h6 hE
  rw [c0n, (hs 0 hE).2.1] at b
  have h1 : f_Shares_openRows_18 1000000 (n : Int) (M : Int) 0 0 σ = some ((nsum (fun i => K i * 2 ^ n % M) E / M : Nat) : Int) := h1
  unfold f_Shares_openRows
  rw [b, xbR_s, if_neg (by omega), h1]
/-- rows that END e has -/
def nrN (K : Nat → Nat) (E M n e : Nat) : Nat := K e * 2 ^ n / M + (if cntB (fun o => ah (fun i => K i * 2 ^ n % M) o e) E < nsum (fun i => K i * 2 ^ n % M) E / M then 1 else 0)
theorem x_near27 {σ : xSt} {E M : Nat} {K : Nat → Nat} (h : ShX σ E K M) {n e : Nat} (he : e < E) (hn : n ≤ 20) : ∀ (j fu i : Nat), i + j = E → j < fu → f_Shares_nearestRows_27 fu (n : Int) (e : Int) (M : Int) ((cntB (fun o => ah (fun i => K i * 2 ^ n % M) o e) i : Nat) : Int) ((K e * 2 ^ n % M : Nat) : Int) (i : Int) σ = some ((nrN K E M n e : Nat) : Int) := by
  have hh := h
  obtain ⟨h1, h6, -, h0, h20, -, hs⟩ := hh
  obtain ⟨a1, a2, a3⟩ := hs e he
  have kb := kp_lt a3 h20 (n := n) (by omega)
  have pw : 2 ^ n ≤ 1048576 := by
    have h1 : 2 ^ n ≤ 2 ^ 20 := Nat.pow_le_pow_right (by decide) hn
    have h2 : (2 : Nat) ^ 20 = 1048576 := by decide
    omega
  have qb : K e * 2 ^ n / M ≤ 20971520 := by
    have h3 : K e * 2 ^ n ≤ 20 * 1048576 := Nat.mul_le_mul (by omega) pw
    have h4 := Nat.div_le_self (K e * 2 ^ n) M
    omega
  intro j
  induction j with
  | zero =>
    intro fu i g1 g2
    obtain ⟨fu, rfl⟩ : ∃ n2, fu = n2 + 1 := ⟨fu - 1, by omega⟩
    obtain rfl : i = E := by omega
    rw [f_Shares_nearestRows_27.eq_2, h1, if_neg (by omega), x_above h1 h6 he, xbR_s, a1, if_neg (by omega), xlshl_n (by omega) (by omega), xldiv_n (by omega), xlet_s, x_openRows h (by omega), xbR_s]
    unfold nrN
    generalize K e * 2 ^ n / M = Q at qb
    by_cases hc : cntB (fun o => ah (fun i => K i * 2 ^ n % M) o e) i < nsum (fun i => K i * 2 ^ n % M) i / M
    · rw [if_pos (xlc_lt.mpr (by omega)), if_pos hc]
      have e1 : ((Q : Nat) : Int) + 1 = ((Q + 1 : Nat) : Int) := by omega
      rw [e1, w64_o (by omega) (by omega), w32_o (by omega) (by omega)]
    · rw [if_neg (fun z => hc (by have := xlc_lt.mp z; omega)), if_neg hc, Nat.add_zero, w32_o (by omega) (by omega)]
  | succ j ih =>
    intro fu i g1 g2
    obtain ⟨fu, rfl⟩ : ∃ n2, fu = n2 + 1 := ⟨fu - 1, by omega⟩
    have b3 : i < 100000 := by omega
    have hi : (i : Int) < (E : Int) := by omega
    have cb := cntB_le (p := fun o => ah (fun i => K i * 2 ^ n % M) o e) i
    have b4 : cntB (fun o => ah (fun i => K i * 2 ^ n % M) o e) i < 100000 := by omega
    have ih2 := ih fu (i + 1) (by omega) (by omega)
    have cs : cntB (fun o => ah (fun i => K i * 2 ^ n % M) o e) (i + 1) = cntB (fun o => ah (fun i => K i * 2 ^ n % M) o e) i + (if ah (fun i => K i * 2 ^ n % M) i e = true then 1 else 0) := rfl
    rw [f_Shares_nearestRows_27.eq_2, h1, if_pos hi, x_restOf h (by omega) (by omega), xbR_s]
    by_cases q1 : K e * 2 ^ n % M < K i * 2 ^ n % M
    · have ha : ah (fun i => K i * 2 ^ n % M) i e = true := ah_of.mpr (Or.inl q1)
      rw [cs, if_pos ha] at ih2
      rw [if_pos (xlc_gt.mpr (by omega)), w32_n1 b4, xlet_s, w32_n1 b3, xlet_s]
      exact ih2
    · rw [if_neg (fun z => q1 (by have := xlc_gt.mp z; omega))]
      by_cases q2 : K i * 2 ^ n % M = K e * 2 ^ n % M
      · rw [if_pos (xlc_eq.mpr (by omega))]
        by_cases q3 : i < e
        · have ha : ah (fun i => K i * 2 ^ n % M) i e = true := ah_of.mpr (Or.inr ⟨q2, q3⟩)
          rw [cs, if_pos ha] at ih2
          rw [if_pos (by omega), w32_n1 b4, xlet_s, w32_n1 b3, xlet_s]
          exact ih2
        · have ha : ¬ ah (fun i => K i * 2 ^ n % M) i e = true := fun z => by
            have := ah_of.mp z
            omega
          rw [cs, if_neg ha, Nat.add_zero] at ih2
          rw [if_neg (by omega), w32_n1 b3, xlet_s]
          exact ih2
      · have ha : ¬ ah (fun i => K i * 2 ^ n % M) i e = true := fun z => by
          have := ah_of.mp z
          omega
        rw [cs, if_neg ha, Nat.add_zero] at ih2
        rw [if_neg (fun z => q2 (by have := xlc_eq.mp z; omega)), w32_n1 b3, xlet_s]
        exact ih2
theorem x_nearestRows {σ : xSt} {E M : Nat} {K : Nat → Nat} (h : ShX σ E K M) {n e : Nat} (he : e < E) (hn : n ≤ 20) : f_Shares_nearestRows (n : Int) (e : Int) σ = some ((nrN K E M n e : Nat) : Int) := by
  have h6 := h.2.1
  have h1 := x_near27 h he hn E 1000000 0 (by omega) (by omega)
  have hr := x_restOf h he (n := n) (by omega)
  obtain ⟨h2, -, hE, h0, h20, -, hs⟩ := h
  have b := x_below (σ := σ) h2 h6 he
  rw [(hs e he).2.1] at b
  have h1 : f_Shares_nearestRows_27 1000000 (n : Int) (e : Int) (M : Int) 0 ((K e * 2 ^ n % M : Nat) : Int) 0 σ = some ((nrN K E M n e : Nat) : Int) := h1
  unfold f_Shares_nearestRows
  rw [b, xbR_s, if_neg (by omega), hr, xbR_s, h1]
