/-! fractions in least terms; powers -/
theorem xlc_lt {a b : Int} : xlc a b < 0 ↔ a < b := by
  unfold xlc
  (repeat' split) <;> omega
theorem xlc_eq {a b : Int} : xlc a b = 0 ↔ a = b := by
  unfold xlc
  (repeat' split) <;> omega
theorem xlc_gt {a b : Int} : 0 < xlc a b ↔ b < a := by
  unfold xlc
  (repeat' split) <;> omega
theorem w64_o {x : Int} (h1 : -9223372036854775808 ≤ x) (h2 : x < 9223372036854775808) : w64 x = x := w64_id ⟨h1, h2⟩
theorem xlrem_nat {a b : Nat} (hb : 0 < b) (ha2 : a < 9223372036854775808) : xlrem (a : Int) (b : Int) = ((a % b : Nat) : Int) := by
  unfold xlrem xldiv
  have h1 : ((a : Int).tdiv (b : Int)) = ((a / b : Nat) : Int) := by
    rw [Int.tdiv_eq_ediv_of_nonneg (by omega)]
    exact (Int.natCast_ediv a b).symm
  have h2 : a / b * b ≤ a := Nat.div_mul_le_self a b
  have h3 : a / b ≤ a := Nat.div_le_self a b
  have h4 : a / b * b + a % b = a := Nat.div_add_mod' a b
  rw [h1]
  generalize a / b = q at h1 h2 h3 h4
  generalize a % b = r at h4
  rw [w64_o (x := ((q : Nat) : Int)) (by omega) (by omega)]
  have h5 : (((q : Nat) : Int) * (b : Int)) = ((q * b : Nat) : Int) := (Int.natCast_mul _ _).symm
  rw [h5]
  generalize q * b = m at h2 h4
  rw [w64_o (x := ((m : Nat) : Int)) (by omega) (by omega), w64_o (by omega) (by omega)]
  omega
theorem gcd_half {a b t : Nat} (hb : 0 < b) (hr : 0 < a % b) (h : b < 2 ^ (t + 1)) : b % (a % b) < 2 ^ t := by
  have h1 : a % b < b := Nat.mod_lt _ hb
  have h2 : b % (a % b) < a % b := Nat.mod_lt _ hr
  have h3 : a % b * (b / (a % b)) + b % (a % b) = b := Nat.div_add_mod b (a % b)
  have h4 : 1 ≤ b / (a % b) := (Nat.one_le_div_iff hr).mpr (by omega)
  have h5 : a % b * 1 ≤ a % b * (b / (a % b)) := Nat.mul_le_mul_left _ h4
  rw [Nat.pow_succ] at h
  omega
/-- the class's loop of 200 turns is long enough -/
theorem x_common9 {σ : xSt} : ∀ (t n a b : Nat) (i : Int), b < 2 ^ t → a < 9223372036854775808 → b < 9223372036854775808 → 2 * t + 2 ≤ n → 0 ≤ i → i + 2 * (t : Int) + 1 ≤ 200 → f_Fraction_common_9 n (a : Int) (b : Int) i σ = some ((Nat.gcd a b : Nat) : Int) := by
  have stop : ∀ (n a : Nat) (i : Int), 0 < n → f_Fraction_common_9 n (a : Int) ((0 : Nat) : Int) i σ = some (a : Int) := by
    intro n a i hn
    obtain ⟨n, rfl⟩ : ∃ n2, n = n2 + 1 := ⟨n - 1, by omega⟩
    unfold f_Fraction_common_9
    have h0 : ¬ 0 < xlc ((0 : Nat) : Int) 0 := by rw [xlc_gt]; omega
    rw [if_neg h0]
    split <;> rfl
  have step : ∀ (n a b : Nat) (i : Int), 0 < b → a < 9223372036854775808 → 0 ≤ i → i < 200 → f_Fraction_common_9 (n + 1) (a : Int) (b : Int) i σ = f_Fraction_common_9 n (b : Int) ((a % b : Nat) : Int) (i + 1) σ := by
    intro n a b i hb ha h0 h1
    rw [f_Fraction_common_9.eq_2]
    have h2 : 0 < xlc (b : Int) 0 := by rw [xlc_gt]; omega
    rw [if_pos h1, if_pos h2, if_neg (by omega), xlrem_nat hb ha, w32_o (by omega) (by omega)]
    rfl
  intro t
  induction t with
  | zero =>
    intro n a b i hb ha _ hn h0 h1
    have hb0 : b = 0 := by
      have : (2 : Nat) ^ 0 = 1 := rfl
      omega
    subst hb0
    rw [stop n a i (by omega), Nat.gcd_zero_right]
  | succ t ih =>
    intro n a b i hb ha hb63 hn h0 h1
    by_cases hb0 : b = 0
    · subst hb0
      rw [stop n a i (by omega), Nat.gcd_zero_right]
    obtain ⟨n, rfl⟩ : ∃ n2, n = n2 + 1 := ⟨n - 1, by omega⟩
    have hb1 : 0 < b := by omega
    rw [step n a b i hb1 ha h0 (by omega)]
    have hg : Nat.gcd a b = Nat.gcd b (a % b) := by rw [Nat.gcd_comm, Nat.gcd_rec b a, Nat.gcd_comm]
    by_cases hr : a % b = 0
    · rw [hg, hr, stop n b _ (by omega), Nat.gcd_zero_right]
    · obtain ⟨n, rfl⟩ : ∃ n2, n = n2 + 1 := ⟨n - 1, by omega⟩
      have hr1 : 0 < a % b := by omega
      have hlt : a % b < b := Nat.mod_lt _ hb1
      rw [step n b (a % b) (i + 1) hr1 hb63 (by omega) (by omega)]
      have hg2 : Nat.gcd b (a % b) = Nat.gcd (a % b) (b % (a % b)) := by rw [Nat.gcd_comm b, Nat.gcd_rec (a % b) b, Nat.gcd_comm]
      have hlt2 : b % (a % b) < a % b := Nat.mod_lt _ hr1
      rw [hg, hg2]
      exact ih n (a % b) (b % (a % b)) (i + 1 + 1) (gcd_half hb1 hr1 hb) (by omega) (by omega) (by omega) (by omega) (by omega)
theorem x_common {σ : xSt} {a b : Nat} (ha : a < 9223372036854775808) (hb : b < 9223372036854775808) : f_Fraction_common (a : Int) (b : Int) σ = some ((Nat.gcd a b : Nat) : Int) := by
  unfold f_Fraction_common
  exact x_common9 63 1000000 a b 0 (by omega) ha hb (by omega) (by omega) (by omega)
theorem m_common17 {σ : xSt} : ∀ (t n a b : Nat), b < 2 ^ t → a < 9223372036854775808 → b < 9223372036854775808 → 2 * t + 2 ≤ n → f_M_common_17 n (a : Int) (b : Int) σ = some ((Nat.gcd a b : Nat) : Int) := by
  have stop : ∀ (n a : Nat), 0 < n → f_M_common_17 n (a : Int) ((0 : Nat) : Int) σ = some (a : Int) := by
    intro n a hn
    obtain ⟨n, rfl⟩ : ∃ n2, n = n2 + 1 := ⟨n - 1, by omega⟩
    unfold f_M_common_17
    have h0 : xlc ((0 : Nat) : Int) 0 = 0 := by rw [xlc_eq]; rfl
    have h1 : ¬ xlc (a : Int) 0 < 0 := by rw [xlc_lt]; omega
    rw [if_pos h0, if_neg h1]
  have step : ∀ (n a b : Nat), 0 < b → a < 9223372036854775808 → f_M_common_17 (n + 1) (a : Int) (b : Int) σ = f_M_common_17 n (b : Int) ((a % b : Nat) : Int) σ := by
    intro n a b hb ha
    rw [f_M_common_17.eq_2]
    have h2 : ¬ xlc (b : Int) 0 = 0 := by rw [xlc_eq]; omega
    rw [if_neg h2, if_neg (by omega), xlrem_nat hb ha]
    rfl
  intro t
  induction t with
  | zero =>
    intro n a b hb ha _ hn
    have hb0 : b = 0 := by
      have : (2 : Nat) ^ 0 = 1 := rfl
      omega
    subst hb0
    rw [stop n a (by omega), Nat.gcd_zero_right]
  | succ t ih =>
    intro n a b hb ha hb63 hn
    by_cases hb0 : b = 0
    · subst hb0
      rw [stop n a (by omega), Nat.gcd_zero_right]
    obtain ⟨n, rfl⟩ : ∃ n2, n = n2 + 1 := ⟨n - 1, by omega⟩
    have hb1 : 0 < b := by omega
    rw [step n a b hb1 ha]
    have hg : Nat.gcd a b = Nat.gcd b (a % b) := by rw [Nat.gcd_comm, Nat.gcd_rec b a, Nat.gcd_comm]
    by_cases hr : a % b = 0
    · rw [hg, hr, stop n b (by omega), Nat.gcd_zero_right]
    · obtain ⟨n, rfl⟩ : ∃ n2, n = n2 + 1 := ⟨n - 1, by omega⟩
      have hr1 : 0 < a % b := by omega
      have hlt : a % b < b := Nat.mod_lt _ hb1
      rw [step n b (a % b) hr1 hb63]
      have hg2 : Nat.gcd b (a % b) = Nat.gcd (a % b) (b % (a % b)) := by rw [Nat.gcd_comm b, Nat.gcd_rec (a % b) b, Nat.gcd_comm]
      have hlt2 : b % (a % b) < a % b := Nat.mod_lt _ hr1
      rw [hg, hg2]
      exact ih n (a % b) (b % (a % b)) (gcd_half hb1 hr1 hb) (by omega) (by omega) (by omega)
/-- a fraction's part: 0 above, else below -/
def rdI (u : Int) (b : Nat) (what : Int) : Int := (if what = 0 then u else (b : Int)).tdiv ((Nat.gcd u.natAbs b : Nat) : Int)
theorem m_part {σ : xSt} {u : Int} {b : Nat} {what : Int} (hu1 : -9223372036854775808 < u) (hu2 : u < 9223372036854775808) (hb : 0 < b) (hb2 : b < 9223372036854775808) : f_M_part u (b : Int) what σ = some (rdI u b what) := by
  have hc : f_M_common u (b : Int) σ = some ((Nat.gcd u.natAbs b : Nat) : Int) := by
    unfold f_M_common
    by_cases h0 : u < 0
    · rw [if_pos (xlc_lt.mpr h0)]
      show f_M_common_17 1000000 (w64 (-u)) (b : Int) σ = _
      rw [w64_o (by omega) (by omega), show (-u : Int) = ((u.natAbs : Nat) : Int) by omega]
      exact m_common17 63 1000000 u.natAbs b (by omega) (by omega) (by omega) (by omega)
    · rw [if_neg (fun z => h0 (xlc_lt.mp z))]
      have e : u = ((u.natAbs : Nat) : Int) := by omega
      have h1 := m_common17 (σ := σ) 63 1000000 u.natAbs b (by omega) (by omega) (by omega) (by omega)
      rw [← e] at h1
      exact h1
  have hg : 0 < Nat.gcd u.natAbs b := Nat.gcd_pos_of_pos_right _ hb
  have hdiv : ∀ s : Int, -9223372036854775808 < s → s < 9223372036854775808 → xldiv s ((Nat.gcd u.natAbs b : Nat) : Int) = s.tdiv ((Nat.gcd u.natAbs b : Nat) : Int) := by
    intro s h1 h2
    unfold xldiv
    have h3 : (s.tdiv ((Nat.gcd u.natAbs b : Nat) : Int)).natAbs ≤ s.natAbs := by
      rw [Int.natAbs_tdiv]
      exact Nat.div_le_self _ _
    exact w64_o (by omega) (by omega)
  unfold f_M_part f_M_part_10 rdI
  simp only [hc, xbR]
  have hg2 : ¬ ((Nat.gcd u.natAbs b : Nat) : Int) = 0 := by omega
  by_cases h0 : what = 0
  · rw [if_pos h0, if_pos h0, if_neg hg2, hdiv u hu1 hu2]
  · rw [if_neg h0, if_neg h0, if_neg hg2, hdiv (b : Int) (by omega) (by omega)]
theorem x_put {σ : xSt} {a0 : Nat} {u : Int} {b : Nat} (hu1 : -9223372036854775808 < u) (hu2 : u < 9223372036854775808) (hb : 0 < b) (hb2 : b < 9223372036854775808) :
    f_Fraction_put a0 u (b : Int) σ = some (1, upS (upS (upS σ a0 1 (rdI u b 0)) a0 2 (rdI u b 1)) a0 0 1) := by
  have hg : 0 < Nat.gcd u.natAbs b := Nat.gcd_pos_of_pos_right _ hb
  have hgb : Nat.gcd u.natAbs b ≤ b := Nat.le_of_dvd hb (Nat.gcd_dvd_right _ _)
  have hdiv : ∀ s : Int, -9223372036854775808 < s → s < 9223372036854775808 → xldiv s ((Nat.gcd u.natAbs b : Nat) : Int) = s.tdiv ((Nat.gcd u.natAbs b : Nat) : Int) := by
    intro s h1 h2
    unfold xldiv
    have h3 : (s.tdiv ((Nat.gcd u.natAbs b : Nat) : Int)).natAbs ≤ s.natAbs := by
      rw [Int.natAbs_tdiv]
      exact Nat.div_le_self _ _
    exact w64_o (by omega) (by omega)
  have hl : xlabs u = ((u.natAbs : Nat) : Int) := by
    unfold xlabs
    by_cases h0 : 0 < u
    · rw [if_pos h0]
      omega
    · rw [if_neg h0, w64_o (by omega) (by omega)]
      omega
  unfold f_Fraction_put
  rw [if_neg (fun z => by have := xlc_lt.mp z; omega), hl]
  simp only [x_common (σ := σ) (a := u.natAbs) (b := b) (by omega) hb2, xbR, xlet]
  rw [if_neg (fun z => by have := xlc_lt.mp z; omega), if_neg (by omega), if_neg (by omega), hdiv u hu1 hu2, hdiv (b : Int) (by omega) (by omega)]
  rfl
theorem x_told {σ : xSt} {u : Int} {b : Nat} {what : Int} (hu1 : -9223372036854775808 < u) (hu2 : u < 9223372036854775808) (hb : 0 < b) (hb2 : b < 9223372036854775808) :
    f_X_told u (b : Int) what σ = some (rdI u b what, upS (upS (upS σ 95 1 (rdI u b 0)) 95 2 (rdI u b 1)) 95 0 1) := by
  unfold f_X_told
  rw [x_put hu1 hu2 hb hb2]
  simp only [xbW, xbR]
  unfold f_Fraction_part
  by_cases h0 : what = 0
  · rw [if_pos h0, h0]
    rfl
  · rw [if_neg h0]
    have e : rdI u b what = rdI u b 1 := by
      unfold rdI
      rw [if_neg h0, if_neg (by decide)]
    rw [e]
    rfl
theorem pow5 {f : Nat → Int → Int → Int → Int → xSt → Option Int} {σ : xSt} (hf : ∀ n (l0 l2 l3 l5 : Int), f (n + 1) l0 l2 l3 l5 σ = if l5 < l2 then f n l0 l2 (w64 (l3 * l0)) (w32 (l5 + 1)) σ else some l3) :
    ∀ (r n b v i : Nat), r < n → i + r ≤ 1000 → v * b ^ r < 9223372036854775808 → f n (b : Int) ((i + r : Nat) : Int) (v : Int) (i : Int) σ = some ((v * b ^ r : Nat) : Int) := by
  intro r
  induction r with
  | zero =>
    intro n b v i hn hi hv
    obtain ⟨n, rfl⟩ : ∃ n2, n = n2 + 1 := ⟨n - 1, by omega⟩
    rw [hf, if_neg (by omega)]
    simp
  | succ r ih =>
    intro n b v i hn hi hv
    obtain ⟨n, rfl⟩ : ∃ n2, n = n2 + 1 := ⟨n - 1, by omega⟩
    have h1 : v * b ^ (r + 1) = v * b * b ^ r := by rw [Nat.pow_succ, Nat.mul_comm (b ^ r) b, Nat.mul_assoc]
    have h2 : v * b ≤ v * b ^ (r + 1) := Nat.mul_le_mul_left v (Nat.le_self_pow (by omega) b)
    rw [hf, if_pos (by omega), w32_o (x := (i : Int) + 1) (by omega) (by omega)]
    have h3 : w64 ((v : Int) * (b : Int)) = ((v * b : Nat) : Int) := by
      rw [← Int.natCast_mul]
      exact w64_o (by omega) (by omega)
    rw [h3, h1]
    have h4 := ih n b (v * b) (i + 1) (by omega) (by omega) (by omega)
    rw [show i + 1 + r = i + (r + 1) by omega] at h4
    exact h4
theorem x_power {σ : xSt} {b n : Nat} (hn : n ≤ 1000) (h : b ^ n < 9223372036854775808) : f_Fraction_power (b : Int) (n : Int) σ = some ((b ^ n : Nat) : Int) := by
  have h1 := pow5 (f := f_Fraction_power_5) (σ := σ) (fun n l0 l2 l3 l5 => rfl) n 1000000 b 1 0 (by omega) (by omega) (by omega)
  rw [Nat.zero_add, Nat.one_mul] at h1
  exact h1
theorem m_power {σ : xSt} {b n : Nat} (hn : n ≤ 1000) (h : b ^ n < 9223372036854775808) : f_M_power (b : Int) (n : Int) σ = some ((b ^ n : Nat) : Int) := by
  have h1 := pow5 (f := f_M_power_5) (σ := σ) (fun n l0 l2 l3 l5 => rfl) n 1000000 b 1 0 (by omega) (by omega) (by omega)
  rw [Nat.zero_add, Nat.one_mul] at h1
  exact h1
