/-! fewest -/
theorem nsum_add {f g : Nat → Nat} : ∀ n : Nat, nsum (fun i => f i + g i) n = nsum f n + nsum g n := by
  intro n
  induction n with
  | zero => rfl
  | succ n ih =>
    show nsum (fun i => f i + g i) n + (f n + g n) = nsum f n + f n + (nsum g n + g n)
    rw [ih]
    omega
theorem nsum_mul {f : Nat → Nat} {c : Nat} : ∀ n : Nat, nsum (fun i => c * f i) n = c * nsum f n := by
  intro n
  induction n with
  | zero => rfl
  | succ n ih =>
    show nsum (fun i => c * f i) n + c * f n = c * (nsum f n + f n)
    rw [ih, Nat.mul_add]
theorem nsum_cg {f g : Nat → Nat} : ∀ n : Nat, (∀ i : Nat, i < n → f i = g i) → nsum f n = nsum g n := by
  intro n
  induction n with
  | zero => exact fun _ => rfl
  | succ n ih =>
    intro h
    show nsum f n + f n = nsum g n + g n
    rw [ih (fun i hi => h i (by omega)), h n (by omega)]
theorem nsum_zero : ∀ n : Nat, nsum (fun _ => 0) n = 0 := by
  intro n
  induction n with
  | zero => rfl
  | succ n ih => exact ih
/-- sums change places -/
theorem nsum_swap {op : Nat → Nat} {R : Nat → Nat → Nat} {c : Nat → Nat} {M E : Nat} (h : ∀ i, M * op i = nsum (R i) E) : ∀ n : Nat, M * nsum (fun i => op i * c i) n = nsum (fun e => nsum (fun i => R i e * c i) n) E := by
  intro n
  induction n with
  | zero => exact (nsum_zero E).symm
  | succ n ih =>
    show M * (nsum (fun i => op i * c i) n + op n * c n) = nsum (fun e => nsum (fun i => R i e * c i) n + R n e * c n) E
    have e1 : nsum (fun e => R n e * c n) E = c n * nsum (R n) E := by
      rw [← nsum_mul]
      exact nsum_cg E (fun i _ => Nat.mul_comm _ _)
    rw [nsum_add, Nat.mul_add, ih, e1, ← Nat.mul_assoc, h n, Nat.mul_comm (c n)]
/-- twice, and the next -/
def hor (op : Nat → Nat) : Nat → Nat
  | 0 => 0
  | n + 1 => 2 * hor op n + op n
theorem hor_swap {op : Nat → Nat} {R : Nat → Nat → Nat} {M E : Nat} (h : ∀ i, M * op i = nsum (R i) E) : ∀ n : Nat, M * hor op n = nsum (fun e => hor (fun i => R i e) n) E := by
  intro n
  induction n with
  | zero => exact (nsum_zero E).symm
  | succ n ih =>
    show M * (2 * hor op n + op n) = nsum (fun e => 2 * hor (fun i => R i e) n + R n e) E
    rw [nsum_add (f := fun e => 2 * hor (fun i => R i e) n) (g := fun e => R n e), nsum_mul (f := fun e => hor (fun i => R i e) n), ← ih, Nat.mul_add, ← Nat.mul_assoc, Nat.mul_comm M 2, Nat.mul_assoc, h n]
theorem hor_le {op : Nat → Nat} (h : ∀ i, op i ≤ 6) : ∀ n : Nat, hor op n + 6 ≤ 6 * 2 ^ n := by
  intro n
  induction n with
  | zero => exact Nat.le_refl _
  | succ n ih =>
    have := h n
    show 2 * hor op n + op n + 6 ≤ 6 * 2 ^ (n + 1)
    rw [Nat.pow_succ]
    omega
/-- the odd part, and how many twos -/
def oddN (M : Nat) : Nat := if M % 2 = 1 then M else if M / 2 % 2 = 1 then M / 2 else if M / 4 % 2 = 1 then M / 4 else if M / 8 % 2 = 1 then M / 8 else M / 16
def twoN (M : Nat) : Nat := if M % 2 = 1 then 0 else if M / 2 % 2 = 1 then 1 else if M / 4 % 2 = 1 then 2 else if M / 8 % 2 = 1 then 3 else 4
def pS : Nat → Nat → Nat → Nat → Option Nat
  | 0, _, _, _ => none
  | f + 1, o, v, k => if v = 1 % o then some k else pS f o (2 * v % o) (k + 1)
def perN (M : Nat) : Nat := (pS 20 (oddN M) (2 % oddN M) 1).getD 0
def fewOk (M : Nat) : Bool := decide (oddN M * 2 ^ twoN M = M ∧ oddN M % 2 = 1 ∧ oddN M ≤ 19 ∧ twoN M ≤ 4 ∧ pS 20 (oddN M) (2 % oddN M) 1 = some (perN M) ∧ 1 ≤ perN M ∧ perN M ≤ 18) &&
  (List.range (M + 1)).all (fun k => Nat.beq (16 * (nsum (fun i => k * 2 ^ i % M * (2 ^ (twoN M - i) * (2 ^ perN M - 1))) (twoN M) + nsum (fun j => k * 2 ^ (twoN M + j) % M * 2 ^ (perN M - j)) (perN M))) ((hor (fun i => k * 2 ^ i % M) 5 * (2 ^ perN M - 1) + hor (fun i => k * 2 ^ (5 + i) % M) (perN M)) * 2 ^ twoN M))
theorem few_all : (List.range 20).all (fun m => fewOk (m + 1)) = true := by decide +kernel
theorem few_ok {M : Nat} (h0 : 0 < M) (h20 : M ≤ 20) : fewOk M = true := by
  have h := List.all_eq_true.mp few_all (M - 1) (List.mem_range.mpr (by omega))
  rw [show M - 1 + 1 = M by omega] at h
  exact h
theorem few_nums {M : Nat} (h0 : 0 < M) (h20 : M ≤ 20) : oddN M * 2 ^ twoN M = M ∧ oddN M % 2 = 1 ∧ oddN M ≤ 19 ∧ twoN M ≤ 4 ∧ pS 20 (oddN M) (2 % oddN M) 1 = some (perN M) ∧ 1 ≤ perN M ∧ perN M ≤ 18 := of_decide_eq_true (Bool.and_eq_true_iff.mp (few_ok h0 h20)).1
theorem few_eq {M k : Nat} (h0 : 0 < M) (h20 : M ≤ 20) (hk : k ≤ M) : 16 * (nsum (fun i => k * 2 ^ i % M * (2 ^ (twoN M - i) * (2 ^ perN M - 1))) (twoN M) + nsum (fun j => k * 2 ^ (twoN M + j) % M * 2 ^ (perN M - j)) (perN M)) = (hor (fun i => k * 2 ^ i % M) 5 * (2 ^ perN M - 1) + hor (fun i => k * 2 ^ (5 + i) % M) (perN M)) * 2 ^ twoN M :=
  Nat.eq_of_beq_eq_true (List.all_eq_true.mp (Bool.and_eq_true_iff.mp (few_ok h0 h20)).2 k (List.mem_range.mpr (by omega)))
theorem bit_all : (List.range 21).all (fun k => decide (xand (k : Int) 1 = ((k % 2 : Nat) : Int) ∧ xshr (k : Int) 1 = ((k / 2 : Nat) : Int))) = true := by decide +kernel
theorem bit_ok {k : Nat} (h : k ≤ 20) : xand (k : Int) 1 = ((k % 2 : Nat) : Int) ∧ xshr (k : Int) 1 = ((k / 2 : Nat) : Int) := of_decide_eq_true (List.all_eq_true.mp bit_all k (List.mem_range.mpr (by omega)))
theorem x_few8 {σ : xSt} {o : Nat} (ho : o % 2 = 1) : ∀ (j fu i : Nat), o * 2 ^ j ≤ 20 → i + j ≤ 4 → j < fu → f_Shares_tellFewest_8 fu ((o * 2 ^ j : Nat) : Int) (i : Int) σ = f_Shares_tellFewest_29 (o : Int) ((i + j : Nat) : Int) σ := by
  intro j
  induction j with
  | zero =>
    intro fu i h1 h2 h3
    obtain ⟨fu, rfl⟩ : ∃ n2, fu = n2 + 1 := ⟨fu - 1, by omega⟩
    rw [Nat.pow_zero, Nat.mul_one] at h1 ⊢
    have hi : (i : Int) < 5 := by omega
    rw [f_Shares_tellFewest_8.eq_2, if_pos hi, (bit_ok h1).1, ho, if_neg (by decide), Nat.add_zero]
  | succ j ih =>
    intro fu i h1 h2 h3
    obtain ⟨fu, rfl⟩ : ∃ n2, fu = n2 + 1 := ⟨fu - 1, by omega⟩
    have hi : (i : Int) < 5 := by omega
    have b3 : i < 100000 := by omega
    have e1 : o * 2 ^ (j + 1) % 2 = 0 := by rw [Nat.pow_succ, ← Nat.mul_assoc, Nat.mul_mod_left]
    have e2 : o * 2 ^ (j + 1) / 2 = o * 2 ^ j := by rw [Nat.pow_succ, ← Nat.mul_assoc, Nat.mul_div_cancel _ (by decide)]
    have h4 : o * 2 ^ j ≤ 20 := by omega
    have ih2 := ih fu (i + 1) h4 (by omega) (by omega)
    rw [show i + 1 + j = i + (j + 1) by omega] at ih2
    rw [f_Shares_tellFewest_8.eq_2, if_pos hi, (bit_ok h1).1, e1, if_pos c0n, (bit_ok h1).2, e2, xlet_s, w32_n1 b3, xlet_s]
    exact ih2
theorem pS_ge : ∀ (f o v k p : Nat), pS f o v k = some p → k ≤ p := by
  intro f
  induction f with
  | zero => exact fun o v k p h => by cases h
  | succ f ih =>
    intro o v k p h
    unfold pS at h
    by_cases hv : v = 1 % o
    · rw [if_pos hv] at h
      cases h
      exact Nat.le_refl _
    · rw [if_neg hv] at h
      have := ih _ _ _ _ h
      omega
theorem x_per13 {σ : xSt} {o : Nat} (h1 : 1 < o) (h19 : o ≤ 19) : ∀ (f fu v k p : Nat), pS f o v k = some p → p ≤ 20 → v < o → f ≤ fu → f_Shares_periodOfTwo_13 fu (o : Int) (k : Int) (v : Int) σ = some (p : Int) := by
  have h1o : 1 % o = 1 := Nat.mod_eq_of_lt h1
  intro f
  induction f with
  | zero => exact fun fu v k p h => by cases h
  | succ f ih =>
    intro fu v k p h hp hv hf
    obtain ⟨fu, rfl⟩ : ∃ n2, fu = n2 + 1 := ⟨fu - 1, by omega⟩
    unfold pS at h
    rw [h1o] at h
    by_cases hv1 : v = 1
    · rw [if_pos hv1] at h
      cases h
      rw [f_Shares_periodOfTwo_13.eq_2, if_pos (by omega)]
    · rw [if_neg hv1] at h
      have hk := pS_ge _ _ _ _ _ h
      have hv2 : 2 * v % o < o := Nat.mod_lt _ (by omega)
      have b1 : ¬ (v : Int) = 1 := by omega
      have b2 : (k : Int) < 20 := by omega
      have b3 : k < 100000 := by omega
      have b4 : ¬ (o : Int) = 0 := by omega
      have b5 : 2 * v < 2147483648 := by omega
      have e1 : w32 ((v : Int) * 2) = ((2 * v : Nat) : Int) := (w32_o (by omega) (by omega)).trans (by omega)
      rw [f_Shares_periodOfTwo_13.eq_2, if_neg b1, if_pos b2, if_neg b4, e1, xrem_n b5, xlet_s, w32_n1 b3, xlet_s]
      exact ih fu _ (k + 1) p h hp hv2 (Nat.le_of_succ_le_succ hf)
theorem x_period {σ : xSt} {M : Nat} (h0 : 0 < M) (h20 : M ≤ 20) : f_Shares_periodOfTwo (oddN M : Int) σ = some (perN M : Int) := by
  obtain ⟨-, h2, h3, -, h5, h6, h7⟩ := few_nums h0 h20
  by_cases h1 : 1 < oddN M
  · have hv : 2 % oddN M < oddN M := Nat.mod_lt _ (by omega)
    have b0 : ¬ (oddN M : Int) = 0 := by omega
    have b1 : (1 : Int) < (oddN M : Int) := by omega
    have hp := x_per13 (σ := σ) h1 h3 20 1000000 (2 % oddN M) 1 (perN M) h5 (by omega) hv (by decide)
    have e2 : xrem 2 (oddN M : Int) = ((2 % oddN M : Nat) : Int) := xrem_n (a := 2) (by decide)
    unfold f_Shares_periodOfTwo
    rw [if_pos b1, if_neg b0, e2, xlet_s]
    exact hp
  · have e1 : oddN M = 1 := by omega
    rw [e1] at h5
    have h8 : pS 20 1 (2 % 1) 1 = some 1 := rfl
    rw [h8] at h5
    have e2 := Option.some.inj h5
    unfold f_Shares_periodOfTwo
    rw [if_neg (by omega), ← e2]
    rfl
/-- rows open after i throws -/
def opN (K : Nat → Nat) (E M i : Nat) : Nat := nsum (fun e => K e * 2 ^ i % M) E / M
theorem op_mul {K : Nat → Nat} {E M : Nat} (h0 : 0 < M) (hs : nsum K E = M) (i : Nat) : M * opN K E M i = nsum (fun e => K e * 2 ^ i % M) E := by
  have lin := nsum_lin (K := K) (R := fun e => K e * 2 ^ i % M) (Q := fun e => K e * 2 ^ i / M) (P := 2 ^ i) (M := M) E (fun e _ => (Nat.div_add_mod _ _).symm)
  rw [hs] at lin
  have hd : M ∣ nsum (fun e => K e * 2 ^ i % M) E := (Nat.dvd_add_right (Nat.dvd_mul_right M _)).mp (lin ▸ Nat.dvd_mul_right M (2 ^ i))
  exact Nat.mul_div_cancel' hd
theorem op_le {K : Nat → Nat} {E M : Nat} (h0 : 0 < M) (h6 : E ≤ 6) (i : Nat) : opN K E M i ≤ 6 := by
  have h := nsum_le (f := fun e => K e * 2 ^ i % M) (c := M) E (fun e _ => Nat.le_of_lt (Nat.mod_lt _ h0))
  have h2 : E * M ≤ 6 * M := Nat.mul_le_mul h6 (Nat.le_refl _)
  unfold opN
  exact Nat.div_le_of_le_mul (by rw [Nat.mul_comm M 6]; omega)
def cX (K : Nat → Nat) (E M : Nat) : Nat := nsum (fun i => opN K E M i * (2 ^ (twoN M - i) * (2 ^ perN M - 1))) (twoN M) + nsum (fun j => opN K E M (twoN M + j) * 2 ^ (perN M - j)) (perN M)
def cM (K : Nat → Nat) (E M : Nat) : Nat := hor (opN K E M) 5 * (2 ^ perN M - 1) + hor (fun i => opN K E M (5 + i)) (perN M)
theorem few_same {K : Nat → Nat} {E M : Nat} (h0 : 0 < M) (h20 : M ≤ 20) (hs : nsum K E = M) (hK : ∀ e : Nat, e < E → K e ≤ M) : 16 * cX K E M = cM K E M * 2 ^ twoN M := by
  have sw1 := nsum_swap (op := opN K E M) (R := fun i e => K e * 2 ^ i % M) (c := fun i => 2 ^ (twoN M - i) * (2 ^ perN M - 1)) (op_mul h0 hs) (twoN M)
  have sw2 := nsum_swap (op := fun j => opN K E M (twoN M + j)) (R := fun j e => K e * 2 ^ (twoN M + j) % M) (c := fun j => 2 ^ (perN M - j)) (fun j => op_mul h0 hs (twoN M + j)) (perN M)
  have sw3 := hor_swap (op := opN K E M) (R := fun i e => K e * 2 ^ i % M) (op_mul h0 hs) 5
  have sw4 := hor_swap (op := fun i => opN K E M (5 + i)) (R := fun i e => K e * 2 ^ (5 + i) % M) (fun i => op_mul h0 hs (5 + i)) (perN M)
  have key : M * (16 * cX K E M) = M * (cM K E M * 2 ^ twoN M) := by
    have e1 : M * cX K E M = nsum (fun e => nsum (fun i => K e * 2 ^ i % M * (2 ^ (twoN M - i) * (2 ^ perN M - 1))) (twoN M) + nsum (fun j => K e * 2 ^ (twoN M + j) % M * 2 ^ (perN M - j)) (perN M)) E := by
      unfold cX
      rw [Nat.mul_add, sw1, sw2, ← nsum_add]
    have e2 : M * cM K E M = nsum (fun e => hor (fun i => K e * 2 ^ i % M) 5 * (2 ^ perN M - 1) + hor (fun i => K e * 2 ^ (5 + i) % M) (perN M)) E := by
      unfold cM
      have e3 : nsum (fun e => hor (fun i => K e * 2 ^ i % M) 5 * (2 ^ perN M - 1)) E = (2 ^ perN M - 1) * nsum (fun e => hor (fun i => K e * 2 ^ i % M) 5) E := by
        rw [← nsum_mul]
        exact nsum_cg E (fun i _ => Nat.mul_comm _ _)
      rw [Nat.mul_add, ← Nat.mul_assoc, sw3, sw4, nsum_add (f := fun e => hor (fun i => K e * 2 ^ i % M) 5 * (2 ^ perN M - 1)), e3, Nat.mul_comm (2 ^ perN M - 1)]
    have e4 : M * (16 * cX K E M) = 16 * (M * cX K E M) := by rw [← Nat.mul_assoc, Nat.mul_comm M 16, Nat.mul_assoc]
    have e5 : M * (cM K E M * 2 ^ twoN M) = 2 ^ twoN M * (M * cM K E M) := by rw [← Nat.mul_assoc, Nat.mul_comm]
    rw [e4, e5, e1, e2, ← nsum_mul, ← nsum_mul]
    exact nsum_cg E (fun e he => by rw [few_eq h0 h20 (hK e he), Nat.mul_comm])
  exact Nat.eq_of_mul_eq_mul_left h0 key
