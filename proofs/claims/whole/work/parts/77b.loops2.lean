theorem x_ct121 {a0 a1 : Nat} (hne : a1 + 9 ≤ a0 ∨ a0 + 9 ≤ a1) : ∀ (j n i : Nat) (σ : xSt), i + j = 6 → j < n → ∃ σ', f_Table_copyFrom_121 a0 a1 n (i : Int) σ = some σ' ∧ (∀ k : Nat, i ≤ k → k < 6 → σ' (a0 + 6) k = σ (a1 + 6) k) ∧ (∀ k : Nat, k < i → σ' (a0 + 6) k = σ (a0 + 6) k) ∧ (∀ k : Nat, i ≤ k → k < 6 → σ' (a0 + 7) k = σ (a1 + 7) k) ∧ (∀ k : Nat, k < i → σ' (a0 + 7) k = σ (a0 + 7) k) ∧ (∀ k : Nat, i ≤ k → k < 6 → σ' (a0 + 8) k = σ (a1 + 8) k) ∧ (∀ k : Nat, k < i → σ' (a0 + 8) k = σ (a0 + 8) k) ∧ ∀ a q, a ≠ a0 + 6 → a ≠ a0 + 7 → a ≠ a0 + 8 → σ' a q = σ a q := by
  intro j
  induction j with
  | zero =>
    intro n i σ h1 h2
    obtain ⟨n, rfl⟩ : ∃ n2, n = n2 + 1 := ⟨n - 1, by omega⟩
    refine ⟨σ, ?_, fun k a b => by omega, fun _ _ => rfl, fun k a b => by omega, fun _ _ => rfl, fun k a b => by omega, fun _ _ => rfl, fun a q _ _ _ => rfl⟩
    rw [f_Table_copyFrom_121.eq_2, if_neg (by omega)]
  | succ j ih =>
    intro n i σ h1 h2
    obtain ⟨n, rfl⟩ : ∃ n2, n = n2 + 1 := ⟨n - 1, by omega⟩
    have b1 : (i : Int) < 6 := by omega
    have b2 : 0 ≤ (i : Int) ∧ (i : Int) < 6 := by omega
    have b3 : i < 100000 := by omega
    have r1 : ∀ v0 : Int, (upS σ (a0 + 6) i v0) (a1 + 7) i = σ (a1 + 7) i := fun v0 => by rw [upS_rd, if_neg (fun z => by have := z.1; omega)]
    have r2 : ∀ v0 v1 : Int, (upS (upS σ (a0 + 6) i v0) (a0 + 7) i v1) (a1 + 8) i = σ (a1 + 8) i := fun v0 v1 => by rw [upS_rd, if_neg (fun z => by have := z.1; omega), upS_rd, if_neg (fun z => by have := z.1; omega)]
    obtain ⟨σ', kk, k0, k1, k2, k3, k4, k5, kz⟩ := ih n (i + 1) (upS (upS (upS σ (a0 + 6) i (σ (a1 + 6) i)) (a0 + 7) i (σ (a1 + 7) i)) (a0 + 8) i (σ (a1 + 8) i)) (by omega) (by omega)
    refine ⟨σ', ?_, fun k hk hk2 => ?_, fun k hk => ?_, fun k hk hk2 => ?_, fun k hk => ?_, fun k hk hk2 => ?_, fun k hk => ?_, fun a q z0 z1 z2 => ?_⟩
    · rw [f_Table_copyFrom_121.eq_2, if_pos b1, if_pos b2, if_pos b2, Int.toNat_natCast, xlet_s, if_pos b2, if_pos b2, r1, xlet_s, if_pos b2, if_pos b2, r2, xlet_s, w32_n1 b3, xlet_s]
      exact kk
    · by_cases he : k = i
      · subst he
        rw [k1 k (by omega), upS_rd, if_neg (by omega), upS_rd, if_neg (by omega), upS_rd, if_pos ⟨rfl, rfl⟩]
      · rw [k0 k (by omega) hk2, upS_rd, if_neg (fun z => by have := z.1; omega), upS_rd, if_neg (fun z => by have := z.1; omega), upS_rd, if_neg (fun z => by have := z.1; omega)]
    · rw [k1 k (by omega), upS_rd, if_neg (by omega), upS_rd, if_neg (by omega), upS_rd, if_neg (by omega)]
    · by_cases he : k = i
      · subst he
        rw [k3 k (by omega), upS_rd, if_neg (by omega), upS_rd, if_pos ⟨rfl, rfl⟩]
      · rw [k2 k (by omega) hk2, upS_rd, if_neg (fun z => by have := z.1; omega), upS_rd, if_neg (fun z => by have := z.1; omega), upS_rd, if_neg (fun z => by have := z.1; omega)]
    · rw [k3 k (by omega), upS_rd, if_neg (by omega), upS_rd, if_neg (by omega), upS_rd, if_neg (by omega)]
    · by_cases he : k = i
      · subst he
        rw [k5 k (by omega), upS_rd, if_pos ⟨rfl, rfl⟩]
      · rw [k4 k (by omega) hk2, upS_rd, if_neg (fun z => by have := z.1; omega), upS_rd, if_neg (fun z => by have := z.1; omega), upS_rd, if_neg (fun z => by have := z.1; omega)]
    · rw [k5 k (by omega), upS_rd, if_neg (by omega), upS_rd, if_neg (by omega), upS_rd, if_neg (by omega)]
    · rw [kz a q z0 z1 z2, upS_rd, if_neg (fun z => z2 z.1), upS_rd, if_neg (fun z => z1 z.1), upS_rd, if_neg (fun z => z0 z.1)]
theorem x_ct95 {a0 a1 : Nat} (hne : a1 + 9 ≤ a0 ∨ a0 + 9 ≤ a1) : ∀ (j n i : Nat) (σ : xSt), i + j = 18 → j < n → ∃ σ', f_Table_copyFrom_95 a0 a1 n (i : Int) σ = f_Table_copyFrom_121 a0 a1 1000000 0 σ' ∧ (∀ k : Nat, i ≤ k → k < 18 → σ' (a0 + 5) k = σ (a1 + 5) k) ∧ (∀ k : Nat, k < i → σ' (a0 + 5) k = σ (a0 + 5) k) ∧ ∀ a q, a ≠ a0 + 5 → σ' a q = σ a q := by
  intro j
  induction j with
  | zero =>
    intro n i σ h1 h2
    obtain ⟨n, rfl⟩ : ∃ n2, n = n2 + 1 := ⟨n - 1, by omega⟩
    refine ⟨σ, ?_, fun k a b => by omega, fun _ _ => rfl, fun a q _ => rfl⟩
    rw [f_Table_copyFrom_95.eq_2, if_neg (by omega)]
  | succ j ih =>
    intro n i σ h1 h2
    obtain ⟨n, rfl⟩ : ∃ n2, n = n2 + 1 := ⟨n - 1, by omega⟩
    have b1 : (i : Int) < 18 := by omega
    have b2 : 0 ≤ (i : Int) ∧ (i : Int) < 18 := by omega
    have b3 : i < 100000 := by omega
    obtain ⟨σ', kk, k0, k1, kz⟩ := ih n (i + 1) (upS σ (a0 + 5) i (σ (a1 + 5) i)) (by omega) (by omega)
    refine ⟨σ', ?_, fun k hk hk2 => ?_, fun k hk => ?_, fun a q z0 => ?_⟩
    · rw [f_Table_copyFrom_95.eq_2, if_pos b1, if_pos b2, if_pos b2, Int.toNat_natCast, xlet_s, w32_n1 b3, xlet_s]
      exact kk
    · by_cases he : k = i
      · subst he
        rw [k1 k (by omega), upS_rd, if_pos ⟨rfl, rfl⟩]
      · rw [k0 k (by omega) hk2, upS_rd, if_neg (fun z => by have := z.1; omega)]
    · rw [k1 k (by omega), upS_rd, if_neg (by omega)]
    · rw [kz a q z0, upS_rd, if_neg (fun z => z0 z.1)]
theorem x_ct34 {a0 a1 : Nat} (hne : a1 + 9 ≤ a0 ∨ a0 + 9 ≤ a1) : ∀ (j n i : Nat) (σ : xSt), i + j = 3 → j < n → ∃ σ', f_Table_copyFrom_34 a0 a1 n (i : Int) σ = f_Table_copyFrom_95 a0 a1 1000000 0 σ' ∧ (∀ k : Nat, i ≤ k → k < 3 → σ' (a0 + 1) k = σ (a1 + 1) k) ∧ (∀ k : Nat, k < i → σ' (a0 + 1) k = σ (a0 + 1) k) ∧ (∀ k : Nat, i ≤ k → k < 3 → σ' (a0 + 2) k = xnb (σ (a1 + 2) k)) ∧ (∀ k : Nat, k < i → σ' (a0 + 2) k = σ (a0 + 2) k) ∧ (∀ k : Nat, i ≤ k → k < 3 → σ' (a0 + 3) k = σ (a1 + 3) k) ∧ (∀ k : Nat, k < i → σ' (a0 + 3) k = σ (a0 + 3) k) ∧ (∀ k : Nat, i ≤ k → k < 3 → σ' (a0 + 4) k = σ (a1 + 4) k) ∧ (∀ k : Nat, k < i → σ' (a0 + 4) k = σ (a0 + 4) k) ∧ ∀ a q, a ≠ a0 + 1 → a ≠ a0 + 2 → a ≠ a0 + 3 → a ≠ a0 + 4 → σ' a q = σ a q := by
  intro j
  induction j with
  | zero =>
    intro n i σ h1 h2
    obtain ⟨n, rfl⟩ : ∃ n2, n = n2 + 1 := ⟨n - 1, by omega⟩
    refine ⟨σ, ?_, fun k a b => by omega, fun _ _ => rfl, fun k a b => by omega, fun _ _ => rfl, fun k a b => by omega, fun _ _ => rfl, fun k a b => by omega, fun _ _ => rfl, fun a q _ _ _ _ => rfl⟩
    rw [f_Table_copyFrom_34.eq_2, if_neg (by omega)]
  | succ j ih =>
    intro n i σ h1 h2
    obtain ⟨n, rfl⟩ : ∃ n2, n = n2 + 1 := ⟨n - 1, by omega⟩
    have b1 : (i : Int) < 3 := by omega
    have b2 : 0 ≤ (i : Int) ∧ (i : Int) < 3 := by omega
    have b3 : i < 100000 := by omega
    have r1 : ∀ v0 : Int, (upS σ (a0 + 1) i v0) (a1 + 2) i = σ (a1 + 2) i := fun v0 => by rw [upS_rd, if_neg (fun z => by have := z.1; omega)]
    have r2 : ∀ v0 v1 : Int, (upS (upS σ (a0 + 1) i v0) (a0 + 2) i v1) (a1 + 3) i = σ (a1 + 3) i := fun v0 v1 => by rw [upS_rd, if_neg (fun z => by have := z.1; omega), upS_rd, if_neg (fun z => by have := z.1; omega)]
    have r3 : ∀ v0 v1 v2 : Int, (upS (upS (upS σ (a0 + 1) i v0) (a0 + 2) i v1) (a0 + 3) i v2) (a1 + 4) i = σ (a1 + 4) i := fun v0 v1 v2 => by rw [upS_rd, if_neg (fun z => by have := z.1; omega), upS_rd, if_neg (fun z => by have := z.1; omega), upS_rd, if_neg (fun z => by have := z.1; omega)]
    obtain ⟨σ', kk, k0, k1, k2, k3, k4, k5, k6, k7, kz⟩ := ih n (i + 1) (upS (upS (upS (upS σ (a0 + 1) i (σ (a1 + 1) i)) (a0 + 2) i (xnb (σ (a1 + 2) i))) (a0 + 3) i (σ (a1 + 3) i)) (a0 + 4) i (σ (a1 + 4) i)) (by omega) (by omega)
    refine ⟨σ', ?_, fun k hk hk2 => ?_, fun k hk => ?_, fun k hk hk2 => ?_, fun k hk => ?_, fun k hk hk2 => ?_, fun k hk => ?_, fun k hk hk2 => ?_, fun k hk => ?_, fun a q z0 z1 z2 z3 => ?_⟩
    · rw [f_Table_copyFrom_34.eq_2, if_pos b1, if_pos b2, if_pos b2, Int.toNat_natCast, xlet_s, if_pos b2, if_pos b2, r1, xlet_s, if_pos b2, if_pos b2, r2, xlet_s, if_pos b2, if_pos b2, r3, xlet_s, w32_n1 b3, xlet_s]
      exact kk
    · by_cases he : k = i
      · subst he
        rw [k1 k (by omega), upS_rd, if_neg (by omega), upS_rd, if_neg (by omega), upS_rd, if_neg (by omega), upS_rd, if_pos ⟨rfl, rfl⟩]
      · rw [k0 k (by omega) hk2, upS_rd, if_neg (fun z => by have := z.1; omega), upS_rd, if_neg (fun z => by have := z.1; omega), upS_rd, if_neg (fun z => by have := z.1; omega), upS_rd, if_neg (fun z => by have := z.1; omega)]
    · rw [k1 k (by omega), upS_rd, if_neg (by omega), upS_rd, if_neg (by omega), upS_rd, if_neg (by omega), upS_rd, if_neg (by omega)]
    · by_cases he : k = i
      · subst he
        rw [k3 k (by omega), upS_rd, if_neg (by omega), upS_rd, if_neg (by omega), upS_rd, if_pos ⟨rfl, rfl⟩]
      · rw [k2 k (by omega) hk2, upS_rd, if_neg (fun z => by have := z.1; omega), upS_rd, if_neg (fun z => by have := z.1; omega), upS_rd, if_neg (fun z => by have := z.1; omega), upS_rd, if_neg (fun z => by have := z.1; omega)]
    · rw [k3 k (by omega), upS_rd, if_neg (by omega), upS_rd, if_neg (by omega), upS_rd, if_neg (by omega), upS_rd, if_neg (by omega)]
    · by_cases he : k = i
      · subst he
        rw [k5 k (by omega), upS_rd, if_neg (by omega), upS_rd, if_pos ⟨rfl, rfl⟩]
      · rw [k4 k (by omega) hk2, upS_rd, if_neg (fun z => by have := z.1; omega), upS_rd, if_neg (fun z => by have := z.1; omega), upS_rd, if_neg (fun z => by have := z.1; omega), upS_rd, if_neg (fun z => by have := z.1; omega)]
    · rw [k5 k (by omega), upS_rd, if_neg (by omega), upS_rd, if_neg (by omega), upS_rd, if_neg (by omega), upS_rd, if_neg (by omega)]
    · by_cases he : k = i
      · subst he
        rw [k7 k (by omega), upS_rd, if_pos ⟨rfl, rfl⟩]
      · rw [k6 k (by omega) hk2, upS_rd, if_neg (fun z => by have := z.1; omega), upS_rd, if_neg (fun z => by have := z.1; omega), upS_rd, if_neg (fun z => by have := z.1; omega), upS_rd, if_neg (fun z => by have := z.1; omega)]
    · rw [k7 k (by omega), upS_rd, if_neg (by omega), upS_rd, if_neg (by omega), upS_rd, if_neg (by omega), upS_rd, if_neg (by omega)]
    · rw [kz a q z0 z1 z2 z3, upS_rd, if_neg (fun z => z3 z.1), upS_rd, if_neg (fun z => z2 z.1), upS_rd, if_neg (fun z => z1 z.1), upS_rd, if_neg (fun z => z0 z.1)]
theorem x_cw18 {a0 a1 : Nat} (hne : a1 + 6 ≤ a0 ∨ a0 + 6 ≤ a1) : ∀ (j n i : Nat) (σ : xSt), i + j = 80 → j < n → ∃ σ', f_Way_copyFrom_18 a0 a1 n (i : Int) σ = f_Way_copyFrom_80 a0 a1 1000000 0 σ' ∧ (∀ k : Nat, i ≤ k → k < 80 → σ' (a0 + 1) k = σ (a1 + 1) k) ∧ (∀ k : Nat, k < i → σ' (a0 + 1) k = σ (a0 + 1) k) ∧ (∀ k : Nat, i ≤ k → k < 80 → σ' (a0 + 2) k = σ (a1 + 2) k) ∧ (∀ k : Nat, k < i → σ' (a0 + 2) k = σ (a0 + 2) k) ∧ (∀ k : Nat, i ≤ k → k < 80 → σ' (a0 + 3) k = σ (a1 + 3) k) ∧ (∀ k : Nat, k < i → σ' (a0 + 3) k = σ (a0 + 3) k) ∧ (∀ k : Nat, i ≤ k → k < 80 → σ' (a0 + 4) k = σ (a1 + 4) k) ∧ (∀ k : Nat, k < i → σ' (a0 + 4) k = σ (a0 + 4) k) ∧ ∀ a q, a ≠ a0 + 1 → a ≠ a0 + 2 → a ≠ a0 + 3 → a ≠ a0 + 4 → σ' a q = σ a q := by
  intro j
  induction j with
  | zero =>
    intro n i σ h1 h2
    obtain ⟨n, rfl⟩ : ∃ n2, n = n2 + 1 := ⟨n - 1, by omega⟩
    refine ⟨σ, ?_, fun k a b => by omega, fun _ _ => rfl, fun k a b => by omega, fun _ _ => rfl, fun k a b => by omega, fun _ _ => rfl, fun k a b => by omega, fun _ _ => rfl, fun a q _ _ _ _ => rfl⟩
    rw [f_Way_copyFrom_18.eq_2, if_neg (by omega)]
  | succ j ih =>
    intro n i σ h1 h2
    obtain ⟨n, rfl⟩ : ∃ n2, n = n2 + 1 := ⟨n - 1, by omega⟩
    have b1 : (i : Int) < 80 := by omega
    have b2 : 0 ≤ (i : Int) ∧ (i : Int) < 80 := by omega
    have b3 : i < 100000 := by omega
    have r1 : ∀ v0 : Int, (upS σ (a0 + 1) i v0) (a1 + 2) i = σ (a1 + 2) i := fun v0 => by rw [upS_rd, if_neg (fun z => by have := z.1; omega)]
    have r2 : ∀ v0 v1 : Int, (upS (upS σ (a0 + 1) i v0) (a0 + 2) i v1) (a1 + 3) i = σ (a1 + 3) i := fun v0 v1 => by rw [upS_rd, if_neg (fun z => by have := z.1; omega), upS_rd, if_neg (fun z => by have := z.1; omega)]
    have r3 : ∀ v0 v1 v2 : Int, (upS (upS (upS σ (a0 + 1) i v0) (a0 + 2) i v1) (a0 + 3) i v2) (a1 + 4) i = σ (a1 + 4) i := fun v0 v1 v2 => by rw [upS_rd, if_neg (fun z => by have := z.1; omega), upS_rd, if_neg (fun z => by have := z.1; omega), upS_rd, if_neg (fun z => by have := z.1; omega)]
    obtain ⟨σ', kk, k0, k1, k2, k3, k4, k5, k6, k7, kz⟩ := ih n (i + 1) (upS (upS (upS (upS σ (a0 + 1) i (σ (a1 + 1) i)) (a0 + 2) i (σ (a1 + 2) i)) (a0 + 3) i (σ (a1 + 3) i)) (a0 + 4) i (σ (a1 + 4) i)) (by omega) (by omega)
    refine ⟨σ', ?_, fun k hk hk2 => ?_, fun k hk => ?_, fun k hk hk2 => ?_, fun k hk => ?_, fun k hk hk2 => ?_, fun k hk => ?_, fun k hk hk2 => ?_, fun k hk => ?_, fun a q z0 z1 z2 z3 => ?_⟩
    · rw [f_Way_copyFrom_18.eq_2, if_pos b1, if_pos b2, if_pos b2, Int.toNat_natCast, xlet_s, if_pos b2, if_pos b2, r1, xlet_s, if_pos b2, if_pos b2, r2, xlet_s, if_pos b2, if_pos b2, r3, xlet_s, w32_n1 b3, xlet_s]
      exact kk
    · by_cases he : k = i
      · subst he
        rw [k1 k (by omega), upS_rd, if_neg (by omega), upS_rd, if_neg (by omega), upS_rd, if_neg (by omega), upS_rd, if_pos ⟨rfl, rfl⟩]
      · rw [k0 k (by omega) hk2, upS_rd, if_neg (fun z => by have := z.1; omega), upS_rd, if_neg (fun z => by have := z.1; omega), upS_rd, if_neg (fun z => by have := z.1; omega), upS_rd, if_neg (fun z => by have := z.1; omega)]
    · rw [k1 k (by omega), upS_rd, if_neg (by omega), upS_rd, if_neg (by omega), upS_rd, if_neg (by omega), upS_rd, if_neg (by omega)]
    · by_cases he : k = i
      · subst he
        rw [k3 k (by omega), upS_rd, if_neg (by omega), upS_rd, if_neg (by omega), upS_rd, if_pos ⟨rfl, rfl⟩]
      · rw [k2 k (by omega) hk2, upS_rd, if_neg (fun z => by have := z.1; omega), upS_rd, if_neg (fun z => by have := z.1; omega), upS_rd, if_neg (fun z => by have := z.1; omega), upS_rd, if_neg (fun z => by have := z.1; omega)]
    · rw [k3 k (by omega), upS_rd, if_neg (by omega), upS_rd, if_neg (by omega), upS_rd, if_neg (by omega), upS_rd, if_neg (by omega)]
    · by_cases he : k = i
      · subst he
        rw [k5 k (by omega), upS_rd, if_neg (by omega), upS_rd, if_pos ⟨rfl, rfl⟩]
      · rw [k4 k (by omega) hk2, upS_rd, if_neg (fun z => by have := z.1; omega), upS_rd, if_neg (fun z => by have := z.1; omega), upS_rd, if_neg (fun z => by have := z.1; omega), upS_rd, if_neg (fun z => by have := z.1; omega)]
    · rw [k5 k (by omega), upS_rd, if_neg (by omega), upS_rd, if_neg (by omega), upS_rd, if_neg (by omega), upS_rd, if_neg (by omega)]
    · by_cases he : k = i
      · subst he
        rw [k7 k (by omega), upS_rd, if_pos ⟨rfl, rfl⟩]
      · rw [k6 k (by omega) hk2, upS_rd, if_neg (fun z => by have := z.1; omega), upS_rd, if_neg (fun z => by have := z.1; omega), upS_rd, if_neg (fun z => by have := z.1; omega), upS_rd, if_neg (fun z => by have := z.1; omega)]
    · rw [k7 k (by omega), upS_rd, if_neg (by omega), upS_rd, if_neg (by omega), upS_rd, if_neg (by omega), upS_rd, if_neg (by omega)]
    · rw [kz a q z0 z1 z2 z3, upS_rd, if_neg (fun z => z3 z.1), upS_rd, if_neg (fun z => z2 z.1), upS_rd, if_neg (fun z => z1 z.1), upS_rd, if_neg (fun z => z0 z.1)]
theorem x_ctab {a0 a1 : Nat} (hne : a1 + 9 ≤ a0 ∨ a0 + 9 ≤ a1) (σ : xSt) : ∃ σ', f_Table_copyFrom a0 a1 σ = some σ' ∧ (∀ k : Nat, k < 4 → σ' a0 k = σ a1 k) ∧
    (∀ k : Nat, k < 3 → σ' (a0 + 1) k = σ (a1 + 1) k ∧ σ' (a0 + 2) k = xnb (σ (a1 + 2) k) ∧ σ' (a0 + 3) k = σ (a1 + 3) k ∧ σ' (a0 + 4) k = σ (a1 + 4) k) ∧
    (∀ k : Nat, k < 18 → σ' (a0 + 5) k = σ (a1 + 5) k) ∧ (∀ k : Nat, k < 6 → σ' (a0 + 6) k = σ (a1 + 6) k ∧ σ' (a0 + 7) k = σ (a1 + 7) k ∧ σ' (a0 + 8) k = σ (a1 + 8) k) ∧ ∀ a q, (a < a0 ∨ a0 + 8 < a) → σ' a q = σ a q := by
  have rd : ∀ (s : xSt) (k : Nat) (v : Int) (a q : Nat), a ≠ a0 → upS s a0 k v a q = s a q := fun s k v a q h => by rw [upS_rd, if_neg (fun z => h z.1)]
  have h10 : a1 ≠ a0 := by omega
  obtain ⟨s1, e1, p1, _, p2, _, p3, _, p4, _, pz⟩ := x_ct34 hne 3 1000000 0 (upS (upS (upS (upS σ a0 0 (σ a1 0)) a0 1 (σ a1 1)) a0 2 (σ a1 2)) a0 3 (σ a1 3)) (by omega) (by omega)
  obtain ⟨s2, e2, q1, _, qz⟩ := x_ct95 hne 18 1000000 0 s1 (by omega) (by omega)
  obtain ⟨s3, e3, t1, _, t2, _, t3, _, tz⟩ := x_ct121 hne 6 1000000 0 s2 (by omega) (by omega)
  rw [c0n] at e1 e2 e3
  refine ⟨s3, ?_, fun k hk => ?_, fun k hk => ⟨?_, ?_, ?_, ?_⟩, fun k hk => ?_, fun k hk => ⟨?_, ?_, ?_⟩, fun a q h => ?_⟩
  · unfold f_Table_copyFrom
    rw [xlet_s, rd _ _ _ a1 1 h10, xlet_s, rd _ _ _ a1 2 h10, rd _ _ _ a1 2 h10, xlet_s, rd _ _ _ a1 3 h10, rd _ _ _ a1 3 h10, rd _ _ _ a1 3 h10, xlet_s, e1, e2, e3]
  · rw [tz a0 k (by omega) (by omega) (by omega), qz a0 k (by omega), pz a0 k (by omega) (by omega) (by omega) (by omega), upS_rd, upS_rd, upS_rd, upS_rd]
    have hk4 : k = 0 ∨ k = 1 ∨ k = 2 ∨ k = 3 := by omega
    rcases hk4 with rfl | rfl | rfl | rfl
    · rw [if_neg (by omega), if_neg (by omega), if_neg (by omega), if_pos ⟨rfl, rfl⟩]
    · rw [if_neg (by omega), if_neg (by omega), if_pos ⟨rfl, rfl⟩]
    · rw [if_neg (by omega), if_pos ⟨rfl, rfl⟩]
    · rw [if_pos ⟨rfl, rfl⟩]
  · rw [tz (a0 + 1) k (by omega) (by omega) (by omega), qz (a0 + 1) k (by omega), p1 k (by omega) hk, rd _ _ _ _ _ (by omega), rd _ _ _ _ _ (by omega), rd _ _ _ _ _ (by omega), rd _ _ _ _ _ (by omega)]
  · rw [tz (a0 + 2) k (by omega) (by omega) (by omega), qz (a0 + 2) k (by omega), p2 k (by omega) hk, rd _ _ _ _ _ (by omega), rd _ _ _ _ _ (by omega), rd _ _ _ _ _ (by omega), rd _ _ _ _ _ (by omega)]
  · rw [tz (a0 + 3) k (by omega) (by omega) (by omega), qz (a0 + 3) k (by omega), p3 k (by omega) hk, rd _ _ _ _ _ (by omega), rd _ _ _ _ _ (by omega), rd _ _ _ _ _ (by omega), rd _ _ _ _ _ (by omega)]
  · rw [tz (a0 + 4) k (by omega) (by omega) (by omega), qz (a0 + 4) k (by omega), p4 k (by omega) hk, rd _ _ _ _ _ (by omega), rd _ _ _ _ _ (by omega), rd _ _ _ _ _ (by omega), rd _ _ _ _ _ (by omega)]
  · rw [tz (a0 + 5) k (by omega) (by omega) (by omega), q1 k (by omega) hk, pz (a1 + 5) k (by omega) (by omega) (by omega) (by omega), rd _ _ _ _ _ (by omega), rd _ _ _ _ _ (by omega), rd _ _ _ _ _ (by omega), rd _ _ _ _ _ (by omega)]
  · rw [t1 k (by omega) hk, qz (a1 + 6) k (by omega), pz (a1 + 6) k (by omega) (by omega) (by omega) (by omega), rd _ _ _ _ _ (by omega), rd _ _ _ _ _ (by omega), rd _ _ _ _ _ (by omega), rd _ _ _ _ _ (by omega)]
  · rw [t2 k (by omega) hk, qz (a1 + 7) k (by omega), pz (a1 + 7) k (by omega) (by omega) (by omega) (by omega), rd _ _ _ _ _ (by omega), rd _ _ _ _ _ (by omega), rd _ _ _ _ _ (by omega), rd _ _ _ _ _ (by omega)]
  · rw [t3 k (by omega) hk, qz (a1 + 8) k (by omega), pz (a1 + 8) k (by omega) (by omega) (by omega) (by omega), rd _ _ _ _ _ (by omega), rd _ _ _ _ _ (by omega), rd _ _ _ _ _ (by omega), rd _ _ _ _ _ (by omega)]
  · rw [tz a q (by omega) (by omega) (by omega), qz a q (by omega), pz a q (by omega) (by omega) (by omega) (by omega), rd _ _ _ _ _ (by omega), rd _ _ _ _ _ (by omega), rd _ _ _ _ _ (by omega), rd _ _ _ _ _ (by omega)]
theorem x_cway {a0 a1 : Nat} (hne : a1 + 6 ≤ a0 ∨ a0 + 6 ≤ a1) (σ : xSt) : ∃ σ', f_Way_copyFrom a0 a1 σ = some σ' ∧ σ' a0 0 = σ a1 0 ∧ σ' a0 1 = σ a1 1 ∧
    (∀ k : Nat, k < 80 → σ' (a0 + 1) k = σ (a1 + 1) k ∧ σ' (a0 + 2) k = σ (a1 + 2) k ∧ σ' (a0 + 3) k = σ (a1 + 3) k ∧ σ' (a0 + 4) k = σ (a1 + 4) k) ∧
    (∀ k : Nat, k < 480 → σ' (a0 + 5) k = σ (a1 + 5) k) ∧ ∀ a q, (a < a0 ∨ a0 + 5 < a) → σ' a q = σ a q := by
  have rd : ∀ (s : xSt) (k : Nat) (v : Int) (a q : Nat), a ≠ a0 → upS s a0 k v a q = s a q := fun s k v a q h => by rw [upS_rd, if_neg (fun z => h z.1)]
  have h10 : a1 ≠ a0 := by omega
  obtain ⟨s1, e1, p1, _, p2, _, p3, _, p4, _, pz⟩ := x_cw18 hne 80 1000000 0 (upS (upS σ a0 0 (σ a1 0)) a0 1 (σ a1 1)) (by omega) (by omega)
  obtain ⟨s2, e2, q1, _, qz⟩ := x_cw80 (a0 := a0) (a1 := a1) (by omega) 480 1000000 0 s1 (by omega) (by omega)
  rw [c0n] at e1 e2
  refine ⟨s2, ?_, ?_, ?_, fun k hk => ⟨?_, ?_, ?_, ?_⟩, fun k hk => ?_, fun a q h => ?_⟩
  · unfold f_Way_copyFrom
    rw [xlet_s, rd _ _ _ a1 1 h10, xlet_s, e1, e2]
  · rw [qz a0 0 (by omega), pz a0 0 (by omega) (by omega) (by omega) (by omega), upS_rd, if_neg (by omega), upS_rd, if_pos ⟨rfl, rfl⟩]
  · rw [qz a0 1 (by omega), pz a0 1 (by omega) (by omega) (by omega) (by omega), upS_rd, if_pos ⟨rfl, rfl⟩]
  · rw [qz (a0 + 1) k (by omega), p1 k (by omega) hk, rd _ _ _ _ _ (by omega), rd _ _ _ _ _ (by omega)]
  · rw [qz (a0 + 2) k (by omega), p2 k (by omega) hk, rd _ _ _ _ _ (by omega), rd _ _ _ _ _ (by omega)]
  · rw [qz (a0 + 3) k (by omega), p3 k (by omega) hk, rd _ _ _ _ _ (by omega), rd _ _ _ _ _ (by omega)]
  · rw [qz (a0 + 4) k (by omega), p4 k (by omega) hk, rd _ _ _ _ _ (by omega), rd _ _ _ _ _ (by omega)]
  · rw [q1 k (by omega) hk, pz (a1 + 5) k (by omega) (by omega) (by omega) (by omega), rd _ _ _ _ _ (by omega), rd _ _ _ _ _ (by omega)]
  · rw [qz a q (by omega), pz a q (by omega) (by omega) (by omega) (by omega), rd _ _ _ _ _ (by omega), rd _ _ _ _ _ (by omega)]
theorem x_csen {a0 a1 : Nat} (hne : a1 + 4 < a0 ∨ a0 + 4 < a1) (σ : xSt) : ∃ σ', f_Sentence_copyFrom a0 a1 σ = some σ' ∧ σ' a0 0 = σ a1 0 ∧ σ' a0 1 = σ a1 1 ∧
    (∀ k : Nat, k < 40 → σ' (a0 + 1) k = σ (a1 + 1) k ∧ σ' (a0 + 2) k = σ (a1 + 2) k ∧ σ' (a0 + 3) k = σ (a1 + 3) k) ∧ ∀ a q, (a < a0 ∨ a0 + 3 < a) → σ' a q = σ a q := by
  have rd : ∀ (s : xSt) (k : Nat) (v : Int) (a q : Nat), a ≠ a0 → upS s a0 k v a q = s a q := fun s k v a q h => by rw [upS_rd, if_neg (fun z => h z.1)]
  have h10 : a1 ≠ a0 := by omega
  obtain ⟨s1, e1, p1, _, pz⟩ := x_cse18 hne 40 1000000 0 (upS (upS σ a0 0 (σ a1 0)) a0 1 (σ a1 1)) (by omega) (by omega)
  rw [c0n] at e1
  refine ⟨s1, ?_, ?_, ?_, fun k hk => ⟨?_, ?_, ?_⟩, fun a q h => ?_⟩
  · unfold f_Sentence_copyFrom
    rw [xlet_s, rd _ _ _ a1 1 h10, xlet_s, e1]
  · rw [pz a0 0 (fun c _ _ => by omega), upS_rd, if_neg (by omega), upS_rd, if_pos ⟨rfl, rfl⟩]
  · rw [pz a0 1 (fun c _ _ => by omega), upS_rd, if_pos ⟨rfl, rfl⟩]
  · rw [p1 1 k (by omega) (by omega) (by omega) hk, rd _ _ _ _ _ (by omega), rd _ _ _ _ _ (by omega)]
  · rw [p1 2 k (by omega) (by omega) (by omega) hk, rd _ _ _ _ _ (by omega), rd _ _ _ _ _ (by omega)]
  · rw [p1 3 k (by omega) (by omega) (by omega) hk, rd _ _ _ _ _ (by omega), rd _ _ _ _ _ (by omega)]
  · rw [pz a q (fun c _ _ => by omega), rd _ _ _ _ _ (by omega), rd _ _ _ _ _ (by omega)]
theorem m_im22 {kk : Nat} (hk : kk < 2) : ∀ (j n i : Nat) (σ : xSt), i + j = 924 → j < n → ∃ σ', f_M_image_22 n (kk : Int) (i : Int) σ = f_M_image_55 1000000 (kk : Int) 0 σ' ∧ (∀ k : Nat, i ≤ k → k < 924 → σ' 116 (924 * kk + k) = σ 113 k) ∧ (∀ q : Nat, (q < 924 * kk + i ∨ 924 * kk + 924 ≤ q) → σ' 116 q = σ 116 q) ∧ ∀ a q, a ≠ 116 → σ' a q = σ a q := by
  intro j
  induction j with
  | zero =>
    intro n i σ h1 h2
    obtain ⟨n, rfl⟩ : ∃ n2, n = n2 + 1 := ⟨n - 1, by omega⟩
    refine ⟨σ, ?_, fun k a b => by omega, fun _ _ => rfl, fun _ _ _ => rfl⟩
    rw [f_M_image_22.eq_2, if_neg (by omega)]
  | succ j ih =>
    intro n i σ h1 h2
    obtain ⟨n, rfl⟩ : ∃ n2, n = n2 + 1 := ⟨n - 1, by omega⟩
    have b1 : (i : Int) < 924 := by omega
    have b2 : 0 ≤ (i : Int) ∧ (i : Int) < 924 := by omega
    have b3 : i < 100000 := by omega
    have b4 : 0 ≤ ((924 * kk + i : Nat) : Int) ∧ ((924 * kk + i : Nat) : Int) < 1848 := by omega
    have e1 : w32 (924 * (kk : Int)) = ((924 * kk : Nat) : Int) := (w32_o (by omega) (by omega)).trans (by omega)
    have e2 : w32 (((924 * kk : Nat) : Int) + (i : Int)) = ((924 * kk + i : Nat) : Int) := (w32_o (by omega) (by omega)).trans (by omega)
    obtain ⟨σ', k1, k2, k3, k4⟩ := ih n (i + 1) (upS σ 116 (924 * kk + i) (σ 113 i)) (by omega) (by omega)
    refine ⟨σ', ?_, fun k hk hk2 => ?_, fun q hq => ?_, fun a q ha => by rw [k4 a q ha, upS_rd, if_neg (fun z => ha z.1)]⟩
    · rw [f_M_image_22.eq_2, if_pos b1, if_pos b2, e1, e2, if_pos b4, Int.toNat_natCast, Int.toNat_natCast, xlet_s, w32_n1 b3, xlet_s]
      exact k1
    · by_cases he : k = i
      · subst he
        rw [k3 _ (by omega), upS_rd, if_pos ⟨rfl, rfl⟩]
      · rw [k2 k (by omega) hk2, upS_rd, if_neg (fun z => absurd z.1 (by decide))]
    · rw [k3 q (by omega), upS_rd, if_neg (by omega)]
theorem m_im55 {kk : Nat} (hk : kk < 2) : ∀ (j n i : Nat) (σ : xSt), i + j = 9 → j < n → ∃ σ', f_M_image_55 n (kk : Int) (i : Int) σ = (if 0 ≤ (kk : Int) ∧ (kk : Int) < 2 then (xlet (upS σ' 120 (kk : Int).toNat 1) fun σ8 => some (1, σ8)) else none) ∧ (∀ k : Nat, i ≤ k → k < 9 → σ' 119 (9 * kk + k) = σ 117 k) ∧ (∀ q : Nat, (q < 9 * kk + i ∨ 9 * kk + 9 ≤ q) → σ' 119 q = σ 119 q) ∧ ∀ a q, a ≠ 119 → σ' a q = σ a q := by
  intro j
  induction j with
  | zero =>
    intro n i σ h1 h2
    obtain ⟨n, rfl⟩ : ∃ n2, n = n2 + 1 := ⟨n - 1, by omega⟩
    refine ⟨σ, ?_, fun k a b => by omega, fun _ _ => rfl, fun _ _ _ => rfl⟩
    rw [f_M_image_55.eq_2, if_neg (by omega)]
  | succ j ih =>
    intro n i σ h1 h2
    obtain ⟨n, rfl⟩ : ∃ n2, n = n2 + 1 := ⟨n - 1, by omega⟩
    have b1 : (i : Int) < 9 := by omega
    have b2 : 0 ≤ (i : Int) ∧ (i : Int) < 9 := by omega
    have b3 : i < 100000 := by omega
    have b4 : 0 ≤ ((9 * kk + i : Nat) : Int) ∧ ((9 * kk + i : Nat) : Int) < 18 := by omega
    have e1 : w32 (9 * (kk : Int)) = ((9 * kk : Nat) : Int) := (w32_o (by omega) (by omega)).trans (by omega)
    have e2 : w32 (((9 * kk : Nat) : Int) + (i : Int)) = ((9 * kk + i : Nat) : Int) := (w32_o (by omega) (by omega)).trans (by omega)
    obtain ⟨σ', k1, k2, k3, k4⟩ := ih n (i + 1) (upS σ 119 (9 * kk + i) (σ 117 i)) (by omega) (by omega)
    refine ⟨σ', ?_, fun k hk hk2 => ?_, fun q hq => ?_, fun a q ha => by rw [k4 a q ha, upS_rd, if_neg (fun z => ha z.1)]⟩
    · rw [f_M_image_55.eq_2, if_pos b1, if_pos b2, e1, e2, if_pos b4, Int.toNat_natCast, Int.toNat_natCast, xlet_s, w32_n1 b3, xlet_s]
      exact k1
    · by_cases he : k = i
      · subst he
        rw [k3 _ (by omega), upS_rd, if_pos ⟨rfl, rfl⟩]
      · rw [k2 k (by omega) hk2, upS_rd, if_neg (fun z => absurd z.1 (by decide))]
    · rw [k3 q (by omega), upS_rd, if_neg (by omega)]
theorem m_re31 {kk : Nat} (hk : kk < 2) : ∀ (j n i : Nat) (σ : xSt), i + j = 924 → j < n → ∃ σ', f_M_restore_31 n (kk : Int) (i : Int) σ = f_M_restore_64 1000000 (kk : Int) 0 σ' ∧ (∀ k : Nat, i ≤ k → k < 924 → σ' 113 k = σ 116 (924 * kk + k)) ∧ (∀ q : Nat, q < i → σ' 113 q = σ 113 q) ∧ ∀ a q, a ≠ 113 → σ' a q = σ a q := by
  intro j
  induction j with
  | zero =>
    intro n i σ h1 h2
    obtain ⟨n, rfl⟩ : ∃ n2, n = n2 + 1 := ⟨n - 1, by omega⟩
    refine ⟨σ, ?_, fun k a b => by omega, fun _ _ => rfl, fun _ _ _ => rfl⟩
    rw [f_M_restore_31.eq_2, if_neg (by omega)]
  | succ j ih =>
    intro n i σ h1 h2
    obtain ⟨n, rfl⟩ : ∃ n2, n = n2 + 1 := ⟨n - 1, by omega⟩
    have b1 : (i : Int) < 924 := by omega
    have b2 : 0 ≤ (i : Int) ∧ (i : Int) < 924 := by omega
    have b3 : i < 100000 := by omega
    have b4 : 0 ≤ ((924 * kk + i : Nat) : Int) ∧ ((924 * kk + i : Nat) : Int) < 1848 := by omega
    have e1 : w32 (924 * (kk : Int)) = ((924 * kk : Nat) : Int) := (w32_o (by omega) (by omega)).trans (by omega)
    have e2 : w32 (((924 * kk : Nat) : Int) + (i : Int)) = ((924 * kk + i : Nat) : Int) := (w32_o (by omega) (by omega)).trans (by omega)
    obtain ⟨σ', k1, k2, k3, k4⟩ := ih n (i + 1) (upS σ 113 i (σ 116 (924 * kk + i))) (by omega) (by omega)
    refine ⟨σ', ?_, fun k hk hk2 => ?_, fun q hq => ?_, fun a q ha => by rw [k4 a q ha, upS_rd, if_neg (fun z => ha z.1)]⟩
    · rw [f_M_restore_31.eq_2, if_pos b1, e1, e2, if_pos b4, if_pos b2, Int.toNat_natCast, Int.toNat_natCast, xlet_s, w32_n1 b3, xlet_s]
      exact k1
    · by_cases he : k = i
      · subst he
        rw [k3 _ (by omega), upS_rd, if_pos ⟨rfl, rfl⟩]
      · rw [k2 k (by omega) hk2, upS_rd, if_neg (fun z => absurd z.1 (by decide))]
    · rw [k3 q (by omega), upS_rd, if_neg (by omega)]
theorem m_re64 {kk : Nat} (hk : kk < 2) : ∀ (j n i : Nat) (σ : xSt), i + j = 9 → j < n → ∃ σ', f_M_restore_64 n (kk : Int) (i : Int) σ = some (1, σ') ∧ (∀ k : Nat, i ≤ k → k < 9 → σ' 117 k = σ 119 (9 * kk + k)) ∧ (∀ q : Nat, q < i → σ' 117 q = σ 117 q) ∧ ∀ a q, a ≠ 117 → σ' a q = σ a q := by
  intro j
  induction j with
  | zero =>
    intro n i σ h1 h2
    obtain ⟨n, rfl⟩ : ∃ n2, n = n2 + 1 := ⟨n - 1, by omega⟩
    refine ⟨σ, ?_, fun k a b => by omega, fun _ _ => rfl, fun _ _ _ => rfl⟩
    rw [f_M_restore_64.eq_2, if_neg (by omega)]
  | succ j ih =>
    intro n i σ h1 h2
    obtain ⟨n, rfl⟩ : ∃ n2, n = n2 + 1 := ⟨n - 1, by omega⟩
    have b1 : (i : Int) < 9 := by omega
    have b2 : 0 ≤ (i : Int) ∧ (i : Int) < 9 := by omega
    have b3 : i < 100000 := by omega
    have b4 : 0 ≤ ((9 * kk + i : Nat) : Int) ∧ ((9 * kk + i : Nat) : Int) < 18 := by omega
    have e1 : w32 (9 * (kk : Int)) = ((9 * kk : Nat) : Int) := (w32_o (by omega) (by omega)).trans (by omega)
    have e2 : w32 (((9 * kk : Nat) : Int) + (i : Int)) = ((9 * kk + i : Nat) : Int) := (w32_o (by omega) (by omega)).trans (by omega)
    obtain ⟨σ', k1, k2, k3, k4⟩ := ih n (i + 1) (upS σ 117 i (σ 119 (9 * kk + i))) (by omega) (by omega)
    refine ⟨σ', ?_, fun k hk hk2 => ?_, fun q hq => ?_, fun a q ha => by rw [k4 a q ha, upS_rd, if_neg (fun z => ha z.1)]⟩
    · rw [f_M_restore_64.eq_2, if_pos b1, e1, e2, if_pos b4, if_pos b2, Int.toNat_natCast, Int.toNat_natCast, xlet_s, w32_n1 b3, xlet_s]
      exact k1
    · by_cases he : k = i
      · subst he
        rw [k3 _ (by omega), upS_rd, if_pos ⟨rfl, rfl⟩]
      · rw [k2 k (by omega) hk2, upS_rd, if_neg (fun z => absurd z.1 (by decide))]
    · rw [k3 q (by omega), upS_rd, if_neg (by omega)]
