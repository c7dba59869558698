/-! the copy loops -/
theorem x_cw80 {a0 a1 : Nat} (hne : a1 + 5 ≠ a0 + 5) : ∀ (j n i : Nat) (σ : xSt), i + j = 480 → j < n → ∃ σ', f_Way_copyFrom_80 a0 a1 n (i : Int) σ = some σ' ∧ (∀ k : Nat, i ≤ k → k < 480 → σ' (a0 + 5) k = σ (a1 + 5) k) ∧ (∀ k : Nat, k < i → σ' (a0 + 5) k = σ (a0 + 5) k) ∧ ∀ a q, a ≠ a0 + 5 → σ' a q = σ a q := by
  intro j
  induction j with
  | zero =>
    intro n i σ h1 h2
    obtain ⟨n, rfl⟩ : ∃ n2, n = n2 + 1 := ⟨n - 1, by omega⟩
    refine ⟨σ, ?_, fun k a b => by omega, fun _ _ => rfl, fun _ _ _ => rfl⟩
    rw [f_Way_copyFrom_80.eq_2, if_neg (by omega)]
  | succ j ih =>
    intro n i σ h1 h2
    obtain ⟨n, rfl⟩ : ∃ n2, n = n2 + 1 := ⟨n - 1, by omega⟩
    have b1 : (i : Int) < 480 := by omega
    have b2 : 0 ≤ (i : Int) ∧ (i : Int) < 480 := by omega
    have b3 : i < 100000 := by omega
    obtain ⟨σ', k1, k2, k3, k4⟩ := ih n (i + 1) (upS σ (a0 + 5) i (σ (a1 + 5) i)) (by omega) (by omega)
    refine ⟨σ', ?_, fun k hk hk2 => ?_, fun k hk => ?_, fun a q ha => by rw [k4 a q ha, upS_rd, if_neg (fun z => ha z.1)]⟩
    · rw [f_Way_copyFrom_80.eq_2, if_pos b1, if_pos b2, if_pos b2, Int.toNat_natCast, xlet_s, w32_n1 b3, xlet_s]
      exact k1
    · by_cases he : k = i
      · rw [k3 k (by omega), upS_rd, if_pos ⟨rfl, he⟩, he]
      · rw [k2 k (by omega) hk2, upS_rd, if_neg (fun z => hne z.1)]
    · rw [k3 k (by omega), upS_rd, if_neg (by omega)]
theorem x_cse18 {a0 a1 : Nat} (hne : a1 + 4 < a0 ∨ a0 + 4 < a1) : ∀ (j n i : Nat) (σ : xSt), i + j = 40 → j < n → ∃ σ', f_Sentence_copyFrom_18 a0 a1 n (i : Int) σ = some σ' ∧ (∀ c k : Nat, 1 ≤ c → c ≤ 3 → i ≤ k → k < 40 → σ' (a0 + c) k = σ (a1 + c) k) ∧ (∀ c k : Nat, 1 ≤ c → c ≤ 3 → k < i → σ' (a0 + c) k = σ (a0 + c) k) ∧ ∀ a q, (∀ c : Nat, 1 ≤ c → c ≤ 3 → a ≠ a0 + c) → σ' a q = σ a q := by
  intro j
  induction j with
  | zero =>
    intro n i σ h1 h2
    obtain ⟨n, rfl⟩ : ∃ n2, n = n2 + 1 := ⟨n - 1, by omega⟩
    refine ⟨σ, ?_, fun c k _ _ a b => by omega, fun _ _ _ _ _ => rfl, fun _ _ _ => rfl⟩
    rw [f_Sentence_copyFrom_18.eq_2, if_neg (by omega)]
  | succ j ih =>
    intro n i σ h1 h2
    obtain ⟨n, rfl⟩ : ∃ n2, n = n2 + 1 := ⟨n - 1, by omega⟩
    have b1 : (i : Int) < 40 := by omega
    have b2 : 0 ≤ (i : Int) ∧ (i : Int) < 40 := by omega
    have b3 : i < 100000 := by omega
    have r2 : ∀ v, upS σ (a0 + 1) i v (a1 + 2) i = σ (a1 + 2) i := fun v => by rw [upS_rd, if_neg (fun z => by have := z.1; omega)]
    have r3 : ∀ v w, upS (upS σ (a0 + 1) i v) (a0 + 2) i w (a1 + 3) i = σ (a1 + 3) i := fun v w => by rw [upS_rd, if_neg (fun z => by have := z.1; omega), upS_rd, if_neg (fun z => by have := z.1; omega)]
    obtain ⟨σ', k1, k2, k3, k4⟩ := ih n (i + 1) (upS (upS (upS σ (a0 + 1) i (σ (a1 + 1) i)) (a0 + 2) i (σ (a1 + 2) i)) (a0 + 3) i (σ (a1 + 3) i)) (by omega) (by omega)
    refine ⟨σ', ?_, fun c k c1 c2 hk hk2 => ?_, fun c k c1 c2 hk => ?_, fun a q ha => ?_⟩
    · rw [f_Sentence_copyFrom_18.eq_2, if_pos b1, if_pos b2, if_pos b2, Int.toNat_natCast, xlet_s, if_pos b2, if_pos b2, r2, xlet_s, if_pos b2, if_pos b2, r3, xlet_s, w32_n1 b3, xlet_s]
      exact k1
    · by_cases he : k = i
      · subst he
        rw [k3 c k c1 c2 (by omega), upS_rd, upS_rd, upS_rd]
        have hc : c = 1 ∨ c = 2 ∨ c = 3 := by omega
        rcases hc with hc | hc | hc
        · subst hc
          rw [if_neg (by omega), if_neg (by omega), if_pos ⟨rfl, rfl⟩]
        · subst hc
          rw [if_neg (by omega), if_pos ⟨rfl, rfl⟩]
        · subst hc
          rw [if_pos ⟨rfl, rfl⟩]
      · rw [k2 c k c1 c2 (by omega) hk2, upS_rd, if_neg (fun z => by have := z.1; omega), upS_rd, if_neg (fun z => by have := z.1; omega), upS_rd, if_neg (fun z => by have := z.1; omega)]
    · rw [k3 c k c1 c2 (by omega), upS_rd, if_neg (by omega), upS_rd, if_neg (by omega), upS_rd, if_neg (by omega)]
    · rw [k4 a q ha, upS_rd, if_neg (fun z => ha 3 (by decide) (by decide) z.1), upS_rd, if_neg (fun z => ha 2 (by decide) (by decide) z.1), upS_rd, if_neg (fun z => ha 1 (by decide) (by decide) z.1)]
