/-! the copy loops -/
theorem x_cw80 {a0 a1 : Nat} (hne : a1 + 5 ≠ a0 + 5) : ∀ (j n i : Nat) (σ : xSt), i + j = 480 → j < n → ∃ σ', f_Way_copyFrom_80 a0 a1 n (i : Int) σ = some σ' ∧ (∀ k : Nat, i ≤ k → k < 480 → σ' (a0 + 5) k = σ (a1 + 5) k) ∧ (∀ k : Nat, k < i → σ' (a0 + 5) k = σ (a0 + 5) k) ∧ ∀ a q, a ≠ a0 + 5 → σ' a q = σ a q := by
  intro j
  induction j with
  | zero =>
    intro n i σ h1 h2
    obtain ⟨n, rfl⟩ : ∃ n2, n = n2 + 1 := ⟨n - 1, by omega⟩
    refine ⟨σ, ?_, fun k a b => by omega, fun _ _ => rfl, fun _ _ _ => rfl⟩
    rw [f_Way_copyFrom_80.eq_2, if_neg (by omega)]
  | succ j ih =>
    intro n i σ h1 h2
    obtain ⟨n, rfl⟩ : ∃ n2, n = n2 + 1 := ⟨n - 1, by omega⟩
    have b1 : (i : Int) < 480 := by omega
    have b2 : 0 ≤ (i : Int) ∧ (i : Int) < 480 := by omega
    have b3 : i < 100000 := by omega
    obtain ⟨σ', k1, k2, k3, k4⟩ := ih n (i + 1) (upS σ (a0 + 5) i (σ (a1 + 5) i)) (by omega) (by omega)
    refine ⟨σ', ?_, fun k hk hk2 => ?_, fun k hk => ?_, fun a q ha => by rw [k4 a q ha, upS_rd, if_neg (fun z => ha z.1)]⟩
    · rw [f_Way_copyFrom_80.eq_2, if_pos b1, if_pos b2, if_pos b2, Int.toNat_natCast, xlet_s, w32_n1 b3, xlet_s]
      exact k1
    · by_cases he : k = i
      · rw [k3 k (by omega), upS_rd, if_pos ⟨rfl, he⟩, he]
      · rw [k2 k (by omega) hk2, upS_rd, if_neg (fun z => hne z.1)]
    · rw [k3 k (by omega), upS_rd, if_neg (by omega)]
