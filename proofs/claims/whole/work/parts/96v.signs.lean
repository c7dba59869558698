/-! TOKENS: signs, numbers, faults in lock-step -/
theorem Hand.sign {σ τ : xSt} (h : Hand σ τ) (p : Int) : ∃ v : Int, (v = 0 ∨ v = 1) ∧ f_Tokens_isSigned p σ = some v ∧ f_M_isSign p τ = some v := by
  have key : (σ 2 6 = 6 ∧ σ 2 7 = p) ↔ (τ 111 7 = 4 ∧ τ 111 9 = p) := by
    obtain ⟨-, h⟩ := h
    rcases h with ⟨h1, h2⟩ | ⟨h1, h2⟩ | ⟨h1, h2⟩ | ⟨l, l1, l2, l3, l4, l5, l6, ⟨l7, l8⟩ | ⟨l7, l8⟩⟩ | ⟨h1, h2, -⟩ | ⟨h1, h2, h3⟩ <;> exact ⟨fun z => by omega, fun z => by omega⟩
  have e1 : f_Tokens_isSigned p σ = some (if σ 2 6 = 6 ∧ σ 2 7 = p then 1 else 0) := by
    unfold f_Tokens_isSigned
    by_cases z1 : σ 2 6 = 6
    · by_cases z2 : σ 2 7 = p
      · rw [if_pos z1, if_pos z2, if_pos ⟨z1, z2⟩]
      · rw [if_pos z1, if_neg z2, if_neg (fun z => z2 z.2)]
    · rw [if_neg z1, if_neg (fun z => z1 z.1)]
  have e2 : f_M_isSign p τ = some (if τ 111 7 = 4 ∧ τ 111 9 = p then 1 else 0) := by
    unfold f_M_isSign
    by_cases z1 : τ 111 7 = 4
    · by_cases z2 : τ 111 9 = p
      · rw [if_pos z1, if_pos z2, if_pos ⟨z1, z2⟩]
      · rw [if_pos z1, if_neg z2, if_neg (fun z => z2 z.2)]
    · rw [if_neg z1, if_neg (fun z => z1 z.1)]
  rw [e1, e2]
  by_cases hz : σ 2 6 = 6 ∧ σ 2 7 = p
  · exact ⟨1, Or.inr rfl, by rw [if_pos hz], by rw [if_pos (key.mp hz)]⟩
  · exact ⟨0, Or.inl rfl, by rw [if_neg hz], by rw [if_neg (fun z => hz (key.mpr z))]⟩
theorem Hand.num {σ τ : xSt} (h : Hand σ τ) : (σ 2 6 = 5 ∧ τ 111 7 = 3 ∧ σ 2 7 = τ 111 8) ∨ (σ 2 6 ≠ 5 ∧ τ 111 7 ≠ 3) := by
  obtain ⟨-, h⟩ := h
  rcases h with ⟨h1, h2⟩ | ⟨h1, h2⟩ | ⟨h1, h2⟩ | ⟨l, l1, l2, l3, l4, l5, l6, ⟨l7, l8⟩ | ⟨l7, l8⟩⟩ | ⟨h1, h2, h3⟩ | ⟨h1, h2, h3⟩
  · exact Or.inr ⟨by omega, by omega⟩
  · exact Or.inr ⟨by omega, by omega⟩
  · exact Or.inr ⟨by omega, by omega⟩
  · exact Or.inr ⟨by omega, by omega⟩
  · exact Or.inr ⟨by omega, by omega⟩
  · exact Or.inl ⟨h1, h2, h3⟩
  · exact Or.inr ⟨by omega, by omega⟩
theorem Hand.endd {σ τ : xSt} (h : Hand σ τ) : σ 2 6 = 0 ↔ τ 111 7 = 0 := by
  obtain ⟨-, h⟩ := h
  rcases h with ⟨h1, h2⟩ | ⟨h1, h2⟩ | ⟨h1, h2⟩ | ⟨l, l1, l2, l3, l4, l5, l6, ⟨l7, l8⟩ | ⟨l7, l8⟩⟩ | ⟨h1, h2, h3⟩ | ⟨h1, h2, h3⟩ <;> exact ⟨fun z => by omega, fun z => by omega⟩
/-- one fault on both sides -/
def Flt (σ τ : xSt) : Prop := σ 2 9 = τ 111 10 ∧ σ 2 10 = τ 111 11
theorem Hand.fail {σ τ : xSt} (h : Hand σ τ) (h9 : σ 2 9 = 0) {p : Int} (hp : τ 111 7 = 1 → p = 1) : ∃ σ' τ', f_Tokens_fail p σ = some (0, σ') ∧ f_M_bad p τ = some (0, τ') ∧ Flt σ' τ' ∧ σ' 2 9 = p ∧ (∀ a k, (a = 2 → k ≠ 9 ∧ k ≠ 10) → σ' a k = σ a k) ∧ ∀ a k, (a = 111 → k ≠ 10 ∧ k ≠ 11) → τ' a k = τ a k := by
  have hm : f_M_bad p τ = some (0, upS (upS τ 111 10 p) 111 11 (τ 111 6)) := by
    have e : ∀ c, f_M_bad_14 c τ = some (0, upS (upS τ 111 10 c) 111 11 (τ 111 6)) := fun c => by
      unfold f_M_bad_14
      rw [xlet_s, upS_nk (by decide), xlet_s]
    unfold f_M_bad
    by_cases h1 : τ 111 7 = 1
    · rw [if_pos h1, e, hp h1]
    · rw [if_neg h1, e]
  refine ⟨upS (upS σ 2 9 p) 2 10 (σ 2 8), _, ?_, hm, ⟨?_, ?_⟩, ?_, fun a k z => ?_, fun a k z => ?_⟩
  · unfold f_Tokens_fail
    rw [if_pos h9, xlet_s, upS_nk (by decide), xlet_s]
  · rw [upS_nk (by decide), upS_eq, upS_nk (by decide), upS_eq]
  · rw [upS_eq, upS_eq, h.1]
  · rw [upS_nk (by decide), upS_eq]
  · rw [upS_rd, if_neg (fun y => (z y.1).2 y.2), upS_rd, if_neg (fun y => (z y.1).1 y.2)]
  · rw [upS_rd, if_neg (fun y => (z y.1).2 y.2), upS_rd, if_neg (fun y => (z y.1).1 y.2)]
