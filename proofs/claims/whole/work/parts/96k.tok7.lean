/-! TOKENS: the class reads one -/
theorem tw_4 (v : Int) : ∀ (j fu l : Nat) (a : Int), (l : Int) + j = slen 154 → l + j < 100000 → j < fu → ∃ r : Int, (r = 0 ∨ r = 1) ∧ ∀ σ, f_Tokens_isToldWord_4 fu v a (l : Int) σ = some r := by
  intro j
  induction j with
  | zero =>
    intro fu l a g1 g3 g2
    obtain ⟨fu, rfl⟩ : ∃ n2, fu = n2 + 1 := ⟨fu - 1, by omega⟩
    exact ⟨0, Or.inl rfl, fun σ => by rw [f_Tokens_isToldWord_4.eq_2, if_neg (by omega)]⟩
  | succ j ih =>
    intro fu l a g1 g3 g2
    obtain ⟨fu, rfl⟩ : ∃ n2, fu = n2 + 1 := ⟨fu - 1, by omega⟩
    have c1 : (l : Int) < slen 154 := by omega
    have c2 : 0 ≤ (l : Int) ∧ (l : Int) < slen 154 := by omega
    have l1 : l < 100000 := by omega
    by_cases h : sch 154 (l : Int) = 32
    · by_cases ha : a = v
      · exact ⟨1, Or.inr rfl, fun σ => by rw [f_Tokens_isToldWord_4.eq_2, if_pos c1, if_pos c2, if_pos h, if_pos ha]⟩
      · obtain ⟨r, r1, r2⟩ := ih fu (l + 1) 0 (by omega) (by omega) (by omega)
        exact ⟨r, r1, fun σ => by rw [f_Tokens_isToldWord_4.eq_2, if_pos c1, if_pos c2, if_pos h, if_neg ha, w32_n1 l1, xlet_s, r2]⟩
    · obtain ⟨r, r1, r2⟩ := ih fu (l + 1) (w32 (w32 (w32 (w32 (a * 32) + sch 154 (l : Int)) - 97) + 1)) (by omega) (by omega) (by omega)
      refine ⟨r, r1, fun σ => ?_⟩
      rw [f_Tokens_isToldWord_4.eq_2, if_pos c1, if_pos c2, if_neg h, if_pos c2]
      unfold f_Tokens_pack
      rw [xbR_s, w32_n1 l1, xlet_s, r2]
