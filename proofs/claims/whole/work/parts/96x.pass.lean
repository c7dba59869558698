/-! TOKENS: pass and readSign, holdsNumber and readNumber -/
theorem sgn1 {p : Int} {σ : xSt} (h : f_Tokens_isSigned p σ = some 1) : σ 2 6 = 6 ∧ σ 2 7 = p := by
  unfold f_Tokens_isSigned at h
  by_cases z1 : σ 2 6 = 6
  · by_cases z2 : σ 2 7 = p
    · exact ⟨z1, z2⟩
    · rw [if_pos z1, if_neg z2] at h
      cases h
  · rw [if_neg z1] at h
    cases h
theorem nam1 {σ : xSt} (h : f_Tokens_isName σ = some 1) : σ 2 6 = 4 := by
  unfold f_Tokens_isName at h
  by_cases z1 : σ 2 6 = 4
  · exact z1
  · rw [if_neg z1] at h
    cases h
theorem wrd1 {a k : Nat} {σ : xSt} (hm : (a, k) ∈ wdA) (h : f_Tokens_is a σ = some 1) : σ 2 6 = 3 := by
  rw [x_isK hm] at h
  by_cases z : σ 2 6 = 3 ∧ σ 2 7 = (pkN 32 (wrdL.getD k []) : Int)
  · exact z.1
  · rw [if_neg z] at h
    cases h
theorem pass_lock {d : Nat → Int} {n lim c i : Nat} {σ τ : xSt} (h : LR d n lim c i σ τ) (h9 : σ 2 9 = 0) (p : Int) :
    (∃ σ' τ', f_Tokens_pass p σ = some (1, σ') ∧ f_M_readSign p τ = some (1, τ') ∧ LR d n lim c (i + 1) σ' τ' ∧ frS σ σ' ∧ frH τ τ') ∨
    (∃ σ' τ', f_Tokens_pass p σ = some (0, σ') ∧ f_M_readSign p τ = some (0, τ') ∧ Flt σ' τ' ∧ σ' 2 9 = 1 ∧ (∀ a k, (a = 2 → k ≠ 9 ∧ k ≠ 10) → σ' a k = σ a k) ∧ ∀ a k, (a = 111 → k ≠ 10 ∧ k ≠ 11) → τ' a k = τ a k) := by
  obtain ⟨v, v0, v1, v2⟩ := h.hand.sign p
  unfold f_Tokens_pass f_M_readSign
  rw [v1, v2, xbR_s, xbR_s]
  rcases v0 with rfl | rfl
  · obtain ⟨σ', τ', a1, a2, a3⟩ := h.hand.fail h9 (p := 1) (fun _ => rfl)
    exact Or.inr ⟨σ', τ', by rw [if_pos rfl, a1, xbW_s]; rfl, by rw [if_pos rfl, a2, xbW_s]; rfl, a3⟩
  · have s6 := (sgn1 v1).1
    obtain ⟨σ', τ', a1, a2, a3⟩ := h.go1 (by omega) (by omega)
    exact Or.inl ⟨σ', τ', by rw [if_neg (by decide), a1, xbR_s], by rw [if_neg (by decide), a2, xbR_s], a3⟩
theorem LR.m13 {d : Nat → Int} {n lim c i : Nat} {σ τ : xSt} (h : LR d n lim c i σ τ) (v : Int) : LR d n lim c i σ (upS τ 111 13 v) := by
  obtain ⟨h1, h2, h3, h4, ⟨t1, t2, t3⟩, h6, m1, m2, m3, m4, m5, m6⟩ := h
  exact ⟨h1, h2, h3, h4, ⟨t1, by rw [upS_nk (by decide)]; exact t2, fun k hk => by rw [upS_ne (by decide)]; exact t3 k hk⟩, by rw [upS_nk (by decide)]; exact h6, by rw [upS_nk (by decide)]; exact m1, by rw [upS_nk (by decide)]; exact m2, by rw [upS_nk (by decide)]; exact m3, fun z => by rw [upS_nk (by decide)]; exact m4 z, fun z => by rw [upS_nk (by decide)]; exact m5 z, fun z => by rw [upS_nk (by decide)]; exact m6 z⟩
theorem num_lock {d : Nat → Int} {n lim c i : Nat} {σ τ : xSt} (h : LR d n lim c i σ τ) (h9 : σ 2 9 = 0) (lo hi : Int) :
    (lo ≤ σ 2 7 ∧ σ 2 7 ≤ hi ∧ ∃ σ' τ', f_Tokens_holdsNumber lo hi σ = some (1, σ) ∧ f_Tokens_step σ = some σ' ∧ f_M_readNumber lo hi τ = some (1, τ') ∧ LR d n lim c (i + 1) σ' τ' ∧ τ' 111 13 = σ 2 7 ∧ frS σ σ' ∧ frH (upS τ 111 13 (σ 2 7)) τ') ∨
    (∃ σ' τ', f_Tokens_holdsNumber lo hi σ = some (0, σ') ∧ f_M_readNumber lo hi τ = some (0, τ') ∧ Flt σ' τ' ∧ (σ' 2 9 = 1 ∨ σ' 2 9 = 2) ∧ (∀ a k, (a = 2 → k ≠ 9 ∧ k ≠ 10) → σ' a k = σ a k) ∧ ∀ a k, (a = 111 → k ≠ 10 ∧ k ≠ 11) → τ' a k = τ a k) := by
  have hh := h.hand
  unfold f_Tokens_holdsNumber f_M_readNumber
  rcases hh.num with ⟨b1, b2, b3⟩ | ⟨b1, b2⟩
  · rw [if_pos b1, if_pos b2, m_isIn, ← b3, xbR_s]
    by_cases hr : lo ≤ σ 2 7 ∧ σ 2 7 ≤ hi
    · obtain ⟨σ', τ', a1, a2, a3, a4, a5⟩ := (h.m13 (σ 2 7)).go1 (by omega) (by omega)
      refine Or.inl ⟨hr.1, hr.2, σ', τ', by rw [if_neg (by omega), if_neg (by omega)], a1, by rw [if_pos hr, if_neg (by decide), xlet_s, a2, xbR_s], a3, by rw [a5 111 13 (fun _ => by decide), upS_eq], a4, a5⟩
    · obtain ⟨σ', τ', a1, a2, a3, a4, a5⟩ := hh.fail h9 (p := 2) (fun z => by omega)
      have e30 : f_Tokens_holdsNumber_30 σ = some (0, σ') := by
        unfold f_Tokens_holdsNumber_30
        rw [a1, xbW_s, if_pos rfl]
      refine Or.inr ⟨σ', τ', ?_, by rw [if_neg hr, if_pos rfl, a2, xbW_s]; rfl, a3, Or.inr a4, a5⟩
      by_cases h1 : σ 2 7 < lo
      · rw [if_pos h1, e30]
      · rw [if_neg h1, if_pos (by omega), e30]
  · obtain ⟨σ', τ', a1, a2, a3, a4, a5⟩ := hh.fail h9 (p := 1) (fun _ => rfl)
    exact Or.inr ⟨σ', τ', by rw [if_neg b1, a1, xbW_s]; rfl, by rw [if_neg b2, a2, xbW_s]; rfl, a3, Or.inl a4, a5⟩
