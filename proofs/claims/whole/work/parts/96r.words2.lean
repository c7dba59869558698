/-! TOKENS: words -/
def tfold (a1 : Nat) : Nat → Nat → Int → Int
  | 0, _, a => a
  | j + 1, l, a => tfold a1 j (l + 1) (w32 (w32 (w32 (w32 (a * 32) + sch a1 (l : Int)) - 97) + 1))
theorem x_is4 {a1 : Nat} : ∀ (j fu l : Nat) (a : Int) (σ : xSt), (l : Int) + j = slen a1 → l + j < 100000 → j < fu → f_Tokens_is_4 a1 fu a (l : Int) σ = some (if σ 2 6 = 3 ∧ σ 2 7 = tfold a1 j l a then 1 else 0) := by
  intro j
  induction j with
  | zero =>
    intro fu l a σ g1 g3 g2
    obtain ⟨fu, rfl⟩ : ∃ n2, fu = n2 + 1 := ⟨fu - 1, by omega⟩
    have e : tfold a1 0 l a = a := rfl
    rw [f_Tokens_is_4.eq_2, if_neg (by omega), e]
    by_cases h1 : σ 2 6 = 3
    · by_cases h2 : σ 2 7 = a
      · rw [if_pos h1, if_pos h2, if_pos ⟨h1, h2⟩]
      · rw [if_pos h1, if_neg h2, if_neg (fun z => h2 z.2)]
    · rw [if_neg h1, if_neg (fun z => h1 z.1)]
  | succ j ih =>
    intro fu l a σ g1 g3 g2
    obtain ⟨fu, rfl⟩ : ∃ n2, fu = n2 + 1 := ⟨fu - 1, by omega⟩
    have c1 : (l : Int) < slen a1 := by omega
    have c2 : 0 ≤ (l : Int) ∧ (l : Int) < slen a1 := by omega
    have l1 : l < 100000 := by omega
    have e : tfold a1 (j + 1) l a = tfold a1 j (l + 1) (w32 (w32 (w32 (w32 (a * 32) + sch a1 (l : Int)) - 97) + 1)) := rfl
    rw [f_Tokens_is_4.eq_2, if_pos c1, if_pos c2]
    unfold f_Tokens_pack
    rw [xbR_s, w32_n1 l1, xlet_s, ih fu (l + 1) _ σ (by omega) (by omega) (by omega), e]
theorem x_is {a1 : Nat} {σ : xSt} (h : slen a1 < 100000) : f_Tokens_is a1 σ = some (if σ 2 6 = 3 ∧ σ 2 7 = tfold a1 (slen a1).toNat 0 0 then 1 else 0) := by
  have h0 : 0 ≤ slen a1 := Int.natCast_nonneg _
  have q := x_is4 (a1 := a1) (slen a1).toNat 1000000 0 0 σ (by omega) (by omega) (by omega)
  rw [c0n] at q
  exact q
theorem m_isW {τ : xSt} {k : Nat} (hk : k < 14) : f_M_isWord (k : Int) τ = some (if τ 111 7 = 2 ∧ τ 111 12 = (pkN 27 (wrdL.getD k []) : Int) then 1 else 0) := by
  unfold f_M_isWord
  by_cases h1 : τ 111 7 = 2
  · rw [if_pos h1, m_wordOf hk, xbR_s]
    by_cases h2 : τ 111 12 = (pkN 27 (wrdL.getD k []) : Int)
    · rw [if_pos (xlc_z.mpr h2), if_pos ⟨h1, h2⟩]
    · rw [if_neg (fun z => h2 (xlc_z.mp z)), if_neg (fun z => h2 z.2)]
  · rw [if_neg h1, if_neg (fun z => h1 z.1)]
