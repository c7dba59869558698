/-! TOKENS: asking for words and NAMES -/
theorem wrd_ok : wrdL.all (fun l => l.all (fun c => Nat.ble 1 c && Nat.ble c 26)) = true ∧ wrdL.length = 14 := by decide +kernel
theorem wrd_c {k : Nat} (hk : k < 14) : wrdL.getD k [] ∈ wrdL ∧ ∀ c ∈ wrdL.getD k [], 1 ≤ c ∧ c ≤ 26 := by
  have h1 : k < wrdL.length := by rw [wrd_ok.2]; exact hk
  have e : wrdL.getD k [] = wrdL[k] := by rw [List.getD_eq_getElem?_getD, List.getElem?_eq_getElem h1]; rfl
  have hm : wrdL.getD k [] ∈ wrdL := by rw [e]; exact List.getElem_mem h1
  refine ⟨hm, fun c hc => ?_⟩
  have q := List.all_eq_true.mp (List.all_eq_true.mp wrd_ok.1 _ hm) c hc
  rw [Bool.and_eq_true] at q
  exact ⟨Nat.le_of_ble_eq_true q.1, Nat.le_of_ble_eq_true q.2⟩
theorem Hand.word {σ τ : xSt} (h : Hand σ τ) {a k : Nat} (hm : (a, k) ∈ wdA) : ∃ v : Int, (v = 0 ∨ v = 1) ∧ f_Tokens_is a σ = some v ∧ f_M_isWord (k : Int) τ = some v := by
  have hk : k < 14 := by
    have q := List.all_eq_true.mp wdA_ok (a, k) hm
    simp only [Bool.and_eq_true, decide_eq_true_iff] at q
    exact q.2
  obtain ⟨w1, w2⟩ := wrd_c hk
  have key : (σ 2 6 = 3 ∧ σ 2 7 = (pkN 32 (wrdL.getD k []) : Int)) ↔ (τ 111 7 = 2 ∧ τ 111 12 = (pkN 27 (wrdL.getD k []) : Int)) := by
    obtain ⟨-, h⟩ := h
    rcases h with ⟨h1, h2⟩ | ⟨h1, h2⟩ | ⟨h1, h2⟩ | ⟨l, l1, l2, l3, l4, l5, l6, l7⟩ | ⟨h1, h2, -⟩ | ⟨h1, h2, -⟩
    · exact ⟨fun z => by omega, fun z => by omega⟩
    · exact ⟨fun z => by omega, fun z => by omega⟩
    · exact ⟨fun z => by omega, fun z => by omega⟩
    · constructor
      · rintro ⟨z1, z2⟩
        rw [l4] at z2
        have e := pk_inj2 (b := 32) (by decide) l3 w2 (by omega)
        exact ⟨l6, by rw [l5, e]⟩
      · rintro ⟨z1, z2⟩
        rw [l5] at z2
        have e := pk_inj2 (b := 27) (by decide) l3 w2 (by omega)
        have hm2 : (pkN 32 l : Int) ∈ wd32 := by
          rw [e]
          exact List.mem_map.mpr ⟨_, w1, rfl⟩
        refine ⟨?_, by rw [l4, e]⟩
        rcases l7 with ⟨-, z⟩ | ⟨z, -⟩
        · exact z
        · exact absurd hm2 z
    · exact ⟨fun z => by omega, fun z => by omega⟩
    · exact ⟨fun z => by omega, fun z => by omega⟩
  rw [x_isK hm, m_isW hk]
  by_cases hz : σ 2 6 = 3 ∧ σ 2 7 = (pkN 32 (wrdL.getD k []) : Int)
  · exact ⟨1, Or.inr rfl, by rw [if_pos hz], by rw [if_pos (key.mp hz)]⟩
  · exact ⟨0, Or.inl rfl, by rw [if_neg hz], by rw [if_neg (fun z => hz (key.mpr z))]⟩
theorem m_isName12 {τ : xSt} : ∀ (j fu l : Nat), l + j = 14 → j < fu → ∃ v : Int, f_M_isName_12 fu (l : Int) τ = some v ∧ (v = 0 ∧ (∃ k : Nat, k < 14 ∧ τ 111 12 = (pkN 27 (wrdL.getD k []) : Int)) ∨ v = 1 ∧ ∀ k : Nat, l ≤ k → k < 14 → τ 111 12 ≠ (pkN 27 (wrdL.getD k []) : Int)) := by
  intro j
  induction j with
  | zero =>
    intro fu l g1 g2
    obtain ⟨fu, rfl⟩ : ∃ n2, fu = n2 + 1 := ⟨fu - 1, by omega⟩
    exact ⟨1, by rw [f_M_isName_12.eq_2, if_pos (by omega)], Or.inr ⟨rfl, fun k z1 z2 => by omega⟩⟩
  | succ j ih =>
    intro fu l g1 g2
    obtain ⟨fu, rfl⟩ : ∃ n2, fu = n2 + 1 := ⟨fu - 1, by omega⟩
    have hl : l < 14 := by omega
    have l1 : l < 100000 := by omega
    by_cases hz : τ 111 12 = (pkN 27 (wrdL.getD l []) : Int)
    · exact ⟨0, by rw [f_M_isName_12.eq_2, if_neg (by omega), m_wordOf hl, xbR_s, if_pos (xlc_z.mpr hz)], Or.inl ⟨rfl, l, hl, hz⟩⟩
    · obtain ⟨v, v1, v2⟩ := ih fu (l + 1) (by omega) (by omega)
      refine ⟨v, by rw [f_M_isName_12.eq_2, if_neg (by omega), m_wordOf hl, xbR_s, if_neg (fun z => hz (xlc_z.mp z)), w32_n1 l1, xlet_s, v1], ?_⟩
      rcases v2 with z | ⟨z1, z2⟩
      · exact Or.inl z
      · refine Or.inr ⟨z1, fun k y1 y2 => ?_⟩
        by_cases hk : k = l
        · rw [hk]
          exact hz
        · exact z2 k (by omega) y2
theorem Hand.name {σ τ : xSt} (h : Hand σ τ) : (f_Tokens_isName σ = some 1 ∧ f_M_isName τ = some 1 ∧ NmR (σ 2 7) (τ 111 12)) ∨ (f_Tokens_isName σ = some 0 ∧ f_M_isName τ = some 0) := by
  have no : σ 2 6 ≠ 4 → τ 111 7 ≠ 2 → f_Tokens_isName σ = some 0 ∧ f_M_isName τ = some 0 := fun z1 z2 => by
    unfold f_Tokens_isName f_M_isName
    rw [if_neg z1, if_neg z2]
    exact ⟨rfl, rfl⟩
  obtain ⟨-, h⟩ := h
  rcases h with ⟨h1, h2⟩ | ⟨h1, h2⟩ | ⟨h1, h2⟩ | ⟨l, l1, l2, l3, l4, l5, l6, l7⟩ | ⟨h1, h2, -⟩ | ⟨h1, h2, -⟩
  · exact Or.inr (no (by omega) (by omega))
  · exact Or.inr (no (by omega) (by omega))
  · exact Or.inr (no (by omega) (by omega))
  · obtain ⟨v, v1, v2⟩ := m_isName12 (τ := τ) 14 1000000 0 (by omega) (by omega)
    rw [c0n] at v1
    have hm : f_M_isName τ = some v := by
      unfold f_M_isName
      rw [if_pos l6, v1]
    have key : (pkN 32 l : Int) ∈ wd32 ↔ ∃ k : Nat, k < 14 ∧ τ 111 12 = (pkN 27 (wrdL.getD k []) : Int) := by
      constructor
      · intro z
        obtain ⟨w, w1, w2⟩ := List.mem_map.mp z
        obtain ⟨k, hk, hw⟩ := List.getElem_of_mem w1
        have hk14 : k < 14 := by rw [← wrd_ok.2]; exact hk
        have e : wrdL.getD k [] = w := by rw [List.getD_eq_getElem?_getD, List.getElem?_eq_getElem hk, ← hw]; rfl
        obtain ⟨-, w4⟩ := wrd_c hk14
        rw [e] at w4
        have e2 := pk_inj2 (b := 32) (by decide) l3 w4 (by omega)
        exact ⟨k, hk14, by rw [l5, e, e2]⟩
      · rintro ⟨k, hk, z⟩
        obtain ⟨w3, w4⟩ := wrd_c hk
        rw [l5] at z
        have e := pk_inj2 (b := 27) (by decide) l3 w4 (by omega)
        rw [e]
        exact List.mem_map.mpr ⟨_, w3, rfl⟩
    rcases l7 with ⟨z1, z2⟩ | ⟨z1, z2⟩
    · obtain ⟨k, hk, z⟩ := key.mp z1
      have hv : v = 0 := by
        rcases v2 with ⟨y, -⟩ | ⟨-, y⟩
        · exact y
        · exact absurd z (y k (Nat.zero_le k) hk)
      refine Or.inr ⟨?_, by rw [hm, hv]⟩
      unfold f_Tokens_isName
      rw [if_neg (by omega)]
    · have hv : v = 1 := by
        rcases v2 with ⟨-, y⟩ | ⟨y, -⟩
        · exact absurd (key.mpr y) z1
        · exact y
      refine Or.inl ⟨?_, by rw [hm, hv], l, l1, l2, l3, by rw [l4]; exact (pk_nat l).symm, by rw [l5]; exact (pk_nat l).symm⟩
      unfold f_Tokens_isName
      rw [if_pos z2]
  · exact Or.inr (no (by omega) (by omega))
  · exact Or.inr (no (by omega) (by omega))
