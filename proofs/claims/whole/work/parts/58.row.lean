/-! the tape's ROW -/
def okC (c : Int) : Prop := c = 104 ∨ c = 116
def bitC (c : Int) : Int := if c = 104 then 1 else 0
theorem x_row20s {n : Nat} {L l : Int} {σ : xSt} (h0 : 0 ≤ l) (h1 : l < L) (h2 : L ≤ 600) : f_X_takeRow_20 (n + 1) L l σ = if σ 1 l.toNat = 104 then f_X_takeRow_20 n L (l + 1) (upS σ 98 l.toNat 1) else if σ 1 l.toNat = 116 then f_X_takeRow_20 n L (l + 1) (upS σ 98 l.toNat 0) else some (-1, σ) := by
  have w1 : w32 (l + 1) = l + 1 := w32_o (by omega) (by omega)
  have e1 : w8 (w8 1) = 1 := by decide
  have e0 : w8 (w8 0) = 0 := by decide
  rw [f_X_takeRow_20.eq_2]
  unfold f_X_takeRow_72 f_X_takeRow_95
  simp (disch := omega) only [if_pos, if_true, xlet_s, w1, e1, e0]
  by_cases hc : σ 1 l.toNat = 104
  · simp only [if_pos hc]
  · rw [if_neg hc, if_neg hc, if_neg hc]
theorem x_row20 : ∀ (j n : Nat) (L l : Int) (σ : xSt), l + (j : Int) = L → 0 ≤ l → L ≤ 600 → j < n → ∃ v σ', f_X_takeRow_20 n L l σ = some (v, σ') ∧ (∀ k : Nat, (k : Int) < l → σ' 98 k = σ 98 k) ∧ σ' 0 1 = σ 0 1 ∧
    ((v = -1 ∧ ∃ k : Nat, l ≤ (k : Int) ∧ (k : Int) < L ∧ ¬ okC (σ 1 k)) ∨ (v = L ∧ ∀ k : Nat, l ≤ (k : Int) → (k : Int) < L → okC (σ 1 k) ∧ σ' 98 k = bitC (σ 1 k))) := by
  intro j
  induction j with
  | zero =>
    intro n L l σ h1 h2 h3 h4
    obtain ⟨n, rfl⟩ : ∃ n2, n = n2 + 1 := ⟨n - 1, by omega⟩
    refine ⟨L, σ, ?_, fun k _ => rfl, rfl, Or.inr ⟨rfl, fun k a b => by omega⟩⟩
    unfold f_X_takeRow_20
    rw [if_neg (by omega)]
  | succ j ih =>
    intro n L l σ h1 h2 h3 h4
    obtain ⟨n, rfl⟩ : ∃ n2, n = n2 + 1 := ⟨n - 1, by omega⟩
    rw [x_row20s h2 (by omega) h3]
    have go : ∀ b : Int, okC (σ 1 l.toNat) → b = bitC (σ 1 l.toNat) → ∃ v σ', f_X_takeRow_20 n L (l + 1) (upS σ 98 l.toNat b) = some (v, σ') ∧ (∀ k : Nat, (k : Int) < l → σ' 98 k = σ 98 k) ∧ σ' 0 1 = σ 0 1 ∧
        ((v = -1 ∧ ∃ k : Nat, l ≤ (k : Int) ∧ (k : Int) < L ∧ ¬ okC (σ 1 k)) ∨ (v = L ∧ ∀ k : Nat, l ≤ (k : Int) → (k : Int) < L → okC (σ 1 k) ∧ σ' 98 k = bitC (σ 1 k))) := by
      intro b hb hb2
      obtain ⟨v, σ', g1, g2, g4, g3⟩ := ih n L (l + 1) (upS σ 98 l.toNat b) (by omega) (by omega) h3 (by omega)
      have e1 : ∀ k, upS σ 98 l.toNat b 1 k = σ 1 k := fun k => rfl
      simp only [e1] at g3
      refine ⟨v, σ', g1, fun k hk => ?_, g4, ?_⟩
      · rw [g2 k (by omega), upS_rd, if_neg (by omega)]
      · rcases g3 with ⟨a1, k, a2, a3, a4⟩ | ⟨a1, a2⟩
        · exact Or.inl ⟨a1, k, by omega, a3, a4⟩
        · refine Or.inr ⟨a1, fun k hk hk2 => ?_⟩
          by_cases he : (k : Int) = l
          · obtain rfl : k = l.toNat := by omega
            refine ⟨hb, ?_⟩
            rw [g2 _ (by omega), upS_rd, if_pos ⟨rfl, rfl⟩, hb2]
          · exact a2 k (by omega) hk2
    split
    · rename_i hc
      exact go 1 (Or.inl hc) (by unfold bitC; rw [if_pos hc])
    · rename_i hc
      split
      · rename_i hc2
        exact go 0 (Or.inr hc2) (by unfold bitC; rw [if_neg hc])
      · rename_i hc2
        refine ⟨-1, σ, rfl, fun k _ => rfl, rfl, Or.inl ⟨rfl, l.toNat, by omega, by omega, fun z => ?_⟩⟩
        rcases z with z | z
        · exact hc z
        · exact hc2 z
theorem m_row19s {n : Nat} {L l : Int} {σ : xSt} (h0 : 0 ≤ l) (h1 : l < L) (h2 : L ≤ 600) : f_M_takeRow_19 (n + 1) L l σ = if σ 112 l.toNat = 104 then f_M_takeRow_19 n L (l + 1) (upS σ 125 l.toNat 1) else if σ 112 l.toNat = 116 then f_M_takeRow_19 n L (l + 1) (upS σ 125 l.toNat 0) else some (-1, σ) := by
  have w1 : w32 (l + 1) = l + 1 := w32_o (by omega) (by omega)
  rw [f_M_takeRow_19.eq_2]
  unfold f_M_takeRow_51 f_M_takeRow_74
  simp (disch := omega) only [if_pos, if_true, xlet_s, w1]
  by_cases hc : σ 112 l.toNat = 104
  · simp only [if_pos hc]
  · rw [if_neg hc, if_neg hc, if_neg hc]
theorem m_row19 : ∀ (j n : Nat) (L l : Int) (σ : xSt), l + (j : Int) = L → 0 ≤ l → L ≤ 600 → j < n → ∃ v σ', f_M_takeRow_19 n L l σ = some (v, σ') ∧ (∀ k : Nat, (k : Int) < l → σ' 125 k = σ 125 k) ∧ σ' 111 2 = σ 111 2 ∧
    ((v = -1 ∧ ∃ k : Nat, l ≤ (k : Int) ∧ (k : Int) < L ∧ ¬ okC (σ 112 k)) ∨ (v = L ∧ σ' 111 44 = 0 ∧ ∀ k : Nat, l ≤ (k : Int) → (k : Int) < L → okC (σ 112 k) ∧ σ' 125 k = bitC (σ 112 k))) := by
  intro j
  induction j with
  | zero =>
    intro n L l σ h1 h2 h3 h4
    obtain ⟨n, rfl⟩ : ∃ n2, n = n2 + 1 := ⟨n - 1, by omega⟩
    refine ⟨L, upS σ 111 44 0, ?_, fun k _ => rfl, rfl, Or.inr ⟨rfl, rfl, fun k a b => by omega⟩⟩
    unfold f_M_takeRow_19
    rw [if_neg (by omega)]
    rfl
  | succ j ih =>
    intro n L l σ h1 h2 h3 h4
    obtain ⟨n, rfl⟩ : ∃ n2, n = n2 + 1 := ⟨n - 1, by omega⟩
    rw [m_row19s h2 (by omega) h3]
    have go : ∀ b : Int, okC (σ 112 l.toNat) → b = bitC (σ 112 l.toNat) → ∃ v σ', f_M_takeRow_19 n L (l + 1) (upS σ 125 l.toNat b) = some (v, σ') ∧ (∀ k : Nat, (k : Int) < l → σ' 125 k = σ 125 k) ∧ σ' 111 2 = σ 111 2 ∧
        ((v = -1 ∧ ∃ k : Nat, l ≤ (k : Int) ∧ (k : Int) < L ∧ ¬ okC (σ 112 k)) ∨ (v = L ∧ σ' 111 44 = 0 ∧ ∀ k : Nat, l ≤ (k : Int) → (k : Int) < L → okC (σ 112 k) ∧ σ' 125 k = bitC (σ 112 k))) := by
      intro b hb hb2
      obtain ⟨v, σ', g1, g2, g4, g3⟩ := ih n L (l + 1) (upS σ 125 l.toNat b) (by omega) (by omega) h3 (by omega)
      have e1 : ∀ k, upS σ 125 l.toNat b 112 k = σ 112 k := fun k => rfl
      simp only [e1] at g3
      refine ⟨v, σ', g1, fun k hk => ?_, g4, ?_⟩
      · rw [g2 k (by omega), upS_rd, if_neg (by omega)]
      · rcases g3 with ⟨a1, k, a2, a3, a4⟩ | ⟨a1, a5, a2⟩
        · exact Or.inl ⟨a1, k, by omega, a3, a4⟩
        · refine Or.inr ⟨a1, a5, fun k hk hk2 => ?_⟩
          by_cases he : (k : Int) = l
          · obtain rfl : k = l.toNat := by omega
            refine ⟨hb, ?_⟩
            rw [g2 _ (by omega), upS_rd, if_pos ⟨rfl, rfl⟩, hb2]
          · exact a2 k (by omega) hk2
    split
    · rename_i hc
      exact go 1 (Or.inl hc) (by unfold bitC; rw [if_pos hc])
    · rename_i hc
      split
      · rename_i hc2
        exact go 0 (Or.inr hc2) (by unfold bitC; rw [if_neg hc])
      · rename_i hc2
        refine ⟨-1, σ, rfl, fun k _ => rfl, rfl, Or.inl ⟨rfl, l.toNat, by omega, by omega, fun z => ?_⟩⟩
        rcases z with z | z
        · exact hc z
        · exact hc2 z
/-- a ROW of L bytes on the tape at A -/
def RowP (σ : xSt) (A : Nat) (lo hi L : Int) : Prop := lo ≤ L ∧ L ≤ hi ∧ ∀ k : Nat, (k : Int) < L → okC (σ A k)
theorem x_takeRow {σ : xSt} {lo hi : Int} (h0 : 0 ≤ σ 0 1) (h2 : hi ≤ 600) : ∃ v σ', f_X_takeRow lo hi σ = some (v, σ') ∧ σ' 0 1 = 0 ∧ ((v = -1 ∧ ¬ RowP σ 1 lo hi (σ 0 1)) ∨ (v = σ 0 1 ∧ RowP σ 1 lo hi (σ 0 1) ∧ ∀ k : Nat, (k : Int) < σ 0 1 → σ' 98 k = bitC (σ 1 k))) := by
  unfold f_X_takeRow f_X_takeTape
  simp only [xlet_s, xbW_s]
  by_cases hr : lo ≤ σ 0 1 ∧ σ 0 1 ≤ hi
  · rw [if_neg (by omega), if_neg (by omega)]
    obtain ⟨v, σ', g1, g2, g4, g3⟩ := x_row20 (σ 0 1).toNat 1000000 (σ 0 1) 0 (upS σ 0 1 0) (by omega) (by omega) (by omega) (by omega)
    refine ⟨v, σ', g1, g4, ?_⟩
    rcases g3 with ⟨a1, k, a2, a3, a4⟩ | ⟨a1, a2⟩
    · exact Or.inl ⟨a1, fun z => a4 (z.2.2 k a3)⟩
    · exact Or.inr ⟨a1, ⟨hr.1, hr.2, fun k hk => (a2 k (by omega) hk).1⟩, fun k hk => (a2 k (by omega) hk).2⟩
  · refine ⟨-1, upS σ 0 1 0, ?_, rfl, Or.inl ⟨rfl, fun z => hr ⟨z.1, z.2.1⟩⟩⟩
    (repeat' split) <;> first | rfl | (exfalso; omega)
theorem m_takeRow {σ : xSt} {lo hi : Int} (h0 : 0 ≤ σ 111 2) (h2 : hi ≤ 600) : ∃ v σ', f_M_takeRow lo hi σ = some (v, σ') ∧ σ' 111 2 = 0 ∧ ((v = -1 ∧ ¬ RowP σ 112 lo hi (σ 111 2)) ∨ (v = σ 111 2 ∧ σ' 111 44 = 0 ∧ RowP σ 112 lo hi (σ 111 2) ∧ ∀ k : Nat, (k : Int) < σ 111 2 → σ' 125 k = bitC (σ 112 k))) := by
  unfold f_M_takeRow f_M_gather
  simp only [xlet_s, xbW_s, m_isIn, xbR_s]
  by_cases hr : lo ≤ σ 111 2 ∧ σ 111 2 ≤ hi
  · rw [if_pos hr, if_neg (by omega)]
    obtain ⟨v, σ', g1, g2, g4, g3⟩ := m_row19 (σ 111 2).toNat 1000000 (σ 111 2) 0 (upS σ 111 2 0) (by omega) (by omega) (by omega) (by omega)
    refine ⟨v, σ', g1, g4, ?_⟩
    rcases g3 with ⟨a1, k, a2, a3, a4⟩ | ⟨a1, a5, a2⟩
    · exact Or.inl ⟨a1, fun z => a4 (z.2.2 k a3)⟩
    · exact Or.inr ⟨a1, a5, ⟨hr.1, hr.2, fun k hk => (a2 k (by omega) hk).1⟩, fun k hk => (a2 k (by omega) hk).2⟩
  · refine ⟨-1, upS σ 111 2 0, ?_, rfl, Or.inl ⟨rfl, fun z => hr ⟨z.1, z.2.1⟩⟩⟩
    rw [if_neg hr, if_pos rfl]
/-- both sides take the same ROW -/
theorem row_ok {σ : xSt} {lo hi : Int} (ht : C_tape σ) (hlo : 0 ≤ lo) (h2 : hi ≤ 600) : ∃ v σx, f_X_takeRow lo hi σ = some (v, σx) ∧ σx 0 1 = 0 ∧ (v = -1 ∨ lo ≤ v ∧ v ≤ hi ∧ ∀ k : Nat, (k : Int) < v → σx 98 k = 0 ∨ σx 98 k = 1) ∧
    ∀ σ1 : xSt, σ1 111 2 = σ 111 2 → (∀ k, σ1 112 k = σ 112 k) → ∃ σm, f_M_takeRow lo hi σ1 = some (v, σm) ∧ σm 111 2 = 0 ∧ (v ≠ -1 → σm 111 44 = 0) ∧ (∀ k : Nat, (k : Int) < v → σm 125 k = σx 98 k) := by
  obtain ⟨t0, t1, t2, t3⟩ := ht
  have hc : ∀ k : Nat, (k : Int) < σ 111 2 → (σ 1 k = 104 ↔ σ 112 k = 104) ∧ (σ 1 k = 116 ↔ σ 112 k = 116) := by
    intro k hk
    obtain ⟨a1, a2, a3⟩ := t3 k hk
    rw [a1]
    unfold w8
    rw [Int.bmod_def]
    split <;> omega
  obtain ⟨v, σx, x1, x2, x3⟩ := x_takeRow (σ := σ) (lo := lo) (hi := hi) (by omega) h2
  refine ⟨v, σx, x1, x2, ?_, ?_⟩
  · rcases x3 with ⟨a1, -⟩ | ⟨a1, a2, a3⟩
    · exact Or.inl a1
    · refine Or.inr ⟨by have := a2.1; omega, by have := a2.2.1; omega, fun k hk => ?_⟩
      rw [a3 k (by omega)]
      unfold bitC
      split
      · exact Or.inr rfl
      · exact Or.inl rfl
  · intro σ1 e1 e2
    obtain ⟨v2, σm, m1, m2, m3⟩ := m_takeRow (σ := σ1) (lo := lo) (hi := hi) (by omega) h2
    have hP : RowP σ 1 lo hi (σ 0 1) ↔ RowP σ1 112 lo hi (σ1 111 2) := by
      unfold RowP okC
      rw [e1, t2]
      constructor
      · rintro ⟨a, b, c⟩
        refine ⟨a, b, fun k hk => ?_⟩
        rw [e2, ← (hc k hk).1, ← (hc k hk).2]
        exact c k hk
      · rintro ⟨a, b, c⟩
        refine ⟨a, b, fun k hk => ?_⟩
        have := c k hk
        rw [e2, ← (hc k hk).1, ← (hc k hk).2] at this
        exact this
    rcases x3 with ⟨a1, a2⟩ | ⟨a1, a2, a3⟩
    · rcases m3 with ⟨b1, b2⟩ | ⟨b1, b5, b2, b3⟩
      · exact ⟨σm, by rw [m1, a1, b1], m2, fun z => absurd a1 z, fun k hk => by omega⟩
      · exact absurd (hP.mpr b2) a2
    · rcases m3 with ⟨b1, b2⟩ | ⟨b1, b5, b2, b3⟩
      · exact absurd (hP.mp a2) b2
      · have hv : v2 = v := by omega
        refine ⟨σm, by rw [m1, hv], m2, fun _ => b5, fun k hk => ?_⟩
        rw [b3 k (by omega), a3 k (by omega), e2]
        unfold bitC
        have h9 := (hc k (by omega)).1
        by_cases h8 : σ 1 k = 104
        · rw [if_pos h8, if_pos (h9.mp h8)]
        · rw [if_neg h8, if_neg (fun z => h8 (h9.mpr z))]
theorem tape0 {σ : xSt} (h1 : σ 0 1 = 0) (h2 : σ 111 2 = 0) : C_tape σ := ⟨by omega, by omega, by omega, fun k hk => by omega⟩
