/-! runs, seldom -/
theorem ch_mid : (List.range 61).all (fun n => (List.range (n + 1)).all (fun k => Nat.ble (chN n k) (chN n (n / 2)) && Nat.ble 1 (chN n k))) = true := by decide +kernel
theorem ch_mul0 : (List.range 60).all (fun n => (List.range (60 - n)).all (fun m => Nat.ble (chN n (n / 2) * chN m (m / 2)) 59132290782430712)) = true := by decide +kernel
theorem ch_pos {n k : Nat} (hn : n ≤ 60) (hk : k ≤ n) : 1 ≤ chN n k := by
  have h1 := List.all_eq_true.mp (List.all_eq_true.mp ch_mid n (List.mem_range.mpr (by omega))) k (List.mem_range.mpr (by omega))
  simp only [Bool.and_eq_true] at h1
  exact Nat.le_of_ble_eq_true h1.2
theorem ch_le_mid {n k : Nat} (hn : n ≤ 60) : chN n k ≤ chN n (n / 2) := by
  by_cases hk : k ≤ n
  · have h1 := List.all_eq_true.mp (List.all_eq_true.mp ch_mid n (List.mem_range.mpr (by omega))) k (List.mem_range.mpr (by omega))
    simp only [Bool.and_eq_true] at h1
    exact Nat.le_of_ble_eq_true h1.1
  · rw [chN_gt hn (by omega)]
    exact Nat.zero_le _
theorem ch_mul {n m k j : Nat} (h : n + m ≤ 59) : chN n k * chN m j ≤ 59132290782430712 := by
  have h1 := List.all_eq_true.mp (List.all_eq_true.mp ch_mul0 n (List.mem_range.mpr (by omega))) m (List.mem_range.mpr (by omega))
  exact Nat.le_trans (Nat.mul_le_mul (ch_le_mid (by omega)) (ch_le_mid (by omega))) (Nat.le_of_ble_eq_true h1)
theorem ch_00 : chN 0 0 = 1 := by decide +kernel
theorem ch_0 {n : Nat} (hn : n ≤ 60) : chN n 0 = 1 := by
  have h1 : (List.range 61).all (fun n => Nat.beq (chN n 0) 1) = true := by decide +kernel
  exact Nat.eq_of_beq_eq_true (List.all_eq_true.mp h1 n (List.mem_range.mpr (by omega)))
theorem cu_le1 {a i : Nat} (ha : a ≤ 60) : cuN a i ≤ 1 ∨ ∃ a2 k, a = a2 + 1 ∧ cuN a i = chN a2 k := by
  cases a with
  | zero =>
    cases i with
    | zero => exact Or.inl (Nat.le_refl _)
    | succ i => exact Or.inl (Nat.zero_le _)
  | succ a =>
    cases i with
    | zero => exact Or.inl (Nat.zero_le _)
    | succ i => exact Or.inr ⟨a, i, rfl, rfl⟩
theorem cu_mul {a b i j : Nat} (h : a + b ≤ 60) : cuN a i * cuN b j ≤ 59132290782430712 := by
  have big : ∀ n k, n ≤ 59 → chN n k ≤ 59132290782430712 := by
    intro n k hn
    have h1 := ch_mul (n := n) (m := 0) (k := k) (j := 0) (by omega)
    rw [ch_00, Nat.mul_one] at h1
    exact h1
  rcases cu_le1 (a := a) (i := i) (by omega) with h1 | ⟨a2, k, h1, h2⟩
  · rcases cu_le1 (a := b) (i := j) (by omega) with h3 | ⟨b2, k2, h3, h4⟩
    · have := Nat.mul_le_mul h1 h3
      omega
    · have h5 := big b2 k2 (by omega)
      have := Nat.mul_le_mul h1 (Nat.le_of_eq h4)
      omega
  · rcases cu_le1 (a := b) (i := j) (by omega) with h3 | ⟨b2, k2, h3, h4⟩
    · have h5 := big a2 k (by omega)
      have := Nat.mul_le_mul (Nat.le_of_eq h2) h3
      omega
    · rw [h2, h4]
      exact ch_mul (by omega)
theorem rw_le {a b r : Nat} (h : a + b ≤ 60) : rwN a b r ≤ 118264581564861424 := by
  have h1 := cu_mul (i := r / 2) (j := r - r / 2) h
  have h2 := cu_mul (i := r - r / 2) (j := r / 2) h
  unfold rwN
  omega
theorem rws_le {a b : Nat} (h : a + b ≤ 60) : ∀ r, rwsN a b r ≤ 118264581564861424 * r := by
  intro r
  induction r with
  | zero => exact Nat.le_refl _
  | succ r ih =>
    have := rw_le (r := r + 1) h
    unfold rwsN
    omega
theorem x_cuts {a k : Nat} {σ : xSt} (ha : a ≤ 60) (hk : k ≤ 60) : f_X_cuts (a : Int) (k : Int) σ = some (cuN a k : Int) := by
  unfold f_X_cuts
  cases k with
  | zero =>
    rw [if_pos (by omega : ((0 : Nat) : Int) = 0)]
    cases a with
    | zero => rw [if_pos (by omega : ((0 : Nat) : Int) = 0)]; rfl
    | succ a => rw [if_neg (by omega)]; rfl
  | succ k =>
    rw [if_neg (by omega), w32_o (x := ((k + 1 : Nat) : Int) - 1) (by omega) (by omega), w32_o (x := (a : Int) - 1) (by omega) (by omega)]
    cases a with
    | zero =>
      rw [x_chNeg (by omega), xbR_s]
      rfl
    | succ a =>
      rw [show (((a + 1 : Nat) : Int) - 1) = (a : Int) by omega, show (((k + 1 : Nat) : Int) - 1) = (k : Int) by omega, x_choices (by omega), xbR_s]
      rfl
theorem w64_mul {a b : Nat} (h : a * b < 9223372036854775808) : w64 ((a : Int) * (b : Int)) = ((a * b : Nat) : Int) := by
  rw [← Int.natCast_mul]
  exact w64_o (by omega) (by omega)
theorem w64_add {a b : Nat} (h : a + b < 9223372036854775808) : w64 ((a : Int) + (b : Int)) = ((a + b : Nat) : Int) := by
  rw [← Int.natCast_add]
  exact w64_o (by omega) (by omega)
theorem half_n {r : Nat} (h : r ≤ 1000) : xdiv (r : Int) 2 = ((r / 2 : Nat) : Int) := by
  unfold xdiv
  have h1 : ((r : Int).tdiv 2) = ((r / 2 : Nat) : Int) := by
    rw [Int.tdiv_eq_ediv_of_nonneg (by omega)]
    omega
  rw [h1, w32_o (by omega) (by omega)]
theorem x_rows {a b r : Nat} {σ : xSt} (h : a + b ≤ 60) (hr : r ≤ 60) : f_X_rowsOfRuns (a : Int) (b : Int) (r : Int) σ = some (rwN a b r : Int) := by
  unfold f_X_rowsOfRuns
  have e1 : w32 ((r : Int) - ((r / 2 : Nat) : Int)) = ((r - r / 2 : Nat) : Int) := (w32_o (by omega) (by omega)).trans (by omega)
  have h1 := cu_mul (i := r / 2) (j := r - r / 2) h
  have h2 := cu_mul (i := r - r / 2) (j := r / 2) h
  rw [half_n (by omega), xlet_s, e1, xlet_s, x_cuts (by omega) (by omega), xbR_s, x_cuts (by omega) (by omega), xbR_s, x_cuts (by omega) (by omega), xbR_s, x_cuts (by omega) (by omega), xbR_s, w64_mul (by omega), w64_mul (by omega), w64_add (by omega)]
  rfl
theorem m_rows {a b r : Nat} {σ : xSt} (h : a + b ≤ 60) (h1 : 1 ≤ a + b) (hr : r ≤ 60) (hr1 : 1 ≤ r) : f_M_rowsOf (a : Int) (b : Int) (r : Int) σ = some (rwN a b r : Int) := by
  have g1 := cu_mul (i := r / 2) (j := r - r / 2) h
  have g2 := cu_mul (i := r - r / 2) (j := r / 2) h
  have z : ∀ b : Nat, b ≤ 60 → 1 ≤ b → f_M_rowsOf_8 (r : Int) σ = some ((cuN 0 (r / 2) * cuN b (r - r / 2) + cuN 0 (r - r / 2) * cuN b (r / 2) : Nat) : Int) := by
    intro b hb hb1
    obtain ⟨b, rfl⟩ : ∃ n2, b = n2 + 1 := ⟨b - 1, by omega⟩
    unfold f_M_rowsOf_8
    by_cases h3 : r = 1
    · subst h3
      rw [if_pos (by omega : ((1 : Nat) : Int) = 1)]
      show some (1 : Int) = some ((1 * chN b 0 + 0 * 0 : Nat) : Int)
      rw [ch_0 (by omega)]
      rfl
    · rw [if_neg (by omega)]
      obtain ⟨u, hu⟩ : ∃ u, r / 2 = u + 1 := ⟨r / 2 - 1, by omega⟩
      obtain ⟨v, hv⟩ : ∃ u, r - r / 2 = u + 1 := ⟨r - r / 2 - 1, by omega⟩
      rw [hv, hu]
      show some (0 : Int) = some ((0 * chN b v + 0 * chN b u : Nat) : Int)
      rw [Nat.zero_mul, Nat.zero_mul]
      rfl
  unfold f_M_rowsOf
  by_cases ha : a = 0
  · subst ha
    rw [if_pos (by omega : ((0 : Nat) : Int) = 0), z b (by omega) (by omega)]
    rfl
  · rw [if_neg (by omega)]
    by_cases hb : b = 0
    · subst hb
      rw [if_pos (by omega : ((0 : Nat) : Int) = 0), z a (by omega) (by omega)]
      unfold rwN
      rw [Nat.mul_comm (cuN 0 (r / 2)), Nat.mul_comm (cuN 0 (r - r / 2)), Nat.add_comm]
    · rw [if_neg (by omega), half_n (by omega), xlet_s]
      obtain ⟨a, rfl⟩ : ∃ n2, a = n2 + 1 := ⟨a - 1, by omega⟩
      obtain ⟨b, rfl⟩ : ∃ n2, b = n2 + 1 := ⟨b - 1, by omega⟩
      have ea : w32 (((a + 1 : Nat) : Int) - 1) = (a : Int) := (w32_o (by omega) (by omega)).trans (by omega)
      have eb : w32 (((b + 1 : Nat) : Int) - 1) = (b : Int) := (w32_o (by omega) (by omega)).trans (by omega)
      have hm : xrem (r : Int) 2 = ((r % 2 : Nat) : Int) := by
        unfold xrem
        rw [half_n (by omega), w32_o (x := ((r / 2 : Nat) : Int) * 2) (by omega) (by omega), w32_o (by omega) (by omega)]
        omega
      rw [hm, ea, eb]
      by_cases hp : r % 2 = 0
      · obtain ⟨u, hu⟩ : ∃ u, r / 2 = u + 1 := ⟨r / 2 - 1, by omega⟩
        have hv : r - r / 2 = u + 1 := by omega
        have eu : w32 (((r / 2 : Nat) : Int) - 1) = (u : Int) := (w32_o (by omega) (by omega)).trans (by omega)
        rw [hv, hu] at g1
        have g3 : chN a u * chN b u ≤ 59132290782430712 := g1
        have g4 := chN_le (n := a) (k := u) (by omega)
        have g5 : 2 * chN a u * chN b u = 2 * (chN a u * chN b u) := Nat.mul_assoc _ _ _
        rw [if_pos (by omega), eu, m_choose (by omega), xbR_s, m_choose (by omega), xbR_s]
        have e2 : w64 (2 * (chN a u : Int)) = ((2 * chN a u : Nat) : Int) := (w64_o (by omega) (by omega)).trans (by omega)
        rw [e2, w64_mul (by omega), g5]
        unfold rwN
        rw [hv, hu]
        show _ = some ((chN a u * chN b u + chN a u * chN b u : Nat) : Int)
        rw [Nat.two_mul]
      · rw [if_neg (by omega)]
        by_cases h1 : r = 1
        · subst h1
          have e0 : w32 (((1 / 2 : Nat) : Int) - 1) = -1 := by decide
          have e1 : ((1 / 2 : Nat) : Int) = ((0 : Nat) : Int) := rfl
          rw [e0, e1, m_choose (by omega), xbR_s, m_chNeg (by omega), xbR_s, m_chNeg (by omega), xbR_s, m_choose (by omega), xbR_s]
          have g6 := chN_le (n := a) (k := 0) (by omega)
          have e5 : rwN (a + 1) (b + 1) 1 = 0 := by
            show 0 * chN b 0 + chN a 0 * 0 = 0
            rw [Nat.zero_mul, Nat.mul_zero]
          have e6 : w64 (w64 0 + w64 0) = ((0 : Nat) : Int) := by decide
          rw [Int.mul_zero, Int.zero_mul, e5, e6]
        · obtain ⟨u, hu⟩ : ∃ u, r / 2 = u + 1 := ⟨r / 2 - 1, by omega⟩
          have hv : r - r / 2 = (u + 1) + 1 := by omega
          have eu : w32 (((r / 2 : Nat) : Int) - 1) = (u : Int) := (w32_o (by omega) (by omega)).trans (by omega)
          rw [hv, hu] at g1 g2
          have g3 : chN a u * chN b (u + 1) ≤ 59132290782430712 := g1
          have g4 : chN a (u + 1) * chN b u ≤ 59132290782430712 := g2
          rw [eu, hu, m_choose (by omega), xbR_s, m_choose (by omega), xbR_s, m_choose (by omega), xbR_s, m_choose (by omega), xbR_s, w64_mul (by omega), w64_mul (by omega), w64_add (by omega)]
          unfold rwN
          rw [hv, hu, Nat.add_comm]
          rfl
