/-! countedMean -/
def sN (c : Nat) : Nat → Nat
  | 0 => 0
  | k + 1 => sN c k + (if c / 2 ^ k % 2 = 0 then 0 else k * 2 ^ k)
theorem sN_s {c k : Nat} : sN c (k + 1) = sN c k + (if c / 2 ^ k % 2 = 0 then 0 else k * 2 ^ k) := Eq.trans rfl rfl
theorem sN_le {c : Nat} : ∀ k, k ≤ 17 → sN c k ≤ 16 * (c % 2 ^ k) := by
  intro k
  induction k with
  | zero => exact fun _ => Nat.zero_le _
  | succ k ih =>
    intro hk
    have h1 := ih (by omega)
    have hm : c % 2 ^ (k + 1) = c % 2 ^ k + 2 ^ k * (c / 2 ^ k % 2) := Nat.mod_mul
    rw [sN_s, hm]
    by_cases hz : c / 2 ^ k % 2 = 0
    · rw [if_pos hz, hz, Nat.mul_zero]
      omega
    · have hz1 : c / 2 ^ k % 2 = 1 := by omega
      have h2 : k * 2 ^ k ≤ 16 * 2 ^ k := Nat.mul_le_mul_right _ (by omega)
      rw [if_neg hz, hz1, Nat.mul_one]
      omega
theorem sN_c {c k : Nat} (hk : k ≤ 17) : sN c k ≤ 16 * c := Nat.le_trans (sN_le k hk) (Nat.mul_le_mul_left _ (Nat.mod_le _ _))
theorem sN_up {c k : Nat} (h : c < 2 ^ k) : sN c (k + 1) = sN c k := by
  rw [sN_s, Nat.div_eq_of_lt h, if_pos rfl, Nat.add_zero]
theorem and_pow1 {a k : Nat} (h : ¬ a / 2 ^ k % 2 = 0) : a &&& 2 ^ k = 2 ^ k := by
  apply Nat.eq_of_testBit_eq
  intro i
  rw [Nat.testBit_and, Nat.testBit_two_pow]
  by_cases hi : k = i
  · subst hi
    rw [Nat.testBit_eq_decide_div_mod_eq, decide_eq_true (show a / 2 ^ k % 2 = 1 by omega), Bool.true_and]
  · rw [decide_eq_false hi, Bool.and_false]
theorem cm_ok : (List.range 17).all (fun n => (List.range 10).all (fun a => (List.range 10).all (fun d => (List.range (n + 1)).all (fun h => !(Nat.ble (a + d) 9) || Nat.ble (chN n h * (a ^ h * d ^ (n - h))) 1853020188851841)))) = true := by decide +kernel
theorem cm_ok2 : (List.range 17).all (fun n => (List.range 10).all (fun a => (List.range (n + 1)).all (fun h => Nat.ble (chN n h * a ^ h) 10000000000000000))) = true := by decide +kernel
theorem cm_le {n a d h : Nat} (hn : n ≤ 16) (ha : a + d ≤ 9) (hh : h ≤ n) : chN n h * (a ^ h * d ^ (n - h)) ≤ 1853020188851841 := by
  have h1 := List.all_eq_true.mp (List.all_eq_true.mp (List.all_eq_true.mp (List.all_eq_true.mp cm_ok n (List.mem_range.mpr (by omega))) a (List.mem_range.mpr (by omega))) d (List.mem_range.mpr (by omega))) h (List.mem_range.mpr (by omega))
  have h2 : Nat.ble (a + d) 9 = true := Nat.ble_eq_true_of_le ha
  rw [h2, Bool.not_true, Bool.false_or] at h1
  exact Nat.le_of_ble_eq_true h1
theorem cm_le2 {n a h : Nat} (hn : n ≤ 16) (ha : a ≤ 9) (hh : h ≤ n) : chN n h * a ^ h ≤ 10000000000000000 :=
  Nat.le_of_ble_eq_true (List.all_eq_true.mp (List.all_eq_true.mp (List.all_eq_true.mp cm_ok2 n (List.mem_range.mpr (by omega))) a (List.mem_range.mpr (by omega))) h (List.mem_range.mpr (by omega)))
theorem pw_le {a h : Nat} (ha : a ≤ 9) (hh : h ≤ 16) : a ^ h < 9223372036854775808 := by
  have h1 : a ^ h ≤ 9 ^ h := Nat.pow_le_pow_left ha h
  have h2 : 9 ^ h ≤ 9 ^ 16 := Nat.pow_le_pow_right (by decide) hh
  have h3 : (9 : Nat) ^ 16 = 1853020188851841 := by decide
  omega
def tmN (N a d h : Nat) : Nat := sN (chN N h) 17 * a ^ h * d ^ (N - h)
def csN (N a d : Nat) : Nat → Nat
  | 0 => 0
  | h + 1 => csN N a d h + tmN N a d h
theorem csN_s {N a d h : Nat} : csN N a d (h + 1) = csN N a d h + tmN N a d h := Eq.trans rfl rfl
theorem tm_le {N a d h : Nat} (hN : N ≤ 16) (ha : a + d ≤ 9) (hh : h ≤ N) : tmN N a d h ≤ 29648323021629456 := by
  have h1 := cm_le (n := N) (a := a) (d := d) (h := h) hN ha hh
  have h2 : sN (chN N h) 17 * (a ^ h * d ^ (N - h)) ≤ 16 * chN N h * (a ^ h * d ^ (N - h)) := Nat.mul_le_mul_right _ (sN_c (Nat.le_refl _))
  have h3 : 16 * chN N h * (a ^ h * d ^ (N - h)) = 16 * (chN N h * (a ^ h * d ^ (N - h))) := Nat.mul_assoc _ _ _
  have h4 : tmN N a d h = sN (chN N h) 17 * (a ^ h * d ^ (N - h)) := Nat.mul_assoc _ _ _
  rw [h4]
  omega
theorem tm_le2 {N a h : Nat} (hN : N ≤ 16) (ha : a ≤ 9) (hh : h ≤ N) : sN (chN N h) 17 * a ^ h < 9223372036854775808 := by
  have h1 := cm_le2 (n := N) (a := a) (h := h) hN ha hh
  have h2 : sN (chN N h) 17 * a ^ h ≤ 16 * chN N h * a ^ h := Nat.mul_le_mul_right _ (sN_c (Nat.le_refl _))
  have h3 : 16 * chN N h * a ^ h = 16 * (chN N h * a ^ h) := Nat.mul_assoc _ _ _
  omega
theorem cs_le {N a d : Nat} (hN : N ≤ 16) (ha : a + d ≤ 9) : ∀ h, h ≤ N + 1 → csN N a d h ≤ 29648323021629456 * h := by
  intro h
  induction h with
  | zero => exact fun _ => Nat.le_refl _
  | succ h ih =>
    intro hh
    have h1 := ih (by omega)
    have h2 := tm_le (N := N) (a := a) (d := d) (h := h) hN ha (by omega)
    rw [csN_s]
    omega
theorem cs_lt {N a d h : Nat} (hN : N ≤ 16) (ha : a + d ≤ 9) (hh : h ≤ N + 1) : csN N a d h < 9223372036854775808 := by
  have h1 := cs_le hN ha h hh
  have h2 : 29648323021629456 * h ≤ 29648323021629456 * 17 := Nat.mul_le_mul_left _ (by omega)
  omega
/-- what both sides add for h heads -/
theorem cm_term {N a d h : Nat} (hN : N ≤ 16) (ha : a + d ≤ 9) (hh : h ≤ N) : w64 ((csN N a d h : Int) + w64 (w64 ((sN (chN N h) 17 : Int) * ((a ^ h : Nat) : Int)) * ((d ^ (N - h) : Nat) : Int))) = (csN N a d (h + 1) : Int) := by
  have h1 := tm_le2 (N := N) (a := a) (h := h) hN (by omega) hh
  have h2 := tm_le hN ha hh
  have h3 := cs_lt (N := N) (a := a) (d := d) (h := h + 1) hN ha (by omega)
  rw [csN_s] at h3
  unfold tmN at h2 h3
  rw [w64_mul h1, w64_mul (by omega), w64_add h3, csN_s]
  rfl
theorem w64_i {x : Int} (h1 : 0 ≤ x) (h2 : x < 9223372036854775808) : w64 x = x := w64_o (by omega) h2
theorem kp2_lt {k : Nat} (hk : k ≤ 20) : k * 2 ^ k ≤ 20971520 := by
  have h1 : 2 ^ k ≤ 2 ^ 20 := Nat.pow_le_pow_right (by decide) hk
  have h2 : (2 : Nat) ^ 20 = 1048576 := by decide
  have h3 : k * 2 ^ k ≤ 20 * 2 ^ 20 := Nat.mul_le_mul hk h1
  omega
theorem x_cs25 {k5 : Int → Int → Int → Int → Int → xSt → Option Int} {N a d h : Nat} {σ : xSt} (hN : N ≤ 16) (ha : a + d ≤ 9) (hh : h ≤ N) : ∀ (j n k : Nat), k + j = 17 → j < n → f_Bits_countedSum_25 k5 n (N : Int) (a : Int) (d : Int) (csN N a d h : Int) (h : Int) (chN N h : Int) (sN (chN N h) k : Int) (k : Int) σ = k5 (N : Int) (a : Int) (d : Int) (csN N a d (h + 1) : Int) ((h + 1 : Nat) : Int) σ := by
  intro j
  induction j with
  | zero =>
    intro n k h1 h2
    obtain ⟨n, rfl⟩ : ∃ n2, n = n2 + 1 := ⟨n - 1, by omega⟩
    obtain rfl : k = 17 := by omega
    have e1 : w32 ((N : Int) - (h : Int)) = ((N - h : Nat) : Int) := (w32_o (by omega) (by omega)).trans (by omega)
    rw [f_Bits_countedSum_25.eq_2, if_pos (by omega), e1, x_power (by omega) (pw_le (by omega) (by omega)), xbR_s, x_power (by omega) (pw_le (by omega) (by omega)), xbR_s, cm_term hN ha hh, xlet_s, w32_n1 (by omega), xlet_s]
  | succ j ih =>
    intro n k h1 h2
    obtain ⟨n, rfl⟩ : ∃ n2, n = n2 + 1 := ⟨n - 1, by omega⟩
    have b1 : k ≤ 16 := by omega
    have b2 : k < 100000 := by omega
    have hc := ch_small (n := N) (k := h) hN
    have hs := sN_c (c := chN N h) (k := k) (by omega)
    have hk := kp2_lt (k := k) (by omega)
    have hp := p2_lt (n := k) (by omega)
    have es : w64 ((sN (chN N h) k : Int) + w64 ((k : Int) * xland (chN N h : Int) (xlshl 1 (k : Int)))) = (sN (chN N h) (k + 1) : Int) := by
      rw [shl_n (by omega), xland_n (by omega) hp, sN_s]
      by_cases hz : chN N h / 2 ^ k % 2 = 0
      · rw [and_pow.mpr hz, if_pos hz, c0n, Int.mul_zero, Nat.add_zero, show w64 0 = 0 by decide, Int.add_zero]
        exact w64_i (by omega) (by omega)
      · rw [and_pow1 hz, if_neg hz, w64_mul (by omega), w64_add (by omega)]
    rw [f_Bits_countedSum_25.eq_2, if_neg (by omega), es, xlet_s, w32_n1 b2, xlet_s]
    exact ih n (k + 1) (by omega) (by omega)
theorem x_cs5 {N a d : Nat} {σ : xSt} (hN : N ≤ 16) (ha : a + d ≤ 9) : ∀ (j n h : Nat), h + j = N + 1 → j < n → f_Bits_countedSum_5 n (N : Int) (a : Int) (d : Int) (csN N a d h : Int) (h : Int) σ = some (csN N a d (N + 1) : Int) := by
  intro j
  induction j with
  | zero =>
    intro n h h1 h2
    obtain ⟨n, rfl⟩ : ∃ n2, n = n2 + 1 := ⟨n - 1, by omega⟩
    obtain rfl : h = N + 1 := by omega
    rw [f_Bits_countedSum_5.eq_2, if_pos (by omega)]
  | succ j ih =>
    intro n h h1 h2
    obtain ⟨n, rfl⟩ : ∃ n2, n = n2 + 1 := ⟨n - 1, by omega⟩
    have b1 : h ≤ N := by omega
    have k := x_cs25 (k5 := fun z0 z1 z2 z3 z4 sz => f_Bits_countedSum_5 n z0 z1 z2 z3 z4 sz) (σ := σ) hN ha b1 17 1000000 0 (by omega) (by omega)
    have z : sN (chN N h) 0 = 0 := Eq.trans rfl rfl
    rw [z, c0n] at k
    rw [f_Bits_countedSum_5.eq_2, if_neg (by omega), x_choices (by omega), xbR_s, k]
    exact ih n (h + 1) (by omega) (by omega)
theorem m_cm75 {k5 : Int → Int → Int → Int → Int → Int → xSt → Option (Int × xSt)} {N a d h : Nat} {what : Int} {σ : xSt} (hN : N ≤ 16) (ha : a + d ≤ 9) (hh : h ≤ N) : ∀ (j n k : Nat), k + j = 20 → j < n → f_M_countedMean_75 k5 n (N : Int) (a : Int) ((a + d : Nat) : Int) what (csN N a d h : Int) (h : Int) (chN N h : Int) (sN (chN N h) k : Int) (k : Int) σ = k5 (N : Int) (a : Int) ((a + d : Nat) : Int) what (csN N a d (h + 1) : Int) ((h + 1 : Nat) : Int) σ := by
  have hc := ch_small (n := N) (k := h) hN
  have h17 : (2 : Nat) ^ 17 = 131072 := by decide
  have h18 : (2 : Nat) ^ 18 = 262144 := by decide
  have h19 : (2 : Nat) ^ 19 = 524288 := by decide
  have e20 : sN (chN N h) 20 = sN (chN N h) 17 := by
    rw [sN_up (k := 19) (by omega), sN_up (k := 18) (by omega), sN_up (k := 17) (by omega)]
  have hb : ∀ k, k ≤ 20 → sN (chN N h) k ≤ 16 * chN N h := by
    intro k hk
    by_cases h1 : k ≤ 17
    · exact sN_c h1
    · have h2 := sN_c (c := chN N h) (k := 17) (Nat.le_refl _)
      have h3 : k = 18 ∨ k = 19 ∨ k = 20 := by omega
      rcases h3 with h3 | h3 | h3
      · rw [h3, sN_up (k := 17) (by omega)]
        exact h2
      · rw [h3, sN_up (k := 18) (by omega), sN_up (k := 17) (by omega)]
        exact h2
      · rw [h3, e20]
        exact h2
  intro j
  induction j with
  | zero =>
    intro n k h1 h2
    obtain ⟨n, rfl⟩ : ∃ n2, n = n2 + 1 := ⟨n - 1, by omega⟩
    obtain rfl : k = 20 := by omega
    have e1 : w32 ((N : Int) - (h : Int)) = ((N - h : Nat) : Int) := (w32_o (by omega) (by omega)).trans (by omega)
    have e2 : w32 (((a + d : Nat) : Int) - (a : Int)) = (d : Int) := (w32_o (by omega) (by omega)).trans (by omega)
    rw [f_M_countedMean_75.eq_2, if_neg (by omega), e1, e2, m_power (by omega) (pw_le (by omega) (by omega)), xbR_s, m_power (by omega) (pw_le (by omega) (by omega)), xbR_s, e20, cm_term hN ha hh, xlet_s, w32_n1 (by omega), xlet_s]
  | succ j ih =>
    intro n k h1 h2
    obtain ⟨n, rfl⟩ : ∃ n2, n = n2 + 1 := ⟨n - 1, by omega⟩
    have b1 : (k : Int) < 20 := by omega
    have b2 : k < 100000 := by omega
    have b3 : k ≤ 61 := by omega
    have hs := hb k (by omega)
    have hk := kp2_lt (k := k) (by omega)
    have hp := p2_lt (n := k) b3
    have h7 : chN N h / 2 ^ k ≤ chN N h := Nat.div_le_self _ _
    have e2 : xland (xlshr (chN N h : Int) (k : Int)) 1 = ((chN N h / 2 ^ k % 2 : Nat) : Int) := by
      rw [xlshr_n (by omega) b3]
      have h6 := xland_n (a := chN N h / 2 ^ k) (b := 1) (by omega) (by omega)
      rw [Nat.and_one_is_mod] at h6
      exact h6
    have k9 := ih n (k + 1) (by omega) (by omega)
    rw [f_M_countedMean_75.eq_2, if_pos b1, e2, w32_n1 b2]
    rw [sN_s] at k9
    by_cases hz : chN N h / 2 ^ k % 2 = 0
    · rw [if_pos hz, Nat.add_zero] at k9
      rw [if_neg (fun z => by have := xlc_eq.mp z; omega), xlet_s]
      exact k9
    · rw [if_neg hz] at k9
      rw [if_pos (xlc_eq.mpr (by omega)), shl_n b3, w64_mul (by omega), w64_add (by omega), xlet_s, xlet_s]
      exact k9
theorem m_cm55 {N a d : Nat} {what : Int} {σ : xSt} (hN : N ≤ 16) (ha : a + d ≤ 9) : ∀ (j n h : Nat), h + j = N + 1 → j < n → f_M_countedMean_55 n (N : Int) (a : Int) ((a + d : Nat) : Int) what (csN N a d h : Int) (h : Int) σ = xbR (f_M_power ((a + d : Nat) : Int) (N : Int) σ) fun r8 => xbR (f_M_part (csN N a d (N + 1) : Int) r8 what σ) fun r9 => some (r9, σ) := by
  intro j
  induction j with
  | zero =>
    intro n h h1 h2
    obtain ⟨n, rfl⟩ : ∃ n2, n = n2 + 1 := ⟨n - 1, by omega⟩
    obtain rfl : h = N + 1 := by omega
    rw [f_M_countedMean_55.eq_2, if_pos (by omega)]
  | succ j ih =>
    intro n h h1 h2
    obtain ⟨n, rfl⟩ : ∃ n2, n = n2 + 1 := ⟨n - 1, by omega⟩
    have b1 : h ≤ N := by omega
    have k := m_cm75 (k5 := fun z0 z1 z2 z3 z4 z5 sz => f_M_countedMean_55 n z0 z1 z2 z3 z4 z5 sz) (what := what) (σ := σ) hN ha b1 19 1000000 1 (by omega) (by omega)
    have z : sN (chN N h) 1 = 0 := by
      rw [sN_s]
      split
      · exact Eq.trans rfl rfl
      · exact Eq.trans rfl rfl
    have z1 : ((1 : Nat) : Int) = 1 := rfl
    rw [z, c0n, z1] at k
    rw [f_M_countedMean_55.eq_2, if_neg (by omega), m_choose (by omega), xbR_s, k]
    exact ih n (h + 1) (by omega) (by omega)
