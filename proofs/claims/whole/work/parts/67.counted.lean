/-! counted: shifts and ands; places -/
theorem i64_n {a : Nat} (h : a < 9223372036854775808) : (Int64.ofInt (a : Int)).toBitVec.toNat = a := by
  rw [Int64.toBitVec_ofInt, BitVec.toNat_ofInt]
  omega
theorem xland_n {a b : Nat} (ha : a < 9223372036854775808) (hb : b < 9223372036854775808) : xland (a : Int) (b : Int) = ((a &&& b : Nat) : Int) := by
  unfold xland o64
  have h1 : ((Int64.ofInt (a : Int)) &&& (Int64.ofInt (b : Int))).toBitVec.toNat = a &&& b := by
    rw [Int64.toBitVec_and, BitVec.toNat_and, i64_n ha, i64_n hb]
  have h2 : a &&& b ≤ a := Nat.and_le_left
  show ((Int64.ofInt (a : Int)) &&& (Int64.ofInt (b : Int))).toBitVec.toInt = _
  rw [BitVec.toInt_eq_toNat_of_lt (by rw [h1]; omega), h1]
theorem sh_ok : (List.range 62).all (fun k => decide ((((Int32.ofInt (k : Int)).toInt64 &&& 63).toBitVec.smod 64).toNat = k)) = true := by decide +kernel
theorem xlshr_n {a k : Nat} (ha : a < 9223372036854775808) (hk : k ≤ 61) : xlshr (a : Int) (k : Int) = ((a / 2 ^ k : Nat) : Int) := by
  have h0 : (((Int32.ofInt (k : Int)).toInt64 &&& 63).toBitVec.smod 64).toNat = k := of_decide_eq_true (List.all_eq_true.mp sh_ok k (List.mem_range.mpr (by omega)))
  unfold xlshr
  show ((Int64.ofInt (a : Int)) >>> ((Int32.ofInt (k : Int)).toInt64 &&& 63)).toBitVec.toInt = _
  rw [Int64.toBitVec_shiftRight]
  unfold BitVec.sshiftRight'
  rw [h0, BitVec.toInt_sshiftRight, BitVec.toInt_eq_toNat_of_lt (by rw [i64_n ha]; omega), i64_n ha, Int.shiftRight_eq_div_pow]
  norm_cast
theorem and_pow {a k : Nat} : a &&& 2 ^ k = 0 ↔ a / 2 ^ k % 2 = 0 := by
  have hk : (a &&& 2 ^ k).testBit k = a.testBit k := by
    rw [Nat.testBit_and, Nat.testBit_two_pow_self, Bool.and_true]
  constructor
  · intro h
    rw [h, Nat.zero_testBit, Nat.testBit_eq_decide_div_mod_eq] at hk
    have := of_decide_eq_false hk.symm
    omega
  · intro h
    apply Nat.eq_of_testBit_eq
    intro i
    rw [Nat.testBit_and, Nat.zero_testBit, Nat.testBit_two_pow]
    by_cases hi : k = i
    · subst hi
      rw [Nat.testBit_eq_decide_div_mod_eq, h]
      rfl
    · rw [decide_eq_false hi, Bool.and_false]
theorem ch_pas : (List.range 17).all (fun n => (List.range (n + 1)).all (fun k => Nat.beq (chN (n + 1) (k + 1)) (chN n k + chN n (k + 1)))) = true := by decide +kernel
theorem ch_pascal {n k : Nat} (hn : n ≤ 16) (hk : k ≤ n) : chN (n + 1) (k + 1) = chN n k + chN n (k + 1) := Nat.eq_of_beq_eq_true (List.all_eq_true.mp (List.all_eq_true.mp ch_pas n (List.mem_range.mpr (by omega))) k (List.mem_range.mpr (by omega)))
/-- the bits told of place p among c rows: k binary places left -/
def loL (p : Nat) : Nat → List Int
  | 0 => []
  | k + 1 => ((p / 2 ^ k % 2 : Nat) : Int) :: loL p k
def cnL (c : Nat) : Nat → Nat → List Int
  | _, 0 => []
  | p, k + 1 => if c / 2 ^ k % 2 = 0 then cnL c p k else if p < 2 ^ k then loL p k else cnL c (p - 2 ^ k) k
theorem loL_len {p : Nat} : ∀ k, (loL p k).length = k := by
  intro k
  induction k with
  | zero => rfl
  | succ k ih =>
    show (loL p k).length + 1 = k + 1
    rw [ih]
theorem cnL_len {c : Nat} : ∀ k p, (cnL c p k).length ≤ k := by
  intro k
  induction k with
  | zero => exact fun _ => Nat.le_refl _
  | succ k ih =>
    intro p
    show (if c / 2 ^ k % 2 = 0 then cnL c p k else if p < 2 ^ k then loL p k else cnL c (p - 2 ^ k) k).length ≤ k + 1
    split
    · have := ih p
      omega
    · split
      · rw [loL_len]
        omega
      · have := ih (p - 2 ^ k)
        omega
theorem bit_b (p k : Nat) : ((p / 2 ^ k % 2 : Nat) : Int) = 0 ∨ ((p / 2 ^ k % 2 : Nat) : Int) = 1 := by omega
theorem x_low5 {p : Nat} (hp : p < 1000000) : ∀ (k n : Nat) (l : List Int) (σ : xSt), k ≤ 20 → k < n → XB σ l → l.length + k ≤ 600 → ∃ σ', f_Bits_addLowest_5 n (p : Int) ((k : Int) - 1) σ = some σ' ∧ XB σ' (l ++ loL p k) ∧ ∀ a q, a ≠ 99 → a ≠ 100 → σ' a q = σ a q := by
  intro k
  induction k with
  | zero =>
    intro n l σ h1 h2 h3 h4
    obtain ⟨n, rfl⟩ : ∃ n2, n = n2 + 1 := ⟨n - 1, by omega⟩
    refine ⟨σ, ?_, ?_, fun _ _ _ _ => rfl⟩
    · rw [f_Bits_addLowest_5.eq_2, if_pos (by omega)]
    · show XB σ (l ++ [])
      rw [List.append_nil]
      exact h3
  | succ k ih =>
    intro n l σ h1 h2 h3 h4
    obtain ⟨n, rfl⟩ : ∃ n2, n = n2 + 1 := ⟨n - 1, by omega⟩
    have hb := bit_b p k
    have e0 : ((k + 1 : Nat) : Int) - 1 = (k : Int) := by omega
    have e1 : w32 ((k : Int) + -1) = (k : Int) - 1 := (w32_o (by omega) (by omega)).trans (by omega)
    have h5 : p / 2 ^ k ≤ p := Nat.div_le_self _ _
    have e2 : w32 (xland (xlshr (p : Int) (k : Int)) 1) = ((p / 2 ^ k % 2 : Nat) : Int) := by
      rw [xlshr_n (by omega) (by omega)]
      have h6 := xland_n (a := p / 2 ^ k) (b := 1) (by omega) (by omega)
      rw [Nat.and_one_is_mod] at h6
      have h7 : (((1 : Nat)) : Int) = 1 := rfl
      rw [h7] at h6
      rw [h6]
      exact w32_o (by omega) (by omega)
    obtain ⟨σ1, g1, g2, g3⟩ := x_add h3 (by omega) hb
    obtain ⟨σ', k1, k2, k3⟩ := ih n _ σ1 (by omega) (by omega) g2 (by rw [len_1]; omega)
    refine ⟨σ', ?_, ?_, fun a q ha hb => (k3 a q ha hb).trans (g3 a q ha hb)⟩
    · rw [e0, f_Bits_addLowest_5.eq_2, if_neg (by omega), e2, g1, xbR_s, e1, xlet_s]
      exact k1
    · rw [List.append_assoc] at k2
      exact k2
theorem x_cnt50 {c : Nat} (hc : c < 1000000) : ∀ (k n p : Nat) (l : List Int) (σ : xSt), k ≤ 20 → k < n → p < 1000000 → XB σ l → l.length + k ≤ 600 →
    ∃ σ', f_Bits_byCounting_50 n (p : Int) (c : Int) ((k : Int) - 1) σ = some (((l ++ cnL c p k).length : Int), σ') ∧ XB σ' (l ++ cnL c p k) ∧ ∀ a q, a ≠ 99 → a ≠ 100 → σ' a q = σ a q := by
  intro k
  induction k with
  | zero =>
    intro n p l σ h1 h2 h0 h3 h4
    obtain ⟨n, rfl⟩ : ∃ n2, n = n2 + 1 := ⟨n - 1, by omega⟩
    have e : l ++ cnL c p 0 = l := List.append_nil l
    rw [e]
    refine ⟨σ, ?_, h3, fun _ _ _ _ => rfl⟩
    rw [f_Bits_byCounting_50.eq_2, if_pos (by omega), h3.1]
  | succ k ih =>
    intro n p l σ h1 h2 h0 h3 h4
    obtain ⟨n, rfl⟩ : ∃ n2, n = n2 + 1 := ⟨n - 1, by omega⟩
    have e0 : ((k + 1 : Nat) : Int) - 1 = (k : Int) := by omega
    have e1 : w32 ((k : Int) + -1) = (k : Int) - 1 := (w32_o (by omega) (by omega)).trans (by omega)
    have h5 := p2_lt (n := k) (by omega)
    have h50 : 0 < 2 ^ k := Nat.pow_pos (by decide)
    have ec : cnL c p (k + 1) = if c / 2 ^ k % 2 = 0 then cnL c p k else if p < 2 ^ k then loL p k else cnL c (p - 2 ^ k) k := Eq.trans rfl rfl
    have ha := and_pow (a := c) (k := k)
    rw [e0, f_Bits_byCounting_50.eq_2, if_neg (by omega), shl_n (by omega), xlet_s, xland_n (by omega) h5, ec]
    by_cases hz : c / 2 ^ k % 2 = 0
    · have hz2 := ha.mpr hz
      rw [hz2, if_pos (xlc_eq.mpr c0n), if_pos hz, e1, xlet_s]
      exact ih n p l σ (by omega) (by omega) h0 h3 (by omega)
    · rw [if_neg (fun z => by have := xlc_eq.mp z; exact hz (ha.mp (by omega))), if_neg hz]
      by_cases hp : p < 2 ^ k
      · rw [if_pos (xlc_lt.mpr (by omega)), if_pos hp]
        obtain ⟨σ', g1, g2, g3⟩ := x_low5 h0 k 1000000 l σ (by omega) (by omega) h3 (by omega)
        have e3 : w32 ((k : Int) - 1) = (k : Int) - 1 := w32_o (by omega) (by omega)
        refine ⟨σ', ?_, g2, g3⟩
        unfold f_Bits_addLowest
        rw [e3, xlet_s, g1, xbR_s, g2.1]
      · have e3 : w64 ((p : Int) - ((2 ^ k : Nat) : Int)) = ((p - 2 ^ k : Nat) : Int) := (w64_o (by omega) (by omega)).trans (by omega)
        rw [if_neg (fun z => by have := xlc_lt.mp z; omega), if_neg hp, e3, xlet_s, e1, xlet_s]
        exact ih n (p - 2 ^ k) l σ (by omega) (by omega) (by omega) h3 (by omega)
theorem m_cnt157 {p : Nat} (hp : p < 1000000) : ∀ (k n : Nat) (l : List Int) (σ : xSt), k ≤ 20 → k < n → MB σ l → l.length + k ≤ 600 → ∃ σ', f_M_counted_157 n (p : Int) ((k : Int) - 1) σ = (xbW (f_M_tellBits σ') fun r s => some (r, s)) ∧ MB σ' (l ++ loL p k) ∧ ∀ a q, a ≠ 126 → (a = 111 → q ≠ 44) → σ' a q = σ a q := by
  intro k
  induction k with
  | zero =>
    intro n l σ h1 h2 h3 h4
    obtain ⟨n, rfl⟩ : ∃ n2, n = n2 + 1 := ⟨n - 1, by omega⟩
    refine ⟨σ, ?_, ?_, fun _ _ _ _ => rfl⟩
    · rw [f_M_counted_157.eq_2, if_pos (by omega)]
    · show MB σ (l ++ [])
      rw [List.append_nil]
      exact h3
  | succ k ih =>
    intro n l σ h1 h2 h3 h4
    obtain ⟨n, rfl⟩ : ∃ n2, n = n2 + 1 := ⟨n - 1, by omega⟩
    have hb := bit_b p k
    have e0 : ((k + 1 : Nat) : Int) - 1 = (k : Int) := by omega
    have e1 : w32 ((k : Int) + -1) = (k : Int) - 1 := (w32_o (by omega) (by omega)).trans (by omega)
    have h5 : p / 2 ^ k ≤ p := Nat.div_le_self _ _
    have e2 : xland (xlshr (p : Int) (k : Int)) 1 = ((p / 2 ^ k % 2 : Nat) : Int) := by
      rw [xlshr_n (by omega) (by omega)]
      have h6 := xland_n (a := p / 2 ^ k) (b := 1) (by omega) (by omega)
      rw [Nat.and_one_is_mod] at h6
      exact h6
    obtain ⟨σ1, g1, g2, g3⟩ := m_add h3 (by omega) hb
    obtain ⟨σ', k1, k2, k3⟩ := ih n _ σ1 (by omega) (by omega) g2 (by rw [len_1]; omega)
    refine ⟨σ', ?_, ?_, fun a q ha hb => (k3 a q ha hb).trans (g3 a q ha hb)⟩
    · rw [e0, f_M_counted_157.eq_2, if_neg (by omega), e2]
      by_cases hq : p / 2 ^ k % 2 = 1
      · have e5 : ((p / 2 ^ k % 2 : Nat) : Int) = 1 := by omega
        rw [e5] at g1
        rw [if_pos (xlc_eq.mpr e5)]
        unfold f_M_counted_179
        rw [g1, xbR_s, e1, xlet_s]
        exact k1
      · have e5 : ((p / 2 ^ k % 2 : Nat) : Int) = 0 := by omega
        rw [e5] at g1
        rw [if_neg (fun z => by have := xlc_eq.mp z; omega)]
        unfold f_M_counted_179
        rw [g1, xbR_s, e1, xlet_s]
        exact k1
    · rw [List.append_assoc] at k2
      exact k2
theorem m_cnt105 {c : Nat} (hc : c < 1000000) : ∀ (k n p : Nat) (σ : xSt), k ≤ 21 → k < n → p < c % 2 ^ k → MB σ [] →
    ∃ σ', f_M_counted_105 n (p : Int) (c : Int) ((k : Int) - 1) σ = (xbW (f_M_tellBits σ') fun r s => some (r, s)) ∧ MB σ' (cnL c p k) ∧ ∀ a q, a ≠ 126 → (a = 111 → q ≠ 44) → σ' a q = σ a q := by
  intro k
  induction k with
  | zero =>
    intro n p σ h1 h2 h0 h3
    rw [Nat.pow_zero, Nat.mod_one] at h0
    exact absurd h0 (Nat.not_lt_zero _)
  | succ k ih =>
    intro n p σ h1 h2 h0 h3
    obtain ⟨n, rfl⟩ : ∃ n2, n = n2 + 1 := ⟨n - 1, by omega⟩
    have e0 : ((k + 1 : Nat) : Int) - 1 = (k : Int) := by omega
    have e1 : w32 ((k : Int) + -1) = (k : Int) - 1 := (w32_o (by omega) (by omega)).trans (by omega)
    have e4 : w32 ((k : Int) - 1) = (k : Int) - 1 := w32_o (by omega) (by omega)
    have h5 := p2_lt (n := k) (by omega)
    have h50 : 0 < 2 ^ k := Nat.pow_pos (by decide)
    have h7 : c / 2 ^ k ≤ c := Nat.div_le_self _ _
    have hm : c % 2 ^ (k + 1) = c % 2 ^ k + 2 ^ k * (c / 2 ^ k % 2) := Nat.mod_mul
    have hlt : c % 2 ^ (k + 1) ≤ c := Nat.mod_le _ _
    have e2 : xland (xlshr (c : Int) (k : Int)) 1 = ((c / 2 ^ k % 2 : Nat) : Int) := by
      rw [xlshr_n (by omega) (by omega)]
      have h6 := xland_n (a := c / 2 ^ k) (b := 1) (by omega) (by omega)
      rw [Nat.and_one_is_mod] at h6
      exact h6
    have ec : cnL c p (k + 1) = if c / 2 ^ k % 2 = 0 then cnL c p k else if p < 2 ^ k then loL p k else cnL c (p - 2 ^ k) k := Eq.trans rfl rfl
    rw [e0, f_M_counted_105.eq_2, e2, ec]
    by_cases hz : c / 2 ^ k % 2 = 0
    · have hz1 : ((c / 2 ^ k % 2 : Nat) : Int) = 0 := by omega
      rw [hz, Nat.mul_zero] at hm
      rw [hz1, if_pos (xlc_eq.mpr rfl), if_pos hz]
      unfold f_M_counted_126
      rw [e2, hz1, if_neg (fun z => by have := xlc_eq.mp z; omega), e1, xlet_s]
      exact ih n p σ (by omega) (by omega) (by omega) h3
    · have hz0 : c / 2 ^ k % 2 = 1 := by omega
      have hz1 : ((c / 2 ^ k % 2 : Nat) : Int) = 1 := by omega
      rw [hz0, Nat.mul_one] at hm
      rw [hz1, if_neg (fun z => by have := xlc_eq.mp z; omega), if_neg hz, shl_n (by omega)]
      by_cases hp : p < 2 ^ k
      · rw [if_pos (xlc_lt.mpr (by omega)), if_pos hp, e4, xlet_s]
        exact m_cnt157 (by omega) k 1000000 [] σ (by omega) (by omega) h3 (by show 0 + k ≤ 600; omega)
      · have e3 : w64 ((p : Int) - ((2 ^ k : Nat) : Int)) = ((p - 2 ^ k : Nat) : Int) := (w64_o (by omega) (by omega)).trans (by omega)
        rw [if_neg (fun z => by have := xlc_lt.mp z; omega), if_neg hp]
        unfold f_M_counted_126
        rw [e2, hz1, if_pos (xlc_eq.mpr rfl), shl_n (by omega), e3, xlet_s, e1, xlet_s]
        exact ih n (p - 2 ^ k) σ (by omega) (by omega) (by omega) h3
