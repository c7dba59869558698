/-! TOKENS: letters and runs -/
def kL (c : Int) : Bool := decide (97 ≤ c) && decide (c ≤ 122)
def kD (c : Int) : Bool := decide (48 ≤ c) && decide (c ≤ 57)
theorem kL_i {c : Int} : kL c = true ↔ 97 ≤ c ∧ c ≤ 122 := by
  unfold kL
  rw [Bool.and_eq_true, decide_eq_true_iff, decide_eq_true_iff]
theorem kD_i {c : Int} : kD c = true ↔ 48 ≤ c ∧ c ≤ 57 := by
  unfold kD
  rw [Bool.and_eq_true, decide_eq_true_iff, decide_eq_true_iff]
theorem w8_ch {c : Int} (h0 : 0 ≤ c) (h1 : c ≤ 255) : w8 c = if c < 128 then c else c - 256 := by
  unfold w8
  split
  · rw [Int.bmod_def]
    omega
  · rw [Int.bmod_def]
    omega
theorem kL_8 {c : Int} (h0 : 0 ≤ c) (h1 : c ≤ 255) : kL (w8 c) = kL c := by
  rw [w8_ch h0 h1]
  by_cases h : c < 128
  · rw [if_pos h]
  · rw [if_neg h, Bool.eq_iff_iff, kL_i, kL_i]
    omega
theorem kD_8 {c : Int} (h0 : 0 ≤ c) (h1 : c ≤ 255) : kD (w8 c) = kD c := by
  rw [w8_ch h0 h1]
  by_cases h : c < 128
  · rw [if_pos h]
  · rw [if_neg h, Bool.eq_iff_iff, kD_i, kD_i]
    omega
theorem x_isL {c : Int} {σ : xSt} : f_Tokens_isLetter c σ = some (if kL c = true then 1 else 0) := by
  unfold f_Tokens_isLetter
  by_cases h1 : c < 97
  · rw [if_pos h1, if_neg (fun z => by have := kL_i.mp z; omega)]
  · by_cases h2 : 122 < c
    · rw [if_neg h1, if_pos h2, if_neg (fun z => by have := kL_i.mp z; omega)]
    · rw [if_neg h1, if_neg h2, if_pos (kL_i.mpr (by omega))]
theorem x_isD {c : Int} {σ : xSt} : f_Tokens_isDigit c σ = some (if kD c = true then 1 else 0) := by
  unfold f_Tokens_isDigit
  by_cases h1 : c < 48
  · rw [if_pos h1, if_neg (fun z => by have := kD_i.mp z; omega)]
  · by_cases h2 : 57 < c
    · rw [if_neg h1, if_pos h2, if_neg (fun z => by have := kD_i.mp z; omega)]
    · rw [if_neg h1, if_neg h2, if_pos (kD_i.mpr (by omega))]
theorem m_isL {c : Int} {σ : xSt} : f_M_isLetter c σ = some (if kL c = true then 1 else 0) := x_isL (σ := σ)
theorem m_isD {c : Int} {σ : xSt} : f_M_isDigit c σ = some (if kD c = true then 1 else 0) := x_isD (σ := σ)
/-- where a run of letters and digits ends -/
def runQ (d : Nat → Int) (n : Nat) : Nat → Nat
  | 0 => n
  | j + 1 => if kL (d (n - (j + 1))) = true ∨ kD (d (n - (j + 1))) = true then runQ d n j else n - (j + 1)
def cL (d : Nat → Int) (q m : Nat) : Nat := nsum (fun i => if kL (d (q + i)) = true then 1 else 0) m
def cD (d : Nat → Int) (q m : Nat) : Nat := nsum (fun i => if kL (d (q + i)) = true then 0 else 1) m
theorem cLD {d : Nat → Int} {q : Nat} : ∀ m : Nat, cL d q m + cD d q m = m := by
  intro m
  induction m with
  | zero => rfl
  | succ m ih =>
    have e1 : cL d q (m + 1) = cL d q m + (if kL (d (q + m)) = true then 1 else 0) := rfl
    have e2 : cD d q (m + 1) = cD d q m + (if kL (d (q + m)) = true then 0 else 1) := rfl
    rw [e1, e2]
    split <;> omega
/-- letters, and a number, as both sides add them up -/
def lv (b : Int) (d : Nat → Int) (q : Nat) : Nat → Int
  | 0 => 0
  | m + 1 => b * lv b d q m + (d (q + m) - 96)
def nv (d : Nat → Int) (q : Nat) : Nat → Int
  | 0 => 0
  | m + 1 => 10 * nv d q m + (d (q + m) - 48)
theorem lv_b {b : Int} {d : Nat → Int} {q : Nat} (hb : 0 ≤ b) (hb2 : b ≤ 32) : ∀ m : Nat, cD d q m = 0 → 0 ≤ lv b d q m ∧ lv b d q m < 32 ^ m := by
  intro m
  induction m with
  | zero => exact fun _ => ⟨Int.le_refl _, (by decide : (0 : Int) < 1)⟩
  | succ m ih =>
    intro h
    have e2 : cD d q (m + 1) = cD d q m + (if kL (d (q + m)) = true then 0 else 1) := rfl
    have hk : kL (d (q + m)) = true := by
      by_cases z : kL (d (q + m)) = true
      · exact z
      · rw [if_neg z] at e2
        omega
    rw [if_pos hk] at e2
    obtain ⟨i1, i2⟩ := ih (by omega)
    have hk2 := kL_i.mp hk
    have e3 : lv b d q (m + 1) = b * lv b d q m + (d (q + m) - 96) := rfl
    have e4 : (32 : Int) ^ (m + 1) = 32 ^ m * 32 := Int.pow_succ _ _
    have p1 : 0 ≤ b * lv b d q m := Int.mul_nonneg hb i1
    have p2 : b * lv b d q m ≤ 32 * lv b d q m := Int.mul_le_mul_of_nonneg_right hb2 i1
    rw [e3, e4]
    generalize b * lv b d q m = A at p1 p2
    generalize (32 : Int) ^ m = B at i2
    omega
theorem nv_b {d : Nat → Int} {q : Nat} : ∀ m : Nat, (∀ i : Nat, i < m → kD (d (q + i)) = true) → 0 ≤ nv d q m ∧ nv d q m < 10 ^ m := by
  intro m
  induction m with
  | zero => exact fun _ => ⟨Int.le_refl _, (by decide : (0 : Int) < 1)⟩
  | succ m ih =>
    intro h
    obtain ⟨i1, i2⟩ := ih (fun i hi => h i (by omega))
    have hk2 := kD_i.mp (h m (by omega))
    have e3 : nv d q (m + 1) = 10 * nv d q m + (d (q + m) - 48) := rfl
    have e4 : (10 : Int) ^ (m + 1) = 10 ^ m * 10 := Int.pow_succ _ _
    rw [e3, e4]
    generalize (10 : Int) ^ m = B at i2
    omega
