/-! bits of the pile -/
theorem ofn {a : Nat} (h : a < 4294967296) : (Int32.ofInt (a : Int)).toBitVec.toNat = a := by
  rw [Int32.toBitVec_ofInt, BitVec.toNat_ofInt]
  omega
theorem i32n {a : Nat} {x : Int32} (h : a < 2147483648) (hx : x.toBitVec.toNat = a) : x.toInt = (a : Int) := by
  have h1 : x.toBitVec.toInt = (x.toBitVec.toNat : Int) := BitVec.toInt_eq_toNat_of_lt (by omega)
  rw [hx] at h1
  exact h1
theorem bit_or {y c : Nat} (hc : c < 2) : y ||| c = 2 * (y / 2) + (if y % 2 = 1 ∨ c = 1 then 1 else 0) := by
  have h1 : (y ||| c) / 2 = y / 2 ||| c / 2 := Nat.or_div_two
  have h2 : (y ||| c) % 2 = 1 ↔ y % 2 = 1 ∨ c % 2 = 1 := Nat.or_mod_two_eq_one
  rw [show c / 2 = 0 by omega, Nat.or_zero] at h1
  rw [show c % 2 = c by omega] at h2
  split
  · rename_i h
    have := h2.mpr h
    omega
  · rename_i h
    have : ¬ (y ||| c) % 2 = 1 := fun z => h (h2.mp z)
    omega
theorem bit_xor {y : Nat} : y ^^^ 1 = 2 * (y / 2) + (1 - y % 2) := by
  have h1 : (y ^^^ 1) / 2 = y / 2 ^^^ 1 / 2 := Nat.xor_div_two
  have h2 : (y ^^^ 1) % 2 = 1 ↔ ¬ (y % 2 = 1 ↔ 1 % 2 = 1) := Nat.xor_mod_two_eq_one
  rw [show 1 / 2 = 0 by decide, Nat.xor_zero] at h1
  by_cases h : y % 2 = 1
  · have : ¬ (y ^^^ 1) % 2 = 1 := fun z => h2.mp z ⟨fun _ => rfl, fun _ => h⟩
    omega
  · have : (y ^^^ 1) % 2 = 1 := h2.mpr (fun z => h (z.mpr rfl))
    omega
theorem bit_and {y : Nat} (h : y < 2147483648) : y &&& 4294967294 = 2 * (y / 2) := by
  have h1 : (y &&& 4294967294) / 2 = y / 2 &&& 4294967294 / 2 := Nat.and_div_two
  have h2 : (y &&& 4294967294) % 2 = 1 ↔ y % 2 = 1 ∧ 4294967294 % 2 = 1 := Nat.and_mod_two_eq_one
  have h3 : y / 2 &&& (2 ^ 31 - 1) = y / 2 % 2 ^ 31 := Nat.and_two_pow_sub_one_eq_mod _ _
  have h4 : (4294967294 : Nat) / 2 = 2 ^ 31 - 1 := by decide
  rw [h4, h3] at h1
  have : ¬ (y &&& 4294967294) % 2 = 1 := fun z => absurd (h2.mp z).2 (by decide)
  omega
theorem xand_1 (x : Int) : xand x 1 = x % 2 := by
  have h0 : 0 ≤ x % 2 ∧ x % 2 < 2 := ⟨Int.emod_nonneg _ (by decide), Int.emod_lt_of_pos _ (by decide)⟩
  unfold xand o32
  have key : (Int32.ofInt x &&& Int32.ofInt 1) = Int32.ofInt (x % 2) := by
    apply Int32.toBitVec_inj.mp
    apply BitVec.eq_of_toNat_eq
    rw [Int32.toBitVec_and, Int32.toBitVec_ofInt, Int32.toBitVec_ofInt, Int32.toBitVec_ofInt, BitVec.toNat_and]
    show (BitVec.ofInt 32 x).toNat &&& (2 ^ 1 - 1) = (BitVec.ofInt 32 (x % 2)).toNat
    rw [Nat.and_two_pow_sub_one_eq_mod, BitVec.toNat_ofInt, BitVec.toNat_ofInt]
    omega
  show (Int32.ofInt x &&& Int32.ofInt 1).toInt = x % 2
  rw [key, i32_of ⟨by omega, by omega⟩]
theorem xor32_n {a b : Nat} (ha : a < 2147483648) (hb : b < 2) : xor32 (a : Int) (b : Int) = ((2 * (a / 2) + (if a % 2 = 1 ∨ b = 1 then 1 else 0) : Nat) : Int) := by
  unfold xor32 o32
  have hx : (Int32.ofInt (a : Int) ||| Int32.ofInt (b : Int)).toBitVec.toNat = 2 * (a / 2) + (if a % 2 = 1 ∨ b = 1 then 1 else 0) := by
    rw [Int32.toBitVec_or, BitVec.toNat_or, ofn (by omega), ofn (by omega), bit_or hb]
  exact i32n (by split <;> omega) hx
theorem xxor_n {a : Nat} (ha : a < 2147483648) : xxor (a : Int) 1 = ((2 * (a / 2) + (1 - a % 2) : Nat) : Int) := by
  unfold xxor o32
  have hx : (Int32.ofInt (a : Int) ^^^ Int32.ofInt ((1 : Nat) : Int)).toBitVec.toNat = 2 * (a / 2) + (1 - a % 2) := by
    rw [Int32.toBitVec_xor, BitVec.toNat_xor, ofn (by omega), ofn (by omega), bit_xor]
  exact i32n (by omega) hx
theorem xand_m2 {a : Nat} (ha : a < 2147483648) : xand (a : Int) (-2) = ((2 * (a / 2) : Nat) : Int) := by
  unfold xand o32
  have hx : (Int32.ofInt (a : Int) &&& Int32.ofInt (-2)).toBitVec.toNat = 2 * (a / 2) := by
    rw [Int32.toBitVec_and, BitVec.toNat_and, ofn (by omega)]
    show a &&& 4294967294 = _
    rw [bit_and ha]
  exact i32n (by omega) hx
theorem xand_m1 {a : Nat} (ha : a < 2147483648) : xand (a : Int) (-1) = (a : Int) := by
  unfold xand o32
  have hx : (Int32.ofInt (a : Int) &&& Int32.ofInt (-1)).toBitVec.toNat = a := by
    rw [Int32.toBitVec_and, BitVec.toNat_and, ofn (by omega)]
    show a &&& (2 ^ 32 - 1) = _
    rw [Nat.and_two_pow_sub_one_eq_mod]
    omega
  exact i32n (by omega) hx
theorem xor_m2 : xor32 (-2) 0 = -2 ∧ xor32 (-2) 1 = -1 := by decide +kernel
theorem xushr_1 {a : Nat} (ha : a < 2147483648) : xushr (a : Int) 1 = ((a / 2 : Nat) : Int) := by
  unfold xushr o32
  have h1 : ((Int32.ofInt (a : Int)).toUInt32 >>> ((Int32.ofInt 1).toUInt32 &&& Int32.toUInt32 31)).toNat = (Int32.ofInt (a : Int)).toUInt32.toNat >>> 1 := by
    rw [UInt32.toNat_shiftRight]
    rfl
  have h2 : (Int32.ofInt (a : Int)).toUInt32.toNat = a := ofn (by omega)
  refine i32n (by omega) ?_
  show (((Int32.ofInt (a : Int)).toUInt32 >>> ((Int32.ofInt 1).toUInt32 &&& Int32.toUInt32 31)).toInt32).toBitVec.toNat = _
  rw [UInt32.toBitVec_toInt32]
  show ((Int32.ofInt (a : Int)).toUInt32 >>> ((Int32.ofInt 1).toUInt32 &&& Int32.toUInt32 31)).toNat = _
  rw [h1, h2, Nat.shiftRight_eq_div_pow]
theorem xshl_1 {a : Nat} (ha : a < 1073741824) : xshl (a : Int) 1 = ((2 * a : Nat) : Int) := by
  unfold xshl o32
  refine i32n (by omega) ?_
  show (Int32.ofInt (a : Int) <<< (Int32.ofInt 1 &&& 31)).toBitVec.toNat = _
  rw [Int32.toBitVec_shiftLeft]
  show ((Int32.ofInt (a : Int)).toBitVec <<< (1 : Nat)).toNat = _
  rw [BitVec.toNat_shiftLeft, ofn (by omega), Nat.shiftLeft_eq]
  omega
