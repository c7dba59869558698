/-! one instruction: numbers -/
theorem n_add32 (x y : Int) : Int32.ofInt (w32 (x + y)) = Int32.ofInt x + Int32.ofInt y := by
  rw [← Int32.toInt_inj, Int32.toInt_add, i32_of (w32_in _), Int32.toInt_ofInt, Int32.toInt_ofInt]
  show (x + y).bmod 4294967296 = (x.bmod 4294967296 + y.bmod 4294967296).bmod 4294967296
  simp
theorem n_sub32 (x y : Int) : Int32.ofInt (w32 (x - y)) = Int32.ofInt x - Int32.ofInt y := by
  rw [← Int32.toInt_inj, Int32.toInt_sub, i32_of (w32_in _), Int32.toInt_ofInt, Int32.toInt_ofInt]
  show (x - y).bmod 4294967296 = (x.bmod 4294967296 - y.bmod 4294967296).bmod 4294967296
  simp
theorem n_mul32 (x y : Int) : Int32.ofInt (w32 (x * y)) = Int32.ofInt x * Int32.ofInt y := by
  rw [← Int32.toInt_inj, Int32.toInt_mul, i32_of (w32_in _), Int32.toInt_ofInt, Int32.toInt_ofInt]
  show (x * y).bmod 4294967296 = (x.bmod 4294967296 * y.bmod 4294967296).bmod 4294967296
  simp
theorem n_add64 (x y : Int) : Int64.ofInt (w64 (x + y)) = Int64.ofInt x + Int64.ofInt y := by
  rw [← Int64.toInt_inj, Int64.toInt_add, i64_of (w64_in _), Int64.toInt_ofInt, Int64.toInt_ofInt]
  show (x + y).bmod 18446744073709551616 = (x.bmod 18446744073709551616 + y.bmod 18446744073709551616).bmod 18446744073709551616
  simp
theorem n_sub64 (x y : Int) : Int64.ofInt (w64 (x - y)) = Int64.ofInt x - Int64.ofInt y := by
  rw [← Int64.toInt_inj, Int64.toInt_sub, i64_of (w64_in _), Int64.toInt_ofInt, Int64.toInt_ofInt]
  show (x - y).bmod 18446744073709551616 = (x.bmod 18446744073709551616 - y.bmod 18446744073709551616).bmod 18446744073709551616
  simp
theorem n_mul64 (x y : Int) : Int64.ofInt (w64 (x * y)) = Int64.ofInt x * Int64.ofInt y := by
  rw [← Int64.toInt_inj, Int64.toInt_mul, i64_of (w64_in _), Int64.toInt_ofInt, Int64.toInt_ofInt]
  show (x * y).bmod 18446744073709551616 = (x.bmod 18446744073709551616 * y.bmod 18446744073709551616).bmod 18446744073709551616
  simp
theorem n_neg64 (x : Int) : Int64.ofInt (w64 (-x)) = -Int64.ofInt x := by
  rw [← Int64.toInt_inj, Int64.toInt_neg, i64_of (w64_in _), Int64.toInt_ofInt]
  show (-x).bmod 18446744073709551616 = (-(x.bmod 18446744073709551616)).bmod 18446744073709551616
  simp
theorem n_div32 {x y : Int} (hx : in32 x) (hy : in32 y) : Int32.ofInt (xdiv x y) = Int32.ofInt x / Int32.ofInt y := by
  rw [← Int32.toInt_inj, Int32.toInt_div, i32_of hx, i32_of hy]
  exact i32_of (w32_in _)
theorem n_div64 {x y : Int} (hx : in64 x) (hy : in64 y) : Int64.ofInt (xldiv x y) = Int64.ofInt x / Int64.ofInt y := by
  rw [← Int64.toInt_inj, Int64.toInt_div, i64_of hx, i64_of hy]
  exact i64_of (w64_in _)
theorem n_rem32 {x y : Int} (hx : in32 x) (hy : in32 y) : Int32.ofInt (xrem x y) = Int32.ofInt x - Int32.ofInt x / Int32.ofInt y * Int32.ofInt y := by
  unfold xrem
  rw [n_sub32, n_mul32, n_div32 hx hy]
theorem n_rem64 {x y : Int} (hx : in64 x) (hy : in64 y) : Int64.ofInt (xlrem x y) = Int64.ofInt x - Int64.ofInt x / Int64.ofInt y * Int64.ofInt y := by
  unfold xlrem
  rw [n_sub64, n_mul64, n_div64 hx hy]
theorem n_i2l {x : Int} (hx : in32 x) : (Int32.ofInt x).toInt64 = Int64.ofInt x := by
  rw [← Int64.toInt_inj, Int32.toInt_toInt64, i32_of hx, i64_of ⟨by have := hx.1; omega, by have := hx.2; omega⟩]
theorem n_l2i {x : Int} : (Int64.ofInt x).toInt32 = Int32.ofInt (w32 x) := by
  rw [← Int32.toInt_inj, Int64.toInt_toInt32, Int64.toInt_ofInt, i32_of (w32_in _)]
  show (x.bmod 18446744073709551616).bmod 4294967296 = x.bmod 4294967296
  exact Int.bmod_bmod_of_dvd (by decide)
theorem n_i2b {x : Int} : (Int32.ofInt x).toInt8.toInt32 = Int32.ofInt (w8 x) := by
  rw [← Int32.toInt_inj, Int8.toInt_toInt32, Int32.toInt_toInt8, Int32.toInt_ofInt, i32_of (w8_in _)]
  show (x.bmod 4294967296).bmod 256 = x.bmod 256
  exact Int.bmod_bmod_of_dvd (by decide)
theorem n_cmp {x y : Int} (hx : in64 x) (hy : in64 y) : lg_cmp (Int64.ofInt x) (Int64.ofInt y) = Int32.ofInt (xlc x y) := by
  unfold lg_cmp xlc
  simp only [gt_iff_lt, i64_lt hy hx, i64_eq hx hy]
  split
  · rfl
  · split <;> rfl
theorem n_zero : (0 : Int32) = Int32.ofInt 0 := rfl
theorem n_zero64 : (0 : Int64) = Int64.ofInt 0 := rfl
theorem n_in0 : in32 0 := ⟨by decide, by decide⟩
theorem n_in064 : in64 0 := ⟨by decide, by decide⟩
theorem n_nat {x : Int} (h0 : 0 ≤ x) (hx : in32 x) : (Int32.ofInt x).toNatClampNeg = x.toNat := by
  show (Int32.ofInt x).toInt.toNat = x.toNat
  rw [i32_of hx]
theorem n_vp {x : Int} {n : Nat} (hn : n < 65536) (h : xin x n = true) : vp_in (Int32.ofInt x) n ∧ (Int32.ofInt x).toNatClampNeg = x.toNat ∧ 0 ≤ x ∧ x < n := by
  have h1 : 0 ≤ x ∧ x < (n : Int) := of_decide_eq_true h
  have h2 : in32 x := ⟨by omega, by omega⟩
  exact ⟨vp_in_iff.mpr (by rw [i32_of h2]; exact h1), n_nat h1.1 h2, h1⟩
theorem n_bool (x : Int) : Int32.ofInt x &&& 1 = Int32.ofInt (xnb x) := by
  have h0 : 0 ≤ x % 2 ∧ x % 2 < 2 := ⟨Int.emod_nonneg _ (by decide), Int.emod_lt_of_pos _ (by decide)⟩
  have key : ((Int32.ofInt x) &&& 1).toBitVec.toNat = (Int32.ofInt (xnb x)).toBitVec.toNat := by
    rw [Int32.toBitVec_and, Int32.toBitVec_ofInt, Int32.toBitVec_ofInt, BitVec.toNat_and]
    show (BitVec.ofInt 32 x).toNat &&& 1 = (BitVec.ofInt 32 (x % 2)).toNat
    rw [Nat.and_one_is_mod, BitVec.toNat_ofInt, BitVec.toNat_ofInt]
    omega
  exact Int32.toBitVec_inj.mp (BitVec.eq_of_toNat_eq key)
theorem n_nb_in (x : Int) : in32 (xnb x) := by
  unfold in32 xnb
  omega
theorem n_max {x y : Int} (hx : in32 x) (hy : in32 y) : (if Int32.ofInt x < Int32.ofInt y then Int32.ofInt y else Int32.ofInt x) = Int32.ofInt (xmax x y) := by
  unfold xmax
  simp only [i32_lt hx hy]
  split <;> rfl
theorem n_min {x y : Int} (hx : in32 x) (hy : in32 y) : (if Int32.ofInt y < Int32.ofInt x then Int32.ofInt y else Int32.ofInt x) = Int32.ofInt (xmin x y) := by
  unfold xmin
  simp only [i32_lt hy hx]
  by_cases h1 : y < x
  · rw [if_pos h1, if_neg (by omega)]
  · rw [if_neg h1]
    by_cases h2 : x < y
    · rw [if_pos h2]
    · rw [if_neg h2, show x = y by omega]
theorem n_abs {x : Int} (hx : in32 x) : (if 0 ≤ Int32.ofInt x then Int32.ofInt x else 0 - Int32.ofInt x) = Int32.ofInt (xabs x) := by
  unfold xabs
  rw [n_zero]
  simp only [i32_le n_in0 hx]
  split
  · rfl
  · rw [n_sub32]
theorem n_labs {x : Int} (hx : in64 x) : (if 0 < Int64.ofInt x then Int64.ofInt x else -Int64.ofInt x) = Int64.ofInt (xlabs x) := by
  unfold xlabs
  rw [n_zero64]
  simp only [i64_lt n_in064 hx]
  split
  · rfl
  · rw [n_neg64]
theorem n_shl (x y : Int) : Int64.ofInt (xlshl x y) = Int64.ofInt x <<< ((Int32.ofInt y).toInt64 &&& 63) := Int64.ofInt_toInt _
theorem n_shr (x y : Int) : Int64.ofInt (xlshr x y) = Int64.ofInt x >>> ((Int32.ofInt y).toInt64 &&& 63) := Int64.ofInt_toInt _
theorem tg_ok {pc : Nat} {off : Int} (h : okT pc off = true) : (pc : Int) + off = (tg pc off : Int) := (Int.toNat_of_nonneg (of_decide_eq_true h)).symm
theorem ok_cons {v : xV} {st : List xV} (h : okV v) (hs : ∀ w ∈ st, okV w) : ∀ w ∈ v :: st, okV w := fun w hw => (List.mem_cons.mp hw).elim (fun q => q ▸ h) (hs w)
theorem ok_tl {v : xV} {st : List xV} (hs : ∀ w ∈ v :: st, okV w) : ∀ w ∈ st, okV w := fun w hw => hs w (List.mem_cons_of_mem _ hw)
theorem ok_hd {v : xV} {st : List xV} (hs : ∀ w ∈ v :: st, okV w) : okV v := hs v List.mem_cons_self
theorem InR_up {σ : xSt} {a k : Nat} {x : Int} (h : InR σ) (hx : if isLg a k = true then in64 x else in32 x) : InR (upS σ a k x) := by
  intro b j
  unfold upS
  by_cases hbj : b = a ∧ j = k
  · obtain ⟨rfl, rfl⟩ := hbj
    have hz_ : (if b = b ∧ j = j then x else σ b j) = x := if_pos ⟨rfl, rfl⟩
    rw [hz_]
    exact hx
  · rw [if_neg hbj]
    exact h b j
theorem InR32 {σ : xSt} {a k : Nat} (h : InR σ) (hx : isLg a k = false) : in32 (σ a k) := by
  have := h a k
  rw [hx] at this
  simpa using this
theorem InR64 {σ : xSt} {a k : Nat} (h : InR σ) (hx : isLg a k = true) : in64 (σ a k) := by
  have := h a k
  rw [hx] at this
  simpa using this
theorem lg_arr {a k : Nat} (h1 : (lay a).1 ≠ 23) (h2 : 13 ≤ (lay a).1) : isLg a k = false := by
  unfold isLg
  rw [show Nat.beq (lay a).1 23 = false from Bool.eq_false_iff.mpr (fun z_ => h1 (Nat.eq_of_beq_eq_true z_)), show Nat.blt (lay a).1 13 = false from Bool.eq_false_iff.mpr (fun z_ => by have := Nat.le_of_ble_eq_true z_; omega)]
  rfl
theorem lg_arr23 {a k : Nat} (h1 : (lay a).1 = 23) : isLg a k = true := by
  unfold isLg
  rw [h1]
  rfl
theorem lg_fld {a k : Nat} (h1 : (lay a).1 < 13) : isLg a k = Nat.beq (fty (lay a).1 k) 1 := by
  unfold isLg
  rw [show Nat.beq (lay a).1 23 = false from Bool.eq_false_iff.mpr (fun z_ => by have := Nat.eq_of_beq_eq_true z_; omega), show Nat.blt (lay a).1 13 = true from Nat.ble_eq_true_of_le h1]
  simp
theorem fval_ok {σ : xSt} {a k : Nat} (h1 : (lay a).1 < 13) (h : InR σ) : okV (fval (lay a).1 k a σ) := by
  unfold fval
  split
  · rename_i hq_
    exact InR32 h (by rw [lg_fld h1, hq_]; rfl)
  · rename_i hq_
    exact InR64 h (by rw [lg_fld h1, hq_]; rfl)
  · rename_i hq_
    exact InR32 h (by rw [lg_fld h1, hq_]; rfl)
  · trivial
theorem ok_set {ls : xL} {i : Nat} {v : Option xV} (h : ∀ w, some w ∈ ls → okV w) (hv : ∀ w, v = some w → okV w) : ∀ w, some w ∈ ls.set i v → okV w := fun w hw => (List.mem_or_eq_of_mem_set hw).elim (h w) (fun q => hv w q.symm)
theorem ok_at {ls : xL} {i : Nat} {v : xV} (h : ∀ w, some w ∈ ls → okV w) (hi : ls[i]? = some (some v)) : okV v := h v (List.mem_of_getElem? hi)
