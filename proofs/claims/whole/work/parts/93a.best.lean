/-! best: codes of what stands on a SIDE; weighing -/
def clB (b0 b1 b2 : Bool) (t : Nat) : Bool := if t = 0 then b0 else if t = 1 then b1 else if t = 2 then b2 else false
def valB (b0 b1 b2 : Bool) (c : Nat) : Bool := Nat.blt c 3 || clB b0 b1 b2 ((c - 3) / 9)
def rkC (b0 b1 b2 : Bool) : Nat → Nat
  | 0 => 0
  | c + 1 => rkC b0 b1 b2 c + (if valB b0 b1 b2 c = true then 1 else 0)
def ncB (b0 b1 b2 : Bool) : Nat → Nat
  | 0 => 0
  | t + 1 => ncB b0 b1 b2 t + (if clB b0 b1 b2 t = true then 1 else 0)
def rkcOk (b0 b1 b2 : Bool) : Bool := Nat.beq (rkC b0 b1 b2 30) (3 + 9 * ncB b0 b1 b2 3) && Nat.ble (ncB b0 b1 b2 3) 3 && (List.range 31).all (fun c => Nat.ble (rkC b0 b1 b2 c) c && Nat.ble (rkC b0 b1 b2 c) (rkC b0 b1 b2 30)) && (List.range 30).all (fun c => !(valB b0 b1 b2 c) || (Nat.blt (rkC b0 b1 b2 c) (rkC b0 b1 b2 30) && (if c < 3 then Nat.beq (rkC b0 b1 b2 c) c else Nat.beq (rkC b0 b1 b2 c) (3 + 9 * ncB b0 b1 b2 ((c - 3) / 9) + (c - 3) % 9) && Nat.blt (ncB b0 b1 b2 ((c - 3) / 9)) (ncB b0 b1 b2 3))))
theorem rkc_all : ∀ b0 b1 b2 : Bool, rkcOk b0 b1 b2 = true := by decide +kernel
theorem rkc_nums (b0 b1 b2 : Bool) : rkC b0 b1 b2 30 = 3 + 9 * ncB b0 b1 b2 3 ∧ ncB b0 b1 b2 3 ≤ 3 ∧ (∀ c, c ≤ 30 → rkC b0 b1 b2 c ≤ c ∧ rkC b0 b1 b2 c ≤ rkC b0 b1 b2 30) ∧ ∀ c, c < 30 → valB b0 b1 b2 c = true → rkC b0 b1 b2 c < rkC b0 b1 b2 30 ∧ (c < 3 → rkC b0 b1 b2 c = c) ∧ (3 ≤ c → rkC b0 b1 b2 c = 3 + 9 * ncB b0 b1 b2 ((c - 3) / 9) + (c - 3) % 9 ∧ ncB b0 b1 b2 ((c - 3) / 9) < ncB b0 b1 b2 3) := by
  have h := rkc_all b0 b1 b2
  unfold rkcOk at h
  simp only [Bool.and_eq_true] at h
  obtain ⟨⟨⟨h1, h2⟩, h3⟩, h4⟩ := h
  refine ⟨Nat.eq_of_beq_eq_true h1, Nat.le_of_ble_eq_true h2, fun c hc => ?_, fun c hc hv => ?_⟩
  · have h5 := List.all_eq_true.mp h3 c (List.mem_range.mpr (by omega))
    simp only [Bool.and_eq_true] at h5
    exact ⟨Nat.le_of_ble_eq_true h5.1, Nat.le_of_ble_eq_true h5.2⟩
  · have h5 := List.all_eq_true.mp h4 c (List.mem_range.mpr hc)
    rw [hv, Bool.not_true, Bool.false_or, Bool.and_eq_true] at h5
    obtain ⟨h6, h7⟩ := h5
    refine ⟨Nat.le_of_ble_eq_true h6, fun z => ?_, fun z => ?_⟩
    · rw [if_pos z] at h7
      exact Nat.eq_of_beq_eq_true h7
    · rw [if_neg (by omega), Bool.and_eq_true] at h7
      exact ⟨Nat.eq_of_beq_eq_true h7.1, Nat.le_of_ble_eq_true h7.2⟩
/-- the parts of a choice for END k; all its parts; how many throws -/
def Fp (p0 p1 : Nat → Nat) (c k : Nat) : Nat := if c < 3 then (if c = k then 1 else 0) else (if (c - 3) % 9 / 3 = k then p0 ((c - 3) / 9) else 0) + (if (c - 3) % 9 % 3 = k then p1 ((c - 3) / 9) else 0)
def Wh (A : Nat → Nat) (c : Nat) : Nat := if c < 3 then 1 else A ((c - 3) / 9)
def Ta (c : Nat) : Nat := if c < 3 then 0 else 1
/-- a fraction against another, crosswise -/
theorem cross {x y X Y a b P Q : Nat} (hy : 0 < y) (hY : 0 < Y) (hb : 0 < b) (hQ : 0 < Q) (h1 : X * y = x * Y) (h2 : P * b = a * Q) : X * Q < P * Y ↔ x * b < a * y := by
  have e1 : X * Q * (y * b) = x * b * (Y * Q) := by
    have : X * Q * (y * b) = (X * y) * (Q * b) := by ac_rfl
    rw [this, h1]
    ac_rfl
  have e2 : P * Y * (y * b) = a * y * (Y * Q) := by
    have : P * Y * (y * b) = (P * b) * (Y * y) := by ac_rfl
    rw [this, h2]
    ac_rfl
  have p1 : 0 < y * b := Nat.mul_pos hy hb
  have p2 : 0 < Y * Q := Nat.mul_pos hY hQ
  constructor
  · intro h
    have h3 : X * Q * (y * b) < P * Y * (y * b) := Nat.mul_lt_mul_of_pos_right h p1
    rw [e1, e2] at h3
    exact Nat.lt_of_mul_lt_mul_right h3
  · intro h
    have h3 : x * b * (Y * Q) < a * y * (Y * Q) := Nat.mul_lt_mul_of_pos_right h p2
    rw [← e1, ← e2] at h3
    exact Nat.lt_of_mul_lt_mul_right h3
/-- the class's best so far -/
def updX (σ : xSt) (t c1 c2 : Int) (X Y : Nat) : xSt := upS (upS (upS (upS (upS (upS σ 105 8 1) 105 9 (X : Int)) 105 10 (Y : Int)) 105 11 t) 105 12 c1) 105 13 c2
theorem x_thrown {c : Nat} {σ : xSt} : f_Best_thrownAfter (c : Int) σ = some (Ta c : Int) := by
  unfold f_Best_thrownAfter Ta
  by_cases h : c < 3
  · rw [if_pos (by omega), if_pos h]
    rfl
  · rw [if_neg (by omega), if_neg h]
    rfl
theorem x_weigh {σ : xSt} {t : Int} {q0 q1 c1 c2 W1 W2 a1 a2 b1 b2 : Nat} (h1 : c1 < 30) (h2 : c2 < 30) (hq0 : q0 ≤ 9) (hq1 : q1 ≤ 9) (w1 : σ 109 c1 = (W1 : Int)) (w2 : σ 109 c2 = (W2 : Int)) (f1 : σ 107 c1 = (a1 : Int)) (f2 : σ 107 c2 = (a2 : Int)) (s1 : σ 108 c1 = (b1 : Int)) (s2 : σ 108 c2 = (b2 : Int)) (hW1 : W1 ≤ 9) (hW2 : W2 ≤ 9) (ha1 : a1 ≤ 9) (ha2 : a2 ≤ 9) (hb1 : b1 ≤ 9) (hb2 : b2 ≤ 9)
    (hfl : σ 105 8 = 0 ∨ σ 105 8 = 1 ∧ ∃ lA lB : Nat, σ 105 9 = (lA : Int) ∧ σ 105 10 = (lB : Int) ∧ lA ≤ 100000 ∧ lB ≤ 100000) :
    f_Best_weigh t (q0 : Int) (q1 : Int) (c1 : Int) (c2 : Int) σ = some (if q0 * W2 * a1 + q1 * W1 * a2 = 0 then σ else if q0 * W2 * a1 + q1 * W1 * a2 = q0 * W2 * b1 + q1 * W1 * b2 then
      (if σ 105 8 = 0 then updX σ t (c1 : Int) (c2 : Int) ((q0 * (1 + Ta c1) + q1 * (1 + Ta c2)) * W1 * W2) (2 * (q0 * W2 * a1 + q1 * W1 * a2)) else if (q0 * (1 + Ta c1) + q1 * (1 + Ta c2)) * W1 * W2 * (σ 105 10).toNat < (σ 105 9).toNat * (2 * (q0 * W2 * a1 + q1 * W1 * a2)) then updX σ t (c1 : Int) (c2 : Int) ((q0 * (1 + Ta c1) + q1 * (1 + Ta c2)) * W1 * W2) (2 * (q0 * W2 * a1 + q1 * W1 * a2)) else σ) else σ) := by
  have m : ∀ {a b x y : Nat}, a ≤ x → b ≤ y → a * b ≤ x * y := fun h1 h2 => Nat.mul_le_mul h1 h2
  have t1 : Ta c1 ≤ 1 := by unfold Ta; split <;> omega
  have t2 : Ta c2 ≤ 1 := by unfold Ta; split <;> omega
  have i1 : 0 ≤ (c1 : Int) ∧ (c1 : Int) < 30 := by omega
  have i2 : 0 ≤ (c2 : Int) ∧ (c2 : Int) < 30 := by omega
  have v1 := m hq0 hW2
  have v2 := m hq1 hW1
  have v3 := m v1 ha1
  have v4 := m v2 ha2
  have v5 := m v1 hb1
  have v6 := m v2 hb2
  have v7 : q0 * (1 + Ta c1) ≤ 9 * 2 := m hq0 (by omega)
  have v8 : q1 * (1 + Ta c2) ≤ 9 * 2 := m hq1 (by omega)
  have v9 : (q0 * (1 + Ta c1) + q1 * (1 + Ta c2)) * W1 ≤ 36 * 9 := m (by omega) hW1
  have v10 : (q0 * (1 + Ta c1) + q1 * (1 + Ta c2)) * W1 * W2 ≤ 36 * 9 * 9 := m v9 hW2
  have r1 : q0 * W2 < 9223372036854775808 := by omega
  have r2 : q1 * W1 < 9223372036854775808 := by omega
  have r3 : q0 * W2 * a1 < 9223372036854775808 := by omega
  have r4 : q1 * W1 * a2 < 9223372036854775808 := by omega
  have r5 : q0 * W2 * a1 + q1 * W1 * a2 < 9223372036854775808 := by omega
  have r6 : q0 * W2 * b1 < 9223372036854775808 := by omega
  have r7 : q1 * W1 * b2 < 9223372036854775808 := by omega
  have r8 : q0 * W2 * b1 + q1 * W1 * b2 < 9223372036854775808 := by omega
  have r9 : (q0 * (1 + Ta c1) + q1 * (1 + Ta c2)) * W1 < 9223372036854775808 := by omega
  have r10 : (q0 * (1 + Ta c1) + q1 * (1 + Ta c2)) * W1 * W2 < 9223372036854775808 := by omega
  have r11 : 2 * (q0 * W2 * a1 + q1 * W1 * a2) < 9223372036854775808 := by omega
  have r12 : 2 * (q0 * W2 * a1 + q1 * W1 * a2) ≤ 2000000 := by omega
  have r13 : (q0 * (1 + Ta c1) + q1 * (1 + Ta c2)) * W1 * W2 ≤ 2000000 := by omega
  have u1 : 1 + Ta c1 < 100000 := by omega
  have u2 : 1 + Ta c2 < 100000 := by omega
  have u3 : q0 * (1 + Ta c1) + q1 * (1 + Ta c2) < 100000 := by omega
  have z0 : ¬ (q0 * W2 * a1 + q1 * W1 * a2 = 0) → ¬ xlc ((q0 * W2 * a1 + q1 * W1 * a2 : Nat) : Int) 0 = 0 := fun h z => h (by have := xlc_eq.mp z; omega)
  have e1 : w32 (1 + (Ta c1 : Int)) = ((1 + Ta c1 : Nat) : Int) := w32_nn (a := 1) u1
  have e2 : w32 (1 + (Ta c2 : Int)) = ((1 + Ta c2 : Nat) : Int) := w32_nn (a := 1) u2
  have e3 : w32 ((q0 : Int) * ((1 + Ta c1 : Nat) : Int)) = ((q0 * (1 + Ta c1) : Nat) : Int) := by
    rw [← Int.natCast_mul]
    exact w32_o (by omega) (by omega)
  have e4 : w32 ((q1 : Int) * ((1 + Ta c2 : Nat) : Int)) = ((q1 * (1 + Ta c2) : Nat) : Int) := by
    rw [← Int.natCast_mul]
    exact w32_o (by omega) (by omega)
  have e5 : w64 (2 * ((q0 * W2 * a1 + q1 * W1 * a2 : Nat) : Int)) = ((2 * (q0 * W2 * a1 + q1 * W1 * a2) : Nat) : Int) := w64_mul (a := 2) r11
  have b178 : ∀ X Y : Nat, f_Best_weigh_178 t (c1 : Int) (c2 : Int) (X : Int) (Y : Int) σ = some (updX σ t (c1 : Int) (c2 : Int) X Y) := fun X Y => rfl
  unfold f_Best_weigh
  rw [x_isWithin, if_pos i1, xbR_s, if_neg (by decide), x_isWithin, if_pos i2, xbR_s, if_neg (by decide), if_pos i2, Int.toNat_natCast, Int.toNat_natCast, w2, w64_mul r1, xlet_s, if_pos i1, w1, w64_mul r2, xlet_s, if_pos i1, if_pos i2, f1, f2, w64_mul r3, w64_mul r4, w64_add r5, xlet_s]
  by_cases hz : q0 * W2 * a1 + q1 * W1 * a2 = 0
  · rw [if_pos hz, if_pos (by rw [hz]; rfl)]
  · rw [if_neg hz, if_neg (z0 hz), if_pos i1, if_pos i2, s1, s2, w64_mul r6, w64_mul r7, w64_add r8]
    by_cases hq : q0 * W2 * a1 + q1 * W1 * a2 = q0 * W2 * b1 + q1 * W1 * b2
    · rw [if_pos hq, if_pos (xlc_eq.mpr (by rw [hq])), x_thrown, xbR_s, x_thrown, xbR_s, e1, e2, e3, e4, w32_nn u3, xlet_s, if_pos i1, if_pos i2, w64_mul r9, w64_mul r10, xlet_s, e5, xlet_s]
      rcases hfl with h8 | ⟨h8, lA, lB, l1, l2, l3, l4⟩
      · rw [if_pos h8, if_pos h8, b178]
      · have n8 : ¬ σ 105 8 = 0 := by omega
        have m1 : (q0 * (1 + Ta c1) + q1 * (1 + Ta c2)) * W1 * W2 * lB ≤ 2000000 * 100000 := m r13 l4
        have m2 : lA * (2 * (q0 * W2 * a1 + q1 * W1 * a2)) ≤ 100000 * 2000000 := m l3 r12
        have m3 : (q0 * (1 + Ta c1) + q1 * (1 + Ta c2)) * W1 * W2 * lB < 9223372036854775808 := by omega
        have m4 : lA * (2 * (q0 * W2 * a1 + q1 * W1 * a2)) < 9223372036854775808 := by omega
        rw [if_neg n8, if_neg n8, l1, l2, w64_mul m3, w64_mul m4, Int.toNat_natCast, Int.toNat_natCast]
        by_cases hc : (q0 * (1 + Ta c1) + q1 * (1 + Ta c2)) * W1 * W2 * lB < lA * (2 * (q0 * W2 * a1 + q1 * W1 * a2))
        · rw [if_pos hc, if_pos (xlc_lt.mpr (by omega)), b178]
        · rw [if_neg hc, if_neg (fun z => hc (by have := xlc_lt.mp z; omega))]
    · rw [if_neg hq, if_neg (fun z => hq (by have := xlc_eq.mp z; omega))]
