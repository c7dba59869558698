/-! best: the model's weights -/
theorem m_common_ {σ : xSt} {a b : Nat} (ha : a < 9223372036854775808) (hb : b < 9223372036854775808) : f_M_common (a : Int) (b : Int) σ = some ((Nat.gcd a b : Nat) : Int) := by
  unfold f_M_common
  rw [if_neg (fun z => by have := xlc_lt.mp z; omega)]
  exact m_common17 63 1000000 a b (by omega) ha hb (by omega)
/-- what the model's coins are -/
def CoM (τ : xSt) (b0 b1 b2 : Bool) (p0 p1 A : Nat → Nat) : Prop := τ 111 57 = (ncB b0 b1 b2 3 : Int) ∧ ∀ t : Nat, t < 3 → clB b0 b1 b2 t = true → τ 132 (ncB b0 b1 b2 t) = (t : Int) ∧ τ 113 (6 + 8 * t) = (p0 t : Int) ∧ τ 113 (7 + 8 * t) = (p1 t : Int) ∧ τ 113 (5 + 8 * t) = (A t : Int) ∧ p0 t ≤ 9 ∧ p1 t ≤ 9 ∧ 1 ≤ A t ∧ A t ≤ 9 ∧ A t = p0 t + p1 t
theorem Fp_le {p0 p1 : Nat → Nat} {c k : Nat} (h : 3 ≤ c → p0 ((c - 3) / 9) + p1 ((c - 3) / 9) ≤ 9) : Fp p0 p1 c k ≤ 9 := by
  unfold Fp
  by_cases hc : c < 3
  · rw [if_pos hc]
    split <;> omega
  · have := h (by omega)
    rw [if_neg hc]
    split <;> split <;> omega
theorem m_addSide {τ : xSt} {b0 b1 b2 : Bool} {p0 p1 A : Nat → Nat} {c w all : Nat} {o : Nat → Nat} (hC : CoM τ b0 b1 b2 p0 p1 A) (hc : c < 30) (hv : valB b0 b1 b2 c = true) (hw : w ≤ 9) (hall : all ≤ 729) (ho : ∀ k, k < 4 → o k ≤ 1000000 ∧ τ 134 k = (o k : Int)) :
    ∃ τ', f_M_addSide (rkC b0 b1 b2 c : Int) (w : Int) (all : Int) τ = some τ' ∧ (∀ k : Nat, k < 3 → τ' 134 k = ((o k + w * Fp p0 p1 c k * (all / Wh A c) : Nat) : Int)) ∧ τ' 134 3 = ((o 3 + (1 + Ta c) * (w * all) : Nat) : Int) ∧ ∀ a q, a ≠ 134 → τ' a q = τ a q := by
  obtain ⟨-, r1, -, r2⟩ := rkc_nums b0 b1 b2
  obtain ⟨r3, r4, r5⟩ := r2 c hc hv
  have hwa : w * all ≤ 9 * 729 := Nat.mul_le_mul hw hall
  by_cases h3 : c < 3
  · have hk := r4 h3
    have o1 := ho c (by omega)
    have o3 := ho 3 (by omega)
    have b1' : 0 ≤ (c : Int) ∧ (c : Int) < 4 := by omega
    have q1 : w * all < 9223372036854775808 := by omega
    have q2 : o c + w * all < 9223372036854775808 := by omega
    have q3 : o 3 + w * all < 9223372036854775808 := by omega
    have hc3 : c ≠ 3 := by omega
    have hlt : (c : Int) < 3 := by omega
    refine ⟨upS (upS τ 134 c ((o c + w * all : Nat) : Int)) 134 3 ((o 3 + w * all : Nat) : Int), ?_, fun k hk2 => ?_, ?_, fun a q ha => by rw [upS_ne ha, upS_ne ha]⟩
    · unfold f_M_addSide
      rw [hk, if_pos hlt, if_pos b1', if_pos b1', Int.toNat_natCast, o1.2, w64_mul q1, w64_add q2, xlet_s, upS_nk (Ne.symm hc3), o3.2, w64_add q3, xlet_s]
    · rw [upS_nk (by omega)]
      unfold Fp Wh
      rw [if_pos h3, if_pos h3, Nat.div_one]
      by_cases hz : k = c
      · rw [hz, upS_eq, if_pos rfl, Nat.mul_one]
      · rw [upS_nk hz, if_neg (fun z => hz z.symm), Nat.mul_zero, Nat.zero_mul, Nat.add_zero]
        exact (ho k (by omega)).2
    · rw [upS_eq]
      unfold Ta
      rw [if_pos h3, Nat.add_zero, Nat.one_mul]
  · have hge : 3 ≤ c := by omega
    obtain ⟨r6, r7⟩ := r5 hge
    have ht : (c - 3) / 9 < 3 := by omega
    have hcl : clB b0 b1 b2 ((c - 3) / 9) = true := by
      unfold valB at hv
      have hb : Nat.blt c 3 = false := by
        cases hz : Nat.blt c 3 with
        | false => rfl
        | true => exact absurd (Nat.le_of_ble_eq_true hz) (by omega)
      rw [hb, Bool.false_or] at hv
      exact hv
    obtain ⟨d1, d2, d3, d4, d5, d6, d7, d8, d9⟩ := hC.2 _ ht hcl
    generalize hT : (c - 3) / 9 = t at r6 r7 ht hcl d1 d2 d3 d4 d5 d6 d7 d8 d9
    generalize hI : (c - 3) % 9 = i at r6
    have hi9 : i < 9 := by omega
    generalize hN : ncB b0 b1 b2 t = nt at r6 r7 d1
    have ek : rkC b0 b1 b2 c = 9 * nt + i + 3 := by omega
    have hlt : ¬ ((9 * nt + i + 3 : Nat) : Int) < 3 := by omega
    have n1 : (9 * nt + i) / 9 = nt := by omega
    have n2 : (9 * nt + i) % 9 = i := by omega
    have s1 : 9 * nt + i < 2147483648 := by omega
    have s2 : i < 2147483648 := by omega
    have c0 : 0 ≤ (nt : Int) ∧ (nt : Int) < 3 := by omega
    have c1 : 0 ≤ ((i / 3 : Nat) : Int) ∧ ((i / 3 : Nat) : Int) < 4 := by omega
    have c2 : 0 ≤ ((i % 3 : Nat) : Int) ∧ ((i % 3 : Nat) : Int) < 4 := by omega
    have cA : ¬ (A t : Int) = 0 := by omega
    have t3 : (t : Int) < 3 := by omega
    have t0 : 0 ≤ (t : Int) := by omega
    have all2 : all < 9223372036854775808 := by omega
    have hby : all / A t ≤ 729 := Nat.le_trans (Nat.div_le_self _ _) hall
    have x0 : w * p0 t ≤ 9 * 9 := Nat.mul_le_mul hw d5
    have x1 : w * p1 t ≤ 9 * 9 := Nat.mul_le_mul hw d6
    have y0 : w * p0 t * (all / A t) ≤ 9 * 9 * 729 := Nat.mul_le_mul x0 hby
    have y1 : w * p1 t * (all / A t) ≤ 9 * 9 * 729 := Nat.mul_le_mul x1 hby
    have g1 : w * p0 t < 9223372036854775808 := by omega
    have g2 : w * p1 t < 9223372036854775808 := by omega
    have g3 : w * p0 t * (all / A t) < 9223372036854775808 := by omega
    have g4 : w * p1 t * (all / A t) < 9223372036854775808 := by omega
    have oi := ho (i / 3) (by omega)
    have oj := ho (i % 3) (by omega)
    have o3 := ho 3 (by omega)
    have g5 : o (i / 3) + w * p0 t * (all / A t) < 9223372036854775808 := by omega
    have g6 : o (i % 3) + w * p1 t * (all / A t) < 9223372036854775808 := by omega
    have g7 : o (i / 3) + w * p0 t * (all / A t) + w * p1 t * (all / A t) < 9223372036854775808 := by omega
    have g8 : 2 * w < 9223372036854775808 := by omega
    have w2 : 2 * w * all ≤ 18 * 729 := Nat.mul_le_mul (by omega) hall
    have g9 : 2 * w * all < 9223372036854775808 := by omega
    have g10 : o 3 + 2 * w * all < 9223372036854775808 := by omega
    have i33 : i / 3 ≠ 3 := by omega
    have j33 : i % 3 ≠ 3 := by omega
    have po : f_M_partsOf (t : Int) τ = some (A t : Int) := by rw [m_partsOf t0 t3, Int.toNat_natCast, d4]
    have so0 : f_M_sideOf (t : Int) 0 τ = some (p0 t : Int) := by
      rw [m_sideOf t0 t3 (by decide) (by decide), Int.toNat_natCast]
      exact congrArg some d2
    have so1 : ∀ v, f_M_sideOf (t : Int) 1 (upS τ 134 (i / 3) v) = some (p1 t : Int) := fun v => by
      rw [m_sideOf t0 t3 (by decide) (by decide), Int.toNat_natCast, upS_ne (by decide), show 6 + 8 * t + (1 : Int).toNat = 7 + 8 * t from by show 6 + 8 * t + 1 = 7 + 8 * t; omega]
      exact congrArg some d3
    have e0 : w32 (((9 * nt + i + 3 : Nat) : Int) - 3) = ((9 * nt + i : Nat) : Int) := (w32_o (by omega) (by omega)).trans (by omega)
    have e1 : xdiv ((9 * nt + i : Nat) : Int) 9 = (nt : Int) := by rw [show (9 : Int) = ((9 : Nat) : Int) from rfl, xdiv_n s1, n1]
    have e2 : xrem ((9 * nt + i : Nat) : Int) 9 = (i : Int) := by rw [show (9 : Int) = ((9 : Nat) : Int) from rfl, xrem_n s1, n2]
    have e3 : xdiv (i : Int) 3 = ((i / 3 : Nat) : Int) := xdiv_n (b := 3) s2
    have e4 : xrem (i : Int) 3 = ((i % 3 : Nat) : Int) := xrem_n (b := 3) s2
    have e5 : w64 (2 * (w : Int)) = ((2 * w : Nat) : Int) := w64_mul (a := 2) g8
    have start : ∀ r, (xlet (upS τ 134 (i / 3) ((o (i / 3) + w * p0 t * (all / A t) : Nat) : Int)) fun σ8 =>
        xlet (upS σ8 134 (i % 3) (w64 ((σ8 134 (i % 3)) + ((w * p1 t * (all / A t) : Nat) : Int)))) fun σ10 =>
        xlet (upS σ10 134 3 (w64 ((σ10 134 3) + ((2 * w * all : Nat) : Int)))) fun σ11 => some σ11) = r → f_M_addSide (rkC b0 b1 b2 c : Int) (w : Int) (all : Int) τ = r := by
      intro r hr
      unfold f_M_addSide
      rw [ek, if_neg hlt, e0, e1, e2, if_pos c0, Int.toNat_natCast, d1, xlet_s, xlet_s, po, xbR_s, if_neg cA, xldiv_n all2, xlet_s, e3, e4, if_pos c1, so0, xbR_s, if_pos c1, Int.toNat_natCast, w64_mul g1, w64_mul g3, oi.2, w64_add g5, xlet_s, if_pos c2, so1, xbR_s, if_pos c2, Int.toNat_natCast, w64_mul g2, w64_mul g4, xlet_s, e5, w64_mul g9]
      exact hr
    have F : ∀ k, Fp p0 p1 c k = (if i / 3 = k then p0 t else 0) + (if i % 3 = k then p1 t else 0) := fun k => by
      unfold Fp
      rw [if_neg h3, hT, hI]
    have W : Wh A c = A t := by
      unfold Wh
      rw [if_neg h3, hT]
    have T : Ta c = 1 := by
      unfold Ta
      rw [if_neg h3]
    have h3e : 2 * w * all = (1 + Ta c) * (w * all) := by rw [T, Nat.mul_assoc]
    by_cases hij : i % 3 = i / 3
    · refine ⟨_, start _ (by rw [xlet_s, xlet_s, xlet_s]), fun k hk => ?_, ?_, fun a q ha => by rw [upS_ne ha, upS_ne ha, upS_ne ha]⟩
      · rw [upS_nk (by omega), F, W, hij]
        by_cases hz : k = i / 3
        · subst hz
          rw [upS_eq, upS_eq, if_pos rfl, if_pos rfl, w64_add g7, Nat.mul_add, Nat.add_mul, Nat.add_assoc]
        · rw [upS_nk hz, upS_nk hz, if_neg (Ne.symm hz), if_neg (Ne.symm hz), Nat.add_zero, Nat.mul_zero, Nat.zero_mul, Nat.add_zero]
          exact (ho k (by omega)).2
      · rw [upS_eq, upS_nk (Ne.symm j33), upS_nk (Ne.symm i33), o3.2, w64_add g10, h3e]
    · refine ⟨_, start _ (by rw [xlet_s, xlet_s, xlet_s]), fun k hk => ?_, ?_, fun a q ha => by rw [upS_ne ha, upS_ne ha, upS_ne ha]⟩
      · rw [upS_nk (by omega), F, W, upS_nk hij, oj.2, w64_add g6]
        by_cases hz : k = i % 3
        · subst hz
          rw [upS_eq, if_neg (Ne.symm hij), if_pos rfl, Nat.zero_add]
        · rw [upS_nk hz, if_neg (Ne.symm hz), Nat.add_zero]
          by_cases hy : k = i / 3
          · subst hy
            rw [upS_eq, if_pos rfl]
          · rw [upS_nk hy, if_neg (Ne.symm hy), Nat.mul_zero, Nat.zero_mul, Nat.add_zero]
            exact (ho k (by omega)).2
      · rw [upS_eq, upS_nk (Ne.symm j33), upS_nk (Ne.symm i33), o3.2, w64_add g10, h3e]
