/-! best: the loops, both sides -/
/-- what the class weighed ahead -/
def XBc (σ : xSt) (b0 b1 b2 : Bool) (p0 p1 A : Nat → Nat) : Prop := ∀ c : Nat, c < 30 → (valB b0 b1 b2 c = true → σ 107 c = (Fp p0 p1 c 0 : Int) ∧ σ 108 c = (Fp p0 p1 c 1 : Int) ∧ σ 109 c = (Wh A c : Int)) ∧ (valB b0 b1 b2 c ≠ true → σ 109 c = 0)
/-- the best so far: both sides -/
def RB (o : Nat → Int) (σ τ : xSt) (b0 b1 b2 : Bool) (found : Int) (U V : Nat) : Prop :=
  U ≤ 1000000 ∧ V ≤ 1000000 ∧ ((σ 105 8 = 0 ∧ found = -1 ∧ ∀ q, τ 133 q = o q) ∨ (σ 105 8 = 1 ∧ ∃ lA lB t c1 c2 : Nat, σ 105 9 = (lA : Int) ∧ σ 105 10 = (lB : Int) ∧ 0 < lB ∧ lA ≤ 100000 ∧ lB ≤ 100000 ∧ 0 < V ∧ Nat.gcd U V = 1 ∧ lA * V = U * lB ∧ t < 3 ∧ clB b0 b1 b2 t = true ∧ c1 < 30 ∧ c2 < 30 ∧ valB b0 b1 b2 c1 = true ∧ valB b0 b1 b2 c2 = true ∧
    σ 105 11 = (t : Int) ∧ σ 105 12 = (c1 : Int) ∧ σ 105 13 = (c2 : Int) ∧ found = ((3 + 2 * Ta c1 + 2 * Ta c2 : Nat) : Int) ∧ τ 133 0 = (t : Int) ∧ τ 133 1 = (rkC b0 b1 b2 c1 : Int) ∧ τ 133 2 = (rkC b0 b1 b2 c2 : Int)))
theorem val_cl {b0 b1 b2 : Bool} {c : Nat} (hv : valB b0 b1 b2 c = true) (h3 : 3 ≤ c) : clB b0 b1 b2 ((c - 3) / 9) = true := by
  unfold valB at hv
  have hb : Nat.blt c 3 = false := by
    cases hz : Nat.blt c 3 with
    | false => rfl
    | true => exact absurd (Nat.le_of_ble_eq_true hz) (by omega)
  rw [hb, Bool.false_or] at hv
  exact hv
/-- facts of the coins that are closed -/
def CoF (b0 b1 b2 : Bool) (p0 p1 A : Nat → Nat) (all : Nat) : Prop := 0 < all ∧ all ≤ 729 ∧ ∀ t : Nat, t < 3 → clB b0 b1 b2 t = true → p0 t ≤ 9 ∧ p1 t ≤ 9 ∧ 1 ≤ A t ∧ A t ≤ 9 ∧ A t = p0 t + p1 t ∧ A t ∣ all
theorem Wh_f {b0 b1 b2 : Bool} {p0 p1 A : Nat → Nat} {all c : Nat} (h : CoF b0 b1 b2 p0 p1 A all) (hc : c < 30) (hv : valB b0 b1 b2 c = true) : 1 ≤ Wh A c ∧ Wh A c ≤ 9 ∧ all / Wh A c * Wh A c = all ∧ ∀ k, Fp p0 p1 c k ≤ 9 := by
  obtain ⟨h1, h2, h3⟩ := h
  by_cases hl : c < 3
  · refine ⟨?_, ?_, ?_, fun k => Fp_le (fun z => by omega)⟩
    · unfold Wh; rw [if_pos hl]; omega
    · unfold Wh; rw [if_pos hl]; omega
    · unfold Wh; rw [if_pos hl, Nat.div_one, Nat.mul_one]
  · obtain ⟨q1, q2, q3, q4, q5, q6⟩ := h3 _ (by omega) (val_cl hv (by omega))
    refine ⟨?_, ?_, ?_, fun k => Fp_le (fun z => by omega)⟩
    · unfold Wh; rw [if_neg hl]; exact q3
    · unfold Wh; rw [if_neg hl]; exact q4
    · unfold Wh; rw [if_neg hl]; exact Nat.div_mul_cancel q6
/-- both weighings are alike -/
theorem wk_eq {b0 b1 b2 : Bool} {p0 p1 A : Nat → Nat} {all t c1 c2 : Nat} (h : CoF b0 b1 b2 p0 p1 A all) (h1 : c1 < 30) (h2 : c2 < 30) (v1 : valB b0 b1 b2 c1 = true) (v2 : valB b0 b1 b2 c2 = true) :
    (∀ k, Ok p0 p1 A all t c1 c2 k * (Wh A c1 * Wh A c2) = all * (p0 t * Wh A c2 * Fp p0 p1 c1 k + p1 t * Wh A c1 * Fp p0 p1 c2 k)) ∧ O3 p0 p1 all t c1 c2 * (Wh A c1 * Wh A c2) = all * ((p0 t * (1 + Ta c1) + p1 t * (1 + Ta c2)) * Wh A c1 * Wh A c2) := by
  obtain ⟨-, -, e1, -⟩ := Wh_f h h1 v1
  obtain ⟨-, -, e2, -⟩ := Wh_f h h2 v2
  refine ⟨fun k => ?_, ?_⟩
  · unfold Ok
    generalize Wh A c1 = W1 at e1 ⊢
    generalize Wh A c2 = W2 at e2 ⊢
    generalize Fp p0 p1 c1 k = F1
    generalize Fp p0 p1 c2 k = F2
    generalize all / W1 = d1 at e1 ⊢
    generalize all / W2 = d2 at e2 ⊢
    have x1 : p0 t * F1 * d1 * (W1 * W2) = d1 * W1 * (p0 t * W2 * F1) := by ac_rfl
    have x2 : p1 t * F2 * d2 * (W1 * W2) = d2 * W2 * (p1 t * W1 * F2) := by ac_rfl
    rw [Nat.add_mul, x1, x2, e1, e2, ← Nat.mul_add]
  · unfold O3
    generalize Wh A c1 = W1
    generalize Wh A c2 = W2
    have y1 : (1 + Ta c1) * (p0 t * all) * (W1 * W2) = all * (p0 t * (1 + Ta c1) * W1 * W2) := by ac_rfl
    have y2 : (1 + Ta c2) * (p1 t * all) * (W1 * W2) = all * (p1 t * (1 + Ta c2) * W1 * W2) := by ac_rfl
    rw [Nat.add_mul, y1, y2, ← Nat.mul_add, ← Nat.add_mul, ← Nat.add_mul]
theorem wk_dec {b0 b1 b2 : Bool} {p0 p1 A : Nat → Nat} {all t c1 c2 : Nat} (h : CoF b0 b1 b2 p0 p1 A all) (h1 : c1 < 30) (h2 : c2 < 30) (v1 : valB b0 b1 b2 c1 = true) (v2 : valB b0 b1 b2 c2 = true) :
    (Ok p0 p1 A all t c1 c2 0 = Ok p0 p1 A all t c1 c2 1 ↔ p0 t * Wh A c2 * Fp p0 p1 c1 0 + p1 t * Wh A c1 * Fp p0 p1 c2 0 = p0 t * Wh A c2 * Fp p0 p1 c1 1 + p1 t * Wh A c1 * Fp p0 p1 c2 1) ∧
    (Ok p0 p1 A all t c1 c2 0 = 0 ↔ p0 t * Wh A c2 * Fp p0 p1 c1 0 + p1 t * Wh A c1 * Fp p0 p1 c2 0 = 0) ∧
    (Ok p0 p1 A all t c1 c2 0 = Ok p0 p1 A all t c1 c2 1 → ((p0 t * (1 + Ta c1) + p1 t * (1 + Ta c2)) * Wh A c1 * Wh A c2) * (Ok p0 p1 A all t c1 c2 0 + Ok p0 p1 A all t c1 c2 1) = O3 p0 p1 all t c1 c2 * (2 * (p0 t * Wh A c2 * Fp p0 p1 c1 0 + p1 t * Wh A c1 * Fp p0 p1 c2 0))) := by
  obtain ⟨ek, e3⟩ := wk_eq (t := t) h h1 h2 v1 v2
  have k0 := ek 0
  have k1 := ek 1
  have hP : 0 < Wh A c1 * Wh A c2 := Nat.mul_pos (Wh_f h h1 v1).1 (Wh_f h h2 v2).1
  have ha := h.1
  generalize Wh A c1 * Wh A c2 = P at k0 k1 e3 hP
  generalize p0 t * Wh A c2 * Fp p0 p1 c1 0 + p1 t * Wh A c1 * Fp p0 p1 c2 0 = H0 at k0 ⊢
  generalize p0 t * Wh A c2 * Fp p0 p1 c1 1 + p1 t * Wh A c1 * Fp p0 p1 c2 1 = H1 at k1 ⊢
  generalize (p0 t * (1 + Ta c1) + p1 t * (1 + Ta c2)) * Wh A c1 * Wh A c2 = X at e3 ⊢
  generalize Ok p0 p1 A all t c1 c2 0 = o0 at k0 ⊢
  generalize Ok p0 p1 A all t c1 c2 1 = o1 at k1 ⊢
  generalize O3 p0 p1 all t c1 c2 = o3 at e3 ⊢
  refine ⟨⟨fun z => ?_, fun z => ?_⟩, ⟨fun z => ?_, fun z => ?_⟩, fun z => ?_⟩
  · rw [z, k1] at k0
    exact (Nat.eq_of_mul_eq_mul_left ha k0).symm
  · rw [z, ← k1] at k0
    exact Nat.eq_of_mul_eq_mul_right hP k0
  · rw [z, Nat.zero_mul] at k0
    rcases Nat.mul_eq_zero.mp k0.symm with q | q
    · omega
    · exact q
  · rw [z, Nat.mul_zero] at k0
    rcases Nat.mul_eq_zero.mp k0 with q | q
    · exact q
    · omega
  · subst z
    have g : X * (o0 + o0) * (all * P) = o3 * (2 * H0) * (all * P) := by
      have a1 : X * (o0 + o0) * (all * P) = (all * X) * (o0 * P) * 2 := by rw [← Nat.two_mul]; ac_rfl
      have a2 : o3 * (2 * H0) * (all * P) = (o3 * P) * (all * H0) * 2 := by ac_rfl
      rw [a1, a2, ← e3, k0]
    exact Nat.eq_of_mul_eq_mul_right (Nat.mul_pos ha hP) g
/-- one pair of choices -/
theorem best_step {k69 : Int → Int → Int → Int → Int → xSt → Option (Int × xSt)} {k90 : Int → Int → Int → Int → Int → Int → Int → xSt → Option (Int × xSt)} {σ τ : xSt} {b0 b1 b2 : Bool} {p0 p1 A : Nat → Nat} {c1 c2 t all U V : Nat} {found l8 : Int} {o : Nat → Int} (hF : CoF b0 b1 b2 p0 p1 A all) (hC : CoM τ b0 b1 b2 p0 p1 A) (hX : XBc σ b0 b1 b2 p0 p1 A) (hR : RB o σ τ b0 b1 b2 found U V) (h1 : c1 < 30) (h2 : c2 < 30) (v1 : valB b0 b1 b2 c1 = true) (v2 : valB b0 b1 b2 c2 = true) (ht : t < 3) (hcl : clB b0 b1 b2 t = true) :
    ∃ (σ' τ' : xSt) (found' : Int) (U' V' : Nat), f_Best_weigh (t : Int) (p0 t : Int) (p1 t : Int) (c1 : Int) (c2 : Int) σ = some σ' ∧ f_M_best_117 k69 k90 1000000 (all : Int) found (U : Int) (V : Int) l8 (t : Int) ((rkC b0 b1 b2 c1 * rkC b0 b1 b2 30 + rkC b0 b1 b2 c2 : Nat) : Int) 0 τ = k90 (all : Int) found' (U' : Int) (V' : Int) l8 (t : Int) ((rkC b0 b1 b2 c1 * rkC b0 b1 b2 30 + rkC b0 b1 b2 c2 + 1 : Nat) : Int) τ' ∧ RB o σ' τ' b0 b1 b2 found' U' V' ∧ (∀ a q, (a = 105 → q < 8) → σ' a q = σ a q) ∧ ∀ a q, a ≠ 134 → a ≠ 133 → τ' a q = τ a q := by
  obtain ⟨rU, rV, hR⟩ := hR
  obtain ⟨q1, q2, q3, q4, q5, q6⟩ := hF.2.2 t ht hcl
  obtain ⟨w1, w2, -, w4⟩ := Wh_f hF h1 v1
  obtain ⟨y1, y2, -, y4⟩ := Wh_f hF h2 v2
  obtain ⟨x1, x2, x3⟩ := (hX c1 h1).1 v1
  obtain ⟨x4, x5, x6⟩ := (hX c2 h2).1 v2
  obtain ⟨dec1, dec2, dec3⟩ := wk_dec (t := t) hF h1 h2 v1 v2
  have xw := x_weigh (σ := σ) (t := (t : Int)) (q0 := p0 t) (q1 := p1 t) h1 h2 q1 q2 x3 x6 x1 x4 x2 x5 w2 y2 (w4 0) (y4 0) (w4 1) (y4 1) (by
    rcases hR with ⟨z, -⟩ | ⟨z, lA, lB, -, -, -, z1, z2, -, z3, z4, -⟩
    · exact Or.inl z
    · exact Or.inr ⟨z, lA, lB, z1, z2, z3, z4⟩)
  obtain ⟨τ2, m1, m2⟩ := m_117 (k69 := k69) (k90 := k90) (found := found) (l8 := l8) hC h1 h2 v1 v2 ht hcl hF.2.1 rU rV
  have keep : RB o σ τ2 b0 b1 b2 found U V := by
    refine ⟨rU, rV, ?_⟩
    have e : ∀ q, τ2 133 q = τ 133 q := fun q => m1 133 q (by decide)
    simp only [e]
    exact hR
  generalize hH0 : p0 t * Wh A c2 * Fp p0 p1 c1 0 + p1 t * Wh A c1 * Fp p0 p1 c2 0 = H0 at xw dec1 dec2 dec3
  generalize hH1 : p0 t * Wh A c2 * Fp p0 p1 c1 1 + p1 t * Wh A c1 * Fp p0 p1 c2 1 = H1 at xw dec1
  have bH0 : H0 ≤ 1458 := by
    have a1 : p0 t * Wh A c2 * Fp p0 p1 c1 0 ≤ 9 * 9 * 9 := Nat.mul_le_mul (Nat.mul_le_mul q1 y2) (w4 0)
    have a2 : p1 t * Wh A c1 * Fp p0 p1 c2 0 ≤ 9 * 9 * 9 := Nat.mul_le_mul (Nat.mul_le_mul q2 w2) (y4 0)
    omega
  have t1 := Ta_le c1
  have t2 := Ta_le c2
  have bX : (p0 t * (1 + Ta c1) + p1 t * (1 + Ta c2)) * Wh A c1 * Wh A c2 ≤ 36 * 9 * 9 := by
    have a1 : p0 t * (1 + Ta c1) ≤ 9 * 2 := Nat.mul_le_mul q1 (by omega)
    have a2 : p1 t * (1 + Ta c2) ≤ 9 * 2 := Nat.mul_le_mul q2 (by omega)
    exact Nat.mul_le_mul (Nat.mul_le_mul (by omega) w2) y2
  generalize hXX : (p0 t * (1 + Ta c1) + p1 t * (1 + Ta c2)) * Wh A c1 * Wh A c2 = X at xw dec3 bX
  have dv : ∀ x, all / x ≤ 729 := fun x => Nat.le_trans (Nat.div_le_self _ _) hF.2.1
  have bo0 : Ok p0 p1 A all t c1 c2 0 ≤ 2 * (9 * 9 * 729) := by
    have a1 : p0 t * Fp p0 p1 c1 0 * (all / Wh A c1) ≤ 9 * 9 * 729 := Nat.mul_le_mul (Nat.mul_le_mul q1 (w4 0)) (dv _)
    have a2 : p1 t * Fp p0 p1 c2 0 * (all / Wh A c2) ≤ 9 * 9 * 729 := Nat.mul_le_mul (Nat.mul_le_mul q2 (y4 0)) (dv _)
    unfold Ok
    omega
  have bo3 : O3 p0 p1 all t c1 c2 ≤ 4 * (9 * 729) := by
    have a1 : (1 + Ta c1) * (p0 t * all) ≤ 2 * (9 * 729) := Nat.mul_le_mul (by omega) (Nat.mul_le_mul q1 hF.2.1)
    have a2 : (1 + Ta c2) * (p1 t * all) ≤ 2 * (9 * 729) := Nat.mul_le_mul (by omega) (Nat.mul_le_mul q2 hF.2.1)
    unfold O3
    omega
  generalize ho0 : Ok p0 p1 A all t c1 c2 0 = o0 at m2 dec1 dec2 dec3 bo0
  generalize ho1 : Ok p0 p1 A all t c1 c2 1 = o1 at m2 dec1 dec3
  generalize ho3 : O3 p0 p1 all t c1 c2 = o3 at m2 dec3 bo3
  by_cases hz : o0 + o1 = 0
  · have z0 : H0 = 0 := dec2.mp (by omega)
    rw [if_pos hz] at m2
    rw [if_pos z0] at xw
    exact ⟨σ, τ2, found, U, V, xw, m2, keep, fun _ _ _ => rfl, fun a q ha _ => m1 a q ha⟩
  · rw [if_neg hz] at m2
    by_cases hq : o0 = o1
    · have z0 : H0 ≠ 0 := fun z => hz (by have := dec2.mpr z; omega)
      have zq : H0 = H1 := dec1.mp hq
      rw [if_neg z0, if_pos zq] at xw
      have d3 := dec3 hq
      have hpos : 0 < o0 + o1 := by omega
      have hY : 0 < 2 * H0 := by omega
      have hg : 0 < Nat.gcd o3 (o0 + o1) := Nat.gcd_pos_of_pos_right _ hpos
      have g1 : o3 / Nat.gcd o3 (o0 + o1) * Nat.gcd o3 (o0 + o1) = o3 := Nat.div_mul_cancel (Nat.gcd_dvd_left _ _)
      have g2 : (o0 + o1) / Nat.gcd o3 (o0 + o1) * Nat.gcd o3 (o0 + o1) = o0 + o1 := Nat.div_mul_cancel (Nat.gcd_dvd_right _ _)
      have g3 : Nat.gcd (o3 / Nat.gcd o3 (o0 + o1)) ((o0 + o1) / Nat.gcd o3 (o0 + o1)) = 1 := Nat.coprime_div_gcd_div_gcd hg
      have g4 := Nat.div_le_self o3 (Nat.gcd o3 (o0 + o1))
      have g5 := Nat.div_le_self (o0 + o1) (Nat.gcd o3 (o0 + o1))
      generalize Nat.gcd o3 (o0 + o1) = g at hg g1 g2 g3 g4 g5 m2
      generalize o3 / g = U' at g1 g3 g4 m2
      generalize (o0 + o1) / g = V' at g2 g3 g5 m2
      have hV' : 0 < V' := by
        by_cases hv : V' = 0
        · rw [hv, Nat.zero_mul] at g2
          omega
        · omega
      have cr : X * V' = U' * (2 * H0) := by
        have c1' : X * V' * g = U' * (2 * H0) * g := by
          have a1 : X * V' * g = X * (V' * g) := Nat.mul_assoc _ _ _
          have a2 : U' * (2 * H0) * g = (U' * g) * (2 * H0) := by ac_rfl
          rw [a1, a2, g1, g2, d3]
        exact Nat.eq_of_mul_eq_mul_right hg c1'
      have bU : U' ≤ 1000000 := by omega
      have bV : V' ≤ 1000000 := by omega
      have new : RB o (updX σ (t : Int) (c1 : Int) (c2 : Int) X (2 * H0)) (upS (upS (upS τ2 133 0 (t : Int)) 133 1 (rkC b0 b1 b2 c1 : Int)) 133 2 (rkC b0 b1 b2 c2 : Int)) b0 b1 b2 ((3 + 2 * Ta c1 + 2 * Ta c2 : Nat) : Int) U' V' :=
        ⟨bU, bV, Or.inr ⟨rfl, X, 2 * H0, t, c1, c2, rfl, rfl, hY, by omega, by omega, hV', g3, cr, ht, hcl, h1, h2, v1, v2, rfl, rfl, rfl, rfl, rfl, rfl, rfl⟩⟩
      have fX : ∀ a q, (a = 105 → q < 8) → (updX σ (t : Int) (c1 : Int) (c2 : Int) X (2 * H0)) a q = σ a q := fun a q ha => by
        unfold updX
        rw [upS_rd, if_neg (fun z => by have := ha z.1; omega), upS_rd, if_neg (fun z => by have := ha z.1; omega), upS_rd, if_neg (fun z => by have := ha z.1; omega), upS_rd, if_neg (fun z => by have := ha z.1; omega), upS_rd, if_neg (fun z => by have := ha z.1; omega), upS_rd, if_neg (fun z => by have := ha z.1; omega)]
      have fM : ∀ a q, a ≠ 134 → a ≠ 133 → (upS (upS (upS τ2 133 0 (t : Int)) 133 1 (rkC b0 b1 b2 c1 : Int)) 133 2 (rkC b0 b1 b2 c2 : Int)) a q = τ a q := fun a q ha hb => by rw [upS_ne hb, upS_ne hb, upS_ne hb, m1 a q ha]
      rcases hR with ⟨z1, z2, -⟩ | ⟨z1, lA, lB, tt, cc1, cc2, z3, z4, z5, z6, z7, z8, z9, z10, zr⟩
      · rw [if_pos ⟨hq, Or.inl z2⟩] at m2
        rw [if_pos z1] at xw
        exact ⟨_, _, _, U', V', xw, m2, new, fX, fM⟩
      · have nf : ¬ found = -1 := by
          have := zr.2.2.2.2.2.2.2.2.2.1
          omega
        have n0 : ¬ σ 105 8 = 0 := by omega
        rw [if_neg n0, z3, z4, Int.toNat_natCast, Int.toNat_natCast] at xw
        have cs := cross (x := o3) (y := o0 + o1) (X := X) (Y := 2 * H0) (a := U) (b := V) (P := lA) (Q := lB) hpos hY z8 z5 d3 z10
        by_cases hc : o3 * V < U * (o0 + o1)
        · rw [if_pos ⟨hq, Or.inr hc⟩] at m2
          rw [if_pos (cs.mpr hc)] at xw
          exact ⟨_, _, _, U', V', xw, m2, new, fX, fM⟩
        · rw [if_neg (fun z => z.2.elim nf hc)] at m2
          rw [if_neg (fun z => hc (cs.mp z))] at xw
          exact ⟨σ, τ2, found, U, V, xw, m2, keep, fun _ _ _ => rfl, fun a q ha _ => m1 a q ha⟩
    · rw [if_neg (fun z => hq z.1)] at m2
      have zq : ¬ H0 = H1 := fun z => hq (dec1.mpr z)
      refine ⟨σ, τ2, found, U, V, ?_, m2, keep, fun _ _ _ => rfl, fun a q ha _ => m1 a q ha⟩
      by_cases z0 : H0 = 0
      · rw [if_pos z0] at xw
        exact xw
      · rw [if_neg z0, if_neg zq] at xw
        exact xw
