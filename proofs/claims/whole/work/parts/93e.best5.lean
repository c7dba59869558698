/-! best: the loops -/
theorem XBc.keep {σ σ' : xSt} {b0 b1 b2 : Bool} {p0 p1 A : Nat → Nat} (h : XBc σ b0 b1 b2 p0 p1 A) (hk : ∀ a q, (a = 105 → q < 8) → σ' a q = σ a q) : XBc σ' b0 b1 b2 p0 p1 A := by
  intro c hc
  rw [hk 107 c (fun z => absurd z (by decide)), hk 108 c (fun z => absurd z (by decide)), hk 109 c (fun z => absurd z (by decide))]
  exact h c hc
theorem CoM.keep {τ τ' : xSt} {b0 b1 b2 : Bool} {p0 p1 A : Nat → Nat} (h : CoM τ b0 b1 b2 p0 p1 A) (hk : ∀ a q, a ≠ 134 → a ≠ 133 → τ' a q = τ a q) : CoM τ' b0 b1 b2 p0 p1 A := by
  refine ⟨by rw [hk 111 57 (by decide) (by decide)]; exact h.1, fun x hx hc => ?_⟩
  rw [hk 132 _ (by decide) (by decide), hk 113 _ (by decide) (by decide), hk 113 _ (by decide) (by decide), hk 113 _ (by decide) (by decide)]
  exact h.2 x hx hc
theorem best_inner {k3 : Int → Int → Int → Int → xSt → Option xSt} {k69 : Int → Int → Int → Int → Int → xSt → Option (Int × xSt)} {b0 b1 b2 : Bool} {p0 p1 A : Nat → Nat} {c1 t all F : Nat} {l8 : Int} {o : Nat → Int} (hF : CoF b0 b1 b2 p0 p1 A all) (h1 : c1 < 30) (v1 : valB b0 b1 b2 c1 = true) (ht : t < 3) (hcl : clB b0 b1 b2 t = true) :
    ∀ (j fu c2 U V : Nat) (found : Int) (σ τ : xSt), c2 + j = 30 → j < fu → CoM τ b0 b1 b2 p0 p1 A → XBc σ b0 b1 b2 p0 p1 A → RB o σ τ b0 b1 b2 found U V →
      ∃ (σ' τ' : xSt) (found' : Int) (U' V' : Nat), f_Best_searchCoin_13 k3 fu (t : Int) (p0 t : Int) (p1 t : Int) (c1 : Int) (c2 : Int) σ = k3 (t : Int) (p0 t : Int) (p1 t : Int) ((c1 + 1 : Nat) : Int) σ' ∧
        f_M_best_90 k69 (F + (rkC b0 b1 b2 30 - rkC b0 b1 b2 c2)) (all : Int) found (U : Int) (V : Int) l8 (t : Int) ((rkC b0 b1 b2 c1 * rkC b0 b1 b2 30 + rkC b0 b1 b2 c2 : Nat) : Int) τ = f_M_best_90 k69 F (all : Int) found' (U' : Int) (V' : Int) l8 (t : Int) ((rkC b0 b1 b2 c1 * rkC b0 b1 b2 30 + rkC b0 b1 b2 30 : Nat) : Int) τ' ∧
        RB o σ' τ' b0 b1 b2 found' U' V' ∧ (∀ a q, (a = 105 → q < 8) → σ' a q = σ a q) ∧ ∀ a q, a ≠ 134 → a ≠ 133 → τ' a q = τ a q := by
  obtain ⟨w1, w2, w3, w4⟩ := rkc_nums b0 b1 b2
  have r1 := (w4 c1 h1 v1).1
  have rW : rkC b0 b1 b2 30 ≤ 30 := (w3 30 (Nat.le_refl _)).1
  obtain ⟨u1, u2, -, -⟩ := Wh_f hF h1 v1
  have i1 : 0 ≤ (c1 : Int) ∧ (c1 : Int) < 30 := by omega
  have n1 : c1 < 100000 := by omega
  intro j
  induction j with
  | zero =>
    intro fu c2 U V found σ τ g1 g2 hC hX hR
    obtain ⟨fu, rfl⟩ : ∃ n, fu = n + 1 := ⟨fu - 1, by omega⟩
    obtain rfl : c2 = 30 := by omega
    refine ⟨σ, τ, found, U, V, ?_, ?_, hR, fun _ _ _ => rfl, fun _ _ _ _ => rfl⟩
    · rw [f_Best_searchCoin_13.eq_2, if_neg (by decide), w32_n1 n1, xlet_s]
    · rw [Nat.sub_self, Nat.add_zero]
  | succ j ih =>
    intro fu c2 U V found σ τ g1 g2 hC hX hR
    obtain ⟨fu, rfl⟩ : ∃ n, fu = n + 1 := ⟨fu - 1, by omega⟩
    have h2 : c2 < 30 := by omega
    have i2 : 0 ≤ (c2 : Int) ∧ (c2 : Int) < 30 := by omega
    have n2 : c2 < 100000 := by omega
    have wh1 := ((hX c1 h1).1 v1).2.2
    have g109 : 0 < xlc (σ 109 c1) 0 := xlc_gt.mpr (by omega)
    have rs : rkC b0 b1 b2 (c2 + 1) = rkC b0 b1 b2 c2 + (if valB b0 b1 b2 c2 = true then 1 else 0) := rfl
    by_cases v2 : valB b0 b1 b2 c2 = true
    · have r2 := (w4 c2 h2 v2).1
      obtain ⟨y1, y2, -, -⟩ := Wh_f hF h2 v2
      have wh2 := ((hX c2 h2).1 v2).2.2
      have g109b : 0 < xlc (σ 109 c2) 0 := xlc_gt.mpr (by omega)
      rw [if_pos v2] at rs
      obtain ⟨σ1, τ1, f1, U1, V1, e1, e2, e3, e4, e5⟩ := best_step (k69 := k69) (k90 := fun z0 z1 z2 z3 z4 z5 z6 sz => f_M_best_90 k69 (F + (rkC b0 b1 b2 30 - rkC b0 b1 b2 (c2 + 1))) z0 z1 z2 z3 z4 z5 z6 sz) (l8 := l8) hF hC hX hR h1 h2 v1 v2 ht hcl
      obtain ⟨σ', τ', f', U', V', d1, d2, d3, d4, d5⟩ := ih fu (c2 + 1) U1 V1 f1 σ1 τ1 (by omega) (by omega) (hC.keep e5) (hX.keep e4) e3
      refine ⟨σ', τ', f', U', V', ?_, ?_, d3, fun a q ha => by rw [d4 a q ha, e4 a q ha], fun a q ha hb => by rw [d5 a q ha hb, e5 a q ha hb]⟩
      · rw [f_Best_searchCoin_13.eq_2, if_pos i2.2, if_pos i1, Int.toNat_natCast, if_pos g109, if_pos i2, Int.toNat_natCast, if_pos g109b, e1, xbR_s, w32_n1 n2, xlet_s, d1]
      · have fe : F + (rkC b0 b1 b2 30 - rkC b0 b1 b2 c2) = F + (rkC b0 b1 b2 30 - rkC b0 b1 b2 (c2 + 1)) + 1 := by omega
        have hm : rkC b0 b1 b2 c1 * rkC b0 b1 b2 30 + rkC b0 b1 b2 c2 < rkC b0 b1 b2 30 * rkC b0 b1 b2 30 := by
          have a1 : (rkC b0 b1 b2 c1 + 1) * rkC b0 b1 b2 30 ≤ rkC b0 b1 b2 30 * rkC b0 b1 b2 30 := Nat.mul_le_mul (by omega) (Nat.le_refl _)
          rw [Nat.add_mul, Nat.one_mul] at a1
          omega
        have hmm : rkC b0 b1 b2 30 * rkC b0 b1 b2 30 ≤ 30 * 30 := Nat.mul_le_mul rW rW
        have h57 := hC.1
        rw [show rkC b0 b1 b2 c1 * rkC b0 b1 b2 30 + rkC b0 b1 b2 c2 + 1 = rkC b0 b1 b2 c1 * rkC b0 b1 b2 30 + rkC b0 b1 b2 (c2 + 1) by omega] at e2
        generalize hW : rkC b0 b1 b2 30 = W at *
        have eW1 : w32 (9 * (ncB b0 b1 b2 3 : Int)) = ((9 * ncB b0 b1 b2 3 : Nat) : Int) := (w32_o (by omega) (by omega)).trans (by omega)
        have eW : w32 (3 + ((9 * ncB b0 b1 b2 3 : Nat) : Int)) = (W : Int) := (w32_o (by omega) (by omega)).trans (by omega)
        have eWW : w32 ((W : Int) * (W : Int)) = ((W * W : Nat) : Int) := by
          rw [← Int.natCast_mul]
          exact w32_o (by omega) (by omega)
        have hlt : ((rkC b0 b1 b2 c1 * W + rkC b0 b1 b2 c2 : Nat) : Int) < ((W * W : Nat) : Int) := Int.ofNat_lt.mpr hm
        rw [fe, f_M_best_90.eq_2, h57, eW1, eW, eWW, if_pos hlt, e2]
        exact d2
    · rw [if_neg v2, Nat.add_zero] at rs
      have wh2 := (hX c2 h2).2 v2
      have g109b : ¬ 0 < xlc (σ 109 c2) 0 := fun z => by
        have := xlc_gt.mp z
        omega
      obtain ⟨σ', τ', f', U', V', d1, d2, d3, d4, d5⟩ := ih fu (c2 + 1) U V found σ τ (by omega) (by omega) hC hX hR
      rw [rs] at d2
      refine ⟨σ', τ', f', U', V', ?_, d2, d3, d4, d5⟩
      rw [f_Best_searchCoin_13.eq_2, if_pos i2.2, if_pos i1, Int.toNat_natCast, if_pos g109, if_pos i2, Int.toNat_natCast, if_neg g109b, w32_n1 n2, xlet_s, d1]
theorem best_outer {k69 : Int → Int → Int → Int → Int → xSt → Option (Int × xSt)} {b0 b1 b2 : Bool} {p0 p1 A : Nat → Nat} {t all F r : Nat} {o : Nat → Int} (hF : CoF b0 b1 b2 p0 p1 A all) (ht : t < 3) (hcl : clB b0 b1 b2 t = true) (hr : r < 1000) :
    ∀ (j fu c1 U V : Nat) (found : Int) (σ τ : xSt), c1 + j = 30 → j < fu → CoM τ b0 b1 b2 p0 p1 A → XBc σ b0 b1 b2 p0 p1 A → RB o σ τ b0 b1 b2 found U V →
      ∃ (σ' τ' : xSt) (found' : Int) (U' V' : Nat), f_Best_searchCoin_3 fu (t : Int) (p0 t : Int) (p1 t : Int) (c1 : Int) σ = some σ' ∧
        f_M_best_90 k69 (F + 1 + (rkC b0 b1 b2 30 - rkC b0 b1 b2 c1) * rkC b0 b1 b2 30) (all : Int) found (U : Int) (V : Int) (r : Int) (t : Int) ((rkC b0 b1 b2 c1 * rkC b0 b1 b2 30 : Nat) : Int) τ = k69 (all : Int) found' (U' : Int) (V' : Int) ((r + 1 : Nat) : Int) τ' ∧
        RB o σ' τ' b0 b1 b2 found' U' V' ∧ (∀ a q, (a = 105 → q < 8) → σ' a q = σ a q) ∧ ∀ a q, a ≠ 134 → a ≠ 133 → τ' a q = τ a q := by
  obtain ⟨w1, w2, w3, w4⟩ := rkc_nums b0 b1 b2
  have rW : rkC b0 b1 b2 30 ≤ 30 := (w3 30 (Nat.le_refl _)).1
  intro j
  induction j with
  | zero =>
    intro fu c1 U V found σ τ g1 g2 hC hX hR
    obtain ⟨fu, rfl⟩ : ∃ n, fu = n + 1 := ⟨fu - 1, by omega⟩
    obtain rfl : c1 = 30 := by omega
    have h57 := hC.1
    have hmm : rkC b0 b1 b2 30 * rkC b0 b1 b2 30 ≤ 30 * 30 := Nat.mul_le_mul rW rW
    have n1 : r < 100000 := by omega
    refine ⟨σ, τ, found, U, V, ?_, ?_, hR, fun _ _ _ => rfl, fun _ _ _ _ => rfl⟩
    · rw [f_Best_searchCoin_3.eq_2, if_neg (by decide)]
    · rw [Nat.sub_self, Nat.zero_mul, Nat.add_zero]
      generalize hW : rkC b0 b1 b2 30 = W at *
      have eW1 : w32 (9 * (ncB b0 b1 b2 3 : Int)) = ((9 * ncB b0 b1 b2 3 : Nat) : Int) := (w32_o (by omega) (by omega)).trans (by omega)
      have eW : w32 (3 + ((9 * ncB b0 b1 b2 3 : Nat) : Int)) = (W : Int) := (w32_o (by omega) (by omega)).trans (by omega)
      have eWW : w32 ((W : Int) * (W : Int)) = ((W * W : Nat) : Int) := by
        rw [← Int.natCast_mul]
        exact w32_o (by omega) (by omega)
      rw [f_M_best_90.eq_2, h57, eW1, eW, eWW, if_neg (Int.lt_irrefl _), w32_n1 n1, xlet_s]
  | succ j ih =>
    intro fu c1 U V found σ τ g1 g2 hC hX hR
    obtain ⟨fu, rfl⟩ : ∃ n, fu = n + 1 := ⟨fu - 1, by omega⟩
    have h1 : c1 < 30 := by omega
    have i1 : 0 ≤ (c1 : Int) ∧ (c1 : Int) < 30 := by omega
    have n1 : c1 < 100000 := by omega
    have rs : rkC b0 b1 b2 (c1 + 1) = rkC b0 b1 b2 c1 + (if valB b0 b1 b2 c1 = true then 1 else 0) := rfl
    by_cases v1 : valB b0 b1 b2 c1 = true
    · have r1 := (w4 c1 h1 v1).1
      rw [if_pos v1] at rs
      obtain ⟨σ1, τ1, f1, U1, V1, e1, e2, e3, e4, e5⟩ := best_inner (k3 := fun z0 z1 z2 z3 sz => f_Best_searchCoin_3 fu z0 z1 z2 z3 sz) (k69 := k69) (F := F + 1 + (rkC b0 b1 b2 30 - rkC b0 b1 b2 (c1 + 1)) * rkC b0 b1 b2 30) (l8 := (r : Int)) hF h1 v1 ht hcl 30 1000000 0 U V found σ τ (by omega) (by omega) hC hX hR
      obtain ⟨σ', τ', f', U', V', d1, d2, d3, d4, d5⟩ := ih fu (c1 + 1) U1 V1 f1 σ1 τ1 (by omega) (by omega) (hC.keep e5) (hX.keep e4) e3
      refine ⟨σ', τ', f', U', V', ?_, ?_, d3, fun a q ha => by rw [d4 a q ha, e4 a q ha], fun a q ha hb => by rw [d5 a q ha hb, e5 a q ha hb]⟩
      · rw [c0n] at e1
        rw [f_Best_searchCoin_3.eq_2, if_pos i1.2, e1, d1]
      · have z0 : rkC b0 b1 b2 0 = 0 := rfl
        rw [z0, Nat.sub_zero, Nat.add_zero (rkC b0 b1 b2 c1 * rkC b0 b1 b2 30)] at e2
        have q1 : rkC b0 b1 b2 c1 * rkC b0 b1 b2 30 + rkC b0 b1 b2 30 = rkC b0 b1 b2 (c1 + 1) * rkC b0 b1 b2 30 := by rw [rs, Nat.add_mul, Nat.one_mul]
        have q2 : F + 1 + (rkC b0 b1 b2 30 - rkC b0 b1 b2 c1) * rkC b0 b1 b2 30 = F + 1 + (rkC b0 b1 b2 30 - rkC b0 b1 b2 (c1 + 1)) * rkC b0 b1 b2 30 + rkC b0 b1 b2 30 := by
          have : rkC b0 b1 b2 30 - rkC b0 b1 b2 c1 = (rkC b0 b1 b2 30 - rkC b0 b1 b2 (c1 + 1)) + 1 := by omega
          rw [this, Nat.add_mul, Nat.one_mul]
          omega
        rw [q2, e2, q1, d2]
    · rw [if_neg v1, Nat.add_zero] at rs
      have wh1 := (hX c1 h1).2 v1
      have g109 : ¬ 0 < xlc (σ 109 c1) 0 := fun z => by
        have := xlc_gt.mp z
        omega
      obtain ⟨σ', τ', f', U', V', d1, d2, d3, d4, d5⟩ := ih fu (c1 + 1) U V found σ τ (by omega) (by omega) hC hX hR
      rw [rs] at d2
      refine ⟨σ', τ', f', U', V', ?_, d2, d3, d4, d5⟩
      have e13 : f_Best_searchCoin_13 (fun z0 z1 z2 z3 sz => f_Best_searchCoin_3 fu z0 z1 z2 z3 sz) 1000000 (t : Int) (p0 t : Int) (p1 t : Int) (c1 : Int) 0 σ = f_Best_searchCoin_3 fu (t : Int) (p0 t : Int) (p1 t : Int) ((c1 + 1 : Nat) : Int) σ := by
        rw [show (1000000 : Nat) = 999999 + 1 from rfl, f_Best_searchCoin_13.eq_2, if_pos (by decide), if_pos i1, Int.toNat_natCast, if_neg g109, w32_n1 n1, xlet_s]
      rw [f_Best_searchCoin_3.eq_2, if_pos i1.2, e13, d1]
/-- behind the model's coins -/
def mE69 (l3 l4 l6 : Int) (σ : xSt) : Option (Int × xSt) :=
  if l3 = (-1) then (some ((-1), σ))
    else (xlet (upS σ 111 58 l3) fun σ9 =>
    xlet (upS σ9 111 59 (σ9 113 3)) fun σ10 =>
    xlet (upS σ10 111 60 l4) fun σ11 =>
    xlet (upS σ11 111 61 l6) fun σ12 =>
    f_M_best_398 1000000 l3 0 σ12)
theorem best_coins {σ0 : xSt} {b0 b1 b2 : Bool} {p0 p1 A : Nat → Nat} {all T : Nat} {o : Nat → Int} (hF : CoF b0 b1 b2 p0 p1 A all) (hT3 : T ≤ 3) (hT : ∀ t : Nat, T ≤ t → clB b0 b1 b2 t = false) (h71 : σ0 7 1 = (T : Int)) (h72 : 2 ≤ σ0 7 2)
    (hcc : ∀ t : Nat, t < T → ∀ σ : xSt, (∀ a q, 7 ≤ a → a ≤ 15 → σ a q = σ0 a q) → f_Table_isClosedCoin (t : Int) σ = some (if clB b0 b1 b2 t = true then 1 else 0) ∧ (clB b0 b1 b2 t = true → f_Table_partsOf (t : Int) 0 σ = some (p0 t : Int) ∧ f_Table_partsOf (t : Int) 1 σ = some (p1 t : Int))) :
    ∀ (j f1 f2 t U V : Nat) (found : Int) (σ τ : xSt), t + j = T → j < f1 → j < f2 → (∀ a q, 7 ≤ a → a ≤ 15 → σ a q = σ0 a q) → CoM τ b0 b1 b2 p0 p1 A → XBc σ b0 b1 b2 p0 p1 A → RB o σ τ b0 b1 b2 found U V →
      ∃ (σ' τ' : xSt) (found' : Int) (U' V' : Nat), f_Best_search_59 f1 (t : Int) σ = f_Best_search_106 σ' ∧ f_M_best_69 f2 (all : Int) found (U : Int) (V : Int) (ncB b0 b1 b2 t : Int) τ = mE69 found' (U' : Int) (V' : Int) τ' ∧
        RB o σ' τ' b0 b1 b2 found' U' V' ∧ (∀ a q, (a = 105 → q < 8) → σ' a q = σ a q) ∧ ∀ a q, a ≠ 134 → a ≠ 133 → τ' a q = τ a q := by
  obtain ⟨w1, w2, w3, w4⟩ := rkc_nums b0 b1 b2
  have rW : rkC b0 b1 b2 30 ≤ 30 := (w3 30 (Nat.le_refl _)).1
  have hmm : rkC b0 b1 b2 30 * rkC b0 b1 b2 30 ≤ 30 * 30 := Nat.mul_le_mul rW rW
  have ncs : ∀ t, ncB b0 b1 b2 (t + 1) = ncB b0 b1 b2 t + (if clB b0 b1 b2 t = true then 1 else 0) := fun _ => rfl
  have nT : ncB b0 b1 b2 T = ncB b0 b1 b2 3 := by
    have h0 := hT 0
    have h1 := hT 1
    have h2 := hT 2
    have n0 := ncs 0
    have n1 := ncs 1
    have n2 := ncs 2
    have hT4 : T = 0 ∨ T = 1 ∨ T = 2 ∨ T = 3 := by omega
    rcases hT4 with rfl | rfl | rfl | rfl
    · rw [n2, n1, n0, h0 (by omega), h1 (by omega), h2 (by omega)]
      rfl
    · rw [n2, n1, h1 (by omega), h2 (by omega)]
      rfl
    · rw [n2, h2 (by omega)]
      rfl
    · rfl
  have nlt : ∀ t, t < 3 → clB b0 b1 b2 t = true → ncB b0 b1 b2 t < ncB b0 b1 b2 3 := by
    intro t ht hc
    have n0 : ncB b0 b1 b2 1 = ncB b0 b1 b2 0 + (if clB b0 b1 b2 0 = true then 1 else 0) := ncs 0
    have n1 : ncB b0 b1 b2 2 = ncB b0 b1 b2 1 + (if clB b0 b1 b2 1 = true then 1 else 0) := ncs 1
    have n2 : ncB b0 b1 b2 3 = ncB b0 b1 b2 2 + (if clB b0 b1 b2 2 = true then 1 else 0) := ncs 2
    have h3 : t = 0 ∨ t = 1 ∨ t = 2 := by omega
    rcases h3 with rfl | rfl | rfl
    · rw [if_pos hc] at n0
      omega
    · rw [if_pos hc] at n1
      omega
    · rw [if_pos hc] at n2
      omega
  intro j
  induction j with
  | zero =>
    intro f1 f2 t U V found σ τ g1 g2 g3 hs hC hX hR
    obtain ⟨f1, rfl⟩ : ∃ n, f1 = n + 1 := ⟨f1 - 1, by omega⟩
    obtain ⟨f2, rfl⟩ : ∃ n, f2 = n + 1 := ⟨f2 - 1, by omega⟩
    obtain rfl : t = T := by omega
    refine ⟨σ, τ, found, U, V, ?_, ?_, hR, fun _ _ _ => rfl, fun _ _ _ _ => rfl⟩
    · rw [f_Best_search_59.eq_2, hs 7 1 (by decide) (by decide), h71, if_neg (Int.lt_irrefl _)]
    · rw [f_M_best_69.eq_2, hC.1, nT, if_neg (Int.lt_irrefl _)]
      rfl
  | succ j ih =>
    intro f1 f2 t U V found σ τ g1 g2 g3 hs hC hX hR
    obtain ⟨f1, rfl⟩ : ∃ n, f1 = n + 1 := ⟨f1 - 1, by omega⟩
    have ht : t < T := by omega
    have ht3 : t < 3 := by omega
    have hti : (t : Int) < (T : Int) := by omega
    have n1 : t < 100000 := by omega
    have n72 : ¬ σ 7 2 < 2 := by rw [hs 7 2 (by decide) (by decide)]; omega
    obtain ⟨cc1, cc2⟩ := hcc t ht σ hs
    by_cases hcl : clB b0 b1 b2 t = true
    · obtain ⟨f2, rfl⟩ : ∃ n, f2 = n + 1 := ⟨f2 - 1, by omega⟩
      obtain ⟨cc3, cc4⟩ := cc2 hcl
      rw [if_pos hcl] at cc1
      have hn := nlt t ht3 hcl
      obtain ⟨σ1, τ1, fo1, U1, V1, e1, e2, e3, e4, e5⟩ := best_outer (k69 := fun z0 z1 z2 z3 z4 sz => f_M_best_69 f2 z0 z1 z2 z3 z4 sz) (F := 999999 - rkC b0 b1 b2 30 * rkC b0 b1 b2 30) (r := ncB b0 b1 b2 t) hF ht3 hcl (by omega) 30 1000000 0 U V found σ τ (by omega) (by omega) hC hX hR
      obtain ⟨σ', τ', f', U', V', d1, d2, d3, d4, d5⟩ := ih f1 f2 (t + 1) U1 V1 fo1 σ1 τ1 (by omega) (by omega) (by omega) (fun a q z1 z2 => by rw [e4 a q (fun z => by omega)]; exact hs a q z1 z2) (hC.keep e5) (hX.keep e4) e3
      have z0 : rkC b0 b1 b2 0 = 0 := rfl
      rw [z0, Nat.sub_zero, Nat.zero_mul, show 999999 - rkC b0 b1 b2 30 * rkC b0 b1 b2 30 + 1 + rkC b0 b1 b2 30 * rkC b0 b1 b2 30 = 1000000 by omega, c0n] at e2
      rw [ncs t, if_pos hcl] at d2
      refine ⟨σ', τ', f', U', V', ?_, ?_, d3, fun a q ha => by rw [d4 a q ha, e4 a q ha], fun a q ha hb => by rw [d5 a q ha hb, e5 a q ha hb]⟩
      · have e1 : f_Best_searchCoin (t : Int) (p0 t : Int) (p1 t : Int) σ = some σ1 := e1
        rw [f_Best_search_59.eq_2, hs 7 1 (by decide) (by decide), h71, if_pos hti, if_neg n72, cc1, xbR_s, if_neg (by decide), cc3, xbR_s, cc4, xbR_s, e1, xbR_s, w32_n1 n1, xlet_s, d1]
      · have l1 : (ncB b0 b1 b2 t : Int) < (ncB b0 b1 b2 3 : Int) := by omega
        have l2 : 0 ≤ (ncB b0 b1 b2 t : Int) ∧ (ncB b0 b1 b2 t : Int) < 3 := by omega
        rw [f_M_best_69.eq_2, hC.1, if_pos l1, if_pos l2, Int.toNat_natCast, (hC.2 t ht3 hcl).1, xlet_s, e2]
        exact d2
    · rw [if_neg hcl] at cc1
      obtain ⟨σ', τ', f', U', V', d1, d2, d3, d4, d5⟩ := ih f1 f2 (t + 1) U V found σ τ (by omega) (by omega) (by omega) hs hC hX hR
      rw [ncs t, if_neg hcl, Nat.add_zero] at d2
      refine ⟨σ', τ', f', U', V', ?_, d2, d3, d4, d5⟩
      rw [f_Best_search_59.eq_2, hs 7 1 (by decide) (by decide), h71, if_pos hti, if_neg n72, cc1, xbR_s, if_pos rfl, w32_n1 n1, xlet_s, d1]
