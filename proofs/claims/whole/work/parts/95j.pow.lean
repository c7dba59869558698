/-! powers: the class's sums -/
def sg (m x : Nat) : Int := if m % 2 = 0 then (x : Int) else -(x : Int)
theorem sg_s {m x : Nat} : -(sg m x) = sg (m + 1) x := by
  unfold sg
  by_cases h : m % 2 = 0
  · rw [if_pos h, if_neg (by omega)]
  · rw [if_neg h, if_pos (by omega), Int.neg_neg]
theorem sg_b {m x : Nat} : -(x : Int) ≤ sg m x ∧ sg m x ≤ (x : Int) := by
  unfold sg
  split <;> omega
/-- what a leaf adds -/
def pwS (e h t x : Nat) : Nat → Nat → Int
  | 0, _ => 0
  | m + 1, i => pwS e h t x m i + (if i = 7 * e + h + m then sg m x * (chN t m : Int) else 0)
theorem w32_7 {a b : Nat} (ha : a < 100) (hb : b < 100) : w32 (w32 ((a : Int) * 7) + (b : Int)) = ((7 * a + b : Nat) : Int) := by
  have e1 : w32 ((a : Int) * 7) = ((7 * a : Nat) : Int) := (w32_o (by omega) (by omega)).trans (by omega)
  rw [e1]
  exact (w32_o (by omega) (by omega)).trans (by omega)
theorem x_ap20 {k e h t x : Nat} (hk : k < 80) (he : e < 7) (ht : h + t ≤ 6) (hx : x ≤ 150094635296999121) {V : Nat → Int} : ∀ (j fu l : Nat) (σ : xSt), l + j = t + 1 → j < fu → σ 89 k = (h : Int) → σ 90 k = (t : Int) → (∀ i : Nat, i < 49 → σ 92 i = w64 (V i + pwS e h t x l i)) →
    ∃ σ', f_Odds_addPowers_20 fu (e : Int) (k : Int) (sg l x) (l : Int) σ = some σ' ∧ (∀ i : Nat, i < 49 → σ' 92 i = w64 (V i + pwS e h t x (t + 1) i)) ∧ ∀ a q, a ≠ 92 → σ' a q = σ a q := by
  have b80 : 0 ≤ (k : Int) ∧ (k : Int) < 80 := by omega
  intro j
  induction j with
  | zero =>
    intro fu l σ g1 g2 h89 h90 hV
    obtain ⟨fu, rfl⟩ : ∃ n2, fu = n2 + 1 := ⟨fu - 1, by omega⟩
    obtain rfl : l = t + 1 := by omega
    refine ⟨σ, ?_, hV, fun _ _ _ => rfl⟩
    rw [f_Odds_addPowers_20.eq_2, if_pos b80, Int.toNat_natCast, h90, if_pos (by omega)]
  | succ j ih =>
    intro fu l σ g1 g2 h89 h90 hV
    obtain ⟨fu, rfl⟩ : ∃ n2, fu = n2 + 1 := ⟨fu - 1, by omega⟩
    have hl : l ≤ t := by omega
    have c1 : ¬ (t : Int) < (l : Int) := by omega
    have l1 : l < 100000 := by omega
    have t60 : t ≤ 60 := by omega
    have f1 : l + 1 + j = t + 1 := by omega
    have f2 : j < fu := by omega
    have f3 : ∀ i : Nat, i = 7 * e + (h + l) → i = 7 * e + h + l := fun i z => by omega
    have f4 : ∀ i : Nat, ¬ i = 7 * e + (h + l) → ¬ i = 7 * e + h + l := fun i z => by omega
    have e100 : e < 100 := by omega
    have h100 : h + l < 100 := by omega
    have c3 : 0 ≤ (e : Int) ∧ (e : Int) < 7 := by omega
    have c4 : 0 ≤ ((h + l : Nat) : Int) ∧ ((h + l : Nat) : Int) < 7 := by omega
    have c6 : 0 ≤ ((7 * e + (h + l) : Nat) : Int) ∧ ((7 * e + (h + l) : Nat) : Int) < 49 := by omega
    have i49 : 7 * e + (h + l) < 49 := by omega
    have c7 : w64 (-(sg l x)) = sg (l + 1) x := by
      have b := sg_b (m := l + 1) (x := x)
      rw [sg_s]
      exact w64_o (by omega) (by omega)
    have c2 : w32 ((h : Int) + (l : Int)) = ((h + l : Nat) : Int) := (w32_o (by omega) (by omega)).trans (by omega)
    have c5 : w32 (w32 ((e : Int) * 7) + ((h + l : Nat) : Int)) = ((7 * e + (h + l) : Nat) : Int) := w32_7 e100 h100
    obtain ⟨σ', d1, d2, d3⟩ := ih fu (l + 1) (upS σ 92 (7 * e + (h + l)) (w64 (w64 (V (7 * e + (h + l)) + pwS e h t x l (7 * e + (h + l))) + w64 (sg l x * (chN t l : Int))))) f1 f2 (by rw [upS_ne (by decide)]; exact h89) (by rw [upS_ne (by decide)]; exact h90) (fun i hi => by
      have e1 : pwS e h t x (l + 1) i = pwS e h t x l i + (if i = 7 * e + h + l then sg l x * (chN t l : Int) else 0) := rfl
      by_cases hz : i = 7 * e + (h + l)
      · rw [← hz, upS_eq, e1, if_pos (f3 i hz), w64_addw, w64_addr, Int.add_assoc]
      · rw [upS_nk hz, e1, if_neg (f4 i hz), Int.add_zero]
        exact hV i hi)
    refine ⟨σ', ?_, d2, fun a q ha => by rw [d3 a q ha, upS_ne ha]⟩
    rw [f_Odds_addPowers_20.eq_2, if_pos b80, Int.toNat_natCast, h90, if_neg c1, if_pos b80, h89, c2, xlet_s, x_isWithin, if_pos c3, xbR_s, if_neg (by decide), x_isWithin, if_pos c4, xbR_s, if_neg (by decide), c5, if_pos c6, if_pos b80, x_choices t60, xbR_s, if_pos c6, Int.toNat_natCast, hV _ i49, xlet_s, c7, xlet_s, w32_n1 l1, xlet_s, d1]
def eo (G : xSt) (j : Nat) : Nat := if G 17 j = 1 then 6 else (G 18 j).toNat
def cP (G : xSt) (X H T : Nat → Nat) (i j : Nat) : Int := if G 17 j = 2 then 0 else pwS (eo G j) (H j) (T j) (X j) (T j + 1) i
theorem x_ap {σ0 σ : xSt} {X H T : Nat → Nat} {k e : Nat} (hk : k < 80) (he : e < 7) (ht : H k + T k ≤ 6) (hx : X k ≤ 150094635296999121) (h88 : σ 88 k = (X k : Int)) (h89 : σ 89 k = (H k : Int)) (h90 : σ 90 k = (T k : Int)) (heo : eo σ0 k = e) (h2 : σ0 17 k ≠ 2) (hV : ∀ i : Nat, i < 49 → σ 92 i = w64 (psum (cP σ0 X H T i) k)) :
    ∃ σ', f_Odds_addPowers (e : Int) (k : Int) σ = some σ' ∧ (∀ i : Nat, i < 49 → σ' 92 i = w64 (psum (cP σ0 X H T i) (k + 1))) ∧ ∀ a q, a ≠ 92 → σ' a q = σ a q := by
  have b80 : 0 ≤ (k : Int) ∧ (k : Int) < 80 := by omega
  obtain ⟨σ', d1, d2, d3⟩ := x_ap20 (e := e) (h := H k) (t := T k) (x := X k) hk he ht hx (V := fun i => psum (cP σ0 X H T i) k) (T k + 1) 1000000 0 σ (by omega) (by omega) h89 h90 (fun i hi => by
    show _ = w64 (psum (cP σ0 X H T i) k + 0)
    rw [Int.add_zero]
    exact hV i hi)
  refine ⟨σ', ?_, fun i hi => ?_, d3⟩
  · have e0 : sg 0 (X k) = (X k : Int) := rfl
    rw [c0n, e0] at d1
    unfold f_Odds_addPowers
    rw [x_isWithin, if_pos b80, xbR_s, if_neg (by decide), if_pos b80, Int.toNat_natCast, h88, xlet_s, d1]
  · have e1 : psum (cP σ0 X H T i) (k + 1) = psum (cP σ0 X H T i) k + cP σ0 X H T i k := rfl
    have e2 : cP σ0 X H T i k = pwS e (H k) (T k) (X k) (T k + 1) i := by
      unfold cP
      rw [if_neg h2, heo]
    rw [e1, e2]
    exact d2 i hi
theorem x_tp35 {σ0 : xSt} (h : Inv0 σ0) {X H T : Nat → Nat} {n : Nat} (hn : σ0 16 0 = (n : Int)) (hb : ∀ j : Nat, j < n → H j + T j ≤ 6 ∧ X j ≤ 150094635296999121) : ∀ (j fu k : Nat) (σ : xSt), k + j = n → j < fu → SmW σ0 σ → (∀ j : Nat, j < n → σ 88 j = (X j : Int) ∧ σ 89 j = (H j : Int) ∧ σ 90 j = (T j : Int)) → (∀ i : Nat, i < 49 → σ 92 i = w64 (psum (cP σ0 X H T i) k)) →
    ∃ σ', f_Odds_tellPolynomials_35 fu (k : Int) σ = some σ' ∧ (∀ i : Nat, i < 49 → σ' 92 i = w64 (psum (cP σ0 X H T i) n)) ∧ ∀ a q, a ≠ 92 → σ' a q = σ a q := by
  have h80 := h.nodes
  have hte := h.ends
  intro j
  induction j with
  | zero =>
    intro fu k σ g1 g2 hs hj hV
    obtain ⟨fu, rfl⟩ : ∃ n2, fu = n2 + 1 := ⟨fu - 1, by omega⟩
    obtain rfl : k = n := by omega
    refine ⟨σ, ?_, hV, fun _ _ _ => rfl⟩
    rw [f_Odds_tellPolynomials_35.eq_2, hs 16 0 (by decide) (by decide), hn, if_neg (Int.lt_irrefl _)]
  | succ j ih =>
    intro fu k σ g1 g2 hs hj hV
    obtain ⟨fu, rfl⟩ : ∃ n2, fu = n2 + 1 := ⟨fu - 1, by omega⟩
    have hk : (k : Int) < σ0 16 0 := by omega
    have hki : (k : Int) < (n : Int) := by omega
    have e16 := hs 16 0 (by decide) (by decide)
    have bk : 0 ≤ (k : Int) ∧ (k : Int) < σ 16 0 := by omega
    have n80 : σ 16 0 ≤ 80 := by omega
    have k80 : k < 80 := by omega
    have k1 : k < 100000 := by omega
    have hd := (h.nd (p := (k : Int)) (by omega) hk).2.2.2.2
    rw [Int.toNat_natCast] at hd
    have hso : f_Way_sortAt (k : Int) σ = some (σ0 17 k) := by rw [x_sortAt n80, if_pos bk, Int.toNat_natCast, hs 17 k (by decide) (by decide)]
    have hwh : f_Way_whichAt (k : Int) σ = some (σ0 18 k) := by rw [x_whichAt n80, if_pos bk, Int.toNat_natCast, hs 18 k (by decide) (by decide)]
    obtain ⟨q1, q2, q3⟩ := hj k (by omega)
    obtain ⟨r1, r2⟩ := hb k (by omega)
    have go : ∀ e : Nat, e < 7 → eo σ0 k = e → σ0 17 k ≠ 2 → (∀ s, f_Odds_addPowers (e : Int) (k : Int) σ = some s → f_Odds_tellPolynomials_35 (fu + 1) (k : Int) σ = f_Odds_tellPolynomials_35 fu ((k + 1 : Nat) : Int) s) → ∃ σ', f_Odds_tellPolynomials_35 (fu + 1) (k : Int) σ = some σ' ∧ (∀ i : Nat, i < 49 → σ' 92 i = w64 (psum (cP σ0 X H T i) n)) ∧ ∀ a q, a ≠ 92 → σ' a q = σ a q := fun e he heo h2 hst => by
      obtain ⟨s, s1, s2, s3⟩ := x_ap (e := e) k80 he r1 r2 q1 q2 q3 heo h2 hV
      obtain ⟨σ', d1, d2, d3⟩ := ih fu (k + 1) s (by omega) (by omega) (fun a q z1 z2 => by rw [s3 a q (by omega)]; exact hs a q z1 z2) (fun j hj2 => by rw [s3 88 j (by decide), s3 89 j (by decide), s3 90 j (by decide)]; exact hj j hj2) s2
      exact ⟨σ', by rw [hst s s1, d1], d2, fun a q ha => by rw [d3 a q ha, s3 a q ha]⟩
    rcases hd with ⟨d1, d2, d3⟩ | ⟨d1, -⟩ | ⟨d1, -⟩
    · obtain ⟨e, he⟩ : ∃ e : Nat, σ0 18 k = (e : Int) := ⟨(σ0 18 k).toNat, by omega⟩
      refine go e (by omega) (by unfold eo; rw [if_neg (by omega), he, Int.toNat_natCast]) (by omega) (fun s hs2 => ?_)
      rw [f_Odds_tellPolynomials_35.eq_2, e16, hn, if_pos hki, hso, xbR_s, if_neg (by omega), xbR_s, if_pos d1, hwh, xbR_s, he, hs2, xbR_s, w32_n1 k1, xlet_s]
    · refine go 6 (by decide) (if_pos d1) (by omega) (fun s hs2 => ?_)
      have hs2 : f_Odds_addPowers 6 (k : Int) σ = some s := hs2
      rw [f_Odds_tellPolynomials_35.eq_2, e16, hn, if_pos hki, hso, xbR_s, if_pos d1, hs2, xbR_s, w32_n1 k1, xlet_s]
    · obtain ⟨σ', c1, c2, c3⟩ := ih fu (k + 1) σ (by omega) (by omega) hs hj (fun i hi => by
        have e1 : psum (cP σ0 X H T i) (k + 1) = psum (cP σ0 X H T i) k + cP σ0 X H T i k := rfl
        have e2 : cP σ0 X H T i k = 0 := if_pos d1
        rw [e1, e2, Int.add_zero]
        exact hV i hi)
      refine ⟨σ', ?_, c2, c3⟩
      rw [f_Odds_tellPolynomials_35.eq_2, e16, hn, if_pos hki, hso, xbR_s, if_neg (by omega), xbR_s, if_neg (by omega), w32_n1 k1, xlet_s, c1]
theorem x_tp11 : ∀ (j fu i : Nat) (σ : xSt), i + j = 49 → j < fu → (∀ k : Nat, k < i → σ 92 k = 0) → ∃ σ', f_Odds_tellPolynomials_11 fu (i : Int) σ = f_Odds_tellPolynomials_35 1000000 0 σ' ∧ (∀ k : Nat, k < 49 → σ' 92 k = 0) ∧ ∀ a q, a ≠ 92 → σ' a q = σ a q := by
  intro j
  induction j with
  | zero =>
    intro fu i σ g1 g2 h0
    obtain ⟨fu, rfl⟩ : ∃ n2, fu = n2 + 1 := ⟨fu - 1, by omega⟩
    obtain rfl : i = 49 := by omega
    refine ⟨σ, ?_, h0, fun _ _ _ => rfl⟩
    rw [f_Odds_tellPolynomials_11.eq_2, if_neg (by decide)]
  | succ j ih =>
    intro fu i σ g1 g2 h0
    obtain ⟨fu, rfl⟩ : ∃ n2, fu = n2 + 1 := ⟨fu - 1, by omega⟩
    have b2 : 0 ≤ (i : Int) ∧ (i : Int) < 49 := by omega
    have b3 : i < 100000 := by omega
    obtain ⟨σ', t1, t2, t3⟩ := ih fu (i + 1) (upS σ 92 i 0) (by omega) (by omega) (fun k hk => by
      by_cases hz : k = i
      · rw [hz, upS_eq]
      · rw [upS_nk hz]
        exact h0 k (by omega))
    refine ⟨σ', ?_, t2, fun a q ha => by rw [t3 a q ha, upS_ne ha]⟩
    rw [f_Odds_tellPolynomials_11.eq_2, if_pos b2.2, if_pos b2, Int.toNat_natCast, xlet_s, w32_n1 b3, xlet_s, t1]
