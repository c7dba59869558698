/-! weights: the model's sums -/
theorem wo_cg {σ L : xSt} (e : ∀ a k, a ≤ 86 → L a k = σ a k) {wh t : Nat} : wo L wh t = wo σ wh t := by
  unfold wo
  rw [e 7 3 (by decide), e 11 t (by decide)]
theorem pa_cg {σ L : xSt} (e : ∀ a k, a ≤ 86 → L a k = σ a k) {hd tl t s : Nat} : pa L hd tl t s = pa σ hd tl t s := by
  unfold pa
  rw [e 7 3 (by decide), e 12 _ (by decide)]
theorem AL_cg {σ L : xSt} (e : ∀ a k, a ≤ 86 → L a k = σ a k) {wh : Nat} : ∀ t : Nat, AL L wh t = AL σ wh t := by
  intro t
  induction t with
  | zero => rfl
  | succ t ih =>
    show AL L wh t * wo L wh t ^ 6 = AL σ wh t * wo σ wh t ^ 6
    rw [ih, wo_cg e]
theorem XRec_cg {σ L : xSt} (e : ∀ a k, a ≤ 86 → L a k = σ a k) {hd tl wh al k : Nat} {X H T : Nat → Nat} (h : XRec σ hd tl wh al X H T k) : XRec L hd tl wh al X H T k := by
  refine ⟨h.1, fun h0 p s t z1 z2 z3 => ?_⟩
  rw [e 19 _ (by decide)] at z1
  rw [e 20 _ (by decide)] at z2
  rw [e 18 _ (by decide)] at z3
  rw [wo_cg e, pa_cg e, e 7 3 (by decide)]
  exact h.2 h0 p s t z1 z2 z3
theorem gI_cg {σ L : xSt} (e : ∀ a k, a ≤ 86 → L a k = σ a k) {X : Nat → Nat} (i : Nat) : gI L X i = gI σ X i := by
  funext j
  unfold gI gE gA
  rw [e 17 _ (by decide), e 18 _ (by decide)]
theorem gT_cg {σ L : xSt} (e : ∀ a k, a ≤ 86 → L a k = σ a k) {X : Nat → Nat} : gT L X = gT σ X := by
  funext j
  unfold gT
  rw [e 17 _ (by decide)]
def frL (τ τ' : xSt) : Prop := ∀ c q, (c = 111 → q ≠ 29) → τ' c q = τ c q
theorem MdB.fL {G : xSt} {hd wh : Nat} {τ τ' : xSt} (h : MdB G hd wh τ) (f : frL τ τ') : MdB G hd wh τ' := ⟨fun q => by rw [f 113 q (fun z => absurd z (by decide))]; exact h.1 q, by rw [f 122 0 (fun z => absurd z (by decide))]; exact h.2.1, by rw [f 122 1 (fun z => absurd z (by decide))]; exact h.2.2⟩
theorem m_lw32 {G : xSt} (h : Inv0 G) (h22 : G 111 22 ≠ 0) (hn0 : 0 < G 16 0) {hd wh t : Nat} (ht : (t : Int) < G 7 1) (hH : Has G 0 (G 16 0).toNat (t : Int)) (w1 : 1 ≤ wo G wh t) {k21 : Int → xSt → Option (Int × xSt)} {v : Nat} (hv : v * wo G wh t ^ 6 < 9223372036854775808) : ∀ (j fu l : Nat) (τ : xSt), l + j = 6 → j < fu → MdB G hd wh τ → τ 111 29 = ((v * wo G wh t ^ l : Nat) : Int) →
    ∃ τ', f_M_layWeights_32 k21 fu (t : Int) (l : Int) τ = k21 ((t + 1 : Nat) : Int) τ' ∧ τ' 111 29 = ((v * wo G wh t ^ 6 : Nat) : Int) ∧ frL τ τ' := by
  have h3 := h.things.2.2
  have t1 : t < 100000 := by omega
  intro j
  induction j with
  | zero =>
    intro fu l τ g1 g2 hB h29
    obtain ⟨fu, rfl⟩ : ∃ n2, fu = n2 + 1 := ⟨fu - 1, by omega⟩
    obtain rfl : l = 6 := by omega
    refine ⟨τ, ?_, h29, fun _ _ _ => rfl⟩
    rw [f_M_layWeights_32.eq_2, if_neg (by decide), w32_n1 t1, xlet_s]
  | succ j ih =>
    intro fu l τ g1 g2 hB h29
    obtain ⟨fu, rfl⟩ : ∃ n2, fu = n2 + 1 := ⟨fu - 1, by omega⟩
    have l6 : (l : Int) < 6 := by omega
    have l1 : l < 100000 := by omega
    obtain ⟨u, u1, u2⟩ := m_wayHas (τ := τ) h hB.1 hn0 (t : Int)
    obtain rfl : u = 1 := by
      rcases u2 with ⟨z, -⟩ | ⟨-, z⟩
      · exact z
      · exact absurd hH z
    have p1 : wo G wh t ^ (l + 1) ≤ wo G wh t ^ 6 := Nat.pow_le_pow_right w1 (by omega)
    have p2 : v * wo G wh t ^ (l + 1) ≤ v * wo G wh t ^ 6 := Nat.mul_le_mul_left _ p1
    have p3 : v * wo G wh t ^ (l + 1) = v * wo G wh t ^ l * wo G wh t := by rw [Nat.pow_succ, Nat.mul_assoc]
    have p4 : v * wo G wh t ^ l * wo G wh t < 9223372036854775808 := by omega
    have hF : frL τ (upS τ 111 29 ((v * wo G wh t ^ (l + 1) : Nat) : Int)) := fun c q hc => by
      rw [upS_rd, if_neg (fun z => hc z.1 z.2)]
    obtain ⟨τ', d1, d2, d3⟩ := ih fu (l + 1) _ (by omega) (by omega) (hB.fL hF) upS_eq
    refine ⟨τ', ?_, d2, fun c q hc => by rw [d3 c q hc, hF c q hc]⟩
    rw [f_M_layWeights_32.eq_2, if_pos l6, u1, xbR_s, if_neg (by decide), m_woO h h22 hB ht, xbR_s, h29, w64_mul p4, ← p3, xlet_s, w32_n1 l1, xlet_s, d1]
theorem m_lw21 {G : xSt} (h : Inv0 G) (h22 : G 111 22 ≠ 0) (hn0 : 0 < G 16 0) {hd wh Tn : Nat} (hb : Bnd hd (wh - hd) wh) (hT : G 7 1 = (Tn : Int)) {hs : Nat → Bool} (hhs : ∀ t : Nat, hs t = true ↔ Has G 0 (G 16 0).toNat (t : Int)) : ∀ (j fu t : Nat) (τ : xSt), t + j = Tn → j < fu → MdB G hd wh τ → τ 111 29 = ((PM G wh hs t ^ 6 : Nat) : Int) →
    ∃ τ', f_M_layWeights_21 fu (t : Int) τ = f_M_layWeights_82 1000000 0 (upS τ' 111 30 0) ∧ τ' 111 29 = ((PM G wh hs Tn ^ 6 : Nat) : Int) ∧ frL τ τ' := by
  obtain ⟨t1, t2, t3⟩ := h.things
  intro j
  induction j with
  | zero =>
    intro fu t τ g1 g2 hB h29
    obtain ⟨fu, rfl⟩ : ∃ n2, fu = n2 + 1 := ⟨fu - 1, by omega⟩
    obtain rfl : t = Tn := by omega
    have hth : f_M_things τ = some (t : Int) := by
      unfold f_M_things
      rw [hB.1, ← t1, hT]
    refine ⟨τ, ?_, h29, fun _ _ _ => rfl⟩
    rw [f_M_layWeights_21.eq_2, hth, xbR_s, if_neg (Int.lt_irrefl _), xlet_s]
  | succ j ih =>
    intro fu t τ g1 g2 hB h29
    obtain ⟨fu, rfl⟩ : ∃ n2, fu = n2 + 1 := ⟨fu - 1, by omega⟩
    have ht : (t : Int) < G 7 1 := by omega
    have hti : (t : Int) < (Tn : Int) := by omega
    have b3 : t < 100000 := by omega
    have hth : f_M_things τ = some (Tn : Int) := by
      unfold f_M_things
      rw [hB.1, ← t1, hT]
    have e3 : PM G wh hs (t + 1) = PM G wh hs t * (if hs t = true then wo G wh t else 1) := rfl
    have pl := PM_le (hs := hs) (t := t + 1) h hb (by omega)
    by_cases hz : hs t = true
    · have q := h.th (p := (t : Int)) (by omega) ht
      rw [Int.toNat_natCast] at q
      obtain ⟨w1, w2, -⟩ := wp_f (s := 0) h hb ht (by have := q.2.1; omega)
      rw [if_pos hz] at e3
      have e4 : PM G wh hs (t + 1) ^ 6 = PM G wh hs t ^ 6 * wo G wh t ^ 6 := by rw [e3, Nat.mul_pow]
      have e5 : PM G wh hs t ^ 6 * wo G wh t ^ 6 < 9223372036854775808 := by omega
      obtain ⟨τ1, a1, a2, a3⟩ := m_lw32 (k21 := fun z0 sz => f_M_layWeights_21 fu z0 sz) h h22 hn0 ht ((hhs t).mp hz) w1 e5 6 1000000 0 τ (by omega) (by omega) hB (by rw [Nat.pow_zero, Nat.mul_one]; exact h29)
      obtain ⟨τ', d1, d2, d3⟩ := ih fu (t + 1) τ1 (by omega) (by omega) (hB.fL a3) (by rw [a2, e4])
      rw [c0n] at a1
      refine ⟨τ', ?_, d2, fun c q hc => by rw [d3 c q hc, a3 c q hc]⟩
      rw [f_M_layWeights_21.eq_2, hth, xbR_s, if_pos hti, a1]
      exact d1
    · obtain ⟨u, u1, u2⟩ := m_wayHas (τ := τ) h hB.1 hn0 (t : Int)
      obtain rfl : u = 0 := by
        rcases u2 with ⟨-, z⟩ | ⟨z, -⟩
        · exact absurd ((hhs t).mpr z) hz
        · exact z
      rw [if_neg hz, Nat.mul_one] at e3
      obtain ⟨τ', d1, d2, d3⟩ := ih fu (t + 1) τ (by omega) (by omega) hB (by rw [h29, e3])
      refine ⟨τ', ?_, d2, d3⟩
      have st : ∀ k21 : Int → xSt → Option (Int × xSt), f_M_layWeights_32 k21 1000000 (t : Int) 0 τ = k21 ((t + 1 : Nat) : Int) τ := fun k21 => by
        obtain ⟨n2, hn2⟩ : ∃ n2, 1000000 = n2 + 1 := ⟨999999, rfl⟩
        rw [hn2, f_M_layWeights_32.eq_2, if_pos (by decide), u1, xbR_s, if_pos rfl, w32_n1 b3, xlet_s]
      rw [f_M_layWeights_21.eq_2, hth, xbR_s, if_pos hti, st]
      exact d1
theorem m_lw82 : ∀ (j fu i : Nat) (τ : xSt), i + j = 7 → j < fu → (∀ k : Nat, k < i → τ 121 k = 0) → ∃ τ', f_M_layWeights_82 fu (i : Int) τ = (xbR (f_M_weigh 60 0 (τ' 111 29) 0 τ') fun σ12 => if xlc (σ12 121 6) (σ12 111 29) < 0 then (some (1, σ12)) else (some (0, σ12))) ∧ (∀ k : Nat, k < 7 → τ' 121 k = 0) ∧ ∀ a q, a ≠ 121 → τ' a q = τ a q := by
  intro j
  induction j with
  | zero =>
    intro fu i τ g1 g2 h0
    obtain ⟨fu, rfl⟩ : ∃ n2, fu = n2 + 1 := ⟨fu - 1, by omega⟩
    obtain rfl : i = 7 := by omega
    refine ⟨τ, ?_, h0, fun _ _ _ => rfl⟩
    rw [f_M_layWeights_82.eq_2, if_pos (by decide)]
  | succ j ih =>
    intro fu i τ g1 g2 h0
    obtain ⟨fu, rfl⟩ : ∃ n2, fu = n2 + 1 := ⟨fu - 1, by omega⟩
    have b1 : ¬ 6 < (i : Int) := by omega
    have b2 : 0 ≤ (i : Int) ∧ (i : Int) < 8 := by omega
    have b3 : i < 100000 := by omega
    obtain ⟨τ', t1, t2, t3⟩ := ih fu (i + 1) (upS τ 121 i 0) (by omega) (by omega) (fun k hk => by
      by_cases hz : k = i
      · rw [hz, upS_eq]
      · rw [upS_nk hz]
        exact h0 k (by omega))
    refine ⟨τ', ?_, t2, fun a q ha => by rw [t3 a q ha, upS_ne ha]⟩
    rw [f_M_layWeights_82.eq_2, if_neg b1, if_pos b2, Int.toNat_natCast, xlet_s, w32_n1 b3, xlet_s, t1]
