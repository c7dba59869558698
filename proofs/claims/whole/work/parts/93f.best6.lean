/-! best: the start of both sides -/
theorem xb_ok : (List.range 8).all (fun v => (List.range 3).all (fun t => decide (xand (xshr (v : Int) (t : Int)) 1 = ((v / 2 ^ t % 2 : Nat) : Int)))) = true := by decide +kernel
theorem xb_n {v t : Nat} (hv : v < 8) (ht : t < 3) : xand (xshr (v : Int) (t : Int)) 1 = ((v / 2 ^ t % 2 : Nat) : Int) := of_decide_eq_true (List.all_eq_true.mp (List.all_eq_true.mp xb_ok v (List.mem_range.mpr hv)) t (List.mem_range.mpr ht))
/-- which THINGS are coins that are not open -/
def clT (σ : xSt) (t : Nat) : Bool := decide ((t : Int) < σ 7 1 ∧ σ 9 t ≠ 0 ∧ (t : Int) ≠ σ 7 3)
def cl3 (σ : xSt) (t : Nat) : Bool := clB (clT σ 0) (clT σ 1) (clT σ 2) t
theorem cl3_t {σ : xSt} {t : Nat} (ht : t < 3) : cl3 σ t = clT σ t := by
  have h3 : t = 0 ∨ t = 1 ∨ t = 2 := by omega
  rcases h3 with rfl | rfl | rfl <;> rfl
theorem x_closed {σ0 σ : xSt} {t : Nat} (ht : t < 3) (h3 : σ0 7 1 ≤ 3) (h : ∀ a q, 7 ≤ a → a ≤ 15 → σ a q = σ0 a q) : f_Table_isClosedCoin (t : Int) σ = some (if clT σ0 t = true then 1 else 0) := by
  have e71 : σ 7 1 = σ0 7 1 := h 7 1 (by decide) (by decide)
  have e73 : σ 7 3 = σ0 7 3 := h 7 3 (by decide) (by decide)
  have e9 : σ 9 t = σ0 9 t := h 9 t (by decide) (by decide)
  have b : 0 ≤ (t : Int) ∧ (t : Int) < 3 := by omega
  unfold f_Table_isClosedCoin clT
  rw [x_hasThing (by omega), e71, e73]
  by_cases h1 : 0 ≤ (t : Int) ∧ (t : Int) < σ0 7 1
  · rw [if_pos h1, xbR_s, if_neg (by decide), if_pos b, Int.toNat_natCast, e9]
    by_cases h2 : σ0 9 t = 0
    · rw [if_pos h2, if_neg (fun z => (of_decide_eq_true z).2.1 h2)]
    · rw [if_neg h2]
      by_cases h4 : (t : Int) = σ0 7 3
      · rw [if_pos h4, if_neg (fun z => (of_decide_eq_true z).2.2 h4)]
      · rw [if_neg h4, if_pos (decide_eq_true ⟨h1.2, h2, h4⟩)]
  · rw [if_neg h1, xbR_s, if_pos rfl, if_neg (fun z => h1 ⟨by omega, (of_decide_eq_true z).1⟩)]
def p0N (σ : xSt) (t : Nat) : Nat := (σ 12 (6 * t)).toNat
def p1N (σ : xSt) (t : Nat) : Nat := (σ 12 (6 * t + 1)).toNat
def aN (σ : xSt) (t : Nat) : Nat := (σ 11 t).toNat
/-- what a closed coin has -/
theorem coin_f {σ : xSt} (h : Inv0 σ) {t : Nat} (hc : clT σ t = true) : (t : Int) < σ 7 1 ∧ σ 10 t = 2 ∧ σ 12 (6 * t) = (p0N σ t : Int) ∧ σ 12 (6 * t + 1) = (p1N σ t : Int) ∧ σ 11 t = (aN σ t : Int) ∧ p0N σ t ≤ 9 ∧ p1N σ t ≤ 9 ∧ 1 ≤ aN σ t ∧ aN σ t ≤ 9 ∧ aN σ t = p0N σ t + p1N σ t := by
  obtain ⟨c1, c2, c3⟩ := of_decide_eq_true hc
  have q := h.th (p := (t : Int)) (by omega) c1
  rw [Int.toNat_natCast] at q
  obtain ⟨-, -, -, -, q5, q6, q7, q8, -, -, -, q12⟩ := q
  obtain ⟨d1, d2⟩ := q12 (fun z => c3 z.symm)
  have s2 : σ 10 t = 2 := by
    rcases q8 with z | ⟨-, z⟩
    · exact absurd z c2
    · exact z
  have r0 := q7 0 (by omega)
  have r1 := q7 1 (by omega)
  rw [Nat.add_zero] at r0
  rw [s2] at d2
  have ps : psum (fun s => σ 12 (6 * t + s)) (2 : Int).toNat = 0 + σ 12 (6 * t + 0) + σ 12 (6 * t + 1) := rfl
  rw [ps, Nat.add_zero] at d2
  unfold p0N p1N aN
  refine ⟨c1, s2, ?_, ?_, ?_, ?_, ?_, ?_, ?_, ?_⟩ <;> omega
theorem x_partOf {σ0 σ : xSt} (h0 : Inv0 σ0) (h : ∀ a q, 7 ≤ a → a ≤ 15 → σ a q = σ0 a q) {c k : Nat} (hc : c < 30) : ∃ v, f_Best_partOf (c : Int) (k : Int) σ = some v ∧ (valB (clT σ0 0) (clT σ0 1) (clT σ0 2) c = true → v = (Fp (p0N σ0) (p1N σ0) c k : Int)) := by
  by_cases h3 : c < 3
  · have n3 : (c : Int) < 3 := by omega
    by_cases hk : c = k
    · refine ⟨1, ?_, fun _ => ?_⟩
      · unfold f_Best_partOf
        rw [if_pos n3, if_pos (by omega)]
      · unfold Fp
        rw [if_pos h3, if_pos hk]
        rfl
    · refine ⟨0, ?_, fun _ => ?_⟩
      · unfold f_Best_partOf
        rw [if_pos n3, if_neg (by omega)]
      · unfold Fp
        rw [if_pos h3, if_neg hk]
        rfl
  · obtain ⟨x, rfl⟩ : ∃ x, c = x + 3 := ⟨c - 3, by omega⟩
    have n3 : ¬ ((x + 3 : Nat) : Int) < 3 := by omega
    have o1 : x < 2147483648 := by omega
    have o2 : x % 9 < 2147483648 := by omega
    have htl : x / 9 < 3 := by omega
    have e71 : σ 7 1 = σ0 7 1 := h 7 1 (by decide) (by decide)
    have h71 := h0.things.2.2
    have s71 : σ 7 1 ≤ 3 := by omega
    have e0 : w32 (((x + 3 : Nat) : Int) - 3) = (x : Int) := (w32_o (by omega) (by omega)).trans (by omega)
    have z1 : xdiv (x : Int) 9 = ((x / 9 : Nat) : Int) := xdiv_n (b := 9) o1
    have z2 : xrem (x : Int) 9 = ((x % 9 : Nat) : Int) := xrem_n (b := 9) o1
    have z3 : xdiv ((x % 9 : Nat) : Int) 3 = ((x % 9 / 3 : Nat) : Int) := xdiv_n (b := 3) o2
    have z4 : xrem ((x % 9 : Nat) : Int) 3 = ((x % 9 % 3 : Nat) : Int) := xrem_n (b := 3) o2
    have sc : f_Best_secondCoin ((x + 3 : Nat) : Int) σ = some ((x / 9 : Nat) : Int) := by
      unfold f_Best_secondCoin
      rw [if_neg n3, e0, z1]
    have l0 : f_Best_leafOn ((x + 3 : Nat) : Int) 0 σ = some ((x % 9 / 3 : Nat) : Int) := by
      unfold f_Best_leafOn
      rw [e0, z2, xlet_s, if_pos rfl, z3]
    have l1 : f_Best_leafOn ((x + 3 : Nat) : Int) 1 σ = some ((x % 9 % 3 : Nat) : Int) := by
      unfold f_Best_leafOn
      rw [e0, z2, xlet_s, if_neg (by decide), z4]
    have val2 : valB (clT σ0 0) (clT σ0 1) (clT σ0 2) (x + 3) = true → clT σ0 (x / 9) = true := fun hv => by
      have := val_cl hv (by omega)
      rw [show x + 3 - 3 = x by omega] at this
      rw [← cl3_t htl]
      exact this
    have Fx : Fp (p0N σ0) (p1N σ0) (x + 3) k = (if x % 9 / 3 = k then p0N σ0 (x / 9) else 0) + (if x % 9 % 3 = k then p1N σ0 (x / 9) else 0) := by
      unfold Fp
      rw [if_neg h3, show x + 3 - 3 = x by omega]
    have part : ∀ s0 : Int, ∃ v, f_Best_partOf_40 ((x + 3 : Nat) : Int) (k : Int) ((x / 9 : Nat) : Int) s0 σ = some v ∧ (valB (clT σ0 0) (clT σ0 1) (clT σ0 2) (x + 3) = true → 0 ≤ s0 → s0 ≤ 9 → v = s0 + (((if x % 9 % 3 = k then p1N σ0 (x / 9) else 0) : Nat) : Int)) := by
      intro s0
      unfold f_Best_partOf_40
      rw [l1, xbR_s]
      by_cases hk : x % 9 % 3 = k
      · rw [if_pos (by omega), x_partsOf s71, xbR_s]
        refine ⟨_, rfl, fun hv q1 q2 => ?_⟩
        obtain ⟨f1, f2, f3, f4, f5, f6, f7, f8, f9, f10⟩ := coin_f h0 (val2 hv)
        rw [if_pos (by omega), Int.toNat_natCast, show 6 * (x / 9) + (1 : Int).toNat = 6 * (x / 9) + 1 from rfl, h 12 _ (by decide) (by decide), f4, if_pos hk]
        exact w32_o (by omega) (by omega)
      · rw [if_neg (by omega)]
        refine ⟨_, rfl, fun hv q1 q2 => ?_⟩
        rw [if_neg hk]
        exact w32_o (by omega) (by omega)
    unfold f_Best_partOf
    rw [if_neg n3, sc, xbR_s, l0, xbR_s]
    by_cases hk : x % 9 / 3 = k
    · rw [if_pos (by omega), x_partsOf s71, xbR_s]
      obtain ⟨v, v1, v2⟩ := part (if (0 ≤ ((x / 9 : Nat) : Int) ∧ ((x / 9 : Nat) : Int) < σ 7 1) ∧ (0 : Int) ≤ 0 ∧ (0 : Int) < 6 then σ 12 (6 * (((x / 9 : Nat) : Int)).toNat + (0 : Int).toNat) else 0)
      refine ⟨v, v1, fun hv => ?_⟩
      obtain ⟨f1, f2, f3, f4, f5, f6, f7, f8, f9, f10⟩ := coin_f h0 (val2 hv)
      rw [if_pos (by omega), Int.toNat_natCast, show 6 * (x / 9) + (0 : Int).toNat = 6 * (x / 9) from rfl, h 12 _ (by decide) (by decide), f3] at v2
      rw [v2 hv (by omega) (by omega), Fx, if_pos hk]
      omega
    · rw [if_neg (by omega)]
      obtain ⟨v, v1, v2⟩ := part 0
      refine ⟨v, v1, fun hv => ?_⟩
      rw [v2 hv (by omega) (by omega), Fx, if_neg hk]
      omega
theorem x_wholeOf {σ0 σ : xSt} (h0 : Inv0 σ0) (h : ∀ a q, 7 ≤ a → a ≤ 15 → σ a q = σ0 a q) {c : Nat} (hc : c < 30) : f_Best_wholeOf (c : Int) σ = some (if valB (clT σ0 0) (clT σ0 1) (clT σ0 2) c = true then (Wh (aN σ0) c : Int) else 0) := by
  by_cases h3 : c < 3
  · have hv : valB (clT σ0 0) (clT σ0 1) (clT σ0 2) c = true := by
      unfold valB
      have : Nat.blt c 3 = true := Nat.ble_eq_true_of_le (by omega)
      rw [this, Bool.true_or]
    unfold f_Best_wholeOf Wh
    rw [if_pos (by omega), if_pos hv, if_pos h3]
    rfl
  · obtain ⟨x, rfl⟩ : ∃ x, c = x + 3 := ⟨c - 3, by omega⟩
    have n3 : ¬ ((x + 3 : Nat) : Int) < 3 := by omega
    have o1 : x < 2147483648 := by omega
    have htl : x / 9 < 3 := by omega
    have e71 : σ 7 1 = σ0 7 1 := h 7 1 (by decide) (by decide)
    have h71 := h0.things.2.2
    have e0 : w32 (((x + 3 : Nat) : Int) - 3) = (x : Int) := (w32_o (by omega) (by omega)).trans (by omega)
    have z1 : xdiv (x : Int) 9 = ((x / 9 : Nat) : Int) := xdiv_n (b := 9) o1
    have hval : valB (clT σ0 0) (clT σ0 1) (clT σ0 2) (x + 3) = clT σ0 (x / 9) := by
      unfold valB
      have hb : Nat.blt (x + 3) 3 = false := by
        cases hz : Nat.blt (x + 3) 3 with
        | false => rfl
        | true => exact absurd (Nat.le_of_ble_eq_true hz) (by omega)
      rw [hb, Bool.false_or, show x + 3 - 3 = x by omega]
      exact cl3_t htl
    unfold f_Best_wholeOf f_Best_secondCoin
    rw [if_neg n3, if_neg n3, e0, z1, xbR_s, x_closed htl h71 h, hval]
    by_cases hcl : clT σ0 (x / 9) = true
    · obtain ⟨f1, f2, f3, f4, f5, -⟩ := coin_f h0 hcl
      rw [if_pos hcl, xbR_s, if_neg (by decide), x_allParts (by omega), if_pos (by omega), xbR_s, Int.toNat_natCast, h 11 _ (by decide) (by decide), f5, if_pos hcl]
      unfold Wh
      rw [if_neg h3, show x + 3 - 3 = x by omega]
    · rw [if_neg hcl, xbR_s, if_pos rfl, if_neg hcl]
theorem x_search7 {σ0 : xSt} (h0 : Inv0 σ0) : ∀ (j fu i : Nat) (σ : xSt), i + j = 30 → j < fu → (∀ a q, 7 ≤ a → a ≤ 15 → σ a q = σ0 a q) → (∀ c : Nat, c < i → (valB (clT σ0 0) (clT σ0 1) (clT σ0 2) c = true → σ 107 c = (Fp (p0N σ0) (p1N σ0) c 0 : Int) ∧ σ 108 c = (Fp (p0N σ0) (p1N σ0) c 1 : Int) ∧ σ 109 c = (Wh (aN σ0) c : Int)) ∧ (valB (clT σ0 0) (clT σ0 1) (clT σ0 2) c ≠ true → σ 109 c = 0)) →
    ∃ σ', f_Best_search_7 fu (i : Int) σ = f_Best_search_59 1000000 0 σ' ∧ XBc σ' (clT σ0 0) (clT σ0 1) (clT σ0 2) (p0N σ0) (p1N σ0) (aN σ0) ∧ ∀ a q, a ≠ 107 → a ≠ 108 → a ≠ 109 → σ' a q = σ a q := by
  intro j
  induction j with
  | zero =>
    intro fu i σ g1 g2 hs hx
    obtain ⟨fu, rfl⟩ : ∃ n, fu = n + 1 := ⟨fu - 1, by omega⟩
    obtain rfl : i = 30 := by omega
    refine ⟨σ, ?_, hx, fun _ _ _ _ _ => rfl⟩
    rw [f_Best_search_7.eq_2, if_neg (by decide)]
  | succ j ih =>
    intro fu i σ g1 g2 hs hx
    obtain ⟨fu, rfl⟩ : ∃ n, fu = n + 1 := ⟨fu - 1, by omega⟩
    have hi : i < 30 := by omega
    have b2 : 0 ≤ (i : Int) ∧ (i : Int) < 30 := by omega
    have b3 : i < 100000 := by omega
    obtain ⟨v, v1, v2⟩ := x_partOf (k := 0) h0 hs hi
    have hs1 : ∀ a q, 7 ≤ a → a ≤ 15 → (upS σ 107 i v) a q = σ0 a q := fun a q z1 z2 => by rw [upS_ne (by omega)]; exact hs a q z1 z2
    obtain ⟨u, u1, u2⟩ := x_partOf (k := 1) h0 hs1 hi
    have hs2 : ∀ a q, 7 ≤ a → a ≤ 15 → (upS (upS σ 107 i v) 108 i u) a q = σ0 a q := fun a q z1 z2 => by rw [upS_ne (by omega)]; exact hs1 a q z1 z2
    have w1 := x_wholeOf h0 hs2 hi
    generalize hw : (if valB (clT σ0 0) (clT σ0 1) (clT σ0 2) i = true then (Wh (aN σ0) i : Int) else 0) = w at w1
    obtain ⟨σ', t1, t2, t3⟩ := ih fu (i + 1) (upS (upS (upS σ 107 i v) 108 i u) 109 i w) (by omega) (by omega) (fun a q z1 z2 => by rw [upS_ne (by omega)]; exact hs2 a q z1 z2) (fun c hc => by
      by_cases hz : c = i
      · subst hz
        rw [upS_ne (by decide), upS_ne (by decide), upS_eq, upS_ne (by decide), upS_eq, upS_eq]
        refine ⟨fun hv => ⟨v2 hv, u2 hv, ?_⟩, fun hv => ?_⟩
        · rw [← hw, if_pos hv]
        · rw [← hw, if_neg hv]
      · rw [upS_ne (by decide), upS_ne (by decide), upS_nk hz, upS_ne (by decide), upS_nk hz, upS_ne (by decide), upS_nk hz, upS_ne (by decide), upS_ne (by decide)]
        exact hx c (by omega))
    refine ⟨σ', ?_, t2, fun a q h1 h2 h3 => by rw [t3 a q h1 h2 h3, upS_ne h3, upS_ne h2, upS_ne h1]⟩
    have v1 : f_Best_partOf (i : Int) 0 σ = some v := v1
    have u1 : f_Best_partOf (i : Int) 1 (upS σ 107 i v) = some u := u1
    rw [f_Best_search_7.eq_2, if_pos b2.2, v1, xbR_s, if_pos b2, Int.toNat_natCast, xlet_s, u1, xbR_s, if_pos b2, xlet_s, w1, xbR_s, if_pos b2, xlet_s, w32_n1 b3, xlet_s, t1]
/-- the model's coins -/
theorem m_layC7 {G : xSt} (h : Inv0 G) (h22 : G 111 22 ≠ 0) {T : Nat} (hT : G 7 1 = (T : Int)) (hT3 : T ≤ 3) : ∀ (j fu t : Nat) (τ : xSt), t + j = T → j < fu → (∀ q, τ 113 q = G 113 q) → τ 111 57 = (ncB (clT G 0) (clT G 1) (clT G 2) t : Int) → (∀ x : Nat, x < t → cl3 G x = true → τ 132 (ncB (clT G 0) (clT G 1) (clT G 2) x) = (x : Int)) →
    ∃ τ', f_M_layCoins_7 fu (t : Int) τ = some τ' ∧ τ' 111 57 = (ncB (clT G 0) (clT G 1) (clT G 2) T : Int) ∧ (∀ x : Nat, x < T → cl3 G x = true → τ' 132 (ncB (clT G 0) (clT G 1) (clT G 2) x) = (x : Int)) ∧ ∀ a q, a ≠ 132 → (a = 111 → q ≠ 57) → τ' a q = τ a q := by
  have things : ∀ τ : xSt, f_M_things τ = some (τ 113 0) := fun τ => rfl
  have ncs : ∀ t, ncB (clT G 0) (clT G 1) (clT G 2) (t + 1) = ncB (clT G 0) (clT G 1) (clT G 2) t + (if cl3 G t = true then 1 else 0) := fun _ => rfl
  have ncl : ∀ t, ncB (clT G 0) (clT G 1) (clT G 2) t ≤ t := by
    intro t
    induction t with
    | zero => exact Nat.le_refl _
    | succ t ih =>
      rw [ncs]
      split <;> omega
  have ncm : ∀ x y, x ≤ y → ncB (clT G 0) (clT G 1) (clT G 2) x ≤ ncB (clT G 0) (clT G 1) (clT G 2) y := by
    intro x y hxy
    induction y with
    | zero => rw [show x = 0 by omega]; exact Nat.le_refl _
    | succ y ih =>
      by_cases hz : x = y + 1
      · rw [hz]; exact Nat.le_refl _
      · have := ih (by omega)
        rw [ncs]
        omega
  have h2 : G 113 2 = G 7 3 := by
    have h1 := h.op
    unfold opM at h1
    rw [if_neg h22] at h1
    exact h1.symm
  have h40 : 0 ≤ G 113 40 ∧ G 113 40 < 8 := ⟨h.2.1.1.2.2.2.2.2.2.2.2.2.2.1, h.2.1.1.2.2.2.2.2.2.2.2.2.2.2.1⟩
  have h00 : G 113 0 = (T : Int) := by rw [← h.things.1, hT]
  intro j
  induction j with
  | zero =>
    intro fu t τ g1 g2 hs h57 h132
    obtain ⟨fu, rfl⟩ : ∃ n, fu = n + 1 := ⟨fu - 1, by omega⟩
    obtain rfl : t = T := by omega
    refine ⟨τ, ?_, h57, h132, fun _ _ _ _ => rfl⟩
    rw [f_M_layCoins_7.eq_2, things, hs, h00, xbR_s, if_neg (Int.lt_irrefl _)]
  | succ j ih =>
    intro fu t τ g1 g2 hs h57 h132
    obtain ⟨fu, rfl⟩ : ∃ n, fu = n + 1 := ⟨fu - 1, by omega⟩
    have ht : t < T := by omega
    have ht3 : t < 3 := by omega
    have hti : (t : Int) < (T : Int) := by omega
    have n1 : t < 100000 := by omega
    have cs := ncs t
    have ct := cl3_t (σ := G) ht3
    have nl := ncl t
    have q := h.th (p := (t : Int)) (by omega) (by omega)
    rw [Int.toNat_natCast] at q
    obtain ⟨-, -, -, -, -, -, -, q8, q9, -⟩ := q
    have skip : clT G t ≠ true → f_M_layCoins_7 (fu + 1) (t : Int) τ = f_M_layCoins_7 fu ((t + 1 : Nat) : Int) τ → ∃ τ', f_M_layCoins_7 (fu + 1) (t : Int) τ = some τ' ∧ τ' 111 57 = (ncB (clT G 0) (clT G 1) (clT G 2) T : Int) ∧ (∀ x : Nat, x < T → cl3 G x = true → τ' 132 (ncB (clT G 0) (clT G 1) (clT G 2) x) = (x : Int)) ∧ ∀ a q, a ≠ 132 → (a = 111 → q ≠ 57) → τ' a q = τ a q := by
      intro hn he
      rw [ct, if_neg hn, Nat.add_zero] at cs
      rw [he]
      exact ih fu (t + 1) τ (by omega) (by omega) hs (by rw [cs]; exact h57) (fun x hx hc => by
        by_cases hz : x = t
        · rw [hz, ct] at hc
          exact absurd hc hn
        · exact h132 x (by omega) hc)
    by_cases ho : (t : Int) = G 7 3
    · refine skip (fun z => (of_decide_eq_true z).2.2 ho) ?_
      rw [f_M_layCoins_7.eq_2, things, hs, h00, xbR_s, if_pos hti, hs, h2, if_pos ho, w32_n1 n1, xlet_s]
    · obtain ⟨v, hv⟩ : ∃ v : Nat, G 113 40 = (v : Int) := ⟨(G 113 40).toNat, by omega⟩
      have v8 : v < 8 := by omega
      have xb := xb_n v8 ht3
      have e9 : G 9 t = ((v / 2 ^ t % 2 : Nat) : Int) := by
        rw [q9, hv]
        norm_cast
      by_cases hc : G 9 t = 0
      · refine skip (fun z => (of_decide_eq_true z).2.1 hc) ?_
        have hh : f_M_isCoin (t : Int) τ = some 0 := by
          unfold f_M_isCoin f_M_has
          rw [hs, hv, xb, ← e9, hc, if_neg (by decide), xbR_s]
          rfl
        rw [f_M_layCoins_7.eq_2, things, hs, h00, xbR_s, if_pos hti, hs, h2, if_neg ho, hh, xbR_s, if_pos rfl, w32_n1 n1, xlet_s]
      · have h91 : G 9 t = 1 := by
          rcases q8 with z | ⟨z, -⟩
          · exact absurd z hc
          · exact z
        have hcl : clT G t = true := decide_eq_true ⟨by rw [hT]; exact hti, hc, ho⟩
        have hh : f_M_isCoin (t : Int) τ = some 1 := by
          unfold f_M_isCoin f_M_has
          rw [hs, hv, xb, ← e9, h91, if_pos rfl, xbR_s]
          rfl
        rw [ct, if_pos hcl] at cs
        have b3 : 0 ≤ (ncB (clT G 0) (clT G 1) (clT G 2) t : Int) ∧ (ncB (clT G 0) (clT G 1) (clT G 2) t : Int) < 3 := by omega
        have n2 : ncB (clT G 0) (clT G 1) (clT G 2) t < 100000 := by omega
        obtain ⟨τ', t1, t2, t3, t4⟩ := ih fu (t + 1) (upS (upS τ 132 (ncB (clT G 0) (clT G 1) (clT G 2) t) (t : Int)) 111 57 ((ncB (clT G 0) (clT G 1) (clT G 2) t + 1 : Nat) : Int)) (by omega) (by omega) (fun q => by rw [upS_ne (by decide), upS_ne (by decide), hs]) (by rw [upS_eq, cs]) (fun x hx hc2 => by
          rw [upS_ne (by decide)]
          by_cases hz : x = t
          · rw [hz, upS_eq]
          · have hx2 : x < t := by omega
            have l1 : ncB (clT G 0) (clT G 1) (clT G 2) (x + 1) ≤ ncB (clT G 0) (clT G 1) (clT G 2) t := ncm (x + 1) t (by omega)
            have l2 := ncs x
            rw [if_pos hc2] at l2
            rw [upS_nk (by omega)]
            exact h132 x hx2 hc2)
        refine ⟨τ', ?_, t2, t3, fun a q ha hb => by rw [t4 a q ha hb, upS_rd, if_neg (fun z => hb z.1 z.2), upS_ne ha]⟩
        rw [f_M_layCoins_7.eq_2, things, hs, h00, xbR_s, if_pos hti, hs, h2, if_neg ho, hh, xbR_s, if_neg (by decide), h57, if_pos b3, Int.toNat_natCast, xlet_s, upS_ne (by decide), h57, w32_n1 n2, xlet_s, w32_n1 n1, xlet_s, t1]
/-- all parts of the coins, multiplied -/
def aPr (b0 b1 b2 : Bool) (A : Nat → Nat) : Nat → Nat
  | 0 => 1
  | t + 1 => if clB b0 b1 b2 t = true then aPr b0 b1 b2 A t * A t else aPr b0 b1 b2 A t
theorem aPr_f {b0 b1 b2 : Bool} {A : Nat → Nat} (hA : ∀ t, t < 3 → clB b0 b1 b2 t = true → 1 ≤ A t ∧ A t ≤ 9) : ∀ t, t ≤ 3 → 0 < aPr b0 b1 b2 A t ∧ aPr b0 b1 b2 A t ≤ 9 ^ t ∧ ∀ x, x < t → clB b0 b1 b2 x = true → A x ∣ aPr b0 b1 b2 A t := by
  intro t
  induction t with
  | zero => exact fun _ => ⟨Nat.one_pos, Nat.le_refl _, fun x hx => absurd hx (Nat.not_lt_zero _)⟩
  | succ t ih =>
    intro ht
    obtain ⟨i1, i2, i3⟩ := ih (by omega)
    have h9 : 9 ^ (t + 1) = 9 ^ t * 9 := Nat.pow_succ _ _
    show 0 < (if clB b0 b1 b2 t = true then aPr b0 b1 b2 A t * A t else aPr b0 b1 b2 A t) ∧ (if clB b0 b1 b2 t = true then aPr b0 b1 b2 A t * A t else aPr b0 b1 b2 A t) ≤ _ ∧ ∀ x, x < t + 1 → clB b0 b1 b2 x = true → A x ∣ (if clB b0 b1 b2 t = true then aPr b0 b1 b2 A t * A t else aPr b0 b1 b2 A t)
    by_cases hc : clB b0 b1 b2 t = true
    · obtain ⟨a1, a2⟩ := hA t (by omega) hc
      rw [if_pos hc, h9]
      refine ⟨Nat.mul_pos i1 a1, Nat.mul_le_mul i2 a2, fun x hx hcx => ?_⟩
      by_cases hz : x = t
      · rw [hz]
        exact Nat.dvd_mul_left _ _
      · exact Nat.dvd_trans (i3 x (by omega) hcx) (Nat.dvd_mul_right _ _)
    · rw [if_neg hc, h9]
      refine ⟨i1, by omega, fun x hx hcx => ?_⟩
      by_cases hz : x = t
      · rw [hz] at hcx
        exact absurd hcx hc
      · exact i3 x (by omega) hcx
theorem m_best27 {b0 b1 b2 : Bool} {p0 p1 A : Nat → Nat} {τ : xSt} (hC : CoM τ b0 b1 b2 p0 p1 A) : ∀ (j t F : Nat), t + j = 3 → f_M_best_27 (F + 1 + (ncB b0 b1 b2 3 - ncB b0 b1 b2 t)) (aPr b0 b1 b2 A t : Int) (ncB b0 b1 b2 t : Int) τ = f_M_best_69 1000000 (aPr b0 b1 b2 A 3 : Int) (-1) 0 1 0 τ := by
  have ncs : ∀ t, ncB b0 b1 b2 (t + 1) = ncB b0 b1 b2 t + (if clB b0 b1 b2 t = true then 1 else 0) := fun _ => rfl
  have nc3 : ncB b0 b1 b2 3 ≤ 3 := (rkc_nums b0 b1 b2).2.1
  have ncm : ∀ x y, x ≤ y → ncB b0 b1 b2 x ≤ ncB b0 b1 b2 y := by
    intro x y hxy
    induction y with
    | zero => rw [show x = 0 by omega]; exact Nat.le_refl _
    | succ y ih =>
      by_cases hz : x = y + 1
      · rw [hz]; exact Nat.le_refl _
      · have := ih (by omega)
        rw [ncs]
        omega
  have fa := aPr_f (b0 := b0) (b1 := b1) (b2 := b2) (A := A) (fun t ht hc => ⟨(hC.2 t ht hc).2.2.2.2.2.2.1, (hC.2 t ht hc).2.2.2.2.2.2.2.1⟩)
  intro j
  induction j with
  | zero =>
    intro t F g1
    obtain rfl : t = 3 := by omega
    rw [Nat.sub_self, Nat.add_zero, f_M_best_27.eq_2, hC.1, if_neg (Int.lt_irrefl _)]
  | succ j ih =>
    intro t F g1
    have ht3 : t < 3 := by omega
    have ih2 := ih (t + 1) F (by omega)
    have cs := ncs t
    have ea : aPr b0 b1 b2 A (t + 1) = if clB b0 b1 b2 t = true then aPr b0 b1 b2 A t * A t else aPr b0 b1 b2 A t := rfl
    by_cases hc : clB b0 b1 b2 t = true
    · rw [if_pos hc] at cs ea
      obtain ⟨d1, d2, d3, d4, d5, d6, d7, d8, d9⟩ := hC.2 t ht3 hc
      have l1 := ncm (t + 1) 3 (by omega)
      have hlt : (ncB b0 b1 b2 t : Int) < (ncB b0 b1 b2 3 : Int) := by omega
      have b3 : 0 ≤ (ncB b0 b1 b2 t : Int) ∧ (ncB b0 b1 b2 t : Int) < 3 := by omega
      have n2 : ncB b0 b1 b2 t < 100000 := by omega
      have t0 : 0 ≤ (t : Int) := by omega
      have t3 : (t : Int) < 3 := by omega
      obtain ⟨f1, f2, -⟩ := fa t (by omega)
      have hp : 9 ^ t ≤ 9 ^ 3 := Nat.pow_le_pow_right (by decide) (by omega)
      have h93 : (9 : Nat) ^ 3 = 729 := by decide
      have hm : aPr b0 b1 b2 A t * A t ≤ 729 * 9 := Nat.mul_le_mul (by omega) d8
      have hm2 : aPr b0 b1 b2 A t * A t < 9223372036854775808 := by omega
      have po : f_M_partsOf (t : Int) τ = some (A t : Int) := by rw [m_partsOf t0 t3, Int.toNat_natCast, d4]
      have fe : F + 1 + (ncB b0 b1 b2 3 - ncB b0 b1 b2 t) = F + 1 + (ncB b0 b1 b2 3 - ncB b0 b1 b2 (t + 1)) + 1 := by omega
      rw [fe, f_M_best_27.eq_2, hC.1, if_pos hlt, if_pos b3, Int.toNat_natCast, d1, po, xbR_s, w64_mul hm2, xlet_s, w32_n1 n2, xlet_s, ← cs, ← ea]
      exact ih2
    · rw [if_neg hc] at cs ea
      rw [Nat.add_zero] at cs
      rw [cs, ea] at ih2
      exact ih2
