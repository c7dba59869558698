/-! counted: the place, the call -/
theorem ch_sm : (List.range 17).all (fun n => (List.range (n + 1)).all (fun k => Nat.ble (chN n k) 100000)) = true := by decide +kernel
theorem ch_small {n k : Nat} (hn : n ≤ 16) : chN n k ≤ 100000 := by
  by_cases hk : k ≤ n
  · exact Nat.le_of_ble_eq_true (List.all_eq_true.mp (List.all_eq_true.mp ch_sm n (List.mem_range.mpr (by omega))) k (List.mem_range.mpr (by omega)))
  · rw [chN_gt (by omega) (by omega)]
    omega
theorem ch_up {n k : Nat} (hn : n + 1 ≤ 16) (hk : k ≤ n + 1) : chN n k ≤ chN (n + 1) k := by
  cases k with
  | zero => rw [ch_0 (by omega), ch_0 (by omega)]; exact Nat.le_refl _
  | succ k =>
    rw [ch_pascal (by omega) (by omega)]
    omega
theorem psum_d {g : Nat → Int} {L : Nat} (hg : ∀ k : Nat, k < L → g k = 0 ∨ g k = 1) : ∀ j i, i + j = L → 0 ≤ psum g L - psum g i ∧ psum g L - psum g i ≤ (j : Int) := by
  intro j
  induction j with
  | zero =>
    intro i h
    obtain rfl : i = L := by omega
    omega
  | succ j ih =>
    intro i h
    have h1 := ih (i + 1) (by omega)
    have h2 : psum g (i + 1) = psum g i + g i := rfl
    have h3 := hg i (by omega)
    omega
theorem place_lock {g : Nat → Int} {L H : Nat} (hL : L ≤ 16) (hg : ∀ k : Nat, k < L → g k = 0 ∨ g k = 1) {σx σm : xSt} (hx : ∀ k : Nat, k < L → σx 98 k = g k) (hm : ∀ k : Nat, k < L → σm 125 k = g k) : ∀ (j n m i acc r : Nat), i + j = L → j < n → j < m → (r : Int) = psum g L - psum g i → acc + chN j r ≤ 100000 →
    ∃ P : Nat, P + 1 ≤ acc + chN j r ∧ f_Bits_placeOf_8 n (L : Int) (acc : Int) (r : Int) (i : Int) σx = some (P : Int) ∧
      f_M_counted_52 m (L : Int) (H : Int) (acc : Int) (r : Int) (i : Int) σm = (xbR (f_M_choose (L : Int) (H : Int) σm) fun r11 => f_M_counted_105 1000000 (P : Int) r11 20 σm) := by
  intro j
  induction j with
  | zero =>
    intro n m i acc r h1 h2 h3 h4 h5
    obtain ⟨n, rfl⟩ : ∃ n2, n = n2 + 1 := ⟨n - 1, by omega⟩
    obtain ⟨m, rfl⟩ : ∃ n2, m = n2 + 1 := ⟨m - 1, by omega⟩
    obtain rfl : i = L := by omega
    have hr : r = 0 := by omega
    rw [hr, ch_00]
    refine ⟨acc, Nat.le_refl _, ?_, ?_⟩
    · rw [f_Bits_placeOf_8.eq_2, if_neg (by omega)]
    · rw [f_M_counted_52.eq_2, if_neg (by omega)]
  | succ j ih =>
    intro n m i acc r h1 h2 h3 h4 h5
    obtain ⟨n, rfl⟩ : ∃ n2, n = n2 + 1 := ⟨n - 1, by omega⟩
    obtain ⟨m, rfl⟩ : ∃ n2, m = n2 + 1 := ⟨m - 1, by omega⟩
    have hd := psum_d hg (j + 1) i h1
    have hd2 := psum_d hg j (i + 1) (by omega)
    have hs : psum g (i + 1) = psum g i + g i := rfl
    have hgi := hg i (by omega)
    have b1 : i < L := by omega
    have b2 : i < 100000 := by omega
    have b3 : i < 600 := by omega
    have b26 : 0 ≤ (i : Int) ∧ (i : Int) < 2600 := by omega
    have hup := ch_up (n := j) (k := r) (by omega) (by omega)
    rw [f_Bits_placeOf_8.eq_2, if_pos (Int.ofNat_lt.mpr b1), x_throw lay98 b3, xbR_s, hx i b1, f_M_counted_52.eq_2, if_pos (Int.ofNat_lt.mpr b1), if_pos b26, Int.toNat_natCast, hm i b1, w32_n1 b2, xlet_s, xlet_s]
    rcases hgi with hgi | hgi
    · rw [if_neg (by omega), if_pos hgi]
      obtain ⟨P, p1, p2, p3⟩ := ih n m (i + 1) acc r (by omega) (by omega) (by omega) (by omega) (by omega)
      exact ⟨P, by omega, p2, p3⟩
    · obtain ⟨r, rfl⟩ : ∃ n2, r = n2 + 1 := ⟨r - 1, by omega⟩
      have hp := ch_pascal (n := j) (k := r) (by omega) (by omega)
      have e1 : w32 (w32 ((L : Int) - (i : Int)) - 1) = (j : Int) := by
        rw [w32_o (x := (L : Int) - (i : Int)) (by omega) (by omega), w32_o (by omega) (by omega)]
        omega
      have e2 : w32 (((r + 1 : Nat) : Int) + -1) = (r : Int) := (w32_o (by omega) (by omega)).trans (by omega)
      obtain ⟨P, p1, p2, p3⟩ := ih n m (i + 1) (acc + chN j (r + 1)) r (by omega) (by omega) (by omega) (by omega) (by omega)
      have b9 : acc + chN j (r + 1) < 9223372036854775808 := by omega
      refine ⟨P, by omega, ?_, ?_⟩
      · rw [if_pos hgi, e1, x_choices (by omega), xbR_s, w64_add b9, xlet_s, e2, xlet_s]
        exact p2
      · rw [if_neg (by omega), e1, m_choose (by omega), xbR_s, w64_add b9, xlet_s, e2, xlet_s]
        exact p3
theorem x_cnt10 {L : Nat} {σ : xSt} (hL : L ≤ 16) (hg : ∀ k : Nat, k < L → σ 98 k = 0 ∨ σ 98 k = 1) : ∀ (j n i : Nat), i + j = L → j < n → f_Bits_byCounting_10 n (L : Int) (psum (σ 98) i) (i : Int) σ = xbR (f_Bits_placeOf (L : Int) (psum (σ 98) L) σ) fun r5 => xbR (f_Fraction_choices (L : Int) (psum (σ 98) L) σ) fun r6 => f_Bits_byCounting_50 1000000 r5 r6 16 σ := by
  intro j
  induction j with
  | zero =>
    intro n i h1 h2
    obtain ⟨n, rfl⟩ : ∃ n2, n = n2 + 1 := ⟨n - 1, by omega⟩
    obtain rfl : i = L := by omega
    rw [f_Bits_byCounting_10.eq_2, if_neg (by omega)]
  | succ j ih =>
    intro n i h1 h2
    obtain ⟨n, rfl⟩ : ∃ n2, n = n2 + 1 := ⟨n - 1, by omega⟩
    have b1 := psum_b hg i (by omega)
    have b2 : i < L := by omega
    have b3 : i < 600 := by omega
    have b4 : i < 100000 := by omega
    have b5 := hg i b2
    have hs : psum (σ 98) (i + 1) = psum (σ 98) i + σ 98 i := rfl
    rw [f_Bits_byCounting_10.eq_2, if_pos (Int.ofNat_lt.mpr b2), x_throw lay98 b3, xbR_s, w32_o (by omega) (by omega), xlet_s, w32_n1 b4, xlet_s, ← hs]
    exact ih n (i + 1) (by omega) (by omega)
theorem m_cnt24 {L : Nat} {σ : xSt} {g : Nat → Int} (hL : L ≤ 16) (hg : ∀ k : Nat, k < L → g k = 0 ∨ g k = 1) (hm : ∀ k : Nat, k < L → σ 125 k = g k) : ∀ (j n i : Nat), i + j = L → j < n → f_M_counted_24 n (L : Int) (psum g i) (i : Int) σ = f_M_counted_52 1000000 (L : Int) (psum g L) 0 (psum g L) 0 σ := by
  intro j
  induction j with
  | zero =>
    intro n i h1 h2
    obtain ⟨n, rfl⟩ : ∃ n2, n = n2 + 1 := ⟨n - 1, by omega⟩
    obtain rfl : i = L := by omega
    rw [f_M_counted_24.eq_2, if_neg (by omega)]
  | succ j ih =>
    intro n i h1 h2
    obtain ⟨n, rfl⟩ : ∃ n2, n = n2 + 1 := ⟨n - 1, by omega⟩
    have b1 := psum_b hg i (by omega)
    have b2 : i < L := by omega
    have b4 : i < 100000 := by omega
    have b5 := hg i b2
    have hs : psum g (i + 1) = psum g i + g i := rfl
    rw [f_M_counted_24.eq_2, if_pos (Int.ofNat_lt.mpr b2), if_pos (by omega), Int.toNat_natCast, hm i b2, w32_o (by omega) (by omega), xlet_s, w32_n1 b4, xlet_s, ← hs]
    exact ih n (i + 1) (by omega) (by omega)
theorem cnL_up {c p k : Nat} (h : c < 2 ^ k) : cnL c p (k + 1) = cnL c p k := by
  have ec : cnL c p (k + 1) = if c / 2 ^ k % 2 = 0 then cnL c p k else if p < 2 ^ k then loL p k else cnL c (p - 2 ^ k) k := Eq.trans rfl rfl
  rw [ec, if_pos (by rw [Nat.div_eq_of_lt h])]
theorem sim_counted {n : Nat} : SimW (InvN (n + 1)) (InvN n) f_X_counted f_M_counted := by
  refine bits_row (lo := 1) (hi := 16) (gx := fun v s => xbW (f_Bits_byCounting v s) fun r3 σ4 => some (r3, σ4)) (gm := fun v s => f_M_counted_24 1000000 v 0 0 s) (by decide) (by decide) (fun _ => rfl) (fun _ => rfl) (fun h => fr_X_counted h) (fun h => fr_M_counted h) rfl rfl rfl rfl rfl ?_
  intro L σx h0 h1 hb
  have hL : L ≤ 16 := by omega
  have bp := psum_b hb L (Nat.le_refl _)
  obtain ⟨H, eH⟩ : ∃ q : Nat, psum (σx 98) L = (q : Int) := ⟨(psum (σx 98) L).toNat, by omega⟩
  have hH : H ≤ L := by omega
  have hc := ch_small (n := L) (k := H) hL
  have hp0 : psum (σx 98) 0 = 0 := Eq.trans rfl rfl
  have p17 : (2 : Nat) ^ 17 = 131072 := by decide
  have key : ∀ σm : xSt, (∀ k : Nat, k < L → σm 125 k = σx 98 k) → ∃ P : Nat, P + 1 ≤ 0 + chN L H ∧ f_Bits_placeOf_8 1000000 (L : Int) 0 (H : Int) 0 (upS σx 99 1 0) = some (P : Int) ∧
      f_M_counted_52 1000000 (L : Int) (H : Int) 0 (H : Int) 0 σm = (xbR (f_M_choose (L : Int) (H : Int) σm) fun r11 => f_M_counted_105 1000000 (P : Int) r11 20 σm) := fun σm hm =>
    place_lock (g := σx 98) (L := L) (H := H) hL hb (σx := upS σx 99 1 0) (fun k _ => rfl) hm L 1000000 1000000 0 0 H (by omega) (by omega) (by omega) (by rw [eH, hp0]; omega) (by omega)
  obtain ⟨P, p1, p2, -⟩ := key (fun a k => if a = 125 then σx 98 k else 0) (fun k _ => rfl)
  obtain ⟨σ1, g1, g2, g3⟩ := x_cnt50 (c := chN L H) (by omega) 17 1000000 P [] (upS σx 99 1 0) (by decide) (by decide) (by omega) ⟨rfl, fun i hi => absurd hi (Nat.not_lt_zero _)⟩ (by decide)
  rw [List.nil_append] at g1 g2
  have hlen := cnL_len (c := chN L H) 17 P
  have e16 : ((17 : Nat) : Int) - 1 = 16 := by decide
  have e20 : ((21 : Nat) : Int) - 1 = 20 := by decide
  have e1 : f_Bits_byCounting (L : Int) σx = some (((cnL (chN L H) P 17).length : Int), σ1) := by
    unfold f_Bits_byCounting
    have k1 := x_cnt10 (L := L) (σ := upS σx 99 1 0) hL hb L 1000000 0 (by omega) (by omega)
    have k2 : upS σx 99 1 0 98 = σx 98 := rfl
    rw [k2, hp0, c0n, eH] at k1
    rw [xlet_s, k1]
    unfold f_Bits_placeOf
    rw [p2, xbR_s, x_choices (by omega), xbR_s, ← e16]
    exact g1
  refine ⟨σ1, cnL (chN L H) P 17, ?_, g2, by omega, g3 0 1 (by decide) (by decide), fun σm hm h44 => ?_⟩
  · rw [e1, xbW_s]
  · obtain ⟨P2, q1, q2, q3⟩ := key σm hm
    have hPP : P2 = P := by
      rw [p2] at q2
      have := Option.some.inj q2
      omega
    subst hPP
    have hmod : chN L H % 2 ^ 21 = chN L H := Nat.mod_eq_of_lt (by
      have : (2 : Nat) ^ 21 = 2097152 := by decide
      omega)
    obtain ⟨σ2, c1, c2, c3⟩ := m_cnt105 (c := chN L H) (by omega) 21 1000000 P2 σm (by decide) (by decide) (by rw [hmod]; omega) ⟨h44, fun i hi => absurd hi (Nat.not_lt_zero _)⟩
    rw [e20] at c1
    have u20 : cnL (chN L H) P2 21 = cnL (chN L H) P2 17 := by
      rw [cnL_up (k := 20) (by have : (2 : Nat) ^ 20 = 1048576 := by decide
                               omega), cnL_up (k := 19) (by have : (2 : Nat) ^ 19 = 524288 := by decide
                                                            omega), cnL_up (k := 18) (by have : (2 : Nat) ^ 18 = 262144 := by decide
                                                                                         omega), cnL_up (k := 17) (by omega)]
    rw [u20] at c2
    refine ⟨σ2, ?_, c2, c3 111 2 (by decide) (fun _ => by decide)⟩
    have k1 := m_cnt24 (L := L) (σ := σm) (g := σx 98) hL hb hm L 1000000 0 (by omega) (by omega)
    rw [hp0, c0n, eH] at k1
    rw [k1, q3, m_choose (by omega), xbR_s, c1]
