/-! pasts -/
def bhL (g : Nat → Int) (b : Int) : Nat → List Int
  | 0 => []
  | i + 1 => bhL g b i ++ (if g i = b then [g (i + 1)] else [])
def gD (l : List Int) : Nat → Int := fun q => l.getD q 0
theorem bhL_s {g : Nat → Int} {b : Int} {i : Nat} : bhL g b (i + 1) = bhL g b i ++ (if g i = b then [g (i + 1)] else []) := Eq.trans rfl rfl
theorem bhL_b {g : Nat → Int} {b : Int} {T : Nat} (hg : ∀ k : Nat, k ≤ T → g k = 0 ∨ g k = 1) : ∀ i, i ≤ T → (bhL g b i).length ≤ i ∧ ∀ q : Nat, q < (bhL g b i).length → gD (bhL g b i) q = 0 ∨ gD (bhL g b i) q = 1 := by
  intro i
  induction i with
  | zero => exact fun _ => ⟨Nat.le_refl _, fun q hq => absurd hq (Nat.not_lt_zero _)⟩
  | succ i ih =>
    intro hi
    obtain ⟨h1, h2⟩ := ih (by omega)
    rw [bhL_s]
    by_cases hc : g i = b
    · rw [if_pos hc, len_1]
      refine ⟨by omega, fun q hq => ?_⟩
      unfold gD
      by_cases he : q = (bhL g b i).length
      · rw [he, gd_r]
        exact hg (i + 1) (by omega)
      · rw [gd_l (by omega)]
        exact h2 q (by omega)
    · rw [if_neg hc, List.append_nil]
      exact ⟨by omega, h2⟩
theorem prL_sh {g : Nat → Int} {o : Nat} : ∀ (k p : Nat), prL g (o + p) k = prL (fun q => g (o + q)) p k := by
  intro k
  induction k with
  | zero => exact fun _ => rfl
  | succ k ih =>
    intro p
    have e1 : prL g (o + p) (k + 1) = (if g (o + p) = g (o + p + 1) then [] else [g (o + p)]) ++ prL g (o + p + 2) k := Eq.trans rfl rfl
    have e2 : prL (fun q => g (o + q)) p (k + 1) = (if g (o + p) = g (o + (p + 1)) then [] else [g (o + p)]) ++ prL (fun q => g (o + q)) (p + 2) k := Eq.trans rfl rfl
    have h3 := ih (p + 2)
    rw [e1, e2, ← h3]
    rfl
/-- the pairs among the throws behind b -/
def ptL (g : Nat → Int) (b : Int) (T : Nat) : List Int := prL (gD (bhL g b T)) 0 (((bhL g b T).length - 1) / 2)
theorem x_note {p : Nat} {b : Int} {σ : xSt} (hp : p < 1200) (hb : b = 0 ∨ b = 1) : f_Bits_note (p : Int) b σ = some (upS σ 101 p b) := by
  have eb : w8 (w8 b) = b := by
    rcases hb with hb | hb
    · rw [hb]; decide
    · rw [hb]; decide
  unfold f_Bits_note
  rw [x_isWithin, if_pos (by omega), xbR_s, if_neg (by decide), if_pos (by omega), eb, Int.toNat_natCast, xlet_s]
theorem x_pairsN {A : Nat} {σ : xSt} : f_Bits_addPairs A 0 (-1) σ = some σ := by
  unfold f_Bits_addPairs
  rw [show (1000000 : Nat) = 999999 + 1 from rfl, f_Bits_addPairs_3.eq_2, if_neg (by decide)]
theorem m_pairsN {o : Int} {σ : xSt} : f_M_pairsOf o (-1) σ = some σ := by
  unfold f_M_pairsOf
  rw [show (1000000 : Nat) = 999999 + 1 from rfl, f_M_pairsOf_2.eq_2, if_neg (by decide)]
theorem x_behind6 {g : Nat → Int} {b : Int} {L T : Nat} (hT : T = L - 1) (hL : L ≤ 600) (hg : ∀ k : Nat, k < L → g k = 0 ∨ g k = 1) {l : List Int} (hl : l.length + T / 2 ≤ 600) : ∀ (j n i : Nat) (σ : xSt), i + j = T → j < n → (∀ k : Nat, k < L → σ 98 k = g k) → XB σ l → (∀ q : Nat, q < (bhL g b i).length → σ 101 q = gD (bhL g b i) q) →
    ∃ σ', f_Bits_addPairsBehind_6 n (L : Int) b ((bhL g b i).length : Int) (i : Int) σ = some σ' ∧ XB σ' (l ++ ptL g b T) ∧ ∀ a q, a ≠ 99 → a ≠ 100 → a ≠ 101 → σ' a q = σ a q := by
  intro j
  induction j with
  | zero =>
    intro n i σ h1 h2 h3 h4 h5
    obtain ⟨n, rfl⟩ : ∃ n2, n = n2 + 1 := ⟨n - 1, by omega⟩
    obtain rfl : i = T := by omega
    rw [f_Bits_addPairsBehind_6.eq_2, w32_n1 (by omega), if_neg (by omega)]
    unfold ptL
    by_cases hL0 : L = 0
    · subst hL0
      subst hT
      have e : (bhL g b (0 - 1)).length = 0 := Eq.trans rfl rfl
      rw [e, c0n, show w32 (0 - 1) = -1 by decide, x_pairsN, xbR_s]
      refine ⟨σ, rfl, ?_, fun _ _ _ _ _ => rfl⟩
      show XB σ (l ++ [])
      rw [List.append_nil]
      exact h4
    · have hb := bhL_b (g := g) (b := b) (T := i) (fun k hk => hg k (by omega)) i (Nat.le_refl _)
      generalize hw : bhL g b i = w at h5 hb ⊢
      obtain ⟨hb1, hb2⟩ := hb
      by_cases hz : w.length = 0
      · rw [hz, c0n, show w32 (0 - 1) = -1 by decide, x_pairsN, xbR_s]
        refine ⟨σ, rfl, ?_, fun _ _ _ _ _ => rfl⟩
        show XB σ (l ++ [])
        rw [List.append_nil]
        exact h4
      · have e : w32 ((w.length : Int) - 1) = ((w.length - 1 : Nat) : Int) := (w32_o (by omega) (by omega)).trans (by omega)
        obtain ⟨σ', g1, g2, g3⟩ := x_addPairs (A := 101) (c := 1200) lay101 (by decide) (by decide) (o := 0) (size := w.length - 1) (by omega) (by omega) h4 (by omega) (fun j _ hj => by rw [h5 j (by omega)]; exact hb2 j (by omega))
        rw [c0n] at g1
        rw [e, g1, xbR_s]
        refine ⟨σ', rfl, ?_, fun a q a1 a2 _ => g3 a q a1 a2⟩
        rw [prL_cg (g' := gD w) _ 0 (fun j _ hj => h5 j (by omega))] at g2
        exact g2
  | succ j ih =>
    intro n i σ h1 h2 h3 h4 h5
    obtain ⟨n, rfl⟩ : ∃ n2, n = n2 + 1 := ⟨n - 1, by omega⟩
    have hb := bhL_b (g := g) (b := b) (T := T) (fun k hk => hg k (by omega)) i (by omega)
    have b1 : i + 1 < L := by omega
    have b2 : i < 100000 := by omega
    have b3 : (bhL g b i).length < 1200 := by omega
    have b4 : (bhL g b i).length < 100000 := by omega
    rw [f_Bits_addPairsBehind_6.eq_2, w32_n1 b2, if_pos (Int.ofNat_lt.mpr b1), x_throw lay98 (by omega), xbR_s, h3 i (by omega)]
    by_cases hc : g i = b
    · have hbit := hg (i + 1) b1
      rw [if_pos hc, x_throw lay98 (by omega), xbR_s, h3 (i + 1) b1, x_note b3 hbit, xbR_s, w32_n1 b4, xlet_s, xlet_s]
      have el : (bhL g b (i + 1)).length = (bhL g b i).length + 1 := by rw [bhL_s, if_pos hc, len_1]
      obtain ⟨σ', k1, k2, k3⟩ := ih n (i + 1) (upS σ 101 (bhL g b i).length (g (i + 1))) (by omega) (by omega) (fun k hk => by rw [upS_rd, if_neg (by omega)]; exact h3 k hk) ⟨h4.1, fun q hq => h4.2 q hq⟩ (fun q hq => by
        rw [el] at hq
        rw [upS_rd, bhL_s, if_pos hc]
        unfold gD
        by_cases he : q = (bhL g b i).length
        · rw [if_pos ⟨rfl, he⟩, he, gd_r]
        · rw [if_neg (fun z => he z.2), gd_l (by omega)]
          exact h5 q (by omega))
      rw [el] at k1
      exact ⟨σ', k1, k2, fun a q a1 a2 a3 => by rw [k3 a q a1 a2 a3, upS_rd, if_neg (fun z => a3 z.1)]⟩
    · rw [if_neg hc, xlet_s]
      have el : bhL g b (i + 1) = bhL g b i := by rw [bhL_s, if_neg hc, List.append_nil]
      have k := ih n (i + 1) σ (by omega) (by omega) h3 h4 (by rw [el]; exact h5)
      rw [el] at k
      exact k
theorem m_behind {kk : Int → Int → xSt → Option (Int × xSt)} {g : Nat → Int} {b : Int} {L T : Nat} (hT : T = L - 1) (hL : L ≤ 600) (hbb : 0 ≤ b ∧ b ≤ 1) (hg : ∀ k : Nat, k < L → g k = 0 ∨ g k = 1) {l : List Int} (hl : l.length + T / 2 ≤ 600) : ∀ (j n i : Nat) (σ : xSt), i + j = T → j < n → (∀ k : Nat, k < L → σ 125 k = g k) → MB σ l → (∀ q : Nat, q < (bhL g b i).length → σ 125 (L + q) = gD (bhL g b i) q) →
    ∃ σ', f_M_pasts_32 kk n (L : Int) b ((bhL g b i).length : Int) (i : Int) σ = kk (L : Int) (b - 1) σ' ∧ MB σ' (l ++ ptL g b T) ∧ (∀ k : Nat, k < L → σ' 125 k = g k) ∧ σ' 111 2 = σ 111 2 := by
  intro j
  induction j with
  | zero =>
    intro n i σ h1 h2 h3 h4 h5
    obtain ⟨n, rfl⟩ : ∃ n2, n = n2 + 1 := ⟨n - 1, by omega⟩
    obtain rfl : i = T := by omega
    have eb : w32 (b + -1) = b - 1 := (w32_o (by omega) (by omega)).trans (by omega)
    rw [f_M_pasts_32.eq_2, w32_n1 (by omega), if_neg (by omega)]
    unfold ptL
    by_cases hL0 : L = 0
    · subst hL0
      subst hT
      have e : (bhL g b (0 - 1)).length = 0 := Eq.trans rfl rfl
      rw [e, c0n, show w32 (0 - 1) = -1 by decide, m_pairsN, xbR_s, xlet_s, eb]
      refine ⟨σ, rfl, ?_, h3, rfl⟩
      show MB σ (l ++ [])
      rw [List.append_nil]
      exact h4
    · have hb := bhL_b (g := g) (b := b) (T := i) (fun k hk => hg k (by omega)) i (Nat.le_refl _)
      generalize hw : bhL g b i = w at h5 hb ⊢
      obtain ⟨hb1, hb2⟩ := hb
      by_cases hz : w.length = 0
      · rw [hz, c0n, show w32 (0 - 1) = -1 by decide, m_pairsN, xbR_s, xlet_s, eb]
        refine ⟨σ, rfl, ?_, h3, rfl⟩
        show MB σ (l ++ [])
        rw [List.append_nil]
        exact h4
      · have e : w32 ((w.length : Int) - 1) = ((w.length - 1 : Nat) : Int) := (w32_o (by omega) (by omega)).trans (by omega)
        obtain ⟨σ', g1, g2, g3⟩ := m_pairsOf (o := L) (size := w.length - 1) (by omega) h4 (by omega) (fun j hj0 hj => by
          rw [show j = L + (j - L) by omega, h5 (j - L) (by omega)]
          exact hb2 (j - L) (by omega))
        rw [e, g1, xbR_s, xlet_s, eb]
        refine ⟨σ', rfl, ?_, fun k hk => by rw [g3 125 k (by decide) (fun z => absurd z (by decide))]; exact h3 k hk, g3 111 2 (by decide) (fun _ => by decide)⟩
        have es := prL_sh (g := σ 125) (o := L) ((w.length - 1) / 2) 0
        rw [Nat.add_zero] at es
        rw [es, prL_cg (g' := gD w) _ 0 (fun j _ hj => h5 j (by omega))] at g2
        exact g2
  | succ j ih =>
    intro n i σ h1 h2 h3 h4 h5
    obtain ⟨n, rfl⟩ : ∃ n2, n = n2 + 1 := ⟨n - 1, by omega⟩
    have hb := bhL_b (g := g) (b := b) (T := T) (fun k hk => hg k (by omega)) i (by omega)
    have b1 : i + 1 < L := by omega
    have b2 : i < 100000 := by omega
    have b3 : L + (bhL g b i).length < 2600 := by omega
    have b4 : (bhL g b i).length < 100000 := by omega
    have b5 : L + (bhL g b i).length < 100000 := by omega
    rw [f_M_pasts_32.eq_2, w32_n1 b2, if_pos (Int.ofNat_lt.mpr b1), if_pos (by omega), Int.toNat_natCast, h3 i (by omega)]
    by_cases hc : g i = b
    · rw [if_pos hc, if_pos (by omega), w32_nn b5, if_pos (by omega), Int.toNat_natCast, Int.toNat_natCast, h3 (i + 1) b1, xlet_s, w32_n1 b4, xlet_s, xlet_s]
      have el : (bhL g b (i + 1)).length = (bhL g b i).length + 1 := by rw [bhL_s, if_pos hc, len_1]
      obtain ⟨σ', k1, k2, k3, k4⟩ := ih n (i + 1) (upS σ 125 (L + (bhL g b i).length) (g (i + 1))) (by omega) (by omega) (fun k hk => by rw [upS_rd, if_neg (by omega)]; exact h3 k hk) ⟨h4.1, fun q hq => h4.2 q hq⟩ (fun q hq => by
        rw [el] at hq
        rw [upS_rd, bhL_s, if_pos hc]
        unfold gD
        by_cases he : q = (bhL g b i).length
        · rw [if_pos ⟨rfl, by omega⟩, he, gd_r]
        · rw [if_neg (by omega), gd_l (by omega)]
          exact h5 q (by omega))
      rw [el] at k1
      exact ⟨σ', k1, k2, k3, k4⟩
    · rw [if_neg hc, xlet_s]
      have el : bhL g b (i + 1) = bhL g b i := by rw [bhL_s, if_neg hc, List.append_nil]
      have k := ih n (i + 1) σ (by omega) (by omega) h3 h4 (by rw [el]; exact h5)
      rw [el] at k
      exact k
theorem sim_pasts {n : Nat} : SimW (InvN (n + 1)) (InvN n) f_X_pasts f_M_pasts := by
  refine bits_row (lo := 0) (hi := 600) (gx := fun v s => xbW (f_Bits_byPasts v s) fun r3 σ4 => some (r3, σ4)) (gm := fun v s => f_M_pasts_23 1000000 v 1 s) (by decide) (by decide) (fun _ => rfl) (fun _ => rfl) (fun h => fr_X_pasts h) (fun h => fr_M_pasts h) rfl rfl rfl rfl rfl ?_
  intro L σx h0 h1 hb
  have hL : L ≤ 600 := by omega
  obtain ⟨T, hT⟩ : ∃ T, T = L - 1 := ⟨_, rfl⟩
  have pl : ∀ b, (ptL (σx 98) b T).length ≤ T / 2 := by
    intro b
    by_cases hL0 : L = 0
    · subst hL0
      subst hT
      have h1 := prL_len (g := gD (bhL (σx 98) b (0 - 1))) (((bhL (σx 98) b (0 - 1)).length - 1) / 2) 0
      have h2 : (bhL (σx 98) b (0 - 1)).length = 0 := Eq.trans rfl rfl
      unfold ptL
      rw [h2] at h1 ⊢
      omega
    · have h1 := prL_len (g := gD (bhL (σx 98) b T)) (((bhL (σx 98) b T).length - 1) / 2) 0
      have h2 := (bhL_b (g := σx 98) (b := b) (T := T) (fun k hk => hb k (by omega)) T (Nat.le_refl _)).1
      have h3 : ((bhL (σx 98) b T).length - 1) / 2 ≤ T / 2 := Nat.div_le_div_right (by omega)
      exact Nat.le_trans h1 h3
  have pl1 := pl 1
  have pl0 := pl 0
  obtain ⟨σ1, g1, g2, g3⟩ := x_behind6 (g := σx 98) (b := 1) hT hL hb (l := []) (by show 0 + T / 2 ≤ 600; omega) T 1000000 0 (upS σx 99 1 0) (by omega) (by omega) (fun k _ => rfl) ⟨rfl, fun i hi => absurd hi (Nat.not_lt_zero _)⟩ (fun q hq => absurd hq (Nat.not_lt_zero _))
  rw [List.nil_append] at g2
  obtain ⟨σ2, k1, k2, k3⟩ := x_behind6 (g := σx 98) (b := 0) hT hL hb (l := ptL (σx 98) 1 T) (by omega) T 1000000 0 σ1 (by omega) (by omega) (fun k _ => g3 98 k (by decide) (by decide) (by decide)) g2 (fun q hq => absurd hq (Nat.not_lt_zero _))
  have z1 : ∀ b, (bhL (σx 98) b 0).length = 0 := fun b => Eq.trans rfl rfl
  rw [z1, c0n] at g1 k1
  refine ⟨σ2, _, ?_, k2, ?_, ?_, fun σm hm h44 => ?_⟩
  · have e1 : f_Bits_byPasts (L : Int) σx = some (σ2 99 1, σ2) := by
      unfold f_Bits_byPasts f_Bits_addPairsBehind
      rw [xlet_s, g1, xbR_s, k1, xbR_s]
    rw [e1, xbW_s, k2.1]
  · rw [List.length_append]
    omega
  · exact (k3 0 1 (by decide) (by decide) (by decide)).trans (g3 0 1 (by decide) (by decide) (by decide))
  · obtain ⟨τ1, c1, c2, c3, c4⟩ := m_behind (kk := fun z0 z1 sz => f_M_pasts_23 999999 z0 z1 sz) (g := σx 98) (b := 1) hT hL (by decide) hb (l := []) (by show 0 + T / 2 ≤ 600; omega) T 1000000 0 σm (by omega) (by omega) hm ⟨h44, fun i hi => absurd hi (Nat.not_lt_zero _)⟩ (fun q hq => absurd hq (Nat.not_lt_zero _))
    rw [List.nil_append] at c2
    obtain ⟨τ2, d1, d2, d3, d4⟩ := m_behind (kk := fun z0 z1 sz => f_M_pasts_23 999998 z0 z1 sz) (g := σx 98) (b := 0) hT hL (by decide) hb (l := ptL (σx 98) 1 T) (by omega) T 1000000 0 τ1 (by omega) (by omega) c3 c2 (fun q hq => absurd hq (Nat.not_lt_zero _))
    rw [z1, c0n] at c1 d1
    refine ⟨τ2, ?_, d2, d4.trans c4⟩
    show f_M_pasts_23 1000000 (L : Int) 1 σm = _
    rw [show (1000000 : Nat) = 999999 + 1 from rfl, f_M_pasts_23.eq_2, if_neg (by decide)]
    rw [c1, show (1 - 1 : Int) = 0 from rfl]
    show f_M_pasts_23 999999 (L : Int) 0 τ1 = _
    rw [show (999999 : Nat) = 999998 + 1 from rfl, f_M_pasts_23.eq_2, if_neg (by decide)]
    rw [d1]
    show f_M_pasts_23 999998 (L : Int) (0 - 1) τ2 = _
    rw [show (999998 : Nat) = 999997 + 1 from rfl, f_M_pasts_23.eq_2, if_pos (by decide)]
