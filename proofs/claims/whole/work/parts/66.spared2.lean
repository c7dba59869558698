/-! spared: the model's side, the call -/
theorem m_sp22 {Q : Int → Int → xSt → Option xSt} {g : Nat → Int} {o size : Nat} (ho : o + 2 * size ≤ 1200) : ∀ (j n i : Nat) (σ : xSt), i + j = size / 2 → j < n → (∀ q : Nat, q < size → σ 125 (o + q) = g q) → (∀ q : Nat, q < i → σ 125 (o + size + q) = xsF g q) →
    ∃ σ', f_M_spare_22 Q n (o : Int) (size : Int) ((o + size : Nat) : Int) (i : Int) ((2 * i : Nat) : Int) σ = (xbR (Q ((o + size : Nat) : Int) ((size / 2 : Nat) : Int) σ') fun σ8 => f_M_spare_89 Q 1000000 (o : Int) (size : Int) ((o + size : Nat) : Int) 0 0 σ8) ∧
      (∀ q : Nat, q < size / 2 → σ' 125 (o + size + q) = xsF g q) ∧ (∀ q : Nat, q < o + size → σ' 125 q = σ 125 q) ∧ ∀ a q, a ≠ 125 → σ' a q = σ a q := by
  intro j
  induction j with
  | zero =>
    intro n i σ h1 h2 h3 h4
    obtain ⟨n, rfl⟩ : ∃ n2, n = n2 + 1 := ⟨n - 1, by omega⟩
    have hi : i = size / 2 := by omega
    refine ⟨σ, ?_, fun q hq => h4 q (by omega), fun _ _ => rfl, fun _ _ _ => rfl⟩
    rw [f_M_spare_22.eq_2, w32_n1 (by omega), if_neg (by omega), hi]
  | succ j ih =>
    intro n i σ h1 h2 h3 h4
    obtain ⟨n, rfl⟩ : ∃ n2, n = n2 + 1 := ⟨n - 1, by omega⟩
    have b1 : 2 * i + 1 < size := by omega
    have b3 : 2 * i < 100000 := by omega
    have b4 : o + 2 * i < 100000 := by omega
    have b5 : o + 2 * i < 2600 := by omega
    have b6 : o + 2 * i + 1 < 2600 := by omega
    have b7 : o + size + i < 100000 := by omega
    have b8 : o + size + i < 2600 := by omega
    have b9 : i < 100000 := by omega
    have e24 : 2 * i + 2 = 2 * (i + 1) := by omega
    have g0 := h3 (2 * i) (by omega)
    have g1 : σ 125 (o + 2 * i + 1) = g (2 * i + 1) := h3 (2 * i + 1) b1
    obtain ⟨σ', k1, k2, k3, k4⟩ := ih n (i + 1) (upS σ 125 (o + size + i) (xsF g i)) (by omega) (by omega) (fun q hq => by rw [upS_rd, if_neg (by omega)]; exact h3 q hq) (fun q hq => by
      rw [upS_rd]
      by_cases he : q = i
      · rw [if_pos ⟨rfl, by omega⟩, he]
      · rw [if_neg (by omega)]
        exact h4 q (by omega))
    have fin : ∀ b : Int, b = xsF g i → f_M_spare_66 Q (fun z0 z1 z2 z3 z4 sz => f_M_spare_22 Q n z0 z1 z2 z3 z4 sz) (o : Int) (size : Int) ((o + size : Nat) : Int) (i : Int) ((2 * i : Nat) : Int) b ((o + size + i : Nat) : Int) σ = f_M_spare_22 Q n (o : Int) (size : Int) ((o + size : Nat) : Int) ((i + 1 : Nat) : Int) ((2 * (i + 1) : Nat) : Int) (upS σ 125 (o + size + i) (xsF g i)) := by
      intro b hb
      unfold f_M_spare_66
      rw [if_pos (by omega), Int.toNat_natCast, xlet_s, w32_n1 b9, xlet_s, w32_n2 b3, xlet_s, e24, hb]
    refine ⟨σ', ?_, k2, fun q hq => by rw [k3 q hq, upS_rd, if_neg (by omega)], fun a q ha => by rw [k4 a q ha, upS_rd, if_neg (fun z => ha z.1)]⟩
    rw [f_M_spare_22.eq_2, w32_n1 b3, if_pos (Int.ofNat_lt.mpr b1), w32_nn b4, if_pos (by omega), w32_n1 b4, if_pos (by omega), Int.toNat_natCast, Int.toNat_natCast, w32_nn b7, g0, g1, ← k1]
    by_cases hc : g (2 * i) = g (2 * i + 1)
    · rw [if_pos hc]
      exact fin 0 (by unfold xsF; rw [if_pos hc])
    · rw [if_neg hc]
      exact fin 1 (by unfold xsF; rw [if_neg hc])
theorem m_sp89 {Q : Int → Int → xSt → Option xSt} {g : Nat → Int} {o size : Nat} (ho : o + 2 * size ≤ 1200) (hg : ∀ q : Nat, q < size → g q = 0 ∨ g q = 1) : ∀ (j n i : Nat) (σ : xSt), i + j = size / 2 → j < n → (∀ q : Nat, q < size → σ 125 (o + q) = g q) → (∀ q : Nat, q < (eqL g i).length → σ 125 (o + size + q) = gD (eqL g i) q) →
    ∃ σ', f_M_spare_89 Q n (o : Int) (size : Int) ((o + size : Nat) : Int) ((eqL g i).length : Int) ((2 * i : Nat) : Int) σ = (xbR (Q ((o + size : Nat) : Int) ((eqL g (size / 2)).length : Int) σ') fun σ8 => some σ8) ∧
      (∀ q : Nat, q < (eqL g (size / 2)).length → σ' 125 (o + size + q) = gD (eqL g (size / 2)) q) ∧ (∀ q : Nat, q < o + size → σ' 125 q = σ 125 q) ∧ ∀ a q, a ≠ 125 → σ' a q = σ a q := by
  intro j
  induction j with
  | zero =>
    intro n i σ h1 h2 h3 h4
    obtain ⟨n, rfl⟩ : ∃ n2, n = n2 + 1 := ⟨n - 1, by omega⟩
    have hi : i = size / 2 := by omega
    rw [hi] at h4
    refine ⟨σ, ?_, h4, fun _ _ => rfl, fun _ _ _ => rfl⟩
    rw [f_M_spare_89.eq_2, w32_n1 (by omega), if_neg (by omega), hi]
  | succ j ih =>
    intro n i σ h1 h2 h3 h4
    obtain ⟨n, rfl⟩ : ∃ n2, n = n2 + 1 := ⟨n - 1, by omega⟩
    have hl := (eqL_b (g := g) (n := size) hg i (by omega)).1
    have b1 : 2 * i + 1 < size := by omega
    have b3 : 2 * i < 100000 := by omega
    have b4 : o + 2 * i < 100000 := by omega
    have b5 : o + 2 * i < 2600 := by omega
    have b6 : o + 2 * i + 1 < 2600 := by omega
    have b7 : o + size + (eqL g i).length < 100000 := by omega
    have b8 : o + size + (eqL g i).length < 2600 := by omega
    have b9 : (eqL g i).length < 100000 := by omega
    have e24 : 2 * i + 2 = 2 * (i + 1) := by omega
    have g0 := h3 (2 * i) (by omega)
    have g1 : σ 125 (o + 2 * i + 1) = g (2 * i + 1) := h3 (2 * i + 1) b1
    rw [f_M_spare_89.eq_2, w32_n1 b3, if_pos (Int.ofNat_lt.mpr b1), w32_nn b4, if_pos (by omega), w32_n1 b4, if_pos (by omega), Int.toNat_natCast, Int.toNat_natCast, w32_nn b7, g0, g1, w32_n2 b3, e24]
    by_cases hc : g (2 * i) = g (2 * i + 1)
    · rw [if_pos hc, if_pos (by omega), if_pos (by omega), Int.toNat_natCast, xlet_s, w32_n1 b9, xlet_s, xlet_s]
      have el : (eqL g (i + 1)).length = (eqL g i).length + 1 := by rw [eqL_s, if_pos hc, len_1]
      obtain ⟨σ', k1, k2, k3, k4⟩ := ih n (i + 1) (upS σ 125 (o + size + (eqL g i).length) (g (2 * i))) (by omega) (by omega) (fun q hq => by rw [upS_rd, if_neg (by omega)]; exact h3 q hq) (fun q hq => by
        rw [el] at hq
        rw [upS_rd, eqL_s, if_pos hc]
        unfold gD
        by_cases he : q = (eqL g i).length
        · rw [if_pos ⟨rfl, by omega⟩, he, gd_r]
        · rw [if_neg (by omega), gd_l (by omega)]
          exact h4 q (by omega))
      rw [el] at k1
      exact ⟨σ', k1, k2, fun q hq => by rw [k3 q hq, upS_rd, if_neg (by omega)], fun a q ha => by rw [k4 a q ha, upS_rd, if_neg (fun z => ha z.1)]⟩
    · rw [if_neg hc, xlet_s]
      have el : eqL g (i + 1) = eqL g i := by rw [eqL_s, if_neg hc, List.append_nil]
      have k := ih n (i + 1) σ (by omega) (by omega) h3 (by rw [el]; exact h4)
      rw [el] at k
      exact k
theorem m_spare : ∀ (e n o size : Nat) (g : Nat → Int) (l : List Int) (σ : xSt), e < n → size < 2 ^ e → o + 2 * size ≤ 1200 → (∀ q : Nat, q < size → σ 125 (o + q) = g q) → (∀ q : Nat, q < size → g q = 0 ∨ g q = 1) → MB σ l → l.length + size ≤ 600 →
    ∃ σ', f_M_spare n (o : Int) (size : Int) σ = some σ' ∧ MB σ' (l ++ spF (e + 1) g size) ∧ (∀ q : Nat, q < o + size → σ' 125 q = σ 125 q) ∧ ∀ a q, a ≠ 125 → a ≠ 126 → (a = 111 → q ≠ 44) → σ' a q = σ a q := by
  intro e
  induction e with
  | zero =>
    intro n o size g l σ h1 h3 h4 h5 h6 h7 h8
    obtain ⟨n, rfl⟩ : ∃ n2, n = n2 + 1 := ⟨n - 1, by omega⟩
    have hs : size = 0 := by
      have : (2 : Nat) ^ 0 = 1 := rfl
      omega
    refine ⟨σ, ?_, ?_, fun _ _ => rfl, fun _ _ _ _ _ => rfl⟩
    · show f0_M_spare (g_M_spare n) (o : Int) (size : Int) σ = some σ
      unfold f0_M_spare
      rw [if_pos (by omega)]
    · subst hs
      show MB σ (l ++ [])
      rw [List.append_nil]
      exact h7
  | succ e ih =>
    intro n o size g l σ h1 h3 h4 h5 h6 h7 h8
    obtain ⟨n, rfl⟩ : ∃ n2, n = n2 + 1 := ⟨n - 1, by omega⟩
    have es : spF (e + 1 + 1) g size = if size < 2 then [] else prL g 0 (size / 2) ++ (spF (e + 1) (xsF g) (size / 2) ++ spF (e + 1) (gD (eqL g (size / 2))) (eqL g (size / 2)).length) := Eq.trans rfl rfl
    rw [es]
    show ∃ σ', f0_M_spare (g_M_spare n) (o : Int) (size : Int) σ = some σ' ∧ _
    unfold f0_M_spare
    by_cases hz : size < 2
    · refine ⟨σ, by rw [if_pos (by omega)], ?_, fun _ _ => rfl, fun _ _ _ _ _ => rfl⟩
      rw [if_pos hz, List.append_nil]
      exact h7
    · have hp := pr_eq (g := g) (size / 2)
      have hq := eqL_b (g := g) (n := size) h6 (size / 2) (by omega)
      have hl1 := spF_len (e + 1) (xsF g) (size / 2)
      have hsz : size / 2 < 2 ^ e := by
        rw [Nat.pow_succ] at h3
        omega
      obtain ⟨σ1, a1, a2, a3⟩ := m_pairsOf (o := o) (size := size) (by omega) h7 (by omega) (fun j hj0 hj => by
        rw [show j = o + (j - o) by omega, h5 (j - o) (by omega)]
        exact h6 (j - o) (by omega))
      have esh := prL_sh (g := σ 125) (o := o) (size / 2) 0
      rw [Nat.add_zero] at esh
      rw [esh, prL_cg (g' := g) _ 0 (fun j _ hj => h5 j (by omega))] at a2
      have b1 : o + size < 100000 := by omega
      have a125 : ∀ q, σ1 125 q = σ 125 q := fun q => a3 125 q (by decide) (fun z => absurd z (by decide))
      obtain ⟨σ2, c1, c2, c3, c4⟩ := m_sp22 (Q := g_M_spare n) (g := g) (o := o) (size := size) h4 (size / 2) 1000000 0 σ1 (by omega) (by omega) (fun q hq => by rw [a125]; exact h5 q hq) (fun q hq => absurd hq (Nat.not_lt_zero _))
      have X2 : MB σ2 (l ++ prL g 0 (size / 2)) := ⟨by rw [c4 111 44 (by decide)]; exact a2.1, fun i hi => by rw [c4 126 i (by decide)]; exact a2.2 i hi⟩
      obtain ⟨σ3, d1, d2, d3, d4⟩ := ih n (o + size) (size / 2) (xsF g) _ σ2 (by omega) hsz (by omega) c2 (fun q _ => xsF_b q) X2 (by rw [List.length_append]; omega)
      obtain ⟨σ4, f1, f2, f3, f4⟩ := m_sp89 (Q := g_M_spare n) (g := g) (o := o) (size := size) h4 h6 (size / 2) 1000000 0 σ3 (by omega) (by omega) (fun q hq => by rw [d3 _ (by omega), c3 _ (by omega), a125]; exact h5 q hq) (fun q hq => absurd hq (Nat.not_lt_zero _))
      have X4 : MB σ4 (l ++ prL g 0 (size / 2) ++ spF (e + 1) (xsF g) (size / 2)) := ⟨by rw [f4 111 44 (by decide)]; exact d2.1, fun i hi => by rw [f4 126 i (by decide)]; exact d2.2 i hi⟩
      obtain ⟨σ5, k1, k2, k3, k4⟩ := ih n (o + size) (eqL g (size / 2)).length (gD (eqL g (size / 2))) _ σ4 (by omega) (by omega) (by omega) f2 hq.2 X4 (by rw [List.length_append, List.length_append]; omega)
      have z0 : ((2 * 0 : Nat) : Int) = 0 := rfl
      have z1 : (((eqL g 0).length : Nat) : Int) = 0 := rfl
      rw [z0] at c1
      rw [z0, z1] at f1
      refine ⟨σ5, ?_, ?_, fun q hq => ?_, fun a q h125 h126 h111 => ?_⟩
      · rw [if_neg (by omega), a1, xbR_s, w32_nn b1, xlet_s, c1]
        show (xbR (f_M_spare n ((o + size : Nat) : Int) ((size / 2 : Nat) : Int) σ2) fun σ8 => f_M_spare_89 (g_M_spare n) 1000000 (o : Int) (size : Int) ((o + size : Nat) : Int) 0 0 σ8) = some σ5
        rw [d1, xbR_s, f1]
        show (xbR (f_M_spare n ((o + size : Nat) : Int) ((eqL g (size / 2)).length : Int) σ4) fun σ8 => some σ8) = some σ5
        rw [k1, xbR_s]
      · rw [if_neg hz, ← List.append_assoc, ← List.append_assoc]
        exact k2
      · rw [k3 q (by omega), f3 q hq, d3 q (by omega), c3 q hq, a125]
      · rw [k4 a q h125 h126 h111, f4 a q h125, d4 a q h125 h126 h111, c4 a q h125, a3 a q h126 h111]
theorem x_by7 {L : Nat} (hL : L ≤ 600) {g : Nat → Int} (hg : ∀ k : Nat, k < L → g k = 0 ∨ g k = 1) : ∀ (j n i : Nat) (σ : xSt), i + j = L → j < n → (∀ k : Nat, k < L → σ 98 k = g k) → (∀ q : Nat, q < i → σ 101 q = g q) →
    ∃ σ', f_Bits_bySparing_7 n (L : Int) (i : Int) σ = (xbR (f_Bits_spare 60 0 (L : Int) 0 σ') fun σ5 => some (σ5 99 1, σ5)) ∧ (∀ q : Nat, q < L → σ' 101 q = g q) ∧ ∀ a q, a ≠ 101 → σ' a q = σ a q := by
  intro j
  induction j with
  | zero =>
    intro n i σ h1 h2 h3 h4
    obtain ⟨n, rfl⟩ : ∃ n2, n = n2 + 1 := ⟨n - 1, by omega⟩
    refine ⟨σ, ?_, fun q hq => h4 q (by omega), fun _ _ _ => rfl⟩
    rw [f_Bits_bySparing_7.eq_2, if_neg (by omega)]
  | succ j ih =>
    intro n i σ h1 h2 h3 h4
    obtain ⟨n, rfl⟩ : ∃ n2, n = n2 + 1 := ⟨n - 1, by omega⟩
    have b1 : i < L := by omega
    have b2 : i < 100000 := by omega
    have b3 : i < 600 := by omega
    have b4 : i < 1200 := by omega
    obtain ⟨σ', k1, k2, k3⟩ := ih n (i + 1) (upS σ 101 i (g i)) (by omega) (by omega) (fun q hq => by rw [upS_rd, if_neg (by omega)]; exact h3 q hq) (fun q hq => by
      rw [upS_rd]
      by_cases he : q = i
      · rw [if_pos ⟨rfl, he⟩, he]
      · rw [if_neg (fun z => he z.2)]
        exact h4 q (by omega))
    refine ⟨σ', ?_, k2, fun a q ha => by rw [k3 a q ha, upS_rd, if_neg (fun z => ha z.1)]⟩
    rw [f_Bits_bySparing_7.eq_2, if_pos (Int.ofNat_lt.mpr b1), x_throw lay98 b3, xbR_s, h3 i b1, x_note b4 (hg i b1), xbR_s, w32_n1 b2, xlet_s]
    exact k1
theorem sim_spared {n : Nat} : SimW (InvN (n + 1)) (InvN n) f_X_spared f_M_spared := by
  refine bits_row (lo := 0) (hi := 600) (gx := fun v s => xbW (f_Bits_bySparing v s) fun r3 σ4 => some (r3, σ4)) (gm := fun v s => xbR (f_M_spare 60 0 v s) fun σ4 => xbW (f_M_tellBits σ4) fun r5 σ6 => some (r5, σ6)) (by decide) (by decide) (fun _ => rfl) (fun _ => rfl) (fun h => fr_X_spared h) (fun h => fr_M_spared h) rfl rfl rfl rfl rfl ?_
  intro L σx h0 h1 hb
  have hL : L ≤ 600 := by omega
  have hp : L < 2 ^ 10 := by
    have : (2 : Nat) ^ 10 = 1024 := by decide
    omega
  have hlen := spF_len (10 + 1) (σx 98) L
  obtain ⟨σ1, g1, g2, g3⟩ := x_by7 (L := L) hL (g := σx 98) hb L 1000000 0 (upS σx 99 1 0) (by omega) (by omega) (fun k _ => rfl) (fun q hq => absurd hq (Nat.not_lt_zero _))
  have X1 : XB σ1 [] := ⟨g3 99 1 (by decide), fun i hi => absurd hi (Nat.not_lt_zero _)⟩
  obtain ⟨σ2, k1, k2, -, k4⟩ := x_spare 10 60 0 0 L (σx 98) [] σ1 (by omega) (by omega) hp (by omega) (fun q hq => by rw [Nat.zero_add]; exact g2 q hq) hb X1 (by show 0 + L ≤ 600; omega)
  rw [c0n] at g1 k1
  refine ⟨σ2, _, ?_, k2, ?_, ?_, fun σm hm h44 => ?_⟩
  · have e1 : f_Bits_bySparing (L : Int) σx = some (σ2 99 1, σ2) := by
      unfold f_Bits_bySparing
      rw [xlet_s, g1, k1, xbR_s]
    rw [e1, xbW_s, k2.1]
  · rw [List.nil_append]
    omega
  · exact (k4 0 1 (by decide) (by decide) (by decide)).trans (g3 0 1 (by decide))
  · obtain ⟨τ, c1, c2, -, c4⟩ := m_spare 10 60 0 L (σx 98) [] σm (by omega) hp (by omega) (fun q hq => by rw [Nat.zero_add]; exact hm q hq) hb ⟨h44, fun i hi => absurd hi (Nat.not_lt_zero _)⟩ (by show 0 + L ≤ 600; omega)
    rw [c0n] at c1
    refine ⟨τ, ?_, c2, c4 111 2 (by decide) (by decide) (fun _ => by decide)⟩
    rw [c1, xbR_s]
