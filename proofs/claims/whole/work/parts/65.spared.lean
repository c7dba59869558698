/-! spared -/
def xsF (g : Nat → Int) : Nat → Int := fun q => if g (2 * q) = g (2 * q + 1) then 0 else 1
def eqL (g : Nat → Int) : Nat → List Int
  | 0 => []
  | i + 1 => eqL g i ++ (if g (2 * i) = g (2 * i + 1) then [g (2 * i)] else [])
def spF : Nat → (Nat → Int) → Nat → List Int
  | 0, _, _ => []
  | e + 1, g, n => if n < 2 then [] else prL g 0 (n / 2) ++ (spF e (xsF g) (n / 2) ++ spF e (gD (eqL g (n / 2))) (eqL g (n / 2)).length)
theorem eqL_s {g : Nat → Int} {i : Nat} : eqL g (i + 1) = eqL g i ++ (if g (2 * i) = g (2 * i + 1) then [g (2 * i)] else []) := Eq.trans rfl rfl
theorem eqL_b {g : Nat → Int} {n : Nat} (hg : ∀ q : Nat, q < n → g q = 0 ∨ g q = 1) : ∀ i, 2 * i ≤ n → (eqL g i).length ≤ i ∧ ∀ q : Nat, q < (eqL g i).length → gD (eqL g i) q = 0 ∨ gD (eqL g i) q = 1 := by
  intro i
  induction i with
  | zero => exact fun _ => ⟨Nat.le_refl _, fun q hq => absurd hq (Nat.not_lt_zero _)⟩
  | succ i ih =>
    intro hi
    obtain ⟨h1, h2⟩ := ih (by omega)
    rw [eqL_s]
    by_cases hc : g (2 * i) = g (2 * i + 1)
    · rw [if_pos hc, len_1]
      refine ⟨by omega, fun q hq => ?_⟩
      unfold gD
      by_cases he : q = (eqL g i).length
      · rw [he, gd_r]
        exact hg (2 * i) (by omega)
      · rw [gd_l (by omega)]
        exact h2 q (by omega)
    · rw [if_neg hc, List.append_nil]
      exact ⟨by omega, h2⟩
theorem prL_app {g : Nat → Int} : ∀ (k o : Nat), prL g o (k + 1) = prL g o k ++ (if g (o + 2 * k) = g (o + 2 * k + 1) then [] else [g (o + 2 * k)]) := by
  intro k
  induction k with
  | zero =>
    intro o
    show (if g o = g (o + 1) then [] else [g o]) ++ [] = [] ++ (if g o = g (o + 1) then [] else [g o])
    rw [List.append_nil, List.nil_append]
  | succ k ih =>
    intro o
    have e1 : prL g o (k + 1 + 1) = (if g o = g (o + 1) then [] else [g o]) ++ prL g (o + 2) (k + 1) := Eq.trans rfl rfl
    have e2 : prL g o (k + 1) = (if g o = g (o + 1) then [] else [g o]) ++ prL g (o + 2) k := Eq.trans rfl rfl
    rw [e1, e2, ih (o + 2), List.append_assoc, show o + 2 + 2 * k = o + 2 * (k + 1) by omega]
theorem pr_eq {g : Nat → Int} : ∀ k : Nat, (prL g 0 k).length + (eqL g k).length = k := by
  intro k
  induction k with
  | zero => rfl
  | succ k ih =>
    rw [prL_app, eqL_s, Nat.zero_add, List.length_append, List.length_append]
    by_cases hc : g (2 * k) = g (2 * k + 1)
    · rw [if_pos hc, if_pos hc]
      show _ + 0 + (_ + 1) = _
      omega
    · rw [if_neg hc, if_neg hc]
      show _ + 1 + (_ + 0) = _
      omega
theorem spF_len : ∀ (e : Nat) (g : Nat → Int) (n : Nat), (spF e g n).length ≤ n := by
  intro e
  induction e with
  | zero => exact fun _ _ => Nat.zero_le _
  | succ e ih =>
    intro g n
    show (if n < 2 then [] else prL g 0 (n / 2) ++ (spF e (xsF g) (n / 2) ++ spF e (gD (eqL g (n / 2))) (eqL g (n / 2)).length)).length ≤ n
    split
    · exact Nat.zero_le _
    · rw [List.length_append, List.length_append]
      have h1 := pr_eq (g := g) (n / 2)
      have h2 := ih (xsF g) (n / 2)
      have h3 := ih (gD (eqL g (n / 2))) (eqL g (n / 2)).length
      omega
theorem xsF_b {g : Nat → Int} (q : Nat) : xsF g q = 0 ∨ xsF g q = 1 := by
  unfold xsF
  split
  · exact Or.inl rfl
  · exact Or.inr rfl
theorem xxor_b {a b : Int} (ha : a = 0 ∨ a = 1) (hb : b = 0 ∨ b = 1) : xxor a b = if a = b then 0 else 1 := by
  rcases ha with ha | ha <;> rcases hb with hb | hb <;> rw [ha, hb] <;> decide
theorem x_sp33 {Q : Int → Int → Int → xSt → Option xSt} {g : Nat → Int} {o size : Nat} {lev : Int} (ho : o + 2 * size ≤ 1200) (hg : ∀ q : Nat, q < size → g q = 0 ∨ g q = 1) : ∀ (j n i : Nat) (σ : xSt), i + j = size / 2 → j < n → (∀ q : Nat, q < size → σ 101 (o + q) = g q) → (∀ q : Nat, q < i → σ 101 (o + size + q) = xsF g q) →
    ∃ σ', f_Bits_spare_33 Q n (o : Int) (size : Int) lev ((o + size : Nat) : Int) (i : Int) ((2 * i : Nat) : Int) σ = (xbR (Q ((o + size : Nat) : Int) ((size / 2 : Nat) : Int) (w32 (lev + 1)) σ') fun σ8 => f_Bits_spare_101 Q 1000000 (o : Int) (size : Int) lev ((o + size : Nat) : Int) 0 0 σ8) ∧
      (∀ q : Nat, q < size / 2 → σ' 101 (o + size + q) = xsF g q) ∧ (∀ q : Nat, q < o + size → σ' 101 q = σ 101 q) ∧ ∀ a q, a ≠ 101 → σ' a q = σ a q := by
  intro j
  induction j with
  | zero =>
    intro n i σ h1 h2 h3 h4
    obtain ⟨n, rfl⟩ : ∃ n2, n = n2 + 1 := ⟨n - 1, by omega⟩
    have hi : i = size / 2 := by omega
    refine ⟨σ, ?_, fun q hq => h4 q (by omega), fun _ _ => rfl, fun _ _ _ => rfl⟩
    rw [f_Bits_spare_33.eq_2, w32_n1 (by omega), if_neg (by omega), hi]
  | succ j ih =>
    intro n i σ h1 h2 h3 h4
    obtain ⟨n, rfl⟩ : ∃ n2, n = n2 + 1 := ⟨n - 1, by omega⟩
    have b1 : 2 * i + 1 < size := by omega
    have b3 : 2 * i < 100000 := by omega
    have b4 : o + 2 * i < 100000 := by omega
    have b5 : o + 2 * i < 1200 := by omega
    have b6 : o + 2 * i + 1 < 1200 := by omega
    have b7 : o + size + i < 100000 := by omega
    have b8 : o + size + i < 1200 := by omega
    have b9 : i < 100000 := by omega
    have e24 : 2 * i + 2 = 2 * (i + 1) := by omega
    have g0 := h3 (2 * i) (by omega)
    have g1 : σ 101 (o + 2 * i + 1) = g (2 * i + 1) := h3 (2 * i + 1) b1
    have ex : xxor (g (2 * i)) (g (2 * i + 1)) = xsF g i := xxor_b (hg _ (by omega)) (hg _ b1)
    rw [f_Bits_spare_33.eq_2, w32_n1 b3, if_pos (Int.ofNat_lt.mpr b1), w32_nn b4, w32_n1 b4, x_throw lay101 b5, xbR_s, x_throw lay101 b6, xbR_s, w32_nn b7, g0, g1, ex, x_note b8 (xsF_b i), xbR_s, w32_n1 b9, xlet_s, w32_n2 b3, xlet_s, e24]
    obtain ⟨σ', k1, k2, k3, k4⟩ := ih n (i + 1) (upS σ 101 (o + size + i) (xsF g i)) (by omega) (by omega) (fun q hq => by rw [upS_rd, if_neg (by omega)]; exact h3 q hq) (fun q hq => by
      rw [upS_rd]
      by_cases he : q = i
      · rw [if_pos ⟨rfl, by omega⟩, he]
      · rw [if_neg (by omega)]
        exact h4 q (by omega))
    refine ⟨σ', k1, k2, fun q hq => by rw [k3 q hq, upS_rd, if_neg (by omega)], fun a q ha => by rw [k4 a q ha, upS_rd, if_neg (fun z => ha z.1)]⟩
theorem x_sp101 {Q : Int → Int → Int → xSt → Option xSt} {g : Nat → Int} {o size : Nat} {lev : Int} (ho : o + 2 * size ≤ 1200) (hg : ∀ q : Nat, q < size → g q = 0 ∨ g q = 1) : ∀ (j n i : Nat) (σ : xSt), i + j = size / 2 → j < n → (∀ q : Nat, q < size → σ 101 (o + q) = g q) → (∀ q : Nat, q < (eqL g i).length → σ 101 (o + size + q) = gD (eqL g i) q) →
    ∃ σ', f_Bits_spare_101 Q n (o : Int) (size : Int) lev ((o + size : Nat) : Int) ((eqL g i).length : Int) ((2 * i : Nat) : Int) σ = (xbR (Q ((o + size : Nat) : Int) ((eqL g (size / 2)).length : Int) (w32 (lev + 1)) σ') fun σ8 => some σ8) ∧
      (∀ q : Nat, q < (eqL g (size / 2)).length → σ' 101 (o + size + q) = gD (eqL g (size / 2)) q) ∧ (∀ q : Nat, q < o + size → σ' 101 q = σ 101 q) ∧ ∀ a q, a ≠ 101 → σ' a q = σ a q := by
  intro j
  induction j with
  | zero =>
    intro n i σ h1 h2 h3 h4
    obtain ⟨n, rfl⟩ : ∃ n2, n = n2 + 1 := ⟨n - 1, by omega⟩
    have hi : i = size / 2 := by omega
    rw [hi] at h4
    refine ⟨σ, ?_, h4, fun _ _ => rfl, fun _ _ _ => rfl⟩
    rw [f_Bits_spare_101.eq_2, w32_n1 (by omega), if_neg (by omega), hi]
  | succ j ih =>
    intro n i σ h1 h2 h3 h4
    obtain ⟨n, rfl⟩ : ∃ n2, n = n2 + 1 := ⟨n - 1, by omega⟩
    have hl := (eqL_b (g := g) (n := size) hg i (by omega)).1
    have b1 : 2 * i + 1 < size := by omega
    have b3 : 2 * i < 100000 := by omega
    have b4 : o + 2 * i < 100000 := by omega
    have b5 : o + 2 * i < 1200 := by omega
    have b6 : o + 2 * i + 1 < 1200 := by omega
    have b7 : o + size + (eqL g i).length < 100000 := by omega
    have b8 : o + size + (eqL g i).length < 1200 := by omega
    have b9 : (eqL g i).length < 100000 := by omega
    have e24 : 2 * i + 2 = 2 * (i + 1) := by omega
    have g0 := h3 (2 * i) (by omega)
    have g1 : σ 101 (o + 2 * i + 1) = g (2 * i + 1) := h3 (2 * i + 1) b1
    rw [f_Bits_spare_101.eq_2, w32_n1 b3, if_pos (Int.ofNat_lt.mpr b1), w32_nn b4, w32_n1 b4, x_throw lay101 b5, xbR_s, x_throw lay101 b6, xbR_s, xbR_s, w32_nn b7, g0, g1, w32_n2 b3, e24]
    by_cases hc : g (2 * i) = g (2 * i + 1)
    · rw [if_pos hc, x_note b8 (hg _ (by omega)), xbR_s, w32_n1 b9, xlet_s, xlet_s]
      have el : (eqL g (i + 1)).length = (eqL g i).length + 1 := by rw [eqL_s, if_pos hc, len_1]
      obtain ⟨σ', k1, k2, k3, k4⟩ := ih n (i + 1) (upS σ 101 (o + size + (eqL g i).length) (g (2 * i))) (by omega) (by omega) (fun q hq => by rw [upS_rd, if_neg (by omega)]; exact h3 q hq) (fun q hq => by
        rw [el] at hq
        rw [upS_rd, eqL_s, if_pos hc]
        unfold gD
        by_cases he : q = (eqL g i).length
        · rw [if_pos ⟨rfl, by omega⟩, he, gd_r]
        · rw [if_neg (by omega), gd_l (by omega)]
          exact h4 q (by omega))
      rw [el] at k1
      exact ⟨σ', k1, k2, fun q hq => by rw [k3 q hq, upS_rd, if_neg (by omega)], fun a q ha => by rw [k4 a q ha, upS_rd, if_neg (fun z => ha z.1)]⟩
    · rw [if_neg hc, xlet_s]
      have el : eqL g (i + 1) = eqL g i := by rw [eqL_s, if_neg hc, List.append_nil]
      have k := ih n (i + 1) σ (by omega) (by omega) h3 (by rw [el]; exact h4)
      rw [el] at k
      exact k
theorem x_spare : ∀ (e n lev o size : Nat) (g : Nat → Int) (l : List Int) (σ : xSt), e < n → lev + e = 10 → size < 2 ^ e → o + 2 * size ≤ 1200 → (∀ q : Nat, q < size → σ 101 (o + q) = g q) → (∀ q : Nat, q < size → g q = 0 ∨ g q = 1) → XB σ l → l.length + size ≤ 600 →
    ∃ σ', f_Bits_spare n (o : Int) (size : Int) (lev : Int) σ = some σ' ∧ XB σ' (l ++ spF (e + 1) g size) ∧ (∀ q : Nat, q < o + size → σ' 101 q = σ 101 q) ∧ ∀ a q, a ≠ 99 → a ≠ 100 → a ≠ 101 → σ' a q = σ a q := by
  intro e
  induction e with
  | zero =>
    intro n lev o size g l σ h1 h2 h3 h4 h5 h6 h7 h8
    obtain ⟨n, rfl⟩ : ∃ n2, n = n2 + 1 := ⟨n - 1, by omega⟩
    have hs : size = 0 := by
      have : (2 : Nat) ^ 0 = 1 := rfl
      omega
    refine ⟨σ, ?_, ?_, fun _ _ => rfl, fun _ _ _ _ _ => rfl⟩
    · show f0_Bits_spare (g_Bits_spare n) (o : Int) (size : Int) (lev : Int) σ = some σ
      unfold f0_Bits_spare
      rw [if_pos (by omega)]
    · subst hs
      show XB σ (l ++ [])
      rw [List.append_nil]
      exact h7
  | succ e ih =>
    intro n lev o size g l σ h1 h2 h3 h4 h5 h6 h7 h8
    obtain ⟨n, rfl⟩ : ∃ n2, n = n2 + 1 := ⟨n - 1, by omega⟩
    have es : spF (e + 1 + 1) g size = if size < 2 then [] else prL g 0 (size / 2) ++ (spF (e + 1) (xsF g) (size / 2) ++ spF (e + 1) (gD (eqL g (size / 2))) (eqL g (size / 2)).length) := Eq.trans rfl rfl
    rw [es]
    show ∃ σ', f0_Bits_spare (g_Bits_spare n) (o : Int) (size : Int) (lev : Int) σ = some σ' ∧ _
    unfold f0_Bits_spare
    by_cases hz : size < 2
    · refine ⟨σ, by rw [if_pos (by omega)], ?_, fun _ _ => rfl, fun _ _ _ _ _ => rfl⟩
      rw [if_pos hz, List.append_nil]
      exact h7
    · have hp := pr_eq (g := g) (size / 2)
      have hq := eqL_b (g := g) (n := size) h6 (size / 2) (by omega)
      have hl1 := spF_len (e + 1) (xsF g) (size / 2)
      have hsz : size / 2 < 2 ^ e := by
        rw [Nat.pow_succ] at h3
        omega
      obtain ⟨σ1, a1, a2, a3⟩ := x_addPairs (A := 101) (c := 1200) lay101 (by decide) (by decide) (o := o) (size := size) (by omega) (by omega) h7 (by omega) (fun j hj0 hj => by
        rw [show j = o + (j - o) by omega, h5 (j - o) (by omega)]
        exact h6 (j - o) (by omega))
      have esh := prL_sh (g := σ 101) (o := o) (size / 2) 0
      rw [Nat.add_zero] at esh
      rw [esh, prL_cg (g' := g) _ 0 (fun j _ hj => h5 j (by omega))] at a2
      have b1 : o + size < 100000 := by omega
      have b2 : lev < 100000 := by omega
      obtain ⟨σ2, c1, c2, c3, c4⟩ := x_sp33 (Q := g_Bits_spare n) (g := g) (o := o) (size := size) (lev := (lev : Int)) h4 h6 (size / 2) 1000000 0 σ1 (by omega) (by omega) (fun q hq => by rw [a3 101 _ (by decide) (by decide)]; exact h5 q hq) (fun q hq => absurd hq (Nat.not_lt_zero _))
      have X2 : XB σ2 (l ++ prL g 0 (size / 2)) := ⟨by rw [c4 99 1 (by decide)]; exact a2.1, fun i hi => by rw [c4 100 i (by decide)]; exact a2.2 i hi⟩
      obtain ⟨σ3, d1, d2, d3, d4⟩ := ih n (lev + 1) (o + size) (size / 2) (xsF g) _ σ2 (by omega) (by omega) hsz (by omega) c2 (fun q _ => xsF_b q) X2 (by rw [List.length_append]; omega)
      obtain ⟨σ4, f1, f2, f3, f4⟩ := x_sp101 (Q := g_Bits_spare n) (g := g) (o := o) (size := size) (lev := (lev : Int)) h4 h6 (size / 2) 1000000 0 σ3 (by omega) (by omega) (fun q hq => by rw [d3 _ (by omega), c3 _ (by omega), a3 101 _ (by decide) (by decide)]; exact h5 q hq) (fun q hq => absurd hq (Nat.not_lt_zero _))
      have X4 : XB σ4 (l ++ prL g 0 (size / 2) ++ spF (e + 1) (xsF g) (size / 2)) := ⟨by rw [f4 99 1 (by decide)]; exact d2.1, fun i hi => by rw [f4 100 i (by decide)]; exact d2.2 i hi⟩
      obtain ⟨σ5, k1, k2, k3, k4⟩ := ih n (lev + 1) (o + size) (eqL g (size / 2)).length (gD (eqL g (size / 2))) _ σ4 (by omega) (by omega) (by omega) (by omega) f2 hq.2 X4 (by rw [List.length_append, List.length_append]; omega)
      have z0 : ((2 * 0 : Nat) : Int) = 0 := rfl
      have z1 : (((eqL g 0).length : Nat) : Int) = 0 := rfl
      rw [z0] at c1
      rw [z0, z1] at f1
      refine ⟨σ5, ?_, ?_, fun q hq => ?_, fun a q h99 h100 h101 => ?_⟩
      · rw [if_neg (by omega), if_neg (by omega), a1, xbR_s, w32_nn b1, xlet_s, c1, w32_n1 b2]
        show (xbR (f_Bits_spare n ((o + size : Nat) : Int) ((size / 2 : Nat) : Int) ((lev + 1 : Nat) : Int) σ2) fun σ8 => f_Bits_spare_101 (g_Bits_spare n) 1000000 (o : Int) (size : Int) (lev : Int) ((o + size : Nat) : Int) 0 0 σ8) = some σ5
        rw [d1, xbR_s, f1, w32_n1 b2]
        show (xbR (f_Bits_spare n ((o + size : Nat) : Int) ((eqL g (size / 2)).length : Int) ((lev + 1 : Nat) : Int) σ4) fun σ8 => some σ8) = some σ5
        rw [k1, xbR_s]
      · rw [if_neg hz, ← List.append_assoc, ← List.append_assoc]
        exact k2
      · rw [k3 q (by omega), f3 q hq, d3 q (by omega), c3 q hq, a3 101 q (by decide) (by decide)]
      · rw [k4 a q h99 h100 h101, f4 a q h101, d4 a q h99 h100 h101, c4 a q h101, a3 a q h99 h100]
