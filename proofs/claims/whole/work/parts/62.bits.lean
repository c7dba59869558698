/-! the bits that both sides tell -/
def XB (σ : xSt) (l : List Int) : Prop := σ 99 1 = (l.length : Int) ∧ ∀ i : Nat, i < l.length → σ 100 i = l.getD i 0
def MB (σ : xSt) (l : List Int) : Prop := σ 111 44 = (l.length : Int) ∧ ∀ i : Nat, i < l.length → σ 126 i = l.getD i 0
theorem gd_l {l r : List Int} {i : Nat} (h : i < l.length) : (l ++ r).getD i 0 = l.getD i 0 := by
  rw [List.getD_eq_getElem?_getD, List.getD_eq_getElem?_getD, List.getElem?_append_left h]
theorem gd_r {l : List Int} {b : Int} : (l ++ [b]).getD l.length 0 = b := by
  rw [List.getD_eq_getElem?_getD, List.getElem?_append_right (Nat.le_refl _), Nat.sub_self]
  rfl
theorem len_1 {l : List Int} {b : Int} : (l ++ [b]).length = l.length + 1 := by
  rw [List.length_append]
  rfl
theorem w32_n1 {a : Nat} (h : a < 100000) : w32 ((a : Int) + 1) = ((a + 1 : Nat) : Int) := (w32_o (by omega) (by omega)).trans (by omega)
theorem w32_n2 {a : Nat} (h : a < 100000) : w32 ((a : Int) + 2) = ((a + 2 : Nat) : Int) := (w32_o (by omega) (by omega)).trans (by omega)
theorem w32_nn {a b : Nat} (h : a + b < 100000) : w32 ((a : Int) + (b : Int)) = ((a + b : Nat) : Int) := (w32_o (by omega) (by omega)).trans (by omega)
theorem x_throw {A c p : Nat} {σ : xSt} (hA : (lay A).2 = c) (hp : p < c) : f_Bits_throwAt A (p : Int) σ = some (σ A p) := by
  unfold f_Bits_throwAt
  rw [hA, x_isWithin, if_pos (by omega), xbR_s, if_neg (by decide), if_pos (by omega), Int.toNat_natCast]
theorem x_add {b : Int} {l : List Int} {σ : xSt} (hX : XB σ l) (hl : l.length < 600) (hb : b = 0 ∨ b = 1) : ∃ σ', f_Bits_add b σ = some σ' ∧ XB σ' (l ++ [b]) ∧ ∀ a k, a ≠ 99 → a ≠ 100 → σ' a k = σ a k := by
  obtain ⟨h1, h2⟩ := hX
  have eb : w8 (w8 b) = b := by
    rcases hb with hb | hb
    · rw [hb]; decide
    · rw [hb]; decide
  have e1 : w32 (((l.length : Nat) : Int) + 1) = ((l.length + 1 : Nat) : Int) := (w32_o (by omega) (by omega)).trans (by omega)
  have e2 : (upS σ 100 l.length b) 99 1 = ((l.length : Nat) : Int) := by rw [upS_rd, if_neg (by omega), h1]
  refine ⟨upS (upS σ 100 l.length b) 99 1 ((l.length + 1 : Nat) : Int), ?_, ⟨?_, fun i hi => ?_⟩, fun a k ha hb => ?_⟩
  · unfold f_Bits_add
    rw [x_isWithin, h1, if_pos (by omega), xbR_s, if_neg (by decide), if_pos (by omega), eb, xlet_s, Int.toNat_natCast, e2, e1, xlet_s]
  · rw [upS_rd, if_pos ⟨rfl, rfl⟩, len_1]
  · rw [len_1] at hi
    rw [upS_rd, if_neg (by omega), upS_rd]
    by_cases he : i = l.length
    · rw [if_pos ⟨rfl, he⟩, he, gd_r]
    · rw [if_neg (fun z => he z.2), h2 i (by omega), gd_l (by omega)]
  · rw [upS_rd, if_neg (fun z => ha z.1), upS_rd, if_neg (fun z => hb z.1)]
theorem m_add {b : Int} {l : List Int} {σ : xSt} (hX : MB σ l) (hl : l.length < 1300) (hb : b = 0 ∨ b = 1) : ∃ σ', f_M_bit b σ = some σ' ∧ MB σ' (l ++ [b]) ∧ ∀ a k, a ≠ 126 → (a = 111 → k ≠ 44) → σ' a k = σ a k := by
  obtain ⟨h1, h2⟩ := hX
  have e1 : w32 (((l.length : Nat) : Int) + 1) = ((l.length + 1 : Nat) : Int) := (w32_o (by omega) (by omega)).trans (by omega)
  have e2 : (upS σ 126 l.length b) 111 44 = ((l.length : Nat) : Int) := by rw [upS_rd, if_neg (by omega), h1]
  refine ⟨upS (upS σ 126 l.length b) 111 44 ((l.length + 1 : Nat) : Int), ?_, ⟨?_, fun i hi => ?_⟩, fun a k ha hb => ?_⟩
  · unfold f_M_bit f_M_bit_17
    rcases hb with hb | hb
    · rw [if_pos hb, h1, if_pos (by omega), xlet_s, Int.toNat_natCast, ← hb, e2, e1, xlet_s]
    · rw [if_neg (by omega), h1, if_pos (by omega), xlet_s, Int.toNat_natCast, hb]
      rw [hb] at e2
      rw [e2, e1, xlet_s]
  · rw [upS_rd, if_pos ⟨rfl, rfl⟩, len_1]
  · rw [len_1] at hi
    rw [upS_rd, if_neg (by omega), upS_rd]
    by_cases he : i = l.length
    · rw [if_pos ⟨rfl, he⟩, he, gd_r]
    · rw [if_neg (fun z => he z.2), h2 i (by omega), gd_l (by omega)]
  · rw [upS_rd, if_neg (fun z => hb z.1 z.2), upS_rd, if_neg (fun z => ha z.1)]
/-- the first throws of the unlike pairs -/
def prL (g : Nat → Int) : Nat → Nat → List Int
  | _, 0 => []
  | o, k + 1 => (if g o = g (o + 1) then [] else [g o]) ++ prL g (o + 2) k
theorem prL_len {g : Nat → Int} : ∀ (k o : Nat), (prL g o k).length ≤ k := by
  intro k
  induction k with
  | zero => exact fun _ => Nat.le_refl _
  | succ k ih =>
    intro o
    have h1 := ih (o + 2)
    show ((if g o = g (o + 1) then [] else [g o]) ++ prL g (o + 2) k).length ≤ k + 1
    rw [List.length_append]
    split
    · show 0 + _ ≤ _
      omega
    · show 1 + _ ≤ _
      omega
theorem x_pairs3 {A c : Nat} (hA : (lay A).2 = c) (h9 : A ≠ 99) (h10 : A ≠ 100) {o size : Nat} (hc : o + size ≤ c) (hc2 : c ≤ 1200) : ∀ (k n i : Nat) (l : List Int) (σ : xSt), i + k = size / 2 → k < n → XB σ l → l.length + k ≤ 600 → (∀ j : Nat, o ≤ j → j < o + size → σ A j = 0 ∨ σ A j = 1) →
    ∃ σ', f_Bits_addPairs_3 A n (o : Int) (size : Int) ((2 * i : Nat) : Int) σ = some σ' ∧ XB σ' (l ++ prL (σ A) (o + 2 * i) k) ∧ ∀ a q, a ≠ 99 → a ≠ 100 → σ' a q = σ a q := by
  intro k
  induction k with
  | zero =>
    intro n i l σ h1 h2 h3 h4 h5
    obtain ⟨n, rfl⟩ : ∃ n2, n = n2 + 1 := ⟨n - 1, by omega⟩
    refine ⟨σ, ?_, ?_, fun _ _ _ _ => rfl⟩
    · rw [f_Bits_addPairs_3.eq_2, w32_o (by omega) (by omega), if_neg (by omega)]
    · show XB σ (l ++ [])
      rw [List.append_nil]
      exact h3
  | succ k ih =>
    intro n i l σ h1 h2 h3 h4 h5
    obtain ⟨n, rfl⟩ : ∃ n2, n = n2 + 1 := ⟨n - 1, by omega⟩
    have b1 : 2 * i + 1 < size := by omega
    have b2 : o + 2 * i + 1 < 100000 := by omega
    have b3 : 2 * i < 100000 := by omega
    have b4 : o + 2 * i < 100000 := by omega
    have e24 : 2 * i + 2 = 2 * (i + 1) := by omega
    have ep : prL (σ A) (o + 2 * i) (k + 1) = (if σ A (o + 2 * i) = σ A (o + 2 * i + 1) then [] else [σ A (o + 2 * i)]) ++ prL (σ A) (o + 2 * i + 2) k := Eq.trans rfl rfl
    have b5 : o + 2 * i < c := by omega
    have b6 : o + 2 * i + 1 < c := by omega
    rw [f_Bits_addPairs_3.eq_2, w32_n1 b3, if_pos (Int.ofNat_lt.mpr b1), w32_nn b4, w32_n1 b4, w32_n2 b3, e24, x_throw hA b5, xbR_s, x_throw hA b6, xbR_s, ep]
    have eo : o + 2 * (i + 1) = o + 2 * i + 2 := by omega
    by_cases hq : σ A (o + 2 * i) = σ A (o + 2 * i + 1)
    · rw [if_pos hq, if_pos hq, xlet_s, List.nil_append, ← eo]
      exact ih n (i + 1) l σ (by omega) (by omega) h3 (by omega) h5
    · obtain ⟨σ1, g1, g2, g3⟩ := x_add h3 (by omega) (h5 (o + 2 * i) (by omega) (by omega))
      have eA : σ1 A = σ A := funext (fun k => g3 A k h9 h10)
      obtain ⟨σ', k1, k2, k3⟩ := ih n (i + 1) _ σ1 (by omega) (by omega) g2 (by rw [len_1]; omega) (fun j hj => by rw [eA]; exact h5 j hj)
      refine ⟨σ', ?_, ?_, fun a q ha hb => (k3 a q ha hb).trans (g3 a q ha hb)⟩
      · rw [if_neg hq, g1, xbR_s, xlet_s]
        exact k1
      · rw [if_neg hq, ← List.append_assoc, ← eo, ← eA]
        rw [eA] at k2 ⊢
        exact k2
theorem x_addPairs {A c : Nat} (hA : (lay A).2 = c) (h9 : A ≠ 99) (h10 : A ≠ 100) {o size : Nat} (hc : o + size ≤ c) (hc2 : c ≤ 1200) {l : List Int} {σ : xSt} (hX : XB σ l) (hl : l.length + size / 2 ≤ 600) (hb : ∀ j : Nat, o ≤ j → j < o + size → σ A j = 0 ∨ σ A j = 1) :
    ∃ σ', f_Bits_addPairs A (o : Int) (size : Int) σ = some σ' ∧ XB σ' (l ++ prL (σ A) o (size / 2)) ∧ ∀ a q, a ≠ 99 → a ≠ 100 → σ' a q = σ a q :=
  x_pairs3 hA h9 h10 hc hc2 (size / 2) 1000000 0 l σ (by omega) (by omega) hX hl hb
theorem m_pairs2 {o size : Nat} (hc : o + size ≤ 2600) : ∀ (k n i : Nat) (l : List Int) (σ : xSt), i + k = size / 2 → k < n → MB σ l → l.length + k ≤ 1300 → (∀ j : Nat, o ≤ j → j < o + size → σ 125 j = 0 ∨ σ 125 j = 1) →
    ∃ σ', f_M_pairsOf_2 n (o : Int) (size : Int) ((2 * i : Nat) : Int) σ = some σ' ∧ MB σ' (l ++ prL (σ 125) (o + 2 * i) k) ∧ ∀ a q, a ≠ 126 → (a = 111 → q ≠ 44) → σ' a q = σ a q := by
  intro k
  induction k with
  | zero =>
    intro n i l σ h1 h2 h3 h4 h5
    obtain ⟨n, rfl⟩ : ∃ n2, n = n2 + 1 := ⟨n - 1, by omega⟩
    refine ⟨σ, ?_, ?_, fun _ _ _ _ => rfl⟩
    · rw [f_M_pairsOf_2.eq_2, w32_o (by omega) (by omega), if_neg (by omega)]
    · show MB σ (l ++ [])
      rw [List.append_nil]
      exact h3
  | succ k ih =>
    intro n i l σ h1 h2 h3 h4 h5
    obtain ⟨n, rfl⟩ : ∃ n2, n = n2 + 1 := ⟨n - 1, by omega⟩
    have b1 : 2 * i + 1 < size := by omega
    have b2 : o + 2 * i + 1 < 100000 := by omega
    have b3 : 2 * i < 100000 := by omega
    have b4 : o + 2 * i < 100000 := by omega
    have e24 : 2 * i + 2 = 2 * (i + 1) := by omega
    have ep : prL (σ 125) (o + 2 * i) (k + 1) = (if σ 125 (o + 2 * i) = σ 125 (o + 2 * i + 1) then [] else [σ 125 (o + 2 * i)]) ++ prL (σ 125) (o + 2 * i + 2) k := Eq.trans rfl rfl
    rw [f_M_pairsOf_2.eq_2, w32_n1 b3, if_pos (Int.ofNat_lt.mpr b1), w32_nn b4, if_pos (by omega), w32_n1 b4, if_pos (by omega), Int.toNat_natCast, Int.toNat_natCast, w32_n2 b3, e24, ep]
    have eo : o + 2 * (i + 1) = o + 2 * i + 2 := by omega
    by_cases hq : σ 125 (o + 2 * i) = σ 125 (o + 2 * i + 1)
    · rw [if_pos hq, if_pos hq, xlet_s, List.nil_append, ← eo]
      exact ih n (i + 1) l σ (by omega) (by omega) h3 (by omega) h5
    · have hb := h5 (o + 2 * i) (by omega) (by omega)
      obtain ⟨σ1, g1, g2, g3⟩ := m_add h3 (by omega) hb
      have eA : σ1 125 = σ 125 := funext (fun k => g3 125 k (by decide) (fun z => absurd z (by decide)))
      obtain ⟨σ', k1, k2, k3⟩ := ih n (i + 1) _ σ1 (by omega) (by omega) g2 (by rw [len_1]; omega) (fun j hj => by rw [eA]; exact h5 j hj)
      refine ⟨σ', ?_, ?_, fun a q ha hb => (k3 a q ha hb).trans (g3 a q ha hb)⟩
      · unfold f_M_pairsOf_48
        rw [if_neg hq, if_pos (by omega), w32_n2 b3, e24]
        rcases hb with hb | hb
        · rw [hb] at g1
          rw [if_neg (by omega), g1, xbR_s, xlet_s]
          exact k1
        · rw [hb] at g1
          rw [if_pos hb, g1, xbR_s, xlet_s]
          exact k1
      · rw [if_neg hq, ← List.append_assoc, ← eo]
        rw [eA] at k2
        exact k2
theorem m_pairsOf {o size : Nat} (hc : o + size ≤ 2600) {l : List Int} {σ : xSt} (hX : MB σ l) (hl : l.length + size / 2 ≤ 1300) (hb : ∀ j : Nat, o ≤ j → j < o + size → σ 125 j = 0 ∨ σ 125 j = 1) :
    ∃ σ', f_M_pairsOf (o : Int) (size : Int) σ = some σ' ∧ MB σ' (l ++ prL (σ 125) o (size / 2)) ∧ ∀ a q, a ≠ 126 → (a = 111 → q ≠ 44) → σ' a q = σ a q :=
  m_pairs2 hc (size / 2) 1000000 0 l σ (by omega) (by omega) hX hl hb
theorem m_tell15 {N : Nat} (hN : N ≤ 1300) : ∀ (j n i : Nat) (σ : xSt), i + j = N → j < n → σ 111 44 = (N : Int) → ∃ σ', f_M_tellBits_15 n (i : Int) σ = some ((N : Int), σ') ∧ (∀ q : Nat, q < i → σ' 127 q = σ 127 q) ∧ (∀ q : Nat, i ≤ q → q < N → σ' 127 q = σ 126 q) ∧ ∀ a q, a ≠ 127 → σ' a q = σ a q := by
  intro j
  induction j with
  | zero =>
    intro n i σ h1 h2 h3
    obtain ⟨n, rfl⟩ : ∃ n2, n = n2 + 1 := ⟨n - 1, by omega⟩
    refine ⟨σ, ?_, fun _ _ => rfl, fun q a b => by omega, fun _ _ _ => rfl⟩
    rw [f_M_tellBits_15.eq_2, h3, if_neg (by omega)]
  | succ j ih =>
    intro n i σ h1 h2 h3
    obtain ⟨n, rfl⟩ : ∃ n2, n = n2 + 1 := ⟨n - 1, by omega⟩
    have e1 : w32 ((i : Int) + 1) = ((i + 1 : Nat) : Int) := (w32_o (by omega) (by omega)).trans (by omega)
    obtain ⟨σ', g1, g2, g3, g4⟩ := ih n (i + 1) (upS σ 127 i (σ 126 i)) (by omega) (by omega) (by rw [upS_rd, if_neg (by omega), h3])
    refine ⟨σ', ?_, fun q hq => ?_, fun q hq hq2 => ?_, fun a q ha => ?_⟩
    · rw [f_M_tellBits_15.eq_2, h3, if_pos (by omega), if_pos (by omega), if_pos (by omega), Int.toNat_natCast, xlet_s, e1, xlet_s]
      exact g1
    · rw [g2 q (by omega), upS_rd, if_neg (by omega)]
    · by_cases he : q = i
      · rw [g2 q (by omega), upS_rd, if_pos ⟨rfl, he⟩, he]
      · rw [g3 q (by omega) hq2, upS_rd, if_neg (by omega)]
    · rw [g4 a q ha, upS_rd, if_neg (fun z => ha z.1)]
theorem m_tell {l : List Int} {σ : xSt} (hX : MB σ l) (hl : l.length ≤ 1300) : ∃ σ', f_M_tellBits σ = some ((l.length : Int), σ') ∧ σ' 111 45 = 1 ∧ σ' 111 43 = (l.length : Int) ∧ σ' 111 2 = σ 111 2 ∧ ∀ i : Nat, i < l.length → σ' 127 i = l.getD i 0 := by
  obtain ⟨h1, h2⟩ := hX
  obtain ⟨σ', g1, g2, g3, g4⟩ := m_tell15 hl l.length 1000000 0 (upS (upS σ 111 43 (l.length : Int)) 111 45 1) (by omega) (by omega) h1
  refine ⟨σ', ?_, ?_, ?_, ?_, fun i hi => ?_⟩
  · unfold f_M_tellBits
    rw [h1, xlet_s, xlet_s]
    exact g1
  · rw [g4 111 45 (by decide)]
    rfl
  · rw [g4 111 43 (by decide)]
    rfl
  · rw [g4 111 2 (by decide)]
    rfl
  · rw [g3 i (by omega) hi]
    exact h2 i hi
