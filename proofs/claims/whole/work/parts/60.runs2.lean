/-! runs and seldom: the loops -/
def rnN (g : Nat → Int) : Nat → Int
  | 0 => 0
  | i + 1 => rnN g i + (if i = 0 then 1 else if g i = g (i - 1) then 0 else 1)
theorem psum_b {g : Nat → Int} {L : Nat} (hg : ∀ k : Nat, k < L → g k = 0 ∨ g k = 1) : ∀ i, i ≤ L → 0 ≤ psum g i ∧ psum g i ≤ (i : Int) := by
  intro i
  induction i with
  | zero => exact fun _ => ⟨Int.le_refl _, Int.le_refl _⟩
  | succ i ih =>
    intro h
    have h1 := ih (by omega)
    have h2 := hg i (by omega)
    show 0 ≤ psum g i + g i ∧ psum g i + g i ≤ ((i + 1 : Nat) : Int)
    omega
theorem rnN_b {g : Nat → Int} : ∀ i, 0 ≤ rnN g i ∧ rnN g i ≤ (i : Int) ∧ (1 ≤ i → 1 ≤ rnN g i) := by
  intro i
  induction i with
  | zero => exact ⟨Int.le_refl _, Int.le_refl _, fun h => by omega⟩
  | succ i ih =>
    have e : rnN g (i + 1) = rnN g i + (if i = 0 then 1 else if g i = g (i - 1) then 0 else 1) := rfl
    rw [e]
    split
    · omega
    · split <;> omega
theorem x_runs22s {n i : Nat} {L h r : Int} {σ : xSt} (hi : (i : Int) < L) (hL : L ≤ 60) (h0 : 0 ≤ h) (h1 : h ≤ 60) (hr : 0 ≤ r) (hr1 : r ≤ 60) (hb : σ 98 i = 0 ∨ σ 98 i = 1) : f_X_runs_22 (n + 1) L h r (i : Int) σ = f_X_runs_22 n L (h + σ 98 i) (r + (if i = 0 then 1 else if σ 98 i = σ 98 (i - 1) then 0 else 1)) ((i + 1 : Nat) : Int) σ := by
  have e1 : w32 ((i : Int) + 1) = ((i + 1 : Nat) : Int) := (w32_o (by omega) (by omega)).trans (by omega)
  have e2 : w32 (r + 1) = r + 1 := w32_o (by omega) (by omega)
  have e3 : w32 (h + σ 98 i) = h + σ 98 i := w32_o (by omega) (by omega)
  rw [f_X_runs_22.eq_2, if_pos hi, if_pos (by omega), if_pos (by omega), Int.toNat_natCast, xlet_s, e3]
  by_cases hz : i = 0
  · rw [if_pos (by omega), if_pos hz, xlet_s, xlet_s, e1, e2]
  · have e4 : w32 ((i : Int) - 1) = ((i - 1 : Nat) : Int) := (w32_o (by omega) (by omega)).trans (by omega)
    rw [if_neg (by omega), if_neg hz, if_pos (by omega), e4, if_pos (by omega), Int.toNat_natCast]
    by_cases hq : σ 98 i = σ 98 (i - 1)
    · rw [if_pos hq, if_pos hq, xlet_s, e1, Int.add_zero]
    · rw [if_neg hq, if_neg hq, xlet_s, xlet_s, e1, e2]
theorem x_runs22 {L : Nat} {σ : xSt} (hL : L ≤ 60) (hg : ∀ k : Nat, k < L → σ 98 k = 0 ∨ σ 98 k = 1) : ∀ (j n i : Nat), i + j = L → j < n → f_X_runs_22 n (L : Int) (psum (σ 98) i) (rnN (σ 98) i) (i : Int) σ = f_X_runs_87 1000000 (L : Int) (psum (σ 98) L) (rnN (σ 98) L) 0 1 σ := by
  intro j
  induction j with
  | zero =>
    intro n i h1 h2
    obtain ⟨n, rfl⟩ : ∃ n2, n = n2 + 1 := ⟨n - 1, by omega⟩
    obtain rfl : i = L := by omega
    rw [f_X_runs_22.eq_2, if_neg (by omega)]
  | succ j ih =>
    intro n i h1 h2
    obtain ⟨n, rfl⟩ : ∃ n2, n = n2 + 1 := ⟨n - 1, by omega⟩
    have b1 := psum_b hg i (by omega)
    have b2 := rnN_b (g := σ 98) i
    rw [x_runs22s (by omega) (by omega) b1.1 (by omega) b2.1 (by omega) (hg i (by omega))]
    exact ih n (i + 1) (by omega) (by omega)
theorem m_runs32s {n i : Nat} {L : Int} {σ : xSt} (hi : (i : Int) < L) (hL : L ≤ 60) (h0 : 0 ≤ σ 111 53) (h1 : σ 111 53 ≤ 60) (hr : 0 ≤ σ 111 52) (hr1 : σ 111 52 ≤ 60) (hb : σ 125 i = 0 ∨ σ 125 i = 1) : f_M_runs_32 (n + 1) L (i : Int) σ = if 0 < i ∧ σ 125 i ≠ σ 125 (i - 1) then f_M_runs_32 n L ((i + 1 : Nat) : Int) (upS (upS σ 111 53 (σ 111 53 + σ 125 i)) 111 52 (σ 111 52 + 1)) else f_M_runs_32 n L ((i + 1 : Nat) : Int) (upS σ 111 53 (σ 111 53 + σ 125 i)) := by
  have e1 : w32 ((i : Int) + 1) = ((i + 1 : Nat) : Int) := (w32_o (by omega) (by omega)).trans (by omega)
  have e2 : w32 (σ 111 52 + 1) = σ 111 52 + 1 := w32_o (by omega) (by omega)
  have e3 : w32 (σ 111 53 + σ 125 i) = σ 111 53 + σ 125 i := w32_o (by omega) (by omega)
  have r1 : ∀ v k, upS σ 111 53 v 125 k = σ 125 k := fun v k => rfl
  have r2 : ∀ v, upS σ 111 53 v 111 52 = σ 111 52 := fun v => rfl
  rw [f_M_runs_32.eq_2, if_pos hi, if_pos (by omega), Int.toNat_natCast, xlet_s, e3]
  by_cases hz : i = 0
  · rw [if_neg (by omega), if_neg (by omega), xlet_s, e1]
  · have e4 : w32 ((i : Int) - 1) = ((i - 1 : Nat) : Int) := (w32_o (by omega) (by omega)).trans (by omega)
    rw [if_pos (by omega), if_pos (by omega), e4, if_pos (by omega), Int.toNat_natCast, r1, r1, r2, e2]
    by_cases hq : σ 125 i = σ 125 (i - 1)
    · rw [if_pos hq, if_neg (fun z => z.2 hq), xlet_s, e1]
    · rw [if_neg hq, if_pos ⟨by omega, hq⟩, xlet_s, xlet_s, e1]
theorem m_keep {f : Option (Int × xSt)} {v A B C : Int} {τ σ : xSt} (h : ∃ σ', f = some (v, σ') ∧ σ' 111 52 = A ∧ σ' 111 53 = B ∧ σ' 111 54 = C ∧ σ' 111 2 = τ 111 2) (he : τ 111 2 = σ 111 2) : ∃ σ', f = some (v, σ') ∧ σ' 111 52 = A ∧ σ' 111 53 = B ∧ σ' 111 54 = C ∧ σ' 111 2 = σ 111 2 := by
  rw [← he]
  exact h
theorem m_runs32 {L : Nat} {g : Nat → Int} (hL : L ≤ 60) (hL1 : 1 ≤ L) (hg : ∀ k : Nat, k < L → g k = 0 ∨ g k = 1) : ∀ (j n i : Nat) (σ : xSt), i + j = L → j < n → (∀ k : Nat, k < L → σ 125 k = g k) → σ 111 53 = psum g i → σ 111 52 = (if i = 0 then 1 else rnN g i) →
    ∃ σ', f_M_runs_32 n (L : Int) (i : Int) σ = some (rnN g L, σ') ∧ σ' 111 52 = rnN g L ∧ σ' 111 53 = psum g L ∧ σ' 111 54 = (L : Int) - psum g L ∧ σ' 111 2 = σ 111 2 := by
  intro j
  induction j with
  | zero =>
    intro n i σ h1 h2 h3 h4 h5
    obtain ⟨n, rfl⟩ : ∃ n2, n = n2 + 1 := ⟨n - 1, by omega⟩
    obtain rfl : i = L := by omega
    have b1 := psum_b hg i (by omega)
    rw [if_neg (by omega)] at h5
    refine ⟨upS σ 111 54 ((i : Int) - psum g i), ?_, ?_, ?_, rfl, rfl⟩
    · rw [f_M_runs_32.eq_2, if_neg (by omega), h4, w32_o (by omega) (by omega), xlet_s, upS_rd, if_neg (by omega), h5]
    · rw [upS_rd, if_neg (by omega), h5]
    · rw [upS_rd, if_neg (by omega), h4]
  | succ j ih =>
    intro n i σ h1 h2 h3 h4 h5
    obtain ⟨n, rfl⟩ : ∃ n2, n = n2 + 1 := ⟨n - 1, by omega⟩
    have b1 := psum_b hg i (by omega)
    have b2 := rnN_b (g := g) i
    have hk : ∀ k : Nat, k < L → σ 125 k = 0 ∨ σ 125 k = 1 := fun k hk => by rw [h3 k hk]; exact hg k hk
    have b3 : 0 ≤ σ 111 52 ∧ σ 111 52 ≤ 60 := by
      rw [h5]
      split <;> omega
    have e6 : rnN g (i + 1) = rnN g i + (if i = 0 then 1 else if g i = g (i - 1) then 0 else 1) := rfl
    have e7 : psum g (i + 1) = psum g i + g i := rfl
    rw [m_runs32s (by omega) (by omega) (by omega) (by omega) b3.1 b3.2 (hk i (by omega))]
    by_cases hz : i = 0
    · rw [if_neg (by omega)]
      refine m_keep (ih n (i + 1) _ (by omega) (by omega) (fun k hk => h3 k hk) ?_ ?_) rfl
      · rw [upS_rd, if_pos ⟨rfl, rfl⟩, h4, h3 i (by omega), e7]
      · rw [upS_rd, if_neg (by omega), h5, if_pos hz, if_neg (by omega), e6, if_pos hz, hz]
        rfl
    · rw [if_neg hz] at h5 e6
      by_cases hq : g i = g (i - 1)
      · rw [if_pos hq] at e6
        rw [if_neg (fun z => z.2 (by rw [h3 i (by omega), h3 (i - 1) (by omega), hq]))]
        refine m_keep (ih n (i + 1) _ (by omega) (by omega) (fun k hk => h3 k hk) ?_ ?_) rfl
        · rw [upS_rd, if_pos ⟨rfl, rfl⟩, h4, h3 i (by omega), e7]
        · rw [upS_rd, if_neg (by omega), h5, if_neg (by omega), e6, Int.add_zero]
      · rw [if_neg hq] at e6
        rw [if_pos ⟨by omega, (by rw [h3 i (by omega), h3 (i - 1) (by omega)]; exact hq)⟩]
        refine m_keep (ih n (i + 1) _ (by omega) (by omega) (fun k hk => h3 k hk) ?_ ?_) rfl
        · rw [upS_rd, if_neg (by omega), upS_rd, if_pos ⟨rfl, rfl⟩, h4, h3 i (by omega), e7]
        · rw [upS_rd, if_pos ⟨rfl, rfl⟩, h5, if_neg (by omega), e6]
theorem rws_b {h t m : Nat} (hn : h + t ≤ 60) (hm : m + 1 ≤ 60) : rwsN h t m + rwN h t (m + 1) < 9223372036854775808 := by
  have b1 := rws_le hn m
  have b2 := rw_le (r := m + 1) hn
  have b3 : 118264581564861424 * m ≤ 118264581564861424 * 60 := Nat.mul_le_mul_left _ (by omega)
  omega
theorem x_runs87 {h t R : Nat} {σ : xSt} (hn : h + t ≤ 60) (hR : R ≤ 60) : ∀ (j n m : Nat), m + j = R → j < n → f_X_runs_87 n ((h + t : Nat) : Int) (h : Int) (R : Int) (rwsN h t m : Int) ((m + 1 : Nat) : Int) σ = xbW (f_Fraction_put 104 (rwsN h t R : Int) (chN (h + t) h : Int) σ) fun _ s => some ((R : Int), s) := by
  intro j
  induction j with
  | zero =>
    intro n m h1 h2
    obtain ⟨n, rfl⟩ : ∃ n2, n = n2 + 1 := ⟨n - 1, by omega⟩
    obtain rfl : m = R := by omega
    rw [f_X_runs_87.eq_2, if_pos (by omega), x_choices hn, xbR_s]
  | succ j ih =>
    intro n m h1 h2
    obtain ⟨n, rfl⟩ : ∃ n2, n = n2 + 1 := ⟨n - 1, by omega⟩
    have e1 : w32 (((m + 1 : Nat) : Int) + 1) = ((m + 1 + 1 : Nat) : Int) := (w32_o (by omega) (by omega)).trans (by omega)
    have e2 : w32 (((h + t : Nat) : Int) - (h : Int)) = (t : Int) := (w32_o (by omega) (by omega)).trans (by omega)
    have b3 := rws_b (h := h) (t := t) (m := m) hn (by omega)
    rw [f_X_runs_87.eq_2, if_neg (by omega), e2, x_rows hn (by omega), xbR_s, w64_add b3, xlet_s, e1, xlet_s]
    exact ih n (m + 1) (by omega) (by omega)
theorem m_seldom32 {h t R : Nat} {what : Int} {σ : xSt} (hn : h + t ≤ 60) (h1 : 1 ≤ h + t) (hR : R ≤ 60) (s2 : σ 111 52 = (R : Int)) (s3 : σ 111 53 = (h : Int)) (s4 : σ 111 54 = (t : Int)) : ∀ (j n m : Nat), m + j = R → j < n → f_M_seldom_32 n what (rwsN h t m : Int) ((m + 1 : Nat) : Int) σ = xbR (f_M_part (rwsN h t R : Int) (chN (h + t) h : Int) what σ) fun v => some (v, σ) := by
  intro j
  induction j with
  | zero =>
    intro n m h1 h2
    obtain ⟨n, rfl⟩ : ∃ n2, n = n2 + 1 := ⟨n - 1, by omega⟩
    obtain rfl : m = R := by omega
    have e2 : w32 ((h : Int) + (t : Int)) = ((h + t : Nat) : Int) := (w32_o (by omega) (by omega)).trans (by omega)
    rw [f_M_seldom_32.eq_2, s2, if_pos (by omega), s3, s4, e2, m_choose hn, xbR_s]
  | succ j ih =>
    intro n m h1 h2
    obtain ⟨n, rfl⟩ : ∃ n2, n = n2 + 1 := ⟨n - 1, by omega⟩
    have e1 : w32 (((m + 1 : Nat) : Int) + 1) = ((m + 1 + 1 : Nat) : Int) := (w32_o (by omega) (by omega)).trans (by omega)
    have b3 := rws_b (h := h) (t := t) (m := m) hn (by omega)
    rw [f_M_seldom_32.eq_2, s2, if_neg (by omega), s3, s4, m_rows hn (by omega) (by omega) (by omega), xbR_s, w64_add b3, xlet_s, e1, xlet_s]
    exact ih n (m + 1) (by omega) (by omega)
theorem rdI_nat {u b : Nat} {what : Int} : rdI (u : Int) b what = (((if what = 0 then u else b) / Nat.gcd u b : Nat) : Int) := by
  unfold rdI
  rw [Int.natAbs_natCast]
  split
  · rw [Int.tdiv_eq_ediv_of_nonneg (by omega)]
    exact (Int.natCast_ediv _ _).symm
  · rw [Int.tdiv_eq_ediv_of_nonneg (by omega)]
    exact (Int.natCast_ediv _ _).symm
