/-! shared: are the shares told; both sides' walks -/
def TdP (fa fb : Nat → Int) (E : Nat) (r : Int) : Prop := 0 < r ∧ (∀ i : Nat, i < E → fb i = r) ∧ psum fa E = r
theorem x_hasEndN {p : Int} {E : Nat} {σ : xSt} (hE : σ 7 2 = (E : Int)) (h6 : E ≤ 6) : f_Table_hasEnd p σ = some (if 0 ≤ p ∧ p < (E : Int) then 1 else 0) := by
  unfold f_Table_hasEnd
  rw [hE]
  (repeat' split) <;> first | rfl | (exfalso; omega)
theorem x_above {e E : Nat} {σ : xSt} (hE : σ 7 2 = (E : Int)) (h6 : E ≤ 6) (he : e < E) : f_Table_shareAbove (e : Int) σ = some (σ 14 e) := by
  unfold f_Table_shareAbove
  rw [x_hasEndN hE h6, if_pos (by omega), xbR_s, if_neg (by decide), if_pos (by omega), Int.toNat_natCast]
theorem x_below {e E : Nat} {σ : xSt} (hE : σ 7 2 = (E : Int)) (h6 : E ≤ 6) (he : e < E) : f_Table_shareBelow (e : Int) σ = some (σ 15 e) := by
  unfold f_Table_shareBelow
  rw [x_hasEndN hE h6, if_pos (by omega), xbR_s, if_neg (by decide), if_pos (by omega), Int.toNat_natCast]
theorem m_shareOf {e : Nat} {σ : xSt} (he : e < 6) : f_M_shareOf (e : Int) σ = some (σ 113 (28 + 2 * e)) := by
  have e1 : w32 (2 * (e : Int)) = ((2 * e : Nat) : Int) := (w32_o (by omega) (by omega)).trans (by omega)
  have e2 : w32 (28 + ((2 * e : Nat) : Int)) = ((28 + 2 * e : Nat) : Int) := (w32_o (by omega) (by omega)).trans (by omega)
  unfold f_M_shareOf
  rw [e1, e2, if_pos (by omega), Int.toNat_natCast]
theorem shb {fa fb : Nat → Int} {E : Nat} (h6 : E ≤ 6) (hf : ∀ e : Nat, e < E → 0 ≤ fa e ∧ fa e ≤ fb e ∧ fb e ≤ 20) : ∀ e, e ≤ E → 0 ≤ psum fa e ∧ psum fa e ≤ 20 * (e : Int) := by
  intro e
  induction e with
  | zero => exact fun _ => ⟨Int.le_refl _, Int.le_refl _⟩
  | succ e ih =>
    intro h
    have h1 := ih (by omega)
    have h2 := hf e (by omega)
    have h3 : psum fa (e + 1) = psum fa e + fa e := rfl
    omega
theorem x_told10 {fa fb : Nat → Int} {E : Nat} {r : Int} {σ : xSt} (hE : σ 7 2 = (E : Int)) (h6 : E ≤ 6) (hf : ∀ e : Nat, e < E → 0 ≤ fa e ∧ fa e ≤ fb e ∧ fb e ≤ 20) (ha : ∀ e : Nat, e < E → σ 14 e = fa e) (hb : ∀ e : Nat, e < E → σ 15 e = fb e) : ∀ (j n e : Nat), e + j = E → j < n → (∀ i : Nat, i < e → fb i = r) →
    ∃ v, f_Shares_areTold_10 n r (psum fa e) (e : Int) σ = some v ∧ (v = 1 ∧ TdP fa fb E r ∨ v = 0 ∧ ¬ TdP fa fb E r) := by
  intro j
  induction j with
  | zero =>
    intro n e h1 h2 h3
    obtain ⟨n, rfl⟩ : ∃ n2, n = n2 + 1 := ⟨n - 1, by omega⟩
    obtain rfl : e = E := by omega
    rw [f_Shares_areTold_10.eq_2, hE, if_neg (by omega)]
    by_cases h0 : 0 < r
    · rw [if_pos h0]
      by_cases h4 : psum fa e = r
      · exact ⟨1, by rw [if_pos h4], Or.inl ⟨rfl, h0, h3, h4⟩⟩
      · exact ⟨0, by rw [if_neg h4], Or.inr ⟨rfl, fun z => h4 z.2.2⟩⟩
    · exact ⟨0, by rw [if_neg h0], Or.inr ⟨rfl, fun z => h0 z.1⟩⟩
  | succ j ih =>
    intro n e h1 h2 h3
    obtain ⟨n, rfl⟩ : ∃ n2, n = n2 + 1 := ⟨n - 1, by omega⟩
    have he : e < E := by omega
    have b := shb h6 hf e (by omega)
    have b2 := hf e he
    have hs : psum fa (e + 1) = psum fa e + fa e := rfl
    have ec : w32 (psum fa e + fa e) = psum fa (e + 1) := (w32_o (by omega) (by omega)).trans hs.symm
    have b3 : e < 100000 := by omega
    rw [f_Shares_areTold_10.eq_2, hE, if_pos (by omega), x_below hE h6 he, xbR_s, hb e he]
    by_cases h4 : fb e = r
    · rw [if_pos h4, x_above hE h6 he, xbR_s, ha e he, ec, xlet_s, w32_n1 b3, xlet_s]
      exact ih n (e + 1) (by omega) (by omega) (fun i hi => by
        by_cases hh : i = e
        · rw [hh, h4]
        · exact h3 i (by omega))
    · exact ⟨0, by rw [if_neg h4], Or.inr ⟨rfl, fun z => h4 (z.2.1 e he)⟩⟩
theorem m_told20 {fa fb : Nat → Int} {E : Nat} {r : Int} {σ : xSt} (hE : σ 113 1 = (E : Int)) (h6 : E ≤ 6) (hr : 0 < r) (h29 : σ 113 29 = r) (hf : ∀ e : Nat, e < E → 0 ≤ fa e ∧ fa e ≤ fb e ∧ fb e ≤ 20) (ha : ∀ e : Nat, e < E → σ 113 (28 + 2 * e) = fa e) (hb : ∀ e : Nat, e < E → σ 113 (29 + 2 * e) = fb e) : ∀ (j n e : Nat), e + j = E → j < n → (∀ i : Nat, i < e → fb i = r) →
    ∃ v, f_M_hasShares_20 n (psum fa e) (e : Int) σ = some v ∧ (v = 1 ∧ TdP fa fb E r ∨ v = 0 ∧ ¬ TdP fa fb E r) := by
  intro j
  induction j with
  | zero =>
    intro n e h1 h2 h3
    obtain ⟨n, rfl⟩ : ∃ n2, n = n2 + 1 := ⟨n - 1, by omega⟩
    obtain rfl : e = E := by omega
    unfold f_M_hasShares_20 f_M_ends f_M_shareBelow
    rw [xbR_s, hE, if_neg (by omega), xbR_s, h29]
    by_cases h4 : psum fa e = r
    · exact ⟨1, by rw [if_pos h4], Or.inl ⟨rfl, hr, h3, h4⟩⟩
    · exact ⟨0, by rw [if_neg h4], Or.inr ⟨rfl, fun z => h4 z.2.2⟩⟩
  | succ j ih =>
    intro n e h1 h2 h3
    obtain ⟨n, rfl⟩ : ∃ n2, n = n2 + 1 := ⟨n - 1, by omega⟩
    have he : e < E := by omega
    have b := shb h6 hf e (by omega)
    have b2 := hf e he
    have hs : psum fa (e + 1) = psum fa e + fa e := rfl
    have ec : w32 (psum fa e + fa e) = psum fa (e + 1) := (w32_o (by omega) (by omega)).trans hs.symm
    have b3 : e < 100000 := by omega
    have e1 : w32 (2 * (e : Int)) = ((2 * e : Nat) : Int) := (w32_o (by omega) (by omega)).trans (by omega)
    have e2 : w32 (28 + ((2 * e : Nat) : Int)) = ((28 + 2 * e : Nat) : Int) := (w32_o (by omega) (by omega)).trans (by omega)
    have b4 : 28 + 2 * e < 100000 := by omega
    have e3 : 28 + 2 * e + 1 = 29 + 2 * e := by omega
    have b5 : 0 ≤ ((29 + 2 * e : Nat) : Int) ∧ ((29 + 2 * e : Nat) : Int) < 924 := by omega
    rw [f_M_hasShares_20.eq_2]
    unfold f_M_ends f_M_shareBelow
    rw [xbR_s, hE, if_pos (by omega), e1, e2, w32_n1 b4, e3, if_pos b5, xbR_s, Int.toNat_natCast, h29, hb e he]
    by_cases h4 : fb e = r
    · rw [if_pos h4, m_shareOf (by omega), xbR_s, ha e he, ec, xlet_s, w32_n1 b3, xlet_s]
      exact ih n (e + 1) (by omega) (by omega) (fun i hi => by
        by_cases hh : i = e
        · rw [hh, h4]
        · exact h3 i (by omega))
    · exact ⟨0, by rw [if_neg h4], Or.inr ⟨rfl, fun z => h4 (z.2.1 e he)⟩⟩
/-- both sides find alike whether the shares are told -/
theorem told_lock {fa fb : Nat → Int} {E : Nat} {σ σm : xSt} (h6 : E ≤ 6) (hf : ∀ e : Nat, e < E → 0 ≤ fa e ∧ fa e ≤ fb e ∧ fb e ≤ 20) (hE : σ 7 2 = (E : Int)) (ha : ∀ e : Nat, e < E → σ 14 e = fa e) (hb : ∀ e : Nat, e < E → σ 15 e = fb e)
    (mE : σm 113 1 = (E : Int)) (ma : ∀ e : Nat, e < E → σm 113 (28 + 2 * e) = fa e) (mb : ∀ e : Nat, e < E → σm 113 (29 + 2 * e) = fb e) :
    ∃ v, f_Shares_areTold σ = some v ∧ f_M_hasShares σm = some v ∧ (v = 0 ∨ v = 1 ∧ 0 < E ∧ 0 < fb 0 ∧ TdP fa fb E (fb 0)) := by
  by_cases h0 : E = 0
  · subst h0
    refine ⟨0, ?_, ?_, Or.inl rfl⟩
    · unfold f_Shares_areTold f_Table_shareBelow
      rw [x_hasEndN hE h6, if_neg (by omega), xbR_s, if_pos rfl, xbR_s, show (1000000 : Nat) = 999999 + 1 from rfl, f_Shares_areTold_10.eq_2, hE, if_neg (by omega), if_neg (by decide)]
    · unfold f_M_hasShares f_M_ends
      rw [xbR_s, mE, if_pos (by omega)]
  · have he : 0 < E := by omega
    have eb := x_below hE h6 he
    rw [hb 0 he, c0n] at eb
    have hp0 : psum fa 0 = 0 := Eq.trans rfl rfl
    have e29 : σm 113 29 = fb 0 := mb 0 he
    obtain ⟨v, v1, v2⟩ := x_told10 (r := fb 0) hE h6 hf ha hb E 1000000 0 (by omega) (by omega) (fun i hi => absurd hi (Nat.not_lt_zero _))
    rw [hp0, c0n] at v1
    have hX : f_Shares_areTold σ = some v := by
      unfold f_Shares_areTold
      rw [eb, xbR_s, v1]
    have b0 := hf 0 he
    by_cases hz : fb 0 = 0
    · have hv : v = 0 := by
        rcases v2 with ⟨-, w⟩ | ⟨w, -⟩
        · have := w.1
          omega
        · exact w
      refine ⟨0, by rw [hX, hv], ?_, Or.inl rfl⟩
      unfold f_M_hasShares f_M_ends f_M_shareBelow
      rw [xbR_s, mE, if_neg (by omega), xbR_s, e29, if_pos hz]
    · obtain ⟨w, w1, w2⟩ := m_told20 (r := fb 0) mE h6 (by omega) e29 hf ma mb E 1000000 0 (by omega) (by omega) (fun i hi => absurd hi (Nat.not_lt_zero _))
      rw [hp0, c0n] at w1
      have hM : f_M_hasShares σm = some w := by
        unfold f_M_hasShares f_M_ends f_M_shareBelow
        rw [xbR_s, mE, if_neg (by omega), xbR_s, e29, if_neg hz, w1]
      have hvw : w = v := by
        rcases v2 with ⟨q1, q2⟩ | ⟨q1, q2⟩
        · rcases w2 with ⟨q3, -⟩ | ⟨-, q4⟩
          · rw [q1, q3]
          · exact absurd q2 q4
        · rcases w2 with ⟨-, q4⟩ | ⟨q3, -⟩
          · exact absurd q4 q2
          · rw [q1, q3]
      refine ⟨v, hX, by rw [hM, hvw], ?_⟩
      rcases v2 with ⟨q1, q2⟩ | ⟨q1, q2⟩
      · exact Or.inr ⟨q1, he, by omega, q2⟩
      · exact Or.inl q1
